/-! THE LAW: a judgement over any picture of the heap -/
theorem met_ofWH {l : Launch} {y : MethodName} {ws ws' : List Cond} {rm : Room} {Pc : Array Value → State → Prop} {Qc : Array Value → State → Outcome → State → Prop} {mc ms : Nat} {free : Addr → Prop} {cc : ByteArray} {maxL : Nat} {ret : Option FieldType} {hh : List (Nat × Nat × Nat × Nat)}
    (hy : plainName y.cls = true) (hw : ws = Cond.codeWith y cc maxL ret hh :: ws')
    (body : ∀ p e s m args below meth c s₁, BodyLoose p l y (headSpec ws rm) cc maxL ret e s m args below meth c s₁ → c.maxLocals = maxL → Pc args s →
      W p l e (headSpec ws rm).room s m args below meth c s.heap [] 0 0 (MQ below Qc args s mc ms free) (entryFrame m args maxL)) : Met l y ws rm Pc Qc mc ms free := by
  refine MetFree.of_bodyS (code := cc) (maxLocals := maxL) (ret := ret) hy ?_ ?_
  · intro args s m h hn
    obtain ⟨m9, meth, c, hn9, h1, h2, h3, h4, -, h5, h6, -⟩ := Cond.codeWith_spec (atoms_spec (ws := ws) h _ (by rw [hw]; exact List.mem_cons_self))
    cases hn.symm.trans hn9
    exact ⟨meth, c, h1, h2, h3, h4, h5, h6⟩
  · intro p e s m args below meth c s₁ B hml hP _
    have hh0 : s₁.heap = s.heap := by rw [B.state]; rfl
    obtain ⟨t, a1, o, b1, b2, b3⟩ := body p e s m args below meth c s₁ B hml hP s₁ hh0 (Stand.of_body B)
    exact ⟨t, o, a1, b1, b2, b3⟩
theorem tb_GI {y2 : Cond} (h : y2 ∈ TB) : GoodIn TB (y2 :: TB) := fun w hw => by
  have h1 : w ∈ TB := (List.mem_cons.mp hw).elim (fun e => by rw [e]; exact h) id
  exact ⟨h1, good_of_word (TB_good w h1)⟩
def G (Θ : Tz) (nL kc ks : Nat) (Q : State → Prop) (P : Heap → Prop) (pc : Nat) (lv : List (Nat × Value)) (st : List Value) : Prop :=
  ∀ (H : Heap) (locs : List Loc) (ls : Array Slot), P H → va_S Θ.2.2.2.1 Θ.2.1.1.heap H locs → lv_has ls nL lv → zW Θ H locs kc ks Q (F0 Θ.2.1.2.1 pc ls st)
def Gc (Θ : Tz) (cc : ByteArray) (nL : Nat) (own : String) (ret : Option FieldType) (rm : Room) (cJ : ClassId) : Prop :=
  Θ.1.1.tables.exec = Jvm.exec ∧ Θ.2.2.1.2.code = cc ∧ Θ.2.2.1.2.maxLocals = nL ∧ Θ.2.1.1.vm.findClass own = some Θ.2.1.2.1.cls ∧ (∀ w ∈ TB, w.before Θ.2.1.2.2.1 Θ.2.1.1 = true) ∧ Θ.2.2.1.1.locks = false ∧ Θ.2.2.1.1.sig.returnType = ret ∧ Θ.1.2.2.2 = rm ∧
  KK Θ.2.2.2.2.2 Θ.2.1.1 ∧ va_K Θ.2.2.2.2.2.1 classes [(cJ, .long)] Θ.2.1.1 ∧ (∀ q, Θ.2.1.1.heap.size ≤ q → Θ.2.2.2.1 q) ∧ SX Θ.2.2.2.2.2 Θ.2.2.2.1 Θ.2.1.1 Θ.2.1.1.heap
section
variable {Θ : Tz} {cc : ByteArray} {nL kc ks : Nat} {own : String} {ret : Option FieldType} {rm : Room} {cJ : ClassId} {Q : State → Prop} {P : Heap → Prop} {pc : Nat} {lv lv' : List (Nat × Value)} {st : List Value}
theorem G.sub (qs : List Nat) (h : lv_pick lv qs = lv') (k : G Θ nL kc ks Q P pc lv' st) : G Θ nL kc ks Q P pc lv st := fun H locs ls hH hS hl => k H locs ls hH hS (lv_sub hl qs h)
theorem g_iconst (C : Gc Θ cc nL own ret rm cJ) {n : Int} {v : Int32} (hd : decode cc pc = .ok (.iconst n, 1)) (hv : Int32.ofInt n = v) (k : G Θ nL kc ks Q P (pc + 1) lv (.int v :: st)) : G Θ nL kc ks Q P pc lv st := fun H locs ls hH hS hl => lv_iconst C.1 C.2.1 hd hv (k H locs ls hH hS hl)
theorem g_bipush (C : Gc Θ cc nL own ret rm cJ) {n : Int} {v : Int32} (hd : decode cc pc = .ok (.bipush n, 2)) (hv : (Int8.ofInt n).toInt32 = v) (k : G Θ nL kc ks Q P (pc + 2) lv (.int v :: st)) : G Θ nL kc ks Q P pc lv st := fun H locs ls hH hS hl => lv_bipush C.1 C.2.1 hd hv (k H locs ls hH hS hl)
theorem g_lconst (C : Gc Θ cc nL own ret rm cJ) {n : Fin 2} {v : Int64} (hd : decode cc pc = .ok (.lconst n, 1)) (hv : Int64.ofNat (n : Nat) = v) (k : G Θ nL kc ks Q P (pc + 1) lv (.long v :: st)) : G Θ nL kc ks Q P pc lv st := fun H locs ls hH hS hl => lv_lconst C.1 C.2.1 hd hv (k H locs ls hH hS hl)
theorem g_iload_n (C : Gc Θ cc nL own ret rm cJ) (q : Nat) {j : Fin 4} {i : Nat} {x : Int32} (hd : decode cc pc = .ok (.iload_n j, 1)) (hi : (j : Nat) = i) (hk : lv[q]? = some (i, .int x)) (k : G Θ nL kc ks Q P (pc + 1) lv (.int x :: st)) : G Θ nL kc ks Q P pc lv st := fun H locs ls hH hS hl => lv_iload_n C.1 C.2.1 hd hi (lv_at hl q hk) (k H locs ls hH hS hl)
theorem g_iload (C : Gc Θ cc nL own ret rm cJ) (q : Nat) {i : Nat} {x : Int32} (hd : decode cc pc = .ok (.iload i, 2)) (hk : lv[q]? = some (i, .int x)) (k : G Θ nL kc ks Q P (pc + 2) lv (.int x :: st)) : G Θ nL kc ks Q P pc lv st := fun H locs ls hH hS hl => lv_iload C.1 C.2.1 hd (lv_at hl q hk) (k H locs ls hH hS hl)
theorem g_aload_n (C : Gc Θ cc nL own ret rm cJ) (q : Nat) {j : Fin 4} {i x : Nat} (hd : decode cc pc = .ok (.aload_n j, 1)) (hi : (j : Nat) = i) (hk : lv[q]? = some (i, .ref x)) (k : G Θ nL kc ks Q P (pc + 1) lv (.ref x :: st)) : G Θ nL kc ks Q P pc lv st := fun H locs ls hH hS hl => lv_aload_n C.1 C.2.1 hd hi (lv_at hl q hk) (k H locs ls hH hS hl)
theorem g_aload (C : Gc Θ cc nL own ret rm cJ) (q : Nat) {i x : Nat} (hd : decode cc pc = .ok (.aload i, 2)) (hk : lv[q]? = some (i, .ref x)) (k : G Θ nL kc ks Q P (pc + 2) lv (.ref x :: st)) : G Θ nL kc ks Q P pc lv st := fun H locs ls hH hS hl => lv_aload C.1 C.2.1 hd (lv_at hl q hk) (k H locs ls hH hS hl)
theorem g_istore_n (C : Gc Θ cc nL own ret rm cJ) {j : Fin 4} {i : Nat} {x : Int32} (hd : decode cc pc = .ok (.istore_n j, 1)) (hi : (j : Nat) = i) (hn : i < nL) (hl' : (i, Value.int x) :: lv.filter (fun q => !(q.1 == i) && !(q.1 + 1 == i && q.2.category == 2)) = lv') (k : G Θ nL kc ks Q P (pc + 1) lv' st) : G Θ nL kc ks Q P pc lv (.int x :: st) := fun H locs ls hH hS hl => lv_istore_n C.1 C.2.1 hd hi hl hn hl' (fun ls h => k H locs ls hH hS h)
theorem g_istore (C : Gc Θ cc nL own ret rm cJ) {i : Nat} {x : Int32} (hd : decode cc pc = .ok (.istore i, 2)) (hn : i < nL) (hl' : (i, Value.int x) :: lv.filter (fun q => !(q.1 == i) && !(q.1 + 1 == i && q.2.category == 2)) = lv') (k : G Θ nL kc ks Q P (pc + 2) lv' st) : G Θ nL kc ks Q P pc lv (.int x :: st) := fun H locs ls hH hS hl => lv_istore C.1 C.2.1 hd hl hn hl' (fun ls h => k H locs ls hH hS h)
theorem g_iinc (C : Gc Θ cc nL own ret rm cJ) (q : Nat) {i : Nat} {n : Int} {x v : Int32} (hd : decode cc pc = .ok (.iinc i n, 3)) (hk : lv[q]? = some (i, .int x)) (hv : x + Int32.ofInt n = v) (hn : i < nL) (hl' : (i, Value.int v) :: lv.filter (fun q => !(q.1 == i) && !(q.1 + 1 == i && q.2.category == 2)) = lv') (k : G Θ nL kc ks Q P (pc + 3) lv' st) : G Θ nL kc ks Q P pc lv st := fun H locs ls hH hS hl => lv_iinc C.1 C.2.1 hd hl hk hv hn hl' (fun ls h => k H locs ls hH hS h)
theorem g_iadd (C : Gc Θ cc nL own ret rm cJ) {x y : Int32} (hd : decode cc pc = .ok (.iadd, 1)) (k : G Θ nL kc ks Q P (pc + 1) lv (.int (x + y) :: st)) : G Θ nL kc ks Q P pc lv (.int y :: .int x :: st) := fun H locs ls hH hS hl => lv_iadd C.1 C.2.1 hd (k H locs ls hH hS hl)
theorem g_isub (C : Gc Θ cc nL own ret rm cJ) {x y : Int32} (hd : decode cc pc = .ok (.isub, 1)) (k : G Θ nL kc ks Q P (pc + 1) lv (.int (x - y) :: st)) : G Θ nL kc ks Q P pc lv (.int y :: .int x :: st) := fun H locs ls hH hS hl => lv_isub C.1 C.2.1 hd (k H locs ls hH hS hl)
theorem g_iand (C : Gc Θ cc nL own ret rm cJ) {x y : Int32} (hd : decode cc pc = .ok (.iand, 1)) (k : G Θ nL kc ks Q P (pc + 1) lv (.int (x &&& y) :: st)) : G Θ nL kc ks Q P pc lv (.int y :: .int x :: st) := fun H locs ls hH hS hl => lv_iand C.1 C.2.1 hd (k H locs ls hH hS hl)
theorem g_i2l (C : Gc Θ cc nL own ret rm cJ) {x : Int32} (hd : decode cc pc = .ok (.i2l, 1)) (k : G Θ nL kc ks Q P (pc + 1) lv (.long x.toInt64 :: st)) : G Θ nL kc ks Q P pc lv (.int x :: st) := fun H locs ls hH hS hl => lv_i2l C.1 C.2.1 hd rfl (k H locs ls hH hS hl)
theorem g_dup (C : Gc Θ cc nL own ret rm cJ) {v : Value} (hd : decode cc pc = .ok (.dup, 1)) (hc : v.category = 1) (k : G Θ nL kc ks Q P (pc + 1) lv (v :: v :: st)) : G Θ nL kc ks Q P pc lv (v :: st) := fun H locs ls hH hS hl => lv_dup C.1 C.2.1 hd hc (k H locs ls hH hS hl)
theorem g_goto (C : Gc Θ cc nL own ret rm cJ) {off : Int} (tgt : Nat) (hd : decode cc pc = .ok (.goto off, 3)) (ht : (pc : Int) + off = (tgt : Int)) (k : G Θ nL kc ks Q P tgt lv st) : G Θ nL kc ks Q P pc lv st := fun H locs ls hH hS hl => lv_goto C.1 C.2.1 hd ht (k H locs ls hH hS hl)
theorem g_if_eq (C : Gc Θ cc nL own ret rm cJ) {x : Int32} {off : Int} (tgt : Nat) (hd : decode cc pc = .ok (.ifCond .eq off, 3)) (ht : (pc : Int) + off = (tgt : Int)) (kt : x = 0 → G Θ nL kc ks Q P tgt lv st) (kf : ¬ x = 0 → G Θ nL kc ks Q P (pc + 3) lv st) : G Θ nL kc ks Q P pc lv (.int x :: st) := fun H locs ls hH hS hl => lv_if_eq C.1 C.2.1 hd ht (fun h => kt h H locs ls hH hS hl) (fun h => kf h H locs ls hH hS hl)
theorem g_if_ne (C : Gc Θ cc nL own ret rm cJ) {x : Int32} {off : Int} (tgt : Nat) (hd : decode cc pc = .ok (.ifCond .ne off, 3)) (ht : (pc : Int) + off = (tgt : Int)) (kt : ¬ x = 0 → G Θ nL kc ks Q P tgt lv st) (kf : x = 0 → G Θ nL kc ks Q P (pc + 3) lv st) : G Θ nL kc ks Q P pc lv (.int x :: st) := fun H locs ls hH hS hl => lv_if_ne C.1 C.2.1 hd ht (fun h => kt h H locs ls hH hS hl) (fun h => kf h H locs ls hH hS hl)
theorem g_icmp_eq (C : Gc Θ cc nL own ret rm cJ) {x y : Int32} {off : Int} (tgt : Nat) (hd : decode cc pc = .ok (.if_icmp .eq off, 3)) (ht : (pc : Int) + off = (tgt : Int)) (kt : x = y → G Θ nL kc ks Q P tgt lv st) (kf : ¬ x = y → G Θ nL kc ks Q P (pc + 3) lv st) : G Θ nL kc ks Q P pc lv (.int y :: .int x :: st) := fun H locs ls hH hS hl => lv_icmp_eq C.1 C.2.1 hd ht (fun h => kt h H locs ls hH hS hl) (fun h => kf h H locs ls hH hS hl)
theorem g_icmp_gt (C : Gc Θ cc nL own ret rm cJ) {x y : Int32} {off : Int} (tgt : Nat) (hd : decode cc pc = .ok (.if_icmp .gt off, 3)) (ht : (pc : Int) + off = (tgt : Int)) (kt : y < x → G Θ nL kc ks Q P tgt lv st) (kf : ¬ y < x → G Θ nL kc ks Q P (pc + 3) lv st) : G Θ nL kc ks Q P pc lv (.int y :: .int x :: st) := fun H locs ls hH hS hl => lv_icmp_gt C.1 C.2.1 hd ht (fun h => kt h H locs ls hH hS hl) (fun h => kf h H locs ls hH hS hl)
theorem g_lcmp (C : Gc Θ cc nL own ret rm cJ) {x y : Int64} (hd : decode cc pc = .ok (.lcmp, 1)) (k : G Θ nL kc ks Q P (pc + 1) lv (.int (lg_cmp x y) :: st)) : G Θ nL kc ks Q P pc lv (.long y :: .long x :: st) := fun H locs ls hH hS hl => W.lcmp C.1 C.2.1 hd (k H locs ls hH hS hl)
theorem g_astore_n (C : Gc Θ cc nL own ret rm cJ) {j : Fin 4} {i : Nat} {x : Nat} (hd : decode cc pc = .ok (.astore_n j, 1)) (hi : (j : Nat) = i) (hn : i < nL) (hl' : (i, Value.ref x) :: lv.filter (fun q => !(q.1 == i) && !(q.1 + 1 == i && q.2.category == 2)) = lv') (k : G Θ nL kc ks Q P (pc + 1) lv' st) : G Θ nL kc ks Q P pc lv (.ref x :: st) := fun H locs ls hH hS hl => lv_astore_n C.1 C.2.1 hd hi hl hn hl' (fun ls h => k H locs ls hH hS h)
theorem g_astore (C : Gc Θ cc nL own ret rm cJ) {i : Nat} {x : Nat} (hd : decode cc pc = .ok (.astore i, 2)) (hn : i < nL) (hl' : (i, Value.ref x) :: lv.filter (fun q => !(q.1 == i) && !(q.1 + 1 == i && q.2.category == 2)) = lv') (k : G Θ nL kc ks Q P (pc + 2) lv' st) : G Θ nL kc ks Q P pc lv (.ref x :: st) := fun H locs ls hH hS hl => lv_astore C.1 C.2.1 hd hl hn hl' (fun ls h => k H locs ls hH hS h)
theorem G.wid {k n : Nat} (h1 : kc ≤ k) (h2 : ks ≤ n) (kk : G Θ nL k n Q P pc lv st) : G Θ nL kc ks Q P pc lv st := fun H locs ls hH hS hl => W.widen h1 h2 (kk H locs ls hH hS hl)
/-- x != 0 as a boolean -/
theorem g_nz (C : Gc Θ cc nL own ret rm cJ) {x : Int32} (d0 : decode cc pc = .ok (.ifCond .eq 7, 3)) (d3 : decode cc (pc + 3) = .ok (.iconst 1, 1)) (d4 : decode cc (pc + 4) = .ok (.goto 4, 3)) (d7 : decode cc (pc + 7) = .ok (.iconst 0, 1))
    (k : G Θ nL kc ks Q P (pc + 8) lv (.int (b2i (decide (¬ x = 0))) :: st)) : G Θ nL kc ks Q P pc lv (.int x :: st) := by
  refine g_if_eq C (pc + 7) d0 (by omega) (fun h => ?_) (fun h => ?_)
  · refine g_iconst (v := 0) C d7 rfl ?_
    rw [show decide (¬ x = 0) = false from by simp [h]] at k
    exact k
  · refine g_iconst (v := 1) C d3 rfl ?_
    refine g_goto C (pc + 8) d4 (by omega) ?_
    rw [show decide (¬ x = 0) = true from by simp [h]] at k
    exact k
/-- b ? 1L : 0L -/
theorem g_bl (C : Gc Θ cc nL own ret rm cJ) {b : Bool} (d0 : decode cc pc = .ok (.ifCond .eq 7, 3)) (d3 : decode cc (pc + 3) = .ok (.lconst 1, 1)) (d4 : decode cc (pc + 4) = .ok (.goto 4, 3)) (d7 : decode cc (pc + 7) = .ok (.lconst 0, 1))
    (k : G Θ nL kc ks Q P (pc + 8) lv (.long (b2i b).toInt64 :: st)) : G Θ nL kc ks Q P pc lv (.int (b2i b) :: st) := by
  refine g_if_eq C (pc + 7) d0 (by omega) (fun h => ?_) (fun h => ?_)
  · refine g_lconst (v := 0) C d7 rfl ?_
    cases b with
    | false => exact k
    | true => exact absurd h (by decide)
  · refine g_lconst (v := 1) C d3 rfl ?_
    refine g_goto C (pc + 8) d4 (by omega) ?_
    cases b with
    | false => exact absurd rfl h
    | true => exact k
end
theorem arrV1 (cJ : ClassId) (o x : Int64) : arrV cJ 1 (updV (fun _ => Value.long o) (0 : Int32).toNatClampNeg (Value.long x)) = arrV cJ 1 (fun _ => Value.long x) := by
  have e : (fun j : Fin 1 => updV (fun _ => Value.long o) (0 : Int32).toNatClampNeg (Value.long x) j.val) = (fun _ : Fin 1 => Value.long x) := by
    funext j
    have hj : j.val = 0 := by omega
    rw [hj]
    first | rfl | simp [updV]
  unfold arrV
  rw [e]
/-! the wrappers' world: the class and the row of one long -/
def wH (w : Wp) (ao : Nat) (cJ : ClassId) (σ : St) (o : Int64) (H : Heap) : Prop := HW kdC w σ H ∧ H[ao]? = some (vp_cell cJ (1, .inr (.inl (fun _ => o))))
def WA (w : Wp) (ao sz : Nat) : Nat → Prop := fun q => AA kdC w sz q ∨ q = ao
def wR (w : Wp) (ao : Nat) (cJ : ClassId) (A : Nat → Prop) (k : Int32) (σ : St) (o : Int64) : Array Value → State → Outcome → State → Prop := fun _ st oc t => (oc = .returned (some (.int k)) ∧ wH w ao cJ σ o t.heap) ∧ va_F A st t
def wP (w : Wp) (ao : Nat) (cJ : ClassId) (σ : St) (o : Int64) (sz : Nat) (av : List Value) : Array Value → State → Prop := va_Pc av (fun U => U.heap.size = sz ∧ wH w ao cJ σ o U.heap ∧ KK w U ∧ va_K w.1 classes [(cJ, .long)] U ∧ SX w (WA w ao sz) U U.heap)
def wM (l : Launch) (w : Wp) (ao : Nat) (cJ : ClassId) (y : MethodName) (cc : ByteArray) (nL : Nat) (hh : List (Nat × Nat × Nat × Nat)) (rm : Room) (av : List Value) (σ : St) (o : Int64) (k : Int32) (σ' : St) (o' : Int64) : Prop :=
  ∀ sz, Met l y (.codeWith y cc nL (some .int) hh :: TB) rm (wP w ao cJ σ o sz av) (wR w ao cJ (WA w ao sz) k σ' o') 4 24 (WA w ao sz)
abbrev wQ (Θ : Tz) (w : Wp) (ao : Nat) (cJ : ClassId) (k : Int32) (σ : St) (o : Int64) : State → Prop := MQ Θ.2.1.2.2.2 (wR w ao cJ Θ.2.2.2.1 k σ o) Θ.2.1.2.2.1 Θ.2.1.1 4 24 Θ.2.2.2.1
theorem wP_blind {w : Wp} {ao : Nat} {cJ : ClassId} {σ : St} {o : Int64} {sz : Nat} {av : List Value} : FrameBlind (wP w ao cJ σ o sz av) := fun a U g mk q => by
  obtain ⟨q0, q1, qP, qK, qJ, qE⟩ := q
  exact ⟨q0, q1, qP, KK.same (s := U) (U := U.calling g mk a) rfl qK, va_K.moved (u := U) (U := U.calling g mk a) (Vm.Alike.refl U.vm) qJ, SX.same (s := U) (U := U.calling g mk a) rfl qE⟩
theorem wM_of {l : Launch} {w : Wp} {ao : Nat} {cJ : ClassId} {y : MethodName} {cc : ByteArray} {nL : Nat} {hh : List (Nat × Nat × Nat × Nat)} {rm : Room} {av : List Value} {σ : St} {o : Int64} {k : Int32} {σ' : St} {o' : Int64} (hy : plainName y.cls = true) (hn : (lg_sl av).length ≤ nL)
    (h : ∀ Θ : Tz, Θ.1.2.1 = l → Θ.2.2.2.2 = (kdC, w) → Gc Θ cc nL y.cls (some .int) rm cJ → (∀ i, i < kdC.length → Θ.2.2.2.1 (w.2.2.1 i)) → Θ.2.2.2.1 ao → Θ.2.2.1.2.exceptionTable.toList = tableOf hh → G Θ nL 0 0 (wQ Θ w ao cJ k σ' o') (wH w ao cJ σ o) 0 (lv_args 0 av) []) : wM l w ao cJ y cc nL hh rm av σ o k σ' o' := by
  intro sz
  refine met_ofWH (cc := cc) (maxL := nL) (ret := some .int) (hh := hh) hy rfl ?_
  intro p e s m args below meth c s₁ B hml hv
  obtain ⟨rfl, hsz, hP, hK, hJ, hE⟩ := hv
  subst hsz
  have hts := atoms_spec (ws := .codeWith y cc nL (some .int) hh :: TB) B.pre
  have htab := vx_table (p := p) (x := y) B (hts _ List.mem_cons_self)
  have hl := lv_entry av (n := nL) hn
  rw [lg_entry_eq]
  exact h ((p, l, e, (headSpec (.codeWith y cc nL (some .int) hh :: TB) rm).room), (s, m, av.toArray, below), (meth, c), WA w ao s.heap.size, (kdC, w)) rfl rfl
    ⟨B.exec, B.bytes, hml, findClass_of_methodNamed B.named, fun w hw => hts w (List.mem_cons_of_mem _ hw), B.notSynchronized, B.returns, rfl, hK, hJ, fun q hq => Or.inl (Or.inr hq), hE⟩ (fun i hi => Or.inl (Or.inl ⟨i, hi, rfl⟩)) (Or.inr rfl) htab s.heap [] _ hP va_S.rf hl
section
variable {Θ : Tz} {cc : ByteArray} {nL kc ks : Nat} {own : String} {ret : Option FieldType} {rm : Room} {cJ : ClassId} {Q : State → Prop} {pc : Nat} {lv lv' : List (Nat × Value)} {st st0 : List Value} {w : Wp} {ao : Nat} {σ : St} {o : Int64}
theorem w_ret (C : Gc Θ cc nL own (some .int) rm cJ) {v : Int32} (hk : kc ≤ 4 ∧ ks ≤ 24) (hd : decode cc pc = .ok (.ireturn, 1)) : G Θ nL kc ks (wQ Θ w ao cJ v σ o) (wH w ao cJ σ o) pc lv [.int v] := fun H locs ls hH hS hl =>
  W.widen hk.1 hk.2 (W.iret C.1 C.2.1 C.2.2.2.2.2.2.1 (fun t ht hW => ⟨⟨rfl, by rw [ht]; exact hH⟩, hS.F ht⟩) hS.2.2 hd C.2.2.2.2.2.1)
theorem w_last (C : Gc Θ cc nL own ret rm cJ) (hw : Θ.2.2.2.2.2 = w) (hAo : Θ.2.2.2.1 ao) (hao : ∀ i, i < kdC.length → w.2.2.1 i ≠ ao) {x : Int64} (hd : decode cc pc = .ok (.lastore, 1)) (kk : G Θ nL kc ks Q (wH w ao cJ σ x) (pc + 1) lv st) : G Θ nL kc ks Q (wH w ao cJ σ o) pc lv (.long x :: .int 0 :: .ref ao :: st) := by
  subst hw
  intro H locs ls hH hS hl
  obtain ⟨hx, hb0, hml, hown, hts, hlk, hrr, hrm, hK, hJ, hA2, hE⟩ := id C
  refine W.last hx hb0 hH.2 ((hJ.2 0 _ rfl).1 1 (fun _ => .long o)) (fun q => by cases q) (by show ¬ ((0 : Int32) < 0 ∨ (arrV _ _ _).slots.size ≤ _); rw [arrV_size]; show ¬ ((0 : Int32) < 0 ∨ 1 ≤ (0 : Int32).toNatClampNeg); decide) rfl rfl hd fun H1 e z oq => ?_
  refine kk H1 _ ls ⟨hH.1.kept (fun i hi => oq _ (hao i hi)), ?_⟩ (hS.put z oq hAo) hl
  rw [e, vp_cell_l, vp_cell_l, arrV_store, arrV1]
theorem w_after {R : Type} (f : R → Int32) {a : Array Value} {r : Sum Nat R × St} {mc2 ms2 : Nat} (C : Gc Θ cc nL own ret rm cJ) (hw : Θ.2.2.2.2.2 = w) (hA : ∀ i, i < kdC.length → Θ.2.2.2.1 (w.2.2.1 i)) (hao : ∀ i, i < kdC.length → w.2.2.1 i ≠ ao) {H : Heap} {locs : List Loc} {ls : Array Slot} (hH : wH w ao cJ σ o H) (hS : va_S Θ.2.2.2.1 Θ.2.1.1.heap H locs) (hl : lv_has ls nL lv)
    (hr : vx_Run Θ.1.1 Θ.1.2.1 Θ.1.2.2.1 Θ.1.2.2.2 Θ.2.1.1 Θ.2.1.2.1 Θ.2.1.2.2.1 Θ.2.1.2.2.2 Θ.2.2.1.1 Θ.2.2.1.2 H locs kc ks mc2 ms2 (F0 Θ.2.1.2.1 pc ls st0) st (QX kdC w (AA kdC w H.size) (om (fun v => some (.int (f v))) r) a) (XX kdC w (AA kdC w H.size) (om (fun v => some (.int (f v))) r)) (AA kdC w H.size))
    (kk : ∀ v, r.1 = .inr v → G Θ nL (kc + mc2) (ks + ms2) Q (wH w ao cJ r.2 o) (pc + 3) lv (.int (f v) :: st))
    (kx : ∀ e, r.1 = .inl e → ∃ (pre : List ExceptionTableEntry) (x : ExceptionTableEntry) (suf : List ExceptionTableEntry) (nm : String), Θ.2.2.1.2.exceptionTable.toList = pre ++ x :: suf ∧ (∀ z ∈ pre, covers z pc = false ∨ (z.catchType ≠ 0 ∧ ∃ nm : String, Cond.classLink own z.catchType nm ∈ TB ∧ (exn e, nm) ∈ ncW)) ∧ covers x pc = true ∧ x.catchType ≠ 0 ∧ Cond.classLink own x.catchType nm ∈ TB ∧ Cond.castable (exn e) nm ∈ nestW ∧ ∀ q, G Θ nL (kc + mc2) (ks + ms2) Q (wH w ao cJ r.2 o) x.handlerPc lv [.ref q]) :
    zW Θ H locs kc ks Q (F0 Θ.2.1.2.1 pc ls st0) := by
  intro T hT X
  obtain ⟨hx, hb0, hml, hown, hts, hlk, hrr, hrm, hK, hJ, hA2, hE⟩ := id C
  have hAA : ∀ q, AA kdC w H.size q → Θ.2.2.2.1 q := fun q h => by
    rcases h with ⟨i, hi, rfl⟩ | h
    · exact hA i hi
    · exact hA2 q (Nat.le_trans hS.1 h)
  have hlt : ao < H.size := (Array.getElem?_eq_some_iff.mp hH.2).1
  have hno : ¬ AA kdC w H.size ao := fun h => by
    rcases h with ⟨i, hi, e⟩ | h
    · exact hao i hi e.symm
    · omega
  rcases hr T hT X with ⟨v0, st₀, t, T', L, h0, X', hL, e1, e2, hq, hst⟩ | ⟨q, st₀, t, T', L, E, ce, h0, X', hL, e1, e2, hxc, hce, hcv, hcl, hst⟩
  · cases hr1 : r.1 with
    | inl e =>
      have h9 : om (fun v => some (.int (f v))) r = .inr (e, r.2) := by unfold om; rw [hr1]
      rw [h9] at hq
      exact hq.elim
    | inr v =>
      have h9 : om (fun v => some (.int (f v))) r = .inl (some (.int (f v)), r.2) := by unfold om; rw [hr1]
      rw [h9] at hq
      obtain ⟨⟨hv, hb⟩, hz, hk⟩ := hq
      cases hv
      rw [h0] at hz hk
      obtain ⟨t2, a1, b1⟩ := kk v hr1 T'.heap (locs ++ L) ls ⟨by rw [e1]; exact hb, by rw [e1, hk ao hlt hno]; exact hH.2⟩ ⟨Nat.le_trans hS.1 (by rw [e1]; exact hz), fun q h1 h2 => by rw [e1, hk q (Nat.lt_of_lt_of_le h1 hS.1) (fun z => h2 (hAA q z))]; exact hS.2.1 q h1 h2, fun q hq => by
        rcases List.mem_append.mp hq with h | h
        · exact hS.2.2 q h
        · exact hAA _ (hL q h)⟩ hl T' rfl X'
      exact ⟨t2, hst t2 a1, b1⟩
  · cases hr1 : r.1 with
    | inr v =>
      have h9 : om (fun v => some (.int (f v))) r = .inl (some (.int (f v)), r.2) := by unfold om; rw [hr1]
      rw [h9] at hxc
      exact hxc.elim
    | inl e =>
      have h9 : om (fun v => some (.int (f v))) r = .inr (e, r.2) := by unfold om; rw [hr1]
      rw [h9] at hxc
      obtain ⟨rfl, hb, hz, hk⟩ := hxc
      rw [h0] at hz hk
      obtain ⟨pre, x, suf, nm, k1, k2, k3, k4, k5, k6, k7⟩ := kx e hr1
      have hc := vx_catch (p := Θ.1.1) (l := Θ.1.2.1) (e := Θ.1.2.2.1) (R := Θ.1.2.2.2) (s := Θ.2.1.1) (m := Θ.2.1.2.1) (args := Θ.2.1.2.2.1) (below := Θ.2.1.2.2.2) (meth := Θ.2.2.1.1) (c := Θ.2.2.1.2) (H := T'.heap) (locs := locs ++ L) (cells := kc + mc2) (slots := ks + ms2) (Q := Q) (ls := ls) (rest := st) (pc := pc) (E := exn e) (ce := ce) (q := q) hown pre x suf k1 (fun z hz => (k2 z hz).imp id (fun h => ⟨h.1, h.2.choose, hts _ h.2.choose_spec.1, by subst hw; exact hK.2.2 _ h.2.choose_spec.2⟩)) k3 k4 (hts _ k5) (va_Nw.use rfl (by subst hw; exact hK.2.1 _ k6)) (by rw [e1]; exact hce) hcv hcl
        (k7 q T'.heap (locs ++ L) ls ⟨by rw [e1]; exact hb, by rw [e1, hk ao hlt hno]; exact hH.2⟩ ⟨Nat.le_trans hS.1 (by rw [e1]; exact hz), fun q h1 h2 => by rw [e1, hk q (Nat.lt_of_lt_of_le h1 hS.1) (fun z => h2 (hAA q z))]; exact hS.2.1 q h1 h2, fun q hq => by
        rcases List.mem_append.mp hq with h | h
        · exact hS.2.2 q h
        · exact hAA _ (hL q h)⟩ hl)
      obtain ⟨t2, a1, b1⟩ := hc T' rfl X'
      exact ⟨t2, hst.trans a1, b1⟩
theorem w_pre (C : Gc Θ cc nL own ret rm cJ) (hw : Θ.2.2.2.2.2 = w) (hA : ∀ i, i < kdC.length → Θ.2.2.2.1 (w.2.2.1 i)) {H : Heap} {locs : List Loc} (hS : va_S Θ.2.2.2.1 Θ.2.1.1.heap H locs) (hH : HW kdC w σ H) {av : List Value} :
    ∀ U : State, U.heap = H → Θ.2.1.1.WarmedH U.vm → zP kdC w σ H.size av av.toArray U := fun U hU hW => by
  subst hw
  obtain ⟨hx, hb0, hml, hown, hts, hlk, hrr, hrmm, hK, hJ, hA2, hE⟩ := id C
  refine ⟨rfl, by rw [hU], by rw [hU]; exact hH, KK.warm hW hK, ?_⟩
  rw [hU]
  refine SX.warm hW (SX.narrow (hE.kept hS.2.1) fun q h => ?_)
  rcases h with ⟨i, hi, rfl⟩ | h
  · exact hA i hi
  · exact hA2 q (Nat.le_trans hS.1 h)
theorem w_call (C : Gc Θ cc nL own ret rm cJ) (hw : Θ.2.2.2.2.2 = w) (hkd : Θ.2.2.2.2.1 = kdC) (hA : ∀ i, i < kdC.length → Θ.2.2.2.1 (w.2.2.1 i)) (hao : ∀ i, i < kdC.length → w.2.2.1 i ≠ ao) {R : Type} (f : R → Int32) {y : MethodName} {c2 : ByteArray} {n2 idx : Nat} {r2 : Option FieldType} {rm2 : Room} (av : List Value) (r : Sum Nat R × St) (mc2 ms2 n : Nat) {T : u_T} {N : Nat} (hc : classes[11]? = some (y.cls, T, N))
    (hM : zX Θ.1.2.1 kdC w y c2 n2 r2 rm2 (.ref (w.2.2.1 0) :: av) σ (om (fun v => some (.int (f v))) r) mc2 ms2)
    (hcode : Cond.code y c2 n2 r2 ∈ TB) (hlink : Cond.methodLink own idx y ∈ TB) (hinst : Cond.instanceMethod y ∈ TB) (hsel : Cond.selects y.cls y y ∈ TB) (hini : Cond.initialized y.cls ∈ TB) (hrm : rm2.cells = mc2 ∧ rm2.slots = ms2 ∧ rm2.frames + 1 ≤ rm.frames ∧ 8 + (n2 + 11) + rm2.locals ≤ rm.locals)
    (hy : y.cls ≠ "java/lang/invoke/MethodHandle" ∧ y.cls ≠ "java/lang/invoke/VarHandle" ∧ (parseMethodDescriptor y.desc).map (fun d => d.parameters.length) = some n) (hn : av.length = n) (hst : st0 = av.reverse ++ .ref (w.2.2.1 0) :: st) (hcat : (st.map fun v => v.category).sum ≤ 8) (hk : kc + mc2 ≤ rm.cells ∧ ks + ms2 ≤ rm.slots)
    (hd : decode cc pc = .ok (.invokevirtual idx, 3))
    (kk : ∀ v, r.1 = .inr v → G Θ nL (kc + mc2) (ks + ms2) Q (wH w ao cJ r.2 o) (pc + 3) lv (.int (f v) :: st))
    (kx : ∀ e, r.1 = .inl e → ∃ (pre : List ExceptionTableEntry) (x : ExceptionTableEntry) (suf : List ExceptionTableEntry) (nm : String), Θ.2.2.1.2.exceptionTable.toList = pre ++ x :: suf ∧ (∀ z ∈ pre, covers z pc = false ∨ (z.catchType ≠ 0 ∧ ∃ nm : String, Cond.classLink own z.catchType nm ∈ TB ∧ (exn e, nm) ∈ ncW)) ∧ covers x pc = true ∧ x.catchType ≠ 0 ∧ Cond.classLink own x.catchType nm ∈ TB ∧ Cond.castable (exn e) nm ∈ nestW ∧ ∀ q, G Θ nL (kc + mc2) (ks + ms2) Q (wH w ao cJ r.2 o) x.handlerPc lv [.ref q]) :
    G Θ nL kc ks Q (wH w ao cJ σ o) pc lv st0 := by
  intro H locs ls hH hS hl
  obtain ⟨hx, hb0, hml, hown, hts, hlk, hrr, hrmm, hK, hJ, hA2, hE⟩ := id C
  have hts2 : ∀ w ∈ (Cond.code y c2 n2 r2 :: TB), w.before Θ.2.1.2.2.1 Θ.2.1.1 = true := fun w hw => (List.mem_cons.mp hw).elim (fun e => by rw [e]; exact hts _ hcode) (hts w)
  subst hst
  have cw := callB_of (R := Θ.1.2.2.2) (own := own) (index := idx) n hts2 (tb_GoodIn hcode) rfl hrm.1 hrm.2.1 (hts _ hini) (hts _ hlink) hy (by rw [hrmm]; exact ⟨hrm.2.2.1, hrm.2.2.2⟩)
  obtain ⟨fl, h0⟩ : ∃ fl, kdC[0]? = some (.inr (.inl (11, fl))) := ⟨_, rfl⟩
  have hP : va_P w.1 classes [(w.2.2.1 0, .inr (11, fvals w.2.2.1 (σ 0) 0 fl))] H := fun k q hq => by
    have h1 := hH.1 0 _ h0
    match k, hq with
    | 0, hq => cases hq; exact h1
    | k + 1, hq => simp at hq
  have hKw : va_K w.1 classes (tysW w) Θ.2.1.1 := by subst hw; exact hK.1
  exact w_after f C hw hA hao hH hS hl (vx_runV (C := y.cls) (rest := st) ⟨hx, hb0, hml, hown, hts⟩ (hM H.size) ⟨cw, hts _ hinst, hts _ hsel⟩ ⟨zP_blind, va_recv (q0 := 0) hKw hP hc rfl, w_pre C hw hA hS hH.1⟩ rfl hn hl.1 rfl (lv_room hcat) hd (by rw [hrmm]; exact hk)) kk kx
end
/-- which catch takes it, and what it leaves -/
def wk {R : Type} (hs : List Nat) (r : Sum Nat R × St) : Int32 := match r.1 with
  | .inl e => nI (hs.idxOf e + 1)
  | .inr _ => 0
def wo {R : Type} (f : R → Int32) (r : Sum Nat R × St) (o : Int64) : Int64 := match r.1 with
  | .inl _ => o
  | .inr v => (f v).toInt64
theorem wk_l {R : Type} {hs : List Nat} {r : Sum Nat R × St} {e : Nat} {k : Int32} (h : r.1 = .inl e) (hk : nI (hs.idxOf e + 1) = k) : wk hs r = k := by unfold wk; rw [h]; exact hk
theorem wk_r {R : Type} {hs : List Nat} {r : Sum Nat R × St} {v : R} (h : r.1 = .inr v) : wk hs r = 0 := by unfold wk; rw [h]
theorem wo_l {R : Type} {f : R → Int32} {r : Sum Nat R × St} {e : Nat} {o : Int64} (h : r.1 = .inl e) : wo f r o = o := by unfold wo; rw [h]
theorem wo_r {R : Type} {f : R → Int32} {r : Sum Nat R × St} {v : R} {o : Int64} (h : r.1 = .inr v) : wo f r o = (f v).toInt64 := by unfold wo; rw [h]

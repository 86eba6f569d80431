/-! CONSTRUCTORS: a heap that grows by cells from b on -/
def HB (w : Wp) (b : Nat) (cs : List va_E) (H : Heap) : Prop := H.size = b + cs.length ∧ ∀ (i : Nat) (e : va_E), cs[i]? = some e → va_at w.1 classes (b + i, e) H
theorem HB.set {w : Wp} {b i : Nat} {cs : List va_E} {H H1 : Heap} {e0 e : va_E} (h : HB w b cs H) (hi : cs[i]? = some e0) (hn : va_at w.1 classes (b + i, e) H1) (hz : H1.size = H.size) (ho : ∀ q : Nat, q ≠ b + i → H1[q]? = H[q]?) : HB w b (cs.set i e) H1 := by
  refine ⟨by rw [hz, List.length_set]; exact h.1, fun j x hx => ?_⟩
  by_cases hj : j = i
  · subst hj
    rw [List.getElem?_set_self (List.getElem?_eq_some_iff.mp hi).1] at hx
    cases hx
    exact hn
  · rw [List.getElem?_set_ne (fun q => hj q.symm)] at hx
    exact (h.2 j x hx).kept (ho _ (by show b + j ≠ b + i; omega))
theorem HB.push {w : Wp} {b : Nat} {cs : List va_E} {H H1 : Heap} {e : va_E} (h : HB w b cs H) (hn : va_at w.1 classes (b + cs.length, e) H1) (hz : H1.size = H.size + 1) (ho : ∀ q : Nat, q < H.size → H1[q]? = H[q]?) : HB w b (cs ++ [e]) H1 := by
  refine ⟨by rw [hz, h.1, List.length_append]; rfl, fun j x hx => ?_⟩
  by_cases hj : j < cs.length
  · rw [List.getElem?_append_left hj] at hx
    exact (h.2 j x hx).kept (ho _ (by show b + j < _; rw [h.1]; omega))
  · rw [List.getElem?_append_right (by omega)] at hx
    have hz1 : j - cs.length < 1 := (List.getElem?_eq_some_iff.mp hx).1
    have e1 : j = cs.length := by omega
    subst e1
    rw [Nat.sub_self] at hx
    cases hx
    exact hn
abbrev aB (b : Nat) : Nat → Prop := fun q => b ≤ q
/-- what holds through a constructor's body (its world begins at b; the frame is all from b on) -/
def Yc (Θ : Tz) (cc : ByteArray) (nL : Nat) (own : String) (ret : Option FieldType) (rm : Room) (b : Nat) : Prop :=
  Θ.1.1.tables.exec = Jvm.exec ∧ Θ.2.2.1.2.code = cc ∧ Θ.2.2.1.2.maxLocals = nL ∧ Θ.2.1.1.vm.findClass own = some Θ.2.1.2.1.cls ∧ (∀ w ∈ TB, w.before Θ.2.1.2.2.1 Θ.2.1.1 = true) ∧ Θ.2.2.1.1.locks = false ∧ Θ.2.2.1.1.sig.returnType = ret ∧ Θ.1.2.2.2 = rm ∧
  KK Θ.2.2.2.2.2 Θ.2.1.1 ∧ Θ.2.2.2.1 = aB b ∧ b ≤ Θ.2.1.1.heap.size ∧ SX Θ.2.2.2.2.2 (aB b) Θ.2.1.1 Θ.2.1.1.heap ∧ va_AO "LastLoaf$Village" Θ.2.1.1
def Y (Θ : Tz) (nL kc ks : Nat) (Q : State → Prop) (b : Nat) (cs : List va_E) (pc : Nat) (lv : List (Nat × Value)) (st : List Value) : Prop :=
  ∀ (H : Heap) (locs : List Loc) (ls : Array Slot), HB Θ.2.2.2.2.2 b cs H → va_S (aB b) Θ.2.1.1.heap H locs → lv_has ls nL lv → zW Θ H locs kc ks Q (F0 Θ.2.1.2.1 pc ls st)
def Qy (w : Wp) (b : Nat) (cs : List va_E) : Array Value → State → Outcome → State → Prop := fun _ st o t => (o = .returned none ∧ HB w b cs t.heap) ∧ va_F (aB b) st t
abbrev yQ (Θ : Tz) (b : Nat) (cs : List va_E) (mc ms : Nat) : State → Prop := MQ Θ.2.1.2.2.2 (Qy Θ.2.2.2.2.2 b cs) Θ.2.1.2.2.1 Θ.2.1.1 mc ms (aB b)
def yP (w : Wp) (b : Nat) (cs : List va_E) (av : List Value) : Array Value → State → Prop := va_Pc av (fun U => HB w b cs U.heap ∧ KK w U ∧ SX w (aB b) U U.heap ∧ va_AO "LastLoaf$Village" U)
def yM (l : Launch) (w : Wp) (y : MethodName) (cc : ByteArray) (nL : Nat) (rm : Room) (av : List Value) (b : Nat) (cs cs' : List va_E) (mc ms : Nat) : Prop :=
  Met l y (.code y cc nL none :: TB) rm (yP w b cs av) (Qy w b cs') mc ms (aB b)
theorem yM_of {l : Launch} {w : Wp} {y : MethodName} {cc : ByteArray} {nL : Nat} {rm : Room} {av : List Value} {b : Nat} {cs cs' : List va_E} {mc ms : Nat} (hy : plainName y.cls = true) (hn : (lg_sl av).length ≤ nL)
    (h : ∀ Θ : Tz, Θ.1.2.1 = l → Θ.2.2.2.2.2 = w → Yc Θ cc nL y.cls none rm b → Θ.2.2.1.1.name = y.name → Y Θ nL 0 0 (yQ Θ b cs' mc ms) b cs 0 (lv_args 0 av) []) : yM l w y cc nL rm av b cs cs' mc ms := by
  refine Met.ofW (cc := cc) (maxL := nL) (ret := none) hy rfl ?_
  intro p e s m args below meth c s₁ B hml hv
  obtain ⟨rfl, hP, hK, hE, hO⟩ := hv
  have hts := atoms_spec (ws := .code y cc nL none :: TB) B.pre
  have hl := lv_entry av (n := nL) hn
  rw [lg_entry_eq]
  exact h ((p, l, e, (headSpec (.code y cc nL none :: TB) rm).room), (s, m, av.toArray, below), (meth, c), aB b, ([], w)) rfl rfl
    ⟨B.exec, B.bytes, hml, findClass_of_methodNamed B.named, fun w hw => hts w (List.mem_cons_of_mem _ hw), B.notSynchronized, B.returns, rfl, hK, rfl, by show b ≤ s.heap.size; rw [hP.1]; omega, hE, hO⟩ (name_of_methodNamed B.named B.method).1 s.heap [] _ hP va_S.rf hl
theorem yP_blind {w : Wp} {b : Nat} {cs : List va_E} {av : List Value} : FrameBlind (yP w b cs av) := fun a U g mk q => by
  obtain ⟨q0, qP, qK, qE, qO⟩ := q
  exact ⟨q0, qP, KK.same (s := U) (U := U.calling g mk a) rfl qK, SX.same (s := U) (U := U.calling g mk a) rfl qE, qO⟩
section
variable {Θ : Tz} {cc : ByteArray} {nL kc ks mc ms b : Nat} {own : String} {ret : Option FieldType} {rm : Room} {Q : State → Prop} {cs cs' : List va_E} {pc : Nat} {lv lv' : List (Nat × Value)} {st st0 : List Value}
theorem y_iconst (C : Yc Θ cc nL own ret rm b) {n : Int} {v : Int32} (hd : decode cc pc = .ok (.iconst n, 1)) (hv : Int32.ofInt n = v) (k : Y Θ nL kc ks Q b cs (pc + 1) lv (.int v :: st)) : Y Θ nL kc ks Q b cs pc lv st := fun H locs ls hH hS hl => lv_iconst C.1 C.2.1 hd hv (k H locs ls hH hS hl)
theorem y_bipush (C : Yc Θ cc nL own ret rm b) {n : Int} {v : Int32} (hd : decode cc pc = .ok (.bipush n, 2)) (hv : (Int8.ofInt n).toInt32 = v) (k : Y Θ nL kc ks Q b cs (pc + 2) lv (.int v :: st)) : Y Θ nL kc ks Q b cs pc lv st := fun H locs ls hH hS hl => lv_bipush C.1 C.2.1 hd hv (k H locs ls hH hS hl)
theorem y_sipush (C : Yc Θ cc nL own ret rm b) {n : Int} {v : Int32} (hd : decode cc pc = .ok (.sipush n, 3)) (hv : (Int16.ofInt n).toInt32 = v) (k : Y Θ nL kc ks Q b cs (pc + 3) lv (.int v :: st)) : Y Θ nL kc ks Q b cs pc lv st := fun H locs ls hH hS hl => lv_sipush C.1 C.2.1 hd hv (k H locs ls hH hS hl)
theorem y_iload_n (C : Yc Θ cc nL own ret rm b) (q : Nat) {j : Fin 4} {i : Nat} {x : Int32} (hd : decode cc pc = .ok (.iload_n j, 1)) (hi : (j : Nat) = i) (hk : lv[q]? = some (i, .int x)) (k : Y Θ nL kc ks Q b cs (pc + 1) lv (.int x :: st)) : Y Θ nL kc ks Q b cs pc lv st := fun H locs ls hH hS hl => lv_iload_n C.1 C.2.1 hd hi (lv_at hl q hk) (k H locs ls hH hS hl)
theorem y_aload_n (C : Yc Θ cc nL own ret rm b) (q : Nat) {j : Fin 4} {i x : Nat} (hd : decode cc pc = .ok (.aload_n j, 1)) (hi : (j : Nat) = i) (hk : lv[q]? = some (i, .ref x)) (k : Y Θ nL kc ks Q b cs (pc + 1) lv (.ref x :: st)) : Y Θ nL kc ks Q b cs pc lv st := fun H locs ls hH hS hl => lv_aload_n C.1 C.2.1 hd hi (lv_at hl q hk) (k H locs ls hH hS hl)
theorem y_istore_n (C : Yc Θ cc nL own ret rm b) {j : Fin 4} {i : Nat} {x : Int32} (hd : decode cc pc = .ok (.istore_n j, 1)) (hi : (j : Nat) = i) (hn : i < nL) (hl' : (i, Value.int x) :: lv.filter (fun q => !(q.1 == i) && !(q.1 + 1 == i && q.2.category == 2)) = lv') (k : Y Θ nL kc ks Q b cs (pc + 1) lv' st) : Y Θ nL kc ks Q b cs pc lv (.int x :: st) := fun H locs ls hH hS hl => lv_istore_n C.1 C.2.1 hd hi hl hn hl' (fun ls h => k H locs ls hH hS h)
theorem y_iinc (C : Yc Θ cc nL own ret rm b) (q : Nat) {i : Nat} {n : Int} {x v : Int32} (hd : decode cc pc = .ok (.iinc i n, 3)) (hk : lv[q]? = some (i, .int x)) (hv : x + Int32.ofInt n = v) (hn : i < nL) (hl' : (i, Value.int v) :: lv.filter (fun q => !(q.1 == i) && !(q.1 + 1 == i && q.2.category == 2)) = lv') (k : Y Θ nL kc ks Q b cs (pc + 3) lv' st) : Y Θ nL kc ks Q b cs pc lv st := fun H locs ls hH hS hl => lv_iinc C.1 C.2.1 hd hl hk hv hn hl' (fun ls h => k H locs ls hH hS h)
theorem y_iadd (C : Yc Θ cc nL own ret rm b) {x y v : Int32} (hd : decode cc pc = .ok (.iadd, 1)) (hv : x + y = v) (k : Y Θ nL kc ks Q b cs (pc + 1) lv (.int v :: st)) : Y Θ nL kc ks Q b cs pc lv (.int y :: .int x :: st) := fun H locs ls hH hS hl => by subst hv; exact lv_iadd C.1 C.2.1 hd (k H locs ls hH hS hl)
theorem y_dup (C : Yc Θ cc nL own ret rm b) {v : Value} (hd : decode cc pc = .ok (.dup, 1)) (hc : v.category = 1) (k : Y Θ nL kc ks Q b cs (pc + 1) lv (v :: v :: st)) : Y Θ nL kc ks Q b cs pc lv (v :: st) := fun H locs ls hH hS hl => lv_dup C.1 C.2.1 hd hc (k H locs ls hH hS hl)
theorem y_goto (C : Yc Θ cc nL own ret rm b) {off : Int} (tgt : Nat) (hd : decode cc pc = .ok (.goto off, 3)) (ht : (pc : Int) + off = (tgt : Int)) (k : Y Θ nL kc ks Q b cs tgt lv st) : Y Θ nL kc ks Q b cs pc lv st := fun H locs ls hH hS hl => lv_goto C.1 C.2.1 hd ht (k H locs ls hH hS hl)
/-- a loop's test, decided -/
theorem y_geT (C : Yc Θ cc nL own ret rm b) {x y : Int32} {off : Int} (tgt : Nat) (hd : decode cc pc = .ok (.if_icmp .ge off, 3)) (ht : (pc : Int) + off = (tgt : Int)) (h : y ≤ x) (k : Y Θ nL kc ks Q b cs tgt lv st) : Y Θ nL kc ks Q b cs pc lv (.int y :: .int x :: st) := fun H locs ls hH hS hl => lv_icmp_ge C.1 C.2.1 hd ht (fun _ => k H locs ls hH hS hl) (fun n => absurd h n)
theorem y_geF (C : Yc Θ cc nL own ret rm b) {x y : Int32} {off : Int} (tgt : Nat) (hd : decode cc pc = .ok (.if_icmp .ge off, 3)) (ht : (pc : Int) + off = (tgt : Int)) (h : ¬ y ≤ x) (k : Y Θ nL kc ks Q b cs (pc + 3) lv st) : Y Θ nL kc ks Q b cs pc lv (.int y :: .int x :: st) := fun H locs ls hH hS hl => lv_icmp_ge C.1 C.2.1 hd ht (fun n => absurd n h) (fun _ => k H locs ls hH hS hl)
theorem y_objInit (C : Yc Θ cc nL own ret rm b) {idx a : Nat} (hlink : Cond.methodLink own idx objectInit ∈ TB) (hinst : Cond.instanceMethod objectInit ∈ TB) (hcode : Cond.code objectInit ⟨#[0xb1]⟩ 1 none ∈ TB) (hd : decode cc pc = .ok (.invokespecial idx, 3)) (hrm : 1 ≤ rm.frames ∧ 12 ≤ rm.locals) (k : Y Θ nL kc ks Q b cs (pc + 3) lv []) : Y Θ nL kc ks Q b cs pc lv [.ref a] := fun H locs ls hH hS hl => by
  obtain ⟨hx, hb, hml, hown, hts, hlk, hr, hrm2, hK, hA, hbs, hE, hO⟩ := id C
  refine W.objInit hx hb hown (hts _ hlink) (hts _ hinst) (hts _ hcode) rfl (by rw [hml]; exact hl.1) rfl hd (by rw [hrm2]; exact hrm.1) (by rw [hrm2]; exact hrm.2) ?_
  exact k H locs ls hH hS hl
theorem y_get (C : Yc Θ cc nL own ret rm b) {Cn : String} {T : u_T} {N ci idx : Nat} (hin : ∀ w ∈ u_ws Cn T N, w ∈ TB) (i : Nat) {fs : List Value} (hk : cs[i]? = some (.inr (ci, fs))) (hc : classes[ci]? = some (Cn, T, N)) (k : Nat) (hkN : k < N)
    (hlink : Cond.fieldLink own idx (T k).1 (T k).2.1 (T k).2.2.1 ∈ TB) {v : Value} (hv : fs[k]? = some v) (hd : decode cc pc = .ok (.getfield idx, 3))
    (kk : Y Θ nL kc ks Q b cs (pc + 3) lv (v :: st)) : Y Θ nL kc ks Q b cs pc lv (.ref (b + i) :: st) := by
  intro H locs ls hH hS hl
  obtain ⟨hx, hb, hml, hown, hts, hlk, hr, hrm, hK, hA, hbs, hE, hO⟩ := id C
  have hP : va_P Θ.2.2.2.2.2.1 classes [(b + i, .inr (ci, fs))] H := fun k q hq => by
    have h1 := hH.2 i _ hk
    match k, hq with
    | 0, hq => cases hq; exact h1
    | k + 1, hq => simp at hq
  exact va_get (own := own) (ref := (T k).1) hx hb hts hin hown hK.1 hP 0 rfl hc k hkN (hts _ hlink) (fun _ h => h) hv hd (kk H locs ls hH hS hl)
theorem y_put (C : Yc Θ cc nL own ret rm b) (hnm0 : Θ.2.2.1.1.name = "<init>") {T : u_T} {N ci idx : Nat} (hin : ∀ w ∈ u_ws own T N, w ∈ TB) {ty0 : Nat → FieldType} (hty : ∀ k, k < N → parseFieldDescriptor (T k).2.2.1 = some (ty0 k)) (hnm : ∀ a, a < N → ∀ b, b < N → a ≠ b → (T a).2.1 ≠ (T b).2.1)
    (i : Nat) {fs : List Value} (hk : cs[i]? = some (.inr (ci, fs))) (hc : classes[ci]? = some (own, T, N)) (k : Nat) (hkN : k < N)
    (hlink : Cond.fieldLink own idx (T k).1 (T k).2.1 (T k).2.2.1 ∈ TB) (hdecl : (T k).1 = own) {v : Value} (hn : narrow (ty0 k) v = v) (hfit : fits (ty0 k) v = true) (hl9 : k < fs.length) (hcs : cs.set i (.inr (ci, fs.set k v)) = cs') (hd : decode cc pc = .ok (.putfield idx, 3))
    (kk : Y Θ nL kc ks Q b cs' (pc + 3) lv st) : Y Θ nL kc ks Q b cs pc lv (v :: .ref (b + i) :: st) := by
  subst hcs
  intro H locs ls hH hS hl
  obtain ⟨hx, hb, hml, hown, hts, hlk, hr, hrm, hK, hA, hbs, hE, hO⟩ := id C
  have hap := va_apart (own := own) (s := Θ.2.1.1) (args := Θ.2.1.2.2.1) (D := Θ.2.2.2.2.2.1) hts hin ty0 hty hnm hK.1 hc
  obtain ⟨r, h1, cell, q1, q2, q3, q4⟩ := hH.2 i _ hk
  have hr0 : r = (own, T, N) := Option.some.inj (h1.symm.trans hc)
  subst hr0
  obtain ⟨hSl, hfc, kC, hkC, hkind⟩ := hK.1.1 ci _ hc
  obtain ⟨cf, kf, fi, f, hi, hsl⟩ := hSl k hkN
  have hlay := hts _ (hin _ (u_in_lay hkN))
  have hst := (u_facts hfc hkC (u_lays hts hin hkN) hi).1
  have key : ∀ (H' : Heap) (lc : List Loc), H'[b + i]? = some (cell.setSlot f.slot v) → H'.size = H.size → (∀ q, q ≠ b + i → H'[q]? = H[q]?) → zW Θ H' (locs ++ [⟨b + i, f.slot⟩]) kc ks Q (F0 Θ.2.1.2.1 (pc + 3) ls st) := by
    intro H' _ e1 e2 e3
    rw [hsl] at e1
    exact kk H' _ ls (hH.set hk ⟨_, hc, t_OB.to (V := updV (vp_V fs) k v) ⟨_, e1, q2, q3, t_set q4 hap hkN v⟩ (fun j _ => vp_updV_set hl9 v j)⟩ e2 e3) (hS.put e2 e3 (Nat.le_add_right b i)) hl
  by_cases hfin : (T k).2.2.2 = true
  · unfold u_lay at hlay
    rw [if_pos hfin] at hlay
    have hcf : Θ.2.1.2.1.cls = cf := by
      obtain ⟨_, _, c', _, _, _, -, -, hf', -, -, -, hown2, -⟩ := Cond.laysFinal_spec hlay
      have e1 : c' = cf := by have := hi.symm.trans hf'; simp at this; exact this.1.symm
      rw [hdecl] at hown2
      rw [← e1]; exact Option.some.inj (hown.symm.trans hown2)
    have h6 := u_fits hfc hkC hkind (Or.inr hlay) hi (hty k hkN) hn hfit
    exact W.putFinK hx hb hown (hts _ hlink) hi hst hcf hnm0 (by rw [q2]; exact h6) q1 q3 (by rw [hsl]; exact k2_hasslot (q4 k hkN)) rfl rfl hd fun H' e1 e2 e3 => key H' [] e1 e2 e3
  · unfold u_lay at hlay
    rw [if_neg hfin] at hlay
    have h6 := u_store hfc hkC hkind hlay hi (hty k hkN) hn hfit
    exact W.putK hx hb (f := f) ⟨hown, hts _ hlink, ⟨_, _, _, hi⟩, hst⟩ (by rw [q2]; exact h6) q1 q3 (by rw [hsl]; exact k2_hasslot (q4 k hkN)) rfl rfl hd fun H' e1 e2 e3 => key H' [] e1 e2 e3
theorem y_new (C : Yc Θ cc nL own ret rm b) {Cn : String} {T : u_T} {N ci idx : Nat} (hin : ∀ w ∈ u_ws Cn T N, w ∈ TB) {ty0 : Nat → FieldType} (hty : ∀ k, k < N → parseFieldDescriptor (T k).2.2.1 = some (ty0 k)) (hclink : Cond.classLink own idx Cn ∈ TB) (hinst : Cond.instantiable Cn N ∈ TB) (hini : Cond.initialized Cn ∈ TB) (hc : classes[ci]? = some (Cn, T, N)) {fs : List Value} (hfs : ∀ j, j < N → defaultValue (ty0 j) = vp_V fs j) {n : Nat} (hn : cs.length = n) (hcs : cs ++ [.inr (ci, fs)] = cs') (hrm : kc + 1 ≤ rm.cells ∧ ks + N ≤ rm.slots) (hd : decode cc pc = .ok (.new idx, 3))
    (kk : Y Θ nL (kc + 1) (ks + N) Q b cs' (pc + 3) lv (.ref (b + n) :: st)) : Y Θ nL kc ks Q b cs pc lv st := by
  subst hcs; subst hn
  intro H locs ls hH hS hl
  obtain ⟨hx, hb, hml, hown, hts, hlk, hr, hrm2, hK, hA, hbs, hE, hO⟩ := id C
  have hKn := hK.1.1 ci _ hc
  refine W.newcK hx hb hown (hts _ hclink) (hts _ hinst) (hts _ hini) rfl hd (by rw [hrm2]; exact hrm.1) (by rw [hrm2]; exact hrm.2) hKn.2.1 hH.1 fun H1 kC hkC e1 z1 o1 => ?_
  exact kk H1 locs ls (hH.push ⟨_, hc, (u_born ty0 hts hin hKn hkC e1 hty).to hfs⟩ (by rw [z1, hH.1]) (fun q hq => o1 q (by rw [← hH.1]; exact hq))) ⟨Nat.le_trans hS.1 (by rw [z1, ← hH.1]; omega), fun x h1 h2 => (o1 x (by rw [← hH.1]; exact Nat.lt_of_lt_of_le h1 hS.1)).trans (hS.2.1 x h1 h2), hS.2.2⟩ hl
theorem y_newa (C : Yc Θ cc nL own ret rm b) (harr : Cond.arrayClass .int ∈ TB) {m9 : Int32} {N n : Nat} (hm : ¬ m9 < 0) (hN : m9.toNatClampNeg = N) (hbytes : N * componentBytes .int ≤ 536870912) (hn : cs.length = n) (hcs : cs ++ [.inl (Θ.2.2.2.2.2.2.1.1, N, .inl (fun _ => 0))] = cs') (hrm : kc + 1 ≤ rm.cells ∧ ks + N ≤ rm.slots) (hd : decode cc pc = .ok (.newarray .int, 2))
    (kk : Y Θ nL (kc + 1) (ks + N) Q b cs' (pc + 2) lv (.ref (b + n) :: st)) : Y Θ nL kc ks Q b cs pc lv (.int m9 :: st) := by
  subst hcs; subst hn
  intro H locs ls hH hS hl
  obtain ⟨hx, hb, hml, hown, hts, hlk, hr, hrm2, hK, hA, hbs, hE, hO⟩ := id C
  refine va_newaK (atype := .int) hx hb (hts _ harr) rfl hd rfl hm hN hbytes (by rw [hrm2]; exact hrm.1) (by rw [hrm2]; exact hrm.2) hH.1 fun H1 cA e1 z1 o1 hAr hNm => ?_
  have hcA : cA = Θ.2.2.2.2.2.2.1.1 := Option.some.inj (hNm.symm.trans (hK.1.2 0 _ rfl).2)
  subst hcA
  exact kk H1 locs ls (hH.push e1 (by rw [z1, hH.1]) (fun q hq => o1 q (by rw [← hH.1]; exact hq))) ⟨Nat.le_trans hS.1 (by rw [z1, ← hH.1]; omega), fun x h1 h2 => (o1 x (by rw [← hH.1]; exact Nat.lt_of_lt_of_le h1 hS.1)).trans (hS.2.1 x h1 h2), hS.2.2⟩ hl
theorem y_ast (C : Yc Θ cc nL own ret rm b) (i : Nat) {n : Nat} {f : Nat → Int32} (hk : cs[i]? = some (.inl (Θ.2.2.2.2.2.2.1.1, n, .inl f))) {j x : Int32} (hin : ¬ (j < 0 ∨ n ≤ j.toNatClampNeg)) (hcs : cs.set i (.inl (Θ.2.2.2.2.2.2.1.1, n, .inl (upd f j.toNatClampNeg x))) = cs') (hd : decode cc pc = .ok (.iastore, 1))
    (kk : Y Θ nL kc ks Q b cs' (pc + 1) lv st) : Y Θ nL kc ks Q b cs pc lv (.int x :: .int j :: .ref (b + i) :: st) := by
  subst hcs
  intro H locs ls hH hS hl
  obtain ⟨hx, hb, hml, hown, hts, hlk, hr, hrm2, hK, hA, hbs, hE, hO⟩ := id C
  refine W.iast hx hb (hH.2 i _ hk) ((hK.1.2 0 _ rfl).1 n (fun j => .int (f j))) (fun q => by cases q) (by show ¬ (j < 0 ∨ (arrV _ _ _).slots.size ≤ _); rw [arrV_size]; exact hin) rfl rfl hd fun H1 e z oq => ?_
  refine kk H1 _ ls (hH.set hk ?_ z oq) (hS.put z oq (Nat.le_add_right b i)) hl
  show H1[_]? = some (vp_cell _ _)
  rw [e, vp_cell_i]
  show _ = some (vp_cell Θ.2.2.2.2.2.2.1.1 (n, Sum.inl (upd f j.toNatClampNeg x)))
  rw [vp_cell_i, arrV_store]
  congr 2
  funext q
  by_cases hq : q = j.toNatClampNeg
  · subst hq
    simp [updV, upd]
  · simp [updV, upd, hq]
theorem y_newq (C : Yc Θ cc nL own ret rm b) {idx : Nat} (hclink : Cond.classLink own idx "LastLoaf$Village" ∈ TB) {m9 : Int32} {N n : Nat} (hm : ¬ m9 < 0) (hN : m9.toNatClampNeg = N) (hbytes : N * 4 ≤ 536870912) (hn : cs.length = n) (hcs : cs ++ [.inl (Θ.2.2.2.2.2.2.1.2, N, .inr (.inr (.inr (.inr (fun _ => none)))))] = cs') (hrm : kc + 1 ≤ rm.cells ∧ ks + N ≤ rm.slots) (hd : decode cc pc = .ok (.anewarray idx, 3))
    (kk : Y Θ nL (kc + 1) (ks + N) Q b cs' (pc + 3) lv (.ref (b + n) :: st)) : Y Θ nL kc ks Q b cs pc lv (.int m9 :: st) := by
  subst hcs; subst hn; subst hN
  intro H locs ls hH hS hl
  obtain ⟨hx, hb, hml, hown, hts, hlk, hr, hrm2, hK, hA, hbs, hE, hO⟩ := id C
  refine W.anew hx hb hown (hts _ hclink) (va_AO.use hO) rfl hd rfl hm hbytes (by rw [hrm2]; exact hrm.1) (by rw [hrm2]; exact hrm.2) fun cA kA comp f1 f2 f3 f4 => ?_
  generalize hH1 : H.push ({ cls := cA, slots := Array.replicate m9.toNatClampNeg .null, vm := .none } : Cell) = H1
  have z1 : H1.size = H.size + 1 := by rw [← hH1, Array.size_push]
  have e1 : H1[H.size]? = some (arrV cA m9.toNatClampNeg (fun _ => .null)) := by rw [← hH1, Array.getElem?_push_size, ← arrV_new]
  have o1 : ∀ q : Nat, q < H.size → H1[q]? = H[q]? := fun q hq => by rw [← hH1, Array.getElem?_push, if_neg (Nat.ne_of_lt hq)]
  obtain ⟨kA2, comp2, g1, g2, g3, g4⟩ := (hK.1.2 1 _ rfl).2
  have hcA : cA = Θ.2.2.2.2.2.2.1.2 := Option.some.inj (f1.symm.trans g4)
  subst hcA
  rw [hH.1] at e1
  have hp := hH.push (e := .inl (Θ.2.2.2.2.2.2.1.2, m9.toNatClampNeg, .inr (.inr (.inr (.inr (fun _ => none)))))) e1 z1 o1
  show W _ _ _ _ _ _ _ _ _ _ H1 _ _ _ _ (F0 _ _ _ (.ref H.size :: st))
  rw [hH.1]
  exact kk H1 locs ls hp ⟨Nat.le_trans hS.1 (by rw [z1]; omega), fun x h1 h2 => (o1 x (Nat.lt_of_lt_of_le h1 hS.1)).trans (hS.2.1 x h1 h2), hS.2.2⟩ hl
theorem y_astq (C : Yc Θ cc nL own ret rm b) (i v : Nat) {n : Nat} {f : Nat → Option Nat} {vs : List Value} (hk : cs[i]? = some (.inl (Θ.2.2.2.2.2.2.1.2, n, .inr (.inr (.inr (.inr f)))))) (hv : cs[v]? = some (.inr (10, vs))) {j : Int32} (hin : ¬ (j < 0 ∨ n ≤ j.toNatClampNeg)) (hcs : cs.set i (.inl (Θ.2.2.2.2.2.2.1.2, n, .inr (.inr (.inr (.inr (va_up f j.toNatClampNeg (some (b + v)))))))) = cs') (hd : decode cc pc = .ok (.aastore, 1))
    (kk : Y Θ nL kc ks Q b cs' (pc + 1) lv st) : Y Θ nL kc ks Q b cs pc lv (.ref (b + v) :: .int j :: .ref (b + i) :: st) := by
  subst hcs
  intro H locs ls hH hS hl
  obtain ⟨hx, hb, hml, hown, hts, hlk, hr, hrm2, hK, hA, hbs, hE, hO⟩ := id C
  have hlt : j.toNatClampNeg < n := Nat.not_le.mp fun q => hin (Or.inr q)
  have h0 : ¬ j < 0 := fun q => hin (Or.inl q)
  have hc10 : classes[10]? = some (RX10, TX10, 17) := rfl
  obtain ⟨r', hr', cellV, g1, g2, g3, -⟩ := hH.2 v _ hv
  have hcls := (hK.1.1 10 _ hc10).2
  obtain ⟨kA, comp, k1, k2, k3, -⟩ := (hK.1.2 1 _ rfl).2
  have hcomp : comp = Θ.2.2.2.2.2.1.1 10 := Option.some.inj (k3.symm.trans hcls.1)
  subst hcomp
  obtain ⟨kC, hkC, -⟩ := hcls.2
  refine W.aast hx hb (hH.2 i _ hk) (fun q h => by cases h) (fun h => by cases h) k1 k2 rfl hkC ⟨h0, by show _ < (arrV _ _ _).slots.size; rw [arrV_size]; exact hlt⟩ g1 (fun q h => by rw [g3] at h; cases h) (by rw [g2]; exact hkC) (by rw [g2]; exact va_assign hcls) rfl rfl hd fun H1 e z oq => ?_
  refine kk H1 _ ls (hH.set hk ?_ z oq) (hS.put z oq (Nat.le_add_right b i)) hl
  show H1[_]? = some (vp_cell _ _)
  rw [e]
  rw [vp_cell_q, vp_cell_q, arrV_store]
  congr 2
  funext q
  by_cases hq : q = j.toNatClampNeg
  · subst hq
    simp [updV, va_up, va_rf]
  · simp [updV, va_up, hq]
theorem y_vret (C : Yc Θ cc nL own none rm b) (hk : kc ≤ mc ∧ ks ≤ ms) (hd : decode cc pc = .ok (.return_, 1)) : Y Θ nL kc ks (yQ Θ b cs mc ms) b cs pc lv [] := fun H locs ls hH hS hl =>
  W.widen hk.1 hk.2 (W.vret C.1 C.2.1 C.2.2.2.2.2.2.1 (fun t ht hW => ⟨⟨rfl, by rw [ht]; exact hH⟩, hS.F ht⟩) hS.2.2 hd C.2.2.2.2.2.1)
theorem y_after {a : Array Value} {mc2 ms2 : Nat} (C : Yc Θ cc nL own ret rm b) {H : Heap} {locs : List Loc} {ls : Array Slot} (hS : va_S (aB b) Θ.2.1.1.heap H locs) (hl : lv_has ls nL lv)
    (hr : va_Run Θ.1.1 Θ.1.2.1 Θ.1.2.2.1 Θ.1.2.2.2 Θ.2.1.1 Θ.2.1.2.1 Θ.2.1.2.2.1 Θ.2.1.2.2.2 Θ.2.2.1.1 Θ.2.2.1.2 H locs kc ks mc2 ms2 (F0 Θ.2.1.2.1 pc ls st0) st (Qy Θ.2.2.2.2.2 b cs' a) (aB b))
    (kk : Y Θ nL (kc + mc2) (ks + ms2) Q b cs' (pc + 3) lv st) : zW Θ H locs kc ks Q (F0 Θ.2.1.2.1 pc ls st0) := by
  intro T hT X
  obtain ⟨v, st₀, t, T', L, h0, X', hL, e1, e2, ⟨⟨hv, hb⟩, hz, hk⟩, hst⟩ := hr T hT X
  cases hv
  rw [h0] at hz hk
  obtain ⟨t2, a1, b1⟩ := kk T'.heap (locs ++ L) ls (by rw [e1]; exact hb) ⟨Nat.le_trans hS.1 (by rw [e1]; exact hz), fun q h1 h2 => by rw [e1, hk q (Nat.lt_of_lt_of_le h1 hS.1) h2]; exact hS.2.1 q h1 h2, fun q hq => by
      rcases List.mem_append.mp hq with h | h
      · exact hS.2.2 q h
      · exact hL q h⟩ hl T' rfl X'
  exact ⟨t2, hst t2 a1, b1⟩
theorem y_pre (C : Yc Θ cc nL own ret rm b) {H : Heap} {locs : List Loc} (hS : va_S (aB b) Θ.2.1.1.heap H locs) (hH : HB Θ.2.2.2.2.2 b cs H) {av : List Value} :
    ∀ U : State, U.heap = H → Θ.2.1.1.WarmedH U.vm → yP Θ.2.2.2.2.2 b cs av av.toArray U := fun U hU hW => by
  obtain ⟨hx, hb0, hml, hown, hts, hlk, hrr, hrmm, hK, hA, hbs, hE, hO⟩ := id C
  exact ⟨rfl, by rw [hU]; exact hH, KK.warm hW hK, by rw [hU]; exact SX.warm hW (hE.kept hS.2.1), hO.moved hW.alike⟩
/-- invokespecial of a constructor -/
theorem y_callI (C : Yc Θ cc nL own ret rm b) {y : MethodName} {c2 : ByteArray} {n2 idx mc2 ms2 : Nat} {rm2 : Room} (i : Nat) (av : List Value) (n : Nat) (hM : yM Θ.1.2.1 Θ.2.2.2.2.2 y c2 n2 rm2 (.ref (b + i) :: av) b cs cs' mc2 ms2)
    (hcode : Cond.code y c2 n2 none ∈ TB) (hlink : Cond.methodLink own idx y ∈ TB) (hinst : Cond.instanceMethod y ∈ TB) (hini : Cond.initialized y.cls ∈ TB) (hyn : y.name = "<init>") (hrm : rm2.cells = mc2 ∧ rm2.slots = ms2 ∧ rm2.frames + 1 ≤ rm.frames ∧ 8 + (n2 + 11) + rm2.locals ≤ rm.locals)
    (hy : y.cls ≠ "java/lang/invoke/MethodHandle" ∧ y.cls ≠ "java/lang/invoke/VarHandle" ∧ (parseMethodDescriptor y.desc).map (fun d => d.parameters.length) = some n) (hn : av.length = n) (hst : st0 = av.reverse ++ .ref (b + i) :: st) (hcat : (st.map fun v => v.category).sum ≤ 8) (hk : kc + mc2 ≤ rm.cells ∧ ks + ms2 ≤ rm.slots)
    (hd : decode cc pc = .ok (.invokespecial idx, 3)) (kk : Y Θ nL (kc + mc2) (ks + ms2) Q b cs' (pc + 3) lv st) : Y Θ nL kc ks Q b cs pc lv st0 := by
  intro H locs ls hH hS hl
  obtain ⟨hx, hb0, hml, hown, hts, hlk, hrr, hrmm, hK, hA, hbs, hE, hO⟩ := id C
  have hts2 : ∀ w ∈ (Cond.code y c2 n2 none :: TB), w.before Θ.2.1.2.2.1 Θ.2.1.1 = true := fun w hw => (List.mem_cons.mp hw).elim (fun e => by rw [e]; exact hts _ hcode) (hts w)
  subst hst
  have cw := callB_of (R := Θ.1.2.2.2) (own := own) (index := idx) n hts2 (tb_GoodIn hcode) rfl hrm.1 hrm.2.1 (hts _ hini) (hts _ hlink) hy (by rw [hrmm]; exact ⟨hrm.2.2.1, hrm.2.2.2⟩)
  exact y_after C hS hl (va_runI (rest := st) ⟨hx, hb0, hml, hown, hts⟩ hM ⟨cw, hyn, hts _ hinst⟩ ⟨yP_blind, y_pre C hS hH⟩ rfl hn hl.1 rfl (lv_room hcat) hd (by rw [hrmm]; exact hk)) kk
theorem y_callIN (C : Yc Θ cc nL own ret rm b) {y : MethodName} {c2 : ByteArray} {n2 idx mc2 ms2 : Nat} {rm2 : Room} {host : String} (i : Nat) (av : List Value) (n : Nat) (hM : yM Θ.1.2.1 Θ.2.2.2.2.2 y c2 n2 rm2 (.ref (b + i) :: av) b cs cs' mc2 ms2)
    (hcode : Cond.code y c2 n2 none ∈ TB) (hlink : Cond.methodLinkNest own idx y host ∈ nestW) (hinst : Cond.instanceMethod y ∈ TB) (hini : Cond.initialized y.cls ∈ TB) (hyn : y.name = "<init>") (hrm : rm2.cells = mc2 ∧ rm2.slots = ms2 ∧ rm2.frames + 1 ≤ rm.frames ∧ 8 + (n2 + 11) + rm2.locals ≤ rm.locals)
    (hy : y.cls ≠ "java/lang/invoke/MethodHandle" ∧ y.cls ≠ "java/lang/invoke/VarHandle" ∧ (parseMethodDescriptor y.desc).map (fun d => d.parameters.length) = some n) (hn : av.length = n) (hst : st0 = av.reverse ++ .ref (b + i) :: st) (hcat : (st.map fun v => v.category).sum ≤ 8) (hk : kc + mc2 ≤ rm.cells ∧ ks + ms2 ≤ rm.slots)
    (hd : decode cc pc = .ok (.invokespecial idx, 3)) (kk : Y Θ nL (kc + mc2) (ks + ms2) Q b cs' (pc + 3) lv st) : Y Θ nL kc ks Q b cs pc lv st0 := by
  intro H locs ls hH hS hl
  obtain ⟨hx, hb0, hml, hown, hts, hlk, hrr, hrmm, hK, hA, hbs, hE, hO⟩ := id C
  have hts2 : ∀ w ∈ (Cond.code y c2 n2 none :: TB), w.before Θ.2.1.2.2.1 Θ.2.1.1 = true := fun w hw => (List.mem_cons.mp hw).elim (fun e => by rw [e]; exact hts _ hcode) (hts w)
  subst hst
  have cw := va_cnB (R := Θ.1.2.2.2) (own := own) (index := idx) (host := host) n hts2 (tb_GoodIn hcode) rfl hrm.1 hrm.2.1 (hK.2.1 _ hlink) (hts _ hini) hy (by rw [hrmm]; exact ⟨hrm.2.2.1, hrm.2.2.2⟩)
  exact y_after C hS hl (va_runIN (rest := st) ⟨hx, hb0, hml, hown, hts⟩ hM ⟨cw, hyn, hts _ hinst⟩ ⟨yP_blind, y_pre C hS hH⟩ rfl hn hl.1 rfl (lv_room hcat) hd (by rw [hrmm]; exact hk)) kk
theorem y_callS (C : Yc Θ cc nL own ret rm b) {y : MethodName} {c2 : ByteArray} {n2 idx mc2 ms2 : Nat} {rm2 : Room} (av : List Value) (n : Nat) (hM : yM Θ.1.2.1 Θ.2.2.2.2.2 y c2 n2 rm2 av b cs cs' mc2 ms2)
    (hcode : Cond.code y c2 n2 none ∈ TB) (hlink : Cond.methodLink own idx y ∈ TB) (hstat : Cond.static y ∈ TB) (hini : Cond.initialized y.cls ∈ TB) (hrm : rm2.cells = mc2 ∧ rm2.slots = ms2 ∧ rm2.frames + 1 ≤ rm.frames ∧ 8 + (n2 + 11) + rm2.locals ≤ rm.locals)
    (hy : y.cls ≠ "java/lang/invoke/MethodHandle" ∧ y.cls ≠ "java/lang/invoke/VarHandle" ∧ (parseMethodDescriptor y.desc).map (fun d => d.parameters.length) = some n) (hn : av.length = n) (hst : st0 = av.reverse ++ st) (hcat : (st.map fun v => v.category).sum ≤ 8) (hk : kc + mc2 ≤ rm.cells ∧ ks + ms2 ≤ rm.slots)
    (hd : decode cc pc = .ok (.invokestatic idx, 3)) (kk : Y Θ nL (kc + mc2) (ks + ms2) Q b cs' (pc + 3) lv st) : Y Θ nL kc ks Q b cs pc lv st0 := by
  intro H locs ls hH hS hl
  obtain ⟨hx, hb0, hml, hown, hts, hlk, hrr, hrmm, hK, hA, hbs, hE, hO⟩ := id C
  have hts2 : ∀ w ∈ (Cond.code y c2 n2 none :: TB), w.before Θ.2.1.2.2.1 Θ.2.1.1 = true := fun w hw => (List.mem_cons.mp hw).elim (fun e => by rw [e]; exact hts _ hcode) (hts w)
  subst hst
  have cw := callB_of (R := Θ.1.2.2.2) (own := own) (index := idx) n hts2 (tb_GoodIn hcode) rfl hrm.1 hrm.2.1 (hts _ hini) (hts _ hlink) hy (by rw [hrmm]; exact ⟨hrm.2.2.1, hrm.2.2.2⟩)
  exact y_after C hS hl (va_runS (rest := st) ⟨hx, hb0, hml, hown, hts⟩ hM ⟨cw, hts _ hstat⟩ ⟨yP_blind, y_pre C hS hH⟩ rfl hn hl.1 rfl (lv_room hcat) hd (by rw [hrmm]; exact hk)) kk
theorem y_alen (C : Yc Θ cc nL own ret rm b) (i : Nat) {n : Nat} {f : Nat → Int32} (hk : cs[i]? = some (.inl (Θ.2.2.2.2.2.2.1.1, n, .inl f))) {v : Int32} (hv : Int32.ofNat n = v) (hd : decode cc pc = .ok (.arraylength, 1)) (kk : Y Θ nL kc ks Q b cs (pc + 1) lv (.int v :: st)) : Y Θ nL kc ks Q b cs pc lv (.ref (b + i) :: st) := by
  intro H locs ls hH hS hl
  obtain ⟨hx, hb, hml, hown, hts, hlk, hr, hrm, hK, hA, hbs, hE, hO⟩ := id C
  have hP : va_P Θ.2.2.2.2.2.1 classes [(b + i, .inl (Θ.2.2.2.2.2.2.1.1, n, .inl f))] H := fun k q hq => by
    have h1 := hH.2 i _ hk
    match k, hq with
    | 0, hq => cases hq; exact h1
    | k + 1, hq => simp at hq
  exact va_alen hx hb hK.1 hP 0 0 rfl rfl hv hd (kk H locs ls hH hS hl)
theorem y_cs (h : cs = cs') (k : Y Θ nL kc ks Q b cs' pc lv st) : Y Θ nL kc ks Q b cs pc lv st := by rw [h]; exact k
theorem y_lv (h : lv = lv') (k : Y Θ nL kc ks Q b cs pc lv' st) : Y Θ nL kc ks Q b cs pc lv st := by rw [h]; exact k
end
section
variable {Q T T' L L' C : List va_E} {n k : Nat} {x y : va_E} {ci : Nat} {fs fs' : List Value}
theorem cq_get0 (hQ : Q.length = n) : (Q ++ x :: T)[n]? = some x := by
  subst hQ
  rw [List.getElem?_append_right (Nat.le_refl _), Nat.sub_self]; rfl
theorem cq_get (hQ : Q.length = n) (h : L[k]? = some x) : (Q ++ L)[n + k]? = some x := by
  subst hQ
  rw [List.getElem?_append_right (Nat.le_add_right _ _), Nat.add_sub_cancel_left, h]
theorem cq_set0 (hQ : Q.length = n) : (Q ++ x :: T).set n y = Q ++ y :: T := by
  subst hQ
  rw [List.set_append_right _ _ (Nat.le_refl _), Nat.sub_self]; rfl
theorem cq_put (hQ : Q.length = n) (h : .inr (ci, fs) = y) : (Q ++ x :: T).set n (.inr (ci, fs)) = Q ++ y :: T := by rw [h]; exact cq_set0 hQ
theorem cq_set (hQ : Q.length = n) (h : L.set k x = L') : (Q ++ L).set (n + k) x = Q ++ L' := by
  subst hQ
  rw [List.set_append_right _ _ (Nat.le_add_right _ _), Nat.add_sub_cancel_left, h]
theorem cq_len (hQ : Q.length = n) (hL : L.length = k) : (Q ++ L).length = n + k := by rw [List.length_append, hQ, hL]
theorem cq_app : (Q ++ y :: T) ++ C = Q ++ y :: (T ++ C) := by rw [List.append_assoc]; rfl
end
def fl9 (f : Nat → Int32) (n : Nat) (x : Int32) : Nat → Int32 := fun j => if j < n then x else f j
theorem fl9_0 {f : Nat → Int32} {x : Int32} : fl9 f 0 x = f := by funext j; simp [fl9]
theorem fl9_up {f : Nat → Int32} {m : Nat} {x : Int32} : upd (fl9 f m x) m x = fl9 f (m + 1) x := by
  funext j
  by_cases hj : j = m
  · subst hj; simp [upd, fl9]
  · have : (j < m + 1) = (j < m) := by apply propext; omega
    simp [upd, fl9, hj, this]
theorem cs_setset {α : Type} {l : List α} {i : Nat} {a : α} (h : l[i]? = some a) : l.set i a = l := by
  apply List.ext_getElem?
  intro j
  by_cases hj : i = j
  · subst hj; rw [List.getElem?_set_self (List.getElem?_eq_some_iff.mp h).1, h]
  · rw [List.getElem?_set_ne hj]
set_option maxHeartbeats 4000000 in
theorem yJ_fill {l : Launch} {w : Wp} {b i n : Nat} {cs : List va_E} {f : Nat → Int32} {x : Int32} (hk : cs[i]? = some (.inl (w.2.1.1, n, .inl f))) (hn : n < 2 ^ 31) : yM l w yJ7_fill_53178 cJ7_fill_53178 4 rmJ_fill [.ref (b + i), .int x] b cs (cs.set i (.inl (w.2.1.1, n, .inl (fl9 f n x)))) 0 0 := yM_of rfl (Nat.le_of_ble_eq_true rfl) (fun Θ _ hw C _ => by
  subst hw
  refine y_iconst (v := 0) C dJ7_fill_53178_0 ic_0 ?_
  refine y_istore_n C dJ7_fill_53178_1 rfl (Nat.le_of_ble_eq_true rfl) rfl ?_
  refine y_aload_n C 1 dJ7_fill_53178_2 rfl rfl ?_
  refine y_alen C i hk rfl dJ7_fill_53178_3 ?_
  refine y_istore_n C dJ7_fill_53178_4 rfl (Nat.le_of_ble_eq_true rfl) rfl ?_
  have hlen : i < cs.length := (List.getElem?_eq_some_iff.mp hk).1
  have K : ∀ (d m : Nat), m + d = n → Y Θ 4 0 0 (yQ Θ b (cs.set i (.inl (Θ.2.2.2.2.2.2.1.1, n, .inl (fl9 f n x)))) 0 0) b (cs.set i (.inl (Θ.2.2.2.2.2.2.1.1, n, .inl (fl9 f m x)))) 5 [(3, .int (Int32.ofNat n)), (2, .int (nI m)), (0, .ref (b + i)), (1, .int x)] [] := by
    intro d
    induction d with
    | zero =>
      intro m hm
      rw [Nat.add_zero] at hm
      subst hm
      refine y_iload_n C 1 dJ7_fill_53178_5 rfl rfl ?_
      refine y_iload_n C 0 dJ7_fill_53178_6 rfl rfl ?_
      refine y_geT C 20 dJ7_fill_53178_7 (by decide) (Int32.not_lt.mp (nI_nlt (Nat.le_refl _) hn)) ?_
      exact y_vret C ⟨Nat.le_refl _, Nat.le_refl _⟩ dJ7_fill_53178_20
    | succ d ih =>
      intro m hm
      refine y_iload_n C 1 dJ7_fill_53178_5 rfl rfl ?_
      refine y_iload_n C 0 dJ7_fill_53178_6 rfl rfl ?_
      refine y_geF C 20 dJ7_fill_53178_7 (by decide) (Int32.not_le.mpr (nI_lt (by omega) hn)) ?_
      refine y_aload_n C 2 dJ7_fill_53178_10 rfl rfl ?_
      refine y_iload_n C 1 dJ7_fill_53178_11 rfl rfl ?_
      refine y_iload_n C 3 dJ7_fill_53178_12 rfl rfl ?_
      refine y_ast C i (List.getElem?_set_self hlen) (vp_in_nI (by omega) hn) rfl dJ7_fill_53178_13 ?_
      rw [nI_clamp (by omega), fl9_up, List.set_set]
      refine y_iinc (v := nI (m + 1)) C 1 dJ7_fill_53178_14 rfl (by rw [ic_1]; exact nI_1 m) (Nat.le_of_ble_eq_true rfl) rfl ?_
      refine y_goto C 5 dJ7_fill_53178_17 (by decide) ?_
      intro H locs ls hH hS hl
      exact ih (m + 1) (by omega) H locs ls hH hS (lv_sub hl [1, 0, 2, 3] rfl)
  have h := K n 0 (Nat.zero_add _)
  rw [fl9_0, cs_setset hk] at h
  exact h)

/-! CORE 2: fields, rows, calls, ends -/
theorem HW.upd {kd : List KD} {w : Wp} {σ : St} {H H1 : Heap} (h : HW kd w σ H) (hi : ∀ i j, i < kd.length → j < kd.length → w.2.2.1 i = w.2.2.1 j → i = j) {i : Nat} {k : KD} (hk : kd[i]? = some k) {σ' : St} (hs : ∀ j, j ≠ i → σ' j = σ j)
    (hn : va_at w.1 classes (w.2.2.1 i, cellOf w.2.2.1 w.2.1.1 w.2.1.2 (σ' i) k) H1) (ho : ∀ q : Nat, q ≠ w.2.2.1 i → H1[q]? = H[q]?) : HW kd w σ' H1 := by
  intro j kj hj
  by_cases e : j = i
  · subst e
    cases hk.symm.trans hj
    exact hn
  · rw [hs j e]
    refine (h j kj hj).kept (ho _ fun q => e ?_)
    exact hi j i (List.getElem?_eq_some_iff.mp hj).1 (List.getElem?_eq_some_iff.mp hk).1 q
theorem HW.kept {kd : List KD} {w : Wp} {σ : St} {H H1 : Heap} (h : HW kd w σ H) (ho : ∀ i, i < kd.length → H1[w.2.2.1 i]? = H[w.2.2.1 i]?) : HW kd w σ H1 := fun i k hk => (h i k hk).kept (ho i (List.getElem?_eq_some_iff.mp hk).1)
theorem cls_fld {C : String} {T : u_T} {N : Nat} (hin : ∀ w ∈ u_ws C T N, w ∈ TB) {a : Array Value} {s : State} (h : ∀ w ∈ TB, w.before a s = true) : ∀ w ∈ u_ws C T N, w.before a s = true := fun w hw => h w (hin w hw)
section
variable {Θ : Tz} {cc : ByteArray} {nL kc ks : Nat} {own : String} {ret : Option FieldType} {rm : Room} {Q : State → Prop} {σ : St} {pc : Nat} {lv lv' : List (Nat × Value)} {st : List Value}
/-- getfield -/
theorem z_get (C : Zc Θ cc nL own ret rm) {Cn : String} {T : u_T} {N ci idx : Nat} (hin : ∀ w ∈ u_ws Cn T N, w ∈ TB) (i : Nat) {fl : List (Option Nat)} (hk : Θ.2.2.2.2.1[i]? = some (.inr (.inl (ci, fl)))) (hc : classes[ci]? = some (Cn, T, N)) (k : Nat) (hkN : k < N)
    (hlink : Cond.fieldLink own idx (T k).1 (T k).2.1 (T k).2.2.1 ∈ TB) {v : Value} (hv : (fvals Θ.2.2.2.2.2.2.2.1 (σ i) 0 fl)[k]? = some v) (hd : decode cc pc = .ok (.getfield idx, 3))
    (kk : Z Θ nL kc ks Q σ (pc + 3) lv (v :: st)) : Z Θ nL kc ks Q σ pc lv (.ref (Θ.2.2.2.2.2.2.2.1 i) :: st) := by
  intro H locs ls hH hS hl
  obtain ⟨hx, hb, hml, hown, hts, hlk, hr, hrm, hK, hinj, hA, hA2, hE⟩ := id C
  have hP : va_P Θ.2.2.2.2.2.1 classes [(Θ.2.2.2.2.2.2.2.1 i, .inr (ci, fvals Θ.2.2.2.2.2.2.2.1 (σ i) 0 fl))] H := fun k q hq => by
    have h1 := hH i _ hk
    match k, hq with
    | 0, hq => cases hq; exact h1
    | k + 1, hq => simp at hq
  exact va_get (own := own) (ref := (T k).1) hx hb hts hin hown hK.1 hP 0 rfl hc k hkN (hts _ hlink) (fun _ h => h) hv hd (kk H locs ls hH hS hl)
/-- putfield of an int into a field that is not final -/
theorem z_put (C : Zc Θ cc nL own ret rm) {Cn : String} {T : u_T} {N ci idx : Nat} (hin : ∀ w ∈ u_ws Cn T N, w ∈ TB) {ty0 : Nat → FieldType} (hty : ∀ k, k < N → parseFieldDescriptor (T k).2.2.1 = some (ty0 k)) (hnm : ∀ a, a < N → ∀ b, b < N → a ≠ b → (T a).2.1 ≠ (T b).2.1)
    (i : Nat) {fl : List (Option Nat)} (hk : Θ.2.2.2.2.1[i]? = some (.inr (.inl (ci, fl)))) (hc : classes[ci]? = some (Cn, T, N)) (k : Nat) (hkN : k < N)
    (hlink : Cond.fieldLink own idx (T k).1 (T k).2.1 (T k).2.2.1 ∈ TB) (hfin : (T k).2.2.2 = false) (hfl : fl[k]? = some none) {x : Int32} (hn : narrow (ty0 k) (.int x) = .int x) (hfit : fits (ty0 k) (.int x) = true) (hd : decode cc pc = .ok (.putfield idx, 3))
    (kk : Z Θ nL kc ks Q (up σ i k x) (pc + 3) lv st) : Z Θ nL kc ks Q σ pc lv (.int x :: .ref (Θ.2.2.2.2.2.2.2.1 i) :: st) := by
  intro H locs ls hH hS hl
  obtain ⟨hx, hb, hml, hown, hts, hlk, hr, hrm, hK, hinj, hA, hA2, hE⟩ := id C
  have hap := va_apart (own := own) (s := Θ.2.1.1) (args := Θ.2.1.2.2.1) (D := Θ.2.2.2.2.2.1) hts hin ty0 hty hnm hK.1 hc
  obtain ⟨r, h1, cell, q1, q2, q3, q4⟩ := hH i _ hk
  have hr0 : r = (Cn, T, N) := Option.some.inj (h1.symm.trans hc)
  subst hr0
  obtain ⟨hSl, hfc, kC, hkC, hkind⟩ := hK.1.1 ci _ hc
  obtain ⟨cf, kf, fi, f, hi, hsl⟩ := hSl k hkN
  have hlay := hts _ (hin _ (u_in_lay hkN))
  unfold u_lay at hlay
  rw [if_neg (by rw [hfin]; decide)] at hlay
  have hst := (u_facts hfc hkC (u_lays hts hin hkN) hi).1
  have h6 := u_store hfc hkC hkind hlay hi (hty k hkN) hn hfit
  refine W.putK hx hb (f := f) ⟨hown, hts _ hlink, ⟨_, _, _, hi⟩, hst⟩ (by rw [q2]; exact h6) q1 q3 (by rw [hsl]; exact k2_hasslot (q4 k hkN)) rfl rfl hd fun H' e1 e2 e3 => ?_
  rw [hsl] at e1
  have hfn := (List.getElem?_eq_some_iff.mp hk).1
  refine kk H' _ ls (hH.upd hinj hk (fun j hj => up_ne hj) ?_ e3) (hS.put e2 e3 (hA i hfn)) hl
  have hlen : k < (fvals Θ.2.2.2.2.2.2.2.1 (σ i) 0 fl).length := by rw [fvals_len]; exact (List.getElem?_eq_some_iff.mp hfl).1
  have hset := fvals_set Θ.2.2.2.2.2.2.2.1 (σ i) x fl 0 k hfl
  rw [Nat.zero_add] at hset
  show va_at _ _ (_, .inr (ci, fvals _ (up σ i k x i) 0 fl)) _
  rw [up_eq, hset]
  exact ⟨_, hc, t_OB.to (V := updV (vp_V (fvals Θ.2.2.2.2.2.2.2.1 (σ i) 0 fl)) k (.int x)) ⟨_, e1, q2, q3, t_set q4 hap hkN (.int x)⟩ (fun j _ => vp_updV_set hlen (.int x) j)⟩
/-- iaload -/
theorem z_ald (C : Zc Θ cc nL own ret rm) (i : Nat) {n : Nat} (hk : Θ.2.2.2.2.1[i]? = some (.inl n)) {j : Int32} (hin : ¬ (j < 0 ∨ n ≤ j.toNatClampNeg)) (hd : decode cc pc = .ok (.iaload, 1))
    (kk : Z Θ nL kc ks Q σ (pc + 1) lv (.int (σ i j.toNatClampNeg) :: st)) : Z Θ nL kc ks Q σ pc lv (.int j :: .ref (Θ.2.2.2.2.2.2.2.1 i) :: st) := by
  intro H locs ls hH hS hl
  obtain ⟨hx, hb, hml, hown, hts, hlk, hr, hrm, hK, hinj, hA, hA2, hE⟩ := id C
  have hlt : j.toNatClampNeg < n := Nat.not_le.mp fun q => hin (Or.inr q)
  exact W.iald (v := .int (σ i j.toNatClampNeg)) hx hb (hH i _ hk) ((hK.1.2 0 _ rfl).1 n (fun j => .int (σ i j))) (fun q => by cases q) (by show ¬ (j < 0 ∨ (arrV _ _ _).slots.size ≤ _); rw [arrV_size]; exact hin) (by show (arrV _ _ _).slots[_]? = _; rw [arrV_read _ _ hlt]) rfl rfl hd (kk H locs ls hH hS hl)
/-- iastore -/
theorem z_ast (C : Zc Θ cc nL own ret rm) (i : Nat) {n : Nat} (hk : Θ.2.2.2.2.1[i]? = some (.inl n)) {j x : Int32} (hin : ¬ (j < 0 ∨ n ≤ j.toNatClampNeg)) (hd : decode cc pc = .ok (.iastore, 1))
    (kk : Z Θ nL kc ks Q (up σ i j.toNatClampNeg x) (pc + 1) lv st) : Z Θ nL kc ks Q σ pc lv (.int x :: .int j :: .ref (Θ.2.2.2.2.2.2.2.1 i) :: st) := by
  intro H locs ls hH hS hl
  obtain ⟨hx, hb, hml, hown, hts, hlk, hr, hrm, hK, hinj, hA, hA2, hE⟩ := id C
  refine W.iast hx hb (hH i _ hk) ((hK.1.2 0 _ rfl).1 n (fun j => .int (σ i j))) (fun q => by cases q) (by show ¬ (j < 0 ∨ (arrV _ _ _).slots.size ≤ _); rw [arrV_size]; exact hin) rfl rfl hd fun H1 e z oq => ?_
  refine kk H1 _ ls (hH.upd hinj hk (fun j hj => up_ne hj) ?_ oq) (hS.put z oq (hA i (List.getElem?_eq_some_iff.mp hk).1)) hl
  show H1[_]? = some (vp_cell _ _)
  rw [e, up_eq]
  rw [vp_cell_i]
  show _ = some (vp_cell Θ.2.2.2.2.2.2.1.1 (n, Sum.inl (upd (σ i) j.toNatClampNeg x)))
  rw [vp_cell_i, arrV_store]
  congr 2
  funext q
  by_cases hq : q = j.toNatClampNeg
  · subst hq
    simp [updV, upd]
  · simp [updV, upd, hq]
/-- aaload out of the row of villages -/
theorem z_aald (C : Zc Θ cc nL own ret rm) (i : Nat) {rs : List Nat} (hk : Θ.2.2.2.2.1[i]? = some (.inr (.inr rs))) {j : Int32} (hin : ¬ (j < 0 ∨ rs.length ≤ j.toNatClampNeg)) {r : Nat} (hr : rs[j.toNatClampNeg]? = some r) (hd : decode cc pc = .ok (.aaload, 1))
    (kk : Z Θ nL kc ks Q σ (pc + 1) lv (.ref (Θ.2.2.2.2.2.2.2.1 r) :: st)) : Z Θ nL kc ks Q σ pc lv (.int j :: .ref (Θ.2.2.2.2.2.2.2.1 i) :: st) := by
  intro H locs ls hH hS hl
  obtain ⟨hx, hb, hml, hown, hts, hlk, hrr, hrm, hK, hinj, hA, hA2, hE⟩ := id C
  have hP : va_P Θ.2.2.2.2.2.1 classes [(Θ.2.2.2.2.2.2.2.1 i, .inl (Θ.2.2.2.2.2.2.1.2, rs.length, .inr (.inr (.inr (.inr (fun k => (rs[k]?).map Θ.2.2.2.2.2.2.2.1))))))] H := fun k q hq => by
    have h1 := hH i _ hk
    match k, hq with
    | 0, hq => cases hq; exact h1
    | k + 1, hq => simp at hq
  refine va_aldq (C := "LastLoaf$Village") hx hb hK.1 hP 0 1 rfl rfl hin hd ?_
  show W _ _ _ _ _ _ _ _ _ _ _ _ _ _ _ (F0 _ _ _ (va_rf ((rs[j.toNatClampNeg]?).map _) :: _))
  rw [hr]
  exact kk H locs ls hH hS hl
/-- the ends -/
theorem z_iret {v : Int32} (C : Zc Θ cc nL own (some .int) rm) (hd : decode cc pc = .ok (.ireturn, 1)) : Z Θ nL 0 0 (zQ Θ (some (.int v), σ)) σ pc lv [.int v] := fun H locs ls hH hS hl =>
  W.iret C.1 C.2.1 C.2.2.2.2.2.2.1 (fun t ht hW => ⟨⟨rfl, by rw [ht]; exact hH⟩, hS.F ht⟩) hS.2.2 hd C.2.2.2.2.2.1
theorem z_zret {v : Int32} (C : Zc Θ cc nL own (some .boolean) rm) (hn : narrow .boolean (.int v) = .int v) (hd : decode cc pc = .ok (.ireturn, 1)) : Z Θ nL 0 0 (zQ Θ (some (.int v), σ)) σ pc lv [.int v] := fun H locs ls hH hS hl =>
  W.zret C.1 C.2.1 C.2.2.2.2.2.2.1 hn (fun t ht hW => ⟨⟨rfl, by rw [ht]; exact hH⟩, hS.F ht⟩) hS.2.2 hd C.2.2.2.2.2.1
theorem z_vret (C : Zc Θ cc nL own none rm) (hd : decode cc pc = .ok (.return_, 1)) : Z Θ nL 0 0 (zQ Θ (none, σ)) σ pc lv [] := fun H locs ls hH hS hl =>
  W.vret C.1 C.2.1 C.2.2.2.2.2.2.1 (fun t ht hW => ⟨⟨rfl, by rw [ht]; exact hH⟩, hS.F ht⟩) hS.2.2 hd C.2.2.2.2.2.1
theorem z_lret {v : Int64} (C : Zc Θ cc nL own (some .long) rm) (hd : decode cc pc = .ok (.lreturn, 1)) : Z Θ nL 0 0 (zQ Θ (some (.long v), σ)) σ pc lv [.long v] := fun H locs ls hH hS hl =>
  W.lret C.1 C.2.1 C.2.2.2.2.2.2.1 (fun t ht hW => ⟨⟨rfl, by rw [ht]; exact hH⟩, hS.F ht⟩) hS.2.2 hd C.2.2.2.2.2.1
theorem z_aret {v : Nat} {n : String} (C : Zc Θ cc nL own (some (.object n)) rm) (hd : decode cc pc = .ok (.areturn, 1)) : Z Θ nL 0 0 (zQ Θ (some (.ref v), σ)) σ pc lv [.ref v] := fun H locs ls hH hS hl =>
  W.aret C.1 C.2.1 C.2.2.2.2.2.2.1 (Or.inl ⟨_, rfl⟩) (Or.inr ⟨_, rfl⟩) (fun t ht hW => ⟨⟨rfl, by rw [ht]; exact hH⟩, hS.F ht⟩) hS.2.2 hd C.2.2.2.2.2.1
end
/-- a method's start -/
def zP (kd : List KD) (w : Wp) (σ : St) (sz : Nat) (av : List Value) : Array Value → State → Prop := va_Pc av (fun U => U.heap.size = sz ∧ HW kd w σ U.heap ∧ KK w U ∧ SX w (AA kd w sz) U U.heap)
/-- the contract: these arguments on this store end so -/
def zM (l : Launch) (kd : List KD) (w : Wp) (y : MethodName) (cc : ByteArray) (nL : Nat) (ret : Option FieldType) (rm : Room) (av : List Value) (σ : St) (ρ : Option Value × St) : Prop :=
  ∀ sz, Met l y (.code y cc nL ret :: TB) rm (zP kd w σ sz av) (Qc kd w (AA kd w sz) ρ) 0 0 (AA kd w sz)
/-- the places are apart -/
def zI (kd : List KD) (w : Wp) : Prop := ∀ i j, i < kd.length → j < kd.length → w.2.2.1 i = w.2.2.1 j → i = j
theorem zM_of {l : Launch} {kd : List KD} {w : Wp} {y : MethodName} {cc : ByteArray} {nL : Nat} {ret : Option FieldType} {rm : Room} {av : List Value} {σ : St} {ρ : Option Value × St} (hy : plainName y.cls = true) (hi : zI kd w) (hn : (lg_sl av).length ≤ nL)
    (h : ∀ Θ : Tz, Θ.1.2.1 = l → Θ.2.2.2.2 = (kd, w) → Zc Θ cc nL y.cls ret rm → Z Θ nL 0 0 (zQ Θ ρ) σ 0 (lv_args 0 av) []) : zM l kd w y cc nL ret rm av σ ρ := by
  intro sz
  refine Met.ofW (cc := cc) (maxL := nL) (ret := ret) hy rfl ?_
  intro p e s m args below meth c s₁ B hml hv
  obtain ⟨rfl, hsz, hP, hK, hE⟩ := hv
  subst hsz
  have hts := atoms_spec (ws := .code y cc nL ret :: TB) B.pre
  have hl := lv_entry av (n := nL) hn
  rw [lg_entry_eq]
  exact h ((p, l, e, (headSpec (.code y cc nL ret :: TB) rm).room), (s, m, av.toArray, below), (meth, c), AA kd w s.heap.size, (kd, w)) rfl rfl
    ⟨B.exec, B.bytes, hml, findClass_of_methodNamed B.named, fun w hw => hts w (List.mem_cons_of_mem _ hw), B.notSynchronized, B.returns, rfl, hK, hi, fun i hi => Or.inl ⟨i, hi, rfl⟩, fun q hq => Or.inr hq, hE⟩ s.heap [] _ hP va_S.rf hl
theorem zP_blind {kd : List KD} {w : Wp} {σ : St} {sz : Nat} {av : List Value} : FrameBlind (zP kd w σ sz av) := fun a U g mk q => by
  obtain ⟨q0, q1, qP, qK, qE⟩ := q
  exact ⟨q0, q1, qP, KK.same (s := U) (U := U.calling g mk a) rfl qK, SX.same (s := U) (U := U.calling g mk a) rfl qE⟩
section
variable {Θ : Tz} {cc : ByteArray} {nL kc ks : Nat} {own : String} {ret : Option FieldType} {rm : Room} {Q : State → Prop} {σ : St} {pc : Nat} {lv lv' : List (Nat × Value)} {st st0 : List Value}
theorem z_after {a : Array Value} {ρ : Option Value × St} (C : Zc Θ cc nL own ret rm) {H : Heap} {locs : List Loc} {ls : Array Slot} (hS : va_S Θ.2.2.2.1 Θ.2.1.1.heap H locs) (hl : lv_has ls nL lv)
    (hr : va_Run Θ.1.1 Θ.1.2.1 Θ.1.2.2.1 Θ.1.2.2.2 Θ.2.1.1 Θ.2.1.2.1 Θ.2.1.2.2.1 Θ.2.1.2.2.2 Θ.2.2.1.1 Θ.2.2.1.2 H locs kc ks 0 0 (F0 Θ.2.1.2.1 pc ls st0) st (Qc Θ.2.2.2.2.1 Θ.2.2.2.2.2 (AA Θ.2.2.2.2.1 Θ.2.2.2.2.2 H.size) ρ a) (AA Θ.2.2.2.2.1 Θ.2.2.2.2.2 H.size))
    (kk : Z Θ nL kc ks Q ρ.2 (pc + 3) lv (ρ.1.toList ++ st)) : zW Θ H locs kc ks Q (F0 Θ.2.1.2.1 pc ls st0) := by
  intro T hT X
  obtain ⟨v, st₀, t, T', L, h0, X', hL, e1, e2, ⟨⟨hv, hb⟩, hz, hk⟩, hst⟩ := hr T hT X
  cases hv
  rw [h0] at hz hk
  obtain ⟨hx, hb0, hml, hown, hts, hlk, hrr, hrm, hK, hinj, hA, hA2, hE⟩ := id C
  have hAA : ∀ q, AA Θ.2.2.2.2.1 Θ.2.2.2.2.2 H.size q → Θ.2.2.2.1 q := fun q h => by
    rcases h with ⟨i, hi, rfl⟩ | h
    · exact hA i hi
    · exact hA2 q (Nat.le_trans hS.1 h)
  obtain ⟨t2, a1, b1⟩ := kk T'.heap (locs ++ L) ls (by rw [e1]; exact hb) ⟨Nat.le_trans hS.1 (by rw [e1]; exact hz), fun q h1 h2 => by rw [e1, hk q (Nat.lt_of_lt_of_le h1 hS.1) (fun z => h2 (hAA q z))]; exact hS.2.1 q h1 h2, fun q hq => by
      rcases List.mem_append.mp hq with h | h
      · exact hS.2.2 q h
      · exact hAA _ (hL q h)⟩ hl T' rfl X'
  exact ⟨t2, hst t2 a1, b1⟩
theorem z_pre (C : Zc Θ cc nL own ret rm) {H : Heap} {locs : List Loc} (hS : va_S Θ.2.2.2.1 Θ.2.1.1.heap H locs) (hH : HW Θ.2.2.2.2.1 Θ.2.2.2.2.2 σ H) {av : List Value} :
    ∀ U : State, U.heap = H → Θ.2.1.1.WarmedH U.vm → zP Θ.2.2.2.2.1 Θ.2.2.2.2.2 σ H.size av av.toArray U := fun U hU hW =>
  ⟨rfl, by rw [hU], by rw [hU]; exact hH, KK.warm hW C.2.2.2.2.2.2.2.2.1, by
    obtain ⟨hx, hb0, hml, hown, hts, hlk, hrr, hrmm, hK, hinj, hA, hA2, hE⟩ := id C
    rw [hU]
    refine SX.warm hW (SX.narrow (hE.kept hS.2.1) fun q h => ?_)
    rcases h with ⟨i, hi, rfl⟩ | h
    · exact hA i hi
    · exact hA2 q (Nat.le_trans hS.1 h)⟩
/-- invokestatic -/
theorem z_callS (C : Zc Θ cc nL own ret rm) {y : MethodName} {c2 : ByteArray} {n2 idx : Nat} {r2 : Option FieldType} {rm2 : Room} (av : List Value) (ρ : Option Value × St) (n : Nat) (hM : zM Θ.1.2.1 Θ.2.2.2.2.1 Θ.2.2.2.2.2 y c2 n2 r2 rm2 av σ ρ)
    (hcode : Cond.code y c2 n2 r2 ∈ TB) (hlink : Cond.methodLink own idx y ∈ TB) (hstat : Cond.static y ∈ TB) (hini : Cond.initialized y.cls ∈ TB) (hrm : rm2.cells = 0 ∧ rm2.slots = 0 ∧ rm2.frames + 1 ≤ rm.frames ∧ 8 + (n2 + 11) + rm2.locals ≤ rm.locals)
    (hy : y.cls ≠ "java/lang/invoke/MethodHandle" ∧ y.cls ≠ "java/lang/invoke/VarHandle" ∧ (parseMethodDescriptor y.desc).map (fun d => d.parameters.length) = some n) (hn : av.length = n) (hst : st0 = av.reverse ++ st) (hcat : (st.map fun v => v.category).sum ≤ 8) (hk : kc ≤ rm.cells ∧ ks ≤ rm.slots)
    (hd : decode cc pc = .ok (.invokestatic idx, 3)) (kk : Z Θ nL kc ks Q ρ.2 (pc + 3) lv (ρ.1.toList ++ st)) : Z Θ nL kc ks Q σ pc lv st0 := by
  intro H locs ls hH hS hl
  obtain ⟨hx, hb0, hml, hown, hts, hlk, hrr, hrmm, hK, hinj, hA, hA2, hE⟩ := id C
  have hts2 : ∀ w ∈ (Cond.code y c2 n2 r2 :: TB), w.before Θ.2.1.2.2.1 Θ.2.1.1 = true := fun w hw => (List.mem_cons.mp hw).elim (fun e => by rw [e]; exact hts _ hcode) (hts w)
  subst hst
  have cw := callB_of (R := Θ.1.2.2.2) (own := own) (index := idx) n hts2 (tb_GoodIn hcode) rfl hrm.1 hrm.2.1 (hts _ hini) (hts _ hlink) hy (by rw [hrmm]; exact ⟨hrm.2.2.1, hrm.2.2.2⟩)
  exact z_after C hS hl (va_runS (rest := st) ⟨hx, hb0, hml, hown, hts⟩ (hM H.size) ⟨cw, hts _ hstat⟩ ⟨zP_blind, z_pre C hS hH⟩ rfl hn hl.1 rfl (lv_room hcat) hd (by rw [hrmm]; exact hk)) kk
/-- invokevirtual (private ones of the own class too) -/
theorem z_callV (C : Zc Θ cc nL own ret rm) {y : MethodName} {c2 : ByteArray} {n2 idx : Nat} {r2 : Option FieldType} {rm2 : Room} (i : Nat) (av : List Value) (ρ : Option Value × St) (n : Nat) {ci : Nat} {fl : List (Option Nat)} {T : u_T} {N : Nat} (hki : Θ.2.2.2.2.1[i]? = some (.inr (.inl (ci, fl)))) (hc : classes[ci]? = some (y.cls, T, N))
    (hM : zM Θ.1.2.1 Θ.2.2.2.2.1 Θ.2.2.2.2.2 y c2 n2 r2 rm2 (.ref (Θ.2.2.2.2.2.2.2.1 i) :: av) σ ρ)
    (hcode : Cond.code y c2 n2 r2 ∈ TB) (hlink : Cond.methodLink own idx y ∈ TB) (hinst : Cond.instanceMethod y ∈ TB) (hsel : Cond.selects y.cls y y ∈ TB) (hini : Cond.initialized y.cls ∈ TB) (hrm : rm2.cells = 0 ∧ rm2.slots = 0 ∧ rm2.frames + 1 ≤ rm.frames ∧ 8 + (n2 + 11) + rm2.locals ≤ rm.locals)
    (hy : y.cls ≠ "java/lang/invoke/MethodHandle" ∧ y.cls ≠ "java/lang/invoke/VarHandle" ∧ (parseMethodDescriptor y.desc).map (fun d => d.parameters.length) = some n) (hn : av.length = n) (hst : st0 = av.reverse ++ .ref (Θ.2.2.2.2.2.2.2.1 i) :: st) (hcat : (st.map fun v => v.category).sum ≤ 8) (hk : kc ≤ rm.cells ∧ ks ≤ rm.slots)
    (hd : decode cc pc = .ok (.invokevirtual idx, 3)) (kk : Z Θ nL kc ks Q ρ.2 (pc + 3) lv (ρ.1.toList ++ st)) : Z Θ nL kc ks Q σ pc lv st0 := by
  intro H locs ls hH hS hl
  obtain ⟨hx, hb0, hml, hown, hts, hlk, hrr, hrmm, hK, hinj, hA, hA2, hE⟩ := id C
  have hts2 : ∀ w ∈ (Cond.code y c2 n2 r2 :: TB), w.before Θ.2.1.2.2.1 Θ.2.1.1 = true := fun w hw => (List.mem_cons.mp hw).elim (fun e => by rw [e]; exact hts _ hcode) (hts w)
  subst hst
  have cw := callB_of (R := Θ.1.2.2.2) (own := own) (index := idx) n hts2 (tb_GoodIn hcode) rfl hrm.1 hrm.2.1 (hts _ hini) (hts _ hlink) hy (by rw [hrmm]; exact ⟨hrm.2.2.1, hrm.2.2.2⟩)
  have hP : va_P Θ.2.2.2.2.2.1 classes [(Θ.2.2.2.2.2.2.2.1 i, .inr (ci, fvals Θ.2.2.2.2.2.2.2.1 (σ i) 0 fl))] H := fun k q hq => by
    have h1 := hH i _ hki
    match k, hq with
    | 0, hq => cases hq; exact h1
    | k + 1, hq => simp at hq
  exact z_after C hS hl (va_runV (C := y.cls) (rest := st) ⟨hx, hb0, hml, hown, hts⟩ (hM H.size) ⟨cw, hts _ hinst, hts _ hsel⟩ ⟨zP_blind, va_recv (q0 := 0) hK.1 hP hc rfl, z_pre C hS hH⟩ rfl hn hl.1 rfl (lv_room hcat) hd (by rw [hrmm]; exact hk)) kk
/-- invokestatic of a nest mate's private method -/
theorem z_callSN (C : Zc Θ cc nL own ret rm) {y : MethodName} {c2 : ByteArray} {n2 idx : Nat} {r2 : Option FieldType} {rm2 : Room} {host : String} (av : List Value) (ρ : Option Value × St) (n : Nat) (hM : zM Θ.1.2.1 Θ.2.2.2.2.1 Θ.2.2.2.2.2 y c2 n2 r2 rm2 av σ ρ)
    (hcode : Cond.code y c2 n2 r2 ∈ TB) (hlink : Cond.methodLinkNest own idx y host ∈ nestW) (hstat : Cond.static y ∈ TB) (hini : Cond.initialized y.cls ∈ TB) (hrm : rm2.cells = 0 ∧ rm2.slots = 0 ∧ rm2.frames + 1 ≤ rm.frames ∧ 8 + (n2 + 11) + rm2.locals ≤ rm.locals)
    (hy : y.cls ≠ "java/lang/invoke/MethodHandle" ∧ y.cls ≠ "java/lang/invoke/VarHandle" ∧ (parseMethodDescriptor y.desc).map (fun d => d.parameters.length) = some n) (hn : av.length = n) (hst : st0 = av.reverse ++ st) (hcat : (st.map fun v => v.category).sum ≤ 8) (hk : kc ≤ rm.cells ∧ ks ≤ rm.slots)
    (hd : decode cc pc = .ok (.invokestatic idx, 3)) (kk : Z Θ nL kc ks Q ρ.2 (pc + 3) lv (ρ.1.toList ++ st)) : Z Θ nL kc ks Q σ pc lv st0 := by
  intro H locs ls hH hS hl
  obtain ⟨hx, hb0, hml, hown, hts, hlk, hrr, hrmm, hK, hinj, hA, hA2, hE⟩ := id C
  have hts2 : ∀ w ∈ (Cond.code y c2 n2 r2 :: TB), w.before Θ.2.1.2.2.1 Θ.2.1.1 = true := fun w hw => (List.mem_cons.mp hw).elim (fun e => by rw [e]; exact hts _ hcode) (hts w)
  subst hst
  have cw := va_cnB (R := Θ.1.2.2.2) (own := own) (index := idx) (host := host) n hts2 (tb_GoodIn hcode) rfl hrm.1 hrm.2.1 (hK.2.1 _ hlink) (hts _ hini) hy (by rw [hrmm]; exact ⟨hrm.2.2.1, hrm.2.2.2⟩)
  exact z_after C hS hl (va_runSN (rest := st) ⟨hx, hb0, hml, hown, hts⟩ (hM H.size) ⟨cw, hts _ hstat, trivial⟩ ⟨zP_blind, z_pre C hS hH⟩ rfl hn hl.1 rfl (lv_room hcat) hd (by rw [hrmm]; exact hk)) kk
end

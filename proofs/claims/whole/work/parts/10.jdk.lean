/-! THE JDK's OWN METHODS -/
abbrev zV (Θ : Tz) (i : Nat) : Nat := Θ.2.2.2.2.2.2.2.2.2 i
def slen (k : Nat) : Int32 := Int32.ofNat (strL.getD k 0)
def schr (k : Nat) (j : Int32) : Option Int32 := if j < 0 ∨ strL.getD k 0 ≤ j.toNatClampNeg then none else some ((strB.getD k []).getD j.toNatClampNeg 0)
theorem schr_ {k : Nat} {j v : Int32} (h : schr k j = some v) : ¬ (j < 0 ∨ strL.getD k 0 ≤ j.toNatClampNeg) ∧ v = (strB.getD k []).getD j.toNatClampNeg 0 := by
  unfold schr at h
  split at h
  · cases h
  · next q => exact ⟨q, (Option.some.inj h).symm⟩
theorem str_all : ∀ k, k < 46 → (strL.getD k 0 = (strB.getD k []).length ∧ strL.getD k 0 < 100 ∧ ∀ b ∈ strB.getD k [], ((b &&& 255).toUInt32 % 65536).toInt32 = b ∧ narrow .char (.int b) = .int b) := by decide +kernel
theorem gd_mem (l : List Int32) {n : Nat} (h : n < l.length) : l.getD n 0 ∈ l := by
  simp [List.getD, List.getElem?_eq_getElem h]
theorem gd_def (l : List Int32) {n : Nat} (h : l.length ≤ n) : l.getD n 0 = 0 := by
  simp [List.getD, List.getElem?_eq_none h]
theorem str_ch {k n : Nat} (hk : k < 46) : (((strB.getD k []).getD n 0 &&& 255).toUInt32 % 65536).toInt32 = (strB.getD k []).getD n 0 ∧ narrow .char (.int ((strB.getD k []).getD n 0)) = .int ((strB.getD k []).getD n 0) := by
  rcases Nat.lt_or_ge n (strB.getD k []).length with h | h
  · exact (str_all k hk).2.2 _ (gd_mem _ h)
  · rw [show (strB.getD k []).getD n 0 = 0 from gd_def _ h]
    exact ⟨by decide, rfl⟩
section
variable {Θ : Tz} {cc : ByteArray} {nL kc ks : Nat} {own : String} {ret : Option FieldType} {rm : Room} {Q : State → Prop} {σ : St} {pc : Nat} {lv lv' : List (Nat × Value)} {st st0 : List Value}
theorem z_nret {v : Int32} {ty : FieldType} (C : Zc Θ cc nL own (some ty) rm) (hn : narrow ty (.int v) = .int v) (hd : decode cc pc = .ok (.ireturn, 1)) : Z Θ nL 0 0 (zQ Θ (some (.int v), σ)) σ pc lv [.int v] := fun H locs ls hH hS hl =>
  W.zret C.1 C.2.1 C.2.2.2.2.2.2.1 hn (fun t ht hW => ⟨⟨rfl, by rw [ht]; exact hH⟩, hS.F ht⟩) hS.2.2 hd C.2.2.2.2.2.1
theorem z_i2c (C : Zc Θ cc nL own ret rm) {x v : Int32} (hv : (x.toUInt32 % 65536).toInt32 = v) (hd : decode cc pc = .ok (.i2c, 1)) (k : Z Θ nL kc ks Q σ (pc + 1) lv (.int v :: st)) : Z Θ nL kc ks Q σ pc lv (.int x :: st) := fun H locs ls hH hS hl => lv_i2c C.1 C.2.1 hd hv (k H locs ls hH hS hl)
theorem z_ldcs (C : Zc Θ cc nL own ret rm) {idx k : Nat} {tx : String} (hm : (own, idx, tx, k) ∈ strR) (hd : decode cc pc = .ok (.ldc idx, 2)) (kk : Z Θ nL kc ks Q σ (pc + 2) lv (.ref (zK Θ k) :: st)) : Z Θ nL kc ks Q σ pc lv st := fun H locs ls hH hS hl => by
  obtain ⟨hx, hb0, hml, hown, hts, hlk, hrr, hrmm, hK, hinj, hA, hA2, hE⟩ := id C
  exact va_ldcS hx hb0 hown (hE.2.1 _ hm) hd (kk H locs ls hH hS hl)
theorem z_compact (C : Zc Θ cc nL own ret rm) {idx : Nat} (hlink : Cond.fieldLink own idx "java/lang/String" "COMPACT_STRINGS" "Z" ∈ TB) (hd : decode cc pc = .ok (.getstatic idx, 3)) (kk : Z Θ nL kc ks Q σ (pc + 3) lv (.int 1 :: st)) : Z Θ nL kc ks Q σ pc lv st := fun H locs ls hH hS hl => by
  obtain ⟨hx, hb0, hml, hown, hts, hlk, hrr, hrmm, hK, hinj, hA, hA2, hE⟩ := id C
  exact va_gets hx hb0 hE.2.2.1 hS hown (hts _ hlink) (fun _ h => h) hd (kk H locs ls hH hS hl)
theorem z_siob (C : Zc Θ cc nL own ret rm) {idx : Nat} (hlink : Cond.fieldLink own idx "jdk/internal/util/Preconditions" "SIOOBE_FORMATTER" "Ljava/util/function/BiFunction;" ∈ TB) (hd : decode cc pc = .ok (.getstatic idx, 3)) (kk : ∀ v : Value, (v = .null ∨ ∃ t, v = .ref t) → Z Θ nL kc ks Q σ (pc + 3) lv (v :: st)) : Z Θ nL kc ks Q σ pc lv st := fun H locs ls hH hS hl => by
  obtain ⟨hx, hb0, hml, hown, hts, hlk, hrr, hrmm, hK, hinj, hA, hA2, hE⟩ := id C
  rcases hE.2.2.2.1 with h | ⟨t, h⟩
  · exact va_gets hx hb0 h hS hown (hts _ hlink) (fun _ h => h) hd (kk _ (Or.inl rfl) H locs ls hH hS hl)
  · exact va_gets hx hb0 h hS hown (hts _ hlink) (fun _ h => h) hd (kk _ (Or.inr ⟨t, rfl⟩) H locs ls hH hS hl)
theorem z_scoder (C : Zc Θ cc nL own ret rm) {idx k : Nat} (hk : k < 46) (hlink : Cond.fieldLink own idx "java/lang/String" "coder" "B" ∈ TB) (hd : decode cc pc = .ok (.getfield idx, 3)) (kk : Z Θ nL kc ks Q σ (pc + 3) lv (.int 0 :: st)) : Z Θ nL kc ks Q σ pc lv (.ref (zK Θ k) :: st) := fun H locs ls hH hS hl => by
  obtain ⟨hx, hb0, hml, hown, hts, hlk, hrr, hrmm, hK, hinj, hA, hA2, hE⟩ := id C
  exact vk_getf hx hb0 (hE.1.1 k hk).2.1 hS hown (hts _ hlink) (fun _ h => h) hd (kk H locs ls hH hS hl)
theorem z_svalue (C : Zc Θ cc nL own ret rm) {idx k : Nat} (hk : k < 46) (hlink : Cond.fieldLink own idx "java/lang/String" "value" "[B" ∈ TB) (hd : decode cc pc = .ok (.getfield idx, 3)) (kk : Z Θ nL kc ks Q σ (pc + 3) lv (.ref (zV Θ k) :: st)) : Z Θ nL kc ks Q σ pc lv (.ref (zK Θ k) :: st) := fun H locs ls hH hS hl => by
  obtain ⟨hx, hb0, hml, hown, hts, hlk, hrr, hrmm, hK, hinj, hA, hA2, hE⟩ := id C
  exact vk_getf hx hb0 (hE.1.1 k hk).2.2.1 hS hown (hts _ hlink) (fun _ h => h) hd (kk H locs ls hH hS hl)
theorem z_slen (C : Zc Θ cc nL own ret rm) {k : Nat} (hk : k < 46) (hd : decode cc pc = .ok (.arraylength, 1)) (kk : Z Θ nL kc ks Q σ (pc + 1) lv (.int (slen k) :: st)) : Z Θ nL kc ks Q σ pc lv (.ref (zV Θ k) :: st) := fun H locs ls hH hS hl => by
  obtain ⟨hx, hb0, hml, hown, hts, hlk, hrr, hrmm, hK, hinj, hA, hA2, hE⟩ := id C
  exact va_tlen hx hb0 (hE.1.1 k hk).2.2.2 hS rfl hd (kk H locs ls hH hS hl)
theorem z_sbyte (C : Zc Θ cc nL own ret rm) {k : Nat} {j : Int32} (hk : k < 46) (hj : ¬ (j < 0 ∨ strL.getD k 0 ≤ j.toNatClampNeg)) (hd : decode cc pc = .ok (.baload, 1)) (kk : Z Θ nL kc ks Q σ (pc + 1) lv (.int ((strB.getD k []).getD j.toNatClampNeg 0) :: st)) : Z Θ nL kc ks Q σ pc lv (.int j :: .ref (zV Θ k) :: st) := fun H locs ls hH hS hl => by
  obtain ⟨hx, hb0, hml, hown, hts, hlk, hrr, hrmm, hK, hinj, hA, hA2, hE⟩ := id C
  exact va_tb hx hb0 (hE.1.1 k hk).2.2.2 hS hj rfl hd (kk H locs ls hH hS hl)
/-- a call on a literal -/
theorem z_callK (C : Zc Θ cc nL own ret rm) {y : MethodName} {c2 : ByteArray} {n2 idx : Nat} {r2 : Option FieldType} {rm2 : Room} {i : Nat} (hi : i < 46) (hyc : y.cls = "java/lang/String") (av : List Value) (ρ : Option Value × St) (n : Nat)
    (hM : zM Θ.1.2.1 Θ.2.2.2.2.1 Θ.2.2.2.2.2 y c2 n2 r2 rm2 (.ref (zK Θ i) :: av) σ ρ)
    (hcode : Cond.code y c2 n2 r2 ∈ TB) (hlink : Cond.methodLink own idx y ∈ TB) (hinst : Cond.instanceMethod y ∈ TB) (hsel : Cond.selects "java/lang/String" y y ∈ TB) (hini : Cond.initialized y.cls ∈ TB) (hrm : rm2.cells = 0 ∧ rm2.slots = 0 ∧ rm2.frames + 1 ≤ rm.frames ∧ 8 + (n2 + 11) + rm2.locals ≤ rm.locals)
    (hy : y.cls ≠ "java/lang/invoke/MethodHandle" ∧ y.cls ≠ "java/lang/invoke/VarHandle" ∧ (parseMethodDescriptor y.desc).map (fun d => d.parameters.length) = some n) (hn : av.length = n) (hst : st0 = av.reverse ++ .ref (zK Θ i) :: st) (hcat : (st.map fun v => v.category).sum ≤ 8) (hk : kc ≤ rm.cells ∧ ks ≤ rm.slots)
    (hd : decode cc pc = .ok (.invokevirtual idx, 3)) (kk : Z Θ nL kc ks Q ρ.2 (pc + 3) lv (ρ.1.toList ++ st)) : Z Θ nL kc ks Q σ pc lv st0 := by
  intro H locs ls hH hS hl
  obtain ⟨hx, hb0, hml, hown, hts, hlk, hrr, hrmm, hK, hinj, hA, hA2, hE⟩ := id C
  have hts2 : ∀ w ∈ (Cond.code y c2 n2 r2 :: TB), w.before Θ.2.1.2.2.1 Θ.2.1.1 = true := fun w hw => (List.mem_cons.mp hw).elim (fun e => by rw [e]; exact hts _ hcode) (hts w)
  subst hst
  have cw := callB_of (R := Θ.1.2.2.2) (own := own) (index := idx) n hts2 (tb_GoodIn hcode) rfl hrm.1 hrm.2.1 (hts _ hini) (hts _ hlink) hy (by rw [hrmm]; exact ⟨hrm.2.2.1, hrm.2.2.2⟩)
  exact z_after C hS hl (va_runV (C := "java/lang/String") (rest := st) ⟨hx, hb0, hml, hown, hts⟩ (hM H.size) ⟨cw, hts _ hinst, hts _ hsel⟩ ⟨zP_blind, vk_recv hE.1 hi hS, z_pre C hS hH⟩ rfl hn hl.1 rfl (lv_room hcat) hd (by rw [hrmm]; exact hk)) kk
theorem z_alen (C : Zc Θ cc nL own ret rm) (i : Nat) {n : Nat} (hk : Θ.2.2.2.2.1[i]? = some (.inl n)) {v : Int32} (hv : Int32.ofNat n = v) (hd : decode cc pc = .ok (.arraylength, 1)) (kk : Z Θ nL kc ks Q σ (pc + 1) lv (.int v :: st)) : Z Θ nL kc ks Q σ pc lv (.ref (zA Θ i) :: st) := by
  intro H locs ls hH hS hl
  obtain ⟨hx, hb, hml, hown, hts, hlk, hr, hrm, hK, hinj, hA, hA2, hE⟩ := id C
  have hP : va_P Θ.2.2.2.2.2.1 classes [(zA Θ i, .inl (Θ.2.2.2.2.2.2.1.1, n, .inl (σ i)))] H := fun k q hq => by
    have h1 := hH i _ hk
    match k, hq with
    | 0, hq => cases hq; exact h1
    | k + 1, hq => simp at hq
  exact va_alen hx hb hK.1 hP 0 0 rfl rfl hv hd (kk H locs ls hH hS hl)
end

/-- as zM_of, for a method of a class some of whose methods are the machine's own -/
theorem Met.ofWF {l : Launch} {y : MethodName} {ws ws' : List Cond} {rm : Room} {Pc : Array Value → State → Prop} {Qc : Array Value → State → Outcome → State → Prop} {mc ms : Nat} {free : Addr → Prop} {cc : ByteArray} {maxL : Nat} {ret : Option FieldType}
    (hy : plainFor y = true) (hw : ws = Cond.code y cc maxL ret :: ws')
    (body : ∀ p e s m args below meth c s₁, BodyLoose p l y (headSpec ws rm) cc maxL ret e s m args below meth c s₁ → c.maxLocals = maxL → Pc args s →
      W p l e (headSpec ws rm).room s m args below meth c s.heap [] 0 0 (MQ below Qc args s mc ms free) (entryFrame m args maxL)) : Met l y ws rm Pc Qc mc ms free := by
  refine MetFree.of_bodySF (code := cc) (maxLocals := maxL) (ret := ret) hy ?_ ?_
  · intro args s m h hn
    obtain ⟨meth, c, h1, h2, h3, h4, h5, h6, -, -⟩ := Cond.code_spec hn (atoms_spec (ws := ws) h _ (by rw [hw]; exact List.mem_cons_self))
    exact ⟨meth, c, h1, h2, h3, h4, h5, h6⟩
  · intro p e s m args below meth c s₁ B hml hP _
    have hh0 : s₁.heap = s.heap := by rw [B.state]; rfl
    obtain ⟨t, a1, o, b1, b2, b3⟩ := body p e s m args below meth c s₁ B hml hP s₁ hh0 (Stand.of_body B)
    exact ⟨t, o, a1, b1, b2, ⟨b3.1, b3.2⟩⟩
theorem zM_ofF {l : Launch} {kd : List KD} {w : Wp} {y : MethodName} {cc : ByteArray} {nL : Nat} {ret : Option FieldType} {rm : Room} {av : List Value} {σ : St} {ρ : Option Value × St} (hy : plainFor y = true) (hi : zI kd w) (hn : (lg_sl av).length ≤ nL)
    (h : ∀ Θ : Tz, Θ.1.2.1 = l → Θ.2.2.2.2 = (kd, w) → Zc Θ cc nL y.cls ret rm → Z Θ nL 0 0 (zQ Θ ρ) σ 0 (lv_args 0 av) []) : zM l kd w y cc nL ret rm av σ ρ := by
  intro sz
  refine Met.ofWF (cc := cc) (maxL := nL) (ret := ret) hy rfl ?_
  intro p e s m args below meth c s₁ B hml hv
  obtain ⟨rfl, hsz, hP, hK, hE⟩ := hv
  subst hsz
  have hts := atoms_spec (ws := .code y cc nL ret :: TB) B.pre
  have hl := lv_entry av (n := nL) hn
  rw [lg_entry_eq]
  exact h ((p, l, e, (headSpec (.code y cc nL ret :: TB) rm).room), (s, m, av.toArray, below), (meth, c), AA kd w s.heap.size, (kd, w)) rfl rfl
    ⟨B.exec, B.bytes, hml, findClass_of_methodNamed B.named, fun w hw => hts w (List.mem_cons_of_mem _ hw), B.notSynchronized, B.returns, rfl, hK, hi, fun i hi => Or.inl ⟨i, hi, rfl⟩, fun q hq => Or.inr hq, hE⟩ s.heap [] _ hP va_S.rf hl
theorem w_3_31 : Cond.constant "java/lang/Integer" (265 : Nat) (1431655765 : Int32) ∈ TB := tb_in (lwt_3 (List.mem_of_getElem? (i := 31) (by decide +kernel))) rfl
theorem w_3_32 : Cond.constant "java/lang/Integer" (266 : Nat) (858993459 : Int32) ∈ TB := tb_in (lwt_3 (List.mem_of_getElem? (i := 32) (by decide +kernel))) rfl
theorem w_3_33 : Cond.constant "java/lang/Integer" (267 : Nat) (252645135 : Int32) ∈ TB := tb_in (lwt_3 (List.mem_of_getElem? (i := 33) (by decide +kernel))) rfl
theorem ic_1 : Int32.ofInt (1) = 1 := by decide +kernel
theorem ic_2 : Int32.ofInt (2) = 2 := by decide +kernel
theorem ic_4 : Int32.ofInt (4) = 4 := by decide +kernel
theorem bp_8 : (Int8.ofInt (8)).toInt32 = 8 := by decide +kernel
theorem bp_16 : (Int8.ofInt (16)).toInt32 = 16 := by decide +kernel
theorem bp_63 : (Int8.ofInt (63)).toInt32 = 63 := by decide +kernel
theorem ic_0 : Int32.ofInt (0) = 0 := by decide +kernel
theorem w_4_203 : Cond.fieldLink "java/lang/String" (38 : Nat) "java/lang/String" "COMPACT_STRINGS" "Z" ∈ TB := tb_in (lwt_4 (List.mem_of_getElem? (i := 203) (by decide +kernel))) rfl
theorem w_11_64 : Cond.fieldLink "java/lang/String" (15 : Nat) "java/lang/String" "coder" "B" ∈ TB := tb_in (lwt_11 (List.mem_of_getElem? (i := 64) (by decide +kernel))) rfl
theorem w_11_63 : Cond.fieldLink "java/lang/String" (9 : Nat) "java/lang/String" "value" "[B" ∈ TB := tb_in (lwt_11 (List.mem_of_getElem? (i := 63) (by decide +kernel))) rfl
theorem w_4_202 : Cond.code ({ cls := "java/lang/String", name := "coder", desc := "()B" } : MethodName) prog_25_method_152_code (1 : Nat) (Option.some ClassFile.FieldType.byte) ∈ TB := tb_in (lwt_4 (List.mem_of_getElem? (i := 202) (by decide +kernel))) rfl
theorem w_4_199 : Cond.methodLink "java/lang/String" (335 : Nat) ({ cls := "java/lang/String", name := "coder", desc := "()B" } : MethodName) ∈ TB := tb_in (lwt_4 (List.mem_of_getElem? (i := 199) (by decide +kernel))) rfl
theorem w_4_200 : Cond.instanceMethod ({ cls := "java/lang/String", name := "coder", desc := "()B" } : MethodName) ∈ TB := tb_in (lwt_4 (List.mem_of_getElem? (i := 200) (by decide +kernel))) rfl
theorem w_4_201 : Cond.selects "java/lang/String" ({ cls := "java/lang/String", name := "coder", desc := "()B" } : MethodName) ({ cls := "java/lang/String", name := "coder", desc := "()B" } : MethodName) ∈ TB := tb_in (lwt_4 (List.mem_of_getElem? (i := 201) (by decide +kernel))) rfl
theorem w_1_16 : Cond.initialized "java/lang/String" ∈ TB := tb_in (lwt_1 (List.mem_of_getElem? (i := 16) (by decide +kernel))) rfl
theorem w_4_219 : Cond.fieldLink "java/lang/String" (1053 : Nat) "jdk/internal/util/Preconditions" "SIOOBE_FORMATTER" "Ljava/util/function/BiFunction;" ∈ TB := tb_in (lwt_4 (List.mem_of_getElem? (i := 219) (by decide +kernel))) rfl
theorem w_4_223 : Cond.code ({ cls := "jdk/internal/util/Preconditions", name := "checkIndex", desc := "(IILjava/util/function/BiFunction;)I" } : MethodName) prog_35_method_11_code (3 : Nat) (Option.some ClassFile.FieldType.int) ∈ TB := tb_in (lwt_4 (List.mem_of_getElem? (i := 223) (by decide +kernel))) rfl
theorem w_4_221 : Cond.methodLink "java/lang/String" (1059 : Nat) ({ cls := "jdk/internal/util/Preconditions", name := "checkIndex", desc := "(IILjava/util/function/BiFunction;)I" } : MethodName) ∈ TB := tb_in (lwt_4 (List.mem_of_getElem? (i := 221) (by decide +kernel))) rfl
theorem w_4_222 : Cond.static ({ cls := "jdk/internal/util/Preconditions", name := "checkIndex", desc := "(IILjava/util/function/BiFunction;)I" } : MethodName) ∈ TB := tb_in (lwt_4 (List.mem_of_getElem? (i := 222) (by decide +kernel))) rfl
theorem w_1_18 : Cond.initialized "jdk/internal/util/Preconditions" ∈ TB := tb_in (lwt_1 (List.mem_of_getElem? (i := 18) (by decide +kernel))) rfl
theorem sp_255 : (Int16.ofInt (255)).toInt32 = 255 := by decide +kernel
theorem w_4_218 : Cond.code ({ cls := "java/lang/String", name := "checkIndex", desc := "(II)V" } : MethodName) prog_25_method_155_code (2 : Nat) (Option.none : Option ClassFile.FieldType) ∈ TB := tb_in (lwt_4 (List.mem_of_getElem? (i := 218) (by decide +kernel))) rfl
theorem w_4_216 : Cond.methodLink "java/lang/StringLatin1" (9 : Nat) ({ cls := "java/lang/String", name := "checkIndex", desc := "(II)V" } : MethodName) ∈ TB := tb_in (lwt_4 (List.mem_of_getElem? (i := 216) (by decide +kernel))) rfl
theorem w_4_217 : Cond.static ({ cls := "java/lang/String", name := "checkIndex", desc := "(II)V" } : MethodName) ∈ TB := tb_in (lwt_4 (List.mem_of_getElem? (i := 217) (by decide +kernel))) rfl
theorem w_4_212 : Cond.code ({ cls := "java/lang/String", name := "isLatin1", desc := "()Z" } : MethodName) prog_25_method_154_code (1 : Nat) (Option.some ClassFile.FieldType.boolean) ∈ TB := tb_in (lwt_4 (List.mem_of_getElem? (i := 212) (by decide +kernel))) rfl
theorem w_4_209 : Cond.methodLink "java/lang/String" (492 : Nat) ({ cls := "java/lang/String", name := "isLatin1", desc := "()Z" } : MethodName) ∈ TB := tb_in (lwt_4 (List.mem_of_getElem? (i := 209) (by decide +kernel))) rfl
theorem w_4_210 : Cond.instanceMethod ({ cls := "java/lang/String", name := "isLatin1", desc := "()Z" } : MethodName) ∈ TB := tb_in (lwt_4 (List.mem_of_getElem? (i := 210) (by decide +kernel))) rfl
theorem w_4_211 : Cond.selects "java/lang/String" ({ cls := "java/lang/String", name := "isLatin1", desc := "()Z" } : MethodName) ({ cls := "java/lang/String", name := "isLatin1", desc := "()Z" } : MethodName) ∈ TB := tb_in (lwt_4 (List.mem_of_getElem? (i := 211) (by decide +kernel))) rfl
theorem w_4_215 : Cond.code ({ cls := "java/lang/StringLatin1", name := "charAt", desc := "([BI)C" } : MethodName) prog_26_method_2_code (2 : Nat) (Option.some ClassFile.FieldType.char) ∈ TB := tb_in (lwt_4 (List.mem_of_getElem? (i := 215) (by decide +kernel))) rfl
theorem w_4_213 : Cond.methodLink "java/lang/String" (495 : Nat) ({ cls := "java/lang/StringLatin1", name := "charAt", desc := "([BI)C" } : MethodName) ∈ TB := tb_in (lwt_4 (List.mem_of_getElem? (i := 213) (by decide +kernel))) rfl
theorem w_4_214 : Cond.static ({ cls := "java/lang/StringLatin1", name := "charAt", desc := "([BI)C" } : MethodName) ∈ TB := tb_in (lwt_4 (List.mem_of_getElem? (i := 214) (by decide +kernel))) rfl
theorem w_1_17 : Cond.initialized "java/lang/StringLatin1" ∈ TB := tb_in (lwt_1 (List.mem_of_getElem? (i := 17) (by decide +kernel))) rfl
theorem dJ6_bitCount_0f7a4_0 : decode cJ6_bitCount_0f7a4 0 = .ok (.iload_n 0, 1) := by decide +kernel
theorem dJ6_bitCount_0f7a4_1 : decode cJ6_bitCount_0f7a4 1 = .ok (.iload_n 0, 1) := by decide +kernel
theorem dJ6_bitCount_0f7a4_2 : decode cJ6_bitCount_0f7a4 2 = .ok (.iconst 1, 1) := by decide +kernel
theorem dJ6_bitCount_0f7a4_3 : decode cJ6_bitCount_0f7a4 3 = .ok (.iushr, 1) := by decide +kernel
theorem dJ6_bitCount_0f7a4_4 : decode cJ6_bitCount_0f7a4 4 = .ok (.ldc_w 265, 3) := by decide +kernel
theorem dJ6_bitCount_0f7a4_7 : decode cJ6_bitCount_0f7a4 7 = .ok (.iand, 1) := by decide +kernel
theorem dJ6_bitCount_0f7a4_8 : decode cJ6_bitCount_0f7a4 8 = .ok (.isub, 1) := by decide +kernel
theorem dJ6_bitCount_0f7a4_9 : decode cJ6_bitCount_0f7a4 9 = .ok (.istore_n 0, 1) := by decide +kernel
theorem dJ6_bitCount_0f7a4_10 : decode cJ6_bitCount_0f7a4 10 = .ok (.iload_n 0, 1) := by decide +kernel
theorem dJ6_bitCount_0f7a4_11 : decode cJ6_bitCount_0f7a4 11 = .ok (.ldc_w 266, 3) := by decide +kernel
theorem dJ6_bitCount_0f7a4_14 : decode cJ6_bitCount_0f7a4 14 = .ok (.iand, 1) := by decide +kernel
theorem dJ6_bitCount_0f7a4_15 : decode cJ6_bitCount_0f7a4 15 = .ok (.iload_n 0, 1) := by decide +kernel
theorem dJ6_bitCount_0f7a4_16 : decode cJ6_bitCount_0f7a4 16 = .ok (.iconst 2, 1) := by decide +kernel
theorem dJ6_bitCount_0f7a4_17 : decode cJ6_bitCount_0f7a4 17 = .ok (.iushr, 1) := by decide +kernel
theorem dJ6_bitCount_0f7a4_18 : decode cJ6_bitCount_0f7a4 18 = .ok (.ldc_w 266, 3) := by decide +kernel
theorem dJ6_bitCount_0f7a4_21 : decode cJ6_bitCount_0f7a4 21 = .ok (.iand, 1) := by decide +kernel
theorem dJ6_bitCount_0f7a4_22 : decode cJ6_bitCount_0f7a4 22 = .ok (.iadd, 1) := by decide +kernel
theorem dJ6_bitCount_0f7a4_23 : decode cJ6_bitCount_0f7a4 23 = .ok (.istore_n 0, 1) := by decide +kernel
theorem dJ6_bitCount_0f7a4_24 : decode cJ6_bitCount_0f7a4 24 = .ok (.iload_n 0, 1) := by decide +kernel
theorem dJ6_bitCount_0f7a4_25 : decode cJ6_bitCount_0f7a4 25 = .ok (.iload_n 0, 1) := by decide +kernel
theorem dJ6_bitCount_0f7a4_26 : decode cJ6_bitCount_0f7a4 26 = .ok (.iconst 4, 1) := by decide +kernel
theorem dJ6_bitCount_0f7a4_27 : decode cJ6_bitCount_0f7a4 27 = .ok (.iushr, 1) := by decide +kernel
theorem dJ6_bitCount_0f7a4_28 : decode cJ6_bitCount_0f7a4 28 = .ok (.iadd, 1) := by decide +kernel
theorem dJ6_bitCount_0f7a4_29 : decode cJ6_bitCount_0f7a4 29 = .ok (.ldc_w 267, 3) := by decide +kernel
theorem dJ6_bitCount_0f7a4_32 : decode cJ6_bitCount_0f7a4 32 = .ok (.iand, 1) := by decide +kernel
theorem dJ6_bitCount_0f7a4_33 : decode cJ6_bitCount_0f7a4 33 = .ok (.istore_n 0, 1) := by decide +kernel
theorem dJ6_bitCount_0f7a4_34 : decode cJ6_bitCount_0f7a4 34 = .ok (.iload_n 0, 1) := by decide +kernel
theorem dJ6_bitCount_0f7a4_35 : decode cJ6_bitCount_0f7a4 35 = .ok (.iload_n 0, 1) := by decide +kernel
theorem dJ6_bitCount_0f7a4_36 : decode cJ6_bitCount_0f7a4 36 = .ok (.bipush 8, 2) := by decide +kernel
theorem dJ6_bitCount_0f7a4_38 : decode cJ6_bitCount_0f7a4 38 = .ok (.iushr, 1) := by decide +kernel
theorem dJ6_bitCount_0f7a4_39 : decode cJ6_bitCount_0f7a4 39 = .ok (.iadd, 1) := by decide +kernel
theorem dJ6_bitCount_0f7a4_40 : decode cJ6_bitCount_0f7a4 40 = .ok (.istore_n 0, 1) := by decide +kernel
theorem dJ6_bitCount_0f7a4_41 : decode cJ6_bitCount_0f7a4 41 = .ok (.iload_n 0, 1) := by decide +kernel
theorem dJ6_bitCount_0f7a4_42 : decode cJ6_bitCount_0f7a4 42 = .ok (.iload_n 0, 1) := by decide +kernel
theorem dJ6_bitCount_0f7a4_43 : decode cJ6_bitCount_0f7a4 43 = .ok (.bipush 16, 2) := by decide +kernel
theorem dJ6_bitCount_0f7a4_45 : decode cJ6_bitCount_0f7a4 45 = .ok (.iushr, 1) := by decide +kernel
theorem dJ6_bitCount_0f7a4_46 : decode cJ6_bitCount_0f7a4 46 = .ok (.iadd, 1) := by decide +kernel
theorem dJ6_bitCount_0f7a4_47 : decode cJ6_bitCount_0f7a4 47 = .ok (.istore_n 0, 1) := by decide +kernel
theorem dJ6_bitCount_0f7a4_48 : decode cJ6_bitCount_0f7a4 48 = .ok (.iload_n 0, 1) := by decide +kernel
theorem dJ6_bitCount_0f7a4_49 : decode cJ6_bitCount_0f7a4 49 = .ok (.bipush 63, 2) := by decide +kernel
theorem dJ6_bitCount_0f7a4_51 : decode cJ6_bitCount_0f7a4 51 = .ok (.iand, 1) := by decide +kernel
theorem dJ6_bitCount_0f7a4_52 : decode cJ6_bitCount_0f7a4 52 = .ok (.ireturn, 1) := by decide +kernel
theorem dJ9_floorMod_7cf53_0 : decode cJ9_floorMod_7cf53 0 = .ok (.iload_n 0, 1) := by decide +kernel
theorem dJ9_floorMod_7cf53_1 : decode cJ9_floorMod_7cf53 1 = .ok (.iload_n 1, 1) := by decide +kernel
theorem dJ9_floorMod_7cf53_2 : decode cJ9_floorMod_7cf53 2 = .ok (.irem, 1) := by decide +kernel
theorem dJ9_floorMod_7cf53_3 : decode cJ9_floorMod_7cf53 3 = .ok (.istore_n 2, 1) := by decide +kernel
theorem dJ9_floorMod_7cf53_4 : decode cJ9_floorMod_7cf53 4 = .ok (.iload_n 0, 1) := by decide +kernel
theorem dJ9_floorMod_7cf53_5 : decode cJ9_floorMod_7cf53 5 = .ok (.iload_n 1, 1) := by decide +kernel
theorem dJ9_floorMod_7cf53_6 : decode cJ9_floorMod_7cf53 6 = .ok (.ixor, 1) := by decide +kernel
theorem dJ9_floorMod_7cf53_7 : decode cJ9_floorMod_7cf53 7 = .ok (.ifCond .ge 11, 3) := by decide +kernel
theorem dJ9_floorMod_7cf53_10 : decode cJ9_floorMod_7cf53 10 = .ok (.iload_n 2, 1) := by decide +kernel
theorem dJ9_floorMod_7cf53_11 : decode cJ9_floorMod_7cf53 11 = .ok (.ifCond .eq 7, 3) := by decide +kernel
theorem dJ9_floorMod_7cf53_14 : decode cJ9_floorMod_7cf53 14 = .ok (.iload_n 2, 1) := by decide +kernel
theorem dJ9_floorMod_7cf53_15 : decode cJ9_floorMod_7cf53 15 = .ok (.iload_n 1, 1) := by decide +kernel
theorem dJ9_floorMod_7cf53_16 : decode cJ9_floorMod_7cf53 16 = .ok (.iadd, 1) := by decide +kernel
theorem dJ9_floorMod_7cf53_17 : decode cJ9_floorMod_7cf53 17 = .ok (.ireturn, 1) := by decide +kernel
theorem dJ9_floorMod_7cf53_18 : decode cJ9_floorMod_7cf53 18 = .ok (.iload_n 2, 1) := by decide +kernel
theorem dJ9_floorMod_7cf53_19 : decode cJ9_floorMod_7cf53 19 = .ok (.ireturn, 1) := by decide +kernel
theorem dJ0_length_8abf5_0 : decode cJ0_length_8abf5 0 = .ok (.aload_n 0, 1) := by decide +kernel
theorem dJ0_length_8abf5_1 : decode cJ0_length_8abf5 1 = .ok (.getfield 9, 3) := by decide +kernel
theorem dJ0_length_8abf5_4 : decode cJ0_length_8abf5 4 = .ok (.arraylength, 1) := by decide +kernel
theorem dJ0_length_8abf5_5 : decode cJ0_length_8abf5 5 = .ok (.aload_n 0, 1) := by decide +kernel
theorem dJ0_length_8abf5_6 : decode cJ0_length_8abf5 6 = .ok (.invokevirtual 335, 3) := by decide +kernel
theorem dJ0_length_8abf5_9 : decode cJ0_length_8abf5 9 = .ok (.ishr, 1) := by decide +kernel
theorem dJ0_length_8abf5_10 : decode cJ0_length_8abf5 10 = .ok (.ireturn, 1) := by decide +kernel
theorem dJ0_charAt_5068e_0 : decode cJ0_charAt_5068e 0 = .ok (.aload_n 0, 1) := by decide +kernel
theorem dJ0_charAt_5068e_1 : decode cJ0_charAt_5068e 1 = .ok (.invokevirtual 492, 3) := by decide +kernel
theorem dJ0_charAt_5068e_4 : decode cJ0_charAt_5068e 4 = .ok (.ifCond .eq 12, 3) := by decide +kernel
theorem dJ0_charAt_5068e_7 : decode cJ0_charAt_5068e 7 = .ok (.aload_n 0, 1) := by decide +kernel
theorem dJ0_charAt_5068e_8 : decode cJ0_charAt_5068e 8 = .ok (.getfield 9, 3) := by decide +kernel
theorem dJ0_charAt_5068e_11 : decode cJ0_charAt_5068e 11 = .ok (.iload_n 1, 1) := by decide +kernel
theorem dJ0_charAt_5068e_12 : decode cJ0_charAt_5068e 12 = .ok (.invokestatic 495, 3) := by decide +kernel
theorem dJ0_charAt_5068e_15 : decode cJ0_charAt_5068e 15 = .ok (.ireturn, 1) := by decide +kernel
theorem dJ0_charAt_5068e_16 : decode cJ0_charAt_5068e 16 = .ok (.aload_n 0, 1) := by decide +kernel
theorem dJ0_charAt_5068e_17 : decode cJ0_charAt_5068e 17 = .ok (.getfield 9, 3) := by decide +kernel
theorem dJ0_charAt_5068e_20 : decode cJ0_charAt_5068e 20 = .ok (.iload_n 1, 1) := by decide +kernel
theorem dJ0_charAt_5068e_21 : decode cJ0_charAt_5068e 21 = .ok (.invokestatic 498, 3) := by decide +kernel
theorem dJ0_charAt_5068e_24 : decode cJ0_charAt_5068e 24 = .ok (.ireturn, 1) := by decide +kernel
theorem dJ0_coder_7d493_0 : decode cJ0_coder_7d493 0 = .ok (.getstatic 38, 3) := by decide +kernel
theorem dJ0_coder_7d493_3 : decode cJ0_coder_7d493 3 = .ok (.ifCond .eq 10, 3) := by decide +kernel
theorem dJ0_coder_7d493_6 : decode cJ0_coder_7d493 6 = .ok (.aload_n 0, 1) := by decide +kernel
theorem dJ0_coder_7d493_7 : decode cJ0_coder_7d493 7 = .ok (.getfield 15, 3) := by decide +kernel
theorem dJ0_coder_7d493_10 : decode cJ0_coder_7d493 10 = .ok (.goto 4, 3) := by decide +kernel
theorem dJ0_coder_7d493_13 : decode cJ0_coder_7d493 13 = .ok (.iconst 1, 1) := by decide +kernel
theorem dJ0_coder_7d493_14 : decode cJ0_coder_7d493 14 = .ok (.ireturn, 1) := by decide +kernel
theorem dJ0_isLatin1_aae02_0 : decode cJ0_isLatin1_aae02 0 = .ok (.getstatic 38, 3) := by decide +kernel
theorem dJ0_isLatin1_aae02_3 : decode cJ0_isLatin1_aae02 3 = .ok (.ifCond .eq 14, 3) := by decide +kernel
theorem dJ0_isLatin1_aae02_6 : decode cJ0_isLatin1_aae02 6 = .ok (.aload_n 0, 1) := by decide +kernel
theorem dJ0_isLatin1_aae02_7 : decode cJ0_isLatin1_aae02 7 = .ok (.getfield 15, 3) := by decide +kernel
theorem dJ0_isLatin1_aae02_10 : decode cJ0_isLatin1_aae02 10 = .ok (.ifCond .ne 7, 3) := by decide +kernel
theorem dJ0_isLatin1_aae02_13 : decode cJ0_isLatin1_aae02 13 = .ok (.iconst 1, 1) := by decide +kernel
theorem dJ0_isLatin1_aae02_14 : decode cJ0_isLatin1_aae02 14 = .ok (.goto 4, 3) := by decide +kernel
theorem dJ0_isLatin1_aae02_17 : decode cJ0_isLatin1_aae02 17 = .ok (.iconst 0, 1) := by decide +kernel
theorem dJ0_isLatin1_aae02_18 : decode cJ0_isLatin1_aae02 18 = .ok (.ireturn, 1) := by decide +kernel
theorem dJ0_checkIndex_df160_0 : decode cJ0_checkIndex_df160 0 = .ok (.iload_n 0, 1) := by decide +kernel
theorem dJ0_checkIndex_df160_1 : decode cJ0_checkIndex_df160 1 = .ok (.iload_n 1, 1) := by decide +kernel
theorem dJ0_checkIndex_df160_2 : decode cJ0_checkIndex_df160 2 = .ok (.getstatic 1053, 3) := by decide +kernel
theorem dJ0_checkIndex_df160_5 : decode cJ0_checkIndex_df160 5 = .ok (.invokestatic 1059, 3) := by decide +kernel
theorem dJ0_checkIndex_df160_8 : decode cJ0_checkIndex_df160 8 = .ok (.pop, 1) := by decide +kernel
theorem dJ0_checkIndex_df160_9 : decode cJ0_checkIndex_df160 9 = .ok (.return_, 1) := by decide +kernel
theorem dJ1_charAt_3b067_0 : decode cJ1_charAt_3b067 0 = .ok (.iload_n 1, 1) := by decide +kernel
theorem dJ1_charAt_3b067_1 : decode cJ1_charAt_3b067 1 = .ok (.aload_n 0, 1) := by decide +kernel
theorem dJ1_charAt_3b067_2 : decode cJ1_charAt_3b067 2 = .ok (.arraylength, 1) := by decide +kernel
theorem dJ1_charAt_3b067_3 : decode cJ1_charAt_3b067 3 = .ok (.invokestatic 9, 3) := by decide +kernel
theorem dJ1_charAt_3b067_6 : decode cJ1_charAt_3b067 6 = .ok (.aload_n 0, 1) := by decide +kernel
theorem dJ1_charAt_3b067_7 : decode cJ1_charAt_3b067 7 = .ok (.iload_n 1, 1) := by decide +kernel
theorem dJ1_charAt_3b067_8 : decode cJ1_charAt_3b067 8 = .ok (.baload, 1) := by decide +kernel
theorem dJ1_charAt_3b067_9 : decode cJ1_charAt_3b067 9 = .ok (.sipush 255, 3) := by decide +kernel
theorem dJ1_charAt_3b067_12 : decode cJ1_charAt_3b067 12 = .ok (.iand, 1) := by decide +kernel
theorem dJ1_charAt_3b067_13 : decode cJ1_charAt_3b067 13 = .ok (.i2c, 1) := by decide +kernel
theorem dJ1_charAt_3b067_14 : decode cJ1_charAt_3b067 14 = .ok (.ireturn, 1) := by decide +kernel
theorem dJ3_checkIndex_8e157_0 : decode cJ3_checkIndex_8e157 0 = .ok (.iload_n 0, 1) := by decide +kernel
theorem dJ3_checkIndex_8e157_1 : decode cJ3_checkIndex_8e157 1 = .ok (.ifCond .lt 8, 3) := by decide +kernel
theorem dJ3_checkIndex_8e157_4 : decode cJ3_checkIndex_8e157 4 = .ok (.iload_n 0, 1) := by decide +kernel
theorem dJ3_checkIndex_8e157_5 : decode cJ3_checkIndex_8e157 5 = .ok (.iload_n 1, 1) := by decide +kernel
theorem dJ3_checkIndex_8e157_6 : decode cJ3_checkIndex_8e157 6 = .ok (.if_icmp .lt 10, 3) := by decide +kernel
theorem dJ3_checkIndex_8e157_9 : decode cJ3_checkIndex_8e157 9 = .ok (.aload_n 2, 1) := by decide +kernel
theorem dJ3_checkIndex_8e157_10 : decode cJ3_checkIndex_8e157 10 = .ok (.iload_n 0, 1) := by decide +kernel
theorem dJ3_checkIndex_8e157_11 : decode cJ3_checkIndex_8e157 11 = .ok (.iload_n 1, 1) := by decide +kernel
theorem dJ3_checkIndex_8e157_12 : decode cJ3_checkIndex_8e157 12 = .ok (.invokestatic 95, 3) := by decide +kernel
theorem dJ3_checkIndex_8e157_15 : decode cJ3_checkIndex_8e157 15 = .ok (.athrow, 1) := by decide +kernel
theorem dJ3_checkIndex_8e157_16 : decode cJ3_checkIndex_8e157 16 = .ok (.iload_n 0, 1) := by decide +kernel
theorem dJ3_checkIndex_8e157_17 : decode cJ3_checkIndex_8e157 17 = .ok (.ireturn, 1) := by decide +kernel
theorem dJ7_fill_53178_0 : decode cJ7_fill_53178 0 = .ok (.iconst 0, 1) := by decide +kernel
theorem dJ7_fill_53178_1 : decode cJ7_fill_53178 1 = .ok (.istore_n 2, 1) := by decide +kernel
theorem dJ7_fill_53178_2 : decode cJ7_fill_53178 2 = .ok (.aload_n 0, 1) := by decide +kernel
theorem dJ7_fill_53178_3 : decode cJ7_fill_53178 3 = .ok (.arraylength, 1) := by decide +kernel
theorem dJ7_fill_53178_4 : decode cJ7_fill_53178 4 = .ok (.istore_n 3, 1) := by decide +kernel
theorem dJ7_fill_53178_5 : decode cJ7_fill_53178 5 = .ok (.iload_n 2, 1) := by decide +kernel
theorem dJ7_fill_53178_6 : decode cJ7_fill_53178 6 = .ok (.iload_n 3, 1) := by decide +kernel
theorem dJ7_fill_53178_7 : decode cJ7_fill_53178 7 = .ok (.if_icmp .ge 13, 3) := by decide +kernel
theorem dJ7_fill_53178_10 : decode cJ7_fill_53178 10 = .ok (.aload_n 0, 1) := by decide +kernel
theorem dJ7_fill_53178_11 : decode cJ7_fill_53178 11 = .ok (.iload_n 2, 1) := by decide +kernel
theorem dJ7_fill_53178_12 : decode cJ7_fill_53178 12 = .ok (.iload_n 1, 1) := by decide +kernel
theorem dJ7_fill_53178_13 : decode cJ7_fill_53178 13 = .ok (.iastore, 1) := by decide +kernel
theorem dJ7_fill_53178_14 : decode cJ7_fill_53178 14 = .ok (.iinc 2 1, 3) := by decide +kernel
theorem dJ7_fill_53178_17 : decode cJ7_fill_53178 17 = .ok (.goto (-12), 3) := by decide +kernel
theorem dJ7_fill_53178_20 : decode cJ7_fill_53178 20 = .ok (.return_, 1) := by decide +kernel
def bc1 (x : Int32) : Int32 := x - (ushr x 1 &&& 1431655765)
def bc2 (x : Int32) : Int32 := (x &&& 858993459) + (ushr x 2 &&& 858993459)
def bc3 (x : Int32) : Int32 := (x + ushr x 4) &&& 252645135
def bc4 (x : Int32) : Int32 := x + ushr x 8
def bc5 (x : Int32) : Int32 := x + ushr x 16
def bcount (x : Int32) : Int32 := bc5 (bc4 (bc3 (bc2 (bc1 x)))) &&& 63
abbrev rmJ_bitCount : Room := { frames := 0, cells := 0, slots := 0, locals := 0 }
set_option maxHeartbeats 4000000 in
set_option maxRecDepth 100000 in
theorem pJ_bitCount {Θ : Tz} {σ : St} {ρ : Option Value × St} (C : Zc Θ cJ6_bitCount_0f7a4 1 RJ6 (some .int) rmJ_bitCount) {x_a : Int32}  (hρ : ρ = (some (.int (bcount x_a)), σ)) : Z Θ 1 0 0 (zQ Θ ρ) σ 0 [(0, .int x_a)] [] := by
  refine z_iload_n C 0 dJ6_bitCount_0f7a4_0 rfl rfl ?_
  refine z_iload_n C 0 dJ6_bitCount_0f7a4_1 rfl rfl ?_
  refine z_iconst (v := 1) C dJ6_bitCount_0f7a4_2 ic_1 ?_
  refine z_ushr C dJ6_bitCount_0f7a4_3 ?_
  refine z_ldcw (v := 1431655765) C w_3_31 dJ6_bitCount_0f7a4_4 ?_
  refine z_iand C dJ6_bitCount_0f7a4_7 ?_
  refine z_isub C dJ6_bitCount_0f7a4_8 ?_
  refine z_istN (x' := bc1 x_a) C dJ6_bitCount_0f7a4_9 rfl rfl (Nat.le_of_ble_eq_true rfl) rfl ?_
  refine z_iload_n C 0 dJ6_bitCount_0f7a4_10 rfl rfl ?_
  refine z_ldcw (v := 858993459) C w_3_32 dJ6_bitCount_0f7a4_11 ?_
  refine z_iand C dJ6_bitCount_0f7a4_14 ?_
  refine z_iload_n C 0 dJ6_bitCount_0f7a4_15 rfl rfl ?_
  refine z_iconst (v := 2) C dJ6_bitCount_0f7a4_16 ic_2 ?_
  refine z_ushr C dJ6_bitCount_0f7a4_17 ?_
  refine z_ldcw (v := 858993459) C w_3_32 dJ6_bitCount_0f7a4_18 ?_
  refine z_iand C dJ6_bitCount_0f7a4_21 ?_
  refine z_iadd C dJ6_bitCount_0f7a4_22 ?_
  refine z_istN (x' := bc2 (bc1 x_a)) C dJ6_bitCount_0f7a4_23 rfl rfl (Nat.le_of_ble_eq_true rfl) rfl ?_
  refine z_iload_n C 0 dJ6_bitCount_0f7a4_24 rfl rfl ?_
  refine z_iload_n C 0 dJ6_bitCount_0f7a4_25 rfl rfl ?_
  refine z_iconst (v := 4) C dJ6_bitCount_0f7a4_26 ic_4 ?_
  refine z_ushr C dJ6_bitCount_0f7a4_27 ?_
  refine z_iadd C dJ6_bitCount_0f7a4_28 ?_
  refine z_ldcw (v := 252645135) C w_3_33 dJ6_bitCount_0f7a4_29 ?_
  refine z_iand C dJ6_bitCount_0f7a4_32 ?_
  refine z_istN (x' := bc3 (bc2 (bc1 x_a))) C dJ6_bitCount_0f7a4_33 rfl rfl (Nat.le_of_ble_eq_true rfl) rfl ?_
  refine z_iload_n C 0 dJ6_bitCount_0f7a4_34 rfl rfl ?_
  refine z_iload_n C 0 dJ6_bitCount_0f7a4_35 rfl rfl ?_
  refine z_bipush (v := 8) C dJ6_bitCount_0f7a4_36 bp_8 ?_
  refine z_ushr C dJ6_bitCount_0f7a4_38 ?_
  refine z_iadd C dJ6_bitCount_0f7a4_39 ?_
  refine z_istN (x' := bc4 (bc3 (bc2 (bc1 x_a)))) C dJ6_bitCount_0f7a4_40 rfl rfl (Nat.le_of_ble_eq_true rfl) rfl ?_
  refine z_iload_n C 0 dJ6_bitCount_0f7a4_41 rfl rfl ?_
  refine z_iload_n C 0 dJ6_bitCount_0f7a4_42 rfl rfl ?_
  refine z_bipush (v := 16) C dJ6_bitCount_0f7a4_43 bp_16 ?_
  refine z_ushr C dJ6_bitCount_0f7a4_45 ?_
  refine z_iadd C dJ6_bitCount_0f7a4_46 ?_
  refine z_istN (x' := bc5 (bc4 (bc3 (bc2 (bc1 x_a))))) C dJ6_bitCount_0f7a4_47 rfl rfl (Nat.le_of_ble_eq_true rfl) rfl ?_
  refine z_iload_n C 0 dJ6_bitCount_0f7a4_48 rfl rfl ?_
  refine z_bipush (v := 63) C dJ6_bitCount_0f7a4_49 bp_63 ?_
  refine z_iand C dJ6_bitCount_0f7a4_51 ?_
  subst hρ
  exact z_iret C dJ6_bitCount_0f7a4_52
theorem cJ_bitCount {l : Launch} {kd : List KD} {w : Wp} {σ : St} {x_a : Int32} (hi : zI kd w)  : zM l kd w yJ6_bitCount_0f7a4 cJ6_bitCount_0f7a4 1 (some .int) rmJ_bitCount [.int x_a] σ (some (.int (bcount x_a)), σ) := zM_of rfl hi (Nat.le_of_ble_eq_true rfl) (fun Θ _ hw C => by
  obtain ⟨Θ1, Θ2, Θ3, Θ4, Θ5⟩ := Θ
  cases hw
  exact pJ_bitCount C  rfl)
def fmod (x y : Int32) : Int32 := if (x ^^^ y) < 0 ∧ ¬ irm x y = 0 then irm x y + y else irm x y
abbrev rmJ_floorMod : Room := { frames := 0, cells := 0, slots := 0, locals := 0 }
set_option maxHeartbeats 4000000 in
set_option maxRecDepth 100000 in
theorem pJ_floorMod {Θ : Tz} {σ : St} {ρ : Option Value × St} (C : Zc Θ cJ9_floorMod_7cf53 3 RJ9 (some .int) rmJ_floorMod) {x_a y_a : Int32} (hy : ¬ y_a = 0) (hρ : ρ = (some (.int (fmod x_a y_a)), σ)) : Z Θ 3 0 0 (zQ Θ ρ) σ 0 [(0, .int x_a), (1, .int y_a)] [] := by
  refine z_iload_n C 0 dJ9_floorMod_7cf53_0 rfl rfl ?_
  refine z_iload_n C 1 dJ9_floorMod_7cf53_1 rfl rfl ?_
  refine z_irm C hy dJ9_floorMod_7cf53_2 ?_
  refine z_istN C dJ9_floorMod_7cf53_3 rfl rfl (Nat.le_of_ble_eq_true rfl) rfl ?_
  refine z_iload_n C 1 dJ9_floorMod_7cf53_4 rfl rfl ?_
  refine z_iload_n C 2 dJ9_floorMod_7cf53_5 rfl rfl ?_
  refine z_ixor C dJ9_floorMod_7cf53_6 ?_
  have K18 : ¬ ((x_a ^^^ y_a) < 0 ∧ ¬ irm x_a y_a = 0) → Z Θ 3 0 0 (zQ Θ ρ) σ 18 [(2, .int (irm x_a y_a)), (0, .int x_a), (1, .int y_a)] [] := by
    intro h
    refine z_iload_n C 0 dJ9_floorMod_7cf53_18 rfl rfl ?_
    have e : fmod x_a y_a = irm x_a y_a := if_neg h
    rw [e] at hρ
    subst hρ
    exact z_iret C dJ9_floorMod_7cf53_19
  refine c0_lt_f C 18 dJ9_floorMod_7cf53_7 (by decide) (fun h1 => ?_) (fun h1 => K18 (fun n => h1 n.1))
  refine z_iload_n C 0 dJ9_floorMod_7cf53_10 rfl rfl ?_
  refine c0_ne_f C 18 dJ9_floorMod_7cf53_11 (by decide) (fun h2 => ?_) (fun h2 => K18 (fun n => h2 n.2))
  refine z_iload_n C 0 dJ9_floorMod_7cf53_14 rfl rfl ?_
  refine z_iload_n C 2 dJ9_floorMod_7cf53_15 rfl rfl ?_
  refine z_iadd C dJ9_floorMod_7cf53_16 ?_
  have e : fmod x_a y_a = irm x_a y_a + y_a := if_pos ⟨h1, h2⟩
  rw [e] at hρ
  subst hρ
  exact z_iret C dJ9_floorMod_7cf53_17
theorem cJ_floorMod {l : Launch} {kd : List KD} {w : Wp} {σ : St} {x_a y_a : Int32} (hi : zI kd w) (hy : ¬ y_a = 0) : zM l kd w yJ9_floorMod_7cf53 cJ9_floorMod_7cf53 3 (some .int) rmJ_floorMod [.int x_a, .int y_a] σ (some (.int (fmod x_a y_a)), σ) := zM_ofF (by decide +kernel) hi (Nat.le_of_ble_eq_true rfl) (fun Θ _ hw C => by
  obtain ⟨Θ1, Θ2, Θ3, Θ4, Θ5⟩ := Θ
  cases hw
  exact pJ_floorMod C hy rfl)
abbrev rmJ_coder : Room := { frames := 0, cells := 0, slots := 0, locals := 0 }
set_option maxHeartbeats 4000000 in
set_option maxRecDepth 100000 in
theorem pJ_coder {Θ : Tz} {σ : St} {ρ : Option Value × St} (C : Zc Θ cJ0_coder_7d493 1 RJ0 (some .byte) rmJ_coder) {k_a : Nat} (hk : k_a < 46) (hρ : ρ = (some (.int 0), σ)) : Z Θ 1 0 0 (zQ Θ ρ) σ 0 [(0, .ref (zK Θ k_a))] [] := by
  refine z_compact C w_4_203 dJ0_coder_7d493_0 ?_
  refine c0_ne_f C 13 dJ0_coder_7d493_3 (by decide) (fun h1 => ?_) (fun h1 => absurd (by decide) h1)
  refine z_aload_n C 0 dJ0_coder_7d493_6 rfl rfl ?_
  refine z_scoder C hk w_11_64 dJ0_coder_7d493_7 ?_
  refine z_goto C 14 dJ0_coder_7d493_10 (by decide) ?_
  subst hρ
  exact z_nret C rfl dJ0_coder_7d493_14
theorem cJ_coder {l : Launch} {kd : List KD} {w : Wp} {σ : St} {k_a : Nat} (hi : zI kd w) (hk : k_a < 46) : zM l kd w yJ0_coder_7d493 cJ0_coder_7d493 1 (some .byte) rmJ_coder [.ref (w.2.2.2.1 k_a)] σ (some (.int 0), σ) := zM_of rfl hi (Nat.le_of_ble_eq_true rfl) (fun Θ _ hw C => by
  obtain ⟨Θ1, Θ2, Θ3, Θ4, Θ5⟩ := Θ
  cases hw
  exact pJ_coder C hk rfl)
abbrev rmJ_isLatin1 : Room := { frames := 0, cells := 0, slots := 0, locals := 0 }
set_option maxHeartbeats 4000000 in
set_option maxRecDepth 100000 in
theorem pJ_isLatin1 {Θ : Tz} {σ : St} {ρ : Option Value × St} (C : Zc Θ cJ0_isLatin1_aae02 1 RJ0 (some .boolean) rmJ_isLatin1) {k_a : Nat} (hk : k_a < 46) (hρ : ρ = (some (.int 1), σ)) : Z Θ 1 0 0 (zQ Θ ρ) σ 0 [(0, .ref (zK Θ k_a))] [] := by
  refine z_compact C w_4_203 dJ0_isLatin1_aae02_0 ?_
  refine c0_ne_f C 17 dJ0_isLatin1_aae02_3 (by decide) (fun h1 => ?_) (fun h1 => absurd (by decide) h1)
  refine z_aload_n C 0 dJ0_isLatin1_aae02_6 rfl rfl ?_
  refine z_scoder C hk w_11_64 dJ0_isLatin1_aae02_7 ?_
  refine c0_eq_f C 17 dJ0_isLatin1_aae02_10 (by decide) (fun h1 => ?_) (fun h1 => absurd rfl h1)
  refine z_iconst (v := 1) C dJ0_isLatin1_aae02_13 ic_1 ?_
  refine z_goto C 18 dJ0_isLatin1_aae02_14 (by decide) ?_
  subst hρ
  exact z_nret C rfl dJ0_isLatin1_aae02_18
theorem cJ_isLatin1 {l : Launch} {kd : List KD} {w : Wp} {σ : St} {k_a : Nat} (hi : zI kd w) (hk : k_a < 46) : zM l kd w yJ0_isLatin1_aae02 cJ0_isLatin1_aae02 1 (some .boolean) rmJ_isLatin1 [.ref (w.2.2.2.1 k_a)] σ (some (.int 1), σ) := zM_of rfl hi (Nat.le_of_ble_eq_true rfl) (fun Θ _ hw C => by
  obtain ⟨Θ1, Θ2, Θ3, Θ4, Θ5⟩ := Θ
  cases hw
  exact pJ_isLatin1 C hk rfl)
abbrev rmJ_length : Room := { frames := 1, cells := 0, slots := 0, locals := 20 }
theorem sl_shr {n : Nat} (h : n < 100) : shr (Int32.ofNat n) 0 = Int32.ofNat n := by
  revert n
  decide +kernel
set_option maxHeartbeats 4000000 in
set_option maxRecDepth 100000 in
theorem pJ_length {Θ : Tz} {σ : St} {ρ : Option Value × St} (C : Zc Θ cJ0_length_8abf5 1 RJ0 (some .int) rmJ_length) {k_a : Nat} (hk : k_a < 46) (hρ : ρ = (some (.int (slen k_a)), σ)) : Z Θ 1 0 0 (zQ Θ ρ) σ 0 [(0, .ref (zK Θ k_a))] [] := by
  refine z_aload_n C 0 dJ0_length_8abf5_0 rfl rfl ?_
  refine z_svalue C hk w_11_63 dJ0_length_8abf5_1 ?_
  refine z_slen C hk dJ0_length_8abf5_4 ?_
  refine z_aload_n C 0 dJ0_length_8abf5_5 rfl rfl ?_
  refine z_callK C hk rfl [] (some (.int 0), σ) 0 (cJ_coder (zc_inj C) hk) w_4_202 w_4_199 w_4_200 w_4_201 w_1_16 ⟨rfl, rfl, (Nat.le_of_ble_eq_true rfl), (Nat.le_of_ble_eq_true rfl)⟩ (by decide +kernel) rfl rfl (Nat.le_of_ble_eq_true rfl) ⟨Nat.zero_le _, Nat.zero_le _⟩ dJ0_length_8abf5_6 ?_
  refine z_shr C dJ0_length_8abf5_9 ?_
  have e : shr (slen k_a) 0 = slen k_a := by
    have h := (str_all k_a hk).2.1
    exact sl_shr h
  rw [e]
  subst hρ
  exact z_iret C dJ0_length_8abf5_10
theorem cJ_length {l : Launch} {kd : List KD} {w : Wp} {σ : St} {k_a : Nat} (hi : zI kd w) (hk : k_a < 46) : zM l kd w yJ0_length_8abf5 cJ0_length_8abf5 1 (some .int) rmJ_length [.ref (w.2.2.2.1 k_a)] σ (some (.int (slen k_a)), σ) := zM_of rfl hi (Nat.le_of_ble_eq_true rfl) (fun Θ _ hw C => by
  obtain ⟨Θ1, Θ2, Θ3, Θ4, Θ5⟩ := Θ
  cases hw
  exact pJ_length C hk rfl)
abbrev rmJ_pre : Room := { frames := 0, cells := 0, slots := 0, locals := 0 }
set_option maxHeartbeats 4000000 in
set_option maxRecDepth 100000 in
theorem pJ_pre {Θ : Tz} {σ : St} {ρ : Option Value × St} (C : Zc Θ cJ3_checkIndex_8e157 3 RJ3 (some .int) rmJ_pre) {i_a n_a : Int32} {v : Value} (h0 : ¬ i_a < 0) (hl : i_a < n_a) (hv : v = .null ∨ ∃ t, v = .ref t) (hρ : ρ = (some (.int i_a), σ)) : Z Θ 3 0 0 (zQ Θ ρ) σ 0 [(0, .int i_a), (1, .int n_a), (2, v)] [] := by
  refine z_iload_n C 0 dJ3_checkIndex_8e157_0 rfl rfl ?_
  refine c0_lt_t C 9 dJ3_checkIndex_8e157_1 (by decide) (fun h1 => absurd h1 h0) (fun h1 => ?_)
  refine z_iload_n C 0 dJ3_checkIndex_8e157_4 rfl rfl ?_
  refine z_iload_n C 1 dJ3_checkIndex_8e157_5 rfl rfl ?_
  refine c_lt_t C 16 dJ3_checkIndex_8e157_6 (by decide) (fun h2 => ?_) (fun h2 => absurd hl h2)
  refine z_iload_n C 0 dJ3_checkIndex_8e157_16 rfl rfl ?_
  subst hρ
  exact z_iret C dJ3_checkIndex_8e157_17
theorem cJ_pre {l : Launch} {kd : List KD} {w : Wp} {σ : St} {i_a n_a : Int32} {v : Value} (hi : zI kd w) (h0 : ¬ i_a < 0) (hl : i_a < n_a) (hv : v = .null ∨ ∃ t, v = .ref t) : zM l kd w yJ3_checkIndex_8e157 cJ3_checkIndex_8e157 3 (some .int) rmJ_pre [.int i_a, .int n_a, v] σ (some (.int i_a), σ) := zM_of rfl hi (by rcases hv with rfl | ⟨t, rfl⟩ <;> exact (Nat.le_of_ble_eq_true rfl)) (fun Θ _ hw C => by
  obtain ⟨Θ1, Θ2, Θ3, Θ4, Θ5⟩ := Θ
  cases hw
  exact pJ_pre C h0 hl hv rfl)
abbrev rmJ_chk : Room := { frames := 1, cells := 0, slots := 0, locals := 22 }
set_option maxHeartbeats 4000000 in
set_option maxRecDepth 100000 in
theorem pJ_chk {Θ : Tz} {σ : St} {ρ : Option Value × St} (C : Zc Θ cJ0_checkIndex_df160 2 RJ0 none rmJ_chk) {i_a n_a : Int32} (h0 : ¬ i_a < 0) (hl : i_a < n_a) (hρ : ρ = (none, σ)) : Z Θ 2 0 0 (zQ Θ ρ) σ 0 [(0, .int i_a), (1, .int n_a)] [] := by
  refine z_iload_n C 0 dJ0_checkIndex_df160_0 rfl rfl ?_
  refine z_iload_n C 1 dJ0_checkIndex_df160_1 rfl rfl ?_
  refine z_siob C w_4_219 dJ0_checkIndex_df160_2 (fun v hv => ?_)
  refine z_callS C [.int i_a, .int n_a, v] (some (.int i_a), σ) 3 (cJ_pre (zc_inj C) h0 hl hv) w_4_223 w_4_221 w_4_222 w_1_18 ⟨rfl, rfl, (Nat.le_of_ble_eq_true rfl), (Nat.le_of_ble_eq_true rfl)⟩ (by decide +kernel) rfl rfl (Nat.le_of_ble_eq_true rfl) ⟨Nat.zero_le _, Nat.zero_le _⟩ dJ0_checkIndex_df160_5 ?_
  refine z_pop C dJ0_checkIndex_df160_8 rfl ?_
  subst hρ
  exact z_vret C dJ0_checkIndex_df160_9
theorem cJ_chk {l : Launch} {kd : List KD} {w : Wp} {σ : St} {i_a n_a : Int32} (hi : zI kd w) (h0 : ¬ i_a < 0) (hl : i_a < n_a) : zM l kd w yJ0_checkIndex_df160 cJ0_checkIndex_df160 2 none rmJ_chk [.int i_a, .int n_a] σ (none, σ) := zM_of rfl hi (Nat.le_of_ble_eq_true rfl) (fun Θ _ hw C => by
  obtain ⟨Θ1, Θ2, Θ3, Θ4, Θ5⟩ := Θ
  cases hw
  exact pJ_chk C h0 hl rfl)
abbrev rmJ_lat : Room := { frames := 2, cells := 0, slots := 0, locals := 43 }
theorem slen_lt {k : Nat} {j : Int32} (hl : strL.getD k 0 < 100) (h : ¬ (j < 0 ∨ strL.getD k 0 ≤ j.toNatClampNeg)) : j < slen k := by
  have h1 := (vp_in_iff (x := j) (n := strL.getD k 0)).mp h
  rw [Int32.lt_iff_toInt_lt, show (slen k).toInt = ((strL.getD k 0 : Nat) : Int) from nI_toInt (by omega)]
  exact h1.2
set_option maxHeartbeats 4000000 in
set_option maxRecDepth 100000 in
theorem pJ_lat {Θ : Tz} {σ : St} {ρ : Option Value × St} (C : Zc Θ cJ1_charAt_3b067 2 RJ1 (some .char) rmJ_lat) {k_a : Nat} {j_a : Int32} (hk : k_a < 46) (hj : ¬ (j_a < 0 ∨ strL.getD k_a 0 ≤ j_a.toNatClampNeg)) (hρ : ρ = (some (.int ((strB.getD k_a []).getD j_a.toNatClampNeg 0)), σ)) : Z Θ 2 0 0 (zQ Θ ρ) σ 0 [(0, .ref (zV Θ k_a)), (1, .int j_a)] [] := by
  have hs := (str_all k_a hk).2.1
  refine z_iload_n C 1 dJ1_charAt_3b067_0 rfl rfl ?_
  refine z_aload_n C 0 dJ1_charAt_3b067_1 rfl rfl ?_
  refine z_slen C hk dJ1_charAt_3b067_2 ?_
  refine z_callS C [.int j_a, .int (slen k_a)] (none, σ) 2 (cJ_chk (zc_inj C) (fun n => hj (Or.inl n)) (slen_lt hs hj)) w_4_218 w_4_216 w_4_217 w_1_16 ⟨rfl, rfl, (Nat.le_of_ble_eq_true rfl), (Nat.le_of_ble_eq_true rfl)⟩ (by decide +kernel) rfl rfl (Nat.le_of_ble_eq_true rfl) ⟨Nat.zero_le _, Nat.zero_le _⟩ dJ1_charAt_3b067_3 ?_
  refine z_aload_n C 0 dJ1_charAt_3b067_6 rfl rfl ?_
  refine z_iload_n C 1 dJ1_charAt_3b067_7 rfl rfl ?_
  refine z_sbyte C hk hj dJ1_charAt_3b067_8 ?_
  refine z_sipush (v := 255) C dJ1_charAt_3b067_9 sp_255 ?_
  refine z_iand C dJ1_charAt_3b067_12 ?_
  refine z_i2c C (str_ch hk).1 dJ1_charAt_3b067_13 ?_
  subst hρ
  exact z_nret C (str_ch hk).2 dJ1_charAt_3b067_14
theorem cJ_lat {l : Launch} {kd : List KD} {w : Wp} {σ : St} {k_a : Nat} {j_a : Int32} (hi : zI kd w) (hk : k_a < 46) (hj : ¬ (j_a < 0 ∨ strL.getD k_a 0 ≤ j_a.toNatClampNeg)) : zM l kd w yJ1_charAt_3b067 cJ1_charAt_3b067 2 (some .char) rmJ_lat [.ref (w.2.2.2.2 k_a), .int j_a] σ (some (.int ((strB.getD k_a []).getD j_a.toNatClampNeg 0)), σ) := zM_of rfl hi (Nat.le_of_ble_eq_true rfl) (fun Θ _ hw C => by
  obtain ⟨Θ1, Θ2, Θ3, Θ4, Θ5⟩ := Θ
  cases hw
  exact pJ_lat C hk hj rfl)
abbrev rmJ_charAt : Room := { frames := 3, cells := 0, slots := 0, locals := 64 }
set_option maxHeartbeats 4000000 in
set_option maxRecDepth 100000 in
theorem pJ_charAt {Θ : Tz} {σ : St} {ρ : Option Value × St} (C : Zc Θ cJ0_charAt_5068e 2 RJ0 (some .char) rmJ_charAt) {k_a : Nat} {j_a : Int32} (hk : k_a < 46) (hj : ¬ (j_a < 0 ∨ strL.getD k_a 0 ≤ j_a.toNatClampNeg)) (hρ : ρ = (some (.int ((strB.getD k_a []).getD j_a.toNatClampNeg 0)), σ)) : Z Θ 2 0 0 (zQ Θ ρ) σ 0 [(0, .ref (zK Θ k_a)), (1, .int j_a)] [] := by
  refine z_aload_n C 0 dJ0_charAt_5068e_0 rfl rfl ?_
  refine z_callK C hk rfl [] (some (.int 1), σ) 0 (cJ_isLatin1 (zc_inj C) hk) w_4_212 w_4_209 w_4_210 w_4_211 w_1_16 ⟨rfl, rfl, (Nat.le_of_ble_eq_true rfl), (Nat.le_of_ble_eq_true rfl)⟩ (by decide +kernel) rfl rfl (Nat.le_of_ble_eq_true rfl) ⟨Nat.zero_le _, Nat.zero_le _⟩ dJ0_charAt_5068e_1 ?_
  refine c0_ne_f C 16 dJ0_charAt_5068e_4 (by decide) (fun h1 => ?_) (fun h1 => absurd (by decide) h1)
  refine z_aload_n C 0 dJ0_charAt_5068e_7 rfl rfl ?_
  refine z_svalue C hk w_11_63 dJ0_charAt_5068e_8 ?_
  refine z_iload_n C 1 dJ0_charAt_5068e_11 rfl rfl ?_
  refine z_callS C [.ref (zV Θ k_a), .int j_a] (some (.int ((strB.getD k_a []).getD j_a.toNatClampNeg 0)), σ) 2 (cJ_lat (zc_inj C) hk hj) w_4_215 w_4_213 w_4_214 w_1_17 ⟨rfl, rfl, (Nat.le_of_ble_eq_true rfl), (Nat.le_of_ble_eq_true rfl)⟩ (by decide +kernel) rfl rfl (Nat.le_of_ble_eq_true rfl) ⟨Nat.zero_le _, Nat.zero_le _⟩ dJ0_charAt_5068e_12 ?_
  subst hρ
  exact z_nret C (str_ch hk).2 dJ0_charAt_5068e_15
theorem cJ_charAt {l : Launch} {kd : List KD} {w : Wp} {σ : St} {k_a : Nat} {j_a : Int32} (hi : zI kd w) (hk : k_a < 46) (hj : ¬ (j_a < 0 ∨ strL.getD k_a 0 ≤ j_a.toNatClampNeg)) : zM l kd w yJ0_charAt_5068e cJ0_charAt_5068e 2 (some .char) rmJ_charAt [.ref (w.2.2.2.1 k_a), .int j_a] σ (some (.int ((strB.getD k_a []).getD j_a.toNatClampNeg 0)), σ) := zM_of rfl hi (Nat.le_of_ble_eq_true rfl) (fun Θ _ hw C => by
  obtain ⟨Θ1, Θ2, Θ3, Θ4, Θ5⟩ := Θ
  cases hw
  exact pJ_charAt C hk hj rfl)
abbrev rmJ_fill : Room := { frames := 0, cells := 0, slots := 0, locals := 0 }
def fil (σ : St) (i n : Nat) (x : Int32) : St := fun a => if a = i then (fun b => if b < n then x else σ a b) else σ a
theorem fil_0 {σ : St} {i : Nat} {x : Int32} : fil σ i 0 x = σ := by funext a b; simp [fil]
theorem fil_up {σ : St} {i n : Nat} {x : Int32} : up (fil σ i n x) i n x = fil σ i (n + 1) x := by
  funext a b
  by_cases ha : a = i
  · subst ha
    by_cases hb : b = n
    · subst hb; simp [up, fil]
    · have : (b < n + 1) = (b < n) := by apply propext; omega
      simp [up, fil, hb, this]
  · simp [up, fil, ha]
set_option maxHeartbeats 4000000 in
set_option maxRecDepth 100000 in
theorem pJ_fill {Θ : Tz} {σ : St} {ρ : Option Value × St} (C : Zc Θ cJ7_fill_53178 4 RJ7 none rmJ_fill) {i_a n_a : Nat} {x_a : Int32} (hk : Θ.2.2.2.2.1[i_a]? = some (.inl n_a)) (hn : n_a < 2 ^ 31) (hρ : ρ = (none, fil σ i_a n_a x_a)) : Z Θ 4 0 0 (zQ Θ ρ) σ 0 [(0, .ref (zA Θ i_a)), (1, .int x_a)] [] := by
  refine z_iconst (v := 0) C dJ7_fill_53178_0 ic_0 ?_
  refine z_istN C dJ7_fill_53178_1 rfl rfl (Nat.le_of_ble_eq_true rfl) rfl ?_
  refine z_aload_n C 1 dJ7_fill_53178_2 rfl rfl ?_
  refine z_alen C i_a hk rfl dJ7_fill_53178_3 ?_
  refine z_istN C dJ7_fill_53178_4 rfl rfl (Nat.le_of_ble_eq_true rfl) rfl ?_
  have K : ∀ (d m : Nat), m + d = n_a → Z Θ 4 0 0 (zQ Θ ρ) (fil σ i_a m x_a) 5 [(3, .int (Int32.ofNat n_a)), (2, .int (nI m)), (0, .ref (zA Θ i_a)), (1, .int x_a)] [] := by
    intro d
    induction d with
    | zero =>
      intro m hm
      rw [Nat.add_zero] at hm
      subst hm
      refine z_iload_n C 1 dJ7_fill_53178_5 rfl rfl ?_
      refine z_iload_n C 0 dJ7_fill_53178_6 rfl rfl ?_
      refine c_lt_f C 20 dJ7_fill_53178_7 (by decide) (fun h1 => absurd h1 (nI_nlt (Nat.le_refl _) hn)) (fun _ => ?_)
      subst hρ
      exact z_vret C dJ7_fill_53178_20
    | succ d ih =>
      intro m hm
      refine z_iload_n C 1 dJ7_fill_53178_5 rfl rfl ?_
      refine z_iload_n C 0 dJ7_fill_53178_6 rfl rfl ?_
      refine c_lt_f C 20 dJ7_fill_53178_7 (by decide) (fun _ => ?_) (fun h1 => absurd (nI_lt (by omega) hn) h1)
      refine z_aload_n C 2 dJ7_fill_53178_10 rfl rfl ?_
      refine z_iload_n C 1 dJ7_fill_53178_11 rfl rfl ?_
      refine z_iload_n C 3 dJ7_fill_53178_12 rfl rfl ?_
      refine z_ast C i_a hk (vp_in_nI (by omega) hn) dJ7_fill_53178_13 ?_
      rw [nI_clamp (by omega), fil_up]
      refine z_inc (v := nI (m + 1)) C 1 dJ7_fill_53178_14 rfl ic_1 (nI_1 m).symm (Nat.le_of_ble_eq_true rfl) rfl ?_
      refine z_goto C 5 dJ7_fill_53178_17 (by decide) ?_
      refine Z.sub [1, 0, 2, 3] rfl ?_
      exact ih (m + 1) (by omega)
  have h := K n_a 0 (Nat.zero_add _)
  rw [fil_0] at h
  exact h
theorem cJ_fill {l : Launch} {kd : List KD} {w : Wp} {σ : St} {i_a n_a : Nat} {x_a : Int32} (hi : zI kd w) (hk : kd[i_a]? = some (.inl n_a)) (hn : n_a < 2 ^ 31) : zM l kd w yJ7_fill_53178 cJ7_fill_53178 4 none rmJ_fill [.ref (w.2.2.1 i_a), .int x_a] σ (none, fil σ i_a n_a x_a) := zM_of rfl hi (Nat.le_of_ble_eq_true rfl) (fun Θ _ hw C => by
  obtain ⟨Θ1, Θ2, Θ3, Θ4, Θ5⟩ := Θ
  cases hw
  exact pJ_fill C hk hn rfl)

/-! LastLoaf$Tape.put -/
theorem w_1_46 : Cond.fieldLink "LastLoaf$Tape" (15 : Nat) "LastLoaf$Tape" "length" "I" ∈ TB := sorry
theorem fg8_15 {Θ : Tz} {cc : ByteArray} {nL kc ks : Nat} {ret : Option FieldType} {rm : Room} {Q : State → Prop} {σ : St} {pc : Nat} {lv : List (Nat × Value)} {st : List Value} (C : Zc Θ cc nL RX8 ret rm) (hkd : Θ.2.2.2.2.1 = kdC) (hd : decode cc pc = .ok (.getfield 15, 3)) (kk : Z Θ nL kc ks Q σ (pc + 3) lv (.int (σ 1 1) :: st)) : Z Θ nL kc ks Q σ pc lv (.ref (zA Θ 1) :: st) := sorry
theorem w_1_44 : Cond.fieldLink "LastLoaf$Tape" (9 : Nat) "LastLoaf$Tape" "bytes" "[I" ∈ TB := sorry
theorem fg8_9 {Θ : Tz} {cc : ByteArray} {nL kc ks : Nat} {ret : Option FieldType} {rm : Room} {Q : State → Prop} {σ : St} {pc : Nat} {lv : List (Nat × Value)} {st : List Value} (C : Zc Θ cc nL RX8 ret rm) (hkd : Θ.2.2.2.2.1 = kdC) (hd : decode cc pc = .ok (.getfield 9, 3)) (kk : Z Θ nL kc ks Q σ (pc + 3) lv (.ref (zA Θ 2) :: st)) : Z Θ nL kc ks Q σ pc lv (.ref (zA Θ 1) :: st) := sorry
theorem fp8_15 {Θ : Tz} {cc : ByteArray} {nL kc ks : Nat} {ret : Option FieldType} {rm : Room} {Q : State → Prop} {σ : St} {pc : Nat} {lv : List (Nat × Value)} {st : List Value} (C : Zc Θ cc nL RX8 ret rm) (hkd : Θ.2.2.2.2.1 = kdC) {x : Int32} {σ1 : St} (he : σ1 = up σ 1 1 x) (hd : decode cc pc = .ok (.putfield 15, 3)) (kk : Z Θ nL kc ks Q σ1 (pc + 3) lv st) : Z Θ nL kc ks Q σ pc lv (.int x :: .ref (zA Θ 1) :: st) := sorry
theorem ic_m8 : Int32.ofInt (-8) = (-8) := sorry
def q8_put (σ : St) (number_a : Int32) : Option St :=
  Option.bind (loop2 (fun rec4_ (shift7_ : Int32) (σ8_ : St) =>
  if (0 ≤ shift7_) ∧ ((σ8_ 1 1) < 400) then
  Option.bind (sa σ8_ 2 400 (σ8_ 1 1) ((ushr number_a shift7_) &&& 255)) fun σ16_ =>
  lt (up σ16_ 1 1 ((σ16_ 1 1) + 1)) fun σ18_ =>
  lt (shift7_ + (-8)) fun shift20_ =>
  rec4_ shift20_ σ18_
  else (some (shift7_, σ8_))) fuelN (24 : Int32) σ) fun y1_ =>
  some y1_.2
abbrev rm8_put : Room := { frames := 0, cells := 0, slots := 0, locals := 0 }
theorem c8_put {l : Launch} {kd : List KD} {w : Wp} {σ : St} {number_a : Int32} (hkd : kd = kdC) (hi : zI kd w) {r : St} (hf : q8_put σ number_a = some r) : zM l kd w yX8_put cX8_put 3 none rm8_put [.ref (w.2.2.1 1), .int number_a] σ (none, r) := sorry
/-! LastLoaf.feed -/
theorem w_2_187 : Cond.fieldLink "LastLoaf" (12 : Nat) "LastLoaf" "tape" "LLastLoaf$Tape;" ∈ TB := sorry
theorem fg11_12 {Θ : Tz} {cc : ByteArray} {nL kc ks : Nat} {ret : Option FieldType} {rm : Room} {Q : State → Prop} {σ : St} {pc : Nat} {lv : List (Nat × Value)} {st : List Value} (C : Zc Θ cc nL RX11 ret rm) (hkd : Θ.2.2.2.2.1 = kdC) (hd : decode cc pc = .ok (.getfield 12, 3)) (kk : Z Θ nL kc ks Q σ (pc + 3) lv (.ref (zA Θ 1) :: st)) : Z Θ nL kc ks Q σ pc lv (.ref (zA Θ 0) :: st) := sorry
theorem w_1_47 : Cond.fieldLink "LastLoaf" (103 : Nat) "LastLoaf$Tape" "length" "I" ∈ TB := sorry
theorem fg11_103 {Θ : Tz} {cc : ByteArray} {nL kc ks : Nat} {ret : Option FieldType} {rm : Room} {Q : State → Prop} {σ : St} {pc : Nat} {lv : List (Nat × Value)} {st : List Value} (C : Zc Θ cc nL RX11 ret rm) (hkd : Θ.2.2.2.2.1 = kdC) (hd : decode cc pc = .ok (.getfield 103, 3)) (kk : Z Θ nL kc ks Q σ (pc + 3) lv (.int (σ 1 1) :: st)) : Z Θ nL kc ks Q σ pc lv (.ref (zA Θ 1) :: st) := sorry
theorem w_3_3 : Cond.code ({ cls := "LastLoaf$Tape", name := "put", desc := "(I)V" } : MethodName) prog_10_method_2_code (3 : Nat) (Option.none : Option ClassFile.FieldType) ∈ TB := sorry
theorem w_1_2 : Cond.initialized "LastLoaf$Tape" ∈ TB := sorry
theorem w_3_0 : Cond.methodLink "LastLoaf" (106 : Nat) ({ cls := "LastLoaf$Tape", name := "put", desc := "(I)V" } : MethodName) ∈ TB := sorry
theorem w_3_1 : Cond.instanceMethod ({ cls := "LastLoaf$Tape", name := "put", desc := "(I)V" } : MethodName) ∈ TB := sorry
theorem w_3_2 : Cond.selects "LastLoaf$Tape" ({ cls := "LastLoaf$Tape", name := "put", desc := "(I)V" } : MethodName) ({ cls := "LastLoaf$Tape", name := "put", desc := "(I)V" } : MethodName) ∈ TB := sorry
theorem cr11_106 {Θ : Tz} {cc : ByteArray} {nL kc ks : Nat} {ret : Option FieldType} {rm : Room} {Q : State → Prop} {σ : St} {pc : Nat} {lv : List (Nat × Value)} {st : List Value} (C : Zc Θ cc nL RX11 ret rm) (hkd : Θ.2.2.2.2.1 = kdC) {number_a : Int32} {r : St} (hx : q8_put σ number_a = some r) (hrm : rm8_put.frames + 1 ≤ rm.frames ∧ 8 + (3 + 11) + rm8_put.locals ≤ rm.locals) (hcat : (st.map fun v => v.category).sum ≤ 8) (hk : kc ≤ rm.cells ∧ ks ≤ rm.slots) (hd : decode cc pc = .ok (.invokevirtual 106, 3)) (kk : Z Θ nL kc ks Q r (pc + 3) lv st) : Z Θ nL kc ks Q σ pc lv (.int number_a :: .ref (zA Θ 1) :: st) := sorry
def q11_feed (σ : St) (a_a : Int32) (b_a : Int32) (c_a : Int32) (d_a : Int32) (e_a : Int32) : Option (Int32 × St) :=
  if 400 < ((σ 1 1) + 20) then (some ((-1), σ)) else
  Option.bind (q8_put σ a_a) fun x5_ =>
  Option.bind (q8_put x5_ b_a) fun x7_ =>
  Option.bind (q8_put x7_ c_a) fun x9_ =>
  Option.bind (q8_put x9_ d_a) fun x11_ =>
  Option.bind (q8_put x11_ e_a) fun x13_ =>
  some (x13_ 1 1, x13_)
abbrev rm11_feed : Room := { frames := 1, cells := 0, slots := 0, locals := 22 }
theorem c11_feed {l : Launch} {kd : List KD} {w : Wp} {σ : St} {a_a : Int32} {b_a : Int32} {c_a : Int32} {d_a : Int32} {e_a : Int32} (hkd : kd = kdC) (hi : zI kd w) {r : (Int32 × St)} (hf : q11_feed σ a_a b_a c_a d_a e_a = some r) : zM l kd w yX11_feed cX11_feed 6 (some .int) rm11_feed [.ref (w.2.2.1 0), .int a_a, .int b_a, .int c_a, .int d_a, .int e_a] σ (some (.int r.1), r.2) := sorry
/-! LastLoaf.end -/
theorem fp11_103 {Θ : Tz} {cc : ByteArray} {nL kc ks : Nat} {ret : Option FieldType} {rm : Room} {Q : State → Prop} {σ : St} {pc : Nat} {lv : List (Nat × Value)} {st : List Value} (C : Zc Θ cc nL RX11 ret rm) (hkd : Θ.2.2.2.2.1 = kdC) {x : Int32} {σ1 : St} (he : σ1 = up σ 1 1 x) (hd : decode cc pc = .ok (.putfield 103, 3)) (kk : Z Θ nL kc ks Q σ1 (pc + 3) lv st) : Z Θ nL kc ks Q σ pc lv (.int x :: .ref (zA Θ 1) :: st) := sorry
def q11_end (σ : St) (n_a : Int32) : Option (Bool × St) :=
  if (n_a < 0) ∨ ((σ 1 1) < n_a) then (some (false, σ)) else
  lt (up σ 1 1 n_a) fun σ6_ =>
  some (true, σ6_)
abbrev rm11_end : Room := { frames := 0, cells := 0, slots := 0, locals := 0 }
theorem c11_end {l : Launch} {kd : List KD} {w : Wp} {σ : St} {n_a : Int32} (hkd : kd = kdC) (hi : zI kd w) {r : (Bool × St)} (hf : q11_end σ n_a = some r) : zM l kd w yX11_end cX11_end 2 (some .boolean) rm11_end [.ref (w.2.2.1 0), .int n_a] σ (some (.int (b2i r.1)), r.2) := sorry
/-! LastLoaf.closeText -/
theorem w_1_50 : Cond.fieldLink "LastLoaf" (470 : Nat) "LastLoaf$Tape" "begin" "I" ∈ TB := sorry
theorem fg11_470 {Θ : Tz} {cc : ByteArray} {nL kc ks : Nat} {ret : Option FieldType} {rm : Room} {Q : State → Prop} {σ : St} {pc : Nat} {lv : List (Nat × Value)} {st : List Value} (C : Zc Θ cc nL RX11 ret rm) (hkd : Θ.2.2.2.2.1 = kdC) (hd : decode cc pc = .ok (.getfield 470, 3)) (kk : Z Θ nL kc ks Q σ (pc + 3) lv (.int (σ 1 2) :: st)) : Z Θ nL kc ks Q σ pc lv (.ref (zA Θ 1) :: st) := sorry
theorem w_2_202 : Cond.fieldLink "LastLoaf" (99 : Nat) "LastLoaf" "faultAt" "I" ∈ TB := sorry
theorem fp11_99 {Θ : Tz} {cc : ByteArray} {nL kc ks : Nat} {ret : Option FieldType} {rm : Room} {Q : State → Prop} {σ : St} {pc : Nat} {lv : List (Nat × Value)} {st : List Value} (C : Zc Θ cc nL RX11 ret rm) (hkd : Θ.2.2.2.2.1 = kdC) {x : Int32} {σ1 : St} (he : σ1 = up σ 0 15 x) (hd : decode cc pc = .ok (.putfield 99, 3)) (kk : Z Θ nL kc ks Q σ1 (pc + 3) lv st) : Z Θ nL kc ks Q σ pc lv (.int x :: .ref (zA Θ 0) :: st) := sorry
def q11_closeText (σ : St) (right_a : Bool) : Option St :=
  lt (up σ 0 15 (if right_a = true then (-1) else σ 1 2)) fun σ6_ =>
  lt (up σ6_ 1 1 0) fun σ8_ =>
  some σ8_
abbrev rm11_closeText : Room := { frames := 0, cells := 0, slots := 0, locals := 0 }
theorem c11_closeText {l : Launch} {kd : List KD} {w : Wp} {σ : St} {right_a : Bool} (hkd : kd = kdC) (hi : zI kd w) {r : St} (hf : q11_closeText σ right_a = some r) : zM l kd w yX11_closeText cX11_closeText 2 none rm11_closeText [.ref (w.2.2.1 0), .int (b2i right_a)] σ (none, r) := sorry
/-! LastLoaf$Past.forget -/
theorem w_2_25 : Cond.fieldLink "LastLoaf$Past" (17 : Nat) "LastLoaf$Past" "size" "I" ∈ TB := sorry
theorem fp4_17 {Θ : Tz} {cc : ByteArray} {nL kc ks : Nat} {ret : Option FieldType} {rm : Room} {Q : State → Prop} {σ : St} {pc : Nat} {lv : List (Nat × Value)} {st : List Value} (C : Zc Θ cc nL RX4 ret rm) (hkd : Θ.2.2.2.2.1 = kdC) {x : Int32} {σ1 : St} (he : σ1 = up σ 5 1 x) (hd : decode cc pc = .ok (.putfield 17, 3)) (kk : Z Θ nL kc ks Q σ1 (pc + 3) lv st) : Z Θ nL kc ks Q σ pc lv (.int x :: .ref (zA Θ 5) :: st) := sorry
def q4_forget (σ : St) : Option St :=
  lt (up σ 5 1 0) fun σ1_ =>
  some σ1_
abbrev rm4_forget : Room := { frames := 0, cells := 0, slots := 0, locals := 0 }
theorem c4_forget {l : Launch} {kd : List KD} {w : Wp} {σ : St} (hkd : kd = kdC) (hi : zI kd w) {r : St} (hf : q4_forget σ = some r) : zM l kd w yX4_forget cX4_forget 1 none rm4_forget [.ref (w.2.2.1 5)] σ (none, r) := sorry
/-! LastLoaf$Tape.kindOf -/
def q8_kindOf (sign_a : Int32) : Int32 :=
  if (97 ≤ sign_a) ∧ (sign_a ≤ 122) then 1 else
  if (48 ≤ sign_a) ∧ (sign_a ≤ 57) then 2 else 3
abbrev rm8_kindOf : Room := { frames := 0, cells := 0, slots := 0, locals := 0 }
theorem c8_kindOf {l : Launch} {kd : List KD} {w : Wp} {σ : St} {sign_a : Int32} (hkd : kd = kdC) (hi : zI kd w) : zM l kd w yX8_kindOf cX8_kindOf 1 (some .int) rm8_kindOf [.int sign_a] σ (some (.int (q8_kindOf sign_a)), σ) := sorry
/-! LastLoaf$Tape.advance -/
theorem w_1_51 : Cond.fieldLink "LastLoaf$Tape" (22 : Nat) "LastLoaf$Tape" "after" "I" ∈ TB := sorry
theorem fg8_22 {Θ : Tz} {cc : ByteArray} {nL kc ks : Nat} {ret : Option FieldType} {rm : Room} {Q : State → Prop} {σ : St} {pc : Nat} {lv : List (Nat × Value)} {st : List Value} (C : Zc Θ cc nL RX8 ret rm) (hkd : Θ.2.2.2.2.1 = kdC) (hd : decode cc pc = .ok (.getfield 22, 3)) (kk : Z Θ nL kc ks Q σ (pc + 3) lv (.int (σ 1 3) :: st)) : Z Θ nL kc ks Q σ pc lv (.ref (zA Θ 1) :: st) := sorry
theorem w_1_49 : Cond.fieldLink "LastLoaf$Tape" (19 : Nat) "LastLoaf$Tape" "begin" "I" ∈ TB := sorry
theorem fp8_19 {Θ : Tz} {cc : ByteArray} {nL kc ks : Nat} {ret : Option FieldType} {rm : Room} {Q : State → Prop} {σ : St} {pc : Nat} {lv : List (Nat × Value)} {st : List Value} (C : Zc Θ cc nL RX8 ret rm) (hkd : Θ.2.2.2.2.1 = kdC) {x : Int32} {σ1 : St} (he : σ1 = up σ 1 2 x) (hd : decode cc pc = .ok (.putfield 19, 3)) (kk : Z Θ nL kc ks Q σ1 (pc + 3) lv st) : Z Θ nL kc ks Q σ pc lv (.int x :: .ref (zA Θ 1) :: st) := sorry
theorem fg8_19 {Θ : Tz} {cc : ByteArray} {nL kc ks : Nat} {ret : Option FieldType} {rm : Room} {Q : State → Prop} {σ : St} {pc : Nat} {lv : List (Nat × Value)} {st : List Value} (C : Zc Θ cc nL RX8 ret rm) (hkd : Θ.2.2.2.2.1 = kdC) (hd : decode cc pc = .ok (.getfield 19, 3)) (kk : Z Θ nL kc ks Q σ (pc + 3) lv (.int (σ 1 2) :: st)) : Z Θ nL kc ks Q σ pc lv (.ref (zA Θ 1) :: st) := sorry
theorem fp8_22 {Θ : Tz} {cc : ByteArray} {nL kc ks : Nat} {ret : Option FieldType} {rm : Room} {Q : State → Prop} {σ : St} {pc : Nat} {lv : List (Nat × Value)} {st : List Value} (C : Zc Θ cc nL RX8 ret rm) (hkd : Θ.2.2.2.2.1 = kdC) {x : Int32} {σ1 : St} (he : σ1 = up σ 1 3 x) (hd : decode cc pc = .ok (.putfield 22, 3)) (kk : Z Θ nL kc ks Q σ1 (pc + 3) lv st) : Z Θ nL kc ks Q σ pc lv (.int x :: .ref (zA Θ 1) :: st) := sorry
theorem w_1_52 : Cond.fieldLink "LastLoaf$Tape" (25 : Nat) "LastLoaf$Tape" "kind" "I" ∈ TB := sorry
theorem fp8_25 {Θ : Tz} {cc : ByteArray} {nL kc ks : Nat} {ret : Option FieldType} {rm : Room} {Q : State → Prop} {σ : St} {pc : Nat} {lv : List (Nat × Value)} {st : List Value} (C : Zc Θ cc nL RX8 ret rm) (hkd : Θ.2.2.2.2.1 = kdC) {x : Int32} {σ1 : St} (he : σ1 = up σ 1 4 x) (hd : decode cc pc = .ok (.putfield 25, 3)) (kk : Z Θ nL kc ks Q σ1 (pc + 3) lv st) : Z Θ nL kc ks Q σ pc lv (.int x :: .ref (zA Θ 1) :: st) := sorry
theorem w_4_181 : Cond.code ({ cls := "LastLoaf$Tape", name := "kindOf", desc := "(I)I" } : MethodName) prog_10_method_5_code (1 : Nat) (Option.some ClassFile.FieldType.int) ∈ TB := sorry
theorem w_4_180 : Cond.static ({ cls := "LastLoaf$Tape", name := "kindOf", desc := "(I)I" } : MethodName) ∈ TB := sorry
theorem w_4_179 : Cond.methodLink "LastLoaf$Tape" (31 : Nat) ({ cls := "LastLoaf$Tape", name := "kindOf", desc := "(I)I" } : MethodName) ∈ TB := sorry
theorem cr8_31 {Θ : Tz} {cc : ByteArray} {nL kc ks : Nat} {ret : Option FieldType} {rm : Room} {Q : State → Prop} {σ : St} {pc : Nat} {lv : List (Nat × Value)} {st : List Value} (C : Zc Θ cc nL RX8 ret rm) (hkd : Θ.2.2.2.2.1 = kdC) {sign_a : Int32} (hrm : rm8_kindOf.frames + 1 ≤ rm.frames ∧ 8 + (1 + 11) + rm8_kindOf.locals ≤ rm.locals) (hcat : (st.map fun v => v.category).sum ≤ 8) (hk : kc ≤ rm.cells ∧ ks ≤ rm.slots) (hd : decode cc pc = .ok (.invokestatic 31, 3)) (kk : Z Θ nL kc ks Q σ (pc + 3) lv (.int (q8_kindOf sign_a) :: st)) : Z Θ nL kc ks Q σ pc lv (.int sign_a :: st) := sorry
theorem fg8_25 {Θ : Tz} {cc : ByteArray} {nL kc ks : Nat} {ret : Option FieldType} {rm : Room} {Q : State → Prop} {σ : St} {pc : Nat} {lv : List (Nat × Value)} {st : List Value} (C : Zc Θ cc nL RX8 ret rm) (hkd : Θ.2.2.2.2.1 = kdC) (hd : decode cc pc = .ok (.getfield 25, 3)) (kk : Z Θ nL kc ks Q σ (pc + 3) lv (.int (σ 1 4) :: st)) : Z Θ nL kc ks Q σ pc lv (.ref (zA Θ 1) :: st) := sorry
def q8_advance (σ : St) : Option St :=
  lt (up σ 1 2 (σ 1 3)) fun σ1_ =>
  Option.bind (loop1 (fun rec6_ (σ9_ : St) =>
  Option.bind (if (σ9_ 1 2) < (σ9_ 1 1) then (Option.bind (ag σ9_ 2 400 (σ9_ 1 2)) fun x17_ =>
  if x17_ = 32 then (some true) else (some false)) else (some false)) fun t14_ =>
  if t14_ = true then
  lt (up σ9_ 1 2 ((σ9_ 1 2) + 1)) fun σ21_ =>
  rec6_ σ21_
  else (some σ9_)) fuelN σ1_) fun y3_ =>
  lt (up y3_ 1 3 (y3_ 1 2)) fun σ23_ =>
  lt (up σ23_ 1 4 0) fun σ25_ =>
  Option.bind (if (σ25_ 1 2) < (σ25_ 1 1) then (Option.bind (ag σ25_ 2 400 (σ25_ 1 2)) fun x34_ =>
  lt (up σ25_ 1 4 (q8_kindOf x34_)) fun σ36_ =>
  lt (up σ36_ 1 3 ((σ36_ 1 3) + 1)) fun σ38_ =>
  some (σ38_)) else (some (σ25_))) fun y27_ =>
  Option.bind (loop1 (fun rec43_ (σ46_ : St) =>
  Option.bind (if ¬ (σ46_ 1 4) = 3 then (if (σ46_ 1 3) < (σ46_ 1 1) then (Option.bind (ag σ46_ 2 400 (σ46_ 1 3)) fun x55_ =>
  if (q8_kindOf x55_) = (σ46_ 1 4) then (some true) else (some false)) else (some false)) else (some false)) fun t51_ =>
  if t51_ = true then
  lt (up σ46_ 1 3 ((σ46_ 1 3) + 1)) fun σ59_ =>
  rec43_ σ59_
  else (some σ46_)) fuelN y27_) fun y40_ =>
  some y40_
abbrev rm8_advance : Room := { frames := 1, cells := 0, slots := 0, locals := 20 }
theorem c8_advance {l : Launch} {kd : List KD} {w : Wp} {σ : St} (hkd : kd = kdC) (hi : zI kd w) {r : St} (hf : q8_advance σ = some r) : zM l kd w yX8_advance cX8_advance 1 none rm8_advance [.ref (w.2.2.1 1)] σ (none, r) := sorry
/-! LastLoaf$Tape.numberUpTo -/
def q8_numberUpTo (σ : St) (most_a : Int32) : Option Int32 :=
  if (¬ (σ 1 4) = 2) ∨ (3 < ((σ 1 3) - (σ 1 2))) then (some (-1)) else
  lt (σ 1 2) fun i6_ =>
  Option.bind (loop2 (fun rec11_ (number14_ : Int32) (i15_ : Int32) =>
  if i15_ < (σ 1 3) then
  Option.bind (ag σ 2 400 i15_) fun x22_ =>
  lt (((number14_ * 10) + x22_) - 48) fun number24_ =>
  lt (i15_ + 1) fun i26_ =>
  rec11_ number24_ i26_
  else (some (number14_, i15_))) fuelN (0 : Int32) i6_) fun y8_ =>
  some (if y8_.1 ≤ most_a then y8_.1 else (-1))
abbrev rm8_numberUpTo : Room := { frames := 0, cells := 0, slots := 0, locals := 0 }
theorem c8_numberUpTo {l : Launch} {kd : List KD} {w : Wp} {σ : St} {most_a : Int32} (hkd : kd = kdC) (hi : zI kd w) {r : Int32} (hf : q8_numberUpTo σ most_a = some r) : zM l kd w yX8_numberUpTo cX8_numberUpTo 4 (some .int) rm8_numberUpTo [.ref (w.2.2.1 1), .int most_a] σ (some (.int r), σ) := sorry
/-! LastLoaf$Reader.numberFollows -/
theorem w_1_236 : Cond.fieldLink "LastLoaf$Reader" (22 : Nat) "LastLoaf$Reader" "tape" "LLastLoaf$Tape;" ∈ TB := sorry
theorem fg6_22 {Θ : Tz} {cc : ByteArray} {nL kc ks : Nat} {ret : Option FieldType} {rm : Room} {Q : State → Prop} {σ : St} {pc : Nat} {lv : List (Nat × Value)} {st : List Value} (C : Zc Θ cc nL RX6 ret rm) (hkd : Θ.2.2.2.2.1 = kdC) (hd : decode cc pc = .ok (.getfield 22, 3)) (kk : Z Θ nL kc ks Q σ (pc + 3) lv (.ref (zA Θ 1) :: st)) : Z Θ nL kc ks Q σ pc lv (.ref (zA Θ 3) :: st) := sorry
theorem w_4_178 : Cond.code ({ cls := "LastLoaf$Tape", name := "advance", desc := "()V" } : MethodName) prog_10_method_4_code (1 : Nat) (Option.none : Option ClassFile.FieldType) ∈ TB := sorry
theorem w_5_7 : Cond.methodLink "LastLoaf$Reader" (50 : Nat) ({ cls := "LastLoaf$Tape", name := "advance", desc := "()V" } : MethodName) ∈ TB := sorry
theorem w_4_176 : Cond.instanceMethod ({ cls := "LastLoaf$Tape", name := "advance", desc := "()V" } : MethodName) ∈ TB := sorry
theorem w_4_177 : Cond.selects "LastLoaf$Tape" ({ cls := "LastLoaf$Tape", name := "advance", desc := "()V" } : MethodName) ({ cls := "LastLoaf$Tape", name := "advance", desc := "()V" } : MethodName) ∈ TB := sorry
theorem cr6_50 {Θ : Tz} {cc : ByteArray} {nL kc ks : Nat} {ret : Option FieldType} {rm : Room} {Q : State → Prop} {σ : St} {pc : Nat} {lv : List (Nat × Value)} {st : List Value} (C : Zc Θ cc nL RX6 ret rm) (hkd : Θ.2.2.2.2.1 = kdC) {r : St} (hx : q8_advance σ = some r) (hrm : rm8_advance.frames + 1 ≤ rm.frames ∧ 8 + (1 + 11) + rm8_advance.locals ≤ rm.locals) (hcat : (st.map fun v => v.category).sum ≤ 8) (hk : kc ≤ rm.cells ∧ ks ≤ rm.slots) (hd : decode cc pc = .ok (.invokevirtual 50, 3)) (kk : Z Θ nL kc ks Q r (pc + 3) lv st) : Z Θ nL kc ks Q σ pc lv (.ref (zA Θ 1) :: st) := sorry
theorem w_5_16 : Cond.code ({ cls := "LastLoaf$Tape", name := "numberUpTo", desc := "(I)I" } : MethodName) prog_10_method_9_code (4 : Nat) (Option.some ClassFile.FieldType.int) ∈ TB := sorry
theorem w_5_13 : Cond.methodLink "LastLoaf$Reader" (94 : Nat) ({ cls := "LastLoaf$Tape", name := "numberUpTo", desc := "(I)I" } : MethodName) ∈ TB := sorry
theorem w_5_14 : Cond.instanceMethod ({ cls := "LastLoaf$Tape", name := "numberUpTo", desc := "(I)I" } : MethodName) ∈ TB := sorry
theorem w_5_15 : Cond.selects "LastLoaf$Tape" ({ cls := "LastLoaf$Tape", name := "numberUpTo", desc := "(I)I" } : MethodName) ({ cls := "LastLoaf$Tape", name := "numberUpTo", desc := "(I)I" } : MethodName) ∈ TB := sorry
theorem cr6_94 {Θ : Tz} {cc : ByteArray} {nL kc ks : Nat} {ret : Option FieldType} {rm : Room} {Q : State → Prop} {σ : St} {pc : Nat} {lv : List (Nat × Value)} {st : List Value} (C : Zc Θ cc nL RX6 ret rm) (hkd : Θ.2.2.2.2.1 = kdC) {most_a : Int32} {r : Int32} (hx : q8_numberUpTo σ most_a = some r) (hrm : rm8_numberUpTo.frames + 1 ≤ rm.frames ∧ 8 + (4 + 11) + rm8_numberUpTo.locals ≤ rm.locals) (hcat : (st.map fun v => v.category).sum ≤ 8) (hk : kc ≤ rm.cells ∧ ks ≤ rm.slots) (hd : decode cc pc = .ok (.invokevirtual 94, 3)) (kk : Z Θ nL kc ks Q σ (pc + 3) lv (.int r :: st)) : Z Θ nL kc ks Q σ pc lv (.int most_a :: .ref (zA Θ 1) :: st) := sorry
def q6_numberFollows (σ : St) (most_a : Int32) : Option (Int32 × St) :=
  Option.bind (q8_advance σ) fun x1_ =>
  Option.bind (q8_numberUpTo x1_ most_a) fun x3_ =>
  Option.bind (if ¬ x3_ = (-1) then (Option.bind (q8_advance x1_) fun x12_ =>
  some (x12_)) else (some (x1_))) fun y5_ =>
  some (x3_, y5_)
abbrev rm6_numberFollows : Room := { frames := 2, cells := 0, slots := 0, locals := 40 }
theorem c6_numberFollows {l : Launch} {kd : List KD} {w : Wp} {σ : St} {most_a : Int32} (hkd : kd = kdC) (hi : zI kd w) {r : (Int32 × St)} (hf : q6_numberFollows σ most_a = some r) : zM l kd w yX6_numberFollows cX6_numberFollows 3 (some .int) rm6_numberFollows [.ref (w.2.2.1 3), .int most_a] σ (some (.int r.1), r.2) := sorry
/-! LastLoaf$Tape.isWord -/
theorem w_4_195 : Cond.methodLink "LastLoaf$Tape" (35 : Nat) ({ cls := "java/lang/String", name := "length", desc := "()I" } : MethodName) ∈ TB := sorry
theorem w_4_205 : Cond.methodLink "LastLoaf$Tape" (40 : Nat) ({ cls := "java/lang/String", name := "charAt", desc := "(I)C" } : MethodName) ∈ TB := sorry
def q8_isWord (σ : St) (word_a : Nat) : Option Bool :=
  Option.bind (if ¬ (σ 1 4) = 1 then (some true) else (if ¬ ((σ 1 3) - (σ 1 2)) = (slen word_a) then (some true) else (some false))) fun t3_ =>
  if t3_ = true then (some false) else
  Option.bind (loop1 (fun rec11_ (i14_ : Int32) =>
  if i14_ < (slen word_a) then
  Option.bind (ag σ 2 400 ((σ 1 2) + i14_)) fun x23_ =>
  Option.bind (schr word_a i14_) fun x25_ =>
  if ¬ x23_ = x25_ then (some (.inl false)) else
  lt (i14_ + 1) fun i29_ =>
  rec11_ i29_
  else (some (.inr i14_))) fuelN (0 : Int32)) fun y8_ =>
  Sum.elim (fun x9 => some x9) (fun y8_r =>
  some true) y8_
abbrev rm8_isWord : Room := { frames := 4, cells := 0, slots := 0, locals := 85 }
theorem c8_isWord {l : Launch} {kd : List KD} {w : Wp} {σ : St} {word_a : Nat} (hkd : kd = kdC) (hi : zI kd w) (h_word : word_a < 46) {r : Bool} (hf : q8_isWord σ word_a = some r) : zM l kd w yX8_isWord cX8_isWord 3 (some .boolean) rm8_isWord [.ref (w.2.2.1 1), .ref (w.2.2.2.1 word_a)] σ (some (.int (b2i r)), σ) := sorry
/-! LastLoaf$Reader.seasonHere -/
theorem w_4_194 : Cond.code ({ cls := "LastLoaf$Tape", name := "isWord", desc := "(Ljava/lang/String;)Z" } : MethodName) prog_10_method_8_code (3 : Nat) (Option.some ClassFile.FieldType.boolean) ∈ TB := sorry
theorem w_4_191 : Cond.methodLink "LastLoaf$Reader" (55 : Nat) ({ cls := "LastLoaf$Tape", name := "isWord", desc := "(Ljava/lang/String;)Z" } : MethodName) ∈ TB := sorry
theorem w_4_192 : Cond.instanceMethod ({ cls := "LastLoaf$Tape", name := "isWord", desc := "(Ljava/lang/String;)Z" } : MethodName) ∈ TB := sorry
theorem w_4_193 : Cond.selects "LastLoaf$Tape" ({ cls := "LastLoaf$Tape", name := "isWord", desc := "(Ljava/lang/String;)Z" } : MethodName) ({ cls := "LastLoaf$Tape", name := "isWord", desc := "(Ljava/lang/String;)Z" } : MethodName) ∈ TB := sorry
theorem cr6_55 {Θ : Tz} {cc : ByteArray} {nL kc ks : Nat} {ret : Option FieldType} {rm : Room} {Q : State → Prop} {σ : St} {pc : Nat} {lv : List (Nat × Value)} {st : List Value} (C : Zc Θ cc nL RX6 ret rm) (hkd : Θ.2.2.2.2.1 = kdC) {word_a : Nat} (h_word : word_a < 46) {r : Bool} (hx : q8_isWord σ word_a = some r) (hrm : rm8_isWord.frames + 1 ≤ rm.frames ∧ 8 + (3 + 11) + rm8_isWord.locals ≤ rm.locals) (hcat : (st.map fun v => v.category).sum ≤ 8) (hk : kc ≤ rm.cells ∧ ks ≤ rm.slots) (hd : decode cc pc = .ok (.invokevirtual 55, 3)) (kk : Z Θ nL kc ks Q σ (pc + 3) lv (.int (b2i r) :: st)) : Z Θ nL kc ks Q σ pc lv (.ref (zK Θ word_a) :: .ref (zA Θ 1) :: st) := sorry
def q6_seasonHere (σ : St) : Option Int32 :=
  Option.bind (q8_isWord σ 9) fun x3_ =>
  if x3_ = true then (some 0) else
  Option.bind (q8_isWord σ 10) fun x9_ =>
  if x9_ = true then (some 1) else
  Option.bind (q8_isWord σ 11) fun x15_ =>
  if x15_ = true then (some 2) else
  Option.bind (Option.bind (q8_isWord σ 12) fun x24_ =>
  if x24_ = true then (some (3 : Int32)) else (some (-1 : Int32))) fun x19_ =>
  some x19_
abbrev rm6_seasonHere : Room := { frames := 5, cells := 0, slots := 0, locals := 107 }
theorem c6_seasonHere {l : Launch} {kd : List KD} {w : Wp} {σ : St} (hkd : kd = kdC) (hi : zI kd w) {r : Int32} (hf : q6_seasonHere σ = some r) : zM l kd w yX6_seasonHere cX6_seasonHere 1 (some .int) rm6_seasonHere [.ref (w.2.2.1 3)] σ (some (.int r), σ) := sorry
/-! LastLoaf$Reader.readGrist -/
theorem w_5_39 : Cond.code ({ cls := "LastLoaf$Reader", name := "seasonHere", desc := "()I" } : MethodName) prog_8_method_9_code (1 : Nat) (Option.some ClassFile.FieldType.int) ∈ TB := sorry
theorem w_1_7 : Cond.initialized "LastLoaf$Reader" ∈ TB := sorry
theorem w_5_36 : Cond.methodLink "LastLoaf$Reader" (127 : Nat) ({ cls := "LastLoaf$Reader", name := "seasonHere", desc := "()I" } : MethodName) ∈ TB := sorry
theorem w_5_37 : Cond.instanceMethod ({ cls := "LastLoaf$Reader", name := "seasonHere", desc := "()I" } : MethodName) ∈ TB := sorry
theorem w_5_38 : Cond.selects "LastLoaf$Reader" ({ cls := "LastLoaf$Reader", name := "seasonHere", desc := "()I" } : MethodName) ({ cls := "LastLoaf$Reader", name := "seasonHere", desc := "()I" } : MethodName) ∈ TB := sorry
theorem cr6_127 {Θ : Tz} {cc : ByteArray} {nL kc ks : Nat} {ret : Option FieldType} {rm : Room} {Q : State → Prop} {σ : St} {pc : Nat} {lv : List (Nat × Value)} {st : List Value} (C : Zc Θ cc nL RX6 ret rm) (hkd : Θ.2.2.2.2.1 = kdC) {r : Int32} (hx : q6_seasonHere σ = some r) (hrm : rm6_seasonHere.frames + 1 ≤ rm.frames ∧ 8 + (1 + 11) + rm6_seasonHere.locals ≤ rm.locals) (hcat : (st.map fun v => v.category).sum ≤ 8) (hk : kc ≤ rm.cells ∧ ks ≤ rm.slots) (hd : decode cc pc = .ok (.invokevirtual 127, 3)) (kk : Z Θ nL kc ks Q σ (pc + 3) lv (.int r :: st)) : Z Θ nL kc ks Q σ pc lv (.ref (zA Θ 3) :: st) := sorry
theorem w_1_237 : Cond.fieldLink "LastLoaf$Reader" (26 : Nat) "LastLoaf$Reader" "village" "LLastLoaf$Village;" ∈ TB := sorry
theorem fg6_26 {Θ : Tz} {cc : ByteArray} {nL kc ks : Nat} {ret : Option FieldType} {rm : Room} {Q : State → Prop} {σ : St} {pc : Nat} {lv : List (Nat × Value)} {st : List Value} (C : Zc Θ cc nL RX6 ret rm) (hkd : Θ.2.2.2.2.1 = kdC) (hd : decode cc pc = .ok (.getfield 26, 3)) (kk : Z Θ nL kc ks Q σ (pc + 3) lv (.ref (zA Θ 54) :: st)) : Z Θ nL kc ks Q σ pc lv (.ref (zA Θ 3) :: st) := sorry
theorem w_1_118 : Cond.fieldLink "LastLoaf$Reader" (131 : Nat) "LastLoaf$Village" "grist" "[I" ∈ TB := sorry
theorem fg6_131 {Θ : Tz} {cc : ByteArray} {nL kc ks : Nat} {ret : Option FieldType} {rm : Room} {Q : State → Prop} {σ : St} {pc : Nat} {lv : List (Nat × Value)} {st : List Value} (C : Zc Θ cc nL RX6 ret rm) (hkd : Θ.2.2.2.2.1 = kdC) {th : Nat} (hth : isV th) (hd : decode cc pc = .ok (.getfield 131, 3)) (kk : Z Θ nL kc ks Q σ (pc + 3) lv (.ref (zA Θ (th + 7)) :: st)) : Z Θ nL kc ks Q σ pc lv (.ref (zA Θ th) :: st) := sorry
theorem w_5_12 : Cond.code ({ cls := "LastLoaf$Reader", name := "numberFollows", desc := "(I)I" } : MethodName) prog_8_method_4_code (3 : Nat) (Option.some ClassFile.FieldType.int) ∈ TB := sorry
theorem w_5_9 : Cond.methodLink "LastLoaf$Reader" (74 : Nat) ({ cls := "LastLoaf$Reader", name := "numberFollows", desc := "(I)I" } : MethodName) ∈ TB := sorry
theorem w_5_10 : Cond.instanceMethod ({ cls := "LastLoaf$Reader", name := "numberFollows", desc := "(I)I" } : MethodName) ∈ TB := sorry
theorem w_5_11 : Cond.selects "LastLoaf$Reader" ({ cls := "LastLoaf$Reader", name := "numberFollows", desc := "(I)I" } : MethodName) ({ cls := "LastLoaf$Reader", name := "numberFollows", desc := "(I)I" } : MethodName) ∈ TB := sorry
theorem cr6_74 {Θ : Tz} {cc : ByteArray} {nL kc ks : Nat} {ret : Option FieldType} {rm : Room} {Q : State → Prop} {σ : St} {pc : Nat} {lv : List (Nat × Value)} {st : List Value} (C : Zc Θ cc nL RX6 ret rm) (hkd : Θ.2.2.2.2.1 = kdC) {most_a : Int32} {r : Int32 × St} (hx : q6_numberFollows σ most_a = some r) (hrm : rm6_numberFollows.frames + 1 ≤ rm.frames ∧ 8 + (3 + 11) + rm6_numberFollows.locals ≤ rm.locals) (hcat : (st.map fun v => v.category).sum ≤ 8) (hk : kc ≤ rm.cells ∧ ks ≤ rm.slots) (hd : decode cc pc = .ok (.invokevirtual 74, 3)) (kk : Z Θ nL kc ks Q r.2 (pc + 3) lv (.int r.1 :: st)) : Z Θ nL kc ks Q σ pc lv (.int most_a :: .ref (zA Θ 3) :: st) := sorry
def q6_readGrist (σ : St) : Option (Bool × St) :=
  Option.bind (q8_advance σ) fun x1_ =>
  Option.bind (q6_seasonHere x1_) fun x3_ =>
  if x3_ = (-1) then (some (false, x1_)) else
  Option.bind (q6_numberFollows x1_ 99) fun x9_ =>
  Option.bind (sa x9_.2 (54 + 7) 4 x3_ x9_.1) fun σ11_ =>
  Option.bind (Option.bind (ag σ11_ (54 + 7) 4 x3_) fun x18_ =>
  if ¬ x18_ = (-1) then (some true) else (some false)) fun x13_ =>
  some (x13_, σ11_)
abbrev rm6_readGrist : Room := { frames := 6, cells := 0, slots := 0, locals := 127 }
theorem c6_readGrist {l : Launch} {kd : List KD} {w : Wp} {σ : St} (hkd : kd = kdC) (hi : zI kd w) {r : (Bool × St)} (hf : q6_readGrist σ = some r) : zM l kd w yX6_readGrist cX6_readGrist 2 (some .boolean) rm6_readGrist [.ref (w.2.2.1 3)] σ (some (.int (b2i r.1)), r.2) := sorry
/-! LastLoaf$Reader.readLikes -/
theorem w_1_129 : Cond.fieldLink "LastLoaf$Reader" (97 : Nat) "LastLoaf$Village" "people" "I" ∈ TB := sorry
theorem fg6_97 {Θ : Tz} {cc : ByteArray} {nL kc ks : Nat} {ret : Option FieldType} {rm : Room} {Q : State → Prop} {σ : St} {pc : Nat} {lv : List (Nat × Value)} {st : List Value} (C : Zc Θ cc nL RX6 ret rm) (hkd : Θ.2.2.2.2.1 = kdC) {th : Nat} (hth : isV th) (hd : decode cc pc = .ok (.getfield 97, 3)) (kk : Z Θ nL kc ks Q σ (pc + 3) lv (.int (σ th 8) :: st)) : Z Θ nL kc ks Q σ pc lv (.ref (zA Θ th) :: st) := sorry
theorem w_1_113 : Cond.fieldLink "LastLoaf$Reader" (125 : Nat) "LastLoaf$Village" "likes" "[I" ∈ TB := sorry
theorem fg6_125 {Θ : Tz} {cc : ByteArray} {nL kc ks : Nat} {ret : Option FieldType} {rm : Room} {Q : State → Prop} {σ : St} {pc : Nat} {lv : List (Nat × Value)} {st : List Value} (C : Zc Θ cc nL RX6 ret rm) (hkd : Θ.2.2.2.2.1 = kdC) {th : Nat} (hth : isV th) (hd : decode cc pc = .ok (.getfield 125, 3)) (kk : Z Θ nL kc ks Q σ (pc + 3) lv (.ref (zA Θ (th + 6)) :: st)) : Z Θ nL kc ks Q σ pc lv (.ref (zA Θ th) :: st) := sorry
def q6_readLikes (σ : St) : Option (Bool × St) :=
  Option.bind (q6_numberFollows σ ((σ 54 8) - 1)) fun x1_ =>
  Option.bind (q8_numberUpTo x1_.2 ((x1_.2 54 8) - 1)) fun x3_ =>
  if ((x1_.1 = (-1)) ∨ (x3_ = (-1))) ∨ (x1_.1 = x3_) then (some (false, x1_.2)) else
  Option.bind (q6_numberFollows x1_.2 9) fun x11_ =>
  Option.bind (sa x11_.2 (54 + 6) 36 ((x1_.1 * 6) + x3_) x11_.1) fun σ13_ =>
  some (decide (¬ x11_.1 = (-1)), σ13_)
abbrev rm6_readLikes : Room := { frames := 3, cells := 0, slots := 0, locals := 62 }
theorem c6_readLikes {l : Launch} {kd : List KD} {w : Wp} {σ : St} (hkd : kd = kdC) (hi : zI kd w) {r : (Bool × St)} (hf : q6_readLikes σ = some r) : zM l kd w yX6_readLikes cX6_readLikes 4 (some .boolean) rm6_readLikes [.ref (w.2.2.1 3)] σ (some (.int (b2i r.1)), r.2) := sorry
/-! LastLoaf$Reader.readParty -/
theorem w_1_98 : Cond.fieldLink "LastLoaf$Reader" (100 : Nat) "LastLoaf$Village" "party" "[I" ∈ TB := sorry
theorem fg6_100 {Θ : Tz} {cc : ByteArray} {nL kc ks : Nat} {ret : Option FieldType} {rm : Room} {Q : State → Prop} {σ : St} {pc : Nat} {lv : List (Nat × Value)} {st : List Value} (C : Zc Θ cc nL RX6 ret rm) (hkd : Θ.2.2.2.2.1 = kdC) {th : Nat} (hth : isV th) (hd : decode cc pc = .ok (.getfield 100, 3)) (kk : Z Θ nL kc ks Q σ (pc + 3) lv (.ref (zA Θ (th + 2)) :: st)) : Z Θ nL kc ks Q σ pc lv (.ref (zA Θ th) :: st) := sorry
def q6_readParty (σ : St) (person_a : Int32) : Option (Bool × St) :=
  Option.bind (q8_advance σ) fun x1_ =>
  Option.bind (Option.bind (q8_isWord x1_ 3) fun x7_ =>
  if x7_ = true then (some false) else (Option.bind (q8_isWord x1_ 4) fun x10_ =>
  if x10_ = true then (some false) else (some true))) fun t5_ =>
  if t5_ = true then (some (false, x1_)) else
  Option.bind (Option.bind (q8_isWord x1_ 3) fun x19_ =>
  if x19_ = true then (some (0 : Int32)) else (some (1 : Int32))) fun x14_ =>
  Option.bind (sa x1_ (54 + 2) 6 person_a x14_) fun σ23_ =>
  Option.bind (q8_advance σ23_) fun x25_ =>
  some (true, x25_)
abbrev rm6_readParty : Room := { frames := 5, cells := 0, slots := 0, locals := 107 }
theorem c6_readParty {l : Launch} {kd : List KD} {w : Wp} {σ : St} {person_a : Int32} (hkd : kd = kdC) (hi : zI kd w) {r : (Bool × St)} (hf : q6_readParty σ person_a = some r) : zM l kd w yX6_readParty cX6_readParty 2 (some .boolean) rm6_readParty [.ref (w.2.2.1 3), .int person_a] σ (some (.int (b2i r.1)), r.2) := sorry
/-! LastLoaf$Reader.readPerson -/
theorem fp6_97 {Θ : Tz} {cc : ByteArray} {nL kc ks : Nat} {ret : Option FieldType} {rm : Room} {Q : State → Prop} {σ : St} {pc : Nat} {lv : List (Nat × Value)} {st : List Value} (C : Zc Θ cc nL RX6 ret rm) (hkd : Θ.2.2.2.2.1 = kdC) {th : Nat} (hth : isV th) {x : Int32} {σ1 : St} (he : σ1 = up σ th 8 x) (hd : decode cc pc = .ok (.putfield 97, 3)) (kk : Z Θ nL kc ks Q σ1 (pc + 3) lv st) : Z Θ nL kc ks Q σ pc lv (.int x :: .ref (zA Θ th) :: st) := sorry
theorem w_1_94 : Cond.fieldLink "LastLoaf$Reader" (105 : Nat) "LastLoaf$Village" "hunger" "[I" ∈ TB := sorry
theorem fg6_105 {Θ : Tz} {cc : ByteArray} {nL kc ks : Nat} {ret : Option FieldType} {rm : Room} {Q : State → Prop} {σ : St} {pc : Nat} {lv : List (Nat × Value)} {st : List Value} (C : Zc Θ cc nL RX6 ret rm) (hkd : Θ.2.2.2.2.1 = kdC) {th : Nat} (hth : isV th) (hd : decode cc pc = .ok (.getfield 105, 3)) (kk : Z Θ nL kc ks Q σ (pc + 3) lv (.ref (zA Θ (th + 1)) :: st)) : Z Θ nL kc ks Q σ pc lv (.ref (zA Θ th) :: st) := sorry
theorem w_5_21 : Cond.code ({ cls := "LastLoaf$Reader", name := "readParty", desc := "(I)Z" } : MethodName) prog_8_method_6_code (2 : Nat) (Option.some ClassFile.FieldType.boolean) ∈ TB := sorry
theorem w_5_18 : Cond.methodLink "LastLoaf$Reader" (108 : Nat) ({ cls := "LastLoaf$Reader", name := "readParty", desc := "(I)Z" } : MethodName) ∈ TB := sorry
theorem w_5_19 : Cond.instanceMethod ({ cls := "LastLoaf$Reader", name := "readParty", desc := "(I)Z" } : MethodName) ∈ TB := sorry
theorem w_5_20 : Cond.selects "LastLoaf$Reader" ({ cls := "LastLoaf$Reader", name := "readParty", desc := "(I)Z" } : MethodName) ({ cls := "LastLoaf$Reader", name := "readParty", desc := "(I)Z" } : MethodName) ∈ TB := sorry
theorem cr6_108 {Θ : Tz} {cc : ByteArray} {nL kc ks : Nat} {ret : Option FieldType} {rm : Room} {Q : State → Prop} {σ : St} {pc : Nat} {lv : List (Nat × Value)} {st : List Value} (C : Zc Θ cc nL RX6 ret rm) (hkd : Θ.2.2.2.2.1 = kdC) {person_a : Int32} {r : Bool × St} (hx : q6_readParty σ person_a = some r) (hrm : rm6_readParty.frames + 1 ≤ rm.frames ∧ 8 + (2 + 11) + rm6_readParty.locals ≤ rm.locals) (hcat : (st.map fun v => v.category).sum ≤ 8) (hk : kc ≤ rm.cells ∧ ks ≤ rm.slots) (hd : decode cc pc = .ok (.invokevirtual 108, 3)) (kk : Z Θ nL kc ks Q r.2 (pc + 3) lv (.int (b2i r.1) :: st)) : Z Θ nL kc ks Q σ pc lv (.int person_a :: .ref (zA Θ 3) :: st) := sorry
theorem w_1_101 : Cond.fieldLink "LastLoaf$Reader" (114 : Nat) "LastLoaf$Village" "skin" "[I" ∈ TB := sorry
theorem fg6_114 {Θ : Tz} {cc : ByteArray} {nL kc ks : Nat} {ret : Option FieldType} {rm : Room} {Q : State → Prop} {σ : St} {pc : Nat} {lv : List (Nat × Value)} {st : List Value} (C : Zc Θ cc nL RX6 ret rm) (hkd : Θ.2.2.2.2.1 = kdC) {th : Nat} (hth : isV th) (hd : decode cc pc = .ok (.getfield 114, 3)) (kk : Z Θ nL kc ks Q σ (pc + 3) lv (.ref (zA Θ (th + 3)) :: st)) : Z Θ nL kc ks Q σ pc lv (.ref (zA Θ th) :: st) := sorry
theorem w_1_134 : Cond.fieldLink "LastLoaf$Reader" (118 : Nat) "LastLoaf$Village" "standing" "I" ∈ TB := sorry
theorem fg6_118 {Θ : Tz} {cc : ByteArray} {nL kc ks : Nat} {ret : Option FieldType} {rm : Room} {Q : State → Prop} {σ : St} {pc : Nat} {lv : List (Nat × Value)} {st : List Value} (C : Zc Θ cc nL RX6 ret rm) (hkd : Θ.2.2.2.2.1 = kdC) {th : Nat} (hth : isV th) (hd : decode cc pc = .ok (.getfield 118, 3)) (kk : Z Θ nL kc ks Q σ (pc + 3) lv (.int (σ th 9) :: st)) : Z Θ nL kc ks Q σ pc lv (.ref (zA Θ th) :: st) := sorry
theorem fp6_118 {Θ : Tz} {cc : ByteArray} {nL kc ks : Nat} {ret : Option FieldType} {rm : Room} {Q : State → Prop} {σ : St} {pc : Nat} {lv : List (Nat × Value)} {st : List Value} (C : Zc Θ cc nL RX6 ret rm) (hkd : Θ.2.2.2.2.1 = kdC) {th : Nat} (hth : isV th) {x : Int32} {σ1 : St} (he : σ1 = up σ th 9 x) (hd : decode cc pc = .ok (.putfield 118, 3)) (kk : Z Θ nL kc ks Q σ1 (pc + 3) lv st) : Z Θ nL kc ks Q σ pc lv (.int x :: .ref (zA Θ th) :: st) := sorry
def q6_readPerson (σ : St) : Option (Bool × St) :=
  lt (σ 54 8) fun person1_ =>
  if 6 ≤ person1_ then (some (false, σ)) else
  lt (up σ 54 8 ((σ 54 8) + 1)) fun σ7_ =>
  Option.bind (sa σ7_ (54 + 2) 6 person1_ 2) fun σ9_ =>
  Option.bind (q8_advance σ9_) fun x11_ =>
  Option.bind (q8_isWord x11_ 1) fun x15_ =>
  if ¬ (x15_ = true) then (some (false, x11_)) else
  Option.bind (q6_numberFollows x11_ 9) fun x19_ =>
  Option.bind (sa x19_.2 (54 + 1) 6 person1_ x19_.1) fun σ21_ =>
  Option.bind (ag σ21_ (54 + 1) 6 person1_) fun x25_ =>
  if x25_ = (-1) then (some (false, σ21_)) else
  Option.bind (Option.bind (q8_isWord σ21_ 2) fun x33_ =>
  if x33_ = true then (Option.bind (q6_readParty σ21_ person1_) fun x36_ =>
  if x36_.1 = true then (some (false, x36_.2)) else (some (true, x36_.2))) else (some (false, σ21_))) fun t31_ =>
  if t31_.1 = true then (some (false, t31_.2)) else
  Option.bind (Option.bind (q8_isWord t31_.2 5) fun x45_ =>
  if x45_ = true then (Option.bind (q6_numberFollows t31_.2 9) fun x49_ =>
  Option.bind (sa x49_.2 (54 + 3) 6 person1_ x49_.1) fun σ51_ =>
  some (σ51_)) else (some (t31_.2))) fun y40_ =>
  Option.bind (Option.bind (Option.bind (ag y40_ (54 + 3) 6 person1_) fun x60_ =>
  if ¬ x60_ = (-1) then (Option.bind (q8_isWord y40_ 6) fun x63_ =>
  if x63_ = true then (some true) else (some false)) else (some false)) fun t58_ =>
  if t58_ = true then (lt (up y40_ 54 9 ((y40_ 54 9) ||| (shl 1 person1_))) fun σ67_ =>
  Option.bind (q8_advance σ67_) fun x69_ =>
  some (x69_)) else (some (y40_))) fun y53_ =>
  Option.bind (Option.bind (ag y53_ (54 + 3) 6 person1_) fun x76_ =>
  if ¬ x76_ = (-1) then (some true) else (some false)) fun x71_ =>
  some (x71_, y53_)
abbrev rm6_readPerson : Room := { frames := 6, cells := 0, slots := 0, locals := 128 }
theorem c6_readPerson {l : Launch} {kd : List KD} {w : Wp} {σ : St} (hkd : kd = kdC) (hi : zI kd w) {r : (Bool × St)} (hf : q6_readPerson σ = some r) : zM l kd w yX6_readPerson cX6_readPerson 2 (some .boolean) rm6_readPerson [.ref (w.2.2.1 3)] σ (some (.int (b2i r.1)), r.2) := sorry
/-! LastLoaf$Reader.readVillageLine -/
theorem w_5_6 : Cond.code ({ cls := "LastLoaf$Reader", name := "readPerson", desc := "()Z" } : MethodName) prog_8_method_5_code (2 : Nat) (Option.some ClassFile.FieldType.boolean) ∈ TB := sorry
theorem w_5_3 : Cond.methodLink "LastLoaf$Reader" (59 : Nat) ({ cls := "LastLoaf$Reader", name := "readPerson", desc := "()Z" } : MethodName) ∈ TB := sorry
theorem w_5_4 : Cond.instanceMethod ({ cls := "LastLoaf$Reader", name := "readPerson", desc := "()Z" } : MethodName) ∈ TB := sorry
theorem w_5_5 : Cond.selects "LastLoaf$Reader" ({ cls := "LastLoaf$Reader", name := "readPerson", desc := "()Z" } : MethodName) ({ cls := "LastLoaf$Reader", name := "readPerson", desc := "()Z" } : MethodName) ∈ TB := sorry
theorem cr6_59 {Θ : Tz} {cc : ByteArray} {nL kc ks : Nat} {ret : Option FieldType} {rm : Room} {Q : State → Prop} {σ : St} {pc : Nat} {lv : List (Nat × Value)} {st : List Value} (C : Zc Θ cc nL RX6 ret rm) (hkd : Θ.2.2.2.2.1 = kdC) {r : Bool × St} (hx : q6_readPerson σ = some r) (hrm : rm6_readPerson.frames + 1 ≤ rm.frames ∧ 8 + (2 + 11) + rm6_readPerson.locals ≤ rm.locals) (hcat : (st.map fun v => v.category).sum ≤ 8) (hk : kc ≤ rm.cells ∧ ks ≤ rm.slots) (hd : decode cc pc = .ok (.invokevirtual 59, 3)) (kk : Z Θ nL kc ks Q r.2 (pc + 3) lv (.int (b2i r.1) :: st)) : Z Θ nL kc ks Q σ pc lv (.ref (zA Θ 3) :: st) := sorry
theorem w_5_30 : Cond.code ({ cls := "LastLoaf$Reader", name := "readLikes", desc := "()Z" } : MethodName) prog_8_method_7_code (4 : Nat) (Option.some ClassFile.FieldType.boolean) ∈ TB := sorry
theorem w_5_27 : Cond.methodLink "LastLoaf$Reader" (64 : Nat) ({ cls := "LastLoaf$Reader", name := "readLikes", desc := "()Z" } : MethodName) ∈ TB := sorry
theorem w_5_28 : Cond.instanceMethod ({ cls := "LastLoaf$Reader", name := "readLikes", desc := "()Z" } : MethodName) ∈ TB := sorry
theorem w_5_29 : Cond.selects "LastLoaf$Reader" ({ cls := "LastLoaf$Reader", name := "readLikes", desc := "()Z" } : MethodName) ({ cls := "LastLoaf$Reader", name := "readLikes", desc := "()Z" } : MethodName) ∈ TB := sorry
theorem cr6_64 {Θ : Tz} {cc : ByteArray} {nL kc ks : Nat} {ret : Option FieldType} {rm : Room} {Q : State → Prop} {σ : St} {pc : Nat} {lv : List (Nat × Value)} {st : List Value} (C : Zc Θ cc nL RX6 ret rm) (hkd : Θ.2.2.2.2.1 = kdC) {r : Bool × St} (hx : q6_readLikes σ = some r) (hrm : rm6_readLikes.frames + 1 ≤ rm.frames ∧ 8 + (4 + 11) + rm6_readLikes.locals ≤ rm.locals) (hcat : (st.map fun v => v.category).sum ≤ 8) (hk : kc ≤ rm.cells ∧ ks ≤ rm.slots) (hd : decode cc pc = .ok (.invokevirtual 64, 3)) (kk : Z Θ nL kc ks Q r.2 (pc + 3) lv (.int (b2i r.1) :: st)) : Z Θ nL kc ks Q σ pc lv (.ref (zA Θ 3) :: st) := sorry
theorem w_5_35 : Cond.code ({ cls := "LastLoaf$Reader", name := "readGrist", desc := "()Z" } : MethodName) prog_8_method_8_code (2 : Nat) (Option.some ClassFile.FieldType.boolean) ∈ TB := sorry
theorem w_5_32 : Cond.methodLink "LastLoaf$Reader" (69 : Nat) ({ cls := "LastLoaf$Reader", name := "readGrist", desc := "()Z" } : MethodName) ∈ TB := sorry
theorem w_5_33 : Cond.instanceMethod ({ cls := "LastLoaf$Reader", name := "readGrist", desc := "()Z" } : MethodName) ∈ TB := sorry
theorem w_5_34 : Cond.selects "LastLoaf$Reader" ({ cls := "LastLoaf$Reader", name := "readGrist", desc := "()Z" } : MethodName) ({ cls := "LastLoaf$Reader", name := "readGrist", desc := "()Z" } : MethodName) ∈ TB := sorry
theorem cr6_69 {Θ : Tz} {cc : ByteArray} {nL kc ks : Nat} {ret : Option FieldType} {rm : Room} {Q : State → Prop} {σ : St} {pc : Nat} {lv : List (Nat × Value)} {st : List Value} (C : Zc Θ cc nL RX6 ret rm) (hkd : Θ.2.2.2.2.1 = kdC) {r : Bool × St} (hx : q6_readGrist σ = some r) (hrm : rm6_readGrist.frames + 1 ≤ rm.frames ∧ 8 + (2 + 11) + rm6_readGrist.locals ≤ rm.locals) (hcat : (st.map fun v => v.category).sum ≤ 8) (hk : kc ≤ rm.cells ∧ ks ≤ rm.slots) (hd : decode cc pc = .ok (.invokevirtual 69, 3)) (kk : Z Θ nL kc ks Q r.2 (pc + 3) lv (.int (b2i r.1) :: st)) : Z Θ nL kc ks Q σ pc lv (.ref (zA Θ 3) :: st) := sorry
theorem w_1_145 : Cond.fieldLink "LastLoaf$Reader" (78 : Nat) "LastLoaf$Village" "flour" "I" ∈ TB := sorry
theorem fp6_78 {Θ : Tz} {cc : ByteArray} {nL kc ks : Nat} {ret : Option FieldType} {rm : Room} {Q : State → Prop} {σ : St} {pc : Nat} {lv : List (Nat × Value)} {st : List Value} (C : Zc Θ cc nL RX6 ret rm) (hkd : Θ.2.2.2.2.1 = kdC) {th : Nat} (hth : isV th) {x : Int32} {σ1 : St} (he : σ1 = up σ th 11 x) (hd : decode cc pc = .ok (.putfield 78, 3)) (kk : Z Θ nL kc ks Q σ1 (pc + 3) lv st) : Z Θ nL kc ks Q σ pc lv (.int x :: .ref (zA Θ th) :: st) := sorry
theorem fg6_78 {Θ : Tz} {cc : ByteArray} {nL kc ks : Nat} {ret : Option FieldType} {rm : Room} {Q : State → Prop} {σ : St} {pc : Nat} {lv : List (Nat × Value)} {st : List Value} (C : Zc Θ cc nL RX6 ret rm) (hkd : Θ.2.2.2.2.1 = kdC) {th : Nat} (hth : isV th) (hd : decode cc pc = .ok (.getfield 78, 3)) (kk : Z Θ nL kc ks Q σ (pc + 3) lv (.int (σ th 11) :: st)) : Z Θ nL kc ks Q σ pc lv (.ref (zA Θ th) :: st) := sorry
theorem w_1_153 : Cond.fieldLink "LastLoaf$Reader" (84 : Nat) "LastLoaf$Village" "way" "I" ∈ TB := sorry
theorem fp6_84 {Θ : Tz} {cc : ByteArray} {nL kc ks : Nat} {ret : Option FieldType} {rm : Room} {Q : State → Prop} {σ : St} {pc : Nat} {lv : List (Nat × Value)} {st : List Value} (C : Zc Θ cc nL RX6 ret rm) (hkd : Θ.2.2.2.2.1 = kdC) {th : Nat} (hth : isV th) {x : Int32} {σ1 : St} (he : σ1 = up σ th 13 x) (hd : decode cc pc = .ok (.putfield 84, 3)) (kk : Z Θ nL kc ks Q σ1 (pc + 3) lv st) : Z Θ nL kc ks Q σ pc lv (.int x :: .ref (zA Θ th) :: st) := sorry
theorem fg6_84 {Θ : Tz} {cc : ByteArray} {nL kc ks : Nat} {ret : Option FieldType} {rm : Room} {Q : State → Prop} {σ : St} {pc : Nat} {lv : List (Nat × Value)} {st : List Value} (C : Zc Θ cc nL RX6 ret rm) (hkd : Θ.2.2.2.2.1 = kdC) {th : Nat} (hth : isV th) (hd : decode cc pc = .ok (.getfield 84, 3)) (kk : Z Θ nL kc ks Q σ (pc + 3) lv (.int (σ th 13) :: st)) : Z Θ nL kc ks Q σ pc lv (.ref (zA Θ th) :: st) := sorry
theorem w_1_157 : Cond.fieldLink "LastLoaf$Reader" (88 : Nat) "LastLoaf$Village" "speech" "I" ∈ TB := sorry
theorem fp6_88 {Θ : Tz} {cc : ByteArray} {nL kc ks : Nat} {ret : Option FieldType} {rm : Room} {Q : State → Prop} {σ : St} {pc : Nat} {lv : List (Nat × Value)} {st : List Value} (C : Zc Θ cc nL RX6 ret rm) (hkd : Θ.2.2.2.2.1 = kdC) {th : Nat} (hth : isV th) {x : Int32} {σ1 : St} (he : σ1 = up σ th 14 x) (hd : decode cc pc = .ok (.putfield 88, 3)) (kk : Z Θ nL kc ks Q σ1 (pc + 3) lv st) : Z Θ nL kc ks Q σ pc lv (.int x :: .ref (zA Θ th) :: st) := sorry
theorem fg6_88 {Θ : Tz} {cc : ByteArray} {nL kc ks : Nat} {ret : Option FieldType} {rm : Room} {Q : State → Prop} {σ : St} {pc : Nat} {lv : List (Nat × Value)} {st : List Value} (C : Zc Θ cc nL RX6 ret rm) (hkd : Θ.2.2.2.2.1 = kdC) {th : Nat} (hth : isV th) (hd : decode cc pc = .ok (.getfield 88, 3)) (kk : Z Θ nL kc ks Q σ (pc + 3) lv (.int (σ th 14) :: st)) : Z Θ nL kc ks Q σ pc lv (.ref (zA Θ th) :: st) := sorry
theorem w_1_150 : Cond.fieldLink "LastLoaf$Reader" (92 : Nat) "LastLoaf$Village" "week" "I" ∈ TB := sorry
theorem fp6_92 {Θ : Tz} {cc : ByteArray} {nL kc ks : Nat} {ret : Option FieldType} {rm : Room} {Q : State → Prop} {σ : St} {pc : Nat} {lv : List (Nat × Value)} {st : List Value} (C : Zc Θ cc nL RX6 ret rm) (hkd : Θ.2.2.2.2.1 = kdC) {th : Nat} (hth : isV th) {x : Int32} {σ1 : St} (he : σ1 = up σ th 12 x) (hd : decode cc pc = .ok (.putfield 92, 3)) (kk : Z Θ nL kc ks Q σ1 (pc + 3) lv st) : Z Θ nL kc ks Q σ pc lv (.int x :: .ref (zA Θ th) :: st) := sorry
theorem fg6_92 {Θ : Tz} {cc : ByteArray} {nL kc ks : Nat} {ret : Option FieldType} {rm : Room} {Q : State → Prop} {σ : St} {pc : Nat} {lv : List (Nat × Value)} {st : List Value} (C : Zc Θ cc nL RX6 ret rm) (hkd : Θ.2.2.2.2.1 = kdC) {th : Nat} (hth : isV th) (hd : decode cc pc = .ok (.getfield 92, 3)) (kk : Z Θ nL kc ks Q σ (pc + 3) lv (.int (σ th 12) :: st)) : Z Θ nL kc ks Q σ pc lv (.ref (zA Θ th) :: st) := sorry
def q6_readVillageLine (σ : St) : Option (Bool × St) :=
  Option.bind (q8_isWord σ 0) fun x3_ =>
  if x3_ = true then (Option.bind (q6_readPerson σ) fun x7_ =>
  some (x7_.1, x7_.2)) else
  Option.bind (q8_isWord σ 7) fun x11_ =>
  if x11_ = true then (Option.bind (q6_readLikes σ) fun x15_ =>
  some (x15_.1, x15_.2)) else
  Option.bind (q8_isWord σ 8) fun x19_ =>
  if x19_ = true then (Option.bind (q6_readGrist σ) fun x23_ =>
  some (x23_.1, x23_.2)) else
  Option.bind (q8_isWord σ 13) fun x27_ =>
  if x27_ = true then (Option.bind (q6_numberFollows σ 999) fun x31_ =>
  lt (up x31_.2 54 11 x31_.1) fun σ33_ =>
  some (decide (¬ (σ33_ 54 11) = (-1)), σ33_)) else
  Option.bind (q8_isWord σ 14) fun x42_ =>
  if x42_ = true then (Option.bind (q6_numberFollows σ 5) fun x46_ =>
  lt (up x46_.2 54 13 x46_.1) fun σ48_ =>
  some (decide (¬ (σ48_ 54 13) = (-1)), σ48_)) else
  Option.bind (q8_isWord σ 15) fun x57_ =>
  if x57_ = true then (Option.bind (q6_numberFollows σ 100) fun x61_ =>
  lt (up x61_.2 54 14 x61_.1) fun σ63_ =>
  some (decide (¬ (σ63_ 54 14) = (-1)), σ63_)) else
  Option.bind (q8_isWord σ 16) fun x72_ =>
  if x72_ = true then (Option.bind (q6_numberFollows σ 999) fun x76_ =>
  lt (up x76_.2 54 12 x76_.1) fun σ78_ =>
  some (decide (¬ (σ78_ 54 12) = (-1)), σ78_)) else
  some (false, σ)
abbrev rm6_readVillageLine : Room := { frames := 7, cells := 0, slots := 0, locals := 149 }
theorem c6_readVillageLine {l : Launch} {kd : List KD} {w : Wp} {σ : St} (hkd : kd = kdC) (hi : zI kd w) {r : (Bool × St)} (hf : q6_readVillageLine σ = some r) : zM l kd w yX6_readVillageLine cX6_readVillageLine 1 (some .boolean) rm6_readVillageLine [.ref (w.2.2.1 3)] σ (some (.int (b2i r.1)), r.2) := sorry
/-! LastLoaf$Tape.isAtEnd -/
def q8_isAtEnd (σ : St) : Bool :=
  decide ((σ 1 4) = 0)
abbrev rm8_isAtEnd : Room := { frames := 0, cells := 0, slots := 0, locals := 0 }
theorem c8_isAtEnd {l : Launch} {kd : List KD} {w : Wp} {σ : St} (hkd : kd = kdC) (hi : zI kd w) : zM l kd w yX8_isAtEnd cX8_isAtEnd 1 (some .boolean) rm8_isAtEnd [.ref (w.2.2.1 1)] σ (some (.int (b2i (q8_isAtEnd σ))), σ) := sorry
/-! LastLoaf$Tape.isSign -/
def q8_isSign (σ : St) (sign_a : Int32) : Option Bool :=
  Option.bind (Option.bind (if (σ 1 4) = 3 then (Option.bind (ag σ 2 400 (σ 1 2)) fun x9_ =>
  if x9_ = sign_a then (some true) else (some false)) else (some false)) fun t6_ =>
  if t6_ = true then (some true) else (some false)) fun x1_ =>
  some x1_
abbrev rm8_isSign : Room := { frames := 0, cells := 0, slots := 0, locals := 0 }
theorem c8_isSign {l : Launch} {kd : List KD} {w : Wp} {σ : St} {sign_a : Int32} (hkd : kd = kdC) (hi : zI kd w) {r : Bool} (hf : q8_isSign σ sign_a = some r) : zM l kd w yX8_isSign cX8_isSign 2 (some .boolean) rm8_isSign [.ref (w.2.2.1 1), .int sign_a] σ (some (.int (b2i r)), σ) := sorry
/-! LastLoaf$Tape.open -/
theorem w_4_175 : Cond.methodLink "LastLoaf$Tape" (28 : Nat) ({ cls := "LastLoaf$Tape", name := "advance", desc := "()V" } : MethodName) ∈ TB := sorry
theorem cr8_28 {Θ : Tz} {cc : ByteArray} {nL kc ks : Nat} {ret : Option FieldType} {rm : Room} {Q : State → Prop} {σ : St} {pc : Nat} {lv : List (Nat × Value)} {st : List Value} (C : Zc Θ cc nL RX8 ret rm) (hkd : Θ.2.2.2.2.1 = kdC) {r : St} (hx : q8_advance σ = some r) (hrm : rm8_advance.frames + 1 ≤ rm.frames ∧ 8 + (1 + 11) + rm8_advance.locals ≤ rm.locals) (hcat : (st.map fun v => v.category).sum ≤ 8) (hk : kc ≤ rm.cells ∧ ks ≤ rm.slots) (hd : decode cc pc = .ok (.invokevirtual 28, 3)) (kk : Z Θ nL kc ks Q r (pc + 3) lv st) : Z Θ nL kc ks Q σ pc lv (.ref (zA Θ 1) :: st) := sorry
def q8_open (σ : St) : Option St :=
  lt (up σ 1 3 0) fun σ1_ =>
  Option.bind (q8_advance σ1_) fun x3_ =>
  some x3_
abbrev rm8_open : Room := { frames := 2, cells := 0, slots := 0, locals := 40 }
theorem c8_open {l : Launch} {kd : List KD} {w : Wp} {σ : St} (hkd : kd = kdC) (hi : zI kd w) {r : St} (hf : q8_open σ = some r) : zM l kd w yX8_open cX8_open 1 none rm8_open [.ref (w.2.2.1 1)] σ (none, r) := sorry
/-! LastLoaf$Reader.readVillage -/
theorem w_4_174 : Cond.code ({ cls := "LastLoaf$Tape", name := "open", desc := "()V" } : MethodName) prog_10_method_3_code (1 : Nat) (Option.none : Option ClassFile.FieldType) ∈ TB := sorry
theorem w_4_171 : Cond.methodLink "LastLoaf$Reader" (34 : Nat) ({ cls := "LastLoaf$Tape", name := "open", desc := "()V" } : MethodName) ∈ TB := sorry
theorem w_4_172 : Cond.instanceMethod ({ cls := "LastLoaf$Tape", name := "open", desc := "()V" } : MethodName) ∈ TB := sorry
theorem w_4_173 : Cond.selects "LastLoaf$Tape" ({ cls := "LastLoaf$Tape", name := "open", desc := "()V" } : MethodName) ({ cls := "LastLoaf$Tape", name := "open", desc := "()V" } : MethodName) ∈ TB := sorry
theorem cr6_34 {Θ : Tz} {cc : ByteArray} {nL kc ks : Nat} {ret : Option FieldType} {rm : Room} {Q : State → Prop} {σ : St} {pc : Nat} {lv : List (Nat × Value)} {st : List Value} (C : Zc Θ cc nL RX6 ret rm) (hkd : Θ.2.2.2.2.1 = kdC) {r : St} (hx : q8_open σ = some r) (hrm : rm8_open.frames + 1 ≤ rm.frames ∧ 8 + (1 + 11) + rm8_open.locals ≤ rm.locals) (hcat : (st.map fun v => v.category).sum ≤ 8) (hk : kc ≤ rm.cells ∧ ks ≤ rm.slots) (hd : decode cc pc = .ok (.invokevirtual 34, 3)) (kk : Z Θ nL kc ks Q r (pc + 3) lv st) : Z Θ nL kc ks Q σ pc lv (.ref (zA Θ 1) :: st) := sorry
theorem w_4_185 : Cond.code ({ cls := "LastLoaf$Tape", name := "isAtEnd", desc := "()Z" } : MethodName) prog_10_method_6_code (1 : Nat) (Option.some ClassFile.FieldType.boolean) ∈ TB := sorry
theorem w_4_182 : Cond.methodLink "LastLoaf$Reader" (39 : Nat) ({ cls := "LastLoaf$Tape", name := "isAtEnd", desc := "()Z" } : MethodName) ∈ TB := sorry
theorem w_4_183 : Cond.instanceMethod ({ cls := "LastLoaf$Tape", name := "isAtEnd", desc := "()Z" } : MethodName) ∈ TB := sorry
theorem w_4_184 : Cond.selects "LastLoaf$Tape" ({ cls := "LastLoaf$Tape", name := "isAtEnd", desc := "()Z" } : MethodName) ({ cls := "LastLoaf$Tape", name := "isAtEnd", desc := "()Z" } : MethodName) ∈ TB := sorry
theorem cr6_39 {Θ : Tz} {cc : ByteArray} {nL kc ks : Nat} {ret : Option FieldType} {rm : Room} {Q : State → Prop} {σ : St} {pc : Nat} {lv : List (Nat × Value)} {st : List Value} (C : Zc Θ cc nL RX6 ret rm) (hkd : Θ.2.2.2.2.1 = kdC) (hrm : rm8_isAtEnd.frames + 1 ≤ rm.frames ∧ 8 + (1 + 11) + rm8_isAtEnd.locals ≤ rm.locals) (hcat : (st.map fun v => v.category).sum ≤ 8) (hk : kc ≤ rm.cells ∧ ks ≤ rm.slots) (hd : decode cc pc = .ok (.invokevirtual 39, 3)) (kk : Z Θ nL kc ks Q σ (pc + 3) lv (.int (b2i (q8_isAtEnd σ)) :: st)) : Z Θ nL kc ks Q σ pc lv (.ref (zA Θ 1) :: st) := sorry
theorem w_4_189 : Cond.code ({ cls := "LastLoaf$Reader", name := "readVillageLine", desc := "()Z" } : MethodName) prog_8_method_3_code (1 : Nat) (Option.some ClassFile.FieldType.boolean) ∈ TB := sorry
theorem w_4_186 : Cond.methodLink "LastLoaf$Reader" (43 : Nat) ({ cls := "LastLoaf$Reader", name := "readVillageLine", desc := "()Z" } : MethodName) ∈ TB := sorry
theorem w_4_187 : Cond.instanceMethod ({ cls := "LastLoaf$Reader", name := "readVillageLine", desc := "()Z" } : MethodName) ∈ TB := sorry
theorem w_4_188 : Cond.selects "LastLoaf$Reader" ({ cls := "LastLoaf$Reader", name := "readVillageLine", desc := "()Z" } : MethodName) ({ cls := "LastLoaf$Reader", name := "readVillageLine", desc := "()Z" } : MethodName) ∈ TB := sorry
theorem cr6_43 {Θ : Tz} {cc : ByteArray} {nL kc ks : Nat} {ret : Option FieldType} {rm : Room} {Q : State → Prop} {σ : St} {pc : Nat} {lv : List (Nat × Value)} {st : List Value} (C : Zc Θ cc nL RX6 ret rm) (hkd : Θ.2.2.2.2.1 = kdC) {r : Bool × St} (hx : q6_readVillageLine σ = some r) (hrm : rm6_readVillageLine.frames + 1 ≤ rm.frames ∧ 8 + (1 + 11) + rm6_readVillageLine.locals ≤ rm.locals) (hcat : (st.map fun v => v.category).sum ≤ 8) (hk : kc ≤ rm.cells ∧ ks ≤ rm.slots) (hd : decode cc pc = .ok (.invokevirtual 43, 3)) (kk : Z Θ nL kc ks Q r.2 (pc + 3) lv (.int (b2i r.1) :: st)) : Z Θ nL kc ks Q σ pc lv (.ref (zA Θ 3) :: st) := sorry
theorem w_5_51 : Cond.code ({ cls := "LastLoaf$Tape", name := "isSign", desc := "(C)Z" } : MethodName) prog_10_method_7_code (2 : Nat) (Option.some ClassFile.FieldType.boolean) ∈ TB := sorry
theorem w_5_48 : Cond.methodLink "LastLoaf$Reader" (46 : Nat) ({ cls := "LastLoaf$Tape", name := "isSign", desc := "(C)Z" } : MethodName) ∈ TB := sorry
theorem w_5_49 : Cond.instanceMethod ({ cls := "LastLoaf$Tape", name := "isSign", desc := "(C)Z" } : MethodName) ∈ TB := sorry
theorem w_5_50 : Cond.selects "LastLoaf$Tape" ({ cls := "LastLoaf$Tape", name := "isSign", desc := "(C)Z" } : MethodName) ({ cls := "LastLoaf$Tape", name := "isSign", desc := "(C)Z" } : MethodName) ∈ TB := sorry
theorem cr6_46 {Θ : Tz} {cc : ByteArray} {nL kc ks : Nat} {ret : Option FieldType} {rm : Room} {Q : State → Prop} {σ : St} {pc : Nat} {lv : List (Nat × Value)} {st : List Value} (C : Zc Θ cc nL RX6 ret rm) (hkd : Θ.2.2.2.2.1 = kdC) {sign_a : Int32} {r : Bool} (hx : q8_isSign σ sign_a = some r) (hrm : rm8_isSign.frames + 1 ≤ rm.frames ∧ 8 + (2 + 11) + rm8_isSign.locals ≤ rm.locals) (hcat : (st.map fun v => v.category).sum ≤ 8) (hk : kc ≤ rm.cells ∧ ks ≤ rm.slots) (hd : decode cc pc = .ok (.invokevirtual 46, 3)) (kk : Z Θ nL kc ks Q σ (pc + 3) lv (.int (b2i r) :: st)) : Z Θ nL kc ks Q σ pc lv (.int sign_a :: .ref (zA Θ 1) :: st) := sorry
def q6_readVillage (σ : St) : Option (Bool × St) :=
  Option.bind (q8_open σ) fun x1_ =>
  if q8_isAtEnd x1_ = true then (some (true, x1_)) else
  Option.bind (loop2 (fun rec10_ (lines13_ : Int32) (σ14_ : St) =>
  if lines13_ < 14 then
  Option.bind (q6_readVillageLine σ14_) fun x23_ =>
  if ¬ (x23_.1 = true) then (some (.inl (false, x23_.2))) else
  if q8_isAtEnd x23_.2 = true then (some (.inl (true, x23_.2))) else
  Option.bind (q8_isSign x23_.2 59) fun x33_ =>
  if ¬ (x33_ = true) then (some (.inl (false, x23_.2))) else
  Option.bind (q8_advance x23_.2) fun x37_ =>
  lt (lines13_ + 1) fun lines39_ =>
  rec10_ lines39_ x37_
  else (some (.inr (lines13_, σ14_)))) fuelN (0 : Int32) x1_) fun y7_ =>
  Sum.elim (fun x9 => some x9) (fun y7_r =>
  some (false, y7_r.2)) y7_
abbrev rm6_readVillage : Room := { frames := 8, cells := 0, slots := 0, locals := 169 }
theorem c6_readVillage {l : Launch} {kd : List KD} {w : Wp} {σ : St} (hkd : kd = kdC) (hi : zI kd w) {r : (Bool × St)} (hf : q6_readVillage σ = some r) : zM l kd w yX6_readVillage cX6_readVillage 2 (some .boolean) rm6_readVillage [.ref (w.2.2.1 3)] σ (some (.int (b2i r.1)), r.2) := sorry
/-! LastLoaf$Log.become -/
theorem w_1_77 : Cond.fieldLink "LastLoaf$Log" (9 : Nat) "LastLoaf$Log" "cells" "[I" ∈ TB := sorry
theorem fg3_9 {Θ : Tz} {cc : ByteArray} {nL kc ks : Nat} {ret : Option FieldType} {rm : Room} {Q : State → Prop} {σ : St} {pc : Nat} {lv : List (Nat × Value)} {st : List Value} (C : Zc Θ cc nL RX3 ret rm) (hkd : Θ.2.2.2.2.1 = kdC) {th : Nat} (hth : isLog th) (hd : decode cc pc = .ok (.getfield 9, 3)) (kk : Z Θ nL kc ks Q σ (pc + 3) lv (.ref (zA Θ (th + 1)) :: st)) : Z Θ nL kc ks Q σ pc lv (.ref (zA Θ th) :: st) := sorry
theorem sp_240 : (Int16.ofInt (240)).toInt32 = 240 := sorry
theorem w_3_120 : Cond.methodLink "LastLoaf$Log" (22 : Nat) ({ cls := "java/lang/System", name := "arraycopy", desc := "(Ljava/lang/Object;ILjava/lang/Object;II)V" } : MethodName) ∈ TB := sorry
theorem w_1_78 : Cond.fieldLink "LastLoaf$Log" (15 : Nat) "LastLoaf$Log" "size" "I" ∈ TB := sorry
theorem fg3_15 {Θ : Tz} {cc : ByteArray} {nL kc ks : Nat} {ret : Option FieldType} {rm : Room} {Q : State → Prop} {σ : St} {pc : Nat} {lv : List (Nat × Value)} {st : List Value} (C : Zc Θ cc nL RX3 ret rm) (hkd : Θ.2.2.2.2.1 = kdC) {th : Nat} (hth : isLog th) (hd : decode cc pc = .ok (.getfield 15, 3)) (kk : Z Θ nL kc ks Q σ (pc + 3) lv (.int (σ th 1) :: st)) : Z Θ nL kc ks Q σ pc lv (.ref (zA Θ th) :: st) := sorry
theorem fp3_15 {Θ : Tz} {cc : ByteArray} {nL kc ks : Nat} {ret : Option FieldType} {rm : Room} {Q : State → Prop} {σ : St} {pc : Nat} {lv : List (Nat × Value)} {st : List Value} (C : Zc Θ cc nL RX3 ret rm) (hkd : Θ.2.2.2.2.1 = kdC) {th : Nat} (hth : isLog th) {x : Int32} {σ1 : St} (he : σ1 = up σ th 1 x) (hd : decode cc pc = .ok (.putfield 15, 3)) (kk : Z Θ nL kc ks Q σ1 (pc + 3) lv st) : Z Θ nL kc ks Q σ pc lv (.int x :: .ref (zA Θ th) :: st) := sorry
theorem w_1_80 : Cond.fieldLink "LastLoaf$Log" (19 : Nat) "LastLoaf$Log" "following" "I" ∈ TB := sorry
theorem fg3_19 {Θ : Tz} {cc : ByteArray} {nL kc ks : Nat} {ret : Option FieldType} {rm : Room} {Q : State → Prop} {σ : St} {pc : Nat} {lv : List (Nat × Value)} {st : List Value} (C : Zc Θ cc nL RX3 ret rm) (hkd : Θ.2.2.2.2.1 = kdC) {th : Nat} (hth : isLog th) (hd : decode cc pc = .ok (.getfield 19, 3)) (kk : Z Θ nL kc ks Q σ (pc + 3) lv (.int (σ th 2) :: st)) : Z Θ nL kc ks Q σ pc lv (.ref (zA Θ th) :: st) := sorry
theorem fp3_19 {Θ : Tz} {cc : ByteArray} {nL kc ks : Nat} {ret : Option FieldType} {rm : Room} {Q : State → Prop} {σ : St} {pc : Nat} {lv : List (Nat × Value)} {st : List Value} (C : Zc Θ cc nL RX3 ret rm) (hkd : Θ.2.2.2.2.1 = kdC) {th : Nat} (hth : isLog th) {x : Int32} {σ1 : St} (he : σ1 = up σ th 2 x) (hd : decode cc pc = .ok (.putfield 19, 3)) (kk : Z Θ nL kc ks Q σ1 (pc + 3) lv st) : Z Θ nL kc ks Q σ pc lv (.int x :: .ref (zA Θ th) :: st) := sorry
def q3_become (σ : St) (th : Nat) (other_a : Nat) : Option St :=
  Option.bind (acp σ (other_a + 1) 240 (th + 1) 240 240) fun σ1_ =>
  lt (up σ1_ th 1 (σ1_ other_a 1)) fun σ3_ =>
  lt (up σ3_ th 2 (σ3_ other_a 2)) fun σ5_ =>
  some σ5_
abbrev rm3_become : Room := { frames := 1, cells := 0, slots := 0, locals := 40 }
theorem c3_become {l : Launch} {kd : List KD} {w : Wp} {σ : St} {th : Nat} {other_a : Nat} (hkd : kd = kdC) (hi : zI kd w) (hth : isLog th) (h_other : isLog other_a) {r : St} (hf : q3_become σ th other_a = some r) : zM l kd w yX3_become cX3_become 2 none rm3_become [.ref (w.2.2.1 th), .ref (w.2.2.1 other_a)] σ (none, r) := sorry
/-! LastLoaf$Village.become -/
theorem w_1_91 : Cond.fieldLink "LastLoaf$Village" (9 : Nat) "LastLoaf$Village" "hunger" "[I" ∈ TB := sorry
theorem fg10_9 {Θ : Tz} {cc : ByteArray} {nL kc ks : Nat} {ret : Option FieldType} {rm : Room} {Q : State → Prop} {σ : St} {pc : Nat} {lv : List (Nat × Value)} {st : List Value} (C : Zc Θ cc nL RX10 ret rm) (hkd : Θ.2.2.2.2.1 = kdC) {th : Nat} (hth : isV th) (hd : decode cc pc = .ok (.getfield 9, 3)) (kk : Z Θ nL kc ks Q σ (pc + 3) lv (.ref (zA Θ (th + 1)) :: st)) : Z Θ nL kc ks Q σ pc lv (.ref (zA Θ th) :: st) := sorry
theorem w_3_113 : Cond.methodLink "LastLoaf$Village" (74 : Nat) ({ cls := "java/lang/System", name := "arraycopy", desc := "(Ljava/lang/Object;ILjava/lang/Object;II)V" } : MethodName) ∈ TB := sorry
theorem w_1_97 : Cond.fieldLink "LastLoaf$Village" (15 : Nat) "LastLoaf$Village" "party" "[I" ∈ TB := sorry
theorem fg10_15 {Θ : Tz} {cc : ByteArray} {nL kc ks : Nat} {ret : Option FieldType} {rm : Room} {Q : State → Prop} {σ : St} {pc : Nat} {lv : List (Nat × Value)} {st : List Value} (C : Zc Θ cc nL RX10 ret rm) (hkd : Θ.2.2.2.2.1 = kdC) {th : Nat} (hth : isV th) (hd : decode cc pc = .ok (.getfield 15, 3)) (kk : Z Θ nL kc ks Q σ (pc + 3) lv (.ref (zA Θ (th + 2)) :: st)) : Z Θ nL kc ks Q σ pc lv (.ref (zA Θ th) :: st) := sorry
theorem w_1_100 : Cond.fieldLink "LastLoaf$Village" (18 : Nat) "LastLoaf$Village" "skin" "[I" ∈ TB := sorry
theorem fg10_18 {Θ : Tz} {cc : ByteArray} {nL kc ks : Nat} {ret : Option FieldType} {rm : Room} {Q : State → Prop} {σ : St} {pc : Nat} {lv : List (Nat × Value)} {st : List Value} (C : Zc Θ cc nL RX10 ret rm) (hkd : Θ.2.2.2.2.1 = kdC) {th : Nat} (hth : isV th) (hd : decode cc pc = .ok (.getfield 18, 3)) (kk : Z Θ nL kc ks Q σ (pc + 3) lv (.ref (zA Θ (th + 3)) :: st)) : Z Θ nL kc ks Q σ pc lv (.ref (zA Θ th) :: st) := sorry
theorem w_1_104 : Cond.fieldLink "LastLoaf$Village" (21 : Nat) "LastLoaf$Village" "had" "[I" ∈ TB := sorry
theorem fg10_21 {Θ : Tz} {cc : ByteArray} {nL kc ks : Nat} {ret : Option FieldType} {rm : Room} {Q : State → Prop} {σ : St} {pc : Nat} {lv : List (Nat × Value)} {st : List Value} (C : Zc Θ cc nL RX10 ret rm) (hkd : Θ.2.2.2.2.1 = kdC) {th : Nat} (hth : isV th) (hd : decode cc pc = .ok (.getfield 21, 3)) (kk : Z Θ nL kc ks Q σ (pc + 3) lv (.ref (zA Θ (th + 4)) :: st)) : Z Θ nL kc ks Q σ pc lv (.ref (zA Θ th) :: st) := sorry
theorem w_1_108 : Cond.fieldLink "LastLoaf$Village" (24 : Nat) "LastLoaf$Village" "run" "[I" ∈ TB := sorry
theorem fg10_24 {Θ : Tz} {cc : ByteArray} {nL kc ks : Nat} {ret : Option FieldType} {rm : Room} {Q : State → Prop} {σ : St} {pc : Nat} {lv : List (Nat × Value)} {st : List Value} (C : Zc Θ cc nL RX10 ret rm) (hkd : Θ.2.2.2.2.1 = kdC) {th : Nat} (hth : isV th) (hd : decode cc pc = .ok (.getfield 24, 3)) (kk : Z Θ nL kc ks Q σ (pc + 3) lv (.ref (zA Θ (th + 5)) :: st)) : Z Θ nL kc ks Q σ pc lv (.ref (zA Θ th) :: st) := sorry
theorem w_1_112 : Cond.fieldLink "LastLoaf$Village" (27 : Nat) "LastLoaf$Village" "likes" "[I" ∈ TB := sorry
theorem fg10_27 {Θ : Tz} {cc : ByteArray} {nL kc ks : Nat} {ret : Option FieldType} {rm : Room} {Q : State → Prop} {σ : St} {pc : Nat} {lv : List (Nat × Value)} {st : List Value} (C : Zc Θ cc nL RX10 ret rm) (hkd : Θ.2.2.2.2.1 = kdC) {th : Nat} (hth : isV th) (hd : decode cc pc = .ok (.getfield 27, 3)) (kk : Z Θ nL kc ks Q σ (pc + 3) lv (.ref (zA Θ (th + 6)) :: st)) : Z Θ nL kc ks Q σ pc lv (.ref (zA Θ th) :: st) := sorry
theorem bp_36 : (Int8.ofInt (36)).toInt32 = 36 := sorry
theorem w_1_115 : Cond.fieldLink "LastLoaf$Village" (30 : Nat) "LastLoaf$Village" "grist" "[I" ∈ TB := sorry
theorem fg10_30 {Θ : Tz} {cc : ByteArray} {nL kc ks : Nat} {ret : Option FieldType} {rm : Room} {Q : State → Prop} {σ : St} {pc : Nat} {lv : List (Nat × Value)} {st : List Value} (C : Zc Θ cc nL RX10 ret rm) (hkd : Θ.2.2.2.2.1 = kdC) {th : Nat} (hth : isV th) (hd : decode cc pc = .ok (.getfield 30, 3)) (kk : Z Θ nL kc ks Q σ (pc + 3) lv (.ref (zA Θ (th + 7)) :: st)) : Z Θ nL kc ks Q σ pc lv (.ref (zA Θ th) :: st) := sorry
theorem w_1_120 : Cond.fieldLink "LastLoaf$Village" (36 : Nat) "LastLoaf$Village" "rows" "LLastLoaf$Log;" ∈ TB := sorry
theorem fg10_36 {Θ : Tz} {cc : ByteArray} {nL kc ks : Nat} {ret : Option FieldType} {rm : Room} {Q : State → Prop} {σ : St} {pc : Nat} {lv : List (Nat × Value)} {st : List Value} (C : Zc Θ cc nL RX10 ret rm) (hkd : Θ.2.2.2.2.1 = kdC) {th : Nat} (hth : isV th) (hd : decode cc pc = .ok (.getfield 36, 3)) (kk : Z Θ nL kc ks Q σ (pc + 3) lv (.ref (zA Θ (th + 8)) :: st)) : Z Θ nL kc ks Q σ pc lv (.ref (zA Θ th) :: st) := sorry
theorem w_3_119 : Cond.code ({ cls := "LastLoaf$Log", name := "become", desc := "(LLastLoaf$Log;)V" } : MethodName) prog_5_method_2_code (2 : Nat) (Option.none : Option ClassFile.FieldType) ∈ TB := sorry
theorem w_1_4 : Cond.initialized "LastLoaf$Log" ∈ TB := sorry
theorem w_3_116 : Cond.methodLink "LastLoaf$Village" (80 : Nat) ({ cls := "LastLoaf$Log", name := "become", desc := "(LLastLoaf$Log;)V" } : MethodName) ∈ TB := sorry
theorem w_3_117 : Cond.instanceMethod ({ cls := "LastLoaf$Log", name := "become", desc := "(LLastLoaf$Log;)V" } : MethodName) ∈ TB := sorry
theorem w_3_118 : Cond.selects "LastLoaf$Log" ({ cls := "LastLoaf$Log", name := "become", desc := "(LLastLoaf$Log;)V" } : MethodName) ({ cls := "LastLoaf$Log", name := "become", desc := "(LLastLoaf$Log;)V" } : MethodName) ∈ TB := sorry
theorem cr10_80 {Θ : Tz} {cc : ByteArray} {nL kc ks : Nat} {ret : Option FieldType} {rm : Room} {Q : State → Prop} {σ : St} {pc : Nat} {lv : List (Nat × Value)} {st : List Value} (C : Zc Θ cc nL RX10 ret rm) (hkd : Θ.2.2.2.2.1 = kdC) {th : Nat} {other_a : Nat} (hth : isLog th) (h_other : isLog other_a) {r : St} (hx : q3_become σ th other_a = some r) (hrm : rm3_become.frames + 1 ≤ rm.frames ∧ 8 + (2 + 11) + rm3_become.locals ≤ rm.locals) (hcat : (st.map fun v => v.category).sum ≤ 8) (hk : kc ≤ rm.cells ∧ ks ≤ rm.slots) (hd : decode cc pc = .ok (.invokevirtual 80, 3)) (kk : Z Θ nL kc ks Q r (pc + 3) lv st) : Z Θ nL kc ks Q σ pc lv (.ref (zA Θ other_a) :: .ref (zA Θ th) :: st) := sorry
theorem w_1_123 : Cond.fieldLink "LastLoaf$Village" (40 : Nat) "LastLoaf$Village" "people" "I" ∈ TB := sorry
theorem fg10_40 {Θ : Tz} {cc : ByteArray} {nL kc ks : Nat} {ret : Option FieldType} {rm : Room} {Q : State → Prop} {σ : St} {pc : Nat} {lv : List (Nat × Value)} {st : List Value} (C : Zc Θ cc nL RX10 ret rm) (hkd : Θ.2.2.2.2.1 = kdC) {th : Nat} (hth : isV th) (hd : decode cc pc = .ok (.getfield 40, 3)) (kk : Z Θ nL kc ks Q σ (pc + 3) lv (.int (σ th 8) :: st)) : Z Θ nL kc ks Q σ pc lv (.ref (zA Θ th) :: st) := sorry
theorem fp10_40 {Θ : Tz} {cc : ByteArray} {nL kc ks : Nat} {ret : Option FieldType} {rm : Room} {Q : State → Prop} {σ : St} {pc : Nat} {lv : List (Nat × Value)} {st : List Value} (C : Zc Θ cc nL RX10 ret rm) (hkd : Θ.2.2.2.2.1 = kdC) {th : Nat} (hth : isV th) {x : Int32} {σ1 : St} (he : σ1 = up σ th 8 x) (hd : decode cc pc = .ok (.putfield 40, 3)) (kk : Z Θ nL kc ks Q σ1 (pc + 3) lv st) : Z Θ nL kc ks Q σ pc lv (.int x :: .ref (zA Θ th) :: st) := sorry
theorem w_1_131 : Cond.fieldLink "LastLoaf$Village" (44 : Nat) "LastLoaf$Village" "standing" "I" ∈ TB := sorry
theorem fg10_44 {Θ : Tz} {cc : ByteArray} {nL kc ks : Nat} {ret : Option FieldType} {rm : Room} {Q : State → Prop} {σ : St} {pc : Nat} {lv : List (Nat × Value)} {st : List Value} (C : Zc Θ cc nL RX10 ret rm) (hkd : Θ.2.2.2.2.1 = kdC) {th : Nat} (hth : isV th) (hd : decode cc pc = .ok (.getfield 44, 3)) (kk : Z Θ nL kc ks Q σ (pc + 3) lv (.int (σ th 9) :: st)) : Z Θ nL kc ks Q σ pc lv (.ref (zA Θ th) :: st) := sorry
theorem fp10_44 {Θ : Tz} {cc : ByteArray} {nL kc ks : Nat} {ret : Option FieldType} {rm : Room} {Q : State → Prop} {σ : St} {pc : Nat} {lv : List (Nat × Value)} {st : List Value} (C : Zc Θ cc nL RX10 ret rm) (hkd : Θ.2.2.2.2.1 = kdC) {th : Nat} (hth : isV th) {x : Int32} {σ1 : St} (he : σ1 = up σ th 9 x) (hd : decode cc pc = .ok (.putfield 44, 3)) (kk : Z Θ nL kc ks Q σ1 (pc + 3) lv st) : Z Θ nL kc ks Q σ pc lv (.int x :: .ref (zA Θ th) :: st) := sorry
theorem w_1_137 : Cond.fieldLink "LastLoaf$Village" (47 : Nat) "LastLoaf$Village" "benched" "I" ∈ TB := sorry
theorem fg10_47 {Θ : Tz} {cc : ByteArray} {nL kc ks : Nat} {ret : Option FieldType} {rm : Room} {Q : State → Prop} {σ : St} {pc : Nat} {lv : List (Nat × Value)} {st : List Value} (C : Zc Θ cc nL RX10 ret rm) (hkd : Θ.2.2.2.2.1 = kdC) {th : Nat} (hth : isV th) (hd : decode cc pc = .ok (.getfield 47, 3)) (kk : Z Θ nL kc ks Q σ (pc + 3) lv (.int (σ th 10) :: st)) : Z Θ nL kc ks Q σ pc lv (.ref (zA Θ th) :: st) := sorry
theorem fp10_47 {Θ : Tz} {cc : ByteArray} {nL kc ks : Nat} {ret : Option FieldType} {rm : Room} {Q : State → Prop} {σ : St} {pc : Nat} {lv : List (Nat × Value)} {st : List Value} (C : Zc Θ cc nL RX10 ret rm) (hkd : Θ.2.2.2.2.1 = kdC) {th : Nat} (hth : isV th) {x : Int32} {σ1 : St} (he : σ1 = up σ th 10 x) (hd : decode cc pc = .ok (.putfield 47, 3)) (kk : Z Θ nL kc ks Q σ1 (pc + 3) lv st) : Z Θ nL kc ks Q σ pc lv (.int x :: .ref (zA Θ th) :: st) := sorry
theorem w_1_142 : Cond.fieldLink "LastLoaf$Village" (50 : Nat) "LastLoaf$Village" "flour" "I" ∈ TB := sorry
theorem fg10_50 {Θ : Tz} {cc : ByteArray} {nL kc ks : Nat} {ret : Option FieldType} {rm : Room} {Q : State → Prop} {σ : St} {pc : Nat} {lv : List (Nat × Value)} {st : List Value} (C : Zc Θ cc nL RX10 ret rm) (hkd : Θ.2.2.2.2.1 = kdC) {th : Nat} (hth : isV th) (hd : decode cc pc = .ok (.getfield 50, 3)) (kk : Z Θ nL kc ks Q σ (pc + 3) lv (.int (σ th 11) :: st)) : Z Θ nL kc ks Q σ pc lv (.ref (zA Θ th) :: st) := sorry
theorem fp10_50 {Θ : Tz} {cc : ByteArray} {nL kc ks : Nat} {ret : Option FieldType} {rm : Room} {Q : State → Prop} {σ : St} {pc : Nat} {lv : List (Nat × Value)} {st : List Value} (C : Zc Θ cc nL RX10 ret rm) (hkd : Θ.2.2.2.2.1 = kdC) {th : Nat} (hth : isV th) {x : Int32} {σ1 : St} (he : σ1 = up σ th 11 x) (hd : decode cc pc = .ok (.putfield 50, 3)) (kk : Z Θ nL kc ks Q σ1 (pc + 3) lv st) : Z Θ nL kc ks Q σ pc lv (.int x :: .ref (zA Θ th) :: st) := sorry
theorem w_1_147 : Cond.fieldLink "LastLoaf$Village" (53 : Nat) "LastLoaf$Village" "week" "I" ∈ TB := sorry
theorem fg10_53 {Θ : Tz} {cc : ByteArray} {nL kc ks : Nat} {ret : Option FieldType} {rm : Room} {Q : State → Prop} {σ : St} {pc : Nat} {lv : List (Nat × Value)} {st : List Value} (C : Zc Θ cc nL RX10 ret rm) (hkd : Θ.2.2.2.2.1 = kdC) {th : Nat} (hth : isV th) (hd : decode cc pc = .ok (.getfield 53, 3)) (kk : Z Θ nL kc ks Q σ (pc + 3) lv (.int (σ th 12) :: st)) : Z Θ nL kc ks Q σ pc lv (.ref (zA Θ th) :: st) := sorry
theorem fp10_53 {Θ : Tz} {cc : ByteArray} {nL kc ks : Nat} {ret : Option FieldType} {rm : Room} {Q : State → Prop} {σ : St} {pc : Nat} {lv : List (Nat × Value)} {st : List Value} (C : Zc Θ cc nL RX10 ret rm) (hkd : Θ.2.2.2.2.1 = kdC) {th : Nat} (hth : isV th) {x : Int32} {σ1 : St} (he : σ1 = up σ th 12 x) (hd : decode cc pc = .ok (.putfield 53, 3)) (kk : Z Θ nL kc ks Q σ1 (pc + 3) lv st) : Z Θ nL kc ks Q σ pc lv (.int x :: .ref (zA Θ th) :: st) := sorry
theorem w_1_152 : Cond.fieldLink "LastLoaf$Village" (56 : Nat) "LastLoaf$Village" "way" "I" ∈ TB := sorry
theorem fg10_56 {Θ : Tz} {cc : ByteArray} {nL kc ks : Nat} {ret : Option FieldType} {rm : Room} {Q : State → Prop} {σ : St} {pc : Nat} {lv : List (Nat × Value)} {st : List Value} (C : Zc Θ cc nL RX10 ret rm) (hkd : Θ.2.2.2.2.1 = kdC) {th : Nat} (hth : isV th) (hd : decode cc pc = .ok (.getfield 56, 3)) (kk : Z Θ nL kc ks Q σ (pc + 3) lv (.int (σ th 13) :: st)) : Z Θ nL kc ks Q σ pc lv (.ref (zA Θ th) :: st) := sorry
theorem fp10_56 {Θ : Tz} {cc : ByteArray} {nL kc ks : Nat} {ret : Option FieldType} {rm : Room} {Q : State → Prop} {σ : St} {pc : Nat} {lv : List (Nat × Value)} {st : List Value} (C : Zc Θ cc nL RX10 ret rm) (hkd : Θ.2.2.2.2.1 = kdC) {th : Nat} (hth : isV th) {x : Int32} {σ1 : St} (he : σ1 = up σ th 13 x) (hd : decode cc pc = .ok (.putfield 56, 3)) (kk : Z Θ nL kc ks Q σ1 (pc + 3) lv st) : Z Θ nL kc ks Q σ pc lv (.int x :: .ref (zA Θ th) :: st) := sorry
theorem w_1_156 : Cond.fieldLink "LastLoaf$Village" (59 : Nat) "LastLoaf$Village" "speech" "I" ∈ TB := sorry
theorem fg10_59 {Θ : Tz} {cc : ByteArray} {nL kc ks : Nat} {ret : Option FieldType} {rm : Room} {Q : State → Prop} {σ : St} {pc : Nat} {lv : List (Nat × Value)} {st : List Value} (C : Zc Θ cc nL RX10 ret rm) (hkd : Θ.2.2.2.2.1 = kdC) {th : Nat} (hth : isV th) (hd : decode cc pc = .ok (.getfield 59, 3)) (kk : Z Θ nL kc ks Q σ (pc + 3) lv (.int (σ th 14) :: st)) : Z Θ nL kc ks Q σ pc lv (.ref (zA Θ th) :: st) := sorry
theorem fp10_59 {Θ : Tz} {cc : ByteArray} {nL kc ks : Nat} {ret : Option FieldType} {rm : Room} {Q : State → Prop} {σ : St} {pc : Nat} {lv : List (Nat × Value)} {st : List Value} (C : Zc Θ cc nL RX10 ret rm) (hkd : Θ.2.2.2.2.1 = kdC) {th : Nat} (hth : isV th) {x : Int32} {σ1 : St} (he : σ1 = up σ th 14 x) (hd : decode cc pc = .ok (.putfield 59, 3)) (kk : Z Θ nL kc ks Q σ1 (pc + 3) lv st) : Z Θ nL kc ks Q σ pc lv (.int x :: .ref (zA Θ th) :: st) := sorry
theorem w_1_160 : Cond.fieldLink "LastLoaf$Village" (62 : Nat) "LastLoaf$Village" "seed" "I" ∈ TB := sorry
theorem fg10_62 {Θ : Tz} {cc : ByteArray} {nL kc ks : Nat} {ret : Option FieldType} {rm : Room} {Q : State → Prop} {σ : St} {pc : Nat} {lv : List (Nat × Value)} {st : List Value} (C : Zc Θ cc nL RX10 ret rm) (hkd : Θ.2.2.2.2.1 = kdC) {th : Nat} (hth : isV th) (hd : decode cc pc = .ok (.getfield 62, 3)) (kk : Z Θ nL kc ks Q σ (pc + 3) lv (.int (σ th 15) :: st)) : Z Θ nL kc ks Q σ pc lv (.ref (zA Θ th) :: st) := sorry
theorem fp10_62 {Θ : Tz} {cc : ByteArray} {nL kc ks : Nat} {ret : Option FieldType} {rm : Room} {Q : State → Prop} {σ : St} {pc : Nat} {lv : List (Nat × Value)} {st : List Value} (C : Zc Θ cc nL RX10 ret rm) (hkd : Θ.2.2.2.2.1 = kdC) {th : Nat} (hth : isV th) {x : Int32} {σ1 : St} (he : σ1 = up σ th 15 x) (hd : decode cc pc = .ok (.putfield 62, 3)) (kk : Z Θ nL kc ks Q σ1 (pc + 3) lv st) : Z Θ nL kc ks Q σ pc lv (.int x :: .ref (zA Θ th) :: st) := sorry
theorem w_1_162 : Cond.fieldLink "LastLoaf$Village" (65 : Nat) "LastLoaf$Village" "texts" "I" ∈ TB := sorry
theorem fg10_65 {Θ : Tz} {cc : ByteArray} {nL kc ks : Nat} {ret : Option FieldType} {rm : Room} {Q : State → Prop} {σ : St} {pc : Nat} {lv : List (Nat × Value)} {st : List Value} (C : Zc Θ cc nL RX10 ret rm) (hkd : Θ.2.2.2.2.1 = kdC) {th : Nat} (hth : isV th) (hd : decode cc pc = .ok (.getfield 65, 3)) (kk : Z Θ nL kc ks Q σ (pc + 3) lv (.int (σ th 16) :: st)) : Z Θ nL kc ks Q σ pc lv (.ref (zA Θ th) :: st) := sorry
theorem fp10_65 {Θ : Tz} {cc : ByteArray} {nL kc ks : Nat} {ret : Option FieldType} {rm : Room} {Q : State → Prop} {σ : St} {pc : Nat} {lv : List (Nat × Value)} {st : List Value} (C : Zc Θ cc nL RX10 ret rm) (hkd : Θ.2.2.2.2.1 = kdC) {th : Nat} (hth : isV th) {x : Int32} {σ1 : St} (he : σ1 = up σ th 16 x) (hd : decode cc pc = .ok (.putfield 65, 3)) (kk : Z Θ nL kc ks Q σ1 (pc + 3) lv st) : Z Θ nL kc ks Q σ pc lv (.int x :: .ref (zA Θ th) :: st) := sorry
def q10_become (σ : St) (th : Nat) (other_a : Nat) : Option St :=
  Option.bind (acp σ (other_a + 1) 6 (th + 1) 6 6) fun σ1_ =>
  Option.bind (acp σ1_ (other_a + 2) 6 (th + 2) 6 6) fun σ3_ =>
  Option.bind (acp σ3_ (other_a + 3) 6 (th + 3) 6 6) fun σ5_ =>
  Option.bind (acp σ5_ (other_a + 4) 6 (th + 4) 6 6) fun σ7_ =>
  Option.bind (acp σ7_ (other_a + 5) 6 (th + 5) 6 6) fun σ9_ =>
  Option.bind (acp σ9_ (other_a + 6) 36 (th + 6) 36 36) fun σ11_ =>
  Option.bind (acp σ11_ (other_a + 7) 4 (th + 7) 4 4) fun σ13_ =>
  Option.bind (q3_become σ13_ (th + 8) (other_a + 8)) fun x15_ =>
  lt (up x15_ th 8 (x15_ other_a 8)) fun σ17_ =>
  lt (up σ17_ th 9 (σ17_ other_a 9)) fun σ19_ =>
  lt (up σ19_ th 10 (σ19_ other_a 10)) fun σ21_ =>
  lt (up σ21_ th 11 (σ21_ other_a 11)) fun σ23_ =>
  lt (up σ23_ th 12 (σ23_ other_a 12)) fun σ25_ =>
  lt (up σ25_ th 13 (σ25_ other_a 13)) fun σ27_ =>
  lt (up σ27_ th 14 (σ27_ other_a 14)) fun σ29_ =>
  lt (up σ29_ th 15 (σ29_ other_a 15)) fun σ31_ =>
  lt (up σ31_ th 16 (σ31_ other_a 16)) fun σ33_ =>
  some σ33_
abbrev rm10_become : Room := { frames := 2, cells := 0, slots := 0, locals := 61 }
theorem c10_become {l : Launch} {kd : List KD} {w : Wp} {σ : St} {th : Nat} {other_a : Nat} (hkd : kd = kdC) (hi : zI kd w) (hth : isV th) (h_other : isV other_a) {r : St} (hf : q10_become σ th other_a = some r) : zM l kd w yX10_become cX10_become 2 none rm10_become [.ref (w.2.2.1 th), .ref (w.2.2.1 other_a)] σ (none, r) := sorry
/-! LastLoaf.village -/
theorem w_2_189 : Cond.fieldLink "LastLoaf" (23 : Nat) "LastLoaf" "spare" "LLastLoaf$Village;" ∈ TB := sorry
theorem fg11_23 {Θ : Tz} {cc : ByteArray} {nL kc ks : Nat} {ret : Option FieldType} {rm : Room} {Q : State → Prop} {σ : St} {pc : Nat} {lv : List (Nat × Value)} {st : List Value} (C : Zc Θ cc nL RX11 ret rm) (hkd : Θ.2.2.2.2.1 = kdC) (hd : decode cc pc = .ok (.getfield 23, 3)) (kk : Z Θ nL kc ks Q σ (pc + 3) lv (.ref (zA Θ 54) :: st)) : Z Θ nL kc ks Q σ pc lv (.ref (zA Θ 0) :: st) := sorry
theorem w_2_188 : Cond.fieldLink "LastLoaf" (19 : Nat) "LastLoaf" "now" "LLastLoaf$Village;" ∈ TB := sorry
theorem fg11_19 {Θ : Tz} {cc : ByteArray} {nL kc ks : Nat} {ret : Option FieldType} {rm : Room} {Q : State → Prop} {σ : St} {pc : Nat} {lv : List (Nat × Value)} {st : List Value} (C : Zc Θ cc nL RX11 ret rm) (hkd : Θ.2.2.2.2.1 = kdC) (hd : decode cc pc = .ok (.getfield 19, 3)) (kk : Z Θ nL kc ks Q σ (pc + 3) lv (.ref (zA Θ 44) :: st)) : Z Θ nL kc ks Q σ pc lv (.ref (zA Θ 0) :: st) := sorry
theorem w_3_112 : Cond.code ({ cls := "LastLoaf$Village", name := "become", desc := "(LLastLoaf$Village;)V" } : MethodName) prog_12_method_2_code (2 : Nat) (Option.none : Option ClassFile.FieldType) ∈ TB := sorry
theorem w_1_3 : Cond.initialized "LastLoaf$Village" ∈ TB := sorry
theorem w_3_109 : Cond.methodLink "LastLoaf" (110 : Nat) ({ cls := "LastLoaf$Village", name := "become", desc := "(LLastLoaf$Village;)V" } : MethodName) ∈ TB := sorry
theorem w_3_110 : Cond.instanceMethod ({ cls := "LastLoaf$Village", name := "become", desc := "(LLastLoaf$Village;)V" } : MethodName) ∈ TB := sorry
theorem w_3_111 : Cond.selects "LastLoaf$Village" ({ cls := "LastLoaf$Village", name := "become", desc := "(LLastLoaf$Village;)V" } : MethodName) ({ cls := "LastLoaf$Village", name := "become", desc := "(LLastLoaf$Village;)V" } : MethodName) ∈ TB := sorry
theorem cr11_110 {Θ : Tz} {cc : ByteArray} {nL kc ks : Nat} {ret : Option FieldType} {rm : Room} {Q : State → Prop} {σ : St} {pc : Nat} {lv : List (Nat × Value)} {st : List Value} (C : Zc Θ cc nL RX11 ret rm) (hkd : Θ.2.2.2.2.1 = kdC) {th : Nat} {other_a : Nat} (hth : isV th) (h_other : isV other_a) {r : St} (hx : q10_become σ th other_a = some r) (hrm : rm10_become.frames + 1 ≤ rm.frames ∧ 8 + (2 + 11) + rm10_become.locals ≤ rm.locals) (hcat : (st.map fun v => v.category).sum ≤ 8) (hk : kc ≤ rm.cells ∧ ks ≤ rm.slots) (hd : decode cc pc = .ok (.invokevirtual 110, 3)) (kk : Z Θ nL kc ks Q r (pc + 3) lv st) : Z Θ nL kc ks Q σ pc lv (.ref (zA Θ other_a) :: .ref (zA Θ th) :: st) := sorry
theorem w_2_192 : Cond.fieldLink "LastLoaf" (41 : Nat) "LastLoaf" "reader" "LLastLoaf$Reader;" ∈ TB := sorry
theorem fg11_41 {Θ : Tz} {cc : ByteArray} {nL kc ks : Nat} {ret : Option FieldType} {rm : Room} {Q : State → Prop} {σ : St} {pc : Nat} {lv : List (Nat × Value)} {st : List Value} (C : Zc Θ cc nL RX11 ret rm) (hkd : Θ.2.2.2.2.1 = kdC) (hd : decode cc pc = .ok (.getfield 41, 3)) (kk : Z Θ nL kc ks Q σ (pc + 3) lv (.ref (zA Θ 3) :: st)) : Z Θ nL kc ks Q σ pc lv (.ref (zA Θ 0) :: st) := sorry
theorem w_4_170 : Cond.code ({ cls := "LastLoaf$Reader", name := "readVillage", desc := "()Z" } : MethodName) prog_8_method_2_code (2 : Nat) (Option.some ClassFile.FieldType.boolean) ∈ TB := sorry
theorem w_4_167 : Cond.methodLink "LastLoaf" (114 : Nat) ({ cls := "LastLoaf$Reader", name := "readVillage", desc := "()Z" } : MethodName) ∈ TB := sorry
theorem w_4_168 : Cond.instanceMethod ({ cls := "LastLoaf$Reader", name := "readVillage", desc := "()Z" } : MethodName) ∈ TB := sorry
theorem w_4_169 : Cond.selects "LastLoaf$Reader" ({ cls := "LastLoaf$Reader", name := "readVillage", desc := "()Z" } : MethodName) ({ cls := "LastLoaf$Reader", name := "readVillage", desc := "()Z" } : MethodName) ∈ TB := sorry
theorem cr11_114 {Θ : Tz} {cc : ByteArray} {nL kc ks : Nat} {ret : Option FieldType} {rm : Room} {Q : State → Prop} {σ : St} {pc : Nat} {lv : List (Nat × Value)} {st : List Value} (C : Zc Θ cc nL RX11 ret rm) (hkd : Θ.2.2.2.2.1 = kdC) {r : Bool × St} (hx : q6_readVillage σ = some r) (hrm : rm6_readVillage.frames + 1 ≤ rm.frames ∧ 8 + (2 + 11) + rm6_readVillage.locals ≤ rm.locals) (hcat : (st.map fun v => v.category).sum ≤ 8) (hk : kc ≤ rm.cells ∧ ks ≤ rm.slots) (hd : decode cc pc = .ok (.invokevirtual 114, 3)) (kk : Z Θ nL kc ks Q r.2 (pc + 3) lv (.int (b2i r.1) :: st)) : Z Θ nL kc ks Q σ pc lv (.ref (zA Θ 3) :: st) := sorry
theorem w_5_55 : Cond.code ({ cls := "LastLoaf", name := "closeText", desc := "(Z)V" } : MethodName) prog_1_method_75_code (2 : Nat) (Option.none : Option ClassFile.FieldType) ∈ TB := sorry
theorem w_1_1 : Cond.initialized "LastLoaf" ∈ TB := sorry
theorem w_5_52 : Cond.methodLink "LastLoaf" (118 : Nat) ({ cls := "LastLoaf", name := "closeText", desc := "(Z)V" } : MethodName) ∈ TB := sorry
theorem w_5_54 : Cond.instanceMethod ({ cls := "LastLoaf", name := "closeText", desc := "(Z)V" } : MethodName) ∈ TB := sorry
theorem ws_LastLoaf_closeText_Z_V : Cond.selects "LastLoaf" (⟨"LastLoaf", "closeText", "(Z)V"⟩ : MethodName) (⟨"LastLoaf", "closeText", "(Z)V"⟩ : MethodName) ∈ TB := sorry
theorem cr11_118 {Θ : Tz} {cc : ByteArray} {nL kc ks : Nat} {ret : Option FieldType} {rm : Room} {Q : State → Prop} {σ : St} {pc : Nat} {lv : List (Nat × Value)} {st : List Value} (C : Zc Θ cc nL RX11 ret rm) (hkd : Θ.2.2.2.2.1 = kdC) {right_a : Bool} {r : St} (hx : q11_closeText σ right_a = some r) (hrm : rm11_closeText.frames + 1 ≤ rm.frames ∧ 8 + (2 + 11) + rm11_closeText.locals ≤ rm.locals) (hcat : (st.map fun v => v.category).sum ≤ 8) (hk : kc ≤ rm.cells ∧ ks ≤ rm.slots) (hd : decode cc pc = .ok (.invokevirtual 118, 3)) (kk : Z Θ nL kc ks Q r (pc + 3) lv st) : Z Θ nL kc ks Q σ pc lv (.int (b2i right_a) :: .ref (zA Θ 0) :: st) := sorry
theorem th11_0_126g : ∀ w ∈ (vx_atS RX11 126 (exn 0) ["java/lang/RuntimeException", "java/lang/Exception"]).filter goodWord, w ∈ TB := sorry
theorem th11_0_126n : ∀ w ∈ (vx_atS RX11 126 (exn 0) ["java/lang/RuntimeException", "java/lang/Exception"]).filter (fun w => !goodWord w), w ∈ nestW := sorry
theorem th11_0_126o : ∀ w ∈ Cond.classLink RX11 122 (exn 0) :: Cond.initialized (exn 0) :: vx_atS RX11 126 (exn 0) ["java/lang/RuntimeException", "java/lang/Exception"], vx_ot w = true := sorry
theorem w_5_56 : Cond.classLink "LastLoaf" (122 : Nat) "java/lang/IllegalArgumentException" ∈ TB := sorry
theorem w_1_23 : Cond.initialized "java/lang/IllegalArgumentException" ∈ TB := sorry
theorem w_1_163 : Cond.fieldLink "LastLoaf" (129 : Nat) "LastLoaf$Village" "texts" "I" ∈ TB := sorry
theorem fg11_129 {Θ : Tz} {cc : ByteArray} {nL kc ks : Nat} {ret : Option FieldType} {rm : Room} {Q : State → Prop} {σ : St} {pc : Nat} {lv : List (Nat × Value)} {st : List Value} (C : Zc Θ cc nL RX11 ret rm) (hkd : Θ.2.2.2.2.1 = kdC) {th : Nat} (hth : isV th) (hd : decode cc pc = .ok (.getfield 129, 3)) (kk : Z Θ nL kc ks Q σ (pc + 3) lv (.int (σ th 16) :: st)) : Z Θ nL kc ks Q σ pc lv (.ref (zA Θ th) :: st) := sorry
theorem th11_3_136g : ∀ w ∈ (vx_atS RX11 136 (exn 3) ["java/lang/RuntimeException", "java/lang/Exception"]).filter goodWord, w ∈ TB := sorry
theorem th11_3_136n : ∀ w ∈ (vx_atS RX11 136 (exn 3) ["java/lang/RuntimeException", "java/lang/Exception"]).filter (fun w => !goodWord w), w ∈ nestW := sorry
theorem th11_3_136o : ∀ w ∈ Cond.classLink RX11 132 (exn 3) :: Cond.initialized (exn 3) :: vx_atS RX11 136 (exn 3) ["java/lang/RuntimeException", "java/lang/Exception"], vx_ot w = true := sorry
theorem w_5_126 : Cond.classLink "LastLoaf" (132 : Nat) "java/lang/UnsupportedOperationException" ∈ TB := sorry
theorem w_1_24 : Cond.initialized "java/lang/UnsupportedOperationException" ∈ TB := sorry
theorem fp11_129 {Θ : Tz} {cc : ByteArray} {nL kc ks : Nat} {ret : Option FieldType} {rm : Room} {Q : State → Prop} {σ : St} {pc : Nat} {lv : List (Nat × Value)} {st : List Value} (C : Zc Θ cc nL RX11 ret rm) (hkd : Θ.2.2.2.2.1 = kdC) {th : Nat} (hth : isV th) {x : Int32} {σ1 : St} (he : σ1 = up σ th 16 x) (hd : decode cc pc = .ok (.putfield 129, 3)) (kk : Z Θ nL kc ks Q σ1 (pc + 3) lv st) : Z Θ nL kc ks Q σ pc lv (.int x :: .ref (zA Θ th) :: st) := sorry
theorem w_2_195 : Cond.fieldLink "LastLoaf" (54 : Nat) "LastLoaf" "past" "LLastLoaf$Past;" ∈ TB := sorry
theorem fg11_54 {Θ : Tz} {cc : ByteArray} {nL kc ks : Nat} {ret : Option FieldType} {rm : Room} {Q : State → Prop} {σ : St} {pc : Nat} {lv : List (Nat × Value)} {st : List Value} (C : Zc Θ cc nL RX11 ret rm) (hkd : Θ.2.2.2.2.1 = kdC) (hd : decode cc pc = .ok (.getfield 54, 3)) (kk : Z Θ nL kc ks Q σ (pc + 3) lv (.ref (zA Θ 5) :: st)) : Z Θ nL kc ks Q σ pc lv (.ref (zA Θ 0) :: st) := sorry
theorem w_4_144 : Cond.code ({ cls := "LastLoaf$Past", name := "forget", desc := "()V" } : MethodName) prog_6_method_4_code (1 : Nat) (Option.none : Option ClassFile.FieldType) ∈ TB := sorry
theorem w_1_8 : Cond.initialized "LastLoaf$Past" ∈ TB := sorry
theorem w_4_141 : Cond.methodLink "LastLoaf" (137 : Nat) ({ cls := "LastLoaf$Past", name := "forget", desc := "()V" } : MethodName) ∈ TB := sorry
theorem w_4_142 : Cond.instanceMethod ({ cls := "LastLoaf$Past", name := "forget", desc := "()V" } : MethodName) ∈ TB := sorry
theorem w_4_143 : Cond.selects "LastLoaf$Past" ({ cls := "LastLoaf$Past", name := "forget", desc := "()V" } : MethodName) ({ cls := "LastLoaf$Past", name := "forget", desc := "()V" } : MethodName) ∈ TB := sorry
theorem cr11_137 {Θ : Tz} {cc : ByteArray} {nL kc ks : Nat} {ret : Option FieldType} {rm : Room} {Q : State → Prop} {σ : St} {pc : Nat} {lv : List (Nat × Value)} {st : List Value} (C : Zc Θ cc nL RX11 ret rm) (hkd : Θ.2.2.2.2.1 = kdC) {r : St} (hx : q4_forget σ = some r) (hrm : rm4_forget.frames + 1 ≤ rm.frames ∧ 8 + (1 + 11) + rm4_forget.locals ≤ rm.locals) (hcat : (st.map fun v => v.category).sum ≤ 8) (hk : kc ≤ rm.cells ∧ ks ≤ rm.slots) (hd : decode cc pc = .ok (.invokevirtual 137, 3)) (kk : Z Θ nL kc ks Q r (pc + 3) lv st) : Z Θ nL kc ks Q σ pc lv (.ref (zA Θ 5) :: st) := sorry
def q11_village (σ : St) : Option (Sum Nat Int32 × St) :=
  Option.bind (q10_become σ 54 44) fun x1_ =>
  Option.bind (q6_readVillage x1_) fun x3_ =>
  Option.bind (q11_closeText x3_.2 x3_.1) fun x5_ =>
  if ¬ (x3_.1 = true) then (some (.inl 0, x5_)) else
  if 12 ≤ (x5_ 44 16) then (some (.inl 3, x5_)) else
  Option.bind (q10_become x5_ 44 54) fun x15_ =>
  lt (up x15_ 44 16 ((x15_ 44 16) + 1)) fun σ17_ =>
  Option.bind (q4_forget σ17_) fun x19_ =>
  some (.inr (x19_ 44 16), x19_)
abbrev rm11_village : Room := { frames := 9, cells := 1, slots := 6, locals := 190 }
theorem c11_village {l : Launch} {kd : List KD} {w : Wp} {σ : St} (hkd : kd = kdC) (hi : zI kd w) (hlt : l.stackTraces = false) {r : (Sum Nat Int32 × St)} (hf : q11_village σ = some r) : zX l kd w yX11_village cX11_village 2 (some .int) rm11_village [.ref (w.2.2.1 0)] σ (om (fun v => some (.int v)) r) 1 6 := sorry
/-! LastLoaf$Law.become -/
theorem w_1_205 : Cond.fieldLink "LastLoaf$Law" (9 : Nat) "LastLoaf$Law" "code" "[I" ∈ TB := sorry
theorem fg2_9 {Θ : Tz} {cc : ByteArray} {nL kc ks : Nat} {ret : Option FieldType} {rm : Room} {Q : State → Prop} {σ : St} {pc : Nat} {lv : List (Nat × Value)} {st : List Value} (C : Zc Θ cc nL RX2 ret rm) (hkd : Θ.2.2.2.2.1 = kdC) {th : Nat} (hth : isLaw th) (hd : decode cc pc = .ok (.getfield 9, 3)) (kk : Z Θ nL kc ks Q σ (pc + 3) lv (.ref (zA Θ (th + 1)) :: st)) : Z Θ nL kc ks Q σ pc lv (.ref (zA Θ th) :: st) := sorry
theorem sp_412 : (Int16.ofInt (412)).toInt32 = 412 := sorry
theorem w_4_136 : Cond.methodLink "LastLoaf$Law" (35 : Nat) ({ cls := "java/lang/System", name := "arraycopy", desc := "(Ljava/lang/Object;ILjava/lang/Object;II)V" } : MethodName) ∈ TB := sorry
theorem w_1_208 : Cond.fieldLink "LastLoaf$Law" (21 : Nat) "LastLoaf$Law" "length" "I" ∈ TB := sorry
theorem fg2_21 {Θ : Tz} {cc : ByteArray} {nL kc ks : Nat} {ret : Option FieldType} {rm : Room} {Q : State → Prop} {σ : St} {pc : Nat} {lv : List (Nat × Value)} {st : List Value} (C : Zc Θ cc nL RX2 ret rm) (hkd : Θ.2.2.2.2.1 = kdC) {th : Nat} (hth : isLaw th) (hd : decode cc pc = .ok (.getfield 21, 3)) (kk : Z Θ nL kc ks Q σ (pc + 3) lv (.int (σ th 3) :: st)) : Z Θ nL kc ks Q σ pc lv (.ref (zA Θ th) :: st) := sorry
theorem fp2_21 {Θ : Tz} {cc : ByteArray} {nL kc ks : Nat} {ret : Option FieldType} {rm : Room} {Q : State → Prop} {σ : St} {pc : Nat} {lv : List (Nat × Value)} {st : List Value} (C : Zc Θ cc nL RX2 ret rm) (hkd : Θ.2.2.2.2.1 = kdC) {th : Nat} (hth : isLaw th) {x : Int32} {σ1 : St} (he : σ1 = up σ th 3 x) (hd : decode cc pc = .ok (.putfield 21, 3)) (kk : Z Θ nL kc ks Q σ1 (pc + 3) lv st) : Z Θ nL kc ks Q σ pc lv (.int x :: .ref (zA Θ th) :: st) := sorry
theorem w_1_210 : Cond.fieldLink "LastLoaf$Law" (25 : Nat) "LastLoaf$Law" "lines" "I" ∈ TB := sorry
theorem fg2_25 {Θ : Tz} {cc : ByteArray} {nL kc ks : Nat} {ret : Option FieldType} {rm : Room} {Q : State → Prop} {σ : St} {pc : Nat} {lv : List (Nat × Value)} {st : List Value} (C : Zc Θ cc nL RX2 ret rm) (hkd : Θ.2.2.2.2.1 = kdC) {th : Nat} (hth : isLaw th) (hd : decode cc pc = .ok (.getfield 25, 3)) (kk : Z Θ nL kc ks Q σ (pc + 3) lv (.int (σ th 4) :: st)) : Z Θ nL kc ks Q σ pc lv (.ref (zA Θ th) :: st) := sorry
theorem fp2_25 {Θ : Tz} {cc : ByteArray} {nL kc ks : Nat} {ret : Option FieldType} {rm : Room} {Q : State → Prop} {σ : St} {pc : Nat} {lv : List (Nat × Value)} {st : List Value} (C : Zc Θ cc nL RX2 ret rm) (hkd : Θ.2.2.2.2.1 = kdC) {th : Nat} (hth : isLaw th) {x : Int32} {σ1 : St} (he : σ1 = up σ th 4 x) (hd : decode cc pc = .ok (.putfield 25, 3)) (kk : Z Θ nL kc ks Q σ1 (pc + 3) lv st) : Z Θ nL kc ks Q σ pc lv (.int x :: .ref (zA Θ th) :: st) := sorry
def q2_become (σ : St) (th : Nat) (other_a : Nat) : Option St :=
  Option.bind (acp σ (other_a + 1) 412 (th + 1) 412 412) fun σ1_ =>
  lt (up σ1_ th 3 (σ1_ other_a 3)) fun σ3_ =>
  lt (up σ3_ th 4 (σ3_ other_a 4)) fun σ5_ =>
  some σ5_
abbrev rm2_become : Room := { frames := 1, cells := 0, slots := 0, locals := 40 }
theorem c2_become {l : Launch} {kd : List KD} {w : Wp} {σ : St} {th : Nat} {other_a : Nat} (hkd : kd = kdC) (hi : zI kd w) (hth : isLaw th) (h_other : isLaw other_a) {r : St} (hf : q2_become σ th other_a = some r) : zM l kd w yX2_become cX2_become 2 none rm2_become [.ref (w.2.2.1 th), .ref (w.2.2.1 other_a)] σ (none, r) := sorry
/-! LastLoaf$Law.emit -/
def q2_emit (σ : St) (th : Nat) (word_a : Int32) : Option St :=
  Option.bind (if (σ th 3) < 412 then (Option.bind (sa σ (th + 1) 412 (σ th 3) word_a) fun σ8_ =>
  lt (up σ8_ th 3 ((σ8_ th 3) + 1)) fun σ10_ =>
  some (σ10_)) else (some (σ))) fun y1_ =>
  some y1_
abbrev rm2_emit : Room := { frames := 0, cells := 0, slots := 0, locals := 0 }
theorem c2_emit {l : Launch} {kd : List KD} {w : Wp} {σ : St} {th : Nat} {word_a : Int32} (hkd : kd = kdC) (hi : zI kd w) (hth : isLaw th) {r : St} (hf : q2_emit σ th word_a = some r) : zM l kd w yX2_emit cX2_emit 2 none rm2_emit [.ref (w.2.2.1 th), .int word_a] σ (none, r) := sorry
/-! LastLoaf$Reader.emitWaiting -/
theorem w_2_0 : Cond.fieldLink "LastLoaf$Reader" (15 : Nat) "LastLoaf$Reader" "waitingSize" "I" ∈ TB := sorry
theorem fg6_15 {Θ : Tz} {cc : ByteArray} {nL kc ks : Nat} {ret : Option FieldType} {rm : Room} {Q : State → Prop} {σ : St} {pc : Nat} {lv : List (Nat × Value)} {st : List Value} (C : Zc Θ cc nL RX6 ret rm) (hkd : Θ.2.2.2.2.1 = kdC) (hd : decode cc pc = .ok (.getfield 15, 3)) (kk : Z Θ nL kc ks Q σ (pc + 3) lv (.int (σ 3 4) :: st)) : Z Θ nL kc ks Q σ pc lv (.ref (zA Θ 3) :: st) := sorry
theorem w_1_239 : Cond.fieldLink "LastLoaf$Reader" (9 : Nat) "LastLoaf$Reader" "waiting" "[I" ∈ TB := sorry
theorem fg6_9 {Θ : Tz} {cc : ByteArray} {nL kc ks : Nat} {ret : Option FieldType} {rm : Room} {Q : State → Prop} {σ : St} {pc : Nat} {lv : List (Nat × Value)} {st : List Value} (C : Zc Θ cc nL RX6 ret rm) (hkd : Θ.2.2.2.2.1 = kdC) (hd : decode cc pc = .ok (.getfield 9, 3)) (kk : Z Θ nL kc ks Q σ (pc + 3) lv (.ref (zA Θ 4) :: st)) : Z Θ nL kc ks Q σ pc lv (.ref (zA Θ 3) :: st) := sorry
theorem w_1_238 : Cond.fieldLink "LastLoaf$Reader" (30 : Nat) "LastLoaf$Reader" "law" "LLastLoaf$Law;" ∈ TB := sorry
theorem fg6_30 {Θ : Tz} {cc : ByteArray} {nL kc ks : Nat} {ret : Option FieldType} {rm : Room} {Q : State → Prop} {σ : St} {pc : Nat} {lv : List (Nat × Value)} {st : List Value} (C : Zc Θ cc nL RX6 ret rm) (hkd : Θ.2.2.2.2.1 = kdC) (hd : decode cc pc = .ok (.getfield 30, 3)) (kk : Z Θ nL kc ks Q σ (pc + 3) lv (.ref (zA Θ 36) :: st)) : Z Θ nL kc ks Q σ pc lv (.ref (zA Θ 3) :: st) := sorry
theorem w_5_164 : Cond.code ({ cls := "LastLoaf$Law", name := "emit", desc := "(I)V" } : MethodName) prog_4_method_3_code (2 : Nat) (Option.none : Option ClassFile.FieldType) ∈ TB := sorry
theorem w_1_6 : Cond.initialized "LastLoaf$Law" ∈ TB := sorry
theorem w_5_161 : Cond.methodLink "LastLoaf$Reader" (160 : Nat) ({ cls := "LastLoaf$Law", name := "emit", desc := "(I)V" } : MethodName) ∈ TB := sorry
theorem w_5_162 : Cond.instanceMethod ({ cls := "LastLoaf$Law", name := "emit", desc := "(I)V" } : MethodName) ∈ TB := sorry
theorem w_5_163 : Cond.selects "LastLoaf$Law" ({ cls := "LastLoaf$Law", name := "emit", desc := "(I)V" } : MethodName) ({ cls := "LastLoaf$Law", name := "emit", desc := "(I)V" } : MethodName) ∈ TB := sorry
theorem cr6_160 {Θ : Tz} {cc : ByteArray} {nL kc ks : Nat} {ret : Option FieldType} {rm : Room} {Q : State → Prop} {σ : St} {pc : Nat} {lv : List (Nat × Value)} {st : List Value} (C : Zc Θ cc nL RX6 ret rm) (hkd : Θ.2.2.2.2.1 = kdC) {th : Nat} {word_a : Int32} (hth : isLaw th) {r : St} (hx : q2_emit σ th word_a = some r) (hrm : rm2_emit.frames + 1 ≤ rm.frames ∧ 8 + (2 + 11) + rm2_emit.locals ≤ rm.locals) (hcat : (st.map fun v => v.category).sum ≤ 8) (hk : kc ≤ rm.cells ∧ ks ≤ rm.slots) (hd : decode cc pc = .ok (.invokevirtual 160, 3)) (kk : Z Θ nL kc ks Q r (pc + 3) lv st) : Z Θ nL kc ks Q σ pc lv (.int word_a :: .ref (zA Θ th) :: st) := sorry
theorem fp6_15 {Θ : Tz} {cc : ByteArray} {nL kc ks : Nat} {ret : Option FieldType} {rm : Room} {Q : State → Prop} {σ : St} {pc : Nat} {lv : List (Nat × Value)} {st : List Value} (C : Zc Θ cc nL RX6 ret rm) (hkd : Θ.2.2.2.2.1 = kdC) {x : Int32} {σ1 : St} (he : σ1 = up σ 3 4 x) (hd : decode cc pc = .ok (.putfield 15, 3)) (kk : Z Θ nL kc ks Q σ1 (pc + 3) lv st) : Z Θ nL kc ks Q σ pc lv (.int x :: .ref (zA Θ 3) :: st) := sorry
def q6_emitWaiting (σ : St) (least_a : Int32) (most_a : Int32) : Option St :=
  lt ((σ 3 4) - 1) fun i1_ =>
  Option.bind (loop2 (fun rec6_ (i9_ : Int32) (σ10_ : St) =>
  if 0 ≤ i9_ then
  Option.bind (Option.bind (ag σ10_ 4 32 i9_) fun x21_ =>
  if x21_ < least_a then (some true) else (Option.bind (ag σ10_ 4 32 i9_) fun x24_ =>
  if most_a < x24_ then (some true) else (some false))) fun t19_ =>
  if t19_ = true then (some (.inl σ10_)) else
  Option.bind (ag σ10_ 4 32 i9_) fun x28_ =>
  Option.bind (q2_emit σ10_ 36 x28_) fun x30_ =>
  lt (up x30_ 3 4 i9_) fun σ32_ =>
  lt (i9_ + (-1)) fun i34_ =>
  rec6_ i34_ σ32_
  else (some (.inr (i9_, σ10_)))) fuelN i1_ σ) fun y3_ =>
  Sum.elim (fun x9 => some x9) (fun y3_r =>
  some y3_r.2) y3_
abbrev rm6_emitWaiting : Room := { frames := 1, cells := 0, slots := 0, locals := 21 }
theorem c6_emitWaiting {l : Launch} {kd : List KD} {w : Wp} {σ : St} {least_a : Int32} {most_a : Int32} (hkd : kd = kdC) (hi : zI kd w) {r : St} (hf : q6_emitWaiting σ least_a most_a = some r) : zM l kd w yX6_emitWaiting cX6_emitWaiting 4 none rm6_emitWaiting [.ref (w.2.2.1 3), .int least_a, .int most_a] σ (none, r) := sorry
/-! LastLoaf$Reader.closeNots -/
theorem sp_1105 : (Int16.ofInt (1105)).toInt32 = 1105 := sorry
theorem w_5_211 : Cond.code ({ cls := "LastLoaf$Reader", name := "emitWaiting", desc := "(II)V" } : MethodName) prog_8_method_16_code (4 : Nat) (Option.none : Option ClassFile.FieldType) ∈ TB := sorry
theorem w_5_208 : Cond.methodLink "LastLoaf$Reader" (178 : Nat) ({ cls := "LastLoaf$Reader", name := "emitWaiting", desc := "(II)V" } : MethodName) ∈ TB := sorry
theorem w_5_209 : Cond.instanceMethod ({ cls := "LastLoaf$Reader", name := "emitWaiting", desc := "(II)V" } : MethodName) ∈ TB := sorry
theorem w_5_210 : Cond.selects "LastLoaf$Reader" ({ cls := "LastLoaf$Reader", name := "emitWaiting", desc := "(II)V" } : MethodName) ({ cls := "LastLoaf$Reader", name := "emitWaiting", desc := "(II)V" } : MethodName) ∈ TB := sorry
theorem cr6_178 {Θ : Tz} {cc : ByteArray} {nL kc ks : Nat} {ret : Option FieldType} {rm : Room} {Q : State → Prop} {σ : St} {pc : Nat} {lv : List (Nat × Value)} {st : List Value} (C : Zc Θ cc nL RX6 ret rm) (hkd : Θ.2.2.2.2.1 = kdC) {least_a : Int32} {most_a : Int32} {r : St} (hx : q6_emitWaiting σ least_a most_a = some r) (hrm : rm6_emitWaiting.frames + 1 ≤ rm.frames ∧ 8 + (4 + 11) + rm6_emitWaiting.locals ≤ rm.locals) (hcat : (st.map fun v => v.category).sum ≤ 8) (hk : kc ≤ rm.cells ∧ ks ≤ rm.slots) (hd : decode cc pc = .ok (.invokevirtual 178, 3)) (kk : Z Θ nL kc ks Q r (pc + 3) lv st) : Z Θ nL kc ks Q σ pc lv (.int most_a :: .int least_a :: .ref (zA Θ 3) :: st) := sorry
theorem w_2_1 : Cond.fieldLink "LastLoaf$Reader" (19 : Nat) "LastLoaf$Reader" "depth" "I" ∈ TB := sorry
theorem fg6_19 {Θ : Tz} {cc : ByteArray} {nL kc ks : Nat} {ret : Option FieldType} {rm : Room} {Q : State → Prop} {σ : St} {pc : Nat} {lv : List (Nat × Value)} {st : List Value} (C : Zc Θ cc nL RX6 ret rm) (hkd : Θ.2.2.2.2.1 = kdC) (hd : decode cc pc = .ok (.getfield 19, 3)) (kk : Z Θ nL kc ks Q σ (pc + 3) lv (.int (σ 3 5) :: st)) : Z Θ nL kc ks Q σ pc lv (.ref (zA Θ 3) :: st) := sorry
theorem fp6_19 {Θ : Tz} {cc : ByteArray} {nL kc ks : Nat} {ret : Option FieldType} {rm : Room} {Q : State → Prop} {σ : St} {pc : Nat} {lv : List (Nat × Value)} {st : List Value} (C : Zc Θ cc nL RX6 ret rm) (hkd : Θ.2.2.2.2.1 = kdC) {x : Int32} {σ1 : St} (he : σ1 = up σ 3 5 x) (hd : decode cc pc = .ok (.putfield 19, 3)) (kk : Z Θ nL kc ks Q σ1 (pc + 3) lv st) : Z Θ nL kc ks Q σ pc lv (.int x :: .ref (zA Θ 3) :: st) := sorry
def q6_closeNots (σ : St) : Option St :=
  lt (σ 3 4) fun ahead1_ =>
  Option.bind (q6_emitWaiting σ 1105 1105) fun x3_ =>
  lt (up x3_ 3 5 ((x3_ 3 5) - (ahead1_ - (x3_ 3 4)))) fun σ5_ =>
  some σ5_
abbrev rm6_closeNots : Room := { frames := 2, cells := 0, slots := 0, locals := 44 }
theorem c6_closeNots {l : Launch} {kd : List KD} {w : Wp} {σ : St} (hkd : kd = kdC) (hi : zI kd w) {r : St} (hf : q6_closeNots σ = some r) : zM l kd w yX6_closeNots cX6_closeNots 2 none rm6_closeNots [.ref (w.2.2.1 3)] σ (none, r) := sorry
/-! LastLoaf$Reader.closeAtoms -/
theorem w_5_207 : Cond.code ({ cls := "LastLoaf$Reader", name := "closeNots", desc := "()V" } : MethodName) prog_8_method_15_code (2 : Nat) (Option.none : Option ClassFile.FieldType) ∈ TB := sorry
theorem w_5_204 : Cond.methodLink "LastLoaf$Reader" (189 : Nat) ({ cls := "LastLoaf$Reader", name := "closeNots", desc := "()V" } : MethodName) ∈ TB := sorry
theorem w_5_205 : Cond.instanceMethod ({ cls := "LastLoaf$Reader", name := "closeNots", desc := "()V" } : MethodName) ∈ TB := sorry
theorem w_5_206 : Cond.selects "LastLoaf$Reader" ({ cls := "LastLoaf$Reader", name := "closeNots", desc := "()V" } : MethodName) ({ cls := "LastLoaf$Reader", name := "closeNots", desc := "()V" } : MethodName) ∈ TB := sorry
theorem cr6_189 {Θ : Tz} {cc : ByteArray} {nL kc ks : Nat} {ret : Option FieldType} {rm : Room} {Q : State → Prop} {σ : St} {pc : Nat} {lv : List (Nat × Value)} {st : List Value} (C : Zc Θ cc nL RX6 ret rm) (hkd : Θ.2.2.2.2.1 = kdC) {r : St} (hx : q6_closeNots σ = some r) (hrm : rm6_closeNots.frames + 1 ≤ rm.frames ∧ 8 + (2 + 11) + rm6_closeNots.locals ≤ rm.locals) (hcat : (st.map fun v => v.category).sum ≤ 8) (hk : kc ≤ rm.cells ∧ ks ≤ rm.slots) (hd : decode cc pc = .ok (.invokevirtual 189, 3)) (kk : Z Θ nL kc ks Q r (pc + 3) lv st) : Z Θ nL kc ks Q σ pc lv (.ref (zA Θ 3) :: st) := sorry
theorem sp_1103 : (Int16.ofInt (1103)).toInt32 = 1103 := sorry
theorem sp_1104 : (Int16.ofInt (1104)).toInt32 = 1104 := sorry
def q6_closeAtoms (σ : St) : Option St :=
  Option.bind (q6_closeNots σ) fun x1_ =>
  Option.bind (loop2 (fun rec6_ (closed9_ : Int32) (σ10_ : St) =>
  Option.bind (if closed9_ < 6 then (Option.bind (q8_isSign σ10_ 41) fun x18_ =>
  if x18_ = true then (some true) else (some false)) else (some false)) fun t15_ =>
  if t15_ = true then
  Option.bind (q6_emitWaiting σ10_ 1103 1104) fun x22_ =>
  if (x22_ 3 4) ≤ 0 then (some (.inl x22_)) else
  lt (up x22_ 3 4 ((x22_ 3 4) - 1)) fun σ28_ =>
  lt (up σ28_ 3 5 ((σ28_ 3 5) - 1)) fun σ30_ =>
  Option.bind (q8_advance σ30_) fun x32_ =>
  Option.bind (q6_closeNots x32_) fun x34_ =>
  lt (closed9_ + 1) fun closed36_ =>
  rec6_ closed36_ x34_
  else (some (.inr (closed9_, σ10_)))) fuelN (0 : Int32) x1_) fun y3_ =>
  Sum.elim (fun x9 => some x9) (fun y3_r =>
  some y3_r.2) y3_
abbrev rm6_closeAtoms : Room := { frames := 3, cells := 0, slots := 0, locals := 65 }
theorem c6_closeAtoms {l : Launch} {kd : List KD} {w : Wp} {σ : St} (hkd : kd = kdC) (hi : zI kd w) {r : St} (hf : q6_closeAtoms σ = some r) : zM l kd w yX6_closeAtoms cX6_closeAtoms 2 none rm6_closeAtoms [.ref (w.2.2.1 3)] σ (none, r) := sorry
/-! LastLoaf$Reader.waitFor -/
def q6_waitFor (σ : St) (sign_a : Int32) : Option St :=
  Option.bind (if (σ 3 4) < 32 then (Option.bind (sa σ 4 32 (σ 3 4) sign_a) fun σ8_ =>
  lt (up σ8_ 3 4 ((σ8_ 3 4) + 1)) fun σ10_ =>
  some (σ10_)) else (some (σ))) fun y1_ =>
  some y1_
abbrev rm6_waitFor : Room := { frames := 0, cells := 0, slots := 0, locals := 0 }
theorem c6_waitFor {l : Launch} {kd : List KD} {w : Wp} {σ : St} {sign_a : Int32} (hkd : kd = kdC) (hi : zI kd w) {r : St} (hf : q6_waitFor σ sign_a = some r) : zM l kd w yX6_waitFor cX6_waitFor 2 none rm6_waitFor [.ref (w.2.2.1 3), .int sign_a] σ (none, r) := sorry
/-! LastLoaf$Reader.openAtoms -/
theorem sp_1106 : (Int16.ofInt (1106)).toInt32 = 1106 := sorry
theorem w_5_177 : Cond.code ({ cls := "LastLoaf$Reader", name := "waitFor", desc := "(I)V" } : MethodName) prog_8_method_17_code (2 : Nat) (Option.none : Option ClassFile.FieldType) ∈ TB := sorry
theorem w_5_174 : Cond.methodLink "LastLoaf$Reader" (182 : Nat) ({ cls := "LastLoaf$Reader", name := "waitFor", desc := "(I)V" } : MethodName) ∈ TB := sorry
theorem w_5_175 : Cond.instanceMethod ({ cls := "LastLoaf$Reader", name := "waitFor", desc := "(I)V" } : MethodName) ∈ TB := sorry
theorem w_5_176 : Cond.selects "LastLoaf$Reader" ({ cls := "LastLoaf$Reader", name := "waitFor", desc := "(I)V" } : MethodName) ({ cls := "LastLoaf$Reader", name := "waitFor", desc := "(I)V" } : MethodName) ∈ TB := sorry
theorem cr6_182 {Θ : Tz} {cc : ByteArray} {nL kc ks : Nat} {ret : Option FieldType} {rm : Room} {Q : State → Prop} {σ : St} {pc : Nat} {lv : List (Nat × Value)} {st : List Value} (C : Zc Θ cc nL RX6 ret rm) (hkd : Θ.2.2.2.2.1 = kdC) {sign_a : Int32} {r : St} (hx : q6_waitFor σ sign_a = some r) (hrm : rm6_waitFor.frames + 1 ≤ rm.frames ∧ 8 + (2 + 11) + rm6_waitFor.locals ≤ rm.locals) (hcat : (st.map fun v => v.category).sum ≤ 8) (hk : kc ≤ rm.cells ∧ ks ≤ rm.slots) (hd : decode cc pc = .ok (.invokevirtual 182, 3)) (kk : Z Θ nL kc ks Q r (pc + 3) lv st) : Z Θ nL kc ks Q σ pc lv (.int sign_a :: .ref (zA Θ 3) :: st) := sorry
def q6_openAtoms (σ : St) : Option (Bool × St) :=
  Option.bind (loop2 (fun rec4_ (opened7_ : Int32) (σ8_ : St) =>
  if opened7_ ≤ 6 then
  Option.bind (q8_isWord σ8_ 23) fun x15_ =>
  Option.bind (if x15_ = true then (some false) else (Option.bind (q8_isSign σ8_ 40) fun x22_ =>
  if x22_ = true then (some false) else (some true))) fun t19_ =>
  if t19_ = true then (some (.inl (true, σ8_))) else
  if 6 ≤ (σ8_ 3 5) then (some (.inl (false, σ8_))) else
  lt (up σ8_ 3 5 ((σ8_ 3 5) + 1)) fun σ30_ =>
  Option.bind (q6_waitFor σ30_ (if x15_ = true then 1105 else 1106)) fun x37_ =>
  Option.bind (q8_advance x37_) fun x39_ =>
  lt (opened7_ + 1) fun opened41_ =>
  rec4_ opened41_ x39_
  else (some (.inr (opened7_, σ8_)))) fuelN (0 : Int32) σ) fun y1_ =>
  Sum.elim (fun x9 => some x9) (fun y1_r =>
  some (false, y1_r.2)) y1_
abbrev rm6_openAtoms : Room := { frames := 5, cells := 0, slots := 0, locals := 107 }
theorem c6_openAtoms {l : Launch} {kd : List KD} {w : Wp} {σ : St} (hkd : kd = kdC) (hi : zI kd w) {r : (Bool × St)} (hf : q6_openAtoms σ = some r) : zM l kd w yX6_openAtoms cX6_openAtoms 3 (some .boolean) rm6_openAtoms [.ref (w.2.2.1 3)] σ (some (.int (b2i r.1)), r.2) := sorry
/-! LastLoaf$Reader.comparisonHere -/
theorem sp_1101 : (Int16.ofInt (1101)).toInt32 = 1101 := sorry
theorem sp_1102 : (Int16.ofInt (1102)).toInt32 = 1102 := sorry
def q6_comparisonHere (σ : St) : Option Int32 :=
  Option.bind (q8_isSign σ 60) fun x3_ =>
  if x3_ = true then (some 1101) else
  Option.bind (Option.bind (q8_isSign σ 62) fun x12_ =>
  if x12_ = true then (some (1102 : Int32)) else (some (-1 : Int32))) fun x7_ =>
  some x7_
abbrev rm6_comparisonHere : Room := { frames := 1, cells := 0, slots := 0, locals := 21 }
theorem c6_comparisonHere {l : Launch} {kd : List KD} {w : Wp} {σ : St} (hkd : kd = kdC) (hi : zI kd w) {r : Int32} (hf : q6_comparisonHere σ = some r) : zM l kd w yX6_comparisonHere cX6_comparisonHere 1 (some .int) rm6_comparisonHere [.ref (w.2.2.1 3)] σ (some (.int r), σ) := sorry
/-! LastLoaf$Reader.partHere -/
theorem sp_1000 : (Int16.ofInt (1000)).toInt32 = 1000 := sorry
theorem sp_1001 : (Int16.ofInt (1001)).toInt32 = 1001 := sorry
theorem sp_1002 : (Int16.ofInt (1002)).toInt32 = 1002 := sorry
theorem sp_1003 : (Int16.ofInt (1003)).toInt32 = 1003 := sorry
theorem sp_1004 : (Int16.ofInt (1004)).toInt32 = 1004 := sorry
theorem sp_1005 : (Int16.ofInt (1005)).toInt32 = 1005 := sorry
theorem sp_1006 : (Int16.ofInt (1006)).toInt32 = 1006 := sorry
def q6_partHere (σ : St) : Option Int32 :=
  Option.bind (q8_isWord σ 26) fun x3_ =>
  if x3_ = true then (some 1000) else
  Option.bind (q8_isWord σ 27) fun x9_ =>
  if x9_ = true then (some 1001) else
  Option.bind (q8_isWord σ 7) fun x15_ =>
  if x15_ = true then (some 1002) else
  Option.bind (q8_isWord σ 1) fun x21_ =>
  if x21_ = true then (some 1003) else
  Option.bind (q8_isWord σ 28) fun x27_ =>
  if x27_ = true then (some 1004) else
  Option.bind (q8_isWord σ 29) fun x33_ =>
  if x33_ = true then (some 1005) else
  Option.bind (Option.bind (q8_isWord σ 5) fun x42_ =>
  if x42_ = true then (some (1006 : Int32)) else (some (-1 : Int32))) fun x37_ =>
  some x37_
abbrev rm6_partHere : Room := { frames := 5, cells := 0, slots := 0, locals := 107 }
theorem c6_partHere {l : Launch} {kd : List KD} {w : Wp} {σ : St} (hkd : kd = kdC) (hi : zI kd w) {r : Int32} (hf : q6_partHere σ = some r) : zM l kd w yX6_partHere cX6_partHere 1 (some .int) rm6_partHere [.ref (w.2.2.1 3)] σ (some (.int r), σ) := sorry
/-! LastLoaf$Reader.readPart -/
theorem w_5_191 : Cond.code ({ cls := "LastLoaf$Reader", name := "partHere", desc := "()I" } : MethodName) prog_8_method_21_code (1 : Nat) (Option.some ClassFile.FieldType.int) ∈ TB := sorry
theorem w_5_188 : Cond.methodLink "LastLoaf$Reader" (201 : Nat) ({ cls := "LastLoaf$Reader", name := "partHere", desc := "()I" } : MethodName) ∈ TB := sorry
theorem w_5_189 : Cond.instanceMethod ({ cls := "LastLoaf$Reader", name := "partHere", desc := "()I" } : MethodName) ∈ TB := sorry
theorem w_5_190 : Cond.selects "LastLoaf$Reader" ({ cls := "LastLoaf$Reader", name := "partHere", desc := "()I" } : MethodName) ({ cls := "LastLoaf$Reader", name := "partHere", desc := "()I" } : MethodName) ∈ TB := sorry
theorem cr6_201 {Θ : Tz} {cc : ByteArray} {nL kc ks : Nat} {ret : Option FieldType} {rm : Room} {Q : State → Prop} {σ : St} {pc : Nat} {lv : List (Nat × Value)} {st : List Value} (C : Zc Θ cc nL RX6 ret rm) (hkd : Θ.2.2.2.2.1 = kdC) {r : Int32} (hx : q6_partHere σ = some r) (hrm : rm6_partHere.frames + 1 ≤ rm.frames ∧ 8 + (1 + 11) + rm6_partHere.locals ≤ rm.locals) (hcat : (st.map fun v => v.category).sum ≤ 8) (hk : kc ≤ rm.cells ∧ ks ≤ rm.slots) (hd : decode cc pc = .ok (.invokevirtual 201, 3)) (kk : Z Θ nL kc ks Q σ (pc + 3) lv (.int r :: st)) : Z Θ nL kc ks Q σ pc lv (.ref (zA Θ 3) :: st) := sorry
def q6_readPart (σ : St) : Option (Bool × St) :=
  Option.bind (q8_numberUpTo σ 999) fun x1_ =>
  Option.bind (if x1_ = (-1) then (Option.bind (q6_partHere σ) fun x9_ =>
  some x9_) else (some x1_)) fun x3_ =>
  if x3_ = (-1) then (some (false, σ)) else
  Option.bind (q2_emit σ 36 x3_) fun x16_ =>
  Option.bind (q8_advance x16_) fun x18_ =>
  some (true, x18_)
abbrev rm6_readPart : Room := { frames := 6, cells := 0, slots := 0, locals := 127 }
theorem c6_readPart {l : Launch} {kd : List KD} {w : Wp} {σ : St} (hkd : kd = kdC) (hi : zI kd w) {r : (Bool × St)} (hf : q6_readPart σ = some r) : zM l kd w yX6_readPart cX6_readPart 3 (some .boolean) rm6_readPart [.ref (w.2.2.1 3)] σ (some (.int (b2i r.1)), r.2) := sorry
/-! LastLoaf$Reader.readAtom -/
theorem sp_1007 : (Int16.ofInt (1007)).toInt32 = 1007 := sorry
theorem sp_1008 : (Int16.ofInt (1008)).toInt32 = 1008 := sorry
theorem w_5_187 : Cond.code ({ cls := "LastLoaf$Reader", name := "readPart", desc := "()Z" } : MethodName) prog_8_method_19_code (3 : Nat) (Option.some ClassFile.FieldType.boolean) ∈ TB := sorry
theorem w_5_184 : Cond.methodLink "LastLoaf$Reader" (195 : Nat) ({ cls := "LastLoaf$Reader", name := "readPart", desc := "()Z" } : MethodName) ∈ TB := sorry
theorem w_5_185 : Cond.instanceMethod ({ cls := "LastLoaf$Reader", name := "readPart", desc := "()Z" } : MethodName) ∈ TB := sorry
theorem w_5_186 : Cond.selects "LastLoaf$Reader" ({ cls := "LastLoaf$Reader", name := "readPart", desc := "()Z" } : MethodName) ({ cls := "LastLoaf$Reader", name := "readPart", desc := "()Z" } : MethodName) ∈ TB := sorry
theorem cr6_195 {Θ : Tz} {cc : ByteArray} {nL kc ks : Nat} {ret : Option FieldType} {rm : Room} {Q : State → Prop} {σ : St} {pc : Nat} {lv : List (Nat × Value)} {st : List Value} (C : Zc Θ cc nL RX6 ret rm) (hkd : Θ.2.2.2.2.1 = kdC) {r : Bool × St} (hx : q6_readPart σ = some r) (hrm : rm6_readPart.frames + 1 ≤ rm.frames ∧ 8 + (3 + 11) + rm6_readPart.locals ≤ rm.locals) (hcat : (st.map fun v => v.category).sum ≤ 8) (hk : kc ≤ rm.cells ∧ ks ≤ rm.slots) (hd : decode cc pc = .ok (.invokevirtual 195, 3)) (kk : Z Θ nL kc ks Q r.2 (pc + 3) lv (.int (b2i r.1) :: st)) : Z Θ nL kc ks Q σ pc lv (.ref (zA Θ 3) :: st) := sorry
theorem sp_1100 : (Int16.ofInt (1100)).toInt32 = 1100 := sorry
theorem w_5_199 : Cond.code ({ cls := "LastLoaf$Reader", name := "comparisonHere", desc := "()I" } : MethodName) prog_8_method_20_code (1 : Nat) (Option.some ClassFile.FieldType.int) ∈ TB := sorry
theorem w_5_196 : Cond.methodLink "LastLoaf$Reader" (198 : Nat) ({ cls := "LastLoaf$Reader", name := "comparisonHere", desc := "()I" } : MethodName) ∈ TB := sorry
theorem w_5_197 : Cond.instanceMethod ({ cls := "LastLoaf$Reader", name := "comparisonHere", desc := "()I" } : MethodName) ∈ TB := sorry
theorem w_5_198 : Cond.selects "LastLoaf$Reader" ({ cls := "LastLoaf$Reader", name := "comparisonHere", desc := "()I" } : MethodName) ({ cls := "LastLoaf$Reader", name := "comparisonHere", desc := "()I" } : MethodName) ∈ TB := sorry
theorem cr6_198 {Θ : Tz} {cc : ByteArray} {nL kc ks : Nat} {ret : Option FieldType} {rm : Room} {Q : State → Prop} {σ : St} {pc : Nat} {lv : List (Nat × Value)} {st : List Value} (C : Zc Θ cc nL RX6 ret rm) (hkd : Θ.2.2.2.2.1 = kdC) {r : Int32} (hx : q6_comparisonHere σ = some r) (hrm : rm6_comparisonHere.frames + 1 ≤ rm.frames ∧ 8 + (1 + 11) + rm6_comparisonHere.locals ≤ rm.locals) (hcat : (st.map fun v => v.category).sum ≤ 8) (hk : kc ≤ rm.cells ∧ ks ≤ rm.slots) (hd : decode cc pc = .ok (.invokevirtual 198, 3)) (kk : Z Θ nL kc ks Q σ (pc + 3) lv (.int r :: st)) : Z Θ nL kc ks Q σ pc lv (.ref (zA Θ 3) :: st) := sorry
def q6_readAtom (σ : St) : Option (Bool × St) :=
  Option.bind (Option.bind (q8_isWord σ 24) fun x5_ =>
  if x5_ = true then (some true) else (Option.bind (q8_isWord σ 25) fun x8_ =>
  if x8_ = true then (some true) else (some false))) fun t3_ =>
  if t3_ = true then (Option.bind (Option.bind (q8_isWord σ 24) fun x17_ =>
  if x17_ = true then (some (1007 : Int32)) else (some (1008 : Int32))) fun x12_ =>
  Option.bind (q2_emit σ 36 x12_) fun x21_ =>
  Option.bind (q8_advance x21_) fun x23_ =>
  some (true, x23_)) else
  Option.bind (loop4 (fun rec28_ (comparing31_ : Int32) (adding32_ : Bool) (parts33_ : Int32) (σ34_ : St) =>
  if parts33_ < 400 then
  Option.bind (q6_readPart σ34_) fun x43_ =>
  if ¬ (x43_.1 = true) then (some (.inl (false, x43_.2))) else
  Option.bind (if adding32_ = true then (Option.bind (q2_emit x43_.2 36 1100) fun x54_ =>
  some (x54_)) else (some (x43_.2))) fun y47_ =>
  Option.bind (q8_isSign y47_ 43) fun x56_ =>
  if (¬ (x56_ = true)) ∧ (¬ comparing31_ = (-1)) then (Option.bind (q2_emit y47_ 36 comparing31_) fun x63_ =>
  some (.inl (true, x63_))) else
  lt (fun (comparing68_ : Int32) =>
  Option.bind (q8_advance y47_) fun x79_ =>
  lt (parts33_ + 1) fun parts81_ =>
  rec28_ comparing68_ x56_ parts81_ x79_) fun k65_ =>
  if ¬ (x56_ = true) then (Option.bind (q6_comparisonHere y47_) fun x73_ =>
  if x73_ = (-1) then (some (.inl (false, y47_))) else
  k65_ x73_) else (k65_ comparing31_)
  else (some (.inr (comparing31_, adding32_, parts33_, σ34_)))) fuelN (-1 : Int32) false (0 : Int32) σ) fun y25_ =>
  Sum.elim (fun x9 => some x9) (fun y25_r =>
  some (false, y25_r.2.2.2)) y25_
abbrev rm6_readAtom : Room := { frames := 7, cells := 0, slots := 0, locals := 149 }
theorem c6_readAtom {l : Launch} {kd : List KD} {w : Wp} {σ : St} (hkd : kd = kdC) (hi : zI kd w) {r : (Bool × St)} (hf : q6_readAtom σ = some r) : zM l kd w yX6_readAtom cX6_readAtom 4 (some .boolean) rm6_readAtom [.ref (w.2.2.1 3)] σ (some (.int (b2i r.1)), r.2) := sorry
/-! LastLoaf$Reader.readCondition -/
theorem w_5_172 : Cond.code ({ cls := "LastLoaf$Reader", name := "openAtoms", desc := "()Z" } : MethodName) prog_8_method_13_code (3 : Nat) (Option.some ClassFile.FieldType.boolean) ∈ TB := sorry
theorem w_5_169 : Cond.methodLink "LastLoaf$Reader" (167 : Nat) ({ cls := "LastLoaf$Reader", name := "openAtoms", desc := "()Z" } : MethodName) ∈ TB := sorry
theorem w_5_170 : Cond.instanceMethod ({ cls := "LastLoaf$Reader", name := "openAtoms", desc := "()Z" } : MethodName) ∈ TB := sorry
theorem w_5_171 : Cond.selects "LastLoaf$Reader" ({ cls := "LastLoaf$Reader", name := "openAtoms", desc := "()Z" } : MethodName) ({ cls := "LastLoaf$Reader", name := "openAtoms", desc := "()Z" } : MethodName) ∈ TB := sorry
theorem cr6_167 {Θ : Tz} {cc : ByteArray} {nL kc ks : Nat} {ret : Option FieldType} {rm : Room} {Q : State → Prop} {σ : St} {pc : Nat} {lv : List (Nat × Value)} {st : List Value} (C : Zc Θ cc nL RX6 ret rm) (hkd : Θ.2.2.2.2.1 = kdC) {r : Bool × St} (hx : q6_openAtoms σ = some r) (hrm : rm6_openAtoms.frames + 1 ≤ rm.frames ∧ 8 + (3 + 11) + rm6_openAtoms.locals ≤ rm.locals) (hcat : (st.map fun v => v.category).sum ≤ 8) (hk : kc ≤ rm.cells ∧ ks ≤ rm.slots) (hd : decode cc pc = .ok (.invokevirtual 167, 3)) (kk : Z Θ nL kc ks Q r.2 (pc + 3) lv (.int (b2i r.1) :: st)) : Z Θ nL kc ks Q σ pc lv (.ref (zA Θ 3) :: st) := sorry
theorem w_5_181 : Cond.code ({ cls := "LastLoaf$Reader", name := "readAtom", desc := "()Z" } : MethodName) prog_8_method_18_code (4 : Nat) (Option.some ClassFile.FieldType.boolean) ∈ TB := sorry
theorem w_5_178 : Cond.methodLink "LastLoaf$Reader" (170 : Nat) ({ cls := "LastLoaf$Reader", name := "readAtom", desc := "()Z" } : MethodName) ∈ TB := sorry
theorem w_5_179 : Cond.instanceMethod ({ cls := "LastLoaf$Reader", name := "readAtom", desc := "()Z" } : MethodName) ∈ TB := sorry
theorem w_5_180 : Cond.selects "LastLoaf$Reader" ({ cls := "LastLoaf$Reader", name := "readAtom", desc := "()Z" } : MethodName) ({ cls := "LastLoaf$Reader", name := "readAtom", desc := "()Z" } : MethodName) ∈ TB := sorry
theorem cr6_170 {Θ : Tz} {cc : ByteArray} {nL kc ks : Nat} {ret : Option FieldType} {rm : Room} {Q : State → Prop} {σ : St} {pc : Nat} {lv : List (Nat × Value)} {st : List Value} (C : Zc Θ cc nL RX6 ret rm) (hkd : Θ.2.2.2.2.1 = kdC) {r : Bool × St} (hx : q6_readAtom σ = some r) (hrm : rm6_readAtom.frames + 1 ≤ rm.frames ∧ 8 + (4 + 11) + rm6_readAtom.locals ≤ rm.locals) (hcat : (st.map fun v => v.category).sum ≤ 8) (hk : kc ≤ rm.cells ∧ ks ≤ rm.slots) (hd : decode cc pc = .ok (.invokevirtual 170, 3)) (kk : Z Θ nL kc ks Q r.2 (pc + 3) lv (.int (b2i r.1) :: st)) : Z Θ nL kc ks Q σ pc lv (.ref (zA Θ 3) :: st) := sorry
theorem w_5_203 : Cond.code ({ cls := "LastLoaf$Reader", name := "closeAtoms", desc := "()V" } : MethodName) prog_8_method_14_code (2 : Nat) (Option.none : Option ClassFile.FieldType) ∈ TB := sorry
theorem w_5_200 : Cond.methodLink "LastLoaf$Reader" (173 : Nat) ({ cls := "LastLoaf$Reader", name := "closeAtoms", desc := "()V" } : MethodName) ∈ TB := sorry
theorem w_5_201 : Cond.instanceMethod ({ cls := "LastLoaf$Reader", name := "closeAtoms", desc := "()V" } : MethodName) ∈ TB := sorry
theorem w_5_202 : Cond.selects "LastLoaf$Reader" ({ cls := "LastLoaf$Reader", name := "closeAtoms", desc := "()V" } : MethodName) ({ cls := "LastLoaf$Reader", name := "closeAtoms", desc := "()V" } : MethodName) ∈ TB := sorry
theorem cr6_173 {Θ : Tz} {cc : ByteArray} {nL kc ks : Nat} {ret : Option FieldType} {rm : Room} {Q : State → Prop} {σ : St} {pc : Nat} {lv : List (Nat × Value)} {st : List Value} (C : Zc Θ cc nL RX6 ret rm) (hkd : Θ.2.2.2.2.1 = kdC) {r : St} (hx : q6_closeAtoms σ = some r) (hrm : rm6_closeAtoms.frames + 1 ≤ rm.frames ∧ 8 + (2 + 11) + rm6_closeAtoms.locals ≤ rm.locals) (hcat : (st.map fun v => v.category).sum ≤ 8) (hk : kc ≤ rm.cells ∧ ks ≤ rm.slots) (hd : decode cc pc = .ok (.invokevirtual 173, 3)) (kk : Z Θ nL kc ks Q r (pc + 3) lv st) : Z Θ nL kc ks Q σ pc lv (.ref (zA Θ 3) :: st) := sorry
def q6_readCondition (σ : St) : Option (Bool × St) :=
  lt (up σ 3 4 0) fun σ1_ =>
  lt (up σ1_ 3 5 0) fun σ3_ =>
  Option.bind (q8_advance σ3_) fun x5_ =>
  Option.bind (loop2 (fun rec10_ (atoms13_ : Int32) (σ14_ : St) =>
  if atoms13_ < 400 then
  Option.bind (Option.bind (q6_openAtoms σ14_) fun x25_ =>
  if x25_.1 = true then (Option.bind (q6_readAtom x25_.2) fun x28_ =>
  if x28_.1 = true then (some (false, x28_.2)) else (some (true, x28_.2))) else (some (true, x25_.2))) fun t23_ =>
  if t23_.1 = true then (some (.inl (false, t23_.2))) else
  Option.bind (q6_closeAtoms t23_.2) fun x32_ =>
  lt (fun (σ37_ : St) =>
  Option.bind (q8_advance σ37_) fun x65_ =>
  lt (atoms13_ + 1) fun atoms67_ =>
  rec10_ atoms67_ x65_) fun k34_ =>
  Option.bind (q8_isWord x32_ 30) fun x40_ =>
  if x40_ = true then (Option.bind (q6_emitWaiting x32_ 1103 1103) fun x44_ =>
  Option.bind (q6_waitFor x44_ 1103) fun x46_ =>
  k34_ x46_) else (Option.bind (q8_isWord x32_ 31) fun x50_ =>
  if x50_ = true then (Option.bind (q6_emitWaiting x32_ 1103 1104) fun x54_ =>
  Option.bind (q6_waitFor x54_ 1104) fun x56_ =>
  k34_ x56_) else
  Option.bind (q6_emitWaiting x32_ 1103 1104) fun x58_ =>
  some (.inl (decide ((x58_ 3 4) = 0), x58_)))
  else (some (.inr (atoms13_, σ14_)))) fuelN (0 : Int32) x5_) fun y7_ =>
  Sum.elim (fun x9 => some x9) (fun y7_r =>
  some (false, y7_r.2)) y7_
abbrev rm6_readCondition : Room := { frames := 8, cells := 0, slots := 0, locals := 172 }
theorem c6_readCondition {l : Launch} {kd : List KD} {w : Wp} {σ : St} (hkd : kd = kdC) (hi : zI kd w) {r : (Bool × St)} (hf : q6_readCondition σ = some r) : zM l kd w yX6_readCondition cX6_readCondition 2 (some .boolean) rm6_readCondition [.ref (w.2.2.1 3)] σ (some (.int (b2i r.1)), r.2) := sorry
/-! LastLoaf$Reader.readLawLine -/
theorem sp_4000 : (Int16.ofInt (4000)).toInt32 = 4000 := sorry
theorem sp_2000 : (Int16.ofInt (2000)).toInt32 = 2000 := sorry
theorem sp_3000 : (Int16.ofInt (3000)).toInt32 = 3000 := sorry
theorem w_5_168 : Cond.code ({ cls := "LastLoaf$Reader", name := "readCondition", desc := "()Z" } : MethodName) prog_8_method_12_code (2 : Nat) (Option.some ClassFile.FieldType.boolean) ∈ TB := sorry
theorem w_5_165 : Cond.methodLink "LastLoaf$Reader" (164 : Nat) ({ cls := "LastLoaf$Reader", name := "readCondition", desc := "()Z" } : MethodName) ∈ TB := sorry
theorem w_5_166 : Cond.instanceMethod ({ cls := "LastLoaf$Reader", name := "readCondition", desc := "()Z" } : MethodName) ∈ TB := sorry
theorem w_5_167 : Cond.selects "LastLoaf$Reader" ({ cls := "LastLoaf$Reader", name := "readCondition", desc := "()Z" } : MethodName) ({ cls := "LastLoaf$Reader", name := "readCondition", desc := "()Z" } : MethodName) ∈ TB := sorry
theorem cr6_164 {Θ : Tz} {cc : ByteArray} {nL kc ks : Nat} {ret : Option FieldType} {rm : Room} {Q : State → Prop} {σ : St} {pc : Nat} {lv : List (Nat × Value)} {st : List Value} (C : Zc Θ cc nL RX6 ret rm) (hkd : Θ.2.2.2.2.1 = kdC) {r : Bool × St} (hx : q6_readCondition σ = some r) (hrm : rm6_readCondition.frames + 1 ≤ rm.frames ∧ 8 + (2 + 11) + rm6_readCondition.locals ≤ rm.locals) (hcat : (st.map fun v => v.category).sum ≤ 8) (hk : kc ≤ rm.cells ∧ ks ≤ rm.slots) (hd : decode cc pc = .ok (.invokevirtual 164, 3)) (kk : Z Θ nL kc ks Q r.2 (pc + 3) lv (.int (b2i r.1) :: st)) : Z Θ nL kc ks Q σ pc lv (.ref (zA Θ 3) :: st) := sorry
def q6_readLawLine (σ : St) : Option (Bool × St) :=
  lt (fun (line4_ : Int32) (σ5_ : St) =>
  lt (fun (σ45_ : St) =>
  Option.bind (q2_emit σ45_ 36 line4_) fun x60_ =>
  some (true, x60_)) fun k42_ =>
  Option.bind (q8_isWord σ5_ 22) fun x48_ =>
  if ¬ (x48_ = true) then (Option.bind (q2_emit σ5_ 36 1) fun x52_ =>
  k42_ x52_) else (Option.bind (q6_readCondition σ5_) fun x56_ =>
  if ¬ (x56_.1 = true) then (some (false, x56_.2)) else
  k42_ x56_.2)) fun k1_ =>
  Option.bind (Option.bind (q8_isWord σ 19) fun x10_ =>
  if x10_ = true then (some true) else (Option.bind (q8_isWord σ 20) fun x13_ =>
  if x13_ = true then (some true) else (some false))) fun t8_ =>
  if t8_ = true then (Option.bind (Option.bind (q8_isWord σ 19) fun x22_ =>
  if x22_ = true then (some (2000 : Int32)) else (some (3000 : Int32))) fun x17_ =>
  Option.bind (q6_numberFollows σ 20) fun x26_ =>
  if x26_.1 = (-1) then (some (false, x26_.2)) else
  lt (x17_ + x26_.1) fun line32_ =>
  k1_ line32_ x26_.2) else (Option.bind (q8_isWord σ 21) fun x36_ =>
  if x36_ = true then (Option.bind (q8_advance σ) fun x40_ =>
  k1_ (4000 : Int32) x40_) else
  some (false, σ))
abbrev rm6_readLawLine : Room := { frames := 9, cells := 0, slots := 0, locals := 193 }
theorem c6_readLawLine {l : Launch} {kd : List KD} {w : Wp} {σ : St} (hkd : kd = kdC) (hi : zI kd w) {r : (Bool × St)} (hf : q6_readLawLine σ = some r) : zM l kd w yX6_readLawLine cX6_readLawLine 3 (some .boolean) rm6_readLawLine [.ref (w.2.2.1 3)] σ (some (.int (b2i r.1)), r.2) := sorry
/-! LastLoaf$Reader.readLaw -/
theorem w_1_209 : Cond.fieldLink "LastLoaf$Reader" (141 : Nat) "LastLoaf$Law" "length" "I" ∈ TB := sorry
theorem fp6_141 {Θ : Tz} {cc : ByteArray} {nL kc ks : Nat} {ret : Option FieldType} {rm : Room} {Q : State → Prop} {σ : St} {pc : Nat} {lv : List (Nat × Value)} {st : List Value} (C : Zc Θ cc nL RX6 ret rm) (hkd : Θ.2.2.2.2.1 = kdC) {th : Nat} (hth : isLaw th) {x : Int32} {σ1 : St} (he : σ1 = up σ th 3 x) (hd : decode cc pc = .ok (.putfield 141, 3)) (kk : Z Θ nL kc ks Q σ1 (pc + 3) lv st) : Z Θ nL kc ks Q σ pc lv (.int x :: .ref (zA Θ th) :: st) := sorry
theorem w_1_212 : Cond.fieldLink "LastLoaf$Reader" (146 : Nat) "LastLoaf$Law" "lines" "I" ∈ TB := sorry
theorem fp6_146 {Θ : Tz} {cc : ByteArray} {nL kc ks : Nat} {ret : Option FieldType} {rm : Room} {Q : State → Prop} {σ : St} {pc : Nat} {lv : List (Nat × Value)} {st : List Value} (C : Zc Θ cc nL RX6 ret rm) (hkd : Θ.2.2.2.2.1 = kdC) {th : Nat} (hth : isLaw th) {x : Int32} {σ1 : St} (he : σ1 = up σ th 4 x) (hd : decode cc pc = .ok (.putfield 146, 3)) (kk : Z Θ nL kc ks Q σ1 (pc + 3) lv st) : Z Θ nL kc ks Q σ pc lv (.int x :: .ref (zA Θ th) :: st) := sorry
theorem w_5_156 : Cond.code ({ cls := "LastLoaf$Reader", name := "readLawLine", desc := "()Z" } : MethodName) prog_8_method_11_code (3 : Nat) (Option.some ClassFile.FieldType.boolean) ∈ TB := sorry
theorem w_5_153 : Cond.methodLink "LastLoaf$Reader" (149 : Nat) ({ cls := "LastLoaf$Reader", name := "readLawLine", desc := "()Z" } : MethodName) ∈ TB := sorry
theorem w_5_154 : Cond.instanceMethod ({ cls := "LastLoaf$Reader", name := "readLawLine", desc := "()Z" } : MethodName) ∈ TB := sorry
theorem w_5_155 : Cond.selects "LastLoaf$Reader" ({ cls := "LastLoaf$Reader", name := "readLawLine", desc := "()Z" } : MethodName) ({ cls := "LastLoaf$Reader", name := "readLawLine", desc := "()Z" } : MethodName) ∈ TB := sorry
theorem cr6_149 {Θ : Tz} {cc : ByteArray} {nL kc ks : Nat} {ret : Option FieldType} {rm : Room} {Q : State → Prop} {σ : St} {pc : Nat} {lv : List (Nat × Value)} {st : List Value} (C : Zc Θ cc nL RX6 ret rm) (hkd : Θ.2.2.2.2.1 = kdC) {r : Bool × St} (hx : q6_readLawLine σ = some r) (hrm : rm6_readLawLine.frames + 1 ≤ rm.frames ∧ 8 + (3 + 11) + rm6_readLawLine.locals ≤ rm.locals) (hcat : (st.map fun v => v.category).sum ≤ 8) (hk : kc ≤ rm.cells ∧ ks ≤ rm.slots) (hd : decode cc pc = .ok (.invokevirtual 149, 3)) (kk : Z Θ nL kc ks Q r.2 (pc + 3) lv (.int (b2i r.1) :: st)) : Z Θ nL kc ks Q σ pc lv (.ref (zA Θ 3) :: st) := sorry
theorem fg6_146 {Θ : Tz} {cc : ByteArray} {nL kc ks : Nat} {ret : Option FieldType} {rm : Room} {Q : State → Prop} {σ : St} {pc : Nat} {lv : List (Nat × Value)} {st : List Value} (C : Zc Θ cc nL RX6 ret rm) (hkd : Θ.2.2.2.2.1 = kdC) {th : Nat} (hth : isLaw th) (hd : decode cc pc = .ok (.getfield 146, 3)) (kk : Z Θ nL kc ks Q σ (pc + 3) lv (.int (σ th 4) :: st)) : Z Θ nL kc ks Q σ pc lv (.ref (zA Θ th) :: st) := sorry
def q6_readLaw (σ : St) : Option (Bool × St) :=
  lt (up σ 36 3 0) fun σ1_ =>
  lt (up σ1_ 36 4 0) fun σ3_ =>
  Option.bind (q8_open σ3_) fun x5_ =>
  if q8_isAtEnd x5_ = true then (some (true, x5_)) else
  Option.bind (loop2 (fun rec14_ (lines17_ : Int32) (σ18_ : St) =>
  if lines17_ < 12 then
  Option.bind (q6_readLawLine σ18_) fun x27_ =>
  if ¬ (x27_.1 = true) then (some (.inl (false, x27_.2))) else
  lt (up x27_.2 36 4 ((x27_.2 36 4) + 1)) fun σ31_ =>
  if q8_isAtEnd σ31_ = true then (some (.inl (true, σ31_))) else
  Option.bind (q8_isSign σ31_ 59) fun x39_ =>
  if ¬ (x39_ = true) then (some (.inl (false, σ31_))) else
  Option.bind (q8_advance σ31_) fun x43_ =>
  lt (lines17_ + 1) fun lines45_ =>
  rec14_ lines45_ x43_
  else (some (.inr (lines17_, σ18_)))) fuelN (0 : Int32) x5_) fun y11_ =>
  Sum.elim (fun x9 => some x9) (fun y11_r =>
  some (false, y11_r.2)) y11_
abbrev rm6_readLaw : Room := { frames := 10, cells := 0, slots := 0, locals := 215 }
theorem c6_readLaw {l : Launch} {kd : List KD} {w : Wp} {σ : St} (hkd : kd = kdC) (hi : zI kd w) {r : (Bool × St)} (hf : q6_readLaw σ = some r) : zM l kd w yX6_readLaw cX6_readLaw 2 (some .boolean) rm6_readLaw [.ref (w.2.2.1 3)] σ (some (.int (b2i r.1)), r.2) := sorry
/-! LastLoaf.law -/
theorem w_5_152 : Cond.code ({ cls := "LastLoaf$Reader", name := "readLaw", desc := "()Z" } : MethodName) prog_8_method_10_code (2 : Nat) (Option.some ClassFile.FieldType.boolean) ∈ TB := sorry
theorem w_5_149 : Cond.methodLink "LastLoaf" (140 : Nat) ({ cls := "LastLoaf$Reader", name := "readLaw", desc := "()Z" } : MethodName) ∈ TB := sorry
theorem w_5_150 : Cond.instanceMethod ({ cls := "LastLoaf$Reader", name := "readLaw", desc := "()Z" } : MethodName) ∈ TB := sorry
theorem w_5_151 : Cond.selects "LastLoaf$Reader" ({ cls := "LastLoaf$Reader", name := "readLaw", desc := "()Z" } : MethodName) ({ cls := "LastLoaf$Reader", name := "readLaw", desc := "()Z" } : MethodName) ∈ TB := sorry
theorem cr11_140 {Θ : Tz} {cc : ByteArray} {nL kc ks : Nat} {ret : Option FieldType} {rm : Room} {Q : State → Prop} {σ : St} {pc : Nat} {lv : List (Nat × Value)} {st : List Value} (C : Zc Θ cc nL RX11 ret rm) (hkd : Θ.2.2.2.2.1 = kdC) {r : Bool × St} (hx : q6_readLaw σ = some r) (hrm : rm6_readLaw.frames + 1 ≤ rm.frames ∧ 8 + (2 + 11) + rm6_readLaw.locals ≤ rm.locals) (hcat : (st.map fun v => v.category).sum ≤ 8) (hk : kc ≤ rm.cells ∧ ks ≤ rm.slots) (hd : decode cc pc = .ok (.invokevirtual 140, 3)) (kk : Z Θ nL kc ks Q r.2 (pc + 3) lv (.int (b2i r.1) :: st)) : Z Θ nL kc ks Q σ pc lv (.ref (zA Θ 3) :: st) := sorry
theorem w_2_190 : Cond.fieldLink "LastLoaf" (29 : Nat) "LastLoaf" "lawNow" "LLastLoaf$Law;" ∈ TB := sorry
theorem fg11_29 {Θ : Tz} {cc : ByteArray} {nL kc ks : Nat} {ret : Option FieldType} {rm : Room} {Q : State → Prop} {σ : St} {pc : Nat} {lv : List (Nat × Value)} {st : List Value} (C : Zc Θ cc nL RX11 ret rm) (hkd : Θ.2.2.2.2.1 = kdC) (hd : decode cc pc = .ok (.getfield 29, 3)) (kk : Z Θ nL kc ks Q σ (pc + 3) lv (.ref (zA Θ 32) :: st)) : Z Θ nL kc ks Q σ pc lv (.ref (zA Θ 0) :: st) := sorry
theorem w_2_191 : Cond.fieldLink "LastLoaf" (33 : Nat) "LastLoaf" "draft" "LLastLoaf$Law;" ∈ TB := sorry
theorem fg11_33 {Θ : Tz} {cc : ByteArray} {nL kc ks : Nat} {ret : Option FieldType} {rm : Room} {Q : State → Prop} {σ : St} {pc : Nat} {lv : List (Nat × Value)} {st : List Value} (C : Zc Θ cc nL RX11 ret rm) (hkd : Θ.2.2.2.2.1 = kdC) (hd : decode cc pc = .ok (.getfield 33, 3)) (kk : Z Θ nL kc ks Q σ (pc + 3) lv (.ref (zA Θ 36) :: st)) : Z Θ nL kc ks Q σ pc lv (.ref (zA Θ 0) :: st) := sorry
theorem w_4_135 : Cond.code ({ cls := "LastLoaf$Law", name := "become", desc := "(LLastLoaf$Law;)V" } : MethodName) prog_4_method_2_code (2 : Nat) (Option.none : Option ClassFile.FieldType) ∈ TB := sorry
theorem w_4_132 : Cond.methodLink "LastLoaf" (145 : Nat) ({ cls := "LastLoaf$Law", name := "become", desc := "(LLastLoaf$Law;)V" } : MethodName) ∈ TB := sorry
theorem w_4_133 : Cond.instanceMethod ({ cls := "LastLoaf$Law", name := "become", desc := "(LLastLoaf$Law;)V" } : MethodName) ∈ TB := sorry
theorem w_4_134 : Cond.selects "LastLoaf$Law" ({ cls := "LastLoaf$Law", name := "become", desc := "(LLastLoaf$Law;)V" } : MethodName) ({ cls := "LastLoaf$Law", name := "become", desc := "(LLastLoaf$Law;)V" } : MethodName) ∈ TB := sorry
theorem cr11_145 {Θ : Tz} {cc : ByteArray} {nL kc ks : Nat} {ret : Option FieldType} {rm : Room} {Q : State → Prop} {σ : St} {pc : Nat} {lv : List (Nat × Value)} {st : List Value} (C : Zc Θ cc nL RX11 ret rm) (hkd : Θ.2.2.2.2.1 = kdC) {th : Nat} {other_a : Nat} (hth : isLaw th) (h_other : isLaw other_a) {r : St} (hx : q2_become σ th other_a = some r) (hrm : rm2_become.frames + 1 ≤ rm.frames ∧ 8 + (2 + 11) + rm2_become.locals ≤ rm.locals) (hcat : (st.map fun v => v.category).sum ≤ 8) (hk : kc ≤ rm.cells ∧ ks ≤ rm.slots) (hd : decode cc pc = .ok (.invokevirtual 145, 3)) (kk : Z Θ nL kc ks Q r (pc + 3) lv st) : Z Θ nL kc ks Q σ pc lv (.ref (zA Θ other_a) :: .ref (zA Θ th) :: st) := sorry
theorem w_1_211 : Cond.fieldLink "LastLoaf" (148 : Nat) "LastLoaf$Law" "lines" "I" ∈ TB := sorry
theorem fg11_148 {Θ : Tz} {cc : ByteArray} {nL kc ks : Nat} {ret : Option FieldType} {rm : Room} {Q : State → Prop} {σ : St} {pc : Nat} {lv : List (Nat × Value)} {st : List Value} (C : Zc Θ cc nL RX11 ret rm) (hkd : Θ.2.2.2.2.1 = kdC) {th : Nat} (hth : isLaw th) (hd : decode cc pc = .ok (.getfield 148, 3)) (kk : Z Θ nL kc ks Q σ (pc + 3) lv (.int (σ th 4) :: st)) : Z Θ nL kc ks Q σ pc lv (.ref (zA Θ th) :: st) := sorry
def q11_law (σ : St) : Option (Sum Nat Int32 × St) :=
  Option.bind (q6_readLaw σ) fun x1_ =>
  Option.bind (q11_closeText x1_.2 x1_.1) fun x3_ =>
  if ¬ (x1_.1 = true) then (some (.inl 0, x3_)) else
  Option.bind (q2_become x3_ 32 36) fun x9_ =>
  Option.bind (q4_forget x9_) fun x11_ =>
  some (.inr (x11_ 32 4), x11_)
abbrev rm11_law : Room := { frames := 11, cells := 1, slots := 6, locals := 236 }
theorem c11_law {l : Launch} {kd : List KD} {w : Wp} {σ : St} (hkd : kd = kdC) (hi : zI kd w) (hlt : l.stackTraces = false) {r : (Sum Nat Int32 × St)} (hf : q11_law σ = some r) : zX l kd w yX11_law cX11_law 2 (some .int) rm11_law [.ref (w.2.2.1 0)] σ (om (fun v => some (.int v)) r) 1 6 := sorry
/-! LastLoaf.fault -/
theorem fg11_99 {Θ : Tz} {cc : ByteArray} {nL kc ks : Nat} {ret : Option FieldType} {rm : Room} {Q : State → Prop} {σ : St} {pc : Nat} {lv : List (Nat × Value)} {st : List Value} (C : Zc Θ cc nL RX11 ret rm) (hkd : Θ.2.2.2.2.1 = kdC) (hd : decode cc pc = .ok (.getfield 99, 3)) (kk : Z Θ nL kc ks Q σ (pc + 3) lv (.int (σ 0 15) :: st)) : Z Θ nL kc ks Q σ pc lv (.ref (zA Θ 0) :: st) := sorry
def q11_fault (σ : St) : Int32 :=
  σ 0 15
abbrev rm11_fault : Room := { frames := 0, cells := 0, slots := 0, locals := 0 }
theorem c11_fault {l : Launch} {kd : List KD} {w : Wp} {σ : St} (hkd : kd = kdC) (hi : zI kd w) : zM l kd w yX11_fault cX11_fault 1 (some .int) rm11_fault [.ref (w.2.2.1 0)] σ (some (.int (q11_fault σ)), σ) := sorry
/-! LastLoaf.isIn -/
def q11_isIn (set_a : Int32) (person_a : Int32) : Bool :=
  decide (((shr set_a person_a) &&& 1) = 1)
abbrev rm11_isIn : Room := { frames := 0, cells := 0, slots := 0, locals := 0 }
theorem c11_isIn {l : Launch} {kd : List KD} {w : Wp} {σ : St} {set_a : Int32} {person_a : Int32} (hkd : kd = kdC) (hi : zI kd w) : zM l kd w yX11_isIn cX11_isIn 2 (some .boolean) rm11_isIn [.int set_a, .int person_a] σ (some (.int (b2i (q11_isIn set_a person_a))), σ) := sorry
/-! LastLoaf.needPerson -/
theorem w_1_130 : Cond.fieldLink "LastLoaf" (355 : Nat) "LastLoaf$Village" "people" "I" ∈ TB := sorry
theorem fg11_355 {Θ : Tz} {cc : ByteArray} {nL kc ks : Nat} {ret : Option FieldType} {rm : Room} {Q : State → Prop} {σ : St} {pc : Nat} {lv : List (Nat × Value)} {st : List Value} (C : Zc Θ cc nL RX11 ret rm) (hkd : Θ.2.2.2.2.1 = kdC) {th : Nat} (hth : isV th) (hd : decode cc pc = .ok (.getfield 355, 3)) (kk : Z Θ nL kc ks Q σ (pc + 3) lv (.int (σ th 8) :: st)) : Z Θ nL kc ks Q σ pc lv (.ref (zA Θ th) :: st) := sorry
theorem th11_2_227g : ∀ w ∈ (vx_atS RX11 227 (exn 2) ["java/lang/RuntimeException", "java/lang/Exception"]).filter goodWord, w ∈ TB := sorry
theorem th11_2_227n : ∀ w ∈ (vx_atS RX11 227 (exn 2) ["java/lang/RuntimeException", "java/lang/Exception"]).filter (fun w => !goodWord w), w ∈ nestW := sorry
theorem th11_2_227o : ∀ w ∈ Cond.classLink RX11 223 (exn 2) :: Cond.initialized (exn 2) :: vx_atS RX11 227 (exn 2) ["java/lang/RuntimeException", "java/lang/Exception"], vx_ot w = true := sorry
theorem w_5_228 : Cond.classLink "LastLoaf" (223 : Nat) "java/lang/IndexOutOfBoundsException" ∈ TB := sorry
theorem w_1_25 : Cond.initialized "java/lang/IndexOutOfBoundsException" ∈ TB := sorry
def q11_needPerson (σ : St) (person_a : Int32) : Option Nat :=
  if (person_a < 0) ∨ ((σ 44 8) ≤ person_a) then (some 2) else
  none
abbrev rm11_needPerson : Room := { frames := 6, cells := 1, slots := 6, locals := 90 }
theorem c11_needPerson {l : Launch} {kd : List KD} {w : Wp} {σ : St} {person_a : Int32} (hkd : kd = kdC) (hi : zI kd w) (hlt : l.stackTraces = false) : zX l kd w yX11_needPerson cX11_needPerson 2 none rm11_needPerson [.ref (w.2.2.1 0), .int person_a] σ (omN (q11_needPerson σ person_a) σ) 1 6 := sorry
/-! LastLoaf$Law.hold -/
theorem w_1_214 : Cond.fieldLink "LastLoaf$Law" (31 : Nat) "LastLoaf$Law" "abstains" "Z" ∈ TB := sorry
theorem fp2_31 {Θ : Tz} {cc : ByteArray} {nL kc ks : Nat} {ret : Option FieldType} {rm : Room} {Q : State → Prop} {σ : St} {pc : Nat} {lv : List (Nat × Value)} {st : List Value} (C : Zc Θ cc nL RX2 ret rm) (hkd : Θ.2.2.2.2.1 = kdC) {th : Nat} (hth : isLaw th) {b : Bool} {σ1 : St} (he : σ1 = up σ th 6 (b2i b)) (hd : decode cc pc = .ok (.putfield 31, 3)) (kk : Z Θ nL kc ks Q σ1 (pc + 3) lv st) : Z Θ nL kc ks Q σ pc lv (.int (b2i b) :: .ref (zA Θ th) :: st) := sorry
theorem w_1_213 : Cond.fieldLink "LastLoaf$Law" (28 : Nat) "LastLoaf$Law" "swayed" "I" ∈ TB := sorry
theorem fg2_28 {Θ : Tz} {cc : ByteArray} {nL kc ks : Nat} {ret : Option FieldType} {rm : Room} {Q : State → Prop} {σ : St} {pc : Nat} {lv : List (Nat × Value)} {st : List Value} (C : Zc Θ cc nL RX2 ret rm) (hkd : Θ.2.2.2.2.1 = kdC) {th : Nat} (hth : isLaw th) (hd : decode cc pc = .ok (.getfield 28, 3)) (kk : Z Θ nL kc ks Q σ (pc + 3) lv (.int (σ th 5) :: st)) : Z Θ nL kc ks Q σ pc lv (.ref (zA Θ th) :: st) := sorry
theorem fp2_28 {Θ : Tz} {cc : ByteArray} {nL kc ks : Nat} {ret : Option FieldType} {rm : Room} {Q : State → Prop} {σ : St} {pc : Nat} {lv : List (Nat × Value)} {st : List Value} (C : Zc Θ cc nL RX2 ret rm) (hkd : Θ.2.2.2.2.1 = kdC) {th : Nat} (hth : isLaw th) {x : Int32} {σ1 : St} (he : σ1 = up σ th 5 x) (hd : decode cc pc = .ok (.putfield 28, 3)) (kk : Z Θ nL kc ks Q σ1 (pc + 3) lv st) : Z Θ nL kc ks Q σ pc lv (.int x :: .ref (zA Θ th) :: st) := sorry
def q2_hold (σ : St) (th : Nat) (line_a : Int32) : Option St :=
  lt (if 4000 ≤ line_a then (lt (up σ th 6 (b2i true)) fun σ8_ =>
  σ8_) else (lt (if 3000 ≤ line_a then (lt (up σ th 5 ((σ th 5) - (line_a - 3000))) fun σ17_ =>
  σ17_) else (lt (up σ th 5 ((σ th 5) + (line_a - 2000))) fun σ19_ =>
  σ19_)) fun y10_ =>
  y10_)) fun y1_ =>
  some y1_
abbrev rm2_hold : Room := { frames := 0, cells := 0, slots := 0, locals := 0 }
theorem c2_hold {l : Launch} {kd : List KD} {w : Wp} {σ : St} {th : Nat} {line_a : Int32} (hkd : kd = kdC) (hi : zI kd w) (hth : isLaw th) {r : St} (hf : q2_hold σ th line_a = some r) : zM l kd w yX2_hold cX2_hold 2 none rm2_hold [.ref (w.2.2.1 th), .int line_a] σ (none, r) := sorry
/-! LastLoaf$Law.joined -/
def q2_joined (sign_a : Int32) (first_a : Int32) (second_a : Int32) : Int32 :=
  if sign_a = 1100 then (first_a + second_a) else
  if sign_a = 1101 then (if first_a < second_a then 1 else 0) else
  if sign_a = 1102 then (if second_a < first_a then 1 else 0) else
  if sign_a = 1103 then (first_a &&& second_a) else
  first_a ||| second_a
abbrev rm2_joined : Room := { frames := 0, cells := 0, slots := 0, locals := 0 }
theorem c2_joined {l : Launch} {kd : List KD} {w : Wp} {σ : St} {sign_a : Int32} {first_a : Int32} {second_a : Int32} (hkd : kd = kdC) (hi : zI kd w) : zM l kd w yX2_joined cX2_joined 3 (some .int) rm2_joined [.int sign_a, .int first_a, .int second_a] σ (some (.int (q2_joined sign_a first_a second_a)), σ) := sorry
/-! LastLoaf$Village.areOfOneParty -/
def q10_areOfOneParty (σ : St) (th : Nat) (person_a : Int32) (other_a : Int32) : Option Bool :=
  Option.bind (Option.bind (Option.bind (ag σ (th + 2) 6 person_a) fun x8_ =>
  Option.bind (ag σ (th + 2) 6 other_a) fun x10_ =>
  if x8_ = x10_ then (Option.bind (ag σ (th + 2) 6 person_a) fun x13_ =>
  if ¬ x13_ = 2 then (some true) else (some false)) else (some false)) fun t6_ =>
  if t6_ = true then (some true) else (some false)) fun x1_ =>
  some x1_
abbrev rm10_areOfOneParty : Room := { frames := 0, cells := 0, slots := 0, locals := 0 }
theorem c10_areOfOneParty {l : Launch} {kd : List KD} {w : Wp} {σ : St} {th : Nat} {person_a : Int32} {other_a : Int32} (hkd : kd = kdC) (hi : zI kd w) (hth : isV th) {r : Bool} (hf : q10_areOfOneParty σ th person_a other_a = some r) : zM l kd w yX10_areOfOneParty cX10_areOfOneParty 3 (some .boolean) rm10_areOfOneParty [.ref (w.2.2.1 th), .int person_a, .int other_a] σ (some (.int (b2i r)), σ) := sorry
/-! LastLoaf$Village.likingOf -/
def q10_likingOf (σ : St) (th : Nat) (person_a : Int32) (other_a : Int32) : Option Int32 :=
  Option.bind (if person_a = other_a then (some (9 : Int32)) else (Option.bind (ag σ (th + 6) 36 ((person_a * 6) + other_a)) fun x7_ =>
  some x7_)) fun x1_ =>
  some x1_
abbrev rm10_likingOf : Room := { frames := 0, cells := 0, slots := 0, locals := 0 }
theorem c10_likingOf {l : Launch} {kd : List KD} {w : Wp} {σ : St} {th : Nat} {person_a : Int32} {other_a : Int32} (hkd : kd = kdC) (hi : zI kd w) (hth : isV th) {r : Int32} (hf : q10_likingOf σ th person_a other_a = some r) : zM l kd w yX10_likingOf cX10_likingOf 3 (some .int) rm10_likingOf [.ref (w.2.2.1 th), .int person_a, .int other_a] σ (some (.int r), σ) := sorry
/-! LastLoaf$Law.weigh -/
theorem w_1_207 : Cond.fieldLink "LastLoaf$Law" (18 : Nat) "LastLoaf$Law" "parts" "[I" ∈ TB := sorry
theorem fg2_18 {Θ : Tz} {cc : ByteArray} {nL kc ks : Nat} {ret : Option FieldType} {rm : Room} {Q : State → Prop} {σ : St} {pc : Nat} {lv : List (Nat × Value)} {st : List Value} (C : Zc Θ cc nL RX2 ret rm) (hkd : Θ.2.2.2.2.1 = kdC) {th : Nat} (hth : isLaw th) (hd : decode cc pc = .ok (.getfield 18, 3)) (kk : Z Θ nL kc ks Q σ (pc + 3) lv (.ref (zA Θ (th + 3)) :: st)) : Z Θ nL kc ks Q σ pc lv (.ref (zA Θ th) :: st) := sorry
theorem w_3_48 : Cond.code ({ cls := "LastLoaf$Village", name := "likingOf", desc := "(II)I" } : MethodName) prog_12_method_6_code (3 : Nat) (Option.some ClassFile.FieldType.int) ∈ TB := sorry
theorem w_3_45 : Cond.methodLink "LastLoaf$Law" (41 : Nat) ({ cls := "LastLoaf$Village", name := "likingOf", desc := "(II)I" } : MethodName) ∈ TB := sorry
theorem w_3_46 : Cond.instanceMethod ({ cls := "LastLoaf$Village", name := "likingOf", desc := "(II)I" } : MethodName) ∈ TB := sorry
theorem w_3_47 : Cond.selects "LastLoaf$Village" ({ cls := "LastLoaf$Village", name := "likingOf", desc := "(II)I" } : MethodName) ({ cls := "LastLoaf$Village", name := "likingOf", desc := "(II)I" } : MethodName) ∈ TB := sorry
theorem cr2_41 {Θ : Tz} {cc : ByteArray} {nL kc ks : Nat} {ret : Option FieldType} {rm : Room} {Q : State → Prop} {σ : St} {pc : Nat} {lv : List (Nat × Value)} {st : List Value} (C : Zc Θ cc nL RX2 ret rm) (hkd : Θ.2.2.2.2.1 = kdC) {th : Nat} {person_a : Int32} {other_a : Int32} (hth : isV th) {r : Int32} (hx : q10_likingOf σ th person_a other_a = some r) (hrm : rm10_likingOf.frames + 1 ≤ rm.frames ∧ 8 + (3 + 11) + rm10_likingOf.locals ≤ rm.locals) (hcat : (st.map fun v => v.category).sum ≤ 8) (hk : kc ≤ rm.cells ∧ ks ≤ rm.slots) (hd : decode cc pc = .ok (.invokevirtual 41, 3)) (kk : Z Θ nL kc ks Q σ (pc + 3) lv (.int r :: st)) : Z Θ nL kc ks Q σ pc lv (.int other_a :: .int person_a :: .ref (zA Θ th) :: st) := sorry
theorem w_1_95 : Cond.fieldLink "LastLoaf$Law" (55 : Nat) "LastLoaf$Village" "hunger" "[I" ∈ TB := sorry
theorem fg2_55 {Θ : Tz} {cc : ByteArray} {nL kc ks : Nat} {ret : Option FieldType} {rm : Room} {Q : State → Prop} {σ : St} {pc : Nat} {lv : List (Nat × Value)} {st : List Value} (C : Zc Θ cc nL RX2 ret rm) (hkd : Θ.2.2.2.2.1 = kdC) {th : Nat} (hth : isV th) (hd : decode cc pc = .ok (.getfield 55, 3)) (kk : Z Θ nL kc ks Q σ (pc + 3) lv (.ref (zA Θ (th + 1)) :: st)) : Z Θ nL kc ks Q σ pc lv (.ref (zA Θ th) :: st) := sorry
theorem w_1_106 : Cond.fieldLink "LastLoaf$Law" (58 : Nat) "LastLoaf$Village" "had" "[I" ∈ TB := sorry
theorem fg2_58 {Θ : Tz} {cc : ByteArray} {nL kc ks : Nat} {ret : Option FieldType} {rm : Room} {Q : State → Prop} {σ : St} {pc : Nat} {lv : List (Nat × Value)} {st : List Value} (C : Zc Θ cc nL RX2 ret rm) (hkd : Θ.2.2.2.2.1 = kdC) {th : Nat} (hth : isV th) (hd : decode cc pc = .ok (.getfield 58, 3)) (kk : Z Θ nL kc ks Q σ (pc + 3) lv (.ref (zA Θ (th + 4)) :: st)) : Z Θ nL kc ks Q σ pc lv (.ref (zA Θ th) :: st) := sorry
theorem w_1_110 : Cond.fieldLink "LastLoaf$Law" (61 : Nat) "LastLoaf$Village" "run" "[I" ∈ TB := sorry
theorem fg2_61 {Θ : Tz} {cc : ByteArray} {nL kc ks : Nat} {ret : Option FieldType} {rm : Room} {Q : State → Prop} {σ : St} {pc : Nat} {lv : List (Nat × Value)} {st : List Value} (C : Zc Θ cc nL RX2 ret rm) (hkd : Θ.2.2.2.2.1 = kdC) {th : Nat} (hth : isV th) (hd : decode cc pc = .ok (.getfield 61, 3)) (kk : Z Θ nL kc ks Q σ (pc + 3) lv (.ref (zA Θ (th + 5)) :: st)) : Z Θ nL kc ks Q σ pc lv (.ref (zA Θ th) :: st) := sorry
theorem w_1_102 : Cond.fieldLink "LastLoaf$Law" (64 : Nat) "LastLoaf$Village" "skin" "[I" ∈ TB := sorry
theorem fg2_64 {Θ : Tz} {cc : ByteArray} {nL kc ks : Nat} {ret : Option FieldType} {rm : Room} {Q : State → Prop} {σ : St} {pc : Nat} {lv : List (Nat × Value)} {st : List Value} (C : Zc Θ cc nL RX2 ret rm) (hkd : Θ.2.2.2.2.1 = kdC) {th : Nat} (hth : isV th) (hd : decode cc pc = .ok (.getfield 64, 3)) (kk : Z Θ nL kc ks Q σ (pc + 3) lv (.ref (zA Θ (th + 3)) :: st)) : Z Θ nL kc ks Q σ pc lv (.ref (zA Θ th) :: st) := sorry
theorem w_3_52 : Cond.code ({ cls := "LastLoaf$Village", name := "areOfOneParty", desc := "(II)Z" } : MethodName) prog_12_method_7_code (3 : Nat) (Option.some ClassFile.FieldType.boolean) ∈ TB := sorry
theorem w_3_49 : Cond.methodLink "LastLoaf$Law" (47 : Nat) ({ cls := "LastLoaf$Village", name := "areOfOneParty", desc := "(II)Z" } : MethodName) ∈ TB := sorry
theorem w_3_50 : Cond.instanceMethod ({ cls := "LastLoaf$Village", name := "areOfOneParty", desc := "(II)Z" } : MethodName) ∈ TB := sorry
theorem w_3_51 : Cond.selects "LastLoaf$Village" ({ cls := "LastLoaf$Village", name := "areOfOneParty", desc := "(II)Z" } : MethodName) ({ cls := "LastLoaf$Village", name := "areOfOneParty", desc := "(II)Z" } : MethodName) ∈ TB := sorry
theorem cr2_47 {Θ : Tz} {cc : ByteArray} {nL kc ks : Nat} {ret : Option FieldType} {rm : Room} {Q : State → Prop} {σ : St} {pc : Nat} {lv : List (Nat × Value)} {st : List Value} (C : Zc Θ cc nL RX2 ret rm) (hkd : Θ.2.2.2.2.1 = kdC) {th : Nat} {person_a : Int32} {other_a : Int32} (hth : isV th) {r : Bool} (hx : q10_areOfOneParty σ th person_a other_a = some r) (hrm : rm10_areOfOneParty.frames + 1 ≤ rm.frames ∧ 8 + (3 + 11) + rm10_areOfOneParty.locals ≤ rm.locals) (hcat : (st.map fun v => v.category).sum ≤ 8) (hk : kc ≤ rm.cells ∧ ks ≤ rm.slots) (hd : decode cc pc = .ok (.invokevirtual 47, 3)) (kk : Z Θ nL kc ks Q σ (pc + 3) lv (.int (b2i r) :: st)) : Z Θ nL kc ks Q σ pc lv (.int other_a :: .int person_a :: .ref (zA Θ th) :: st) := sorry
theorem w_1_135 : Cond.fieldLink "LastLoaf$Law" (67 : Nat) "LastLoaf$Village" "standing" "I" ∈ TB := sorry
theorem fg2_67 {Θ : Tz} {cc : ByteArray} {nL kc ks : Nat} {ret : Option FieldType} {rm : Room} {Q : State → Prop} {σ : St} {pc : Nat} {lv : List (Nat × Value)} {st : List Value} (C : Zc Θ cc nL RX2 ret rm) (hkd : Θ.2.2.2.2.1 = kdC) {th : Nat} (hth : isV th) (hd : decode cc pc = .ok (.getfield 67, 3)) (kk : Z Θ nL kc ks Q σ (pc + 3) lv (.int (σ th 9) :: st)) : Z Θ nL kc ks Q σ pc lv (.ref (zA Θ th) :: st) := sorry
theorem w_3_36 : Cond.code ({ cls := "LastLoaf", name := "isIn", desc := "(II)Z" } : MethodName) prog_1_method_65_code (2 : Nat) (Option.some ClassFile.FieldType.boolean) ∈ TB := sorry
theorem w_3_35 : Cond.static ({ cls := "LastLoaf", name := "isIn", desc := "(II)Z" } : MethodName) ∈ TB := sorry
theorem cr2_70 {Θ : Tz} {cc : ByteArray} {nL kc ks : Nat} {ret : Option FieldType} {rm : Room} {Q : State → Prop} {σ : St} {pc : Nat} {lv : List (Nat × Value)} {st : List Value} (C : Zc Θ cc nL RX2 ret rm) (hkd : Θ.2.2.2.2.1 = kdC) {set_a : Int32} {person_a : Int32} (hrm : rm11_isIn.frames + 1 ≤ rm.frames ∧ 8 + (2 + 11) + rm11_isIn.locals ≤ rm.locals) (hcat : (st.map fun v => v.category).sum ≤ 8) (hk : kc ≤ rm.cells ∧ ks ≤ rm.slots) (hd : decode cc pc = .ok (.invokestatic 70, 3)) (kk : Z Θ nL kc ks Q σ (pc + 3) lv (.int (b2i (q11_isIn set_a person_a)) :: st)) : Z Θ nL kc ks Q σ pc lv (.int person_a :: .int set_a :: st) := sorry
theorem sp_1009 : (Int16.ofInt (1009)).toInt32 = 1009 := sorry
theorem w_1_206 : Cond.fieldLink "LastLoaf$Law" (15 : Nat) "LastLoaf$Law" "stack" "[I" ∈ TB := sorry
theorem fg2_15 {Θ : Tz} {cc : ByteArray} {nL kc ks : Nat} {ret : Option FieldType} {rm : Room} {Q : State → Prop} {σ : St} {pc : Nat} {lv : List (Nat × Value)} {st : List Value} (C : Zc Θ cc nL RX2 ret rm) (hkd : Θ.2.2.2.2.1 = kdC) {th : Nat} (hth : isLaw th) (hd : decode cc pc = .ok (.getfield 15, 3)) (kk : Z Θ nL kc ks Q σ (pc + 3) lv (.ref (zA Θ (th + 2)) :: st)) : Z Θ nL kc ks Q σ pc lv (.ref (zA Θ th) :: st) := sorry
theorem w_3_57 : Cond.code ({ cls := "LastLoaf$Law", name := "hold", desc := "(I)V" } : MethodName) prog_4_method_7_code (2 : Nat) (Option.none : Option ClassFile.FieldType) ∈ TB := sorry
theorem w_3_54 : Cond.methodLink "LastLoaf$Law" (73 : Nat) ({ cls := "LastLoaf$Law", name := "hold", desc := "(I)V" } : MethodName) ∈ TB := sorry
theorem w_3_55 : Cond.instanceMethod ({ cls := "LastLoaf$Law", name := "hold", desc := "(I)V" } : MethodName) ∈ TB := sorry
theorem w_3_56 : Cond.selects "LastLoaf$Law" ({ cls := "LastLoaf$Law", name := "hold", desc := "(I)V" } : MethodName) ({ cls := "LastLoaf$Law", name := "hold", desc := "(I)V" } : MethodName) ∈ TB := sorry
theorem cr2_73 {Θ : Tz} {cc : ByteArray} {nL kc ks : Nat} {ret : Option FieldType} {rm : Room} {Q : State → Prop} {σ : St} {pc : Nat} {lv : List (Nat × Value)} {st : List Value} (C : Zc Θ cc nL RX2 ret rm) (hkd : Θ.2.2.2.2.1 = kdC) {th : Nat} {line_a : Int32} (hth : isLaw th) {r : St} (hx : q2_hold σ th line_a = some r) (hrm : rm2_hold.frames + 1 ≤ rm.frames ∧ 8 + (2 + 11) + rm2_hold.locals ≤ rm.locals) (hcat : (st.map fun v => v.category).sum ≤ 8) (hk : kc ≤ rm.cells ∧ ks ≤ rm.slots) (hd : decode cc pc = .ok (.invokevirtual 73, 3)) (kk : Z Θ nL kc ks Q r (pc + 3) lv st) : Z Θ nL kc ks Q σ pc lv (.int line_a :: .ref (zA Θ th) :: st) := sorry
theorem w_3_60 : Cond.code ({ cls := "LastLoaf$Law", name := "joined", desc := "(III)I" } : MethodName) prog_4_method_8_code (3 : Nat) (Option.some ClassFile.FieldType.int) ∈ TB := sorry
theorem w_3_59 : Cond.static ({ cls := "LastLoaf$Law", name := "joined", desc := "(III)I" } : MethodName) ∈ TB := sorry
theorem w_3_58 : Cond.methodLink "LastLoaf$Law" (77 : Nat) ({ cls := "LastLoaf$Law", name := "joined", desc := "(III)I" } : MethodName) ∈ TB := sorry
theorem cr2_77 {Θ : Tz} {cc : ByteArray} {nL kc ks : Nat} {ret : Option FieldType} {rm : Room} {Q : State → Prop} {σ : St} {pc : Nat} {lv : List (Nat × Value)} {st : List Value} (C : Zc Θ cc nL RX2 ret rm) (hkd : Θ.2.2.2.2.1 = kdC) {sign_a : Int32} {first_a : Int32} {second_a : Int32} (hrm : rm2_joined.frames + 1 ≤ rm.frames ∧ 8 + (3 + 11) + rm2_joined.locals ≤ rm.locals) (hcat : (st.map fun v => v.category).sum ≤ 8) (hk : kc ≤ rm.cells ∧ ks ≤ rm.slots) (hd : decode cc pc = .ok (.invokestatic 77, 3)) (kk : Z Θ nL kc ks Q σ (pc + 3) lv (.int (q2_joined sign_a first_a second_a) :: st)) : Z Θ nL kc ks Q σ pc lv (.int second_a :: .int first_a :: .int sign_a :: st) := sorry
def q2_weigh (σ : St) (th : Nat) (village_a : Nat) (voter_a : Int32) (other_a : Int32) : Option St :=
  Option.bind (sa σ (th + 3) 9 0 voter_a) fun σ1_ =>
  Option.bind (sa σ1_ (th + 3) 9 1 other_a) fun σ3_ =>
  Option.bind (q10_likingOf σ3_ village_a voter_a other_a) fun x5_ =>
  Option.bind (sa σ3_ (th + 3) 9 2 x5_) fun σ7_ =>
  Option.bind (ag σ7_ (village_a + 1) 6 other_a) fun x9_ =>
  Option.bind (sa σ7_ (th + 3) 9 3 x9_) fun σ11_ =>
  Option.bind (ag σ11_ (village_a + 4) 6 other_a) fun x13_ =>
  Option.bind (sa σ11_ (th + 3) 9 4 x13_) fun σ15_ =>
  Option.bind (ag σ15_ (village_a + 5) 6 other_a) fun x17_ =>
  Option.bind (sa σ15_ (th + 3) 9 5 x17_) fun σ19_ =>
  Option.bind (ag σ19_ (village_a + 3) 6 voter_a) fun x21_ =>
  Option.bind (sa σ19_ (th + 3) 9 6 x21_) fun σ23_ =>
  Option.bind (Option.bind (q10_areOfOneParty σ23_ village_a voter_a other_a) fun x30_ =>
  if x30_ = true then (some (1 : Int32)) else (some (0 : Int32))) fun x25_ =>
  Option.bind (sa σ23_ (th + 3) 9 7 x25_) fun σ34_ =>
  Option.bind (sa σ34_ (th + 3) 9 8 (if q11_isIn (σ34_ village_a 9) voter_a = true then 1 else 0)) fun σ41_ =>
  lt (up σ41_ th 5 0) fun σ43_ =>
  lt (up σ43_ th 6 (b2i false)) fun σ45_ =>
  Option.bind (loop3 (fun rec50_ (top53_ : Int32) (i54_ : Int32) (σ55_ : St) =>
  if (i54_ < (σ55_ th 3)) ∧ (i54_ < 412) then
  Option.bind (ag σ55_ (th + 1) 412 i54_) fun x63_ =>
  Option.bind (if (x63_ < 1009) ∧ (top53_ < 32) then (Option.bind (if x63_ < 1000 then (some x63_) else (Option.bind (ag σ55_ (th + 3) 9 (x63_ - 1000)) fun x79_ =>
  some x79_)) fun x73_ =>
  Option.bind (sa σ55_ (th + 2) 32 top53_ x73_) fun σ82_ =>
  lt (top53_ + 1) fun top84_ =>
  some (top84_, σ82_)) else (Option.bind (if 2000 ≤ x63_ then (Option.bind (Option.bind (if 0 < top53_ then (Option.bind (ag σ55_ (th + 2) 32 (top53_ - 1)) fun x101_ =>
  if x101_ = 1 then (some true) else (some false)) else (some false)) fun t98_ =>
  if t98_ = true then (Option.bind (q2_hold σ55_ th x63_) fun x105_ =>
  some (x105_)) else (some (σ55_))) fun y93_ =>
  some ((0 : Int32), y93_)) else (Option.bind (if (x63_ = 1105) ∧ (0 < top53_) then (Option.bind (ag σ55_ (th + 2) 32 (top53_ - 1)) fun x115_ =>
  Option.bind (sa σ55_ (th + 2) 32 (top53_ - 1) (1 - x115_)) fun σ117_ =>
  some (top53_, σ117_)) else (Option.bind (if 1 < top53_ then (lt (top53_ + (-1)) fun top126_ =>
  Option.bind (ag σ55_ (th + 2) 32 (top126_ - 1)) fun x128_ =>
  Option.bind (ag σ55_ (th + 2) 32 top126_) fun x130_ =>
  Option.bind (sa σ55_ (th + 2) 32 (top126_ - 1) (q2_joined x63_ x128_ x130_)) fun σ132_ =>
  some (top126_, σ132_)) else (some (top53_, σ55_))) fun y119_ =>
  some (y119_.1, y119_.2))) fun y107_ =>
  some (y107_.1, y107_.2))) fun y86_ =>
  some (y86_.1, y86_.2))) fun y65_ =>
  lt (i54_ + 1) fun i134_ =>
  rec50_ y65_.1 i134_ y65_.2
  else (some (top53_, i54_, σ55_))) fuelN (0 : Int32) (0 : Int32) σ45_) fun y47_ =>
  some y47_.2.2
abbrev rm2_weigh : Room := { frames := 1, cells := 0, slots := 0, locals := 22 }
theorem c2_weigh {l : Launch} {kd : List KD} {w : Wp} {σ : St} {th : Nat} {village_a : Nat} {voter_a : Int32} {other_a : Int32} (hkd : kd = kdC) (hi : zI kd w) (hth : isLaw th) (h_village : isV village_a) {r : St} (hf : q2_weigh σ th village_a voter_a other_a = some r) : zM l kd w yX2_weigh cX2_weigh 7 none rm2_weigh [.ref (w.2.2.1 th), .ref (w.2.2.1 village_a), .int voter_a, .int other_a] σ (none, r) := sorry
/-! LastLoaf$Law.favourOf -/
theorem w_3_44 : Cond.code ({ cls := "LastLoaf$Law", name := "weigh", desc := "(LLastLoaf$Village;II)V" } : MethodName) prog_4_method_6_code (7 : Nat) (Option.none : Option ClassFile.FieldType) ∈ TB := sorry
theorem w_3_41 : Cond.methodLink "LastLoaf$Law" (51 : Nat) ({ cls := "LastLoaf$Law", name := "weigh", desc := "(LLastLoaf$Village;II)V" } : MethodName) ∈ TB := sorry
theorem w_3_42 : Cond.instanceMethod ({ cls := "LastLoaf$Law", name := "weigh", desc := "(LLastLoaf$Village;II)V" } : MethodName) ∈ TB := sorry
theorem w_3_43 : Cond.selects "LastLoaf$Law" ({ cls := "LastLoaf$Law", name := "weigh", desc := "(LLastLoaf$Village;II)V" } : MethodName) ({ cls := "LastLoaf$Law", name := "weigh", desc := "(LLastLoaf$Village;II)V" } : MethodName) ∈ TB := sorry
theorem cr2_51 {Θ : Tz} {cc : ByteArray} {nL kc ks : Nat} {ret : Option FieldType} {rm : Room} {Q : State → Prop} {σ : St} {pc : Nat} {lv : List (Nat × Value)} {st : List Value} (C : Zc Θ cc nL RX2 ret rm) (hkd : Θ.2.2.2.2.1 = kdC) {th : Nat} {village_a : Nat} {voter_a : Int32} {other_a : Int32} (hth : isLaw th) (h_village : isV village_a) {r : St} (hx : q2_weigh σ th village_a voter_a other_a = some r) (hrm : rm2_weigh.frames + 1 ≤ rm.frames ∧ 8 + (7 + 11) + rm2_weigh.locals ≤ rm.locals) (hcat : (st.map fun v => v.category).sum ≤ 8) (hk : kc ≤ rm.cells ∧ ks ≤ rm.slots) (hd : decode cc pc = .ok (.invokevirtual 51, 3)) (kk : Z Θ nL kc ks Q r (pc + 3) lv st) : Z Θ nL kc ks Q σ pc lv (.int other_a :: .int voter_a :: .ref (zA Θ village_a) :: .ref (zA Θ th) :: st) := sorry
def q2_favourOf (σ : St) (th : Nat) (village_a : Nat) (voter_a : Int32) (other_a : Int32) : Option (Int32 × St) :=
  Option.bind (q10_likingOf σ village_a voter_a other_a) fun x1_ =>
  if (σ th 4) = (-1) then (Option.bind (Option.bind (q10_areOfOneParty σ village_a voter_a other_a) fun x12_ =>
  if x12_ = true then (some (x1_ + 2)) else (some x1_)) fun x7_ =>
  some (x7_, σ)) else
  Option.bind (q2_weigh σ th village_a voter_a other_a) fun x16_ =>
  some (x1_ + (x16_ th 5), x16_)
abbrev rm2_favourOf : Room := { frames := 2, cells := 0, slots := 0, locals := 48 }
theorem c2_favourOf {l : Launch} {kd : List KD} {w : Wp} {σ : St} {th : Nat} {village_a : Nat} {voter_a : Int32} {other_a : Int32} (hkd : kd = kdC) (hi : zI kd w) (hth : isLaw th) (h_village : isV village_a) {r : (Int32 × St)} (hf : q2_favourOf σ th village_a voter_a other_a = some r) : zM l kd w yX2_favourOf cX2_favourOf 5 (some .int) rm2_favourOf [.ref (w.2.2.1 th), .ref (w.2.2.1 village_a), .int voter_a, .int other_a] σ (some (.int r.1), r.2) := sorry
/-! LastLoaf$Law.keepsFromVoting -/
theorem fg2_31 {Θ : Tz} {cc : ByteArray} {nL kc ks : Nat} {ret : Option FieldType} {rm : Room} {Q : State → Prop} {σ : St} {pc : Nat} {lv : List (Nat × Value)} {st : List Value} (C : Zc Θ cc nL RX2 ret rm) (hkd : Θ.2.2.2.2.1 = kdC) {th : Nat} (hth : isLaw th) (hd : decode cc pc = .ok (.getfield 31, 3)) (kk : Z Θ nL kc ks Q σ (pc + 3) lv (.int (σ th 6) :: st)) : Z Θ nL kc ks Q σ pc lv (.ref (zA Θ th) :: st) := sorry
def q2_keepsFromVoting (σ : St) (th : Nat) (village_a : Nat) (voter_a : Int32) : Option (Bool × St) :=
  if (σ th 4) = (-1) then (some (false, σ)) else
  Option.bind (q2_weigh σ th village_a voter_a voter_a) fun x5_ =>
  Option.bind (toB (x5_ th 6)) fun b7_ =>
  some (b7_, x5_)
abbrev rm2_keepsFromVoting : Room := { frames := 2, cells := 0, slots := 0, locals := 48 }
theorem c2_keepsFromVoting {l : Launch} {kd : List KD} {w : Wp} {σ : St} {th : Nat} {village_a : Nat} {voter_a : Int32} (hkd : kd = kdC) (hi : zI kd w) (hth : isLaw th) (h_village : isV village_a) {r : (Bool × St)} (hf : q2_keepsFromVoting σ th village_a voter_a = some r) : zM l kd w yX2_keepsFromVoting cX2_keepsFromVoting 3 (some .boolean) rm2_keepsFromVoting [.ref (w.2.2.1 th), .ref (w.2.2.1 village_a), .int voter_a] σ (some (.int (b2i r.1)), r.2) := sorry
/-! LastLoaf$Poll.sortRank -/
theorem w_2_47 : Cond.fieldLink "LastLoaf$Poll" (30 : Nat) "LastLoaf$Poll" "people" "I" ∈ TB := sorry
theorem fg5_30 {Θ : Tz} {cc : ByteArray} {nL kc ks : Nat} {ret : Option FieldType} {rm : Room} {Q : State → Prop} {σ : St} {pc : Nat} {lv : List (Nat × Value)} {st : List Value} (C : Zc Θ cc nL RX5 ret rm) (hkd : Θ.2.2.2.2.1 = kdC) (hd : decode cc pc = .ok (.getfield 30, 3)) (kk : Z Θ nL kc ks Q σ (pc + 3) lv (.int (σ 6 6) :: st)) : Z Θ nL kc ks Q σ pc lv (.ref (zA Θ 6) :: st) := sorry
theorem w_2_48 : Cond.fieldLink "LastLoaf$Poll" (34 : Nat) "LastLoaf$Poll" "runners" "I" ∈ TB := sorry
theorem fg5_34 {Θ : Tz} {cc : ByteArray} {nL kc ks : Nat} {ret : Option FieldType} {rm : Room} {Q : State → Prop} {σ : St} {pc : Nat} {lv : List (Nat × Value)} {st : List Value} (C : Zc Θ cc nL RX5 ret rm) (hkd : Θ.2.2.2.2.1 = kdC) (hd : decode cc pc = .ok (.getfield 34, 3)) (kk : Z Θ nL kc ks Q σ (pc + 3) lv (.int (σ 6 7) :: st)) : Z Θ nL kc ks Q σ pc lv (.ref (zA Θ 6) :: st) := sorry
theorem cr5_58 {Θ : Tz} {cc : ByteArray} {nL kc ks : Nat} {ret : Option FieldType} {rm : Room} {Q : State → Prop} {σ : St} {pc : Nat} {lv : List (Nat × Value)} {st : List Value} (C : Zc Θ cc nL RX5 ret rm) (hkd : Θ.2.2.2.2.1 = kdC) {set_a : Int32} {person_a : Int32} (hrm : rm11_isIn.frames + 1 ≤ rm.frames ∧ 8 + (2 + 11) + rm11_isIn.locals ≤ rm.locals) (hcat : (st.map fun v => v.category).sum ≤ 8) (hk : kc ≤ rm.cells ∧ ks ≤ rm.slots) (hd : decode cc pc = .ok (.invokestatic 58, 3)) (kk : Z Θ nL kc ks Q σ (pc + 3) lv (.int (b2i (q11_isIn set_a person_a)) :: st)) : Z Θ nL kc ks Q σ pc lv (.int person_a :: .int set_a :: st) := sorry
theorem w_2_43 : Cond.fieldLink "LastLoaf$Poll" (18 : Nat) "LastLoaf$Poll" "favours" "[I" ∈ TB := sorry
theorem fg5_18 {Θ : Tz} {cc : ByteArray} {nL kc ks : Nat} {ret : Option FieldType} {rm : Room} {Q : State → Prop} {σ : St} {pc : Nat} {lv : List (Nat × Value)} {st : List Value} (C : Zc Θ cc nL RX5 ret rm) (hkd : Θ.2.2.2.2.1 = kdC) (hd : decode cc pc = .ok (.getfield 18, 3)) (kk : Z Θ nL kc ks Q σ (pc + 3) lv (.ref (zA Θ 9) :: st)) : Z Θ nL kc ks Q σ pc lv (.ref (zA Θ 6) :: st) := sorry
theorem w_2_41 : Cond.fieldLink "LastLoaf$Poll" (9 : Nat) "LastLoaf$Poll" "ranks" "[I" ∈ TB := sorry
theorem fg5_9 {Θ : Tz} {cc : ByteArray} {nL kc ks : Nat} {ret : Option FieldType} {rm : Room} {Q : State → Prop} {σ : St} {pc : Nat} {lv : List (Nat × Value)} {st : List Value} (C : Zc Θ cc nL RX5 ret rm) (hkd : Θ.2.2.2.2.1 = kdC) (hd : decode cc pc = .ok (.getfield 9, 3)) (kk : Z Θ nL kc ks Q σ (pc + 3) lv (.ref (zA Θ 7) :: st)) : Z Θ nL kc ks Q σ pc lv (.ref (zA Θ 6) :: st) := sorry
theorem w_2_42 : Cond.fieldLink "LastLoaf$Poll" (15 : Nat) "LastLoaf$Poll" "places" "[I" ∈ TB := sorry
theorem fg5_15 {Θ : Tz} {cc : ByteArray} {nL kc ks : Nat} {ret : Option FieldType} {rm : Room} {Q : State → Prop} {σ : St} {pc : Nat} {lv : List (Nat × Value)} {st : List Value} (C : Zc Θ cc nL RX5 ret rm) (hkd : Θ.2.2.2.2.1 = kdC) (hd : decode cc pc = .ok (.getfield 15, 3)) (kk : Z Θ nL kc ks Q σ (pc + 3) lv (.ref (zA Θ 8) :: st)) : Z Θ nL kc ks Q σ pc lv (.ref (zA Θ 6) :: st) := sorry
def q5_sortRank (σ : St) (voter_a : Int32) : Option St :=
  lt (voter_a * 6) fun row1_ =>
  Option.bind (loop3 (fun rec6_ (ranked9_ : Int32) (r10_ : Int32) (σ11_ : St) =>
  if r10_ < (σ11_ 6 6) then
  Option.bind (if q11_isIn (σ11_ 6 7) r10_ = true then (Option.bind (loop2 (fun rec28_ (k31_ : Int32) (σ32_ : St) =>
  Option.bind (if 0 < k31_ then (Option.bind (ag σ32_ 7 36 ((row1_ + k31_) - 1)) fun x40_ =>
  Option.bind (ag σ32_ 9 6 x40_) fun x42_ =>
  Option.bind (ag σ32_ 9 6 r10_) fun x44_ =>
  if x42_ < x44_ then (some true) else (some false)) else (some false)) fun t37_ =>
  if t37_ = true then
  Option.bind (ag σ32_ 7 36 ((row1_ + k31_) - 1)) fun x48_ =>
  Option.bind (sa σ32_ 7 36 (row1_ + k31_) x48_) fun σ50_ =>
  lt (k31_ + (-1)) fun k52_ =>
  rec28_ k52_ σ50_
  else (some (k31_, σ32_))) fuelN ranked9_ σ11_) fun y25_ =>
  Option.bind (sa y25_.2 7 36 (row1_ + y25_.1) r10_) fun σ54_ =>
  lt (ranked9_ + 1) fun ranked56_ =>
  some (ranked56_, σ54_)) else (some (ranked9_, σ11_))) fun y18_ =>
  lt (r10_ + 1) fun r58_ =>
  rec6_ y18_.1 r58_ y18_.2
  else (some (ranked9_, r10_, σ11_))) fuelN (0 : Int32) (0 : Int32) σ) fun y3_ =>
  Option.bind (loop2 (fun rec63_ (k66_ : Int32) (σ67_ : St) =>
  if k66_ < y3_.1 then
  Option.bind (ag σ67_ 7 36 (row1_ + k66_)) fun x74_ =>
  Option.bind (sa σ67_ 8 36 (row1_ + x74_) k66_) fun σ76_ =>
  lt (k66_ + 1) fun k78_ =>
  rec63_ k78_ σ76_
  else (some (k66_, σ67_))) fuelN (0 : Int32) y3_.2.2) fun y60_ =>
  some y60_.2
abbrev rm5_sortRank : Room := { frames := 1, cells := 0, slots := 0, locals := 21 }
theorem c5_sortRank {l : Launch} {kd : List KD} {w : Wp} {σ : St} {voter_a : Int32} (hkd : kd = kdC) (hi : zI kd w) {r : St} (hf : q5_sortRank σ voter_a = some r) : zM l kd w yX5_sortRank cX5_sortRank 6 none rm5_sortRank [.ref (w.2.2.1 6), .int voter_a] σ (none, r) := sorry
/-! LastLoaf$Village.runners -/
def q10_runners (σ : St) (th : Nat) : Int32 :=
  (σ th 9) &&& ((σ th 10) ^^^ (-1))
abbrev rm10_runners : Room := { frames := 0, cells := 0, slots := 0, locals := 0 }
theorem c10_runners {l : Launch} {kd : List KD} {w : Wp} {σ : St} {th : Nat} (hkd : kd = kdC) (hi : zI kd w) (hth : isV th) : zM l kd w yX10_runners cX10_runners 1 (some .int) rm10_runners [.ref (w.2.2.1 th)] σ (some (.int (q10_runners σ th)), σ) := sorry
/-! LastLoaf$Poll.hold -/
theorem w_1_124 : Cond.fieldLink "LastLoaf$Poll" (43 : Nat) "LastLoaf$Village" "people" "I" ∈ TB := sorry
theorem fg5_43 {Θ : Tz} {cc : ByteArray} {nL kc ks : Nat} {ret : Option FieldType} {rm : Room} {Q : State → Prop} {σ : St} {pc : Nat} {lv : List (Nat × Value)} {st : List Value} (C : Zc Θ cc nL RX5 ret rm) (hkd : Θ.2.2.2.2.1 = kdC) {th : Nat} (hth : isV th) (hd : decode cc pc = .ok (.getfield 43, 3)) (kk : Z Θ nL kc ks Q σ (pc + 3) lv (.int (σ th 8) :: st)) : Z Θ nL kc ks Q σ pc lv (.ref (zA Θ th) :: st) := sorry
theorem fp5_30 {Θ : Tz} {cc : ByteArray} {nL kc ks : Nat} {ret : Option FieldType} {rm : Room} {Q : State → Prop} {σ : St} {pc : Nat} {lv : List (Nat × Value)} {st : List Value} (C : Zc Θ cc nL RX5 ret rm) (hkd : Θ.2.2.2.2.1 = kdC) {x : Int32} {σ1 : St} (he : σ1 = up σ 6 6 x) (hd : decode cc pc = .ok (.putfield 30, 3)) (kk : Z Θ nL kc ks Q σ1 (pc + 3) lv st) : Z Θ nL kc ks Q σ pc lv (.int x :: .ref (zA Θ 6) :: st) := sorry
theorem w_3_27 : Cond.code ({ cls := "LastLoaf$Village", name := "runners", desc := "()I" } : MethodName) prog_12_method_5_code (1 : Nat) (Option.some ClassFile.FieldType.int) ∈ TB := sorry
theorem w_3_24 : Cond.methodLink "LastLoaf$Poll" (46 : Nat) ({ cls := "LastLoaf$Village", name := "runners", desc := "()I" } : MethodName) ∈ TB := sorry
theorem w_3_25 : Cond.instanceMethod ({ cls := "LastLoaf$Village", name := "runners", desc := "()I" } : MethodName) ∈ TB := sorry
theorem w_3_26 : Cond.selects "LastLoaf$Village" ({ cls := "LastLoaf$Village", name := "runners", desc := "()I" } : MethodName) ({ cls := "LastLoaf$Village", name := "runners", desc := "()I" } : MethodName) ∈ TB := sorry
theorem cr5_46 {Θ : Tz} {cc : ByteArray} {nL kc ks : Nat} {ret : Option FieldType} {rm : Room} {Q : State → Prop} {σ : St} {pc : Nat} {lv : List (Nat × Value)} {st : List Value} (C : Zc Θ cc nL RX5 ret rm) (hkd : Θ.2.2.2.2.1 = kdC) {th : Nat} (hth : isV th) (hrm : rm10_runners.frames + 1 ≤ rm.frames ∧ 8 + (1 + 11) + rm10_runners.locals ≤ rm.locals) (hcat : (st.map fun v => v.category).sum ≤ 8) (hk : kc ≤ rm.cells ∧ ks ≤ rm.slots) (hd : decode cc pc = .ok (.invokevirtual 46, 3)) (kk : Z Θ nL kc ks Q σ (pc + 3) lv (.int (q10_runners σ th) :: st)) : Z Θ nL kc ks Q σ pc lv (.ref (zA Θ th) :: st) := sorry
theorem fp5_34 {Θ : Tz} {cc : ByteArray} {nL kc ks : Nat} {ret : Option FieldType} {rm : Room} {Q : State → Prop} {σ : St} {pc : Nat} {lv : List (Nat × Value)} {st : List Value} (C : Zc Θ cc nL RX5 ret rm) (hkd : Θ.2.2.2.2.1 = kdC) {x : Int32} {σ1 : St} (he : σ1 = up σ 6 7 x) (hd : decode cc pc = .ok (.putfield 34, 3)) (kk : Z Θ nL kc ks Q σ1 (pc + 3) lv st) : Z Θ nL kc ks Q σ pc lv (.int x :: .ref (zA Θ 6) :: st) := sorry
theorem w_3_30 : Cond.code ({ cls := "java/lang/Integer", name := "bitCount", desc := "(I)I" } : MethodName) prog_22_method_49_code (1 : Nat) (Option.some ClassFile.FieldType.int) ∈ TB := sorry
theorem w_3_28 : Cond.methodLink "LastLoaf$Poll" (49 : Nat) ({ cls := "java/lang/Integer", name := "bitCount", desc := "(I)I" } : MethodName) ∈ TB := sorry
theorem w_3_29 : Cond.static ({ cls := "java/lang/Integer", name := "bitCount", desc := "(I)I" } : MethodName) ∈ TB := sorry
theorem w_1_26 : Cond.initialized "java/lang/Integer" ∈ TB := sorry
theorem w_2_50 : Cond.fieldLink "LastLoaf$Poll" (37 : Nat) "LastLoaf$Poll" "running" "I" ∈ TB := sorry
theorem fp5_37 {Θ : Tz} {cc : ByteArray} {nL kc ks : Nat} {ret : Option FieldType} {rm : Room} {Q : State → Prop} {σ : St} {pc : Nat} {lv : List (Nat × Value)} {st : List Value} (C : Zc Θ cc nL RX5 ret rm) (hkd : Θ.2.2.2.2.1 = kdC) {x : Int32} {σ1 : St} (he : σ1 = up σ 6 8 x) (hd : decode cc pc = .ok (.putfield 37, 3)) (kk : Z Θ nL kc ks Q σ1 (pc + 3) lv st) : Z Θ nL kc ks Q σ pc lv (.int x :: .ref (zA Θ 6) :: st) := sorry
theorem w_2_51 : Cond.fieldLink "LastLoaf$Poll" (40 : Nat) "LastLoaf$Poll" "voters" "I" ∈ TB := sorry
theorem fp5_40 {Θ : Tz} {cc : ByteArray} {nL kc ks : Nat} {ret : Option FieldType} {rm : Room} {Q : State → Prop} {σ : St} {pc : Nat} {lv : List (Nat × Value)} {st : List Value} (C : Zc Θ cc nL RX5 ret rm) (hkd : Θ.2.2.2.2.1 = kdC) {x : Int32} {σ1 : St} (he : σ1 = up σ 6 9 x) (hd : decode cc pc = .ok (.putfield 40, 3)) (kk : Z Θ nL kc ks Q σ1 (pc + 3) lv st) : Z Θ nL kc ks Q σ pc lv (.int x :: .ref (zA Θ 6) :: st) := sorry
theorem w_1_138 : Cond.fieldLink "LastLoaf$Poll" (55 : Nat) "LastLoaf$Village" "benched" "I" ∈ TB := sorry
theorem fg5_55 {Θ : Tz} {cc : ByteArray} {nL kc ks : Nat} {ret : Option FieldType} {rm : Room} {Q : State → Prop} {σ : St} {pc : Nat} {lv : List (Nat × Value)} {st : List Value} (C : Zc Θ cc nL RX5 ret rm) (hkd : Θ.2.2.2.2.1 = kdC) {th : Nat} (hth : isV th) (hd : decode cc pc = .ok (.getfield 55, 3)) (kk : Z Θ nL kc ks Q σ (pc + 3) lv (.int (σ th 10) :: st)) : Z Θ nL kc ks Q σ pc lv (.ref (zA Θ th) :: st) := sorry
theorem w_3_40 : Cond.code ({ cls := "LastLoaf$Law", name := "keepsFromVoting", desc := "(LLastLoaf$Village;I)Z" } : MethodName) prog_4_method_5_code (3 : Nat) (Option.some ClassFile.FieldType.boolean) ∈ TB := sorry
theorem w_3_37 : Cond.methodLink "LastLoaf$Poll" (62 : Nat) ({ cls := "LastLoaf$Law", name := "keepsFromVoting", desc := "(LLastLoaf$Village;I)Z" } : MethodName) ∈ TB := sorry
theorem w_3_38 : Cond.instanceMethod ({ cls := "LastLoaf$Law", name := "keepsFromVoting", desc := "(LLastLoaf$Village;I)Z" } : MethodName) ∈ TB := sorry
theorem w_3_39 : Cond.selects "LastLoaf$Law" ({ cls := "LastLoaf$Law", name := "keepsFromVoting", desc := "(LLastLoaf$Village;I)Z" } : MethodName) ({ cls := "LastLoaf$Law", name := "keepsFromVoting", desc := "(LLastLoaf$Village;I)Z" } : MethodName) ∈ TB := sorry
theorem cr5_62 {Θ : Tz} {cc : ByteArray} {nL kc ks : Nat} {ret : Option FieldType} {rm : Room} {Q : State → Prop} {σ : St} {pc : Nat} {lv : List (Nat × Value)} {st : List Value} (C : Zc Θ cc nL RX5 ret rm) (hkd : Θ.2.2.2.2.1 = kdC) {th : Nat} {village_a : Nat} {voter_a : Int32} (hth : isLaw th) (h_village : isV village_a) {r : Bool × St} (hx : q2_keepsFromVoting σ th village_a voter_a = some r) (hrm : rm2_keepsFromVoting.frames + 1 ≤ rm.frames ∧ 8 + (3 + 11) + rm2_keepsFromVoting.locals ≤ rm.locals) (hcat : (st.map fun v => v.category).sum ≤ 8) (hk : kc ≤ rm.cells ∧ ks ≤ rm.slots) (hd : decode cc pc = .ok (.invokevirtual 62, 3)) (kk : Z Θ nL kc ks Q r.2 (pc + 3) lv (.int (b2i r.1) :: st)) : Z Θ nL kc ks Q σ pc lv (.int voter_a :: .ref (zA Θ village_a) :: .ref (zA Θ th) :: st) := sorry
theorem fg5_40 {Θ : Tz} {cc : ByteArray} {nL kc ks : Nat} {ret : Option FieldType} {rm : Room} {Q : State → Prop} {σ : St} {pc : Nat} {lv : List (Nat × Value)} {st : List Value} (C : Zc Θ cc nL RX5 ret rm) (hkd : Θ.2.2.2.2.1 = kdC) (hd : decode cc pc = .ok (.getfield 40, 3)) (kk : Z Θ nL kc ks Q σ (pc + 3) lv (.int (σ 6 9) :: st)) : Z Θ nL kc ks Q σ pc lv (.ref (zA Θ 6) :: st) := sorry
theorem w_3_64 : Cond.code ({ cls := "LastLoaf$Law", name := "favourOf", desc := "(LLastLoaf$Village;II)I" } : MethodName) prog_4_method_4_code (5 : Nat) (Option.some ClassFile.FieldType.int) ∈ TB := sorry
theorem w_3_61 : Cond.methodLink "LastLoaf$Poll" (68 : Nat) ({ cls := "LastLoaf$Law", name := "favourOf", desc := "(LLastLoaf$Village;II)I" } : MethodName) ∈ TB := sorry
theorem w_3_62 : Cond.instanceMethod ({ cls := "LastLoaf$Law", name := "favourOf", desc := "(LLastLoaf$Village;II)I" } : MethodName) ∈ TB := sorry
theorem w_3_63 : Cond.selects "LastLoaf$Law" ({ cls := "LastLoaf$Law", name := "favourOf", desc := "(LLastLoaf$Village;II)I" } : MethodName) ({ cls := "LastLoaf$Law", name := "favourOf", desc := "(LLastLoaf$Village;II)I" } : MethodName) ∈ TB := sorry
theorem cr5_68 {Θ : Tz} {cc : ByteArray} {nL kc ks : Nat} {ret : Option FieldType} {rm : Room} {Q : State → Prop} {σ : St} {pc : Nat} {lv : List (Nat × Value)} {st : List Value} (C : Zc Θ cc nL RX5 ret rm) (hkd : Θ.2.2.2.2.1 = kdC) {th : Nat} {village_a : Nat} {voter_a : Int32} {other_a : Int32} (hth : isLaw th) (h_village : isV village_a) {r : Int32 × St} (hx : q2_favourOf σ th village_a voter_a other_a = some r) (hrm : rm2_favourOf.frames + 1 ≤ rm.frames ∧ 8 + (5 + 11) + rm2_favourOf.locals ≤ rm.locals) (hcat : (st.map fun v => v.category).sum ≤ 8) (hk : kc ≤ rm.cells ∧ ks ≤ rm.slots) (hd : decode cc pc = .ok (.invokevirtual 68, 3)) (kk : Z Θ nL kc ks Q r.2 (pc + 3) lv (.int r.1 :: st)) : Z Θ nL kc ks Q σ pc lv (.int other_a :: .int voter_a :: .ref (zA Θ village_a) :: .ref (zA Θ th) :: st) := sorry
theorem w_3_68 : Cond.code ({ cls := "LastLoaf$Poll", name := "sortRank", desc := "(I)V" } : MethodName) prog_7_method_3_code (6 : Nat) (Option.none : Option ClassFile.FieldType) ∈ TB := sorry
theorem w_1_9 : Cond.initialized "LastLoaf$Poll" ∈ TB := sorry
theorem w_3_65 : Cond.methodLink "LastLoaf$Poll" (72 : Nat) ({ cls := "LastLoaf$Poll", name := "sortRank", desc := "(I)V" } : MethodName) ∈ TB := sorry
theorem w_3_66 : Cond.instanceMethod ({ cls := "LastLoaf$Poll", name := "sortRank", desc := "(I)V" } : MethodName) ∈ TB := sorry
theorem w_3_67 : Cond.selects "LastLoaf$Poll" ({ cls := "LastLoaf$Poll", name := "sortRank", desc := "(I)V" } : MethodName) ({ cls := "LastLoaf$Poll", name := "sortRank", desc := "(I)V" } : MethodName) ∈ TB := sorry
theorem cr5_72 {Θ : Tz} {cc : ByteArray} {nL kc ks : Nat} {ret : Option FieldType} {rm : Room} {Q : State → Prop} {σ : St} {pc : Nat} {lv : List (Nat × Value)} {st : List Value} (C : Zc Θ cc nL RX5 ret rm) (hkd : Θ.2.2.2.2.1 = kdC) {voter_a : Int32} {r : St} (hx : q5_sortRank σ voter_a = some r) (hrm : rm5_sortRank.frames + 1 ≤ rm.frames ∧ 8 + (6 + 11) + rm5_sortRank.locals ≤ rm.locals) (hcat : (st.map fun v => v.category).sum ≤ 8) (hk : kc ≤ rm.cells ∧ ks ≤ rm.slots) (hd : decode cc pc = .ok (.invokevirtual 72, 3)) (kk : Z Θ nL kc ks Q r (pc + 3) lv st) : Z Θ nL kc ks Q σ pc lv (.int voter_a :: .ref (zA Θ 6) :: st) := sorry
def q5_hold (σ : St) (village_a : Nat) (law_a : Nat) : Option St :=
  lt (up σ 6 6 (σ village_a 8)) fun σ1_ =>
  lt (up σ1_ 6 7 (q10_runners σ1_ village_a)) fun σ3_ =>
  lt (up σ3_ 6 8 (bcount (σ3_ 6 7))) fun σ5_ =>
  lt (up σ5_ 6 9 0) fun σ7_ =>
  Option.bind (loop2 (fun rec12_ (v15_ : Int32) (σ16_ : St) =>
  if v15_ < (σ16_ 6 6) then
  Option.bind (Option.bind (if q11_isIn (σ16_ village_a 10) v15_ = true then (some (false, σ16_)) else (Option.bind (q2_keepsFromVoting σ16_ law_a village_a v15_) fun x31_ =>
  if x31_.1 = true then (some (false, x31_.2)) else (some (true, x31_.2)))) fun t28_ =>
  if t28_.1 = true then (lt (up t28_.2 6 9 ((t28_.2 6 9) ||| (shl 1 v15_))) fun σ35_ =>
  Option.bind (loop2 (fun rec40_ (r43_ : Int32) (σ44_ : St) =>
  if r43_ < (σ44_ 6 6) then
  Option.bind (if q11_isIn (σ44_ 6 7) r43_ = true then (Option.bind (q2_favourOf σ44_ law_a village_a v15_ r43_) fun x57_ =>
  some (x57_.1, x57_.2)) else (some ((0 : Int32), σ44_))) fun x51_ =>
  Option.bind (sa x51_.2 9 6 r43_ x51_.1) fun σ60_ =>
  lt (r43_ + 1) fun r62_ =>
  rec40_ r62_ σ60_
  else (some (r43_, σ44_))) fuelN (0 : Int32) σ35_) fun y37_ =>
  Option.bind (q5_sortRank y37_.2 v15_) fun x64_ =>
  some (x64_)) else (some (t28_.2))) fun y23_ =>
  lt (v15_ + 1) fun v66_ =>
  rec12_ v66_ y23_
  else (some (v15_, σ16_))) fuelN (0 : Int32) σ7_) fun y9_ =>
  some y9_.2
abbrev rm5_hold : Room := { frames := 3, cells := 0, slots := 0, locals := 72 }
theorem c5_hold {l : Launch} {kd : List KD} {w : Wp} {σ : St} {village_a : Nat} {law_a : Nat} (hkd : kd = kdC) (hi : zI kd w) (h_village : isV village_a) (h_law : isLaw law_a) {r : St} (hf : q5_hold σ village_a law_a = some r) : zM l kd w yX5_hold cX5_hold 5 none rm5_hold [.ref (w.2.2.1 6), .ref (w.2.2.1 village_a), .ref (w.2.2.1 law_a)] σ (none, r) := sorry
/-! LastLoaf.pollNow -/
theorem w_2_196 : Cond.fieldLink "LastLoaf" (61 : Nat) "LastLoaf" "poll" "LLastLoaf$Poll;" ∈ TB := sorry
theorem fg11_61 {Θ : Tz} {cc : ByteArray} {nL kc ks : Nat} {ret : Option FieldType} {rm : Room} {Q : State → Prop} {σ : St} {pc : Nat} {lv : List (Nat × Value)} {st : List Value} (C : Zc Θ cc nL RX11 ret rm) (hkd : Θ.2.2.2.2.1 = kdC) (hd : decode cc pc = .ok (.getfield 61, 3)) (kk : Z Θ nL kc ks Q σ (pc + 3) lv (.ref (zA Θ 6) :: st)) : Z Θ nL kc ks Q σ pc lv (.ref (zA Θ 0) :: st) := sorry
theorem w_3_23 : Cond.code ({ cls := "LastLoaf$Poll", name := "hold", desc := "(LLastLoaf$Village;LLastLoaf$Law;)V" } : MethodName) prog_7_method_2_code (5 : Nat) (Option.none : Option ClassFile.FieldType) ∈ TB := sorry
theorem w_3_20 : Cond.methodLink "LastLoaf" (295 : Nat) ({ cls := "LastLoaf$Poll", name := "hold", desc := "(LLastLoaf$Village;LLastLoaf$Law;)V" } : MethodName) ∈ TB := sorry
theorem w_3_21 : Cond.instanceMethod ({ cls := "LastLoaf$Poll", name := "hold", desc := "(LLastLoaf$Village;LLastLoaf$Law;)V" } : MethodName) ∈ TB := sorry
theorem w_3_22 : Cond.selects "LastLoaf$Poll" ({ cls := "LastLoaf$Poll", name := "hold", desc := "(LLastLoaf$Village;LLastLoaf$Law;)V" } : MethodName) ({ cls := "LastLoaf$Poll", name := "hold", desc := "(LLastLoaf$Village;LLastLoaf$Law;)V" } : MethodName) ∈ TB := sorry
theorem cr11_295 {Θ : Tz} {cc : ByteArray} {nL kc ks : Nat} {ret : Option FieldType} {rm : Room} {Q : State → Prop} {σ : St} {pc : Nat} {lv : List (Nat × Value)} {st : List Value} (C : Zc Θ cc nL RX11 ret rm) (hkd : Θ.2.2.2.2.1 = kdC) {village_a : Nat} {law_a : Nat} (h_village : isV village_a) (h_law : isLaw law_a) {r : St} (hx : q5_hold σ village_a law_a = some r) (hrm : rm5_hold.frames + 1 ≤ rm.frames ∧ 8 + (5 + 11) + rm5_hold.locals ≤ rm.locals) (hcat : (st.map fun v => v.category).sum ≤ 8) (hk : kc ≤ rm.cells ∧ ks ≤ rm.slots) (hd : decode cc pc = .ok (.invokevirtual 295, 3)) (kk : Z Θ nL kc ks Q r (pc + 3) lv st) : Z Θ nL kc ks Q σ pc lv (.ref (zA Θ law_a) :: .ref (zA Θ village_a) :: .ref (zA Θ 6) :: st) := sorry
def q11_pollNow (σ : St) : Option (Nat × St) :=
  Option.bind (q5_hold σ 44 32) fun x1_ =>
  some (6, x1_)
abbrev rm11_pollNow : Room := { frames := 4, cells := 0, slots := 0, locals := 96 }
theorem c11_pollNow {l : Launch} {kd : List KD} {w : Wp} {σ : St} (hkd : kd = kdC) (hi : zI kd w) {r : (Nat × St)} (hf : q11_pollNow σ = some r) : zM l kd w yX11_pollNow cX11_pollNow 1 (some (.object "LastLoaf$Poll")) rm11_pollNow [.ref (w.2.2.1 0)] σ (some (.ref (w.2.2.1 r.1)), r.2) := sorry
/-! LastLoaf$Poll.greatest -/
theorem w_2_44 : Cond.fieldLink "LastLoaf$Poll" (21 : Nat) "LastLoaf$Poll" "tally" "[I" ∈ TB := sorry
theorem fg5_21 {Θ : Tz} {cc : ByteArray} {nL kc ks : Nat} {ret : Option FieldType} {rm : Room} {Q : State → Prop} {σ : St} {pc : Nat} {lv : List (Nat × Value)} {st : List Value} (C : Zc Θ cc nL RX5 ret rm) (hkd : Θ.2.2.2.2.1 = kdC) (hd : decode cc pc = .ok (.getfield 21, 3)) (kk : Z Θ nL kc ks Q σ (pc + 3) lv (.ref (zA Θ 10) :: st)) : Z Θ nL kc ks Q σ pc lv (.ref (zA Θ 6) :: st) := sorry
def q5_greatest (σ : St) (among_a : Int32) : Option Int32 :=
  Option.bind (loop2 (fun rec4_ (best7_ : Int32) (r8_ : Int32) =>
  if r8_ < (σ 6 6) then
  Option.bind (Option.bind (if q11_isIn among_a r8_ = true then (if best7_ = (-1) then (some true) else (Option.bind (ag σ 10 6 r8_) fun x24_ =>
  Option.bind (ag σ 10 6 best7_) fun x26_ =>
  if x26_ < x24_ then (some true) else (some false))) else (some false)) fun t20_ =>
  if t20_ = true then (some (r8_)) else (some (best7_))) fun y15_ =>
  lt (r8_ + 1) fun r30_ =>
  rec4_ y15_ r30_
  else (some (best7_, r8_))) fuelN (-1 : Int32) (0 : Int32)) fun y1_ =>
  some y1_.1
abbrev rm5_greatest : Room := { frames := 1, cells := 0, slots := 0, locals := 21 }
theorem c5_greatest {l : Launch} {kd : List KD} {w : Wp} {σ : St} {among_a : Int32} (hkd : kd = kdC) (hi : zI kd w) {r : Int32} (hf : q5_greatest σ among_a = some r) : zM l kd w yX5_greatest cX5_greatest 4 (some .int) rm5_greatest [.ref (w.2.2.1 6), .int among_a] σ (some (.int r), σ) := sorry
/-! LastLoaf$Poll.rankAt -/
theorem fg5_37 {Θ : Tz} {cc : ByteArray} {nL kc ks : Nat} {ret : Option FieldType} {rm : Room} {Q : State → Prop} {σ : St} {pc : Nat} {lv : List (Nat × Value)} {st : List Value} (C : Zc Θ cc nL RX5 ret rm) (hkd : Θ.2.2.2.2.1 = kdC) (hd : decode cc pc = .ok (.getfield 37, 3)) (kk : Z Θ nL kc ks Q σ (pc + 3) lv (.int (σ 6 8) :: st)) : Z Θ nL kc ks Q σ pc lv (.ref (zA Θ 6) :: st) := sorry
def q5_rankAt (σ : St) (voter_a : Int32) (k_a : Int32) : Option Int32 :=
  if ((¬ (q11_isIn (σ 6 9) voter_a = true)) ∨ (k_a < 0)) ∨ ((σ 6 8) ≤ k_a) then (some (-1)) else
  Option.bind (ag σ 7 36 ((voter_a * 6) + k_a)) fun x7_ =>
  some x7_
abbrev rm5_rankAt : Room := { frames := 1, cells := 0, slots := 0, locals := 21 }
theorem c5_rankAt {l : Launch} {kd : List KD} {w : Wp} {σ : St} {voter_a : Int32} {k_a : Int32} (hkd : kd = kdC) (hi : zI kd w) {r : Int32} (hf : q5_rankAt σ voter_a k_a = some r) : zM l kd w yX5_rankAt cX5_rankAt 3 (some .int) rm5_rankAt [.ref (w.2.2.1 6), .int voter_a, .int k_a] σ (some (.int r), σ) := sorry
/-! LastLoaf$Poll.hasItWith -/
theorem w_1_90 : Cond.code ({ cls := "java/util/Arrays", name := "fill", desc := "([II)V" } : MethodName) prog_33_method_103_code (4 : Nat) (Option.none : Option ClassFile.FieldType) ∈ TB := sorry
theorem w_3_158 : Cond.methodLink "LastLoaf$Poll" (107 : Nat) ({ cls := "java/util/Arrays", name := "fill", desc := "([II)V" } : MethodName) ∈ TB := sorry
theorem w_1_89 : Cond.static ({ cls := "java/util/Arrays", name := "fill", desc := "([II)V" } : MethodName) ∈ TB := sorry
theorem w_1_5 : Cond.initialized "java/util/Arrays" ∈ TB := sorry
theorem w_3_185 : Cond.code ({ cls := "LastLoaf$Poll", name := "rankAt", desc := "(II)I" } : MethodName) prog_7_method_4_code (3 : Nat) (Option.some ClassFile.FieldType.int) ∈ TB := sorry
theorem w_3_182 : Cond.methodLink "LastLoaf$Poll" (76 : Nat) ({ cls := "LastLoaf$Poll", name := "rankAt", desc := "(II)I" } : MethodName) ∈ TB := sorry
theorem w_3_183 : Cond.instanceMethod ({ cls := "LastLoaf$Poll", name := "rankAt", desc := "(II)I" } : MethodName) ∈ TB := sorry
theorem w_3_184 : Cond.selects "LastLoaf$Poll" ({ cls := "LastLoaf$Poll", name := "rankAt", desc := "(II)I" } : MethodName) ({ cls := "LastLoaf$Poll", name := "rankAt", desc := "(II)I" } : MethodName) ∈ TB := sorry
theorem cr5_76 {Θ : Tz} {cc : ByteArray} {nL kc ks : Nat} {ret : Option FieldType} {rm : Room} {Q : State → Prop} {σ : St} {pc : Nat} {lv : List (Nat × Value)} {st : List Value} (C : Zc Θ cc nL RX5 ret rm) (hkd : Θ.2.2.2.2.1 = kdC) {voter_a : Int32} {k_a : Int32} {r : Int32} (hx : q5_rankAt σ voter_a k_a = some r) (hrm : rm5_rankAt.frames + 1 ≤ rm.frames ∧ 8 + (3 + 11) + rm5_rankAt.locals ≤ rm.locals) (hcat : (st.map fun v => v.category).sum ≤ 8) (hk : kc ≤ rm.cells ∧ ks ≤ rm.slots) (hd : decode cc pc = .ok (.invokevirtual 76, 3)) (kk : Z Θ nL kc ks Q σ (pc + 3) lv (.int r :: st)) : Z Θ nL kc ks Q σ pc lv (.int k_a :: .int voter_a :: .ref (zA Θ 6) :: st) := sorry
theorem w_3_173 : Cond.code ({ cls := "LastLoaf$Poll", name := "greatest", desc := "(I)I" } : MethodName) prog_7_method_11_code (4 : Nat) (Option.some ClassFile.FieldType.int) ∈ TB := sorry
theorem w_3_170 : Cond.methodLink "LastLoaf$Poll" (104 : Nat) ({ cls := "LastLoaf$Poll", name := "greatest", desc := "(I)I" } : MethodName) ∈ TB := sorry
theorem w_3_171 : Cond.instanceMethod ({ cls := "LastLoaf$Poll", name := "greatest", desc := "(I)I" } : MethodName) ∈ TB := sorry
theorem w_3_172 : Cond.selects "LastLoaf$Poll" ({ cls := "LastLoaf$Poll", name := "greatest", desc := "(I)I" } : MethodName) ({ cls := "LastLoaf$Poll", name := "greatest", desc := "(I)I" } : MethodName) ∈ TB := sorry
theorem cr5_104 {Θ : Tz} {cc : ByteArray} {nL kc ks : Nat} {ret : Option FieldType} {rm : Room} {Q : State → Prop} {σ : St} {pc : Nat} {lv : List (Nat × Value)} {st : List Value} (C : Zc Θ cc nL RX5 ret rm) (hkd : Θ.2.2.2.2.1 = kdC) {among_a : Int32} {r : Int32} (hx : q5_greatest σ among_a = some r) (hrm : rm5_greatest.frames + 1 ≤ rm.frames ∧ 8 + (4 + 11) + rm5_greatest.locals ≤ rm.locals) (hcat : (st.map fun v => v.category).sum ≤ 8) (hk : kc ≤ rm.cells ∧ ks ≤ rm.slots) (hd : decode cc pc = .ok (.invokevirtual 104, 3)) (kk : Z Θ nL kc ks Q σ (pc + 3) lv (.int r :: st)) : Z Θ nL kc ks Q σ pc lv (.int among_a :: .ref (zA Θ 6) :: st) := sorry
def q5_hasItWith (σ : St) (person_a : Int32) (turned_a : Int32) : Option (Bool × St) :=
  lt (fil σ 10 6 0) fun σ1_ =>
  Option.bind (loop2 (fun rec6_ (v9_ : Int32) (σ10_ : St) =>
  if v9_ < (σ10_ 6 6) then
  Option.bind (if q11_isIn turned_a v9_ = true then (some person_a) else (Option.bind (q5_rankAt σ10_ v9_ 0) fun x23_ =>
  some x23_)) fun x17_ =>
  Option.bind (if ¬ x17_ = (-1) then (Option.bind (ag σ10_ 10 6 x17_) fun x33_ =>
  Option.bind (sa σ10_ 10 6 x17_ (x33_ + 1)) fun σ35_ =>
  some (σ35_)) else (some (σ10_))) fun y26_ =>
  lt (v9_ + 1) fun v37_ =>
  rec6_ v37_ y26_
  else (some (v9_, σ10_))) fuelN (0 : Int32) σ1_) fun y3_ =>
  Option.bind (Option.bind (q5_greatest y3_.2 (y3_.2 6 7)) fun x44_ =>
  if x44_ = person_a then (some true) else (some false)) fun x39_ =>
  some (x39_, y3_.2)
abbrev rm5_hasItWith : Room := { frames := 2, cells := 0, slots := 0, locals := 44 }
theorem c5_hasItWith {l : Launch} {kd : List KD} {w : Wp} {σ : St} {person_a : Int32} {turned_a : Int32} (hkd : kd = kdC) (hi : zI kd w) {r : (Bool × St)} (hf : q5_hasItWith σ person_a turned_a = some r) : zM l kd w yX5_hasItWith cX5_hasItWith 5 (some .boolean) rm5_hasItWith [.ref (w.2.2.1 6), .int person_a, .int turned_a] σ (some (.int (b2i r.1)), r.2) := sorry

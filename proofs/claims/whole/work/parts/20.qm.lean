/-! LastLoafModel.thrown -/
theorem w_8_27 : Cond.fieldLink "LastLoafModel" (65 : Nat) "LastLoafModel" "thrown" "I" ∈ TB := sorry
theorem fg12_65 {Θ : Tz} {cc : ByteArray} {nL kc ks : Nat} {ret : Option FieldType} {rm : Room} {Q : State → Prop} {σ : St} {pc : Nat} {lv : List (Nat × Value)} {st : List Value} (C : Zc Θ cc nL RX12 ret rm) (hkd : Θ.2.2.2.2.1 = kdM) (hd : decode cc pc = .ok (.getfield 65, 3)) (kk : Z Θ nL kc ks Q σ (pc + 3) lv (.int (σ 0 0) :: st)) : Z Θ nL kc ks Q σ pc lv (.ref (zA Θ 0) :: st) := sorry
def q12_thrown (σ : St) : Int32 :=
  σ 0 0
abbrev rm12_thrown : Room := { frames := 0, cells := 0, slots := 0, locals := 0 }
theorem c12_thrown {l : Launch} {kd : List KD} {w : Wp} {σ : St} (hkd : kd = kdM) (hi : zI kd w) : zM l kd w yX12_thrown cX12_thrown 1 (some .int) rm12_thrown [.ref (w.2.2.1 0)] σ (some (.int (q12_thrown σ)), σ) := sorry
/-! LastLoafModel.isIn -/
def q12_isIn (v_a : Int32) (low_a : Int32) (high_a : Int32) : Bool :=
  decide ((low_a ≤ v_a) ∧ (v_a ≤ high_a))
abbrev rm12_isIn : Room := { frames := 0, cells := 0, slots := 0, locals := 0 }
theorem c12_isIn {l : Launch} {kd : List KD} {w : Wp} {σ : St} {v_a : Int32} {low_a : Int32} {high_a : Int32} (hkd : kd = kdM) (hi : zI kd w) : zM l kd w yX12_isIn cX12_isIn 3 (some .boolean) rm12_isIn [.int v_a, .int low_a, .int high_a] σ (some (.int (b2i (q12_isIn v_a low_a high_a))), σ) := sorry
/-! LastLoafModel.lesser -/
def q12_lesser (a_a : Int32) (b_a : Int32) : Int32 :=
  if a_a < b_a then a_a else b_a
abbrev rm12_lesser : Room := { frames := 0, cells := 0, slots := 0, locals := 0 }
theorem c12_lesser {l : Launch} {kd : List KD} {w : Wp} {σ : St} {a_a : Int32} {b_a : Int32} (hkd : kd = kdM) (hi : zI kd w) : zM l kd w yX12_lesser cX12_lesser 2 (some .int) rm12_lesser [.int a_a, .int b_a] σ (some (.int (q12_lesser a_a b_a)), σ) := sorry
/-! LastLoafModel.greater -/
def q12_greater (a_a : Int32) (b_a : Int32) : Int32 :=
  if b_a < a_a then a_a else b_a
abbrev rm12_greater : Room := { frames := 0, cells := 0, slots := 0, locals := 0 }
theorem c12_greater {l : Launch} {kd : List KD} {w : Wp} {σ : St} {a_a : Int32} {b_a : Int32} (hkd : kd = kdM) (hi : zI kd w) : zM l kd w yX12_greater cX12_greater 2 (some .int) rm12_greater [.int a_a, .int b_a] σ (some (.int (q12_greater a_a b_a)), σ) := sorry
/-! LastLoafModel.isOf -/
def q12_isOf (set_a : Int32) (k_a : Int32) : Bool :=
  decide (((shr set_a k_a) &&& 1) = 1)
abbrev rm12_isOf : Room := { frames := 0, cells := 0, slots := 0, locals := 0 }
theorem c12_isOf {l : Launch} {kd : List KD} {w : Wp} {σ : St} {set_a : Int32} {k_a : Int32} (hkd : kd = kdM) (hi : zI kd w) : zM l kd w yX12_isOf cX12_isOf 2 (some .boolean) rm12_isOf [.int set_a, .int k_a] σ (some (.int (b2i (q12_isOf set_a k_a))), σ) := sorry
/-! LastLoafModel.bits -/
theorem bp_31 : (Int8.ofInt (31)).toInt32 = 31 := sorry
def q12_bits (set_a : Int32) : Option Int32 :=
  Option.bind (loop2 (fun rec4_ (n7_ : Int32) (k8_ : Int32) =>
  if k8_ < 31 then
  lt (n7_ + ((shr set_a k8_) &&& 1)) fun n15_ =>
  lt (k8_ + 1) fun k17_ =>
  rec4_ n15_ k17_
  else (some (n7_, k8_))) fuelN (0 : Int32) (0 : Int32)) fun y1_ =>
  some y1_.1
abbrev rm12_bits : Room := { frames := 0, cells := 0, slots := 0, locals := 0 }
theorem c12_bits {l : Launch} {kd : List KD} {w : Wp} {σ : St} {set_a : Int32} (hkd : kd = kdM) (hi : zI kd w) {r : Int32} (hf : q12_bits set_a = some r) : zM l kd w yX12_bits cX12_bits 3 (some .int) rm12_bits [.int set_a] σ (some (.int r), σ) := sorry
/-! LastLoafModel.of -/
theorem w_8_28 : Cond.fieldLink "LastLoafModel" (7 : Nat) "LastLoafModel" "m" "[I" ∈ TB := sorry
theorem fg12_7 {Θ : Tz} {cc : ByteArray} {nL kc ks : Nat} {ret : Option FieldType} {rm : Room} {Q : State → Prop} {σ : St} {pc : Nat} {lv : List (Nat × Value)} {st : List Value} (C : Zc Θ cc nL RX12 ret rm) (hkd : Θ.2.2.2.2.1 = kdM) (hd : decode cc pc = .ok (.getfield 7, 3)) (kk : Z Θ nL kc ks Q σ (pc + 3) lv (.ref (zA Θ 1) :: st)) : Z Θ nL kc ks Q σ pc lv (.ref (zA Θ 0) :: st) := sorry
theorem bp_14 : (Int8.ofInt (14)).toInt32 = 14 := sorry
theorem bp_7 : (Int8.ofInt (7)).toInt32 = 7 := sorry
def q12_of (σ : St) (p_a : Int32) (what_a : Int32) : Option Int32 :=
  Option.bind (ag σ 1 752 ((14 + (7 * p_a)) + what_a)) fun x1_ =>
  some x1_
abbrev rm12_of : Room := { frames := 0, cells := 0, slots := 0, locals := 0 }
theorem c12_of {l : Launch} {kd : List KD} {w : Wp} {σ : St} {p_a : Int32} {what_a : Int32} (hkd : kd = kdM) (hi : zI kd w) {r : Int32} (hf : q12_of σ p_a what_a = some r) : zM l kd w yX12_of cX12_of 3 (some .int) rm12_of [.ref (w.2.2.1 0), .int p_a, .int what_a] σ (some (.int r), σ) := sorry
/-! LastLoafModel.lays -/
def q12_lays (σ : St) (p_a : Int32) (what_a : Int32) (v_a : Int32) : Option St :=
  Option.bind (sa σ 1 752 ((14 + (7 * p_a)) + what_a) v_a) fun σ1_ =>
  some σ1_
abbrev rm12_lays : Room := { frames := 0, cells := 0, slots := 0, locals := 0 }
theorem c12_lays {l : Launch} {kd : List KD} {w : Wp} {σ : St} {p_a : Int32} {what_a : Int32} {v_a : Int32} (hkd : kd = kdM) (hi : zI kd w) {r : St} (hf : q12_lays σ p_a what_a v_a = some r) : zM l kd w yX12_lays cX12_lays 4 none rm12_lays [.ref (w.2.2.1 0), .int p_a, .int what_a, .int v_a] σ (none, r) := sorry
/-! LastLoafModel.liking -/
theorem bp_9 : (Int8.ofInt (9)).toInt32 = 9 := sorry
def q12_liking (σ : St) (p_a : Int32) (o_a : Int32) : Option Int32 :=
  Option.bind (if p_a = o_a then (some (9 : Int32)) else (Option.bind (ag σ 1 752 ((63 + (7 * p_a)) + o_a)) fun x7_ =>
  some x7_)) fun x1_ =>
  some x1_
abbrev rm12_liking : Room := { frames := 0, cells := 0, slots := 0, locals := 0 }
theorem c12_liking {l : Launch} {kd : List KD} {w : Wp} {σ : St} {p_a : Int32} {o_a : Int32} (hkd : kd = kdM) (hi : zI kd w) {r : Int32} (hf : q12_liking σ p_a o_a = some r) : zM l kd w yX12_liking cX12_liking 3 (some .int) rm12_liking [.ref (w.2.2.1 0), .int p_a, .int o_a] σ (some (.int r), σ) := sorry
/-! LastLoafModel.isOne -/
theorem ic_3 : Int32.ofInt (3) = 3 := sorry
theorem w_8_141 : Cond.code ({ cls := "LastLoafModel", name := "isIn", desc := "(III)Z" } : MethodName) prog_14_method_3_code (3 : Nat) (Option.some ClassFile.FieldType.boolean) ∈ TB := sorry
theorem w_1_14 : Cond.initialized "LastLoafModel" ∈ TB := sorry
theorem w_8_140 : Cond.static ({ cls := "LastLoafModel", name := "isIn", desc := "(III)Z" } : MethodName) ∈ TB := sorry
theorem w_8_139 : Cond.methodLink "LastLoafModel" (68 : Nat) ({ cls := "LastLoafModel", name := "isIn", desc := "(III)Z" } : MethodName) ∈ TB := sorry
theorem cr12_68 {Θ : Tz} {cc : ByteArray} {nL kc ks : Nat} {ret : Option FieldType} {rm : Room} {Q : State → Prop} {σ : St} {pc : Nat} {lv : List (Nat × Value)} {st : List Value} (C : Zc Θ cc nL RX12 ret rm) (hkd : Θ.2.2.2.2.1 = kdM) {v_a : Int32} {low_a : Int32} {high_a : Int32} (hrm : rm12_isIn.frames + 1 ≤ rm.frames ∧ 8 + (3 + 11) + rm12_isIn.locals ≤ rm.locals) (hcat : (st.map fun v => v.category).sum ≤ 8) (hk : kc ≤ rm.cells ∧ ks ≤ rm.slots) (hd : decode cc pc = .ok (.invokestatic 68, 3)) (kk : Z Θ nL kc ks Q σ (pc + 3) lv (.int (b2i (q12_isIn v_a low_a high_a)) :: st)) : Z Θ nL kc ks Q σ pc lv (.int high_a :: .int low_a :: .int v_a :: st) := sorry
def q12_isOne (σ : St) (p_a : Int32) : Option Bool :=
  Option.bind (ag σ 1 752 3) fun x1_ =>
  some (q12_isIn p_a 0 (x1_ - 1))
abbrev rm12_isOne : Room := { frames := 1, cells := 0, slots := 0, locals := 22 }
theorem c12_isOne {l : Launch} {kd : List KD} {w : Wp} {σ : St} {p_a : Int32} (hkd : kd = kdM) (hi : zI kd w) {r : Bool} (hf : q12_isOne σ p_a = some r) : zM l kd w yX12_isOne cX12_isOne 2 (some .boolean) rm12_isOne [.ref (w.2.2.1 0), .int p_a] σ (some (.int (b2i r)), σ) := sorry
/-! LastLoafModel.all -/
def q12_all (σ : St) : Option Int32 :=
  Option.bind (ag σ 1 752 3) fun x1_ =>
  some ((shl 1 x1_) - 1)
abbrev rm12_all : Room := { frames := 0, cells := 0, slots := 0, locals := 0 }
theorem c12_all {l : Launch} {kd : List KD} {w : Wp} {σ : St} (hkd : kd = kdM) (hi : zI kd w) {r : Int32} (hf : q12_all σ = some r) : zM l kd w yX12_all cX12_all 1 (some .int) rm12_all [.ref (w.2.2.1 0)] σ (some (.int r), σ) := sorry
/-! LastLoafModel.those -/
theorem w_9_57 : Cond.code ({ cls := "LastLoafModel", name := "of", desc := "(II)I" } : MethodName) prog_14_method_8_code (3 : Nat) (Option.some ClassFile.FieldType.int) ∈ TB := sorry
theorem w_9_54 : Cond.methodLink "LastLoafModel" (72 : Nat) ({ cls := "LastLoafModel", name := "of", desc := "(II)I" } : MethodName) ∈ TB := sorry
theorem w_9_56 : Cond.instanceMethod ({ cls := "LastLoafModel", name := "of", desc := "(II)I" } : MethodName) ∈ TB := sorry
theorem ws_LastLoafModel_of_II_I : Cond.selects "LastLoafModel" (⟨"LastLoafModel", "of", "(II)I"⟩ : MethodName) (⟨"LastLoafModel", "of", "(II)I"⟩ : MethodName) ∈ TB := sorry
theorem cr12_72 {Θ : Tz} {cc : ByteArray} {nL kc ks : Nat} {ret : Option FieldType} {rm : Room} {Q : State → Prop} {σ : St} {pc : Nat} {lv : List (Nat × Value)} {st : List Value} (C : Zc Θ cc nL RX12 ret rm) (hkd : Θ.2.2.2.2.1 = kdM) {p_a : Int32} {what_a : Int32} {r : Int32} (hx : q12_of σ p_a what_a = some r) (hrm : rm12_of.frames + 1 ≤ rm.frames ∧ 8 + (3 + 11) + rm12_of.locals ≤ rm.locals) (hcat : (st.map fun v => v.category).sum ≤ 8) (hk : kc ≤ rm.cells ∧ ks ≤ rm.slots) (hd : decode cc pc = .ok (.invokevirtual 72, 3)) (kk : Z Θ nL kc ks Q σ (pc + 3) lv (.int r :: st)) : Z Θ nL kc ks Q σ pc lv (.int what_a :: .int p_a :: .ref (zA Θ 0) :: st) := sorry
def q12_those (σ : St) (what_a : Int32) : Option Int32 :=
  Option.bind (loop2 (fun rec4_ (set7_ : Int32) (p8_ : Int32) =>
  Option.bind (ag σ 1 752 3) fun x13_ =>
  if p8_ < x13_ then
  Option.bind (Option.bind (q12_of σ p8_ what_a) fun x22_ =>
  if 0 < x22_ then (some (shl 1 p8_)) else (some (0 : Int32))) fun x17_ =>
  lt (set7_ ||| x17_) fun set26_ =>
  lt (p8_ + 1) fun p28_ =>
  rec4_ set26_ p28_
  else (some (set7_, p8_))) fuelN (0 : Int32) (0 : Int32)) fun y1_ =>
  some y1_.1
abbrev rm12_those : Room := { frames := 1, cells := 0, slots := 0, locals := 22 }
theorem c12_those {l : Launch} {kd : List KD} {w : Wp} {σ : St} {what_a : Int32} (hkd : kd = kdM) (hi : zI kd w) {r : Int32} (hf : q12_those σ what_a = some r) : zM l kd w yX12_those cX12_those 4 (some .int) rm12_those [.ref (w.2.2.1 0), .int what_a] σ (some (.int r), σ) := sorry
/-! LastLoafModel.feed -/
theorem fp12_65 {Θ : Tz} {cc : ByteArray} {nL kc ks : Nat} {ret : Option FieldType} {rm : Room} {Q : State → Prop} {σ : St} {pc : Nat} {lv : List (Nat × Value)} {st : List Value} (C : Zc Θ cc nL RX12 ret rm) (hkd : Θ.2.2.2.2.1 = kdM) {x : Int32} {σ1 : St} (he : σ1 = up σ 0 0 x) (hd : decode cc pc = .ok (.putfield 65, 3)) (kk : Z Θ nL kc ks Q σ1 (pc + 3) lv st) : Z Θ nL kc ks Q σ pc lv (.int x :: .ref (zA Θ 0) :: st) := sorry
theorem w_8_35 : Cond.fieldLink "LastLoafModel" (76 : Nat) "LastLoafModel" "taped" "I" ∈ TB := sorry
theorem fg12_76 {Θ : Tz} {cc : ByteArray} {nL kc ks : Nat} {ret : Option FieldType} {rm : Room} {Q : State → Prop} {σ : St} {pc : Nat} {lv : List (Nat × Value)} {st : List Value} (C : Zc Θ cc nL RX12 ret rm) (hkd : Θ.2.2.2.2.1 = kdM) (hd : decode cc pc = .ok (.getfield 76, 3)) (kk : Z Θ nL kc ks Q σ (pc + 3) lv (.int (σ 0 8) :: st)) : Z Θ nL kc ks Q σ pc lv (.ref (zA Θ 0) :: st) := sorry
theorem bp_20 : (Int8.ofInt (20)).toInt32 = 20 := sorry
theorem sp_400 : (Int16.ofInt (400)).toInt32 = 400 := sorry
theorem ic_m1 : Int32.ofInt (-1) = (-1) := sorry
theorem bp_12 : (Int8.ofInt (12)).toInt32 = 12 := sorry
theorem w_8_34 : Cond.fieldLink "LastLoafModel" (22 : Nat) "LastLoafModel" "tape" "[I" ∈ TB := sorry
theorem fg12_22 {Θ : Tz} {cc : ByteArray} {nL kc ks : Nat} {ret : Option FieldType} {rm : Room} {Q : State → Prop} {σ : St} {pc : Nat} {lv : List (Nat × Value)} {st : List Value} (C : Zc Θ cc nL RX12 ret rm) (hkd : Θ.2.2.2.2.1 = kdM) (hd : decode cc pc = .ok (.getfield 22, 3)) (kk : Z Θ nL kc ks Q σ (pc + 3) lv (.ref (zA Θ 5) :: st)) : Z Θ nL kc ks Q σ pc lv (.ref (zA Θ 0) :: st) := sorry
theorem bp_24 : (Int8.ofInt (24)).toInt32 = 24 := sorry
theorem fp12_76 {Θ : Tz} {cc : ByteArray} {nL kc ks : Nat} {ret : Option FieldType} {rm : Room} {Q : State → Prop} {σ : St} {pc : Nat} {lv : List (Nat × Value)} {st : List Value} (C : Zc Θ cc nL RX12 ret rm) (hkd : Θ.2.2.2.2.1 = kdM) {x : Int32} {σ1 : St} (he : σ1 = up σ 0 8 x) (hd : decode cc pc = .ok (.putfield 76, 3)) (kk : Z Θ nL kc ks Q σ1 (pc + 3) lv st) : Z Θ nL kc ks Q σ pc lv (.int x :: .ref (zA Θ 0) :: st) := sorry
def q12_feed (σ : St) (a_a : Int32) (b_a : Int32) (c_a : Int32) (d_a : Int32) (e_a : Int32) : Option (Int32 × St) :=
  lt (up σ 0 0 0) fun σ1_ =>
  if 400 < ((σ1_ 0 8) + 20) then (some ((-1), σ1_)) else
  Option.bind (loop2 (fun rec10_ (k13_ : Int32) (σ14_ : St) =>
  if k13_ < 20 then
  lt (if k13_ < 4 then a_a else if k13_ < 8 then b_a else if k13_ < 12 then c_a else if k13_ < 16 then d_a else e_a) fun v41_ =>
  Option.bind (sa σ14_ 5 400 (σ14_ 0 8) ((ushr v41_ (24 - (8 * (irm k13_ 4)))) &&& 255)) fun σ43_ =>
  lt (up σ43_ 0 8 ((σ43_ 0 8) + 1)) fun σ45_ =>
  lt (k13_ + 1) fun k47_ =>
  rec10_ k47_ σ45_
  else (some (k13_, σ14_))) fuelN (0 : Int32) σ1_) fun y7_ =>
  some (y7_.2 0 8, y7_.2)
abbrev rm12_feed : Room := { frames := 0, cells := 0, slots := 0, locals := 0 }
theorem c12_feed {l : Launch} {kd : List KD} {w : Wp} {σ : St} {a_a : Int32} {b_a : Int32} {c_a : Int32} {d_a : Int32} {e_a : Int32} (hkd : kd = kdM) (hi : zI kd w) {r : (Int32 × St)} (hf : q12_feed σ a_a b_a c_a d_a e_a = some r) : zM l kd w yX12_feed cX12_feed 8 (some .int) rm12_feed [.ref (w.2.2.1 0), .int a_a, .int b_a, .int c_a, .int d_a, .int e_a] σ (some (.int r.1), r.2) := sorry
/-! LastLoafModel.end -/
def q12_end (σ : St) (n_a : Int32) : Option (Bool × St) :=
  lt (up σ 0 0 0) fun σ1_ =>
  if ¬ (q12_isIn n_a 0 (σ1_ 0 8) = true) then (some (false, σ1_)) else
  lt (up σ1_ 0 8 n_a) fun σ7_ =>
  some (true, σ7_)
abbrev rm12_end : Room := { frames := 1, cells := 0, slots := 0, locals := 22 }
theorem c12_end {l : Launch} {kd : List KD} {w : Wp} {σ : St} {n_a : Int32} (hkd : kd = kdM) (hi : zI kd w) {r : (Bool × St)} (hf : q12_end σ n_a = some r) : zM l kd w yX12_end cX12_end 2 (some .boolean) rm12_end [.ref (w.2.2.1 0), .int n_a] σ (some (.int (b2i r.1)), r.2) := sorry
/-! LastLoafModel.letter -/
theorem w_8_36 : Cond.fieldLink "LastLoafModel" (79 : Nat) "LastLoafModel" "base" "I" ∈ TB := sorry
theorem fg12_79 {Θ : Tz} {cc : ByteArray} {nL kc ks : Nat} {ret : Option FieldType} {rm : Room} {Q : State → Prop} {σ : St} {pc : Nat} {lv : List (Nat × Value)} {st : List Value} (C : Zc Θ cc nL RX12 ret rm) (hkd : Θ.2.2.2.2.1 = kdM) (hd : decode cc pc = .ok (.getfield 79, 3)) (kk : Z Θ nL kc ks Q σ (pc + 3) lv (.int (σ 0 9) :: st)) : Z Θ nL kc ks Q σ pc lv (.ref (zA Θ 0) :: st) := sorry
def q12_letter (σ : St) (k_a : Int32) : Option Int32 :=
  Option.bind (if (σ 0 9) = (-1) then (Option.bind (ag σ 5 400 k_a) fun x7_ =>
  some x7_) else (Option.bind (ag σ 1 752 ((σ 0 9) + k_a)) fun x9_ =>
  some x9_)) fun x1_ =>
  some x1_
abbrev rm12_letter : Room := { frames := 0, cells := 0, slots := 0, locals := 0 }
theorem c12_letter {l : Launch} {kd : List KD} {w : Wp} {σ : St} {k_a : Int32} (hkd : kd = kdM) (hi : zI kd w) {r : Int32} (hf : q12_letter σ k_a = some r) : zM l kd w yX12_letter cX12_letter 2 (some .int) rm12_letter [.ref (w.2.2.1 0), .int k_a] σ (some (.int r), σ) := sorry
/-! LastLoafModel.skip -/
theorem w_8_38 : Cond.fieldLink "LastLoafModel" (82 : Nat) "LastLoafModel" "at" "I" ∈ TB := sorry
theorem fg12_82 {Θ : Tz} {cc : ByteArray} {nL kc ks : Nat} {ret : Option FieldType} {rm : Room} {Q : State → Prop} {σ : St} {pc : Nat} {lv : List (Nat × Value)} {st : List Value} (C : Zc Θ cc nL RX12 ret rm) (hkd : Θ.2.2.2.2.1 = kdM) (hd : decode cc pc = .ok (.getfield 82, 3)) (kk : Z Θ nL kc ks Q σ (pc + 3) lv (.int (σ 0 11) :: st)) : Z Θ nL kc ks Q σ pc lv (.ref (zA Θ 0) :: st) := sorry
theorem w_8_37 : Cond.fieldLink "LastLoafModel" (85 : Nat) "LastLoafModel" "end" "I" ∈ TB := sorry
theorem fg12_85 {Θ : Tz} {cc : ByteArray} {nL kc ks : Nat} {ret : Option FieldType} {rm : Room} {Q : State → Prop} {σ : St} {pc : Nat} {lv : List (Nat × Value)} {st : List Value} (C : Zc Θ cc nL RX12 ret rm) (hkd : Θ.2.2.2.2.1 = kdM) (hd : decode cc pc = .ok (.getfield 85, 3)) (kk : Z Θ nL kc ks Q σ (pc + 3) lv (.int (σ 0 10) :: st)) : Z Θ nL kc ks Q σ pc lv (.ref (zA Θ 0) :: st) := sorry
theorem w_8_165 : Cond.code ({ cls := "LastLoafModel", name := "letter", desc := "(I)I" } : MethodName) prog_14_method_16_code (2 : Nat) (Option.some ClassFile.FieldType.int) ∈ TB := sorry
theorem w_8_162 : Cond.methodLink "LastLoafModel" (88 : Nat) ({ cls := "LastLoafModel", name := "letter", desc := "(I)I" } : MethodName) ∈ TB := sorry
theorem w_8_164 : Cond.instanceMethod ({ cls := "LastLoafModel", name := "letter", desc := "(I)I" } : MethodName) ∈ TB := sorry
theorem ws_LastLoafModel_letter_I_I : Cond.selects "LastLoafModel" (⟨"LastLoafModel", "letter", "(I)I"⟩ : MethodName) (⟨"LastLoafModel", "letter", "(I)I"⟩ : MethodName) ∈ TB := sorry
theorem cr12_88 {Θ : Tz} {cc : ByteArray} {nL kc ks : Nat} {ret : Option FieldType} {rm : Room} {Q : State → Prop} {σ : St} {pc : Nat} {lv : List (Nat × Value)} {st : List Value} (C : Zc Θ cc nL RX12 ret rm) (hkd : Θ.2.2.2.2.1 = kdM) {k_a : Int32} {r : Int32} (hx : q12_letter σ k_a = some r) (hrm : rm12_letter.frames + 1 ≤ rm.frames ∧ 8 + (2 + 11) + rm12_letter.locals ≤ rm.locals) (hcat : (st.map fun v => v.category).sum ≤ 8) (hk : kc ≤ rm.cells ∧ ks ≤ rm.slots) (hd : decode cc pc = .ok (.invokevirtual 88, 3)) (kk : Z Θ nL kc ks Q σ (pc + 3) lv (.int r :: st)) : Z Θ nL kc ks Q σ pc lv (.int k_a :: .ref (zA Θ 0) :: st) := sorry
theorem bp_32 : (Int8.ofInt (32)).toInt32 = 32 := sorry
theorem fp12_82 {Θ : Tz} {cc : ByteArray} {nL kc ks : Nat} {ret : Option FieldType} {rm : Room} {Q : State → Prop} {σ : St} {pc : Nat} {lv : List (Nat × Value)} {st : List Value} (C : Zc Θ cc nL RX12 ret rm) (hkd : Θ.2.2.2.2.1 = kdM) {x : Int32} {σ1 : St} (he : σ1 = up σ 0 11 x) (hd : decode cc pc = .ok (.putfield 82, 3)) (kk : Z Θ nL kc ks Q σ1 (pc + 3) lv st) : Z Θ nL kc ks Q σ pc lv (.int x :: .ref (zA Θ 0) :: st) := sorry
def q12_skip (σ : St) : Option St :=
  Option.bind (loop1 (fun rec4_ (σ7_ : St) =>
  Option.bind (if (σ7_ 0 11) < (σ7_ 0 10) then (Option.bind (q12_letter σ7_ (σ7_ 0 11)) fun x15_ =>
  if x15_ = 32 then (some true) else (some false)) else (some false)) fun t12_ =>
  if t12_ = true then
  lt (up σ7_ 0 11 ((σ7_ 0 11) + 1)) fun σ19_ =>
  rec4_ σ19_
  else (some σ7_)) fuelN σ) fun y1_ =>
  some y1_
abbrev rm12_skip : Room := { frames := 1, cells := 0, slots := 0, locals := 21 }
theorem c12_skip {l : Launch} {kd : List KD} {w : Wp} {σ : St} (hkd : kd = kdM) (hi : zI kd w) {r : St} (hf : q12_skip σ = some r) : zM l kd w yX12_skip cX12_skip 1 none rm12_skip [.ref (w.2.2.1 0)] σ (none, r) := sorry
/-! LastLoafModel.isSign -/
theorem w_8_161 : Cond.code ({ cls := "LastLoafModel", name := "skip", desc := "()V" } : MethodName) prog_14_method_17_code (1 : Nat) (Option.none : Option ClassFile.FieldType) ∈ TB := sorry
theorem w_8_158 : Cond.methodLink "LastLoafModel" (92 : Nat) ({ cls := "LastLoafModel", name := "skip", desc := "()V" } : MethodName) ∈ TB := sorry
theorem w_8_160 : Cond.instanceMethod ({ cls := "LastLoafModel", name := "skip", desc := "()V" } : MethodName) ∈ TB := sorry
theorem ws_LastLoafModel_skip__V : Cond.selects "LastLoafModel" (⟨"LastLoafModel", "skip", "()V"⟩ : MethodName) (⟨"LastLoafModel", "skip", "()V"⟩ : MethodName) ∈ TB := sorry
theorem cr12_92 {Θ : Tz} {cc : ByteArray} {nL kc ks : Nat} {ret : Option FieldType} {rm : Room} {Q : State → Prop} {σ : St} {pc : Nat} {lv : List (Nat × Value)} {st : List Value} (C : Zc Θ cc nL RX12 ret rm) (hkd : Θ.2.2.2.2.1 = kdM) {r : St} (hx : q12_skip σ = some r) (hrm : rm12_skip.frames + 1 ≤ rm.frames ∧ 8 + (1 + 11) + rm12_skip.locals ≤ rm.locals) (hcat : (st.map fun v => v.category).sum ≤ 8) (hk : kc ≤ rm.cells ∧ ks ≤ rm.slots) (hd : decode cc pc = .ok (.invokevirtual 92, 3)) (kk : Z Θ nL kc ks Q r (pc + 3) lv st) : Z Θ nL kc ks Q σ pc lv (.ref (zA Θ 0) :: st) := sorry
def q12_isSign (σ : St) (c_a : Int32) : Option (Bool × St) :=
  Option.bind (q12_skip σ) fun x1_ =>
  Option.bind (Option.bind (if (x1_ 0 11) < (x1_ 0 10) then (Option.bind (q12_letter x1_ (x1_ 0 11)) fun x11_ =>
  if x11_ = c_a then (some true) else (some false)) else (some false)) fun t8_ =>
  if t8_ = true then (some true) else (some false)) fun x3_ =>
  some (x3_, x1_)
abbrev rm12_isSign : Room := { frames := 2, cells := 0, slots := 0, locals := 41 }
theorem c12_isSign {l : Launch} {kd : List KD} {w : Wp} {σ : St} {c_a : Int32} (hkd : kd = kdM) (hi : zI kd w) {r : (Bool × St)} (hf : q12_isSign σ c_a = some r) : zM l kd w yX12_isSign cX12_isSign 2 (some .boolean) rm12_isSign [.ref (w.2.2.1 0), .int c_a] σ (some (.int (b2i r.1)), r.2) := sorry
/-! LastLoafModel.has -/
theorem bp_97 : (Int8.ofInt (97)).toInt32 = 97 := sorry
theorem bp_122 : (Int8.ofInt (122)).toInt32 = 122 := sorry
theorem w_4_198 : Cond.code ({ cls := "java/lang/String", name := "length", desc := "()I" } : MethodName) prog_25_method_54_code (1 : Nat) (Option.some ClassFile.FieldType.int) ∈ TB := sorry
theorem w_8_179 : Cond.methodLink "LastLoafModel" (95 : Nat) ({ cls := "java/lang/String", name := "length", desc := "()I" } : MethodName) ∈ TB := sorry
theorem w_4_196 : Cond.instanceMethod ({ cls := "java/lang/String", name := "length", desc := "()I" } : MethodName) ∈ TB := sorry
theorem w_4_197 : Cond.selects "java/lang/String" ({ cls := "java/lang/String", name := "length", desc := "()I" } : MethodName) ({ cls := "java/lang/String", name := "length", desc := "()I" } : MethodName) ∈ TB := sorry
theorem w_4_208 : Cond.code ({ cls := "java/lang/String", name := "charAt", desc := "(I)C" } : MethodName) prog_25_method_56_code (2 : Nat) (Option.some ClassFile.FieldType.char) ∈ TB := sorry
theorem w_8_180 : Cond.methodLink "LastLoafModel" (101 : Nat) ({ cls := "java/lang/String", name := "charAt", desc := "(I)C" } : MethodName) ∈ TB := sorry
theorem w_4_206 : Cond.instanceMethod ({ cls := "java/lang/String", name := "charAt", desc := "(I)C" } : MethodName) ∈ TB := sorry
theorem w_4_207 : Cond.selects "java/lang/String" ({ cls := "java/lang/String", name := "charAt", desc := "(I)C" } : MethodName) ({ cls := "java/lang/String", name := "charAt", desc := "(I)C" } : MethodName) ∈ TB := sorry
def q12_has (σ : St) (w_a : Nat) : Option (Bool × St) :=
  Option.bind (q12_skip σ) fun x1_ =>
  lt (x1_ 0 11) fun k3_ =>
  Option.bind (loop1 (fun rec8_ (k11_ : Int32) =>
  Option.bind (if k11_ < (x1_ 0 10) then (Option.bind (q12_letter x1_ k11_) fun x19_ =>
  if q12_isIn x19_ 97 122 = true then (some true) else (some false)) else (some false)) fun t16_ =>
  if t16_ = true then
  lt (k11_ + 1) fun k23_ =>
  rec8_ k23_
  else (some k11_)) fuelN k3_) fun y5_ =>
  if ¬ (y5_ - (x1_ 0 11)) = (slen w_a) then (some (false, x1_)) else
  Option.bind (loop1 (fun rec32_ (i35_ : Int32) =>
  if i35_ < (slen w_a) then
  Option.bind (q12_letter x1_ ((x1_ 0 11) + i35_)) fun x44_ =>
  Option.bind (schr w_a i35_) fun x46_ =>
  if ¬ x44_ = x46_ then (some (.inl (false, x1_))) else
  lt (i35_ + 1) fun i50_ =>
  rec32_ i50_
  else (some (.inr i35_))) fuelN (0 : Int32)) fun y29_ =>
  Sum.elim (fun x9 => some x9) (fun y29_r =>
  lt (up x1_ 0 11 y5_) fun σ52_ =>
  some (true, σ52_)) y29_
abbrev rm12_has : Room := { frames := 4, cells := 0, slots := 0, locals := 85 }
theorem c12_has {l : Launch} {kd : List KD} {w : Wp} {σ : St} {w_a : Nat} (hkd : kd = kdM) (hi : zI kd w) (h_w : w_a < 46) {r : (Bool × St)} (hf : q12_has σ w_a = some r) : zM l kd w yX12_has cX12_has 4 (some .boolean) rm12_has [.ref (w.2.2.1 0), .ref (w.2.2.2.1 w_a)] σ (some (.int (b2i r.1)), r.2) := sorry
/-! LastLoafModel.wrong -/
theorem w_8_39 : Cond.fieldLink "LastLoafModel" (25 : Nat) "LastLoafModel" "fault" "I" ∈ TB := sorry
theorem fg12_25 {Θ : Tz} {cc : ByteArray} {nL kc ks : Nat} {ret : Option FieldType} {rm : Room} {Q : State → Prop} {σ : St} {pc : Nat} {lv : List (Nat × Value)} {st : List Value} (C : Zc Θ cc nL RX12 ret rm) (hkd : Θ.2.2.2.2.1 = kdM) (hd : decode cc pc = .ok (.getfield 25, 3)) (kk : Z Θ nL kc ks Q σ (pc + 3) lv (.int (σ 0 12) :: st)) : Z Θ nL kc ks Q σ pc lv (.ref (zA Θ 0) :: st) := sorry
theorem fp12_25 {Θ : Tz} {cc : ByteArray} {nL kc ks : Nat} {ret : Option FieldType} {rm : Room} {Q : State → Prop} {σ : St} {pc : Nat} {lv : List (Nat × Value)} {st : List Value} (C : Zc Θ cc nL RX12 ret rm) (hkd : Θ.2.2.2.2.1 = kdM) {x : Int32} {σ1 : St} (he : σ1 = up σ 0 12 x) (hd : decode cc pc = .ok (.putfield 25, 3)) (kk : Z Θ nL kc ks Q σ1 (pc + 3) lv st) : Z Θ nL kc ks Q σ pc lv (.int x :: .ref (zA Θ 0) :: st) := sorry
def q12_wrong (σ : St) (where_a : Int32) : Option St :=
  lt (if (σ 0 12) = (-1) then (lt (up σ 0 12 where_a) fun σ8_ =>
  σ8_) else σ) fun y1_ =>
  some y1_
abbrev rm12_wrong : Room := { frames := 0, cells := 0, slots := 0, locals := 0 }
theorem c12_wrong {l : Launch} {kd : List KD} {w : Wp} {σ : St} {where_a : Int32} (hkd : kd = kdM) (hi : zI kd w) {r : St} (hf : q12_wrong σ where_a = some r) : zM l kd w yX12_wrong cX12_wrong 2 none rm12_wrong [.ref (w.2.2.1 0), .int where_a] σ (none, r) := sorry
/-! LastLoafModel.here -/
def q12_here (σ : St) : Option (Int32 × St) :=
  Option.bind (q12_skip σ) fun x1_ =>
  some (x1_ 0 11, x1_)
abbrev rm12_here : Room := { frames := 2, cells := 0, slots := 0, locals := 41 }
theorem c12_here {l : Launch} {kd : List KD} {w : Wp} {σ : St} (hkd : kd = kdM) (hi : zI kd w) {r : (Int32 × St)} (hf : q12_here σ = some r) : zM l kd w yX12_here cX12_here 1 (some .int) rm12_here [.ref (w.2.2.1 0)] σ (some (.int r.1), r.2) := sorry
/-! LastLoafModel.figures -/
theorem w_8_190 : Cond.code ({ cls := "LastLoafModel", name := "here", desc := "()I" } : MethodName) prog_14_method_21_code (1 : Nat) (Option.some ClassFile.FieldType.int) ∈ TB := sorry
theorem w_8_187 : Cond.methodLink "LastLoafModel" (105 : Nat) ({ cls := "LastLoafModel", name := "here", desc := "()I" } : MethodName) ∈ TB := sorry
theorem w_8_189 : Cond.instanceMethod ({ cls := "LastLoafModel", name := "here", desc := "()I" } : MethodName) ∈ TB := sorry
theorem ws_LastLoafModel_here__I : Cond.selects "LastLoafModel" (⟨"LastLoafModel", "here", "()I"⟩ : MethodName) (⟨"LastLoafModel", "here", "()I"⟩ : MethodName) ∈ TB := sorry
theorem cr12_105 {Θ : Tz} {cc : ByteArray} {nL kc ks : Nat} {ret : Option FieldType} {rm : Room} {Q : State → Prop} {σ : St} {pc : Nat} {lv : List (Nat × Value)} {st : List Value} (C : Zc Θ cc nL RX12 ret rm) (hkd : Θ.2.2.2.2.1 = kdM) {r : Int32 × St} (hx : q12_here σ = some r) (hrm : rm12_here.frames + 1 ≤ rm.frames ∧ 8 + (1 + 11) + rm12_here.locals ≤ rm.locals) (hcat : (st.map fun v => v.category).sum ≤ 8) (hk : kc ≤ rm.cells ∧ ks ≤ rm.slots) (hd : decode cc pc = .ok (.invokevirtual 105, 3)) (kk : Z Θ nL kc ks Q r.2 (pc + 3) lv (.int r.1 :: st)) : Z Θ nL kc ks Q σ pc lv (.ref (zA Θ 0) :: st) := sorry
theorem bp_48 : (Int8.ofInt (48)).toInt32 = 48 := sorry
theorem bp_57 : (Int8.ofInt (57)).toInt32 = 57 := sorry
theorem bp_10 : (Int8.ofInt (10)).toInt32 = 10 := sorry
theorem w_8_169 : Cond.code ({ cls := "LastLoafModel", name := "wrong", desc := "(I)V" } : MethodName) prog_14_method_20_code (2 : Nat) (Option.none : Option ClassFile.FieldType) ∈ TB := sorry
theorem w_8_166 : Cond.methodLink "LastLoafModel" (108 : Nat) ({ cls := "LastLoafModel", name := "wrong", desc := "(I)V" } : MethodName) ∈ TB := sorry
theorem w_8_168 : Cond.instanceMethod ({ cls := "LastLoafModel", name := "wrong", desc := "(I)V" } : MethodName) ∈ TB := sorry
theorem ws_LastLoafModel_wrong_I_V : Cond.selects "LastLoafModel" (⟨"LastLoafModel", "wrong", "(I)V"⟩ : MethodName) (⟨"LastLoafModel", "wrong", "(I)V"⟩ : MethodName) ∈ TB := sorry
theorem cr12_108 {Θ : Tz} {cc : ByteArray} {nL kc ks : Nat} {ret : Option FieldType} {rm : Room} {Q : State → Prop} {σ : St} {pc : Nat} {lv : List (Nat × Value)} {st : List Value} (C : Zc Θ cc nL RX12 ret rm) (hkd : Θ.2.2.2.2.1 = kdM) {where_a : Int32} {r : St} (hx : q12_wrong σ where_a = some r) (hrm : rm12_wrong.frames + 1 ≤ rm.frames ∧ 8 + (2 + 11) + rm12_wrong.locals ≤ rm.locals) (hcat : (st.map fun v => v.category).sum ≤ 8) (hk : kc ≤ rm.cells ∧ ks ≤ rm.slots) (hd : decode cc pc = .ok (.invokevirtual 108, 3)) (kk : Z Θ nL kc ks Q r (pc + 3) lv st) : Z Θ nL kc ks Q σ pc lv (.int where_a :: .ref (zA Θ 0) :: st) := sorry
def q12_figures (σ : St) (low_a : Int32) (high_a : Int32) : Option (Int32 × St) :=
  if ¬ (σ 0 12) = (-1) then (some (0, σ)) else
  Option.bind (q12_here σ) fun x5_ =>
  Option.bind (loop2 (fun rec10_ (v13_ : Int32) (σ14_ : St) =>
  Option.bind (if (σ14_ 0 11) < (σ14_ 0 10) then (Option.bind (q12_letter σ14_ (σ14_ 0 11)) fun x22_ =>
  if q12_isIn x22_ 48 57 = true then (if ((σ14_ 0 11) - x5_.1) ≤ 3 then (some true) else (some false)) else (some false)) else (some false)) fun t19_ =>
  if t19_ = true then
  Option.bind (q12_letter σ14_ (σ14_ 0 11)) fun x27_ =>
  lt (((10 * v13_) + x27_) - 48) fun v29_ =>
  lt (up σ14_ 0 11 ((σ14_ 0 11) + 1)) fun σ31_ =>
  rec10_ v29_ σ31_
  else (some (v13_, σ14_))) fuelN (0 : Int32) x5_.2) fun y7_ =>
  Option.bind (if ((((y7_.2 0 11) = x5_.1) ∨ (3 < ((y7_.2 0 11) - x5_.1))) ∨ (y7_.1 < low_a)) ∨ (high_a < y7_.1) then (Option.bind (q12_wrong y7_.2 x5_.1) fun x43_ =>
  some (x43_)) else (some (y7_.2))) fun y33_ =>
  some (y7_.1, y33_)
abbrev rm12_figures : Room := { frames := 3, cells := 0, slots := 0, locals := 61 }
theorem c12_figures {l : Launch} {kd : List KD} {w : Wp} {σ : St} {low_a : Int32} {high_a : Int32} (hkd : kd = kdM) (hi : zI kd w) {r : (Int32 × St)} (hf : q12_figures σ low_a high_a = some r) : zM l kd w yX12_figures cX12_figures 5 (some .int) rm12_figures [.ref (w.2.2.1 0), .int low_a, .int high_a] σ (some (.int r.1), r.2) := sorry
/-! LastLoafModel.after -/
theorem w_8_178 : Cond.code ({ cls := "LastLoafModel", name := "has", desc := "(Ljava/lang/String;)Z" } : MethodName) prog_14_method_19_code (4 : Nat) (Option.some ClassFile.FieldType.boolean) ∈ TB := sorry
theorem w_8_175 : Cond.methodLink "LastLoafModel" (112 : Nat) ({ cls := "LastLoafModel", name := "has", desc := "(Ljava/lang/String;)Z" } : MethodName) ∈ TB := sorry
theorem w_8_177 : Cond.instanceMethod ({ cls := "LastLoafModel", name := "has", desc := "(Ljava/lang/String;)Z" } : MethodName) ∈ TB := sorry
theorem ws_LastLoafModel_has_Ljava_lang_String__Z : Cond.selects "LastLoafModel" (⟨"LastLoafModel", "has", "(Ljava/lang/String;)Z"⟩ : MethodName) (⟨"LastLoafModel", "has", "(Ljava/lang/String;)Z"⟩ : MethodName) ∈ TB := sorry
theorem cr12_112 {Θ : Tz} {cc : ByteArray} {nL kc ks : Nat} {ret : Option FieldType} {rm : Room} {Q : State → Prop} {σ : St} {pc : Nat} {lv : List (Nat × Value)} {st : List Value} (C : Zc Θ cc nL RX12 ret rm) (hkd : Θ.2.2.2.2.1 = kdM) {w_a : Nat} (h_w : w_a < 46) {r : Bool × St} (hx : q12_has σ w_a = some r) (hrm : rm12_has.frames + 1 ≤ rm.frames ∧ 8 + (4 + 11) + rm12_has.locals ≤ rm.locals) (hcat : (st.map fun v => v.category).sum ≤ 8) (hk : kc ≤ rm.cells ∧ ks ≤ rm.slots) (hd : decode cc pc = .ok (.invokevirtual 112, 3)) (kk : Z Θ nL kc ks Q r.2 (pc + 3) lv (.int (b2i r.1) :: st)) : Z Θ nL kc ks Q σ pc lv (.ref (zK Θ w_a) :: .ref (zA Θ 0) :: st) := sorry
theorem w_8_186 : Cond.code ({ cls := "LastLoafModel", name := "figures", desc := "(II)I" } : MethodName) prog_14_method_22_code (5 : Nat) (Option.some ClassFile.FieldType.int) ∈ TB := sorry
theorem w_8_183 : Cond.methodLink "LastLoafModel" (116 : Nat) ({ cls := "LastLoafModel", name := "figures", desc := "(II)I" } : MethodName) ∈ TB := sorry
theorem w_8_185 : Cond.instanceMethod ({ cls := "LastLoafModel", name := "figures", desc := "(II)I" } : MethodName) ∈ TB := sorry
theorem ws_LastLoafModel_figures_II_I : Cond.selects "LastLoafModel" (⟨"LastLoafModel", "figures", "(II)I"⟩ : MethodName) (⟨"LastLoafModel", "figures", "(II)I"⟩ : MethodName) ∈ TB := sorry
theorem cr12_116 {Θ : Tz} {cc : ByteArray} {nL kc ks : Nat} {ret : Option FieldType} {rm : Room} {Q : State → Prop} {σ : St} {pc : Nat} {lv : List (Nat × Value)} {st : List Value} (C : Zc Θ cc nL RX12 ret rm) (hkd : Θ.2.2.2.2.1 = kdM) {low_a : Int32} {high_a : Int32} {r : Int32 × St} (hx : q12_figures σ low_a high_a = some r) (hrm : rm12_figures.frames + 1 ≤ rm.frames ∧ 8 + (5 + 11) + rm12_figures.locals ≤ rm.locals) (hcat : (st.map fun v => v.category).sum ≤ 8) (hk : kc ≤ rm.cells ∧ ks ≤ rm.slots) (hd : decode cc pc = .ok (.invokevirtual 116, 3)) (kk : Z Θ nL kc ks Q r.2 (pc + 3) lv (.int r.1 :: st)) : Z Θ nL kc ks Q σ pc lv (.int high_a :: .int low_a :: .ref (zA Θ 0) :: st) := sorry
def q12_after (σ : St) (w_a : Nat) (low_a : Int32) (high_a : Int32) : Option (Int32 × St) :=
  Option.bind (Option.bind (if (σ 0 12) = (-1) then (Option.bind (q12_has σ w_a) fun x9_ =>
  if x9_.1 = true then (some (false, x9_.2)) else (some (true, x9_.2))) else (some (false, σ))) fun t6_ =>
  if t6_.1 = true then (Option.bind (q12_wrong t6_.2 (t6_.2 0 11)) fun x13_ =>
  some (x13_)) else (some (t6_.2))) fun y1_ =>
  Option.bind (q12_figures y1_ low_a high_a) fun x15_ =>
  some (x15_.1, x15_.2)
abbrev rm12_after : Room := { frames := 5, cells := 0, slots := 0, locals := 108 }
theorem c12_after {l : Launch} {kd : List KD} {w : Wp} {σ : St} {w_a : Nat} {low_a : Int32} {high_a : Int32} (hkd : kd = kdM) (hi : zI kd w) (h_w : w_a < 46) {r : (Int32 × St)} (hf : q12_after σ w_a low_a high_a = some r) : zM l kd w yX12_after cX12_after 4 (some .int) rm12_after [.ref (w.2.2.1 0), .ref (w.2.2.2.1 w_a), .int low_a, .int high_a] σ (some (.int r.1), r.2) := sorry
/-! LastLoafModel.personLine -/
theorem bp_6 : (Int8.ofInt (6)).toInt32 = 6 := sorry
theorem w_9_4 : Cond.code ({ cls := "LastLoafModel", name := "after", desc := "(Ljava/lang/String;II)I" } : MethodName) prog_14_method_23_code (4 : Nat) (Option.some ClassFile.FieldType.int) ∈ TB := sorry
theorem w_9_1 : Cond.methodLink "LastLoafModel" (121 : Nat) ({ cls := "LastLoafModel", name := "after", desc := "(Ljava/lang/String;II)I" } : MethodName) ∈ TB := sorry
theorem w_9_3 : Cond.instanceMethod ({ cls := "LastLoafModel", name := "after", desc := "(Ljava/lang/String;II)I" } : MethodName) ∈ TB := sorry
theorem ws_LastLoafModel_after_Ljava_lang_String_II_I : Cond.selects "LastLoafModel" (⟨"LastLoafModel", "after", "(Ljava/lang/String;II)I"⟩ : MethodName) (⟨"LastLoafModel", "after", "(Ljava/lang/String;II)I"⟩ : MethodName) ∈ TB := sorry
theorem cr12_121 {Θ : Tz} {cc : ByteArray} {nL kc ks : Nat} {ret : Option FieldType} {rm : Room} {Q : State → Prop} {σ : St} {pc : Nat} {lv : List (Nat × Value)} {st : List Value} (C : Zc Θ cc nL RX12 ret rm) (hkd : Θ.2.2.2.2.1 = kdM) {w_a : Nat} {low_a : Int32} {high_a : Int32} (h_w : w_a < 46) {r : Int32 × St} (hx : q12_after σ w_a low_a high_a = some r) (hrm : rm12_after.frames + 1 ≤ rm.frames ∧ 8 + (4 + 11) + rm12_after.locals ≤ rm.locals) (hcat : (st.map fun v => v.category).sum ≤ 8) (hk : kc ≤ rm.cells ∧ ks ≤ rm.slots) (hd : decode cc pc = .ok (.invokevirtual 121, 3)) (kk : Z Θ nL kc ks Q r.2 (pc + 3) lv (.int r.1 :: st)) : Z Θ nL kc ks Q σ pc lv (.int high_a :: .int low_a :: .ref (zK Θ w_a) :: .ref (zA Θ 0) :: st) := sorry
theorem w_9_12 : Cond.code ({ cls := "LastLoafModel", name := "lays", desc := "(III)V" } : MethodName) prog_14_method_9_code (4 : Nat) (Option.none : Option ClassFile.FieldType) ∈ TB := sorry
theorem w_9_9 : Cond.methodLink "LastLoafModel" (135 : Nat) ({ cls := "LastLoafModel", name := "lays", desc := "(III)V" } : MethodName) ∈ TB := sorry
theorem w_9_11 : Cond.instanceMethod ({ cls := "LastLoafModel", name := "lays", desc := "(III)V" } : MethodName) ∈ TB := sorry
theorem ws_LastLoafModel_lays_III_V : Cond.selects "LastLoafModel" (⟨"LastLoafModel", "lays", "(III)V"⟩ : MethodName) (⟨"LastLoafModel", "lays", "(III)V"⟩ : MethodName) ∈ TB := sorry
theorem cr12_135 {Θ : Tz} {cc : ByteArray} {nL kc ks : Nat} {ret : Option FieldType} {rm : Room} {Q : State → Prop} {σ : St} {pc : Nat} {lv : List (Nat × Value)} {st : List Value} (C : Zc Θ cc nL RX12 ret rm) (hkd : Θ.2.2.2.2.1 = kdM) {p_a : Int32} {what_a : Int32} {v_a : Int32} {r : St} (hx : q12_lays σ p_a what_a v_a = some r) (hrm : rm12_lays.frames + 1 ≤ rm.frames ∧ 8 + (4 + 11) + rm12_lays.locals ≤ rm.locals) (hcat : (st.map fun v => v.category).sum ≤ 8) (hk : kc ≤ rm.cells ∧ ks ≤ rm.slots) (hd : decode cc pc = .ok (.invokevirtual 135, 3)) (kk : Z Θ nL kc ks Q r (pc + 3) lv st) : Z Θ nL kc ks Q σ pc lv (.int v_a :: .int what_a :: .int p_a :: .ref (zA Θ 0) :: st) := sorry
theorem ic_5 : Int32.ofInt (5) = 5 := sorry
def q12_personLine (σ : St) (begin_a : Int32) : Option St :=
  Option.bind (Option.bind (ag σ 1 752 3) fun x6_ =>
  if x6_ = 6 then (Option.bind (q12_wrong σ begin_a) fun x10_ =>
  some (x10_)) else (some (σ))) fun y1_ =>
  Option.bind (q12_after y1_ 1 0 9) fun x12_ =>
  Option.bind (Option.bind (if (x12_.2 0 12) = (-1) then (Option.bind (q12_has x12_.2 2) fun x22_ =>
  if x22_.1 = true then (some (true, x22_.2)) else (some (false, x22_.2))) else (some (false, x12_.2))) fun t19_ =>
  if t19_.1 = true then (Option.bind (Option.bind (q12_has t19_.2 3) fun x31_ =>
  if x31_.1 = true then (some ((0 : Int32), x31_.2)) else (Option.bind (Option.bind (q12_has x31_.2 4) fun x39_ =>
  if x39_.1 = true then (some ((1 : Int32), x39_.2)) else (some ((2 : Int32), x39_.2))) fun x34_ =>
  some (x34_.1, x34_.2))) fun x26_ =>
  Option.bind (if x26_.1 = 2 then (Option.bind (q12_here x26_.2) fun x51_ =>
  Option.bind (q12_wrong x51_.2 x51_.1) fun x53_ =>
  some (x53_)) else (some (x26_.2))) fun y44_ =>
  some (x26_.1, y44_)) else (some ((2 : Int32), t19_.2))) fun y14_ =>
  Option.bind (Option.bind (if (y14_.2 0 12) = (-1) then (Option.bind (q12_has y14_.2 5) fun x63_ =>
  if x63_.1 = true then (some (true, x63_.2)) else (some (false, x63_.2))) else (some (false, y14_.2))) fun t60_ =>
  if t60_.1 = true then (Option.bind (q12_figures t60_.2 0 9) fun x66_ =>
  some (x66_.1, x66_.2)) else (some ((0 : Int32), t60_.2))) fun x55_ =>
  Option.bind (Option.bind (if (x55_.2 0 12) = (-1) then (Option.bind (q12_has x55_.2 6) fun x77_ =>
  if x77_.1 = true then (some (true, x77_.2)) else (some (false, x77_.2))) else (some (false, x55_.2))) fun t74_ =>
  if t74_.1 = true then (some (true, t74_.2)) else (some (false, t74_.2))) fun x69_ =>
  if ¬ (x69_.2 0 12) = (-1) then (some x69_.2) else
  Option.bind (ag x69_.2 1 752 3) fun x85_ =>
  Option.bind (loop2 (fun rec90_ (k93_ : Int32) (σ94_ : St) =>
  if k93_ < 7 then
  Option.bind (q12_lays σ94_ x85_ k93_ 0) fun x101_ =>
  lt (k93_ + 1) fun k103_ =>
  rec90_ k103_ x101_
  else (some (k93_, σ94_))) fuelN (0 : Int32) x69_.2) fun y87_ =>
  Option.bind (q12_lays y87_.2 x85_ 0 x12_.1) fun x105_ =>
  Option.bind (q12_lays x105_ x85_ 1 y14_.1) fun x107_ =>
  Option.bind (q12_lays x107_ x85_ 2 x55_.1) fun x109_ =>
  Option.bind (q12_lays x109_ x85_ 3 (if x69_.1 = true then 1 else 0)) fun x116_ =>
  Option.bind (loop2 (fun rec121_ (o124_ : Int32) (σ125_ : St) =>
  if o124_ < 6 then
  Option.bind (sa σ125_ 1 752 ((63 + (7 * x85_)) + o124_) 5) fun σ132_ =>
  Option.bind (sa σ132_ 1 752 ((63 + (7 * o124_)) + x85_) 5) fun σ134_ =>
  lt (o124_ + 1) fun o136_ =>
  rec121_ o136_ σ134_
  else (some (o124_, σ125_))) fuelN (0 : Int32) x116_) fun y118_ =>
  Option.bind (ag y118_.2 1 752 3) fun x138_ =>
  Option.bind (sa y118_.2 1 752 3 (x138_ + 1)) fun σ140_ =>
  some σ140_
abbrev rm12_personLine : Room := { frames := 6, cells := 0, slots := 0, locals := 131 }
theorem c12_personLine {l : Launch} {kd : List KD} {w : Wp} {σ : St} {begin_a : Int32} (hkd : kd = kdM) (hi : zI kd w) {r : St} (hf : q12_personLine σ begin_a = some r) : zM l kd w yX12_personLine cX12_personLine 8 none rm12_personLine [.ref (w.2.2.1 0), .int begin_a] σ (none, r) := sorry
/-! LastLoafModel.likesLine -/
def q12_likesLine (σ : St) : Option St :=
  Option.bind (ag σ 1 752 3) fun x1_ =>
  Option.bind (q12_figures σ 0 (x1_ - 1)) fun x3_ =>
  Option.bind (q12_here x3_.2) fun x5_ =>
  Option.bind (ag x5_.2 1 752 3) fun x7_ =>
  Option.bind (q12_figures x5_.2 0 (x7_ - 1)) fun x9_ =>
  Option.bind (if ((x9_.2 0 12) = (-1)) ∧ (x9_.1 = x3_.1) then (Option.bind (q12_wrong x9_.2 x5_.1) fun x19_ =>
  some (x19_)) else (some (x9_.2))) fun y11_ =>
  Option.bind (q12_figures y11_ 0 9) fun x21_ =>
  Option.bind (if (x21_.2 0 12) = (-1) then (Option.bind (sa x21_.2 1 752 ((63 + (7 * x3_.1)) + x9_.1) x21_.1) fun σ30_ =>
  some (σ30_)) else (some (x21_.2))) fun y23_ =>
  some y23_
abbrev rm12_likesLine : Room := { frames := 4, cells := 0, slots := 0, locals := 85 }
theorem c12_likesLine {l : Launch} {kd : List KD} {w : Wp} {σ : St} (hkd : kd = kdM) (hi : zI kd w) {r : St} (hf : q12_likesLine σ = some r) : zM l kd w yX12_likesLine cX12_likesLine 5 none rm12_likesLine [.ref (w.2.2.1 0)] σ (none, r) := sorry
/-! LastLoafModel.gristLine -/
theorem bp_99 : (Int8.ofInt (99)).toInt32 = 99 := sorry
def q12_gristLine (σ : St) : Option St :=
  Option.bind (Option.bind (q12_has σ 9) fun x6_ =>
  if x6_.1 = true then (some ((0 : Int32), x6_.2)) else (Option.bind (Option.bind (q12_has x6_.2 10) fun x14_ =>
  if x14_.1 = true then (some ((1 : Int32), x14_.2)) else (Option.bind (Option.bind (q12_has x14_.2 11) fun x22_ =>
  if x22_.1 = true then (some ((2 : Int32), x22_.2)) else (Option.bind (Option.bind (q12_has x22_.2 12) fun x30_ =>
  if x30_.1 = true then (some ((3 : Int32), x30_.2)) else (some ((-1 : Int32), x30_.2))) fun x25_ =>
  some (x25_.1, x25_.2))) fun x17_ =>
  some (x17_.1, x17_.2))) fun x9_ =>
  some (x9_.1, x9_.2))) fun x1_ =>
  Option.bind (if x1_.1 = (-1) then (Option.bind (q12_here x1_.2) fun x44_ =>
  Option.bind (q12_wrong x44_.2 x44_.1) fun x46_ =>
  some (x46_)) else (some (x1_.2))) fun y37_ =>
  Option.bind (q12_figures y37_ 0 99) fun x48_ =>
  Option.bind (if (x48_.2 0 12) = (-1) then (Option.bind (sa x48_.2 1 752 (10 + x1_.1) x48_.1) fun σ57_ =>
  some (σ57_)) else (some (x48_.2))) fun y50_ =>
  some y50_
abbrev rm12_gristLine : Room := { frames := 5, cells := 0, slots := 0, locals := 108 }
theorem c12_gristLine {l : Launch} {kd : List KD} {w : Wp} {σ : St} (hkd : kd = kdM) (hi : zI kd w) {r : St} (hf : q12_gristLine σ = some r) : zM l kd w yX12_gristLine cX12_gristLine 3 none rm12_gristLine [.ref (w.2.2.1 0)] σ (none, r) := sorry
/-! LastLoafModel.tells -/
def q12_tells (σ : St) (where_a : Int32) (low_a : Int32) (most_a : Int32) : Option St :=
  Option.bind (q12_figures σ low_a most_a) fun x1_ =>
  Option.bind (if (x1_.2 0 12) = (-1) then (Option.bind (sa x1_.2 1 752 where_a x1_.1) fun σ10_ =>
  some (σ10_)) else (some (x1_.2))) fun y3_ =>
  some y3_
abbrev rm12_tells : Room := { frames := 4, cells := 0, slots := 0, locals := 85 }
theorem c12_tells {l : Launch} {kd : List KD} {w : Wp} {σ : St} {where_a : Int32} {low_a : Int32} {most_a : Int32} (hkd : kd = kdM) (hi : zI kd w) {r : St} (hf : q12_tells σ where_a low_a most_a = some r) : zM l kd w yX12_tells cX12_tells 5 none rm12_tells [.ref (w.2.2.1 0), .int where_a, .int low_a, .int most_a] σ (none, r) := sorry
/-! LastLoafModel.villageLine -/
theorem w_9_0 : Cond.code ({ cls := "LastLoafModel", name := "personLine", desc := "(I)V" } : MethodName) prog_14_method_24_code (8 : Nat) (Option.none : Option ClassFile.FieldType) ∈ TB := sorry
theorem w_8_237 : Cond.methodLink "LastLoafModel" (149 : Nat) ({ cls := "LastLoafModel", name := "personLine", desc := "(I)V" } : MethodName) ∈ TB := sorry
theorem w_8_239 : Cond.instanceMethod ({ cls := "LastLoafModel", name := "personLine", desc := "(I)V" } : MethodName) ∈ TB := sorry
theorem ws_LastLoafModel_personLine_I_V : Cond.selects "LastLoafModel" (⟨"LastLoafModel", "personLine", "(I)V"⟩ : MethodName) (⟨"LastLoafModel", "personLine", "(I)V"⟩ : MethodName) ∈ TB := sorry
theorem cr12_149 {Θ : Tz} {cc : ByteArray} {nL kc ks : Nat} {ret : Option FieldType} {rm : Room} {Q : State → Prop} {σ : St} {pc : Nat} {lv : List (Nat × Value)} {st : List Value} (C : Zc Θ cc nL RX12 ret rm) (hkd : Θ.2.2.2.2.1 = kdM) {begin_a : Int32} {r : St} (hx : q12_personLine σ begin_a = some r) (hrm : rm12_personLine.frames + 1 ≤ rm.frames ∧ 8 + (8 + 11) + rm12_personLine.locals ≤ rm.locals) (hcat : (st.map fun v => v.category).sum ≤ 8) (hk : kc ≤ rm.cells ∧ ks ≤ rm.slots) (hd : decode cc pc = .ok (.invokevirtual 149, 3)) (kk : Z Θ nL kc ks Q r (pc + 3) lv st) : Z Θ nL kc ks Q σ pc lv (.int begin_a :: .ref (zA Θ 0) :: st) := sorry
theorem w_9_16 : Cond.code ({ cls := "LastLoafModel", name := "likesLine", desc := "()V" } : MethodName) prog_14_method_25_code (5 : Nat) (Option.none : Option ClassFile.FieldType) ∈ TB := sorry
theorem w_9_13 : Cond.methodLink "LastLoafModel" (154 : Nat) ({ cls := "LastLoafModel", name := "likesLine", desc := "()V" } : MethodName) ∈ TB := sorry
theorem w_9_15 : Cond.instanceMethod ({ cls := "LastLoafModel", name := "likesLine", desc := "()V" } : MethodName) ∈ TB := sorry
theorem ws_LastLoafModel_likesLine__V : Cond.selects "LastLoafModel" (⟨"LastLoafModel", "likesLine", "()V"⟩ : MethodName) (⟨"LastLoafModel", "likesLine", "()V"⟩ : MethodName) ∈ TB := sorry
theorem cr12_154 {Θ : Tz} {cc : ByteArray} {nL kc ks : Nat} {ret : Option FieldType} {rm : Room} {Q : State → Prop} {σ : St} {pc : Nat} {lv : List (Nat × Value)} {st : List Value} (C : Zc Θ cc nL RX12 ret rm) (hkd : Θ.2.2.2.2.1 = kdM) {r : St} (hx : q12_likesLine σ = some r) (hrm : rm12_likesLine.frames + 1 ≤ rm.frames ∧ 8 + (5 + 11) + rm12_likesLine.locals ≤ rm.locals) (hcat : (st.map fun v => v.category).sum ≤ 8) (hk : kc ≤ rm.cells ∧ ks ≤ rm.slots) (hd : decode cc pc = .ok (.invokevirtual 154, 3)) (kk : Z Θ nL kc ks Q r (pc + 3) lv st) : Z Θ nL kc ks Q σ pc lv (.ref (zA Θ 0) :: st) := sorry
theorem sp_999 : (Int16.ofInt (999)).toInt32 = 999 := sorry
theorem w_9_21 : Cond.code ({ cls := "LastLoafModel", name := "tells", desc := "(III)V" } : MethodName) prog_14_method_27_code (5 : Nat) (Option.none : Option ClassFile.FieldType) ∈ TB := sorry
theorem w_9_18 : Cond.methodLink "LastLoafModel" (159 : Nat) ({ cls := "LastLoafModel", name := "tells", desc := "(III)V" } : MethodName) ∈ TB := sorry
theorem w_9_20 : Cond.instanceMethod ({ cls := "LastLoafModel", name := "tells", desc := "(III)V" } : MethodName) ∈ TB := sorry
theorem ws_LastLoafModel_tells_III_V : Cond.selects "LastLoafModel" (⟨"LastLoafModel", "tells", "(III)V"⟩ : MethodName) (⟨"LastLoafModel", "tells", "(III)V"⟩ : MethodName) ∈ TB := sorry
theorem cr12_159 {Θ : Tz} {cc : ByteArray} {nL kc ks : Nat} {ret : Option FieldType} {rm : Room} {Q : State → Prop} {σ : St} {pc : Nat} {lv : List (Nat × Value)} {st : List Value} (C : Zc Θ cc nL RX12 ret rm) (hkd : Θ.2.2.2.2.1 = kdM) {where_a : Int32} {low_a : Int32} {most_a : Int32} {r : St} (hx : q12_tells σ where_a low_a most_a = some r) (hrm : rm12_tells.frames + 1 ≤ rm.frames ∧ 8 + (5 + 11) + rm12_tells.locals ≤ rm.locals) (hcat : (st.map fun v => v.category).sum ≤ 8) (hk : kc ≤ rm.cells ∧ ks ≤ rm.slots) (hd : decode cc pc = .ok (.invokevirtual 159, 3)) (kk : Z Θ nL kc ks Q r (pc + 3) lv st) : Z Θ nL kc ks Q σ pc lv (.int most_a :: .int low_a :: .int where_a :: .ref (zA Θ 0) :: st) := sorry
theorem w_9_26 : Cond.code ({ cls := "LastLoafModel", name := "gristLine", desc := "()V" } : MethodName) prog_14_method_26_code (3 : Nat) (Option.none : Option ClassFile.FieldType) ∈ TB := sorry
theorem w_9_23 : Cond.methodLink "LastLoafModel" (164 : Nat) ({ cls := "LastLoafModel", name := "gristLine", desc := "()V" } : MethodName) ∈ TB := sorry
theorem w_9_25 : Cond.instanceMethod ({ cls := "LastLoafModel", name := "gristLine", desc := "()V" } : MethodName) ∈ TB := sorry
theorem ws_LastLoafModel_gristLine__V : Cond.selects "LastLoafModel" (⟨"LastLoafModel", "gristLine", "()V"⟩ : MethodName) (⟨"LastLoafModel", "gristLine", "()V"⟩ : MethodName) ∈ TB := sorry
theorem cr12_164 {Θ : Tz} {cc : ByteArray} {nL kc ks : Nat} {ret : Option FieldType} {rm : Room} {Q : State → Prop} {σ : St} {pc : Nat} {lv : List (Nat × Value)} {st : List Value} (C : Zc Θ cc nL RX12 ret rm) (hkd : Θ.2.2.2.2.1 = kdM) {r : St} (hx : q12_gristLine σ = some r) (hrm : rm12_gristLine.frames + 1 ≤ rm.frames ∧ 8 + (3 + 11) + rm12_gristLine.locals ≤ rm.locals) (hcat : (st.map fun v => v.category).sum ≤ 8) (hk : kc ≤ rm.cells ∧ ks ≤ rm.slots) (hd : decode cc pc = .ok (.invokevirtual 164, 3)) (kk : Z Θ nL kc ks Q r (pc + 3) lv st) : Z Θ nL kc ks Q σ pc lv (.ref (zA Θ 0) :: st) := sorry
theorem bp_100 : (Int8.ofInt (100)).toInt32 = 100 := sorry
def q12_villageLine (σ : St) : Option St :=
  Option.bind (q12_here σ) fun x1_ =>
  Option.bind (Option.bind (q12_has x1_.2 0) fun x8_ =>
  if x8_.1 = true then (Option.bind (q12_personLine x8_.2 x1_.1) fun x12_ =>
  some (x12_)) else (Option.bind (Option.bind (q12_has x8_.2 7) fun x19_ =>
  if x19_.1 = true then (Option.bind (q12_likesLine x19_.2) fun x23_ =>
  some (x23_)) else (Option.bind (Option.bind (q12_has x19_.2 13) fun x30_ =>
  if x30_.1 = true then (Option.bind (q12_tells x30_.2 5 0 999) fun x34_ =>
  some (x34_)) else (Option.bind (Option.bind (q12_has x30_.2 8) fun x41_ =>
  if x41_.1 = true then (Option.bind (q12_gristLine x41_.2) fun x45_ =>
  some (x45_)) else (Option.bind (Option.bind (q12_has x41_.2 14) fun x52_ =>
  if x52_.1 = true then (Option.bind (q12_tells x52_.2 6 0 5) fun x56_ =>
  some (x56_)) else (Option.bind (Option.bind (q12_has x52_.2 15) fun x63_ =>
  if x63_.1 = true then (Option.bind (q12_tells x63_.2 7 0 100) fun x67_ =>
  some (x67_)) else (Option.bind (Option.bind (q12_has x63_.2 16) fun x74_ =>
  if x74_.1 = true then (Option.bind (q12_tells x74_.2 4 0 999) fun x78_ =>
  some (x78_)) else (Option.bind (q12_wrong x74_.2 (x74_.2 0 11)) fun x80_ =>
  some (x80_))) fun y69_ =>
  some (y69_))) fun y58_ =>
  some (y58_))) fun y47_ =>
  some (y47_))) fun y36_ =>
  some (y36_))) fun y25_ =>
  some (y25_))) fun y14_ =>
  some (y14_))) fun y3_ =>
  some y3_
abbrev rm12_villageLine : Room := { frames := 7, cells := 0, slots := 0, locals := 158 }
theorem c12_villageLine {l : Launch} {kd : List KD} {w : Wp} {σ : St} (hkd : kd = kdM) (hi : zI kd w) {r : St} (hf : q12_villageLine σ = some r) : zM l kd w yX12_villageLine cX12_villageLine 2 none rm12_villageLine [.ref (w.2.2.1 0)] σ (none, r) := sorry
/-! LastLoafModel.begins -/
theorem fp12_79 {Θ : Tz} {cc : ByteArray} {nL kc ks : Nat} {ret : Option FieldType} {rm : Room} {Q : State → Prop} {σ : St} {pc : Nat} {lv : List (Nat × Value)} {st : List Value} (C : Zc Θ cc nL RX12 ret rm) (hkd : Θ.2.2.2.2.1 = kdM) {x : Int32} {σ1 : St} (he : σ1 = up σ 0 9 x) (hd : decode cc pc = .ok (.putfield 79, 3)) (kk : Z Θ nL kc ks Q σ1 (pc + 3) lv st) : Z Θ nL kc ks Q σ pc lv (.int x :: .ref (zA Θ 0) :: st) := sorry
theorem fp12_85 {Θ : Tz} {cc : ByteArray} {nL kc ks : Nat} {ret : Option FieldType} {rm : Room} {Q : State → Prop} {σ : St} {pc : Nat} {lv : List (Nat × Value)} {st : List Value} (C : Zc Θ cc nL RX12 ret rm) (hkd : Θ.2.2.2.2.1 = kdM) {x : Int32} {σ1 : St} (he : σ1 = up σ 0 10 x) (hd : decode cc pc = .ok (.putfield 85, 3)) (kk : Z Θ nL kc ks Q σ1 (pc + 3) lv st) : Z Θ nL kc ks Q σ pc lv (.int x :: .ref (zA Θ 0) :: st) := sorry
theorem w_8_40 : Cond.fieldLink "LastLoafModel" (173 : Nat) "LastLoafModel" "deep" "I" ∈ TB := sorry
theorem fp12_173 {Θ : Tz} {cc : ByteArray} {nL kc ks : Nat} {ret : Option FieldType} {rm : Room} {Q : State → Prop} {σ : St} {pc : Nat} {lv : List (Nat × Value)} {st : List Value} (C : Zc Θ cc nL RX12 ret rm) (hkd : Θ.2.2.2.2.1 = kdM) {x : Int32} {σ1 : St} (he : σ1 = up σ 0 13 x) (hd : decode cc pc = .ok (.putfield 173, 3)) (kk : Z Θ nL kc ks Q σ1 (pc + 3) lv st) : Z Θ nL kc ks Q σ pc lv (.int x :: .ref (zA Θ 0) :: st) := sorry
def q12_begins (σ : St) : Option St :=
  lt (up σ 0 12 (-1)) fun σ1_ =>
  lt (up σ1_ 0 9 (-1)) fun σ3_ =>
  lt (up σ3_ 0 10 (σ3_ 0 8)) fun σ5_ =>
  lt (up σ5_ 0 8 0) fun σ7_ =>
  lt (up σ7_ 0 11 0) fun σ9_ =>
  lt (up σ9_ 0 13 0) fun σ11_ =>
  some σ11_
abbrev rm12_begins : Room := { frames := 0, cells := 0, slots := 0, locals := 0 }
theorem c12_begins {l : Launch} {kd : List KD} {w : Wp} {σ : St} (hkd : kd = kdM) (hi : zI kd w) {r : St} (hf : q12_begins σ = some r) : zM l kd w yX12_begins cX12_begins 1 none rm12_begins [.ref (w.2.2.1 0)] σ (none, r) := sorry
/-! LastLoafModel.part -/
theorem w_8_41 : Cond.fieldLink "LastLoafModel" (29 : Nat) "LastLoafModel" "fact" "[I" ∈ TB := sorry
theorem fg12_29 {Θ : Tz} {cc : ByteArray} {nL kc ks : Nat} {ret : Option FieldType} {rm : Room} {Q : State → Prop} {σ : St} {pc : Nat} {lv : List (Nat × Value)} {st : List Value} (C : Zc Θ cc nL RX12 ret rm) (hkd : Θ.2.2.2.2.1 = kdM) (hd : decode cc pc = .ok (.getfield 29, 3)) (kk : Z Θ nL kc ks Q σ (pc + 3) lv (.ref (zA Θ 6) :: st)) : Z Θ nL kc ks Q σ pc lv (.ref (zA Θ 0) :: st) := sorry
def q12_part (σ : St) : Option (Int32 × St) :=
  if ¬ (σ 0 12) = (-1) then (some (0, σ)) else
  Option.bind (q12_skip σ) fun x5_ =>
  Option.bind (if (x5_ 0 11) < (x5_ 0 10) then (Option.bind (q12_letter x5_ (x5_ 0 11)) fun x12_ =>
  if q12_isIn x12_ 48 57 = true then (some true) else (some false)) else (some false)) fun t9_ =>
  if t9_ = true then (Option.bind (q12_figures x5_ 0 999) fun x16_ =>
  some (x16_.1, x16_.2)) else
  Option.bind (Option.bind (q12_has x5_ 26) fun x23_ =>
  if x23_.1 = true then (some ((0 : Int32), x23_.2)) else (Option.bind (Option.bind (q12_has x23_.2 27) fun x31_ =>
  if x31_.1 = true then (some ((1 : Int32), x31_.2)) else (Option.bind (Option.bind (q12_has x31_.2 7) fun x39_ =>
  if x39_.1 = true then (some ((2 : Int32), x39_.2)) else (Option.bind (Option.bind (q12_has x39_.2 1) fun x47_ =>
  if x47_.1 = true then (some ((3 : Int32), x47_.2)) else (Option.bind (Option.bind (q12_has x47_.2 28) fun x55_ =>
  if x55_.1 = true then (some ((4 : Int32), x55_.2)) else (Option.bind (Option.bind (q12_has x55_.2 29) fun x63_ =>
  if x63_.1 = true then (some ((5 : Int32), x63_.2)) else (Option.bind (Option.bind (q12_has x63_.2 5) fun x71_ =>
  if x71_.1 = true then (some ((6 : Int32), x71_.2)) else (some ((-1 : Int32), x71_.2))) fun x66_ =>
  some (x66_.1, x66_.2))) fun x58_ =>
  some (x58_.1, x58_.2))) fun x50_ =>
  some (x50_.1, x50_.2))) fun x42_ =>
  some (x42_.1, x42_.2))) fun x34_ =>
  some (x34_.1, x34_.2))) fun x26_ =>
  some (x26_.1, x26_.2))) fun x18_ =>
  if x18_.1 = (-1) then (Option.bind (q12_wrong x18_.2 (x18_.2 0 11)) fun x85_ =>
  some (0, x85_)) else
  Option.bind (ag x18_.2 6 7 x18_.1) fun x87_ =>
  some (x87_, x18_.2)
abbrev rm12_part : Room := { frames := 5, cells := 0, slots := 0, locals := 108 }
theorem c12_part {l : Launch} {kd : List KD} {w : Wp} {σ : St} (hkd : kd = kdM) (hi : zI kd w) {r : (Int32 × St)} (hf : q12_part σ = some r) : zM l kd w yX12_part cX12_part 2 (some .int) rm12_part [.ref (w.2.2.1 0)] σ (some (.int r.1), r.2) := sorry
/-! LastLoafModel.sum -/
theorem w_8_222 : Cond.code ({ cls := "LastLoafModel", name := "part", desc := "()I" } : MethodName) prog_14_method_34_code (2 : Nat) (Option.some ClassFile.FieldType.int) ∈ TB := sorry
theorem w_8_219 : Cond.methodLink "LastLoafModel" (210 : Nat) ({ cls := "LastLoafModel", name := "part", desc := "()I" } : MethodName) ∈ TB := sorry
theorem w_8_221 : Cond.instanceMethod ({ cls := "LastLoafModel", name := "part", desc := "()I" } : MethodName) ∈ TB := sorry
theorem ws_LastLoafModel_part__I : Cond.selects "LastLoafModel" (⟨"LastLoafModel", "part", "()I"⟩ : MethodName) (⟨"LastLoafModel", "part", "()I"⟩ : MethodName) ∈ TB := sorry
theorem cr12_210 {Θ : Tz} {cc : ByteArray} {nL kc ks : Nat} {ret : Option FieldType} {rm : Room} {Q : State → Prop} {σ : St} {pc : Nat} {lv : List (Nat × Value)} {st : List Value} (C : Zc Θ cc nL RX12 ret rm) (hkd : Θ.2.2.2.2.1 = kdM) {r : Int32 × St} (hx : q12_part σ = some r) (hrm : rm12_part.frames + 1 ≤ rm.frames ∧ 8 + (2 + 11) + rm12_part.locals ≤ rm.locals) (hcat : (st.map fun v => v.category).sum ≤ 8) (hk : kc ≤ rm.cells ∧ ks ≤ rm.slots) (hd : decode cc pc = .ok (.invokevirtual 210, 3)) (kk : Z Θ nL kc ks Q r.2 (pc + 3) lv (.int r.1 :: st)) : Z Θ nL kc ks Q σ pc lv (.ref (zA Θ 0) :: st) := sorry
theorem bp_43 : (Int8.ofInt (43)).toInt32 = 43 := sorry
theorem w_8_208 : Cond.code ({ cls := "LastLoafModel", name := "isSign", desc := "(I)Z" } : MethodName) prog_14_method_18_code (2 : Nat) (Option.some ClassFile.FieldType.boolean) ∈ TB := sorry
theorem w_8_205 : Cond.methodLink "LastLoafModel" (182 : Nat) ({ cls := "LastLoafModel", name := "isSign", desc := "(I)Z" } : MethodName) ∈ TB := sorry
theorem w_8_207 : Cond.instanceMethod ({ cls := "LastLoafModel", name := "isSign", desc := "(I)Z" } : MethodName) ∈ TB := sorry
theorem ws_LastLoafModel_isSign_I_Z : Cond.selects "LastLoafModel" (⟨"LastLoafModel", "isSign", "(I)Z"⟩ : MethodName) (⟨"LastLoafModel", "isSign", "(I)Z"⟩ : MethodName) ∈ TB := sorry
theorem cr12_182 {Θ : Tz} {cc : ByteArray} {nL kc ks : Nat} {ret : Option FieldType} {rm : Room} {Q : State → Prop} {σ : St} {pc : Nat} {lv : List (Nat × Value)} {st : List Value} (C : Zc Θ cc nL RX12 ret rm) (hkd : Θ.2.2.2.2.1 = kdM) {c_a : Int32} {r : Bool × St} (hx : q12_isSign σ c_a = some r) (hrm : rm12_isSign.frames + 1 ≤ rm.frames ∧ 8 + (2 + 11) + rm12_isSign.locals ≤ rm.locals) (hcat : (st.map fun v => v.category).sum ≤ 8) (hk : kc ≤ rm.cells ∧ ks ≤ rm.slots) (hd : decode cc pc = .ok (.invokevirtual 182, 3)) (kk : Z Θ nL kc ks Q r.2 (pc + 3) lv (.int (b2i r.1) :: st)) : Z Θ nL kc ks Q σ pc lv (.int c_a :: .ref (zA Θ 0) :: st) := sorry
def q12_sum (σ : St) : Option (Int32 × St) :=
  Option.bind (q12_part σ) fun x1_ =>
  Option.bind (loop2 (fun rec6_ (n9_ : Int32) (σ10_ : St) =>
  Option.bind (if (σ10_ 0 12) = (-1) then (Option.bind (q12_isSign σ10_ 43) fun x18_ =>
  if x18_.1 = true then (some (true, x18_.2)) else (some (false, x18_.2))) else (some (false, σ10_))) fun t15_ =>
  if t15_.1 = true then
  lt (up t15_.2 0 11 ((t15_.2 0 11) + 1)) fun σ22_ =>
  Option.bind (q12_part σ22_) fun x24_ =>
  lt (n9_ + x24_.1) fun n26_ =>
  rec6_ n26_ x24_.2
  else (some (n9_, t15_.2))) fuelN x1_.1 x1_.2) fun y3_ =>
  some (y3_.1, y3_.2)
abbrev rm12_sum : Room := { frames := 6, cells := 0, slots := 0, locals := 129 }
theorem c12_sum {l : Launch} {kd : List KD} {w : Wp} {σ : St} (hkd : kd = kdM) (hi : zI kd w) {r : (Int32 × St)} (hf : q12_sum σ = some r) : zM l kd w yX12_sum cX12_sum 2 (some .int) rm12_sum [.ref (w.2.2.1 0)] σ (some (.int r.1), r.2) := sorry
/-! LastLoafModel.plain -/
theorem w_8_42 : Cond.fieldLink "LastLoafModel" (215 : Nat) "LastLoafModel" "isSame" "Z" ∈ TB := sorry
theorem fg12_215 {Θ : Tz} {cc : ByteArray} {nL kc ks : Nat} {ret : Option FieldType} {rm : Room} {Q : State → Prop} {σ : St} {pc : Nat} {lv : List (Nat × Value)} {st : List Value} (C : Zc Θ cc nL RX12 ret rm) (hkd : Θ.2.2.2.2.1 = kdM) (hd : decode cc pc = .ok (.getfield 215, 3)) (kk : Z Θ nL kc ks Q σ (pc + 3) lv (.int (σ 0 15) :: st)) : Z Θ nL kc ks Q σ pc lv (.ref (zA Θ 0) :: st) := sorry
theorem w_8_43 : Cond.fieldLink "LastLoafModel" (221 : Nat) "LastLoafModel" "isStanding" "Z" ∈ TB := sorry
theorem fg12_221 {Θ : Tz} {cc : ByteArray} {nL kc ks : Nat} {ret : Option FieldType} {rm : Room} {Q : State → Prop} {σ : St} {pc : Nat} {lv : List (Nat × Value)} {st : List Value} (C : Zc Θ cc nL RX12 ret rm) (hkd : Θ.2.2.2.2.1 = kdM) (hd : decode cc pc = .ok (.getfield 221, 3)) (kk : Z Θ nL kc ks Q σ (pc + 3) lv (.int (σ 0 16) :: st)) : Z Θ nL kc ks Q σ pc lv (.ref (zA Θ 0) :: st) := sorry
theorem w_8_218 : Cond.code ({ cls := "LastLoafModel", name := "sum", desc := "()I" } : MethodName) prog_14_method_35_code (2 : Nat) (Option.some ClassFile.FieldType.int) ∈ TB := sorry
theorem w_8_215 : Cond.methodLink "LastLoafModel" (224 : Nat) ({ cls := "LastLoafModel", name := "sum", desc := "()I" } : MethodName) ∈ TB := sorry
theorem w_8_217 : Cond.instanceMethod ({ cls := "LastLoafModel", name := "sum", desc := "()I" } : MethodName) ∈ TB := sorry
theorem ws_LastLoafModel_sum__I : Cond.selects "LastLoafModel" (⟨"LastLoafModel", "sum", "()I"⟩ : MethodName) (⟨"LastLoafModel", "sum", "()I"⟩ : MethodName) ∈ TB := sorry
theorem cr12_224 {Θ : Tz} {cc : ByteArray} {nL kc ks : Nat} {ret : Option FieldType} {rm : Room} {Q : State → Prop} {σ : St} {pc : Nat} {lv : List (Nat × Value)} {st : List Value} (C : Zc Θ cc nL RX12 ret rm) (hkd : Θ.2.2.2.2.1 = kdM) {r : Int32 × St} (hx : q12_sum σ = some r) (hrm : rm12_sum.frames + 1 ≤ rm.frames ∧ 8 + (2 + 11) + rm12_sum.locals ≤ rm.locals) (hcat : (st.map fun v => v.category).sum ≤ 8) (hk : kc ≤ rm.cells ∧ ks ≤ rm.slots) (hd : decode cc pc = .ok (.invokevirtual 224, 3)) (kk : Z Θ nL kc ks Q r.2 (pc + 3) lv (.int r.1 :: st)) : Z Θ nL kc ks Q σ pc lv (.ref (zA Θ 0) :: st) := sorry
theorem bp_60 : (Int8.ofInt (60)).toInt32 = 60 := sorry
theorem bp_62 : (Int8.ofInt (62)).toInt32 = 62 := sorry
def q12_plain (σ : St) : Option (Bool × St) :=
  Option.bind (q12_has σ 24) fun x3_ =>
  if x3_.1 = true then (Option.bind (toB (x3_.2 0 15)) fun b7_ =>
  some (b7_, x3_.2)) else
  Option.bind (q12_has x3_.2 25) fun x11_ =>
  if x11_.1 = true then (Option.bind (toB (x11_.2 0 16)) fun b15_ =>
  some (b15_, x11_.2)) else
  Option.bind (q12_sum x11_.2) fun x17_ =>
  if ¬ (x17_.2 0 12) = (-1) then (some (false, x17_.2)) else
  Option.bind (q12_isSign x17_.2 60) fun x23_ =>
  Option.bind (if x23_.1 = true then (some (false, x23_.2)) else (Option.bind (q12_isSign x23_.2 62) fun x30_ =>
  if x30_.1 = true then (some (false, x30_.2)) else (some (true, x30_.2)))) fun t27_ =>
  if t27_.1 = true then (Option.bind (q12_wrong t27_.2 (t27_.2 0 11)) fun x34_ =>
  some (false, x34_)) else
  lt (up t27_.2 0 11 ((t27_.2 0 11) + 1)) fun σ36_ =>
  Option.bind (q12_sum σ36_) fun x38_ =>
  some (if x23_.1 = true then decide (x17_.1 < x38_.1) else decide (x38_.1 < x17_.1), x38_.2)
abbrev rm12_plain : Room := { frames := 7, cells := 0, slots := 0, locals := 150 }
theorem c12_plain {l : Launch} {kd : List KD} {w : Wp} {σ : St} (hkd : kd = kdM) (hi : zI kd w) {r : (Bool × St)} (hf : q12_plain σ = some r) : zM l kd w yX12_plain cX12_plain 4 (some .boolean) rm12_plain [.ref (w.2.2.1 0)] σ (some (.int (b2i r.1)), r.2) := sorry
/-! LastLoafModel.every -/
theorem w_8_203 : Cond.code ({ cls := "LastLoafModel", name := "atom", desc := "()Z" } : MethodName) prog_14_method_37_code (4 : Nat) (Option.some ClassFile.FieldType.boolean) ∈ TB := sorry
theorem w_8_200 : Cond.methodLink "LastLoafModel" (233 : Nat) ({ cls := "LastLoafModel", name := "atom", desc := "()Z" } : MethodName) ∈ TB := sorry
theorem w_8_202 : Cond.instanceMethod ({ cls := "LastLoafModel", name := "atom", desc := "()Z" } : MethodName) ∈ TB := sorry
theorem ws_LastLoafModel_atom__Z : Cond.selects "LastLoafModel" (⟨"LastLoafModel", "atom", "()Z"⟩ : MethodName) (⟨"LastLoafModel", "atom", "()Z"⟩ : MethodName) ∈ TB := sorry
theorem cr12_233 {Θ : Tz} {cc : ByteArray} {nL kc ks : Nat} {ret : Option FieldType} {rm : Room} {Q : State → Prop} {σ : St} {pc : Nat} {lv : List (Nat × Value)} {st : List Value} (C : Zc Θ cc nL RX12 ret rm) (hkd : Θ.2.2.2.2.1 = kdM) {A_ : St → Option (Bool × St)} {d_ : Nat} (hA : zRec12_atom Θ.1.2.1 Θ.2.2.2.2.1 Θ.2.2.2.2.2 A_ d_) {r : Bool × St} (hx : A_ σ = some r) (hrm : (rmR12_atom d_).frames + 1 ≤ rm.frames ∧ 8 + (4 + 11) + (rmR12_atom d_).locals ≤ rm.locals) (hcat : (st.map fun v => v.category).sum ≤ 8) (hk : kc ≤ rm.cells ∧ ks ≤ rm.slots) (hd : decode cc pc = .ok (.invokevirtual 233, 3)) (kk : Z Θ nL kc ks Q r.2 (pc + 3) lv (.int (b2i r.1) :: st)) : Z Θ nL kc ks Q σ pc lv (.ref (zA Θ 0) :: st) := sorry
def q12_every (A_ : St → Option (Bool × St)) (σ : St) : Option (Bool × St) :=
  Option.bind (A_ σ) fun x1_ =>
  Option.bind (loop2 (fun rec6_ (v9_ : Bool) (σ10_ : St) =>
  Option.bind (if (σ10_ 0 12) = (-1) then (Option.bind (q12_has σ10_ 30) fun x18_ =>
  if x18_.1 = true then (some (true, x18_.2)) else (some (false, x18_.2))) else (some (false, σ10_))) fun t15_ =>
  if t15_.1 = true then
  Option.bind (A_ t15_.2) fun x22_ =>
  lt (decide ((v9_ = true) ∧ (x22_.1 = true))) fun v30_ =>
  rec6_ v30_ x22_.2
  else (some (v9_, t15_.2))) fuelN x1_.1 x1_.2) fun y3_ =>
  some (y3_.1, y3_.2)
theorem c12_every {l : Launch} {kd : List KD} {w : Wp} {σ : St} {A_ : St → Option (Bool × St)} {d_ : Nat} (hkd : kd = kdM) (hi : zI kd w) (hA : zRec12_atom l kd w A_ d_) {r : (Bool × St)} (hf : q12_every A_ σ = some r) : zM l kd w yX12_every cX12_every 3 (some .boolean) (rmR12_every d_) [.ref (w.2.2.1 0)] σ (some (.int (b2i r.1)), r.2) := sorry
/-! LastLoafModel.some -/
theorem w_8_199 : Cond.code ({ cls := "LastLoafModel", name := "every", desc := "()Z" } : MethodName) prog_14_method_38_code (3 : Nat) (Option.some ClassFile.FieldType.boolean) ∈ TB := sorry
theorem w_8_196 : Cond.methodLink "LastLoafModel" (241 : Nat) ({ cls := "LastLoafModel", name := "every", desc := "()Z" } : MethodName) ∈ TB := sorry
theorem w_8_198 : Cond.instanceMethod ({ cls := "LastLoafModel", name := "every", desc := "()Z" } : MethodName) ∈ TB := sorry
theorem ws_LastLoafModel_every__Z : Cond.selects "LastLoafModel" (⟨"LastLoafModel", "every", "()Z"⟩ : MethodName) (⟨"LastLoafModel", "every", "()Z"⟩ : MethodName) ∈ TB := sorry
theorem cr12_241 {Θ : Tz} {cc : ByteArray} {nL kc ks : Nat} {ret : Option FieldType} {rm : Room} {Q : State → Prop} {σ : St} {pc : Nat} {lv : List (Nat × Value)} {st : List Value} (C : Zc Θ cc nL RX12 ret rm) (hkd : Θ.2.2.2.2.1 = kdM) {A_ : St → Option (Bool × St)} {d_ : Nat} (hA : zRec12_atom Θ.1.2.1 Θ.2.2.2.2.1 Θ.2.2.2.2.2 A_ d_) {r : Bool × St} (hx : q12_every A_ σ = some r) (hrm : (rmR12_every d_).frames + 1 ≤ rm.frames ∧ 8 + (3 + 11) + (rmR12_every d_).locals ≤ rm.locals) (hcat : (st.map fun v => v.category).sum ≤ 8) (hk : kc ≤ rm.cells ∧ ks ≤ rm.slots) (hd : decode cc pc = .ok (.invokevirtual 241, 3)) (kk : Z Θ nL kc ks Q r.2 (pc + 3) lv (.int (b2i r.1) :: st)) : Z Θ nL kc ks Q σ pc lv (.ref (zA Θ 0) :: st) := sorry
def q12_some (A_ : St → Option (Bool × St)) (σ : St) : Option (Bool × St) :=
  Option.bind (q12_every A_ σ) fun x1_ =>
  Option.bind (loop2 (fun rec6_ (v9_ : Bool) (σ10_ : St) =>
  Option.bind (if (σ10_ 0 12) = (-1) then (Option.bind (q12_has σ10_ 31) fun x18_ =>
  if x18_.1 = true then (some (true, x18_.2)) else (some (false, x18_.2))) else (some (false, σ10_))) fun t15_ =>
  if t15_.1 = true then
  Option.bind (q12_every A_ t15_.2) fun x22_ =>
  lt (decide ((v9_ = true) ∨ (x22_.1 = true))) fun v30_ =>
  rec6_ v30_ x22_.2
  else (some (v9_, t15_.2))) fuelN x1_.1 x1_.2) fun y3_ =>
  some (y3_.1, y3_.2)
theorem c12_some {l : Launch} {kd : List KD} {w : Wp} {σ : St} {A_ : St → Option (Bool × St)} {d_ : Nat} (hkd : kd = kdM) (hi : zI kd w) (hA : zRec12_atom l kd w A_ d_) {r : (Bool × St)} (hf : q12_some A_ σ = some r) : zM l kd w yX12_some cX12_some 3 (some .boolean) (rmR12_some d_) [.ref (w.2.2.1 0)] σ (some (.int (b2i r.1)), r.2) := sorry
/-! LastLoafModel.atom -/
theorem bp_40 : (Int8.ofInt (40)).toInt32 = 40 := sorry
theorem w_8_212 : Cond.code ({ cls := "LastLoafModel", name := "plain", desc := "()Z" } : MethodName) prog_14_method_36_code (4 : Nat) (Option.some ClassFile.FieldType.boolean) ∈ TB := sorry
theorem w_8_209 : Cond.methodLink "LastLoafModel" (229 : Nat) ({ cls := "LastLoafModel", name := "plain", desc := "()Z" } : MethodName) ∈ TB := sorry
theorem w_8_211 : Cond.instanceMethod ({ cls := "LastLoafModel", name := "plain", desc := "()Z" } : MethodName) ∈ TB := sorry
theorem ws_LastLoafModel_plain__Z : Cond.selects "LastLoafModel" (⟨"LastLoafModel", "plain", "()Z"⟩ : MethodName) (⟨"LastLoafModel", "plain", "()Z"⟩ : MethodName) ∈ TB := sorry
theorem cr12_229 {Θ : Tz} {cc : ByteArray} {nL kc ks : Nat} {ret : Option FieldType} {rm : Room} {Q : State → Prop} {σ : St} {pc : Nat} {lv : List (Nat × Value)} {st : List Value} (C : Zc Θ cc nL RX12 ret rm) (hkd : Θ.2.2.2.2.1 = kdM) {r : Bool × St} (hx : q12_plain σ = some r) (hrm : rm12_plain.frames + 1 ≤ rm.frames ∧ 8 + (4 + 11) + rm12_plain.locals ≤ rm.locals) (hcat : (st.map fun v => v.category).sum ≤ 8) (hk : kc ≤ rm.cells ∧ ks ≤ rm.slots) (hd : decode cc pc = .ok (.invokevirtual 229, 3)) (kk : Z Θ nL kc ks Q r.2 (pc + 3) lv (.int (b2i r.1) :: st)) : Z Θ nL kc ks Q σ pc lv (.ref (zA Θ 0) :: st) := sorry
theorem fg12_173 {Θ : Tz} {cc : ByteArray} {nL kc ks : Nat} {ret : Option FieldType} {rm : Room} {Q : State → Prop} {σ : St} {pc : Nat} {lv : List (Nat × Value)} {st : List Value} (C : Zc Θ cc nL RX12 ret rm) (hkd : Θ.2.2.2.2.1 = kdM) (hd : decode cc pc = .ok (.getfield 173, 3)) (kk : Z Θ nL kc ks Q σ (pc + 3) lv (.int (σ 0 13) :: st)) : Z Θ nL kc ks Q σ pc lv (.ref (zA Θ 0) :: st) := sorry
theorem w_8_195 : Cond.code ({ cls := "LastLoafModel", name := "some", desc := "()Z" } : MethodName) prog_14_method_39_code (3 : Nat) (Option.some ClassFile.FieldType.boolean) ∈ TB := sorry
theorem w_8_192 : Cond.methodLink "LastLoafModel" (236 : Nat) ({ cls := "LastLoafModel", name := "some", desc := "()Z" } : MethodName) ∈ TB := sorry
theorem w_8_194 : Cond.instanceMethod ({ cls := "LastLoafModel", name := "some", desc := "()Z" } : MethodName) ∈ TB := sorry
theorem ws_LastLoafModel_some__Z : Cond.selects "LastLoafModel" (⟨"LastLoafModel", "some", "()Z"⟩ : MethodName) (⟨"LastLoafModel", "some", "()Z"⟩ : MethodName) ∈ TB := sorry
theorem cr12_236 {Θ : Tz} {cc : ByteArray} {nL kc ks : Nat} {ret : Option FieldType} {rm : Room} {Q : State → Prop} {σ : St} {pc : Nat} {lv : List (Nat × Value)} {st : List Value} (C : Zc Θ cc nL RX12 ret rm) (hkd : Θ.2.2.2.2.1 = kdM) {A_ : St → Option (Bool × St)} {d_ : Nat} (hA : zRec12_atom Θ.1.2.1 Θ.2.2.2.2.1 Θ.2.2.2.2.2 A_ d_) {r : Bool × St} (hx : q12_some A_ σ = some r) (hrm : (rmR12_some d_).frames + 1 ≤ rm.frames ∧ 8 + (3 + 11) + (rmR12_some d_).locals ≤ rm.locals) (hcat : (st.map fun v => v.category).sum ≤ 8) (hk : kc ≤ rm.cells ∧ ks ≤ rm.slots) (hd : decode cc pc = .ok (.invokevirtual 236, 3)) (kk : Z Θ nL kc ks Q r.2 (pc + 3) lv (.int (b2i r.1) :: st)) : Z Θ nL kc ks Q σ pc lv (.ref (zA Θ 0) :: st) := sorry
theorem bp_41 : (Int8.ofInt (41)).toInt32 = 41 := sorry
def q12_atomB (A_ : St → Option (Bool × St)) (σ : St) : Option (Bool × St) :=
  if ¬ (σ 0 12) = (-1) then (some (false, σ)) else
  Option.bind (q12_here σ) fun x5_ =>
  Option.bind (q12_has x5_.2 23) fun x7_ =>
  Option.bind (if x7_.1 = true then (some (false, x7_.2)) else (Option.bind (q12_isSign x7_.2 40) fun x14_ =>
  if x14_.1 = true then (some (false, x14_.2)) else (some (true, x14_.2)))) fun t11_ =>
  if t11_.1 = true then (Option.bind (q12_plain t11_.2) fun x18_ =>
  some (x18_.1, x18_.2)) else
  if (t11_.2 0 13) = 6 then (Option.bind (q12_wrong t11_.2 x5_.1) fun x24_ =>
  some (false, x24_)) else
  lt (up t11_.2 0 13 ((t11_.2 0 13) + 1)) fun σ26_ =>
  Option.bind (if x7_.1 = true then (Option.bind (Option.bind (A_ σ26_) fun x40_ =>
  if ¬ (x40_.1 = true) then (some (true, x40_.2)) else (some (false, x40_.2))) fun x35_ =>
  some (x35_.1, x35_.2)) else (lt (up σ26_ 0 11 ((σ26_ 0 11) + 1)) fun σ44_ =>
  Option.bind (q12_some A_ σ44_) fun x46_ =>
  Option.bind (Option.bind (if (x46_.2 0 12) = (-1) then (Option.bind (q12_isSign x46_.2 41) fun x56_ =>
  if x56_.1 = true then (some (false, x56_.2)) else (some (true, x56_.2))) else (some (false, x46_.2))) fun t53_ =>
  if t53_.1 = true then (Option.bind (q12_wrong t53_.2 (t53_.2 0 11)) fun x60_ =>
  some (x60_)) else (some (t53_.2))) fun y48_ =>
  lt (up y48_ 0 11 ((y48_ 0 11) + 1)) fun σ62_ =>
  some (x46_.1, σ62_))) fun y28_ =>
  lt (up y28_.2 0 13 ((y28_.2 0 13) - 1)) fun σ64_ =>
  some (y28_.1, σ64_)
theorem cb12_atom {l : Launch} {kd : List KD} {w : Wp} {σ : St} {A_ : St → Option (Bool × St)} {d_ : Nat} (hkd : kd = kdM) (hi : zI kd w) (hA : zRec12_atom l kd w A_ d_) {r : (Bool × St)} (hf : q12_atomB A_ σ = some r) : zM l kd w yX12_atom cX12_atom 4 (some .boolean) (rmR12_atom (d_ + 1)) [.ref (w.2.2.1 0)] σ (some (.int (b2i r.1)), r.2) := sorry
def q12_atom : Nat → St → Option (Bool × St)
  | 0 => fun _  => none
  | d + 1 => q12_atomB (q12_atom d)
theorem rec12_atom {l : Launch} {kd : List KD} {w : Wp} (hkd : kd = kdM) (hi : zI kd w) : ∀ d, zRec12_atom l kd w (q12_atom d) d
  | 0 => fun h => by cases h
  | d + 1 => fun h => cb12_atom hkd hi (rec12_atom hkd hi d) h
/-! LastLoafModel.lawLine -/
theorem w_8_45 : Cond.fieldLink "LastLoafModel" (254 : Nat) "LastLoafModel" "abstains" "Z" ∈ TB := sorry
theorem fg12_254 {Θ : Tz} {cc : ByteArray} {nL kc ks : Nat} {ret : Option FieldType} {rm : Room} {Q : State → Prop} {σ : St} {pc : Nat} {lv : List (Nat × Value)} {st : List Value} (C : Zc Θ cc nL RX12 ret rm) (hkd : Θ.2.2.2.2.1 = kdM) (hd : decode cc pc = .ok (.getfield 254, 3)) (kk : Z Θ nL kc ks Q σ (pc + 3) lv (.int (σ 0 18) :: st)) : Z Θ nL kc ks Q σ pc lv (.ref (zA Θ 0) :: st) := sorry
theorem fp12_254 {Θ : Tz} {cc : ByteArray} {nL kc ks : Nat} {ret : Option FieldType} {rm : Room} {Q : State → Prop} {σ : St} {pc : Nat} {lv : List (Nat × Value)} {st : List Value} (C : Zc Θ cc nL RX12 ret rm) (hkd : Θ.2.2.2.2.1 = kdM) {b : Bool} {σ1 : St} (he : σ1 = up σ 0 18 (b2i b)) (hd : decode cc pc = .ok (.putfield 254, 3)) (kk : Z Θ nL kc ks Q σ1 (pc + 3) lv st) : Z Θ nL kc ks Q σ pc lv (.int (b2i b) :: .ref (zA Θ 0) :: st) := sorry
theorem w_8_44 : Cond.fieldLink "LastLoafModel" (257 : Nat) "LastLoafModel" "sways" "I" ∈ TB := sorry
theorem fg12_257 {Θ : Tz} {cc : ByteArray} {nL kc ks : Nat} {ret : Option FieldType} {rm : Room} {Q : State → Prop} {σ : St} {pc : Nat} {lv : List (Nat × Value)} {st : List Value} (C : Zc Θ cc nL RX12 ret rm) (hkd : Θ.2.2.2.2.1 = kdM) (hd : decode cc pc = .ok (.getfield 257, 3)) (kk : Z Θ nL kc ks Q σ (pc + 3) lv (.int (σ 0 17) :: st)) : Z Θ nL kc ks Q σ pc lv (.ref (zA Θ 0) :: st) := sorry
theorem fp12_257 {Θ : Tz} {cc : ByteArray} {nL kc ks : Nat} {ret : Option FieldType} {rm : Room} {Q : State → Prop} {σ : St} {pc : Nat} {lv : List (Nat × Value)} {st : List Value} (C : Zc Θ cc nL RX12 ret rm) (hkd : Θ.2.2.2.2.1 = kdM) {x : Int32} {σ1 : St} (he : σ1 = up σ 0 17 x) (hd : decode cc pc = .ok (.putfield 257, 3)) (kk : Z Θ nL kc ks Q σ1 (pc + 3) lv st) : Z Θ nL kc ks Q σ pc lv (.int x :: .ref (zA Θ 0) :: st) := sorry
def q12_lawLine (σ : St) : Option St :=
  Option.bind (Option.bind (q12_has σ 19) fun x6_ =>
  if x6_.1 = true then (some ((0 : Int32), x6_.2)) else (Option.bind (Option.bind (q12_has x6_.2 20) fun x14_ =>
  if x14_.1 = true then (some ((1 : Int32), x14_.2)) else (Option.bind (Option.bind (q12_has x14_.2 21) fun x22_ =>
  if x22_.1 = true then (some ((2 : Int32), x22_.2)) else (some ((-1 : Int32), x22_.2))) fun x17_ =>
  some (x17_.1, x17_.2))) fun x9_ =>
  some (x9_.1, x9_.2))) fun x1_ =>
  if x1_.1 = (-1) then (Option.bind (q12_wrong x1_.2 (x1_.2 0 11)) fun x32_ =>
  some x32_) else
  Option.bind (if x1_.1 = 2 then (some ((0 : Int32), x1_.2)) else (Option.bind (q12_figures x1_.2 0 20) fun x40_ =>
  some (x40_.1, x40_.2))) fun x34_ =>
  if ¬ (x34_.2 0 12) = (-1) then (some x34_.2) else
  Option.bind (Option.bind (Option.bind (q12_has x34_.2 22) fun x54_ =>
  if x54_.1 = true then (Option.bind (q12_some (q12_atom 20) x54_.2) fun x57_ =>
  if x57_.1 = true then (some (true, x57_.2)) else (some (false, x57_.2))) else (some (true, x54_.2))) fun t52_ =>
  if t52_.1 = true then (some (true, t52_.2)) else (some (false, t52_.2))) fun x47_ =>
  if (¬ (x47_.2 0 12) = (-1)) ∨ (¬ (x47_.1 = true)) then (some x47_.2) else
  lt (up x47_.2 0 18 (b2i (decide ((¬ (x47_.2 0 18) = 0) ∨ (x1_.1 = 2))))) fun σ72_ =>
  lt (up σ72_ 0 17 ((σ72_ 0 17) + (if x1_.1 = 0 then x34_.1 else -x34_.1))) fun σ79_ =>
  some σ79_
abbrev rm12_lawLine : Room := { frames := 73, cells := 0, slots := 0, locals := 4102 }
theorem c12_lawLine {l : Launch} {kd : List KD} {w : Wp} {σ : St} (hkd : kd = kdM) (hi : zI kd w) {r : St} (hf : q12_lawLine σ = some r) : zM l kd w yX12_lawLine cX12_lawLine 4 none rm12_lawLine [.ref (w.2.2.1 0)] σ (none, r) := sorry
/-! LastLoafModel.read -/
theorem w_8_173 : Cond.code ({ cls := "LastLoafModel", name := "lawLine", desc := "()V" } : MethodName) prog_14_method_40_code (4 : Nat) (Option.none : Option ClassFile.FieldType) ∈ TB := sorry
theorem w_8_170 : Cond.methodLink "LastLoafModel" (176 : Nat) ({ cls := "LastLoafModel", name := "lawLine", desc := "()V" } : MethodName) ∈ TB := sorry
theorem w_8_172 : Cond.instanceMethod ({ cls := "LastLoafModel", name := "lawLine", desc := "()V" } : MethodName) ∈ TB := sorry
theorem ws_LastLoafModel_lawLine__V : Cond.selects "LastLoafModel" (⟨"LastLoafModel", "lawLine", "()V"⟩ : MethodName) (⟨"LastLoafModel", "lawLine", "()V"⟩ : MethodName) ∈ TB := sorry
theorem cr12_176 {Θ : Tz} {cc : ByteArray} {nL kc ks : Nat} {ret : Option FieldType} {rm : Room} {Q : State → Prop} {σ : St} {pc : Nat} {lv : List (Nat × Value)} {st : List Value} (C : Zc Θ cc nL RX12 ret rm) (hkd : Θ.2.2.2.2.1 = kdM) {r : St} (hx : q12_lawLine σ = some r) (hrm : rm12_lawLine.frames + 1 ≤ rm.frames ∧ 8 + (4 + 11) + rm12_lawLine.locals ≤ rm.locals) (hcat : (st.map fun v => v.category).sum ≤ 8) (hk : kc ≤ rm.cells ∧ ks ≤ rm.slots) (hd : decode cc pc = .ok (.invokevirtual 176, 3)) (kk : Z Θ nL kc ks Q r (pc + 3) lv st) : Z Θ nL kc ks Q σ pc lv (.ref (zA Θ 0) :: st) := sorry
theorem w_8_235 : Cond.code ({ cls := "LastLoafModel", name := "villageLine", desc := "()V" } : MethodName) prog_14_method_28_code (2 : Nat) (Option.none : Option ClassFile.FieldType) ∈ TB := sorry
theorem w_8_232 : Cond.methodLink "LastLoafModel" (179 : Nat) ({ cls := "LastLoafModel", name := "villageLine", desc := "()V" } : MethodName) ∈ TB := sorry
theorem w_8_234 : Cond.instanceMethod ({ cls := "LastLoafModel", name := "villageLine", desc := "()V" } : MethodName) ∈ TB := sorry
theorem ws_LastLoafModel_villageLine__V : Cond.selects "LastLoafModel" (⟨"LastLoafModel", "villageLine", "()V"⟩ : MethodName) (⟨"LastLoafModel", "villageLine", "()V"⟩ : MethodName) ∈ TB := sorry
theorem cr12_179 {Θ : Tz} {cc : ByteArray} {nL kc ks : Nat} {ret : Option FieldType} {rm : Room} {Q : State → Prop} {σ : St} {pc : Nat} {lv : List (Nat × Value)} {st : List Value} (C : Zc Θ cc nL RX12 ret rm) (hkd : Θ.2.2.2.2.1 = kdM) {r : St} (hx : q12_villageLine σ = some r) (hrm : rm12_villageLine.frames + 1 ≤ rm.frames ∧ 8 + (2 + 11) + rm12_villageLine.locals ≤ rm.locals) (hcat : (st.map fun v => v.category).sum ≤ 8) (hk : kc ≤ rm.cells ∧ ks ≤ rm.slots) (hd : decode cc pc = .ok (.invokevirtual 179, 3)) (kk : Z Θ nL kc ks Q r (pc + 3) lv st) : Z Θ nL kc ks Q σ pc lv (.ref (zA Θ 0) :: st) := sorry
theorem bp_59 : (Int8.ofInt (59)).toInt32 = 59 := sorry
def q12_read (σ : St) (law_a : Bool) : Option (Int32 × St) :=
  Option.bind (q12_skip σ) fun x1_ =>
  lt (decide ((x1_ 0 11) < (x1_ 0 10))) fun go8_ =>
  Option.bind (loop3 (fun rec13_ (go16_ : Bool) (n17_ : Int32) (σ18_ : St) =>
  if (go16_ = true) ∧ ((σ18_ 0 12) = (-1)) then
  Option.bind (q12_skip σ18_) fun x26_ =>
  Option.bind (if n17_ = (if law_a = true then 12 else 14) then (Option.bind (q12_wrong x26_ (x26_ 0 11)) fun x40_ =>
  some (x40_)) else (Option.bind (if law_a = true then (Option.bind (q12_lawLine x26_) fun x49_ =>
  some (x49_)) else (Option.bind (q12_villageLine x26_) fun x51_ =>
  some (x51_))) fun y42_ =>
  some (y42_))) fun y28_ =>
  lt (n17_ + 1) fun n53_ =>
  Option.bind (q12_skip y28_) fun x55_ =>
  Option.bind (if (¬ (x55_ 0 12) = (-1)) ∨ ((x55_ 0 11) = (x55_ 0 10)) then (some (false, x55_)) else (Option.bind (Option.bind (q12_isSign x55_ 59) fun x70_ =>
  if x70_.1 = true then (lt (up x70_.2 0 11 ((x70_.2 0 11) + 1)) fun σ74_ =>
  some (σ74_)) else (Option.bind (q12_wrong x70_.2 (x70_.2 0 11)) fun x76_ =>
  some (x76_))) fun y65_ =>
  some (go16_, y65_))) fun y57_ =>
  rec13_ y57_.1 n53_ y57_.2
  else (some (go16_, n17_, σ18_))) fuelN go8_ (0 : Int32) x1_) fun y10_ =>
  some (y10_.2.1, y10_.2.2)
abbrev rm12_read : Room := { frames := 74, cells := 0, slots := 0, locals := 4125 }
theorem c12_read {l : Launch} {kd : List KD} {w : Wp} {σ : St} {law_a : Bool} (hkd : kd = kdM) (hi : zI kd w) {r : (Int32 × St)} (hf : q12_read σ law_a = some r) : zM l kd w yX12_read cX12_read 4 (some .int) rm12_read [.ref (w.2.2.1 0), .int (b2i law_a)] σ (some (.int r.1), r.2) := sorry
/-! LastLoafModel.putsAside -/
theorem sp_352 : (Int16.ofInt (352)).toInt32 = 352 := sorry
theorem w_8_31 : Cond.fieldLink "LastLoafModel" (16 : Nat) "LastLoafModel" "aside" "[I" ∈ TB := sorry
theorem fg12_16 {Θ : Tz} {cc : ByteArray} {nL kc ks : Nat} {ret : Option FieldType} {rm : Room} {Q : State → Prop} {σ : St} {pc : Nat} {lv : List (Nat × Value)} {st : List Value} (C : Zc Θ cc nL RX12 ret rm) (hkd : Θ.2.2.2.2.1 = kdM) (hd : decode cc pc = .ok (.getfield 16, 3)) (kk : Z Θ nL kc ks Q σ (pc + 3) lv (.ref (zA Θ 3) :: st)) : Z Θ nL kc ks Q σ pc lv (.ref (zA Θ 0) :: st) := sorry
def q12_putsAside (σ : St) : Option St :=
  Option.bind (loop2 (fun rec4_ (k7_ : Int32) (σ8_ : St) =>
  if k7_ < 352 then
  Option.bind (ag σ8_ 1 752 k7_) fun x15_ =>
  Option.bind (sa σ8_ 3 352 k7_ x15_) fun σ17_ =>
  lt (k7_ + 1) fun k19_ =>
  rec4_ k19_ σ17_
  else (some (k7_, σ8_))) fuelN (0 : Int32) σ) fun y1_ =>
  some y1_.2
abbrev rm12_putsAside : Room := { frames := 0, cells := 0, slots := 0, locals := 0 }
theorem c12_putsAside {l : Launch} {kd : List KD} {w : Wp} {σ : St} (hkd : kd = kdM) (hi : zI kd w) {r : St} (hf : q12_putsAside σ = some r) : zM l kd w yX12_putsAside cX12_putsAside 2 none rm12_putsAside [.ref (w.2.2.1 0)] σ (none, r) := sorry
/-! LastLoafModel.comesBack -/
def q12_comesBack (σ : St) : Option St :=
  Option.bind (loop2 (fun rec4_ (k7_ : Int32) (σ8_ : St) =>
  if k7_ < 352 then
  Option.bind (ag σ8_ 3 352 k7_) fun x15_ =>
  Option.bind (sa σ8_ 1 752 k7_ x15_) fun σ17_ =>
  lt (k7_ + 1) fun k19_ =>
  rec4_ k19_ σ17_
  else (some (k7_, σ8_))) fuelN (0 : Int32) σ) fun y1_ =>
  some y1_.2
abbrev rm12_comesBack : Room := { frames := 0, cells := 0, slots := 0, locals := 0 }
theorem c12_comesBack {l : Launch} {kd : List KD} {w : Wp} {σ : St} (hkd : kd = kdM) (hi : zI kd w) {r : St} (hf : q12_comesBack σ = some r) : zM l kd w yX12_comesBack cX12_comesBack 2 none rm12_comesBack [.ref (w.2.2.1 0)] σ (none, r) := sorry
/-! LastLoafModel.village -/
theorem w_8_149 : Cond.code ({ cls := "LastLoafModel", name := "putsAside", desc := "()V" } : MethodName) prog_14_method_31_code (2 : Nat) (Option.none : Option ClassFile.FieldType) ∈ TB := sorry
theorem w_8_146 : Cond.methodLink "LastLoafModel" (186 : Nat) ({ cls := "LastLoafModel", name := "putsAside", desc := "()V" } : MethodName) ∈ TB := sorry
theorem w_8_148 : Cond.instanceMethod ({ cls := "LastLoafModel", name := "putsAside", desc := "()V" } : MethodName) ∈ TB := sorry
theorem ws_LastLoafModel_putsAside__V : Cond.selects "LastLoafModel" (⟨"LastLoafModel", "putsAside", "()V"⟩ : MethodName) (⟨"LastLoafModel", "putsAside", "()V"⟩ : MethodName) ∈ TB := sorry
theorem cr12_186 {Θ : Tz} {cc : ByteArray} {nL kc ks : Nat} {ret : Option FieldType} {rm : Room} {Q : State → Prop} {σ : St} {pc : Nat} {lv : List (Nat × Value)} {st : List Value} (C : Zc Θ cc nL RX12 ret rm) (hkd : Θ.2.2.2.2.1 = kdM) {r : St} (hx : q12_putsAside σ = some r) (hrm : rm12_putsAside.frames + 1 ≤ rm.frames ∧ 8 + (2 + 11) + rm12_putsAside.locals ≤ rm.locals) (hcat : (st.map fun v => v.category).sum ≤ 8) (hk : kc ≤ rm.cells ∧ ks ≤ rm.slots) (hd : decode cc pc = .ok (.invokevirtual 186, 3)) (kk : Z Θ nL kc ks Q r (pc + 3) lv st) : Z Θ nL kc ks Q σ pc lv (.ref (zA Θ 0) :: st) := sorry
theorem w_8_153 : Cond.code ({ cls := "LastLoafModel", name := "begins", desc := "()V" } : MethodName) prog_14_method_29_code (1 : Nat) (Option.none : Option ClassFile.FieldType) ∈ TB := sorry
theorem w_8_150 : Cond.methodLink "LastLoafModel" (189 : Nat) ({ cls := "LastLoafModel", name := "begins", desc := "()V" } : MethodName) ∈ TB := sorry
theorem w_8_152 : Cond.instanceMethod ({ cls := "LastLoafModel", name := "begins", desc := "()V" } : MethodName) ∈ TB := sorry
theorem ws_LastLoafModel_begins__V : Cond.selects "LastLoafModel" (⟨"LastLoafModel", "begins", "()V"⟩ : MethodName) (⟨"LastLoafModel", "begins", "()V"⟩ : MethodName) ∈ TB := sorry
theorem cr12_189 {Θ : Tz} {cc : ByteArray} {nL kc ks : Nat} {ret : Option FieldType} {rm : Room} {Q : State → Prop} {σ : St} {pc : Nat} {lv : List (Nat × Value)} {st : List Value} (C : Zc Θ cc nL RX12 ret rm) (hkd : Θ.2.2.2.2.1 = kdM) {r : St} (hx : q12_begins σ = some r) (hrm : rm12_begins.frames + 1 ≤ rm.frames ∧ 8 + (1 + 11) + rm12_begins.locals ≤ rm.locals) (hcat : (st.map fun v => v.category).sum ≤ 8) (hk : kc ≤ rm.cells ∧ ks ≤ rm.slots) (hd : decode cc pc = .ok (.invokevirtual 189, 3)) (kk : Z Θ nL kc ks Q r (pc + 3) lv st) : Z Θ nL kc ks Q σ pc lv (.ref (zA Θ 0) :: st) := sorry
theorem w_8_157 : Cond.code ({ cls := "LastLoafModel", name := "read", desc := "(Z)I" } : MethodName) prog_14_method_30_code (4 : Nat) (Option.some ClassFile.FieldType.int) ∈ TB := sorry
theorem w_8_154 : Cond.methodLink "LastLoafModel" (192 : Nat) ({ cls := "LastLoafModel", name := "read", desc := "(Z)I" } : MethodName) ∈ TB := sorry
theorem w_8_156 : Cond.instanceMethod ({ cls := "LastLoafModel", name := "read", desc := "(Z)I" } : MethodName) ∈ TB := sorry
theorem ws_LastLoafModel_read_Z_I : Cond.selects "LastLoafModel" (⟨"LastLoafModel", "read", "(Z)I"⟩ : MethodName) (⟨"LastLoafModel", "read", "(Z)I"⟩ : MethodName) ∈ TB := sorry
theorem cr12_192 {Θ : Tz} {cc : ByteArray} {nL kc ks : Nat} {ret : Option FieldType} {rm : Room} {Q : State → Prop} {σ : St} {pc : Nat} {lv : List (Nat × Value)} {st : List Value} (C : Zc Θ cc nL RX12 ret rm) (hkd : Θ.2.2.2.2.1 = kdM) {law_a : Bool} {r : Int32 × St} (hx : q12_read σ law_a = some r) (hrm : rm12_read.frames + 1 ≤ rm.frames ∧ 8 + (4 + 11) + rm12_read.locals ≤ rm.locals) (hcat : (st.map fun v => v.category).sum ≤ 8) (hk : kc ≤ rm.cells ∧ ks ≤ rm.slots) (hd : decode cc pc = .ok (.invokevirtual 192, 3)) (kk : Z Θ nL kc ks Q r.2 (pc + 3) lv (.int r.1 :: st)) : Z Θ nL kc ks Q σ pc lv (.int (b2i law_a) :: .ref (zA Θ 0) :: st) := sorry
theorem w_9_37 : Cond.code ({ cls := "LastLoafModel", name := "comesBack", desc := "()V" } : MethodName) prog_14_method_32_code (2 : Nat) (Option.none : Option ClassFile.FieldType) ∈ TB := sorry
theorem w_9_34 : Cond.methodLink "LastLoafModel" (196 : Nat) ({ cls := "LastLoafModel", name := "comesBack", desc := "()V" } : MethodName) ∈ TB := sorry
theorem w_9_36 : Cond.instanceMethod ({ cls := "LastLoafModel", name := "comesBack", desc := "()V" } : MethodName) ∈ TB := sorry
theorem ws_LastLoafModel_comesBack__V : Cond.selects "LastLoafModel" (⟨"LastLoafModel", "comesBack", "()V"⟩ : MethodName) (⟨"LastLoafModel", "comesBack", "()V"⟩ : MethodName) ∈ TB := sorry
theorem cr12_196 {Θ : Tz} {cc : ByteArray} {nL kc ks : Nat} {ret : Option FieldType} {rm : Room} {Q : State → Prop} {σ : St} {pc : Nat} {lv : List (Nat × Value)} {st : List Value} (C : Zc Θ cc nL RX12 ret rm) (hkd : Θ.2.2.2.2.1 = kdM) {r : St} (hx : q12_comesBack σ = some r) (hrm : rm12_comesBack.frames + 1 ≤ rm.frames ∧ 8 + (2 + 11) + rm12_comesBack.locals ≤ rm.locals) (hcat : (st.map fun v => v.category).sum ≤ 8) (hk : kc ≤ rm.cells ∧ ks ≤ rm.slots) (hd : decode cc pc = .ok (.invokevirtual 196, 3)) (kk : Z Θ nL kc ks Q r (pc + 3) lv st) : Z Θ nL kc ks Q σ pc lv (.ref (zA Θ 0) :: st) := sorry
theorem w_8_33 : Cond.fieldLink "LastLoafModel" (199 : Nat) "LastLoafModel" "acted" "I" ∈ TB := sorry
theorem fp12_199 {Θ : Tz} {cc : ByteArray} {nL kc ks : Nat} {ret : Option FieldType} {rm : Room} {Q : State → Prop} {σ : St} {pc : Nat} {lv : List (Nat × Value)} {st : List Value} (C : Zc Θ cc nL RX12 ret rm) (hkd : Θ.2.2.2.2.1 = kdM) {x : Int32} {σ1 : St} (he : σ1 = up σ 0 6 x) (hd : decode cc pc = .ok (.putfield 199, 3)) (kk : Z Θ nL kc ks Q σ1 (pc + 3) lv st) : Z Θ nL kc ks Q σ pc lv (.int x :: .ref (zA Θ 0) :: st) := sorry
def q12_village (σ : St) : Option (Int32 × St) :=
  Option.bind (q12_putsAside σ) fun x1_ =>
  Option.bind (q12_begins x1_) fun x3_ =>
  Option.bind (q12_read x3_ false) fun x5_ =>
  Option.bind (if ¬ (x5_.2 0 12) = (-1) then (some (1 : Int32)) else (Option.bind (Option.bind (ag x5_.2 1 752 0) fun x18_ =>
  if x18_ = 12 then (some (2 : Int32)) else (some (0 : Int32))) fun x13_ =>
  some x13_)) fun x7_ =>
  lt (up x5_.2 0 0 x7_) fun σ23_ =>
  if 0 < (σ23_ 0 0) then (Option.bind (q12_comesBack σ23_) fun x29_ =>
  some (0, x29_)) else
  Option.bind (ag σ23_ 1 752 0) fun x31_ =>
  Option.bind (sa σ23_ 1 752 0 (x31_ + 1)) fun σ33_ =>
  lt (up σ33_ 0 6 0) fun σ35_ =>
  Option.bind (ag σ35_ 1 752 0) fun x37_ =>
  some (x37_, σ35_)
abbrev rm12_village : Room := { frames := 75, cells := 0, slots := 0, locals := 4148 }
theorem c12_village {l : Launch} {kd : List KD} {w : Wp} {σ : St} (hkd : kd = kdM) (hi : zI kd w) {r : (Int32 × St)} (hf : q12_village σ = some r) : zM l kd w yX12_village cX12_village 2 (some .int) rm12_village [.ref (w.2.2.1 0)] σ (some (.int r.1), r.2) := sorry
/-! LastLoafModel.law -/
def q12_law (σ : St) : Option (Int32 × St) :=
  Option.bind (q12_begins σ) fun x1_ =>
  Option.bind (q12_read x1_ true) fun x3_ =>
  lt (up x3_.2 0 0 (if ¬ (x3_.2 0 12) = (-1) then 1 else 0)) fun σ10_ =>
  if 0 < (σ10_ 0 0) then (some (0, σ10_)) else
  Option.bind (sa σ10_ 1 752 1 x3_.1) fun σ16_ =>
  Option.bind (sa σ16_ 1 752 2 (σ16_ 0 10)) fun σ18_ =>
  Option.bind (loop2 (fun rec23_ (k26_ : Int32) (σ27_ : St) =>
  if k26_ < (σ27_ 0 10) then
  Option.bind (ag σ27_ 5 400 k26_) fun x34_ =>
  Option.bind (sa σ27_ 1 752 (352 + k26_) x34_) fun σ36_ =>
  lt (k26_ + 1) fun k38_ =>
  rec23_ k38_ σ36_
  else (some (k26_, σ27_))) fuelN (0 : Int32) σ18_) fun y20_ =>
  lt (up y20_.2 0 6 0) fun σ40_ =>
  some (x3_.1, σ40_)
abbrev rm12_law : Room := { frames := 75, cells := 0, slots := 0, locals := 4148 }
theorem c12_law {l : Launch} {kd : List KD} {w : Wp} {σ : St} (hkd : kd = kdM) (hi : zI kd w) {r : (Int32 × St)} (hf : q12_law σ = some r) : zM l kd w yX12_law cX12_law 3 (some .int) rm12_law [.ref (w.2.2.1 0)] σ (some (.int r.1), r.2) := sorry
/-! LastLoafModel.fault -/
def q12_fault (σ : St) : Option (Int32 × St) :=
  lt (up σ 0 0 0) fun σ1_ =>
  some (σ1_ 0 12, σ1_)
abbrev rm12_fault : Room := { frames := 0, cells := 0, slots := 0, locals := 0 }
theorem c12_fault {l : Launch} {kd : List KD} {w : Wp} {σ : St} (hkd : kd = kdM) (hi : zI kd w) {r : (Int32 × St)} (hf : q12_fault σ = some r) : zM l kd w yX12_fault cX12_fault 1 (some .int) rm12_fault [.ref (w.2.2.1 0)] σ (some (.int r.1), r.2) := sorry
/-! LastLoafModel.favourOf -/
theorem fp12_215 {Θ : Tz} {cc : ByteArray} {nL kc ks : Nat} {ret : Option FieldType} {rm : Room} {Q : State → Prop} {σ : St} {pc : Nat} {lv : List (Nat × Value)} {st : List Value} (C : Zc Θ cc nL RX12 ret rm) (hkd : Θ.2.2.2.2.1 = kdM) {b : Bool} {σ1 : St} (he : σ1 = up σ 0 15 (b2i b)) (hd : decode cc pc = .ok (.putfield 215, 3)) (kk : Z Θ nL kc ks Q σ1 (pc + 3) lv st) : Z Θ nL kc ks Q σ pc lv (.int (b2i b) :: .ref (zA Θ 0) :: st) := sorry
theorem w_9_73 : Cond.code ({ cls := "LastLoafModel", name := "liking", desc := "(II)I" } : MethodName) prog_14_method_10_code (3 : Nat) (Option.some ClassFile.FieldType.int) ∈ TB := sorry
theorem w_9_70 : Cond.methodLink "LastLoafModel" (260 : Nat) ({ cls := "LastLoafModel", name := "liking", desc := "(II)I" } : MethodName) ∈ TB := sorry
theorem w_9_72 : Cond.instanceMethod ({ cls := "LastLoafModel", name := "liking", desc := "(II)I" } : MethodName) ∈ TB := sorry
theorem ws_LastLoafModel_liking_II_I : Cond.selects "LastLoafModel" (⟨"LastLoafModel", "liking", "(II)I"⟩ : MethodName) (⟨"LastLoafModel", "liking", "(II)I"⟩ : MethodName) ∈ TB := sorry
theorem cr12_260 {Θ : Tz} {cc : ByteArray} {nL kc ks : Nat} {ret : Option FieldType} {rm : Room} {Q : State → Prop} {σ : St} {pc : Nat} {lv : List (Nat × Value)} {st : List Value} (C : Zc Θ cc nL RX12 ret rm) (hkd : Θ.2.2.2.2.1 = kdM) {p_a : Int32} {o_a : Int32} {r : Int32} (hx : q12_liking σ p_a o_a = some r) (hrm : rm12_liking.frames + 1 ≤ rm.frames ∧ 8 + (3 + 11) + rm12_liking.locals ≤ rm.locals) (hcat : (st.map fun v => v.category).sum ≤ 8) (hk : kc ≤ rm.cells ∧ ks ≤ rm.slots) (hd : decode cc pc = .ok (.invokevirtual 260, 3)) (kk : Z Θ nL kc ks Q σ (pc + 3) lv (.int r :: st)) : Z Θ nL kc ks Q σ pc lv (.int o_a :: .int p_a :: .ref (zA Θ 0) :: st) := sorry
theorem fp12_221 {Θ : Tz} {cc : ByteArray} {nL kc ks : Nat} {ret : Option FieldType} {rm : Room} {Q : State → Prop} {σ : St} {pc : Nat} {lv : List (Nat × Value)} {st : List Value} (C : Zc Θ cc nL RX12 ret rm) (hkd : Θ.2.2.2.2.1 = kdM) {b : Bool} {σ1 : St} (he : σ1 = up σ 0 16 (b2i b)) (hd : decode cc pc = .ok (.putfield 221, 3)) (kk : Z Θ nL kc ks Q σ1 (pc + 3) lv st) : Z Θ nL kc ks Q σ pc lv (.int (b2i b) :: .ref (zA Θ 0) :: st) := sorry
def q12_favourOf (σ : St) (p_a : Int32) (o_a : Int32) : Option (Int32 × St) :=
  lt (up σ 0 17 0) fun σ1_ =>
  lt (up σ1_ 0 18 (b2i false)) fun σ3_ =>
  Option.bind (Option.bind (Option.bind (q12_of σ3_ p_a 1) fun x12_ =>
  Option.bind (q12_of σ3_ o_a 1) fun x14_ =>
  if x12_ = x14_ then (Option.bind (q12_of σ3_ p_a 1) fun x17_ =>
  if x17_ < 2 then (some true) else (some false)) else (some false)) fun t10_ =>
  if t10_ = true then (some true) else (some false)) fun x5_ =>
  lt (up σ3_ 0 15 (b2i x5_)) fun σ21_ =>
  Option.bind (ag σ21_ 1 752 1) fun x25_ =>
  if x25_ = (-1) then (Option.bind (q12_liking σ21_ p_a o_a) fun x29_ =>
  some (x29_ + (if ¬ (σ21_ 0 15) = 0 then 2 else 0), σ21_)) else
  Option.bind (sa σ21_ 6 7 0 p_a) fun σ36_ =>
  Option.bind (sa σ36_ 6 7 1 o_a) fun σ38_ =>
  Option.bind (q12_liking σ38_ p_a o_a) fun x40_ =>
  Option.bind (sa σ38_ 6 7 2 x40_) fun σ42_ =>
  Option.bind (q12_of σ42_ o_a 0) fun x44_ =>
  Option.bind (sa σ42_ 6 7 3 x44_) fun σ46_ =>
  Option.bind (q12_of σ46_ o_a 5) fun x48_ =>
  Option.bind (sa σ46_ 6 7 4 x48_) fun σ50_ =>
  Option.bind (q12_of σ50_ o_a 6) fun x52_ =>
  Option.bind (sa σ50_ 6 7 5 x52_) fun σ54_ =>
  Option.bind (q12_of σ54_ p_a 2) fun x56_ =>
  Option.bind (sa σ54_ 6 7 6 x56_) fun σ58_ =>
  Option.bind (Option.bind (q12_of σ58_ p_a 3) fun x65_ =>
  if x65_ = 1 then (some true) else (some false)) fun x60_ =>
  lt (up σ58_ 0 16 (b2i x60_)) fun σ69_ =>
  lt (σ69_ 0 12) fun was71_ =>
  lt (up σ69_ 0 12 (-1)) fun σ73_ =>
  lt (up σ73_ 0 9 352) fun σ75_ =>
  Option.bind (Option.bind (ag σ75_ 1 752 1) fun x82_ =>
  if x82_ = 0 then (some (0 : Int32)) else (Option.bind (ag σ75_ 1 752 2) fun x85_ =>
  some x85_)) fun x77_ =>
  lt (up σ75_ 0 10 x77_) fun σ88_ =>
  lt (up σ88_ 0 11 0) fun σ90_ =>
  lt (up σ90_ 0 13 0) fun σ92_ =>
  Option.bind (q12_read σ92_ true) fun x94_ =>
  lt (up x94_.2 0 12 was71_) fun σ96_ =>
  Option.bind (q12_liking σ96_ p_a o_a) fun x98_ =>
  some (x98_ + (σ96_ 0 17), σ96_)
abbrev rm12_favourOf : Room := { frames := 75, cells := 0, slots := 0, locals := 4148 }
theorem c12_favourOf {l : Launch} {kd : List KD} {w : Wp} {σ : St} {p_a : Int32} {o_a : Int32} (hkd : kd = kdM) (hi : zI kd w) {r : (Int32 × St)} (hf : q12_favourOf σ p_a o_a = some r) : zM l kd w yX12_favourOf cX12_favourOf 5 (some .int) rm12_favourOf [.ref (w.2.2.1 0), .int p_a, .int o_a] σ (some (.int r.1), r.2) := sorry
/-! LastLoafModel.looks -/
theorem w_8_47 : Cond.fieldLink "LastLoafModel" (263 : Nat) "LastLoafModel" "voters" "I" ∈ TB := sorry
theorem fp12_263 {Θ : Tz} {cc : ByteArray} {nL kc ks : Nat} {ret : Option FieldType} {rm : Room} {Q : State → Prop} {σ : St} {pc : Nat} {lv : List (Nat × Value)} {st : List Value} (C : Zc Θ cc nL RX12 ret rm) (hkd : Θ.2.2.2.2.1 = kdM) {x : Int32} {σ1 : St} (he : σ1 = up σ 0 20 x) (hd : decode cc pc = .ok (.putfield 263, 3)) (kk : Z Θ nL kc ks Q σ1 (pc + 3) lv st) : Z Θ nL kc ks Q σ pc lv (.int x :: .ref (zA Θ 0) :: st) := sorry
theorem w_9_65 : Cond.code ({ cls := "LastLoafModel", name := "those", desc := "(I)I" } : MethodName) prog_14_method_13_code (4 : Nat) (Option.some ClassFile.FieldType.int) ∈ TB := sorry
theorem w_9_62 : Cond.methodLink "LastLoafModel" (266 : Nat) ({ cls := "LastLoafModel", name := "those", desc := "(I)I" } : MethodName) ∈ TB := sorry
theorem w_9_64 : Cond.instanceMethod ({ cls := "LastLoafModel", name := "those", desc := "(I)I" } : MethodName) ∈ TB := sorry
theorem ws_LastLoafModel_those_I_I : Cond.selects "LastLoafModel" (⟨"LastLoafModel", "those", "(I)I"⟩ : MethodName) (⟨"LastLoafModel", "those", "(I)I"⟩ : MethodName) ∈ TB := sorry
theorem cr12_266 {Θ : Tz} {cc : ByteArray} {nL kc ks : Nat} {ret : Option FieldType} {rm : Room} {Q : State → Prop} {σ : St} {pc : Nat} {lv : List (Nat × Value)} {st : List Value} (C : Zc Θ cc nL RX12 ret rm) (hkd : Θ.2.2.2.2.1 = kdM) {what_a : Int32} {r : Int32} (hx : q12_those σ what_a = some r) (hrm : rm12_those.frames + 1 ≤ rm.frames ∧ 8 + (4 + 11) + rm12_those.locals ≤ rm.locals) (hcat : (st.map fun v => v.category).sum ≤ 8) (hk : kc ≤ rm.cells ∧ ks ≤ rm.slots) (hd : decode cc pc = .ok (.invokevirtual 266, 3)) (kk : Z Θ nL kc ks Q σ (pc + 3) lv (.int r :: st)) : Z Θ nL kc ks Q σ pc lv (.int what_a :: .ref (zA Θ 0) :: st) := sorry
theorem w_8_48 : Cond.fieldLink "LastLoafModel" (269 : Nat) "LastLoafModel" "runners" "I" ∈ TB := sorry
theorem fp12_269 {Θ : Tz} {cc : ByteArray} {nL kc ks : Nat} {ret : Option FieldType} {rm : Room} {Q : State → Prop} {σ : St} {pc : Nat} {lv : List (Nat × Value)} {st : List Value} (C : Zc Θ cc nL RX12 ret rm) (hkd : Θ.2.2.2.2.1 = kdM) {x : Int32} {σ1 : St} (he : σ1 = up σ 0 21 x) (hd : decode cc pc = .ok (.putfield 269, 3)) (kk : Z Θ nL kc ks Q σ1 (pc + 3) lv st) : Z Θ nL kc ks Q σ pc lv (.int x :: .ref (zA Θ 0) :: st) := sorry
theorem w_8_46 : Cond.fieldLink "LastLoafModel" (32 : Nat) "LastLoafModel" "favours" "[I" ∈ TB := sorry
theorem fg12_32 {Θ : Tz} {cc : ByteArray} {nL kc ks : Nat} {ret : Option FieldType} {rm : Room} {Q : State → Prop} {σ : St} {pc : Nat} {lv : List (Nat × Value)} {st : List Value} (C : Zc Θ cc nL RX12 ret rm) (hkd : Θ.2.2.2.2.1 = kdM) (hd : decode cc pc = .ok (.getfield 32, 3)) (kk : Z Θ nL kc ks Q σ (pc + 3) lv (.ref (zA Θ 7) :: st)) : Z Θ nL kc ks Q σ pc lv (.ref (zA Θ 0) :: st) := sorry
theorem w_9_69 : Cond.code ({ cls := "LastLoafModel", name := "favourOf", desc := "(II)I" } : MethodName) prog_14_method_43_code (5 : Nat) (Option.some ClassFile.FieldType.int) ∈ TB := sorry
theorem w_9_66 : Cond.methodLink "LastLoafModel" (272 : Nat) ({ cls := "LastLoafModel", name := "favourOf", desc := "(II)I" } : MethodName) ∈ TB := sorry
theorem w_9_68 : Cond.instanceMethod ({ cls := "LastLoafModel", name := "favourOf", desc := "(II)I" } : MethodName) ∈ TB := sorry
theorem ws_LastLoafModel_favourOf_II_I : Cond.selects "LastLoafModel" (⟨"LastLoafModel", "favourOf", "(II)I"⟩ : MethodName) (⟨"LastLoafModel", "favourOf", "(II)I"⟩ : MethodName) ∈ TB := sorry
theorem cr12_272 {Θ : Tz} {cc : ByteArray} {nL kc ks : Nat} {ret : Option FieldType} {rm : Room} {Q : State → Prop} {σ : St} {pc : Nat} {lv : List (Nat × Value)} {st : List Value} (C : Zc Θ cc nL RX12 ret rm) (hkd : Θ.2.2.2.2.1 = kdM) {p_a : Int32} {o_a : Int32} {r : Int32 × St} (hx : q12_favourOf σ p_a o_a = some r) (hrm : rm12_favourOf.frames + 1 ≤ rm.frames ∧ 8 + (5 + 11) + rm12_favourOf.locals ≤ rm.locals) (hcat : (st.map fun v => v.category).sum ≤ 8) (hk : kc ≤ rm.cells ∧ ks ≤ rm.slots) (hd : decode cc pc = .ok (.invokevirtual 272, 3)) (kk : Z Θ nL kc ks Q r.2 (pc + 3) lv (.int r.1 :: st)) : Z Θ nL kc ks Q σ pc lv (.int o_a :: .int p_a :: .ref (zA Θ 0) :: st) := sorry
theorem fg12_263 {Θ : Tz} {cc : ByteArray} {nL kc ks : Nat} {ret : Option FieldType} {rm : Room} {Q : State → Prop} {σ : St} {pc : Nat} {lv : List (Nat × Value)} {st : List Value} (C : Zc Θ cc nL RX12 ret rm) (hkd : Θ.2.2.2.2.1 = kdM) (hd : decode cc pc = .ok (.getfield 263, 3)) (kk : Z Θ nL kc ks Q σ (pc + 3) lv (.int (σ 0 20) :: st)) : Z Θ nL kc ks Q σ pc lv (.ref (zA Θ 0) :: st) := sorry
def q12_looks (σ : St) : Option St :=
  lt (up σ 0 20 0) fun σ1_ =>
  Option.bind (q12_those σ1_ 3) fun x3_ =>
  Option.bind (q12_those σ1_ 4) fun x5_ =>
  lt (up σ1_ 0 21 (x3_ &&& (x5_ ^^^ (-1)))) fun σ7_ =>
  Option.bind (loop2 (fun rec12_ (p15_ : Int32) (σ16_ : St) =>
  Option.bind (ag σ16_ 1 752 3) fun x21_ =>
  if p15_ < x21_ then
  Option.bind (loop2 (fun rec28_ (o31_ : Int32) (σ32_ : St) =>
  Option.bind (ag σ32_ 1 752 3) fun x37_ =>
  if o31_ < x37_ then
  Option.bind (q12_favourOf σ32_ p15_ o31_) fun x41_ =>
  Option.bind (sa x41_.2 7 49 ((7 * p15_) + o31_) x41_.1) fun σ43_ =>
  Option.bind (Option.bind (if o31_ = p15_ then (if ¬ (σ43_ 0 18) = 0 then (some false) else (Option.bind (q12_of σ43_ p15_ 4) fun x54_ =>
  if x54_ = 0 then (some true) else (some false))) else (some false)) fun t50_ =>
  if t50_ = true then (lt (up σ43_ 0 20 ((σ43_ 0 20) ||| (shl 1 p15_))) fun σ58_ =>
  some (σ58_)) else (some (σ43_))) fun y45_ =>
  lt (o31_ + 1) fun o60_ =>
  rec28_ o60_ y45_
  else (some (o31_, σ32_))) fuelN (0 : Int32) σ16_) fun y25_ =>
  lt (p15_ + 1) fun p62_ =>
  rec12_ p62_ y25_.2
  else (some (p15_, σ16_))) fuelN (0 : Int32) σ7_) fun y9_ =>
  some y9_.2
abbrev rm12_looks : Room := { frames := 76, cells := 0, slots := 0, locals := 4172 }
theorem c12_looks {l : Launch} {kd : List KD} {w : Wp} {σ : St} (hkd : kd = kdM) (hi : zI kd w) {r : St} (hf : q12_looks σ = some r) : zM l kd w yX12_looks cX12_looks 3 none rm12_looks [.ref (w.2.2.1 0)] σ (none, r) := sorry
/-! LastLoafModel.hasAhead -/
def q12_hasAhead (σ : St) (p_a : Int32) (a_a : Int32) (b_a : Int32) : Option Bool :=
  Option.bind (ag σ 7 49 ((7 * p_a) + a_a)) fun x1_ =>
  Option.bind (ag σ 7 49 ((7 * p_a) + b_a)) fun x3_ =>
  lt (x1_ - x3_) fun n5_ =>
  some (decide ((0 < n5_) ∨ ((n5_ = 0) ∧ (a_a < b_a))))
abbrev rm12_hasAhead : Room := { frames := 0, cells := 0, slots := 0, locals := 0 }
theorem c12_hasAhead {l : Launch} {kd : List KD} {w : Wp} {σ : St} {p_a : Int32} {a_a : Int32} {b_a : Int32} (hkd : kd = kdM) (hi : zI kd w) {r : Bool} (hf : q12_hasAhead σ p_a a_a b_a = some r) : zM l kd w yX12_hasAhead cX12_hasAhead 5 (some .boolean) rm12_hasAhead [.ref (w.2.2.1 0), .int p_a, .int a_a, .int b_a] σ (some (.int (b2i r)), σ) := sorry
/-! LastLoafModel.aheadOf -/
theorem w_9_80 : Cond.code ({ cls := "LastLoafModel", name := "isOf", desc := "(II)Z" } : MethodName) prog_14_method_6_code (2 : Nat) (Option.some ClassFile.FieldType.boolean) ∈ TB := sorry
theorem w_9_79 : Cond.static ({ cls := "LastLoafModel", name := "isOf", desc := "(II)Z" } : MethodName) ∈ TB := sorry
theorem w_9_78 : Cond.methodLink "LastLoafModel" (275 : Nat) ({ cls := "LastLoafModel", name := "isOf", desc := "(II)Z" } : MethodName) ∈ TB := sorry
theorem cr12_275 {Θ : Tz} {cc : ByteArray} {nL kc ks : Nat} {ret : Option FieldType} {rm : Room} {Q : State → Prop} {σ : St} {pc : Nat} {lv : List (Nat × Value)} {st : List Value} (C : Zc Θ cc nL RX12 ret rm) (hkd : Θ.2.2.2.2.1 = kdM) {set_a : Int32} {k_a : Int32} (hrm : rm12_isOf.frames + 1 ≤ rm.frames ∧ 8 + (2 + 11) + rm12_isOf.locals ≤ rm.locals) (hcat : (st.map fun v => v.category).sum ≤ 8) (hk : kc ≤ rm.cells ∧ ks ≤ rm.slots) (hd : decode cc pc = .ok (.invokestatic 275, 3)) (kk : Z Θ nL kc ks Q σ (pc + 3) lv (.int (b2i (q12_isOf set_a k_a)) :: st)) : Z Θ nL kc ks Q σ pc lv (.int k_a :: .int set_a :: st) := sorry
theorem w_9_92 : Cond.code ({ cls := "LastLoafModel", name := "hasAhead", desc := "(III)Z" } : MethodName) prog_14_method_45_code (5 : Nat) (Option.some ClassFile.FieldType.boolean) ∈ TB := sorry
theorem w_9_89 : Cond.methodLink "LastLoafModel" (279 : Nat) ({ cls := "LastLoafModel", name := "hasAhead", desc := "(III)Z" } : MethodName) ∈ TB := sorry
theorem w_9_91 : Cond.instanceMethod ({ cls := "LastLoafModel", name := "hasAhead", desc := "(III)Z" } : MethodName) ∈ TB := sorry
theorem ws_LastLoafModel_hasAhead_III_Z : Cond.selects "LastLoafModel" (⟨"LastLoafModel", "hasAhead", "(III)Z"⟩ : MethodName) (⟨"LastLoafModel", "hasAhead", "(III)Z"⟩ : MethodName) ∈ TB := sorry
theorem cr12_279 {Θ : Tz} {cc : ByteArray} {nL kc ks : Nat} {ret : Option FieldType} {rm : Room} {Q : State → Prop} {σ : St} {pc : Nat} {lv : List (Nat × Value)} {st : List Value} (C : Zc Θ cc nL RX12 ret rm) (hkd : Θ.2.2.2.2.1 = kdM) {p_a : Int32} {a_a : Int32} {b_a : Int32} {r : Bool} (hx : q12_hasAhead σ p_a a_a b_a = some r) (hrm : rm12_hasAhead.frames + 1 ≤ rm.frames ∧ 8 + (5 + 11) + rm12_hasAhead.locals ≤ rm.locals) (hcat : (st.map fun v => v.category).sum ≤ 8) (hk : kc ≤ rm.cells ∧ ks ≤ rm.slots) (hd : decode cc pc = .ok (.invokevirtual 279, 3)) (kk : Z Θ nL kc ks Q σ (pc + 3) lv (.int (b2i r) :: st)) : Z Θ nL kc ks Q σ pc lv (.int b_a :: .int a_a :: .int p_a :: .ref (zA Θ 0) :: st) := sorry
def q12_aheadOf (σ : St) (p_a : Int32) (o_a : Int32) (set_a : Int32) : Option Int32 :=
  Option.bind (loop2 (fun rec4_ (n7_ : Int32) (k8_ : Int32) =>
  Option.bind (ag σ 1 752 3) fun x13_ =>
  if k8_ < x13_ then
  Option.bind (Option.bind (if q12_isOf set_a k8_ = true then (if ¬ k8_ = o_a then (Option.bind (q12_hasAhead σ p_a k8_ o_a) fun x26_ =>
  if x26_ = true then (some true) else (some false)) else (some false)) else (some false)) fun t22_ =>
  if t22_ = true then (some (1 : Int32)) else (some (0 : Int32))) fun x17_ =>
  lt (n7_ + x17_) fun n30_ =>
  lt (k8_ + 1) fun k32_ =>
  rec4_ n30_ k32_
  else (some (n7_, k8_))) fuelN (0 : Int32) (0 : Int32)) fun y1_ =>
  some y1_.1
abbrev rm12_aheadOf : Room := { frames := 1, cells := 0, slots := 0, locals := 24 }
theorem c12_aheadOf {l : Launch} {kd : List KD} {w : Wp} {σ : St} {p_a : Int32} {o_a : Int32} {set_a : Int32} (hkd : kd = kdM) (hi : zI kd w) {r : Int32} (hf : q12_aheadOf σ p_a o_a set_a = some r) : zM l kd w yX12_aheadOf cX12_aheadOf 6 (some .int) rm12_aheadOf [.ref (w.2.2.1 0), .int p_a, .int o_a, .int set_a] σ (some (.int r), σ) := sorry
/-! LastLoafModel.inRank -/
theorem w_9_88 : Cond.code ({ cls := "LastLoafModel", name := "aheadOf", desc := "(III)I" } : MethodName) prog_14_method_46_code (6 : Nat) (Option.some ClassFile.FieldType.int) ∈ TB := sorry
theorem w_9_85 : Cond.methodLink "LastLoafModel" (282 : Nat) ({ cls := "LastLoafModel", name := "aheadOf", desc := "(III)I" } : MethodName) ∈ TB := sorry
theorem w_9_87 : Cond.instanceMethod ({ cls := "LastLoafModel", name := "aheadOf", desc := "(III)I" } : MethodName) ∈ TB := sorry
theorem ws_LastLoafModel_aheadOf_III_I : Cond.selects "LastLoafModel" (⟨"LastLoafModel", "aheadOf", "(III)I"⟩ : MethodName) (⟨"LastLoafModel", "aheadOf", "(III)I"⟩ : MethodName) ∈ TB := sorry
theorem cr12_282 {Θ : Tz} {cc : ByteArray} {nL kc ks : Nat} {ret : Option FieldType} {rm : Room} {Q : State → Prop} {σ : St} {pc : Nat} {lv : List (Nat × Value)} {st : List Value} (C : Zc Θ cc nL RX12 ret rm) (hkd : Θ.2.2.2.2.1 = kdM) {p_a : Int32} {o_a : Int32} {set_a : Int32} {r : Int32} (hx : q12_aheadOf σ p_a o_a set_a = some r) (hrm : rm12_aheadOf.frames + 1 ≤ rm.frames ∧ 8 + (6 + 11) + rm12_aheadOf.locals ≤ rm.locals) (hcat : (st.map fun v => v.category).sum ≤ 8) (hk : kc ≤ rm.cells ∧ ks ≤ rm.slots) (hd : decode cc pc = .ok (.invokevirtual 282, 3)) (kk : Z Θ nL kc ks Q σ (pc + 3) lv (.int r :: st)) : Z Θ nL kc ks Q σ pc lv (.int set_a :: .int o_a :: .int p_a :: .ref (zA Θ 0) :: st) := sorry
def q12_inRank (σ : St) (p_a : Int32) (k_a : Int32) (set_a : Int32) : Option Int32 :=
  Option.bind (loop2 (fun rec4_ (found7_ : Int32) (o8_ : Int32) =>
  Option.bind (ag σ 1 752 3) fun x13_ =>
  if o8_ < x13_ then
  Option.bind (Option.bind (if q12_isOf set_a o8_ = true then (Option.bind (q12_aheadOf σ p_a o8_ set_a) fun x25_ =>
  if x25_ = k_a then (some true) else (some false)) else (some false)) fun t22_ =>
  if t22_ = true then (some (o8_)) else (some (found7_))) fun y17_ =>
  lt (o8_ + 1) fun o29_ =>
  rec4_ y17_ o29_
  else (some (found7_, o8_))) fuelN (-1 : Int32) (0 : Int32)) fun y1_ =>
  some y1_.1
abbrev rm12_inRank : Room := { frames := 2, cells := 0, slots := 0, locals := 49 }
theorem c12_inRank {l : Launch} {kd : List KD} {w : Wp} {σ : St} {p_a : Int32} {k_a : Int32} {set_a : Int32} (hkd : kd = kdM) (hi : zI kd w) {r : Int32} (hf : q12_inRank σ p_a k_a set_a = some r) : zM l kd w yX12_inRank cX12_inRank 6 (some .int) rm12_inRank [.ref (w.2.2.1 0), .int p_a, .int k_a, .int set_a] σ (some (.int r), σ) := sorry
/-! LastLoafModel.votesAt -/
def q12_votesAt (σ : St) (o_a : Int32) (k_a : Int32) (set_a : Int32) : Option Int32 :=
  Option.bind (loop2 (fun rec4_ (n7_ : Int32) (p8_ : Int32) =>
  Option.bind (ag σ 1 752 3) fun x13_ =>
  if p8_ < x13_ then
  Option.bind (Option.bind (if q12_isOf (σ 0 20) p8_ = true then (if q12_isOf set_a o_a = true then (Option.bind (q12_aheadOf σ p8_ o_a set_a) fun x26_ =>
  if x26_ = k_a then (some true) else (some false)) else (some false)) else (some false)) fun t22_ =>
  if t22_ = true then (some (1 : Int32)) else (some (0 : Int32))) fun x17_ =>
  lt (n7_ + x17_) fun n30_ =>
  lt (p8_ + 1) fun p32_ =>
  rec4_ n30_ p32_
  else (some (n7_, p8_))) fuelN (0 : Int32) (0 : Int32)) fun y1_ =>
  some y1_.1
abbrev rm12_votesAt : Room := { frames := 2, cells := 0, slots := 0, locals := 49 }
theorem c12_votesAt {l : Launch} {kd : List KD} {w : Wp} {σ : St} {o_a : Int32} {k_a : Int32} {set_a : Int32} (hkd : kd = kdM) (hi : zI kd w) {r : Int32} (hf : q12_votesAt σ o_a k_a set_a = some r) : zM l kd w yX12_votesAt cX12_votesAt 6 (some .int) rm12_votesAt [.ref (w.2.2.1 0), .int o_a, .int k_a, .int set_a] σ (some (.int r), σ) := sorry
/-! LastLoafModel.pointsOf -/
theorem fg12_269 {Θ : Tz} {cc : ByteArray} {nL kc ks : Nat} {ret : Option FieldType} {rm : Room} {Q : State → Prop} {σ : St} {pc : Nat} {lv : List (Nat × Value)} {st : List Value} (C : Zc Θ cc nL RX12 ret rm) (hkd : Θ.2.2.2.2.1 = kdM) (hd : decode cc pc = .ok (.getfield 269, 3)) (kk : Z Θ nL kc ks Q σ (pc + 3) lv (.int (σ 0 21) :: st)) : Z Θ nL kc ks Q σ pc lv (.ref (zA Θ 0) :: st) := sorry
theorem w_9_103 : Cond.code ({ cls := "LastLoafModel", name := "bits", desc := "(I)I" } : MethodName) prog_14_method_7_code (3 : Nat) (Option.some ClassFile.FieldType.int) ∈ TB := sorry
theorem w_9_102 : Cond.static ({ cls := "LastLoafModel", name := "bits", desc := "(I)I" } : MethodName) ∈ TB := sorry
theorem w_9_101 : Cond.methodLink "LastLoafModel" (286 : Nat) ({ cls := "LastLoafModel", name := "bits", desc := "(I)I" } : MethodName) ∈ TB := sorry
theorem cr12_286 {Θ : Tz} {cc : ByteArray} {nL kc ks : Nat} {ret : Option FieldType} {rm : Room} {Q : State → Prop} {σ : St} {pc : Nat} {lv : List (Nat × Value)} {st : List Value} (C : Zc Θ cc nL RX12 ret rm) (hkd : Θ.2.2.2.2.1 = kdM) {set_a : Int32} {r : Int32} (hx : q12_bits set_a = some r) (hrm : rm12_bits.frames + 1 ≤ rm.frames ∧ 8 + (3 + 11) + rm12_bits.locals ≤ rm.locals) (hcat : (st.map fun v => v.category).sum ≤ 8) (hk : kc ≤ rm.cells ∧ ks ≤ rm.slots) (hd : decode cc pc = .ok (.invokestatic 286, 3)) (kk : Z Θ nL kc ks Q σ (pc + 3) lv (.int r :: st)) : Z Θ nL kc ks Q σ pc lv (.int set_a :: st) := sorry
def q12_pointsOf (σ : St) (o_a : Int32) : Option Int32 :=
  Option.bind (loop2 (fun rec4_ (n7_ : Int32) (p8_ : Int32) =>
  Option.bind (ag σ 1 752 3) fun x13_ =>
  if p8_ < x13_ then
  Option.bind (if (q12_isOf (σ 0 20) p8_ = true) ∧ (q12_isOf (σ 0 21) o_a = true) then (Option.bind (q12_bits (σ 0 21)) fun x24_ =>
  Option.bind (q12_aheadOf σ p8_ o_a (σ 0 21)) fun x26_ =>
  some ((x24_ - 1) - x26_)) else (some (0 : Int32))) fun x17_ =>
  lt (n7_ + x17_) fun n29_ =>
  lt (p8_ + 1) fun p31_ =>
  rec4_ n29_ p31_
  else (some (n7_, p8_))) fuelN (0 : Int32) (0 : Int32)) fun y1_ =>
  some y1_.1
abbrev rm12_pointsOf : Room := { frames := 2, cells := 0, slots := 0, locals := 49 }
theorem c12_pointsOf {l : Launch} {kd : List KD} {w : Wp} {σ : St} {o_a : Int32} (hkd : kd = kdM) (hi : zI kd w) {r : Int32} (hf : q12_pointsOf σ o_a = some r) : zM l kd w yX12_pointsOf cX12_pointsOf 4 (some .int) rm12_pointsOf [.ref (w.2.2.1 0), .int o_a] σ (some (.int r), σ) := sorry
/-! LastLoafModel.doesBeat -/
def q12_doesBeat (σ : St) (a_a : Int32) (b_a : Int32) : Option Bool :=
  Option.bind (loop2 (fun rec4_ (n7_ : Int32) (p8_ : Int32) =>
  Option.bind (ag σ 1 752 3) fun x13_ =>
  if p8_ < x13_ then
  Option.bind (if ¬ (q12_isOf (σ 0 20) p8_ = true) then (some (0 : Int32)) else (Option.bind (Option.bind (q12_hasAhead σ p8_ a_a b_a) fun x28_ =>
  if x28_ = true then (some (1 : Int32)) else (some (-1 : Int32))) fun x23_ =>
  some x23_)) fun x17_ =>
  lt (n7_ + x17_) fun n33_ =>
  lt (p8_ + 1) fun p35_ =>
  rec4_ n33_ p35_
  else (some (n7_, p8_))) fuelN (0 : Int32) (0 : Int32)) fun y1_ =>
  some (decide (((0 < y1_.1) ∧ (q12_isOf (σ 0 21) a_a = true)) ∧ (q12_isOf (σ 0 21) b_a = true)))
abbrev rm12_doesBeat : Room := { frames := 1, cells := 0, slots := 0, locals := 24 }
theorem c12_doesBeat {l : Launch} {kd : List KD} {w : Wp} {σ : St} {a_a : Int32} {b_a : Int32} (hkd : kd = kdM) (hi : zI kd w) {r : Bool} (hf : q12_doesBeat σ a_a b_a = some r) : zM l kd w yX12_doesBeat cX12_doesBeat 5 (some .boolean) rm12_doesBeat [.ref (w.2.2.1 0), .int a_a, .int b_a] σ (some (.int (b2i r)), σ) := sorry
/-! LastLoafModel.duelsOf -/
theorem w_9_111 : Cond.code ({ cls := "LastLoafModel", name := "doesBeat", desc := "(II)Z" } : MethodName) prog_14_method_50_code (5 : Nat) (Option.some ClassFile.FieldType.boolean) ∈ TB := sorry
theorem w_9_108 : Cond.methodLink "LastLoafModel" (289 : Nat) ({ cls := "LastLoafModel", name := "doesBeat", desc := "(II)Z" } : MethodName) ∈ TB := sorry
theorem w_9_110 : Cond.instanceMethod ({ cls := "LastLoafModel", name := "doesBeat", desc := "(II)Z" } : MethodName) ∈ TB := sorry
theorem ws_LastLoafModel_doesBeat_II_Z : Cond.selects "LastLoafModel" (⟨"LastLoafModel", "doesBeat", "(II)Z"⟩ : MethodName) (⟨"LastLoafModel", "doesBeat", "(II)Z"⟩ : MethodName) ∈ TB := sorry
theorem cr12_289 {Θ : Tz} {cc : ByteArray} {nL kc ks : Nat} {ret : Option FieldType} {rm : Room} {Q : State → Prop} {σ : St} {pc : Nat} {lv : List (Nat × Value)} {st : List Value} (C : Zc Θ cc nL RX12 ret rm) (hkd : Θ.2.2.2.2.1 = kdM) {a_a : Int32} {b_a : Int32} {r : Bool} (hx : q12_doesBeat σ a_a b_a = some r) (hrm : rm12_doesBeat.frames + 1 ≤ rm.frames ∧ 8 + (5 + 11) + rm12_doesBeat.locals ≤ rm.locals) (hcat : (st.map fun v => v.category).sum ≤ 8) (hk : kc ≤ rm.cells ∧ ks ≤ rm.slots) (hd : decode cc pc = .ok (.invokevirtual 289, 3)) (kk : Z Θ nL kc ks Q σ (pc + 3) lv (.int (b2i r) :: st)) : Z Θ nL kc ks Q σ pc lv (.int b_a :: .int a_a :: .ref (zA Θ 0) :: st) := sorry
def q12_duelsOf (σ : St) (a_a : Int32) : Option Int32 :=
  Option.bind (loop2 (fun rec4_ (n7_ : Int32) (b8_ : Int32) =>
  Option.bind (ag σ 1 752 3) fun x13_ =>
  if b8_ < x13_ then
  Option.bind (Option.bind (if ¬ b8_ = a_a then (Option.bind (q12_doesBeat σ a_a b8_) fun x25_ =>
  if x25_ = true then (some true) else (some false)) else (some false)) fun t22_ =>
  if t22_ = true then (some (1 : Int32)) else (some (0 : Int32))) fun x17_ =>
  lt (n7_ + x17_) fun n29_ =>
  lt (b8_ + 1) fun b31_ =>
  rec4_ n29_ b31_
  else (some (n7_, b8_))) fuelN (0 : Int32) (0 : Int32)) fun y1_ =>
  some y1_.1
abbrev rm12_duelsOf : Room := { frames := 2, cells := 0, slots := 0, locals := 48 }
theorem c12_duelsOf {l : Launch} {kd : List KD} {w : Wp} {σ : St} {a_a : Int32} (hkd : kd = kdM) (hi : zI kd w) {r : Int32} (hf : q12_duelsOf σ a_a = some r) : zM l kd w yX12_duelsOf cX12_duelsOf 4 (some .int) rm12_duelsOf [.ref (w.2.2.1 0), .int a_a] σ (some (.int r), σ) := sorry
/-! LastLoafModel.countOf -/
theorem w_9_96 : Cond.code ({ cls := "LastLoafModel", name := "votesAt", desc := "(III)I" } : MethodName) prog_14_method_48_code (6 : Nat) (Option.some ClassFile.FieldType.int) ∈ TB := sorry
theorem w_9_93 : Cond.methodLink "LastLoafModel" (292 : Nat) ({ cls := "LastLoafModel", name := "votesAt", desc := "(III)I" } : MethodName) ∈ TB := sorry
theorem w_9_95 : Cond.instanceMethod ({ cls := "LastLoafModel", name := "votesAt", desc := "(III)I" } : MethodName) ∈ TB := sorry
theorem ws_LastLoafModel_votesAt_III_I : Cond.selects "LastLoafModel" (⟨"LastLoafModel", "votesAt", "(III)I"⟩ : MethodName) (⟨"LastLoafModel", "votesAt", "(III)I"⟩ : MethodName) ∈ TB := sorry
theorem cr12_292 {Θ : Tz} {cc : ByteArray} {nL kc ks : Nat} {ret : Option FieldType} {rm : Room} {Q : State → Prop} {σ : St} {pc : Nat} {lv : List (Nat × Value)} {st : List Value} (C : Zc Θ cc nL RX12 ret rm) (hkd : Θ.2.2.2.2.1 = kdM) {o_a : Int32} {k_a : Int32} {set_a : Int32} {r : Int32} (hx : q12_votesAt σ o_a k_a set_a = some r) (hrm : rm12_votesAt.frames + 1 ≤ rm.frames ∧ 8 + (6 + 11) + rm12_votesAt.locals ≤ rm.locals) (hcat : (st.map fun v => v.category).sum ≤ 8) (hk : kc ≤ rm.cells ∧ ks ≤ rm.slots) (hd : decode cc pc = .ok (.invokevirtual 292, 3)) (kk : Z Θ nL kc ks Q σ (pc + 3) lv (.int r :: st)) : Z Θ nL kc ks Q σ pc lv (.int set_a :: .int k_a :: .int o_a :: .ref (zA Θ 0) :: st) := sorry
theorem w_9_100 : Cond.code ({ cls := "LastLoafModel", name := "pointsOf", desc := "(I)I" } : MethodName) prog_14_method_49_code (4 : Nat) (Option.some ClassFile.FieldType.int) ∈ TB := sorry
theorem w_9_97 : Cond.methodLink "LastLoafModel" (295 : Nat) ({ cls := "LastLoafModel", name := "pointsOf", desc := "(I)I" } : MethodName) ∈ TB := sorry
theorem w_9_99 : Cond.instanceMethod ({ cls := "LastLoafModel", name := "pointsOf", desc := "(I)I" } : MethodName) ∈ TB := sorry
theorem ws_LastLoafModel_pointsOf_I_I : Cond.selects "LastLoafModel" (⟨"LastLoafModel", "pointsOf", "(I)I"⟩ : MethodName) (⟨"LastLoafModel", "pointsOf", "(I)I"⟩ : MethodName) ∈ TB := sorry
theorem cr12_295 {Θ : Tz} {cc : ByteArray} {nL kc ks : Nat} {ret : Option FieldType} {rm : Room} {Q : State → Prop} {σ : St} {pc : Nat} {lv : List (Nat × Value)} {st : List Value} (C : Zc Θ cc nL RX12 ret rm) (hkd : Θ.2.2.2.2.1 = kdM) {o_a : Int32} {r : Int32} (hx : q12_pointsOf σ o_a = some r) (hrm : rm12_pointsOf.frames + 1 ≤ rm.frames ∧ 8 + (4 + 11) + rm12_pointsOf.locals ≤ rm.locals) (hcat : (st.map fun v => v.category).sum ≤ 8) (hk : kc ≤ rm.cells ∧ ks ≤ rm.slots) (hd : decode cc pc = .ok (.invokevirtual 295, 3)) (kk : Z Θ nL kc ks Q σ (pc + 3) lv (.int r :: st)) : Z Θ nL kc ks Q σ pc lv (.int o_a :: .ref (zA Θ 0) :: st) := sorry
theorem w_9_107 : Cond.code ({ cls := "LastLoafModel", name := "duelsOf", desc := "(I)I" } : MethodName) prog_14_method_51_code (4 : Nat) (Option.some ClassFile.FieldType.int) ∈ TB := sorry
theorem w_9_104 : Cond.methodLink "LastLoafModel" (298 : Nat) ({ cls := "LastLoafModel", name := "duelsOf", desc := "(I)I" } : MethodName) ∈ TB := sorry
theorem w_9_106 : Cond.instanceMethod ({ cls := "LastLoafModel", name := "duelsOf", desc := "(I)I" } : MethodName) ∈ TB := sorry
theorem ws_LastLoafModel_duelsOf_I_I : Cond.selects "LastLoafModel" (⟨"LastLoafModel", "duelsOf", "(I)I"⟩ : MethodName) (⟨"LastLoafModel", "duelsOf", "(I)I"⟩ : MethodName) ∈ TB := sorry
theorem cr12_298 {Θ : Tz} {cc : ByteArray} {nL kc ks : Nat} {ret : Option FieldType} {rm : Room} {Q : State → Prop} {σ : St} {pc : Nat} {lv : List (Nat × Value)} {st : List Value} (C : Zc Θ cc nL RX12 ret rm) (hkd : Θ.2.2.2.2.1 = kdM) {a_a : Int32} {r : Int32} (hx : q12_duelsOf σ a_a = some r) (hrm : rm12_duelsOf.frames + 1 ≤ rm.frames ∧ 8 + (4 + 11) + rm12_duelsOf.locals ≤ rm.locals) (hcat : (st.map fun v => v.category).sum ≤ 8) (hk : kc ≤ rm.cells ∧ ks ≤ rm.slots) (hd : decode cc pc = .ok (.invokevirtual 298, 3)) (kk : Z Θ nL kc ks Q σ (pc + 3) lv (.int r :: st)) : Z Θ nL kc ks Q σ pc lv (.int a_a :: .ref (zA Θ 0) :: st) := sorry
def q12_countOf (σ : St) (o_a : Int32) (way_a : Int32) (set_a : Int32) : Option Int32 :=
  if way_a = 0 then (Option.bind (q12_votesAt σ o_a 0 set_a) fun x5_ =>
  some x5_) else
  if way_a = 1 then (Option.bind (q12_bits set_a) fun x11_ =>
  Option.bind (q12_votesAt σ o_a (x11_ - 1) set_a) fun x13_ =>
  some (-x13_)) else
  Option.bind (if way_a = 2 then (Option.bind (q12_pointsOf σ o_a) fun x21_ =>
  some x21_) else (Option.bind (q12_duelsOf σ o_a) fun x23_ =>
  some x23_)) fun x15_ =>
  some x15_
abbrev rm12_countOf : Room := { frames := 3, cells := 0, slots := 0, locals := 74 }
theorem c12_countOf {l : Launch} {kd : List KD} {w : Wp} {σ : St} {o_a : Int32} {way_a : Int32} {set_a : Int32} (hkd : kd = kdM) (hi : zI kd w) {r : Int32} (hf : q12_countOf σ o_a way_a set_a = some r) : zM l kd w yX12_countOf cX12_countOf 4 (some .int) rm12_countOf [.ref (w.2.2.1 0), .int o_a, .int way_a, .int set_a] σ (some (.int r), σ) := sorry
/-! LastLoafModel.winnerOf -/
theorem w_9_186 : Cond.code ({ cls := "LastLoafModel", name := "countOf", desc := "(III)I" } : MethodName) prog_14_method_52_code (4 : Nat) (Option.some ClassFile.FieldType.int) ∈ TB := sorry
theorem w_9_183 : Cond.methodLink "LastLoafModel" (301 : Nat) ({ cls := "LastLoafModel", name := "countOf", desc := "(III)I" } : MethodName) ∈ TB := sorry
theorem w_9_185 : Cond.instanceMethod ({ cls := "LastLoafModel", name := "countOf", desc := "(III)I" } : MethodName) ∈ TB := sorry
theorem ws_LastLoafModel_countOf_III_I : Cond.selects "LastLoafModel" (⟨"LastLoafModel", "countOf", "(III)I"⟩ : MethodName) (⟨"LastLoafModel", "countOf", "(III)I"⟩ : MethodName) ∈ TB := sorry
theorem cr12_301 {Θ : Tz} {cc : ByteArray} {nL kc ks : Nat} {ret : Option FieldType} {rm : Room} {Q : State → Prop} {σ : St} {pc : Nat} {lv : List (Nat × Value)} {st : List Value} (C : Zc Θ cc nL RX12 ret rm) (hkd : Θ.2.2.2.2.1 = kdM) {o_a : Int32} {way_a : Int32} {set_a : Int32} {r : Int32} (hx : q12_countOf σ o_a way_a set_a = some r) (hrm : rm12_countOf.frames + 1 ≤ rm.frames ∧ 8 + (4 + 11) + rm12_countOf.locals ≤ rm.locals) (hcat : (st.map fun v => v.category).sum ≤ 8) (hk : kc ≤ rm.cells ∧ ks ≤ rm.slots) (hd : decode cc pc = .ok (.invokevirtual 301, 3)) (kk : Z Θ nL kc ks Q σ (pc + 3) lv (.int r :: st)) : Z Θ nL kc ks Q σ pc lv (.int set_a :: .int way_a :: .int o_a :: .ref (zA Θ 0) :: st) := sorry
def q12_winnerOf (σ : St) (way_a : Int32) (set_a : Int32) : Option Int32 :=
  Option.bind (loop2 (fun rec4_ (found7_ : Int32) (o8_ : Int32) =>
  Option.bind (ag σ 1 752 3) fun x13_ =>
  if o8_ < x13_ then
  Option.bind (Option.bind (if q12_isOf set_a o8_ = true then (if found7_ = (-1) then (some true) else (Option.bind (q12_countOf σ o8_ way_a set_a) fun x26_ =>
  Option.bind (q12_countOf σ found7_ way_a set_a) fun x28_ =>
  if x28_ < x26_ then (some true) else (some false))) else (some false)) fun t22_ =>
  if t22_ = true then (some (o8_)) else (some (found7_))) fun y17_ =>
  lt (o8_ + 1) fun o32_ =>
  rec4_ y17_ o32_
  else (some (found7_, o8_))) fuelN (-1 : Int32) (0 : Int32)) fun y1_ =>
  some y1_.1
abbrev rm12_winnerOf : Room := { frames := 4, cells := 0, slots := 0, locals := 97 }
theorem c12_winnerOf {l : Launch} {kd : List KD} {w : Wp} {σ : St} {way_a : Int32} {set_a : Int32} (hkd : kd = kdM) (hi : zI kd w) {r : Int32} (hf : q12_winnerOf σ way_a set_a = some r) : zM l kd w yX12_winnerOf cX12_winnerOf 5 (some .int) rm12_winnerOf [.ref (w.2.2.1 0), .int way_a, .int set_a] σ (some (.int r), σ) := sorry
/-! LastLoafModel.lowest -/
def q12_lowest (set_a : Int32) : Option Int32 :=
  Option.bind (loop1 (fun rec4_ (k7_ : Int32) =>
  if ¬ (q12_isOf set_a k7_ = true) then
  lt (k7_ + 1) fun k14_ =>
  rec4_ k14_
  else (some k7_)) fuelN (0 : Int32)) fun y1_ =>
  some y1_
abbrev rm12_lowest : Room := { frames := 1, cells := 0, slots := 0, locals := 21 }
theorem c12_lowest {l : Launch} {kd : List KD} {w : Wp} {σ : St} {set_a : Int32} (hkd : kd = kdM) (hi : zI kd w) {r : Int32} (hf : q12_lowest set_a = some r) : zM l kd w yX12_lowest cX12_lowest 2 (some .int) rm12_lowest [.int set_a] σ (some (.int r), σ) := sorry
/-! LastLoafModel.byRounds -/
theorem w_9_193 : Cond.code ({ cls := "LastLoafModel", name := "lowest", desc := "(I)I" } : MethodName) prog_14_method_55_code (2 : Nat) (Option.some ClassFile.FieldType.int) ∈ TB := sorry
theorem w_9_192 : Cond.static ({ cls := "LastLoafModel", name := "lowest", desc := "(I)I" } : MethodName) ∈ TB := sorry
theorem w_9_191 : Cond.methodLink "LastLoafModel" (304 : Nat) ({ cls := "LastLoafModel", name := "lowest", desc := "(I)I" } : MethodName) ∈ TB := sorry
theorem cr12_304 {Θ : Tz} {cc : ByteArray} {nL kc ks : Nat} {ret : Option FieldType} {rm : Room} {Q : State → Prop} {σ : St} {pc : Nat} {lv : List (Nat × Value)} {st : List Value} (C : Zc Θ cc nL RX12 ret rm) (hkd : Θ.2.2.2.2.1 = kdM) {set_a : Int32} {r : Int32} (hx : q12_lowest set_a = some r) (hrm : rm12_lowest.frames + 1 ≤ rm.frames ∧ 8 + (2 + 11) + rm12_lowest.locals ≤ rm.locals) (hcat : (st.map fun v => v.category).sum ≤ 8) (hk : kc ≤ rm.cells ∧ ks ≤ rm.slots) (hd : decode cc pc = .ok (.invokestatic 304, 3)) (kk : Z Θ nL kc ks Q σ (pc + 3) lv (.int r :: st)) : Z Θ nL kc ks Q σ pc lv (.int set_a :: st) := sorry
def q12_byRounds (σ : St) : Option Int32 :=
  lt (σ 0 21) fun left1_ =>
  Option.bind (loop1 (fun rec6_ (left9_ : Int32) =>
  Option.bind (q12_bits left9_) fun x14_ =>
  if 1 < x14_ then
  Option.bind (loop2 (fun rec21_ (goes24_ : Int32) (o25_ : Int32) =>
  Option.bind (ag σ 1 752 3) fun x30_ =>
  if o25_ < x30_ then
  Option.bind (Option.bind (if q12_isOf left9_ o25_ = true then (if goes24_ = (-1) then (some true) else (Option.bind (q12_votesAt σ o25_ 0 left9_) fun x43_ =>
  Option.bind (q12_votesAt σ goes24_ 0 left9_) fun x45_ =>
  if x43_ ≤ x45_ then (some true) else (some false))) else (some false)) fun t39_ =>
  if t39_ = true then (some (o25_)) else (some (goes24_))) fun y34_ =>
  lt (o25_ + 1) fun o49_ =>
  rec21_ y34_ o49_
  else (some (goes24_, o25_))) fuelN (-1 : Int32) (0 : Int32)) fun y18_ =>
  lt (left9_ &&& ((shl 1 y18_.1) ^^^ (-1))) fun left51_ =>
  rec6_ left51_
  else (some left9_)) fuelN left1_) fun y3_ =>
  Option.bind (if y3_ = 0 then (some (-1 : Int32)) else (Option.bind (q12_lowest y3_) fun x59_ =>
  some x59_)) fun x53_ =>
  some x53_
abbrev rm12_byRounds : Room := { frames := 3, cells := 0, slots := 0, locals := 74 }
theorem c12_byRounds {l : Launch} {kd : List KD} {w : Wp} {σ : St} (hkd : kd = kdM) (hi : zI kd w) {r : Int32} (hf : q12_byRounds σ = some r) : zM l kd w yX12_byRounds cX12_byRounds 4 (some .int) rm12_byRounds [.ref (w.2.2.1 0)] σ (some (.int r), σ) := sorry
/-! LastLoafModel.winnerBy -/
theorem w_9_182 : Cond.code ({ cls := "LastLoafModel", name := "winnerOf", desc := "(II)I" } : MethodName) prog_14_method_53_code (5 : Nat) (Option.some ClassFile.FieldType.int) ∈ TB := sorry
theorem w_9_179 : Cond.methodLink "LastLoafModel" (307 : Nat) ({ cls := "LastLoafModel", name := "winnerOf", desc := "(II)I" } : MethodName) ∈ TB := sorry
theorem w_9_181 : Cond.instanceMethod ({ cls := "LastLoafModel", name := "winnerOf", desc := "(II)I" } : MethodName) ∈ TB := sorry
theorem ws_LastLoafModel_winnerOf_II_I : Cond.selects "LastLoafModel" (⟨"LastLoafModel", "winnerOf", "(II)I"⟩ : MethodName) (⟨"LastLoafModel", "winnerOf", "(II)I"⟩ : MethodName) ∈ TB := sorry
theorem cr12_307 {Θ : Tz} {cc : ByteArray} {nL kc ks : Nat} {ret : Option FieldType} {rm : Room} {Q : State → Prop} {σ : St} {pc : Nat} {lv : List (Nat × Value)} {st : List Value} (C : Zc Θ cc nL RX12 ret rm) (hkd : Θ.2.2.2.2.1 = kdM) {way_a : Int32} {set_a : Int32} {r : Int32} (hx : q12_winnerOf σ way_a set_a = some r) (hrm : rm12_winnerOf.frames + 1 ≤ rm.frames ∧ 8 + (5 + 11) + rm12_winnerOf.locals ≤ rm.locals) (hcat : (st.map fun v => v.category).sum ≤ 8) (hk : kc ≤ rm.cells ∧ ks ≤ rm.slots) (hd : decode cc pc = .ok (.invokevirtual 307, 3)) (kk : Z Θ nL kc ks Q σ (pc + 3) lv (.int r :: st)) : Z Θ nL kc ks Q σ pc lv (.int set_a :: .int way_a :: .ref (zA Θ 0) :: st) := sorry
theorem w_9_190 : Cond.code ({ cls := "LastLoafModel", name := "byRounds", desc := "()I" } : MethodName) prog_14_method_54_code (4 : Nat) (Option.some ClassFile.FieldType.int) ∈ TB := sorry
theorem w_9_187 : Cond.methodLink "LastLoafModel" (310 : Nat) ({ cls := "LastLoafModel", name := "byRounds", desc := "()I" } : MethodName) ∈ TB := sorry
theorem w_9_189 : Cond.instanceMethod ({ cls := "LastLoafModel", name := "byRounds", desc := "()I" } : MethodName) ∈ TB := sorry
theorem ws_LastLoafModel_byRounds__I : Cond.selects "LastLoafModel" (⟨"LastLoafModel", "byRounds", "()I"⟩ : MethodName) (⟨"LastLoafModel", "byRounds", "()I"⟩ : MethodName) ∈ TB := sorry
theorem cr12_310 {Θ : Tz} {cc : ByteArray} {nL kc ks : Nat} {ret : Option FieldType} {rm : Room} {Q : State → Prop} {σ : St} {pc : Nat} {lv : List (Nat × Value)} {st : List Value} (C : Zc Θ cc nL RX12 ret rm) (hkd : Θ.2.2.2.2.1 = kdM) {r : Int32} (hx : q12_byRounds σ = some r) (hrm : rm12_byRounds.frames + 1 ≤ rm.frames ∧ 8 + (4 + 11) + rm12_byRounds.locals ≤ rm.locals) (hcat : (st.map fun v => v.category).sum ≤ 8) (hk : kc ≤ rm.cells ∧ ks ≤ rm.slots) (hd : decode cc pc = .ok (.invokevirtual 310, 3)) (kk : Z Θ nL kc ks Q σ (pc + 3) lv (.int r :: st)) : Z Θ nL kc ks Q σ pc lv (.ref (zA Θ 0) :: st) := sorry
theorem w_9_166 : Cond.code ({ cls := "LastLoafModel", name := "lesser", desc := "(II)I" } : MethodName) prog_14_method_4_code (2 : Nat) (Option.some ClassFile.FieldType.int) ∈ TB := sorry
theorem w_9_165 : Cond.static ({ cls := "LastLoafModel", name := "lesser", desc := "(II)I" } : MethodName) ∈ TB := sorry
theorem w_9_164 : Cond.methodLink "LastLoafModel" (313 : Nat) ({ cls := "LastLoafModel", name := "lesser", desc := "(II)I" } : MethodName) ∈ TB := sorry
theorem cr12_313 {Θ : Tz} {cc : ByteArray} {nL kc ks : Nat} {ret : Option FieldType} {rm : Room} {Q : State → Prop} {σ : St} {pc : Nat} {lv : List (Nat × Value)} {st : List Value} (C : Zc Θ cc nL RX12 ret rm) (hkd : Θ.2.2.2.2.1 = kdM) {a_a : Int32} {b_a : Int32} (hrm : rm12_lesser.frames + 1 ≤ rm.frames ∧ 8 + (2 + 11) + rm12_lesser.locals ≤ rm.locals) (hcat : (st.map fun v => v.category).sum ≤ 8) (hk : kc ≤ rm.cells ∧ ks ≤ rm.slots) (hd : decode cc pc = .ok (.invokestatic 313, 3)) (kk : Z Θ nL kc ks Q σ (pc + 3) lv (.int (q12_lesser a_a b_a) :: st)) : Z Θ nL kc ks Q σ pc lv (.int b_a :: .int a_a :: st) := sorry
def q12_winnerBy (σ : St) (way_a : Int32) : Option Int32 :=
  if way_a < 4 then (Option.bind (q12_winnerOf σ way_a (σ 0 21)) fun x5_ =>
  some x5_) else
  Option.bind (if way_a = 4 then (some true) else (Option.bind (q12_bits (σ 0 21)) fun x12_ =>
  if x12_ < 2 then (some true) else (some false))) fun t9_ =>
  if t9_ = true then (Option.bind (q12_byRounds σ) fun x16_ =>
  some x16_) else
  Option.bind (q12_winnerOf σ 0 (σ 0 21)) fun x18_ =>
  Option.bind (q12_winnerOf σ 0 ((σ 0 21) &&& ((shl 1 x18_) ^^^ (-1)))) fun x20_ =>
  Option.bind (q12_doesBeat σ x18_ x20_) fun x24_ =>
  if x24_ = true then (some x18_) else
  Option.bind (Option.bind (q12_doesBeat σ x20_ x18_) fun x33_ =>
  if x33_ = true then (some x20_) else (some (q12_lesser x18_ x20_))) fun x28_ =>
  some x28_
abbrev rm12_winnerBy : Room := { frames := 5, cells := 0, slots := 0, locals := 121 }
theorem c12_winnerBy {l : Launch} {kd : List KD} {w : Wp} {σ : St} {way_a : Int32} (hkd : kd = kdM) (hi : zI kd w) {r : Int32} (hf : q12_winnerBy σ way_a = some r) : zM l kd w yX12_winnerBy cX12_winnerBy 4 (some .int) rm12_winnerBy [.ref (w.2.2.1 0), .int way_a] σ (some (.int r), σ) := sorry
/-! LastLoafModel.draw -/
theorem w_9_206 : Cond.constant "LastLoafModel" (316 : Nat) (1103515245 : Int32) ∈ TB := sorry
theorem sp_12345 : (Int16.ofInt (12345)).toInt32 = 12345 := sorry
theorem sp_32767 : (Int16.ofInt (32767)).toInt32 = 32767 := sorry
def q12_draw (σ : St) (n_a : Int32) : Option (Int32 × St) :=
  Option.bind (ag σ 1 752 9) fun x1_ =>
  Option.bind (sa σ 1 752 9 ((1103515245 * x1_) + 12345)) fun σ3_ =>
  Option.bind (ag σ3_ 1 752 9) fun x5_ =>
  Option.bind (rmd ((ushr x5_ 16) &&& 32767) n_a) fun x7_ =>
  some (x7_, σ3_)
abbrev rm12_draw : Room := { frames := 0, cells := 0, slots := 0, locals := 0 }
theorem c12_draw {l : Launch} {kd : List KD} {w : Wp} {σ : St} {n_a : Int32} (hkd : kd = kdM) (hi : zI kd w) {r : (Int32 × St)} (hf : q12_draw σ n_a = some r) : zM l kd w yX12_draw cX12_draw 2 (some .int) rm12_draw [.ref (w.2.2.1 0), .int n_a] σ (some (.int r.1), r.2) := sorry
/-! LastLoafModel.logs -/
theorem sp_239 : (Int16.ofInt (239)).toInt32 = 239 := sorry
theorem bp_112 : (Int8.ofInt (112)).toInt32 = 112 := sorry
theorem bp_113 : (Int8.ofInt (113)).toInt32 = 113 := sorry
theorem bp_114 : (Int8.ofInt (114)).toInt32 = 114 := sorry
theorem bp_115 : (Int8.ofInt (115)).toInt32 = 115 := sorry
def q12_logs (σ : St) (what_a : Int32) (p_a : Int32) (votes_a : Int32) : Option St :=
  Option.bind (loop2 (fun rec4_ (k7_ : Int32) (σ8_ : St) =>
  if 4 ≤ k7_ then
  Option.bind (ag σ8_ 1 752 ((112 + k7_) - 4)) fun x15_ =>
  Option.bind (sa σ8_ 1 752 (112 + k7_) x15_) fun σ17_ =>
  lt (k7_ + (-1)) fun k19_ =>
  rec4_ k19_ σ17_
  else (some (k7_, σ8_))) fuelN (239 : Int32) σ) fun y1_ =>
  Option.bind (ag y1_.2 1 752 4) fun x21_ =>
  Option.bind (sa y1_.2 1 752 112 x21_) fun σ23_ =>
  Option.bind (sa σ23_ 1 752 113 what_a) fun σ25_ =>
  Option.bind (sa σ25_ 1 752 114 p_a) fun σ27_ =>
  Option.bind (sa σ27_ 1 752 115 votes_a) fun σ29_ =>
  Option.bind (ag σ29_ 1 752 8) fun x31_ =>
  Option.bind (sa σ29_ 1 752 8 (q12_lesser 60 (x31_ + 1))) fun σ33_ =>
  some σ33_
abbrev rm12_logs : Room := { frames := 1, cells := 0, slots := 0, locals := 21 }
theorem c12_logs {l : Launch} {kd : List KD} {w : Wp} {σ : St} {what_a : Int32} {p_a : Int32} {votes_a : Int32} (hkd : kd = kdM) (hi : zI kd w) {r : St} (hf : q12_logs σ what_a p_a votes_a = some r) : zM l kd w yX12_logs cX12_logs 5 none rm12_logs [.ref (w.2.2.1 0), .int what_a, .int p_a, .int votes_a] σ (none, r) := sorry
/-! LastLoafModel.isHungrier -/
def q12_isHungrier (σ : St) (p_a : Int32) : Option St :=
  Option.bind (q12_of σ p_a 0) fun x1_ =>
  Option.bind (q12_lays σ p_a 0 (q12_lesser 9 (x1_ + 1))) fun x3_ =>
  some x3_
abbrev rm12_isHungrier : Room := { frames := 1, cells := 0, slots := 0, locals := 23 }
theorem c12_isHungrier {l : Launch} {kd : List KD} {w : Wp} {σ : St} {p_a : Int32} (hkd : kd = kdM) (hi : zI kd w) {r : St} (hf : q12_isHungrier σ p_a = some r) : zM l kd w yX12_isHungrier cX12_isHungrier 2 none rm12_isHungrier [.ref (w.2.2.1 0), .int p_a] σ (none, r) := sorry
/-! LastLoafModel.feeds -/
theorem sp_9999 : (Int16.ofInt (9999)).toInt32 = 9999 := sorry
theorem w_9_170 : Cond.code ({ cls := "LastLoafModel", name := "isHungrier", desc := "(I)V" } : MethodName) prog_14_method_59_code (2 : Nat) (Option.none : Option ClassFile.FieldType) ∈ TB := sorry
theorem w_9_167 : Cond.methodLink "LastLoafModel" (317 : Nat) ({ cls := "LastLoafModel", name := "isHungrier", desc := "(I)V" } : MethodName) ∈ TB := sorry
theorem w_9_169 : Cond.instanceMethod ({ cls := "LastLoafModel", name := "isHungrier", desc := "(I)V" } : MethodName) ∈ TB := sorry
theorem ws_LastLoafModel_isHungrier_I_V : Cond.selects "LastLoafModel" (⟨"LastLoafModel", "isHungrier", "(I)V"⟩ : MethodName) (⟨"LastLoafModel", "isHungrier", "(I)V"⟩ : MethodName) ∈ TB := sorry
theorem cr12_317 {Θ : Tz} {cc : ByteArray} {nL kc ks : Nat} {ret : Option FieldType} {rm : Room} {Q : State → Prop} {σ : St} {pc : Nat} {lv : List (Nat × Value)} {st : List Value} (C : Zc Θ cc nL RX12 ret rm) (hkd : Θ.2.2.2.2.1 = kdM) {p_a : Int32} {r : St} (hx : q12_isHungrier σ p_a = some r) (hrm : rm12_isHungrier.frames + 1 ≤ rm.frames ∧ 8 + (2 + 11) + rm12_isHungrier.locals ≤ rm.locals) (hcat : (st.map fun v => v.category).sum ≤ 8) (hk : kc ≤ rm.cells ∧ ks ≤ rm.slots) (hd : decode cc pc = .ok (.invokevirtual 317, 3)) (kk : Z Θ nL kc ks Q r (pc + 3) lv st) : Z Θ nL kc ks Q σ pc lv (.int p_a :: .ref (zA Θ 0) :: st) := sorry
def q12_feeds (σ : St) : Option St :=
  Option.bind (ag σ 1 752 5) fun x1_ =>
  Option.bind (ag σ 1 752 4) fun x3_ =>
  Option.bind (ag σ 1 752 (10 + (irm x3_ 4))) fun x5_ =>
  Option.bind (sa σ 1 752 5 (q12_lesser 9999 (x1_ + x5_))) fun σ7_ =>
  Option.bind (loop2 (fun rec12_ (p15_ : Int32) (σ16_ : St) =>
  Option.bind (ag σ16_ 1 752 3) fun x21_ =>
  if p15_ < x21_ then
  lt (fun (p53_ : Int32) (σ54_ : St) =>
  lt (p53_ + 1) fun p56_ =>
  rec12_ p56_ σ54_) fun k18_ =>
  Option.bind (Option.bind (q12_of σ16_ p15_ 3) fun x29_ =>
  if x29_ = 1 then (some true) else (Option.bind (q12_of σ16_ p15_ 4) fun x32_ =>
  if x32_ = 1 then (some true) else (some false))) fun t27_ =>
  if t27_ = true then (k18_ p15_ σ16_) else
  Option.bind (Option.bind (ag σ16_ 1 752 5) fun x41_ =>
  if x41_ = 0 then (Option.bind (q12_isHungrier σ16_ p15_) fun x45_ =>
  some (x45_)) else (Option.bind (ag σ16_ 1 752 5) fun x47_ =>
  Option.bind (sa σ16_ 1 752 5 (x47_ - 1)) fun σ49_ =>
  Option.bind (q12_lays σ49_ p15_ 0 0) fun x51_ =>
  some (x51_))) fun y36_ =>
  k18_ p15_ y36_
  else (some (p15_, σ16_))) fuelN (0 : Int32) σ7_) fun y9_ =>
  some y9_.2
abbrev rm12_feeds : Room := { frames := 2, cells := 0, slots := 0, locals := 44 }
theorem c12_feeds {l : Launch} {kd : List KD} {w : Wp} {σ : St} (hkd : kd = kdM) (hi : zI kd w) {r : St} (hf : q12_feeds σ = some r) : zM l kd w yX12_feeds cX12_feeds 2 none rm12_feeds [.ref (w.2.2.1 0)] σ (none, r) := sorry
/-! LastLoafModel.lastLoaf -/
theorem w_9_61 : Cond.code ({ cls := "LastLoafModel", name := "looks", desc := "()V" } : MethodName) prog_14_method_44_code (3 : Nat) (Option.none : Option ClassFile.FieldType) ∈ TB := sorry
theorem w_9_58 : Cond.methodLink "LastLoafModel" (320 : Nat) ({ cls := "LastLoafModel", name := "looks", desc := "()V" } : MethodName) ∈ TB := sorry
theorem w_9_60 : Cond.instanceMethod ({ cls := "LastLoafModel", name := "looks", desc := "()V" } : MethodName) ∈ TB := sorry
theorem ws_LastLoafModel_looks__V : Cond.selects "LastLoafModel" (⟨"LastLoafModel", "looks", "()V"⟩ : MethodName) (⟨"LastLoafModel", "looks", "()V"⟩ : MethodName) ∈ TB := sorry
theorem cr12_320 {Θ : Tz} {cc : ByteArray} {nL kc ks : Nat} {ret : Option FieldType} {rm : Room} {Q : State → Prop} {σ : St} {pc : Nat} {lv : List (Nat × Value)} {st : List Value} (C : Zc Θ cc nL RX12 ret rm) (hkd : Θ.2.2.2.2.1 = kdM) {r : St} (hx : q12_looks σ = some r) (hrm : rm12_looks.frames + 1 ≤ rm.frames ∧ 8 + (3 + 11) + rm12_looks.locals ≤ rm.locals) (hcat : (st.map fun v => v.category).sum ≤ 8) (hk : kc ≤ rm.cells ∧ ks ≤ rm.slots) (hd : decode cc pc = .ok (.invokevirtual 320, 3)) (kk : Z Θ nL kc ks Q r (pc + 3) lv st) : Z Θ nL kc ks Q σ pc lv (.ref (zA Θ 0) :: st) := sorry
theorem w_9_178 : Cond.code ({ cls := "LastLoafModel", name := "winnerBy", desc := "(I)I" } : MethodName) prog_14_method_56_code (4 : Nat) (Option.some ClassFile.FieldType.int) ∈ TB := sorry
theorem w_9_175 : Cond.methodLink "LastLoafModel" (323 : Nat) ({ cls := "LastLoafModel", name := "winnerBy", desc := "(I)I" } : MethodName) ∈ TB := sorry
theorem w_9_177 : Cond.instanceMethod ({ cls := "LastLoafModel", name := "winnerBy", desc := "(I)I" } : MethodName) ∈ TB := sorry
theorem ws_LastLoafModel_winnerBy_I_I : Cond.selects "LastLoafModel" (⟨"LastLoafModel", "winnerBy", "(I)I"⟩ : MethodName) (⟨"LastLoafModel", "winnerBy", "(I)I"⟩ : MethodName) ∈ TB := sorry
theorem cr12_323 {Θ : Tz} {cc : ByteArray} {nL kc ks : Nat} {ret : Option FieldType} {rm : Room} {Q : State → Prop} {σ : St} {pc : Nat} {lv : List (Nat × Value)} {st : List Value} (C : Zc Θ cc nL RX12 ret rm) (hkd : Θ.2.2.2.2.1 = kdM) {way_a : Int32} {r : Int32} (hx : q12_winnerBy σ way_a = some r) (hrm : rm12_winnerBy.frames + 1 ≤ rm.frames ∧ 8 + (4 + 11) + rm12_winnerBy.locals ≤ rm.locals) (hcat : (st.map fun v => v.category).sum ≤ 8) (hk : kc ≤ rm.cells ∧ ks ≤ rm.slots) (hd : decode cc pc = .ok (.invokevirtual 323, 3)) (kk : Z Θ nL kc ks Q σ (pc + 3) lv (.int r :: st)) : Z Θ nL kc ks Q σ pc lv (.int way_a :: .ref (zA Θ 0) :: st) := sorry
theorem w_9_197 : Cond.code ({ cls := "LastLoafModel", name := "logs", desc := "(III)V" } : MethodName) prog_14_method_58_code (5 : Nat) (Option.none : Option ClassFile.FieldType) ∈ TB := sorry
theorem w_9_194 : Cond.methodLink "LastLoafModel" (326 : Nat) ({ cls := "LastLoafModel", name := "logs", desc := "(III)V" } : MethodName) ∈ TB := sorry
theorem w_9_196 : Cond.instanceMethod ({ cls := "LastLoafModel", name := "logs", desc := "(III)V" } : MethodName) ∈ TB := sorry
theorem ws_LastLoafModel_logs_III_V : Cond.selects "LastLoafModel" (⟨"LastLoafModel", "logs", "(III)V"⟩ : MethodName) (⟨"LastLoafModel", "logs", "(III)V"⟩ : MethodName) ∈ TB := sorry
theorem cr12_326 {Θ : Tz} {cc : ByteArray} {nL kc ks : Nat} {ret : Option FieldType} {rm : Room} {Q : State → Prop} {σ : St} {pc : Nat} {lv : List (Nat × Value)} {st : List Value} (C : Zc Θ cc nL RX12 ret rm) (hkd : Θ.2.2.2.2.1 = kdM) {what_a : Int32} {p_a : Int32} {votes_a : Int32} {r : St} (hx : q12_logs σ what_a p_a votes_a = some r) (hrm : rm12_logs.frames + 1 ≤ rm.frames ∧ 8 + (5 + 11) + rm12_logs.locals ≤ rm.locals) (hcat : (st.map fun v => v.category).sum ≤ 8) (hk : kc ≤ rm.cells ∧ ks ≤ rm.slots) (hd : decode cc pc = .ok (.invokevirtual 326, 3)) (kk : Z Θ nL kc ks Q r (pc + 3) lv st) : Z Θ nL kc ks Q σ pc lv (.int votes_a :: .int p_a :: .int what_a :: .ref (zA Θ 0) :: st) := sorry
def q12_lastLoaf (σ : St) : Option St :=
  Option.bind (Option.bind (Option.bind (ag σ 1 752 5) fun x8_ =>
  if 0 < x8_ then (Option.bind (q12_those σ 3) fun x11_ =>
  Option.bind (q12_those σ 4) fun x13_ =>
  if ¬ (x11_ &&& (x13_ ^^^ (-1))) = 0 then (some true) else (some false)) else (some false)) fun t6_ =>
  if t6_ = true then (Option.bind (q12_looks σ) fun x17_ =>
  Option.bind (ag x17_ 1 752 6) fun x19_ =>
  Option.bind (q12_winnerBy x17_ x19_) fun x21_ =>
  Option.bind (ag x17_ 1 752 5) fun x23_ =>
  Option.bind (sa x17_ 1 752 5 (x23_ - 1)) fun σ25_ =>
  Option.bind (q12_votesAt σ25_ x21_ 0 (σ25_ 0 21)) fun x27_ =>
  Option.bind (q12_logs σ25_ 0 x21_ x27_) fun x29_ =>
  some (x21_, x29_)) else (some ((-1 : Int32), σ))) fun y1_ =>
  Option.bind (loop2 (fun rec34_ (p37_ : Int32) (σ38_ : St) =>
  Option.bind (ag σ38_ 1 752 3) fun x43_ =>
  if p37_ < x43_ then
  lt (fun (p79_ : Int32) (σ80_ : St) =>
  lt (p79_ + 1) fun p82_ =>
  rec34_ p82_ σ80_) fun k40_ =>
  if p37_ = y1_.1 then (Option.bind (q12_lays σ38_ p37_ 0 0) fun x51_ =>
  Option.bind (q12_of x51_ p37_ 5) fun x53_ =>
  Option.bind (q12_lays x51_ p37_ 5 (q12_lesser 999 (x53_ + 1))) fun x55_ =>
  Option.bind (q12_of x55_ p37_ 6) fun x57_ =>
  Option.bind (q12_lays x55_ p37_ 6 (q12_lesser 99 (x57_ + 1))) fun x59_ =>
  k40_ p37_ x59_) else
  Option.bind (q12_lays σ38_ p37_ 6 0) fun x61_ =>
  Option.bind (Option.bind (Option.bind (q12_of x61_ p37_ 3) fun x70_ =>
  if x70_ = 1 then (Option.bind (q12_of x61_ p37_ 4) fun x73_ =>
  if x73_ = 0 then (some true) else (some false)) else (some false)) fun t68_ =>
  if t68_ = true then (Option.bind (q12_isHungrier x61_ p37_) fun x77_ =>
  some (x77_)) else (some (x61_))) fun y63_ =>
  k40_ p37_ y63_
  else (some (p37_, σ38_))) fuelN (0 : Int32) y1_.2) fun y31_ =>
  some y31_.2
abbrev rm12_lastLoaf : Room := { frames := 77, cells := 0, slots := 0, locals := 4194 }
theorem c12_lastLoaf {l : Launch} {kd : List KD} {w : Wp} {σ : St} (hkd : kd = kdM) (hi : zI kd w) {r : St} (hf : q12_lastLoaf σ = some r) : zM l kd w yX12_lastLoaf cX12_lastLoaf 3 none rm12_lastLoaf [.ref (w.2.2.1 0)] σ (none, r) := sorry
/-! LastLoafModel.speaks -/
theorem w_9_205 : Cond.code ({ cls := "LastLoafModel", name := "draw", desc := "(I)I" } : MethodName) prog_14_method_57_code (2 : Nat) (Option.some ClassFile.FieldType.int) ∈ TB := sorry
theorem w_9_202 : Cond.methodLink "LastLoafModel" (329 : Nat) ({ cls := "LastLoafModel", name := "draw", desc := "(I)I" } : MethodName) ∈ TB := sorry
theorem w_9_204 : Cond.instanceMethod ({ cls := "LastLoafModel", name := "draw", desc := "(I)I" } : MethodName) ∈ TB := sorry
theorem ws_LastLoafModel_draw_I_I : Cond.selects "LastLoafModel" (⟨"LastLoafModel", "draw", "(I)I"⟩ : MethodName) (⟨"LastLoafModel", "draw", "(I)I"⟩ : MethodName) ∈ TB := sorry
theorem cr12_329 {Θ : Tz} {cc : ByteArray} {nL kc ks : Nat} {ret : Option FieldType} {rm : Room} {Q : State → Prop} {σ : St} {pc : Nat} {lv : List (Nat × Value)} {st : List Value} (C : Zc Θ cc nL RX12 ret rm) (hkd : Θ.2.2.2.2.1 = kdM) {n_a : Int32} {r : Int32 × St} (hx : q12_draw σ n_a = some r) (hrm : rm12_draw.frames + 1 ≤ rm.frames ∧ 8 + (2 + 11) + rm12_draw.locals ≤ rm.locals) (hcat : (st.map fun v => v.category).sum ≤ 8) (hk : kc ≤ rm.cells ∧ ks ≤ rm.slots) (hd : decode cc pc = .ok (.invokevirtual 329, 3)) (kk : Z Θ nL kc ks Q r.2 (pc + 3) lv (.int r.1 :: st)) : Z Θ nL kc ks Q σ pc lv (.int n_a :: .ref (zA Θ 0) :: st) := sorry
def q12_speaks (σ : St) : Option St :=
  Option.bind (q12_those σ 3) fun x1_ =>
  Option.bind (q12_those σ 4) fun x3_ =>
  lt (x1_ &&& (x3_ ^^^ (-1))) fun set5_ =>
  Option.bind (q12_draw σ 100) fun x9_ =>
  Option.bind (ag x9_.2 1 752 7) fun x11_ =>
  if (x11_ ≤ x9_.1) ∨ (set5_ = 0) then (some x9_.2) else
  Option.bind (q12_bits set5_) fun x16_ =>
  Option.bind (q12_draw x9_.2 x16_) fun x18_ =>
  Option.bind (ag x18_.2 1 752 3) fun x20_ =>
  lt (x20_ - 1) fun p22_ =>
  Option.bind (loop2 (fun rec27_ (who30_ : Int32) (p31_ : Int32) =>
  if 0 ≤ p31_ then
  Option.bind (Option.bind (if q12_isOf set5_ p31_ = true then (Option.bind (q12_bits (set5_ &&& ((shl 1 p31_) - 1))) fun x46_ =>
  if x46_ = x18_.1 then (some true) else (some false)) else (some false)) fun t43_ =>
  if t43_ = true then (some (p31_)) else (some (who30_))) fun y38_ =>
  lt (p31_ + (-1)) fun p50_ =>
  rec27_ y38_ p50_
  else (some (who30_, p31_))) fuelN (-1 : Int32) p22_) fun y24_ =>
  Option.bind (loop2 (fun rec55_ (p58_ : Int32) (σ59_ : St) =>
  Option.bind (ag σ59_ 1 752 3) fun x64_ =>
  if p58_ < x64_ then
  Option.bind (if ¬ p58_ = y24_.1 then (Option.bind (ag σ59_ 1 752 ((63 + (7 * p58_)) + y24_.1)) fun x75_ =>
  Option.bind (sa σ59_ 1 752 ((63 + (7 * p58_)) + y24_.1) (q12_lesser 9 (x75_ + 1))) fun σ77_ =>
  some (σ77_)) else (some (σ59_))) fun y68_ =>
  lt (p58_ + 1) fun p79_ =>
  rec55_ p79_ y68_
  else (some (p58_, σ59_))) fuelN (0 : Int32) x18_.2) fun y52_ =>
  some y52_.2
abbrev rm12_speaks : Room := { frames := 2, cells := 0, slots := 0, locals := 45 }
theorem c12_speaks {l : Launch} {kd : List KD} {w : Wp} {σ : St} (hkd : kd = kdM) (hi : zI kd w) {r : St} (hf : q12_speaks σ = some r) : zM l kd w yX12_speaks cX12_speaks 5 none rm12_speaks [.ref (w.2.2.1 0)] σ (none, r) := sorry
/-! LastLoafModel.passes -/
theorem w_9_163 : Cond.code ({ cls := "LastLoafModel", name := "feeds", desc := "()V" } : MethodName) prog_14_method_60_code (2 : Nat) (Option.none : Option ClassFile.FieldType) ∈ TB := sorry
theorem w_9_160 : Cond.methodLink "LastLoafModel" (332 : Nat) ({ cls := "LastLoafModel", name := "feeds", desc := "()V" } : MethodName) ∈ TB := sorry
theorem w_9_162 : Cond.instanceMethod ({ cls := "LastLoafModel", name := "feeds", desc := "()V" } : MethodName) ∈ TB := sorry
theorem ws_LastLoafModel_feeds__V : Cond.selects "LastLoafModel" (⟨"LastLoafModel", "feeds", "()V"⟩ : MethodName) (⟨"LastLoafModel", "feeds", "()V"⟩ : MethodName) ∈ TB := sorry
theorem cr12_332 {Θ : Tz} {cc : ByteArray} {nL kc ks : Nat} {ret : Option FieldType} {rm : Room} {Q : State → Prop} {σ : St} {pc : Nat} {lv : List (Nat × Value)} {st : List Value} (C : Zc Θ cc nL RX12 ret rm) (hkd : Θ.2.2.2.2.1 = kdM) {r : St} (hx : q12_feeds σ = some r) (hrm : rm12_feeds.frames + 1 ≤ rm.frames ∧ 8 + (2 + 11) + rm12_feeds.locals ≤ rm.locals) (hcat : (st.map fun v => v.category).sum ≤ 8) (hk : kc ≤ rm.cells ∧ ks ≤ rm.slots) (hd : decode cc pc = .ok (.invokevirtual 332, 3)) (kk : Z Θ nL kc ks Q r (pc + 3) lv st) : Z Θ nL kc ks Q σ pc lv (.ref (zA Θ 0) :: st) := sorry
theorem w_9_174 : Cond.code ({ cls := "LastLoafModel", name := "lastLoaf", desc := "()V" } : MethodName) prog_14_method_61_code (3 : Nat) (Option.none : Option ClassFile.FieldType) ∈ TB := sorry
theorem w_9_171 : Cond.methodLink "LastLoafModel" (335 : Nat) ({ cls := "LastLoafModel", name := "lastLoaf", desc := "()V" } : MethodName) ∈ TB := sorry
theorem w_9_173 : Cond.instanceMethod ({ cls := "LastLoafModel", name := "lastLoaf", desc := "()V" } : MethodName) ∈ TB := sorry
theorem ws_LastLoafModel_lastLoaf__V : Cond.selects "LastLoafModel" (⟨"LastLoafModel", "lastLoaf", "()V"⟩ : MethodName) (⟨"LastLoafModel", "lastLoaf", "()V"⟩ : MethodName) ∈ TB := sorry
theorem cr12_335 {Θ : Tz} {cc : ByteArray} {nL kc ks : Nat} {ret : Option FieldType} {rm : Room} {Q : State → Prop} {σ : St} {pc : Nat} {lv : List (Nat × Value)} {st : List Value} (C : Zc Θ cc nL RX12 ret rm) (hkd : Θ.2.2.2.2.1 = kdM) {r : St} (hx : q12_lastLoaf σ = some r) (hrm : rm12_lastLoaf.frames + 1 ≤ rm.frames ∧ 8 + (3 + 11) + rm12_lastLoaf.locals ≤ rm.locals) (hcat : (st.map fun v => v.category).sum ≤ 8) (hk : kc ≤ rm.cells ∧ ks ≤ rm.slots) (hd : decode cc pc = .ok (.invokevirtual 335, 3)) (kk : Z Θ nL kc ks Q r (pc + 3) lv st) : Z Θ nL kc ks Q σ pc lv (.ref (zA Θ 0) :: st) := sorry
theorem w_9_201 : Cond.code ({ cls := "LastLoafModel", name := "speaks", desc := "()V" } : MethodName) prog_14_method_62_code (5 : Nat) (Option.none : Option ClassFile.FieldType) ∈ TB := sorry
theorem w_9_198 : Cond.methodLink "LastLoafModel" (338 : Nat) ({ cls := "LastLoafModel", name := "speaks", desc := "()V" } : MethodName) ∈ TB := sorry
theorem w_9_200 : Cond.instanceMethod ({ cls := "LastLoafModel", name := "speaks", desc := "()V" } : MethodName) ∈ TB := sorry
theorem ws_LastLoafModel_speaks__V : Cond.selects "LastLoafModel" (⟨"LastLoafModel", "speaks", "()V"⟩ : MethodName) (⟨"LastLoafModel", "speaks", "()V"⟩ : MethodName) ∈ TB := sorry
theorem cr12_338 {Θ : Tz} {cc : ByteArray} {nL kc ks : Nat} {ret : Option FieldType} {rm : Room} {Q : State → Prop} {σ : St} {pc : Nat} {lv : List (Nat × Value)} {st : List Value} (C : Zc Θ cc nL RX12 ret rm) (hkd : Θ.2.2.2.2.1 = kdM) {r : St} (hx : q12_speaks σ = some r) (hrm : rm12_speaks.frames + 1 ≤ rm.frames ∧ 8 + (5 + 11) + rm12_speaks.locals ≤ rm.locals) (hcat : (st.map fun v => v.category).sum ≤ 8) (hk : kc ≤ rm.cells ∧ ks ≤ rm.slots) (hd : decode cc pc = .ok (.invokevirtual 338, 3)) (kk : Z Θ nL kc ks Q r (pc + 3) lv st) : Z Θ nL kc ks Q σ pc lv (.ref (zA Θ 0) :: st) := sorry
def q12_passes (σ : St) (draws_a : Bool) : Option (Int32 × St) :=
  Option.bind (q12_feeds σ) fun x1_ =>
  Option.bind (q12_lastLoaf x1_) fun x3_ =>
  Option.bind (loop3 (fun rec8_ (n11_ : Int32) (p12_ : Int32) (σ13_ : St) =>
  Option.bind (ag σ13_ 1 752 3) fun x18_ =>
  if p12_ < x18_ then
  lt (fun (n39_ : Int32) (p40_ : Int32) (σ41_ : St) =>
  lt (p40_ + 1) fun p43_ =>
  rec8_ n39_ p43_ σ41_) fun k15_ =>
  Option.bind (Option.bind (q12_of σ13_ p12_ 4) fun x26_ =>
  if x26_ = 1 then (some true) else (Option.bind (q12_of σ13_ p12_ 0) fun x29_ =>
  if x29_ < 9 then (some true) else (some false))) fun t24_ =>
  if t24_ = true then (k15_ n11_ p12_ σ13_) else
  Option.bind (q12_lays σ13_ p12_ 4 1) fun x33_ =>
  Option.bind (q12_logs x33_ 1 p12_ 0) fun x35_ =>
  lt (n11_ + 1) fun n37_ =>
  k15_ n37_ p12_ x35_
  else (some (n11_, p12_, σ13_))) fuelN (0 : Int32) (0 : Int32) x3_) fun y5_ =>
  Option.bind (if draws_a = true then (Option.bind (q12_speaks y5_.2.2) fun x52_ =>
  some (x52_)) else (some (y5_.2.2))) fun y45_ =>
  Option.bind (ag y45_ 1 752 4) fun x54_ =>
  Option.bind (sa y45_ 1 752 4 (q12_lesser 9999 (x54_ + 1))) fun σ56_ =>
  some (y5_.1, σ56_)
abbrev rm12_passes : Room := { frames := 78, cells := 0, slots := 0, locals := 4216 }
theorem c12_passes {l : Launch} {kd : List KD} {w : Wp} {σ : St} {draws_a : Bool} (hkd : kd = kdM) (hi : zI kd w) {r : (Int32 × St)} (hf : q12_passes σ draws_a = some r) : zM l kd w yX12_passes cX12_passes 4 (some .int) rm12_passes [.ref (w.2.2.1 0), .int (b2i draws_a)] σ (some (.int r.1), r.2) := sorry
/-! LastLoafModel.goes -/
theorem w_9_159 : Cond.code ({ cls := "LastLoafModel", name := "passes", desc := "(Z)I" } : MethodName) prog_14_method_63_code (4 : Nat) (Option.some ClassFile.FieldType.int) ∈ TB := sorry
theorem w_9_156 : Cond.methodLink "LastLoafModel" (341 : Nat) ({ cls := "LastLoafModel", name := "passes", desc := "(Z)I" } : MethodName) ∈ TB := sorry
theorem w_9_158 : Cond.instanceMethod ({ cls := "LastLoafModel", name := "passes", desc := "(Z)I" } : MethodName) ∈ TB := sorry
theorem ws_LastLoafModel_passes_Z_I : Cond.selects "LastLoafModel" (⟨"LastLoafModel", "passes", "(Z)I"⟩ : MethodName) (⟨"LastLoafModel", "passes", "(Z)I"⟩ : MethodName) ∈ TB := sorry
theorem cr12_341 {Θ : Tz} {cc : ByteArray} {nL kc ks : Nat} {ret : Option FieldType} {rm : Room} {Q : State → Prop} {σ : St} {pc : Nat} {lv : List (Nat × Value)} {st : List Value} (C : Zc Θ cc nL RX12 ret rm) (hkd : Θ.2.2.2.2.1 = kdM) {draws_a : Bool} {r : Int32 × St} (hx : q12_passes σ draws_a = some r) (hrm : rm12_passes.frames + 1 ≤ rm.frames ∧ 8 + (4 + 11) + rm12_passes.locals ≤ rm.locals) (hcat : (st.map fun v => v.category).sum ≤ 8) (hk : kc ≤ rm.cells ∧ ks ≤ rm.slots) (hd : decode cc pc = .ok (.invokevirtual 341, 3)) (kk : Z Θ nL kc ks Q r.2 (pc + 3) lv (.int r.1 :: st)) : Z Θ nL kc ks Q σ pc lv (.int (b2i draws_a) :: .ref (zA Θ 0) :: st) := sorry
def q12_goes (σ : St) (n_a : Int32) (draws_a : Bool) : Option (Int32 × St) :=
  Option.bind (loop3 (fun rec4_ (c7_ : Int32) (k8_ : Int32) (σ9_ : St) =>
  if k8_ < n_a then
  Option.bind (q12_passes σ9_ draws_a) fun x16_ =>
  lt (c7_ + x16_.1) fun c18_ =>
  lt (k8_ + 1) fun k20_ =>
  rec4_ c18_ k20_ x16_.2
  else (some (c7_, k8_, σ9_))) fuelN (0 : Int32) (0 : Int32) σ) fun y1_ =>
  some (y1_.1, y1_.2.2)
abbrev rm12_goes : Room := { frames := 79, cells := 0, slots := 0, locals := 4239 }
theorem c12_goes {l : Launch} {kd : List KD} {w : Wp} {σ : St} {n_a : Int32} {draws_a : Bool} (hkd : kd = kdM) (hi : zI kd w) {r : (Int32 × St)} (hf : q12_goes σ n_a draws_a = some r) : zM l kd w yX12_goes cX12_goes 5 (some .int) rm12_goes [.ref (w.2.2.1 0), .int n_a, .int (b2i draws_a)] σ (some (.int r.1), r.2) := sorry
/-! LastLoafModel.sumOf -/
def q12_sumOf (σ : St) (what_a : Int32) : Option Int32 :=
  Option.bind (loop2 (fun rec4_ (n7_ : Int32) (p8_ : Int32) =>
  Option.bind (ag σ 1 752 3) fun x13_ =>
  if p8_ < x13_ then
  Option.bind (q12_of σ p8_ what_a) fun x17_ =>
  lt (n7_ + x17_) fun n19_ =>
  lt (p8_ + 1) fun p21_ =>
  rec4_ n19_ p21_
  else (some (n7_, p8_))) fuelN (0 : Int32) (0 : Int32)) fun y1_ =>
  some y1_.1
abbrev rm12_sumOf : Room := { frames := 1, cells := 0, slots := 0, locals := 22 }
theorem c12_sumOf {l : Launch} {kd : List KD} {w : Wp} {σ : St} {what_a : Int32} (hkd : kd = kdM) (hi : zI kd w) {r : Int32} (hf : q12_sumOf σ what_a = some r) : zM l kd w yX12_sumOf cX12_sumOf 4 (some .int) rm12_sumOf [.ref (w.2.2.1 0), .int what_a] σ (some (.int r), σ) := sorry
/-! LastLoafModel.voteOf -/
theorem w_9_84 : Cond.code ({ cls := "LastLoafModel", name := "inRank", desc := "(III)I" } : MethodName) prog_14_method_47_code (6 : Nat) (Option.some ClassFile.FieldType.int) ∈ TB := sorry
theorem w_9_81 : Cond.methodLink "LastLoafModel" (344 : Nat) ({ cls := "LastLoafModel", name := "inRank", desc := "(III)I" } : MethodName) ∈ TB := sorry
theorem w_9_83 : Cond.instanceMethod ({ cls := "LastLoafModel", name := "inRank", desc := "(III)I" } : MethodName) ∈ TB := sorry
theorem ws_LastLoafModel_inRank_III_I : Cond.selects "LastLoafModel" (⟨"LastLoafModel", "inRank", "(III)I"⟩ : MethodName) (⟨"LastLoafModel", "inRank", "(III)I"⟩ : MethodName) ∈ TB := sorry
theorem cr12_344 {Θ : Tz} {cc : ByteArray} {nL kc ks : Nat} {ret : Option FieldType} {rm : Room} {Q : State → Prop} {σ : St} {pc : Nat} {lv : List (Nat × Value)} {st : List Value} (C : Zc Θ cc nL RX12 ret rm) (hkd : Θ.2.2.2.2.1 = kdM) {p_a : Int32} {k_a : Int32} {set_a : Int32} {r : Int32} (hx : q12_inRank σ p_a k_a set_a = some r) (hrm : rm12_inRank.frames + 1 ≤ rm.frames ∧ 8 + (6 + 11) + rm12_inRank.locals ≤ rm.locals) (hcat : (st.map fun v => v.category).sum ≤ 8) (hk : kc ≤ rm.cells ∧ ks ≤ rm.slots) (hd : decode cc pc = .ok (.invokevirtual 344, 3)) (kk : Z Θ nL kc ks Q σ (pc + 3) lv (.int r :: st)) : Z Θ nL kc ks Q σ pc lv (.int set_a :: .int k_a :: .int p_a :: .ref (zA Θ 0) :: st) := sorry
def q12_voteOf (σ : St) (p_a : Int32) : Option Int32 :=
  Option.bind (if q12_isOf (σ 0 20) p_a = true then (Option.bind (q12_inRank σ p_a 0 (σ 0 21)) fun x7_ =>
  some x7_) else (some (-1 : Int32))) fun x1_ =>
  some x1_
abbrev rm12_voteOf : Room := { frames := 3, cells := 0, slots := 0, locals := 74 }
theorem c12_voteOf {l : Launch} {kd : List KD} {w : Wp} {σ : St} {p_a : Int32} (hkd : kd = kdM) (hi : zI kd w) {r : Int32} (hf : q12_voteOf σ p_a = some r) : zM l kd w yX12_voteOf cX12_voteOf 2 (some .int) rm12_voteOf [.ref (w.2.2.1 0), .int p_a] σ (some (.int r), σ) := sorry
/-! LastLoafModel.passesTo -/
def q12_passesTo (σ : St) (p_a : Int32) : Option Int32 :=
  Option.bind (loop2 (fun rec4_ (found7_ : Int32) (o8_ : Int32) =>
  Option.bind (ag σ 1 752 3) fun x13_ =>
  if o8_ < x13_ then
  lt (fun (found44_ : Int32) (o45_ : Int32) =>
  lt (o45_ + 1) fun o47_ =>
  rec4_ found44_ o47_) fun k10_ =>
  Option.bind (if o8_ = p_a then (some true) else (Option.bind (q12_of σ o8_ 4) fun x22_ =>
  if x22_ = 1 then (some true) else (some false))) fun t19_ =>
  if t19_ = true then (k10_ found7_ o8_) else
  Option.bind (Option.bind (if found7_ = (-1) then (some true) else (Option.bind (q12_liking σ p_a o8_) fun x34_ =>
  Option.bind (q12_of σ o8_ 0) fun x36_ =>
  Option.bind (q12_liking σ p_a found7_) fun x38_ =>
  Option.bind (q12_of σ found7_ 0) fun x40_ =>
  if (x38_ + x40_) < (x34_ + x36_) then (some true) else (some false))) fun t31_ =>
  if t31_ = true then (some (o8_)) else (some (found7_))) fun y26_ =>
  k10_ y26_ o8_
  else (some (found7_, o8_))) fuelN (-1 : Int32) (0 : Int32)) fun y1_ =>
  some y1_.1
abbrev rm12_passesTo : Room := { frames := 1, cells := 0, slots := 0, locals := 22 }
theorem c12_passesTo {l : Launch} {kd : List KD} {w : Wp} {σ : St} {p_a : Int32} (hkd : kd = kdM) (hi : zI kd w) {r : Int32} (hf : q12_passesTo σ p_a = some r) : zM l kd w yX12_passesTo cX12_passesTo 4 (some .int) rm12_passesTo [.ref (w.2.2.1 0), .int p_a] σ (some (.int r), σ) := sorry
/-! LastLoafModel.isWooed -/
theorem w_9_77 : Cond.code ({ cls := "LastLoafModel", name := "voteOf", desc := "(I)I" } : MethodName) prog_14_method_66_code (2 : Nat) (Option.some ClassFile.FieldType.int) ∈ TB := sorry
theorem w_9_74 : Cond.methodLink "LastLoafModel" (350 : Nat) ({ cls := "LastLoafModel", name := "voteOf", desc := "(I)I" } : MethodName) ∈ TB := sorry
theorem w_9_76 : Cond.instanceMethod ({ cls := "LastLoafModel", name := "voteOf", desc := "(I)I" } : MethodName) ∈ TB := sorry
theorem ws_LastLoafModel_voteOf_I_I : Cond.selects "LastLoafModel" (⟨"LastLoafModel", "voteOf", "(I)I"⟩ : MethodName) (⟨"LastLoafModel", "voteOf", "(I)I"⟩ : MethodName) ∈ TB := sorry
theorem cr12_350 {Θ : Tz} {cc : ByteArray} {nL kc ks : Nat} {ret : Option FieldType} {rm : Room} {Q : State → Prop} {σ : St} {pc : Nat} {lv : List (Nat × Value)} {st : List Value} (C : Zc Θ cc nL RX12 ret rm) (hkd : Θ.2.2.2.2.1 = kdM) {p_a : Int32} {r : Int32} (hx : q12_voteOf σ p_a = some r) (hrm : rm12_voteOf.frames + 1 ≤ rm.frames ∧ 8 + (2 + 11) + rm12_voteOf.locals ≤ rm.locals) (hcat : (st.map fun v => v.category).sum ≤ 8) (hk : kc ≤ rm.cells ∧ ks ≤ rm.slots) (hd : decode cc pc = .ok (.invokevirtual 350, 3)) (kk : Z Θ nL kc ks Q σ (pc + 3) lv (.int r :: st)) : Z Θ nL kc ks Q σ pc lv (.int p_a :: .ref (zA Θ 0) :: st) := sorry
def q12_isWooed (σ : St) (one_a : Int32) (set_a : Int32) : Option Bool :=
  Option.bind (q12_votesAt σ one_a 0 (σ 0 21)) fun x1_ =>
  Option.bind (loop2 (fun rec6_ (mine9_ : Int32) (p10_ : Int32) =>
  Option.bind (ag σ 1 752 3) fun x15_ =>
  if p10_ < x15_ then
  Option.bind (Option.bind (if q12_isOf set_a p10_ = true then (Option.bind (q12_voteOf σ p10_) fun x27_ =>
  if ¬ x27_ = one_a then (some true) else (some false)) else (some false)) fun t24_ =>
  if t24_ = true then (some (1 : Int32)) else (some (0 : Int32))) fun x19_ =>
  lt (mine9_ + x19_) fun mine31_ =>
  lt (p10_ + 1) fun p33_ =>
  rec6_ mine31_ p33_
  else (some (mine9_, p10_))) fuelN x1_ (0 : Int32)) fun y3_ =>
  Option.bind (loop2 (fun rec38_ (is41_ : Bool) (o42_ : Int32) =>
  Option.bind (ag σ 1 752 3) fun x47_ =>
  if (o42_ < x47_) ∧ (is41_ = true) then
  lt (fun (is100_ : Bool) (o101_ : Int32) =>
  lt (o101_ + 1) fun o103_ =>
  rec38_ is100_ o103_) fun k44_ =>
  if (o42_ = one_a) ∨ (¬ (q12_isOf (σ 0 21) o42_ = true)) then (k44_ is41_ o42_) else
  Option.bind (q12_votesAt σ o42_ 0 (σ 0 21)) fun x57_ =>
  Option.bind (loop2 (fun rec62_ (its65_ : Int32) (p66_ : Int32) =>
  Option.bind (ag σ 1 752 3) fun x71_ =>
  if p66_ < x71_ then
  Option.bind (Option.bind (if q12_isOf set_a p66_ = true then (Option.bind (q12_voteOf σ p66_) fun x83_ =>
  if x83_ = o42_ then (some true) else (some false)) else (some false)) fun t80_ =>
  if t80_ = true then (some (1 : Int32)) else (some (0 : Int32))) fun x75_ =>
  lt (its65_ - x75_) fun its87_ =>
  lt (p66_ + 1) fun p89_ =>
  rec62_ its87_ p89_
  else (some (its65_, p66_))) fuelN x57_ (0 : Int32)) fun y59_ =>
  lt (decide ((y59_.1 < y3_.1) ∨ ((y3_.1 = y59_.1) ∧ (one_a < o42_)))) fun is98_ =>
  k44_ is98_ o42_
  else (some (is41_, o42_))) fuelN true (0 : Int32)) fun y35_ =>
  some y35_.1
abbrev rm12_isWooed : Room := { frames := 4, cells := 0, slots := 0, locals := 95 }
theorem c12_isWooed {l : Launch} {kd : List KD} {w : Wp} {σ : St} {one_a : Int32} {set_a : Int32} (hkd : kd = kdM) (hi : zI kd w) {r : Bool} (hf : q12_isWooed σ one_a set_a = some r) : zM l kd w yX12_isWooed cX12_isWooed 8 (some .boolean) rm12_isWooed [.ref (w.2.2.1 0), .int one_a, .int set_a] σ (some (.int (b2i r)), σ) := sorry
/-! LastLoafModel.wooed -/
theorem w_9_119 : Cond.code ({ cls := "LastLoafModel", name := "isWooed", desc := "(II)Z" } : MethodName) prog_14_method_90_code (8 : Nat) (Option.some ClassFile.FieldType.boolean) ∈ TB := sorry
theorem w_9_116 : Cond.methodLink "LastLoafModel" (380 : Nat) ({ cls := "LastLoafModel", name := "isWooed", desc := "(II)Z" } : MethodName) ∈ TB := sorry
theorem w_9_118 : Cond.instanceMethod ({ cls := "LastLoafModel", name := "isWooed", desc := "(II)Z" } : MethodName) ∈ TB := sorry
theorem ws_LastLoafModel_isWooed_II_Z : Cond.selects "LastLoafModel" (⟨"LastLoafModel", "isWooed", "(II)Z"⟩ : MethodName) (⟨"LastLoafModel", "isWooed", "(II)Z"⟩ : MethodName) ∈ TB := sorry
theorem cr12_380 {Θ : Tz} {cc : ByteArray} {nL kc ks : Nat} {ret : Option FieldType} {rm : Room} {Q : State → Prop} {σ : St} {pc : Nat} {lv : List (Nat × Value)} {st : List Value} (C : Zc Θ cc nL RX12 ret rm) (hkd : Θ.2.2.2.2.1 = kdM) {one_a : Int32} {set_a : Int32} {r : Bool} (hx : q12_isWooed σ one_a set_a = some r) (hrm : rm12_isWooed.frames + 1 ≤ rm.frames ∧ 8 + (8 + 11) + rm12_isWooed.locals ≤ rm.locals) (hcat : (st.map fun v => v.category).sum ≤ 8) (hk : kc ≤ rm.cells ∧ ks ≤ rm.slots) (hd : decode cc pc = .ok (.invokevirtual 380, 3)) (kk : Z Θ nL kc ks Q σ (pc + 3) lv (.int (b2i r) :: st)) : Z Θ nL kc ks Q σ pc lv (.int set_a :: .int one_a :: .ref (zA Θ 0) :: st) := sorry
def q12_wooed (σ : St) (one_a : Int32) : Option Int32 :=
  Option.bind (loop2 (fun rec4_ (found7_ : Int32) (set8_ : Int32) =>
  if set8_ ≤ (σ 0 20) then
  Option.bind (Option.bind (Option.bind (if (set8_ &&& ((σ 0 20) ^^^ (-1))) = 0 then (if found7_ = (-1) then (some true) else (Option.bind (q12_bits set8_) fun x28_ =>
  Option.bind (q12_bits found7_) fun x30_ =>
  if x28_ < x30_ then (some true) else (some false))) else (some false)) fun t24_ =>
  if t24_ = true then (Option.bind (q12_isWooed σ one_a set8_) fun x34_ =>
  if x34_ = true then (some true) else (some false)) else (some false)) fun t20_ =>
  if t20_ = true then (some (set8_)) else (some (found7_))) fun y15_ =>
  lt (set8_ + 1) fun set38_ =>
  rec4_ y15_ set38_
  else (some (found7_, set8_))) fuelN (-1 : Int32) (0 : Int32)) fun y1_ =>
  some y1_.1
abbrev rm12_wooed : Room := { frames := 5, cells := 0, slots := 0, locals := 122 }
theorem c12_wooed {l : Launch} {kd : List KD} {w : Wp} {σ : St} {one_a : Int32} (hkd : kd = kdM) (hi : zI kd w) {r : Int32} (hf : q12_wooed σ one_a = some r) : zM l kd w yX12_wooed cX12_wooed 4 (some .int) rm12_wooed [.ref (w.2.2.1 0), .int one_a] σ (some (.int r), σ) := sorry
/-! LastLoafModel.person -/
theorem w_9_53 : Cond.code ({ cls := "LastLoafModel", name := "isOne", desc := "(I)Z" } : MethodName) prog_14_method_11_code (2 : Nat) (Option.some ClassFile.FieldType.boolean) ∈ TB := sorry
theorem w_9_50 : Cond.methodLink "LastLoafModel" (347 : Nat) ({ cls := "LastLoafModel", name := "isOne", desc := "(I)Z" } : MethodName) ∈ TB := sorry
theorem w_9_52 : Cond.instanceMethod ({ cls := "LastLoafModel", name := "isOne", desc := "(I)Z" } : MethodName) ∈ TB := sorry
theorem ws_LastLoafModel_isOne_I_Z : Cond.selects "LastLoafModel" (⟨"LastLoafModel", "isOne", "(I)Z"⟩ : MethodName) (⟨"LastLoafModel", "isOne", "(I)Z"⟩ : MethodName) ∈ TB := sorry
theorem cr12_347 {Θ : Tz} {cc : ByteArray} {nL kc ks : Nat} {ret : Option FieldType} {rm : Room} {Q : State → Prop} {σ : St} {pc : Nat} {lv : List (Nat × Value)} {st : List Value} (C : Zc Θ cc nL RX12 ret rm) (hkd : Θ.2.2.2.2.1 = kdM) {p_a : Int32} {r : Bool} (hx : q12_isOne σ p_a = some r) (hrm : rm12_isOne.frames + 1 ≤ rm.frames ∧ 8 + (2 + 11) + rm12_isOne.locals ≤ rm.locals) (hcat : (st.map fun v => v.category).sum ≤ 8) (hk : kc ≤ rm.cells ∧ ks ≤ rm.slots) (hd : decode cc pc = .ok (.invokevirtual 347, 3)) (kk : Z Θ nL kc ks Q σ (pc + 3) lv (.int (b2i r) :: st)) : Z Θ nL kc ks Q σ pc lv (.int p_a :: .ref (zA Θ 0) :: st) := sorry
theorem bp_13 : (Int8.ofInt (13)).toInt32 = 13 := sorry
theorem bp_11 : (Int8.ofInt (11)).toInt32 = 11 := sorry
theorem w_9_115 : Cond.code ({ cls := "LastLoafModel", name := "wooed", desc := "(I)I" } : MethodName) prog_14_method_91_code (4 : Nat) (Option.some ClassFile.FieldType.int) ∈ TB := sorry
theorem w_9_112 : Cond.methodLink "LastLoafModel" (353 : Nat) ({ cls := "LastLoafModel", name := "wooed", desc := "(I)I" } : MethodName) ∈ TB := sorry
theorem w_9_114 : Cond.instanceMethod ({ cls := "LastLoafModel", name := "wooed", desc := "(I)I" } : MethodName) ∈ TB := sorry
theorem ws_LastLoafModel_wooed_I_I : Cond.selects "LastLoafModel" (⟨"LastLoafModel", "wooed", "(I)I"⟩ : MethodName) (⟨"LastLoafModel", "wooed", "(I)I"⟩ : MethodName) ∈ TB := sorry
theorem cr12_353 {Θ : Tz} {cc : ByteArray} {nL kc ks : Nat} {ret : Option FieldType} {rm : Room} {Q : State → Prop} {σ : St} {pc : Nat} {lv : List (Nat × Value)} {st : List Value} (C : Zc Θ cc nL RX12 ret rm) (hkd : Θ.2.2.2.2.1 = kdM) {one_a : Int32} {r : Int32} (hx : q12_wooed σ one_a = some r) (hrm : rm12_wooed.frames + 1 ≤ rm.frames ∧ 8 + (4 + 11) + rm12_wooed.locals ≤ rm.locals) (hcat : (st.map fun v => v.category).sum ≤ 8) (hk : kc ≤ rm.cells ∧ ks ≤ rm.slots) (hd : decode cc pc = .ok (.invokevirtual 353, 3)) (kk : Z Θ nL kc ks Q σ (pc + 3) lv (.int r :: st)) : Z Θ nL kc ks Q σ pc lv (.int one_a :: .ref (zA Θ 0) :: st) := sorry
theorem w_9_123 : Cond.code ({ cls := "LastLoafModel", name := "passesTo", desc := "(I)I" } : MethodName) prog_14_method_128_code (4 : Nat) (Option.some ClassFile.FieldType.int) ∈ TB := sorry
theorem w_9_120 : Cond.methodLink "LastLoafModel" (356 : Nat) ({ cls := "LastLoafModel", name := "passesTo", desc := "(I)I" } : MethodName) ∈ TB := sorry
theorem w_9_122 : Cond.instanceMethod ({ cls := "LastLoafModel", name := "passesTo", desc := "(I)I" } : MethodName) ∈ TB := sorry
theorem ws_LastLoafModel_passesTo_I_I : Cond.selects "LastLoafModel" (⟨"LastLoafModel", "passesTo", "(I)I"⟩ : MethodName) (⟨"LastLoafModel", "passesTo", "(I)I"⟩ : MethodName) ∈ TB := sorry
theorem cr12_356 {Θ : Tz} {cc : ByteArray} {nL kc ks : Nat} {ret : Option FieldType} {rm : Room} {Q : State → Prop} {σ : St} {pc : Nat} {lv : List (Nat × Value)} {st : List Value} (C : Zc Θ cc nL RX12 ret rm) (hkd : Θ.2.2.2.2.1 = kdM) {p_a : Int32} {r : Int32} (hx : q12_passesTo σ p_a = some r) (hrm : rm12_passesTo.frames + 1 ≤ rm.frames ∧ 8 + (4 + 11) + rm12_passesTo.locals ≤ rm.locals) (hcat : (st.map fun v => v.category).sum ≤ 8) (hk : kc ≤ rm.cells ∧ ks ≤ rm.slots) (hd : decode cc pc = .ok (.invokevirtual 356, 3)) (kk : Z Θ nL kc ks Q σ (pc + 3) lv (.int r :: st)) : Z Θ nL kc ks Q σ pc lv (.int p_a :: .ref (zA Θ 0) :: st) := sorry
theorem w_9_127 : Cond.code ({ cls := "LastLoafModel", name := "sumOf", desc := "(I)I" } : MethodName) prog_14_method_65_code (4 : Nat) (Option.some ClassFile.FieldType.int) ∈ TB := sorry
theorem w_9_124 : Cond.methodLink "LastLoafModel" (359 : Nat) ({ cls := "LastLoafModel", name := "sumOf", desc := "(I)I" } : MethodName) ∈ TB := sorry
theorem w_9_126 : Cond.instanceMethod ({ cls := "LastLoafModel", name := "sumOf", desc := "(I)I" } : MethodName) ∈ TB := sorry
theorem ws_LastLoafModel_sumOf_I_I : Cond.selects "LastLoafModel" (⟨"LastLoafModel", "sumOf", "(I)I"⟩ : MethodName) (⟨"LastLoafModel", "sumOf", "(I)I"⟩ : MethodName) ∈ TB := sorry
theorem cr12_359 {Θ : Tz} {cc : ByteArray} {nL kc ks : Nat} {ret : Option FieldType} {rm : Room} {Q : State → Prop} {σ : St} {pc : Nat} {lv : List (Nat × Value)} {st : List Value} (C : Zc Θ cc nL RX12 ret rm) (hkd : Θ.2.2.2.2.1 = kdM) {what_a : Int32} {r : Int32} (hx : q12_sumOf σ what_a = some r) (hrm : rm12_sumOf.frames + 1 ≤ rm.frames ∧ 8 + (4 + 11) + rm12_sumOf.locals ≤ rm.locals) (hcat : (st.map fun v => v.category).sum ≤ 8) (hk : kc ≤ rm.cells ∧ ks ≤ rm.slots) (hd : decode cc pc = .ok (.invokevirtual 359, 3)) (kk : Z Θ nL kc ks Q σ (pc + 3) lv (.int r :: st)) : Z Θ nL kc ks Q σ pc lv (.int what_a :: .ref (zA Θ 0) :: st) := sorry
def q12_person (σ : St) (p_a : Int32) (what_a : Int32) : Option (Int32 × St) :=
  Option.bind (Option.bind (q12_isOne σ p_a) fun x6_ =>
  if ¬ (x6_ = true) then (some (1 : Int32)) else (some (if ¬ (q12_isIn what_a 0 13 = true) then 2 else 0))) fun x1_ =>
  lt (up σ 0 0 x1_) fun σ15_ =>
  if 0 < (σ15_ 0 0) then (some (0, σ15_)) else
  if what_a < 7 then (Option.bind (q12_of σ15_ p_a what_a) fun x25_ =>
  some (x25_, σ15_)) else
  Option.bind (q12_looks σ15_) fun x27_ =>
  if what_a = 7 then (Option.bind (q12_voteOf x27_ p_a) fun x33_ =>
  some (x33_, x27_)) else
  if what_a = 8 then (Option.bind (q12_votesAt x27_ p_a 0 (x27_ 0 21)) fun x39_ =>
  some (x39_, x27_)) else
  if what_a = 9 then (Option.bind (q12_pointsOf x27_ p_a) fun x45_ =>
  some (x45_, x27_)) else
  if what_a = 10 then (Option.bind (q12_duelsOf x27_ p_a) fun x51_ =>
  some (x51_, x27_)) else
  if what_a = 11 then (Option.bind (Option.bind (if q12_isOf (x27_ 0 21) p_a = true then (Option.bind (q12_wooed x27_ p_a) fun x65_ =>
  if ¬ x65_ = (-1) then (some true) else (some false)) else (some false)) fun t62_ =>
  if t62_ = true then (Option.bind (q12_wooed x27_ p_a) fun x68_ =>
  Option.bind (q12_bits x68_) fun x70_ =>
  some x70_) else (some (-1 : Int32))) fun x57_ =>
  some (x57_, x27_)) else
  Option.bind (if what_a = 13 then (Option.bind (q12_passesTo x27_ p_a) fun x79_ =>
  some x79_) else (Option.bind (Option.bind (q12_sumOf x27_ 5) fun x86_ =>
  if x86_ = 0 then (some (0 : Int32)) else (Option.bind (q12_of x27_ p_a 5) fun x89_ =>
  Option.bind (q12_sumOf x27_ 5) fun x91_ =>
  Option.bind (dv (100 * x89_) x91_) fun x93_ =>
  some x93_)) fun x81_ =>
  some x81_)) fun x73_ =>
  some (x73_, x27_)
abbrev rm12_person : Room := { frames := 77, cells := 0, slots := 0, locals := 4194 }
theorem c12_person {l : Launch} {kd : List KD} {w : Wp} {σ : St} {p_a : Int32} {what_a : Int32} (hkd : kd = kdM) (hi : zI kd w) {r : (Int32 × St)} (hf : q12_person σ p_a what_a = some r) : zM l kd w yX12_person cX12_person 3 (some .int) rm12_person [.ref (w.2.2.1 0), .int p_a, .int what_a] σ (some (.int r.1), r.2) := sorry
/-! LastLoafModel.areTwo -/
def q12_areTwo (σ : St) (p_a : Int32) (o_a : Int32) : Option St :=
  Option.bind (Option.bind (Option.bind (q12_isOne σ p_a) fun x8_ =>
  if x8_ = true then (Option.bind (q12_isOne σ o_a) fun x11_ =>
  if x11_ = true then (some false) else (some true)) else (some true)) fun t6_ =>
  if t6_ = true then (some (1 : Int32)) else (some (if p_a = o_a then 2 else 0))) fun x1_ =>
  lt (up σ 0 0 x1_) fun σ20_ =>
  some σ20_
abbrev rm12_areTwo : Room := { frames := 2, cells := 0, slots := 0, locals := 43 }
theorem c12_areTwo {l : Launch} {kd : List KD} {w : Wp} {σ : St} {p_a : Int32} {o_a : Int32} (hkd : kd = kdM) (hi : zI kd w) {r : St} (hf : q12_areTwo σ p_a o_a = some r) : zM l kd w yX12_areTwo cX12_areTwo 3 none rm12_areTwo [.ref (w.2.2.1 0), .int p_a, .int o_a] σ (none, r) := sorry
/-! LastLoafModel.likes -/
theorem w_9_135 : Cond.code ({ cls := "LastLoafModel", name := "areTwo", desc := "(II)V" } : MethodName) prog_14_method_68_code (3 : Nat) (Option.none : Option ClassFile.FieldType) ∈ TB := sorry
theorem w_9_132 : Cond.methodLink "LastLoafModel" (362 : Nat) ({ cls := "LastLoafModel", name := "areTwo", desc := "(II)V" } : MethodName) ∈ TB := sorry
theorem w_9_134 : Cond.instanceMethod ({ cls := "LastLoafModel", name := "areTwo", desc := "(II)V" } : MethodName) ∈ TB := sorry
theorem ws_LastLoafModel_areTwo_II_V : Cond.selects "LastLoafModel" (⟨"LastLoafModel", "areTwo", "(II)V"⟩ : MethodName) (⟨"LastLoafModel", "areTwo", "(II)V"⟩ : MethodName) ∈ TB := sorry
theorem cr12_362 {Θ : Tz} {cc : ByteArray} {nL kc ks : Nat} {ret : Option FieldType} {rm : Room} {Q : State → Prop} {σ : St} {pc : Nat} {lv : List (Nat × Value)} {st : List Value} (C : Zc Θ cc nL RX12 ret rm) (hkd : Θ.2.2.2.2.1 = kdM) {p_a : Int32} {o_a : Int32} {r : St} (hx : q12_areTwo σ p_a o_a = some r) (hrm : rm12_areTwo.frames + 1 ≤ rm.frames ∧ 8 + (3 + 11) + rm12_areTwo.locals ≤ rm.locals) (hcat : (st.map fun v => v.category).sum ≤ 8) (hk : kc ≤ rm.cells ∧ ks ≤ rm.slots) (hd : decode cc pc = .ok (.invokevirtual 362, 3)) (kk : Z Θ nL kc ks Q r (pc + 3) lv st) : Z Θ nL kc ks Q σ pc lv (.int o_a :: .int p_a :: .ref (zA Θ 0) :: st) := sorry
def q12_likes (σ : St) (p_a : Int32) (o_a : Int32) : Option (Int32 × St) :=
  Option.bind (q12_areTwo σ p_a o_a) fun x1_ =>
  Option.bind (if 0 < (x1_ 0 0) then (some (0 : Int32)) else (Option.bind (q12_liking x1_ p_a o_a) fun x9_ =>
  some x9_)) fun x3_ =>
  some (x3_, x1_)
abbrev rm12_likes : Room := { frames := 3, cells := 0, slots := 0, locals := 65 }
theorem c12_likes {l : Launch} {kd : List KD} {w : Wp} {σ : St} {p_a : Int32} {o_a : Int32} (hkd : kd = kdM) (hi : zI kd w) {r : (Int32 × St)} (hf : q12_likes σ p_a o_a = some r) : zM l kd w yX12_likes cX12_likes 3 (some .int) rm12_likes [.ref (w.2.2.1 0), .int p_a, .int o_a] σ (some (.int r.1), r.2) := sorry
/-! LastLoafModel.favour -/
def q12_favour (σ : St) (p_a : Int32) (o_a : Int32) : Option (Int32 × St) :=
  Option.bind (Option.bind (Option.bind (q12_isOne σ p_a) fun x8_ =>
  if x8_ = true then (Option.bind (q12_isOne σ o_a) fun x11_ =>
  if x11_ = true then (some false) else (some true)) else (some true)) fun t6_ =>
  if t6_ = true then (some (1 : Int32)) else (some (0 : Int32))) fun x1_ =>
  lt (up σ 0 0 x1_) fun σ15_ =>
  Option.bind (if 0 < (σ15_ 0 0) then (some ((0 : Int32), σ15_)) else (Option.bind (q12_favourOf σ15_ p_a o_a) fun x23_ =>
  some (x23_.1, x23_.2))) fun x17_ =>
  some (x17_.1, x17_.2)
abbrev rm12_favour : Room := { frames := 76, cells := 0, slots := 0, locals := 4172 }
theorem c12_favour {l : Launch} {kd : List KD} {w : Wp} {σ : St} {p_a : Int32} {o_a : Int32} (hkd : kd = kdM) (hi : zI kd w) {r : (Int32 × St)} (hf : q12_favour σ p_a o_a = some r) : zM l kd w yX12_favour cX12_favour 3 (some .int) rm12_favour [.ref (w.2.2.1 0), .int p_a, .int o_a] σ (some (.int r.1), r.2) := sorry
/-! LastLoafModel.grist -/
def q12_grist (σ : St) (q_a : Int32) : Option (Int32 × St) :=
  lt (up σ 0 0 (if ¬ (q12_isIn q_a 0 3 = true) then 1 else 0)) fun σ6_ =>
  Option.bind (if 0 < (σ6_ 0 0) then (some (0 : Int32)) else (Option.bind (ag σ6_ 1 752 (10 + q_a)) fun x14_ =>
  some x14_)) fun x8_ =>
  some (x8_, σ6_)
abbrev rm12_grist : Room := { frames := 1, cells := 0, slots := 0, locals := 22 }
theorem c12_grist {l : Launch} {kd : List KD} {w : Wp} {σ : St} {q_a : Int32} (hkd : kd = kdM) (hi : zI kd w) {r : (Int32 × St)} (hf : q12_grist σ q_a = some r) : zM l kd w yX12_grist cX12_grist 2 (some .int) rm12_grist [.ref (w.2.2.1 0), .int q_a] σ (some (.int r.1), r.2) := sorry
/-! LastLoafModel.remembers -/
theorem fg12_199 {Θ : Tz} {cc : ByteArray} {nL kc ks : Nat} {ret : Option FieldType} {rm : Room} {Q : State → Prop} {σ : St} {pc : Nat} {lv : List (Nat × Value)} {st : List Value} (C : Zc Θ cc nL RX12 ret rm) (hkd : Θ.2.2.2.2.1 = kdM) (hd : decode cc pc = .ok (.getfield 199, 3)) (kk : Z Θ nL kc ks Q σ (pc + 3) lv (.int (σ 0 6) :: st)) : Z Θ nL kc ks Q σ pc lv (.ref (zA Θ 0) :: st) := sorry
theorem sp_3872 : (Int16.ofInt (3872)).toInt32 = 3872 := sorry
theorem w_8_32 : Cond.fieldLink "LastLoafModel" (19 : Nat) "LastLoafModel" "acts" "[I" ∈ TB := sorry
theorem fg12_19 {Θ : Tz} {cc : ByteArray} {nL kc ks : Nat} {ret : Option FieldType} {rm : Room} {Q : State → Prop} {σ : St} {pc : Nat} {lv : List (Nat × Value)} {st : List Value} (C : Zc Θ cc nL RX12 ret rm) (hkd : Θ.2.2.2.2.1 = kdM) (hd : decode cc pc = .ok (.getfield 19, 3)) (kk : Z Θ nL kc ks Q σ (pc + 3) lv (.ref (zA Θ 4) :: st)) : Z Θ nL kc ks Q σ pc lv (.ref (zA Θ 0) :: st) := sorry
def q12_remembers (σ : St) : Option St :=
  Option.bind (if (σ 0 6) = 12 then (Option.bind (loop2 (fun rec11_ (k14_ : Int32) (σ15_ : St) =>
  if k14_ < 3872 then
  Option.bind (ag σ15_ 4 4224 (k14_ + 352)) fun x22_ =>
  Option.bind (sa σ15_ 4 4224 k14_ x22_) fun σ24_ =>
  lt (k14_ + 1) fun k26_ =>
  rec11_ k26_ σ24_
  else (some (k14_, σ15_))) fuelN (0 : Int32) σ) fun y8_ =>
  lt (up y8_.2 0 6 ((y8_.2 0 6) - 1)) fun σ28_ =>
  some (σ28_)) else (some (σ))) fun y1_ =>
  Option.bind (loop2 (fun rec33_ (k36_ : Int32) (σ37_ : St) =>
  if k36_ < 352 then
  Option.bind (ag σ37_ 1 752 k36_) fun x44_ =>
  Option.bind (sa σ37_ 4 4224 ((352 * (σ37_ 0 6)) + k36_) x44_) fun σ46_ =>
  lt (k36_ + 1) fun k48_ =>
  rec33_ k48_ σ46_
  else (some (k36_, σ37_))) fuelN (0 : Int32) y1_) fun y30_ =>
  lt (up y30_.2 0 6 ((y30_.2 0 6) + 1)) fun σ50_ =>
  some σ50_
abbrev rm12_remembers : Room := { frames := 0, cells := 0, slots := 0, locals := 0 }
theorem c12_remembers {l : Launch} {kd : List KD} {w : Wp} {σ : St} (hkd : kd = kdM) (hi : zI kd w) {r : St} (hf : q12_remembers σ = some r) : zM l kd w yX12_remembers cX12_remembers 2 none rm12_remembers [.ref (w.2.2.1 0)] σ (none, r) := sorry
/-! LastLoafModel.sets -/
theorem w_9_151 : Cond.code ({ cls := "LastLoafModel", name := "remembers", desc := "()V" } : MethodName) prog_14_method_72_code (2 : Nat) (Option.none : Option ClassFile.FieldType) ∈ TB := sorry
theorem w_9_148 : Cond.methodLink "LastLoafModel" (366 : Nat) ({ cls := "LastLoafModel", name := "remembers", desc := "()V" } : MethodName) ∈ TB := sorry
theorem w_9_150 : Cond.instanceMethod ({ cls := "LastLoafModel", name := "remembers", desc := "()V" } : MethodName) ∈ TB := sorry
theorem ws_LastLoafModel_remembers__V : Cond.selects "LastLoafModel" (⟨"LastLoafModel", "remembers", "()V"⟩ : MethodName) (⟨"LastLoafModel", "remembers", "()V"⟩ : MethodName) ∈ TB := sorry
theorem cr12_366 {Θ : Tz} {cc : ByteArray} {nL kc ks : Nat} {ret : Option FieldType} {rm : Room} {Q : State → Prop} {σ : St} {pc : Nat} {lv : List (Nat × Value)} {st : List Value} (C : Zc Θ cc nL RX12 ret rm) (hkd : Θ.2.2.2.2.1 = kdM) {r : St} (hx : q12_remembers σ = some r) (hrm : rm12_remembers.frames + 1 ≤ rm.frames ∧ 8 + (2 + 11) + rm12_remembers.locals ≤ rm.locals) (hcat : (st.map fun v => v.category).sum ≤ 8) (hk : kc ≤ rm.cells ∧ ks ≤ rm.slots) (hd : decode cc pc = .ok (.invokevirtual 366, 3)) (kk : Z Θ nL kc ks Q r (pc + 3) lv st) : Z Θ nL kc ks Q σ pc lv (.ref (zA Θ 0) :: st) := sorry
def q12_sets (σ : St) (where_a : Int32) (v_a : Int32) : Option (Int32 × St) :=
  Option.bind (q12_remembers σ) fun x1_ =>
  Option.bind (ag x1_ 1 752 where_a) fun x3_ =>
  Option.bind (sa x1_ 1 752 where_a v_a) fun σ5_ =>
  some (x3_, σ5_)
abbrev rm12_sets : Room := { frames := 1, cells := 0, slots := 0, locals := 21 }
theorem c12_sets {l : Launch} {kd : List KD} {w : Wp} {σ : St} {where_a : Int32} {v_a : Int32} (hkd : kd = kdM) (hi : zI kd w) {r : (Int32 × St)} (hf : q12_sets σ where_a v_a = some r) : zM l kd w yX12_sets cX12_sets 4 (some .int) rm12_sets [.ref (w.2.2.1 0), .int where_a, .int v_a] σ (some (.int r.1), r.2) := sorry
/-! LastLoafModel.weeks -/
theorem w_9_155 : Cond.code ({ cls := "LastLoafModel", name := "goes", desc := "(IZ)I" } : MethodName) prog_14_method_64_code (5 : Nat) (Option.some ClassFile.FieldType.int) ∈ TB := sorry
theorem w_9_152 : Cond.methodLink "LastLoafModel" (369 : Nat) ({ cls := "LastLoafModel", name := "goes", desc := "(IZ)I" } : MethodName) ∈ TB := sorry
theorem w_9_154 : Cond.instanceMethod ({ cls := "LastLoafModel", name := "goes", desc := "(IZ)I" } : MethodName) ∈ TB := sorry
theorem ws_LastLoafModel_goes_IZ_I : Cond.selects "LastLoafModel" (⟨"LastLoafModel", "goes", "(IZ)I"⟩ : MethodName) (⟨"LastLoafModel", "goes", "(IZ)I"⟩ : MethodName) ∈ TB := sorry
theorem cr12_369 {Θ : Tz} {cc : ByteArray} {nL kc ks : Nat} {ret : Option FieldType} {rm : Room} {Q : State → Prop} {σ : St} {pc : Nat} {lv : List (Nat × Value)} {st : List Value} (C : Zc Θ cc nL RX12 ret rm) (hkd : Θ.2.2.2.2.1 = kdM) {n_a : Int32} {draws_a : Bool} {r : Int32 × St} (hx : q12_goes σ n_a draws_a = some r) (hrm : rm12_goes.frames + 1 ≤ rm.frames ∧ 8 + (5 + 11) + rm12_goes.locals ≤ rm.locals) (hcat : (st.map fun v => v.category).sum ≤ 8) (hk : kc ≤ rm.cells ∧ ks ≤ rm.slots) (hd : decode cc pc = .ok (.invokevirtual 369, 3)) (kk : Z Θ nL kc ks Q r.2 (pc + 3) lv (.int r.1 :: st)) : Z Θ nL kc ks Q σ pc lv (.int (b2i draws_a) :: .int n_a :: .ref (zA Θ 0) :: st) := sorry
def q12_weeks (σ : St) (n_a : Int32) : Option (Int32 × St) :=
  lt (up σ 0 0 (if ¬ (q12_isIn n_a 1 60 = true) then 1 else 0)) fun σ6_ =>
  if 0 < (σ6_ 0 0) then (some (0, σ6_)) else
  Option.bind (q12_remembers σ6_) fun x12_ =>
  Option.bind (q12_goes x12_ n_a true) fun x14_ =>
  some (x14_.1, x14_.2)
abbrev rm12_weeks : Room := { frames := 80, cells := 0, slots := 0, locals := 4263 }
theorem c12_weeks {l : Launch} {kd : List KD} {w : Wp} {σ : St} {n_a : Int32} (hkd : kd = kdM) (hi : zI kd w) {r : (Int32 × St)} (hf : q12_weeks σ n_a = some r) : zM l kd w yX12_weeks cX12_weeks 2 (some .int) rm12_weeks [.ref (w.2.2.1 0), .int n_a] σ (some (.int r.1), r.2) := sorry
/-! LastLoafModel.stand -/
theorem w_9_214 : Cond.code ({ cls := "LastLoafModel", name := "sets", desc := "(II)I" } : MethodName) prog_14_method_73_code (4 : Nat) (Option.some ClassFile.FieldType.int) ∈ TB := sorry
theorem w_9_211 : Cond.methodLink "LastLoafModel" (373 : Nat) ({ cls := "LastLoafModel", name := "sets", desc := "(II)I" } : MethodName) ∈ TB := sorry
theorem w_9_213 : Cond.instanceMethod ({ cls := "LastLoafModel", name := "sets", desc := "(II)I" } : MethodName) ∈ TB := sorry
theorem ws_LastLoafModel_sets_II_I : Cond.selects "LastLoafModel" (⟨"LastLoafModel", "sets", "(II)I"⟩ : MethodName) (⟨"LastLoafModel", "sets", "(II)I"⟩ : MethodName) ∈ TB := sorry
theorem cr12_373 {Θ : Tz} {cc : ByteArray} {nL kc ks : Nat} {ret : Option FieldType} {rm : Room} {Q : State → Prop} {σ : St} {pc : Nat} {lv : List (Nat × Value)} {st : List Value} (C : Zc Θ cc nL RX12 ret rm) (hkd : Θ.2.2.2.2.1 = kdM) {where_a : Int32} {v_a : Int32} {r : Int32 × St} (hx : q12_sets σ where_a v_a = some r) (hrm : rm12_sets.frames + 1 ≤ rm.frames ∧ 8 + (4 + 11) + rm12_sets.locals ≤ rm.locals) (hcat : (st.map fun v => v.category).sum ≤ 8) (hk : kc ≤ rm.cells ∧ ks ≤ rm.slots) (hd : decode cc pc = .ok (.invokevirtual 373, 3)) (kk : Z Θ nL kc ks Q r.2 (pc + 3) lv (.int r.1 :: st)) : Z Θ nL kc ks Q σ pc lv (.int v_a :: .int where_a :: .ref (zA Θ 0) :: st) := sorry
def q12_stand (σ : St) (p_a : Int32) (is_a : Bool) : Option (Bool × St) :=
  Option.bind (Option.bind (q12_isOne σ p_a) fun x6_ =>
  if ¬ (x6_ = true) then (some (1 : Int32)) else (some (0 : Int32))) fun x1_ =>
  lt (up σ 0 0 x1_) fun σ10_ =>
  if 0 < (σ10_ 0 0) then (some (false, σ10_)) else
  Option.bind (Option.bind (q12_of σ10_ p_a 4) fun x21_ =>
  if x21_ = 1 then (some (2 : Int32)) else (some (0 : Int32))) fun x16_ =>
  lt (up σ10_ 0 0 x16_) fun σ25_ =>
  Option.bind (Option.bind (if (σ25_ 0 0) = 0 then (Option.bind (q12_sets σ25_ ((14 + (7 * p_a)) + 3) (if is_a = true then 1 else 0)) fun x40_ =>
  if ¬ x40_.1 = (if is_a = true then 1 else 0) then (some (true, x40_.2)) else (some (false, x40_.2))) else (some (false, σ25_))) fun t32_ =>
  if t32_.1 = true then (some (true, t32_.2)) else (some (false, t32_.2))) fun x27_ =>
  some (x27_.1, x27_.2)
abbrev rm12_stand : Room := { frames := 2, cells := 0, slots := 0, locals := 44 }
theorem c12_stand {l : Launch} {kd : List KD} {w : Wp} {σ : St} {p_a : Int32} {is_a : Bool} (hkd : kd = kdM) (hi : zI kd w) {r : (Bool × St)} (hf : q12_stand σ p_a is_a = some r) : zM l kd w yX12_stand cX12_stand 3 (some .boolean) rm12_stand [.ref (w.2.2.1 0), .int p_a, .int (b2i is_a)] σ (some (.int (b2i r.1)), r.2) := sorry
/-! LastLoafModel.like -/
def q12_like (σ : St) (p_a : Int32) (o_a : Int32) (n_a : Int32) : Option (Int32 × St) :=
  Option.bind (Option.bind (Option.bind (q12_isOne σ p_a) fun x8_ =>
  if x8_ = true then (Option.bind (q12_isOne σ o_a) fun x11_ =>
  if x11_ = true then (some false) else (some true)) else (some true)) fun t6_ =>
  if t6_ = true then (some (1 : Int32)) else (some (if (p_a = o_a) ∨ (¬ (q12_isIn n_a 0 9 = true)) then 2 else 0))) fun x1_ =>
  lt (up σ 0 0 x1_) fun σ21_ =>
  Option.bind (if 0 < (σ21_ 0 0) then (some ((0 : Int32), σ21_)) else (Option.bind (q12_sets σ21_ ((63 + (7 * p_a)) + o_a) n_a) fun x29_ =>
  some (x29_.1, x29_.2))) fun x23_ =>
  some (x23_.1, x23_.2)
abbrev rm12_like : Room := { frames := 2, cells := 0, slots := 0, locals := 44 }
theorem c12_like {l : Launch} {kd : List KD} {w : Wp} {σ : St} {p_a : Int32} {o_a : Int32} {n_a : Int32} (hkd : kd = kdM) (hi : zI kd w) {r : (Int32 × St)} (hf : q12_like σ p_a o_a n_a = some r) : zM l kd w yX12_like cX12_like 4 (some .int) rm12_like [.ref (w.2.2.1 0), .int p_a, .int o_a, .int n_a] σ (some (.int r.1), r.2) := sorry
/-! LastLoafModel.join -/
def q12_join (σ : St) (p_a : Int32) (party_a : Int32) : Option (Int32 × St) :=
  Option.bind (Option.bind (q12_isOne σ p_a) fun x6_ =>
  if (¬ (x6_ = true)) ∨ (¬ (q12_isIn party_a 0 2 = true)) then (some (1 : Int32)) else (some (0 : Int32))) fun x1_ =>
  lt (up σ 0 0 x1_) fun σ11_ =>
  Option.bind (if 0 < (σ11_ 0 0) then (some ((0 : Int32), σ11_)) else (Option.bind (q12_sets σ11_ ((14 + (7 * p_a)) + 1) party_a) fun x19_ =>
  some (x19_.1, x19_.2))) fun x13_ =>
  some (x13_.1, x13_.2)
abbrev rm12_join : Room := { frames := 2, cells := 0, slots := 0, locals := 44 }
theorem c12_join {l : Launch} {kd : List KD} {w : Wp} {σ : St} {p_a : Int32} {party_a : Int32} (hkd : kd = kdM) (hi : zI kd w) {r : (Int32 × St)} (hf : q12_join σ p_a party_a = some r) : zM l kd w yX12_join cX12_join 3 (some .int) rm12_join [.ref (w.2.2.1 0), .int p_a, .int party_a] σ (some (.int r.1), r.2) := sorry
/-! LastLoafModel.bring -/
def q12_bring (σ : St) (n_a : Int32) : Option (Int32 × St) :=
  lt (up σ 0 0 (if ¬ (q12_isIn n_a 1 999 = true) then 1 else 0)) fun σ6_ =>
  if 0 < (σ6_ 0 0) then (some (0, σ6_)) else
  Option.bind (ag σ6_ 1 752 5) fun x12_ =>
  Option.bind (q12_sets σ6_ 5 (q12_lesser 9999 (x12_ + n_a))) fun x14_ =>
  Option.bind (ag x14_.2 1 752 5) fun x16_ =>
  some (x16_, x14_.2)
abbrev rm12_bring : Room := { frames := 2, cells := 0, slots := 0, locals := 44 }
theorem c12_bring {l : Launch} {kd : List KD} {w : Wp} {σ : St} {n_a : Int32} (hkd : kd = kdM) (hi : zI kd w) {r : (Int32 × St)} (hf : q12_bring σ n_a = some r) : zM l kd w yX12_bring cX12_bring 3 (some .int) rm12_bring [.ref (w.2.2.1 0), .int n_a] σ (some (.int r.1), r.2) := sorry
/-! LastLoafModel.way -/
def q12_way (σ : St) (n_a : Int32) : Option (Int32 × St) :=
  lt (up σ 0 0 (if ¬ (q12_isIn n_a 0 5 = true) then 1 else 0)) fun σ6_ =>
  Option.bind (if 0 < (σ6_ 0 0) then (some ((0 : Int32), σ6_)) else (Option.bind (q12_sets σ6_ 6 n_a) fun x14_ =>
  some (x14_.1, x14_.2))) fun x8_ =>
  some (x8_.1, x8_.2)
abbrev rm12_way : Room := { frames := 2, cells := 0, slots := 0, locals := 44 }
theorem c12_way {l : Launch} {kd : List KD} {w : Wp} {σ : St} {n_a : Int32} (hkd : kd = kdM) (hi : zI kd w) {r : (Int32 × St)} (hf : q12_way σ n_a = some r) : zM l kd w yX12_way cX12_way 2 (some .int) rm12_way [.ref (w.2.2.1 0), .int n_a] σ (some (.int r.1), r.2) := sorry
/-! LastLoafModel.pass -/
def q12_pass (σ : St) (p_a : Int32) (o_a : Int32) : Option (Int32 × St) :=
  Option.bind (q12_areTwo σ p_a o_a) fun x1_ =>
  if 0 < (x1_ 0 0) then (some (0, x1_)) else
  Option.bind (Option.bind (Option.bind (q12_of x1_ p_a 0) fun x14_ =>
  if 0 < x14_ then (some true) else (Option.bind (q12_of x1_ p_a 4) fun x17_ =>
  Option.bind (q12_of x1_ o_a 4) fun x19_ =>
  if 0 < (x17_ + x19_) then (some true) else (some false))) fun t12_ =>
  if t12_ = true then (some (3 : Int32)) else (some (0 : Int32))) fun x7_ =>
  lt (up x1_ 0 0 x7_) fun σ23_ =>
  if 0 < (σ23_ 0 0) then (some (0, σ23_)) else
  Option.bind (q12_liking σ23_ o_a p_a) fun x29_ =>
  Option.bind (q12_sets σ23_ ((63 + (7 * o_a)) + p_a) (q12_lesser 9 (x29_ + 1))) fun x31_ =>
  Option.bind (q12_lays x31_.2 p_a 0 1) fun x33_ =>
  Option.bind (q12_lays x33_ o_a 0 0) fun x35_ =>
  Option.bind (q12_liking x35_ o_a p_a) fun x37_ =>
  some (x37_, x35_)
abbrev rm12_pass : Room := { frames := 3, cells := 0, slots := 0, locals := 65 }
theorem c12_pass {l : Launch} {kd : List KD} {w : Wp} {σ : St} {p_a : Int32} {o_a : Int32} (hkd : kd = kdM) (hi : zI kd w) {r : (Int32 × St)} (hf : q12_pass σ p_a o_a = some r) : zM l kd w yX12_pass cX12_pass 4 (some .int) rm12_pass [.ref (w.2.2.1 0), .int p_a, .int o_a] σ (some (.int r.1), r.2) := sorry
/-! LastLoafModel.fetch -/
def q12_fetch (σ : St) (p_a : Int32) : Option (Int32 × St) :=
  Option.bind (Option.bind (q12_isOne σ p_a) fun x6_ =>
  if ¬ (x6_ = true) then (some (1 : Int32)) else (some (0 : Int32))) fun x1_ =>
  lt (up σ 0 0 x1_) fun σ10_ =>
  if 0 < (σ10_ 0 0) then (some (0, σ10_)) else
  Option.bind (Option.bind (q12_of σ10_ p_a 4) fun x21_ =>
  if x21_ = 0 then (some (2 : Int32)) else (some (0 : Int32))) fun x16_ =>
  lt (up σ10_ 0 0 x16_) fun σ25_ =>
  if 0 < (σ25_ 0 0) then (some (0, σ25_)) else
  Option.bind (q12_sets σ25_ ((14 + (7 * p_a)) + 4) 0) fun x31_ =>
  Option.bind (q12_lays x31_.2 p_a 0 5) fun x33_ =>
  Option.bind (q12_those x33_ 4) fun x35_ =>
  Option.bind (q12_bits x35_) fun x37_ =>
  some (x37_, x33_)
abbrev rm12_fetch : Room := { frames := 2, cells := 0, slots := 0, locals := 45 }
theorem c12_fetch {l : Launch} {kd : List KD} {w : Wp} {σ : St} {p_a : Int32} (hkd : kd = kdM) (hi : zI kd w) {r : (Int32 × St)} (hf : q12_fetch σ p_a = some r) : zM l kd w yX12_fetch cX12_fetch 3 (some .int) rm12_fetch [.ref (w.2.2.1 0), .int p_a] σ (some (.int r.1), r.2) := sorry
/-! LastLoafModel.winner -/
def q12_winner (σ : St) (way_a : Int32) : Option (Int32 × St) :=
  lt (up σ 0 0 (if ¬ (q12_isIn way_a 0 5 = true) then 1 else 0)) fun σ6_ =>
  if 0 < (σ6_ 0 0) then (some (0, σ6_)) else
  Option.bind (q12_looks σ6_) fun x12_ =>
  Option.bind (q12_winnerBy x12_ way_a) fun x14_ =>
  some (x14_, x12_)
abbrev rm12_winner : Room := { frames := 77, cells := 0, slots := 0, locals := 4194 }
theorem c12_winner {l : Launch} {kd : List KD} {w : Wp} {σ : St} {way_a : Int32} (hkd : kd = kdM) (hi : zI kd w) {r : (Int32 × St)} (hf : q12_winner σ way_a = some r) : zM l kd w yX12_winner cX12_winner 2 (some .int) rm12_winner [.ref (w.2.2.1 0), .int way_a] σ (some (.int r.1), r.2) := sorry
/-! LastLoafModel.rank -/
def q12_rank (σ : St) (p_a : Int32) (k_a : Int32) : Option (Int32 × St) :=
  Option.bind (Option.bind (q12_isOne σ p_a) fun x6_ =>
  if ¬ (x6_ = true) then (some (1 : Int32)) else (some (0 : Int32))) fun x1_ =>
  lt (up σ 0 0 x1_) fun σ10_ =>
  if 0 < (σ10_ 0 0) then (some (0, σ10_)) else
  Option.bind (q12_looks σ10_) fun x16_ =>
  Option.bind (if q12_isOf (x16_ 0 20) p_a = true then (Option.bind (q12_inRank x16_ p_a k_a (x16_ 0 21)) fun x24_ =>
  some x24_) else (some (-1 : Int32))) fun x18_ =>
  some (x18_, x16_)
abbrev rm12_rank : Room := { frames := 77, cells := 0, slots := 0, locals := 4194 }
theorem c12_rank {l : Launch} {kd : List KD} {w : Wp} {σ : St} {p_a : Int32} {k_a : Int32} (hkd : kd = kdM) (hi : zI kd w) {r : (Int32 × St)} (hf : q12_rank σ p_a k_a = some r) : zM l kd w yX12_rank cX12_rank 3 (some .int) rm12_rank [.ref (w.2.2.1 0), .int p_a, .int k_a] σ (some (.int r.1), r.2) := sorry
/-! LastLoafModel.beats -/
def q12_beats (σ : St) (p_a : Int32) (o_a : Int32) : Option (Bool × St) :=
  Option.bind (q12_areTwo σ p_a o_a) fun x1_ =>
  if 0 < (x1_ 0 0) then (some (false, x1_)) else
  Option.bind (q12_looks x1_) fun x7_ =>
  Option.bind (q12_doesBeat x7_ p_a o_a) fun x9_ =>
  some (x9_, x7_)
abbrev rm12_beats : Room := { frames := 77, cells := 0, slots := 0, locals := 4194 }
theorem c12_beats {l : Launch} {kd : List KD} {w : Wp} {σ : St} {p_a : Int32} {o_a : Int32} (hkd : kd = kdM) (hi : zI kd w) {r : (Bool × St)} (hf : q12_beats σ p_a o_a = some r) : zM l kd w yX12_beats cX12_beats 3 (some .boolean) rm12_beats [.ref (w.2.2.1 0), .int p_a, .int o_a] σ (some (.int (b2i r.1)), r.2) := sorry
/-! LastLoafModel.master -/
def q12_master (σ : St) : Option (Int32 × St) :=
  lt (up σ 0 0 0) fun σ1_ =>
  Option.bind (q12_looks σ1_) fun x3_ =>
  Option.bind (loop1 (fun rec8_ (p11_ : Int32) =>
  Option.bind (ag x3_ 1 752 3) fun x16_ =>
  if p11_ < x16_ then
  Option.bind (if q12_isOf (x3_ 0 21) p11_ = true then (Option.bind (q12_duelsOf x3_ p11_) fun x25_ =>
  Option.bind (q12_bits (x3_ 0 21)) fun x27_ =>
  if x25_ = (x27_ - 1) then (some true) else (some false)) else (some false)) fun t22_ =>
  if t22_ = true then (some (.inl (p11_, x3_))) else
  lt (p11_ + 1) fun p31_ =>
  rec8_ p31_
  else (some (.inr p11_))) fuelN (0 : Int32)) fun y5_ =>
  Sum.elim (fun x9 => some x9) (fun y5_r =>
  some ((-1), x3_)) y5_
abbrev rm12_master : Room := { frames := 77, cells := 0, slots := 0, locals := 4194 }
theorem c12_master {l : Launch} {kd : List KD} {w : Wp} {σ : St} (hkd : kd = kdM) (hi : zI kd w) {r : (Int32 × St)} (hf : q12_master σ = some r) : zM l kd w yX12_master cX12_master 2 (some .int) rm12_master [.ref (w.2.2.1 0)] σ (some (.int r.1), r.2) := sorry
/-! LastLoafModel.hungryBy -/
def q12_hungryBy (σ : St) (way_a : Int32) (n_a : Int32) : Option (Int32 × St) :=
  Option.bind (q12_putsAside σ) fun x1_ =>
  Option.bind (sa x1_ 1 752 6 way_a) fun σ3_ =>
  Option.bind (q12_goes σ3_ n_a false) fun x5_ =>
  Option.bind (q12_those x5_.2 4) fun x7_ =>
  Option.bind (q12_bits x7_) fun x9_ =>
  Option.bind (q12_comesBack x5_.2) fun x11_ =>
  some (x9_, x11_)
abbrev rm12_hungryBy : Room := { frames := 80, cells := 0, slots := 0, locals := 4263 }
theorem c12_hungryBy {l : Launch} {kd : List KD} {w : Wp} {σ : St} {way_a : Int32} {n_a : Int32} (hkd : kd = kdM) (hi : zI kd w) {r : (Int32 × St)} (hf : q12_hungryBy σ way_a n_a = some r) : zM l kd w yX12_hungryBy cX12_hungryBy 5 (some .int) rm12_hungryBy [.ref (w.2.2.1 0), .int way_a, .int n_a] σ (some (.int r.1), r.2) := sorry
/-! LastLoafModel.hungry -/
theorem w_10_22 : Cond.code ({ cls := "LastLoafModel", name := "hungryBy", desc := "(II)I" } : MethodName) prog_14_method_86_code (5 : Nat) (Option.some ClassFile.FieldType.int) ∈ TB := sorry
theorem w_10_19 : Cond.methodLink "LastLoafModel" (376 : Nat) ({ cls := "LastLoafModel", name := "hungryBy", desc := "(II)I" } : MethodName) ∈ TB := sorry
theorem w_10_21 : Cond.instanceMethod ({ cls := "LastLoafModel", name := "hungryBy", desc := "(II)I" } : MethodName) ∈ TB := sorry
theorem ws_LastLoafModel_hungryBy_II_I : Cond.selects "LastLoafModel" (⟨"LastLoafModel", "hungryBy", "(II)I"⟩ : MethodName) (⟨"LastLoafModel", "hungryBy", "(II)I"⟩ : MethodName) ∈ TB := sorry
theorem cr12_376 {Θ : Tz} {cc : ByteArray} {nL kc ks : Nat} {ret : Option FieldType} {rm : Room} {Q : State → Prop} {σ : St} {pc : Nat} {lv : List (Nat × Value)} {st : List Value} (C : Zc Θ cc nL RX12 ret rm) (hkd : Θ.2.2.2.2.1 = kdM) {way_a : Int32} {n_a : Int32} {r : Int32 × St} (hx : q12_hungryBy σ way_a n_a = some r) (hrm : rm12_hungryBy.frames + 1 ≤ rm.frames ∧ 8 + (5 + 11) + rm12_hungryBy.locals ≤ rm.locals) (hcat : (st.map fun v => v.category).sum ≤ 8) (hk : kc ≤ rm.cells ∧ ks ≤ rm.slots) (hd : decode cc pc = .ok (.invokevirtual 376, 3)) (kk : Z Θ nL kc ks Q r.2 (pc + 3) lv (.int r.1 :: st)) : Z Θ nL kc ks Q σ pc lv (.int n_a :: .int way_a :: .ref (zA Θ 0) :: st) := sorry
def q12_hungry (σ : St) (way_a : Int32) (n_a : Int32) : Option (Int32 × St) :=
  lt (up σ 0 0 (if (¬ (q12_isIn way_a 0 5 = true)) ∨ (¬ (q12_isIn n_a 0 60 = true)) then 1 else 0)) fun σ7_ =>
  Option.bind (if 0 < (σ7_ 0 0) then (some ((0 : Int32), σ7_)) else (Option.bind (q12_hungryBy σ7_ way_a n_a) fun x15_ =>
  some (x15_.1, x15_.2))) fun x9_ =>
  some (x9_.1, x9_.2)
abbrev rm12_hungry : Room := { frames := 81, cells := 0, slots := 0, locals := 4287 }
theorem c12_hungry {l : Launch} {kd : List KD} {w : Wp} {σ : St} {way_a : Int32} {n_a : Int32} (hkd : kd = kdM) (hi : zI kd w) {r : (Int32 × St)} (hf : q12_hungry σ way_a n_a = some r) : zM l kd w yX12_hungry cX12_hungry 3 (some .int) rm12_hungry [.ref (w.2.2.1 0), .int way_a, .int n_a] σ (some (.int r.1), r.2) := sorry
/-! LastLoafModel.kindest -/
theorem w_10_27 : Cond.constant "LastLoafModel" (379 : Nat) (2000000000 : Int32) ∈ TB := sorry
def q12_kindest (σ : St) (n_a : Int32) : Option (Int32 × St) :=
  lt (up σ 0 0 (if ¬ (q12_isIn n_a 0 60 = true) then 1 else 0)) fun σ6_ =>
  if 0 < (σ6_ 0 0) then (some (0, σ6_)) else
  Option.bind (loop4 (fun rec15_ (found18_ : Int32) (least19_ : Int32) (way20_ : Int32) (σ21_ : St) =>
  if way20_ < 6 then
  lt (fun (found34_ : Int32) (least35_ : Int32) (way36_ : Int32) (σ37_ : St) =>
  lt (way36_ + 1) fun way39_ =>
  rec15_ found34_ least35_ way39_ σ37_) fun k23_ =>
  Option.bind (q12_hungryBy σ21_ way20_ n_a) fun x28_ =>
  if least19_ ≤ x28_.1 then (k23_ found18_ least19_ way20_ x28_.2) else
  k23_ way20_ x28_.1 way20_ x28_.2
  else (some (found18_, least19_, way20_, σ21_))) fuelN (0 : Int32) (2000000000 : Int32) (0 : Int32) σ6_) fun y12_ =>
  some (y12_.1, y12_.2.2.2)
abbrev rm12_kindest : Room := { frames := 81, cells := 0, slots := 0, locals := 4287 }
theorem c12_kindest {l : Launch} {kd : List KD} {w : Wp} {σ : St} {n_a : Int32} (hkd : kd = kdM) (hi : zI kd w) {r : (Int32 × St)} (hf : q12_kindest σ n_a = some r) : zM l kd w yX12_kindest cX12_kindest 6 (some .int) rm12_kindest [.ref (w.2.2.1 0), .int n_a] σ (some (.int r.1), r.2) := sorry
/-! LastLoafModel.next -/
def q12_next (σ : St) (n_a : Int32) : Option (Int32 × St) :=
  lt (up σ 0 0 (if ¬ (q12_isIn n_a 0 60 = true) then 1 else 0)) fun σ6_ =>
  if 0 < (σ6_ 0 0) then (some (0, σ6_)) else
  Option.bind (q12_putsAside σ6_) fun x12_ =>
  Option.bind (q12_goes x12_ n_a false) fun x14_ =>
  Option.bind (q12_looks x14_.2) fun x16_ =>
  Option.bind (ag x16_ 1 752 6) fun x18_ =>
  Option.bind (q12_winnerBy x16_ x18_) fun x20_ =>
  Option.bind (q12_comesBack x16_) fun x22_ =>
  some (x20_, x22_)
abbrev rm12_next : Room := { frames := 80, cells := 0, slots := 0, locals := 4263 }
theorem c12_next {l : Launch} {kd : List KD} {w : Wp} {σ : St} {n_a : Int32} (hkd : kd = kdM) (hi : zI kd w) {r : (Int32 × St)} (hf : q12_next σ n_a = some r) : zM l kd w yX12_next cX12_next 4 (some .int) rm12_next [.ref (w.2.2.1 0), .int n_a] σ (some (.int r.1), r.2) := sorry
/-! LastLoafModel.woo -/
def q12_woo (σ : St) (p_a : Int32) : Option (Int32 × St) :=
  Option.bind (Option.bind (q12_isOne σ p_a) fun x6_ =>
  if ¬ (x6_ = true) then (some (1 : Int32)) else (some (0 : Int32))) fun x1_ =>
  lt (up σ 0 0 x1_) fun σ10_ =>
  if 0 < (σ10_ 0 0) then (some (0, σ10_)) else
  Option.bind (q12_looks σ10_) fun x16_ =>
  Option.bind (if q12_isOf (x16_ 0 21) p_a = true then (Option.bind (q12_wooed x16_ p_a) fun x24_ =>
  some x24_) else (some (-1 : Int32))) fun x18_ =>
  some (x18_, x16_)
abbrev rm12_woo : Room := { frames := 77, cells := 0, slots := 0, locals := 4194 }
theorem c12_woo {l : Launch} {kd : List KD} {w : Wp} {σ : St} {p_a : Int32} (hkd : kd = kdM) (hi : zI kd w) {r : (Int32 × St)} (hf : q12_woo σ p_a = some r) : zM l kd w yX12_woo cX12_woo 2 (some .int) rm12_woo [.ref (w.2.2.1 0), .int p_a] σ (some (.int r.1), r.2) := sorry
/-! LastLoafModel.swaps -/
theorem w_8_49 : Cond.fieldLink "LastLoafModel" (35 : Nat) "LastLoafModel" "place" "[I" ∈ TB := sorry
theorem fg12_35 {Θ : Tz} {cc : ByteArray} {nL kc ks : Nat} {ret : Option FieldType} {rm : Room} {Q : State → Prop} {σ : St} {pc : Nat} {lv : List (Nat × Value)} {st : List Value} (C : Zc Θ cc nL RX12 ret rm) (hkd : Θ.2.2.2.2.1 = kdM) (hd : decode cc pc = .ok (.getfield 35, 3)) (kk : Z Θ nL kc ks Q σ (pc + 3) lv (.ref (zA Θ 8) :: st)) : Z Θ nL kc ks Q σ pc lv (.ref (zA Θ 0) :: st) := sorry
def q12_swaps (σ : St) (a_a : Int32) (b_a : Int32) : Option St :=
  Option.bind (ag σ 8 7 a_a) fun x1_ =>
  Option.bind (ag σ 8 7 b_a) fun x3_ =>
  Option.bind (sa σ 8 7 a_a x3_) fun σ5_ =>
  Option.bind (sa σ5_ 8 7 b_a x1_) fun σ7_ =>
  some σ7_
abbrev rm12_swaps : Room := { frames := 0, cells := 0, slots := 0, locals := 0 }
theorem c12_swaps {l : Launch} {kd : List KD} {w : Wp} {σ : St} {a_a : Int32} {b_a : Int32} (hkd : kd = kdM) (hi : zI kd w) {r : St} (hf : q12_swaps σ a_a b_a = some r) : zM l kd w yX12_swaps cX12_swaps 4 none rm12_swaps [.ref (w.2.2.1 0), .int a_a, .int b_a] σ (none, r) := sorry
/-! LastLoafModel.nextOrder -/
theorem w_10_51 : Cond.code ({ cls := "LastLoafModel", name := "swaps", desc := "(II)V" } : MethodName) prog_14_method_95_code (4 : Nat) (Option.none : Option ClassFile.FieldType) ∈ TB := sorry
theorem w_10_48 : Cond.methodLink "LastLoafModel" (386 : Nat) ({ cls := "LastLoafModel", name := "swaps", desc := "(II)V" } : MethodName) ∈ TB := sorry
theorem w_10_50 : Cond.instanceMethod ({ cls := "LastLoafModel", name := "swaps", desc := "(II)V" } : MethodName) ∈ TB := sorry
theorem ws_LastLoafModel_swaps_II_V : Cond.selects "LastLoafModel" (⟨"LastLoafModel", "swaps", "(II)V"⟩ : MethodName) (⟨"LastLoafModel", "swaps", "(II)V"⟩ : MethodName) ∈ TB := sorry
theorem cr12_386 {Θ : Tz} {cc : ByteArray} {nL kc ks : Nat} {ret : Option FieldType} {rm : Room} {Q : State → Prop} {σ : St} {pc : Nat} {lv : List (Nat × Value)} {st : List Value} (C : Zc Θ cc nL RX12 ret rm) (hkd : Θ.2.2.2.2.1 = kdM) {a_a : Int32} {b_a : Int32} {r : St} (hx : q12_swaps σ a_a b_a = some r) (hrm : rm12_swaps.frames + 1 ≤ rm.frames ∧ 8 + (4 + 11) + rm12_swaps.locals ≤ rm.locals) (hcat : (st.map fun v => v.category).sum ≤ 8) (hk : kc ≤ rm.cells ∧ ks ≤ rm.slots) (hd : decode cc pc = .ok (.invokevirtual 386, 3)) (kk : Z Θ nL kc ks Q r (pc + 3) lv st) : Z Θ nL kc ks Q σ pc lv (.int b_a :: .int a_a :: .ref (zA Θ 0) :: st) := sorry
def q12_nextOrder (σ : St) (n_a : Int32) : Option (Bool × St) :=
  lt (n_a - 2) fun i1_ =>
  Option.bind (loop1 (fun rec6_ (i9_ : Int32) =>
  Option.bind (if 0 ≤ i9_ then (Option.bind (ag σ 8 7 i9_) fun x17_ =>
  Option.bind (ag σ 8 7 (i9_ + 1)) fun x19_ =>
  if x19_ < x17_ then (some true) else (some false)) else (some false)) fun t14_ =>
  if t14_ = true then
  lt (i9_ + (-1)) fun i23_ =>
  rec6_ i23_
  else (some i9_)) fuelN i1_) fun y3_ =>
  if y3_ < 0 then (some (false, σ)) else
  lt (n_a - 1) fun k29_ =>
  Option.bind (loop1 (fun rec34_ (k37_ : Int32) =>
  Option.bind (ag σ 8 7 k37_) fun x42_ =>
  Option.bind (ag σ 8 7 y3_) fun x44_ =>
  if x42_ < x44_ then
  lt (k37_ + (-1)) fun k48_ =>
  rec34_ k48_
  else (some k37_)) fuelN k29_) fun y31_ =>
  Option.bind (q12_swaps σ y3_ y31_) fun x50_ =>
  lt (y3_ + 1) fun a52_ =>
  lt (n_a - 1) fun b54_ =>
  Option.bind (loop3 (fun rec59_ (a62_ : Int32) (b63_ : Int32) (σ64_ : St) =>
  if a62_ < b63_ then
  Option.bind (q12_swaps σ64_ a62_ b63_) fun x71_ =>
  lt (a62_ + 1) fun a73_ =>
  lt (b63_ + (-1)) fun b75_ =>
  rec59_ a73_ b75_ x71_
  else (some (a62_, b63_, σ64_))) fuelN a52_ b54_ x50_) fun y56_ =>
  some (true, y56_.2.2)
abbrev rm12_nextOrder : Room := { frames := 1, cells := 0, slots := 0, locals := 23 }
theorem c12_nextOrder {l : Launch} {kd : List KD} {w : Wp} {σ : St} {n_a : Int32} (hkd : kd = kdM) (hi : zI kd w) {r : (Bool × St)} (hf : q12_nextOrder σ n_a = some r) : zM l kd w yX12_nextOrder cX12_nextOrder 6 (some .boolean) rm12_nextOrder [.ref (w.2.2.1 0), .int n_a] σ (some (.int (b2i r.1)), r.2) := sorry
/-! LastLoafModel.hasOrder -/
theorem w_10_47 : Cond.code ({ cls := "LastLoafModel", name := "nextOrder", desc := "(I)Z" } : MethodName) prog_14_method_94_code (6 : Nat) (Option.some ClassFile.FieldType.boolean) ∈ TB := sorry
theorem w_10_44 : Cond.methodLink "LastLoafModel" (383 : Nat) ({ cls := "LastLoafModel", name := "nextOrder", desc := "(I)Z" } : MethodName) ∈ TB := sorry
theorem w_10_46 : Cond.instanceMethod ({ cls := "LastLoafModel", name := "nextOrder", desc := "(I)Z" } : MethodName) ∈ TB := sorry
theorem ws_LastLoafModel_nextOrder_I_Z : Cond.selects "LastLoafModel" (⟨"LastLoafModel", "nextOrder", "(I)Z"⟩ : MethodName) (⟨"LastLoafModel", "nextOrder", "(I)Z"⟩ : MethodName) ∈ TB := sorry
theorem cr12_383 {Θ : Tz} {cc : ByteArray} {nL kc ks : Nat} {ret : Option FieldType} {rm : Room} {Q : State → Prop} {σ : St} {pc : Nat} {lv : List (Nat × Value)} {st : List Value} (C : Zc Θ cc nL RX12 ret rm) (hkd : Θ.2.2.2.2.1 = kdM) {n_a : Int32} {r : Bool × St} (hx : q12_nextOrder σ n_a = some r) (hrm : rm12_nextOrder.frames + 1 ≤ rm.frames ∧ 8 + (6 + 11) + rm12_nextOrder.locals ≤ rm.locals) (hcat : (st.map fun v => v.category).sum ≤ 8) (hk : kc ≤ rm.cells ∧ ks ≤ rm.slots) (hd : decode cc pc = .ok (.invokevirtual 383, 3)) (kk : Z Θ nL kc ks Q r.2 (pc + 3) lv (.int (b2i r.1) :: st)) : Z Θ nL kc ks Q σ pc lv (.int n_a :: .ref (zA Θ 0) :: st) := sorry
def q12_hasOrder (σ : St) (one_a : Int32) : Option (Bool × St) :=
  Option.bind (q12_bits (σ 0 21)) fun x1_ =>
  lt (σ 0 21) fun left3_ =>
  Option.bind (loop3 (fun rec8_ (left11_ : Int32) (i12_ : Int32) (σ13_ : St) =>
  if i12_ < x1_ then
  Option.bind (q12_lowest left11_) fun x20_ =>
  Option.bind (sa σ13_ 8 7 i12_ x20_) fun σ22_ =>
  Option.bind (ag σ22_ 8 7 i12_) fun x24_ =>
  lt (left11_ &&& ((shl 1 x24_) ^^^ (-1))) fun left26_ =>
  lt (i12_ + 1) fun i28_ =>
  rec8_ left26_ i28_ σ22_
  else (some (left11_, i12_, σ13_))) fuelN left3_ (0 : Int32) σ) fun y5_ =>
  lt (decide (0 < x1_)) fun more35_ =>
  Option.bind (loop2 (fun rec40_ (more43_ : Bool) (σ44_ : St) =>
  if more43_ = true then
  Option.bind (ag σ44_ 8 7 0) fun x51_ =>
  Option.bind (loop2 (fun rec56_ (there59_ : Int32) (i60_ : Int32) =>
  if i60_ < x1_ then
  Option.bind (Option.bind (ag σ44_ 8 7 i60_) fun x72_ =>
  Option.bind (q12_doesBeat σ44_ x72_ there59_) fun x74_ =>
  if x74_ = true then (Option.bind (ag σ44_ 8 7 i60_) fun x78_ =>
  some (x78_)) else (some (there59_))) fun y67_ =>
  lt (i60_ + 1) fun i80_ =>
  rec56_ y67_ i80_
  else (some (there59_, i60_))) fuelN x51_ (1 : Int32)) fun y53_ =>
  if y53_.1 = one_a then (some (.inl (true, σ44_))) else
  Option.bind (q12_nextOrder σ44_ x1_) fun x86_ =>
  rec40_ x86_.1 x86_.2
  else (some (.inr (more43_, σ44_)))) fuelN more35_ y5_.2.2) fun y37_ =>
  Sum.elim (fun x9 => some x9) (fun y37_r =>
  some (false, y37_r.2)) y37_
abbrev rm12_hasOrder : Room := { frames := 2, cells := 0, slots := 0, locals := 48 }
theorem c12_hasOrder {l : Launch} {kd : List KD} {w : Wp} {σ : St} {one_a : Int32} (hkd : kd = kdM) (hi : zI kd w) {r : (Bool × St)} (hf : q12_hasOrder σ one_a = some r) : zM l kd w yX12_hasOrder cX12_hasOrder 7 (some .boolean) rm12_hasOrder [.ref (w.2.2.1 0), .int one_a] σ (some (.int (b2i r.1)), r.2) := sorry
/-! LastLoafModel.orders -/
theorem w_10_43 : Cond.code ({ cls := "LastLoafModel", name := "hasOrder", desc := "(I)Z" } : MethodName) prog_14_method_93_code (7 : Nat) (Option.some ClassFile.FieldType.boolean) ∈ TB := sorry
theorem w_10_40 : Cond.methodLink "LastLoafModel" (389 : Nat) ({ cls := "LastLoafModel", name := "hasOrder", desc := "(I)Z" } : MethodName) ∈ TB := sorry
theorem w_10_42 : Cond.instanceMethod ({ cls := "LastLoafModel", name := "hasOrder", desc := "(I)Z" } : MethodName) ∈ TB := sorry
theorem ws_LastLoafModel_hasOrder_I_Z : Cond.selects "LastLoafModel" (⟨"LastLoafModel", "hasOrder", "(I)Z"⟩ : MethodName) (⟨"LastLoafModel", "hasOrder", "(I)Z"⟩ : MethodName) ∈ TB := sorry
theorem cr12_389 {Θ : Tz} {cc : ByteArray} {nL kc ks : Nat} {ret : Option FieldType} {rm : Room} {Q : State → Prop} {σ : St} {pc : Nat} {lv : List (Nat × Value)} {st : List Value} (C : Zc Θ cc nL RX12 ret rm) (hkd : Θ.2.2.2.2.1 = kdM) {one_a : Int32} {r : Bool × St} (hx : q12_hasOrder σ one_a = some r) (hrm : rm12_hasOrder.frames + 1 ≤ rm.frames ∧ 8 + (7 + 11) + rm12_hasOrder.locals ≤ rm.locals) (hcat : (st.map fun v => v.category).sum ≤ 8) (hk : kc ≤ rm.cells ∧ ks ≤ rm.slots) (hd : decode cc pc = .ok (.invokevirtual 389, 3)) (kk : Z Θ nL kc ks Q r.2 (pc + 3) lv (.int (b2i r.1) :: st)) : Z Θ nL kc ks Q σ pc lv (.int one_a :: .ref (zA Θ 0) :: st) := sorry
def q12_orders (σ : St) : Option (Int32 × St) :=
  lt (up σ 0 0 0) fun σ1_ =>
  Option.bind (q12_looks σ1_) fun x3_ =>
  Option.bind (loop3 (fun rec8_ (set11_ : Int32) (p12_ : Int32) (σ13_ : St) =>
  Option.bind (ag σ13_ 1 752 3) fun x18_ =>
  if p12_ < x18_ then
  Option.bind (Option.bind (if q12_isOf (σ13_ 0 21) p12_ = true then (Option.bind (q12_hasOrder σ13_ p12_) fun x30_ =>
  if x30_.1 = true then (some (true, x30_.2)) else (some (false, x30_.2))) else (some (false, σ13_))) fun t27_ =>
  if t27_.1 = true then (some (shl 1 p12_, t27_.2)) else (some ((0 : Int32), t27_.2))) fun x22_ =>
  lt (set11_ ||| x22_.1) fun set34_ =>
  lt (p12_ + 1) fun p36_ =>
  rec8_ set34_ p36_ x22_.2
  else (some (set11_, p12_, σ13_))) fuelN (0 : Int32) (0 : Int32) x3_) fun y5_ =>
  some (y5_.1, y5_.2.2)
abbrev rm12_orders : Room := { frames := 77, cells := 0, slots := 0, locals := 4194 }
theorem c12_orders {l : Launch} {kd : List KD} {w : Wp} {σ : St} (hkd : kd = kdM) (hi : zI kd w) {r : (Int32 × St)} (hf : q12_orders σ = some r) : zM l kd w yX12_orders cX12_orders 3 (some .int) rm12_orders [.ref (w.2.2.1 0)] σ (some (.int r.1), r.2) := sorry
/-! LastLoafModel.order -/
def q12_order (σ : St) (p_a : Int32) (k_a : Int32) : Option (Int32 × St) :=
  Option.bind (Option.bind (q12_isOne σ p_a) fun x6_ =>
  if ¬ (x6_ = true) then (some (1 : Int32)) else (some (0 : Int32))) fun x1_ =>
  lt (up σ 0 0 x1_) fun σ10_ =>
  if 0 < (σ10_ 0 0) then (some (0, σ10_)) else
  Option.bind (q12_looks σ10_) fun x16_ =>
  Option.bind (Option.bind (if q12_isOf (x16_ 0 21) p_a = true then (Option.bind (q12_hasOrder x16_ p_a) fun x26_ =>
  if x26_.1 = true then (Option.bind (q12_bits (x26_.2 0 21)) fun x29_ =>
  if q12_isIn k_a 0 (x29_ - 1) = true then (some (true, x26_.2)) else (some (false, x26_.2))) else (some (false, x26_.2))) else (some (false, x16_))) fun t23_ =>
  if t23_.1 = true then (Option.bind (ag t23_.2 8 7 k_a) fun x32_ =>
  some (x32_, t23_.2)) else (some ((-1 : Int32), t23_.2))) fun x18_ =>
  some (x18_.1, x18_.2)
abbrev rm12_order : Room := { frames := 77, cells := 0, slots := 0, locals := 4194 }
theorem c12_order {l : Launch} {kd : List KD} {w : Wp} {σ : St} {p_a : Int32} {k_a : Int32} (hkd : kd = kdM) (hi : zI kd w) {r : (Int32 × St)} (hf : q12_order σ p_a k_a = some r) : zM l kd w yX12_order cX12_order 3 (some .int) rm12_order [.ref (w.2.2.1 0), .int p_a, .int k_a] σ (some (.int r.1), r.2) := sorry
/-! LastLoafModel.turns -/
theorem w_8_53 : Cond.fieldLink "LastLoafModel" (47 : Nat) "LastLoafModel" "flours" "[I" ∈ TB := sorry
theorem fg12_47 {Θ : Tz} {cc : ByteArray} {nL kc ks : Nat} {ret : Option FieldType} {rm : Room} {Q : State → Prop} {σ : St} {pc : Nat} {lv : List (Nat × Value)} {st : List Value} (C : Zc Θ cc nL RX12 ret rm) (hkd : Θ.2.2.2.2.1 = kdM) (hd : decode cc pc = .ok (.getfield 47, 3)) (kk : Z Θ nL kc ks Q σ (pc + 3) lv (.ref (zA Θ 12) :: st)) : Z Θ nL kc ks Q σ pc lv (.ref (zA Θ 0) :: st) := sorry
theorem w_8_52 : Cond.fieldLink "LastLoafModel" (44 : Nat) "LastLoafModel" "benched" "[I" ∈ TB := sorry
theorem fg12_44 {Θ : Tz} {cc : ByteArray} {nL kc ks : Nat} {ret : Option FieldType} {rm : Room} {Q : State → Prop} {σ : St} {pc : Nat} {lv : List (Nat × Value)} {st : List Value} (C : Zc Θ cc nL RX12 ret rm) (hkd : Θ.2.2.2.2.1 = kdM) (hd : decode cc pc = .ok (.getfield 44, 3)) (kk : Z Θ nL kc ks Q σ (pc + 3) lv (.ref (zA Θ 11) :: st)) : Z Θ nL kc ks Q σ pc lv (.ref (zA Θ 0) :: st) := sorry
theorem w_8_51 : Cond.fieldLink "LastLoafModel" (41 : Nat) "LastLoafModel" "hungers" "[I" ∈ TB := sorry
theorem fg12_41 {Θ : Tz} {cc : ByteArray} {nL kc ks : Nat} {ret : Option FieldType} {rm : Room} {Q : State → Prop} {σ : St} {pc : Nat} {lv : List (Nat × Value)} {st : List Value} (C : Zc Θ cc nL RX12 ret rm) (hkd : Θ.2.2.2.2.1 = kdM) (hd : decode cc pc = .ok (.getfield 41, 3)) (kk : Z Θ nL kc ks Q σ (pc + 3) lv (.ref (zA Θ 10) :: st)) : Z Θ nL kc ks Q σ pc lv (.ref (zA Θ 0) :: st) := sorry
def q12_turns (σ : St) (level_a : Int32) (whom_a : Int32) : Option St :=
  Option.bind (ag σ 12 8 level_a) fun x1_ =>
  Option.bind (ag σ 1 752 4) fun x3_ =>
  Option.bind (ag σ 1 752 (10 + (irm (q12_lesser 9999 (x3_ + level_a)) 4))) fun x5_ =>
  lt (q12_lesser 9999 (x1_ + x5_)) fun flour7_ =>
  Option.bind (ag σ 11 8 level_a) fun x9_ =>
  Option.bind (loop3 (fun rec14_ (flour17_ : Int32) (p18_ : Int32) (σ19_ : St) =>
  Option.bind (ag σ19_ 1 752 3) fun x24_ =>
  if p18_ < x24_ then
  Option.bind (ag σ19_ 10 56 ((7 * level_a) + p18_)) fun x28_ =>
  Option.bind (Option.bind (if q12_isOf x9_ p18_ = true then (some false) else (Option.bind (q12_of σ19_ p18_ 3) fun x38_ =>
  if x38_ = 0 then (some true) else (some false))) fun t35_ =>
  if t35_ = true then (lt (if 0 < flour17_ then 0 else q12_lesser 9 (x28_ + 1)) fun h47_ =>
  lt (flour17_ - (if 0 < flour17_ then 1 else 0)) fun flour54_ =>
  some (flour54_, h47_)) else (some (flour17_, x28_))) fun y30_ =>
  Option.bind (sa σ19_ 10 56 (((7 * level_a) + 7) + p18_) y30_.2) fun σ56_ =>
  lt (p18_ + 1) fun p58_ =>
  rec14_ y30_.1 p58_ σ56_
  else (some (flour17_, p18_, σ19_))) fuelN flour7_ (0 : Int32) σ) fun y11_ =>
  Option.bind (loop2 (fun rec63_ (p66_ : Int32) (σ67_ : St) =>
  Option.bind (ag σ67_ 1 752 3) fun x72_ =>
  if p66_ < x72_ then
  lt (fun (p100_ : Int32) (σ101_ : St) =>
  lt (p100_ + 1) fun p103_ =>
  rec63_ p103_ σ101_) fun k69_ =>
  Option.bind (ag σ67_ 10 56 (((7 * level_a) + 7) + p66_)) fun x76_ =>
  if q12_isOf x9_ p66_ = true then (k69_ p66_ σ67_) else
  Option.bind (Option.bind (q12_of σ67_ p66_ 3) fun x87_ =>
  if x87_ = 1 then (lt (if p66_ = whom_a then 0 else q12_lesser 9 (x76_ + 1)) fun h96_ =>
  some (h96_)) else (some (x76_))) fun y82_ =>
  Option.bind (sa σ67_ 10 56 (((7 * level_a) + 7) + p66_) y82_) fun σ98_ =>
  k69_ p66_ σ98_
  else (some (p66_, σ67_))) fuelN (0 : Int32) y11_.2.2) fun y60_ =>
  Option.bind (sa y60_.2 12 8 (level_a + 1) (y11_.1 - (if whom_a = (-1) then 0 else 1))) fun σ110_ =>
  Option.bind (sa σ110_ 11 8 (level_a + 1) x9_) fun σ112_ =>
  Option.bind (loop2 (fun rec117_ (p120_ : Int32) (σ121_ : St) =>
  Option.bind (ag σ121_ 1 752 3) fun x126_ =>
  if p120_ < x126_ then
  Option.bind (Option.bind (if q12_isOf x9_ p120_ = true then (some false) else (Option.bind (ag σ121_ 10 56 (((7 * level_a) + 7) + p120_)) fun x138_ =>
  if x138_ = 9 then (some true) else (some false))) fun t135_ =>
  if t135_ = true then (Option.bind (ag σ121_ 11 8 (level_a + 1)) fun x142_ =>
  Option.bind (sa σ121_ 11 8 (level_a + 1) (x142_ ||| (shl 1 p120_))) fun σ144_ =>
  some (σ144_)) else (some (σ121_))) fun y130_ =>
  lt (p120_ + 1) fun p146_ =>
  rec117_ p146_ y130_
  else (some (p120_, σ121_))) fuelN (0 : Int32) σ112_) fun y114_ =>
  some y114_.2
abbrev rm12_turns : Room := { frames := 1, cells := 0, slots := 0, locals := 22 }
theorem c12_turns {l : Launch} {kd : List KD} {w : Wp} {σ : St} {level_a : Int32} {whom_a : Int32} (hkd : kd = kdM) (hi : zI kd w) {r : St} (hf : q12_turns σ level_a whom_a = some r) : zM l kd w yX12_turns cX12_turns 7 none rm12_turns [.ref (w.2.2.1 0), .int level_a, .int whom_a] σ (none, r) := sorry
/-! LastLoafModel.mayGive -/
theorem w_10_70 : Cond.code ({ cls := "LastLoafModel", name := "greater", desc := "(II)I" } : MethodName) prog_14_method_5_code (2 : Nat) (Option.some ClassFile.FieldType.int) ∈ TB := sorry
theorem w_10_69 : Cond.static ({ cls := "LastLoafModel", name := "greater", desc := "(II)I" } : MethodName) ∈ TB := sorry
theorem w_10_68 : Cond.methodLink "LastLoafModel" (392 : Nat) ({ cls := "LastLoafModel", name := "greater", desc := "(II)I" } : MethodName) ∈ TB := sorry
theorem cr12_392 {Θ : Tz} {cc : ByteArray} {nL kc ks : Nat} {ret : Option FieldType} {rm : Room} {Q : State → Prop} {σ : St} {pc : Nat} {lv : List (Nat × Value)} {st : List Value} (C : Zc Θ cc nL RX12 ret rm) (hkd : Θ.2.2.2.2.1 = kdM) {a_a : Int32} {b_a : Int32} (hrm : rm12_greater.frames + 1 ≤ rm.frames ∧ 8 + (2 + 11) + rm12_greater.locals ≤ rm.locals) (hcat : (st.map fun v => v.category).sum ≤ 8) (hk : kc ≤ rm.cells ∧ ks ≤ rm.slots) (hd : decode cc pc = .ok (.invokestatic 392, 3)) (kk : Z Θ nL kc ks Q σ (pc + 3) lv (.int (q12_greater a_a b_a) :: st)) : Z Θ nL kc ks Q σ pc lv (.int b_a :: .int a_a :: st) := sorry
def q12_mayGive (σ : St) (level_a : Int32) (whom_a : Int32) : Option Bool :=
  if whom_a = (-1) then (some true) else
  Option.bind (if q12_isOf (σ 0 21) whom_a = true then (Option.bind (ag σ 11 8 level_a) fun x10_ =>
  if q12_isOf x10_ whom_a = true then (some true) else (some false)) else (some true)) fun t7_ =>
  if t7_ = true then (some false) else
  Option.bind (ag σ 12 8 level_a) fun x14_ =>
  Option.bind (ag σ 1 752 4) fun x16_ =>
  Option.bind (ag σ 1 752 (10 + (irm (q12_lesser 9999 (x16_ + level_a)) 4))) fun x18_ =>
  lt (q12_lesser 9999 (x14_ + x18_)) fun flour20_ =>
  Option.bind (loop2 (fun rec25_ (flour28_ : Int32) (p29_ : Int32) =>
  Option.bind (ag σ 1 752 3) fun x34_ =>
  if p29_ < x34_ then
  Option.bind (Option.bind (Option.bind (ag σ 11 8 level_a) fun x45_ =>
  if q12_isOf x45_ p29_ = true then (some false) else (Option.bind (q12_of σ p29_ 3) fun x48_ =>
  if x48_ = 0 then (some true) else (some false))) fun t43_ =>
  if t43_ = true then (lt (q12_greater 0 (flour28_ - 1)) fun flour52_ =>
  some (flour52_)) else (some (flour28_))) fun y38_ =>
  lt (p29_ + 1) fun p54_ =>
  rec25_ y38_ p54_
  else (some (flour28_, p29_))) fuelN flour20_ (0 : Int32)) fun y22_ =>
  some (decide (0 < y22_.1))
abbrev rm12_mayGive : Room := { frames := 1, cells := 0, slots := 0, locals := 22 }
theorem c12_mayGive {l : Launch} {kd : List KD} {w : Wp} {σ : St} {level_a : Int32} {whom_a : Int32} (hkd : kd = kdM) (hi : zI kd w) {r : Bool} (hf : q12_mayGive σ level_a whom_a = some r) : zM l kd w yX12_mayGive cX12_mayGive 5 (some .boolean) rm12_mayGive [.ref (w.2.2.1 0), .int level_a, .int whom_a] σ (some (.int (b2i r)), σ) := sorry
/-! LastLoafModel.fewestBy -/
theorem w_8_54 : Cond.fieldLink "LastLoafModel" (50 : Nat) "LastLoafModel" "choice" "[I" ∈ TB := sorry
theorem fg12_50 {Θ : Tz} {cc : ByteArray} {nL kc ks : Nat} {ret : Option FieldType} {rm : Room} {Q : State → Prop} {σ : St} {pc : Nat} {lv : List (Nat × Value)} {st : List Value} (C : Zc Θ cc nL RX12 ret rm) (hkd : Θ.2.2.2.2.1 = kdM) (hd : decode cc pc = .ok (.getfield 50, 3)) (kk : Z Θ nL kc ks Q σ (pc + 3) lv (.ref (zA Θ 13) :: st)) : Z Θ nL kc ks Q σ pc lv (.ref (zA Θ 0) :: st) := sorry
theorem bp_m2 : (Int8.ofInt (-2)).toInt32 = (-2) := sorry
theorem w_8_50 : Cond.fieldLink "LastLoafModel" (38 : Nat) "LastLoafModel" "firsts" "[I" ∈ TB := sorry
theorem fg12_38 {Θ : Tz} {cc : ByteArray} {nL kc ks : Nat} {ret : Option FieldType} {rm : Room} {Q : State → Prop} {σ : St} {pc : Nat} {lv : List (Nat × Value)} {st : List Value} (C : Zc Θ cc nL RX12 ret rm) (hkd : Θ.2.2.2.2.1 = kdM) (hd : decode cc pc = .ok (.getfield 38, 3)) (kk : Z Θ nL kc ks Q σ (pc + 3) lv (.ref (zA Θ 9) :: st)) : Z Θ nL kc ks Q σ pc lv (.ref (zA Θ 0) :: st) := sorry
theorem w_10_67 : Cond.code ({ cls := "LastLoafModel", name := "mayGive", desc := "(II)Z" } : MethodName) prog_14_method_99_code (5 : Nat) (Option.some ClassFile.FieldType.boolean) ∈ TB := sorry
theorem w_10_64 : Cond.methodLink "LastLoafModel" (395 : Nat) ({ cls := "LastLoafModel", name := "mayGive", desc := "(II)Z" } : MethodName) ∈ TB := sorry
theorem w_10_66 : Cond.instanceMethod ({ cls := "LastLoafModel", name := "mayGive", desc := "(II)Z" } : MethodName) ∈ TB := sorry
theorem ws_LastLoafModel_mayGive_II_Z : Cond.selects "LastLoafModel" (⟨"LastLoafModel", "mayGive", "(II)Z"⟩ : MethodName) (⟨"LastLoafModel", "mayGive", "(II)Z"⟩ : MethodName) ∈ TB := sorry
theorem cr12_395 {Θ : Tz} {cc : ByteArray} {nL kc ks : Nat} {ret : Option FieldType} {rm : Room} {Q : State → Prop} {σ : St} {pc : Nat} {lv : List (Nat × Value)} {st : List Value} (C : Zc Θ cc nL RX12 ret rm) (hkd : Θ.2.2.2.2.1 = kdM) {level_a : Int32} {whom_a : Int32} {r : Bool} (hx : q12_mayGive σ level_a whom_a = some r) (hrm : rm12_mayGive.frames + 1 ≤ rm.frames ∧ 8 + (5 + 11) + rm12_mayGive.locals ≤ rm.locals) (hcat : (st.map fun v => v.category).sum ≤ 8) (hk : kc ≤ rm.cells ∧ ks ≤ rm.slots) (hd : decode cc pc = .ok (.invokevirtual 395, 3)) (kk : Z Θ nL kc ks Q σ (pc + 3) lv (.int (b2i r) :: st)) : Z Θ nL kc ks Q σ pc lv (.int whom_a :: .int level_a :: .ref (zA Θ 0) :: st) := sorry
theorem w_10_74 : Cond.code ({ cls := "LastLoafModel", name := "turns", desc := "(II)V" } : MethodName) prog_14_method_98_code (7 : Nat) (Option.none : Option ClassFile.FieldType) ∈ TB := sorry
theorem w_10_71 : Cond.methodLink "LastLoafModel" (398 : Nat) ({ cls := "LastLoafModel", name := "turns", desc := "(II)V" } : MethodName) ∈ TB := sorry
theorem w_10_73 : Cond.instanceMethod ({ cls := "LastLoafModel", name := "turns", desc := "(II)V" } : MethodName) ∈ TB := sorry
theorem ws_LastLoafModel_turns_II_V : Cond.selects "LastLoafModel" (⟨"LastLoafModel", "turns", "(II)V"⟩ : MethodName) (⟨"LastLoafModel", "turns", "(II)V"⟩ : MethodName) ∈ TB := sorry
theorem cr12_398 {Θ : Tz} {cc : ByteArray} {nL kc ks : Nat} {ret : Option FieldType} {rm : Room} {Q : State → Prop} {σ : St} {pc : Nat} {lv : List (Nat × Value)} {st : List Value} (C : Zc Θ cc nL RX12 ret rm) (hkd : Θ.2.2.2.2.1 = kdM) {level_a : Int32} {whom_a : Int32} {r : St} (hx : q12_turns σ level_a whom_a = some r) (hrm : rm12_turns.frames + 1 ≤ rm.frames ∧ 8 + (7 + 11) + rm12_turns.locals ≤ rm.locals) (hcat : (st.map fun v => v.category).sum ≤ 8) (hk : kc ≤ rm.cells ∧ ks ≤ rm.slots) (hd : decode cc pc = .ok (.invokevirtual 398, 3)) (kk : Z Θ nL kc ks Q r (pc + 3) lv st) : Z Θ nL kc ks Q σ pc lv (.int whom_a :: .int level_a :: .ref (zA Θ 0) :: st) := sorry
def q12_fewestBy (σ : St) (n_a : Int32) : Option (Int32 × St) :=
  Option.bind (loop2 (fun rec4_ (p7_ : Int32) (σ8_ : St) =>
  Option.bind (ag σ8_ 1 752 3) fun x13_ =>
  if p7_ < x13_ then
  Option.bind (q12_of σ8_ p7_ 0) fun x17_ =>
  Option.bind (sa σ8_ 10 56 p7_ x17_) fun σ19_ =>
  lt (p7_ + 1) fun p21_ =>
  rec4_ p21_ σ19_
  else (some (p7_, σ8_))) fuelN (0 : Int32) σ) fun y1_ =>
  Option.bind (q12_those y1_.2 4) fun x23_ =>
  Option.bind (sa y1_.2 11 8 0 x23_) fun σ25_ =>
  Option.bind (ag σ25_ 1 752 5) fun x27_ =>
  Option.bind (sa σ25_ 12 8 0 x27_) fun σ29_ =>
  Option.bind (sa σ29_ 13 8 0 (-2)) fun σ31_ =>
  Option.bind (loop3 (fun rec36_ (least39_ : Int32) (level40_ : Int32) (σ41_ : St) =>
  if 0 ≤ level40_ then
  if level40_ = n_a then (Option.bind (Option.bind (ag σ41_ 11 8 n_a) fun x57_ =>
  Option.bind (q12_bits x57_) fun x59_ =>
  if x59_ < least39_ then (Option.bind (ag σ41_ 11 8 n_a) fun x63_ =>
  Option.bind (q12_bits x63_) fun x65_ =>
  Option.bind (loop2 (fun rec70_ (i73_ : Int32) (σ74_ : St) =>
  if i73_ < n_a then
  Option.bind (ag σ74_ 13 8 i73_) fun x81_ =>
  Option.bind (sa σ74_ 9 7 i73_ x81_) fun σ83_ =>
  lt (i73_ + 1) fun i85_ =>
  rec70_ i85_ σ83_
  else (some (i73_, σ74_))) fuelN (0 : Int32) σ41_) fun y67_ =>
  some (x65_, y67_.2)) else (some (least39_, σ41_))) fun y52_ =>
  lt (level40_ + (-1)) fun level87_ =>
  rec36_ y52_.1 level87_ y52_.2) else
  Option.bind (ag σ41_ 13 8 level40_) fun x89_ =>
  Option.bind (sa σ41_ 13 8 level40_ (x89_ + 1)) fun σ91_ =>
  Option.bind (loop1 (fun rec96_ (σ99_ : St) =>
  Option.bind (Option.bind (ag σ99_ 13 8 level40_) fun x106_ =>
  Option.bind (ag σ99_ 1 752 3) fun x108_ =>
  if x106_ < x108_ then (Option.bind (ag σ99_ 13 8 level40_) fun x111_ =>
  Option.bind (q12_mayGive σ99_ level40_ x111_) fun x113_ =>
  if x113_ = true then (some false) else (some true)) else (some false)) fun t104_ =>
  if t104_ = true then
  Option.bind (ag σ99_ 13 8 level40_) fun x117_ =>
  Option.bind (sa σ99_ 13 8 level40_ (x117_ + 1)) fun σ119_ =>
  rec96_ σ119_
  else (some σ99_)) fuelN σ91_) fun y93_ =>
  Option.bind (Option.bind (ag y93_ 13 8 level40_) fun x125_ =>
  Option.bind (ag y93_ 1 752 3) fun x127_ =>
  if x127_ ≤ x125_ then (Option.bind (ag y93_ 13 8 level40_) fun x130_ =>
  if ¬ x130_ = (-1) then (some true) else (some false)) else (some false)) fun t123_ =>
  if t123_ = true then (lt (level40_ + (-1)) fun level134_ =>
  rec36_ least39_ level134_ y93_) else
  Option.bind (ag y93_ 13 8 level40_) fun x136_ =>
  Option.bind (q12_turns y93_ level40_ x136_) fun x138_ =>
  lt (level40_ + 1) fun level140_ =>
  Option.bind (if level140_ < 8 then (Option.bind (sa x138_ 13 8 level140_ (-2)) fun σ149_ =>
  some (σ149_)) else (some (x138_))) fun y142_ =>
  rec36_ least39_ level140_ y142_
  else (some (least39_, level40_, σ41_))) fuelN (2000000000 : Int32) (0 : Int32) σ31_) fun y33_ =>
  some (y33_.1, y33_.2.2)
abbrev rm12_fewestBy : Room := { frames := 2, cells := 0, slots := 0, locals := 48 }
theorem c12_fewestBy {l : Launch} {kd : List KD} {w : Wp} {σ : St} {n_a : Int32} (hkd : kd = kdM) (hi : zI kd w) {r : (Int32 × St)} (hf : q12_fewestBy σ n_a = some r) : zM l kd w yX12_fewestBy cX12_fewestBy 5 (some .int) rm12_fewestBy [.ref (w.2.2.1 0), .int n_a] σ (some (.int r.1), r.2) := sorry
/-! LastLoafModel.rota -/
theorem w_10_63 : Cond.code ({ cls := "LastLoafModel", name := "fewestBy", desc := "(I)I" } : MethodName) prog_14_method_100_code (5 : Nat) (Option.some ClassFile.FieldType.int) ∈ TB := sorry
theorem w_10_60 : Cond.methodLink "LastLoafModel" (401 : Nat) ({ cls := "LastLoafModel", name := "fewestBy", desc := "(I)I" } : MethodName) ∈ TB := sorry
theorem w_10_62 : Cond.instanceMethod ({ cls := "LastLoafModel", name := "fewestBy", desc := "(I)I" } : MethodName) ∈ TB := sorry
theorem ws_LastLoafModel_fewestBy_I_I : Cond.selects "LastLoafModel" (⟨"LastLoafModel", "fewestBy", "(I)I"⟩ : MethodName) (⟨"LastLoafModel", "fewestBy", "(I)I"⟩ : MethodName) ∈ TB := sorry
theorem cr12_401 {Θ : Tz} {cc : ByteArray} {nL kc ks : Nat} {ret : Option FieldType} {rm : Room} {Q : State → Prop} {σ : St} {pc : Nat} {lv : List (Nat × Value)} {st : List Value} (C : Zc Θ cc nL RX12 ret rm) (hkd : Θ.2.2.2.2.1 = kdM) {n_a : Int32} {r : Int32 × St} (hx : q12_fewestBy σ n_a = some r) (hrm : rm12_fewestBy.frames + 1 ≤ rm.frames ∧ 8 + (5 + 11) + rm12_fewestBy.locals ≤ rm.locals) (hcat : (st.map fun v => v.category).sum ≤ 8) (hk : kc ≤ rm.cells ∧ ks ≤ rm.slots) (hd : decode cc pc = .ok (.invokevirtual 401, 3)) (kk : Z Θ nL kc ks Q r.2 (pc + 3) lv (.int r.1 :: st)) : Z Θ nL kc ks Q σ pc lv (.int n_a :: .ref (zA Θ 0) :: st) := sorry
def q12_rota (σ : St) (n_a : Int32) (k_a : Int32) : Option (Int32 × St) :=
  lt (up σ 0 0 (if ¬ (q12_isIn n_a 0 5 = true) then 1 else 0)) fun σ6_ =>
  if 0 < (σ6_ 0 0) then (some (0, σ6_)) else
  Option.bind (q12_those σ6_ 3) fun x12_ =>
  Option.bind (q12_those σ6_ 4) fun x14_ =>
  lt (up σ6_ 0 21 (x12_ &&& (x14_ ^^^ (-1)))) fun σ16_ =>
  Option.bind (q12_fewestBy σ16_ n_a) fun x18_ =>
  if k_a = (-1) then (some (x18_.1, x18_.2)) else
  Option.bind (if q12_isIn k_a 0 (n_a - 1) = true then (Option.bind (ag x18_.2 9 7 k_a) fun x30_ =>
  some x30_) else (some (-1 : Int32))) fun x24_ =>
  some (x24_, x18_.2)
abbrev rm12_rota : Room := { frames := 3, cells := 0, slots := 0, locals := 72 }
theorem c12_rota {l : Launch} {kd : List KD} {w : Wp} {σ : St} {n_a : Int32} {k_a : Int32} (hkd : kd = kdM) (hi : zI kd w) {r : (Int32 × St)} (hf : q12_rota σ n_a k_a = some r) : zM l kd w yX12_rota cX12_rota 4 (some .int) rm12_rota [.ref (w.2.2.1 0), .int n_a, .int k_a] σ (some (.int r.1), r.2) := sorry
/-! LastLoafModel.lasts -/
def q12_lasts (σ : St) : Option (Int32 × St) :=
  lt (up σ 0 0 0) fun σ1_ =>
  Option.bind (q12_putsAside σ1_) fun x3_ =>
  Option.bind (loop3 (fun rec8_ (found11_ : Int32) (n12_ : Int32) (σ13_ : St) =>
  if (n12_ ≤ 60) ∧ (found11_ = (-1)) then
  Option.bind (Option.bind (ag σ13_ 1 752 5) fun x26_ =>
  if x26_ = 0 then (some (n12_)) else (some (found11_))) fun y21_ =>
  Option.bind (q12_passes σ13_ false) fun x30_ =>
  lt (n12_ + 1) fun n32_ =>
  rec8_ y21_ n32_ x30_.2
  else (some (found11_, n12_, σ13_))) fuelN (-1 : Int32) (0 : Int32) x3_) fun y5_ =>
  Option.bind (q12_comesBack y5_.2.2) fun x34_ =>
  some (y5_.1, x34_)
abbrev rm12_lasts : Room := { frames := 79, cells := 0, slots := 0, locals := 4239 }
theorem c12_lasts {l : Launch} {kd : List KD} {w : Wp} {σ : St} (hkd : kd = kdM) (hi : zI kd w) {r : (Int32 × St)} (hf : q12_lasts σ = some r) : zM l kd w yX12_lasts cX12_lasts 4 (some .int) rm12_lasts [.ref (w.2.2.1 0)] σ (some (.int r.1), r.2) := sorry
/-! LastLoafModel.mill -/
def q12_mill (σ : St) (n_a : Int32) : Option (Int32 × St) :=
  lt (up σ 0 0 (if ¬ (q12_isIn n_a 1 60 = true) then 1 else 0)) fun σ6_ =>
  if 0 < (σ6_ 0 0) then (some (0, σ6_)) else
  Option.bind (q12_putsAside σ6_) fun x12_ =>
  Option.bind (loop3 (fun rec17_ (found20_ : Int32) (g21_ : Int32) (σ22_ : St) =>
  if (g21_ ≤ 99) ∧ (found20_ = (-1)) then
  Option.bind (loop2 (fun rec33_ (q36_ : Int32) (σ37_ : St) =>
  if q36_ < 4 then
  Option.bind (sa σ37_ 1 752 (10 + q36_) g21_) fun σ44_ =>
  lt (q36_ + 1) fun q46_ =>
  rec33_ q46_ σ44_
  else (some (q36_, σ37_))) fuelN (0 : Int32) σ22_) fun y30_ =>
  Option.bind (loop3 (fun rec51_ (more54_ : Int32) (k55_ : Int32) (σ56_ : St) =>
  if (k55_ < n_a) ∧ (more54_ = 0) then
  Option.bind (q12_passes σ56_ false) fun x64_ =>
  lt (more54_ + x64_.1) fun more66_ =>
  lt (k55_ + 1) fun k68_ =>
  rec51_ more66_ k68_ x64_.2
  else (some (more54_, k55_, σ56_))) fuelN (0 : Int32) (0 : Int32) y30_.2) fun y48_ =>
  lt (if y48_.1 = 0 then g21_ else found20_) fun y70_ =>
  Option.bind (q12_comesBack y48_.2.2) fun x77_ =>
  lt (g21_ + 1) fun g79_ =>
  rec17_ y70_ g79_ x77_
  else (some (found20_, g21_, σ22_))) fuelN (-1 : Int32) (0 : Int32) x12_) fun y14_ =>
  some (y14_.1, y14_.2.2)
abbrev rm12_mill : Room := { frames := 79, cells := 0, slots := 0, locals := 4239 }
theorem c12_mill {l : Launch} {kd : List KD} {w : Wp} {σ : St} {n_a : Int32} (hkd : kd = kdM) (hi : zI kd w) {r : (Int32 × St)} (hf : q12_mill σ n_a = some r) : zM l kd w yX12_mill cX12_mill 6 (some .int) rm12_mill [.ref (w.2.2.1 0), .int n_a] σ (some (.int r.1), r.2) := sorry
/-! LastLoafModel.starves -/
def q12_starves (σ : St) (who_a : Bool) : Option (Int32 × St) :=
  lt (up σ 0 0 0) fun σ1_ =>
  Option.bind (q12_those σ1_ 4) fun x3_ =>
  Option.bind (q12_putsAside σ1_) fun x5_ =>
  Option.bind (loop3 (fun rec10_ (found13_ : Int32) (n14_ : Int32) (σ15_ : St) =>
  if (n14_ ≤ 60) ∧ (found13_ = (-1)) then
  Option.bind (q12_passes σ15_ false) fun x23_ =>
  Option.bind (if 0 < x23_.1 then (Option.bind (if who_a = true then (Option.bind (q12_those x23_.2 4) fun x38_ =>
  Option.bind (q12_lowest (x38_ &&& (x3_ ^^^ (-1)))) fun x40_ =>
  some x40_) else (some n14_)) fun x32_ =>
  some (x32_)) else (some (found13_))) fun y25_ =>
  lt (n14_ + 1) fun n43_ =>
  rec10_ y25_ n43_ x23_.2
  else (some (found13_, n14_, σ15_))) fuelN (-1 : Int32) (1 : Int32) x5_) fun y7_ =>
  Option.bind (q12_comesBack y7_.2.2) fun x45_ =>
  some (y7_.1, x45_)
abbrev rm12_starves : Room := { frames := 79, cells := 0, slots := 0, locals := 4239 }
theorem c12_starves {l : Launch} {kd : List KD} {w : Wp} {σ : St} {who_a : Bool} (hkd : kd = kdM) (hi : zI kd w) {r : (Int32 × St)} (hf : q12_starves σ who_a = some r) : zM l kd w yX12_starves cX12_starves 6 (some .int) rm12_starves [.ref (w.2.2.1 0), .int (b2i who_a)] σ (some (.int r.1), r.2) := sorry
/-! LastLoafModel.mayVote -/
def q12_mayVote (σ : St) (p_a : Int32) (o_a : Int32) : Option Bool :=
  Option.bind (Option.bind (if q12_isOf (σ 0 21) o_a = true then (if p_a = o_a then (some true) else (Option.bind (q12_liking σ p_a o_a) fun x10_ =>
  if 4 ≤ x10_ then (some true) else (some false))) else (some false)) fun t6_ =>
  if t6_ = true then (some true) else (some false)) fun x1_ =>
  some x1_
abbrev rm12_mayVote : Room := { frames := 1, cells := 0, slots := 0, locals := 22 }
theorem c12_mayVote {l : Launch} {kd : List KD} {w : Wp} {σ : St} {p_a : Int32} {o_a : Int32} (hkd : kd = kdM) (hi : zI kd w) {r : Bool} (hf : q12_mayVote σ p_a o_a = some r) : zM l kd w yX12_mayVote cX12_mayVote 3 (some .boolean) rm12_mayVote [.ref (w.2.2.1 0), .int p_a, .int o_a] σ (some (.int (b2i r)), σ) := sorry
/-! LastLoafModel.adds -/
theorem w_8_59 : Cond.fieldLink "LastLoafModel" (407 : Nat) "LastLoafModel" "ways" "I" ∈ TB := sorry
theorem fg12_407 {Θ : Tz} {cc : ByteArray} {nL kc ks : Nat} {ret : Option FieldType} {rm : Room} {Q : State → Prop} {σ : St} {pc : Nat} {lv : List (Nat × Value)} {st : List Value} (C : Zc Θ cc nL RX12 ret rm) (hkd : Θ.2.2.2.2.1 = kdM) (hd : decode cc pc = .ok (.getfield 407, 3)) (kk : Z Θ nL kc ks Q σ (pc + 3) lv (.int (σ 0 32) :: st)) : Z Θ nL kc ks Q σ pc lv (.ref (zA Θ 0) :: st) := sorry
theorem fp12_407 {Θ : Tz} {cc : ByteArray} {nL kc ks : Nat} {ret : Option FieldType} {rm : Room} {Q : State → Prop} {σ : St} {pc : Nat} {lv : List (Nat × Value)} {st : List Value} (C : Zc Θ cc nL RX12 ret rm) (hkd : Θ.2.2.2.2.1 = kdM) {x : Int32} {σ1 : St} (he : σ1 = up σ 0 32 x) (hd : decode cc pc = .ok (.putfield 407, 3)) (kk : Z Θ nL kc ks Q σ1 (pc + 3) lv st) : Z Θ nL kc ks Q σ pc lv (.int x :: .ref (zA Θ 0) :: st) := sorry
theorem w_8_55 : Cond.fieldLink "LastLoafModel" (53 : Nat) "LastLoafModel" "voted" "[I" ∈ TB := sorry
theorem fg12_53 {Θ : Tz} {cc : ByteArray} {nL kc ks : Nat} {ret : Option FieldType} {rm : Room} {Q : State → Prop} {σ : St} {pc : Nat} {lv : List (Nat × Value)} {st : List Value} (C : Zc Θ cc nL RX12 ret rm) (hkd : Θ.2.2.2.2.1 = kdM) (hd : decode cc pc = .ok (.getfield 53, 3)) (kk : Z Θ nL kc ks Q σ (pc + 3) lv (.ref (zA Θ 14) :: st)) : Z Θ nL kc ks Q σ pc lv (.ref (zA Θ 0) :: st) := sorry
def q12_adds (σ : St) : Option St :=
  lt (up σ 0 32 ((σ 0 32) + 1)) fun σ1_ =>
  Option.bind (loop2 (fun rec6_ (p9_ : Int32) (σ10_ : St) =>
  Option.bind (ag σ10_ 1 752 3) fun x15_ =>
  if p9_ < x15_ then
  Option.bind (if q12_isOf (σ10_ 0 20) p9_ = true then (Option.bind (ag σ10_ 8 7 p9_) fun x26_ =>
  Option.bind (ag σ10_ 14 49 ((7 * p9_) + x26_)) fun x28_ =>
  Option.bind (sa σ10_ 14 49 ((7 * p9_) + x26_) (x28_ + 1)) fun σ30_ =>
  some (σ30_)) else (some (σ10_))) fun y19_ =>
  lt (p9_ + 1) fun p32_ =>
  rec6_ p32_ y19_
  else (some (p9_, σ10_))) fuelN (0 : Int32) σ1_) fun y3_ =>
  some y3_.2
abbrev rm12_adds : Room := { frames := 1, cells := 0, slots := 0, locals := 21 }
theorem c12_adds {l : Launch} {kd : List KD} {w : Wp} {σ : St} (hkd : kd = kdM) (hi : zI kd w) {r : St} (hf : q12_adds σ = some r) : zM l kd w yX12_adds cX12_adds 2 none rm12_adds [.ref (w.2.2.1 0)] σ (none, r) := sorry
/-! LastLoafModel.fitsBallot -/
theorem w_8_56 : Cond.fieldLink "LastLoafModel" (56 : Nat) "LastLoafModel" "told" "[I" ∈ TB := sorry
theorem fg12_56 {Θ : Tz} {cc : ByteArray} {nL kc ks : Nat} {ret : Option FieldType} {rm : Room} {Q : State → Prop} {σ : St} {pc : Nat} {lv : List (Nat × Value)} {st : List Value} (C : Zc Θ cc nL RX12 ret rm) (hkd : Θ.2.2.2.2.1 = kdM) (hd : decode cc pc = .ok (.getfield 56, 3)) (kk : Z Θ nL kc ks Q σ (pc + 3) lv (.ref (zA Θ 15) :: st)) : Z Θ nL kc ks Q σ pc lv (.ref (zA Θ 0) :: st) := sorry
theorem w_10_106 : Cond.code ({ cls := "LastLoafModel", name := "mayVote", desc := "(II)Z" } : MethodName) prog_14_method_105_code (3 : Nat) (Option.some ClassFile.FieldType.boolean) ∈ TB := sorry
theorem w_10_103 : Cond.methodLink "LastLoafModel" (416 : Nat) ({ cls := "LastLoafModel", name := "mayVote", desc := "(II)Z" } : MethodName) ∈ TB := sorry
theorem w_10_105 : Cond.instanceMethod ({ cls := "LastLoafModel", name := "mayVote", desc := "(II)Z" } : MethodName) ∈ TB := sorry
theorem ws_LastLoafModel_mayVote_II_Z : Cond.selects "LastLoafModel" (⟨"LastLoafModel", "mayVote", "(II)Z"⟩ : MethodName) (⟨"LastLoafModel", "mayVote", "(II)Z"⟩ : MethodName) ∈ TB := sorry
theorem cr12_416 {Θ : Tz} {cc : ByteArray} {nL kc ks : Nat} {ret : Option FieldType} {rm : Room} {Q : State → Prop} {σ : St} {pc : Nat} {lv : List (Nat × Value)} {st : List Value} (C : Zc Θ cc nL RX12 ret rm) (hkd : Θ.2.2.2.2.1 = kdM) {p_a : Int32} {o_a : Int32} {r : Bool} (hx : q12_mayVote σ p_a o_a = some r) (hrm : rm12_mayVote.frames + 1 ≤ rm.frames ∧ 8 + (3 + 11) + rm12_mayVote.locals ≤ rm.locals) (hcat : (st.map fun v => v.category).sum ≤ 8) (hk : kc ≤ rm.cells ∧ ks ≤ rm.slots) (hd : decode cc pc = .ok (.invokevirtual 416, 3)) (kk : Z Θ nL kc ks Q σ (pc + 3) lv (.int (b2i r) :: st)) : Z Θ nL kc ks Q σ pc lv (.int o_a :: .int p_a :: .ref (zA Θ 0) :: st) := sorry
def q12_fitsBallot (σ : St) (code_a : Int32) (n_a : Int32) : Option (Bool × St) :=
  Option.bind (loop2 (fun rec4_ (k7_ : Int32) (σ8_ : St) =>
  if k7_ < 7 then
  Option.bind (sa σ8_ 15 7 k7_ 0) fun σ15_ =>
  lt (k7_ + 1) fun k17_ =>
  rec4_ k17_ σ15_
  else (some (k7_, σ8_))) fuelN (0 : Int32) σ) fun y1_ =>
  Option.bind (loop4 (fun rec22_ (v25_ : Int32) (fits26_ : Bool) (p27_ : Int32) (σ28_ : St) =>
  Option.bind (ag σ28_ 1 752 3) fun x33_ =>
  if (p27_ < x33_) ∧ (fits26_ = true) then
  lt (fun (v62_ : Int32) (fits63_ : Bool) (p64_ : Int32) (σ65_ : St) =>
  lt (p64_ + 1) fun p67_ =>
  rec22_ v62_ fits63_ p67_ σ65_) fun k30_ =>
  if ¬ (q12_isOf (σ28_ 0 20) p27_ = true) then (k30_ v25_ fits26_ p27_ σ28_) else
  Option.bind (ag σ28_ 1 752 3) fun x42_ =>
  Option.bind (rmd v25_ x42_) fun x44_ =>
  Option.bind (sa σ28_ 8 7 p27_ x44_) fun σ46_ =>
  Option.bind (ag σ46_ 1 752 3) fun x48_ =>
  Option.bind (dv v25_ x48_) fun x50_ =>
  Option.bind (ag σ46_ 8 7 p27_) fun x52_ =>
  Option.bind (q12_mayVote σ46_ p27_ x52_) fun x54_ =>
  Option.bind (ag σ46_ 8 7 p27_) fun x56_ =>
  Option.bind (ag σ46_ 15 7 x56_) fun x58_ =>
  Option.bind (sa σ46_ 15 7 x56_ (x58_ + 1)) fun σ60_ =>
  k30_ x50_ x54_ p27_ σ60_
  else (some (v25_, fits26_, p27_, σ28_))) fuelN code_a true (0 : Int32) y1_.2) fun y19_ =>
  Option.bind (loop2 (fun rec72_ (fits75_ : Bool) (k76_ : Int32) =>
  if (k76_ < n_a) ∧ (fits75_ = true) then
  Option.bind (Option.bind (ag y19_.2.2.2 5 400 k76_) fun x89_ =>
  Option.bind (ag y19_.2.2.2 15 7 x89_) fun x91_ =>
  Option.bind (ag y19_.2.2.2 5 400 (k76_ + 1)) fun x93_ =>
  if x91_ = x93_ then (some true) else (some false)) fun x84_ =>
  lt (k76_ + 2) fun k97_ =>
  rec72_ x84_ k97_
  else (some (fits75_, k76_))) fuelN y19_.2.1 (0 : Int32)) fun y69_ =>
  some (y69_.1, y19_.2.2.2)
abbrev rm12_fitsBallot : Room := { frames := 2, cells := 0, slots := 0, locals := 44 }
theorem c12_fitsBallot {l : Launch} {kd : List KD} {w : Wp} {σ : St} {code_a : Int32} {n_a : Int32} (hkd : kd = kdM) (hi : zI kd w) {r : (Bool × St)} (hf : q12_fitsBallot σ code_a n_a = some r) : zM l kd w yX12_fitsBallot cX12_fitsBallot 6 (some .boolean) rm12_fitsBallot [.ref (w.2.2.1 0), .int code_a, .int n_a] σ (some (.int (b2i r.1)), r.2) := sorry
/-! LastLoafModel.counts -/
theorem bp_49 : (Int8.ofInt (49)).toInt32 = 49 := sorry
theorem w_10_102 : Cond.code ({ cls := "LastLoafModel", name := "fitsBallot", desc := "(II)Z" } : MethodName) prog_14_method_108_code (6 : Nat) (Option.some ClassFile.FieldType.boolean) ∈ TB := sorry
theorem w_10_99 : Cond.methodLink "LastLoafModel" (410 : Nat) ({ cls := "LastLoafModel", name := "fitsBallot", desc := "(II)Z" } : MethodName) ∈ TB := sorry
theorem w_10_101 : Cond.instanceMethod ({ cls := "LastLoafModel", name := "fitsBallot", desc := "(II)Z" } : MethodName) ∈ TB := sorry
theorem ws_LastLoafModel_fitsBallot_II_Z : Cond.selects "LastLoafModel" (⟨"LastLoafModel", "fitsBallot", "(II)Z"⟩ : MethodName) (⟨"LastLoafModel", "fitsBallot", "(II)Z"⟩ : MethodName) ∈ TB := sorry
theorem cr12_410 {Θ : Tz} {cc : ByteArray} {nL kc ks : Nat} {ret : Option FieldType} {rm : Room} {Q : State → Prop} {σ : St} {pc : Nat} {lv : List (Nat × Value)} {st : List Value} (C : Zc Θ cc nL RX12 ret rm) (hkd : Θ.2.2.2.2.1 = kdM) {code_a : Int32} {n_a : Int32} {r : Bool × St} (hx : q12_fitsBallot σ code_a n_a = some r) (hrm : rm12_fitsBallot.frames + 1 ≤ rm.frames ∧ 8 + (6 + 11) + rm12_fitsBallot.locals ≤ rm.locals) (hcat : (st.map fun v => v.category).sum ≤ 8) (hk : kc ≤ rm.cells ∧ ks ≤ rm.slots) (hd : decode cc pc = .ok (.invokevirtual 410, 3)) (kk : Z Θ nL kc ks Q r.2 (pc + 3) lv (.int (b2i r.1) :: st)) : Z Θ nL kc ks Q σ pc lv (.int n_a :: .int code_a :: .ref (zA Θ 0) :: st) := sorry
theorem w_10_110 : Cond.code ({ cls := "LastLoafModel", name := "adds", desc := "()V" } : MethodName) prog_14_method_109_code (2 : Nat) (Option.none : Option ClassFile.FieldType) ∈ TB := sorry
theorem w_10_107 : Cond.methodLink "LastLoafModel" (413 : Nat) ({ cls := "LastLoafModel", name := "adds", desc := "()V" } : MethodName) ∈ TB := sorry
theorem w_10_109 : Cond.instanceMethod ({ cls := "LastLoafModel", name := "adds", desc := "()V" } : MethodName) ∈ TB := sorry
theorem ws_LastLoafModel_adds__V : Cond.selects "LastLoafModel" (⟨"LastLoafModel", "adds", "()V"⟩ : MethodName) (⟨"LastLoafModel", "adds", "()V"⟩ : MethodName) ∈ TB := sorry
theorem cr12_413 {Θ : Tz} {cc : ByteArray} {nL kc ks : Nat} {ret : Option FieldType} {rm : Room} {Q : State → Prop} {σ : St} {pc : Nat} {lv : List (Nat × Value)} {st : List Value} (C : Zc Θ cc nL RX12 ret rm) (hkd : Θ.2.2.2.2.1 = kdM) {r : St} (hx : q12_adds σ = some r) (hrm : rm12_adds.frames + 1 ≤ rm.frames ∧ 8 + (2 + 11) + rm12_adds.locals ≤ rm.locals) (hcat : (st.map fun v => v.category).sum ≤ 8) (hk : kc ≤ rm.cells ∧ ks ≤ rm.slots) (hd : decode cc pc = .ok (.invokevirtual 413, 3)) (kk : Z Θ nL kc ks Q r (pc + 3) lv st) : Z Θ nL kc ks Q σ pc lv (.ref (zA Θ 0) :: st) := sorry
def q12_counts (σ : St) (n_a : Int32) : Option St :=
  lt (up σ 0 32 0) fun σ1_ =>
  Option.bind (loop2 (fun rec6_ (k9_ : Int32) (σ10_ : St) =>
  if k9_ < 49 then
  Option.bind (sa σ10_ 14 49 k9_ 0) fun σ17_ =>
  lt (k9_ + 1) fun k19_ =>
  rec6_ k19_ σ17_
  else (some (k9_, σ10_))) fuelN (0 : Int32) σ1_) fun y3_ =>
  Option.bind (loop2 (fun rec24_ (all27_ : Int32) (p28_ : Int32) =>
  Option.bind (ag y3_.2 1 752 3) fun x33_ =>
  if p28_ < x33_ then
  Option.bind (if q12_isOf (y3_.2 0 20) p28_ = true then (Option.bind (ag y3_.2 1 752 3) fun x43_ =>
  some (q12_greater 1 x43_)) else (some (1 : Int32))) fun x37_ =>
  lt (all27_ * x37_) fun all46_ =>
  lt (p28_ + 1) fun p48_ =>
  rec24_ all46_ p48_
  else (some (all27_, p28_))) fuelN (1 : Int32) (0 : Int32)) fun y21_ =>
  Option.bind (loop2 (fun rec53_ (code56_ : Int32) (σ57_ : St) =>
  if code56_ < y21_.1 then
  Option.bind (Option.bind (q12_fitsBallot σ57_ code56_ n_a) fun x69_ =>
  if x69_.1 = true then (Option.bind (q12_adds x69_.2) fun x73_ =>
  some (x73_)) else (some (x69_.2))) fun y64_ =>
  lt (code56_ + 1) fun code75_ =>
  rec53_ code75_ y64_
  else (some (code56_, σ57_))) fuelN (0 : Int32) y3_.2) fun y50_ =>
  some y50_.2
abbrev rm12_counts : Room := { frames := 3, cells := 0, slots := 0, locals := 69 }
theorem c12_counts {l : Launch} {kd : List KD} {w : Wp} {σ : St} {n_a : Int32} (hkd : kd = kdM) (hi : zI kd w) {r : St} (hf : q12_counts σ n_a = some r) : zM l kd w yX12_counts cX12_counts 4 none rm12_counts [.ref (w.2.2.1 0), .int n_a] σ (none, r) := sorry
/-! LastLoafModel.heard -/
theorem w_10_98 : Cond.code ({ cls := "LastLoafModel", name := "counts", desc := "(I)V" } : MethodName) prog_14_method_107_code (4 : Nat) (Option.none : Option ClassFile.FieldType) ∈ TB := sorry
theorem w_10_95 : Cond.methodLink "LastLoafModel" (404 : Nat) ({ cls := "LastLoafModel", name := "counts", desc := "(I)V" } : MethodName) ∈ TB := sorry
theorem w_10_97 : Cond.instanceMethod ({ cls := "LastLoafModel", name := "counts", desc := "(I)V" } : MethodName) ∈ TB := sorry
theorem ws_LastLoafModel_counts_I_V : Cond.selects "LastLoafModel" (⟨"LastLoafModel", "counts", "(I)V"⟩ : MethodName) (⟨"LastLoafModel", "counts", "(I)V"⟩ : MethodName) ∈ TB := sorry
theorem cr12_404 {Θ : Tz} {cc : ByteArray} {nL kc ks : Nat} {ret : Option FieldType} {rm : Room} {Q : State → Prop} {σ : St} {pc : Nat} {lv : List (Nat × Value)} {st : List Value} (C : Zc Θ cc nL RX12 ret rm) (hkd : Θ.2.2.2.2.1 = kdM) {n_a : Int32} {r : St} (hx : q12_counts σ n_a = some r) (hrm : rm12_counts.frames + 1 ≤ rm.frames ∧ 8 + (4 + 11) + rm12_counts.locals ≤ rm.locals) (hcat : (st.map fun v => v.category).sum ≤ 8) (hk : kc ≤ rm.cells ∧ ks ≤ rm.slots) (hd : decode cc pc = .ok (.invokevirtual 404, 3)) (kk : Z Θ nL kc ks Q r (pc + 3) lv st) : Z Θ nL kc ks Q σ pc lv (.int n_a :: .ref (zA Θ 0) :: st) := sorry
def q12_heard (σ : St) : Option (Bool × St) :=
  lt (σ 0 8) fun n1_ =>
  lt (up σ 0 8 0) fun σ3_ =>
  Option.bind (q12_looks σ3_) fun x5_ =>
  lt (decide (((irm n1_ 2) = 0) ∧ (n1_ ≤ 40))) fun good13_ =>
  Option.bind (loop2 (fun rec18_ (good21_ : Bool) (k22_ : Int32) =>
  if (k22_ < n1_) ∧ (good21_ = true) then
  Option.bind (Option.bind (Option.bind (ag x5_ 5 400 k22_) fun x37_ =>
  Option.bind (ag x5_ 1 752 3) fun x39_ =>
  if x37_ < x39_ then (Option.bind (ag x5_ 5 400 k22_) fun x42_ =>
  if q12_isOf (x5_ 0 21) x42_ = true then (Option.bind (ag x5_ 5 400 (k22_ + 1)) fun x45_ =>
  if x45_ ≤ 6 then (some true) else (some false)) else (some false)) else (some false)) fun t35_ =>
  if t35_ = true then (some true) else (some false)) fun x30_ =>
  lt (k22_ + 2) fun k49_ =>
  rec18_ x30_ k49_
  else (some (good21_, k22_))) fuelN good13_ (0 : Int32)) fun y15_ =>
  Option.bind (if y15_.1 = true then (Option.bind (q12_counts x5_ n1_) fun x58_ =>
  some (x58_)) else (some (x5_))) fun y51_ =>
  some (y15_.1, y51_)
abbrev rm12_heard : Room := { frames := 77, cells := 0, slots := 0, locals := 4194 }
theorem c12_heard {l : Launch} {kd : List KD} {w : Wp} {σ : St} (hkd : kd = kdM) (hi : zI kd w) {r : (Bool × St)} (hf : q12_heard σ = some r) : zM l kd w yX12_heard cX12_heard 4 (some .boolean) rm12_heard [.ref (w.2.2.1 0)] σ (some (.int (b2i r.1)), r.2) := sorry
/-! LastLoafModel.ballots -/
theorem w_10_94 : Cond.code ({ cls := "LastLoafModel", name := "heard", desc := "()Z" } : MethodName) prog_14_method_106_code (4 : Nat) (Option.some ClassFile.FieldType.boolean) ∈ TB := sorry
theorem w_10_91 : Cond.methodLink "LastLoafModel" (419 : Nat) ({ cls := "LastLoafModel", name := "heard", desc := "()Z" } : MethodName) ∈ TB := sorry
theorem w_10_93 : Cond.instanceMethod ({ cls := "LastLoafModel", name := "heard", desc := "()Z" } : MethodName) ∈ TB := sorry
theorem ws_LastLoafModel_heard__Z : Cond.selects "LastLoafModel" (⟨"LastLoafModel", "heard", "()Z"⟩ : MethodName) (⟨"LastLoafModel", "heard", "()Z"⟩ : MethodName) ∈ TB := sorry
theorem cr12_419 {Θ : Tz} {cc : ByteArray} {nL kc ks : Nat} {ret : Option FieldType} {rm : Room} {Q : State → Prop} {σ : St} {pc : Nat} {lv : List (Nat × Value)} {st : List Value} (C : Zc Θ cc nL RX12 ret rm) (hkd : Θ.2.2.2.2.1 = kdM) {r : Bool × St} (hx : q12_heard σ = some r) (hrm : rm12_heard.frames + 1 ≤ rm.frames ∧ 8 + (4 + 11) + rm12_heard.locals ≤ rm.locals) (hcat : (st.map fun v => v.category).sum ≤ 8) (hk : kc ≤ rm.cells ∧ ks ≤ rm.slots) (hd : decode cc pc = .ok (.invokevirtual 419, 3)) (kk : Z Θ nL kc ks Q r.2 (pc + 3) lv (.int (b2i r.1) :: st)) : Z Θ nL kc ks Q σ pc lv (.ref (zA Θ 0) :: st) := sorry
def q12_ballots (σ : St) : Option (Int32 × St) :=
  Option.bind (Option.bind (q12_heard σ) fun x6_ =>
  if x6_.1 = true then (some ((0 : Int32), x6_.2)) else (some ((1 : Int32), x6_.2))) fun x1_ =>
  lt (up x1_.2 0 0 x1_.1) fun σ10_ =>
  some (if 0 < (σ10_ 0 0) then 0 else q12_lesser 9999 (σ10_ 0 32), σ10_)
abbrev rm12_ballots : Room := { frames := 78, cells := 0, slots := 0, locals := 4217 }
theorem c12_ballots {l : Launch} {kd : List KD} {w : Wp} {σ : St} (hkd : kd = kdM) (hi : zI kd w) {r : (Int32 × St)} (hf : q12_ballots σ = some r) : zM l kd w yX12_ballots cX12_ballots 1 (some .int) rm12_ballots [.ref (w.2.2.1 0)] σ (some (.int r.1), r.2) := sorry
/-! LastLoafModel.sure -/
def q12_sure (σ : St) (p_a : Int32) : Option (Int32 × St) :=
  Option.bind (q12_isOne σ p_a) fun x3_ =>
  if ¬ (x3_ = true) then (lt (up σ 0 8 0) fun σ7_ =>
  lt (up σ7_ 0 0 1) fun σ9_ =>
  some (0, σ9_)) else
  Option.bind (Option.bind (q12_heard σ) fun x16_ =>
  if x16_.1 = true then (some ((0 : Int32), x16_.2)) else (some ((2 : Int32), x16_.2))) fun x11_ =>
  lt (up x11_.2 0 0 x11_.1) fun σ20_ =>
  if ((0 < (σ20_ 0 0)) ∨ ((σ20_ 0 32) = 0)) ∨ (¬ (q12_isOf (σ20_ 0 20) p_a = true)) then (some (if 0 < (σ20_ 0 0) then 0 else (-1), σ20_)) else
  Option.bind (loop2 (fun rec36_ (found39_ : Int32) (o40_ : Int32) =>
  Option.bind (ag σ20_ 1 752 3) fun x45_ =>
  if o40_ < x45_ then
  Option.bind (Option.bind (ag σ20_ 14 49 ((7 * p_a) + o40_)) fun x54_ =>
  if x54_ = (σ20_ 0 32) then (some (o40_)) else (some (found39_))) fun y49_ =>
  lt (o40_ + 1) fun o58_ =>
  rec36_ y49_ o58_
  else (some (found39_, o40_))) fuelN (-1 : Int32) (0 : Int32)) fun y33_ =>
  some (y33_.1, σ20_)
abbrev rm12_sure : Room := { frames := 78, cells := 0, slots := 0, locals := 4217 }
theorem c12_sure {l : Launch} {kd : List KD} {w : Wp} {σ : St} {p_a : Int32} (hkd : kd = kdM) (hi : zI kd w) {r : (Int32 × St)} (hf : q12_sure σ p_a = some r) : zM l kd w yX12_sure cX12_sure 4 (some .int) rm12_sure [.ref (w.2.2.1 0), .int p_a] σ (some (.int r.1), r.2) := sorry
/-! LastLoafModel.ask -/
def q12_ask (σ : St) : Option (Int32 × St) :=
  Option.bind (Option.bind (q12_heard σ) fun x6_ =>
  if x6_.1 = true then (some ((0 : Int32), x6_.2)) else (some ((1 : Int32), x6_.2))) fun x1_ =>
  lt (up x1_.2 0 0 x1_.1) fun σ10_ =>
  if 0 < (σ10_ 0 0) then (some (0, σ10_)) else
  Option.bind (loop3 (fun rec19_ (found22_ : Int32) (least23_ : Int32) (p24_ : Int32) =>
  Option.bind (ag σ10_ 1 752 3) fun x29_ =>
  if (p24_ < x29_) ∧ (1 < (σ10_ 0 32)) then
  lt (fun (found67_ : Int32) (least68_ : Int32) (p69_ : Int32) =>
  lt (p69_ + 1) fun p71_ =>
  rec19_ found67_ least68_ p71_) fun k26_ =>
  lt (if q12_isOf (σ10_ 0 20) p24_ = true then 0 else 2000000000) fun most39_ =>
  Option.bind (loop2 (fun rec44_ (most47_ : Int32) (o48_ : Int32) =>
  Option.bind (ag σ10_ 1 752 3) fun x53_ =>
  if o48_ < x53_ then
  Option.bind (ag σ10_ 14 49 ((7 * p24_) + o48_)) fun x57_ =>
  lt (q12_greater most47_ x57_) fun most59_ =>
  lt (o48_ + 1) fun o61_ =>
  rec44_ most59_ o61_
  else (some (most47_, o48_))) fuelN most39_ (0 : Int32)) fun y41_ =>
  if least23_ ≤ y41_.1 then (k26_ found22_ least23_ p24_) else
  k26_ p24_ y41_.1 p24_
  else (some (found22_, least23_, p24_))) fuelN (-1 : Int32) (2000000000 : Int32) (0 : Int32)) fun y16_ =>
  some (y16_.1, σ10_)
abbrev rm12_ask : Room := { frames := 78, cells := 0, slots := 0, locals := 4217 }
theorem c12_ask {l : Launch} {kd : List KD} {w : Wp} {σ : St} (hkd : kd = kdM) (hi : zI kd w) {r : (Int32 × St)} (hf : q12_ask σ = some r) : zM l kd w yX12_ask cX12_ask 6 (some .int) rm12_ask [.ref (w.2.2.1 0)] σ (some (.int r.1), r.2) := sorry
/-! LastLoafModel.countsOf -/
def q12_countsOf (σ : St) (set_a : Int32) : Option Int32 :=
  Option.bind (q12_those σ 4) fun x1_ =>
  Option.bind (loop2 (fun rec6_ (n9_ : Int32) (p10_ : Int32) =>
  Option.bind (ag σ 1 752 3) fun x15_ =>
  if p10_ < x15_ then
  Option.bind (if q12_isOf (set_a &&& (x1_ ^^^ (-1))) p10_ = true then (Option.bind (Option.bind (q12_of σ p10_ 5) fun x30_ =>
  if 0 < x30_ then (some (2 : Int32)) else (some (1 : Int32))) fun x25_ =>
  some x25_) else (some (0 : Int32))) fun x19_ =>
  lt (n9_ + x19_) fun n35_ =>
  lt (p10_ + 1) fun p37_ =>
  rec6_ n35_ p37_
  else (some (n9_, p10_))) fuelN (0 : Int32) (0 : Int32)) fun y3_ =>
  some y3_.1
abbrev rm12_countsOf : Room := { frames := 2, cells := 0, slots := 0, locals := 45 }
theorem c12_countsOf {l : Launch} {kd : List KD} {w : Wp} {σ : St} {set_a : Int32} (hkd : kd = kdM) (hi : zI kd w) {r : Int32} (hf : q12_countsOf σ set_a = some r) : zM l kd w yX12_countsOf cX12_countsOf 5 (some .int) rm12_countsOf [.ref (w.2.2.1 0), .int set_a] σ (some (.int r), σ) := sorry
/-! LastLoafModel.doesCarry -/
theorem w_10_130 : Cond.code ({ cls := "LastLoafModel", name := "all", desc := "()I" } : MethodName) prog_14_method_12_code (1 : Nat) (Option.some ClassFile.FieldType.int) ∈ TB := sorry
theorem w_10_127 : Cond.methodLink "LastLoafModel" (422 : Nat) ({ cls := "LastLoafModel", name := "all", desc := "()I" } : MethodName) ∈ TB := sorry
theorem w_10_129 : Cond.instanceMethod ({ cls := "LastLoafModel", name := "all", desc := "()I" } : MethodName) ∈ TB := sorry
theorem ws_LastLoafModel_all__I : Cond.selects "LastLoafModel" (⟨"LastLoafModel", "all", "()I"⟩ : MethodName) (⟨"LastLoafModel", "all", "()I"⟩ : MethodName) ∈ TB := sorry
theorem cr12_422 {Θ : Tz} {cc : ByteArray} {nL kc ks : Nat} {ret : Option FieldType} {rm : Room} {Q : State → Prop} {σ : St} {pc : Nat} {lv : List (Nat × Value)} {st : List Value} (C : Zc Θ cc nL RX12 ret rm) (hkd : Θ.2.2.2.2.1 = kdM) {r : Int32} (hx : q12_all σ = some r) (hrm : rm12_all.frames + 1 ≤ rm.frames ∧ 8 + (1 + 11) + rm12_all.locals ≤ rm.locals) (hcat : (st.map fun v => v.category).sum ≤ 8) (hk : kc ≤ rm.cells ∧ ks ≤ rm.slots) (hd : decode cc pc = .ok (.invokevirtual 422, 3)) (kk : Z Θ nL kc ks Q σ (pc + 3) lv (.int r :: st)) : Z Θ nL kc ks Q σ pc lv (.ref (zA Θ 0) :: st) := sorry
theorem w_10_134 : Cond.code ({ cls := "LastLoafModel", name := "countsOf", desc := "(I)I" } : MethodName) prog_14_method_113_code (5 : Nat) (Option.some ClassFile.FieldType.int) ∈ TB := sorry
theorem w_10_131 : Cond.methodLink "LastLoafModel" (425 : Nat) ({ cls := "LastLoafModel", name := "countsOf", desc := "(I)I" } : MethodName) ∈ TB := sorry
theorem w_10_133 : Cond.instanceMethod ({ cls := "LastLoafModel", name := "countsOf", desc := "(I)I" } : MethodName) ∈ TB := sorry
theorem ws_LastLoafModel_countsOf_I_I : Cond.selects "LastLoafModel" (⟨"LastLoafModel", "countsOf", "(I)I"⟩ : MethodName) (⟨"LastLoafModel", "countsOf", "(I)I"⟩ : MethodName) ∈ TB := sorry
theorem cr12_425 {Θ : Tz} {cc : ByteArray} {nL kc ks : Nat} {ret : Option FieldType} {rm : Room} {Q : State → Prop} {σ : St} {pc : Nat} {lv : List (Nat × Value)} {st : List Value} (C : Zc Θ cc nL RX12 ret rm) (hkd : Θ.2.2.2.2.1 = kdM) {set_a : Int32} {r : Int32} (hx : q12_countsOf σ set_a = some r) (hrm : rm12_countsOf.frames + 1 ≤ rm.frames ∧ 8 + (5 + 11) + rm12_countsOf.locals ≤ rm.locals) (hcat : (st.map fun v => v.category).sum ≤ 8) (hk : kc ≤ rm.cells ∧ ks ≤ rm.slots) (hd : decode cc pc = .ok (.invokevirtual 425, 3)) (kk : Z Θ nL kc ks Q σ (pc + 3) lv (.int r :: st)) : Z Θ nL kc ks Q σ pc lv (.int set_a :: .ref (zA Θ 0) :: st) := sorry
def q12_doesCarry (σ : St) (set_a : Int32) : Option Bool :=
  Option.bind (Option.bind (q12_all σ) fun x6_ =>
  Option.bind (q12_countsOf σ (set_a &&& x6_)) fun x8_ =>
  Option.bind (q12_all σ) fun x10_ =>
  Option.bind (q12_countsOf σ x10_) fun x12_ =>
  if x12_ < (2 * x8_) then (some true) else (some false)) fun x1_ =>
  some x1_
abbrev rm12_doesCarry : Room := { frames := 3, cells := 0, slots := 0, locals := 69 }
theorem c12_doesCarry {l : Launch} {kd : List KD} {w : Wp} {σ : St} {set_a : Int32} (hkd : kd = kdM) (hi : zI kd w) {r : Bool} (hf : q12_doesCarry σ set_a = some r) : zM l kd w yX12_doesCarry cX12_doesCarry 2 (some .boolean) rm12_doesCarry [.ref (w.2.2.1 0), .int set_a] σ (some (.int (b2i r)), σ) := sorry
/-! LastLoafModel.carries -/
theorem w_10_126 : Cond.code ({ cls := "LastLoafModel", name := "doesCarry", desc := "(I)Z" } : MethodName) prog_14_method_114_code (2 : Nat) (Option.some ClassFile.FieldType.boolean) ∈ TB := sorry
theorem w_10_123 : Cond.methodLink "LastLoafModel" (428 : Nat) ({ cls := "LastLoafModel", name := "doesCarry", desc := "(I)Z" } : MethodName) ∈ TB := sorry
theorem w_10_125 : Cond.instanceMethod ({ cls := "LastLoafModel", name := "doesCarry", desc := "(I)Z" } : MethodName) ∈ TB := sorry
theorem ws_LastLoafModel_doesCarry_I_Z : Cond.selects "LastLoafModel" (⟨"LastLoafModel", "doesCarry", "(I)Z"⟩ : MethodName) (⟨"LastLoafModel", "doesCarry", "(I)Z"⟩ : MethodName) ∈ TB := sorry
theorem cr12_428 {Θ : Tz} {cc : ByteArray} {nL kc ks : Nat} {ret : Option FieldType} {rm : Room} {Q : State → Prop} {σ : St} {pc : Nat} {lv : List (Nat × Value)} {st : List Value} (C : Zc Θ cc nL RX12 ret rm) (hkd : Θ.2.2.2.2.1 = kdM) {set_a : Int32} {r : Bool} (hx : q12_doesCarry σ set_a = some r) (hrm : rm12_doesCarry.frames + 1 ≤ rm.frames ∧ 8 + (2 + 11) + rm12_doesCarry.locals ≤ rm.locals) (hcat : (st.map fun v => v.category).sum ≤ 8) (hk : kc ≤ rm.cells ∧ ks ≤ rm.slots) (hd : decode cc pc = .ok (.invokevirtual 428, 3)) (kk : Z Θ nL kc ks Q σ (pc + 3) lv (.int (b2i r) :: st)) : Z Θ nL kc ks Q σ pc lv (.int set_a :: .ref (zA Θ 0) :: st) := sorry
def q12_carries (σ : St) (set_a : Int32) : Option (Bool × St) :=
  lt (up σ 0 0 0) fun σ1_ =>
  Option.bind (q12_doesCarry σ1_ set_a) fun x3_ =>
  some (x3_, σ1_)
abbrev rm12_carries : Room := { frames := 4, cells := 0, slots := 0, locals := 90 }
theorem c12_carries {l : Launch} {kd : List KD} {w : Wp} {σ : St} {set_a : Int32} (hkd : kd = kdM) (hi : zI kd w) {r : (Bool × St)} (hf : q12_carries σ set_a = some r) : zM l kd w yX12_carries cX12_carries 2 (some .boolean) rm12_carries [.ref (w.2.2.1 0), .int set_a] σ (some (.int (b2i r.1)), r.2) := sorry
/-! LastLoafModel.swingsOf -/
def q12_swingsOf (σ : St) (p_a : Int32) : Option Int32 :=
  Option.bind (q12_those σ 4) fun x1_ =>
  Option.bind (loop2 (fun rec6_ (n9_ : Int32) (set10_ : Int32) =>
  Option.bind (q12_all σ) fun x15_ =>
  if set10_ ≤ x15_ then
  Option.bind (Option.bind (if (set10_ &&& x1_) = 0 then (if q12_isOf set10_ p_a = true then (Option.bind (q12_doesCarry σ set10_) fun x28_ =>
  if x28_ = true then (Option.bind (q12_doesCarry σ (set10_ &&& ((shl 1 p_a) ^^^ (-1)))) fun x31_ =>
  if x31_ = true then (some false) else (some true)) else (some false)) else (some false)) else (some false)) fun t24_ =>
  if t24_ = true then (some (1 : Int32)) else (some (0 : Int32))) fun x19_ =>
  lt (n9_ + x19_) fun n35_ =>
  lt (set10_ + 1) fun set37_ =>
  rec6_ n35_ set37_
  else (some (n9_, set10_))) fuelN (0 : Int32) (0 : Int32)) fun y3_ =>
  some y3_.1
abbrev rm12_swingsOf : Room := { frames := 4, cells := 0, slots := 0, locals := 90 }
theorem c12_swingsOf {l : Launch} {kd : List KD} {w : Wp} {σ : St} {p_a : Int32} (hkd : kd = kdM) (hi : zI kd w) {r : Int32} (hf : q12_swingsOf σ p_a = some r) : zM l kd w yX12_swingsOf cX12_swingsOf 5 (some .int) rm12_swingsOf [.ref (w.2.2.1 0), .int p_a] σ (some (.int r), σ) := sorry
/-! LastLoafModel.swings -/
theorem w_10_142 : Cond.code ({ cls := "LastLoafModel", name := "swingsOf", desc := "(I)I" } : MethodName) prog_14_method_116_code (5 : Nat) (Option.some ClassFile.FieldType.int) ∈ TB := sorry
theorem w_10_139 : Cond.methodLink "LastLoafModel" (431 : Nat) ({ cls := "LastLoafModel", name := "swingsOf", desc := "(I)I" } : MethodName) ∈ TB := sorry
theorem w_10_141 : Cond.instanceMethod ({ cls := "LastLoafModel", name := "swingsOf", desc := "(I)I" } : MethodName) ∈ TB := sorry
theorem ws_LastLoafModel_swingsOf_I_I : Cond.selects "LastLoafModel" (⟨"LastLoafModel", "swingsOf", "(I)I"⟩ : MethodName) (⟨"LastLoafModel", "swingsOf", "(I)I"⟩ : MethodName) ∈ TB := sorry
theorem cr12_431 {Θ : Tz} {cc : ByteArray} {nL kc ks : Nat} {ret : Option FieldType} {rm : Room} {Q : State → Prop} {σ : St} {pc : Nat} {lv : List (Nat × Value)} {st : List Value} (C : Zc Θ cc nL RX12 ret rm) (hkd : Θ.2.2.2.2.1 = kdM) {p_a : Int32} {r : Int32} (hx : q12_swingsOf σ p_a = some r) (hrm : rm12_swingsOf.frames + 1 ≤ rm.frames ∧ 8 + (5 + 11) + rm12_swingsOf.locals ≤ rm.locals) (hcat : (st.map fun v => v.category).sum ≤ 8) (hk : kc ≤ rm.cells ∧ ks ≤ rm.slots) (hd : decode cc pc = .ok (.invokevirtual 431, 3)) (kk : Z Θ nL kc ks Q σ (pc + 3) lv (.int r :: st)) : Z Θ nL kc ks Q σ pc lv (.int p_a :: .ref (zA Θ 0) :: st) := sorry
def q12_swings (σ : St) (p_a : Int32) : Option (Int32 × St) :=
  Option.bind (Option.bind (q12_isOne σ p_a) fun x6_ =>
  if ¬ (x6_ = true) then (some (1 : Int32)) else (some (0 : Int32))) fun x1_ =>
  lt (up σ 0 0 x1_) fun σ10_ =>
  Option.bind (if 0 < (σ10_ 0 0) then (some (0 : Int32)) else (Option.bind (q12_swingsOf σ10_ p_a) fun x18_ =>
  some x18_)) fun x12_ =>
  some (x12_, σ10_)
abbrev rm12_swings : Room := { frames := 5, cells := 0, slots := 0, locals := 114 }
theorem c12_swings {l : Launch} {kd : List KD} {w : Wp} {σ : St} {p_a : Int32} (hkd : kd = kdM) (hi : zI kd w) {r : (Int32 × St)} (hf : q12_swings σ p_a = some r) : zM l kd w yX12_swings cX12_swings 2 (some .int) rm12_swings [.ref (w.2.2.1 0), .int p_a] σ (some (.int r.1), r.2) := sorry
/-! LastLoafModel.smallest -/
def q12_smallest (σ : St) : Option (Int32 × St) :=
  lt (up σ 0 0 0) fun σ1_ =>
  Option.bind (q12_those σ1_ 4) fun x3_ =>
  Option.bind (loop2 (fun rec8_ (found11_ : Int32) (set12_ : Int32) =>
  Option.bind (q12_all σ1_) fun x17_ =>
  if set12_ ≤ x17_ then
  Option.bind (Option.bind (if (set12_ &&& x3_) = 0 then (Option.bind (q12_doesCarry σ1_ set12_) fun x29_ =>
  if x29_ = true then (if found11_ = (-1) then (some true) else (Option.bind (q12_bits set12_) fun x33_ =>
  Option.bind (q12_bits found11_) fun x35_ =>
  if x33_ < x35_ then (some true) else (some false))) else (some false)) else (some false)) fun t26_ =>
  if t26_ = true then (some (set12_)) else (some (found11_))) fun y21_ =>
  lt (set12_ + 1) fun set39_ =>
  rec8_ y21_ set39_
  else (some (found11_, set12_))) fuelN (-1 : Int32) (0 : Int32)) fun y5_ =>
  some (y5_.1, σ1_)
abbrev rm12_smallest : Room := { frames := 4, cells := 0, slots := 0, locals := 90 }
theorem c12_smallest {l : Launch} {kd : List KD} {w : Wp} {σ : St} (hkd : kd = kdM) (hi : zI kd w) {r : (Int32 × St)} (hf : q12_smallest σ = some r) : zM l kd w yX12_smallest cX12_smallest 4 (some .int) rm12_smallest [.ref (w.2.2.1 0)] σ (some (.int r.1), r.2) := sorry
/-! LastLoafModel.bloc -/
def q12_bloc (σ : St) (party_a : Int32) : Option (Int32 × St) :=
  lt (up σ 0 0 (if ¬ (q12_isIn party_a 0 2 = true) then 1 else 0)) fun σ6_ =>
  if 0 < (σ6_ 0 0) then (some (0, σ6_)) else
  Option.bind (loop2 (fun rec15_ (set18_ : Int32) (p19_ : Int32) =>
  Option.bind (ag σ6_ 1 752 3) fun x24_ =>
  if p19_ < x24_ then
  Option.bind (Option.bind (q12_of σ6_ p19_ 1) fun x33_ =>
  if x33_ = party_a then (some (shl 1 p19_)) else (some (0 : Int32))) fun x28_ =>
  lt (set18_ ||| x28_) fun set37_ =>
  lt (p19_ + 1) fun p39_ =>
  rec15_ set37_ p39_
  else (some (set18_, p19_))) fuelN (0 : Int32) (0 : Int32)) fun y12_ =>
  Option.bind (q12_countsOf σ6_ y12_.1) fun x41_ =>
  some (x41_, σ6_)
abbrev rm12_bloc : Room := { frames := 3, cells := 0, slots := 0, locals := 69 }
theorem c12_bloc {l : Launch} {kd : List KD} {w : Wp} {σ : St} {party_a : Int32} (hkd : kd = kdM) (hi : zI kd w) {r : (Int32 × St)} (hf : q12_bloc σ party_a = some r) : zM l kd w yX12_bloc cX12_bloc 4 (some .int) rm12_bloc [.ref (w.2.2.1 0), .int party_a] σ (some (.int r.1), r.2) := sorry
/-! LastLoafModel.kingmaker -/
def q12_kingmaker (σ : St) : Option (Int32 × St) :=
  lt (up σ 0 0 0) fun σ1_ =>
  Option.bind (loop3 (fun rec6_ (found9_ : Int32) (most10_ : Int32) (p11_ : Int32) =>
  Option.bind (ag σ1_ 1 752 3) fun x16_ =>
  if p11_ < x16_ then
  lt (fun (found26_ : Int32) (most27_ : Int32) (p28_ : Int32) =>
  lt (p28_ + 1) fun p30_ =>
  rec6_ found26_ most27_ p30_) fun k13_ =>
  Option.bind (q12_swingsOf σ1_ p11_) fun x20_ =>
  if x20_ ≤ most10_ then (k13_ found9_ most10_ p11_) else
  k13_ p11_ x20_ p11_
  else (some (found9_, most10_, p11_))) fuelN (-1 : Int32) (0 : Int32) (0 : Int32)) fun y3_ =>
  some (y3_.1, σ1_)
abbrev rm12_kingmaker : Room := { frames := 5, cells := 0, slots := 0, locals := 114 }
theorem c12_kingmaker {l : Launch} {kd : List KD} {w : Wp} {σ : St} (hkd : kd = kdM) (hi : zI kd w) {r : (Int32 × St)} (hf : q12_kingmaker σ = some r) : zM l kd w yX12_kingmaker cX12_kingmaker 5 (some .int) rm12_kingmaker [.ref (w.2.2.1 0)] σ (some (.int r.1), r.2) := sorry
/-! LastLoafModel.friends -/
def q12_friends (σ : St) (p_a : Int32) (o_a : Int32) : Option Int32 :=
  Option.bind (q12_liking σ p_a o_a) fun x1_ =>
  Option.bind (q12_liking σ o_a p_a) fun x3_ =>
  some (x1_ + x3_)
abbrev rm12_friends : Room := { frames := 1, cells := 0, slots := 0, locals := 22 }
theorem c12_friends {l : Launch} {kd : List KD} {w : Wp} {σ : St} {p_a : Int32} {o_a : Int32} (hkd : kd = kdM) (hi : zI kd w) {r : Int32} (hf : q12_friends σ p_a o_a = some r) : zM l kd w yX12_friends cX12_friends 3 (some .int) rm12_friends [.ref (w.2.2.1 0), .int p_a, .int o_a] σ (some (.int r), σ) := sorry
/-! LastLoafModel.allBest -/
theorem w_8_57 : Cond.fieldLink "LastLoafModel" (59 : Nat) "LastLoafModel" "best" "[I" ∈ TB := sorry
theorem fg12_59 {Θ : Tz} {cc : ByteArray} {nL kc ks : Nat} {ret : Option FieldType} {rm : Room} {Q : State → Prop} {σ : St} {pc : Nat} {lv : List (Nat × Value)} {st : List Value} (C : Zc Θ cc nL RX12 ret rm) (hkd : Θ.2.2.2.2.1 = kdM) (hd : decode cc pc = .ok (.getfield 59, 3)) (kk : Z Θ nL kc ks Q σ (pc + 3) lv (.ref (zA Θ 16) :: st)) : Z Θ nL kc ks Q σ pc lv (.ref (zA Θ 0) :: st) := sorry
theorem w_10_166 : Cond.code ({ cls := "LastLoafModel", name := "friends", desc := "(II)I" } : MethodName) prog_14_method_121_code (3 : Nat) (Option.some ClassFile.FieldType.int) ∈ TB := sorry
theorem w_10_163 : Cond.methodLink "LastLoafModel" (434 : Nat) ({ cls := "LastLoafModel", name := "friends", desc := "(II)I" } : MethodName) ∈ TB := sorry
theorem w_10_165 : Cond.instanceMethod ({ cls := "LastLoafModel", name := "friends", desc := "(II)I" } : MethodName) ∈ TB := sorry
theorem ws_LastLoafModel_friends_II_I : Cond.selects "LastLoafModel" (⟨"LastLoafModel", "friends", "(II)I"⟩ : MethodName) (⟨"LastLoafModel", "friends", "(II)I"⟩ : MethodName) ∈ TB := sorry
theorem cr12_434 {Θ : Tz} {cc : ByteArray} {nL kc ks : Nat} {ret : Option FieldType} {rm : Room} {Q : State → Prop} {σ : St} {pc : Nat} {lv : List (Nat × Value)} {st : List Value} (C : Zc Θ cc nL RX12 ret rm) (hkd : Θ.2.2.2.2.1 = kdM) {p_a : Int32} {o_a : Int32} {r : Int32} (hx : q12_friends σ p_a o_a = some r) (hrm : rm12_friends.frames + 1 ≤ rm.frames ∧ 8 + (3 + 11) + rm12_friends.locals ≤ rm.locals) (hcat : (st.map fun v => v.category).sum ≤ 8) (hk : kc ≤ rm.cells ∧ ks ≤ rm.slots) (hd : decode cc pc = .ok (.invokevirtual 434, 3)) (kk : Z Θ nL kc ks Q σ (pc + 3) lv (.int r :: st)) : Z Θ nL kc ks Q σ pc lv (.int o_a :: .int p_a :: .ref (zA Θ 0) :: st) := sorry
def q12_allBest (σ : St) : Option St :=
  Option.bind (sa σ 16 128 0 0) fun σ1_ =>
  Option.bind (loop2 (fun rec6_ (set9_ : Int32) (σ10_ : St) =>
  Option.bind (q12_all σ10_) fun x15_ =>
  if set9_ ≤ x15_ then
  Option.bind (q12_lowest set9_) fun x19_ =>
  lt (set9_ &&& ((shl 1 x19_) ^^^ (-1))) fun rest21_ =>
  Option.bind (ag σ10_ 16 128 rest21_) fun x23_ =>
  Option.bind (sa σ10_ 16 128 set9_ x23_) fun σ25_ =>
  lt (x19_ + 1) fun o27_ =>
  Option.bind (loop2 (fun rec32_ (o35_ : Int32) (σ36_ : St) =>
  Option.bind (ag σ36_ 1 752 3) fun x41_ =>
  if o35_ < x41_ then
  Option.bind (if q12_isOf rest21_ o35_ = true then (Option.bind (ag σ36_ 16 128 set9_) fun x52_ =>
  Option.bind (q12_friends σ36_ x19_ o35_) fun x54_ =>
  Option.bind (ag σ36_ 16 128 (rest21_ &&& ((shl 1 o35_) ^^^ (-1)))) fun x56_ =>
  Option.bind (sa σ36_ 16 128 set9_ (q12_greater x52_ (x54_ + x56_))) fun σ58_ =>
  some (σ58_)) else (some (σ36_))) fun y45_ =>
  lt (o35_ + 1) fun o60_ =>
  rec32_ o60_ y45_
  else (some (o35_, σ36_))) fuelN o27_ σ25_) fun y29_ =>
  lt (set9_ + 1) fun set62_ =>
  rec6_ set62_ y29_.2
  else (some (set9_, σ10_))) fuelN (1 : Int32) σ1_) fun y3_ =>
  some y3_.2
abbrev rm12_allBest : Room := { frames := 2, cells := 0, slots := 0, locals := 44 }
theorem c12_allBest {l : Launch} {kd : List KD} {w : Wp} {σ : St} (hkd : kd = kdM) (hi : zI kd w) {r : St} (hf : q12_allBest σ = some r) : zM l kd w yX12_allBest cX12_allBest 5 none rm12_allBest [.ref (w.2.2.1 0)] σ (none, r) := sorry
/-! LastLoafModel.couples -/
theorem w_10_162 : Cond.code ({ cls := "LastLoafModel", name := "allBest", desc := "()V" } : MethodName) prog_14_method_122_code (5 : Nat) (Option.none : Option ClassFile.FieldType) ∈ TB := sorry
theorem w_10_159 : Cond.methodLink "LastLoafModel" (437 : Nat) ({ cls := "LastLoafModel", name := "allBest", desc := "()V" } : MethodName) ∈ TB := sorry
theorem w_10_161 : Cond.instanceMethod ({ cls := "LastLoafModel", name := "allBest", desc := "()V" } : MethodName) ∈ TB := sorry
theorem ws_LastLoafModel_allBest__V : Cond.selects "LastLoafModel" (⟨"LastLoafModel", "allBest", "()V"⟩ : MethodName) (⟨"LastLoafModel", "allBest", "()V"⟩ : MethodName) ∈ TB := sorry
theorem cr12_437 {Θ : Tz} {cc : ByteArray} {nL kc ks : Nat} {ret : Option FieldType} {rm : Room} {Q : State → Prop} {σ : St} {pc : Nat} {lv : List (Nat × Value)} {st : List Value} (C : Zc Θ cc nL RX12 ret rm) (hkd : Θ.2.2.2.2.1 = kdM) {r : St} (hx : q12_allBest σ = some r) (hrm : rm12_allBest.frames + 1 ≤ rm.frames ∧ 8 + (5 + 11) + rm12_allBest.locals ≤ rm.locals) (hcat : (st.map fun v => v.category).sum ≤ 8) (hk : kc ≤ rm.cells ∧ ks ≤ rm.slots) (hd : decode cc pc = .ok (.invokevirtual 437, 3)) (kk : Z Θ nL kc ks Q r (pc + 3) lv st) : Z Θ nL kc ks Q σ pc lv (.ref (zA Θ 0) :: st) := sorry
def q12_couples (σ : St) (one_a : Int32) : Option (Int32 × St) :=
  Option.bind (Option.bind (if ¬ one_a = (-1) then (Option.bind (q12_isOne σ one_a) fun x9_ =>
  if x9_ = true then (some false) else (some true)) else (some false)) fun t6_ =>
  if t6_ = true then (some (1 : Int32)) else (some (0 : Int32))) fun x1_ =>
  lt (up σ 0 0 x1_) fun σ13_ =>
  if 0 < (σ13_ 0 0) then (some (0, σ13_)) else
  Option.bind (q12_allBest σ13_) fun x19_ =>
  if one_a = (-1) then (Option.bind (q12_all x19_) fun x25_ =>
  Option.bind (ag x19_ 16 128 x25_) fun x27_ =>
  some (x27_, x19_)) else
  Option.bind (q12_all x19_) fun x29_ =>
  Option.bind (loop1 (fun rec34_ (left37_ : Int32) =>
  if ¬ left37_ = 0 then
  Option.bind (q12_lowest left37_) fun x44_ =>
  lt (left37_ &&& ((shl 1 x44_) ^^^ (-1))) fun rest46_ =>
  Option.bind (ag x19_ 1 752 3) fun x48_ =>
  lt (x48_ - 1) fun o50_ =>
  Option.bind (loop2 (fun rec55_ (with58_ : Int32) (o59_ : Int32) =>
  Option.bind (if x44_ < o59_ then (Option.bind (ag x19_ 16 128 rest46_) fun x67_ =>
  Option.bind (ag x19_ 16 128 left37_) fun x69_ =>
  if ¬ x67_ = x69_ then (some true) else (some false)) else (some false)) fun t64_ =>
  if t64_ = true then
  Option.bind (Option.bind (if q12_isOf rest46_ o59_ = true then (Option.bind (q12_friends x19_ x44_ o59_) fun x81_ =>
  Option.bind (ag x19_ 16 128 (rest46_ &&& ((shl 1 o59_) ^^^ (-1)))) fun x83_ =>
  Option.bind (ag x19_ 16 128 left37_) fun x85_ =>
  if (x81_ + x83_) = x85_ then (some true) else (some false)) else (some false)) fun t78_ =>
  if t78_ = true then (some (o59_)) else (some (with58_))) fun y73_ =>
  lt (o59_ + (-1)) fun o89_ =>
  rec55_ y73_ o89_
  else (some (with58_, o59_))) fuelN (-1 : Int32) o50_) fun y52_ =>
  if x44_ = one_a then (some (.inl (y52_.1, x19_))) else
  if y52_.1 = one_a then (some (.inl (x44_, x19_))) else
  lt (if y52_.1 = (-1) then rest46_ else rest46_ &&& ((shl 1 y52_.1) ^^^ (-1))) fun left104_ =>
  rec34_ left104_
  else (some (.inr left37_))) fuelN x29_) fun y31_ =>
  Sum.elim (fun x9 => some x9) (fun y31_r =>
  some ((-1), x19_)) y31_
abbrev rm12_couples : Room := { frames := 3, cells := 0, slots := 0, locals := 68 }
theorem c12_couples {l : Launch} {kd : List KD} {w : Wp} {σ : St} {one_a : Int32} (hkd : kd = kdM) (hi : zI kd w) {r : (Int32 × St)} (hf : q12_couples σ one_a = some r) : zM l kd w yX12_couples cX12_couples 7 (some .int) rm12_couples [.ref (w.2.2.1 0), .int one_a] σ (some (.int r.1), r.2) := sorry
/-! LastLoafModel.camps -/
def q12_camps (σ : St) : Option (Int32 × St) :=
  lt (up σ 0 0 0) fun σ1_ =>
  Option.bind (loop3 (fun rec6_ (found9_ : Int32) (least10_ : Int32) (set11_ : Int32) =>
  Option.bind (q12_all σ1_) fun x16_ =>
  if set11_ ≤ x16_ then
  lt (fun (found73_ : Int32) (least74_ : Int32) (set75_ : Int32) =>
  lt (set75_ + 2) fun set77_ =>
  rec6_ found73_ least74_ set77_) fun k13_ =>
  Option.bind (loop2 (fun rec23_ (n26_ : Int32) (a27_ : Int32) =>
  Option.bind (ag σ1_ 1 752 3) fun x32_ =>
  if a27_ < x32_ then
  lt (a27_ + 1) fun b36_ =>
  Option.bind (loop2 (fun rec41_ (n44_ : Int32) (b45_ : Int32) =>
  Option.bind (ag σ1_ 1 752 3) fun x50_ =>
  if b45_ < x50_ then
  Option.bind (if ¬ (b2i (q12_isOf set11_ a27_)) = (b2i (q12_isOf set11_ b45_)) then (Option.bind (q12_friends σ1_ a27_ b45_) fun x60_ =>
  some x60_) else (some (0 : Int32))) fun x54_ =>
  lt (n44_ + x54_) fun n63_ =>
  lt (b45_ + 1) fun b65_ =>
  rec41_ n63_ b65_
  else (some (n44_, b45_))) fuelN n26_ b36_) fun y38_ =>
  lt (a27_ + 1) fun a67_ =>
  rec23_ y38_.1 a67_
  else (some (n26_, a27_))) fuelN (0 : Int32) (0 : Int32)) fun y20_ =>
  if least10_ ≤ y20_.1 then (k13_ found9_ least10_ set11_) else
  k13_ set11_ y20_.1 set11_
  else (some (found9_, least10_, set11_))) fuelN (-1 : Int32) (2000000000 : Int32) (2 : Int32)) fun y3_ =>
  some (y3_.1, σ1_)
abbrev rm12_camps : Room := { frames := 2, cells := 0, slots := 0, locals := 44 }
theorem c12_camps {l : Launch} {kd : List KD} {w : Wp} {σ : St} (hkd : kd = kdM) (hi : zI kd w) {r : (Int32 × St)} (hf : q12_camps σ = some r) : zM l kd w yX12_camps cX12_camps 7 (some .int) rm12_camps [.ref (w.2.2.1 0)] σ (some (.int r.1), r.2) := sorry
/-! LastLoafModel.tables -/
theorem w_8_58 : Cond.fieldLink "LastLoafModel" (62 : Nat) "LastLoafModel" "seats" "[I" ∈ TB := sorry
theorem fg12_62 {Θ : Tz} {cc : ByteArray} {nL kc ks : Nat} {ret : Option FieldType} {rm : Room} {Q : State → Prop} {σ : St} {pc : Nat} {lv : List (Nat × Value)} {st : List Value} (C : Zc Θ cc nL RX12 ret rm) (hkd : Θ.2.2.2.2.1 = kdM) (hd : decode cc pc = .ok (.getfield 62, 3)) (kk : Z Θ nL kc ks Q σ (pc + 3) lv (.ref (zA Θ 17) :: st)) : Z Θ nL kc ks Q σ pc lv (.ref (zA Θ 0) :: st) := sorry
def q12_tables (σ : St) : Option St :=
  Option.bind (q12_all σ) fun x1_ =>
  Option.bind (loop2 (fun rec6_ (set9_ : Int32) (σ10_ : St) =>
  if 0 ≤ set9_ then
  Option.bind (loop2 (fun rec20_ (p23_ : Int32) (σ24_ : St) =>
  Option.bind (ag σ24_ 1 752 3) fun x29_ =>
  if p23_ < x29_ then
  Option.bind (Option.bind (q12_all σ24_) fun x38_ =>
  if set9_ = x38_ then (Option.bind (Option.bind (ag σ24_ 1 752 3) fun x46_ =>
  if 2 < x46_ then (Option.bind (q12_friends σ24_ p23_ 0) fun x49_ =>
  some x49_) else (some (0 : Int32))) fun x41_ =>
  some x41_) else (some (-1 : Int32))) fun x33_ =>
  Option.bind (loop2 (fun rec56_ (most59_ : Int32) (o60_ : Int32) =>
  Option.bind (ag σ24_ 1 752 3) fun x65_ =>
  if o60_ < x65_ then
  Option.bind (if ¬ (q12_isOf set9_ o60_ = true) then (Option.bind (q12_friends σ24_ p23_ o60_) fun x76_ =>
  Option.bind (ag σ24_ 17 1024 ((8 * (set9_ ||| (shl 1 o60_))) + o60_)) fun x78_ =>
  lt (q12_greater most59_ (x76_ + x78_)) fun most80_ =>
  some (most80_)) else (some (most59_))) fun y69_ =>
  lt (o60_ + 1) fun o82_ =>
  rec56_ y69_ o82_
  else (some (most59_, o60_))) fuelN x33_ (0 : Int32)) fun y53_ =>
  Option.bind (sa σ24_ 17 1024 ((8 * set9_) + p23_) y53_.1) fun σ84_ =>
  lt (p23_ + 1) fun p86_ =>
  rec20_ p86_ σ84_
  else (some (p23_, σ24_))) fuelN (0 : Int32) σ10_) fun y17_ =>
  lt (set9_ + (-1)) fun set88_ =>
  rec6_ set88_ y17_.2
  else (some (set9_, σ10_))) fuelN x1_ σ) fun y3_ =>
  some y3_.2
abbrev rm12_tables : Room := { frames := 2, cells := 0, slots := 0, locals := 44 }
theorem c12_tables {l : Launch} {kd : List KD} {w : Wp} {σ : St} (hkd : kd = kdM) (hi : zI kd w) {r : St} (hf : q12_tables σ = some r) : zM l kd w yX12_tables cX12_tables 5 none rm12_tables [.ref (w.2.2.1 0)] σ (none, r) := sorry
/-! LastLoafModel.table -/
theorem w_10_178 : Cond.code ({ cls := "LastLoafModel", name := "tables", desc := "()V" } : MethodName) prog_14_method_125_code (5 : Nat) (Option.none : Option ClassFile.FieldType) ∈ TB := sorry
theorem w_10_175 : Cond.methodLink "LastLoafModel" (440 : Nat) ({ cls := "LastLoafModel", name := "tables", desc := "()V" } : MethodName) ∈ TB := sorry
theorem w_10_177 : Cond.instanceMethod ({ cls := "LastLoafModel", name := "tables", desc := "()V" } : MethodName) ∈ TB := sorry
theorem ws_LastLoafModel_tables__V : Cond.selects "LastLoafModel" (⟨"LastLoafModel", "tables", "()V"⟩ : MethodName) (⟨"LastLoafModel", "tables", "()V"⟩ : MethodName) ∈ TB := sorry
theorem cr12_440 {Θ : Tz} {cc : ByteArray} {nL kc ks : Nat} {ret : Option FieldType} {rm : Room} {Q : State → Prop} {σ : St} {pc : Nat} {lv : List (Nat × Value)} {st : List Value} (C : Zc Θ cc nL RX12 ret rm) (hkd : Θ.2.2.2.2.1 = kdM) {r : St} (hx : q12_tables σ = some r) (hrm : rm12_tables.frames + 1 ≤ rm.frames ∧ 8 + (5 + 11) + rm12_tables.locals ≤ rm.locals) (hcat : (st.map fun v => v.category).sum ≤ 8) (hk : kc ≤ rm.cells ∧ ks ≤ rm.slots) (hd : decode cc pc = .ok (.invokevirtual 440, 3)) (kk : Z Θ nL kc ks Q r (pc + 3) lv st) : Z Θ nL kc ks Q σ pc lv (.ref (zA Θ 0) :: st) := sorry
def q12_table (σ : St) (k_a : Int32) : Option (Int32 × St) :=
  lt (up σ 0 0 0) fun σ1_ =>
  Option.bind (ag σ1_ 1 752 3) fun x5_ =>
  if x5_ = 0 then (some (if k_a = (-1) then 0 else (-1), σ1_)) else
  Option.bind (q12_tables σ1_) fun x14_ =>
  if k_a = (-1) then (Option.bind (Option.bind (ag x14_ 1 752 3) fun x25_ =>
  if x25_ = 1 then (some (0 : Int32)) else (Option.bind (ag x14_ 17 1024 8) fun x28_ =>
  some x28_)) fun x20_ =>
  some (x20_, x14_)) else
  Option.bind (ag x14_ 1 752 3) fun x33_ =>
  if ¬ (q12_isIn k_a 0 (x33_ - 1) = true) then (some ((-1), x14_)) else
  Option.bind (loop3 (fun rec40_ (at43_ : Int32) (set44_ : Int32) (i45_ : Int32) =>
  if i45_ < k_a then
  Option.bind (ag x14_ 1 752 3) fun x52_ =>
  lt (x52_ - 1) fun o54_ =>
  Option.bind (loop2 (fun rec59_ (to62_ : Int32) (o63_ : Int32) =>
  if 0 ≤ o63_ then
  Option.bind (Option.bind (if q12_isOf set44_ o63_ = true then (some false) else (Option.bind (q12_friends x14_ at43_ o63_) fun x78_ =>
  Option.bind (ag x14_ 17 1024 ((8 * (set44_ ||| (shl 1 o63_))) + o63_)) fun x80_ =>
  Option.bind (ag x14_ 17 1024 ((8 * set44_) + at43_)) fun x82_ =>
  if (x78_ + x80_) = x82_ then (some true) else (some false))) fun t75_ =>
  if t75_ = true then (some (o63_)) else (some (to62_))) fun y70_ =>
  lt (o63_ + (-1)) fun o86_ =>
  rec59_ y70_ o86_
  else (some (to62_, o63_))) fuelN (-1 : Int32) o54_) fun y56_ =>
  lt (set44_ ||| (shl 1 y56_.1)) fun set88_ =>
  lt (i45_ + 1) fun i90_ =>
  rec40_ y56_.1 set88_ i90_
  else (some (at43_, set44_, i45_))) fuelN (0 : Int32) (1 : Int32) (0 : Int32)) fun y37_ =>
  some (y37_.1, x14_)
abbrev rm12_table : Room := { frames := 3, cells := 0, slots := 0, locals := 68 }
theorem c12_table {l : Launch} {kd : List KD} {w : Wp} {σ : St} {k_a : Int32} (hkd : kd = kdM) (hi : zI kd w) {r : (Int32 × St)} (hf : q12_table σ k_a = some r) : zM l kd w yX12_table cX12_table 7 (some .int) rm12_table [.ref (w.2.2.1 0), .int k_a] σ (some (.int r.1), r.2) := sorry
/-! LastLoafModel.slices -/
def q12_slices (σ : St) (p_a : Int32) (n_a : Int32) : Option (Int32 × St) :=
  Option.bind (Option.bind (q12_isOne σ p_a) fun x6_ =>
  if ¬ (x6_ = true) then (some (1 : Int32)) else (some (if ¬ (q12_isIn n_a 0 999 = true) then 2 else 0))) fun x1_ =>
  lt (up σ 0 0 x1_) fun σ15_ =>
  if 0 < (σ15_ 0 0) then (some (0, σ15_)) else
  Option.bind (q12_sumOf σ15_ 0) fun x21_ =>
  if x21_ = 0 then (some (0, σ15_)) else
  Option.bind (loop2 (fun rec30_ (left33_ : Int32) (o34_ : Int32) =>
  Option.bind (ag σ15_ 1 752 3) fun x39_ =>
  if o34_ < x39_ then
  Option.bind (q12_of σ15_ o34_ 0) fun x43_ =>
  Option.bind (dv (n_a * x43_) x21_) fun x45_ =>
  lt (left33_ - x45_) fun left47_ =>
  lt (o34_ + 1) fun o49_ =>
  rec30_ left47_ o49_
  else (some (left33_, o34_))) fuelN n_a (0 : Int32)) fun y27_ =>
  Option.bind (q12_of σ15_ p_a 0) fun x51_ =>
  Option.bind (dv (n_a * x51_) x21_) fun x53_ =>
  some (x53_ + (if p_a < y27_.1 then 1 else 0), σ15_)
abbrev rm12_slices : Room := { frames := 2, cells := 0, slots := 0, locals := 45 }
theorem c12_slices {l : Launch} {kd : List KD} {w : Wp} {σ : St} {p_a : Int32} {n_a : Int32} (hkd : kd = kdM) (hi : zI kd w) {r : (Int32 × St)} (hf : q12_slices σ p_a n_a = some r) : zM l kd w yX12_slices cX12_slices 6 (some .int) rm12_slices [.ref (w.2.2.1 0), .int p_a, .int n_a] σ (some (.int r.1), r.2) := sorry
/-! LastLoafModel.ring -/
def q12_ring (σ : St) (p_a : Int32) : Option (Bool × St) :=
  Option.bind (Option.bind (q12_isOne σ p_a) fun x6_ =>
  if ¬ (x6_ = true) then (some (1 : Int32)) else (some (0 : Int32))) fun x1_ =>
  lt (up σ 0 0 x1_) fun σ10_ =>
  if 0 < (σ10_ 0 0) then (some (false, σ10_)) else
  Option.bind (q12_passesTo σ10_ p_a) fun x16_ =>
  Option.bind (loop2 (fun rec21_ (at24_ : Int32) (n25_ : Int32) =>
  if ((n25_ < 6) ∧ (¬ at24_ = (-1))) ∧ (¬ at24_ = p_a) then
  Option.bind (q12_passesTo σ10_ at24_) fun x34_ =>
  lt (n25_ + 1) fun n36_ =>
  rec21_ x34_ n36_
  else (some (at24_, n25_))) fuelN x16_ (0 : Int32)) fun y18_ =>
  some (decide (y18_.1 = p_a), σ10_)
abbrev rm12_ring : Room := { frames := 2, cells := 0, slots := 0, locals := 45 }
theorem c12_ring {l : Launch} {kd : List KD} {w : Wp} {σ : St} {p_a : Int32} (hkd : kd = kdM) (hi : zI kd w) {r : (Bool × St)} (hf : q12_ring σ p_a = some r) : zM l kd w yX12_ring cX12_ring 4 (some .boolean) rm12_ring [.ref (w.2.2.1 0), .int p_a] σ (some (.int (b2i r.1)), r.2) := sorry
/-! LastLoafModel.speakerHas -/
def q12_speakerHas (σ : St) (p_a : Int32) (o_a : Int32) (a_a : Int32) (b_a : Int32) : Option Int32 :=
  if a_a = 1 then (some 0) else
  Option.bind (if b_a = 0 then (Option.bind (q12_liking σ o_a p_a) fun x11_ =>
  some (x11_ - 5)) else (some (3 : Int32))) fun x5_ =>
  some x5_
abbrev rm12_speakerHas : Room := { frames := 1, cells := 0, slots := 0, locals := 22 }
theorem c12_speakerHas {l : Launch} {kd : List KD} {w : Wp} {σ : St} {p_a : Int32} {o_a : Int32} {a_a : Int32} {b_a : Int32} (hkd : kd = kdM) (hi : zI kd w) {r : Int32} (hf : q12_speakerHas σ p_a o_a a_a b_a = some r) : zM l kd w yX12_speakerHas cX12_speakerHas 5 (some .int) rm12_speakerHas [.ref (w.2.2.1 0), .int p_a, .int o_a, .int a_a, .int b_a] σ (some (.int r), σ) := sorry
/-! LastLoafModel.otherHas -/
def q12_otherHas (σ : St) (o_a : Int32) (a_a : Int32) (b_a : Int32) : Option Int32 :=
  if a_a = 1 then (some (if b_a = 0 then (-2) else 0)) else
  Option.bind (if b_a = 0 then (Option.bind (q12_of σ o_a 2) fun x16_ =>
  some (9 - x16_)) else (some (1 : Int32))) fun x10_ =>
  some x10_
abbrev rm12_otherHas : Room := { frames := 1, cells := 0, slots := 0, locals := 22 }
theorem c12_otherHas {l : Launch} {kd : List KD} {w : Wp} {σ : St} {o_a : Int32} {a_a : Int32} {b_a : Int32} (hkd : kd = kdM) (hi : zI kd w) {r : Int32} (hf : q12_otherHas σ o_a a_a b_a = some r) : zM l kd w yX12_otherHas cX12_otherHas 4 (some .int) rm12_otherHas [.ref (w.2.2.1 0), .int o_a, .int a_a, .int b_a] σ (some (.int r), σ) := sorry
/-! LastLoafModel.rests -/
theorem w_10_194 : Cond.code ({ cls := "LastLoafModel", name := "speakerHas", desc := "(IIII)I" } : MethodName) prog_14_method_130_code (5 : Nat) (Option.some ClassFile.FieldType.int) ∈ TB := sorry
theorem w_10_191 : Cond.methodLink "LastLoafModel" (443 : Nat) ({ cls := "LastLoafModel", name := "speakerHas", desc := "(IIII)I" } : MethodName) ∈ TB := sorry
theorem w_10_193 : Cond.instanceMethod ({ cls := "LastLoafModel", name := "speakerHas", desc := "(IIII)I" } : MethodName) ∈ TB := sorry
theorem ws_LastLoafModel_speakerHas_IIII_I : Cond.selects "LastLoafModel" (⟨"LastLoafModel", "speakerHas", "(IIII)I"⟩ : MethodName) (⟨"LastLoafModel", "speakerHas", "(IIII)I"⟩ : MethodName) ∈ TB := sorry
theorem cr12_443 {Θ : Tz} {cc : ByteArray} {nL kc ks : Nat} {ret : Option FieldType} {rm : Room} {Q : State → Prop} {σ : St} {pc : Nat} {lv : List (Nat × Value)} {st : List Value} (C : Zc Θ cc nL RX12 ret rm) (hkd : Θ.2.2.2.2.1 = kdM) {p_a : Int32} {o_a : Int32} {a_a : Int32} {b_a : Int32} {r : Int32} (hx : q12_speakerHas σ p_a o_a a_a b_a = some r) (hrm : rm12_speakerHas.frames + 1 ≤ rm.frames ∧ 8 + (5 + 11) + rm12_speakerHas.locals ≤ rm.locals) (hcat : (st.map fun v => v.category).sum ≤ 8) (hk : kc ≤ rm.cells ∧ ks ≤ rm.slots) (hd : decode cc pc = .ok (.invokevirtual 443, 3)) (kk : Z Θ nL kc ks Q σ (pc + 3) lv (.int r :: st)) : Z Θ nL kc ks Q σ pc lv (.int b_a :: .int a_a :: .int o_a :: .int p_a :: .ref (zA Θ 0) :: st) := sorry
theorem w_10_198 : Cond.code ({ cls := "LastLoafModel", name := "otherHas", desc := "(III)I" } : MethodName) prog_14_method_131_code (4 : Nat) (Option.some ClassFile.FieldType.int) ∈ TB := sorry
theorem w_10_195 : Cond.methodLink "LastLoafModel" (447 : Nat) ({ cls := "LastLoafModel", name := "otherHas", desc := "(III)I" } : MethodName) ∈ TB := sorry
theorem w_10_197 : Cond.instanceMethod ({ cls := "LastLoafModel", name := "otherHas", desc := "(III)I" } : MethodName) ∈ TB := sorry
theorem ws_LastLoafModel_otherHas_III_I : Cond.selects "LastLoafModel" (⟨"LastLoafModel", "otherHas", "(III)I"⟩ : MethodName) (⟨"LastLoafModel", "otherHas", "(III)I"⟩ : MethodName) ∈ TB := sorry
theorem cr12_447 {Θ : Tz} {cc : ByteArray} {nL kc ks : Nat} {ret : Option FieldType} {rm : Room} {Q : State → Prop} {σ : St} {pc : Nat} {lv : List (Nat × Value)} {st : List Value} (C : Zc Θ cc nL RX12 ret rm) (hkd : Θ.2.2.2.2.1 = kdM) {o_a : Int32} {a_a : Int32} {b_a : Int32} {r : Int32} (hx : q12_otherHas σ o_a a_a b_a = some r) (hrm : rm12_otherHas.frames + 1 ≤ rm.frames ∧ 8 + (4 + 11) + rm12_otherHas.locals ≤ rm.locals) (hcat : (st.map fun v => v.category).sum ≤ 8) (hk : kc ≤ rm.cells ∧ ks ≤ rm.slots) (hd : decode cc pc = .ok (.invokevirtual 447, 3)) (kk : Z Θ nL kc ks Q σ (pc + 3) lv (.int r :: st)) : Z Θ nL kc ks Q σ pc lv (.int b_a :: .int a_a :: .int o_a :: .ref (zA Θ 0) :: st) := sorry
def q12_rests (σ : St) (p_a : Int32) (o_a : Int32) : Option (Int32 × St) :=
  Option.bind (q12_areTwo σ p_a o_a) fun x1_ =>
  if 0 < (x1_ 0 0) then (some (0, x1_)) else
  Option.bind (Option.bind (Option.bind (q12_of x1_ p_a 3) fun x14_ =>
  if x14_ = 0 then (some true) else (Option.bind (q12_of x1_ p_a 4) fun x17_ =>
  if x17_ = 1 then (some true) else (some false))) fun t12_ =>
  if t12_ = true then (some (3 : Int32)) else (some (0 : Int32))) fun x7_ =>
  lt (up x1_ 0 0 x7_) fun σ21_ =>
  if 0 < (σ21_ 0 0) then (some (0, σ21_)) else
  Option.bind (loop2 (fun rec30_ (set33_ : Int32) (k34_ : Int32) =>
  if k34_ < 4 then
  lt (k34_ / 2) fun a41_ =>
  lt (irm k34_ 2) fun b43_ =>
  Option.bind (Option.bind (Option.bind (q12_speakerHas σ21_ p_a o_a (1 - a41_) b43_) fun x52_ =>
  Option.bind (q12_speakerHas σ21_ p_a o_a a41_ b43_) fun x54_ =>
  if x52_ ≤ x54_ then (Option.bind (q12_otherHas σ21_ o_a a41_ (1 - b43_)) fun x57_ =>
  Option.bind (q12_otherHas σ21_ o_a a41_ b43_) fun x59_ =>
  if x57_ ≤ x59_ then (some true) else (some false)) else (some false)) fun t50_ =>
  if t50_ = true then (lt (set33_ ||| (shl 1 k34_)) fun set63_ =>
  some (set63_)) else (some (set33_))) fun y45_ =>
  lt (k34_ + 1) fun k65_ =>
  rec30_ y45_ k65_
  else (some (set33_, k34_))) fuelN (0 : Int32) (0 : Int32)) fun y27_ =>
  some (y27_.1, σ21_)
abbrev rm12_rests : Room := { frames := 3, cells := 0, slots := 0, locals := 65 }
theorem c12_rests {l : Launch} {kd : List KD} {w : Wp} {σ : St} {p_a : Int32} {o_a : Int32} (hkd : kd = kdM) (hi : zI kd w) {r : (Int32 × St)} (hf : q12_rests σ p_a o_a = some r) : zM l kd w yX12_rests cX12_rests 7 (some .int) rm12_rests [.ref (w.2.2.1 0), .int p_a, .int o_a] σ (some (.int r.1), r.2) := sorry
/-! LastLoafModel.odds -/
theorem w_10_203 : Cond.constantLong "LastLoafModel" (450 : Nat) (100 : Int64) ∈ TB := sorry
theorem w_10_204 : Cond.constantLong "LastLoafModel" (452 : Nat) (10000 : Int64) ∈ TB := sorry
def q12_odds (σ : St) (n_a : Int32) (k_a : Int32) : Option (Int32 × St) :=
  lt (up σ 0 0 (if (¬ (q12_isIn n_a 0 6 = true)) ∨ (¬ (q12_isIn k_a 0 6 = true)) then 1 else 0)) fun σ7_ =>
  if 0 < (σ7_ 0 0) then (some (0, σ7_)) else
  Option.bind (loop2 (fun rec16_ (whole19_ : Int64) (i20_ : Int32) =>
  if i20_ < n_a then
  lt (whole19_ * 100) fun whole27_ =>
  lt (i20_ + 1) fun i29_ =>
  rec16_ whole27_ i29_
  else (some (whole19_, i20_))) fuelN (1 : Int64) (0 : Int32)) fun y13_ =>
  Option.bind (loop2 (fun rec34_ (some37_ : Int64) (set38_ : Int32) =>
  if set38_ < (shl 1 n_a) then
  Option.bind (Option.bind (q12_bits set38_) fun x50_ =>
  if x50_ < k_a then (some (0 : Int64)) else (some (1 : Int64))) fun x45_ =>
  Option.bind (loop2 (fun rec57_ (odds60_ : Int64) (i61_ : Int32) =>
  if i61_ < n_a then
  Option.bind (if q12_isOf set38_ i61_ = true then (Option.bind (ag σ7_ 1 752 7) fun x74_ =>
  some x74_.toInt64) else (Option.bind (ag σ7_ 1 752 7) fun x76_ =>
  some ((100 - x76_).toInt64))) fun x68_ =>
  lt (odds60_ * x68_) fun odds79_ =>
  lt (i61_ + 1) fun i81_ =>
  rec57_ odds79_ i81_
  else (some (odds60_, i61_))) fuelN x45_ (0 : Int32)) fun y54_ =>
  lt (some37_ + y54_.1) fun some83_ =>
  lt (set38_ + 1) fun set85_ =>
  rec34_ some83_ set85_
  else (some (some37_, set38_))) fuelN (0 : Int64) (0 : Int32)) fun y31_ =>
  Option.bind (dvl (10000 * y31_.1) y13_.1) fun x87_ =>
  some (x87_.toInt32, σ7_)
abbrev rm12_odds : Room := { frames := 1, cells := 0, slots := 0, locals := 22 }
theorem c12_odds {l : Launch} {kd : List KD} {w : Wp} {σ : St} {n_a : Int32} {k_a : Int32} (hkd : kd = kdM) (hi : zI kd w) {r : (Int32 × St)} (hf : q12_odds σ n_a k_a = some r) : zM l kd w yX12_odds cX12_odds 11 (some .int) rm12_odds [.ref (w.2.2.1 0), .int n_a, .int k_a] σ (some (.int r.1), r.2) := sorry
/-! LastLoafModel.hungriest -/
def q12_hungriest (σ : St) : Option (Int32 × St) :=
  lt (up σ 0 0 0) fun σ1_ =>
  Option.bind (loop2 (fun rec6_ (found9_ : Int32) (p10_ : Int32) =>
  Option.bind (ag σ1_ 1 752 3) fun x15_ =>
  if p10_ < x15_ then
  Option.bind (Option.bind (Option.bind (q12_of σ1_ p10_ 4) fun x26_ =>
  if x26_ = 0 then (if found9_ = (-1) then (some true) else (Option.bind (q12_of σ1_ p10_ 0) fun x30_ =>
  Option.bind (q12_of σ1_ found9_ 0) fun x32_ =>
  if x32_ < x30_ then (some true) else (some false))) else (some false)) fun t24_ =>
  if t24_ = true then (some (p10_)) else (some (found9_))) fun y19_ =>
  lt (p10_ + 1) fun p36_ =>
  rec6_ y19_ p36_
  else (some (found9_, p10_))) fuelN (-1 : Int32) (0 : Int32)) fun y3_ =>
  some (y3_.1, σ1_)
abbrev rm12_hungriest : Room := { frames := 1, cells := 0, slots := 0, locals := 22 }
theorem c12_hungriest {l : Launch} {kd : List KD} {w : Wp} {σ : St} (hkd : kd = kdM) (hi : zI kd w) {r : (Int32 × St)} (hf : q12_hungriest σ = some r) : zM l kd w yX12_hungriest cX12_hungriest 3 (some .int) rm12_hungriest [.ref (w.2.2.1 0)] σ (some (.int r.1), r.2) := sorry
/-! LastLoafModel.lovesOf -/
def q12_lovesOf (σ : St) (o_a : Int32) : Option Int32 :=
  Option.bind (loop2 (fun rec4_ (n7_ : Int32) (p8_ : Int32) =>
  Option.bind (ag σ 1 752 3) fun x13_ =>
  if p8_ < x13_ then
  Option.bind (if p8_ = o_a then (some (0 : Int32)) else (Option.bind (q12_liking σ p8_ o_a) fun x23_ =>
  some x23_)) fun x17_ =>
  lt (n7_ + x17_) fun n26_ =>
  lt (p8_ + 1) fun p28_ =>
  rec4_ n26_ p28_
  else (some (n7_, p8_))) fuelN (0 : Int32) (0 : Int32)) fun y1_ =>
  some y1_.1
abbrev rm12_lovesOf : Room := { frames := 1, cells := 0, slots := 0, locals := 22 }
theorem c12_lovesOf {l : Launch} {kd : List KD} {w : Wp} {σ : St} {o_a : Int32} (hkd : kd = kdM) (hi : zI kd w) {r : Int32} (hf : q12_lovesOf σ o_a = some r) : zM l kd w yX12_lovesOf cX12_lovesOf 4 (some .int) rm12_lovesOf [.ref (w.2.2.1 0), .int o_a] σ (some (.int r), σ) := sorry
/-! LastLoafModel.loved -/
theorem w_10_216 : Cond.code ({ cls := "LastLoafModel", name := "lovesOf", desc := "(I)I" } : MethodName) prog_14_method_135_code (4 : Nat) (Option.some ClassFile.FieldType.int) ∈ TB := sorry
theorem w_10_213 : Cond.methodLink "LastLoafModel" (454 : Nat) ({ cls := "LastLoafModel", name := "lovesOf", desc := "(I)I" } : MethodName) ∈ TB := sorry
theorem w_10_215 : Cond.instanceMethod ({ cls := "LastLoafModel", name := "lovesOf", desc := "(I)I" } : MethodName) ∈ TB := sorry
theorem ws_LastLoafModel_lovesOf_I_I : Cond.selects "LastLoafModel" (⟨"LastLoafModel", "lovesOf", "(I)I"⟩ : MethodName) (⟨"LastLoafModel", "lovesOf", "(I)I"⟩ : MethodName) ∈ TB := sorry
theorem cr12_454 {Θ : Tz} {cc : ByteArray} {nL kc ks : Nat} {ret : Option FieldType} {rm : Room} {Q : State → Prop} {σ : St} {pc : Nat} {lv : List (Nat × Value)} {st : List Value} (C : Zc Θ cc nL RX12 ret rm) (hkd : Θ.2.2.2.2.1 = kdM) {o_a : Int32} {r : Int32} (hx : q12_lovesOf σ o_a = some r) (hrm : rm12_lovesOf.frames + 1 ≤ rm.frames ∧ 8 + (4 + 11) + rm12_lovesOf.locals ≤ rm.locals) (hcat : (st.map fun v => v.category).sum ≤ 8) (hk : kc ≤ rm.cells ∧ ks ≤ rm.slots) (hd : decode cc pc = .ok (.invokevirtual 454, 3)) (kk : Z Θ nL kc ks Q σ (pc + 3) lv (.int r :: st)) : Z Θ nL kc ks Q σ pc lv (.int o_a :: .ref (zA Θ 0) :: st) := sorry
def q12_loved (σ : St) : Option (Int32 × St) :=
  lt (up σ 0 0 0) fun σ1_ =>
  Option.bind (loop2 (fun rec6_ (found9_ : Int32) (p10_ : Int32) =>
  Option.bind (ag σ1_ 1 752 3) fun x15_ =>
  if p10_ < x15_ then
  Option.bind (Option.bind (if found9_ = (-1) then (some true) else (Option.bind (q12_lovesOf σ1_ p10_) fun x27_ =>
  Option.bind (q12_lovesOf σ1_ found9_) fun x29_ =>
  if x29_ < x27_ then (some true) else (some false))) fun t24_ =>
  if t24_ = true then (some (p10_)) else (some (found9_))) fun y19_ =>
  lt (p10_ + 1) fun p33_ =>
  rec6_ y19_ p33_
  else (some (found9_, p10_))) fuelN (-1 : Int32) (0 : Int32)) fun y3_ =>
  some (y3_.1, σ1_)
abbrev rm12_loved : Room := { frames := 2, cells := 0, slots := 0, locals := 45 }
theorem c12_loved {l : Launch} {kd : List KD} {w : Wp} {σ : St} (hkd : kd = kdM) (hi : zI kd w) {r : (Int32 × St)} (hf : q12_loved σ = some r) : zM l kd w yX12_loved cX12_loved 3 (some .int) rm12_loved [.ref (w.2.2.1 0)] σ (some (.int r.1), r.2) := sorry
/-! LastLoafModel.thick -/
def q12_thick (σ : St) : Option (Int32 × St) :=
  lt (up σ 0 0 0) fun σ1_ =>
  Option.bind (loop2 (fun rec6_ (set9_ : Int32) (p10_ : Int32) =>
  Option.bind (ag σ1_ 1 752 3) fun x15_ =>
  if p10_ < x15_ then
  Option.bind (Option.bind (Option.bind (q12_of σ1_ p10_ 6) fun x26_ =>
  if 2 ≤ x26_ then (Option.bind (q12_of σ1_ p10_ 2) fun x29_ =>
  if x29_ = 0 then (some true) else (some false)) else (some false)) fun t24_ =>
  if t24_ = true then (some (shl 1 p10_)) else (some (0 : Int32))) fun x19_ =>
  lt (set9_ ||| x19_) fun set33_ =>
  lt (p10_ + 1) fun p35_ =>
  rec6_ set33_ p35_
  else (some (set9_, p10_))) fuelN (0 : Int32) (0 : Int32)) fun y3_ =>
  some (y3_.1, σ1_)
abbrev rm12_thick : Room := { frames := 1, cells := 0, slots := 0, locals := 22 }
theorem c12_thick {l : Launch} {kd : List KD} {w : Wp} {σ : St} (hkd : kd = kdM) (hi : zI kd w) {r : (Int32 × St)} (hf : q12_thick σ = some r) : zM l kd w yX12_thick cX12_thick 3 (some .int) rm12_thick [.ref (w.2.2.1 0)] σ (some (.int r.1), r.2) := sorry
/-! LastLoafModel.bench -/
def q12_bench (σ : St) : Option (Int32 × St) :=
  lt (up σ 0 0 0) fun σ1_ =>
  Option.bind (q12_those σ1_ 4) fun x3_ =>
  some (x3_, σ1_)
abbrev rm12_bench : Room := { frames := 2, cells := 0, slots := 0, locals := 45 }
theorem c12_bench {l : Launch} {kd : List KD} {w : Wp} {σ : St} (hkd : kd = kdM) (hi : zI kd w) {r : (Int32 × St)} (hf : q12_bench σ = some r) : zM l kd w yX12_bench cX12_bench 1 (some .int) rm12_bench [.ref (w.2.2.1 0)] σ (some (.int r.1), r.2) := sorry
/-! LastLoafModel.crowd -/
def q12_crowd (σ : St) : Option (Int32 × St) :=
  lt (up σ 0 0 0) fun σ1_ =>
  Option.bind (q12_those σ1_ 3) fun x3_ =>
  some (x3_, σ1_)
abbrev rm12_crowd : Room := { frames := 2, cells := 0, slots := 0, locals := 45 }
theorem c12_crowd {l : Launch} {kd : List KD} {w : Wp} {σ : St} (hkd : kd = kdM) (hi : zI kd w) {r : (Int32 × St)} (hf : q12_crowd σ = some r) : zM l kd w yX12_crowd cX12_crowd 1 (some .int) rm12_crowd [.ref (w.2.2.1 0)] σ (some (.int r.1), r.2) := sorry
/-! LastLoafModel.never -/
def q12_never (σ : St) : Option (Int32 × St) :=
  lt (up σ 0 0 0) fun σ1_ =>
  Option.bind (q12_all σ1_) fun x3_ =>
  Option.bind (q12_those σ1_ 5) fun x5_ =>
  some (x3_ &&& (x5_ ^^^ (-1)), σ1_)
abbrev rm12_never : Room := { frames := 2, cells := 0, slots := 0, locals := 45 }
theorem c12_never {l : Launch} {kd : List KD} {w : Wp} {σ : St} (hkd : kd = kdM) (hi : zI kd w) {r : (Int32 × St)} (hf : q12_never σ = some r) : zM l kd w yX12_never cX12_never 1 (some .int) rm12_never [.ref (w.2.2.1 0)] σ (some (.int r.1), r.2) := sorry
/-! LastLoafModel.alike -/
def q12_alike (σ : St) : Option (Int32 × St) :=
  lt (up σ 0 0 0) fun σ1_ =>
  Option.bind (loop2 (fun rec6_ (n9_ : Int32) (a10_ : Int32) =>
  Option.bind (ag σ1_ 1 752 3) fun x15_ =>
  if a10_ < x15_ then
  lt (a10_ + 1) fun b19_ =>
  Option.bind (loop2 (fun rec24_ (n27_ : Int32) (b28_ : Int32) =>
  Option.bind (ag σ1_ 1 752 3) fun x33_ =>
  if b28_ < x33_ then
  Option.bind (Option.bind (Option.bind (q12_of σ1_ a10_ 1) fun x44_ =>
  Option.bind (q12_of σ1_ b28_ 1) fun x46_ =>
  if x44_ = x46_ then (Option.bind (q12_of σ1_ a10_ 2) fun x49_ =>
  Option.bind (q12_of σ1_ b28_ 2) fun x51_ =>
  if x49_ = x51_ then (some true) else (some false)) else (some false)) fun t42_ =>
  if t42_ = true then (some (1 : Int32)) else (some (0 : Int32))) fun x37_ =>
  lt (n27_ + x37_) fun n55_ =>
  lt (b28_ + 1) fun b57_ =>
  rec24_ n55_ b57_
  else (some (n27_, b28_))) fuelN n9_ b19_) fun y21_ =>
  lt (a10_ + 1) fun a59_ =>
  rec6_ y21_.1 a59_
  else (some (n9_, a10_))) fuelN (0 : Int32) (0 : Int32)) fun y3_ =>
  some (y3_.1, σ1_)
abbrev rm12_alike : Room := { frames := 1, cells := 0, slots := 0, locals := 22 }
theorem c12_alike {l : Launch} {kd : List KD} {w : Wp} {σ : St} (hkd : kd = kdM) (hi : zI kd w) {r : (Int32 × St)} (hf : q12_alike σ = some r) : zM l kd w yX12_alike cX12_alike 4 (some .int) rm12_alike [.ref (w.2.2.1 0)] σ (some (.int r.1), r.2) := sorry
/-! LastLoafModel.ahead -/
def q12_ahead (σ : St) (p_a : Int32) (n_a : Int32) (what_a : Int32) : Option (Int32 × St) :=
  Option.bind (Option.bind (q12_isOne σ p_a) fun x6_ =>
  if ¬ (x6_ = true) then (some (1 : Int32)) else (some (if ¬ (q12_isIn n_a 0 60 = true) then 2 else if ¬ (q12_isIn what_a 0 2 = true) then 3 else 0))) fun x1_ =>
  lt (up σ 0 0 x1_) fun σ20_ =>
  if 0 < (σ20_ 0 0) then (some (0, σ20_)) else
  Option.bind (q12_putsAside σ20_) fun x26_ =>
  Option.bind (q12_goes x26_ n_a false) fun x28_ =>
  Option.bind (q12_of x28_.2 p_a (if what_a = 0 then 0 else if what_a = 1 then 5 else 4)) fun x40_ =>
  Option.bind (q12_comesBack x28_.2) fun x42_ =>
  some (x40_, x42_)
abbrev rm12_ahead : Room := { frames := 80, cells := 0, slots := 0, locals := 4263 }
theorem c12_ahead {l : Launch} {kd : List KD} {w : Wp} {σ : St} {p_a : Int32} {n_a : Int32} {what_a : Int32} (hkd : kd = kdM) (hi : zI kd w) {r : (Int32 × St)} (hf : q12_ahead σ p_a n_a what_a = some r) : zM l kd w yX12_ahead cX12_ahead 6 (some .int) rm12_ahead [.ref (w.2.2.1 0), .int p_a, .int n_a, .int what_a] σ (some (.int r.1), r.2) := sorry
/-! LastLoafModel.trial -/
def q12_trial (σ : St) (n_a : Int32) (hunger_a : Bool) : Option (Int32 × St) :=
  lt (up σ 0 0 (if ¬ (q12_isIn n_a 0 60 = true) then 1 else 0)) fun σ6_ =>
  if 0 < (σ6_ 0 0) then (some (0, σ6_)) else
  Option.bind (q12_putsAside σ6_) fun x12_ =>
  Option.bind (q12_goes x12_ n_a true) fun x14_ =>
  Option.bind (if hunger_a = true then (Option.bind (q12_sumOf x14_.2 0) fun x22_ =>
  some x22_) else (Option.bind (q12_those x14_.2 4) fun x24_ =>
  some x24_)) fun x16_ =>
  Option.bind (q12_comesBack x14_.2) fun x27_ =>
  some (x16_, x27_)
abbrev rm12_trial : Room := { frames := 80, cells := 0, slots := 0, locals := 4263 }
theorem c12_trial {l : Launch} {kd : List KD} {w : Wp} {σ : St} {n_a : Int32} {hunger_a : Bool} (hkd : kd = kdM) (hi : zI kd w) {r : (Int32 × St)} (hf : q12_trial σ n_a hunger_a = some r) : zM l kd w yX12_trial cX12_trial 5 (some .int) rm12_trial [.ref (w.2.2.1 0), .int n_a, .int (b2i hunger_a)] σ (some (.int r.1), r.2) := sorry
/-! LastLoafModel.span -/
def q12_span (σ : St) (n_a : Int32) (most_a : Bool) : Option (Int32 × St) :=
  lt (up σ 0 0 (if ¬ (q12_isIn n_a 0 60 = true) then 1 else 0)) fun σ6_ =>
  if 0 < (σ6_ 0 0) then (some (0, σ6_)) else
  Option.bind (q12_putsAside σ6_) fun x12_ =>
  Option.bind (loop3 (fun rec17_ (found20_ : Int32) (s21_ : Int32) (σ22_ : St) =>
  if s21_ ≤ 6 then
  Option.bind (sa σ22_ 1 752 9 s21_) fun σ29_ =>
  Option.bind (q12_goes σ29_ n_a true) fun x31_ =>
  Option.bind (q12_those x31_.2 4) fun x33_ =>
  Option.bind (q12_bits x33_) fun x35_ =>
  Option.bind (q12_comesBack x31_.2) fun x37_ =>
  lt (if found20_ = (-1) then x35_ else if most_a = true then q12_greater found20_ x35_ else q12_lesser found20_ x35_) fun found49_ =>
  lt (s21_ + 1) fun s51_ =>
  rec17_ found49_ s51_ x37_
  else (some (found20_, s21_, σ22_))) fuelN (-1 : Int32) (1 : Int32) x12_) fun y14_ =>
  some (y14_.1, y14_.2.2)
abbrev rm12_span : Room := { frames := 80, cells := 0, slots := 0, locals := 4263 }
theorem c12_span {l : Launch} {kd : List KD} {w : Wp} {σ : St} {n_a : Int32} {most_a : Bool} (hkd : kd = kdM) (hi : zI kd w) {r : (Int32 × St)} (hf : q12_span σ n_a most_a = some r) : zM l kd w yX12_span cX12_span 7 (some .int) rm12_span [.ref (w.2.2.1 0), .int n_a, .int (b2i most_a)] σ (some (.int r.1), r.2) := sorry
/-! LastLoafModel.logged -/
def q12_logged (σ : St) (ago_a : Int32) (what_a : Int32) : Option Int32 :=
  Option.bind (ag σ 1 752 ((112 + (4 * ago_a)) + what_a)) fun x1_ =>
  some x1_
abbrev rm12_logged : Room := { frames := 0, cells := 0, slots := 0, locals := 0 }
theorem c12_logged {l : Launch} {kd : List KD} {w : Wp} {σ : St} {ago_a : Int32} {what_a : Int32} (hkd : kd = kdM) (hi : zI kd w) {r : Int32} (hf : q12_logged σ ago_a what_a = some r) : zM l kd w yX12_logged cX12_logged 3 (some .int) rm12_logged [.ref (w.2.2.1 0), .int ago_a, .int what_a] σ (some (.int r), σ) := sorry
/-! LastLoafModel.led -/
theorem w_11_16 : Cond.code ({ cls := "LastLoafModel", name := "logged", desc := "(II)I" } : MethodName) prog_14_method_145_code (3 : Nat) (Option.some ClassFile.FieldType.int) ∈ TB := sorry
theorem w_11_13 : Cond.methodLink "LastLoafModel" (457 : Nat) ({ cls := "LastLoafModel", name := "logged", desc := "(II)I" } : MethodName) ∈ TB := sorry
theorem w_11_15 : Cond.instanceMethod ({ cls := "LastLoafModel", name := "logged", desc := "(II)I" } : MethodName) ∈ TB := sorry
theorem ws_LastLoafModel_logged_II_I : Cond.selects "LastLoafModel" (⟨"LastLoafModel", "logged", "(II)I"⟩ : MethodName) (⟨"LastLoafModel", "logged", "(II)I"⟩ : MethodName) ∈ TB := sorry
theorem cr12_457 {Θ : Tz} {cc : ByteArray} {nL kc ks : Nat} {ret : Option FieldType} {rm : Room} {Q : State → Prop} {σ : St} {pc : Nat} {lv : List (Nat × Value)} {st : List Value} (C : Zc Θ cc nL RX12 ret rm) (hkd : Θ.2.2.2.2.1 = kdM) {ago_a : Int32} {what_a : Int32} {r : Int32} (hx : q12_logged σ ago_a what_a = some r) (hrm : rm12_logged.frames + 1 ≤ rm.frames ∧ 8 + (3 + 11) + rm12_logged.locals ≤ rm.locals) (hcat : (st.map fun v => v.category).sum ≤ 8) (hk : kc ≤ rm.cells ∧ ks ≤ rm.slots) (hd : decode cc pc = .ok (.invokevirtual 457, 3)) (kk : Z Θ nL kc ks Q σ (pc + 3) lv (.int r :: st)) : Z Θ nL kc ks Q σ pc lv (.int what_a :: .int ago_a :: .ref (zA Θ 0) :: st) := sorry
def q12_led (σ : St) (p_a : Int32) (week_a : Bool) : Option (Int32 × St) :=
  Option.bind (Option.bind (q12_isOne σ p_a) fun x6_ =>
  if ¬ (x6_ = true) then (some (1 : Int32)) else (some (0 : Int32))) fun x1_ =>
  lt (up σ 0 0 x1_) fun σ10_ =>
  if 0 < (σ10_ 0 0) then (some (0, σ10_)) else
  Option.bind (ag σ10_ 1 752 8) fun x16_ =>
  lt (x16_ - 1) fun ago18_ =>
  Option.bind (loop3 (fun rec23_ (n26_ : Int32) (found27_ : Int32) (ago28_ : Int32) =>
  if 0 ≤ ago28_ then
  lt (fun (n45_ : Int32) (found46_ : Int32) (ago47_ : Int32) =>
  lt (ago47_ + (-1)) fun ago49_ =>
  rec23_ n45_ found46_ ago49_) fun k30_ =>
  Option.bind (q12_logged σ10_ ago28_ 2) fun x37_ =>
  if ¬ x37_ = p_a then (k30_ n26_ found27_ ago28_) else
  lt (n26_ + 1) fun n41_ =>
  Option.bind (q12_logged σ10_ ago28_ 0) fun x43_ =>
  k30_ n41_ x43_ ago28_
  else (some (n26_, found27_, ago28_))) fuelN (0 : Int32) (-1 : Int32) ago18_) fun y20_ =>
  some (if week_a = true then y20_.2.1 else y20_.1, σ10_)
abbrev rm12_led : Room := { frames := 2, cells := 0, slots := 0, locals := 43 }
theorem c12_led {l : Launch} {kd : List KD} {w : Wp} {σ : St} {p_a : Int32} {week_a : Bool} (hkd : kd = kdM) (hi : zI kd w) {r : (Int32 × St)} (hf : q12_led σ p_a week_a = some r) : zM l kd w yX12_led cX12_led 6 (some .int) rm12_led [.ref (w.2.2.1 0), .int p_a, .int (b2i week_a)] σ (some (.int r.1), r.2) := sorry
/-! LastLoafModel.log -/
def q12_log (σ : St) (ago_a : Int32) (what_a : Int32) : Option (Int32 × St) :=
  lt (up σ 0 0 (if ¬ (q12_isIn what_a 0 3 = true) then 1 else 0)) fun σ6_ =>
  if 0 < (σ6_ 0 0) then (some (0, σ6_)) else
  Option.bind (Option.bind (ag σ6_ 1 752 8) fun x17_ =>
  if q12_isIn ago_a 0 (x17_ - 1) = true then (Option.bind (q12_logged σ6_ ago_a what_a) fun x20_ =>
  some x20_) else (some (-1 : Int32))) fun x12_ =>
  some (x12_, σ6_)
abbrev rm12_log : Room := { frames := 1, cells := 0, slots := 0, locals := 22 }
theorem c12_log {l : Launch} {kd : List KD} {w : Wp} {σ : St} {ago_a : Int32} {what_a : Int32} (hkd : kd = kdM) (hi : zI kd w) {r : (Int32 × St)} (hf : q12_log σ ago_a what_a = some r) : zM l kd w yX12_log cX12_log 3 (some .int) rm12_log [.ref (w.2.2.1 0), .int ago_a, .int what_a] σ (some (.int r.1), r.2) := sorry
/-! LastLoafModel.seed -/
def q12_seed (σ : St) (n_a : Int32) : Option (Int32 × St) :=
  lt (up σ 0 0 0) fun σ1_ =>
  Option.bind (ag σ1_ 1 752 9) fun x3_ =>
  Option.bind (sa σ1_ 1 752 9 n_a) fun σ5_ =>
  some (x3_, σ5_)
abbrev rm12_seed : Room := { frames := 0, cells := 0, slots := 0, locals := 0 }
theorem c12_seed {l : Launch} {kd : List KD} {w : Wp} {σ : St} {n_a : Int32} (hkd : kd = kdM) (hi : zI kd w) {r : (Int32 × St)} (hf : q12_seed σ n_a = some r) : zM l kd w yX12_seed cX12_seed 3 (some .int) rm12_seed [.ref (w.2.2.1 0), .int n_a] σ (some (.int r.1), r.2) := sorry
/-! LastLoafModel.undo -/
def q12_undo (σ : St) : Option (Bool × St) :=
  lt (up σ 0 0 0) fun σ1_ =>
  if (σ1_ 0 6) = 0 then (some (false, σ1_)) else
  lt (up σ1_ 0 6 ((σ1_ 0 6) - 1)) fun σ7_ =>
  Option.bind (loop2 (fun rec12_ (k15_ : Int32) (σ16_ : St) =>
  if k15_ < 352 then
  Option.bind (ag σ16_ 4 4224 ((352 * (σ16_ 0 6)) + k15_)) fun x23_ =>
  Option.bind (sa σ16_ 1 752 k15_ x23_) fun σ25_ =>
  lt (k15_ + 1) fun k27_ =>
  rec12_ k27_ σ25_
  else (some (k15_, σ16_))) fuelN (0 : Int32) σ7_) fun y9_ =>
  some (true, y9_.2)
abbrev rm12_undo : Room := { frames := 0, cells := 0, slots := 0, locals := 0 }
theorem c12_undo {l : Launch} {kd : List KD} {w : Wp} {σ : St} (hkd : kd = kdM) (hi : zI kd w) {r : (Bool × St)} (hf : q12_undo σ = some r) : zM l kd w yX12_undo cX12_undo 2 (some .boolean) rm12_undo [.ref (w.2.2.1 0)] σ (some (.int (b2i r.1)), r.2) := sorry
/-! LastLoafModel.image -/
theorem sp_752 : (Int16.ofInt (752)).toInt32 = 752 := sorry
theorem w_8_29 : Cond.fieldLink "LastLoafModel" (13 : Nat) "LastLoafModel" "kept" "[I" ∈ TB := sorry
theorem fg12_13 {Θ : Tz} {cc : ByteArray} {nL kc ks : Nat} {ret : Option FieldType} {rm : Room} {Q : State → Prop} {σ : St} {pc : Nat} {lv : List (Nat × Value)} {st : List Value} (C : Zc Θ cc nL RX12 ret rm) (hkd : Θ.2.2.2.2.1 = kdM) (hd : decode cc pc = .ok (.getfield 13, 3)) (kk : Z Θ nL kc ks Q σ (pc + 3) lv (.ref (zA Θ 2) :: st)) : Z Θ nL kc ks Q σ pc lv (.ref (zA Θ 0) :: st) := sorry
theorem w_8_30 : Cond.fieldLink "LastLoafModel" (460 : Nat) "LastLoafModel" "hasImage" "Z" ∈ TB := sorry
theorem fp12_460 {Θ : Tz} {cc : ByteArray} {nL kc ks : Nat} {ret : Option FieldType} {rm : Room} {Q : State → Prop} {σ : St} {pc : Nat} {lv : List (Nat × Value)} {st : List Value} (C : Zc Θ cc nL RX12 ret rm) (hkd : Θ.2.2.2.2.1 = kdM) {b : Bool} {σ1 : St} (he : σ1 = up σ 0 3 (b2i b)) (hd : decode cc pc = .ok (.putfield 460, 3)) (kk : Z Θ nL kc ks Q σ1 (pc + 3) lv st) : Z Θ nL kc ks Q σ pc lv (.int (b2i b) :: .ref (zA Θ 0) :: st) := sorry
def q12_image (σ : St) : Option St :=
  lt (up σ 0 0 0) fun σ1_ =>
  Option.bind (loop2 (fun rec6_ (k9_ : Int32) (σ10_ : St) =>
  if k9_ < 752 then
  Option.bind (ag σ10_ 1 752 k9_) fun x17_ =>
  Option.bind (sa σ10_ 2 752 k9_ x17_) fun σ19_ =>
  lt (k9_ + 1) fun k21_ =>
  rec6_ k21_ σ19_
  else (some (k9_, σ10_))) fuelN (0 : Int32) σ1_) fun y3_ =>
  lt (up y3_.2 0 3 (b2i true)) fun σ23_ =>
  some σ23_
abbrev rm12_image : Room := { frames := 0, cells := 0, slots := 0, locals := 0 }
theorem c12_image {l : Launch} {kd : List KD} {w : Wp} {σ : St} (hkd : kd = kdM) (hi : zI kd w) {r : St} (hf : q12_image σ = some r) : zM l kd w yX12_image cX12_image 2 none rm12_image [.ref (w.2.2.1 0)] σ (none, r) := sorry
/-! LastLoafModel.back -/
theorem fg12_460 {Θ : Tz} {cc : ByteArray} {nL kc ks : Nat} {ret : Option FieldType} {rm : Room} {Q : State → Prop} {σ : St} {pc : Nat} {lv : List (Nat × Value)} {st : List Value} (C : Zc Θ cc nL RX12 ret rm) (hkd : Θ.2.2.2.2.1 = kdM) (hd : decode cc pc = .ok (.getfield 460, 3)) (kk : Z Θ nL kc ks Q σ (pc + 3) lv (.int (σ 0 3) :: st)) : Z Θ nL kc ks Q σ pc lv (.ref (zA Θ 0) :: st) := sorry
def q12_back (σ : St) : Option (Bool × St) :=
  lt (up σ 0 0 0) fun σ1_ =>
  if ¬ (¬ (σ1_ 0 3) = 0) then (some (false, σ1_)) else
  Option.bind (loop2 (fun rec10_ (k13_ : Int32) (σ14_ : St) =>
  if k13_ < 752 then
  Option.bind (ag σ14_ 2 752 k13_) fun x21_ =>
  Option.bind (sa σ14_ 1 752 k13_ x21_) fun σ23_ =>
  lt (k13_ + 1) fun k25_ =>
  rec10_ k25_ σ23_
  else (some (k13_, σ14_))) fuelN (0 : Int32) σ1_) fun y7_ =>
  lt (up y7_.2 0 6 0) fun σ27_ =>
  some (true, σ27_)
abbrev rm12_back : Room := { frames := 0, cells := 0, slots := 0, locals := 0 }
theorem c12_back {l : Launch} {kd : List KD} {w : Wp} {σ : St} (hkd : kd = kdM) (hi : zI kd w) {r : (Bool × St)} (hf : q12_back σ = some r) : zM l kd w yX12_back cX12_back 2 (some .boolean) rm12_back [.ref (w.2.2.1 0)] σ (some (.int (b2i r.1)), r.2) := sorry
/-! LastLoafModel.count -/
def q12_count (σ : St) (what_a : Int32) : Option (Int32 × St) :=
  lt (up σ 0 0 0) fun σ1_ =>
  if what_a = 0 then (Option.bind (ag σ1_ 1 752 3) fun x7_ =>
  some (x7_, σ1_)) else
  if what_a = 1 then (Option.bind (ag σ1_ 1 752 0) fun x13_ =>
  some (x13_, σ1_)) else
  if what_a = 2 then (Option.bind (ag σ1_ 1 752 1) fun x19_ =>
  some (x19_, σ1_)) else
  if q12_isIn what_a 3 6 = true then (Option.bind (ag σ1_ 1 752 ((4 + what_a) - 3)) fun x25_ =>
  some (x25_, σ1_)) else
  Option.bind (q12_looks σ1_) fun x27_ =>
  if what_a = 7 then (some (x27_ 0 20, x27_)) else
  if what_a = 8 then (some (x27_ 0 21, x27_)) else
  if what_a = 9 then (Option.bind (q12_sumOf x27_ 0) fun x41_ =>
  some (x41_, x27_)) else
  if what_a = 10 then (Option.bind (q12_sumOf x27_ 5) fun x47_ =>
  some (x47_, x27_)) else
  if what_a = 11 then (Option.bind (ag x27_ 1 752 8) fun x53_ =>
  some (x53_, x27_)) else
  some (if what_a = 12 then x27_ 0 6 else (-1), x27_)
abbrev rm12_count : Room := { frames := 77, cells := 0, slots := 0, locals := 4194 }
theorem c12_count {l : Launch} {kd : List KD} {w : Wp} {σ : St} {what_a : Int32} (hkd : kd = kdM) (hi : zI kd w) {r : (Int32 × St)} (hf : q12_count σ what_a = some r) : zM l kd w yX12_count cX12_count 2 (some .int) rm12_count [.ref (w.2.2.1 0), .int what_a] σ (some (.int r.1), r.2) := sorry

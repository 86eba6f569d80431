/-! LastLoaf.kindest -/
def q11_kindest (σ : St) (n_a : Int32) : Option (Sum Nat Int32 × St) :=
  thn (q11_needNumber n_a 0 60) σ
  (Option.bind (loop4 (fun rec6_ (best9_ : Int32) (fewest10_ : Int32) (way11_ : Int32) (σ12_ : St) =>
  if way11_ < 6 then
  Option.bind (q11_leftHungry σ12_ way11_ n_a) fun x19_ =>
  lt (if x19_.1 < fewest10_ then ((way11_, x19_.1)) else ((best9_, fewest10_))) fun y21_ =>
  lt (way11_ + 1) fun way28_ =>
  rec6_ y21_.1 y21_.2 way28_ x19_.2
  else (some (best9_, fewest10_, way11_, σ12_))) fuelN (0 : Int32) (7 : Int32) (0 : Int32) σ) fun y3_ =>
  some (.inr y3_.1, y3_.2.2.2))
abbrev rm11_kindest : Room := { frames := 7, cells := 1, slots := 6, locals := 166 }
theorem c11_kindest {l : Launch} {kd : List KD} {w : Wp} {σ : St} {n_a : Int32} (hkd : kd = kdC) (hi : zI kd w) (hlt : l.stackTraces = false) {r : (Sum Nat Int32 × St)} (hf : q11_kindest σ n_a = some r) : zX l kd w yX11_kindest cX11_kindest 6 (some .int) rm11_kindest [.ref (w.2.2.1 0), .int n_a] σ (om (fun v => some (.int v)) r) 1 6 := sorry
/-! LastLoaf.lookAhead -/
def q11_lookAhead (σ : St) (n_a : Int32) : Option St :=
  Option.bind (q10_become σ 54 44) fun x1_ =>
  Option.bind (q0_bakeWeeks x1_ 54 n_a false) fun x3_ =>
  some x3_
abbrev rm11_lookAhead : Room := { frames := 6, cells := 0, slots := 0, locals := 144 }
theorem c11_lookAhead {l : Launch} {kd : List KD} {w : Wp} {σ : St} {n_a : Int32} (hkd : kd = kdC) (hi : zI kd w) {r : St} (hf : q11_lookAhead σ n_a = some r) : zM l kd w yX11_lookAhead cX11_lookAhead 2 none rm11_lookAhead [.ref (w.2.2.1 0), .int n_a] σ (none, r) := sorry
/-! LastLoaf.next -/
theorem w_6_215 : Cond.code ({ cls := "LastLoaf", name := "lookAhead", desc := "(I)V" } : MethodName) prog_1_method_78_code (2 : Nat) (Option.none : Option ClassFile.FieldType) ∈ TB := sorry
theorem w_6_212 : Cond.methodLink "LastLoaf" (292 : Nat) ({ cls := "LastLoaf", name := "lookAhead", desc := "(I)V" } : MethodName) ∈ TB := sorry
theorem w_6_214 : Cond.instanceMethod ({ cls := "LastLoaf", name := "lookAhead", desc := "(I)V" } : MethodName) ∈ TB := sorry
theorem ws_LastLoaf_lookAhead_I_V : Cond.selects "LastLoaf" (⟨"LastLoaf", "lookAhead", "(I)V"⟩ : MethodName) (⟨"LastLoaf", "lookAhead", "(I)V"⟩ : MethodName) ∈ TB := sorry
theorem cr11_292 {Θ : Tz} {cc : ByteArray} {nL kc ks : Nat} {ret : Option FieldType} {rm : Room} {Q : State → Prop} {σ : St} {pc : Nat} {lv : List (Nat × Value)} {st : List Value} (C : Zc Θ cc nL RX11 ret rm) (hkd : Θ.2.2.2.2.1 = kdC) {n_a : Int32} {r : St} (hx : q11_lookAhead σ n_a = some r) (hrm : rm11_lookAhead.frames + 1 ≤ rm.frames ∧ 8 + (2 + 11) + rm11_lookAhead.locals ≤ rm.locals) (hcat : (st.map fun v => v.category).sum ≤ 8) (hk : kc ≤ rm.cells ∧ ks ≤ rm.slots) (hd : decode cc pc = .ok (.invokevirtual 292, 3)) (kk : Z Θ nL kc ks Q r (pc + 3) lv st) : Z Θ nL kc ks Q σ pc lv (.int n_a :: .ref (zA Θ 0) :: st) := sorry
def q11_next (σ : St) (n_a : Int32) : Option (Sum Nat Int32 × St) :=
  thn (q11_needNumber n_a 0 60) σ
  (Option.bind (q11_lookAhead σ n_a) fun x3_ =>
  Option.bind (q5_hold x3_ 54 32) fun x5_ =>
  Option.bind (q5_winnerBy x5_ (x5_ 54 13)) fun x7_ =>
  some (.inr x7_.1, x7_.2))
abbrev rm11_next : Room := { frames := 7, cells := 1, slots := 6, locals := 165 }
theorem c11_next {l : Launch} {kd : List KD} {w : Wp} {σ : St} {n_a : Int32} (hkd : kd = kdC) (hi : zI kd w) (hlt : l.stackTraces = false) {r : (Sum Nat Int32 × St)} (hf : q11_next σ n_a = some r) : zX l kd w yX11_next cX11_next 2 (some .int) rm11_next [.ref (w.2.2.1 0), .int n_a] σ (om (fun v => some (.int v)) r) 1 6 := sorry
/-! LastLoaf.woo -/
def q11_woo (σ : St) (person_a : Int32) : Option (Sum Nat Int32 × St) :=
  thn (q11_needPerson σ person_a) σ
  (Option.bind (q11_pollNow σ) fun x3_ =>
  Option.bind (q5_wonOver x3_.2 person_a) fun x5_ =>
  some (.inr x5_.1, x5_.2))
abbrev rm11_woo : Room := { frames := 7, cells := 1, slots := 6, locals := 116 }
theorem c11_woo {l : Launch} {kd : List KD} {w : Wp} {σ : St} {person_a : Int32} (hkd : kd = kdC) (hi : zI kd w) (hlt : l.stackTraces = false) {r : (Sum Nat Int32 × St)} (hf : q11_woo σ person_a = some r) : zX l kd w yX11_woo cX11_woo 2 (some .int) rm11_woo [.ref (w.2.2.1 0), .int person_a] σ (om (fun v => some (.int v)) r) 1 6 := sorry
/-! LastLoaf$Poll.holderAfter -/
theorem w_2_45 : Cond.fieldLink "LastLoaf$Poll" (24 : Nat) "LastLoaf$Poll" "beaten" "[I" ∈ TB := sorry
theorem fg5_24 {Θ : Tz} {cc : ByteArray} {nL kc ks : Nat} {ret : Option FieldType} {rm : Room} {Q : State → Prop} {σ : St} {pc : Nat} {lv : List (Nat × Value)} {st : List Value} (C : Zc Θ cc nL RX5 ret rm) (hkd : Θ.2.2.2.2.1 = kdC) (hd : decode cc pc = .ok (.getfield 24, 3)) (kk : Z Θ nL kc ks Q σ (pc + 3) lv (.ref (zA Θ 11) :: st)) : Z Θ nL kc ks Q σ pc lv (.ref (zA Θ 6) :: st) := sorry
def q5_holderAfter (σ : St) (holder_a : Int32) (coming_a : Int32) : Option Int32 :=
  Option.bind (Option.bind (if holder_a = (-1) then (some true) else (Option.bind (ag σ 11 6 coming_a) fun x9_ =>
  if q11_isIn x9_ holder_a = true then (some true) else (some false))) fun t6_ =>
  if t6_ = true then (some coming_a) else (some holder_a)) fun x1_ =>
  some x1_
abbrev rm5_holderAfter : Room := { frames := 1, cells := 0, slots := 0, locals := 21 }
theorem c5_holderAfter {l : Launch} {kd : List KD} {w : Wp} {σ : St} {holder_a : Int32} {coming_a : Int32} (hkd : kd = kdC) (hi : zI kd w) {r : Int32} (hf : q5_holderAfter σ holder_a coming_a = some r) : zM l kd w yX5_holderAfter cX5_holderAfter 3 (some .int) rm5_holderAfter [.ref (w.2.2.1 6), .int holder_a, .int coming_a] σ (some (.int r), σ) := sorry
/-! LastLoaf$Poll.endsWith -/
theorem w_2_46 : Cond.fieldLink "LastLoaf$Poll" (27 : Nat) "LastLoaf$Poll" "ends" "[I" ∈ TB := sorry
theorem fg5_27 {Θ : Tz} {cc : ByteArray} {nL kc ks : Nat} {ret : Option FieldType} {rm : Room} {Q : State → Prop} {σ : St} {pc : Nat} {lv : List (Nat × Value)} {st : List Value} (C : Zc Θ cc nL RX5 ret rm) (hkd : Θ.2.2.2.2.1 = kdC) (hd : decode cc pc = .ok (.getfield 27, 3)) (kk : Z Θ nL kc ks Q σ (pc + 3) lv (.ref (zA Θ 12) :: st)) : Z Θ nL kc ks Q σ pc lv (.ref (zA Θ 6) :: st) := sorry
theorem w_3_100 : Cond.code ({ cls := "LastLoaf$Poll", name := "holderAfter", desc := "(II)I" } : MethodName) prog_7_method_21_code (3 : Nat) (Option.some ClassFile.FieldType.int) ∈ TB := sorry
theorem w_3_97 : Cond.methodLink "LastLoaf$Poll" (137 : Nat) ({ cls := "LastLoaf$Poll", name := "holderAfter", desc := "(II)I" } : MethodName) ∈ TB := sorry
theorem w_3_98 : Cond.instanceMethod ({ cls := "LastLoaf$Poll", name := "holderAfter", desc := "(II)I" } : MethodName) ∈ TB := sorry
theorem w_3_99 : Cond.selects "LastLoaf$Poll" ({ cls := "LastLoaf$Poll", name := "holderAfter", desc := "(II)I" } : MethodName) ({ cls := "LastLoaf$Poll", name := "holderAfter", desc := "(II)I" } : MethodName) ∈ TB := sorry
theorem cr5_137 {Θ : Tz} {cc : ByteArray} {nL kc ks : Nat} {ret : Option FieldType} {rm : Room} {Q : State → Prop} {σ : St} {pc : Nat} {lv : List (Nat × Value)} {st : List Value} (C : Zc Θ cc nL RX5 ret rm) (hkd : Θ.2.2.2.2.1 = kdC) {holder_a : Int32} {coming_a : Int32} {r : Int32} (hx : q5_holderAfter σ holder_a coming_a = some r) (hrm : rm5_holderAfter.frames + 1 ≤ rm.frames ∧ 8 + (3 + 11) + rm5_holderAfter.locals ≤ rm.locals) (hcat : (st.map fun v => v.category).sum ≤ 8) (hk : kc ≤ rm.cells ∧ ks ≤ rm.slots) (hd : decode cc pc = .ok (.invokevirtual 137, 3)) (kk : Z Θ nL kc ks Q σ (pc + 3) lv (.int r :: st)) : Z Θ nL kc ks Q σ pc lv (.int coming_a :: .int holder_a :: .ref (zA Θ 6) :: st) := sorry
def q5_endsWith (σ : St) (met_a : Int32) (holder_a : Int32) (coming_a : Int32) : Option Int32 :=
  Option.bind (q5_holderAfter σ holder_a coming_a) fun x1_ =>
  Option.bind (ag σ 12 384 (((met_a ||| (shl 1 coming_a)) * 6) + x1_)) fun x3_ =>
  some x3_
abbrev rm5_endsWith : Room := { frames := 2, cells := 0, slots := 0, locals := 43 }
theorem c5_endsWith {l : Launch} {kd : List KD} {w : Wp} {σ : St} {met_a : Int32} {holder_a : Int32} {coming_a : Int32} (hkd : kd = kdC) (hi : zI kd w) {r : Int32} (hf : q5_endsWith σ met_a holder_a coming_a = some r) : zM l kd w yX5_endsWith cX5_endsWith 4 (some .int) rm5_endsWith [.ref (w.2.2.1 6), .int met_a, .int holder_a, .int coming_a] σ (some (.int r), σ) := sorry
/-! LastLoaf$Poll.endsOf -/
theorem w_3_96 : Cond.code ({ cls := "LastLoaf$Poll", name := "endsWith", desc := "(III)I" } : MethodName) prog_7_method_20_code (4 : Nat) (Option.some ClassFile.FieldType.int) ∈ TB := sorry
theorem w_3_93 : Cond.methodLink "LastLoaf$Poll" (133 : Nat) ({ cls := "LastLoaf$Poll", name := "endsWith", desc := "(III)I" } : MethodName) ∈ TB := sorry
theorem w_3_94 : Cond.instanceMethod ({ cls := "LastLoaf$Poll", name := "endsWith", desc := "(III)I" } : MethodName) ∈ TB := sorry
theorem w_3_95 : Cond.selects "LastLoaf$Poll" ({ cls := "LastLoaf$Poll", name := "endsWith", desc := "(III)I" } : MethodName) ({ cls := "LastLoaf$Poll", name := "endsWith", desc := "(III)I" } : MethodName) ∈ TB := sorry
theorem cr5_133 {Θ : Tz} {cc : ByteArray} {nL kc ks : Nat} {ret : Option FieldType} {rm : Room} {Q : State → Prop} {σ : St} {pc : Nat} {lv : List (Nat × Value)} {st : List Value} (C : Zc Θ cc nL RX5 ret rm) (hkd : Θ.2.2.2.2.1 = kdC) {met_a : Int32} {holder_a : Int32} {coming_a : Int32} {r : Int32} (hx : q5_endsWith σ met_a holder_a coming_a = some r) (hrm : rm5_endsWith.frames + 1 ≤ rm.frames ∧ 8 + (4 + 11) + rm5_endsWith.locals ≤ rm.locals) (hcat : (st.map fun v => v.category).sum ≤ 8) (hk : kc ≤ rm.cells ∧ ks ≤ rm.slots) (hd : decode cc pc = .ok (.invokevirtual 133, 3)) (kk : Z Θ nL kc ks Q σ (pc + 3) lv (.int r :: st)) : Z Θ nL kc ks Q σ pc lv (.int coming_a :: .int holder_a :: .int met_a :: .ref (zA Θ 6) :: st) := sorry
def q5_endsOf (σ : St) (met_a : Int32) (holder_a : Int32) : Option Int32 :=
  if (¬ (met_a &&& ((σ 6 7) ^^^ (-1))) = 0) ∨ (¬ (q11_isIn met_a holder_a = true)) then (some 0) else
  if met_a = (σ 6 7) then (some (shl 1 holder_a)) else
  Option.bind (loop2 (fun rec13_ (bits16_ : Int32) (r17_ : Int32) =>
  if r17_ < (σ 6 6) then
  Option.bind (if q11_isIn ((σ 6 7) &&& (met_a ^^^ (-1))) r17_ = true then (Option.bind (q5_endsWith σ met_a holder_a r17_) fun x31_ =>
  lt (bits16_ ||| x31_) fun bits33_ =>
  some (bits33_)) else (some (bits16_))) fun y24_ =>
  lt (r17_ + 1) fun r35_ =>
  rec13_ y24_ r35_
  else (some (bits16_, r17_))) fuelN (0 : Int32) (0 : Int32)) fun y10_ =>
  some y10_.1
abbrev rm5_endsOf : Room := { frames := 3, cells := 0, slots := 0, locals := 66 }
theorem c5_endsOf {l : Launch} {kd : List KD} {w : Wp} {σ : St} {met_a : Int32} {holder_a : Int32} (hkd : kd = kdC) (hi : zI kd w) {r : Int32} (hf : q5_endsOf σ met_a holder_a = some r) : zM l kd w yX5_endsOf cX5_endsOf 5 (some .int) rm5_endsOf [.ref (w.2.2.1 6), .int met_a, .int holder_a] σ (some (.int r), σ) := sorry
/-! LastLoaf$Poll.meetInAllOrders -/
theorem w_3_92 : Cond.code ({ cls := "LastLoaf$Poll", name := "endsOf", desc := "(II)I" } : MethodName) prog_7_method_19_code (5 : Nat) (Option.some ClassFile.FieldType.int) ∈ TB := sorry
theorem w_3_89 : Cond.methodLink "LastLoaf$Poll" (130 : Nat) ({ cls := "LastLoaf$Poll", name := "endsOf", desc := "(II)I" } : MethodName) ∈ TB := sorry
theorem w_3_90 : Cond.instanceMethod ({ cls := "LastLoaf$Poll", name := "endsOf", desc := "(II)I" } : MethodName) ∈ TB := sorry
theorem w_3_91 : Cond.selects "LastLoaf$Poll" ({ cls := "LastLoaf$Poll", name := "endsOf", desc := "(II)I" } : MethodName) ({ cls := "LastLoaf$Poll", name := "endsOf", desc := "(II)I" } : MethodName) ∈ TB := sorry
theorem cr5_130 {Θ : Tz} {cc : ByteArray} {nL kc ks : Nat} {ret : Option FieldType} {rm : Room} {Q : State → Prop} {σ : St} {pc : Nat} {lv : List (Nat × Value)} {st : List Value} (C : Zc Θ cc nL RX5 ret rm) (hkd : Θ.2.2.2.2.1 = kdC) {met_a : Int32} {holder_a : Int32} {r : Int32} (hx : q5_endsOf σ met_a holder_a = some r) (hrm : rm5_endsOf.frames + 1 ≤ rm.frames ∧ 8 + (5 + 11) + rm5_endsOf.locals ≤ rm.locals) (hcat : (st.map fun v => v.category).sum ≤ 8) (hk : kc ≤ rm.cells ∧ ks ≤ rm.slots) (hd : decode cc pc = .ok (.invokevirtual 130, 3)) (kk : Z Θ nL kc ks Q σ (pc + 3) lv (.int r :: st)) : Z Θ nL kc ks Q σ pc lv (.int holder_a :: .int met_a :: .ref (zA Θ 6) :: st) := sorry
def q5_meetInAllOrders (σ : St) : Option St :=
  Option.bind (loop2 (fun rec4_ (a7_ : Int32) (σ8_ : St) =>
  if a7_ < (σ8_ 6 6) then
  Option.bind (sa σ8_ 11 6 a7_ 0) fun σ15_ =>
  Option.bind (loop2 (fun rec20_ (b23_ : Int32) (σ24_ : St) =>
  if b23_ < (σ24_ 6 6) then
  Option.bind (Option.bind (if ¬ a7_ = b23_ then (Option.bind (q5_isAhead σ24_ a7_ b23_) fun x39_ =>
  if x39_ = true then (some true) else (some false)) else (some false)) fun t36_ =>
  if t36_ = true then (Option.bind (ag σ24_ 11 6 a7_) fun x43_ =>
  Option.bind (sa σ24_ 11 6 a7_ (x43_ ||| (shl 1 b23_))) fun σ45_ =>
  some (σ45_)) else (some (σ24_))) fun y31_ =>
  lt (b23_ + 1) fun b47_ =>
  rec20_ b47_ y31_
  else (some (b23_, σ24_))) fuelN (0 : Int32) σ15_) fun y17_ =>
  lt (a7_ + 1) fun a49_ =>
  rec4_ a49_ y17_.2
  else (some (a7_, σ8_))) fuelN (0 : Int32) σ) fun y1_ =>
  lt (y1_.2 6 7) fun met51_ =>
  Option.bind (loop2 (fun rec56_ (met59_ : Int32) (σ60_ : St) =>
  if 0 < met59_ then
  Option.bind (loop2 (fun rec70_ (holder73_ : Int32) (σ74_ : St) =>
  if holder73_ < (σ74_ 6 6) then
  Option.bind (q5_endsOf σ74_ met59_ holder73_) fun x81_ =>
  Option.bind (sa σ74_ 12 384 ((met59_ * 6) + holder73_) x81_) fun σ83_ =>
  lt (holder73_ + 1) fun holder85_ =>
  rec70_ holder85_ σ83_
  else (some (holder73_, σ74_))) fuelN (0 : Int32) σ60_) fun y67_ =>
  lt (met59_ + (-1)) fun met87_ =>
  rec56_ met87_ y67_.2
  else (some (met59_, σ60_))) fuelN met51_ y1_.2) fun y53_ =>
  some y53_.2
abbrev rm5_meetInAllOrders : Room := { frames := 4, cells := 0, slots := 0, locals := 90 }
theorem c5_meetInAllOrders {l : Launch} {kd : List KD} {w : Wp} {σ : St} (hkd : kd = kdC) (hi : zI kd w) {r : St} (hf : q5_meetInAllOrders σ = some r) : zM l kd w yX5_meetInAllOrders cX5_meetInAllOrders 3 none rm5_meetInAllOrders [.ref (w.2.2.1 6)] σ (none, r) := sorry
/-! LastLoaf$Poll.possibleLast -/
def q5_possibleLast (σ : St) : Option Int32 :=
  Option.bind (loop2 (fun rec4_ (bits7_ : Int32) (r8_ : Int32) =>
  if r8_ < (σ 6 6) then
  Option.bind (if q11_isIn (σ 6 7) r8_ = true then (Option.bind (q5_endsWith σ 0 (-1) r8_) fun x22_ =>
  lt (bits7_ ||| x22_) fun bits24_ =>
  some (bits24_)) else (some (bits7_))) fun y15_ =>
  lt (r8_ + 1) fun r26_ =>
  rec4_ y15_ r26_
  else (some (bits7_, r8_))) fuelN (0 : Int32) (0 : Int32)) fun y1_ =>
  some y1_.1
abbrev rm5_possibleLast : Room := { frames := 3, cells := 0, slots := 0, locals := 66 }
theorem c5_possibleLast {l : Launch} {kd : List KD} {w : Wp} {σ : St} (hkd : kd = kdC) (hi : zI kd w) {r : Int32} (hf : q5_possibleLast σ = some r) : zM l kd w yX5_possibleLast cX5_possibleLast 3 (some .int) rm5_possibleLast [.ref (w.2.2.1 6)] σ (some (.int r), σ) := sorry
/-! LastLoaf.orders -/
theorem w_3_88 : Cond.code ({ cls := "LastLoaf$Poll", name := "meetInAllOrders", desc := "()V" } : MethodName) prog_7_method_18_code (3 : Nat) (Option.none : Option ClassFile.FieldType) ∈ TB := sorry
theorem w_3_85 : Cond.methodLink "LastLoaf" (302 : Nat) ({ cls := "LastLoaf$Poll", name := "meetInAllOrders", desc := "()V" } : MethodName) ∈ TB := sorry
theorem w_3_86 : Cond.instanceMethod ({ cls := "LastLoaf$Poll", name := "meetInAllOrders", desc := "()V" } : MethodName) ∈ TB := sorry
theorem w_3_87 : Cond.selects "LastLoaf$Poll" ({ cls := "LastLoaf$Poll", name := "meetInAllOrders", desc := "()V" } : MethodName) ({ cls := "LastLoaf$Poll", name := "meetInAllOrders", desc := "()V" } : MethodName) ∈ TB := sorry
theorem cr11_302 {Θ : Tz} {cc : ByteArray} {nL kc ks : Nat} {ret : Option FieldType} {rm : Room} {Q : State → Prop} {σ : St} {pc : Nat} {lv : List (Nat × Value)} {st : List Value} (C : Zc Θ cc nL RX11 ret rm) (hkd : Θ.2.2.2.2.1 = kdC) {r : St} (hx : q5_meetInAllOrders σ = some r) (hrm : rm5_meetInAllOrders.frames + 1 ≤ rm.frames ∧ 8 + (3 + 11) + rm5_meetInAllOrders.locals ≤ rm.locals) (hcat : (st.map fun v => v.category).sum ≤ 8) (hk : kc ≤ rm.cells ∧ ks ≤ rm.slots) (hd : decode cc pc = .ok (.invokevirtual 302, 3)) (kk : Z Θ nL kc ks Q r (pc + 3) lv st) : Z Θ nL kc ks Q σ pc lv (.ref (zA Θ 6) :: st) := sorry
theorem w_3_104 : Cond.code ({ cls := "LastLoaf$Poll", name := "possibleLast", desc := "()I" } : MethodName) prog_7_method_22_code (3 : Nat) (Option.some ClassFile.FieldType.int) ∈ TB := sorry
theorem w_3_101 : Cond.methodLink "LastLoaf" (305 : Nat) ({ cls := "LastLoaf$Poll", name := "possibleLast", desc := "()I" } : MethodName) ∈ TB := sorry
theorem w_3_102 : Cond.instanceMethod ({ cls := "LastLoaf$Poll", name := "possibleLast", desc := "()I" } : MethodName) ∈ TB := sorry
theorem w_3_103 : Cond.selects "LastLoaf$Poll" ({ cls := "LastLoaf$Poll", name := "possibleLast", desc := "()I" } : MethodName) ({ cls := "LastLoaf$Poll", name := "possibleLast", desc := "()I" } : MethodName) ∈ TB := sorry
theorem cr11_305 {Θ : Tz} {cc : ByteArray} {nL kc ks : Nat} {ret : Option FieldType} {rm : Room} {Q : State → Prop} {σ : St} {pc : Nat} {lv : List (Nat × Value)} {st : List Value} (C : Zc Θ cc nL RX11 ret rm) (hkd : Θ.2.2.2.2.1 = kdC) {r : Int32} (hx : q5_possibleLast σ = some r) (hrm : rm5_possibleLast.frames + 1 ≤ rm.frames ∧ 8 + (3 + 11) + rm5_possibleLast.locals ≤ rm.locals) (hcat : (st.map fun v => v.category).sum ≤ 8) (hk : kc ≤ rm.cells ∧ ks ≤ rm.slots) (hd : decode cc pc = .ok (.invokevirtual 305, 3)) (kk : Z Θ nL kc ks Q σ (pc + 3) lv (.int r :: st)) : Z Θ nL kc ks Q σ pc lv (.ref (zA Θ 6) :: st) := sorry
def q11_orders (σ : St) : Option (Int32 × St) :=
  Option.bind (q11_pollNow σ) fun x1_ =>
  Option.bind (q5_meetInAllOrders x1_.2) fun x3_ =>
  Option.bind (q5_possibleLast x3_) fun x5_ =>
  some (x5_, x3_)
abbrev rm11_orders : Room := { frames := 5, cells := 0, slots := 0, locals := 116 }
theorem c11_orders {l : Launch} {kd : List KD} {w : Wp} {σ : St} (hkd : kd = kdC) (hi : zI kd w) {r : (Int32 × St)} (hf : q11_orders σ = some r) : zM l kd w yX11_orders cX11_orders 1 (some .int) rm11_orders [.ref (w.2.2.1 0)] σ (some (.int r.1), r.2) := sorry
/-! LastLoaf$Poll.leastTowards -/
def q5_leastTowards (σ : St) (person_a : Int32) (met_a : Int32) (holder_a : Int32) : Option Int32 :=
  Option.bind (loop1 (fun rec4_ (r7_ : Int32) =>
  if r7_ < (σ 6 6) then
  Option.bind (if q11_isIn ((σ 6 7) &&& (met_a ^^^ (-1))) r7_ = true then (Option.bind (q5_endsWith σ met_a holder_a r7_) fun x19_ =>
  if q11_isIn x19_ person_a = true then (some true) else (some false)) else (some false)) fun t16_ =>
  if t16_ = true then (some (.inl r7_)) else
  lt (r7_ + 1) fun r23_ =>
  rec4_ r23_
  else (some (.inr r7_))) fuelN (0 : Int32)) fun y1_ =>
  Sum.elim (fun x9 => some x9) (fun y1_r =>
  some (-1)) y1_
abbrev rm5_leastTowards : Room := { frames := 3, cells := 0, slots := 0, locals := 66 }
theorem c5_leastTowards {l : Launch} {kd : List KD} {w : Wp} {σ : St} {person_a : Int32} {met_a : Int32} {holder_a : Int32} (hkd : kd = kdC) (hi : zI kd w) {r : Int32} (hf : q5_leastTowards σ person_a met_a holder_a = some r) : zM l kd w yX5_leastTowards cX5_leastTowards 5 (some .int) rm5_leastTowards [.ref (w.2.2.1 6), .int person_a, .int met_a, .int holder_a] σ (some (.int r), σ) := sorry
/-! LastLoaf$Poll.placeInOrder -/
theorem w_6_237 : Cond.code ({ cls := "LastLoaf$Poll", name := "leastTowards", desc := "(III)I" } : MethodName) prog_7_method_24_code (5 : Nat) (Option.some ClassFile.FieldType.int) ∈ TB := sorry
theorem w_6_234 : Cond.methodLink "LastLoaf$Poll" (140 : Nat) ({ cls := "LastLoaf$Poll", name := "leastTowards", desc := "(III)I" } : MethodName) ∈ TB := sorry
theorem w_6_235 : Cond.instanceMethod ({ cls := "LastLoaf$Poll", name := "leastTowards", desc := "(III)I" } : MethodName) ∈ TB := sorry
theorem w_6_236 : Cond.selects "LastLoaf$Poll" ({ cls := "LastLoaf$Poll", name := "leastTowards", desc := "(III)I" } : MethodName) ({ cls := "LastLoaf$Poll", name := "leastTowards", desc := "(III)I" } : MethodName) ∈ TB := sorry
theorem cr5_140 {Θ : Tz} {cc : ByteArray} {nL kc ks : Nat} {ret : Option FieldType} {rm : Room} {Q : State → Prop} {σ : St} {pc : Nat} {lv : List (Nat × Value)} {st : List Value} (C : Zc Θ cc nL RX5 ret rm) (hkd : Θ.2.2.2.2.1 = kdC) {person_a : Int32} {met_a : Int32} {holder_a : Int32} {r : Int32} (hx : q5_leastTowards σ person_a met_a holder_a = some r) (hrm : rm5_leastTowards.frames + 1 ≤ rm.frames ∧ 8 + (5 + 11) + rm5_leastTowards.locals ≤ rm.locals) (hcat : (st.map fun v => v.category).sum ≤ 8) (hk : kc ≤ rm.cells ∧ ks ≤ rm.slots) (hd : decode cc pc = .ok (.invokevirtual 140, 3)) (kk : Z Θ nL kc ks Q σ (pc + 3) lv (.int r :: st)) : Z Θ nL kc ks Q σ pc lv (.int holder_a :: .int met_a :: .int person_a :: .ref (zA Θ 6) :: st) := sorry
def q5_placeInOrder (σ : St) (person_a : Int32) (k_a : Int32) : Option Int32 :=
  if (k_a < 0) ∨ ((σ 6 8) ≤ k_a) then (some (-1)) else
  Option.bind (loop4 (fun rec9_ (met12_ : Int32) (holder13_ : Int32) (coming14_ : Int32) (i15_ : Int32) =>
  if i15_ ≤ k_a then
  Option.bind (q5_leastTowards σ person_a met12_ holder13_) fun x22_ =>
  if x22_ = (-1) then (some (.inl (-1))) else
  Option.bind (q5_holderAfter σ holder13_ x22_) fun x28_ =>
  lt (met12_ ||| (shl 1 x22_)) fun met30_ =>
  lt (i15_ + 1) fun i32_ =>
  rec9_ met30_ x28_ x22_ i32_
  else (some (.inr (met12_, holder13_, coming14_, i15_)))) fuelN (0 : Int32) (-1 : Int32) (-1 : Int32) (0 : Int32)) fun y6_ =>
  Sum.elim (fun x9 => some x9) (fun y6_r =>
  some y6_r.2.2.1) y6_
abbrev rm5_placeInOrder : Room := { frames := 4, cells := 0, slots := 0, locals := 90 }
theorem c5_placeInOrder {l : Launch} {kd : List KD} {w : Wp} {σ : St} {person_a : Int32} {k_a : Int32} (hkd : kd = kdC) (hi : zI kd w) {r : Int32} (hf : q5_placeInOrder σ person_a k_a = some r) : zM l kd w yX5_placeInOrder cX5_placeInOrder 7 (some .int) rm5_placeInOrder [.ref (w.2.2.1 6), .int person_a, .int k_a] σ (some (.int r), σ) := sorry
/-! LastLoaf.order -/
theorem w_6_233 : Cond.code ({ cls := "LastLoaf$Poll", name := "placeInOrder", desc := "(II)I" } : MethodName) prog_7_method_23_code (7 : Nat) (Option.some ClassFile.FieldType.int) ∈ TB := sorry
theorem w_6_230 : Cond.methodLink "LastLoaf" (308 : Nat) ({ cls := "LastLoaf$Poll", name := "placeInOrder", desc := "(II)I" } : MethodName) ∈ TB := sorry
theorem w_6_231 : Cond.instanceMethod ({ cls := "LastLoaf$Poll", name := "placeInOrder", desc := "(II)I" } : MethodName) ∈ TB := sorry
theorem w_6_232 : Cond.selects "LastLoaf$Poll" ({ cls := "LastLoaf$Poll", name := "placeInOrder", desc := "(II)I" } : MethodName) ({ cls := "LastLoaf$Poll", name := "placeInOrder", desc := "(II)I" } : MethodName) ∈ TB := sorry
theorem cr11_308 {Θ : Tz} {cc : ByteArray} {nL kc ks : Nat} {ret : Option FieldType} {rm : Room} {Q : State → Prop} {σ : St} {pc : Nat} {lv : List (Nat × Value)} {st : List Value} (C : Zc Θ cc nL RX11 ret rm) (hkd : Θ.2.2.2.2.1 = kdC) {person_a : Int32} {k_a : Int32} {r : Int32} (hx : q5_placeInOrder σ person_a k_a = some r) (hrm : rm5_placeInOrder.frames + 1 ≤ rm.frames ∧ 8 + (7 + 11) + rm5_placeInOrder.locals ≤ rm.locals) (hcat : (st.map fun v => v.category).sum ≤ 8) (hk : kc ≤ rm.cells ∧ ks ≤ rm.slots) (hd : decode cc pc = .ok (.invokevirtual 308, 3)) (kk : Z Θ nL kc ks Q σ (pc + 3) lv (.int r :: st)) : Z Θ nL kc ks Q σ pc lv (.int k_a :: .int person_a :: .ref (zA Θ 6) :: st) := sorry
def q11_order (σ : St) (person_a : Int32) (k_a : Int32) : Option (Sum Nat Int32 × St) :=
  thn (q11_needPerson σ person_a) σ
  (Option.bind (q11_pollNow σ) fun x3_ =>
  Option.bind (q5_meetInAllOrders x3_.2) fun x5_ =>
  Option.bind (q5_placeInOrder x5_ person_a k_a) fun x7_ =>
  some (.inr x7_, x5_))
abbrev rm11_order : Room := { frames := 7, cells := 1, slots := 6, locals := 116 }
theorem c11_order {l : Launch} {kd : List KD} {w : Wp} {σ : St} {person_a : Int32} {k_a : Int32} (hkd : kd = kdC) (hi : zI kd w) (hlt : l.stackTraces = false) {r : (Sum Nat Int32 × St)} (hf : q11_order σ person_a k_a = some r) : zX l kd w yX11_order cX11_order 3 (some .int) rm11_order [.ref (w.2.2.1 0), .int person_a, .int k_a] σ (om (fun v => some (.int v)) r) 1 6 := sorry
/-! LastLoaf$Turns.bake -/
theorem w_2_95 : Cond.fieldLink "LastLoaf$Turns" (15 : Nat) "LastLoaf$Turns" "flours" "[I" ∈ TB := sorry
theorem fg9_15 {Θ : Tz} {cc : ByteArray} {nL kc ks : Nat} {ret : Option FieldType} {rm : Room} {Q : State → Prop} {σ : St} {pc : Nat} {lv : List (Nat × Value)} {st : List Value} (C : Zc Θ cc nL RX9 ret rm) (hkd : Θ.2.2.2.2.1 = kdC) (hd : decode cc pc = .ok (.getfield 15, 3)) (kk : Z Θ nL kc ks Q σ (pc + 3) lv (.ref (zA Θ 16) :: st)) : Z Θ nL kc ks Q σ pc lv (.ref (zA Θ 14) :: st) := sorry
theorem w_2_97 : Cond.fieldLink "LastLoaf$Turns" (21 : Nat) "LastLoaf$Turns" "grists" "[I" ∈ TB := sorry
theorem fg9_21 {Θ : Tz} {cc : ByteArray} {nL kc ks : Nat} {ret : Option FieldType} {rm : Room} {Q : State → Prop} {σ : St} {pc : Nat} {lv : List (Nat × Value)} {st : List Value} (C : Zc Θ cc nL RX9 ret rm) (hkd : Θ.2.2.2.2.1 = kdC) (hd : decode cc pc = .ok (.getfield 21, 3)) (kk : Z Θ nL kc ks Q σ (pc + 3) lv (.ref (zA Θ 18) :: st)) : Z Θ nL kc ks Q σ pc lv (.ref (zA Θ 14) :: st) := sorry
theorem w_7_10 : Cond.methodLink "LastLoaf$Turns" (53 : Nat) ({ cls := "java/lang/Math", name := "min", desc := "(II)I" } : MethodName) ∈ TB := sorry
theorem w_2_101 : Cond.fieldLink "LastLoaf$Turns" (30 : Nat) "LastLoaf$Turns" "people" "I" ∈ TB := sorry
theorem fg9_30 {Θ : Tz} {cc : ByteArray} {nL kc ks : Nat} {ret : Option FieldType} {rm : Room} {Q : State → Prop} {σ : St} {pc : Nat} {lv : List (Nat × Value)} {st : List Value} (C : Zc Θ cc nL RX9 ret rm) (hkd : Θ.2.2.2.2.1 = kdC) (hd : decode cc pc = .ok (.getfield 30, 3)) (kk : Z Θ nL kc ks Q σ (pc + 3) lv (.int (σ 14 6) :: st)) : Z Θ nL kc ks Q σ pc lv (.ref (zA Θ 14) :: st) := sorry
theorem w_2_94 : Cond.fieldLink "LastLoaf$Turns" (9 : Nat) "LastLoaf$Turns" "hungers" "[I" ∈ TB := sorry
theorem fg9_9 {Θ : Tz} {cc : ByteArray} {nL kc ks : Nat} {ret : Option FieldType} {rm : Room} {Q : State → Prop} {σ : St} {pc : Nat} {lv : List (Nat × Value)} {st : List Value} (C : Zc Θ cc nL RX9 ret rm) (hkd : Θ.2.2.2.2.1 = kdC) (hd : decode cc pc = .ok (.getfield 9, 3)) (kk : Z Θ nL kc ks Q σ (pc + 3) lv (.ref (zA Θ 15) :: st)) : Z Θ nL kc ks Q σ pc lv (.ref (zA Θ 14) :: st) := sorry
theorem w_2_96 : Cond.fieldLink "LastLoaf$Turns" (18 : Nat) "LastLoaf$Turns" "benches" "[I" ∈ TB := sorry
theorem fg9_18 {Θ : Tz} {cc : ByteArray} {nL kc ks : Nat} {ret : Option FieldType} {rm : Room} {Q : State → Prop} {σ : St} {pc : Nat} {lv : List (Nat × Value)} {st : List Value} (C : Zc Θ cc nL RX9 ret rm) (hkd : Θ.2.2.2.2.1 = kdC) (hd : decode cc pc = .ok (.getfield 18, 3)) (kk : Z Θ nL kc ks Q σ (pc + 3) lv (.ref (zA Θ 17) :: st)) : Z Θ nL kc ks Q σ pc lv (.ref (zA Θ 14) :: st) := sorry
theorem cr9_90 {Θ : Tz} {cc : ByteArray} {nL kc ks : Nat} {ret : Option FieldType} {rm : Room} {Q : State → Prop} {σ : St} {pc : Nat} {lv : List (Nat × Value)} {st : List Value} (C : Zc Θ cc nL RX9 ret rm) (hkd : Θ.2.2.2.2.1 = kdC) {set_a : Int32} {person_a : Int32} (hrm : rm11_isIn.frames + 1 ≤ rm.frames ∧ 8 + (2 + 11) + rm11_isIn.locals ≤ rm.locals) (hcat : (st.map fun v => v.category).sum ≤ 8) (hk : kc ≤ rm.cells ∧ ks ≤ rm.slots) (hd : decode cc pc = .ok (.invokestatic 90, 3)) (kk : Z Θ nL kc ks Q σ (pc + 3) lv (.int (b2i (q11_isIn set_a person_a)) :: st)) : Z Θ nL kc ks Q σ pc lv (.int person_a :: .int set_a :: st) := sorry
theorem w_2_102 : Cond.fieldLink "LastLoaf$Turns" (34 : Nat) "LastLoaf$Turns" "standing" "I" ∈ TB := sorry
theorem fg9_34 {Θ : Tz} {cc : ByteArray} {nL kc ks : Nat} {ret : Option FieldType} {rm : Room} {Q : State → Prop} {σ : St} {pc : Nat} {lv : List (Nat × Value)} {st : List Value} (C : Zc Θ cc nL RX9 ret rm) (hkd : Θ.2.2.2.2.1 = kdC) (hd : decode cc pc = .ok (.getfield 34, 3)) (kk : Z Θ nL kc ks Q σ (pc + 3) lv (.int (σ 14 7) :: st)) : Z Θ nL kc ks Q σ pc lv (.ref (zA Θ 14) :: st) := sorry
theorem w_7_22 : Cond.methodLink "LastLoaf$Turns" (97 : Nat) ({ cls := "java/lang/Math", name := "max", desc := "(II)I" } : MethodName) ∈ TB := sorry
def q9_bake (σ : St) (depth_a : Int32) (eater_a : Int32) : Option (Bool × St) :=
  lt (depth_a * 6) fun from1_ =>
  lt (from1_ + 6) fun to3_ =>
  Option.bind (ag σ 16 6 depth_a) fun x5_ =>
  Option.bind (ag σ 18 5 depth_a) fun x7_ =>
  lt (imin 9999 (x5_ + x7_)) fun flour9_ =>
  Option.bind (loop3 (fun rec14_ (flour17_ : Int32) (p18_ : Int32) (σ19_ : St) =>
  if p18_ < (σ19_ 14 6) then
  Option.bind (ag σ19_ 15 36 (from1_ + p18_)) fun x26_ =>
  lt (imin 9 (x26_ + 1)) fun hungerMore28_ =>
  Option.bind (Option.bind (ag σ19_ 17 6 depth_a) fun x35_ =>
  if q11_isIn x35_ p18_ = true then (Option.bind (ag σ19_ 15 36 (from1_ + p18_)) fun x39_ =>
  Option.bind (sa σ19_ 15 36 (to3_ + p18_) x39_) fun σ41_ =>
  some (flour17_, σ41_)) else (Option.bind (if q11_isIn (σ19_ 14 7) p18_ = true then (Option.bind (sa σ19_ 15 36 (to3_ + p18_) (if p18_ = eater_a then 0 else hungerMore28_)) fun σ55_ =>
  some (flour17_, σ55_)) else (Option.bind (sa σ19_ 15 36 (to3_ + p18_) (if 0 < flour17_ then 0 else hungerMore28_)) fun σ62_ =>
  lt (imax 0 (flour17_ - 1)) fun flour64_ =>
  some (flour64_, σ62_))) fun y43_ =>
  some (y43_.1, y43_.2))) fun y30_ =>
  lt (p18_ + 1) fun p66_ =>
  rec14_ y30_.1 p66_ y30_.2
  else (some (flour17_, p18_, σ19_))) fuelN flour9_ (0 : Int32) σ) fun y11_ =>
  if (¬ eater_a = (-1)) ∧ (y11_.1 = 0) then (some (false, y11_.2.2)) else
  Option.bind (sa y11_.2.2 16 6 (depth_a + 1) (if eater_a = (-1) then y11_.1 else y11_.1 - 1)) fun σ78_ =>
  Option.bind (ag σ78_ 17 6 depth_a) fun x80_ =>
  Option.bind (sa σ78_ 17 6 (depth_a + 1) x80_) fun σ82_ =>
  Option.bind (loop2 (fun rec87_ (p90_ : Int32) (σ91_ : St) =>
  if p90_ < (σ91_ 14 6) then
  Option.bind (Option.bind (ag σ91_ 15 36 (to3_ + p90_)) fun x103_ =>
  if x103_ = 9 then (Option.bind (ag σ91_ 17 6 (depth_a + 1)) fun x107_ =>
  Option.bind (sa σ91_ 17 6 (depth_a + 1) (x107_ ||| (shl 1 p90_))) fun σ109_ =>
  some (σ109_)) else (some (σ91_))) fun y98_ =>
  lt (p90_ + 1) fun p111_ =>
  rec87_ p111_ y98_
  else (some (p90_, σ91_))) fuelN (0 : Int32) σ82_) fun y84_ =>
  some (true, y84_.2)
abbrev rm9_bake : Room := { frames := 1, cells := 0, slots := 0, locals := 21 }
theorem c9_bake {l : Launch} {kd : List KD} {w : Wp} {σ : St} {depth_a : Int32} {eater_a : Int32} (hkd : kd = kdC) (hi : zI kd w) {r : (Bool × St)} (hf : q9_bake σ depth_a eater_a = some r) : zM l kd w yX9_bake cX9_bake 8 (some .boolean) rm9_bake [.ref (w.2.2.1 14), .int depth_a, .int eater_a] σ (some (.int (b2i r.1)), r.2) := sorry
/-! LastLoaf$Turns.search -/
theorem w_7_16 : Cond.methodLink "LastLoaf$Turns" (84 : Nat) ({ cls := "java/lang/Integer", name := "bitCount", desc := "(I)I" } : MethodName) ∈ TB := sorry
theorem w_2_105 : Cond.fieldLink "LastLoaf$Turns" (43 : Nat) "LastLoaf$Turns" "fewest" "I" ∈ TB := sorry
theorem fg9_43 {Θ : Tz} {cc : ByteArray} {nL kc ks : Nat} {ret : Option FieldType} {rm : Room} {Q : State → Prop} {σ : St} {pc : Nat} {lv : List (Nat × Value)} {st : List Value} (C : Zc Θ cc nL RX9 ret rm) (hkd : Θ.2.2.2.2.1 = kdC) (hd : decode cc pc = .ok (.getfield 43, 3)) (kk : Z Θ nL kc ks Q σ (pc + 3) lv (.int (σ 14 10) :: st)) : Z Θ nL kc ks Q σ pc lv (.ref (zA Θ 14) :: st) := sorry
theorem w_2_104 : Cond.fieldLink "LastLoaf$Turns" (40 : Nat) "LastLoaf$Turns" "weeks" "I" ∈ TB := sorry
theorem fg9_40 {Θ : Tz} {cc : ByteArray} {nL kc ks : Nat} {ret : Option FieldType} {rm : Room} {Q : State → Prop} {σ : St} {pc : Nat} {lv : List (Nat × Value)} {st : List Value} (C : Zc Θ cc nL RX9 ret rm) (hkd : Θ.2.2.2.2.1 = kdC) (hd : decode cc pc = .ok (.getfield 40, 3)) (kk : Z Θ nL kc ks Q σ (pc + 3) lv (.int (σ 14 9) :: st)) : Z Θ nL kc ks Q σ pc lv (.ref (zA Θ 14) :: st) := sorry
theorem fp9_43 {Θ : Tz} {cc : ByteArray} {nL kc ks : Nat} {ret : Option FieldType} {rm : Room} {Q : State → Prop} {σ : St} {pc : Nat} {lv : List (Nat × Value)} {st : List Value} (C : Zc Θ cc nL RX9 ret rm) (hkd : Θ.2.2.2.2.1 = kdC) {x : Int32} {σ1 : St} (he : σ1 = up σ 14 10 x) (hd : decode cc pc = .ok (.putfield 43, 3)) (kk : Z Θ nL kc ks Q σ1 (pc + 3) lv st) : Z Θ nL kc ks Q σ pc lv (.int x :: .ref (zA Θ 14) :: st) := sorry
theorem w_2_98 : Cond.fieldLink "LastLoaf$Turns" (24 : Nat) "LastLoaf$Turns" "row" "[I" ∈ TB := sorry
theorem fg9_24 {Θ : Tz} {cc : ByteArray} {nL kc ks : Nat} {ret : Option FieldType} {rm : Room} {Q : State → Prop} {σ : St} {pc : Nat} {lv : List (Nat × Value)} {st : List Value} (C : Zc Θ cc nL RX9 ret rm) (hkd : Θ.2.2.2.2.1 = kdC) (hd : decode cc pc = .ok (.getfield 24, 3)) (kk : Z Θ nL kc ks Q σ (pc + 3) lv (.ref (zA Θ 19) :: st)) : Z Θ nL kc ks Q σ pc lv (.ref (zA Θ 14) :: st) := sorry
theorem w_2_99 : Cond.fieldLink "LastLoaf$Turns" (27 : Nat) "LastLoaf$Turns" "best" "[I" ∈ TB := sorry
theorem fg9_27 {Θ : Tz} {cc : ByteArray} {nL kc ks : Nat} {ret : Option FieldType} {rm : Room} {Q : State → Prop} {σ : St} {pc : Nat} {lv : List (Nat × Value)} {st : List Value} (C : Zc Θ cc nL RX9 ret rm) (hkd : Θ.2.2.2.2.1 = kdC) (hd : decode cc pc = .ok (.getfield 27, 3)) (kk : Z Θ nL kc ks Q σ (pc + 3) lv (.ref (zA Θ 20) :: st)) : Z Θ nL kc ks Q σ pc lv (.ref (zA Θ 14) :: st) := sorry
theorem w_7_11 : Cond.methodLink "LastLoaf$Turns" (68 : Nat) ({ cls := "java/lang/System", name := "arraycopy", desc := "(Ljava/lang/Object;ILjava/lang/Object;II)V" } : MethodName) ∈ TB := sorry
theorem w_2_103 : Cond.fieldLink "LastLoaf$Turns" (37 : Nat) "LastLoaf$Turns" "runners" "I" ∈ TB := sorry
theorem fg9_37 {Θ : Tz} {cc : ByteArray} {nL kc ks : Nat} {ret : Option FieldType} {rm : Room} {Q : State → Prop} {σ : St} {pc : Nat} {lv : List (Nat × Value)} {st : List Value} (C : Zc Θ cc nL RX9 ret rm) (hkd : Θ.2.2.2.2.1 = kdC) (hd : decode cc pc = .ok (.getfield 37, 3)) (kk : Z Θ nL kc ks Q σ (pc + 3) lv (.int (σ 14 8) :: st)) : Z Θ nL kc ks Q σ pc lv (.ref (zA Θ 14) :: st) := sorry
theorem w_7_21 : Cond.code ({ cls := "LastLoaf$Turns", name := "bake", desc := "(II)Z" } : MethodName) prog_11_method_4_code (8 : Nat) (Option.some ClassFile.FieldType.boolean) ∈ TB := sorry
theorem w_1_11 : Cond.initialized "LastLoaf$Turns" ∈ TB := sorry
theorem w_7_18 : Cond.methodLink "LastLoaf$Turns" (94 : Nat) ({ cls := "LastLoaf$Turns", name := "bake", desc := "(II)Z" } : MethodName) ∈ TB := sorry
theorem w_7_19 : Cond.instanceMethod ({ cls := "LastLoaf$Turns", name := "bake", desc := "(II)Z" } : MethodName) ∈ TB := sorry
theorem w_7_20 : Cond.selects "LastLoaf$Turns" ({ cls := "LastLoaf$Turns", name := "bake", desc := "(II)Z" } : MethodName) ({ cls := "LastLoaf$Turns", name := "bake", desc := "(II)Z" } : MethodName) ∈ TB := sorry
theorem cr9_94 {Θ : Tz} {cc : ByteArray} {nL kc ks : Nat} {ret : Option FieldType} {rm : Room} {Q : State → Prop} {σ : St} {pc : Nat} {lv : List (Nat × Value)} {st : List Value} (C : Zc Θ cc nL RX9 ret rm) (hkd : Θ.2.2.2.2.1 = kdC) {depth_a : Int32} {eater_a : Int32} {r : Bool × St} (hx : q9_bake σ depth_a eater_a = some r) (hrm : rm9_bake.frames + 1 ≤ rm.frames ∧ 8 + (8 + 11) + rm9_bake.locals ≤ rm.locals) (hcat : (st.map fun v => v.category).sum ≤ 8) (hk : kc ≤ rm.cells ∧ ks ≤ rm.slots) (hd : decode cc pc = .ok (.invokevirtual 94, 3)) (kk : Z Θ nL kc ks Q r.2 (pc + 3) lv (.int (b2i r.1) :: st)) : Z Θ nL kc ks Q σ pc lv (.int eater_a :: .int depth_a :: .ref (zA Θ 14) :: st) := sorry
theorem w_7_15 : Cond.code ({ cls := "LastLoaf$Turns", name := "search", desc := "(I)V" } : MethodName) prog_11_method_3_code (4 : Nat) (Option.none : Option ClassFile.FieldType) ∈ TB := sorry
theorem w_7_12 : Cond.methodLink "LastLoaf$Turns" (80 : Nat) ({ cls := "LastLoaf$Turns", name := "search", desc := "(I)V" } : MethodName) ∈ TB := sorry
theorem w_7_14 : Cond.instanceMethod ({ cls := "LastLoaf$Turns", name := "search", desc := "(I)V" } : MethodName) ∈ TB := sorry
theorem ws_LastLoaf_Turns_search_I_V : Cond.selects "LastLoaf$Turns" (⟨"LastLoaf$Turns", "search", "(I)V"⟩ : MethodName) (⟨"LastLoaf$Turns", "search", "(I)V"⟩ : MethodName) ∈ TB := sorry
theorem cr9_80 {Θ : Tz} {cc : ByteArray} {nL kc ks : Nat} {ret : Option FieldType} {rm : Room} {Q : State → Prop} {σ : St} {pc : Nat} {lv : List (Nat × Value)} {st : List Value} (C : Zc Θ cc nL RX9 ret rm) (hkd : Θ.2.2.2.2.1 = kdC) {A_ : St → Int32 → Option St} {d_ : Nat} (hA : zRec9_search Θ.1.2.1 Θ.2.2.2.2.1 Θ.2.2.2.2.2 A_ d_) {depth_a : Int32} {r : St} (hx : A_ σ depth_a = some r) (hrm : (rmR9_search d_).frames + 1 ≤ rm.frames ∧ 8 + (4 + 11) + (rmR9_search d_).locals ≤ rm.locals) (hcat : (st.map fun v => v.category).sum ≤ 8) (hk : kc ≤ rm.cells ∧ ks ≤ rm.slots) (hd : decode cc pc = .ok (.invokevirtual 80, 3)) (kk : Z Θ nL kc ks Q r (pc + 3) lv st) : Z Θ nL kc ks Q σ pc lv (.int depth_a :: .ref (zA Θ 14) :: st) := sorry
def q9_searchB (A_ : St → Int32 → Option St) (σ : St) (depth_a : Int32) : Option St :=
  Option.bind (ag σ 17 6 depth_a) fun x3_ =>
  if (σ 14 10) ≤ (bcount x3_) then (some σ) else
  if (σ 14 9) ≤ depth_a then (Option.bind (ag σ 17 6 depth_a) fun x11_ =>
  lt (up σ 14 10 (bcount x11_)) fun σ13_ =>
  Option.bind (acp σ13_ 19 5 20 5 (σ13_ 14 9)) fun σ15_ =>
  some σ15_) else
  Option.bind (loop2 (fun rec20_ (eater23_ : Int32) (σ24_ : St) =>
  if eater23_ < (σ24_ 14 6) then
  Option.bind (Option.bind (if eater23_ = (-1) then (some true) else (Option.bind (ag σ24_ 17 6 depth_a) fun x39_ =>
  if q11_isIn ((σ24_ 14 8) &&& (x39_ ^^^ (-1))) eater23_ = true then (some true) else (some false))) fun t36_ =>
  if t36_ = true then (some true) else (some false)) fun x31_ =>
  Option.bind (Option.bind (if x31_ = true then (Option.bind (q9_bake σ24_ depth_a eater23_) fun x51_ =>
  if x51_.1 = true then (some (true, x51_.2)) else (some (false, x51_.2))) else (some (false, σ24_))) fun t48_ =>
  if t48_.1 = true then (Option.bind (sa t48_.2 19 5 depth_a eater23_) fun σ55_ =>
  Option.bind (A_ σ55_ (depth_a + 1)) fun x57_ =>
  some (x57_)) else (some (t48_.2))) fun y43_ =>
  lt (eater23_ + 1) fun eater59_ =>
  rec20_ eater59_ y43_
  else (some (eater23_, σ24_))) fuelN (-1 : Int32) σ) fun y17_ =>
  some y17_.2
theorem cb9_search {l : Launch} {kd : List KD} {w : Wp} {σ : St} {A_ : St → Int32 → Option St} {d_ : Nat} {depth_a : Int32} (hkd : kd = kdC) (hi : zI kd w) (hA : zRec9_search l kd w A_ d_) {r : St} (hf : q9_searchB A_ σ depth_a = some r) : zM l kd w yX9_search cX9_search 4 none (rmR9_search (d_ + 1)) [.ref (w.2.2.1 14), .int depth_a] σ (none, r) := sorry
def q9_search : Nat → St → Int32 → Option St
  | 0 => fun _ _ => none
  | d + 1 => q9_searchB (q9_search d)
theorem rec9_search {l : Launch} {kd : List KD} {w : Wp} (hkd : kd = kdC) (hi : zI kd w) : ∀ d, zRec9_search l kd w (q9_search d) d
  | 0 => fun h => by cases h
  | d + 1 => fun h => cb9_search hkd hi (rec9_search hkd hi d) h
/-! LastLoaf$Turns.findBest -/
theorem w_1_125 : Cond.fieldLink "LastLoaf$Turns" (46 : Nat) "LastLoaf$Village" "people" "I" ∈ TB := sorry
theorem fg9_46 {Θ : Tz} {cc : ByteArray} {nL kc ks : Nat} {ret : Option FieldType} {rm : Room} {Q : State → Prop} {σ : St} {pc : Nat} {lv : List (Nat × Value)} {st : List Value} (C : Zc Θ cc nL RX9 ret rm) (hkd : Θ.2.2.2.2.1 = kdC) {th : Nat} (hth : isV th) (hd : decode cc pc = .ok (.getfield 46, 3)) (kk : Z Θ nL kc ks Q σ (pc + 3) lv (.int (σ th 8) :: st)) : Z Θ nL kc ks Q σ pc lv (.ref (zA Θ th) :: st) := sorry
theorem fp9_30 {Θ : Tz} {cc : ByteArray} {nL kc ks : Nat} {ret : Option FieldType} {rm : Room} {Q : State → Prop} {σ : St} {pc : Nat} {lv : List (Nat × Value)} {st : List Value} (C : Zc Θ cc nL RX9 ret rm) (hkd : Θ.2.2.2.2.1 = kdC) {x : Int32} {σ1 : St} (he : σ1 = up σ 14 6 x) (hd : decode cc pc = .ok (.putfield 30, 3)) (kk : Z Θ nL kc ks Q σ1 (pc + 3) lv st) : Z Θ nL kc ks Q σ pc lv (.int x :: .ref (zA Θ 14) :: st) := sorry
theorem w_1_132 : Cond.fieldLink "LastLoaf$Turns" (49 : Nat) "LastLoaf$Village" "standing" "I" ∈ TB := sorry
theorem fg9_49 {Θ : Tz} {cc : ByteArray} {nL kc ks : Nat} {ret : Option FieldType} {rm : Room} {Q : State → Prop} {σ : St} {pc : Nat} {lv : List (Nat × Value)} {st : List Value} (C : Zc Θ cc nL RX9 ret rm) (hkd : Θ.2.2.2.2.1 = kdC) {th : Nat} (hth : isV th) (hd : decode cc pc = .ok (.getfield 49, 3)) (kk : Z Θ nL kc ks Q σ (pc + 3) lv (.int (σ th 9) :: st)) : Z Θ nL kc ks Q σ pc lv (.ref (zA Θ th) :: st) := sorry
theorem fp9_34 {Θ : Tz} {cc : ByteArray} {nL kc ks : Nat} {ret : Option FieldType} {rm : Room} {Q : State → Prop} {σ : St} {pc : Nat} {lv : List (Nat × Value)} {st : List Value} (C : Zc Θ cc nL RX9 ret rm) (hkd : Θ.2.2.2.2.1 = kdC) {x : Int32} {σ1 : St} (he : σ1 = up σ 14 7 x) (hd : decode cc pc = .ok (.putfield 34, 3)) (kk : Z Θ nL kc ks Q σ1 (pc + 3) lv st) : Z Θ nL kc ks Q σ pc lv (.int x :: .ref (zA Θ 14) :: st) := sorry
theorem w_7_9 : Cond.methodLink "LastLoaf$Turns" (50 : Nat) ({ cls := "LastLoaf$Village", name := "runners", desc := "()I" } : MethodName) ∈ TB := sorry
theorem cr9_50 {Θ : Tz} {cc : ByteArray} {nL kc ks : Nat} {ret : Option FieldType} {rm : Room} {Q : State → Prop} {σ : St} {pc : Nat} {lv : List (Nat × Value)} {st : List Value} (C : Zc Θ cc nL RX9 ret rm) (hkd : Θ.2.2.2.2.1 = kdC) {th : Nat} (hth : isV th) (hrm : rm10_runners.frames + 1 ≤ rm.frames ∧ 8 + (1 + 11) + rm10_runners.locals ≤ rm.locals) (hcat : (st.map fun v => v.category).sum ≤ 8) (hk : kc ≤ rm.cells ∧ ks ≤ rm.slots) (hd : decode cc pc = .ok (.invokevirtual 50, 3)) (kk : Z Θ nL kc ks Q σ (pc + 3) lv (.int (q10_runners σ th) :: st)) : Z Θ nL kc ks Q σ pc lv (.ref (zA Θ th) :: st) := sorry
theorem fp9_37 {Θ : Tz} {cc : ByteArray} {nL kc ks : Nat} {ret : Option FieldType} {rm : Room} {Q : State → Prop} {σ : St} {pc : Nat} {lv : List (Nat × Value)} {st : List Value} (C : Zc Θ cc nL RX9 ret rm) (hkd : Θ.2.2.2.2.1 = kdC) {x : Int32} {σ1 : St} (he : σ1 = up σ 14 8 x) (hd : decode cc pc = .ok (.putfield 37, 3)) (kk : Z Θ nL kc ks Q σ1 (pc + 3) lv st) : Z Θ nL kc ks Q σ pc lv (.int x :: .ref (zA Θ 14) :: st) := sorry
theorem fp9_40 {Θ : Tz} {cc : ByteArray} {nL kc ks : Nat} {ret : Option FieldType} {rm : Room} {Q : State → Prop} {σ : St} {pc : Nat} {lv : List (Nat × Value)} {st : List Value} (C : Zc Θ cc nL RX9 ret rm) (hkd : Θ.2.2.2.2.1 = kdC) {x : Int32} {σ1 : St} (he : σ1 = up σ 14 9 x) (hd : decode cc pc = .ok (.putfield 40, 3)) (kk : Z Θ nL kc ks Q σ1 (pc + 3) lv st) : Z Θ nL kc ks Q σ pc lv (.int x :: .ref (zA Θ 14) :: st) := sorry
theorem w_1_144 : Cond.fieldLink "LastLoaf$Turns" (59 : Nat) "LastLoaf$Village" "flour" "I" ∈ TB := sorry
theorem fg9_59 {Θ : Tz} {cc : ByteArray} {nL kc ks : Nat} {ret : Option FieldType} {rm : Room} {Q : State → Prop} {σ : St} {pc : Nat} {lv : List (Nat × Value)} {st : List Value} (C : Zc Θ cc nL RX9 ret rm) (hkd : Θ.2.2.2.2.1 = kdC) {th : Nat} (hth : isV th) (hd : decode cc pc = .ok (.getfield 59, 3)) (kk : Z Θ nL kc ks Q σ (pc + 3) lv (.int (σ th 11) :: st)) : Z Θ nL kc ks Q σ pc lv (.ref (zA Θ th) :: st) := sorry
theorem w_1_139 : Cond.fieldLink "LastLoaf$Turns" (62 : Nat) "LastLoaf$Village" "benched" "I" ∈ TB := sorry
theorem fg9_62 {Θ : Tz} {cc : ByteArray} {nL kc ks : Nat} {ret : Option FieldType} {rm : Room} {Q : State → Prop} {σ : St} {pc : Nat} {lv : List (Nat × Value)} {st : List Value} (C : Zc Θ cc nL RX9 ret rm) (hkd : Θ.2.2.2.2.1 = kdC) {th : Nat} (hth : isV th) (hd : decode cc pc = .ok (.getfield 62, 3)) (kk : Z Θ nL kc ks Q σ (pc + 3) lv (.int (σ th 10) :: st)) : Z Θ nL kc ks Q σ pc lv (.ref (zA Θ th) :: st) := sorry
theorem w_1_92 : Cond.fieldLink "LastLoaf$Turns" (65 : Nat) "LastLoaf$Village" "hunger" "[I" ∈ TB := sorry
theorem fg9_65 {Θ : Tz} {cc : ByteArray} {nL kc ks : Nat} {ret : Option FieldType} {rm : Room} {Q : State → Prop} {σ : St} {pc : Nat} {lv : List (Nat × Value)} {st : List Value} (C : Zc Θ cc nL RX9 ret rm) (hkd : Θ.2.2.2.2.1 = kdC) {th : Nat} (hth : isV th) (hd : decode cc pc = .ok (.getfield 65, 3)) (kk : Z Θ nL kc ks Q σ (pc + 3) lv (.ref (zA Θ (th + 1)) :: st)) : Z Θ nL kc ks Q σ pc lv (.ref (zA Θ th) :: st) := sorry
theorem w_1_117 : Cond.fieldLink "LastLoaf$Turns" (74 : Nat) "LastLoaf$Village" "grist" "[I" ∈ TB := sorry
theorem fg9_74 {Θ : Tz} {cc : ByteArray} {nL kc ks : Nat} {ret : Option FieldType} {rm : Room} {Q : State → Prop} {σ : St} {pc : Nat} {lv : List (Nat × Value)} {st : List Value} (C : Zc Θ cc nL RX9 ret rm) (hkd : Θ.2.2.2.2.1 = kdC) {th : Nat} (hth : isV th) (hd : decode cc pc = .ok (.getfield 74, 3)) (kk : Z Θ nL kc ks Q σ (pc + 3) lv (.ref (zA Θ (th + 7)) :: st)) : Z Θ nL kc ks Q σ pc lv (.ref (zA Θ th) :: st) := sorry
theorem w_1_149 : Cond.fieldLink "LastLoaf$Turns" (77 : Nat) "LastLoaf$Village" "week" "I" ∈ TB := sorry
theorem fg9_77 {Θ : Tz} {cc : ByteArray} {nL kc ks : Nat} {ret : Option FieldType} {rm : Room} {Q : State → Prop} {σ : St} {pc : Nat} {lv : List (Nat × Value)} {st : List Value} (C : Zc Θ cc nL RX9 ret rm) (hkd : Θ.2.2.2.2.1 = kdC) {th : Nat} (hth : isV th) (hd : decode cc pc = .ok (.getfield 77, 3)) (kk : Z Θ nL kc ks Q σ (pc + 3) lv (.int (σ th 12) :: st)) : Z Θ nL kc ks Q σ pc lv (.ref (zA Θ th) :: st) := sorry
def q9_findBest (σ : St) (village_a : Nat) (n_a : Int32) : Option St :=
  lt (up σ 14 6 (σ village_a 8)) fun σ1_ =>
  lt (up σ1_ 14 7 (σ1_ village_a 9)) fun σ3_ =>
  lt (up σ3_ 14 8 (q10_runners σ3_ village_a)) fun σ5_ =>
  lt (up σ5_ 14 9 (imin n_a 5)) fun σ7_ =>
  lt (up σ7_ 14 10 7) fun σ9_ =>
  Option.bind (sa σ9_ 16 6 0 (σ9_ village_a 11)) fun σ11_ =>
  Option.bind (sa σ11_ 17 6 0 (σ11_ village_a 10)) fun σ13_ =>
  Option.bind (acp σ13_ (village_a + 1) 6 15 36 6) fun σ15_ =>
  Option.bind (loop2 (fun rec20_ (i23_ : Int32) (σ24_ : St) =>
  if i23_ < (σ24_ 14 9) then
  Option.bind (ag σ24_ (village_a + 7) 4 (irm (imin 9999 ((σ24_ village_a 12) + i23_)) 4)) fun x31_ =>
  Option.bind (sa σ24_ 18 5 i23_ x31_) fun σ33_ =>
  lt (i23_ + 1) fun i35_ =>
  rec20_ i35_ σ33_
  else (some (i23_, σ24_))) fuelN (0 : Int32) σ15_) fun y17_ =>
  Option.bind (q9_search 20 y17_.2 0) fun x37_ =>
  some x37_
abbrev rm9_findBest : Room := { frames := 27, cells := 0, slots := 0, locals := 1423 }
theorem c9_findBest {l : Launch} {kd : List KD} {w : Wp} {σ : St} {village_a : Nat} {n_a : Int32} (hkd : kd = kdC) (hi : zI kd w) (h_village : isV village_a) {r : St} (hf : q9_findBest σ village_a n_a = some r) : zM l kd w yX9_findBest cX9_findBest 4 none rm9_findBest [.ref (w.2.2.1 14), .ref (w.2.2.1 village_a), .int n_a] σ (none, r) := sorry
/-! LastLoaf.rota -/
theorem w_2_198 : Cond.fieldLink "LastLoaf" (77 : Nat) "LastLoaf" "turns" "LLastLoaf$Turns;" ∈ TB := sorry
theorem fg11_77 {Θ : Tz} {cc : ByteArray} {nL kc ks : Nat} {ret : Option FieldType} {rm : Room} {Q : State → Prop} {σ : St} {pc : Nat} {lv : List (Nat × Value)} {st : List Value} (C : Zc Θ cc nL RX11 ret rm) (hkd : Θ.2.2.2.2.1 = kdC) (hd : decode cc pc = .ok (.getfield 77, 3)) (kk : Z Θ nL kc ks Q σ (pc + 3) lv (.ref (zA Θ 14) :: st)) : Z Θ nL kc ks Q σ pc lv (.ref (zA Θ 0) :: st) := sorry
theorem w_7_8 : Cond.code ({ cls := "LastLoaf$Turns", name := "findBest", desc := "(LLastLoaf$Village;I)V" } : MethodName) prog_11_method_2_code (4 : Nat) (Option.none : Option ClassFile.FieldType) ∈ TB := sorry
theorem w_7_5 : Cond.methodLink "LastLoaf" (311 : Nat) ({ cls := "LastLoaf$Turns", name := "findBest", desc := "(LLastLoaf$Village;I)V" } : MethodName) ∈ TB := sorry
theorem w_7_6 : Cond.instanceMethod ({ cls := "LastLoaf$Turns", name := "findBest", desc := "(LLastLoaf$Village;I)V" } : MethodName) ∈ TB := sorry
theorem w_7_7 : Cond.selects "LastLoaf$Turns" ({ cls := "LastLoaf$Turns", name := "findBest", desc := "(LLastLoaf$Village;I)V" } : MethodName) ({ cls := "LastLoaf$Turns", name := "findBest", desc := "(LLastLoaf$Village;I)V" } : MethodName) ∈ TB := sorry
theorem cr11_311 {Θ : Tz} {cc : ByteArray} {nL kc ks : Nat} {ret : Option FieldType} {rm : Room} {Q : State → Prop} {σ : St} {pc : Nat} {lv : List (Nat × Value)} {st : List Value} (C : Zc Θ cc nL RX11 ret rm) (hkd : Θ.2.2.2.2.1 = kdC) {village_a : Nat} {n_a : Int32} (h_village : isV village_a) {r : St} (hx : q9_findBest σ village_a n_a = some r) (hrm : rm9_findBest.frames + 1 ≤ rm.frames ∧ 8 + (4 + 11) + rm9_findBest.locals ≤ rm.locals) (hcat : (st.map fun v => v.category).sum ≤ 8) (hk : kc ≤ rm.cells ∧ ks ≤ rm.slots) (hd : decode cc pc = .ok (.invokevirtual 311, 3)) (kk : Z Θ nL kc ks Q r (pc + 3) lv st) : Z Θ nL kc ks Q σ pc lv (.int n_a :: .ref (zA Θ village_a) :: .ref (zA Θ 14) :: st) := sorry
theorem w_2_106 : Cond.fieldLink "LastLoaf" (315 : Nat) "LastLoaf$Turns" "fewest" "I" ∈ TB := sorry
theorem fg11_315 {Θ : Tz} {cc : ByteArray} {nL kc ks : Nat} {ret : Option FieldType} {rm : Room} {Q : State → Prop} {σ : St} {pc : Nat} {lv : List (Nat × Value)} {st : List Value} (C : Zc Θ cc nL RX11 ret rm) (hkd : Θ.2.2.2.2.1 = kdC) (hd : decode cc pc = .ok (.getfield 315, 3)) (kk : Z Θ nL kc ks Q σ (pc + 3) lv (.int (σ 14 10) :: st)) : Z Θ nL kc ks Q σ pc lv (.ref (zA Θ 14) :: st) := sorry
theorem w_2_100 : Cond.fieldLink "LastLoaf" (318 : Nat) "LastLoaf$Turns" "best" "[I" ∈ TB := sorry
theorem fg11_318 {Θ : Tz} {cc : ByteArray} {nL kc ks : Nat} {ret : Option FieldType} {rm : Room} {Q : State → Prop} {σ : St} {pc : Nat} {lv : List (Nat × Value)} {st : List Value} (C : Zc Θ cc nL RX11 ret rm) (hkd : Θ.2.2.2.2.1 = kdC) (hd : decode cc pc = .ok (.getfield 318, 3)) (kk : Z Θ nL kc ks Q σ (pc + 3) lv (.ref (zA Θ 20) :: st)) : Z Θ nL kc ks Q σ pc lv (.ref (zA Θ 14) :: st) := sorry
def q11_rota (σ : St) (n_a : Int32) (k_a : Int32) : Option (Sum Nat Int32 × St) :=
  thn (q11_needNumber n_a 0 5) σ
  (Option.bind (q9_findBest σ 44 n_a) fun x3_ =>
  if k_a = (-1) then (some (.inr (x3_ 14 10), x3_)) else
  Option.bind (if (0 ≤ k_a) ∧ (k_a < n_a) then (Option.bind (ag x3_ 20 5 k_a) fun x16_ =>
  some x16_) else (some (-1 : Int32))) fun x9_ =>
  some (.inr x9_, x3_))
abbrev rm11_rota : Room := { frames := 28, cells := 1, slots := 6, locals := 1446 }
theorem c11_rota {l : Launch} {kd : List KD} {w : Wp} {σ : St} {n_a : Int32} {k_a : Int32} (hkd : kd = kdC) (hi : zI kd w) (hlt : l.stackTraces = false) {r : (Sum Nat Int32 × St)} (hf : q11_rota σ n_a k_a = some r) : zX l kd w yX11_rota cX11_rota 3 (some .int) rm11_rota [.ref (w.2.2.1 0), .int n_a, .int k_a] σ (om (fun v => some (.int v)) r) 1 6 := sorry
/-! LastLoaf.lasts -/
def q11_lasts (σ : St) : Option (Int32 × St) :=
  Option.bind (q10_become σ 54 44) fun x1_ =>
  Option.bind (loop2 (fun rec6_ (n9_ : Int32) (σ10_ : St) =>
  if n9_ ≤ 60 then
  if (σ10_ 54 11) = 0 then (some (.inl (n9_, σ10_))) else
  Option.bind (q0_bakeWeeks σ10_ 54 1 false) fun x21_ =>
  lt (n9_ + 1) fun n23_ =>
  rec6_ n23_ x21_
  else (some (.inr (n9_, σ10_)))) fuelN (0 : Int32) x1_) fun y3_ =>
  Sum.elim (fun x9 => some x9) (fun y3_r =>
  some ((-1), y3_r.2)) y3_
abbrev rm11_lasts : Room := { frames := 6, cells := 0, slots := 0, locals := 144 }
theorem c11_lasts {l : Launch} {kd : List KD} {w : Wp} {σ : St} (hkd : kd = kdC) (hi : zI kd w) {r : (Int32 × St)} (hf : q11_lasts σ = some r) : zM l kd w yX11_lasts cX11_lasts 2 (some .int) rm11_lasts [.ref (w.2.2.1 0)] σ (some (.int r.1), r.2) := sorry
/-! LastLoaf.mill -/
theorem w_7_30 : Cond.methodLink "LastLoaf" (321 : Nat) ({ cls := "java/util/Arrays", name := "fill", desc := "([II)V" } : MethodName) ∈ TB := sorry
def q11_mill (σ : St) (n_a : Int32) : Option (Sum Nat Int32 × St) :=
  thn (q11_needNumber n_a 1 60) σ
  (Option.bind (loop2 (fun rec6_ (grist9_ : Int32) (σ10_ : St) =>
  if grist9_ ≤ 6 then
  Option.bind (q10_become σ10_ 54 44) fun x17_ =>
  lt (fil x17_ (54 + 7) 4 grist9_) fun σ19_ =>
  Option.bind (q0_bakeWeeks σ19_ 54 n_a false) fun x21_ =>
  if (x21_ 54 10) = (x21_ 44 10) then (some (.inl (.inr grist9_, x21_))) else
  lt (grist9_ + 1) fun grist27_ =>
  rec6_ grist27_ x21_
  else (some (.inr (grist9_, σ10_)))) fuelN (0 : Int32) σ) fun y3_ =>
  Sum.elim (fun x9 => some x9) (fun y3_r =>
  some (.inr (-1), y3_r.2)) y3_)
abbrev rm11_mill : Room := { frames := 7, cells := 1, slots := 6, locals := 144 }
theorem c11_mill {l : Launch} {kd : List KD} {w : Wp} {σ : St} {n_a : Int32} (hkd : kd = kdC) (hi : zI kd w) (hlt : l.stackTraces = false) {r : (Sum Nat Int32 × St)} (hf : q11_mill σ n_a = some r) : zX l kd w yX11_mill cX11_mill 3 (some .int) rm11_mill [.ref (w.2.2.1 0), .int n_a] σ (om (fun v => some (.int v)) r) 1 6 := sorry
/-! LastLoaf.starves -/
theorem w_3_234 : Cond.methodLink "LastLoaf" (327 : Nat) ({ cls := "LastLoaf", name := "leastOf", desc := "(I)I" } : MethodName) ∈ TB := sorry
theorem cr11_327 {Θ : Tz} {cc : ByteArray} {nL kc ks : Nat} {ret : Option FieldType} {rm : Room} {Q : State → Prop} {σ : St} {pc : Nat} {lv : List (Nat × Value)} {st : List Value} (C : Zc Θ cc nL RX11 ret rm) (hkd : Θ.2.2.2.2.1 = kdC) {set_a : Int32} {r : Int32} (hx : q11_leastOf set_a = some r) (hrm : rm11_leastOf.frames + 1 ≤ rm.frames ∧ 8 + (2 + 11) + rm11_leastOf.locals ≤ rm.locals) (hcat : (st.map fun v => v.category).sum ≤ 8) (hk : kc ≤ rm.cells ∧ ks ≤ rm.slots) (hd : decode cc pc = .ok (.invokestatic 327, 3)) (kk : Z Θ nL kc ks Q σ (pc + 3) lv (.int r :: st)) : Z Θ nL kc ks Q σ pc lv (.int set_a :: st) := sorry
def q11_starves (σ : St) (who_a : Bool) : Option (Int32 × St) :=
  Option.bind (q10_become σ 54 44) fun x1_ =>
  Option.bind (loop2 (fun rec6_ (n9_ : Int32) (σ10_ : St) =>
  if n9_ ≤ 60 then
  Option.bind (q0_bakeWeeks σ10_ 54 1 false) fun x17_ =>
  if ¬ (x17_ 54 10) = (x17_ 44 10) then (Option.bind (if who_a = true then (Option.bind (q11_leastOf ((x17_ 54 10) &&& ((x17_ 44 10) ^^^ (-1)))) fun x29_ =>
  some x29_) else (some n9_)) fun x23_ =>
  some (.inl (x23_, x17_))) else
  lt (n9_ + 1) fun n32_ =>
  rec6_ n32_ x17_
  else (some (.inr (n9_, σ10_)))) fuelN (1 : Int32) x1_) fun y3_ =>
  Sum.elim (fun x9 => some x9) (fun y3_r =>
  some ((-1), y3_r.2)) y3_
abbrev rm11_starves : Room := { frames := 6, cells := 0, slots := 0, locals := 144 }
theorem c11_starves {l : Launch} {kd : List KD} {w : Wp} {σ : St} {who_a : Bool} (hkd : kd = kdC) (hi : zI kd w) {r : (Int32 × St)} (hf : q11_starves σ who_a = some r) : zM l kd w yX11_starves cX11_starves 3 (some .int) rm11_starves [.ref (w.2.2.1 0), .int (b2i who_a)] σ (some (.int r.1), r.2) := sorry
/-! LastLoaf$SecretBallots.choicesOf -/
theorem w_2_141 : Cond.fieldLink "LastLoaf$SecretBallots" (27 : Nat) "LastLoaf$SecretBallots" "people" "I" ∈ TB := sorry
theorem fg7_27 {Θ : Tz} {cc : ByteArray} {nL kc ks : Nat} {ret : Option FieldType} {rm : Room} {Q : State → Prop} {σ : St} {pc : Nat} {lv : List (Nat × Value)} {st : List Value} (C : Zc Θ cc nL RX7 ret rm) (hkd : Θ.2.2.2.2.1 = kdC) (hd : decode cc pc = .ok (.getfield 27, 3)) (kk : Z Θ nL kc ks Q σ (pc + 3) lv (.int (σ 21 5) :: st)) : Z Θ nL kc ks Q σ pc lv (.ref (zA Θ 21) :: st) := sorry
theorem cr7_63 {Θ : Tz} {cc : ByteArray} {nL kc ks : Nat} {ret : Option FieldType} {rm : Room} {Q : State → Prop} {σ : St} {pc : Nat} {lv : List (Nat × Value)} {st : List Value} (C : Zc Θ cc nL RX7 ret rm) (hkd : Θ.2.2.2.2.1 = kdC) {set_a : Int32} {person_a : Int32} (hrm : rm11_isIn.frames + 1 ≤ rm.frames ∧ 8 + (2 + 11) + rm11_isIn.locals ≤ rm.locals) (hcat : (st.map fun v => v.category).sum ≤ 8) (hk : kc ≤ rm.cells ∧ ks ≤ rm.slots) (hd : decode cc pc = .ok (.invokestatic 63, 3)) (kk : Z Θ nL kc ks Q σ (pc + 3) lv (.int (b2i (q11_isIn set_a person_a)) :: st)) : Z Θ nL kc ks Q σ pc lv (.int person_a :: .int set_a :: st) := sorry
theorem w_7_62 : Cond.methodLink "LastLoaf$SecretBallots" (97 : Nat) ({ cls := "LastLoaf$Village", name := "likingOf", desc := "(II)I" } : MethodName) ∈ TB := sorry
theorem cr7_97 {Θ : Tz} {cc : ByteArray} {nL kc ks : Nat} {ret : Option FieldType} {rm : Room} {Q : State → Prop} {σ : St} {pc : Nat} {lv : List (Nat × Value)} {st : List Value} (C : Zc Θ cc nL RX7 ret rm) (hkd : Θ.2.2.2.2.1 = kdC) {th : Nat} {person_a : Int32} {other_a : Int32} (hth : isV th) {r : Int32} (hx : q10_likingOf σ th person_a other_a = some r) (hrm : rm10_likingOf.frames + 1 ≤ rm.frames ∧ 8 + (3 + 11) + rm10_likingOf.locals ≤ rm.locals) (hcat : (st.map fun v => v.category).sum ≤ 8) (hk : kc ≤ rm.cells ∧ ks ≤ rm.slots) (hd : decode cc pc = .ok (.invokevirtual 97, 3)) (kk : Z Θ nL kc ks Q σ (pc + 3) lv (.int r :: st)) : Z Θ nL kc ks Q σ pc lv (.int other_a :: .int person_a :: .ref (zA Θ th) :: st) := sorry
def q7_choicesOf (σ : St) (village_a : Nat) (runners_a : Int32) (voter_a : Int32) : Option Int32 :=
  Option.bind (loop2 (fun rec4_ (bits7_ : Int32) (r8_ : Int32) =>
  if r8_ < (σ 21 5) then
  Option.bind (Option.bind (if q11_isIn runners_a r8_ = true then (Option.bind (q10_likingOf σ village_a voter_a r8_) fun x23_ =>
  if 4 ≤ x23_ then (some true) else (some false)) else (some false)) fun t20_ =>
  if t20_ = true then (lt (bits7_ ||| (shl 1 r8_)) fun bits27_ =>
  some (bits27_)) else (some (bits7_))) fun y15_ =>
  lt (r8_ + 1) fun r29_ =>
  rec4_ y15_ r29_
  else (some (bits7_, r8_))) fuelN (0 : Int32) (0 : Int32)) fun y1_ =>
  some y1_.1
abbrev rm7_choicesOf : Room := { frames := 1, cells := 0, slots := 0, locals := 22 }
theorem c7_choicesOf {l : Launch} {kd : List KD} {w : Wp} {σ : St} {village_a : Nat} {runners_a : Int32} {voter_a : Int32} (hkd : kd = kdC) (hi : zI kd w) (h_village : isV village_a) {r : Int32} (hf : q7_choicesOf σ village_a runners_a voter_a = some r) : zM l kd w yX7_choicesOf cX7_choicesOf 6 (some .int) rm7_choicesOf [.ref (w.2.2.1 21), .ref (w.2.2.1 village_a), .int runners_a, .int voter_a] σ (some (.int r), σ) := sorry
/-! LastLoaf$SecretBallots.stateWith -/
theorem w_2_136 : Cond.fieldLink "LastLoaf$SecretBallots" (9 : Nat) "LastLoaf$SecretBallots" "told" "[I" ∈ TB := sorry
theorem fg7_9 {Θ : Tz} {cc : ByteArray} {nL kc ks : Nat} {ret : Option FieldType} {rm : Room} {Q : State → Prop} {σ : St} {pc : Nat} {lv : List (Nat × Value)} {st : List Value} (C : Zc Θ cc nL RX7 ret rm) (hkd : Θ.2.2.2.2.1 = kdC) (hd : decode cc pc = .ok (.getfield 9, 3)) (kk : Z Θ nL kc ks Q σ (pc + 3) lv (.ref (zA Θ 22) :: st)) : Z Θ nL kc ks Q σ pc lv (.ref (zA Θ 21) :: st) := sorry
theorem w_2_137 : Cond.fieldLink "LastLoaf$SecretBallots" (15 : Nat) "LastLoaf$SecretBallots" "steps" "[I" ∈ TB := sorry
theorem fg7_15 {Θ : Tz} {cc : ByteArray} {nL kc ks : Nat} {ret : Option FieldType} {rm : Room} {Q : State → Prop} {σ : St} {pc : Nat} {lv : List (Nat × Value)} {st : List Value} (C : Zc Θ cc nL RX7 ret rm) (hkd : Θ.2.2.2.2.1 = kdC) (hd : decode cc pc = .ok (.getfield 15, 3)) (kk : Z Θ nL kc ks Q σ (pc + 3) lv (.ref (zA Θ 23) :: st)) : Z Θ nL kc ks Q σ pc lv (.ref (zA Θ 21) :: st) := sorry
theorem w_7_52 : Cond.methodLink "LastLoaf$SecretBallots" (81 : Nat) ({ cls := "java/lang/Math", name := "max", desc := "(II)I" } : MethodName) ∈ TB := sorry
def q7_stateWith (σ : St) (state_a : Int32) (runner_a : Int32) : Option Int32 :=
  Option.bind (ag σ 22 6 runner_a) fun x3_ =>
  if x3_ = (-1) then (some state_a) else
  Option.bind (ag σ 23 6 runner_a) fun x7_ =>
  Option.bind (dv state_a (imax 1 x7_)) fun x9_ =>
  Option.bind (ag σ 22 6 runner_a) fun x11_ =>
  Option.bind (rmd x9_ (imax 1 (x11_ + 1))) fun x13_ =>
  Option.bind (Option.bind (Option.bind (ag σ 22 6 runner_a) fun x22_ =>
  if x13_ < x22_ then (Option.bind (ag σ 23 6 runner_a) fun x25_ =>
  if (state_a + x25_) < 64 then (some true) else (some false)) else (some false)) fun t20_ =>
  if t20_ = true then (Option.bind (ag σ 23 6 runner_a) fun x28_ =>
  some (state_a + x28_)) else (some (-1 : Int32))) fun x15_ =>
  some x15_
abbrev rm7_stateWith : Room := { frames := 1, cells := 0, slots := 0, locals := 21 }
theorem c7_stateWith {l : Launch} {kd : List KD} {w : Wp} {σ : St} {state_a : Int32} {runner_a : Int32} (hkd : kd = kdC) (hi : zI kd w) {r : Int32} (hf : q7_stateWith σ state_a runner_a = some r) : zM l kd w yX7_stateWith cX7_stateWith 4 (some .int) rm7_stateWith [.ref (w.2.2.1 21), .int state_a, .int runner_a] σ (some (.int r), σ) := sorry
/-! LastLoaf$SecretBallots.waysWith -/
theorem w_2_138 : Cond.fieldLink "LastLoaf$SecretBallots" (18 : Nat) "LastLoaf$SecretBallots" "choices" "[I" ∈ TB := sorry
theorem fg7_18 {Θ : Tz} {cc : ByteArray} {nL kc ks : Nat} {ret : Option FieldType} {rm : Room} {Q : State → Prop} {σ : St} {pc : Nat} {lv : List (Nat × Value)} {st : List Value} (C : Zc Θ cc nL RX7 ret rm) (hkd : Θ.2.2.2.2.1 = kdC) (hd : decode cc pc = .ok (.getfield 18, 3)) (kk : Z Θ nL kc ks Q σ (pc + 3) lv (.ref (zA Θ 24) :: st)) : Z Θ nL kc ks Q σ pc lv (.ref (zA Θ 21) :: st) := sorry
theorem w_7_74 : Cond.code ({ cls := "LastLoaf$SecretBallots", name := "stateWith", desc := "(II)I" } : MethodName) prog_9_method_6_code (4 : Nat) (Option.some ClassFile.FieldType.int) ∈ TB := sorry
theorem w_1_12 : Cond.initialized "LastLoaf$SecretBallots" ∈ TB := sorry
theorem w_7_71 : Cond.methodLink "LastLoaf$SecretBallots" (104 : Nat) ({ cls := "LastLoaf$SecretBallots", name := "stateWith", desc := "(II)I" } : MethodName) ∈ TB := sorry
theorem w_7_72 : Cond.instanceMethod ({ cls := "LastLoaf$SecretBallots", name := "stateWith", desc := "(II)I" } : MethodName) ∈ TB := sorry
theorem w_7_73 : Cond.selects "LastLoaf$SecretBallots" ({ cls := "LastLoaf$SecretBallots", name := "stateWith", desc := "(II)I" } : MethodName) ({ cls := "LastLoaf$SecretBallots", name := "stateWith", desc := "(II)I" } : MethodName) ∈ TB := sorry
theorem cr7_104 {Θ : Tz} {cc : ByteArray} {nL kc ks : Nat} {ret : Option FieldType} {rm : Room} {Q : State → Prop} {σ : St} {pc : Nat} {lv : List (Nat × Value)} {st : List Value} (C : Zc Θ cc nL RX7 ret rm) (hkd : Θ.2.2.2.2.1 = kdC) {state_a : Int32} {runner_a : Int32} {r : Int32} (hx : q7_stateWith σ state_a runner_a = some r) (hrm : rm7_stateWith.frames + 1 ≤ rm.frames ∧ 8 + (4 + 11) + rm7_stateWith.locals ≤ rm.locals) (hcat : (st.map fun v => v.category).sum ≤ 8) (hk : kc ≤ rm.cells ∧ ks ≤ rm.slots) (hd : decode cc pc = .ok (.invokevirtual 104, 3)) (kk : Z Θ nL kc ks Q σ (pc + 3) lv (.int r :: st)) : Z Θ nL kc ks Q σ pc lv (.int runner_a :: .int state_a :: .ref (zA Θ 21) :: st) := sorry
theorem w_2_140 : Cond.fieldLink "LastLoaf$SecretBallots" (24 : Nat) "LastLoaf$SecretBallots" "after" "[I" ∈ TB := sorry
theorem fg7_24 {Θ : Tz} {cc : ByteArray} {nL kc ks : Nat} {ret : Option FieldType} {rm : Room} {Q : State → Prop} {σ : St} {pc : Nat} {lv : List (Nat × Value)} {st : List Value} (C : Zc Θ cc nL RX7 ret rm) (hkd : Θ.2.2.2.2.1 = kdC) (hd : decode cc pc = .ok (.getfield 24, 3)) (kk : Z Θ nL kc ks Q σ (pc + 3) lv (.ref (zA Θ 26) :: st)) : Z Θ nL kc ks Q σ pc lv (.ref (zA Θ 21) :: st) := sorry
def q7_waysWith (σ : St) (voter_a : Int32) (runner_a : Int32) (state_a : Int32) : Option Int32 :=
  Option.bind (Option.bind (ag σ 24 6 voter_a) fun x6_ =>
  if q11_isIn x6_ runner_a = true then (Option.bind (q7_stateWith σ state_a runner_a) fun x9_ =>
  some x9_) else (some (-1 : Int32))) fun x1_ =>
  Option.bind (if x1_ = (-1) then (some (0 : Int32)) else (Option.bind (ag σ 26 448 (((voter_a + 1) * 64) + x1_)) fun x18_ =>
  some x18_)) fun x12_ =>
  some x12_
abbrev rm7_waysWith : Room := { frames := 2, cells := 0, slots := 0, locals := 44 }
theorem c7_waysWith {l : Launch} {kd : List KD} {w : Wp} {σ : St} {voter_a : Int32} {runner_a : Int32} {state_a : Int32} (hkd : kd = kdC) (hi : zI kd w) {r : Int32} (hf : q7_waysWith σ voter_a runner_a state_a = some r) : zM l kd w yX7_waysWith cX7_waysWith 5 (some .int) rm7_waysWith [.ref (w.2.2.1 21), .int voter_a, .int runner_a, .int state_a] σ (some (.int r), σ) := sorry
/-! LastLoaf$SecretBallots.gather -/
theorem w_2_142 : Cond.fieldLink "LastLoaf$SecretBallots" (31 : Nat) "LastLoaf$SecretBallots" "voters" "I" ∈ TB := sorry
theorem fg7_31 {Θ : Tz} {cc : ByteArray} {nL kc ks : Nat} {ret : Option FieldType} {rm : Room} {Q : State → Prop} {σ : St} {pc : Nat} {lv : List (Nat × Value)} {st : List Value} (C : Zc Θ cc nL RX7 ret rm) (hkd : Θ.2.2.2.2.1 = kdC) (hd : decode cc pc = .ok (.getfield 31, 3)) (kk : Z Θ nL kc ks Q σ (pc + 3) lv (.int (σ 21 6) :: st)) : Z Θ nL kc ks Q σ pc lv (.ref (zA Θ 21) :: st) := sorry
theorem w_7_86 : Cond.code ({ cls := "LastLoaf$SecretBallots", name := "waysWith", desc := "(III)I" } : MethodName) prog_9_method_11_code (5 : Nat) (Option.some ClassFile.FieldType.int) ∈ TB := sorry
theorem w_7_83 : Cond.methodLink "LastLoaf$SecretBallots" (110 : Nat) ({ cls := "LastLoaf$SecretBallots", name := "waysWith", desc := "(III)I" } : MethodName) ∈ TB := sorry
theorem w_7_84 : Cond.instanceMethod ({ cls := "LastLoaf$SecretBallots", name := "waysWith", desc := "(III)I" } : MethodName) ∈ TB := sorry
theorem w_7_85 : Cond.selects "LastLoaf$SecretBallots" ({ cls := "LastLoaf$SecretBallots", name := "waysWith", desc := "(III)I" } : MethodName) ({ cls := "LastLoaf$SecretBallots", name := "waysWith", desc := "(III)I" } : MethodName) ∈ TB := sorry
theorem cr7_110 {Θ : Tz} {cc : ByteArray} {nL kc ks : Nat} {ret : Option FieldType} {rm : Room} {Q : State → Prop} {σ : St} {pc : Nat} {lv : List (Nat × Value)} {st : List Value} (C : Zc Θ cc nL RX7 ret rm) (hkd : Θ.2.2.2.2.1 = kdC) {voter_a : Int32} {runner_a : Int32} {state_a : Int32} {r : Int32} (hx : q7_waysWith σ voter_a runner_a state_a = some r) (hrm : rm7_waysWith.frames + 1 ≤ rm.frames ∧ 8 + (5 + 11) + rm7_waysWith.locals ≤ rm.locals) (hcat : (st.map fun v => v.category).sum ≤ 8) (hk : kc ≤ rm.cells ∧ ks ≤ rm.slots) (hd : decode cc pc = .ok (.invokevirtual 110, 3)) (kk : Z Θ nL kc ks Q σ (pc + 3) lv (.int r :: st)) : Z Θ nL kc ks Q σ pc lv (.int state_a :: .int runner_a :: .int voter_a :: .ref (zA Θ 21) :: st) := sorry
def q7_gather (σ : St) (voter_a : Int32) (state_a : Int32) : Option Int32 :=
  if ¬ (q11_isIn (σ 21 6) voter_a = true) then (Option.bind (ag σ 26 448 (((voter_a + 1) * 64) + state_a)) fun x5_ =>
  some x5_) else
  Option.bind (loop2 (fun rec10_ (sum13_ : Int32) (r14_ : Int32) =>
  if r14_ < (σ 21 5) then
  Option.bind (q7_waysWith σ voter_a r14_ state_a) fun x21_ =>
  lt (sum13_ + x21_) fun sum23_ =>
  lt (r14_ + 1) fun r25_ =>
  rec10_ sum23_ r25_
  else (some (sum13_, r14_))) fuelN (0 : Int32) (0 : Int32)) fun y7_ =>
  some y7_.1
abbrev rm7_gather : Room := { frames := 3, cells := 0, slots := 0, locals := 68 }
theorem c7_gather {l : Launch} {kd : List KD} {w : Wp} {σ : St} {voter_a : Int32} {state_a : Int32} (hkd : kd = kdC) (hi : zI kd w) {r : Int32} (hf : q7_gather σ voter_a state_a = some r) : zM l kd w yX7_gather cX7_gather 5 (some .int) rm7_gather [.ref (w.2.2.1 21), .int voter_a, .int state_a] σ (some (.int r), σ) := sorry
/-! LastLoaf$SecretBallots.countAfter -/
theorem w_7_46 : Cond.methodLink "LastLoaf$SecretBallots" (46 : Nat) ({ cls := "java/util/Arrays", name := "fill", desc := "([II)V" } : MethodName) ∈ TB := sorry
theorem w_2_143 : Cond.fieldLink "LastLoaf$SecretBallots" (34 : Nat) "LastLoaf$SecretBallots" "states" "I" ∈ TB := sorry
theorem fg7_34 {Θ : Tz} {cc : ByteArray} {nL kc ks : Nat} {ret : Option FieldType} {rm : Room} {Q : State → Prop} {σ : St} {pc : Nat} {lv : List (Nat × Value)} {st : List Value} (C : Zc Θ cc nL RX7 ret rm) (hkd : Θ.2.2.2.2.1 = kdC) (hd : decode cc pc = .ok (.getfield 34, 3)) (kk : Z Θ nL kc ks Q σ (pc + 3) lv (.int (σ 21 7) :: st)) : Z Θ nL kc ks Q σ pc lv (.ref (zA Θ 21) :: st) := sorry
theorem w_7_82 : Cond.code ({ cls := "LastLoaf$SecretBallots", name := "gather", desc := "(II)I" } : MethodName) prog_9_method_10_code (5 : Nat) (Option.some ClassFile.FieldType.int) ∈ TB := sorry
theorem w_7_79 : Cond.methodLink "LastLoaf$SecretBallots" (107 : Nat) ({ cls := "LastLoaf$SecretBallots", name := "gather", desc := "(II)I" } : MethodName) ∈ TB := sorry
theorem w_7_80 : Cond.instanceMethod ({ cls := "LastLoaf$SecretBallots", name := "gather", desc := "(II)I" } : MethodName) ∈ TB := sorry
theorem w_7_81 : Cond.selects "LastLoaf$SecretBallots" ({ cls := "LastLoaf$SecretBallots", name := "gather", desc := "(II)I" } : MethodName) ({ cls := "LastLoaf$SecretBallots", name := "gather", desc := "(II)I" } : MethodName) ∈ TB := sorry
theorem cr7_107 {Θ : Tz} {cc : ByteArray} {nL kc ks : Nat} {ret : Option FieldType} {rm : Room} {Q : State → Prop} {σ : St} {pc : Nat} {lv : List (Nat × Value)} {st : List Value} (C : Zc Θ cc nL RX7 ret rm) (hkd : Θ.2.2.2.2.1 = kdC) {voter_a : Int32} {state_a : Int32} {r : Int32} (hx : q7_gather σ voter_a state_a = some r) (hrm : rm7_gather.frames + 1 ≤ rm.frames ∧ 8 + (5 + 11) + rm7_gather.locals ≤ rm.locals) (hcat : (st.map fun v => v.category).sum ≤ 8) (hk : kc ≤ rm.cells ∧ ks ≤ rm.slots) (hd : decode cc pc = .ok (.invokevirtual 107, 3)) (kk : Z Θ nL kc ks Q σ (pc + 3) lv (.int r :: st)) : Z Θ nL kc ks Q σ pc lv (.int state_a :: .int voter_a :: .ref (zA Θ 21) :: st) := sorry
def q7_countAfter (σ : St) : Option St :=
  lt (fil σ 26 448 0) fun σ1_ =>
  if ((σ1_ 21 7) < 1) ∨ (64 < (σ1_ 21 7)) then (some σ1_) else
  Option.bind (sa σ1_ 26 448 ((((σ1_ 21 5) * 64) + (σ1_ 21 7)) - 1) 1) fun σ8_ =>
  lt ((σ8_ 21 5) - 1) fun v10_ =>
  Option.bind (loop2 (fun rec15_ (v18_ : Int32) (σ19_ : St) =>
  if 0 ≤ v18_ then
  Option.bind (loop2 (fun rec29_ (s32_ : Int32) (σ33_ : St) =>
  if s32_ < (σ33_ 21 7) then
  Option.bind (q7_gather σ33_ v18_ s32_) fun x40_ =>
  Option.bind (sa σ33_ 26 448 ((v18_ * 64) + s32_) x40_) fun σ42_ =>
  lt (s32_ + 1) fun s44_ =>
  rec29_ s44_ σ42_
  else (some (s32_, σ33_))) fuelN (0 : Int32) σ19_) fun y26_ =>
  lt (v18_ + (-1)) fun v46_ =>
  rec15_ v46_ y26_.2
  else (some (v18_, σ19_))) fuelN v10_ σ8_) fun y12_ =>
  some y12_.2
abbrev rm7_countAfter : Room := { frames := 4, cells := 0, slots := 0, locals := 92 }
theorem c7_countAfter {l : Launch} {kd : List KD} {w : Wp} {σ : St} (hkd : kd = kdC) (hi : zI kd w) {r : St} (hf : q7_countAfter σ = some r) : zM l kd w yX7_countAfter cX7_countAfter 3 none rm7_countAfter [.ref (w.2.2.1 21)] σ (none, r) := sorry
/-! LastLoaf$SecretBallots.spread -/
theorem w_2_139 : Cond.fieldLink "LastLoaf$SecretBallots" (21 : Nat) "LastLoaf$SecretBallots" "before" "[I" ∈ TB := sorry
theorem fg7_21 {Θ : Tz} {cc : ByteArray} {nL kc ks : Nat} {ret : Option FieldType} {rm : Room} {Q : State → Prop} {σ : St} {pc : Nat} {lv : List (Nat × Value)} {st : List Value} (C : Zc Θ cc nL RX7 ret rm) (hkd : Θ.2.2.2.2.1 = kdC) (hd : decode cc pc = .ok (.getfield 21, 3)) (kk : Z Θ nL kc ks Q σ (pc + 3) lv (.ref (zA Θ 25) :: st)) : Z Θ nL kc ks Q σ pc lv (.ref (zA Θ 21) :: st) := sorry
def q7_spread (σ : St) (voter_a : Int32) (state_a : Int32) : Option St :=
  Option.bind (ag σ 25 448 ((voter_a * 64) + state_a)) fun x1_ =>
  lt ((voter_a + 1) * 64) fun to3_ =>
  if ¬ (q11_isIn (σ 21 6) voter_a = true) then (Option.bind (ag σ 25 448 (to3_ + state_a)) fun x9_ =>
  Option.bind (sa σ 25 448 (to3_ + state_a) (x9_ + x1_)) fun σ11_ =>
  some σ11_) else
  Option.bind (loop2 (fun rec16_ (r19_ : Int32) (σ20_ : St) =>
  if r19_ < (σ20_ 21 5) then
  Option.bind (Option.bind (ag σ20_ 24 6 voter_a) fun x32_ =>
  if q11_isIn x32_ r19_ = true then (Option.bind (q7_stateWith σ20_ state_a r19_) fun x35_ =>
  some x35_) else (some (-1 : Int32))) fun x27_ =>
  Option.bind (if ¬ x27_ = (-1) then (Option.bind (ag σ20_ 25 448 (to3_ + x27_)) fun x45_ =>
  Option.bind (sa σ20_ 25 448 (to3_ + x27_) (x45_ + x1_)) fun σ47_ =>
  some (σ47_)) else (some (σ20_))) fun y38_ =>
  lt (r19_ + 1) fun r49_ =>
  rec16_ r49_ y38_
  else (some (r19_, σ20_))) fuelN (0 : Int32) σ) fun y13_ =>
  some y13_.2
abbrev rm7_spread : Room := { frames := 2, cells := 0, slots := 0, locals := 44 }
theorem c7_spread {l : Launch} {kd : List KD} {w : Wp} {σ : St} {voter_a : Int32} {state_a : Int32} (hkd : kd = kdC) (hi : zI kd w) {r : St} (hf : q7_spread σ voter_a state_a = some r) : zM l kd w yX7_spread cX7_spread 7 none rm7_spread [.ref (w.2.2.1 21), .int voter_a, .int state_a] σ (none, r) := sorry
/-! LastLoaf$SecretBallots.countBefore -/
theorem w_7_70 : Cond.code ({ cls := "LastLoaf$SecretBallots", name := "spread", desc := "(II)V" } : MethodName) prog_9_method_8_code (7 : Nat) (Option.none : Option ClassFile.FieldType) ∈ TB := sorry
theorem w_7_67 : Cond.methodLink "LastLoaf$SecretBallots" (100 : Nat) ({ cls := "LastLoaf$SecretBallots", name := "spread", desc := "(II)V" } : MethodName) ∈ TB := sorry
theorem w_7_68 : Cond.instanceMethod ({ cls := "LastLoaf$SecretBallots", name := "spread", desc := "(II)V" } : MethodName) ∈ TB := sorry
theorem w_7_69 : Cond.selects "LastLoaf$SecretBallots" ({ cls := "LastLoaf$SecretBallots", name := "spread", desc := "(II)V" } : MethodName) ({ cls := "LastLoaf$SecretBallots", name := "spread", desc := "(II)V" } : MethodName) ∈ TB := sorry
theorem cr7_100 {Θ : Tz} {cc : ByteArray} {nL kc ks : Nat} {ret : Option FieldType} {rm : Room} {Q : State → Prop} {σ : St} {pc : Nat} {lv : List (Nat × Value)} {st : List Value} (C : Zc Θ cc nL RX7 ret rm) (hkd : Θ.2.2.2.2.1 = kdC) {voter_a : Int32} {state_a : Int32} {r : St} (hx : q7_spread σ voter_a state_a = some r) (hrm : rm7_spread.frames + 1 ≤ rm.frames ∧ 8 + (7 + 11) + rm7_spread.locals ≤ rm.locals) (hcat : (st.map fun v => v.category).sum ≤ 8) (hk : kc ≤ rm.cells ∧ ks ≤ rm.slots) (hd : decode cc pc = .ok (.invokevirtual 100, 3)) (kk : Z Θ nL kc ks Q r (pc + 3) lv st) : Z Θ nL kc ks Q σ pc lv (.int state_a :: .int voter_a :: .ref (zA Θ 21) :: st) := sorry
def q7_countBefore (σ : St) : Option St :=
  lt (fil σ 25 448 0) fun σ1_ =>
  Option.bind (sa σ1_ 25 448 0 1) fun σ3_ =>
  Option.bind (loop2 (fun rec8_ (v11_ : Int32) (σ12_ : St) =>
  if v11_ < (σ12_ 21 5) then
  Option.bind (loop2 (fun rec22_ (s25_ : Int32) (σ26_ : St) =>
  if (s25_ < (σ26_ 21 7)) ∧ (s25_ < 64) then
  Option.bind (q7_spread σ26_ v11_ s25_) fun x34_ =>
  lt (s25_ + 1) fun s36_ =>
  rec22_ s36_ x34_
  else (some (s25_, σ26_))) fuelN (0 : Int32) σ12_) fun y19_ =>
  lt (v11_ + 1) fun v38_ =>
  rec8_ v38_ y19_.2
  else (some (v11_, σ12_))) fuelN (0 : Int32) σ3_) fun y5_ =>
  some y5_.2
abbrev rm7_countBefore : Room := { frames := 3, cells := 0, slots := 0, locals := 70 }
theorem c7_countBefore {l : Launch} {kd : List KD} {w : Wp} {σ : St} (hkd : kd = kdC) (hi : zI kd w) {r : St} (hf : q7_countBefore σ = some r) : zM l kd w yX7_countBefore cX7_countBefore 3 none rm7_countBefore [.ref (w.2.2.1 21)] σ (none, r) := sorry
/-! LastLoaf$SecretBallots.countWays -/
theorem fp7_34 {Θ : Tz} {cc : ByteArray} {nL kc ks : Nat} {ret : Option FieldType} {rm : Room} {Q : State → Prop} {σ : St} {pc : Nat} {lv : List (Nat × Value)} {st : List Value} (C : Zc Θ cc nL RX7 ret rm) (hkd : Θ.2.2.2.2.1 = kdC) {x : Int32} {σ1 : St} (he : σ1 = up σ 21 7 x) (hd : decode cc pc = .ok (.putfield 34, 3)) (kk : Z Θ nL kc ks Q σ1 (pc + 3) lv st) : Z Θ nL kc ks Q σ pc lv (.int x :: .ref (zA Θ 21) :: st) := sorry
theorem w_7_61 : Cond.code ({ cls := "LastLoaf$SecretBallots", name := "choicesOf", desc := "(LLastLoaf$Village;II)I" } : MethodName) prog_9_method_5_code (6 : Nat) (Option.some ClassFile.FieldType.int) ∈ TB := sorry
theorem w_7_58 : Cond.methodLink "LastLoaf$SecretBallots" (87 : Nat) ({ cls := "LastLoaf$SecretBallots", name := "choicesOf", desc := "(LLastLoaf$Village;II)I" } : MethodName) ∈ TB := sorry
theorem w_7_59 : Cond.instanceMethod ({ cls := "LastLoaf$SecretBallots", name := "choicesOf", desc := "(LLastLoaf$Village;II)I" } : MethodName) ∈ TB := sorry
theorem w_7_60 : Cond.selects "LastLoaf$SecretBallots" ({ cls := "LastLoaf$SecretBallots", name := "choicesOf", desc := "(LLastLoaf$Village;II)I" } : MethodName) ({ cls := "LastLoaf$SecretBallots", name := "choicesOf", desc := "(LLastLoaf$Village;II)I" } : MethodName) ∈ TB := sorry
theorem cr7_87 {Θ : Tz} {cc : ByteArray} {nL kc ks : Nat} {ret : Option FieldType} {rm : Room} {Q : State → Prop} {σ : St} {pc : Nat} {lv : List (Nat × Value)} {st : List Value} (C : Zc Θ cc nL RX7 ret rm) (hkd : Θ.2.2.2.2.1 = kdC) {village_a : Nat} {runners_a : Int32} {voter_a : Int32} (h_village : isV village_a) {r : Int32} (hx : q7_choicesOf σ village_a runners_a voter_a = some r) (hrm : rm7_choicesOf.frames + 1 ≤ rm.frames ∧ 8 + (6 + 11) + rm7_choicesOf.locals ≤ rm.locals) (hcat : (st.map fun v => v.category).sum ≤ 8) (hk : kc ≤ rm.cells ∧ ks ≤ rm.slots) (hd : decode cc pc = .ok (.invokevirtual 87, 3)) (kk : Z Θ nL kc ks Q σ (pc + 3) lv (.int r :: st)) : Z Θ nL kc ks Q σ pc lv (.int voter_a :: .int runners_a :: .ref (zA Θ village_a) :: .ref (zA Θ 21) :: st) := sorry
theorem w_7_66 : Cond.code ({ cls := "LastLoaf$SecretBallots", name := "countBefore", desc := "()V" } : MethodName) prog_9_method_7_code (3 : Nat) (Option.none : Option ClassFile.FieldType) ∈ TB := sorry
theorem w_7_63 : Cond.methodLink "LastLoaf$SecretBallots" (91 : Nat) ({ cls := "LastLoaf$SecretBallots", name := "countBefore", desc := "()V" } : MethodName) ∈ TB := sorry
theorem w_7_64 : Cond.instanceMethod ({ cls := "LastLoaf$SecretBallots", name := "countBefore", desc := "()V" } : MethodName) ∈ TB := sorry
theorem w_7_65 : Cond.selects "LastLoaf$SecretBallots" ({ cls := "LastLoaf$SecretBallots", name := "countBefore", desc := "()V" } : MethodName) ({ cls := "LastLoaf$SecretBallots", name := "countBefore", desc := "()V" } : MethodName) ∈ TB := sorry
theorem cr7_91 {Θ : Tz} {cc : ByteArray} {nL kc ks : Nat} {ret : Option FieldType} {rm : Room} {Q : State → Prop} {σ : St} {pc : Nat} {lv : List (Nat × Value)} {st : List Value} (C : Zc Θ cc nL RX7 ret rm) (hkd : Θ.2.2.2.2.1 = kdC) {r : St} (hx : q7_countBefore σ = some r) (hrm : rm7_countBefore.frames + 1 ≤ rm.frames ∧ 8 + (3 + 11) + rm7_countBefore.locals ≤ rm.locals) (hcat : (st.map fun v => v.category).sum ≤ 8) (hk : kc ≤ rm.cells ∧ ks ≤ rm.slots) (hd : decode cc pc = .ok (.invokevirtual 91, 3)) (kk : Z Θ nL kc ks Q r (pc + 3) lv st) : Z Θ nL kc ks Q σ pc lv (.ref (zA Θ 21) :: st) := sorry
theorem w_7_78 : Cond.code ({ cls := "LastLoaf$SecretBallots", name := "countAfter", desc := "()V" } : MethodName) prog_9_method_9_code (3 : Nat) (Option.none : Option ClassFile.FieldType) ∈ TB := sorry
theorem w_7_75 : Cond.methodLink "LastLoaf$SecretBallots" (94 : Nat) ({ cls := "LastLoaf$SecretBallots", name := "countAfter", desc := "()V" } : MethodName) ∈ TB := sorry
theorem w_7_76 : Cond.instanceMethod ({ cls := "LastLoaf$SecretBallots", name := "countAfter", desc := "()V" } : MethodName) ∈ TB := sorry
theorem w_7_77 : Cond.selects "LastLoaf$SecretBallots" ({ cls := "LastLoaf$SecretBallots", name := "countAfter", desc := "()V" } : MethodName) ({ cls := "LastLoaf$SecretBallots", name := "countAfter", desc := "()V" } : MethodName) ∈ TB := sorry
theorem cr7_94 {Θ : Tz} {cc : ByteArray} {nL kc ks : Nat} {ret : Option FieldType} {rm : Room} {Q : State → Prop} {σ : St} {pc : Nat} {lv : List (Nat × Value)} {st : List Value} (C : Zc Θ cc nL RX7 ret rm) (hkd : Θ.2.2.2.2.1 = kdC) {r : St} (hx : q7_countAfter σ = some r) (hrm : rm7_countAfter.frames + 1 ≤ rm.frames ∧ 8 + (3 + 11) + rm7_countAfter.locals ≤ rm.locals) (hcat : (st.map fun v => v.category).sum ≤ 8) (hk : kc ≤ rm.cells ∧ ks ≤ rm.slots) (hd : decode cc pc = .ok (.invokevirtual 94, 3)) (kk : Z Θ nL kc ks Q r (pc + 3) lv st) : Z Θ nL kc ks Q σ pc lv (.ref (zA Θ 21) :: st) := sorry
theorem w_2_144 : Cond.fieldLink "LastLoaf$SecretBallots" (37 : Nat) "LastLoaf$SecretBallots" "ways" "I" ∈ TB := sorry
theorem fp7_37 {Θ : Tz} {cc : ByteArray} {nL kc ks : Nat} {ret : Option FieldType} {rm : Room} {Q : State → Prop} {σ : St} {pc : Nat} {lv : List (Nat × Value)} {st : List Value} (C : Zc Θ cc nL RX7 ret rm) (hkd : Θ.2.2.2.2.1 = kdC) {x : Int32} {σ1 : St} (he : σ1 = up σ 21 8 x) (hd : decode cc pc = .ok (.putfield 37, 3)) (kk : Z Θ nL kc ks Q σ1 (pc + 3) lv st) : Z Θ nL kc ks Q σ pc lv (.int x :: .ref (zA Θ 21) :: st) := sorry
def q7_countWays (σ : St) (village_a : Nat) (runners_a : Int32) : Option St :=
  lt (up σ 21 7 1) fun σ1_ =>
  Option.bind (loop2 (fun rec6_ (r9_ : Int32) (σ10_ : St) =>
  if r9_ < (σ10_ 21 5) then
  Option.bind (sa σ10_ 23 6 r9_ (σ10_ 21 7)) fun σ17_ =>
  Option.bind (ag σ17_ 22 6 r9_) fun x19_ =>
  lt (up σ17_ 21 7 ((σ17_ 21 7) * ((imax 0 x19_) + 1))) fun σ21_ =>
  lt (r9_ + 1) fun r23_ =>
  rec6_ r23_ σ21_
  else (some (r9_, σ10_))) fuelN (0 : Int32) σ1_) fun y3_ =>
  Option.bind (loop2 (fun rec28_ (v31_ : Int32) (σ32_ : St) =>
  if v31_ < (σ32_ 21 5) then
  Option.bind (q7_choicesOf σ32_ village_a runners_a v31_) fun x39_ =>
  Option.bind (sa σ32_ 24 6 v31_ x39_) fun σ41_ =>
  lt (v31_ + 1) fun v43_ =>
  rec28_ v43_ σ41_
  else (some (v31_, σ32_))) fuelN (0 : Int32) y3_.2) fun y25_ =>
  Option.bind (q7_countBefore y25_.2) fun x45_ =>
  Option.bind (q7_countAfter x45_) fun x47_ =>
  Option.bind (ag x47_ 26 448 0) fun x49_ =>
  lt (up x47_ 21 8 x49_) fun σ51_ =>
  some σ51_
abbrev rm7_countWays : Room := { frames := 5, cells := 0, slots := 0, locals := 114 }
theorem c7_countWays {l : Launch} {kd : List KD} {w : Wp} {σ : St} {village_a : Nat} {runners_a : Int32} (hkd : kd = kdC) (hi : zI kd w) (h_village : isV village_a) {r : St} (hf : q7_countWays σ village_a runners_a = some r) : zM l kd w yX7_countWays cX7_countWays 4 none rm7_countWays [.ref (w.2.2.1 21), .ref (w.2.2.1 village_a), .int runners_a] σ (none, r) := sorry
/-! LastLoaf$SecretBallots.votesTold -/
def q7_votesTold (σ : St) : Option Int32 :=
  Option.bind (loop2 (fun rec4_ (sum7_ : Int32) (r8_ : Int32) =>
  if r8_ < (σ 21 5) then
  Option.bind (ag σ 22 6 r8_) fun x15_ =>
  lt (sum7_ + (imax 0 x15_)) fun sum17_ =>
  lt (r8_ + 1) fun r19_ =>
  rec4_ sum17_ r19_
  else (some (sum7_, r8_))) fuelN (0 : Int32) (0 : Int32)) fun y1_ =>
  some y1_.1
abbrev rm7_votesTold : Room := { frames := 1, cells := 0, slots := 0, locals := 21 }
theorem c7_votesTold {l : Launch} {kd : List KD} {w : Wp} {σ : St} (hkd : kd = kdC) (hi : zI kd w) {r : Int32} (hf : q7_votesTold σ = some r) : zM l kd w yX7_votesTold cX7_votesTold 3 (some .int) rm7_votesTold [.ref (w.2.2.1 21)] σ (some (.int r), σ) := sorry
/-! LastLoaf$SecretBallots.hear -/
theorem w_1_126 : Cond.fieldLink "LastLoaf$SecretBallots" (40 : Nat) "LastLoaf$Village" "people" "I" ∈ TB := sorry
theorem fg7_40 {Θ : Tz} {cc : ByteArray} {nL kc ks : Nat} {ret : Option FieldType} {rm : Room} {Q : State → Prop} {σ : St} {pc : Nat} {lv : List (Nat × Value)} {st : List Value} (C : Zc Θ cc nL RX7 ret rm) (hkd : Θ.2.2.2.2.1 = kdC) {th : Nat} (hth : isV th) (hd : decode cc pc = .ok (.getfield 40, 3)) (kk : Z Θ nL kc ks Q σ (pc + 3) lv (.int (σ th 8) :: st)) : Z Θ nL kc ks Q σ pc lv (.ref (zA Θ th) :: st) := sorry
theorem fp7_27 {Θ : Tz} {cc : ByteArray} {nL kc ks : Nat} {ret : Option FieldType} {rm : Room} {Q : State → Prop} {σ : St} {pc : Nat} {lv : List (Nat × Value)} {st : List Value} (C : Zc Θ cc nL RX7 ret rm) (hkd : Θ.2.2.2.2.1 = kdC) {x : Int32} {σ1 : St} (he : σ1 = up σ 21 5 x) (hd : decode cc pc = .ok (.putfield 27, 3)) (kk : Z Θ nL kc ks Q σ1 (pc + 3) lv st) : Z Θ nL kc ks Q σ pc lv (.int x :: .ref (zA Θ 21) :: st) := sorry
theorem w_2_52 : Cond.fieldLink "LastLoaf$SecretBallots" (43 : Nat) "LastLoaf$Poll" "voters" "I" ∈ TB := sorry
theorem fg7_43 {Θ : Tz} {cc : ByteArray} {nL kc ks : Nat} {ret : Option FieldType} {rm : Room} {Q : State → Prop} {σ : St} {pc : Nat} {lv : List (Nat × Value)} {st : List Value} (C : Zc Θ cc nL RX7 ret rm) (hkd : Θ.2.2.2.2.1 = kdC) (hd : decode cc pc = .ok (.getfield 43, 3)) (kk : Z Θ nL kc ks Q σ (pc + 3) lv (.int (σ 6 9) :: st)) : Z Θ nL kc ks Q σ pc lv (.ref (zA Θ 6) :: st) := sorry
theorem fp7_31 {Θ : Tz} {cc : ByteArray} {nL kc ks : Nat} {ret : Option FieldType} {rm : Room} {Q : State → Prop} {σ : St} {pc : Nat} {lv : List (Nat × Value)} {st : List Value} (C : Zc Θ cc nL RX7 ret rm) (hkd : Θ.2.2.2.2.1 = kdC) {x : Int32} {σ1 : St} (he : σ1 = up σ 21 6 x) (hd : decode cc pc = .ok (.putfield 31, 3)) (kk : Z Θ nL kc ks Q σ1 (pc + 3) lv st) : Z Θ nL kc ks Q σ pc lv (.int x :: .ref (zA Θ 21) :: st) := sorry
theorem w_1_48 : Cond.fieldLink "LastLoaf$SecretBallots" (52 : Nat) "LastLoaf$Tape" "length" "I" ∈ TB := sorry
theorem fg7_52 {Θ : Tz} {cc : ByteArray} {nL kc ks : Nat} {ret : Option FieldType} {rm : Room} {Q : State → Prop} {σ : St} {pc : Nat} {lv : List (Nat × Value)} {st : List Value} (C : Zc Θ cc nL RX7 ret rm) (hkd : Θ.2.2.2.2.1 = kdC) (hd : decode cc pc = .ok (.getfield 52, 3)) (kk : Z Θ nL kc ks Q σ (pc + 3) lv (.int (σ 1 1) :: st)) : Z Θ nL kc ks Q σ pc lv (.ref (zA Θ 1) :: st) := sorry
theorem w_1_45 : Cond.fieldLink "LastLoaf$SecretBallots" (57 : Nat) "LastLoaf$Tape" "bytes" "[I" ∈ TB := sorry
theorem fg7_57 {Θ : Tz} {cc : ByteArray} {nL kc ks : Nat} {ret : Option FieldType} {rm : Room} {Q : State → Prop} {σ : St} {pc : Nat} {lv : List (Nat × Value)} {st : List Value} (C : Zc Θ cc nL RX7 ret rm) (hkd : Θ.2.2.2.2.1 = kdC) (hd : decode cc pc = .ok (.getfield 57, 3)) (kk : Z Θ nL kc ks Q σ (pc + 3) lv (.ref (zA Θ 2) :: st)) : Z Θ nL kc ks Q σ pc lv (.ref (zA Θ 1) :: st) := sorry
theorem w_2_49 : Cond.fieldLink "LastLoaf$SecretBallots" (60 : Nat) "LastLoaf$Poll" "runners" "I" ∈ TB := sorry
theorem fg7_60 {Θ : Tz} {cc : ByteArray} {nL kc ks : Nat} {ret : Option FieldType} {rm : Room} {Q : State → Prop} {σ : St} {pc : Nat} {lv : List (Nat × Value)} {st : List Value} (C : Zc Θ cc nL RX7 ret rm) (hkd : Θ.2.2.2.2.1 = kdC) (hd : decode cc pc = .ok (.getfield 60, 3)) (kk : Z Θ nL kc ks Q σ (pc + 3) lv (.int (σ 6 7) :: st)) : Z Θ nL kc ks Q σ pc lv (.ref (zA Θ 6) :: st) := sorry
theorem w_7_51 : Cond.code ({ cls := "LastLoaf$SecretBallots", name := "votesTold", desc := "()I" } : MethodName) prog_9_method_3_code (3 : Nat) (Option.some ClassFile.FieldType.int) ∈ TB := sorry
theorem w_7_48 : Cond.methodLink "LastLoaf$SecretBallots" (67 : Nat) ({ cls := "LastLoaf$SecretBallots", name := "votesTold", desc := "()I" } : MethodName) ∈ TB := sorry
theorem w_7_49 : Cond.instanceMethod ({ cls := "LastLoaf$SecretBallots", name := "votesTold", desc := "()I" } : MethodName) ∈ TB := sorry
theorem w_7_50 : Cond.selects "LastLoaf$SecretBallots" ({ cls := "LastLoaf$SecretBallots", name := "votesTold", desc := "()I" } : MethodName) ({ cls := "LastLoaf$SecretBallots", name := "votesTold", desc := "()I" } : MethodName) ∈ TB := sorry
theorem cr7_67 {Θ : Tz} {cc : ByteArray} {nL kc ks : Nat} {ret : Option FieldType} {rm : Room} {Q : State → Prop} {σ : St} {pc : Nat} {lv : List (Nat × Value)} {st : List Value} (C : Zc Θ cc nL RX7 ret rm) (hkd : Θ.2.2.2.2.1 = kdC) {r : Int32} (hx : q7_votesTold σ = some r) (hrm : rm7_votesTold.frames + 1 ≤ rm.frames ∧ 8 + (3 + 11) + rm7_votesTold.locals ≤ rm.locals) (hcat : (st.map fun v => v.category).sum ≤ 8) (hk : kc ≤ rm.cells ∧ ks ≤ rm.slots) (hd : decode cc pc = .ok (.invokevirtual 67, 3)) (kk : Z Θ nL kc ks Q σ (pc + 3) lv (.int r :: st)) : Z Θ nL kc ks Q σ pc lv (.ref (zA Θ 21) :: st) := sorry
theorem w_7_53 : Cond.methodLink "LastLoaf$SecretBallots" (71 : Nat) ({ cls := "java/lang/Integer", name := "bitCount", desc := "(I)I" } : MethodName) ∈ TB := sorry
theorem w_7_57 : Cond.code ({ cls := "LastLoaf$SecretBallots", name := "countWays", desc := "(LLastLoaf$Village;I)V" } : MethodName) prog_9_method_4_code (4 : Nat) (Option.none : Option ClassFile.FieldType) ∈ TB := sorry
theorem w_7_54 : Cond.methodLink "LastLoaf$SecretBallots" (77 : Nat) ({ cls := "LastLoaf$SecretBallots", name := "countWays", desc := "(LLastLoaf$Village;I)V" } : MethodName) ∈ TB := sorry
theorem w_7_55 : Cond.instanceMethod ({ cls := "LastLoaf$SecretBallots", name := "countWays", desc := "(LLastLoaf$Village;I)V" } : MethodName) ∈ TB := sorry
theorem w_7_56 : Cond.selects "LastLoaf$SecretBallots" ({ cls := "LastLoaf$SecretBallots", name := "countWays", desc := "(LLastLoaf$Village;I)V" } : MethodName) ({ cls := "LastLoaf$SecretBallots", name := "countWays", desc := "(LLastLoaf$Village;I)V" } : MethodName) ∈ TB := sorry
theorem cr7_77 {Θ : Tz} {cc : ByteArray} {nL kc ks : Nat} {ret : Option FieldType} {rm : Room} {Q : State → Prop} {σ : St} {pc : Nat} {lv : List (Nat × Value)} {st : List Value} (C : Zc Θ cc nL RX7 ret rm) (hkd : Θ.2.2.2.2.1 = kdC) {village_a : Nat} {runners_a : Int32} (h_village : isV village_a) {r : St} (hx : q7_countWays σ village_a runners_a = some r) (hrm : rm7_countWays.frames + 1 ≤ rm.frames ∧ 8 + (4 + 11) + rm7_countWays.locals ≤ rm.locals) (hcat : (st.map fun v => v.category).sum ≤ 8) (hk : kc ≤ rm.cells ∧ ks ≤ rm.slots) (hd : decode cc pc = .ok (.invokevirtual 77, 3)) (kk : Z Θ nL kc ks Q r (pc + 3) lv st) : Z Θ nL kc ks Q σ pc lv (.int runners_a :: .ref (zA Θ village_a) :: .ref (zA Θ 21) :: st) := sorry
def q7_hear (σ : St) (village_a : Nat) : Option (Bool × St) :=
  lt (up σ 21 5 (σ village_a 8)) fun σ1_ =>
  lt (up σ1_ 21 6 (σ1_ 6 9)) fun σ3_ =>
  lt (up σ3_ 21 8 0) fun σ5_ =>
  lt (fil σ5_ 22 6 (-1)) fun σ7_ =>
  if (40 < (σ7_ 1 1)) ∨ (¬ (irm (σ7_ 1 1) 2) = 0) then (some (false, σ7_)) else
  Option.bind (loop3 (fun rec17_ (agree20_ : Bool) (i21_ : Int32) (σ22_ : St) =>
  if (i21_ + 1) < (σ22_ 1 1) then
  Option.bind (ag σ22_ 2 400 i21_) fun x29_ =>
  Option.bind (ag σ22_ 2 400 (i21_ + 1)) fun x31_ =>
  if (((σ22_ 21 5) ≤ x29_) ∨ (¬ (q11_isIn (σ22_ 6 7) x29_ = true))) ∨ (6 < x31_) then (some (.inl (false, σ22_))) else
  Option.bind (Option.bind (if agree20_ = true then (Option.bind (ag σ22_ 22 6 x29_) fun x47_ =>
  if x47_ = (-1) then (some true) else (Option.bind (ag σ22_ 22 6 x29_) fun x50_ =>
  if x50_ = x31_ then (some true) else (some false))) else (some false)) fun t44_ =>
  if t44_ = true then (some true) else (some false)) fun x39_ =>
  Option.bind (sa σ22_ 22 6 x29_ x31_) fun σ54_ =>
  lt (i21_ + 2) fun i56_ =>
  rec17_ x39_ i56_ σ54_
  else (some (.inr (agree20_, i21_, σ22_)))) fuelN true (0 : Int32) σ7_) fun y14_ =>
  Sum.elim (fun x9 => some x9) (fun y14_r =>
  Option.bind (Option.bind (if y14_r.1 = true then (Option.bind (q7_votesTold y14_r.2.2) fun x66_ =>
  if x66_ ≤ (bcount (y14_r.2.2 21 6)) then (some true) else (some false)) else (some false)) fun t63_ =>
  if t63_ = true then (Option.bind (q7_countWays y14_r.2.2 village_a (y14_r.2.2 6 7)) fun x70_ =>
  some (x70_)) else (some (y14_r.2.2))) fun y58_ =>
  some (true, y58_)) y14_
abbrev rm7_hear : Room := { frames := 6, cells := 0, slots := 0, locals := 137 }
theorem c7_hear {l : Launch} {kd : List KD} {w : Wp} {σ : St} {village_a : Nat} (hkd : kd = kdC) (hi : zI kd w) (h_village : isV village_a) {r : (Bool × St)} (hf : q7_hear σ village_a = some r) : zM l kd w yX7_hear cX7_hear 8 (some .boolean) rm7_hear [.ref (w.2.2.1 21), .ref (w.2.2.1 1), .ref (w.2.2.1 village_a), .ref (w.2.2.1 6)] σ (some (.int (b2i r.1)), r.2) := sorry
/-! LastLoaf.hearBallots -/
theorem w_2_199 : Cond.fieldLink "LastLoaf" (84 : Nat) "LastLoaf" "secrets" "LLastLoaf$SecretBallots;" ∈ TB := sorry
theorem fg11_84 {Θ : Tz} {cc : ByteArray} {nL kc ks : Nat} {ret : Option FieldType} {rm : Room} {Q : State → Prop} {σ : St} {pc : Nat} {lv : List (Nat × Value)} {st : List Value} (C : Zc Θ cc nL RX11 ret rm) (hkd : Θ.2.2.2.2.1 = kdC) (hd : decode cc pc = .ok (.getfield 84, 3)) (kk : Z Θ nL kc ks Q σ (pc + 3) lv (.ref (zA Θ 21) :: st)) : Z Θ nL kc ks Q σ pc lv (.ref (zA Θ 0) :: st) := sorry
theorem w_7_45 : Cond.code ({ cls := "LastLoaf$SecretBallots", name := "hear", desc := "(LLastLoaf$Tape;LLastLoaf$Village;LLastLoaf$Poll;)Z" } : MethodName) prog_9_method_2_code (8 : Nat) (Option.some ClassFile.FieldType.boolean) ∈ TB := sorry
theorem w_7_42 : Cond.methodLink "LastLoaf" (473 : Nat) ({ cls := "LastLoaf$SecretBallots", name := "hear", desc := "(LLastLoaf$Tape;LLastLoaf$Village;LLastLoaf$Poll;)Z" } : MethodName) ∈ TB := sorry
theorem w_7_43 : Cond.instanceMethod ({ cls := "LastLoaf$SecretBallots", name := "hear", desc := "(LLastLoaf$Tape;LLastLoaf$Village;LLastLoaf$Poll;)Z" } : MethodName) ∈ TB := sorry
theorem w_7_44 : Cond.selects "LastLoaf$SecretBallots" ({ cls := "LastLoaf$SecretBallots", name := "hear", desc := "(LLastLoaf$Tape;LLastLoaf$Village;LLastLoaf$Poll;)Z" } : MethodName) ({ cls := "LastLoaf$SecretBallots", name := "hear", desc := "(LLastLoaf$Tape;LLastLoaf$Village;LLastLoaf$Poll;)Z" } : MethodName) ∈ TB := sorry
theorem cr11_473 {Θ : Tz} {cc : ByteArray} {nL kc ks : Nat} {ret : Option FieldType} {rm : Room} {Q : State → Prop} {σ : St} {pc : Nat} {lv : List (Nat × Value)} {st : List Value} (C : Zc Θ cc nL RX11 ret rm) (hkd : Θ.2.2.2.2.1 = kdC) {village_a : Nat} (h_village : isV village_a) {r : Bool × St} (hx : q7_hear σ village_a = some r) (hrm : rm7_hear.frames + 1 ≤ rm.frames ∧ 8 + (8 + 11) + rm7_hear.locals ≤ rm.locals) (hcat : (st.map fun v => v.category).sum ≤ 8) (hk : kc ≤ rm.cells ∧ ks ≤ rm.slots) (hd : decode cc pc = .ok (.invokevirtual 473, 3)) (kk : Z Θ nL kc ks Q r.2 (pc + 3) lv (.int (b2i r.1) :: st)) : Z Θ nL kc ks Q σ pc lv (.ref (zA Θ 6) :: .ref (zA Θ village_a) :: .ref (zA Θ 1) :: .ref (zA Θ 21) :: st) := sorry
def q11_hearBallots (σ : St) : Option (Bool × St) :=
  Option.bind (q11_pollNow σ) fun x1_ =>
  Option.bind (q7_hear x1_.2 44) fun x3_ =>
  lt (up x3_.2 1 1 0) fun σ5_ =>
  some (x3_.1, σ5_)
abbrev rm11_hearBallots : Room := { frames := 7, cells := 0, slots := 0, locals := 164 }
theorem c11_hearBallots {l : Launch} {kd : List KD} {w : Wp} {σ : St} (hkd : kd = kdC) (hi : zI kd w) {r : (Bool × St)} (hf : q11_hearBallots σ = some r) : zM l kd w yX11_hearBallots cX11_hearBallots 2 (some .boolean) rm11_hearBallots [.ref (w.2.2.1 0)] σ (some (.int (b2i r.1)), r.2) := sorry
/-! LastLoaf.needBallots -/
def q11_needBallots (heard_a : Bool) : Option Nat :=
  if ¬ (heard_a = true) then (some 0) else
  none
abbrev rm11_needBallots : Room := { frames := 6, cells := 1, slots := 6, locals := 90 }
theorem c11_needBallots {l : Launch} {kd : List KD} {w : Wp} {σ : St} {heard_a : Bool} (hkd : kd = kdC) (hi : zI kd w) (hlt : l.stackTraces = false) : zX l kd w yX11_needBallots cX11_needBallots 1 none rm11_needBallots [.int (b2i heard_a)] σ (omN (q11_needBallots heard_a) σ) 1 6 := sorry
/-! LastLoaf.ballots -/
theorem w_7_41 : Cond.code ({ cls := "LastLoaf", name := "hearBallots", desc := "()Z" } : MethodName) prog_1_method_77_code (2 : Nat) (Option.some ClassFile.FieldType.boolean) ∈ TB := sorry
theorem w_7_38 : Cond.methodLink "LastLoaf" (330 : Nat) ({ cls := "LastLoaf", name := "hearBallots", desc := "()Z" } : MethodName) ∈ TB := sorry
theorem w_7_40 : Cond.instanceMethod ({ cls := "LastLoaf", name := "hearBallots", desc := "()Z" } : MethodName) ∈ TB := sorry
theorem ws_LastLoaf_hearBallots__Z : Cond.selects "LastLoaf" (⟨"LastLoaf", "hearBallots", "()Z"⟩ : MethodName) (⟨"LastLoaf", "hearBallots", "()Z"⟩ : MethodName) ∈ TB := sorry
theorem cr11_330 {Θ : Tz} {cc : ByteArray} {nL kc ks : Nat} {ret : Option FieldType} {rm : Room} {Q : State → Prop} {σ : St} {pc : Nat} {lv : List (Nat × Value)} {st : List Value} (C : Zc Θ cc nL RX11 ret rm) (hkd : Θ.2.2.2.2.1 = kdC) {r : Bool × St} (hx : q11_hearBallots σ = some r) (hrm : rm11_hearBallots.frames + 1 ≤ rm.frames ∧ 8 + (2 + 11) + rm11_hearBallots.locals ≤ rm.locals) (hcat : (st.map fun v => v.category).sum ≤ 8) (hk : kc ≤ rm.cells ∧ ks ≤ rm.slots) (hd : decode cc pc = .ok (.invokevirtual 330, 3)) (kk : Z Θ nL kc ks Q r.2 (pc + 3) lv (.int (b2i r.1) :: st)) : Z Θ nL kc ks Q σ pc lv (.ref (zA Θ 0) :: st) := sorry
theorem w_7_89 : Cond.code ({ cls := "LastLoaf", name := "needBallots", desc := "(Z)V" } : MethodName) prog_1_method_72_code (1 : Nat) (Option.none : Option ClassFile.FieldType) ∈ TB := sorry
theorem w_7_87 : Cond.methodLink "LastLoaf" (333 : Nat) ({ cls := "LastLoaf", name := "needBallots", desc := "(Z)V" } : MethodName) ∈ TB := sorry
theorem w_7_88 : Cond.static ({ cls := "LastLoaf", name := "needBallots", desc := "(Z)V" } : MethodName) ∈ TB := sorry
theorem w_2_145 : Cond.fieldLink "LastLoaf" (336 : Nat) "LastLoaf$SecretBallots" "ways" "I" ∈ TB := sorry
theorem fg11_336 {Θ : Tz} {cc : ByteArray} {nL kc ks : Nat} {ret : Option FieldType} {rm : Room} {Q : State → Prop} {σ : St} {pc : Nat} {lv : List (Nat × Value)} {st : List Value} (C : Zc Θ cc nL RX11 ret rm) (hkd : Θ.2.2.2.2.1 = kdC) (hd : decode cc pc = .ok (.getfield 336, 3)) (kk : Z Θ nL kc ks Q σ (pc + 3) lv (.int (σ 21 8) :: st)) : Z Θ nL kc ks Q σ pc lv (.ref (zA Θ 21) :: st) := sorry
def q11_ballots (σ : St) : Option (Sum Nat Int32 × St) :=
  Option.bind (q11_hearBallots σ) fun x1_ =>
  thn (q11_needBallots x1_.1) x1_.2
  (some (.inr (imin 9999 (x1_.2 21 8)), x1_.2))
abbrev rm11_ballots : Room := { frames := 8, cells := 1, slots := 6, locals := 185 }
theorem c11_ballots {l : Launch} {kd : List KD} {w : Wp} {σ : St} (hkd : kd = kdC) (hi : zI kd w) (hlt : l.stackTraces = false) {r : (Sum Nat Int32 × St)} (hf : q11_ballots σ = some r) : zX l kd w yX11_ballots cX11_ballots 1 (some .int) rm11_ballots [.ref (w.2.2.1 0)] σ (om (fun v => some (.int v)) r) 1 6 := sorry
/-! LastLoaf$SecretBallots.partOf -/
def q7_partOf (σ : St) (voter_a : Int32) (runner_a : Int32) : Option Int32 :=
  Option.bind (loop2 (fun rec4_ (sum7_ : Int32) (s8_ : Int32) =>
  if (s8_ < (σ 21 7)) ∧ (s8_ < 64) then
  Option.bind (ag σ 25 448 ((voter_a * 64) + s8_)) fun x16_ =>
  Option.bind (q7_waysWith σ voter_a runner_a s8_) fun x18_ =>
  lt (sum7_ + (x16_ * x18_)) fun sum20_ =>
  lt (s8_ + 1) fun s22_ =>
  rec4_ sum20_ s22_
  else (some (sum7_, s8_))) fuelN (0 : Int32) (0 : Int32)) fun y1_ =>
  some y1_.1
abbrev rm7_partOf : Room := { frames := 3, cells := 0, slots := 0, locals := 68 }
theorem c7_partOf {l : Launch} {kd : List KD} {w : Wp} {σ : St} {voter_a : Int32} {runner_a : Int32} (hkd : kd = kdC) (hi : zI kd w) {r : Int32} (hf : q7_partOf σ voter_a runner_a = some r) : zM l kd w yX7_partOf cX7_partOf 5 (some .int) rm7_partOf [.ref (w.2.2.1 21), .int voter_a, .int runner_a] σ (some (.int r), σ) := sorry
/-! LastLoaf$SecretBallots.sureOf -/
theorem fg7_37 {Θ : Tz} {cc : ByteArray} {nL kc ks : Nat} {ret : Option FieldType} {rm : Room} {Q : State → Prop} {σ : St} {pc : Nat} {lv : List (Nat × Value)} {st : List Value} (C : Zc Θ cc nL RX7 ret rm) (hkd : Θ.2.2.2.2.1 = kdC) (hd : decode cc pc = .ok (.getfield 37, 3)) (kk : Z Θ nL kc ks Q σ (pc + 3) lv (.int (σ 21 8) :: st)) : Z Θ nL kc ks Q σ pc lv (.ref (zA Θ 21) :: st) := sorry
theorem w_7_105 : Cond.code ({ cls := "LastLoaf$SecretBallots", name := "partOf", desc := "(II)I" } : MethodName) prog_9_method_12_code (5 : Nat) (Option.some ClassFile.FieldType.int) ∈ TB := sorry
theorem w_7_102 : Cond.methodLink "LastLoaf$SecretBallots" (114 : Nat) ({ cls := "LastLoaf$SecretBallots", name := "partOf", desc := "(II)I" } : MethodName) ∈ TB := sorry
theorem w_7_103 : Cond.instanceMethod ({ cls := "LastLoaf$SecretBallots", name := "partOf", desc := "(II)I" } : MethodName) ∈ TB := sorry
theorem w_7_104 : Cond.selects "LastLoaf$SecretBallots" ({ cls := "LastLoaf$SecretBallots", name := "partOf", desc := "(II)I" } : MethodName) ({ cls := "LastLoaf$SecretBallots", name := "partOf", desc := "(II)I" } : MethodName) ∈ TB := sorry
theorem cr7_114 {Θ : Tz} {cc : ByteArray} {nL kc ks : Nat} {ret : Option FieldType} {rm : Room} {Q : State → Prop} {σ : St} {pc : Nat} {lv : List (Nat × Value)} {st : List Value} (C : Zc Θ cc nL RX7 ret rm) (hkd : Θ.2.2.2.2.1 = kdC) {voter_a : Int32} {runner_a : Int32} {r : Int32} (hx : q7_partOf σ voter_a runner_a = some r) (hrm : rm7_partOf.frames + 1 ≤ rm.frames ∧ 8 + (5 + 11) + rm7_partOf.locals ≤ rm.locals) (hcat : (st.map fun v => v.category).sum ≤ 8) (hk : kc ≤ rm.cells ∧ ks ≤ rm.slots) (hd : decode cc pc = .ok (.invokevirtual 114, 3)) (kk : Z Θ nL kc ks Q σ (pc + 3) lv (.int r :: st)) : Z Θ nL kc ks Q σ pc lv (.int runner_a :: .int voter_a :: .ref (zA Θ 21) :: st) := sorry
def q7_sureOf (σ : St) (person_a : Int32) : Option Int32 :=
  if ((σ 21 8) = 0) ∨ (¬ (q11_isIn (σ 21 6) person_a = true)) then (some (-1)) else
  Option.bind (loop1 (fun rec9_ (r12_ : Int32) =>
  if r12_ < (σ 21 5) then
  Option.bind (q7_partOf σ person_a r12_) fun x21_ =>
  if x21_ = (σ 21 8) then (some (.inl r12_)) else
  lt (r12_ + 1) fun r25_ =>
  rec9_ r25_
  else (some (.inr r12_))) fuelN (0 : Int32)) fun y6_ =>
  Sum.elim (fun x9 => some x9) (fun y6_r =>
  some (-1)) y6_
abbrev rm7_sureOf : Room := { frames := 4, cells := 0, slots := 0, locals := 92 }
theorem c7_sureOf {l : Launch} {kd : List KD} {w : Wp} {σ : St} {person_a : Int32} (hkd : kd = kdC) (hi : zI kd w) {r : Int32} (hf : q7_sureOf σ person_a = some r) : zM l kd w yX7_sureOf cX7_sureOf 3 (some .int) rm7_sureOf [.ref (w.2.2.1 21), .int person_a] σ (some (.int r), σ) := sorry
/-! LastLoaf.sure -/
theorem w_7_101 : Cond.code ({ cls := "LastLoaf$SecretBallots", name := "sureOf", desc := "(I)I" } : MethodName) prog_9_method_13_code (3 : Nat) (Option.some ClassFile.FieldType.int) ∈ TB := sorry
theorem w_7_98 : Cond.methodLink "LastLoaf" (339 : Nat) ({ cls := "LastLoaf$SecretBallots", name := "sureOf", desc := "(I)I" } : MethodName) ∈ TB := sorry
theorem w_7_99 : Cond.instanceMethod ({ cls := "LastLoaf$SecretBallots", name := "sureOf", desc := "(I)I" } : MethodName) ∈ TB := sorry
theorem w_7_100 : Cond.selects "LastLoaf$SecretBallots" ({ cls := "LastLoaf$SecretBallots", name := "sureOf", desc := "(I)I" } : MethodName) ({ cls := "LastLoaf$SecretBallots", name := "sureOf", desc := "(I)I" } : MethodName) ∈ TB := sorry
theorem cr11_339 {Θ : Tz} {cc : ByteArray} {nL kc ks : Nat} {ret : Option FieldType} {rm : Room} {Q : State → Prop} {σ : St} {pc : Nat} {lv : List (Nat × Value)} {st : List Value} (C : Zc Θ cc nL RX11 ret rm) (hkd : Θ.2.2.2.2.1 = kdC) {person_a : Int32} {r : Int32} (hx : q7_sureOf σ person_a = some r) (hrm : rm7_sureOf.frames + 1 ≤ rm.frames ∧ 8 + (3 + 11) + rm7_sureOf.locals ≤ rm.locals) (hcat : (st.map fun v => v.category).sum ≤ 8) (hk : kc ≤ rm.cells ∧ ks ≤ rm.slots) (hd : decode cc pc = .ok (.invokevirtual 339, 3)) (kk : Z Θ nL kc ks Q σ (pc + 3) lv (.int r :: st)) : Z Θ nL kc ks Q σ pc lv (.int person_a :: .ref (zA Θ 21) :: st) := sorry
def q11_sure (σ : St) (person_a : Int32) : Option (Sum Nat Int32 × St) :=
  Option.bind (q11_hearBallots σ) fun x1_ =>
  thn (q11_needPerson x1_.2 person_a) x1_.2
  (thn (q11_needBallots x1_.1) x1_.2
  (Option.bind (q7_sureOf x1_.2 person_a) fun x7_ =>
  some (.inr x7_, x1_.2)))
abbrev rm11_sure : Room := { frames := 8, cells := 2, slots := 12, locals := 185 }
theorem c11_sure {l : Launch} {kd : List KD} {w : Wp} {σ : St} {person_a : Int32} (hkd : kd = kdC) (hi : zI kd w) (hlt : l.stackTraces = false) {r : (Sum Nat Int32 × St)} (hf : q11_sure σ person_a = some r) : zX l kd w yX11_sure cX11_sure 3 (some .int) rm11_sure [.ref (w.2.2.1 0), .int person_a] σ (om (fun v => some (.int v)) r) 2 12 := sorry
/-! LastLoaf$SecretBallots.greatestPart -/
def q7_greatestPart (σ : St) (voter_a : Int32) : Option Int32 :=
  Option.bind (loop2 (fun rec4_ (greatest7_ : Int32) (r8_ : Int32) =>
  if r8_ < (σ 21 5) then
  Option.bind (q7_partOf σ voter_a r8_) fun x15_ =>
  lt (imax greatest7_ x15_) fun greatest17_ =>
  lt (r8_ + 1) fun r19_ =>
  rec4_ greatest17_ r19_
  else (some (greatest7_, r8_))) fuelN (0 : Int32) (0 : Int32)) fun y1_ =>
  some y1_.1
abbrev rm7_greatestPart : Room := { frames := 4, cells := 0, slots := 0, locals := 92 }
theorem c7_greatestPart {l : Launch} {kd : List KD} {w : Wp} {σ : St} {voter_a : Int32} (hkd : kd = kdC) (hi : zI kd w) {r : Int32} (hf : q7_greatestPart σ voter_a = some r) : zM l kd w yX7_greatestPart cX7_greatestPart 4 (some .int) rm7_greatestPart [.ref (w.2.2.1 21), .int voter_a] σ (some (.int r), σ) := sorry
/-! LastLoaf$SecretBallots.bestToAsk -/
theorem w_7_120 : Cond.code ({ cls := "LastLoaf$SecretBallots", name := "greatestPart", desc := "(I)I" } : MethodName) prog_9_method_15_code (4 : Nat) (Option.some ClassFile.FieldType.int) ∈ TB := sorry
theorem w_7_117 : Cond.methodLink "LastLoaf$SecretBallots" (117 : Nat) ({ cls := "LastLoaf$SecretBallots", name := "greatestPart", desc := "(I)I" } : MethodName) ∈ TB := sorry
theorem w_7_118 : Cond.instanceMethod ({ cls := "LastLoaf$SecretBallots", name := "greatestPart", desc := "(I)I" } : MethodName) ∈ TB := sorry
theorem w_7_119 : Cond.selects "LastLoaf$SecretBallots" ({ cls := "LastLoaf$SecretBallots", name := "greatestPart", desc := "(I)I" } : MethodName) ({ cls := "LastLoaf$SecretBallots", name := "greatestPart", desc := "(I)I" } : MethodName) ∈ TB := sorry
theorem cr7_117 {Θ : Tz} {cc : ByteArray} {nL kc ks : Nat} {ret : Option FieldType} {rm : Room} {Q : State → Prop} {σ : St} {pc : Nat} {lv : List (Nat × Value)} {st : List Value} (C : Zc Θ cc nL RX7 ret rm) (hkd : Θ.2.2.2.2.1 = kdC) {voter_a : Int32} {r : Int32} (hx : q7_greatestPart σ voter_a = some r) (hrm : rm7_greatestPart.frames + 1 ≤ rm.frames ∧ 8 + (4 + 11) + rm7_greatestPart.locals ≤ rm.locals) (hcat : (st.map fun v => v.category).sum ≤ 8) (hk : kc ≤ rm.cells ∧ ks ≤ rm.slots) (hd : decode cc pc = .ok (.invokevirtual 117, 3)) (kk : Z Θ nL kc ks Q σ (pc + 3) lv (.int r :: st)) : Z Θ nL kc ks Q σ pc lv (.int voter_a :: .ref (zA Θ 21) :: st) := sorry
def q7_bestToAsk (σ : St) : Option Int32 :=
  if (σ 21 8) < 2 then (some (-1)) else
  Option.bind (loop3 (fun rec8_ (best11_ : Int32) (least12_ : Int32) (v13_ : Int32) =>
  if v13_ < (σ 21 5) then
  Option.bind (if q11_isIn (σ 21 6) v13_ = true then (Option.bind (q7_greatestPart σ v13_) fun x26_ =>
  some x26_) else (some ((σ 21 8) + 1))) fun x20_ =>
  lt (if (q11_isIn (σ 21 6) v13_ = true) ∧ ((best11_ = (-1)) ∨ (x20_ < least12_)) then ((v13_, x20_)) else ((best11_, least12_))) fun y29_ =>
  lt (v13_ + 1) fun v38_ =>
  rec8_ y29_.1 y29_.2 v38_
  else (some (best11_, least12_, v13_))) fuelN (-1 : Int32) (0 : Int32) (0 : Int32)) fun y5_ =>
  some y5_.1
abbrev rm7_bestToAsk : Room := { frames := 5, cells := 0, slots := 0, locals := 115 }
theorem c7_bestToAsk {l : Launch} {kd : List KD} {w : Wp} {σ : St} (hkd : kd = kdC) (hi : zI kd w) {r : Int32} (hf : q7_bestToAsk σ = some r) : zM l kd w yX7_bestToAsk cX7_bestToAsk 5 (some .int) rm7_bestToAsk [.ref (w.2.2.1 21)] σ (some (.int r), σ) := sorry
/-! LastLoaf.ask -/
theorem w_7_116 : Cond.code ({ cls := "LastLoaf$SecretBallots", name := "bestToAsk", desc := "()I" } : MethodName) prog_9_method_14_code (5 : Nat) (Option.some ClassFile.FieldType.int) ∈ TB := sorry
theorem w_7_113 : Cond.methodLink "LastLoaf" (342 : Nat) ({ cls := "LastLoaf$SecretBallots", name := "bestToAsk", desc := "()I" } : MethodName) ∈ TB := sorry
theorem w_7_114 : Cond.instanceMethod ({ cls := "LastLoaf$SecretBallots", name := "bestToAsk", desc := "()I" } : MethodName) ∈ TB := sorry
theorem w_7_115 : Cond.selects "LastLoaf$SecretBallots" ({ cls := "LastLoaf$SecretBallots", name := "bestToAsk", desc := "()I" } : MethodName) ({ cls := "LastLoaf$SecretBallots", name := "bestToAsk", desc := "()I" } : MethodName) ∈ TB := sorry
theorem cr11_342 {Θ : Tz} {cc : ByteArray} {nL kc ks : Nat} {ret : Option FieldType} {rm : Room} {Q : State → Prop} {σ : St} {pc : Nat} {lv : List (Nat × Value)} {st : List Value} (C : Zc Θ cc nL RX11 ret rm) (hkd : Θ.2.2.2.2.1 = kdC) {r : Int32} (hx : q7_bestToAsk σ = some r) (hrm : rm7_bestToAsk.frames + 1 ≤ rm.frames ∧ 8 + (5 + 11) + rm7_bestToAsk.locals ≤ rm.locals) (hcat : (st.map fun v => v.category).sum ≤ 8) (hk : kc ≤ rm.cells ∧ ks ≤ rm.slots) (hd : decode cc pc = .ok (.invokevirtual 342, 3)) (kk : Z Θ nL kc ks Q σ (pc + 3) lv (.int r :: st)) : Z Θ nL kc ks Q σ pc lv (.ref (zA Θ 21) :: st) := sorry
def q11_ask (σ : St) : Option (Sum Nat Int32 × St) :=
  Option.bind (q11_hearBallots σ) fun x1_ =>
  thn (q11_needBallots x1_.1) x1_.2
  (Option.bind (q7_bestToAsk x1_.2) fun x5_ =>
  some (.inr x5_, x1_.2))
abbrev rm11_ask : Room := { frames := 8, cells := 1, slots := 6, locals := 185 }
theorem c11_ask {l : Launch} {kd : List KD} {w : Wp} {σ : St} (hkd : kd = kdC) (hi : zI kd w) (hlt : l.stackTraces = false) {r : (Sum Nat Int32 × St)} (hf : q11_ask σ = some r) : zX l kd w yX11_ask cX11_ask 1 (some .int) rm11_ask [.ref (w.2.2.1 0)] σ (om (fun v => some (.int v)) r) 1 6 := sorry
/-! LastLoaf.weightOf -/
def q11_weightOf (σ : St) (person_a : Int32) : Option Int32 :=
  Option.bind (Option.bind (ag σ (44 + 4) 6 person_a) fun x6_ =>
  if 0 < x6_ then (some (2 : Int32)) else (some (1 : Int32))) fun x1_ =>
  some x1_
abbrev rm11_weightOf : Room := { frames := 0, cells := 0, slots := 0, locals := 0 }
theorem c11_weightOf {l : Launch} {kd : List KD} {w : Wp} {σ : St} {person_a : Int32} (hkd : kd = kdC) (hi : zI kd w) {r : Int32} (hf : q11_weightOf σ person_a = some r) : zM l kd w yX11_weightOf cX11_weightOf 2 (some .int) rm11_weightOf [.ref (w.2.2.1 0), .int person_a] σ (some (.int r), σ) := sorry
/-! LastLoaf.hasMost -/
theorem w_4_6 : Cond.code ({ cls := "LastLoaf", name := "weightOf", desc := "(I)I" } : MethodName) prog_1_method_82_code (2 : Nat) (Option.some ClassFile.FieldType.int) ∈ TB := sorry
theorem w_4_3 : Cond.methodLink "LastLoaf" (358 : Nat) ({ cls := "LastLoaf", name := "weightOf", desc := "(I)I" } : MethodName) ∈ TB := sorry
theorem w_4_5 : Cond.instanceMethod ({ cls := "LastLoaf", name := "weightOf", desc := "(I)I" } : MethodName) ∈ TB := sorry
theorem ws_LastLoaf_weightOf_I_I : Cond.selects "LastLoaf" (⟨"LastLoaf", "weightOf", "(I)I"⟩ : MethodName) (⟨"LastLoaf", "weightOf", "(I)I"⟩ : MethodName) ∈ TB := sorry
theorem cr11_358 {Θ : Tz} {cc : ByteArray} {nL kc ks : Nat} {ret : Option FieldType} {rm : Room} {Q : State → Prop} {σ : St} {pc : Nat} {lv : List (Nat × Value)} {st : List Value} (C : Zc Θ cc nL RX11 ret rm) (hkd : Θ.2.2.2.2.1 = kdC) {person_a : Int32} {r : Int32} (hx : q11_weightOf σ person_a = some r) (hrm : rm11_weightOf.frames + 1 ≤ rm.frames ∧ 8 + (2 + 11) + rm11_weightOf.locals ≤ rm.locals) (hcat : (st.map fun v => v.category).sum ≤ 8) (hk : kc ≤ rm.cells ∧ ks ≤ rm.slots) (hd : decode cc pc = .ok (.invokevirtual 358, 3)) (kk : Z Θ nL kc ks Q σ (pc + 3) lv (.int r :: st)) : Z Θ nL kc ks Q σ pc lv (.int person_a :: .ref (zA Θ 0) :: st) := sorry
def q11_hasMost (σ : St) (house_a : Int32) : Option Bool :=
  Option.bind (loop2 (fun rec4_ (lead7_ : Int32) (p8_ : Int32) =>
  if p8_ < (σ 44 8) then
  Option.bind (if ¬ (q11_isIn (σ 44 10) p8_ = true) then (Option.bind (if q11_isIn house_a p8_ = true then (Option.bind (q11_weightOf σ p8_) fun x28_ =>
  some x28_) else (Option.bind (q11_weightOf σ p8_) fun x30_ =>
  some (-x30_))) fun x22_ =>
  lt (lead7_ + x22_) fun lead33_ =>
  some (lead33_)) else (some (lead7_))) fun y15_ =>
  lt (p8_ + 1) fun p35_ =>
  rec4_ y15_ p35_
  else (some (lead7_, p8_))) fuelN (0 : Int32) (0 : Int32)) fun y1_ =>
  some (decide (0 < y1_.1))
abbrev rm11_hasMost : Room := { frames := 1, cells := 0, slots := 0, locals := 21 }
theorem c11_hasMost {l : Launch} {kd : List KD} {w : Wp} {σ : St} {house_a : Int32} (hkd : kd = kdC) (hi : zI kd w) {r : Bool} (hf : q11_hasMost σ house_a = some r) : zM l kd w yX11_hasMost cX11_hasMost 4 (some .boolean) rm11_hasMost [.ref (w.2.2.1 0), .int house_a] σ (some (.int (b2i r)), σ) := sorry
/-! LastLoaf.carries -/
theorem w_4_2 : Cond.code ({ cls := "LastLoaf", name := "hasMost", desc := "(I)Z" } : MethodName) prog_1_method_84_code (4 : Nat) (Option.some ClassFile.FieldType.boolean) ∈ TB := sorry
theorem w_3_239 : Cond.methodLink "LastLoaf" (345 : Nat) ({ cls := "LastLoaf", name := "hasMost", desc := "(I)Z" } : MethodName) ∈ TB := sorry
theorem w_4_1 : Cond.instanceMethod ({ cls := "LastLoaf", name := "hasMost", desc := "(I)Z" } : MethodName) ∈ TB := sorry
theorem ws_LastLoaf_hasMost_I_Z : Cond.selects "LastLoaf" (⟨"LastLoaf", "hasMost", "(I)Z"⟩ : MethodName) (⟨"LastLoaf", "hasMost", "(I)Z"⟩ : MethodName) ∈ TB := sorry
theorem cr11_345 {Θ : Tz} {cc : ByteArray} {nL kc ks : Nat} {ret : Option FieldType} {rm : Room} {Q : State → Prop} {σ : St} {pc : Nat} {lv : List (Nat × Value)} {st : List Value} (C : Zc Θ cc nL RX11 ret rm) (hkd : Θ.2.2.2.2.1 = kdC) {house_a : Int32} {r : Bool} (hx : q11_hasMost σ house_a = some r) (hrm : rm11_hasMost.frames + 1 ≤ rm.frames ∧ 8 + (4 + 11) + rm11_hasMost.locals ≤ rm.locals) (hcat : (st.map fun v => v.category).sum ≤ 8) (hk : kc ≤ rm.cells ∧ ks ≤ rm.slots) (hd : decode cc pc = .ok (.invokevirtual 345, 3)) (kk : Z Θ nL kc ks Q σ (pc + 3) lv (.int (b2i r) :: st)) : Z Θ nL kc ks Q σ pc lv (.int house_a :: .ref (zA Θ 0) :: st) := sorry
def q11_carries (σ : St) (house_a : Int32) : Option Bool :=
  Option.bind (q11_hasMost σ house_a) fun x1_ =>
  some x1_
abbrev rm11_carries : Room := { frames := 2, cells := 0, slots := 0, locals := 44 }
theorem c11_carries {l : Launch} {kd : List KD} {w : Wp} {σ : St} {house_a : Int32} (hkd : kd = kdC) (hi : zI kd w) {r : Bool} (hf : q11_carries σ house_a = some r) : zM l kd w yX11_carries cX11_carries 2 (some .boolean) rm11_carries [.ref (w.2.2.1 0), .int house_a] σ (some (.int (b2i r)), σ) := sorry
/-! LastLoaf$Village.everybody -/
def q10_everybody (σ : St) (th : Nat) : Int32 :=
  (shl 1 (σ th 8)) - 1
abbrev rm10_everybody : Room := { frames := 0, cells := 0, slots := 0, locals := 0 }
theorem c10_everybody {l : Launch} {kd : List KD} {w : Wp} {σ : St} {th : Nat} (hkd : kd = kdC) (hi : zI kd w) (hth : isV th) : zM l kd w yX10_everybody cX10_everybody 1 (some .int) rm10_everybody [.ref (w.2.2.1 th)] σ (some (.int (q10_everybody σ th)), σ) := sorry
/-! LastLoaf$Village.present -/
theorem w_4_23 : Cond.code ({ cls := "LastLoaf$Village", name := "everybody", desc := "()I" } : MethodName) prog_12_method_3_code (1 : Nat) (Option.some ClassFile.FieldType.int) ∈ TB := sorry
theorem w_4_20 : Cond.methodLink "LastLoaf$Village" (84 : Nat) ({ cls := "LastLoaf$Village", name := "everybody", desc := "()I" } : MethodName) ∈ TB := sorry
theorem w_4_21 : Cond.instanceMethod ({ cls := "LastLoaf$Village", name := "everybody", desc := "()I" } : MethodName) ∈ TB := sorry
theorem w_4_22 : Cond.selects "LastLoaf$Village" ({ cls := "LastLoaf$Village", name := "everybody", desc := "()I" } : MethodName) ({ cls := "LastLoaf$Village", name := "everybody", desc := "()I" } : MethodName) ∈ TB := sorry
theorem cr10_84 {Θ : Tz} {cc : ByteArray} {nL kc ks : Nat} {ret : Option FieldType} {rm : Room} {Q : State → Prop} {σ : St} {pc : Nat} {lv : List (Nat × Value)} {st : List Value} (C : Zc Θ cc nL RX10 ret rm) (hkd : Θ.2.2.2.2.1 = kdC) {th : Nat} (hth : isV th) (hrm : rm10_everybody.frames + 1 ≤ rm.frames ∧ 8 + (1 + 11) + rm10_everybody.locals ≤ rm.locals) (hcat : (st.map fun v => v.category).sum ≤ 8) (hk : kc ≤ rm.cells ∧ ks ≤ rm.slots) (hd : decode cc pc = .ok (.invokevirtual 84, 3)) (kk : Z Θ nL kc ks Q σ (pc + 3) lv (.int (q10_everybody σ th) :: st)) : Z Θ nL kc ks Q σ pc lv (.ref (zA Θ th) :: st) := sorry
def q10_present (σ : St) (th : Nat) : Int32 :=
  (q10_everybody σ th) &&& ((σ th 10) ^^^ (-1))
abbrev rm10_present : Room := { frames := 1, cells := 0, slots := 0, locals := 20 }
theorem c10_present {l : Launch} {kd : List KD} {w : Wp} {σ : St} {th : Nat} (hkd : kd = kdC) (hi : zI kd w) (hth : isV th) : zM l kd w yX10_present cX10_present 1 (some .int) rm10_present [.ref (w.2.2.1 th)] σ (some (.int (q10_present σ th)), σ) := sorry
/-! LastLoaf.isHouse -/
theorem w_4_19 : Cond.code ({ cls := "LastLoaf$Village", name := "present", desc := "()I" } : MethodName) prog_12_method_4_code (1 : Nat) (Option.some ClassFile.FieldType.int) ∈ TB := sorry
theorem w_4_16 : Cond.methodLink "LastLoaf" (477 : Nat) ({ cls := "LastLoaf$Village", name := "present", desc := "()I" } : MethodName) ∈ TB := sorry
theorem w_4_17 : Cond.instanceMethod ({ cls := "LastLoaf$Village", name := "present", desc := "()I" } : MethodName) ∈ TB := sorry
theorem w_4_18 : Cond.selects "LastLoaf$Village" ({ cls := "LastLoaf$Village", name := "present", desc := "()I" } : MethodName) ({ cls := "LastLoaf$Village", name := "present", desc := "()I" } : MethodName) ∈ TB := sorry
theorem cr11_477 {Θ : Tz} {cc : ByteArray} {nL kc ks : Nat} {ret : Option FieldType} {rm : Room} {Q : State → Prop} {σ : St} {pc : Nat} {lv : List (Nat × Value)} {st : List Value} (C : Zc Θ cc nL RX11 ret rm) (hkd : Θ.2.2.2.2.1 = kdC) {th : Nat} (hth : isV th) (hrm : rm10_present.frames + 1 ≤ rm.frames ∧ 8 + (1 + 11) + rm10_present.locals ≤ rm.locals) (hcat : (st.map fun v => v.category).sum ≤ 8) (hk : kc ≤ rm.cells ∧ ks ≤ rm.slots) (hd : decode cc pc = .ok (.invokevirtual 477, 3)) (kk : Z Θ nL kc ks Q σ (pc + 3) lv (.int (q10_present σ th) :: st)) : Z Θ nL kc ks Q σ pc lv (.ref (zA Θ th) :: st) := sorry
def q11_isHouse (σ : St) (set_a : Int32) : Bool :=
  decide ((set_a &&& ((q10_present σ 44) ^^^ (-1))) = 0)
abbrev rm11_isHouse : Room := { frames := 2, cells := 0, slots := 0, locals := 40 }
theorem c11_isHouse {l : Launch} {kd : List KD} {w : Wp} {σ : St} {set_a : Int32} (hkd : kd = kdC) (hi : zI kd w) : zM l kd w yX11_isHouse cX11_isHouse 2 (some .boolean) rm11_isHouse [.ref (w.2.2.1 0), .int set_a] σ (some (.int (b2i (q11_isHouse σ set_a))), σ) := sorry
/-! LastLoaf.swungBy -/
theorem w_4_15 : Cond.code ({ cls := "LastLoaf", name := "isHouse", desc := "(I)Z" } : MethodName) prog_1_method_83_code (2 : Nat) (Option.some ClassFile.FieldType.boolean) ∈ TB := sorry
theorem w_4_12 : Cond.methodLink "LastLoaf" (352 : Nat) ({ cls := "LastLoaf", name := "isHouse", desc := "(I)Z" } : MethodName) ∈ TB := sorry
theorem w_4_14 : Cond.instanceMethod ({ cls := "LastLoaf", name := "isHouse", desc := "(I)Z" } : MethodName) ∈ TB := sorry
theorem ws_LastLoaf_isHouse_I_Z : Cond.selects "LastLoaf" (⟨"LastLoaf", "isHouse", "(I)Z"⟩ : MethodName) (⟨"LastLoaf", "isHouse", "(I)Z"⟩ : MethodName) ∈ TB := sorry
theorem cr11_352 {Θ : Tz} {cc : ByteArray} {nL kc ks : Nat} {ret : Option FieldType} {rm : Room} {Q : State → Prop} {σ : St} {pc : Nat} {lv : List (Nat × Value)} {st : List Value} (C : Zc Θ cc nL RX11 ret rm) (hkd : Θ.2.2.2.2.1 = kdC) {set_a : Int32} (hrm : rm11_isHouse.frames + 1 ≤ rm.frames ∧ 8 + (2 + 11) + rm11_isHouse.locals ≤ rm.locals) (hcat : (st.map fun v => v.category).sum ≤ 8) (hk : kc ≤ rm.cells ∧ ks ≤ rm.slots) (hd : decode cc pc = .ok (.invokevirtual 352, 3)) (kk : Z Θ nL kc ks Q σ (pc + 3) lv (.int (b2i (q11_isHouse σ set_a)) :: st)) : Z Θ nL kc ks Q σ pc lv (.int set_a :: .ref (zA Θ 0) :: st) := sorry
def q11_swungBy (σ : St) (person_a : Int32) : Option Int32 :=
  Option.bind (loop2 (fun rec4_ (swung7_ : Int32) (set8_ : Int32) =>
  if set8_ < 64 then
  lt (decide ((q11_isIn set8_ person_a = true) ∧ (q11_isHouse σ set8_ = true))) fun isWith21_ =>
  Option.bind (Option.bind (if isWith21_ = true then (Option.bind (q11_hasMost σ set8_) fun x31_ =>
  if x31_ = true then (Option.bind (q11_hasMost σ (q11_without set8_ person_a)) fun x34_ =>
  if x34_ = true then (some false) else (some true)) else (some false)) else (some false)) fun t28_ =>
  if t28_ = true then (lt (swung7_ + 1) fun swung38_ =>
  some (swung38_)) else (some (swung7_))) fun y23_ =>
  lt (set8_ + 1) fun set40_ =>
  rec4_ y23_ set40_
  else (some (swung7_, set8_))) fuelN (0 : Int32) (0 : Int32)) fun y1_ =>
  some y1_.1
abbrev rm11_swungBy : Room := { frames := 3, cells := 0, slots := 0, locals := 61 }
theorem c11_swungBy {l : Launch} {kd : List KD} {w : Wp} {σ : St} {person_a : Int32} (hkd : kd = kdC) (hi : zI kd w) {r : Int32} (hf : q11_swungBy σ person_a = some r) : zM l kd w yX11_swungBy cX11_swungBy 5 (some .int) rm11_swungBy [.ref (w.2.2.1 0), .int person_a] σ (some (.int r), σ) := sorry
/-! LastLoaf.swings -/
theorem w_4_31 : Cond.code ({ cls := "LastLoaf", name := "swungBy", desc := "(I)I" } : MethodName) prog_1_method_85_code (5 : Nat) (Option.some ClassFile.FieldType.int) ∈ TB := sorry
theorem w_4_28 : Cond.methodLink "LastLoaf" (349 : Nat) ({ cls := "LastLoaf", name := "swungBy", desc := "(I)I" } : MethodName) ∈ TB := sorry
theorem w_4_30 : Cond.instanceMethod ({ cls := "LastLoaf", name := "swungBy", desc := "(I)I" } : MethodName) ∈ TB := sorry
theorem ws_LastLoaf_swungBy_I_I : Cond.selects "LastLoaf" (⟨"LastLoaf", "swungBy", "(I)I"⟩ : MethodName) (⟨"LastLoaf", "swungBy", "(I)I"⟩ : MethodName) ∈ TB := sorry
theorem cr11_349 {Θ : Tz} {cc : ByteArray} {nL kc ks : Nat} {ret : Option FieldType} {rm : Room} {Q : State → Prop} {σ : St} {pc : Nat} {lv : List (Nat × Value)} {st : List Value} (C : Zc Θ cc nL RX11 ret rm) (hkd : Θ.2.2.2.2.1 = kdC) {person_a : Int32} {r : Int32} (hx : q11_swungBy σ person_a = some r) (hrm : rm11_swungBy.frames + 1 ≤ rm.frames ∧ 8 + (5 + 11) + rm11_swungBy.locals ≤ rm.locals) (hcat : (st.map fun v => v.category).sum ≤ 8) (hk : kc ≤ rm.cells ∧ ks ≤ rm.slots) (hd : decode cc pc = .ok (.invokevirtual 349, 3)) (kk : Z Θ nL kc ks Q σ (pc + 3) lv (.int r :: st)) : Z Θ nL kc ks Q σ pc lv (.int person_a :: .ref (zA Θ 0) :: st) := sorry
def q11_swings (σ : St) (person_a : Int32) : Option (Sum Nat Int32 × St) :=
  thn (q11_needPerson σ person_a) σ
  (Option.bind (q11_swungBy σ person_a) fun x3_ =>
  some (.inr x3_, σ))
abbrev rm11_swings : Room := { frames := 7, cells := 1, slots := 6, locals := 111 }
theorem c11_swings {l : Launch} {kd : List KD} {w : Wp} {σ : St} {person_a : Int32} (hkd : kd = kdC) (hi : zI kd w) (hlt : l.stackTraces = false) {r : (Sum Nat Int32 × St)} (hf : q11_swings σ person_a = some r) : zX l kd w yX11_swings cX11_swings 2 (some .int) rm11_swings [.ref (w.2.2.1 0), .int person_a] σ (om (fun v => some (.int v)) r) 1 6 := sorry
/-! LastLoaf.smallest -/
def q11_smallest (σ : St) : Option Int32 :=
  Option.bind (loop2 (fun rec4_ (best7_ : Int32) (set8_ : Int32) =>
  if set8_ < 64 then
  lt (decide ((best7_ = (-1)) ∨ ((bcount set8_) < (bcount best7_)))) fun isFewer21_ =>
  Option.bind (Option.bind (if isFewer21_ = true then (if q11_isHouse σ set8_ = true then (Option.bind (q11_hasMost σ set8_) fun x32_ =>
  if x32_ = true then (some true) else (some false)) else (some false)) else (some false)) fun t28_ =>
  if t28_ = true then (some (set8_)) else (some (best7_))) fun y23_ =>
  lt (set8_ + 1) fun set36_ =>
  rec4_ y23_ set36_
  else (some (best7_, set8_))) fuelN (-1 : Int32) (0 : Int32)) fun y1_ =>
  some y1_.1
abbrev rm11_smallest : Room := { frames := 3, cells := 0, slots := 0, locals := 61 }
theorem c11_smallest {l : Launch} {kd : List KD} {w : Wp} {σ : St} (hkd : kd = kdC) (hi : zI kd w) {r : Int32} (hf : q11_smallest σ = some r) : zM l kd w yX11_smallest cX11_smallest 4 (some .int) rm11_smallest [.ref (w.2.2.1 0)] σ (some (.int r), σ) := sorry
/-! LastLoaf.bloc -/
def q11_bloc (σ : St) (party_a : Int32) : Option (Sum Nat Int32 × St) :=
  thn (q11_needParty party_a) σ
  (Option.bind (loop2 (fun rec6_ (sum9_ : Int32) (p10_ : Int32) =>
  if p10_ < (σ 44 8) then
  Option.bind (Option.bind (ag σ (44 + 2) 6 p10_) fun x22_ =>
  if (x22_ = party_a) ∧ (¬ (q11_isIn (σ 44 10) p10_ = true)) then (Option.bind (q11_weightOf σ p10_) fun x27_ =>
  lt (sum9_ + x27_) fun sum29_ =>
  some (sum29_)) else (some (sum9_))) fun y17_ =>
  lt (p10_ + 1) fun p31_ =>
  rec6_ y17_ p31_
  else (some (sum9_, p10_))) fuelN (0 : Int32) (0 : Int32)) fun y3_ =>
  some (.inr y3_.1, σ))
abbrev rm11_bloc : Room := { frames := 7, cells := 1, slots := 6, locals := 110 }
theorem c11_bloc {l : Launch} {kd : List KD} {w : Wp} {σ : St} {party_a : Int32} (hkd : kd = kdC) (hi : zI kd w) (hlt : l.stackTraces = false) {r : (Sum Nat Int32 × St)} (hf : q11_bloc σ party_a = some r) : zX l kd w yX11_bloc cX11_bloc 4 (some .int) rm11_bloc [.ref (w.2.2.1 0), .int party_a] σ (om (fun v => some (.int v)) r) 1 6 := sorry
/-! LastLoaf.kingmaker -/
def q11_kingmaker (σ : St) : Option Int32 :=
  Option.bind (loop3 (fun rec4_ (best7_ : Int32) (most8_ : Int32) (p9_ : Int32) =>
  if p9_ < (σ 44 8) then
  Option.bind (q11_swungBy σ p9_) fun x16_ =>
  lt (if most8_ < x16_ then ((p9_, x16_)) else ((best7_, most8_))) fun y18_ =>
  lt (p9_ + 1) fun p25_ =>
  rec4_ y18_.1 y18_.2 p25_
  else (some (best7_, most8_, p9_))) fuelN (-1 : Int32) (0 : Int32) (0 : Int32)) fun y1_ =>
  some y1_.1
abbrev rm11_kingmaker : Room := { frames := 4, cells := 0, slots := 0, locals := 85 }
theorem c11_kingmaker {l : Launch} {kd : List KD} {w : Wp} {σ : St} (hkd : kd = kdC) (hi : zI kd w) {r : Int32} (hf : q11_kingmaker σ = some r) : zM l kd w yX11_kingmaker cX11_kingmaker 5 (some .int) rm11_kingmaker [.ref (w.2.2.1 0)] σ (some (.int r), σ) := sorry
/-! LastLoaf$Friends.meet -/
theorem w_1_127 : Cond.fieldLink "LastLoaf$Friends" (28 : Nat) "LastLoaf$Village" "people" "I" ∈ TB := sorry
theorem fg1_28 {Θ : Tz} {cc : ByteArray} {nL kc ks : Nat} {ret : Option FieldType} {rm : Room} {Q : State → Prop} {σ : St} {pc : Nat} {lv : List (Nat × Value)} {st : List Value} (C : Zc Θ cc nL RX1 ret rm) (hkd : Θ.2.2.2.2.1 = kdC) {th : Nat} (hth : isV th) (hd : decode cc pc = .ok (.getfield 28, 3)) (kk : Z Θ nL kc ks Q σ (pc + 3) lv (.int (σ th 8) :: st)) : Z Θ nL kc ks Q σ pc lv (.ref (zA Θ th) :: st) := sorry
theorem w_2_174 : Cond.fieldLink "LastLoaf$Friends" (21 : Nat) "LastLoaf$Friends" "people" "I" ∈ TB := sorry
theorem fp1_21 {Θ : Tz} {cc : ByteArray} {nL kc ks : Nat} {ret : Option FieldType} {rm : Room} {Q : State → Prop} {σ : St} {pc : Nat} {lv : List (Nat × Value)} {st : List Value} (C : Zc Θ cc nL RX1 ret rm) (hkd : Θ.2.2.2.2.1 = kdC) {x : Int32} {σ1 : St} (he : σ1 = up σ 27 3 x) (hd : decode cc pc = .ok (.putfield 21, 3)) (kk : Z Θ nL kc ks Q σ1 (pc + 3) lv st) : Z Θ nL kc ks Q σ pc lv (.int x :: .ref (zA Θ 27) :: st) := sorry
theorem w_4_41 : Cond.methodLink "LastLoaf$Friends" (31 : Nat) ({ cls := "LastLoaf$Village", name := "everybody", desc := "()I" } : MethodName) ∈ TB := sorry
theorem cr1_31 {Θ : Tz} {cc : ByteArray} {nL kc ks : Nat} {ret : Option FieldType} {rm : Room} {Q : State → Prop} {σ : St} {pc : Nat} {lv : List (Nat × Value)} {st : List Value} (C : Zc Θ cc nL RX1 ret rm) (hkd : Θ.2.2.2.2.1 = kdC) {th : Nat} (hth : isV th) (hrm : rm10_everybody.frames + 1 ≤ rm.frames ∧ 8 + (1 + 11) + rm10_everybody.locals ≤ rm.locals) (hcat : (st.map fun v => v.category).sum ≤ 8) (hk : kc ≤ rm.cells ∧ ks ≤ rm.slots) (hd : decode cc pc = .ok (.invokevirtual 31, 3)) (kk : Z Θ nL kc ks Q σ (pc + 3) lv (.int (q10_everybody σ th) :: st)) : Z Θ nL kc ks Q σ pc lv (.ref (zA Θ th) :: st) := sorry
theorem w_2_175 : Cond.fieldLink "LastLoaf$Friends" (25 : Nat) "LastLoaf$Friends" "everybody" "I" ∈ TB := sorry
theorem fp1_25 {Θ : Tz} {cc : ByteArray} {nL kc ks : Nat} {ret : Option FieldType} {rm : Room} {Q : State → Prop} {σ : St} {pc : Nat} {lv : List (Nat × Value)} {st : List Value} (C : Zc Θ cc nL RX1 ret rm) (hkd : Θ.2.2.2.2.1 = kdC) {x : Int32} {σ1 : St} (he : σ1 = up σ 27 4 x) (hd : decode cc pc = .ok (.putfield 25, 3)) (kk : Z Θ nL kc ks Q σ1 (pc + 3) lv st) : Z Θ nL kc ks Q σ pc lv (.int x :: .ref (zA Θ 27) :: st) := sorry
theorem fg1_21 {Θ : Tz} {cc : ByteArray} {nL kc ks : Nat} {ret : Option FieldType} {rm : Room} {Q : State → Prop} {σ : St} {pc : Nat} {lv : List (Nat × Value)} {st : List Value} (C : Zc Θ cc nL RX1 ret rm) (hkd : Θ.2.2.2.2.1 = kdC) (hd : decode cc pc = .ok (.getfield 21, 3)) (kk : Z Θ nL kc ks Q σ (pc + 3) lv (.int (σ 27 3) :: st)) : Z Θ nL kc ks Q σ pc lv (.ref (zA Θ 27) :: st) := sorry
theorem w_2_171 : Cond.fieldLink "LastLoaf$Friends" (9 : Nat) "LastLoaf$Friends" "warmths" "[I" ∈ TB := sorry
theorem fg1_9 {Θ : Tz} {cc : ByteArray} {nL kc ks : Nat} {ret : Option FieldType} {rm : Room} {Q : State → Prop} {σ : St} {pc : Nat} {lv : List (Nat × Value)} {st : List Value} (C : Zc Θ cc nL RX1 ret rm) (hkd : Θ.2.2.2.2.1 = kdC) (hd : decode cc pc = .ok (.getfield 9, 3)) (kk : Z Θ nL kc ks Q σ (pc + 3) lv (.ref (zA Θ 28) :: st)) : Z Θ nL kc ks Q σ pc lv (.ref (zA Θ 27) :: st) := sorry
theorem w_4_42 : Cond.methodLink "LastLoaf$Friends" (34 : Nat) ({ cls := "LastLoaf$Village", name := "likingOf", desc := "(II)I" } : MethodName) ∈ TB := sorry
theorem cr1_34 {Θ : Tz} {cc : ByteArray} {nL kc ks : Nat} {ret : Option FieldType} {rm : Room} {Q : State → Prop} {σ : St} {pc : Nat} {lv : List (Nat × Value)} {st : List Value} (C : Zc Θ cc nL RX1 ret rm) (hkd : Θ.2.2.2.2.1 = kdC) {th : Nat} {person_a : Int32} {other_a : Int32} (hth : isV th) {r : Int32} (hx : q10_likingOf σ th person_a other_a = some r) (hrm : rm10_likingOf.frames + 1 ≤ rm.frames ∧ 8 + (3 + 11) + rm10_likingOf.locals ≤ rm.locals) (hcat : (st.map fun v => v.category).sum ≤ 8) (hk : kc ≤ rm.cells ∧ ks ≤ rm.slots) (hd : decode cc pc = .ok (.invokevirtual 34, 3)) (kk : Z Θ nL kc ks Q σ (pc + 3) lv (.int r :: st)) : Z Θ nL kc ks Q σ pc lv (.int other_a :: .int person_a :: .ref (zA Θ th) :: st) := sorry
def q1_meet (σ : St) (village_a : Nat) : Option St :=
  lt (up σ 27 3 (σ village_a 8)) fun σ1_ =>
  lt (up σ1_ 27 4 (q10_everybody σ1_ village_a)) fun σ3_ =>
  Option.bind (loop2 (fun rec8_ (p11_ : Int32) (σ12_ : St) =>
  if p11_ < (σ12_ 27 3) then
  Option.bind (loop2 (fun rec22_ (q25_ : Int32) (σ26_ : St) =>
  if q25_ < (σ26_ 27 3) then
  Option.bind (q10_likingOf σ26_ village_a p11_ q25_) fun x33_ =>
  Option.bind (q10_likingOf σ26_ village_a q25_ p11_) fun x35_ =>
  Option.bind (sa σ26_ 28 36 ((p11_ * 6) + q25_) (x33_ + x35_)) fun σ37_ =>
  lt (q25_ + 1) fun q39_ =>
  rec22_ q39_ σ37_
  else (some (q25_, σ26_))) fuelN (0 : Int32) σ12_) fun y19_ =>
  lt (p11_ + 1) fun p41_ =>
  rec8_ p41_ y19_.2
  else (some (p11_, σ12_))) fuelN (0 : Int32) σ3_) fun y5_ =>
  some y5_.2
abbrev rm1_meet : Room := { frames := 1, cells := 0, slots := 0, locals := 22 }
theorem c1_meet {l : Launch} {kd : List KD} {w : Wp} {σ : St} {village_a : Nat} (hkd : kd = kdC) (hi : zI kd w) (h_village : isV village_a) {r : St} (hf : q1_meet σ village_a = some r) : zM l kd w yX1_meet cX1_meet 4 none rm1_meet [.ref (w.2.2.1 27), .ref (w.2.2.1 village_a)] σ (none, r) := sorry
/-! LastLoaf$Friends.pairedWith -/
theorem w_2_172 : Cond.fieldLink "LastLoaf$Friends" (15 : Nat) "LastLoaf$Friends" "pairings" "[I" ∈ TB := sorry
theorem fg1_15 {Θ : Tz} {cc : ByteArray} {nL kc ks : Nat} {ret : Option FieldType} {rm : Room} {Q : State → Prop} {σ : St} {pc : Nat} {lv : List (Nat × Value)} {st : List Value} (C : Zc Θ cc nL RX1 ret rm) (hkd : Θ.2.2.2.2.1 = kdC) (hd : decode cc pc = .ok (.getfield 15, 3)) (kk : Z Θ nL kc ks Q σ (pc + 3) lv (.ref (zA Θ 29) :: st)) : Z Θ nL kc ks Q σ pc lv (.ref (zA Θ 27) :: st) := sorry
theorem cr1_42 {Θ : Tz} {cc : ByteArray} {nL kc ks : Nat} {ret : Option FieldType} {rm : Room} {Q : State → Prop} {σ : St} {pc : Nat} {lv : List (Nat × Value)} {st : List Value} (C : Zc Θ cc nL RX1 ret rm) (hkd : Θ.2.2.2.2.1 = kdC) {set_a : Int32} {person_a : Int32} (hrm : rm11_without.frames + 1 ≤ rm.frames ∧ 8 + (2 + 11) + rm11_without.locals ≤ rm.locals) (hcat : (st.map fun v => v.category).sum ≤ 8) (hk : kc ≤ rm.cells ∧ ks ≤ rm.slots) (hd : decode cc pc = .ok (.invokestatic 42, 3)) (kk : Z Θ nL kc ks Q σ (pc + 3) lv (.int (q11_without set_a person_a) :: st)) : Z Θ nL kc ks Q σ pc lv (.int person_a :: .int set_a :: st) := sorry
def q1_pairedWith (σ : St) (rest_a : Int32) (one_a : Int32) (other_a : Int32) : Option Int32 :=
  Option.bind (ag σ 28 36 ((one_a * 6) + other_a)) fun x1_ =>
  Option.bind (ag σ 29 64 (q11_without rest_a other_a)) fun x3_ =>
  some (x1_ + x3_)
abbrev rm1_pairedWith : Room := { frames := 1, cells := 0, slots := 0, locals := 21 }
theorem c1_pairedWith {l : Launch} {kd : List KD} {w : Wp} {σ : St} {rest_a : Int32} {one_a : Int32} {other_a : Int32} (hkd : kd = kdC) (hi : zI kd w) {r : Int32} (hf : q1_pairedWith σ rest_a one_a other_a = some r) : zM l kd w yX1_pairedWith cX1_pairedWith 4 (some .int) rm1_pairedWith [.ref (w.2.2.1 27), .int rest_a, .int one_a, .int other_a] σ (some (.int r), σ) := sorry
/-! LastLoaf$Friends.pairUp -/
theorem fg1_25 {Θ : Tz} {cc : ByteArray} {nL kc ks : Nat} {ret : Option FieldType} {rm : Room} {Q : State → Prop} {σ : St} {pc : Nat} {lv : List (Nat × Value)} {st : List Value} (C : Zc Θ cc nL RX1 ret rm) (hkd : Θ.2.2.2.2.1 = kdC) (hd : decode cc pc = .ok (.getfield 25, 3)) (kk : Z Θ nL kc ks Q σ (pc + 3) lv (.int (σ 27 4) :: st)) : Z Θ nL kc ks Q σ pc lv (.ref (zA Θ 27) :: st) := sorry
theorem cr1_38 {Θ : Tz} {cc : ByteArray} {nL kc ks : Nat} {ret : Option FieldType} {rm : Room} {Q : State → Prop} {σ : St} {pc : Nat} {lv : List (Nat × Value)} {st : List Value} (C : Zc Θ cc nL RX1 ret rm) (hkd : Θ.2.2.2.2.1 = kdC) {set_a : Int32} {r : Int32} (hx : q11_leastOf set_a = some r) (hrm : rm11_leastOf.frames + 1 ≤ rm.frames ∧ 8 + (2 + 11) + rm11_leastOf.locals ≤ rm.locals) (hcat : (st.map fun v => v.category).sum ≤ 8) (hk : kc ≤ rm.cells ∧ ks ≤ rm.slots) (hd : decode cc pc = .ok (.invokestatic 38, 3)) (kk : Z Θ nL kc ks Q σ (pc + 3) lv (.int r :: st)) : Z Θ nL kc ks Q σ pc lv (.int set_a :: st) := sorry
theorem cr1_45 {Θ : Tz} {cc : ByteArray} {nL kc ks : Nat} {ret : Option FieldType} {rm : Room} {Q : State → Prop} {σ : St} {pc : Nat} {lv : List (Nat × Value)} {st : List Value} (C : Zc Θ cc nL RX1 ret rm) (hkd : Θ.2.2.2.2.1 = kdC) {set_a : Int32} {person_a : Int32} (hrm : rm11_isIn.frames + 1 ≤ rm.frames ∧ 8 + (2 + 11) + rm11_isIn.locals ≤ rm.locals) (hcat : (st.map fun v => v.category).sum ≤ 8) (hk : kc ≤ rm.cells ∧ ks ≤ rm.slots) (hd : decode cc pc = .ok (.invokestatic 45, 3)) (kk : Z Θ nL kc ks Q σ (pc + 3) lv (.int (b2i (q11_isIn set_a person_a)) :: st)) : Z Θ nL kc ks Q σ pc lv (.int person_a :: .int set_a :: st) := sorry
theorem w_7_151 : Cond.code ({ cls := "LastLoaf$Friends", name := "pairedWith", desc := "(III)I" } : MethodName) prog_3_method_4_code (4 : Nat) (Option.some ClassFile.FieldType.int) ∈ TB := sorry
theorem w_1_13 : Cond.initialized "LastLoaf$Friends" ∈ TB := sorry
theorem w_7_148 : Cond.methodLink "LastLoaf$Friends" (49 : Nat) ({ cls := "LastLoaf$Friends", name := "pairedWith", desc := "(III)I" } : MethodName) ∈ TB := sorry
theorem w_7_149 : Cond.instanceMethod ({ cls := "LastLoaf$Friends", name := "pairedWith", desc := "(III)I" } : MethodName) ∈ TB := sorry
theorem w_7_150 : Cond.selects "LastLoaf$Friends" ({ cls := "LastLoaf$Friends", name := "pairedWith", desc := "(III)I" } : MethodName) ({ cls := "LastLoaf$Friends", name := "pairedWith", desc := "(III)I" } : MethodName) ∈ TB := sorry
theorem cr1_49 {Θ : Tz} {cc : ByteArray} {nL kc ks : Nat} {ret : Option FieldType} {rm : Room} {Q : State → Prop} {σ : St} {pc : Nat} {lv : List (Nat × Value)} {st : List Value} (C : Zc Θ cc nL RX1 ret rm) (hkd : Θ.2.2.2.2.1 = kdC) {rest_a : Int32} {one_a : Int32} {other_a : Int32} {r : Int32} (hx : q1_pairedWith σ rest_a one_a other_a = some r) (hrm : rm1_pairedWith.frames + 1 ≤ rm.frames ∧ 8 + (4 + 11) + rm1_pairedWith.locals ≤ rm.locals) (hcat : (st.map fun v => v.category).sum ≤ 8) (hk : kc ≤ rm.cells ∧ ks ≤ rm.slots) (hd : decode cc pc = .ok (.invokevirtual 49, 3)) (kk : Z Θ nL kc ks Q σ (pc + 3) lv (.int r :: st)) : Z Θ nL kc ks Q σ pc lv (.int other_a :: .int one_a :: .int rest_a :: .ref (zA Θ 27) :: st) := sorry
theorem w_4_68 : Cond.methodLink "LastLoaf$Friends" (53 : Nat) ({ cls := "java/lang/Math", name := "max", desc := "(II)I" } : MethodName) ∈ TB := sorry
def q1_pairUp (σ : St) : Option St :=
  Option.bind (sa σ 29 64 0 0) fun σ1_ =>
  Option.bind (loop2 (fun rec6_ (set9_ : Int32) (σ10_ : St) =>
  if set9_ ≤ (σ10_ 27 4) then
  Option.bind (q11_leastOf set9_) fun x17_ =>
  lt (q11_without set9_ x17_) fun rest19_ =>
  Option.bind (ag σ10_ 29 64 rest19_) fun x21_ =>
  Option.bind (sa σ10_ 29 64 set9_ x21_) fun σ23_ =>
  lt (x17_ + 1) fun q25_ =>
  Option.bind (loop2 (fun rec30_ (q33_ : Int32) (σ34_ : St) =>
  if q33_ < (σ34_ 27 3) then
  Option.bind (if q11_isIn rest19_ q33_ = true then (Option.bind (ag σ34_ 29 64 set9_) fun x48_ =>
  Option.bind (q1_pairedWith σ34_ rest19_ x17_ q33_) fun x50_ =>
  Option.bind (sa σ34_ 29 64 set9_ (imax x48_ x50_)) fun σ52_ =>
  some (σ52_)) else (some (σ34_))) fun y41_ =>
  lt (q33_ + 1) fun q54_ =>
  rec30_ q54_ y41_
  else (some (q33_, σ34_))) fuelN q25_ σ23_) fun y27_ =>
  lt (set9_ + 1) fun set56_ =>
  rec6_ set56_ y27_.2
  else (some (set9_, σ10_))) fuelN (1 : Int32) σ1_) fun y3_ =>
  some y3_.2
abbrev rm1_pairUp : Room := { frames := 2, cells := 0, slots := 0, locals := 44 }
theorem c1_pairUp {l : Launch} {kd : List KD} {w : Wp} {σ : St} (hkd : kd = kdC) (hi : zI kd w) {r : St} (hf : q1_pairUp σ = some r) : zM l kd w yX1_pairUp cX1_pairUp 5 none rm1_pairUp [.ref (w.2.2.1 27)] σ (none, r) := sorry
/-! LastLoaf$Friends.firstPartner -/
def q1_firstPartner (σ : St) (set_a : Int32) (rest_a : Int32) (one_a : Int32) : Option Int32 :=
  Option.bind (ag σ 29 64 rest_a) fun x3_ =>
  Option.bind (ag σ 29 64 set_a) fun x5_ =>
  if x3_ = x5_ then (some (-1)) else
  lt (one_a + 1) fun q9_ =>
  Option.bind (loop1 (fun rec14_ (q17_ : Int32) =>
  if q17_ < (σ 27 3) then
  Option.bind (if q11_isIn rest_a q17_ = true then (Option.bind (q1_pairedWith σ rest_a one_a q17_) fun x29_ =>
  Option.bind (ag σ 29 64 set_a) fun x31_ =>
  if x29_ = x31_ then (some true) else (some false)) else (some false)) fun t26_ =>
  if t26_ = true then (some (.inl q17_)) else
  lt (q17_ + 1) fun q35_ =>
  rec14_ q35_
  else (some (.inr q17_))) fuelN q9_) fun y11_ =>
  Sum.elim (fun x9 => some x9) (fun y11_r =>
  some (-1)) y11_
abbrev rm1_firstPartner : Room := { frames := 2, cells := 0, slots := 0, locals := 44 }
theorem c1_firstPartner {l : Launch} {kd : List KD} {w : Wp} {σ : St} {set_a : Int32} {rest_a : Int32} {one_a : Int32} (hkd : kd = kdC) (hi : zI kd w) {r : Int32} (hf : q1_firstPartner σ set_a rest_a one_a = some r) : zM l kd w yX1_firstPartner cX1_firstPartner 5 (some .int) rm1_firstPartner [.ref (w.2.2.1 27), .int set_a, .int rest_a, .int one_a] σ (some (.int r), σ) := sorry
/-! LastLoaf$Friends.partnerOf -/
theorem w_7_163 : Cond.code ({ cls := "LastLoaf$Friends", name := "firstPartner", desc := "(III)I" } : MethodName) prog_3_method_7_code (5 : Nat) (Option.some ClassFile.FieldType.int) ∈ TB := sorry
theorem w_7_160 : Cond.methodLink "LastLoaf$Friends" (58 : Nat) ({ cls := "LastLoaf$Friends", name := "firstPartner", desc := "(III)I" } : MethodName) ∈ TB := sorry
theorem w_7_161 : Cond.instanceMethod ({ cls := "LastLoaf$Friends", name := "firstPartner", desc := "(III)I" } : MethodName) ∈ TB := sorry
theorem w_7_162 : Cond.selects "LastLoaf$Friends" ({ cls := "LastLoaf$Friends", name := "firstPartner", desc := "(III)I" } : MethodName) ({ cls := "LastLoaf$Friends", name := "firstPartner", desc := "(III)I" } : MethodName) ∈ TB := sorry
theorem cr1_58 {Θ : Tz} {cc : ByteArray} {nL kc ks : Nat} {ret : Option FieldType} {rm : Room} {Q : State → Prop} {σ : St} {pc : Nat} {lv : List (Nat × Value)} {st : List Value} (C : Zc Θ cc nL RX1 ret rm) (hkd : Θ.2.2.2.2.1 = kdC) {set_a : Int32} {rest_a : Int32} {one_a : Int32} {r : Int32} (hx : q1_firstPartner σ set_a rest_a one_a = some r) (hrm : rm1_firstPartner.frames + 1 ≤ rm.frames ∧ 8 + (5 + 11) + rm1_firstPartner.locals ≤ rm.locals) (hcat : (st.map fun v => v.category).sum ≤ 8) (hk : kc ≤ rm.cells ∧ ks ≤ rm.slots) (hd : decode cc pc = .ok (.invokevirtual 58, 3)) (kk : Z Θ nL kc ks Q σ (pc + 3) lv (.int r :: st)) : Z Θ nL kc ks Q σ pc lv (.int one_a :: .int rest_a :: .int set_a :: .ref (zA Θ 27) :: st) := sorry
def q1_partnerOf (σ : St) (person_a : Int32) : Option Int32 :=
  lt (σ 27 4) fun set1_ =>
  Option.bind (loop2 (fun rec6_ (set9_ : Int32) (i10_ : Int32) =>
  if (i10_ < 6) ∧ (¬ set9_ = 0) then
  Option.bind (q11_leastOf set9_) fun x18_ =>
  lt (q11_without set9_ x18_) fun rest20_ =>
  Option.bind (q1_firstPartner σ set9_ rest20_ x18_) fun x22_ =>
  if x18_ = person_a then (some (.inl x22_)) else
  if x22_ = person_a then (some (.inl x18_)) else
  lt (if x22_ = (-1) then rest20_ else q11_without rest20_ x22_) fun set37_ =>
  lt (i10_ + 1) fun i39_ =>
  rec6_ set37_ i39_
  else (some (.inr (set9_, i10_)))) fuelN set1_ (0 : Int32)) fun y3_ =>
  Sum.elim (fun x9 => some x9) (fun y3_r =>
  some (-1)) y3_
abbrev rm1_partnerOf : Room := { frames := 3, cells := 0, slots := 0, locals := 68 }
theorem c1_partnerOf {l : Launch} {kd : List KD} {w : Wp} {σ : St} {person_a : Int32} (hkd : kd = kdC) (hi : zI kd w) {r : Int32} (hf : q1_partnerOf σ person_a = some r) : zM l kd w yX1_partnerOf cX1_partnerOf 7 (some .int) rm1_partnerOf [.ref (w.2.2.1 27), .int person_a] σ (some (.int r), σ) := sorry
/-! LastLoaf$Friends.warmth -/
def q1_warmth (σ : St) : Option Int32 :=
  Option.bind (ag σ 29 64 (σ 27 4)) fun x1_ =>
  some x1_
abbrev rm1_warmth : Room := { frames := 0, cells := 0, slots := 0, locals := 0 }
theorem c1_warmth {l : Launch} {kd : List KD} {w : Wp} {σ : St} (hkd : kd = kdC) (hi : zI kd w) {r : Int32} (hf : q1_warmth σ = some r) : zM l kd w yX1_warmth cX1_warmth 1 (some .int) rm1_warmth [.ref (w.2.2.1 27)] σ (some (.int r), σ) := sorry
/-! LastLoaf.couples -/
theorem w_2_200 : Cond.fieldLink "LastLoaf" (91 : Nat) "LastLoaf" "friends" "LLastLoaf$Friends;" ∈ TB := sorry
theorem fg11_91 {Θ : Tz} {cc : ByteArray} {nL kc ks : Nat} {ret : Option FieldType} {rm : Room} {Q : State → Prop} {σ : St} {pc : Nat} {lv : List (Nat × Value)} {st : List Value} (C : Zc Θ cc nL RX11 ret rm) (hkd : Θ.2.2.2.2.1 = kdC) (hd : decode cc pc = .ok (.getfield 91, 3)) (kk : Z Θ nL kc ks Q σ (pc + 3) lv (.ref (zA Θ 27) :: st)) : Z Θ nL kc ks Q σ pc lv (.ref (zA Θ 0) :: st) := sorry
theorem w_4_40 : Cond.code ({ cls := "LastLoaf$Friends", name := "meet", desc := "(LLastLoaf$Village;)V" } : MethodName) prog_3_method_2_code (4 : Nat) (Option.none : Option ClassFile.FieldType) ∈ TB := sorry
theorem w_4_37 : Cond.methodLink "LastLoaf" (361 : Nat) ({ cls := "LastLoaf$Friends", name := "meet", desc := "(LLastLoaf$Village;)V" } : MethodName) ∈ TB := sorry
theorem w_4_38 : Cond.instanceMethod ({ cls := "LastLoaf$Friends", name := "meet", desc := "(LLastLoaf$Village;)V" } : MethodName) ∈ TB := sorry
theorem w_4_39 : Cond.selects "LastLoaf$Friends" ({ cls := "LastLoaf$Friends", name := "meet", desc := "(LLastLoaf$Village;)V" } : MethodName) ({ cls := "LastLoaf$Friends", name := "meet", desc := "(LLastLoaf$Village;)V" } : MethodName) ∈ TB := sorry
theorem cr11_361 {Θ : Tz} {cc : ByteArray} {nL kc ks : Nat} {ret : Option FieldType} {rm : Room} {Q : State → Prop} {σ : St} {pc : Nat} {lv : List (Nat × Value)} {st : List Value} (C : Zc Θ cc nL RX11 ret rm) (hkd : Θ.2.2.2.2.1 = kdC) {village_a : Nat} (h_village : isV village_a) {r : St} (hx : q1_meet σ village_a = some r) (hrm : rm1_meet.frames + 1 ≤ rm.frames ∧ 8 + (4 + 11) + rm1_meet.locals ≤ rm.locals) (hcat : (st.map fun v => v.category).sum ≤ 8) (hk : kc ≤ rm.cells ∧ ks ≤ rm.slots) (hd : decode cc pc = .ok (.invokevirtual 361, 3)) (kk : Z Θ nL kc ks Q r (pc + 3) lv st) : Z Θ nL kc ks Q σ pc lv (.ref (zA Θ village_a) :: .ref (zA Θ 27) :: st) := sorry
theorem w_7_145 : Cond.code ({ cls := "LastLoaf$Friends", name := "pairUp", desc := "()V" } : MethodName) prog_3_method_3_code (5 : Nat) (Option.none : Option ClassFile.FieldType) ∈ TB := sorry
theorem w_7_142 : Cond.methodLink "LastLoaf" (364 : Nat) ({ cls := "LastLoaf$Friends", name := "pairUp", desc := "()V" } : MethodName) ∈ TB := sorry
theorem w_7_143 : Cond.instanceMethod ({ cls := "LastLoaf$Friends", name := "pairUp", desc := "()V" } : MethodName) ∈ TB := sorry
theorem w_7_144 : Cond.selects "LastLoaf$Friends" ({ cls := "LastLoaf$Friends", name := "pairUp", desc := "()V" } : MethodName) ({ cls := "LastLoaf$Friends", name := "pairUp", desc := "()V" } : MethodName) ∈ TB := sorry
theorem cr11_364 {Θ : Tz} {cc : ByteArray} {nL kc ks : Nat} {ret : Option FieldType} {rm : Room} {Q : State → Prop} {σ : St} {pc : Nat} {lv : List (Nat × Value)} {st : List Value} (C : Zc Θ cc nL RX11 ret rm) (hkd : Θ.2.2.2.2.1 = kdC) {r : St} (hx : q1_pairUp σ = some r) (hrm : rm1_pairUp.frames + 1 ≤ rm.frames ∧ 8 + (5 + 11) + rm1_pairUp.locals ≤ rm.locals) (hcat : (st.map fun v => v.category).sum ≤ 8) (hk : kc ≤ rm.cells ∧ ks ≤ rm.slots) (hd : decode cc pc = .ok (.invokevirtual 364, 3)) (kk : Z Θ nL kc ks Q r (pc + 3) lv st) : Z Θ nL kc ks Q σ pc lv (.ref (zA Θ 27) :: st) := sorry
theorem w_7_155 : Cond.code ({ cls := "LastLoaf$Friends", name := "warmth", desc := "()I" } : MethodName) prog_3_method_5_code (1 : Nat) (Option.some ClassFile.FieldType.int) ∈ TB := sorry
theorem w_7_152 : Cond.methodLink "LastLoaf" (367 : Nat) ({ cls := "LastLoaf$Friends", name := "warmth", desc := "()I" } : MethodName) ∈ TB := sorry
theorem w_7_153 : Cond.instanceMethod ({ cls := "LastLoaf$Friends", name := "warmth", desc := "()I" } : MethodName) ∈ TB := sorry
theorem w_7_154 : Cond.selects "LastLoaf$Friends" ({ cls := "LastLoaf$Friends", name := "warmth", desc := "()I" } : MethodName) ({ cls := "LastLoaf$Friends", name := "warmth", desc := "()I" } : MethodName) ∈ TB := sorry
theorem cr11_367 {Θ : Tz} {cc : ByteArray} {nL kc ks : Nat} {ret : Option FieldType} {rm : Room} {Q : State → Prop} {σ : St} {pc : Nat} {lv : List (Nat × Value)} {st : List Value} (C : Zc Θ cc nL RX11 ret rm) (hkd : Θ.2.2.2.2.1 = kdC) {r : Int32} (hx : q1_warmth σ = some r) (hrm : rm1_warmth.frames + 1 ≤ rm.frames ∧ 8 + (1 + 11) + rm1_warmth.locals ≤ rm.locals) (hcat : (st.map fun v => v.category).sum ≤ 8) (hk : kc ≤ rm.cells ∧ ks ≤ rm.slots) (hd : decode cc pc = .ok (.invokevirtual 367, 3)) (kk : Z Θ nL kc ks Q σ (pc + 3) lv (.int r :: st)) : Z Θ nL kc ks Q σ pc lv (.ref (zA Θ 27) :: st) := sorry
theorem w_7_159 : Cond.code ({ cls := "LastLoaf$Friends", name := "partnerOf", desc := "(I)I" } : MethodName) prog_3_method_6_code (7 : Nat) (Option.some ClassFile.FieldType.int) ∈ TB := sorry
theorem w_7_156 : Cond.methodLink "LastLoaf" (370 : Nat) ({ cls := "LastLoaf$Friends", name := "partnerOf", desc := "(I)I" } : MethodName) ∈ TB := sorry
theorem w_7_157 : Cond.instanceMethod ({ cls := "LastLoaf$Friends", name := "partnerOf", desc := "(I)I" } : MethodName) ∈ TB := sorry
theorem w_7_158 : Cond.selects "LastLoaf$Friends" ({ cls := "LastLoaf$Friends", name := "partnerOf", desc := "(I)I" } : MethodName) ({ cls := "LastLoaf$Friends", name := "partnerOf", desc := "(I)I" } : MethodName) ∈ TB := sorry
theorem cr11_370 {Θ : Tz} {cc : ByteArray} {nL kc ks : Nat} {ret : Option FieldType} {rm : Room} {Q : State → Prop} {σ : St} {pc : Nat} {lv : List (Nat × Value)} {st : List Value} (C : Zc Θ cc nL RX11 ret rm) (hkd : Θ.2.2.2.2.1 = kdC) {person_a : Int32} {r : Int32} (hx : q1_partnerOf σ person_a = some r) (hrm : rm1_partnerOf.frames + 1 ≤ rm.frames ∧ 8 + (7 + 11) + rm1_partnerOf.locals ≤ rm.locals) (hcat : (st.map fun v => v.category).sum ≤ 8) (hk : kc ≤ rm.cells ∧ ks ≤ rm.slots) (hd : decode cc pc = .ok (.invokevirtual 370, 3)) (kk : Z Θ nL kc ks Q σ (pc + 3) lv (.int r :: st)) : Z Θ nL kc ks Q σ pc lv (.int person_a :: .ref (zA Θ 27) :: st) := sorry
def q11_couples (σ : St) (person_a : Int32) : Option (Sum Nat Int32 × St) :=
  thn (if ¬ person_a = (-1) then q11_needPerson σ person_a else none) σ
  (Option.bind (q1_meet σ 44) fun x12_ =>
  Option.bind (q1_pairUp x12_) fun x14_ =>
  Option.bind (if person_a = (-1) then (Option.bind (q1_warmth x14_) fun x22_ =>
  some x22_) else (Option.bind (q1_partnerOf x14_ person_a) fun x24_ =>
  some x24_)) fun x16_ =>
  some (.inr x16_, x14_))
abbrev rm11_couples : Room := { frames := 7, cells := 1, slots := 6, locals := 111 }
theorem c11_couples {l : Launch} {kd : List KD} {w : Wp} {σ : St} {person_a : Int32} (hkd : kd = kdC) (hi : zI kd w) (hlt : l.stackTraces = false) {r : (Sum Nat Int32 × St)} (hf : q11_couples σ person_a = some r) : zX l kd w yX11_couples cX11_couples 2 (some .int) rm11_couples [.ref (w.2.2.1 0), .int person_a] σ (om (fun v => some (.int v)) r) 1 6 := sorry
/-! LastLoaf$Friends.acrossTo -/
def q1_acrossTo (σ : St) (camp_a : Int32) : Option Int32 :=
  Option.bind (loop2 (fun rec4_ (sum7_ : Int32) (p8_ : Int32) =>
  if p8_ < (σ 27 3) then
  Option.bind (loop2 (fun rec18_ (sum21_ : Int32) (q22_ : Int32) =>
  if q22_ < (σ 27 3) then
  Option.bind (if (q11_isIn camp_a p8_ = true) ∧ (¬ (q11_isIn camp_a q22_ = true)) then (Option.bind (ag σ 28 36 ((p8_ * 6) + q22_)) fun x37_ =>
  lt (sum21_ + x37_) fun sum39_ =>
  some (sum39_)) else (some (sum21_))) fun y29_ =>
  lt (q22_ + 1) fun q41_ =>
  rec18_ y29_ q41_
  else (some (sum21_, q22_))) fuelN sum7_ (0 : Int32)) fun y15_ =>
  lt (p8_ + 1) fun p43_ =>
  rec4_ y15_.1 p43_
  else (some (sum7_, p8_))) fuelN (0 : Int32) (0 : Int32)) fun y1_ =>
  some y1_.1
abbrev rm1_acrossTo : Room := { frames := 1, cells := 0, slots := 0, locals := 21 }
theorem c1_acrossTo {l : Launch} {kd : List KD} {w : Wp} {σ : St} {camp_a : Int32} (hkd : kd = kdC) (hi : zI kd w) {r : Int32} (hf : q1_acrossTo σ camp_a = some r) : zM l kd w yX1_acrossTo cX1_acrossTo 5 (some .int) rm1_acrossTo [.ref (w.2.2.1 27), .int camp_a] σ (some (.int r), σ) := sorry
/-! LastLoaf$Friends.secondCamp -/
theorem w_4_50 : Cond.code ({ cls := "LastLoaf$Friends", name := "acrossTo", desc := "(I)I" } : MethodName) prog_3_method_9_code (5 : Nat) (Option.some ClassFile.FieldType.int) ∈ TB := sorry
theorem w_4_47 : Cond.methodLink "LastLoaf$Friends" (61 : Nat) ({ cls := "LastLoaf$Friends", name := "acrossTo", desc := "(I)I" } : MethodName) ∈ TB := sorry
theorem w_4_48 : Cond.instanceMethod ({ cls := "LastLoaf$Friends", name := "acrossTo", desc := "(I)I" } : MethodName) ∈ TB := sorry
theorem w_4_49 : Cond.selects "LastLoaf$Friends" ({ cls := "LastLoaf$Friends", name := "acrossTo", desc := "(I)I" } : MethodName) ({ cls := "LastLoaf$Friends", name := "acrossTo", desc := "(I)I" } : MethodName) ∈ TB := sorry
theorem cr1_61 {Θ : Tz} {cc : ByteArray} {nL kc ks : Nat} {ret : Option FieldType} {rm : Room} {Q : State → Prop} {σ : St} {pc : Nat} {lv : List (Nat × Value)} {st : List Value} (C : Zc Θ cc nL RX1 ret rm) (hkd : Θ.2.2.2.2.1 = kdC) {camp_a : Int32} {r : Int32} (hx : q1_acrossTo σ camp_a = some r) (hrm : rm1_acrossTo.frames + 1 ≤ rm.frames ∧ 8 + (5 + 11) + rm1_acrossTo.locals ≤ rm.locals) (hcat : (st.map fun v => v.category).sum ≤ 8) (hk : kc ≤ rm.cells ∧ ks ≤ rm.slots) (hd : decode cc pc = .ok (.invokevirtual 61, 3)) (kk : Z Θ nL kc ks Q σ (pc + 3) lv (.int r :: st)) : Z Θ nL kc ks Q σ pc lv (.int camp_a :: .ref (zA Θ 27) :: st) := sorry
def q1_secondCamp (σ : St) : Option Int32 :=
  Option.bind (loop3 (fun rec4_ (best7_ : Int32) (least8_ : Int32) (set9_ : Int32) =>
  if set9_ ≤ (σ 27 4) then
  Option.bind (q1_acrossTo σ set9_) fun x16_ =>
  lt (if (best7_ = (-1)) ∨ (x16_ < least8_) then ((set9_, x16_)) else ((best7_, least8_))) fun y18_ =>
  lt (set9_ + 2) fun set26_ =>
  rec4_ y18_.1 y18_.2 set26_
  else (some (best7_, least8_, set9_))) fuelN (-1 : Int32) (0 : Int32) (2 : Int32)) fun y1_ =>
  some y1_.1
abbrev rm1_secondCamp : Room := { frames := 2, cells := 0, slots := 0, locals := 45 }
theorem c1_secondCamp {l : Launch} {kd : List KD} {w : Wp} {σ : St} (hkd : kd = kdC) (hi : zI kd w) {r : Int32} (hf : q1_secondCamp σ = some r) : zM l kd w yX1_secondCamp cX1_secondCamp 5 (some .int) rm1_secondCamp [.ref (w.2.2.1 27)] σ (some (.int r), σ) := sorry
/-! LastLoaf.camps -/
theorem w_4_46 : Cond.code ({ cls := "LastLoaf$Friends", name := "secondCamp", desc := "()I" } : MethodName) prog_3_method_8_code (5 : Nat) (Option.some ClassFile.FieldType.int) ∈ TB := sorry
theorem w_4_43 : Cond.methodLink "LastLoaf" (373 : Nat) ({ cls := "LastLoaf$Friends", name := "secondCamp", desc := "()I" } : MethodName) ∈ TB := sorry
theorem w_4_44 : Cond.instanceMethod ({ cls := "LastLoaf$Friends", name := "secondCamp", desc := "()I" } : MethodName) ∈ TB := sorry
theorem w_4_45 : Cond.selects "LastLoaf$Friends" ({ cls := "LastLoaf$Friends", name := "secondCamp", desc := "()I" } : MethodName) ({ cls := "LastLoaf$Friends", name := "secondCamp", desc := "()I" } : MethodName) ∈ TB := sorry
theorem cr11_373 {Θ : Tz} {cc : ByteArray} {nL kc ks : Nat} {ret : Option FieldType} {rm : Room} {Q : State → Prop} {σ : St} {pc : Nat} {lv : List (Nat × Value)} {st : List Value} (C : Zc Θ cc nL RX11 ret rm) (hkd : Θ.2.2.2.2.1 = kdC) {r : Int32} (hx : q1_secondCamp σ = some r) (hrm : rm1_secondCamp.frames + 1 ≤ rm.frames ∧ 8 + (5 + 11) + rm1_secondCamp.locals ≤ rm.locals) (hcat : (st.map fun v => v.category).sum ≤ 8) (hk : kc ≤ rm.cells ∧ ks ≤ rm.slots) (hd : decode cc pc = .ok (.invokevirtual 373, 3)) (kk : Z Θ nL kc ks Q σ (pc + 3) lv (.int r :: st)) : Z Θ nL kc ks Q σ pc lv (.ref (zA Θ 27) :: st) := sorry
def q11_camps (σ : St) : Option (Int32 × St) :=
  Option.bind (q1_meet σ 44) fun x1_ =>
  Option.bind (q1_secondCamp x1_) fun x3_ =>
  some (x3_, x1_)
abbrev rm11_camps : Room := { frames := 3, cells := 0, slots := 0, locals := 69 }
theorem c11_camps {l : Launch} {kd : List KD} {w : Wp} {σ : St} (hkd : kd = kdC) (hi : zI kd w) {r : (Int32 × St)} (hf : q11_camps σ = some r) : zM l kd w yX11_camps cX11_camps 1 (some .int) rm11_camps [.ref (w.2.2.1 0)] σ (some (.int r.1), r.2) := sorry
/-! LastLoaf$Friends.tourWith -/
theorem w_2_173 : Cond.fieldLink "LastLoaf$Friends" (18 : Nat) "LastLoaf$Friends" "tours" "[I" ∈ TB := sorry
theorem fg1_18 {Θ : Tz} {cc : ByteArray} {nL kc ks : Nat} {ret : Option FieldType} {rm : Room} {Q : State → Prop} {σ : St} {pc : Nat} {lv : List (Nat × Value)} {st : List Value} (C : Zc Θ cc nL RX1 ret rm) (hkd : Θ.2.2.2.2.1 = kdC) (hd : decode cc pc = .ok (.getfield 18, 3)) (kk : Z Θ nL kc ks Q σ (pc + 3) lv (.ref (zA Θ 30) :: st)) : Z Θ nL kc ks Q σ pc lv (.ref (zA Θ 27) :: st) := sorry
def q1_tourWith (σ : St) (sitting_a : Int32) (last_a : Int32) (coming_a : Int32) : Option Int32 :=
  lt (sitting_a ||| (shl 1 coming_a)) fun then1_ =>
  Option.bind (ag σ 28 36 ((last_a * 6) + coming_a)) fun x3_ =>
  Option.bind (ag σ 30 384 ((then1_ * 6) + coming_a)) fun x5_ =>
  some (x3_ + x5_)
abbrev rm1_tourWith : Room := { frames := 0, cells := 0, slots := 0, locals := 0 }
theorem c1_tourWith {l : Launch} {kd : List KD} {w : Wp} {σ : St} {sitting_a : Int32} {last_a : Int32} {coming_a : Int32} (hkd : kd = kdC) (hi : zI kd w) {r : Int32} (hf : q1_tourWith σ sitting_a last_a coming_a = some r) : zM l kd w yX1_tourWith cX1_tourWith 5 (some .int) rm1_tourWith [.ref (w.2.2.1 27), .int sitting_a, .int last_a, .int coming_a] σ (some (.int r), σ) := sorry
/-! LastLoaf$Friends.firstBeside -/
theorem w_4_67 : Cond.code ({ cls := "LastLoaf$Friends", name := "tourWith", desc := "(III)I" } : MethodName) prog_3_method_12_code (5 : Nat) (Option.some ClassFile.FieldType.int) ∈ TB := sorry
theorem w_4_64 : Cond.methodLink "LastLoaf$Friends" (67 : Nat) ({ cls := "LastLoaf$Friends", name := "tourWith", desc := "(III)I" } : MethodName) ∈ TB := sorry
theorem w_4_65 : Cond.instanceMethod ({ cls := "LastLoaf$Friends", name := "tourWith", desc := "(III)I" } : MethodName) ∈ TB := sorry
theorem w_4_66 : Cond.selects "LastLoaf$Friends" ({ cls := "LastLoaf$Friends", name := "tourWith", desc := "(III)I" } : MethodName) ({ cls := "LastLoaf$Friends", name := "tourWith", desc := "(III)I" } : MethodName) ∈ TB := sorry
theorem cr1_67 {Θ : Tz} {cc : ByteArray} {nL kc ks : Nat} {ret : Option FieldType} {rm : Room} {Q : State → Prop} {σ : St} {pc : Nat} {lv : List (Nat × Value)} {st : List Value} (C : Zc Θ cc nL RX1 ret rm) (hkd : Θ.2.2.2.2.1 = kdC) {sitting_a : Int32} {last_a : Int32} {coming_a : Int32} {r : Int32} (hx : q1_tourWith σ sitting_a last_a coming_a = some r) (hrm : rm1_tourWith.frames + 1 ≤ rm.frames ∧ 8 + (5 + 11) + rm1_tourWith.locals ≤ rm.locals) (hcat : (st.map fun v => v.category).sum ≤ 8) (hk : kc ≤ rm.cells ∧ ks ≤ rm.slots) (hd : decode cc pc = .ok (.invokevirtual 67, 3)) (kk : Z Θ nL kc ks Q σ (pc + 3) lv (.int r :: st)) : Z Θ nL kc ks Q σ pc lv (.int coming_a :: .int last_a :: .int sitting_a :: .ref (zA Θ 27) :: st) := sorry
def q1_firstBeside (σ : St) (sitting_a : Int32) (last_a : Int32) : Option Int32 :=
  Option.bind (ag σ 30 384 ((sitting_a * 6) + last_a)) fun x1_ =>
  Option.bind (loop1 (fun rec6_ (p9_ : Int32) =>
  if p9_ < (σ 27 3) then
  Option.bind (if q11_isIn sitting_a p9_ = true then (some false) else (Option.bind (q1_tourWith σ sitting_a last_a p9_) fun x21_ =>
  if x21_ = x1_ then (some true) else (some false))) fun t18_ =>
  if t18_ = true then (some (.inl p9_)) else
  lt (p9_ + 1) fun p25_ =>
  rec6_ p25_
  else (some (.inr p9_))) fuelN (0 : Int32)) fun y3_ =>
  Sum.elim (fun x9 => some x9) (fun y3_r =>
  some (-1)) y3_
abbrev rm1_firstBeside : Room := { frames := 1, cells := 0, slots := 0, locals := 24 }
theorem c1_firstBeside {l : Launch} {kd : List KD} {w : Wp} {σ : St} {sitting_a : Int32} {last_a : Int32} (hkd : kd = kdC) (hi : zI kd w) {r : Int32} (hf : q1_firstBeside σ sitting_a last_a = some r) : zM l kd w yX1_firstBeside cX1_firstBeside 5 (some .int) rm1_firstBeside [.ref (w.2.2.1 27), .int sitting_a, .int last_a] σ (some (.int r), σ) := sorry
/-! LastLoaf$Friends.seatAt -/
theorem w_4_80 : Cond.code ({ cls := "LastLoaf$Friends", name := "firstBeside", desc := "(II)I" } : MethodName) prog_3_method_15_code (5 : Nat) (Option.some ClassFile.FieldType.int) ∈ TB := sorry
theorem w_4_77 : Cond.methodLink "LastLoaf$Friends" (70 : Nat) ({ cls := "LastLoaf$Friends", name := "firstBeside", desc := "(II)I" } : MethodName) ∈ TB := sorry
theorem w_4_78 : Cond.instanceMethod ({ cls := "LastLoaf$Friends", name := "firstBeside", desc := "(II)I" } : MethodName) ∈ TB := sorry
theorem w_4_79 : Cond.selects "LastLoaf$Friends" ({ cls := "LastLoaf$Friends", name := "firstBeside", desc := "(II)I" } : MethodName) ({ cls := "LastLoaf$Friends", name := "firstBeside", desc := "(II)I" } : MethodName) ∈ TB := sorry
theorem cr1_70 {Θ : Tz} {cc : ByteArray} {nL kc ks : Nat} {ret : Option FieldType} {rm : Room} {Q : State → Prop} {σ : St} {pc : Nat} {lv : List (Nat × Value)} {st : List Value} (C : Zc Θ cc nL RX1 ret rm) (hkd : Θ.2.2.2.2.1 = kdC) {sitting_a : Int32} {last_a : Int32} {r : Int32} (hx : q1_firstBeside σ sitting_a last_a = some r) (hrm : rm1_firstBeside.frames + 1 ≤ rm.frames ∧ 8 + (5 + 11) + rm1_firstBeside.locals ≤ rm.locals) (hcat : (st.map fun v => v.category).sum ≤ 8) (hk : kc ≤ rm.cells ∧ ks ≤ rm.slots) (hd : decode cc pc = .ok (.invokevirtual 70, 3)) (kk : Z Θ nL kc ks Q σ (pc + 3) lv (.int r :: st)) : Z Θ nL kc ks Q σ pc lv (.int last_a :: .int sitting_a :: .ref (zA Θ 27) :: st) := sorry
def q1_seatAt (σ : St) (k_a : Int32) : Option Int32 :=
  if (k_a < 0) ∨ ((σ 27 3) ≤ k_a) then (some (-1)) else
  Option.bind (loop3 (fun rec9_ (sitting12_ : Int32) (last13_ : Int32) (i14_ : Int32) =>
  if i14_ < k_a then
  Option.bind (q1_firstBeside σ sitting12_ last13_) fun x21_ =>
  if x21_ = (-1) then (some (.inl (-1))) else
  lt (sitting12_ ||| (shl 1 x21_)) fun sitting27_ =>
  lt (i14_ + 1) fun i29_ =>
  rec9_ sitting27_ x21_ i29_
  else (some (.inr (sitting12_, last13_, i14_)))) fuelN (1 : Int32) (0 : Int32) (0 : Int32)) fun y6_ =>
  Sum.elim (fun x9 => some x9) (fun y6_r =>
  some y6_r.2.1) y6_
abbrev rm1_seatAt : Room := { frames := 2, cells := 0, slots := 0, locals := 48 }
theorem c1_seatAt {l : Launch} {kd : List KD} {w : Wp} {σ : St} {k_a : Int32} (hkd : kd = kdC) (hi : zI kd w) {r : Int32} (hf : q1_seatAt σ k_a = some r) : zM l kd w yX1_seatAt cX1_seatAt 5 (some .int) rm1_seatAt [.ref (w.2.2.1 27), .int k_a] σ (some (.int r), σ) := sorry
/-! LastLoaf$Friends.tourFrom -/
def q1_tourFrom (σ : St) (sitting_a : Int32) (last_a : Int32) : Option Int32 :=
  if sitting_a = (σ 27 4) then (Option.bind (if 2 < (σ 27 3) then (Option.bind (ag σ 28 36 (last_a * 6)) fun x11_ =>
  some x11_) else (some (0 : Int32))) fun x5_ =>
  some x5_) else
  Option.bind (loop2 (fun rec17_ (most20_ : Int32) (p21_ : Int32) =>
  if p21_ < (σ 27 3) then
  Option.bind (if ¬ (q11_isIn sitting_a p21_ = true) then (Option.bind (q1_tourWith σ sitting_a last_a p21_) fun x35_ =>
  lt (imax most20_ x35_) fun most37_ =>
  some (most37_)) else (some (most20_))) fun y28_ =>
  lt (p21_ + 1) fun p39_ =>
  rec17_ y28_ p39_
  else (some (most20_, p21_))) fuelN (0 : Int32) (0 : Int32)) fun y14_ =>
  some y14_.1
abbrev rm1_tourFrom : Room := { frames := 1, cells := 0, slots := 0, locals := 24 }
theorem c1_tourFrom {l : Launch} {kd : List KD} {w : Wp} {σ : St} {sitting_a : Int32} {last_a : Int32} (hkd : kd = kdC) (hi : zI kd w) {r : Int32} (hf : q1_tourFrom σ sitting_a last_a = some r) : zM l kd w yX1_tourFrom cX1_tourFrom 5 (some .int) rm1_tourFrom [.ref (w.2.2.1 27), .int sitting_a, .int last_a] σ (some (.int r), σ) := sorry
/-! LastLoaf$Friends.sitDown -/
theorem w_4_63 : Cond.code ({ cls := "LastLoaf$Friends", name := "tourFrom", desc := "(II)I" } : MethodName) prog_3_method_11_code (5 : Nat) (Option.some ClassFile.FieldType.int) ∈ TB := sorry
theorem w_4_60 : Cond.methodLink "LastLoaf$Friends" (64 : Nat) ({ cls := "LastLoaf$Friends", name := "tourFrom", desc := "(II)I" } : MethodName) ∈ TB := sorry
theorem w_4_61 : Cond.instanceMethod ({ cls := "LastLoaf$Friends", name := "tourFrom", desc := "(II)I" } : MethodName) ∈ TB := sorry
theorem w_4_62 : Cond.selects "LastLoaf$Friends" ({ cls := "LastLoaf$Friends", name := "tourFrom", desc := "(II)I" } : MethodName) ({ cls := "LastLoaf$Friends", name := "tourFrom", desc := "(II)I" } : MethodName) ∈ TB := sorry
theorem cr1_64 {Θ : Tz} {cc : ByteArray} {nL kc ks : Nat} {ret : Option FieldType} {rm : Room} {Q : State → Prop} {σ : St} {pc : Nat} {lv : List (Nat × Value)} {st : List Value} (C : Zc Θ cc nL RX1 ret rm) (hkd : Θ.2.2.2.2.1 = kdC) {sitting_a : Int32} {last_a : Int32} {r : Int32} (hx : q1_tourFrom σ sitting_a last_a = some r) (hrm : rm1_tourFrom.frames + 1 ≤ rm.frames ∧ 8 + (5 + 11) + rm1_tourFrom.locals ≤ rm.locals) (hcat : (st.map fun v => v.category).sum ≤ 8) (hk : kc ≤ rm.cells ∧ ks ≤ rm.slots) (hd : decode cc pc = .ok (.invokevirtual 64, 3)) (kk : Z Θ nL kc ks Q σ (pc + 3) lv (.int r :: st)) : Z Θ nL kc ks Q σ pc lv (.int last_a :: .int sitting_a :: .ref (zA Θ 27) :: st) := sorry
def q1_sitDown (σ : St) : Option St :=
  lt (σ 27 4) fun sitting1_ =>
  Option.bind (loop2 (fun rec6_ (sitting9_ : Int32) (σ10_ : St) =>
  if 0 < sitting9_ then
  Option.bind (loop2 (fun rec20_ (last23_ : Int32) (σ24_ : St) =>
  if last23_ < (σ24_ 27 3) then
  Option.bind (q1_tourFrom σ24_ sitting9_ last23_) fun x31_ =>
  Option.bind (sa σ24_ 30 384 ((sitting9_ * 6) + last23_) x31_) fun σ33_ =>
  lt (last23_ + 1) fun last35_ =>
  rec20_ last35_ σ33_
  else (some (last23_, σ24_))) fuelN (0 : Int32) σ10_) fun y17_ =>
  lt (sitting9_ + (-1)) fun sitting37_ =>
  rec6_ sitting37_ y17_.2
  else (some (sitting9_, σ10_))) fuelN sitting1_ σ) fun y3_ =>
  some y3_.2
abbrev rm1_sitDown : Room := { frames := 2, cells := 0, slots := 0, locals := 48 }
theorem c1_sitDown {l : Launch} {kd : List KD} {w : Wp} {σ : St} (hkd : kd = kdC) (hi : zI kd w) {r : St} (hf : q1_sitDown σ = some r) : zM l kd w yX1_sitDown cX1_sitDown 3 none rm1_sitDown [.ref (w.2.2.1 27)] σ (none, r) := sorry
/-! LastLoaf$Friends.tableWarmth -/
def q1_tableWarmth (σ : St) : Option Int32 :=
  Option.bind (if (σ 27 3) = 0 then (some (0 : Int32)) else (Option.bind (ag σ 30 384 6) fun x7_ =>
  some x7_)) fun x1_ =>
  some x1_
abbrev rm1_tableWarmth : Room := { frames := 0, cells := 0, slots := 0, locals := 0 }
theorem c1_tableWarmth {l : Launch} {kd : List KD} {w : Wp} {σ : St} (hkd : kd = kdC) (hi : zI kd w) {r : Int32} (hf : q1_tableWarmth σ = some r) : zM l kd w yX1_tableWarmth cX1_tableWarmth 1 (some .int) rm1_tableWarmth [.ref (w.2.2.1 27)] σ (some (.int r), σ) := sorry
/-! LastLoaf.table -/
theorem w_4_59 : Cond.code ({ cls := "LastLoaf$Friends", name := "sitDown", desc := "()V" } : MethodName) prog_3_method_10_code (3 : Nat) (Option.none : Option ClassFile.FieldType) ∈ TB := sorry
theorem w_4_56 : Cond.methodLink "LastLoaf" (376 : Nat) ({ cls := "LastLoaf$Friends", name := "sitDown", desc := "()V" } : MethodName) ∈ TB := sorry
theorem w_4_57 : Cond.instanceMethod ({ cls := "LastLoaf$Friends", name := "sitDown", desc := "()V" } : MethodName) ∈ TB := sorry
theorem w_4_58 : Cond.selects "LastLoaf$Friends" ({ cls := "LastLoaf$Friends", name := "sitDown", desc := "()V" } : MethodName) ({ cls := "LastLoaf$Friends", name := "sitDown", desc := "()V" } : MethodName) ∈ TB := sorry
theorem cr11_376 {Θ : Tz} {cc : ByteArray} {nL kc ks : Nat} {ret : Option FieldType} {rm : Room} {Q : State → Prop} {σ : St} {pc : Nat} {lv : List (Nat × Value)} {st : List Value} (C : Zc Θ cc nL RX11 ret rm) (hkd : Θ.2.2.2.2.1 = kdC) {r : St} (hx : q1_sitDown σ = some r) (hrm : rm1_sitDown.frames + 1 ≤ rm.frames ∧ 8 + (3 + 11) + rm1_sitDown.locals ≤ rm.locals) (hcat : (st.map fun v => v.category).sum ≤ 8) (hk : kc ≤ rm.cells ∧ ks ≤ rm.slots) (hd : decode cc pc = .ok (.invokevirtual 376, 3)) (kk : Z Θ nL kc ks Q r (pc + 3) lv st) : Z Θ nL kc ks Q σ pc lv (.ref (zA Θ 27) :: st) := sorry
theorem w_4_72 : Cond.code ({ cls := "LastLoaf$Friends", name := "tableWarmth", desc := "()I" } : MethodName) prog_3_method_13_code (1 : Nat) (Option.some ClassFile.FieldType.int) ∈ TB := sorry
theorem w_4_69 : Cond.methodLink "LastLoaf" (379 : Nat) ({ cls := "LastLoaf$Friends", name := "tableWarmth", desc := "()I" } : MethodName) ∈ TB := sorry
theorem w_4_70 : Cond.instanceMethod ({ cls := "LastLoaf$Friends", name := "tableWarmth", desc := "()I" } : MethodName) ∈ TB := sorry
theorem w_4_71 : Cond.selects "LastLoaf$Friends" ({ cls := "LastLoaf$Friends", name := "tableWarmth", desc := "()I" } : MethodName) ({ cls := "LastLoaf$Friends", name := "tableWarmth", desc := "()I" } : MethodName) ∈ TB := sorry
theorem cr11_379 {Θ : Tz} {cc : ByteArray} {nL kc ks : Nat} {ret : Option FieldType} {rm : Room} {Q : State → Prop} {σ : St} {pc : Nat} {lv : List (Nat × Value)} {st : List Value} (C : Zc Θ cc nL RX11 ret rm) (hkd : Θ.2.2.2.2.1 = kdC) {r : Int32} (hx : q1_tableWarmth σ = some r) (hrm : rm1_tableWarmth.frames + 1 ≤ rm.frames ∧ 8 + (1 + 11) + rm1_tableWarmth.locals ≤ rm.locals) (hcat : (st.map fun v => v.category).sum ≤ 8) (hk : kc ≤ rm.cells ∧ ks ≤ rm.slots) (hd : decode cc pc = .ok (.invokevirtual 379, 3)) (kk : Z Θ nL kc ks Q σ (pc + 3) lv (.int r :: st)) : Z Θ nL kc ks Q σ pc lv (.ref (zA Θ 27) :: st) := sorry
theorem w_4_76 : Cond.code ({ cls := "LastLoaf$Friends", name := "seatAt", desc := "(I)I" } : MethodName) prog_3_method_14_code (5 : Nat) (Option.some ClassFile.FieldType.int) ∈ TB := sorry
theorem w_4_73 : Cond.methodLink "LastLoaf" (382 : Nat) ({ cls := "LastLoaf$Friends", name := "seatAt", desc := "(I)I" } : MethodName) ∈ TB := sorry
theorem w_4_74 : Cond.instanceMethod ({ cls := "LastLoaf$Friends", name := "seatAt", desc := "(I)I" } : MethodName) ∈ TB := sorry
theorem w_4_75 : Cond.selects "LastLoaf$Friends" ({ cls := "LastLoaf$Friends", name := "seatAt", desc := "(I)I" } : MethodName) ({ cls := "LastLoaf$Friends", name := "seatAt", desc := "(I)I" } : MethodName) ∈ TB := sorry
theorem cr11_382 {Θ : Tz} {cc : ByteArray} {nL kc ks : Nat} {ret : Option FieldType} {rm : Room} {Q : State → Prop} {σ : St} {pc : Nat} {lv : List (Nat × Value)} {st : List Value} (C : Zc Θ cc nL RX11 ret rm) (hkd : Θ.2.2.2.2.1 = kdC) {k_a : Int32} {r : Int32} (hx : q1_seatAt σ k_a = some r) (hrm : rm1_seatAt.frames + 1 ≤ rm.frames ∧ 8 + (5 + 11) + rm1_seatAt.locals ≤ rm.locals) (hcat : (st.map fun v => v.category).sum ≤ 8) (hk : kc ≤ rm.cells ∧ ks ≤ rm.slots) (hd : decode cc pc = .ok (.invokevirtual 382, 3)) (kk : Z Θ nL kc ks Q σ (pc + 3) lv (.int r :: st)) : Z Θ nL kc ks Q σ pc lv (.int k_a :: .ref (zA Θ 27) :: st) := sorry
def q11_table (σ : St) (k_a : Int32) : Option (Int32 × St) :=
  Option.bind (q1_meet σ 44) fun x1_ =>
  Option.bind (q1_sitDown x1_) fun x3_ =>
  Option.bind (if k_a = (-1) then (Option.bind (q1_tableWarmth x3_) fun x11_ =>
  some x11_) else (Option.bind (q1_seatAt x3_ k_a) fun x13_ =>
  some x13_)) fun x5_ =>
  some (x5_, x3_)
abbrev rm11_table : Room := { frames := 3, cells := 0, slots := 0, locals := 72 }
theorem c11_table {l : Launch} {kd : List KD} {w : Wp} {σ : St} {k_a : Int32} (hkd : kd = kdC) (hi : zI kd w) {r : (Int32 × St)} (hf : q11_table σ k_a = some r) : zM l kd w yX11_table cX11_table 2 (some .int) rm11_table [.ref (w.2.2.1 0), .int k_a] σ (some (.int r.1), r.2) := sorry
/-! LastLoaf$Village.hungerOfAll -/
def q10_hungerOfAll (σ : St) (th : Nat) : Option Int32 :=
  Option.bind (loop2 (fun rec4_ (sum7_ : Int32) (p8_ : Int32) =>
  if p8_ < (σ th 8) then
  Option.bind (ag σ (th + 1) 6 p8_) fun x15_ =>
  lt (sum7_ + x15_) fun sum17_ =>
  lt (p8_ + 1) fun p19_ =>
  rec4_ sum17_ p19_
  else (some (sum7_, p8_))) fuelN (0 : Int32) (0 : Int32)) fun y1_ =>
  some y1_.1
abbrev rm10_hungerOfAll : Room := { frames := 0, cells := 0, slots := 0, locals := 0 }
theorem c10_hungerOfAll {l : Launch} {kd : List KD} {w : Wp} {σ : St} {th : Nat} (hkd : kd = kdC) (hi : zI kd w) (hth : isV th) {r : Int32} (hf : q10_hungerOfAll σ th = some r) : zM l kd w yX10_hungerOfAll cX10_hungerOfAll 3 (some .int) rm10_hungerOfAll [.ref (w.2.2.1 th)] σ (some (.int r), σ) := sorry
/-! LastLoaf.slices -/
theorem w_4_153 : Cond.code ({ cls := "LastLoaf$Village", name := "hungerOfAll", desc := "()I" } : MethodName) prog_12_method_11_code (3 : Nat) (Option.some ClassFile.FieldType.int) ∈ TB := sorry
theorem w_4_150 : Cond.methodLink "LastLoaf" (385 : Nat) ({ cls := "LastLoaf$Village", name := "hungerOfAll", desc := "()I" } : MethodName) ∈ TB := sorry
theorem w_4_151 : Cond.instanceMethod ({ cls := "LastLoaf$Village", name := "hungerOfAll", desc := "()I" } : MethodName) ∈ TB := sorry
theorem w_4_152 : Cond.selects "LastLoaf$Village" ({ cls := "LastLoaf$Village", name := "hungerOfAll", desc := "()I" } : MethodName) ({ cls := "LastLoaf$Village", name := "hungerOfAll", desc := "()I" } : MethodName) ∈ TB := sorry
theorem cr11_385 {Θ : Tz} {cc : ByteArray} {nL kc ks : Nat} {ret : Option FieldType} {rm : Room} {Q : State → Prop} {σ : St} {pc : Nat} {lv : List (Nat × Value)} {st : List Value} (C : Zc Θ cc nL RX11 ret rm) (hkd : Θ.2.2.2.2.1 = kdC) {th : Nat} (hth : isV th) {r : Int32} (hx : q10_hungerOfAll σ th = some r) (hrm : rm10_hungerOfAll.frames + 1 ≤ rm.frames ∧ 8 + (3 + 11) + rm10_hungerOfAll.locals ≤ rm.locals) (hcat : (st.map fun v => v.category).sum ≤ 8) (hk : kc ≤ rm.cells ∧ ks ≤ rm.slots) (hd : decode cc pc = .ok (.invokevirtual 385, 3)) (kk : Z Θ nL kc ks Q σ (pc + 3) lv (.int r :: st)) : Z Θ nL kc ks Q σ pc lv (.ref (zA Θ th) :: st) := sorry
def q11_slices (σ : St) (person_a : Int32) (n_a : Int32) : Option (Sum Nat Int32 × St) :=
  thn (q11_needPerson σ person_a) σ
  (thn (q11_needNumber n_a 0 999) σ
  (Option.bind (q10_hungerOfAll σ 44) fun x5_ =>
  if x5_ = 0 then (some (.inr 0, σ)) else
  Option.bind (loop2 (fun rec14_ (left17_ : Int32) (p18_ : Int32) =>
  if p18_ < (σ 44 8) then
  Option.bind (ag σ (44 + 1) 6 p18_) fun x25_ =>
  Option.bind (dv (n_a * x25_) x5_) fun x27_ =>
  lt (left17_ - x27_) fun left29_ =>
  lt (p18_ + 1) fun p31_ =>
  rec14_ left29_ p31_
  else (some (left17_, p18_))) fuelN n_a (0 : Int32)) fun y11_ =>
  Option.bind (ag σ (44 + 1) 6 person_a) fun x33_ =>
  Option.bind (dv (n_a * x33_) x5_) fun x35_ =>
  some (.inr (x35_ + (if person_a < y11_.1 then 1 else 0)), σ)))
abbrev rm11_slices : Room := { frames := 7, cells := 2, slots := 12, locals := 112 }
theorem c11_slices {l : Launch} {kd : List KD} {w : Wp} {σ : St} {person_a : Int32} {n_a : Int32} (hkd : kd = kdC) (hi : zI kd w) (hlt : l.stackTraces = false) {r : (Sum Nat Int32 × St)} (hf : q11_slices σ person_a n_a = some r) : zX l kd w yX11_slices cX11_slices 6 (some .int) rm11_slices [.ref (w.2.2.1 0), .int person_a, .int n_a] σ (om (fun v => some (.int v)) r) 2 12 := sorry
/-! LastLoaf.ring -/
def q11_ring (σ : St) (person_a : Int32) : Option (Sum Nat Bool × St) :=
  thn (q11_needPerson σ person_a) σ
  (Option.bind (loop2 (fun rec6_ (at9_ : Int32) (step10_ : Int32) =>
  if (step10_ < 6) ∧ (¬ at9_ = (-1)) then
  Option.bind (q10_wouldPass σ 44 at9_) fun x18_ =>
  if x18_ = person_a then (some (.inl (.inr true, σ))) else
  lt (step10_ + 1) fun step24_ =>
  rec6_ x18_ step24_
  else (some (.inr (at9_, step10_)))) fuelN person_a (0 : Int32)) fun y3_ =>
  Sum.elim (fun x9 => some x9) (fun y3_r =>
  some (.inr false, σ)) y3_)
abbrev rm11_ring : Room := { frames := 7, cells := 1, slots := 6, locals := 111 }
theorem c11_ring {l : Launch} {kd : List KD} {w : Wp} {σ : St} {person_a : Int32} (hkd : kd = kdC) (hi : zI kd w) (hlt : l.stackTraces = false) {r : (Sum Nat Bool × St)} (hf : q11_ring σ person_a = some r) : zX l kd w yX11_ring cX11_ring 4 (some .boolean) rm11_ring [.ref (w.2.2.1 0), .int person_a] σ (om (fun v => some (.int (b2i v))) r) 1 6 := sorry
/-! LastLoaf.hecklerHas -/
def q11_hecklerHas (σ : St) (choice_a : Int32) (heckler_a : Int32) : Option Int32 :=
  if choice_a = 0 then (Option.bind (ag σ (44 + 3) 6 heckler_a) fun x4_ =>
  some (9 - x4_)) else
  if choice_a = 1 then (some 1) else
  if choice_a = 2 then (some (-2)) else
  some 0
abbrev rm11_hecklerHas : Room := { frames := 0, cells := 0, slots := 0, locals := 0 }
theorem c11_hecklerHas {l : Launch} {kd : List KD} {w : Wp} {σ : St} {choice_a : Int32} {heckler_a : Int32} (hkd : kd = kdC) (hi : zI kd w) {r : Int32} (hf : q11_hecklerHas σ choice_a heckler_a = some r) : zM l kd w yX11_hecklerHas cX11_hecklerHas 3 (some .int) rm11_hecklerHas [.ref (w.2.2.1 0), .int choice_a, .int heckler_a] σ (some (.int r), σ) := sorry
/-! LastLoaf.speakerHas -/
def q11_speakerHas (σ : St) (choice_a : Int32) (speaker_a : Int32) (heckler_a : Int32) : Option Int32 :=
  if 2 ≤ choice_a then (some 0) else
  Option.bind (if choice_a = 0 then (Option.bind (q10_likingOf σ 44 heckler_a speaker_a) fun x11_ =>
  some (x11_ - 5)) else (some (3 : Int32))) fun x5_ =>
  some x5_
abbrev rm11_speakerHas : Room := { frames := 1, cells := 0, slots := 0, locals := 22 }
theorem c11_speakerHas {l : Launch} {kd : List KD} {w : Wp} {σ : St} {choice_a : Int32} {speaker_a : Int32} {heckler_a : Int32} (hkd : kd = kdC) (hi : zI kd w) {r : Int32} (hf : q11_speakerHas σ choice_a speaker_a heckler_a = some r) : zM l kd w yX11_speakerHas cX11_speakerHas 4 (some .int) rm11_speakerHas [.ref (w.2.2.1 0), .int choice_a, .int speaker_a, .int heckler_a] σ (some (.int r), σ) := sorry
/-! LastLoaf.rests -/
theorem w_4_149 : Cond.methodLink "LastLoaf" (388 : Nat) ({ cls := "LastLoaf$Village", name := "runners", desc := "()I" } : MethodName) ∈ TB := sorry
theorem cr11_388 {Θ : Tz} {cc : ByteArray} {nL kc ks : Nat} {ret : Option FieldType} {rm : Room} {Q : State → Prop} {σ : St} {pc : Nat} {lv : List (Nat × Value)} {st : List Value} (C : Zc Θ cc nL RX11 ret rm) (hkd : Θ.2.2.2.2.1 = kdC) {th : Nat} (hth : isV th) (hrm : rm10_runners.frames + 1 ≤ rm.frames ∧ 8 + (1 + 11) + rm10_runners.locals ≤ rm.locals) (hcat : (st.map fun v => v.category).sum ≤ 8) (hk : kc ≤ rm.cells ∧ ks ≤ rm.slots) (hd : decode cc pc = .ok (.invokevirtual 388, 3)) (kk : Z Θ nL kc ks Q σ (pc + 3) lv (.int (q10_runners σ th) :: st)) : Z Θ nL kc ks Q σ pc lv (.ref (zA Θ th) :: st) := sorry
theorem w_7_189 : Cond.code ({ cls := "LastLoaf", name := "speakerHas", desc := "(III)I" } : MethodName) prog_1_method_86_code (4 : Nat) (Option.some ClassFile.FieldType.int) ∈ TB := sorry
theorem w_7_186 : Cond.methodLink "LastLoaf" (393 : Nat) ({ cls := "LastLoaf", name := "speakerHas", desc := "(III)I" } : MethodName) ∈ TB := sorry
theorem w_7_188 : Cond.instanceMethod ({ cls := "LastLoaf", name := "speakerHas", desc := "(III)I" } : MethodName) ∈ TB := sorry
theorem ws_LastLoaf_speakerHas_III_I : Cond.selects "LastLoaf" (⟨"LastLoaf", "speakerHas", "(III)I"⟩ : MethodName) (⟨"LastLoaf", "speakerHas", "(III)I"⟩ : MethodName) ∈ TB := sorry
theorem cr11_393 {Θ : Tz} {cc : ByteArray} {nL kc ks : Nat} {ret : Option FieldType} {rm : Room} {Q : State → Prop} {σ : St} {pc : Nat} {lv : List (Nat × Value)} {st : List Value} (C : Zc Θ cc nL RX11 ret rm) (hkd : Θ.2.2.2.2.1 = kdC) {choice_a : Int32} {speaker_a : Int32} {heckler_a : Int32} {r : Int32} (hx : q11_speakerHas σ choice_a speaker_a heckler_a = some r) (hrm : rm11_speakerHas.frames + 1 ≤ rm.frames ∧ 8 + (4 + 11) + rm11_speakerHas.locals ≤ rm.locals) (hcat : (st.map fun v => v.category).sum ≤ 8) (hk : kc ≤ rm.cells ∧ ks ≤ rm.slots) (hd : decode cc pc = .ok (.invokevirtual 393, 3)) (kk : Z Θ nL kc ks Q σ (pc + 3) lv (.int r :: st)) : Z Θ nL kc ks Q σ pc lv (.int heckler_a :: .int speaker_a :: .int choice_a :: .ref (zA Θ 0) :: st) := sorry
theorem w_7_193 : Cond.code ({ cls := "LastLoaf", name := "hecklerHas", desc := "(II)I" } : MethodName) prog_1_method_87_code (3 : Nat) (Option.some ClassFile.FieldType.int) ∈ TB := sorry
theorem w_7_190 : Cond.methodLink "LastLoaf" (397 : Nat) ({ cls := "LastLoaf", name := "hecklerHas", desc := "(II)I" } : MethodName) ∈ TB := sorry
theorem w_7_192 : Cond.instanceMethod ({ cls := "LastLoaf", name := "hecklerHas", desc := "(II)I" } : MethodName) ∈ TB := sorry
theorem ws_LastLoaf_hecklerHas_II_I : Cond.selects "LastLoaf" (⟨"LastLoaf", "hecklerHas", "(II)I"⟩ : MethodName) (⟨"LastLoaf", "hecklerHas", "(II)I"⟩ : MethodName) ∈ TB := sorry
theorem cr11_397 {Θ : Tz} {cc : ByteArray} {nL kc ks : Nat} {ret : Option FieldType} {rm : Room} {Q : State → Prop} {σ : St} {pc : Nat} {lv : List (Nat × Value)} {st : List Value} (C : Zc Θ cc nL RX11 ret rm) (hkd : Θ.2.2.2.2.1 = kdC) {choice_a : Int32} {heckler_a : Int32} {r : Int32} (hx : q11_hecklerHas σ choice_a heckler_a = some r) (hrm : rm11_hecklerHas.frames + 1 ≤ rm.frames ∧ 8 + (3 + 11) + rm11_hecklerHas.locals ≤ rm.locals) (hcat : (st.map fun v => v.category).sum ≤ 8) (hk : kc ≤ rm.cells ∧ ks ≤ rm.slots) (hd : decode cc pc = .ok (.invokevirtual 397, 3)) (kk : Z Θ nL kc ks Q σ (pc + 3) lv (.int r :: st)) : Z Θ nL kc ks Q σ pc lv (.int heckler_a :: .int choice_a :: .ref (zA Θ 0) :: st) := sorry
def q11_rests (σ : St) (person_a : Int32) (other_a : Int32) : Option (Sum Nat Int32 × St) :=
  thn (q11_needTwo σ person_a other_a) σ
  (if ¬ (q11_isIn (q10_runners σ 44) person_a = true) then (some (.inl 1, σ)) else
  Option.bind (loop2 (fun rec10_ (bits13_ : Int32) (choice14_ : Int32) =>
  if choice14_ < 4 then
  Option.bind (Option.bind (q11_speakerHas σ choice14_ person_a other_a) fun x26_ =>
  Option.bind (q11_speakerHas σ (choice14_ ^^^ 2) person_a other_a) fun x28_ =>
  if x28_ ≤ x26_ then (some true) else (some false)) fun x21_ =>
  Option.bind (Option.bind (q11_hecklerHas σ choice14_ other_a) fun x37_ =>
  Option.bind (q11_hecklerHas σ (choice14_ ^^^ 1) other_a) fun x39_ =>
  if x39_ ≤ x37_ then (some true) else (some false)) fun x32_ =>
  lt (if (x21_ = true) ∧ (x32_ = true) then (lt (bits13_ ||| (shl 1 choice14_)) fun bits51_ =>
  bits51_) else bits13_) fun y43_ =>
  lt (choice14_ + 1) fun choice53_ =>
  rec10_ y43_ choice53_
  else (some (bits13_, choice14_))) fuelN (0 : Int32) (0 : Int32)) fun y7_ =>
  some (.inr y7_.1, σ))
abbrev rm11_rests : Room := { frames := 8, cells := 4, slots := 24, locals := 133 }
theorem c11_rests {l : Launch} {kd : List KD} {w : Wp} {σ : St} {person_a : Int32} {other_a : Int32} (hkd : kd = kdC) (hi : zI kd w) (hlt : l.stackTraces = false) {r : (Sum Nat Int32 × St)} (hf : q11_rests σ person_a other_a = some r) : zX l kd w yX11_rests cX11_rests 7 (some .int) rm11_rests [.ref (w.2.2.1 0), .int person_a, .int other_a] σ (om (fun v => some (.int v)) r) 4 24 := sorry
/-! LastLoaf.choose -/
def q11_choose (n_a : Int32) (k_a : Int32) : Option Int64 :=
  Option.bind (loop2 (fun rec4_ (ways7_ : Int64) (i8_ : Int32) =>
  if i8_ ≤ k_a then
  Option.bind (dvl (ways7_ * (((n_a - k_a) + i8_).toInt64)) i8_.toInt64) fun x15_ =>
  lt (i8_ + 1) fun i17_ =>
  rec4_ x15_ i17_
  else (some (ways7_, i8_))) fuelN (1 : Int64) (1 : Int32)) fun y1_ =>
  some y1_.1
abbrev rm11_choose : Room := { frames := 0, cells := 0, slots := 0, locals := 0 }
theorem c11_choose {l : Launch} {kd : List KD} {w : Wp} {σ : St} {n_a : Int32} {k_a : Int32} (hkd : kd = kdC) (hi : zI kd w) {r : Int64} (hf : q11_choose n_a k_a = some r) : zM l kd w yX11_choose cX11_choose 5 (some .long) rm11_choose [.int n_a, .int k_a] σ (some (.long r), σ) := sorry
/-! LastLoaf.power -/
def q11_power (base_a : Int64) (exponent_a : Int32) : Option Int64 :=
  Option.bind (loop2 (fun rec4_ (product7_ : Int64) (i8_ : Int32) =>
  if i8_ < exponent_a then
  lt (product7_ * base_a) fun product15_ =>
  lt (i8_ + 1) fun i17_ =>
  rec4_ product15_ i17_
  else (some (product7_, i8_))) fuelN (1 : Int64) (0 : Int32)) fun y1_ =>
  some y1_.1
abbrev rm11_power : Room := { frames := 0, cells := 0, slots := 0, locals := 0 }
theorem c11_power {l : Launch} {kd : List KD} {w : Wp} {σ : St} {base_a : Int64} {exponent_a : Int32} (hkd : kd = kdC) (hi : zI kd w) {r : Int64} (hf : q11_power base_a exponent_a = some r) : zM l kd w yX11_power cX11_power 6 (some .long) rm11_power [.long base_a, .int exponent_a] σ (some (.long r), σ) := sorry
/-! LastLoaf.odds -/
theorem w_7_203 : Cond.code ({ cls := "LastLoaf", name := "choose", desc := "(II)J" } : MethodName) prog_1_method_68_code (5 : Nat) (Option.some ClassFile.FieldType.long) ∈ TB := sorry
theorem w_7_202 : Cond.static ({ cls := "LastLoaf", name := "choose", desc := "(II)J" } : MethodName) ∈ TB := sorry
theorem w_7_201 : Cond.methodLink "LastLoaf" (400 : Nat) ({ cls := "LastLoaf", name := "choose", desc := "(II)J" } : MethodName) ∈ TB := sorry
theorem cr11_400 {Θ : Tz} {cc : ByteArray} {nL kc ks : Nat} {ret : Option FieldType} {rm : Room} {Q : State → Prop} {σ : St} {pc : Nat} {lv : List (Nat × Value)} {st : List Value} (C : Zc Θ cc nL RX11 ret rm) (hkd : Θ.2.2.2.2.1 = kdC) {n_a : Int32} {k_a : Int32} {r : Int64} (hx : q11_choose n_a k_a = some r) (hrm : rm11_choose.frames + 1 ≤ rm.frames ∧ 8 + (5 + 11) + rm11_choose.locals ≤ rm.locals) (hcat : (st.map fun v => v.category).sum ≤ 8) (hk : kc ≤ rm.cells ∧ ks ≤ rm.slots) (hd : decode cc pc = .ok (.invokestatic 400, 3)) (kk : Z Θ nL kc ks Q σ (pc + 3) lv (.long r :: st)) : Z Θ nL kc ks Q σ pc lv (.int k_a :: .int n_a :: st) := sorry
theorem w_1_159 : Cond.fieldLink "LastLoaf" (404 : Nat) "LastLoaf$Village" "speech" "I" ∈ TB := sorry
theorem fg11_404 {Θ : Tz} {cc : ByteArray} {nL kc ks : Nat} {ret : Option FieldType} {rm : Room} {Q : State → Prop} {σ : St} {pc : Nat} {lv : List (Nat × Value)} {st : List Value} (C : Zc Θ cc nL RX11 ret rm) (hkd : Θ.2.2.2.2.1 = kdC) {th : Nat} (hth : isV th) (hd : decode cc pc = .ok (.getfield 404, 3)) (kk : Z Θ nL kc ks Q σ (pc + 3) lv (.int (σ th 14) :: st)) : Z Θ nL kc ks Q σ pc lv (.ref (zA Θ th) :: st) := sorry
theorem w_7_206 : Cond.code ({ cls := "LastLoaf", name := "power", desc := "(JI)J" } : MethodName) prog_1_method_69_code (6 : Nat) (Option.some ClassFile.FieldType.long) ∈ TB := sorry
theorem w_7_205 : Cond.static ({ cls := "LastLoaf", name := "power", desc := "(JI)J" } : MethodName) ∈ TB := sorry
theorem w_7_204 : Cond.methodLink "LastLoaf" (407 : Nat) ({ cls := "LastLoaf", name := "power", desc := "(JI)J" } : MethodName) ∈ TB := sorry
theorem cr11_407 {Θ : Tz} {cc : ByteArray} {nL kc ks : Nat} {ret : Option FieldType} {rm : Room} {Q : State → Prop} {σ : St} {pc : Nat} {lv : List (Nat × Value)} {st : List Value} (C : Zc Θ cc nL RX11 ret rm) (hkd : Θ.2.2.2.2.1 = kdC) {base_a : Int64} {exponent_a : Int32} {r : Int64} (hx : q11_power base_a exponent_a = some r) (hrm : rm11_power.frames + 1 ≤ rm.frames ∧ 8 + (6 + 11) + rm11_power.locals ≤ rm.locals) (hcat : (st.map fun v => v.category).sum ≤ 8) (hk : kc ≤ rm.cells ∧ ks ≤ rm.slots) (hd : decode cc pc = .ok (.invokestatic 407, 3)) (kk : Z Θ nL kc ks Q σ (pc + 3) lv (.long r :: st)) : Z Θ nL kc ks Q σ pc lv (.int exponent_a :: .long base_a :: st) := sorry
theorem w_7_207 : Cond.constantLong "LastLoaf" (411 : Nat) (100 : Int64) ∈ TB := sorry
theorem w_7_208 : Cond.constantLong "LastLoaf" (413 : Nat) (10000 : Int64) ∈ TB := sorry
def q11_odds (σ : St) (n_a : Int32) (k_a : Int32) : Option (Sum Nat Int32 × St) :=
  thn (q11_needNumber n_a 0 6) σ
  (thn (q11_needNumber k_a 0 6) σ
  (Option.bind (loop2 (fun rec8_ (hits11_ : Int64) (j12_ : Int32) =>
  if j12_ ≤ n_a then
  Option.bind (q11_choose n_a j12_) fun x19_ =>
  Option.bind (q11_power ((σ 44 14).toInt64) j12_) fun x21_ =>
  Option.bind (q11_power ((100 - (σ 44 14)).toInt64) (n_a - j12_)) fun x23_ =>
  lt (hits11_ + ((x19_ * x21_) * x23_)) fun hits25_ =>
  lt (j12_ + 1) fun j27_ =>
  rec8_ hits25_ j27_
  else (some (hits11_, j12_))) fuelN (0 : Int64) k_a) fun y5_ =>
  Option.bind (q11_power 100 n_a) fun x29_ =>
  Option.bind (if 0 < (lg_cmp x29_ 0) then (Option.bind (dvl (y5_.1 * 10000) x29_) fun x37_ =>
  some x37_.toInt32) else (some (0 : Int32))) fun x31_ =>
  some (.inr x31_, σ)))
abbrev rm11_odds : Room := { frames := 7, cells := 2, slots := 12, locals := 112 }
theorem c11_odds {l : Launch} {kd : List KD} {w : Wp} {σ : St} {n_a : Int32} {k_a : Int32} (hkd : kd = kdC) (hi : zI kd w) (hlt : l.stackTraces = false) {r : (Sum Nat Int32 × St)} (hf : q11_odds σ n_a k_a = some r) : zX l kd w yX11_odds cX11_odds 7 (some .int) rm11_odds [.ref (w.2.2.1 0), .int n_a, .int k_a] σ (om (fun v => some (.int v)) r) 2 12 := sorry
/-! LastLoaf.hungriest -/
def q11_hungriest (σ : St) : Option Int32 :=
  Option.bind (loop2 (fun rec4_ (best7_ : Int32) (p8_ : Int32) =>
  if p8_ < (σ 44 8) then
  Option.bind (Option.bind (if q11_isIn (σ 44 10) p8_ = true then (some false) else (if best7_ = (-1) then (some true) else (Option.bind (ag σ (44 + 1) 6 p8_) fun x24_ =>
  Option.bind (ag σ (44 + 1) 6 best7_) fun x26_ =>
  if x26_ < x24_ then (some true) else (some false)))) fun t20_ =>
  if t20_ = true then (some (p8_)) else (some (best7_))) fun y15_ =>
  lt (p8_ + 1) fun p30_ =>
  rec4_ y15_ p30_
  else (some (best7_, p8_))) fuelN (-1 : Int32) (0 : Int32)) fun y1_ =>
  some y1_.1
abbrev rm11_hungriest : Room := { frames := 1, cells := 0, slots := 0, locals := 21 }
theorem c11_hungriest {l : Launch} {kd : List KD} {w : Wp} {σ : St} (hkd : kd = kdC) (hi : zI kd w) {r : Int32} (hf : q11_hungriest σ = some r) : zM l kd w yX11_hungriest cX11_hungriest 3 (some .int) rm11_hungriest [.ref (w.2.2.1 0)] σ (some (.int r), σ) := sorry
/-! LastLoaf$Village.loveFor -/
def q10_loveFor (σ : St) (th : Nat) (person_a : Int32) : Option Int32 :=
  Option.bind (loop2 (fun rec4_ (sum7_ : Int32) (p8_ : Int32) =>
  if p8_ < (σ th 8) then
  Option.bind (if p8_ = person_a then (some (0 : Int32)) else (Option.bind (q10_likingOf σ th p8_ person_a) fun x21_ =>
  some x21_)) fun x15_ =>
  lt (sum7_ + x15_) fun sum24_ =>
  lt (p8_ + 1) fun p26_ =>
  rec4_ sum24_ p26_
  else (some (sum7_, p8_))) fuelN (0 : Int32) (0 : Int32)) fun y1_ =>
  some y1_.1
abbrev rm10_loveFor : Room := { frames := 1, cells := 0, slots := 0, locals := 22 }
theorem c10_loveFor {l : Launch} {kd : List KD} {w : Wp} {σ : St} {th : Nat} {person_a : Int32} (hkd : kd = kdC) (hi : zI kd w) (hth : isV th) {r : Int32} (hf : q10_loveFor σ th person_a = some r) : zM l kd w yX10_loveFor cX10_loveFor 4 (some .int) rm10_loveFor [.ref (w.2.2.1 th), .int person_a] σ (some (.int r), σ) := sorry
/-! LastLoaf.loved -/
theorem w_4_92 : Cond.code ({ cls := "LastLoaf$Village", name := "loveFor", desc := "(I)I" } : MethodName) prog_12_method_13_code (4 : Nat) (Option.some ClassFile.FieldType.int) ∈ TB := sorry
theorem w_4_89 : Cond.methodLink "LastLoaf" (415 : Nat) ({ cls := "LastLoaf$Village", name := "loveFor", desc := "(I)I" } : MethodName) ∈ TB := sorry
theorem w_4_90 : Cond.instanceMethod ({ cls := "LastLoaf$Village", name := "loveFor", desc := "(I)I" } : MethodName) ∈ TB := sorry
theorem w_4_91 : Cond.selects "LastLoaf$Village" ({ cls := "LastLoaf$Village", name := "loveFor", desc := "(I)I" } : MethodName) ({ cls := "LastLoaf$Village", name := "loveFor", desc := "(I)I" } : MethodName) ∈ TB := sorry
theorem cr11_415 {Θ : Tz} {cc : ByteArray} {nL kc ks : Nat} {ret : Option FieldType} {rm : Room} {Q : State → Prop} {σ : St} {pc : Nat} {lv : List (Nat × Value)} {st : List Value} (C : Zc Θ cc nL RX11 ret rm) (hkd : Θ.2.2.2.2.1 = kdC) {th : Nat} {person_a : Int32} (hth : isV th) {r : Int32} (hx : q10_loveFor σ th person_a = some r) (hrm : rm10_loveFor.frames + 1 ≤ rm.frames ∧ 8 + (4 + 11) + rm10_loveFor.locals ≤ rm.locals) (hcat : (st.map fun v => v.category).sum ≤ 8) (hk : kc ≤ rm.cells ∧ ks ≤ rm.slots) (hd : decode cc pc = .ok (.invokevirtual 415, 3)) (kk : Z Θ nL kc ks Q σ (pc + 3) lv (.int r :: st)) : Z Θ nL kc ks Q σ pc lv (.int person_a :: .ref (zA Θ th) :: st) := sorry
def q11_loved (σ : St) : Option Int32 :=
  Option.bind (loop3 (fun rec4_ (best7_ : Int32) (most8_ : Int32) (p9_ : Int32) =>
  if p9_ < (σ 44 8) then
  Option.bind (q10_loveFor σ 44 p9_) fun x16_ =>
  lt (if most8_ < x16_ then ((p9_, x16_)) else ((best7_, most8_))) fun y18_ =>
  lt (p9_ + 1) fun p25_ =>
  rec4_ y18_.1 y18_.2 p25_
  else (some (best7_, most8_, p9_))) fuelN (-1 : Int32) (-1 : Int32) (0 : Int32)) fun y1_ =>
  some y1_.1
abbrev rm11_loved : Room := { frames := 2, cells := 0, slots := 0, locals := 45 }
theorem c11_loved {l : Launch} {kd : List KD} {w : Wp} {σ : St} (hkd : kd = kdC) (hi : zI kd w) {r : Int32} (hf : q11_loved σ = some r) : zM l kd w yX11_loved cX11_loved 5 (some .int) rm11_loved [.ref (w.2.2.1 0)] σ (some (.int r), σ) := sorry
/-! LastLoaf.thick -/
def q11_thick (σ : St) : Option Int32 :=
  Option.bind (loop2 (fun rec4_ (bits7_ : Int32) (p8_ : Int32) =>
  if p8_ < (σ 44 8) then
  Option.bind (Option.bind (Option.bind (ag σ (44 + 5) 6 p8_) fun x22_ =>
  if 2 ≤ x22_ then (Option.bind (ag σ (44 + 3) 6 p8_) fun x25_ =>
  if x25_ = 0 then (some true) else (some false)) else (some false)) fun t20_ =>
  if t20_ = true then (lt (bits7_ ||| (shl 1 p8_)) fun bits29_ =>
  some (bits29_)) else (some (bits7_))) fun y15_ =>
  lt (p8_ + 1) fun p31_ =>
  rec4_ y15_ p31_
  else (some (bits7_, p8_))) fuelN (0 : Int32) (0 : Int32)) fun y1_ =>
  some y1_.1
abbrev rm11_thick : Room := { frames := 0, cells := 0, slots := 0, locals := 0 }
theorem c11_thick {l : Launch} {kd : List KD} {w : Wp} {σ : St} (hkd : kd = kdC) (hi : zI kd w) {r : Int32} (hf : q11_thick σ = some r) : zM l kd w yX11_thick cX11_thick 3 (some .int) rm11_thick [.ref (w.2.2.1 0)] σ (some (.int r), σ) := sorry
/-! LastLoaf.bench -/
def q11_bench (σ : St) : Int32 :=
  σ 44 10
abbrev rm11_bench : Room := { frames := 0, cells := 0, slots := 0, locals := 0 }
theorem c11_bench {l : Launch} {kd : List KD} {w : Wp} {σ : St} (hkd : kd = kdC) (hi : zI kd w) : zM l kd w yX11_bench cX11_bench 1 (some .int) rm11_bench [.ref (w.2.2.1 0)] σ (some (.int (q11_bench σ)), σ) := sorry
/-! LastLoaf.crowd -/
def q11_crowd (σ : St) : Int32 :=
  σ 44 9
abbrev rm11_crowd : Room := { frames := 0, cells := 0, slots := 0, locals := 0 }
theorem c11_crowd {l : Launch} {kd : List KD} {w : Wp} {σ : St} (hkd : kd = kdC) (hi : zI kd w) : zM l kd w yX11_crowd cX11_crowd 1 (some .int) rm11_crowd [.ref (w.2.2.1 0)] σ (some (.int (q11_crowd σ)), σ) := sorry
/-! LastLoaf.never -/
def q11_never (σ : St) : Option Int32 :=
  Option.bind (loop2 (fun rec4_ (bits7_ : Int32) (p8_ : Int32) =>
  if p8_ < (σ 44 8) then
  Option.bind (Option.bind (ag σ (44 + 4) 6 p8_) fun x20_ =>
  if x20_ = 0 then (lt (bits7_ ||| (shl 1 p8_)) fun bits24_ =>
  some (bits24_)) else (some (bits7_))) fun y15_ =>
  lt (p8_ + 1) fun p26_ =>
  rec4_ y15_ p26_
  else (some (bits7_, p8_))) fuelN (0 : Int32) (0 : Int32)) fun y1_ =>
  some y1_.1
abbrev rm11_never : Room := { frames := 0, cells := 0, slots := 0, locals := 0 }
theorem c11_never {l : Launch} {kd : List KD} {w : Wp} {σ : St} (hkd : kd = kdC) (hi : zI kd w) {r : Int32} (hf : q11_never σ = some r) : zM l kd w yX11_never cX11_never 3 (some .int) rm11_never [.ref (w.2.2.1 0)] σ (some (.int r), σ) := sorry
/-! LastLoaf.alike -/
def q11_alike (σ : St) : Option Int32 :=
  Option.bind (loop2 (fun rec4_ (pairs7_ : Int32) (p8_ : Int32) =>
  if p8_ < (σ 44 8) then
  lt (p8_ + 1) fun q15_ =>
  Option.bind (loop2 (fun rec20_ (pairs23_ : Int32) (q24_ : Int32) =>
  if q24_ < (σ 44 8) then
  Option.bind (Option.bind (Option.bind (ag σ (44 + 2) 6 p8_) fun x38_ =>
  Option.bind (ag σ (44 + 2) 6 q24_) fun x40_ =>
  if x38_ = x40_ then (Option.bind (ag σ (44 + 3) 6 p8_) fun x43_ =>
  Option.bind (ag σ (44 + 3) 6 q24_) fun x45_ =>
  if x43_ = x45_ then (some true) else (some false)) else (some false)) fun t36_ =>
  if t36_ = true then (lt (pairs23_ + 1) fun pairs49_ =>
  some (pairs49_)) else (some (pairs23_))) fun y31_ =>
  lt (q24_ + 1) fun q51_ =>
  rec20_ y31_ q51_
  else (some (pairs23_, q24_))) fuelN pairs7_ q15_) fun y17_ =>
  lt (p8_ + 1) fun p53_ =>
  rec4_ y17_.1 p53_
  else (some (pairs7_, p8_))) fuelN (0 : Int32) (0 : Int32)) fun y1_ =>
  some y1_.1
abbrev rm11_alike : Room := { frames := 0, cells := 0, slots := 0, locals := 0 }
theorem c11_alike {l : Launch} {kd : List KD} {w : Wp} {σ : St} (hkd : kd = kdC) (hi : zI kd w) {r : Int32} (hf : q11_alike σ = some r) : zM l kd w yX11_alike cX11_alike 4 (some .int) rm11_alike [.ref (w.2.2.1 0)] σ (some (.int r), σ) := sorry
/-! LastLoaf.ahead -/
def q11_ahead (σ : St) (person_a : Int32) (n_a : Int32) (what_a : Int32) : Option (Sum Nat Int32 × St) :=
  thn (q11_needPerson σ person_a) σ
  (thn (q11_needNumber n_a 0 60) σ
  (if (what_a < 0) ∨ (2 < what_a) then (some (.inl 4, σ)) else
  Option.bind (q11_lookAhead σ n_a) fun x10_ =>
  if what_a = 0 then (Option.bind (ag x10_ (54 + 1) 6 person_a) fun x15_ =>
  some (.inr x15_, x10_)) else
  if what_a = 1 then (Option.bind (ag x10_ (54 + 4) 6 person_a) fun x17_ =>
  some (.inr x17_, x10_)) else
  some (.inr (if q11_isIn (x10_ 54 10) person_a = true then 1 else 0), x10_)))
abbrev rm11_ahead : Room := { frames := 7, cells := 3, slots := 18, locals := 165 }
theorem c11_ahead {l : Launch} {kd : List KD} {w : Wp} {σ : St} {person_a : Int32} {n_a : Int32} {what_a : Int32} (hkd : kd = kdC) (hi : zI kd w) (hlt : l.stackTraces = false) {r : (Sum Nat Int32 × St)} (hf : q11_ahead σ person_a n_a what_a = some r) : zX l kd w yX11_ahead cX11_ahead 4 (some .int) rm11_ahead [.ref (w.2.2.1 0), .int person_a, .int n_a, .int what_a] σ (om (fun v => some (.int v)) r) 3 18 := sorry
/-! LastLoaf.trial -/
def q11_trial (σ : St) (n_a : Int32) (hunger_a : Bool) : Option (Sum Nat Int32 × St) :=
  thn (q11_needNumber n_a 0 60) σ
  (Option.bind (q10_become σ 54 44) fun x3_ =>
  Option.bind (q0_bakeWeeks x3_ 54 n_a true) fun x5_ =>
  Option.bind (if hunger_a = true then (Option.bind (q10_hungerOfAll x5_ 54) fun x13_ =>
  some x13_) else (some (x5_ 54 10))) fun x7_ =>
  some (.inr x7_, x5_))
abbrev rm11_trial : Room := { frames := 7, cells := 1, slots := 6, locals := 144 }
theorem c11_trial {l : Launch} {kd : List KD} {w : Wp} {σ : St} {n_a : Int32} {hunger_a : Bool} (hkd : kd = kdC) (hi : zI kd w) (hlt : l.stackTraces = false) {r : (Sum Nat Int32 × St)} (hf : q11_trial σ n_a hunger_a = some r) : zX l kd w yX11_trial cX11_trial 3 (some .int) rm11_trial [.ref (w.2.2.1 0), .int n_a, .int (b2i hunger_a)] σ (om (fun v => some (.int v)) r) 1 6 := sorry
/-! LastLoaf.span -/
theorem w_1_161 : Cond.fieldLink "LastLoaf" (420 : Nat) "LastLoaf$Village" "seed" "I" ∈ TB := sorry
theorem fp11_420 {Θ : Tz} {cc : ByteArray} {nL kc ks : Nat} {ret : Option FieldType} {rm : Room} {Q : State → Prop} {σ : St} {pc : Nat} {lv : List (Nat × Value)} {st : List Value} (C : Zc Θ cc nL RX11 ret rm) (hkd : Θ.2.2.2.2.1 = kdC) {th : Nat} (hth : isV th) {x : Int32} {σ1 : St} (he : σ1 = up σ th 15 x) (hd : decode cc pc = .ok (.putfield 420, 3)) (kk : Z Θ nL kc ks Q σ1 (pc + 3) lv st) : Z Θ nL kc ks Q σ pc lv (.int x :: .ref (zA Θ th) :: st) := sorry
theorem w_7_231 : Cond.methodLink "LastLoaf" (423 : Nat) ({ cls := "java/lang/Math", name := "max", desc := "(II)I" } : MethodName) ∈ TB := sorry
def q11_span (σ : St) (n_a : Int32) (most_a : Bool) : Option (Sum Nat Int32 × St) :=
  thn (q11_needNumber n_a 0 60) σ
  (Option.bind (loop4 (fun rec6_ (least9_ : Int32) (greatest10_ : Int32) (seed11_ : Int32) (σ12_ : St) =>
  if seed11_ ≤ 6 then
  Option.bind (q10_become σ12_ 54 44) fun x19_ =>
  lt (up x19_ 54 15 seed11_) fun σ21_ =>
  Option.bind (q0_bakeWeeks σ21_ 54 n_a true) fun x23_ =>
  lt (bcount (x23_ 54 10)) fun benched25_ =>
  lt (imin least9_ benched25_) fun least27_ =>
  lt (imax greatest10_ benched25_) fun greatest29_ =>
  lt (seed11_ + 1) fun seed31_ =>
  rec6_ least27_ greatest29_ seed31_ x23_
  else (some (least9_, greatest10_, seed11_, σ12_))) fuelN (6 : Int32) (0 : Int32) (1 : Int32) σ) fun y3_ =>
  some (.inr (if most_a = true then y3_.2.1 else y3_.1), y3_.2.2.2))
abbrev rm11_span : Room := { frames := 7, cells := 1, slots := 6, locals := 144 }
theorem c11_span {l : Launch} {kd : List KD} {w : Wp} {σ : St} {n_a : Int32} {most_a : Bool} (hkd : kd = kdC) (hi : zI kd w) (hlt : l.stackTraces = false) {r : (Sum Nat Int32 × St)} (hf : q11_span σ n_a most_a = some r) : zX l kd w yX11_span cX11_span 7 (some .int) rm11_span [.ref (w.2.2.1 0), .int n_a, .int (b2i most_a)] σ (om (fun v => some (.int v)) r) 1 6 := sorry
/-! LastLoaf$Log.read -/
theorem w_8_7 : Cond.methodLink "LastLoaf$Log" (34 : Nat) ({ cls := "java/lang/Math", name := "floorMod", desc := "(II)I" } : MethodName) ∈ TB := sorry
def q3_read (σ : St) (th : Nat) (ago_a : Int32) (column_a : Int32) : Option Int32 :=
  if (((ago_a < 0) ∨ ((σ th 1) ≤ ago_a)) ∨ (column_a < 0)) ∨ (4 ≤ column_a) then (some (-1)) else
  lt (fmod (((σ th 2) - 1) - ago_a) 60) fun row8_ =>
  Option.bind (ag σ (th + 1) 240 ((row8_ * 4) + column_a)) fun x10_ =>
  some x10_
abbrev rm3_read : Room := { frames := 1, cells := 0, slots := 0, locals := 22 }
theorem c3_read {l : Launch} {kd : List KD} {w : Wp} {σ : St} {th : Nat} {ago_a : Int32} {column_a : Int32} (hkd : kd = kdC) (hi : zI kd w) (hth : isLog th) {r : Int32} (hf : q3_read σ th ago_a column_a = some r) : zM l kd w yX3_read cX3_read 4 (some .int) rm3_read [.ref (w.2.2.1 th), .int ago_a, .int column_a] σ (some (.int r), σ) := sorry
/-! LastLoaf$Log.latestWeekOf -/
theorem w_8_6 : Cond.code ({ cls := "LastLoaf$Log", name := "read", desc := "(II)I" } : MethodName) prog_5_method_4_code (4 : Nat) (Option.some ClassFile.FieldType.int) ∈ TB := sorry
theorem w_8_3 : Cond.methodLink "LastLoaf$Log" (37 : Nat) ({ cls := "LastLoaf$Log", name := "read", desc := "(II)I" } : MethodName) ∈ TB := sorry
theorem w_8_4 : Cond.instanceMethod ({ cls := "LastLoaf$Log", name := "read", desc := "(II)I" } : MethodName) ∈ TB := sorry
theorem w_8_5 : Cond.selects "LastLoaf$Log" ({ cls := "LastLoaf$Log", name := "read", desc := "(II)I" } : MethodName) ({ cls := "LastLoaf$Log", name := "read", desc := "(II)I" } : MethodName) ∈ TB := sorry
theorem cr3_37 {Θ : Tz} {cc : ByteArray} {nL kc ks : Nat} {ret : Option FieldType} {rm : Room} {Q : State → Prop} {σ : St} {pc : Nat} {lv : List (Nat × Value)} {st : List Value} (C : Zc Θ cc nL RX3 ret rm) (hkd : Θ.2.2.2.2.1 = kdC) {th : Nat} {ago_a : Int32} {column_a : Int32} (hth : isLog th) {r : Int32} (hx : q3_read σ th ago_a column_a = some r) (hrm : rm3_read.frames + 1 ≤ rm.frames ∧ 8 + (4 + 11) + rm3_read.locals ≤ rm.locals) (hcat : (st.map fun v => v.category).sum ≤ 8) (hk : kc ≤ rm.cells ∧ ks ≤ rm.slots) (hd : decode cc pc = .ok (.invokevirtual 37, 3)) (kk : Z Θ nL kc ks Q σ (pc + 3) lv (.int r :: st)) : Z Θ nL kc ks Q σ pc lv (.int column_a :: .int ago_a :: .ref (zA Θ th) :: st) := sorry
def q3_latestWeekOf (σ : St) (th : Nat) (person_a : Int32) : Option Int32 :=
  Option.bind (loop1 (fun rec4_ (ago7_ : Int32) =>
  if ago7_ < (σ th 1) then
  Option.bind (q3_read σ th ago7_ 2) fun x16_ =>
  if x16_ = person_a then (Option.bind (q3_read σ th ago7_ 0) fun x20_ =>
  some (.inl x20_)) else
  lt (ago7_ + 1) fun ago22_ =>
  rec4_ ago22_
  else (some (.inr ago7_))) fuelN (0 : Int32)) fun y1_ =>
  Sum.elim (fun x9 => some x9) (fun y1_r =>
  some (-1)) y1_
abbrev rm3_latestWeekOf : Room := { frames := 2, cells := 0, slots := 0, locals := 45 }
theorem c3_latestWeekOf {l : Launch} {kd : List KD} {w : Wp} {σ : St} {th : Nat} {person_a : Int32} (hkd : kd = kdC) (hi : zI kd w) (hth : isLog th) {r : Int32} (hf : q3_latestWeekOf σ th person_a = some r) : zM l kd w yX3_latestWeekOf cX3_latestWeekOf 3 (some .int) rm3_latestWeekOf [.ref (w.2.2.1 th), .int person_a] σ (some (.int r), σ) := sorry
/-! LastLoaf$Log.rowsOf -/
def q3_rowsOf (σ : St) (th : Nat) (person_a : Int32) : Option Int32 :=
  Option.bind (loop2 (fun rec4_ (rows7_ : Int32) (ago8_ : Int32) =>
  if ago8_ < (σ th 1) then
  Option.bind (Option.bind (q3_read σ th ago8_ 2) fun x20_ =>
  if x20_ = person_a then (lt (rows7_ + 1) fun rows24_ =>
  some (rows24_)) else (some (rows7_))) fun y15_ =>
  lt (ago8_ + 1) fun ago26_ =>
  rec4_ y15_ ago26_
  else (some (rows7_, ago8_))) fuelN (0 : Int32) (0 : Int32)) fun y1_ =>
  some y1_.1
abbrev rm3_rowsOf : Room := { frames := 2, cells := 0, slots := 0, locals := 45 }
theorem c3_rowsOf {l : Launch} {kd : List KD} {w : Wp} {σ : St} {th : Nat} {person_a : Int32} (hkd : kd = kdC) (hi : zI kd w) (hth : isLog th) {r : Int32} (hf : q3_rowsOf σ th person_a = some r) : zM l kd w yX3_rowsOf cX3_rowsOf 4 (some .int) rm3_rowsOf [.ref (w.2.2.1 th), .int person_a] σ (some (.int r), σ) := sorry
/-! LastLoaf.led -/
theorem w_1_122 : Cond.fieldLink "LastLoaf" (426 : Nat) "LastLoaf$Village" "rows" "LLastLoaf$Log;" ∈ TB := sorry
theorem fg11_426 {Θ : Tz} {cc : ByteArray} {nL kc ks : Nat} {ret : Option FieldType} {rm : Room} {Q : State → Prop} {σ : St} {pc : Nat} {lv : List (Nat × Value)} {st : List Value} (C : Zc Θ cc nL RX11 ret rm) (hkd : Θ.2.2.2.2.1 = kdC) {th : Nat} (hth : isV th) (hd : decode cc pc = .ok (.getfield 426, 3)) (kk : Z Θ nL kc ks Q σ (pc + 3) lv (.ref (zA Θ (th + 8)) :: st)) : Z Θ nL kc ks Q σ pc lv (.ref (zA Θ th) :: st) := sorry
theorem w_8_2 : Cond.code ({ cls := "LastLoaf$Log", name := "latestWeekOf", desc := "(I)I" } : MethodName) prog_5_method_6_code (3 : Nat) (Option.some ClassFile.FieldType.int) ∈ TB := sorry
theorem w_7_239 : Cond.methodLink "LastLoaf" (430 : Nat) ({ cls := "LastLoaf$Log", name := "latestWeekOf", desc := "(I)I" } : MethodName) ∈ TB := sorry
theorem w_8_0 : Cond.instanceMethod ({ cls := "LastLoaf$Log", name := "latestWeekOf", desc := "(I)I" } : MethodName) ∈ TB := sorry
theorem w_8_1 : Cond.selects "LastLoaf$Log" ({ cls := "LastLoaf$Log", name := "latestWeekOf", desc := "(I)I" } : MethodName) ({ cls := "LastLoaf$Log", name := "latestWeekOf", desc := "(I)I" } : MethodName) ∈ TB := sorry
theorem cr11_430 {Θ : Tz} {cc : ByteArray} {nL kc ks : Nat} {ret : Option FieldType} {rm : Room} {Q : State → Prop} {σ : St} {pc : Nat} {lv : List (Nat × Value)} {st : List Value} (C : Zc Θ cc nL RX11 ret rm) (hkd : Θ.2.2.2.2.1 = kdC) {th : Nat} {person_a : Int32} (hth : isLog th) {r : Int32} (hx : q3_latestWeekOf σ th person_a = some r) (hrm : rm3_latestWeekOf.frames + 1 ≤ rm.frames ∧ 8 + (3 + 11) + rm3_latestWeekOf.locals ≤ rm.locals) (hcat : (st.map fun v => v.category).sum ≤ 8) (hk : kc ≤ rm.cells ∧ ks ≤ rm.slots) (hd : decode cc pc = .ok (.invokevirtual 430, 3)) (kk : Z Θ nL kc ks Q σ (pc + 3) lv (.int r :: st)) : Z Θ nL kc ks Q σ pc lv (.int person_a :: .ref (zA Θ th) :: st) := sorry
theorem w_8_11 : Cond.code ({ cls := "LastLoaf$Log", name := "rowsOf", desc := "(I)I" } : MethodName) prog_5_method_5_code (4 : Nat) (Option.some ClassFile.FieldType.int) ∈ TB := sorry
theorem w_8_8 : Cond.methodLink "LastLoaf" (435 : Nat) ({ cls := "LastLoaf$Log", name := "rowsOf", desc := "(I)I" } : MethodName) ∈ TB := sorry
theorem w_8_9 : Cond.instanceMethod ({ cls := "LastLoaf$Log", name := "rowsOf", desc := "(I)I" } : MethodName) ∈ TB := sorry
theorem w_8_10 : Cond.selects "LastLoaf$Log" ({ cls := "LastLoaf$Log", name := "rowsOf", desc := "(I)I" } : MethodName) ({ cls := "LastLoaf$Log", name := "rowsOf", desc := "(I)I" } : MethodName) ∈ TB := sorry
theorem cr11_435 {Θ : Tz} {cc : ByteArray} {nL kc ks : Nat} {ret : Option FieldType} {rm : Room} {Q : State → Prop} {σ : St} {pc : Nat} {lv : List (Nat × Value)} {st : List Value} (C : Zc Θ cc nL RX11 ret rm) (hkd : Θ.2.2.2.2.1 = kdC) {th : Nat} {person_a : Int32} (hth : isLog th) {r : Int32} (hx : q3_rowsOf σ th person_a = some r) (hrm : rm3_rowsOf.frames + 1 ≤ rm.frames ∧ 8 + (4 + 11) + rm3_rowsOf.locals ≤ rm.locals) (hcat : (st.map fun v => v.category).sum ≤ 8) (hk : kc ≤ rm.cells ∧ ks ≤ rm.slots) (hd : decode cc pc = .ok (.invokevirtual 435, 3)) (kk : Z Θ nL kc ks Q σ (pc + 3) lv (.int r :: st)) : Z Θ nL kc ks Q σ pc lv (.int person_a :: .ref (zA Θ th) :: st) := sorry
def q11_led (σ : St) (person_a : Int32) (week_a : Bool) : Option (Sum Nat Int32 × St) :=
  thn (q11_needPerson σ person_a) σ
  (Option.bind (if week_a = true then (Option.bind (q3_latestWeekOf σ (44 + 8) person_a) fun x9_ =>
  some x9_) else (Option.bind (q3_rowsOf σ (44 + 8) person_a) fun x11_ =>
  some x11_)) fun x3_ =>
  some (.inr x3_, σ))
abbrev rm11_led : Room := { frames := 7, cells := 1, slots := 6, locals := 111 }
theorem c11_led {l : Launch} {kd : List KD} {w : Wp} {σ : St} {person_a : Int32} {week_a : Bool} (hkd : kd = kdC) (hi : zI kd w) (hlt : l.stackTraces = false) {r : (Sum Nat Int32 × St)} (hf : q11_led σ person_a week_a = some r) : zX l kd w yX11_led cX11_led 3 (some .int) rm11_led [.ref (w.2.2.1 0), .int person_a, .int (b2i week_a)] σ (om (fun v => some (.int v)) r) 1 6 := sorry
/-! LastLoaf.log -/
theorem w_8_20 : Cond.methodLink "LastLoaf" (440 : Nat) ({ cls := "LastLoaf$Log", name := "read", desc := "(II)I" } : MethodName) ∈ TB := sorry
theorem cr11_440 {Θ : Tz} {cc : ByteArray} {nL kc ks : Nat} {ret : Option FieldType} {rm : Room} {Q : State → Prop} {σ : St} {pc : Nat} {lv : List (Nat × Value)} {st : List Value} (C : Zc Θ cc nL RX11 ret rm) (hkd : Θ.2.2.2.2.1 = kdC) {th : Nat} {ago_a : Int32} {column_a : Int32} (hth : isLog th) {r : Int32} (hx : q3_read σ th ago_a column_a = some r) (hrm : rm3_read.frames + 1 ≤ rm.frames ∧ 8 + (4 + 11) + rm3_read.locals ≤ rm.locals) (hcat : (st.map fun v => v.category).sum ≤ 8) (hk : kc ≤ rm.cells ∧ ks ≤ rm.slots) (hd : decode cc pc = .ok (.invokevirtual 440, 3)) (kk : Z Θ nL kc ks Q σ (pc + 3) lv (.int r :: st)) : Z Θ nL kc ks Q σ pc lv (.int column_a :: .int ago_a :: .ref (zA Θ th) :: st) := sorry
def q11_log (σ : St) (ago_a : Int32) (what_a : Int32) : Option (Sum Nat Int32 × St) :=
  if (what_a < 0) ∨ (4 ≤ what_a) then (some (.inl 4, σ)) else
  Option.bind (q3_read σ (44 + 8) ago_a what_a) fun x6_ =>
  some (.inr x6_, σ)
abbrev rm11_log : Room := { frames := 6, cells := 1, slots := 6, locals := 90 }
theorem c11_log {l : Launch} {kd : List KD} {w : Wp} {σ : St} {ago_a : Int32} {what_a : Int32} (hkd : kd = kdC) (hi : zI kd w) (hlt : l.stackTraces = false) {r : (Sum Nat Int32 × St)} (hf : q11_log σ ago_a what_a = some r) : zX l kd w yX11_log cX11_log 3 (some .int) rm11_log [.ref (w.2.2.1 0), .int ago_a, .int what_a] σ (om (fun v => some (.int v)) r) 1 6 := sorry
/-! LastLoaf.seed -/
theorem fg11_420 {Θ : Tz} {cc : ByteArray} {nL kc ks : Nat} {ret : Option FieldType} {rm : Room} {Q : State → Prop} {σ : St} {pc : Nat} {lv : List (Nat × Value)} {st : List Value} (C : Zc Θ cc nL RX11 ret rm) (hkd : Θ.2.2.2.2.1 = kdC) {th : Nat} (hth : isV th) (hd : decode cc pc = .ok (.getfield 420, 3)) (kk : Z Θ nL kc ks Q σ (pc + 3) lv (.int (σ th 15) :: st)) : Z Θ nL kc ks Q σ pc lv (.ref (zA Θ th) :: st) := sorry
def q11_seed (σ : St) (n_a : Int32) : Option (Int32 × St) :=
  lt (σ 44 15) fun was1_ =>
  lt (up σ 44 15 n_a) fun σ3_ =>
  some (was1_, σ3_)
abbrev rm11_seed : Room := { frames := 0, cells := 0, slots := 0, locals := 0 }
theorem c11_seed {l : Launch} {kd : List KD} {w : Wp} {σ : St} {n_a : Int32} (hkd : kd = kdC) (hi : zI kd w) {r : (Int32 × St)} (hf : q11_seed σ n_a = some r) : zM l kd w yX11_seed cX11_seed 3 (some .int) rm11_seed [.ref (w.2.2.1 0), .int n_a] σ (some (.int r.1), r.2) := sorry
/-! LastLoaf$Past.recall -/
theorem w_4_126 : Cond.methodLink "LastLoaf$Past" (35 : Nat) ({ cls := "java/lang/Math", name := "floorMod", desc := "(II)I" } : MethodName) ∈ TB := sorry
def q4_recall (σ : St) (village_a : Nat) : Option (Bool × St) :=
  if (σ 5 1) = 0 then (some (false, σ)) else
  lt (up σ 5 2 (fmod ((σ 5 2) - 1) 12)) fun σ5_ =>
  lt (up σ5_ 5 1 ((σ5_ 5 1) - 1)) fun σ7_ =>
  Option.bind (kpt (σ7_ 5 2)) fun x9_ =>
  Option.bind (q10_become σ7_ village_a x9_) fun x11_ =>
  some (true, x11_)
abbrev rm4_recall : Room := { frames := 3, cells := 0, slots := 0, locals := 82 }
theorem c4_recall {l : Launch} {kd : List KD} {w : Wp} {σ : St} {village_a : Nat} (hkd : kd = kdC) (hi : zI kd w) (h_village : isV village_a) {r : (Bool × St)} (hf : q4_recall σ village_a = some r) : zM l kd w yX4_recall cX4_recall 2 (some .boolean) rm4_recall [.ref (w.2.2.1 5), .ref (w.2.2.1 village_a)] σ (some (.int (b2i r.1)), r.2) := sorry
/-! LastLoaf.undo -/
theorem w_4_125 : Cond.code ({ cls := "LastLoaf$Past", name := "recall", desc := "(LLastLoaf$Village;)Z" } : MethodName) prog_6_method_3_code (2 : Nat) (Option.some ClassFile.FieldType.boolean) ∈ TB := sorry
theorem w_4_122 : Cond.methodLink "LastLoaf" (443 : Nat) ({ cls := "LastLoaf$Past", name := "recall", desc := "(LLastLoaf$Village;)Z" } : MethodName) ∈ TB := sorry
theorem w_4_123 : Cond.instanceMethod ({ cls := "LastLoaf$Past", name := "recall", desc := "(LLastLoaf$Village;)Z" } : MethodName) ∈ TB := sorry
theorem w_4_124 : Cond.selects "LastLoaf$Past" ({ cls := "LastLoaf$Past", name := "recall", desc := "(LLastLoaf$Village;)Z" } : MethodName) ({ cls := "LastLoaf$Past", name := "recall", desc := "(LLastLoaf$Village;)Z" } : MethodName) ∈ TB := sorry
theorem cr11_443 {Θ : Tz} {cc : ByteArray} {nL kc ks : Nat} {ret : Option FieldType} {rm : Room} {Q : State → Prop} {σ : St} {pc : Nat} {lv : List (Nat × Value)} {st : List Value} (C : Zc Θ cc nL RX11 ret rm) (hkd : Θ.2.2.2.2.1 = kdC) {village_a : Nat} (h_village : isV village_a) {r : Bool × St} (hx : q4_recall σ village_a = some r) (hrm : rm4_recall.frames + 1 ≤ rm.frames ∧ 8 + (2 + 11) + rm4_recall.locals ≤ rm.locals) (hcat : (st.map fun v => v.category).sum ≤ 8) (hk : kc ≤ rm.cells ∧ ks ≤ rm.slots) (hd : decode cc pc = .ok (.invokevirtual 443, 3)) (kk : Z Θ nL kc ks Q r.2 (pc + 3) lv (.int (b2i r.1) :: st)) : Z Θ nL kc ks Q σ pc lv (.ref (zA Θ village_a) :: .ref (zA Θ 5) :: st) := sorry
def q11_undo (σ : St) : Option (Bool × St) :=
  Option.bind (q4_recall σ 44) fun x1_ =>
  some (x1_.1, x1_.2)
abbrev rm11_undo : Room := { frames := 4, cells := 0, slots := 0, locals := 103 }
theorem c11_undo {l : Launch} {kd : List KD} {w : Wp} {σ : St} (hkd : kd = kdC) (hi : zI kd w) {r : (Bool × St)} (hf : q11_undo σ = some r) : zM l kd w yX11_undo cX11_undo 1 (some .boolean) rm11_undo [.ref (w.2.2.1 0)] σ (some (.int (b2i r.1)), r.2) := sorry
/-! LastLoaf.image -/
theorem w_2_193 : Cond.fieldLink "LastLoaf" (45 : Nat) "LastLoaf" "imageVillage" "LLastLoaf$Village;" ∈ TB := sorry
theorem fg11_45 {Θ : Tz} {cc : ByteArray} {nL kc ks : Nat} {ret : Option FieldType} {rm : Room} {Q : State → Prop} {σ : St} {pc : Nat} {lv : List (Nat × Value)} {st : List Value} (C : Zc Θ cc nL RX11 ret rm) (hkd : Θ.2.2.2.2.1 = kdC) (hd : decode cc pc = .ok (.getfield 45, 3)) (kk : Z Θ nL kc ks Q σ (pc + 3) lv (.ref (zA Θ 64) :: st)) : Z Θ nL kc ks Q σ pc lv (.ref (zA Θ 0) :: st) := sorry
theorem w_2_194 : Cond.fieldLink "LastLoaf" (48 : Nat) "LastLoaf" "imageLaw" "LLastLoaf$Law;" ∈ TB := sorry
theorem fg11_48 {Θ : Tz} {cc : ByteArray} {nL kc ks : Nat} {ret : Option FieldType} {rm : Room} {Q : State → Prop} {σ : St} {pc : Nat} {lv : List (Nat × Value)} {st : List Value} (C : Zc Θ cc nL RX11 ret rm) (hkd : Θ.2.2.2.2.1 = kdC) (hd : decode cc pc = .ok (.getfield 48, 3)) (kk : Z Θ nL kc ks Q σ (pc + 3) lv (.ref (zA Θ 40) :: st)) : Z Θ nL kc ks Q σ pc lv (.ref (zA Θ 0) :: st) := sorry
theorem w_2_201 : Cond.fieldLink "LastLoaf" (95 : Nat) "LastLoaf" "imageKept" "Z" ∈ TB := sorry
theorem fp11_95 {Θ : Tz} {cc : ByteArray} {nL kc ks : Nat} {ret : Option FieldType} {rm : Room} {Q : State → Prop} {σ : St} {pc : Nat} {lv : List (Nat × Value)} {st : List Value} (C : Zc Θ cc nL RX11 ret rm) (hkd : Θ.2.2.2.2.1 = kdC) {b : Bool} {σ1 : St} (he : σ1 = up σ 0 14 (b2i b)) (hd : decode cc pc = .ok (.putfield 95, 3)) (kk : Z Θ nL kc ks Q σ1 (pc + 3) lv st) : Z Θ nL kc ks Q σ pc lv (.int (b2i b) :: .ref (zA Θ 0) :: st) := sorry
def q11_image (σ : St) : Option St :=
  Option.bind (q10_become σ 64 44) fun x1_ =>
  Option.bind (q2_become x1_ 40 32) fun x3_ =>
  lt (up x3_ 0 14 (b2i true)) fun σ5_ =>
  some σ5_
abbrev rm11_image : Room := { frames := 3, cells := 0, slots := 0, locals := 82 }
theorem c11_image {l : Launch} {kd : List KD} {w : Wp} {σ : St} (hkd : kd = kdC) (hi : zI kd w) {r : St} (hf : q11_image σ = some r) : zM l kd w yX11_image cX11_image 1 none rm11_image [.ref (w.2.2.1 0)] σ (none, r) := sorry
/-! LastLoaf.back -/
theorem fg11_95 {Θ : Tz} {cc : ByteArray} {nL kc ks : Nat} {ret : Option FieldType} {rm : Room} {Q : State → Prop} {σ : St} {pc : Nat} {lv : List (Nat × Value)} {st : List Value} (C : Zc Θ cc nL RX11 ret rm) (hkd : Θ.2.2.2.2.1 = kdC) (hd : decode cc pc = .ok (.getfield 95, 3)) (kk : Z Θ nL kc ks Q σ (pc + 3) lv (.int (σ 0 14) :: st)) : Z Θ nL kc ks Q σ pc lv (.ref (zA Θ 0) :: st) := sorry
def q11_back (σ : St) : Option (Bool × St) :=
  if ¬ (¬ (σ 0 14) = 0) then (some (false, σ)) else
  Option.bind (q10_become σ 44 64) fun x5_ =>
  Option.bind (q2_become x5_ 32 40) fun x7_ =>
  Option.bind (q4_forget x7_) fun x9_ =>
  some (true, x9_)
abbrev rm11_back : Room := { frames := 3, cells := 0, slots := 0, locals := 82 }
theorem c11_back {l : Launch} {kd : List KD} {w : Wp} {σ : St} (hkd : kd = kdC) (hi : zI kd w) {r : (Bool × St)} (hf : q11_back σ = some r) : zM l kd w yX11_back cX11_back 1 (some .boolean) rm11_back [.ref (w.2.2.1 0)] σ (some (.int (b2i r.1)), r.2) := sorry
/-! LastLoaf.count -/
theorem w_1_151 : Cond.fieldLink "LastLoaf" (447 : Nat) "LastLoaf$Village" "week" "I" ∈ TB := sorry
theorem fg11_447 {Θ : Tz} {cc : ByteArray} {nL kc ks : Nat} {ret : Option FieldType} {rm : Room} {Q : State → Prop} {σ : St} {pc : Nat} {lv : List (Nat × Value)} {st : List Value} (C : Zc Θ cc nL RX11 ret rm) (hkd : Θ.2.2.2.2.1 = kdC) {th : Nat} (hth : isV th) (hd : decode cc pc = .ok (.getfield 447, 3)) (kk : Z Θ nL kc ks Q σ (pc + 3) lv (.int (σ th 12) :: st)) : Z Θ nL kc ks Q σ pc lv (.ref (zA Θ th) :: st) := sorry
theorem w_2_53 : Cond.fieldLink "LastLoaf" (450 : Nat) "LastLoaf$Poll" "voters" "I" ∈ TB := sorry
theorem fg11_450 {Θ : Tz} {cc : ByteArray} {nL kc ks : Nat} {ret : Option FieldType} {rm : Room} {Q : State → Prop} {σ : St} {pc : Nat} {lv : List (Nat × Value)} {st : List Value} (C : Zc Θ cc nL RX11 ret rm) (hkd : Θ.2.2.2.2.1 = kdC) (hd : decode cc pc = .ok (.getfield 450, 3)) (kk : Z Θ nL kc ks Q σ (pc + 3) lv (.int (σ 6 9) :: st)) : Z Θ nL kc ks Q σ pc lv (.ref (zA Θ 6) :: st) := sorry
theorem w_1_79 : Cond.fieldLink "LastLoaf" (456 : Nat) "LastLoaf$Log" "size" "I" ∈ TB := sorry
theorem fg11_456 {Θ : Tz} {cc : ByteArray} {nL kc ks : Nat} {ret : Option FieldType} {rm : Room} {Q : State → Prop} {σ : St} {pc : Nat} {lv : List (Nat × Value)} {st : List Value} (C : Zc Θ cc nL RX11 ret rm) (hkd : Θ.2.2.2.2.1 = kdC) {th : Nat} (hth : isLog th) (hd : decode cc pc = .ok (.getfield 456, 3)) (kk : Z Θ nL kc ks Q σ (pc + 3) lv (.int (σ th 1) :: st)) : Z Θ nL kc ks Q σ pc lv (.ref (zA Θ th) :: st) := sorry
theorem w_2_26 : Cond.fieldLink "LastLoaf" (459 : Nat) "LastLoaf$Past" "size" "I" ∈ TB := sorry
theorem fg11_459 {Θ : Tz} {cc : ByteArray} {nL kc ks : Nat} {ret : Option FieldType} {rm : Room} {Q : State → Prop} {σ : St} {pc : Nat} {lv : List (Nat × Value)} {st : List Value} (C : Zc Θ cc nL RX11 ret rm) (hkd : Θ.2.2.2.2.1 = kdC) (hd : decode cc pc = .ok (.getfield 459, 3)) (kk : Z Θ nL kc ks Q σ (pc + 3) lv (.int (σ 5 1) :: st)) : Z Θ nL kc ks Q σ pc lv (.ref (zA Θ 5) :: st) := sorry
def q11_count (σ : St) (what_a : Int32) : Option (Int32 × St) :=
  if what_a = 0 then (some (σ 44 8, σ)) else
  if what_a = 1 then (some (σ 44 16, σ)) else
  if what_a = 2 then (some (σ 32 4, σ)) else
  if what_a = 3 then (some (σ 44 12, σ)) else
  if what_a = 4 then (some (σ 44 11, σ)) else
  if what_a = 5 then (some (σ 44 13, σ)) else
  if what_a = 6 then (some (σ 44 14, σ)) else
  if what_a = 7 then (Option.bind (q11_pollNow σ) fun x4_ =>
  some (x4_.2 6 9, x4_.2)) else
  if what_a = 8 then (some (q10_runners σ 44, σ)) else
  if what_a = 9 then (Option.bind (q10_hungerOfAll σ 44) fun x6_ =>
  some (x6_, σ)) else
  if what_a = 10 then (Option.bind (q10_hadOfAll σ 44) fun x8_ =>
  some (x8_, σ)) else
  if what_a = 11 then (some (σ (44 + 8) 1, σ)) else
  if what_a = 12 then (some (σ 5 1, σ)) else
  some ((-1), σ)
abbrev rm11_count : Room := { frames := 5, cells := 0, slots := 0, locals := 116 }
theorem c11_count {l : Launch} {kd : List KD} {w : Wp} {σ : St} {what_a : Int32} (hkd : kd = kdC) (hi : zI kd w) {r : (Int32 × St)} (hf : q11_count σ what_a = some r) : zM l kd w yX11_count cX11_count 2 (some .int) rm11_count [.ref (w.2.2.1 0), .int what_a] σ (some (.int r.1), r.2) := sorry

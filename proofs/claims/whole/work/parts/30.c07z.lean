/-! LastLoaf$Poll.wonOver -/
theorem bp_64 : (Int8.ofInt (64)).toInt32 = 64 := sorry
theorem w_6_19 : Cond.code ({ cls := "LastLoaf$Poll", name := "hasItWith", desc := "(II)Z" } : MethodName) prog_7_method_26_code (5 : Nat) (Option.some ClassFile.FieldType.boolean) ∈ TB := sorry
theorem w_6_16 : Cond.methodLink "LastLoaf$Poll" (143 : Nat) ({ cls := "LastLoaf$Poll", name := "hasItWith", desc := "(II)Z" } : MethodName) ∈ TB := sorry
theorem w_6_17 : Cond.instanceMethod ({ cls := "LastLoaf$Poll", name := "hasItWith", desc := "(II)Z" } : MethodName) ∈ TB := sorry
theorem w_6_18 : Cond.selects "LastLoaf$Poll" ({ cls := "LastLoaf$Poll", name := "hasItWith", desc := "(II)Z" } : MethodName) ({ cls := "LastLoaf$Poll", name := "hasItWith", desc := "(II)Z" } : MethodName) ∈ TB := sorry
theorem cr5_143 {Θ : Tz} {cc : ByteArray} {nL kc ks : Nat} {ret : Option FieldType} {rm : Room} {Q : State → Prop} {σ : St} {pc : Nat} {lv : List (Nat × Value)} {st : List Value} (C : Zc Θ cc nL RX5 ret rm) (hkd : Θ.2.2.2.2.1 = kdC) {person_a : Int32} {turned_a : Int32} {r : Bool × St} (hx : q5_hasItWith σ person_a turned_a = some r) (hrm : rm5_hasItWith.frames + 1 ≤ rm.frames ∧ 8 + (5 + 11) + rm5_hasItWith.locals ≤ rm.locals) (hcat : (st.map fun v => v.category).sum ≤ 8) (hk : kc ≤ rm.cells ∧ ks ≤ rm.slots) (hd : decode cc pc = .ok (.invokevirtual 143, 3)) (kk : Z Θ nL kc ks Q r.2 (pc + 3) lv (.int (b2i r.1) :: st)) : Z Θ nL kc ks Q σ pc lv (.int turned_a :: .int person_a :: .ref (zA Θ 6) :: st) := sorry
def q5_wonOver (σ : St) (person_a : Int32) : Option (Int32 × St) :=
  if ¬ (q11_isIn (σ 6 7) person_a = true) then (some ((-1), σ)) else
  Option.bind (loop3 (fun rec8_ (best11_ : Int32) (set12_ : Int32) (σ13_ : St) =>
  if set12_ < 64 then
  lt (decide ((best11_ = (-1)) ∨ ((bcount set12_) < (bcount best11_)))) fun isFewer26_ =>
  Option.bind (Option.bind (if (set12_ &&& ((σ13_ 6 9) ^^^ (-1))) = 0 then (if isFewer26_ = true then (Option.bind (q5_hasItWith σ13_ person_a set12_) fun x37_ =>
  if x37_.1 = true then (some (true, x37_.2)) else (some (false, x37_.2))) else (some (false, σ13_))) else (some (false, σ13_))) fun t33_ =>
  if t33_.1 = true then (some (set12_, t33_.2)) else (some (best11_, t33_.2))) fun y28_ =>
  lt (set12_ + 1) fun set41_ =>
  rec8_ y28_.1 set41_ y28_.2
  else (some (best11_, set12_, σ13_))) fuelN (-1 : Int32) (0 : Int32) σ) fun y5_ =>
  some (y5_.1, y5_.2.2)
abbrev rm5_wonOver : Room := { frames := 3, cells := 0, slots := 0, locals := 68 }
theorem c5_wonOver {l : Launch} {kd : List KD} {w : Wp} {σ : St} {person_a : Int32} (hkd : kd = kdC) (hi : zI kd w) {r : (Int32 × St)} (hf : q5_wonOver σ person_a = some r) : zM l kd w yX5_wonOver cX5_wonOver 5 (some .int) rm5_wonOver [.ref (w.2.2.1 6), .int person_a] σ (some (.int r.1), r.2) := sorry
/-! LastLoaf.needed -/
theorem w_3_19 : Cond.code ({ cls := "LastLoaf", name := "pollNow", desc := "()LLastLoaf$Poll;" } : MethodName) prog_1_method_76_code (1 : Nat) (Option.some (ClassFile.FieldType.object "LastLoaf$Poll")) ∈ TB := sorry
theorem w_3_16 : Cond.methodLink "LastLoaf" (180 : Nat) ({ cls := "LastLoaf", name := "pollNow", desc := "()LLastLoaf$Poll;" } : MethodName) ∈ TB := sorry
theorem w_3_18 : Cond.instanceMethod ({ cls := "LastLoaf", name := "pollNow", desc := "()LLastLoaf$Poll;" } : MethodName) ∈ TB := sorry
theorem ws_LastLoaf_pollNow__LLastLoaf_Poll_ : Cond.selects "LastLoaf" (⟨"LastLoaf", "pollNow", "()LLastLoaf$Poll;"⟩ : MethodName) (⟨"LastLoaf", "pollNow", "()LLastLoaf$Poll;"⟩ : MethodName) ∈ TB := sorry
theorem cr11_180 {Θ : Tz} {cc : ByteArray} {nL kc ks : Nat} {ret : Option FieldType} {rm : Room} {Q : State → Prop} {σ : St} {pc : Nat} {lv : List (Nat × Value)} {st : List Value} (C : Zc Θ cc nL RX11 ret rm) (hkd : Θ.2.2.2.2.1 = kdC) {r : Nat × St} (hx : q11_pollNow σ = some r) (hrm : rm11_pollNow.frames + 1 ≤ rm.frames ∧ 8 + (1 + 11) + rm11_pollNow.locals ≤ rm.locals) (hcat : (st.map fun v => v.category).sum ≤ 8) (hk : kc ≤ rm.cells ∧ ks ≤ rm.slots) (hd : decode cc pc = .ok (.invokevirtual 180, 3)) (kk : Z Θ nL kc ks Q r.2 (pc + 3) lv (.ref (zA Θ r.1) :: st)) : Z Θ nL kc ks Q σ pc lv (.ref (zA Θ 0) :: st) := sorry
theorem w_6_15 : Cond.code ({ cls := "LastLoaf$Poll", name := "wonOver", desc := "(I)I" } : MethodName) prog_7_method_25_code (5 : Nat) (Option.some ClassFile.FieldType.int) ∈ TB := sorry
theorem w_6_12 : Cond.methodLink "LastLoaf" (299 : Nat) ({ cls := "LastLoaf$Poll", name := "wonOver", desc := "(I)I" } : MethodName) ∈ TB := sorry
theorem w_6_13 : Cond.instanceMethod ({ cls := "LastLoaf$Poll", name := "wonOver", desc := "(I)I" } : MethodName) ∈ TB := sorry
theorem w_6_14 : Cond.selects "LastLoaf$Poll" ({ cls := "LastLoaf$Poll", name := "wonOver", desc := "(I)I" } : MethodName) ({ cls := "LastLoaf$Poll", name := "wonOver", desc := "(I)I" } : MethodName) ∈ TB := sorry
theorem cr11_299 {Θ : Tz} {cc : ByteArray} {nL kc ks : Nat} {ret : Option FieldType} {rm : Room} {Q : State → Prop} {σ : St} {pc : Nat} {lv : List (Nat × Value)} {st : List Value} (C : Zc Θ cc nL RX11 ret rm) (hkd : Θ.2.2.2.2.1 = kdC) {person_a : Int32} {r : Int32 × St} (hx : q5_wonOver σ person_a = some r) (hrm : rm5_wonOver.frames + 1 ≤ rm.frames ∧ 8 + (5 + 11) + rm5_wonOver.locals ≤ rm.locals) (hcat : (st.map fun v => v.category).sum ≤ 8) (hk : kc ≤ rm.cells ∧ ks ≤ rm.slots) (hd : decode cc pc = .ok (.invokevirtual 299, 3)) (kk : Z Θ nL kc ks Q r.2 (pc + 3) lv (.int r.1 :: st)) : Z Θ nL kc ks Q σ pc lv (.int person_a :: .ref (zA Θ 6) :: st) := sorry
theorem w_4_11 : Cond.methodLink "LastLoaf" (238 : Nat) ({ cls := "java/lang/Integer", name := "bitCount", desc := "(I)I" } : MethodName) ∈ TB := sorry
def q11_needed (σ : St) (person_a : Int32) : Option (Int32 × St) :=
  Option.bind (q11_pollNow σ) fun x1_ =>
  Option.bind (q5_wonOver x1_.2 person_a) fun x3_ =>
  some (if x3_.1 = (-1) then (-1) else bcount x3_.1, x3_.2)
abbrev rm11_needed : Room := { frames := 5, cells := 0, slots := 0, locals := 116 }
theorem c11_needed {l : Launch} {kd : List KD} {w : Wp} {σ : St} {person_a : Int32} (hkd : kd = kdC) (hi : zI kd w) {r : (Int32 × St)} (hf : q11_needed σ person_a = some r) : zM l kd w yX11_needed cX11_needed 3 (some .int) rm11_needed [.ref (w.2.2.1 0), .int person_a] σ (some (.int r.1), r.2) := sorry
/-! LastLoaf$Village.hadOfAll -/
def q10_hadOfAll (σ : St) (th : Nat) : Option Int32 :=
  Option.bind (loop2 (fun rec4_ (sum7_ : Int32) (p8_ : Int32) =>
  if p8_ < (σ th 8) then
  Option.bind (ag σ (th + 4) 6 p8_) fun x15_ =>
  lt (sum7_ + x15_) fun sum17_ =>
  lt (p8_ + 1) fun p19_ =>
  rec4_ sum17_ p19_
  else (some (sum7_, p8_))) fuelN (0 : Int32) (0 : Int32)) fun y1_ =>
  some y1_.1
abbrev rm10_hadOfAll : Room := { frames := 0, cells := 0, slots := 0, locals := 0 }
theorem c10_hadOfAll {l : Launch} {kd : List KD} {w : Wp} {σ : St} {th : Nat} (hkd : kd = kdC) (hi : zI kd w) (hth : isV th) {r : Int32} (hf : q10_hadOfAll σ th = some r) : zM l kd w yX10_hadOfAll cX10_hadOfAll 3 (some .int) rm10_hadOfAll [.ref (w.2.2.1 th)] σ (some (.int r), σ) := sorry
/-! LastLoaf.shareOf -/
theorem w_4_157 : Cond.code ({ cls := "LastLoaf$Village", name := "hadOfAll", desc := "()I" } : MethodName) prog_12_method_12_code (3 : Nat) (Option.some ClassFile.FieldType.int) ∈ TB := sorry
theorem w_4_154 : Cond.methodLink "LastLoaf" (453 : Nat) ({ cls := "LastLoaf$Village", name := "hadOfAll", desc := "()I" } : MethodName) ∈ TB := sorry
theorem w_4_155 : Cond.instanceMethod ({ cls := "LastLoaf$Village", name := "hadOfAll", desc := "()I" } : MethodName) ∈ TB := sorry
theorem w_4_156 : Cond.selects "LastLoaf$Village" ({ cls := "LastLoaf$Village", name := "hadOfAll", desc := "()I" } : MethodName) ({ cls := "LastLoaf$Village", name := "hadOfAll", desc := "()I" } : MethodName) ∈ TB := sorry
theorem cr11_453 {Θ : Tz} {cc : ByteArray} {nL kc ks : Nat} {ret : Option FieldType} {rm : Room} {Q : State → Prop} {σ : St} {pc : Nat} {lv : List (Nat × Value)} {st : List Value} (C : Zc Θ cc nL RX11 ret rm) (hkd : Θ.2.2.2.2.1 = kdC) {th : Nat} (hth : isV th) {r : Int32} (hx : q10_hadOfAll σ th = some r) (hrm : rm10_hadOfAll.frames + 1 ≤ rm.frames ∧ 8 + (3 + 11) + rm10_hadOfAll.locals ≤ rm.locals) (hcat : (st.map fun v => v.category).sum ≤ 8) (hk : kc ≤ rm.cells ∧ ks ≤ rm.slots) (hd : decode cc pc = .ok (.invokevirtual 453, 3)) (kk : Z Θ nL kc ks Q σ (pc + 3) lv (.int r :: st)) : Z Θ nL kc ks Q σ pc lv (.ref (zA Θ th) :: st) := sorry
theorem w_1_107 : Cond.fieldLink "LastLoaf" (174 : Nat) "LastLoaf$Village" "had" "[I" ∈ TB := sorry
theorem fg11_174 {Θ : Tz} {cc : ByteArray} {nL kc ks : Nat} {ret : Option FieldType} {rm : Room} {Q : State → Prop} {σ : St} {pc : Nat} {lv : List (Nat × Value)} {st : List Value} (C : Zc Θ cc nL RX11 ret rm) (hkd : Θ.2.2.2.2.1 = kdC) {th : Nat} (hth : isV th) (hd : decode cc pc = .ok (.getfield 174, 3)) (kk : Z Θ nL kc ks Q σ (pc + 3) lv (.ref (zA Θ (th + 4)) :: st)) : Z Θ nL kc ks Q σ pc lv (.ref (zA Θ th) :: st) := sorry
def q11_shareOf (σ : St) (person_a : Int32) : Option Int32 :=
  Option.bind (q10_hadOfAll σ 44) fun x1_ =>
  Option.bind (if x1_ = 0 then (some (0 : Int32)) else (Option.bind (ag σ (44 + 4) 6 person_a) fun x9_ =>
  Option.bind (dv (x9_ * 100) x1_) fun x11_ =>
  some x11_)) fun x3_ =>
  some x3_
abbrev rm11_shareOf : Room := { frames := 1, cells := 0, slots := 0, locals := 22 }
theorem c11_shareOf {l : Launch} {kd : List KD} {w : Wp} {σ : St} {person_a : Int32} (hkd : kd = kdC) (hi : zI kd w) {r : Int32} (hf : q11_shareOf σ person_a = some r) : zM l kd w yX11_shareOf cX11_shareOf 3 (some .int) rm11_shareOf [.ref (w.2.2.1 0), .int person_a] σ (some (.int r), σ) := sorry
/-! LastLoaf$Poll.isAhead -/
def q5_isAhead (σ : St) (person_a : Int32) (other_a : Int32) : Option Bool :=
  if (¬ (q11_isIn (σ 6 7) person_a = true)) ∨ (¬ (q11_isIn (σ 6 7) other_a = true)) then (some false) else
  Option.bind (loop2 (fun rec9_ (lead12_ : Int32) (v13_ : Int32) =>
  if v13_ < (σ 6 6) then
  Option.bind (if q11_isIn (σ 6 9) v13_ = true then (lt (v13_ * 6) fun row27_ =>
  Option.bind (Option.bind (ag σ 8 36 (row27_ + person_a)) fun x34_ =>
  Option.bind (ag σ 8 36 (row27_ + other_a)) fun x36_ =>
  if x34_ < x36_ then (some (1 : Int32)) else (some (-1 : Int32))) fun x29_ =>
  lt (lead12_ + x29_) fun lead40_ =>
  some (lead40_)) else (some (lead12_))) fun y20_ =>
  lt (v13_ + 1) fun v42_ =>
  rec9_ y20_ v42_
  else (some (lead12_, v13_))) fuelN (0 : Int32) (0 : Int32)) fun y6_ =>
  some (decide (0 < y6_.1))
abbrev rm5_isAhead : Room := { frames := 1, cells := 0, slots := 0, locals := 21 }
theorem c5_isAhead {l : Launch} {kd : List KD} {w : Wp} {σ : St} {person_a : Int32} {other_a : Int32} (hkd : kd = kdC) (hi : zI kd w) {r : Bool} (hf : q5_isAhead σ person_a other_a = some r) : zM l kd w yX5_isAhead cX5_isAhead 6 (some .boolean) rm5_isAhead [.ref (w.2.2.1 6), .int person_a, .int other_a] σ (some (.int (b2i r)), σ) := sorry
/-! LastLoaf$Poll.duelsOf -/
theorem w_3_80 : Cond.code ({ cls := "LastLoaf$Poll", name := "isAhead", desc := "(II)Z" } : MethodName) prog_7_method_7_code (6 : Nat) (Option.some ClassFile.FieldType.boolean) ∈ TB := sorry
theorem w_3_77 : Cond.methodLink "LastLoaf$Poll" (80 : Nat) ({ cls := "LastLoaf$Poll", name := "isAhead", desc := "(II)Z" } : MethodName) ∈ TB := sorry
theorem w_3_78 : Cond.instanceMethod ({ cls := "LastLoaf$Poll", name := "isAhead", desc := "(II)Z" } : MethodName) ∈ TB := sorry
theorem w_3_79 : Cond.selects "LastLoaf$Poll" ({ cls := "LastLoaf$Poll", name := "isAhead", desc := "(II)Z" } : MethodName) ({ cls := "LastLoaf$Poll", name := "isAhead", desc := "(II)Z" } : MethodName) ∈ TB := sorry
theorem cr5_80 {Θ : Tz} {cc : ByteArray} {nL kc ks : Nat} {ret : Option FieldType} {rm : Room} {Q : State → Prop} {σ : St} {pc : Nat} {lv : List (Nat × Value)} {st : List Value} (C : Zc Θ cc nL RX5 ret rm) (hkd : Θ.2.2.2.2.1 = kdC) {person_a : Int32} {other_a : Int32} {r : Bool} (hx : q5_isAhead σ person_a other_a = some r) (hrm : rm5_isAhead.frames + 1 ≤ rm.frames ∧ 8 + (6 + 11) + rm5_isAhead.locals ≤ rm.locals) (hcat : (st.map fun v => v.category).sum ≤ 8) (hk : kc ≤ rm.cells ∧ ks ≤ rm.slots) (hd : decode cc pc = .ok (.invokevirtual 80, 3)) (kk : Z Θ nL kc ks Q σ (pc + 3) lv (.int (b2i r) :: st)) : Z Θ nL kc ks Q σ pc lv (.int other_a :: .int person_a :: .ref (zA Θ 6) :: st) := sorry
def q5_duelsOf (σ : St) (person_a : Int32) : Option Int32 :=
  Option.bind (loop2 (fun rec4_ (duels7_ : Int32) (r8_ : Int32) =>
  if r8_ < (σ 6 6) then
  Option.bind (Option.bind (if ¬ r8_ = person_a then (Option.bind (q5_isAhead σ person_a r8_) fun x23_ =>
  if x23_ = true then (some true) else (some false)) else (some false)) fun t20_ =>
  if t20_ = true then (lt (duels7_ + 1) fun duels27_ =>
  some (duels27_)) else (some (duels7_))) fun y15_ =>
  lt (r8_ + 1) fun r29_ =>
  rec4_ y15_ r29_
  else (some (duels7_, r8_))) fuelN (0 : Int32) (0 : Int32)) fun y1_ =>
  some y1_.1
abbrev rm5_duelsOf : Room := { frames := 2, cells := 0, slots := 0, locals := 46 }
theorem c5_duelsOf {l : Launch} {kd : List KD} {w : Wp} {σ : St} {person_a : Int32} (hkd : kd = kdC) (hi : zI kd w) {r : Int32} (hf : q5_duelsOf σ person_a = some r) : zM l kd w yX5_duelsOf cX5_duelsOf 4 (some .int) rm5_duelsOf [.ref (w.2.2.1 6), .int person_a] σ (some (.int r), σ) := sorry
/-! LastLoaf$Poll.pointsOf -/
def q5_pointsOf (σ : St) (person_a : Int32) : Option Int32 :=
  if ¬ (q11_isIn (σ 6 7) person_a = true) then (some 0) else
  Option.bind (loop2 (fun rec8_ (points11_ : Int32) (v12_ : Int32) =>
  if v12_ < (σ 6 6) then
  Option.bind (if q11_isIn (σ 6 9) v12_ = true then (Option.bind (ag σ 8 36 ((v12_ * 6) + person_a)) fun x26_ =>
  lt (points11_ + (((σ 6 8) - 1) - x26_)) fun points28_ =>
  some (points28_)) else (some (points11_))) fun y19_ =>
  lt (v12_ + 1) fun v30_ =>
  rec8_ y19_ v30_
  else (some (points11_, v12_))) fuelN (0 : Int32) (0 : Int32)) fun y5_ =>
  some y5_.1
abbrev rm5_pointsOf : Room := { frames := 1, cells := 0, slots := 0, locals := 21 }
theorem c5_pointsOf {l : Launch} {kd : List KD} {w : Wp} {σ : St} {person_a : Int32} (hkd : kd = kdC) (hi : zI kd w) {r : Int32} (hf : q5_pointsOf σ person_a = some r) : zM l kd w yX5_pointsOf cX5_pointsOf 4 (some .int) rm5_pointsOf [.ref (w.2.2.1 6), .int person_a] σ (some (.int r), σ) := sorry
/-! LastLoaf$Poll.votesOf -/
def q5_votesOf (σ : St) (person_a : Int32) : Option Int32 :=
  Option.bind (loop2 (fun rec4_ (votes7_ : Int32) (v8_ : Int32) =>
  if v8_ < (σ 6 6) then
  Option.bind (Option.bind (q5_rankAt σ v8_ 0) fun x20_ =>
  if x20_ = person_a then (lt (votes7_ + 1) fun votes24_ =>
  some (votes24_)) else (some (votes7_))) fun y15_ =>
  lt (v8_ + 1) fun v26_ =>
  rec4_ y15_ v26_
  else (some (votes7_, v8_))) fuelN (0 : Int32) (0 : Int32)) fun y1_ =>
  some y1_.1
abbrev rm5_votesOf : Room := { frames := 2, cells := 0, slots := 0, locals := 43 }
theorem c5_votesOf {l : Launch} {kd : List KD} {w : Wp} {σ : St} {person_a : Int32} (hkd : kd = kdC) (hi : zI kd w) {r : Int32} (hf : q5_votesOf σ person_a = some r) : zM l kd w yX5_votesOf cX5_votesOf 4 (some .int) rm5_votesOf [.ref (w.2.2.1 6), .int person_a] σ (some (.int r), σ) := sorry
/-! LastLoaf$Village.wouldPass -/
theorem w_4_93 : Cond.methodLink "LastLoaf$Village" (95 : Nat) ({ cls := "LastLoaf$Village", name := "likingOf", desc := "(II)I" } : MethodName) ∈ TB := sorry
theorem cr10_95 {Θ : Tz} {cc : ByteArray} {nL kc ks : Nat} {ret : Option FieldType} {rm : Room} {Q : State → Prop} {σ : St} {pc : Nat} {lv : List (Nat × Value)} {st : List Value} (C : Zc Θ cc nL RX10 ret rm) (hkd : Θ.2.2.2.2.1 = kdC) {th : Nat} {person_a : Int32} {other_a : Int32} (hth : isV th) {r : Int32} (hx : q10_likingOf σ th person_a other_a = some r) (hrm : rm10_likingOf.frames + 1 ≤ rm.frames ∧ 8 + (3 + 11) + rm10_likingOf.locals ≤ rm.locals) (hcat : (st.map fun v => v.category).sum ≤ 8) (hk : kc ≤ rm.cells ∧ ks ≤ rm.slots) (hd : decode cc pc = .ok (.invokevirtual 95, 3)) (kk : Z Θ nL kc ks Q σ (pc + 3) lv (.int r :: st)) : Z Θ nL kc ks Q σ pc lv (.int other_a :: .int person_a :: .ref (zA Θ th) :: st) := sorry
theorem cr10_98 {Θ : Tz} {cc : ByteArray} {nL kc ks : Nat} {ret : Option FieldType} {rm : Room} {Q : State → Prop} {σ : St} {pc : Nat} {lv : List (Nat × Value)} {st : List Value} (C : Zc Θ cc nL RX10 ret rm) (hkd : Θ.2.2.2.2.1 = kdC) {set_a : Int32} {person_a : Int32} (hrm : rm11_isIn.frames + 1 ≤ rm.frames ∧ 8 + (2 + 11) + rm11_isIn.locals ≤ rm.locals) (hcat : (st.map fun v => v.category).sum ≤ 8) (hk : kc ≤ rm.cells ∧ ks ≤ rm.slots) (hd : decode cc pc = .ok (.invokestatic 98, 3)) (kk : Z Θ nL kc ks Q σ (pc + 3) lv (.int (b2i (q11_isIn set_a person_a)) :: st)) : Z Θ nL kc ks Q σ pc lv (.int person_a :: .int set_a :: st) := sorry
def q10_wouldPass (σ : St) (th : Nat) (person_a : Int32) : Option Int32 :=
  Option.bind (loop3 (fun rec4_ (best7_ : Int32) (most8_ : Int32) (p9_ : Int32) =>
  if p9_ < (σ th 8) then
  Option.bind (q10_likingOf σ th person_a p9_) fun x16_ =>
  Option.bind (ag σ (th + 1) 6 p9_) fun x18_ =>
  lt (x16_ + x18_) fun pull20_ =>
  lt (if ((¬ p9_ = person_a) ∧ (¬ (q11_isIn (σ th 10) p9_ = true))) ∧ (most8_ < pull20_) then ((p9_, pull20_)) else ((best7_, most8_))) fun y22_ =>
  lt (p9_ + 1) fun p31_ =>
  rec4_ y22_.1 y22_.2 p31_
  else (some (best7_, most8_, p9_))) fuelN (-1 : Int32) (-1 : Int32) (0 : Int32)) fun y1_ =>
  some y1_.1
abbrev rm10_wouldPass : Room := { frames := 1, cells := 0, slots := 0, locals := 22 }
theorem c10_wouldPass {l : Launch} {kd : List KD} {w : Wp} {σ : St} {th : Nat} {person_a : Int32} (hkd : kd = kdC) (hi : zI kd w) (hth : isV th) {r : Int32} (hf : q10_wouldPass σ th person_a = some r) : zM l kd w yX10_wouldPass cX10_wouldPass 6 (some .int) rm10_wouldPass [.ref (w.2.2.1 th), .int person_a] σ (some (.int r), σ) := sorry
/-! LastLoaf.person -/
theorem w_5_227 : Cond.code ({ cls := "LastLoaf", name := "needPerson", desc := "(I)V" } : MethodName) prog_1_method_73_code (2 : Nat) (Option.none : Option ClassFile.FieldType) ∈ TB := sorry
theorem w_5_224 : Cond.methodLink "LastLoaf" (151 : Nat) ({ cls := "LastLoaf", name := "needPerson", desc := "(I)V" } : MethodName) ∈ TB := sorry
theorem w_5_226 : Cond.instanceMethod ({ cls := "LastLoaf", name := "needPerson", desc := "(I)V" } : MethodName) ∈ TB := sorry
theorem ws_LastLoaf_needPerson_I_V : Cond.selects "LastLoaf" (⟨"LastLoaf", "needPerson", "(I)V"⟩ : MethodName) (⟨"LastLoaf", "needPerson", "(I)V"⟩ : MethodName) ∈ TB := sorry
theorem w_1_96 : Cond.fieldLink "LastLoaf" (154 : Nat) "LastLoaf$Village" "hunger" "[I" ∈ TB := sorry
theorem fg11_154 {Θ : Tz} {cc : ByteArray} {nL kc ks : Nat} {ret : Option FieldType} {rm : Room} {Q : State → Prop} {σ : St} {pc : Nat} {lv : List (Nat × Value)} {st : List Value} (C : Zc Θ cc nL RX11 ret rm) (hkd : Θ.2.2.2.2.1 = kdC) {th : Nat} (hth : isV th) (hd : decode cc pc = .ok (.getfield 154, 3)) (kk : Z Θ nL kc ks Q σ (pc + 3) lv (.ref (zA Θ (th + 1)) :: st)) : Z Θ nL kc ks Q σ pc lv (.ref (zA Θ th) :: st) := sorry
theorem w_1_99 : Cond.fieldLink "LastLoaf" (158 : Nat) "LastLoaf$Village" "party" "[I" ∈ TB := sorry
theorem fg11_158 {Θ : Tz} {cc : ByteArray} {nL kc ks : Nat} {ret : Option FieldType} {rm : Room} {Q : State → Prop} {σ : St} {pc : Nat} {lv : List (Nat × Value)} {st : List Value} (C : Zc Θ cc nL RX11 ret rm) (hkd : Θ.2.2.2.2.1 = kdC) {th : Nat} (hth : isV th) (hd : decode cc pc = .ok (.getfield 158, 3)) (kk : Z Θ nL kc ks Q σ (pc + 3) lv (.ref (zA Θ (th + 2)) :: st)) : Z Θ nL kc ks Q σ pc lv (.ref (zA Θ th) :: st) := sorry
theorem w_1_103 : Cond.fieldLink "LastLoaf" (161 : Nat) "LastLoaf$Village" "skin" "[I" ∈ TB := sorry
theorem fg11_161 {Θ : Tz} {cc : ByteArray} {nL kc ks : Nat} {ret : Option FieldType} {rm : Room} {Q : State → Prop} {σ : St} {pc : Nat} {lv : List (Nat × Value)} {st : List Value} (C : Zc Θ cc nL RX11 ret rm) (hkd : Θ.2.2.2.2.1 = kdC) {th : Nat} (hth : isV th) (hd : decode cc pc = .ok (.getfield 161, 3)) (kk : Z Θ nL kc ks Q σ (pc + 3) lv (.ref (zA Θ (th + 3)) :: st)) : Z Θ nL kc ks Q σ pc lv (.ref (zA Θ th) :: st) := sorry
theorem w_1_136 : Cond.fieldLink "LastLoaf" (164 : Nat) "LastLoaf$Village" "standing" "I" ∈ TB := sorry
theorem fg11_164 {Θ : Tz} {cc : ByteArray} {nL kc ks : Nat} {ret : Option FieldType} {rm : Room} {Q : State → Prop} {σ : St} {pc : Nat} {lv : List (Nat × Value)} {st : List Value} (C : Zc Θ cc nL RX11 ret rm) (hkd : Θ.2.2.2.2.1 = kdC) {th : Nat} (hth : isV th) (hd : decode cc pc = .ok (.getfield 164, 3)) (kk : Z Θ nL kc ks Q σ (pc + 3) lv (.int (σ th 9) :: st)) : Z Θ nL kc ks Q σ pc lv (.ref (zA Θ th) :: st) := sorry
theorem w_3_165 : Cond.methodLink "LastLoaf" (167 : Nat) ({ cls := "LastLoaf", name := "isIn", desc := "(II)Z" } : MethodName) ∈ TB := sorry
theorem cr11_167 {Θ : Tz} {cc : ByteArray} {nL kc ks : Nat} {ret : Option FieldType} {rm : Room} {Q : State → Prop} {σ : St} {pc : Nat} {lv : List (Nat × Value)} {st : List Value} (C : Zc Θ cc nL RX11 ret rm) (hkd : Θ.2.2.2.2.1 = kdC) {set_a : Int32} {person_a : Int32} (hrm : rm11_isIn.frames + 1 ≤ rm.frames ∧ 8 + (2 + 11) + rm11_isIn.locals ≤ rm.locals) (hcat : (st.map fun v => v.category).sum ≤ 8) (hk : kc ≤ rm.cells ∧ ks ≤ rm.slots) (hd : decode cc pc = .ok (.invokestatic 167, 3)) (kk : Z Θ nL kc ks Q σ (pc + 3) lv (.int (b2i (q11_isIn set_a person_a)) :: st)) : Z Θ nL kc ks Q σ pc lv (.int person_a :: .int set_a :: st) := sorry
theorem w_1_141 : Cond.fieldLink "LastLoaf" (171 : Nat) "LastLoaf$Village" "benched" "I" ∈ TB := sorry
theorem fg11_171 {Θ : Tz} {cc : ByteArray} {nL kc ks : Nat} {ret : Option FieldType} {rm : Room} {Q : State → Prop} {σ : St} {pc : Nat} {lv : List (Nat × Value)} {st : List Value} (C : Zc Θ cc nL RX11 ret rm) (hkd : Θ.2.2.2.2.1 = kdC) {th : Nat} (hth : isV th) (hd : decode cc pc = .ok (.getfield 171, 3)) (kk : Z Θ nL kc ks Q σ (pc + 3) lv (.int (σ th 10) :: st)) : Z Θ nL kc ks Q σ pc lv (.ref (zA Θ th) :: st) := sorry
theorem w_1_111 : Cond.fieldLink "LastLoaf" (177 : Nat) "LastLoaf$Village" "run" "[I" ∈ TB := sorry
theorem fg11_177 {Θ : Tz} {cc : ByteArray} {nL kc ks : Nat} {ret : Option FieldType} {rm : Room} {Q : State → Prop} {σ : St} {pc : Nat} {lv : List (Nat × Value)} {st : List Value} (C : Zc Θ cc nL RX11 ret rm) (hkd : Θ.2.2.2.2.1 = kdC) {th : Nat} (hth : isV th) (hd : decode cc pc = .ok (.getfield 177, 3)) (kk : Z Θ nL kc ks Q σ (pc + 3) lv (.ref (zA Θ (th + 5)) :: st)) : Z Θ nL kc ks Q σ pc lv (.ref (zA Θ th) :: st) := sorry
theorem w_6_4 : Cond.methodLink "LastLoaf" (184 : Nat) ({ cls := "LastLoaf$Poll", name := "rankAt", desc := "(II)I" } : MethodName) ∈ TB := sorry
theorem cr11_184 {Θ : Tz} {cc : ByteArray} {nL kc ks : Nat} {ret : Option FieldType} {rm : Room} {Q : State → Prop} {σ : St} {pc : Nat} {lv : List (Nat × Value)} {st : List Value} (C : Zc Θ cc nL RX11 ret rm) (hkd : Θ.2.2.2.2.1 = kdC) {voter_a : Int32} {k_a : Int32} {r : Int32} (hx : q5_rankAt σ voter_a k_a = some r) (hrm : rm5_rankAt.frames + 1 ≤ rm.frames ∧ 8 + (3 + 11) + rm5_rankAt.locals ≤ rm.locals) (hcat : (st.map fun v => v.category).sum ≤ 8) (hk : kc ≤ rm.cells ∧ ks ≤ rm.slots) (hd : decode cc pc = .ok (.invokevirtual 184, 3)) (kk : Z Θ nL kc ks Q σ (pc + 3) lv (.int r :: st)) : Z Θ nL kc ks Q σ pc lv (.int k_a :: .int voter_a :: .ref (zA Θ 6) :: st) := sorry
theorem w_3_202 : Cond.code ({ cls := "LastLoaf$Poll", name := "votesOf", desc := "(I)I" } : MethodName) prog_7_method_5_code (4 : Nat) (Option.some ClassFile.FieldType.int) ∈ TB := sorry
theorem w_6_5 : Cond.methodLink "LastLoaf" (188 : Nat) ({ cls := "LastLoaf$Poll", name := "votesOf", desc := "(I)I" } : MethodName) ∈ TB := sorry
theorem w_3_200 : Cond.instanceMethod ({ cls := "LastLoaf$Poll", name := "votesOf", desc := "(I)I" } : MethodName) ∈ TB := sorry
theorem w_3_201 : Cond.selects "LastLoaf$Poll" ({ cls := "LastLoaf$Poll", name := "votesOf", desc := "(I)I" } : MethodName) ({ cls := "LastLoaf$Poll", name := "votesOf", desc := "(I)I" } : MethodName) ∈ TB := sorry
theorem cr11_188 {Θ : Tz} {cc : ByteArray} {nL kc ks : Nat} {ret : Option FieldType} {rm : Room} {Q : State → Prop} {σ : St} {pc : Nat} {lv : List (Nat × Value)} {st : List Value} (C : Zc Θ cc nL RX11 ret rm) (hkd : Θ.2.2.2.2.1 = kdC) {person_a : Int32} {r : Int32} (hx : q5_votesOf σ person_a = some r) (hrm : rm5_votesOf.frames + 1 ≤ rm.frames ∧ 8 + (4 + 11) + rm5_votesOf.locals ≤ rm.locals) (hcat : (st.map fun v => v.category).sum ≤ 8) (hk : kc ≤ rm.cells ∧ ks ≤ rm.slots) (hd : decode cc pc = .ok (.invokevirtual 188, 3)) (kk : Z Θ nL kc ks Q σ (pc + 3) lv (.int r :: st)) : Z Θ nL kc ks Q σ pc lv (.int person_a :: .ref (zA Θ 6) :: st) := sorry
theorem w_3_193 : Cond.code ({ cls := "LastLoaf$Poll", name := "pointsOf", desc := "(I)I" } : MethodName) prog_7_method_6_code (4 : Nat) (Option.some ClassFile.FieldType.int) ∈ TB := sorry
theorem w_6_6 : Cond.methodLink "LastLoaf" (192 : Nat) ({ cls := "LastLoaf$Poll", name := "pointsOf", desc := "(I)I" } : MethodName) ∈ TB := sorry
theorem w_3_191 : Cond.instanceMethod ({ cls := "LastLoaf$Poll", name := "pointsOf", desc := "(I)I" } : MethodName) ∈ TB := sorry
theorem w_3_192 : Cond.selects "LastLoaf$Poll" ({ cls := "LastLoaf$Poll", name := "pointsOf", desc := "(I)I" } : MethodName) ({ cls := "LastLoaf$Poll", name := "pointsOf", desc := "(I)I" } : MethodName) ∈ TB := sorry
theorem cr11_192 {Θ : Tz} {cc : ByteArray} {nL kc ks : Nat} {ret : Option FieldType} {rm : Room} {Q : State → Prop} {σ : St} {pc : Nat} {lv : List (Nat × Value)} {st : List Value} (C : Zc Θ cc nL RX11 ret rm) (hkd : Θ.2.2.2.2.1 = kdC) {person_a : Int32} {r : Int32} (hx : q5_pointsOf σ person_a = some r) (hrm : rm5_pointsOf.frames + 1 ≤ rm.frames ∧ 8 + (4 + 11) + rm5_pointsOf.locals ≤ rm.locals) (hcat : (st.map fun v => v.category).sum ≤ 8) (hk : kc ≤ rm.cells ∧ ks ≤ rm.slots) (hd : decode cc pc = .ok (.invokevirtual 192, 3)) (kk : Z Θ nL kc ks Q σ (pc + 3) lv (.int r :: st)) : Z Θ nL kc ks Q σ pc lv (.int person_a :: .ref (zA Θ 6) :: st) := sorry
theorem w_3_76 : Cond.code ({ cls := "LastLoaf$Poll", name := "duelsOf", desc := "(I)I" } : MethodName) prog_7_method_8_code (4 : Nat) (Option.some ClassFile.FieldType.int) ∈ TB := sorry
theorem w_6_7 : Cond.methodLink "LastLoaf" (195 : Nat) ({ cls := "LastLoaf$Poll", name := "duelsOf", desc := "(I)I" } : MethodName) ∈ TB := sorry
theorem w_3_74 : Cond.instanceMethod ({ cls := "LastLoaf$Poll", name := "duelsOf", desc := "(I)I" } : MethodName) ∈ TB := sorry
theorem w_3_75 : Cond.selects "LastLoaf$Poll" ({ cls := "LastLoaf$Poll", name := "duelsOf", desc := "(I)I" } : MethodName) ({ cls := "LastLoaf$Poll", name := "duelsOf", desc := "(I)I" } : MethodName) ∈ TB := sorry
theorem cr11_195 {Θ : Tz} {cc : ByteArray} {nL kc ks : Nat} {ret : Option FieldType} {rm : Room} {Q : State → Prop} {σ : St} {pc : Nat} {lv : List (Nat × Value)} {st : List Value} (C : Zc Θ cc nL RX11 ret rm) (hkd : Θ.2.2.2.2.1 = kdC) {person_a : Int32} {r : Int32} (hx : q5_duelsOf σ person_a = some r) (hrm : rm5_duelsOf.frames + 1 ≤ rm.frames ∧ 8 + (4 + 11) + rm5_duelsOf.locals ≤ rm.locals) (hcat : (st.map fun v => v.category).sum ≤ 8) (hk : kc ≤ rm.cells ∧ ks ≤ rm.slots) (hd : decode cc pc = .ok (.invokevirtual 195, 3)) (kk : Z Θ nL kc ks Q σ (pc + 3) lv (.int r :: st)) : Z Θ nL kc ks Q σ pc lv (.int person_a :: .ref (zA Θ 6) :: st) := sorry
theorem w_6_11 : Cond.code ({ cls := "LastLoaf", name := "needed", desc := "(I)I" } : MethodName) prog_1_method_80_code (3 : Nat) (Option.some ClassFile.FieldType.int) ∈ TB := sorry
theorem w_6_8 : Cond.methodLink "LastLoaf" (198 : Nat) ({ cls := "LastLoaf", name := "needed", desc := "(I)I" } : MethodName) ∈ TB := sorry
theorem w_6_10 : Cond.instanceMethod ({ cls := "LastLoaf", name := "needed", desc := "(I)I" } : MethodName) ∈ TB := sorry
theorem ws_LastLoaf_needed_I_I : Cond.selects "LastLoaf" (⟨"LastLoaf", "needed", "(I)I"⟩ : MethodName) (⟨"LastLoaf", "needed", "(I)I"⟩ : MethodName) ∈ TB := sorry
theorem cr11_198 {Θ : Tz} {cc : ByteArray} {nL kc ks : Nat} {ret : Option FieldType} {rm : Room} {Q : State → Prop} {σ : St} {pc : Nat} {lv : List (Nat × Value)} {st : List Value} (C : Zc Θ cc nL RX11 ret rm) (hkd : Θ.2.2.2.2.1 = kdC) {person_a : Int32} {r : Int32 × St} (hx : q11_needed σ person_a = some r) (hrm : rm11_needed.frames + 1 ≤ rm.frames ∧ 8 + (3 + 11) + rm11_needed.locals ≤ rm.locals) (hcat : (st.map fun v => v.category).sum ≤ 8) (hk : kc ≤ rm.cells ∧ ks ≤ rm.slots) (hd : decode cc pc = .ok (.invokevirtual 198, 3)) (kk : Z Θ nL kc ks Q r.2 (pc + 3) lv (.int r.1 :: st)) : Z Θ nL kc ks Q σ pc lv (.int person_a :: .ref (zA Θ 0) :: st) := sorry
theorem w_6_23 : Cond.code ({ cls := "LastLoaf", name := "shareOf", desc := "(I)I" } : MethodName) prog_1_method_81_code (3 : Nat) (Option.some ClassFile.FieldType.int) ∈ TB := sorry
theorem w_6_20 : Cond.methodLink "LastLoaf" (201 : Nat) ({ cls := "LastLoaf", name := "shareOf", desc := "(I)I" } : MethodName) ∈ TB := sorry
theorem w_6_22 : Cond.instanceMethod ({ cls := "LastLoaf", name := "shareOf", desc := "(I)I" } : MethodName) ∈ TB := sorry
theorem ws_LastLoaf_shareOf_I_I : Cond.selects "LastLoaf" (⟨"LastLoaf", "shareOf", "(I)I"⟩ : MethodName) (⟨"LastLoaf", "shareOf", "(I)I"⟩ : MethodName) ∈ TB := sorry
theorem cr11_201 {Θ : Tz} {cc : ByteArray} {nL kc ks : Nat} {ret : Option FieldType} {rm : Room} {Q : State → Prop} {σ : St} {pc : Nat} {lv : List (Nat × Value)} {st : List Value} (C : Zc Θ cc nL RX11 ret rm) (hkd : Θ.2.2.2.2.1 = kdC) {person_a : Int32} {r : Int32} (hx : q11_shareOf σ person_a = some r) (hrm : rm11_shareOf.frames + 1 ≤ rm.frames ∧ 8 + (3 + 11) + rm11_shareOf.locals ≤ rm.locals) (hcat : (st.map fun v => v.category).sum ≤ 8) (hk : kc ≤ rm.cells ∧ ks ≤ rm.slots) (hd : decode cc pc = .ok (.invokevirtual 201, 3)) (kk : Z Θ nL kc ks Q σ (pc + 3) lv (.int r :: st)) : Z Θ nL kc ks Q σ pc lv (.int person_a :: .ref (zA Θ 0) :: st) := sorry
theorem w_6_27 : Cond.code ({ cls := "LastLoaf$Village", name := "wouldPass", desc := "(I)I" } : MethodName) prog_12_method_14_code (6 : Nat) (Option.some ClassFile.FieldType.int) ∈ TB := sorry
theorem w_6_24 : Cond.methodLink "LastLoaf" (204 : Nat) ({ cls := "LastLoaf$Village", name := "wouldPass", desc := "(I)I" } : MethodName) ∈ TB := sorry
theorem w_6_25 : Cond.instanceMethod ({ cls := "LastLoaf$Village", name := "wouldPass", desc := "(I)I" } : MethodName) ∈ TB := sorry
theorem w_6_26 : Cond.selects "LastLoaf$Village" ({ cls := "LastLoaf$Village", name := "wouldPass", desc := "(I)I" } : MethodName) ({ cls := "LastLoaf$Village", name := "wouldPass", desc := "(I)I" } : MethodName) ∈ TB := sorry
theorem cr11_204 {Θ : Tz} {cc : ByteArray} {nL kc ks : Nat} {ret : Option FieldType} {rm : Room} {Q : State → Prop} {σ : St} {pc : Nat} {lv : List (Nat × Value)} {st : List Value} (C : Zc Θ cc nL RX11 ret rm) (hkd : Θ.2.2.2.2.1 = kdC) {th : Nat} {person_a : Int32} (hth : isV th) {r : Int32} (hx : q10_wouldPass σ th person_a = some r) (hrm : rm10_wouldPass.frames + 1 ≤ rm.frames ∧ 8 + (6 + 11) + rm10_wouldPass.locals ≤ rm.locals) (hcat : (st.map fun v => v.category).sum ≤ 8) (hk : kc ≤ rm.cells ∧ ks ≤ rm.slots) (hd : decode cc pc = .ok (.invokevirtual 204, 3)) (kk : Z Θ nL kc ks Q σ (pc + 3) lv (.int r :: st)) : Z Θ nL kc ks Q σ pc lv (.int person_a :: .ref (zA Θ th) :: st) := sorry
theorem th11_4_211g : ∀ w ∈ (nsAt RX11 211 (exn 4) "java/lang/RuntimeException" ["java/lang/Exception"]).filter goodWord, w ∈ TB := sorry
theorem th11_4_211n : ∀ w ∈ (nsAt RX11 211 (exn 4) "java/lang/RuntimeException" ["java/lang/Exception"]).filter (fun w => !goodWord w), w ∈ nestW := sorry
theorem th11_4_211o : ∀ w ∈ Cond.classLink RX11 207 (exn 4) :: Cond.initialized (exn 4) :: nsAt RX11 211 (exn 4) "java/lang/RuntimeException" ["java/lang/Exception"], vx_ot w = true := sorry
theorem w_6_29 : Cond.classLink "LastLoaf" (207 : Nat) "java/util/NoSuchElementException" ∈ TB := sorry
theorem w_1_27 : Cond.initialized "java/util/NoSuchElementException" ∈ TB := sorry
def q11_person (σ : St) (person_a : Int32) (what_a : Int32) : Option (Sum Nat Int32 × St) :=
  thn (q11_needPerson σ person_a) σ
  (if what_a = 0 then (Option.bind (ag σ (44 + 1) 6 person_a) fun x6_ =>
  some (.inr x6_, σ)) else
  if what_a = 1 then (Option.bind (ag σ (44 + 2) 6 person_a) fun x8_ =>
  some (.inr x8_, σ)) else
  if what_a = 2 then (Option.bind (ag σ (44 + 3) 6 person_a) fun x10_ =>
  some (.inr x10_, σ)) else
  if what_a = 3 then (some (.inr (if q11_isIn (σ 44 9) person_a = true then 1 else 0), σ)) else
  if what_a = 4 then (some (.inr (if q11_isIn (σ 44 10) person_a = true then 1 else 0), σ)) else
  if what_a = 5 then (Option.bind (ag σ (44 + 4) 6 person_a) fun x22_ =>
  some (.inr x22_, σ)) else
  if what_a = 6 then (Option.bind (ag σ (44 + 5) 6 person_a) fun x24_ =>
  some (.inr x24_, σ)) else
  if what_a = 7 then (Option.bind (q11_pollNow σ) fun x26_ =>
  Option.bind (q5_rankAt x26_.2 person_a 0) fun x28_ =>
  some (.inr x28_, x26_.2)) else
  if what_a = 8 then (Option.bind (q11_pollNow σ) fun x30_ =>
  Option.bind (q5_votesOf x30_.2 person_a) fun x32_ =>
  some (.inr x32_, x30_.2)) else
  if what_a = 9 then (Option.bind (q11_pollNow σ) fun x34_ =>
  Option.bind (q5_pointsOf x34_.2 person_a) fun x36_ =>
  some (.inr x36_, x34_.2)) else
  if what_a = 10 then (Option.bind (q11_pollNow σ) fun x38_ =>
  Option.bind (q5_duelsOf x38_.2 person_a) fun x40_ =>
  some (.inr x40_, x38_.2)) else
  if what_a = 11 then (Option.bind (q11_needed σ person_a) fun x42_ =>
  some (.inr x42_.1, x42_.2)) else
  if what_a = 12 then (Option.bind (q11_shareOf σ person_a) fun x44_ =>
  some (.inr x44_, σ)) else
  if what_a = 13 then (Option.bind (q10_wouldPass σ 44 person_a) fun x46_ =>
  some (.inr x46_, σ)) else
  some (.inl 4, σ))
abbrev rm11_person : Room := { frames := 7, cells := 2, slots := 12, locals := 138 }
theorem c11_person {l : Launch} {kd : List KD} {w : Wp} {σ : St} {person_a : Int32} {what_a : Int32} (hkd : kd = kdC) (hi : zI kd w) (hlt : l.stackTraces = false) {r : (Sum Nat Int32 × St)} (hf : q11_person σ person_a what_a = some r) : zX l kd w yX11_person cX11_person 3 (some .int) rm11_person [.ref (w.2.2.1 0), .int person_a, .int what_a] σ (om (fun v => some (.int v)) r) 2 12 := sorry
/-! LastLoaf.needTwo -/
def q11_needTwo (σ : St) (person_a : Int32) (other_a : Int32) : Option Nat :=
  thN (q11_needPerson σ person_a)
  (thN (q11_needPerson σ other_a)
  (if person_a = other_a then (some 0) else
  none))
abbrev rm11_needTwo : Room := { frames := 7, cells := 3, slots := 18, locals := 111 }
theorem c11_needTwo {l : Launch} {kd : List KD} {w : Wp} {σ : St} {person_a : Int32} {other_a : Int32} (hkd : kd = kdC) (hi : zI kd w) (hlt : l.stackTraces = false) : zX l kd w yX11_needTwo cX11_needTwo 3 none rm11_needTwo [.ref (w.2.2.1 0), .int person_a, .int other_a] σ (omN (q11_needTwo σ person_a other_a) σ) 3 18 := sorry
/-! LastLoaf.likes -/
theorem w_6_55 : Cond.code ({ cls := "LastLoaf", name := "needTwo", desc := "(II)V" } : MethodName) prog_1_method_74_code (3 : Nat) (Option.none : Option ClassFile.FieldType) ∈ TB := sorry
theorem w_6_52 : Cond.methodLink "LastLoaf" (212 : Nat) ({ cls := "LastLoaf", name := "needTwo", desc := "(II)V" } : MethodName) ∈ TB := sorry
theorem w_6_54 : Cond.instanceMethod ({ cls := "LastLoaf", name := "needTwo", desc := "(II)V" } : MethodName) ∈ TB := sorry
theorem ws_LastLoaf_needTwo_II_V : Cond.selects "LastLoaf" (⟨"LastLoaf", "needTwo", "(II)V"⟩ : MethodName) (⟨"LastLoaf", "needTwo", "(II)V"⟩ : MethodName) ∈ TB := sorry
theorem w_6_57 : Cond.methodLink "LastLoaf" (216 : Nat) ({ cls := "LastLoaf$Village", name := "likingOf", desc := "(II)I" } : MethodName) ∈ TB := sorry
theorem cr11_216 {Θ : Tz} {cc : ByteArray} {nL kc ks : Nat} {ret : Option FieldType} {rm : Room} {Q : State → Prop} {σ : St} {pc : Nat} {lv : List (Nat × Value)} {st : List Value} (C : Zc Θ cc nL RX11 ret rm) (hkd : Θ.2.2.2.2.1 = kdC) {th : Nat} {person_a : Int32} {other_a : Int32} (hth : isV th) {r : Int32} (hx : q10_likingOf σ th person_a other_a = some r) (hrm : rm10_likingOf.frames + 1 ≤ rm.frames ∧ 8 + (3 + 11) + rm10_likingOf.locals ≤ rm.locals) (hcat : (st.map fun v => v.category).sum ≤ 8) (hk : kc ≤ rm.cells ∧ ks ≤ rm.slots) (hd : decode cc pc = .ok (.invokevirtual 216, 3)) (kk : Z Θ nL kc ks Q σ (pc + 3) lv (.int r :: st)) : Z Θ nL kc ks Q σ pc lv (.int other_a :: .int person_a :: .ref (zA Θ th) :: st) := sorry
def q11_likes (σ : St) (person_a : Int32) (other_a : Int32) : Option (Sum Nat Int32 × St) :=
  thn (q11_needTwo σ person_a other_a) σ
  (Option.bind (q10_likingOf σ 44 person_a other_a) fun x3_ =>
  some (.inr x3_, σ))
abbrev rm11_likes : Room := { frames := 8, cells := 3, slots := 18, locals := 133 }
theorem c11_likes {l : Launch} {kd : List KD} {w : Wp} {σ : St} {person_a : Int32} {other_a : Int32} (hkd : kd = kdC) (hi : zI kd w) (hlt : l.stackTraces = false) {r : (Sum Nat Int32 × St)} (hf : q11_likes σ person_a other_a = some r) : zX l kd w yX11_likes cX11_likes 3 (some .int) rm11_likes [.ref (w.2.2.1 0), .int person_a, .int other_a] σ (om (fun v => some (.int v)) r) 3 18 := sorry
/-! LastLoaf.favour -/
theorem w_6_65 : Cond.methodLink "LastLoaf" (219 : Nat) ({ cls := "LastLoaf$Law", name := "favourOf", desc := "(LLastLoaf$Village;II)I" } : MethodName) ∈ TB := sorry
theorem cr11_219 {Θ : Tz} {cc : ByteArray} {nL kc ks : Nat} {ret : Option FieldType} {rm : Room} {Q : State → Prop} {σ : St} {pc : Nat} {lv : List (Nat × Value)} {st : List Value} (C : Zc Θ cc nL RX11 ret rm) (hkd : Θ.2.2.2.2.1 = kdC) {th : Nat} {village_a : Nat} {voter_a : Int32} {other_a : Int32} (hth : isLaw th) (h_village : isV village_a) {r : Int32 × St} (hx : q2_favourOf σ th village_a voter_a other_a = some r) (hrm : rm2_favourOf.frames + 1 ≤ rm.frames ∧ 8 + (5 + 11) + rm2_favourOf.locals ≤ rm.locals) (hcat : (st.map fun v => v.category).sum ≤ 8) (hk : kc ≤ rm.cells ∧ ks ≤ rm.slots) (hd : decode cc pc = .ok (.invokevirtual 219, 3)) (kk : Z Θ nL kc ks Q r.2 (pc + 3) lv (.int r.1 :: st)) : Z Θ nL kc ks Q σ pc lv (.int other_a :: .int voter_a :: .ref (zA Θ village_a) :: .ref (zA Θ th) :: st) := sorry
def q11_favour (σ : St) (person_a : Int32) (other_a : Int32) : Option (Sum Nat Int32 × St) :=
  thn (q11_needPerson σ person_a) σ
  (thn (q11_needPerson σ other_a) σ
  (Option.bind (q2_favourOf σ 32 44 person_a other_a) fun x5_ =>
  some (.inr x5_.1, x5_.2)))
abbrev rm11_favour : Room := { frames := 7, cells := 2, slots := 12, locals := 111 }
theorem c11_favour {l : Launch} {kd : List KD} {w : Wp} {σ : St} {person_a : Int32} {other_a : Int32} (hkd : kd = kdC) (hi : zI kd w) (hlt : l.stackTraces = false) {r : (Sum Nat Int32 × St)} (hf : q11_favour σ person_a other_a = some r) : zX l kd w yX11_favour cX11_favour 3 (some .int) rm11_favour [.ref (w.2.2.1 0), .int person_a, .int other_a] σ (om (fun v => some (.int v)) r) 2 12 := sorry
/-! LastLoaf.grist -/
theorem w_1_119 : Cond.fieldLink "LastLoaf" (228 : Nat) "LastLoaf$Village" "grist" "[I" ∈ TB := sorry
theorem fg11_228 {Θ : Tz} {cc : ByteArray} {nL kc ks : Nat} {ret : Option FieldType} {rm : Room} {Q : State → Prop} {σ : St} {pc : Nat} {lv : List (Nat × Value)} {st : List Value} (C : Zc Θ cc nL RX11 ret rm) (hkd : Θ.2.2.2.2.1 = kdC) {th : Nat} (hth : isV th) (hd : decode cc pc = .ok (.getfield 228, 3)) (kk : Z Θ nL kc ks Q σ (pc + 3) lv (.ref (zA Θ (th + 7)) :: st)) : Z Θ nL kc ks Q σ pc lv (.ref (zA Θ th) :: st) := sorry
def q11_grist (σ : St) (season_a : Int32) : Option (Sum Nat Int32 × St) :=
  if (season_a < 0) ∨ (4 ≤ season_a) then (some (.inl 2, σ)) else
  Option.bind (ag σ (44 + 7) 4 season_a) fun x6_ =>
  some (.inr x6_, σ)
abbrev rm11_grist : Room := { frames := 6, cells := 1, slots := 6, locals := 90 }
theorem c11_grist {l : Launch} {kd : List KD} {w : Wp} {σ : St} {season_a : Int32} (hkd : kd = kdC) (hi : zI kd w) (hlt : l.stackTraces = false) {r : (Sum Nat Int32 × St)} (hf : q11_grist σ season_a = some r) : zX l kd w yX11_grist cX11_grist 2 (some .int) rm11_grist [.ref (w.2.2.1 0), .int season_a] σ (om (fun v => some (.int v)) r) 1 6 := sorry
/-! LastLoaf.needNumber -/
def q11_needNumber (n_a : Int32) (least_a : Int32) (most_a : Int32) : Option Nat :=
  if (n_a < least_a) ∨ (most_a < n_a) then (some 0) else
  none
abbrev rm11_needNumber : Room := { frames := 6, cells := 1, slots := 6, locals := 90 }
theorem c11_needNumber {l : Launch} {kd : List KD} {w : Wp} {σ : St} {n_a : Int32} {least_a : Int32} {most_a : Int32} (hkd : kd = kdC) (hi : zI kd w) (hlt : l.stackTraces = false) : zX l kd w yX11_needNumber cX11_needNumber 3 none rm11_needNumber [.int n_a, .int least_a, .int most_a] σ (omN (q11_needNumber n_a least_a most_a) σ) 1 6 := sorry
/-! LastLoaf$Village.hungerMore -/
theorem w_3_140 : Cond.methodLink "LastLoaf$Village" (88 : Nat) ({ cls := "java/lang/Math", name := "min", desc := "(II)I" } : MethodName) ∈ TB := sorry
theorem w_3_129 : Cond.static ({ cls := "java/lang/Math", name := "min", desc := "(II)I" } : MethodName) ∈ TB := sorry
theorem w_1_28 : Cond.initialized "java/lang/Math" ∈ TB := sorry
theorem w_3_130 : Cond.code ({ cls := "java/lang/Math", name := "min", desc := "(II)I" } : MethodName) prog_23_method_69_code (2 : Nat) (Option.some ClassFile.FieldType.int) ∈ TB := sorry
def q10_hungerMore (σ : St) (th : Nat) (person_a : Int32) : Option St :=
  Option.bind (ag σ (th + 1) 6 person_a) fun x1_ =>
  Option.bind (sa σ (th + 1) 6 person_a (imin 9 (x1_ + 1))) fun σ3_ =>
  some σ3_
abbrev rm10_hungerMore : Room := { frames := 1, cells := 0, slots := 0, locals := 21 }
theorem c10_hungerMore {l : Launch} {kd : List KD} {w : Wp} {σ : St} {th : Nat} {person_a : Int32} (hkd : kd = kdC) (hi : zI kd w) (hth : isV th) {r : St} (hf : q10_hungerMore σ th person_a = some r) : zM l kd w yX10_hungerMore cX10_hungerMore 2 none rm10_hungerMore [.ref (w.2.2.1 th), .int person_a] σ (none, r) := sorry
/-! LastLoaf$Baker.feedOthers -/
theorem w_1_128 : Cond.fieldLink "LastLoaf$Baker" (54 : Nat) "LastLoaf$Village" "people" "I" ∈ TB := sorry
theorem fg0_54 {Θ : Tz} {cc : ByteArray} {nL kc ks : Nat} {ret : Option FieldType} {rm : Room} {Q : State → Prop} {σ : St} {pc : Nat} {lv : List (Nat × Value)} {st : List Value} (C : Zc Θ cc nL RX0 ret rm) (hkd : Θ.2.2.2.2.1 = kdC) {th : Nat} (hth : isV th) (hd : decode cc pc = .ok (.getfield 54, 3)) (kk : Z Θ nL kc ks Q σ (pc + 3) lv (.int (σ th 8) :: st)) : Z Θ nL kc ks Q σ pc lv (.ref (zA Θ th) :: st) := sorry
theorem w_1_133 : Cond.fieldLink "LastLoaf$Baker" (57 : Nat) "LastLoaf$Village" "standing" "I" ∈ TB := sorry
theorem fg0_57 {Θ : Tz} {cc : ByteArray} {nL kc ks : Nat} {ret : Option FieldType} {rm : Room} {Q : State → Prop} {σ : St} {pc : Nat} {lv : List (Nat × Value)} {st : List Value} (C : Zc Θ cc nL RX0 ret rm) (hkd : Θ.2.2.2.2.1 = kdC) {th : Nat} (hth : isV th) (hd : decode cc pc = .ok (.getfield 57, 3)) (kk : Z Θ nL kc ks Q σ (pc + 3) lv (.int (σ th 9) :: st)) : Z Θ nL kc ks Q σ pc lv (.ref (zA Θ th) :: st) := sorry
theorem w_1_140 : Cond.fieldLink "LastLoaf$Baker" (60 : Nat) "LastLoaf$Village" "benched" "I" ∈ TB := sorry
theorem fg0_60 {Θ : Tz} {cc : ByteArray} {nL kc ks : Nat} {ret : Option FieldType} {rm : Room} {Q : State → Prop} {σ : St} {pc : Nat} {lv : List (Nat × Value)} {st : List Value} (C : Zc Θ cc nL RX0 ret rm) (hkd : Θ.2.2.2.2.1 = kdC) {th : Nat} (hth : isV th) (hd : decode cc pc = .ok (.getfield 60, 3)) (kk : Z Θ nL kc ks Q σ (pc + 3) lv (.int (σ th 10) :: st)) : Z Θ nL kc ks Q σ pc lv (.ref (zA Θ th) :: st) := sorry
theorem cr0_63 {Θ : Tz} {cc : ByteArray} {nL kc ks : Nat} {ret : Option FieldType} {rm : Room} {Q : State → Prop} {σ : St} {pc : Nat} {lv : List (Nat × Value)} {st : List Value} (C : Zc Θ cc nL RX0 ret rm) (hkd : Θ.2.2.2.2.1 = kdC) {set_a : Int32} {person_a : Int32} (hrm : rm11_isIn.frames + 1 ≤ rm.frames ∧ 8 + (2 + 11) + rm11_isIn.locals ≤ rm.locals) (hcat : (st.map fun v => v.category).sum ≤ 8) (hk : kc ≤ rm.cells ∧ ks ≤ rm.slots) (hd : decode cc pc = .ok (.invokestatic 63, 3)) (kk : Z Θ nL kc ks Q σ (pc + 3) lv (.int (b2i (q11_isIn set_a person_a)) :: st)) : Z Θ nL kc ks Q σ pc lv (.int person_a :: .int set_a :: st) := sorry
theorem w_1_143 : Cond.fieldLink "LastLoaf$Baker" (31 : Nat) "LastLoaf$Village" "flour" "I" ∈ TB := sorry
theorem fg0_31 {Θ : Tz} {cc : ByteArray} {nL kc ks : Nat} {ret : Option FieldType} {rm : Room} {Q : State → Prop} {σ : St} {pc : Nat} {lv : List (Nat × Value)} {st : List Value} (C : Zc Θ cc nL RX0 ret rm) (hkd : Θ.2.2.2.2.1 = kdC) {th : Nat} (hth : isV th) (hd : decode cc pc = .ok (.getfield 31, 3)) (kk : Z Θ nL kc ks Q σ (pc + 3) lv (.int (σ th 11) :: st)) : Z Θ nL kc ks Q σ pc lv (.ref (zA Θ th) :: st) := sorry
theorem fp0_31 {Θ : Tz} {cc : ByteArray} {nL kc ks : Nat} {ret : Option FieldType} {rm : Room} {Q : State → Prop} {σ : St} {pc : Nat} {lv : List (Nat × Value)} {st : List Value} (C : Zc Θ cc nL RX0 ret rm) (hkd : Θ.2.2.2.2.1 = kdC) {th : Nat} (hth : isV th) {x : Int32} {σ1 : St} (he : σ1 = up σ th 11 x) (hd : decode cc pc = .ok (.putfield 31, 3)) (kk : Z Θ nL kc ks Q σ1 (pc + 3) lv st) : Z Θ nL kc ks Q σ pc lv (.int x :: .ref (zA Θ th) :: st) := sorry
theorem w_1_93 : Cond.fieldLink "LastLoaf$Baker" (67 : Nat) "LastLoaf$Village" "hunger" "[I" ∈ TB := sorry
theorem fg0_67 {Θ : Tz} {cc : ByteArray} {nL kc ks : Nat} {ret : Option FieldType} {rm : Room} {Q : State → Prop} {σ : St} {pc : Nat} {lv : List (Nat × Value)} {st : List Value} (C : Zc Θ cc nL RX0 ret rm) (hkd : Θ.2.2.2.2.1 = kdC) {th : Nat} (hth : isV th) (hd : decode cc pc = .ok (.getfield 67, 3)) (kk : Z Θ nL kc ks Q σ (pc + 3) lv (.ref (zA Θ (th + 1)) :: st)) : Z Θ nL kc ks Q σ pc lv (.ref (zA Θ th) :: st) := sorry
theorem w_3_139 : Cond.code ({ cls := "LastLoaf$Village", name := "hungerMore", desc := "(I)V" } : MethodName) prog_12_method_9_code (2 : Nat) (Option.none : Option ClassFile.FieldType) ∈ TB := sorry
theorem w_3_136 : Cond.methodLink "LastLoaf$Baker" (70 : Nat) ({ cls := "LastLoaf$Village", name := "hungerMore", desc := "(I)V" } : MethodName) ∈ TB := sorry
theorem w_3_137 : Cond.instanceMethod ({ cls := "LastLoaf$Village", name := "hungerMore", desc := "(I)V" } : MethodName) ∈ TB := sorry
theorem w_3_138 : Cond.selects "LastLoaf$Village" ({ cls := "LastLoaf$Village", name := "hungerMore", desc := "(I)V" } : MethodName) ({ cls := "LastLoaf$Village", name := "hungerMore", desc := "(I)V" } : MethodName) ∈ TB := sorry
theorem cr0_70 {Θ : Tz} {cc : ByteArray} {nL kc ks : Nat} {ret : Option FieldType} {rm : Room} {Q : State → Prop} {σ : St} {pc : Nat} {lv : List (Nat × Value)} {st : List Value} (C : Zc Θ cc nL RX0 ret rm) (hkd : Θ.2.2.2.2.1 = kdC) {th : Nat} {person_a : Int32} (hth : isV th) {r : St} (hx : q10_hungerMore σ th person_a = some r) (hrm : rm10_hungerMore.frames + 1 ≤ rm.frames ∧ 8 + (2 + 11) + rm10_hungerMore.locals ≤ rm.locals) (hcat : (st.map fun v => v.category).sum ≤ 8) (hk : kc ≤ rm.cells ∧ ks ≤ rm.slots) (hd : decode cc pc = .ok (.invokevirtual 70, 3)) (kk : Z Θ nL kc ks Q r (pc + 3) lv st) : Z Θ nL kc ks Q σ pc lv (.int person_a :: .ref (zA Θ th) :: st) := sorry
def q0_feedOthers (σ : St) (village_a : Nat) : Option St :=
  Option.bind (loop2 (fun rec4_ (p7_ : Int32) (σ8_ : St) =>
  if p7_ < (σ8_ village_a 8) then
  lt (fun (p32_ : Int32) (σ33_ : St) =>
  lt (p32_ + 1) fun p35_ =>
  rec4_ p35_ σ33_) fun k10_ =>
  if q11_isIn ((σ8_ village_a 9) ||| (σ8_ village_a 10)) p7_ = true then (k10_ p7_ σ8_) else
  Option.bind (if 0 < (σ8_ village_a 11) then (lt (up σ8_ village_a 11 ((σ8_ village_a 11) - 1)) fun σ26_ =>
  Option.bind (sa σ26_ (village_a + 1) 6 p7_ 0) fun σ28_ =>
  some (σ28_)) else (Option.bind (q10_hungerMore σ8_ village_a p7_) fun x30_ =>
  some (x30_))) fun y19_ =>
  k10_ p7_ y19_
  else (some (p7_, σ8_))) fuelN (0 : Int32) σ) fun y1_ =>
  some y1_.2
abbrev rm0_feedOthers : Room := { frames := 2, cells := 0, slots := 0, locals := 42 }
theorem c0_feedOthers {l : Launch} {kd : List KD} {w : Wp} {σ : St} {village_a : Nat} (hkd : kd = kdC) (hi : zI kd w) (h_village : isV village_a) {r : St} (hf : q0_feedOthers σ village_a = some r) : zM l kd w yX0_feedOthers cX0_feedOthers 3 none rm0_feedOthers [.ref (w.2.2.1 13), .ref (w.2.2.1 village_a)] σ (none, r) := sorry
/-! LastLoaf$Log.write -/
theorem w_3_207 : Cond.methodLink "LastLoaf$Log" (28 : Nat) ({ cls := "java/lang/Math", name := "min", desc := "(II)I" } : MethodName) ∈ TB := sorry
def q3_write (σ : St) (th : Nat) (week_a : Int32) (kind_a : Int32) (person_a : Int32) (votes_a : Int32) : Option St :=
  lt ((σ th 2) * 4) fun cell1_ =>
  Option.bind (sa σ (th + 1) 240 cell1_ week_a) fun σ3_ =>
  Option.bind (sa σ3_ (th + 1) 240 (cell1_ + 1) kind_a) fun σ5_ =>
  Option.bind (sa σ5_ (th + 1) 240 (cell1_ + 2) person_a) fun σ7_ =>
  Option.bind (sa σ7_ (th + 1) 240 (cell1_ + 3) votes_a) fun σ9_ =>
  lt (up σ9_ th 2 (irm ((σ9_ th 2) + 1) 60)) fun σ11_ =>
  lt (up σ11_ th 1 (imin 60 ((σ11_ th 1) + 1))) fun σ13_ =>
  some σ13_
abbrev rm3_write : Room := { frames := 1, cells := 0, slots := 0, locals := 21 }
theorem c3_write {l : Launch} {kd : List KD} {w : Wp} {σ : St} {th : Nat} {week_a : Int32} {kind_a : Int32} {person_a : Int32} {votes_a : Int32} (hkd : kd = kdC) (hi : zI kd w) (hth : isLog th) {r : St} (hf : q3_write σ th week_a kind_a person_a votes_a = some r) : zM l kd w yX3_write cX3_write 6 none rm3_write [.ref (w.2.2.1 th), .int week_a, .int kind_a, .int person_a, .int votes_a] σ (none, r) := sorry
/-! LastLoaf.leastOf -/
def q11_leastOf (set_a : Int32) : Option Int32 :=
  Option.bind (loop1 (fun rec4_ (p7_ : Int32) =>
  if p7_ < 6 then
  if q11_isIn set_a p7_ = true then (some (.inl p7_)) else
  lt (p7_ + 1) fun p18_ =>
  rec4_ p18_
  else (some (.inr p7_))) fuelN (0 : Int32)) fun y1_ =>
  Sum.elim (fun x9 => some x9) (fun y1_r =>
  some (-1)) y1_
abbrev rm11_leastOf : Room := { frames := 1, cells := 0, slots := 0, locals := 21 }
theorem c11_leastOf {l : Launch} {kd : List KD} {w : Wp} {σ : St} {set_a : Int32} (hkd : kd = kdC) (hi : zI kd w) {r : Int32} (hf : q11_leastOf set_a = some r) : zM l kd w yX11_leastOf cX11_leastOf 2 (some .int) rm11_leastOf [.int set_a] σ (some (.int r), σ) := sorry
/-! LastLoaf.without -/
def q11_without (set_a : Int32) (person_a : Int32) : Int32 :=
  set_a &&& ((shl 1 person_a) ^^^ (-1))
abbrev rm11_without : Room := { frames := 0, cells := 0, slots := 0, locals := 0 }
theorem c11_without {l : Launch} {kd : List KD} {w : Wp} {σ : St} {set_a : Int32} {person_a : Int32} (hkd : kd = kdC) (hi : zI kd w) : zM l kd w yX11_without cX11_without 2 (some .int) rm11_without [.int set_a, .int person_a] σ (some (.int (q11_without set_a person_a)), σ) := sorry
/-! LastLoaf$Poll.countFirst -/
def q5_countFirst (σ : St) (among_a : Int32) : Option St :=
  lt (fil σ 10 6 0) fun σ1_ =>
  Option.bind (loop2 (fun rec6_ (v9_ : Int32) (σ10_ : St) =>
  if v9_ < (σ10_ 6 6) then
  lt (v9_ * 6) fun row17_ =>
  lt (if q11_isIn (σ10_ 6 9) v9_ = true then 0 else σ10_ 6 8) fun k24_ =>
  Option.bind (loop1 (fun rec29_ (k32_ : Int32) =>
  Option.bind (if k32_ < (σ10_ 6 8) then (Option.bind (ag σ10_ 7 36 (row17_ + k32_)) fun x40_ =>
  if q11_isIn among_a x40_ = true then (some false) else (some true)) else (some false)) fun t37_ =>
  if t37_ = true then
  lt (k32_ + 1) fun k44_ =>
  rec29_ k44_
  else (some k32_)) fuelN k24_) fun y26_ =>
  Option.bind (if y26_ < (σ10_ 6 8) then (Option.bind (ag σ10_ 7 36 (row17_ + y26_)) fun x53_ =>
  Option.bind (ag σ10_ 10 6 x53_) fun x55_ =>
  Option.bind (sa σ10_ 10 6 x53_ (x55_ + 1)) fun σ57_ =>
  some (σ57_)) else (some (σ10_))) fun y46_ =>
  lt (v9_ + 1) fun v59_ =>
  rec6_ v59_ y46_
  else (some (v9_, σ10_))) fuelN (0 : Int32) σ1_) fun y3_ =>
  some y3_.2
abbrev rm5_countFirst : Room := { frames := 1, cells := 0, slots := 0, locals := 23 }
theorem c5_countFirst {l : Launch} {kd : List KD} {w : Wp} {σ : St} {among_a : Int32} (hkd : kd = kdC) (hi : zI kd w) {r : St} (hf : q5_countFirst σ among_a = some r) : zM l kd w yX5_countFirst cX5_countFirst 5 none rm5_countFirst [.ref (w.2.2.1 6), .int among_a] σ (none, r) := sorry
/-! LastLoaf$Poll.betterOfTwo -/
theorem w_3_164 : Cond.code ({ cls := "LastLoaf", name := "leastOf", desc := "(I)I" } : MethodName) prog_1_method_67_code (2 : Nat) (Option.some ClassFile.FieldType.int) ∈ TB := sorry
theorem w_3_163 : Cond.static ({ cls := "LastLoaf", name := "leastOf", desc := "(I)I" } : MethodName) ∈ TB := sorry
theorem cr5_119 {Θ : Tz} {cc : ByteArray} {nL kc ks : Nat} {ret : Option FieldType} {rm : Room} {Q : State → Prop} {σ : St} {pc : Nat} {lv : List (Nat × Value)} {st : List Value} (C : Zc Θ cc nL RX5 ret rm) (hkd : Θ.2.2.2.2.1 = kdC) {set_a : Int32} {r : Int32} (hx : q11_leastOf set_a = some r) (hrm : rm11_leastOf.frames + 1 ≤ rm.frames ∧ 8 + (2 + 11) + rm11_leastOf.locals ≤ rm.locals) (hcat : (st.map fun v => v.category).sum ≤ 8) (hk : kc ≤ rm.cells ∧ ks ≤ rm.slots) (hd : decode cc pc = .ok (.invokestatic 119, 3)) (kk : Z Θ nL kc ks Q σ (pc + 3) lv (.int r :: st)) : Z Θ nL kc ks Q σ pc lv (.int set_a :: st) := sorry
theorem w_3_157 : Cond.code ({ cls := "LastLoaf$Poll", name := "countFirst", desc := "(I)V" } : MethodName) prog_7_method_12_code (5 : Nat) (Option.none : Option ClassFile.FieldType) ∈ TB := sorry
theorem w_3_154 : Cond.methodLink "LastLoaf$Poll" (92 : Nat) ({ cls := "LastLoaf$Poll", name := "countFirst", desc := "(I)V" } : MethodName) ∈ TB := sorry
theorem w_3_155 : Cond.instanceMethod ({ cls := "LastLoaf$Poll", name := "countFirst", desc := "(I)V" } : MethodName) ∈ TB := sorry
theorem w_3_156 : Cond.selects "LastLoaf$Poll" ({ cls := "LastLoaf$Poll", name := "countFirst", desc := "(I)V" } : MethodName) ({ cls := "LastLoaf$Poll", name := "countFirst", desc := "(I)V" } : MethodName) ∈ TB := sorry
theorem cr5_92 {Θ : Tz} {cc : ByteArray} {nL kc ks : Nat} {ret : Option FieldType} {rm : Room} {Q : State → Prop} {σ : St} {pc : Nat} {lv : List (Nat × Value)} {st : List Value} (C : Zc Θ cc nL RX5 ret rm) (hkd : Θ.2.2.2.2.1 = kdC) {among_a : Int32} {r : St} (hx : q5_countFirst σ among_a = some r) (hrm : rm5_countFirst.frames + 1 ≤ rm.frames ∧ 8 + (5 + 11) + rm5_countFirst.locals ≤ rm.locals) (hcat : (st.map fun v => v.category).sum ≤ 8) (hk : kc ≤ rm.cells ∧ ks ≤ rm.slots) (hd : decode cc pc = .ok (.invokevirtual 92, 3)) (kk : Z Θ nL kc ks Q r (pc + 3) lv st) : Z Θ nL kc ks Q σ pc lv (.int among_a :: .ref (zA Θ 6) :: st) := sorry
theorem w_3_161 : Cond.code ({ cls := "LastLoaf", name := "without", desc := "(II)I" } : MethodName) prog_1_method_66_code (2 : Nat) (Option.some ClassFile.FieldType.int) ∈ TB := sorry
theorem w_3_160 : Cond.static ({ cls := "LastLoaf", name := "without", desc := "(II)I" } : MethodName) ∈ TB := sorry
theorem cr5_116 {Θ : Tz} {cc : ByteArray} {nL kc ks : Nat} {ret : Option FieldType} {rm : Room} {Q : State → Prop} {σ : St} {pc : Nat} {lv : List (Nat × Value)} {st : List Value} (C : Zc Θ cc nL RX5 ret rm) (hkd : Θ.2.2.2.2.1 = kdC) {set_a : Int32} {person_a : Int32} (hrm : rm11_without.frames + 1 ≤ rm.frames ∧ 8 + (2 + 11) + rm11_without.locals ≤ rm.locals) (hcat : (st.map fun v => v.category).sum ≤ 8) (hk : kc ≤ rm.cells ∧ ks ≤ rm.slots) (hd : decode cc pc = .ok (.invokestatic 116, 3)) (kk : Z Θ nL kc ks Q σ (pc + 3) lv (.int (q11_without set_a person_a) :: st)) : Z Θ nL kc ks Q σ pc lv (.int person_a :: .int set_a :: st) := sorry
theorem w_3_174 : Cond.methodLink "LastLoaf$Poll" (122 : Nat) ({ cls := "java/lang/Math", name := "min", desc := "(II)I" } : MethodName) ∈ TB := sorry
theorem w_3_175 : Cond.methodLink "LastLoaf$Poll" (127 : Nat) ({ cls := "java/lang/Math", name := "max", desc := "(II)I" } : MethodName) ∈ TB := sorry
theorem w_3_176 : Cond.static ({ cls := "java/lang/Math", name := "max", desc := "(II)I" } : MethodName) ∈ TB := sorry
theorem w_3_177 : Cond.code ({ cls := "java/lang/Math", name := "max", desc := "(II)I" } : MethodName) prog_23_method_65_code (2 : Nat) (Option.some ClassFile.FieldType.int) ∈ TB := sorry
def q5_betterOfTwo (σ : St) : Option (Int32 × St) :=
  if (σ 6 8) < 2 then (Option.bind (q11_leastOf (σ 6 7)) fun x5_ =>
  some (x5_, σ)) else
  Option.bind (q5_countFirst σ (σ 6 7)) fun x7_ =>
  Option.bind (q5_greatest x7_ (x7_ 6 7)) fun x9_ =>
  lt (q11_without (x7_ 6 7) x9_) fun others11_ =>
  Option.bind (q5_countFirst x7_ others11_) fun x13_ =>
  Option.bind (q5_greatest x13_ others11_) fun x15_ =>
  lt (imin x9_ x15_) fun lesser17_ =>
  lt (imax x9_ x15_) fun greater19_ =>
  Option.bind (Option.bind (q5_isAhead x13_ greater19_ lesser17_) fun x26_ =>
  if x26_ = true then (some greater19_) else (some lesser17_)) fun x21_ =>
  some (x21_, x13_)
abbrev rm5_betterOfTwo : Room := { frames := 2, cells := 0, slots := 0, locals := 47 }
theorem c5_betterOfTwo {l : Launch} {kd : List KD} {w : Wp} {σ : St} (hkd : kd = kdC) (hi : zI kd w) {r : (Int32 × St)} (hf : q5_betterOfTwo σ = some r) : zM l kd w yX5_betterOfTwo cX5_betterOfTwo 6 (some .int) rm5_betterOfTwo [.ref (w.2.2.1 6)] σ (some (.int r.1), r.2) := sorry
/-! LastLoaf$Poll.countDuels -/
def q5_countDuels (σ : St) : Option St :=
  lt (fil σ 10 6 0) fun σ1_ =>
  Option.bind (loop2 (fun rec6_ (a9_ : Int32) (σ10_ : St) =>
  if a9_ < (σ10_ 6 6) then
  Option.bind (loop2 (fun rec20_ (b23_ : Int32) (σ24_ : St) =>
  if b23_ < (σ24_ 6 6) then
  Option.bind (Option.bind (if ¬ a9_ = b23_ then (Option.bind (q5_isAhead σ24_ a9_ b23_) fun x39_ =>
  if x39_ = true then (some true) else (some false)) else (some false)) fun t36_ =>
  if t36_ = true then (Option.bind (ag σ24_ 10 6 a9_) fun x43_ =>
  Option.bind (sa σ24_ 10 6 a9_ (x43_ + 1)) fun σ45_ =>
  some (σ45_)) else (some (σ24_))) fun y31_ =>
  lt (b23_ + 1) fun b47_ =>
  rec20_ b47_ y31_
  else (some (b23_, σ24_))) fuelN (0 : Int32) σ10_) fun y17_ =>
  lt (a9_ + 1) fun a49_ =>
  rec6_ a49_ y17_.2
  else (some (a9_, σ10_))) fuelN (0 : Int32) σ1_) fun y3_ =>
  some y3_.2
abbrev rm5_countDuels : Room := { frames := 2, cells := 0, slots := 0, locals := 46 }
theorem c5_countDuels {l : Launch} {kd : List KD} {w : Wp} {σ : St} (hkd : kd = kdC) (hi : zI kd w) {r : St} (hf : q5_countDuels σ = some r) : zM l kd w yX5_countDuels cX5_countDuels 3 none rm5_countDuels [.ref (w.2.2.1 6)] σ (none, r) := sorry
/-! LastLoaf$Poll.countLast -/
def q5_countLast (σ : St) : Option St :=
  lt (fil σ 10 6 0) fun σ1_ =>
  Option.bind (loop2 (fun rec6_ (v9_ : Int32) (σ10_ : St) =>
  if v9_ < (σ10_ 6 6) then
  Option.bind (q5_rankAt σ10_ v9_ ((σ10_ 6 8) - 1)) fun x17_ =>
  Option.bind (if ¬ x17_ = (-1) then (Option.bind (ag σ10_ 10 6 x17_) fun x26_ =>
  Option.bind (sa σ10_ 10 6 x17_ (x26_ - 1)) fun σ28_ =>
  some (σ28_)) else (some (σ10_))) fun y19_ =>
  lt (v9_ + 1) fun v30_ =>
  rec6_ v30_ y19_
  else (some (v9_, σ10_))) fuelN (0 : Int32) σ1_) fun y3_ =>
  some y3_.2
abbrev rm5_countLast : Room := { frames := 2, cells := 0, slots := 0, locals := 43 }
theorem c5_countLast {l : Launch} {kd : List KD} {w : Wp} {σ : St} (hkd : kd = kdC) (hi : zI kd w) {r : St} (hf : q5_countLast σ = some r) : zM l kd w yX5_countLast cX5_countLast 3 none rm5_countLast [.ref (w.2.2.1 6)] σ (none, r) := sorry
/-! LastLoaf$Poll.countPoints -/
theorem w_3_190 : Cond.methodLink "LastLoaf$Poll" (113 : Nat) ({ cls := "LastLoaf$Poll", name := "pointsOf", desc := "(I)I" } : MethodName) ∈ TB := sorry
theorem cr5_113 {Θ : Tz} {cc : ByteArray} {nL kc ks : Nat} {ret : Option FieldType} {rm : Room} {Q : State → Prop} {σ : St} {pc : Nat} {lv : List (Nat × Value)} {st : List Value} (C : Zc Θ cc nL RX5 ret rm) (hkd : Θ.2.2.2.2.1 = kdC) {person_a : Int32} {r : Int32} (hx : q5_pointsOf σ person_a = some r) (hrm : rm5_pointsOf.frames + 1 ≤ rm.frames ∧ 8 + (4 + 11) + rm5_pointsOf.locals ≤ rm.locals) (hcat : (st.map fun v => v.category).sum ≤ 8) (hk : kc ≤ rm.cells ∧ ks ≤ rm.slots) (hd : decode cc pc = .ok (.invokevirtual 113, 3)) (kk : Z Θ nL kc ks Q σ (pc + 3) lv (.int r :: st)) : Z Θ nL kc ks Q σ pc lv (.int person_a :: .ref (zA Θ 6) :: st) := sorry
def q5_countPoints (σ : St) : Option St :=
  Option.bind (loop2 (fun rec4_ (r7_ : Int32) (σ8_ : St) =>
  if r7_ < (σ8_ 6 6) then
  Option.bind (q5_pointsOf σ8_ r7_) fun x15_ =>
  Option.bind (sa σ8_ 10 6 r7_ x15_) fun σ17_ =>
  lt (r7_ + 1) fun r19_ =>
  rec4_ r19_ σ17_
  else (some (r7_, σ8_))) fuelN (0 : Int32) σ) fun y1_ =>
  some y1_.2
abbrev rm5_countPoints : Room := { frames := 2, cells := 0, slots := 0, locals := 44 }
theorem c5_countPoints {l : Launch} {kd : List KD} {w : Wp} {σ : St} (hkd : kd = kdC) (hi : zI kd w) {r : St} (hf : q5_countPoints σ = some r) : zM l kd w yX5_countPoints cX5_countPoints 2 none rm5_countPoints [.ref (w.2.2.1 6)] σ (none, r) := sorry
/-! LastLoaf$Poll.lastOfRounds -/
def q5_lastOfRounds (σ : St) : Option (Int32 × St) :=
  lt (σ 6 7) fun left1_ =>
  Option.bind (loop3 (fun rec6_ (left9_ : Int32) (round10_ : Int32) (σ11_ : St) =>
  if round10_ < (σ11_ 6 8) then
  Option.bind (q5_countFirst σ11_ left9_) fun x18_ =>
  Option.bind (loop2 (fun rec23_ (goes26_ : Int32) (r27_ : Int32) =>
  if r27_ < (x18_ 6 6) then
  Option.bind (Option.bind (if q11_isIn left9_ r27_ = true then (if goes26_ = (-1) then (some true) else (Option.bind (ag x18_ 10 6 r27_) fun x43_ =>
  Option.bind (ag x18_ 10 6 goes26_) fun x45_ =>
  if x43_ ≤ x45_ then (some true) else (some false))) else (some false)) fun t39_ =>
  if t39_ = true then (some (r27_)) else (some (goes26_))) fun y34_ =>
  lt (r27_ + 1) fun r49_ =>
  rec23_ y34_ r49_
  else (some (goes26_, r27_))) fuelN (-1 : Int32) (0 : Int32)) fun y20_ =>
  lt (if ¬ y20_.1 = (-1) then (lt (q11_without left9_ y20_.1) fun left58_ =>
  left58_) else left9_) fun y51_ =>
  lt (round10_ + 1) fun round60_ =>
  rec6_ y51_ round60_ x18_
  else (some (left9_, round10_, σ11_))) fuelN left1_ (1 : Int32) σ) fun y3_ =>
  Option.bind (q11_leastOf y3_.1) fun x62_ =>
  some (x62_, y3_.2.2)
abbrev rm5_lastOfRounds : Room := { frames := 2, cells := 0, slots := 0, locals := 47 }
theorem c5_lastOfRounds {l : Launch} {kd : List KD} {w : Wp} {σ : St} (hkd : kd = kdC) (hi : zI kd w) {r : (Int32 × St)} (hf : q5_lastOfRounds σ = some r) : zM l kd w yX5_lastOfRounds cX5_lastOfRounds 5 (some .int) rm5_lastOfRounds [.ref (w.2.2.1 6)] σ (some (.int r.1), r.2) := sorry
/-! LastLoaf$Poll.winnerBy -/
theorem w_3_153 : Cond.code ({ cls := "LastLoaf$Poll", name := "lastOfRounds", desc := "()I" } : MethodName) prog_7_method_16_code (5 : Nat) (Option.some ClassFile.FieldType.int) ∈ TB := sorry
theorem w_3_150 : Cond.methodLink "LastLoaf$Poll" (86 : Nat) ({ cls := "LastLoaf$Poll", name := "lastOfRounds", desc := "()I" } : MethodName) ∈ TB := sorry
theorem w_3_151 : Cond.instanceMethod ({ cls := "LastLoaf$Poll", name := "lastOfRounds", desc := "()I" } : MethodName) ∈ TB := sorry
theorem w_3_152 : Cond.selects "LastLoaf$Poll" ({ cls := "LastLoaf$Poll", name := "lastOfRounds", desc := "()I" } : MethodName) ({ cls := "LastLoaf$Poll", name := "lastOfRounds", desc := "()I" } : MethodName) ∈ TB := sorry
theorem cr5_86 {Θ : Tz} {cc : ByteArray} {nL kc ks : Nat} {ret : Option FieldType} {rm : Room} {Q : State → Prop} {σ : St} {pc : Nat} {lv : List (Nat × Value)} {st : List Value} (C : Zc Θ cc nL RX5 ret rm) (hkd : Θ.2.2.2.2.1 = kdC) {r : Int32 × St} (hx : q5_lastOfRounds σ = some r) (hrm : rm5_lastOfRounds.frames + 1 ≤ rm.frames ∧ 8 + (5 + 11) + rm5_lastOfRounds.locals ≤ rm.locals) (hcat : (st.map fun v => v.category).sum ≤ 8) (hk : kc ≤ rm.cells ∧ ks ≤ rm.slots) (hd : decode cc pc = .ok (.invokevirtual 86, 3)) (kk : Z Θ nL kc ks Q r.2 (pc + 3) lv (.int r.1 :: st)) : Z Θ nL kc ks Q σ pc lv (.ref (zA Θ 6) :: st) := sorry
theorem w_3_169 : Cond.code ({ cls := "LastLoaf$Poll", name := "betterOfTwo", desc := "()I" } : MethodName) prog_7_method_17_code (6 : Nat) (Option.some ClassFile.FieldType.int) ∈ TB := sorry
theorem w_3_166 : Cond.methodLink "LastLoaf$Poll" (89 : Nat) ({ cls := "LastLoaf$Poll", name := "betterOfTwo", desc := "()I" } : MethodName) ∈ TB := sorry
theorem w_3_167 : Cond.instanceMethod ({ cls := "LastLoaf$Poll", name := "betterOfTwo", desc := "()I" } : MethodName) ∈ TB := sorry
theorem w_3_168 : Cond.selects "LastLoaf$Poll" ({ cls := "LastLoaf$Poll", name := "betterOfTwo", desc := "()I" } : MethodName) ({ cls := "LastLoaf$Poll", name := "betterOfTwo", desc := "()I" } : MethodName) ∈ TB := sorry
theorem cr5_89 {Θ : Tz} {cc : ByteArray} {nL kc ks : Nat} {ret : Option FieldType} {rm : Room} {Q : State → Prop} {σ : St} {pc : Nat} {lv : List (Nat × Value)} {st : List Value} (C : Zc Θ cc nL RX5 ret rm) (hkd : Θ.2.2.2.2.1 = kdC) {r : Int32 × St} (hx : q5_betterOfTwo σ = some r) (hrm : rm5_betterOfTwo.frames + 1 ≤ rm.frames ∧ 8 + (6 + 11) + rm5_betterOfTwo.locals ≤ rm.locals) (hcat : (st.map fun v => v.category).sum ≤ 8) (hk : kc ≤ rm.cells ∧ ks ≤ rm.slots) (hd : decode cc pc = .ok (.invokevirtual 89, 3)) (kk : Z Θ nL kc ks Q r.2 (pc + 3) lv (.int r.1 :: st)) : Z Θ nL kc ks Q σ pc lv (.ref (zA Θ 6) :: st) := sorry
theorem w_3_181 : Cond.code ({ cls := "LastLoaf$Poll", name := "countLast", desc := "()V" } : MethodName) prog_7_method_13_code (3 : Nat) (Option.none : Option ClassFile.FieldType) ∈ TB := sorry
theorem w_3_178 : Cond.methodLink "LastLoaf$Poll" (95 : Nat) ({ cls := "LastLoaf$Poll", name := "countLast", desc := "()V" } : MethodName) ∈ TB := sorry
theorem w_3_179 : Cond.instanceMethod ({ cls := "LastLoaf$Poll", name := "countLast", desc := "()V" } : MethodName) ∈ TB := sorry
theorem w_3_180 : Cond.selects "LastLoaf$Poll" ({ cls := "LastLoaf$Poll", name := "countLast", desc := "()V" } : MethodName) ({ cls := "LastLoaf$Poll", name := "countLast", desc := "()V" } : MethodName) ∈ TB := sorry
theorem cr5_95 {Θ : Tz} {cc : ByteArray} {nL kc ks : Nat} {ret : Option FieldType} {rm : Room} {Q : State → Prop} {σ : St} {pc : Nat} {lv : List (Nat × Value)} {st : List Value} (C : Zc Θ cc nL RX5 ret rm) (hkd : Θ.2.2.2.2.1 = kdC) {r : St} (hx : q5_countLast σ = some r) (hrm : rm5_countLast.frames + 1 ≤ rm.frames ∧ 8 + (3 + 11) + rm5_countLast.locals ≤ rm.locals) (hcat : (st.map fun v => v.category).sum ≤ 8) (hk : kc ≤ rm.cells ∧ ks ≤ rm.slots) (hd : decode cc pc = .ok (.invokevirtual 95, 3)) (kk : Z Θ nL kc ks Q r (pc + 3) lv st) : Z Θ nL kc ks Q σ pc lv (.ref (zA Θ 6) :: st) := sorry
theorem w_3_189 : Cond.code ({ cls := "LastLoaf$Poll", name := "countPoints", desc := "()V" } : MethodName) prog_7_method_14_code (2 : Nat) (Option.none : Option ClassFile.FieldType) ∈ TB := sorry
theorem w_3_186 : Cond.methodLink "LastLoaf$Poll" (98 : Nat) ({ cls := "LastLoaf$Poll", name := "countPoints", desc := "()V" } : MethodName) ∈ TB := sorry
theorem w_3_187 : Cond.instanceMethod ({ cls := "LastLoaf$Poll", name := "countPoints", desc := "()V" } : MethodName) ∈ TB := sorry
theorem w_3_188 : Cond.selects "LastLoaf$Poll" ({ cls := "LastLoaf$Poll", name := "countPoints", desc := "()V" } : MethodName) ({ cls := "LastLoaf$Poll", name := "countPoints", desc := "()V" } : MethodName) ∈ TB := sorry
theorem cr5_98 {Θ : Tz} {cc : ByteArray} {nL kc ks : Nat} {ret : Option FieldType} {rm : Room} {Q : State → Prop} {σ : St} {pc : Nat} {lv : List (Nat × Value)} {st : List Value} (C : Zc Θ cc nL RX5 ret rm) (hkd : Θ.2.2.2.2.1 = kdC) {r : St} (hx : q5_countPoints σ = some r) (hrm : rm5_countPoints.frames + 1 ≤ rm.frames ∧ 8 + (2 + 11) + rm5_countPoints.locals ≤ rm.locals) (hcat : (st.map fun v => v.category).sum ≤ 8) (hk : kc ≤ rm.cells ∧ ks ≤ rm.slots) (hd : decode cc pc = .ok (.invokevirtual 98, 3)) (kk : Z Θ nL kc ks Q r (pc + 3) lv st) : Z Θ nL kc ks Q σ pc lv (.ref (zA Θ 6) :: st) := sorry
theorem w_3_197 : Cond.code ({ cls := "LastLoaf$Poll", name := "countDuels", desc := "()V" } : MethodName) prog_7_method_15_code (3 : Nat) (Option.none : Option ClassFile.FieldType) ∈ TB := sorry
theorem w_3_194 : Cond.methodLink "LastLoaf$Poll" (101 : Nat) ({ cls := "LastLoaf$Poll", name := "countDuels", desc := "()V" } : MethodName) ∈ TB := sorry
theorem w_3_195 : Cond.instanceMethod ({ cls := "LastLoaf$Poll", name := "countDuels", desc := "()V" } : MethodName) ∈ TB := sorry
theorem w_3_196 : Cond.selects "LastLoaf$Poll" ({ cls := "LastLoaf$Poll", name := "countDuels", desc := "()V" } : MethodName) ({ cls := "LastLoaf$Poll", name := "countDuels", desc := "()V" } : MethodName) ∈ TB := sorry
theorem cr5_101 {Θ : Tz} {cc : ByteArray} {nL kc ks : Nat} {ret : Option FieldType} {rm : Room} {Q : State → Prop} {σ : St} {pc : Nat} {lv : List (Nat × Value)} {st : List Value} (C : Zc Θ cc nL RX5 ret rm) (hkd : Θ.2.2.2.2.1 = kdC) {r : St} (hx : q5_countDuels σ = some r) (hrm : rm5_countDuels.frames + 1 ≤ rm.frames ∧ 8 + (3 + 11) + rm5_countDuels.locals ≤ rm.locals) (hcat : (st.map fun v => v.category).sum ≤ 8) (hk : kc ≤ rm.cells ∧ ks ≤ rm.slots) (hd : decode cc pc = .ok (.invokevirtual 101, 3)) (kk : Z Θ nL kc ks Q r (pc + 3) lv st) : Z Θ nL kc ks Q σ pc lv (.ref (zA Θ 6) :: st) := sorry
def q5_winnerBy (σ : St) (way_a : Int32) : Option (Int32 × St) :=
  if way_a = 4 then (Option.bind (q5_lastOfRounds σ) fun x5_ =>
  some (x5_.1, x5_.2)) else
  if way_a = 5 then (Option.bind (q5_betterOfTwo σ) fun x11_ =>
  some (x11_.1, x11_.2)) else
  Option.bind (
  if way_a = 0 then (Option.bind (q5_countFirst σ (σ 6 7)) fun x16_ =>
  some (x16_)) else
  if way_a = 1 then (Option.bind (q5_countLast σ) fun x18_ =>
  some (x18_)) else
  if way_a = 2 then (Option.bind (q5_countPoints σ) fun x20_ =>
  some (x20_)) else
  Option.bind (q5_countDuels σ) fun x22_ =>
  some (x22_)) fun y13_ =>
  Option.bind (q5_greatest y13_ (y13_ 6 7)) fun x27_ =>
  some (x27_, y13_)
abbrev rm5_winnerBy : Room := { frames := 3, cells := 0, slots := 0, locals := 72 }
theorem c5_winnerBy {l : Launch} {kd : List KD} {w : Wp} {σ : St} {way_a : Int32} (hkd : kd = kdC) (hi : zI kd w) {r : (Int32 × St)} (hf : q5_winnerBy σ way_a = some r) : zM l kd w yX5_winnerBy cX5_winnerBy 2 (some .int) rm5_winnerBy [.ref (w.2.2.1 6), .int way_a] σ (some (.int r.1), r.2) := sorry
/-! LastLoaf$Baker.giveLastLoaf -/
theorem w_2_81 : Cond.fieldLink "LastLoaf$Baker" (9 : Nat) "LastLoaf$Baker" "poll" "LLastLoaf$Poll;" ∈ TB := sorry
theorem fg0_9 {Θ : Tz} {cc : ByteArray} {nL kc ks : Nat} {ret : Option FieldType} {rm : Room} {Q : State → Prop} {σ : St} {pc : Nat} {lv : List (Nat × Value)} {st : List Value} (C : Zc Θ cc nL RX0 ret rm) (hkd : Θ.2.2.2.2.1 = kdC) (hd : decode cc pc = .ok (.getfield 9, 3)) (kk : Z Θ nL kc ks Q σ (pc + 3) lv (.ref (zA Θ 6) :: st)) : Z Θ nL kc ks Q σ pc lv (.ref (zA Θ 13) :: st) := sorry
theorem w_2_82 : Cond.fieldLink "LastLoaf$Baker" (15 : Nat) "LastLoaf$Baker" "law" "LLastLoaf$Law;" ∈ TB := sorry
theorem fg0_15 {Θ : Tz} {cc : ByteArray} {nL kc ks : Nat} {ret : Option FieldType} {rm : Room} {Q : State → Prop} {σ : St} {pc : Nat} {lv : List (Nat × Value)} {st : List Value} (C : Zc Θ cc nL RX0 ret rm) (hkd : Θ.2.2.2.2.1 = kdC) (hd : decode cc pc = .ok (.getfield 15, 3)) (kk : Z Θ nL kc ks Q σ (pc + 3) lv (.ref (zA Θ 32) :: st)) : Z Θ nL kc ks Q σ pc lv (.ref (zA Θ 13) :: st) := sorry
theorem w_3_145 : Cond.methodLink "LastLoaf$Baker" (74 : Nat) ({ cls := "LastLoaf$Poll", name := "hold", desc := "(LLastLoaf$Village;LLastLoaf$Law;)V" } : MethodName) ∈ TB := sorry
theorem cr0_74 {Θ : Tz} {cc : ByteArray} {nL kc ks : Nat} {ret : Option FieldType} {rm : Room} {Q : State → Prop} {σ : St} {pc : Nat} {lv : List (Nat × Value)} {st : List Value} (C : Zc Θ cc nL RX0 ret rm) (hkd : Θ.2.2.2.2.1 = kdC) {village_a : Nat} {law_a : Nat} (h_village : isV village_a) (h_law : isLaw law_a) {r : St} (hx : q5_hold σ village_a law_a = some r) (hrm : rm5_hold.frames + 1 ≤ rm.frames ∧ 8 + (5 + 11) + rm5_hold.locals ≤ rm.locals) (hcat : (st.map fun v => v.category).sum ≤ 8) (hk : kc ≤ rm.cells ∧ ks ≤ rm.slots) (hd : decode cc pc = .ok (.invokevirtual 74, 3)) (kk : Z Θ nL kc ks Q r (pc + 3) lv st) : Z Θ nL kc ks Q σ pc lv (.ref (zA Θ law_a) :: .ref (zA Θ village_a) :: .ref (zA Θ 6) :: st) := sorry
theorem w_1_154 : Cond.fieldLink "LastLoaf$Baker" (80 : Nat) "LastLoaf$Village" "way" "I" ∈ TB := sorry
theorem fg0_80 {Θ : Tz} {cc : ByteArray} {nL kc ks : Nat} {ret : Option FieldType} {rm : Room} {Q : State → Prop} {σ : St} {pc : Nat} {lv : List (Nat × Value)} {st : List Value} (C : Zc Θ cc nL RX0 ret rm) (hkd : Θ.2.2.2.2.1 = kdC) {th : Nat} (hth : isV th) (hd : decode cc pc = .ok (.getfield 80, 3)) (kk : Z Θ nL kc ks Q σ (pc + 3) lv (.int (σ th 13) :: st)) : Z Θ nL kc ks Q σ pc lv (.ref (zA Θ th) :: st) := sorry
theorem w_3_149 : Cond.code ({ cls := "LastLoaf$Poll", name := "winnerBy", desc := "(I)I" } : MethodName) prog_7_method_10_code (2 : Nat) (Option.some ClassFile.FieldType.int) ∈ TB := sorry
theorem w_3_146 : Cond.methodLink "LastLoaf$Baker" (83 : Nat) ({ cls := "LastLoaf$Poll", name := "winnerBy", desc := "(I)I" } : MethodName) ∈ TB := sorry
theorem w_3_147 : Cond.instanceMethod ({ cls := "LastLoaf$Poll", name := "winnerBy", desc := "(I)I" } : MethodName) ∈ TB := sorry
theorem w_3_148 : Cond.selects "LastLoaf$Poll" ({ cls := "LastLoaf$Poll", name := "winnerBy", desc := "(I)I" } : MethodName) ({ cls := "LastLoaf$Poll", name := "winnerBy", desc := "(I)I" } : MethodName) ∈ TB := sorry
theorem cr0_83 {Θ : Tz} {cc : ByteArray} {nL kc ks : Nat} {ret : Option FieldType} {rm : Room} {Q : State → Prop} {σ : St} {pc : Nat} {lv : List (Nat × Value)} {st : List Value} (C : Zc Θ cc nL RX0 ret rm) (hkd : Θ.2.2.2.2.1 = kdC) {way_a : Int32} {r : Int32 × St} (hx : q5_winnerBy σ way_a = some r) (hrm : rm5_winnerBy.frames + 1 ≤ rm.frames ∧ 8 + (2 + 11) + rm5_winnerBy.locals ≤ rm.locals) (hcat : (st.map fun v => v.category).sum ≤ 8) (hk : kc ≤ rm.cells ∧ ks ≤ rm.slots) (hd : decode cc pc = .ok (.invokevirtual 83, 3)) (kk : Z Θ nL kc ks Q r.2 (pc + 3) lv (.int r.1 :: st)) : Z Θ nL kc ks Q σ pc lv (.int way_a :: .ref (zA Θ 6) :: st) := sorry
theorem w_1_109 : Cond.fieldLink "LastLoaf$Baker" (87 : Nat) "LastLoaf$Village" "run" "[I" ∈ TB := sorry
theorem fg0_87 {Θ : Tz} {cc : ByteArray} {nL kc ks : Nat} {ret : Option FieldType} {rm : Room} {Q : State → Prop} {σ : St} {pc : Nat} {lv : List (Nat × Value)} {st : List Value} (C : Zc Θ cc nL RX0 ret rm) (hkd : Θ.2.2.2.2.1 = kdC) {th : Nat} (hth : isV th) (hd : decode cc pc = .ok (.getfield 87, 3)) (kk : Z Θ nL kc ks Q σ (pc + 3) lv (.ref (zA Θ (th + 5)) :: st)) : Z Θ nL kc ks Q σ pc lv (.ref (zA Θ th) :: st) := sorry
theorem w_3_198 : Cond.methodLink "LastLoaf$Baker" (90 : Nat) ({ cls := "LastLoaf$Village", name := "runners", desc := "()I" } : MethodName) ∈ TB := sorry
theorem cr0_90 {Θ : Tz} {cc : ByteArray} {nL kc ks : Nat} {ret : Option FieldType} {rm : Room} {Q : State → Prop} {σ : St} {pc : Nat} {lv : List (Nat × Value)} {st : List Value} (C : Zc Θ cc nL RX0 ret rm) (hkd : Θ.2.2.2.2.1 = kdC) {th : Nat} (hth : isV th) (hrm : rm10_runners.frames + 1 ≤ rm.frames ∧ 8 + (1 + 11) + rm10_runners.locals ≤ rm.locals) (hcat : (st.map fun v => v.category).sum ≤ 8) (hk : kc ≤ rm.cells ∧ ks ≤ rm.slots) (hd : decode cc pc = .ok (.invokevirtual 90, 3)) (kk : Z Θ nL kc ks Q σ (pc + 3) lv (.int (q10_runners σ th) :: st)) : Z Θ nL kc ks Q σ pc lv (.ref (zA Θ th) :: st) := sorry
theorem w_1_105 : Cond.fieldLink "LastLoaf$Baker" (94 : Nat) "LastLoaf$Village" "had" "[I" ∈ TB := sorry
theorem fg0_94 {Θ : Tz} {cc : ByteArray} {nL kc ks : Nat} {ret : Option FieldType} {rm : Room} {Q : State → Prop} {σ : St} {pc : Nat} {lv : List (Nat × Value)} {st : List Value} (C : Zc Θ cc nL RX0 ret rm) (hkd : Θ.2.2.2.2.1 = kdC) {th : Nat} (hth : isV th) (hd : decode cc pc = .ok (.getfield 94, 3)) (kk : Z Θ nL kc ks Q σ (pc + 3) lv (.ref (zA Θ (th + 4)) :: st)) : Z Θ nL kc ks Q σ pc lv (.ref (zA Θ th) :: st) := sorry
theorem w_3_128 : Cond.methodLink "LastLoaf$Baker" (38 : Nat) ({ cls := "java/lang/Math", name := "min", desc := "(II)I" } : MethodName) ∈ TB := sorry
theorem w_1_121 : Cond.fieldLink "LastLoaf$Baker" (97 : Nat) "LastLoaf$Village" "rows" "LLastLoaf$Log;" ∈ TB := sorry
theorem fg0_97 {Θ : Tz} {cc : ByteArray} {nL kc ks : Nat} {ret : Option FieldType} {rm : Room} {Q : State → Prop} {σ : St} {pc : Nat} {lv : List (Nat × Value)} {st : List Value} (C : Zc Θ cc nL RX0 ret rm) (hkd : Θ.2.2.2.2.1 = kdC) {th : Nat} (hth : isV th) (hd : decode cc pc = .ok (.getfield 97, 3)) (kk : Z Θ nL kc ks Q σ (pc + 3) lv (.ref (zA Θ (th + 8)) :: st)) : Z Θ nL kc ks Q σ pc lv (.ref (zA Θ th) :: st) := sorry
theorem w_1_148 : Cond.fieldLink "LastLoaf$Baker" (19 : Nat) "LastLoaf$Village" "week" "I" ∈ TB := sorry
theorem fg0_19 {Θ : Tz} {cc : ByteArray} {nL kc ks : Nat} {ret : Option FieldType} {rm : Room} {Q : State → Prop} {σ : St} {pc : Nat} {lv : List (Nat × Value)} {st : List Value} (C : Zc Θ cc nL RX0 ret rm) (hkd : Θ.2.2.2.2.1 = kdC) {th : Nat} (hth : isV th) (hd : decode cc pc = .ok (.getfield 19, 3)) (kk : Z Θ nL kc ks Q σ (pc + 3) lv (.int (σ th 12) :: st)) : Z Θ nL kc ks Q σ pc lv (.ref (zA Θ th) :: st) := sorry
theorem w_3_199 : Cond.methodLink "LastLoaf$Baker" (101 : Nat) ({ cls := "LastLoaf$Poll", name := "votesOf", desc := "(I)I" } : MethodName) ∈ TB := sorry
theorem cr0_101 {Θ : Tz} {cc : ByteArray} {nL kc ks : Nat} {ret : Option FieldType} {rm : Room} {Q : State → Prop} {σ : St} {pc : Nat} {lv : List (Nat × Value)} {st : List Value} (C : Zc Θ cc nL RX0 ret rm) (hkd : Θ.2.2.2.2.1 = kdC) {person_a : Int32} {r : Int32} (hx : q5_votesOf σ person_a = some r) (hrm : rm5_votesOf.frames + 1 ≤ rm.frames ∧ 8 + (4 + 11) + rm5_votesOf.locals ≤ rm.locals) (hcat : (st.map fun v => v.category).sum ≤ 8) (hk : kc ≤ rm.cells ∧ ks ≤ rm.slots) (hd : decode cc pc = .ok (.invokevirtual 101, 3)) (kk : Z Θ nL kc ks Q σ (pc + 3) lv (.int r :: st)) : Z Θ nL kc ks Q σ pc lv (.int person_a :: .ref (zA Θ 6) :: st) := sorry
theorem w_3_206 : Cond.code ({ cls := "LastLoaf$Log", name := "write", desc := "(IIII)V" } : MethodName) prog_5_method_3_code (6 : Nat) (Option.none : Option ClassFile.FieldType) ∈ TB := sorry
theorem w_3_203 : Cond.methodLink "LastLoaf$Baker" (104 : Nat) ({ cls := "LastLoaf$Log", name := "write", desc := "(IIII)V" } : MethodName) ∈ TB := sorry
theorem w_3_204 : Cond.instanceMethod ({ cls := "LastLoaf$Log", name := "write", desc := "(IIII)V" } : MethodName) ∈ TB := sorry
theorem w_3_205 : Cond.selects "LastLoaf$Log" ({ cls := "LastLoaf$Log", name := "write", desc := "(IIII)V" } : MethodName) ({ cls := "LastLoaf$Log", name := "write", desc := "(IIII)V" } : MethodName) ∈ TB := sorry
theorem cr0_104 {Θ : Tz} {cc : ByteArray} {nL kc ks : Nat} {ret : Option FieldType} {rm : Room} {Q : State → Prop} {σ : St} {pc : Nat} {lv : List (Nat × Value)} {st : List Value} (C : Zc Θ cc nL RX0 ret rm) (hkd : Θ.2.2.2.2.1 = kdC) {th : Nat} {week_a : Int32} {kind_a : Int32} {person_a : Int32} {votes_a : Int32} (hth : isLog th) {r : St} (hx : q3_write σ th week_a kind_a person_a votes_a = some r) (hrm : rm3_write.frames + 1 ≤ rm.frames ∧ 8 + (6 + 11) + rm3_write.locals ≤ rm.locals) (hcat : (st.map fun v => v.category).sum ≤ 8) (hk : kc ≤ rm.cells ∧ ks ≤ rm.slots) (hd : decode cc pc = .ok (.invokevirtual 104, 3)) (kk : Z Θ nL kc ks Q r (pc + 3) lv st) : Z Θ nL kc ks Q σ pc lv (.int votes_a :: .int person_a :: .int kind_a :: .int week_a :: .ref (zA Θ th) :: st) := sorry
def q0_giveLastLoaf (σ : St) (village_a : Nat) : Option St :=
  Option.bind (if 0 < (σ village_a 11) then (Option.bind (q5_hold σ village_a 32) fun x8_ =>
  Option.bind (q5_winnerBy x8_ (x8_ village_a 13)) fun x10_ =>
  some (x10_.1, x10_.2)) else (some ((-1 : Int32), σ))) fun y1_ =>
  Option.bind (loop2 (fun rec15_ (p18_ : Int32) (σ19_ : St) =>
  if p18_ < (σ19_ village_a 8) then
  Option.bind (if ¬ p18_ = y1_.1 then (Option.bind (sa σ19_ (village_a + 5) 6 p18_ 0) fun σ33_ =>
  Option.bind (if q11_isIn (q10_runners σ33_ village_a) p18_ = true then (Option.bind (q10_hungerMore σ33_ village_a p18_) fun x42_ =>
  some (x42_)) else (some (σ33_))) fun y35_ =>
  some (y35_)) else (some (σ19_))) fun y26_ =>
  lt (p18_ + 1) fun p44_ =>
  rec15_ p44_ y26_
  else (some (p18_, σ19_))) fuelN (0 : Int32) y1_.2) fun y12_ =>
  Option.bind (if ¬ y1_.1 = (-1) then (lt (up y12_.2 village_a 11 ((y12_.2 village_a 11) - 1)) fun σ53_ =>
  Option.bind (sa σ53_ (village_a + 1) 6 y1_.1 0) fun σ55_ =>
  Option.bind (ag σ55_ (village_a + 4) 6 y1_.1) fun x57_ =>
  Option.bind (sa σ55_ (village_a + 4) 6 y1_.1 (imin 999 (x57_ + 1))) fun σ59_ =>
  Option.bind (ag σ59_ (village_a + 5) 6 y1_.1) fun x61_ =>
  Option.bind (sa σ59_ (village_a + 5) 6 y1_.1 (imin 99 (x61_ + 1))) fun σ63_ =>
  Option.bind (q5_votesOf σ63_ y1_.1) fun x65_ =>
  Option.bind (q3_write σ63_ (village_a + 8) (σ63_ village_a 12) 0 y1_.1 x65_) fun x67_ =>
  some (x67_)) else (some (y12_.2))) fun y46_ =>
  some y46_
abbrev rm0_giveLastLoaf : Room := { frames := 4, cells := 0, slots := 0, locals := 96 }
theorem c0_giveLastLoaf {l : Launch} {kd : List KD} {w : Wp} {σ : St} {village_a : Nat} (hkd : kd = kdC) (hi : zI kd w) (h_village : isV village_a) {r : St} (hf : q0_giveLastLoaf σ village_a = some r) : zM l kd w yX0_giveLastLoaf cX0_giveLastLoaf 4 none rm0_giveLastLoaf [.ref (w.2.2.1 13), .ref (w.2.2.1 village_a)] σ (none, r) := sorry
/-! LastLoaf$Village.warm -/
def q10_warm (σ : St) (th : Nat) (person_a : Int32) (other_a : Int32) : Option St :=
  lt ((person_a * 6) + other_a) fun at1_ =>
  Option.bind (ag σ (th + 6) 36 at1_) fun x3_ =>
  Option.bind (sa σ (th + 6) 36 at1_ (imin 9 (x3_ + 1))) fun σ5_ =>
  some σ5_
abbrev rm10_warm : Room := { frames := 1, cells := 0, slots := 0, locals := 21 }
theorem c10_warm {l : Launch} {kd : List KD} {w : Wp} {σ : St} {th : Nat} {person_a : Int32} {other_a : Int32} (hkd : kd = kdC) (hi : zI kd w) (hth : isV th) {r : St} (hf : q10_warm σ th person_a other_a = some r) : zM l kd w yX10_warm cX10_warm 4 none rm10_warm [.ref (w.2.2.1 th), .int person_a, .int other_a] σ (none, r) := sorry
/-! LastLoaf$Baker.warmAll -/
theorem w_3_229 : Cond.code ({ cls := "LastLoaf$Village", name := "warm", desc := "(II)V" } : MethodName) prog_12_method_8_code (4 : Nat) (Option.none : Option ClassFile.FieldType) ∈ TB := sorry
theorem w_3_226 : Cond.methodLink "LastLoaf$Baker" (125 : Nat) ({ cls := "LastLoaf$Village", name := "warm", desc := "(II)V" } : MethodName) ∈ TB := sorry
theorem w_3_227 : Cond.instanceMethod ({ cls := "LastLoaf$Village", name := "warm", desc := "(II)V" } : MethodName) ∈ TB := sorry
theorem w_3_228 : Cond.selects "LastLoaf$Village" ({ cls := "LastLoaf$Village", name := "warm", desc := "(II)V" } : MethodName) ({ cls := "LastLoaf$Village", name := "warm", desc := "(II)V" } : MethodName) ∈ TB := sorry
theorem cr0_125 {Θ : Tz} {cc : ByteArray} {nL kc ks : Nat} {ret : Option FieldType} {rm : Room} {Q : State → Prop} {σ : St} {pc : Nat} {lv : List (Nat × Value)} {st : List Value} (C : Zc Θ cc nL RX0 ret rm) (hkd : Θ.2.2.2.2.1 = kdC) {th : Nat} {person_a : Int32} {other_a : Int32} (hth : isV th) {r : St} (hx : q10_warm σ th person_a other_a = some r) (hrm : rm10_warm.frames + 1 ≤ rm.frames ∧ 8 + (4 + 11) + rm10_warm.locals ≤ rm.locals) (hcat : (st.map fun v => v.category).sum ≤ 8) (hk : kc ≤ rm.cells ∧ ks ≤ rm.slots) (hd : decode cc pc = .ok (.invokevirtual 125, 3)) (kk : Z Θ nL kc ks Q r (pc + 3) lv st) : Z Θ nL kc ks Q σ pc lv (.int other_a :: .int person_a :: .ref (zA Θ th) :: st) := sorry
def q0_warmAll (σ : St) (village_a : Nat) (speaker_a : Int32) : Option St :=
  Option.bind (loop2 (fun rec4_ (p7_ : Int32) (σ8_ : St) =>
  if p7_ < (σ8_ village_a 8) then
  Option.bind (if ¬ p7_ = speaker_a then (Option.bind (q10_warm σ8_ village_a p7_ speaker_a) fun x22_ =>
  some (x22_)) else (some (σ8_))) fun y15_ =>
  lt (p7_ + 1) fun p24_ =>
  rec4_ p24_ y15_
  else (some (p7_, σ8_))) fuelN (0 : Int32) σ) fun y1_ =>
  some y1_.2
abbrev rm0_warmAll : Room := { frames := 2, cells := 0, slots := 0, locals := 44 }
theorem c0_warmAll {l : Launch} {kd : List KD} {w : Wp} {σ : St} {village_a : Nat} {speaker_a : Int32} (hkd : kd = kdC) (hi : zI kd w) (h_village : isV village_a) {r : St} (hf : q0_warmAll σ village_a speaker_a = some r) : zM l kd w yX0_warmAll cX0_warmAll 4 none rm0_warmAll [.ref (w.2.2.1 13), .ref (w.2.2.1 village_a), .int speaker_a] σ (none, r) := sorry
/-! LastLoaf$Village.draw -/
theorem w_3_221 : Cond.constant "LastLoaf$Village" (94 : Nat) (1103515245 : Int32) ∈ TB := sorry
def q10_draw (σ : St) (th : Nat) : Option (Int32 × St) :=
  lt (up σ th 15 ((1103515245 * (σ th 15)) + 12345)) fun σ1_ =>
  some ((ushr (σ1_ th 15) 16) &&& 32767, σ1_)
abbrev rm10_draw : Room := { frames := 0, cells := 0, slots := 0, locals := 0 }
theorem c10_draw {l : Launch} {kd : List KD} {w : Wp} {σ : St} {th : Nat} (hkd : kd = kdC) (hi : zI kd w) (hth : isV th) {r : (Int32 × St)} (hf : q10_draw σ th = some r) : zM l kd w yX10_draw cX10_draw 1 (some .int) rm10_draw [.ref (w.2.2.1 th)] σ (some (.int r.1), r.2) := sorry
/-! LastLoaf$Baker.holdSpeech -/
theorem w_3_216 : Cond.methodLink "LastLoaf$Baker" (110 : Nat) ({ cls := "java/lang/Integer", name := "bitCount", desc := "(I)I" } : MethodName) ∈ TB := sorry
theorem w_3_220 : Cond.code ({ cls := "LastLoaf$Village", name := "draw", desc := "()I" } : MethodName) prog_12_method_10_code (1 : Nat) (Option.some ClassFile.FieldType.int) ∈ TB := sorry
theorem w_3_217 : Cond.methodLink "LastLoaf$Baker" (115 : Nat) ({ cls := "LastLoaf$Village", name := "draw", desc := "()I" } : MethodName) ∈ TB := sorry
theorem w_3_218 : Cond.instanceMethod ({ cls := "LastLoaf$Village", name := "draw", desc := "()I" } : MethodName) ∈ TB := sorry
theorem w_3_219 : Cond.selects "LastLoaf$Village" ({ cls := "LastLoaf$Village", name := "draw", desc := "()I" } : MethodName) ({ cls := "LastLoaf$Village", name := "draw", desc := "()I" } : MethodName) ∈ TB := sorry
theorem cr0_115 {Θ : Tz} {cc : ByteArray} {nL kc ks : Nat} {ret : Option FieldType} {rm : Room} {Q : State → Prop} {σ : St} {pc : Nat} {lv : List (Nat × Value)} {st : List Value} (C : Zc Θ cc nL RX0 ret rm) (hkd : Θ.2.2.2.2.1 = kdC) {th : Nat} (hth : isV th) {r : Int32 × St} (hx : q10_draw σ th = some r) (hrm : rm10_draw.frames + 1 ≤ rm.frames ∧ 8 + (1 + 11) + rm10_draw.locals ≤ rm.locals) (hcat : (st.map fun v => v.category).sum ≤ 8) (hk : kc ≤ rm.cells ∧ ks ≤ rm.slots) (hd : decode cc pc = .ok (.invokevirtual 115, 3)) (kk : Z Θ nL kc ks Q r.2 (pc + 3) lv (.int r.1 :: st)) : Z Θ nL kc ks Q σ pc lv (.ref (zA Θ th) :: st) := sorry
theorem w_1_158 : Cond.fieldLink "LastLoaf$Baker" (118 : Nat) "LastLoaf$Village" "speech" "I" ∈ TB := sorry
theorem fg0_118 {Θ : Tz} {cc : ByteArray} {nL kc ks : Nat} {ret : Option FieldType} {rm : Room} {Q : State → Prop} {σ : St} {pc : Nat} {lv : List (Nat × Value)} {st : List Value} (C : Zc Θ cc nL RX0 ret rm) (hkd : Θ.2.2.2.2.1 = kdC) {th : Nat} (hth : isV th) (hd : decode cc pc = .ok (.getfield 118, 3)) (kk : Z Θ nL kc ks Q σ (pc + 3) lv (.int (σ th 14) :: st)) : Z Θ nL kc ks Q σ pc lv (.ref (zA Θ th) :: st) := sorry
theorem w_3_225 : Cond.code ({ cls := "LastLoaf$Baker", name := "warmAll", desc := "(LLastLoaf$Village;I)V" } : MethodName) prog_2_method_7_code (4 : Nat) (Option.none : Option ClassFile.FieldType) ∈ TB := sorry
theorem w_1_10 : Cond.initialized "LastLoaf$Baker" ∈ TB := sorry
theorem w_3_222 : Cond.methodLink "LastLoaf$Baker" (121 : Nat) ({ cls := "LastLoaf$Baker", name := "warmAll", desc := "(LLastLoaf$Village;I)V" } : MethodName) ∈ TB := sorry
theorem w_3_223 : Cond.instanceMethod ({ cls := "LastLoaf$Baker", name := "warmAll", desc := "(LLastLoaf$Village;I)V" } : MethodName) ∈ TB := sorry
theorem w_3_224 : Cond.selects "LastLoaf$Baker" ({ cls := "LastLoaf$Baker", name := "warmAll", desc := "(LLastLoaf$Village;I)V" } : MethodName) ({ cls := "LastLoaf$Baker", name := "warmAll", desc := "(LLastLoaf$Village;I)V" } : MethodName) ∈ TB := sorry
theorem cr0_121 {Θ : Tz} {cc : ByteArray} {nL kc ks : Nat} {ret : Option FieldType} {rm : Room} {Q : State → Prop} {σ : St} {pc : Nat} {lv : List (Nat × Value)} {st : List Value} (C : Zc Θ cc nL RX0 ret rm) (hkd : Θ.2.2.2.2.1 = kdC) {village_a : Nat} {speaker_a : Int32} (h_village : isV village_a) {r : St} (hx : q0_warmAll σ village_a speaker_a = some r) (hrm : rm0_warmAll.frames + 1 ≤ rm.frames ∧ 8 + (4 + 11) + rm0_warmAll.locals ≤ rm.locals) (hcat : (st.map fun v => v.category).sum ≤ 8) (hk : kc ≤ rm.cells ∧ ks ≤ rm.slots) (hd : decode cc pc = .ok (.invokevirtual 121, 3)) (kk : Z Θ nL kc ks Q r (pc + 3) lv st) : Z Θ nL kc ks Q σ pc lv (.int speaker_a :: .ref (zA Θ village_a) :: .ref (zA Θ 13) :: st) := sorry
def q0_holdSpeech (σ : St) (village_a : Nat) : Option St :=
  lt (q10_runners σ village_a) fun runners1_ =>
  lt (bcount runners1_) fun running3_ =>
  Option.bind (q10_draw σ village_a) fun x7_ =>
  if ((x7_.2 village_a 14) ≤ (irm x7_.1 100)) ∨ (running3_ = 0) then (some x7_.2) else
  Option.bind (q10_draw x7_.2 village_a) fun x12_ =>
  Option.bind (rmd x12_.1 running3_) fun x14_ =>
  Option.bind (loop3 (fun rec19_ (place22_ : Int32) (r23_ : Int32) (σ24_ : St) =>
  if r23_ < (σ24_ village_a 8) then
  Option.bind (if q11_isIn runners1_ r23_ = true then (Option.bind (if place22_ = 0 then (Option.bind (q0_warmAll σ24_ village_a r23_) fun x45_ =>
  some (x45_)) else (some (σ24_))) fun y38_ =>
  lt (place22_ + (-1)) fun place47_ =>
  some (place47_, y38_)) else (some (place22_, σ24_))) fun y31_ =>
  lt (r23_ + 1) fun r49_ =>
  rec19_ y31_.1 r49_ y31_.2
  else (some (place22_, r23_, σ24_))) fuelN x14_ (0 : Int32) x12_.2) fun y16_ =>
  some y16_.2.2
abbrev rm0_holdSpeech : Room := { frames := 3, cells := 0, slots := 0, locals := 67 }
theorem c0_holdSpeech {l : Launch} {kd : List KD} {w : Wp} {σ : St} {village_a : Nat} (hkd : kd = kdC) (hi : zI kd w) (h_village : isV village_a) {r : St} (hf : q0_holdSpeech σ village_a = some r) : zM l kd w yX0_holdSpeech cX0_holdSpeech 6 none rm0_holdSpeech [.ref (w.2.2.1 13), .ref (w.2.2.1 village_a)] σ (none, r) := sorry
/-! LastLoaf$Baker.seatStarved -/
theorem fp0_60 {Θ : Tz} {cc : ByteArray} {nL kc ks : Nat} {ret : Option FieldType} {rm : Room} {Q : State → Prop} {σ : St} {pc : Nat} {lv : List (Nat × Value)} {st : List Value} (C : Zc Θ cc nL RX0 ret rm) (hkd : Θ.2.2.2.2.1 = kdC) {th : Nat} (hth : isV th) {x : Int32} {σ1 : St} (he : σ1 = up σ th 10 x) (hd : decode cc pc = .ok (.putfield 60, 3)) (kk : Z Θ nL kc ks Q σ1 (pc + 3) lv st) : Z Θ nL kc ks Q σ pc lv (.int x :: .ref (zA Θ th) :: st) := sorry
def q0_seatStarved (σ : St) (village_a : Nat) : Option St :=
  Option.bind (loop2 (fun rec4_ (p7_ : Int32) (σ8_ : St) =>
  if p7_ < (σ8_ village_a 8) then
  Option.bind (Option.bind (if q11_isIn (σ8_ village_a 10) p7_ = true then (some false) else (Option.bind (ag σ8_ (village_a + 1) 6 p7_) fun x23_ =>
  if x23_ = 9 then (some true) else (some false))) fun t20_ =>
  if t20_ = true then (lt (up σ8_ village_a 10 ((σ8_ village_a 10) ||| (shl 1 p7_))) fun σ27_ =>
  Option.bind (q3_write σ27_ (village_a + 8) (σ27_ village_a 12) 1 p7_ 0) fun x29_ =>
  some (x29_)) else (some (σ8_))) fun y15_ =>
  lt (p7_ + 1) fun p31_ =>
  rec4_ p31_ y15_
  else (some (p7_, σ8_))) fuelN (0 : Int32) σ) fun y1_ =>
  some y1_.2
abbrev rm0_seatStarved : Room := { frames := 2, cells := 0, slots := 0, locals := 46 }
theorem c0_seatStarved {l : Launch} {kd : List KD} {w : Wp} {σ : St} {village_a : Nat} (hkd : kd = kdC) (hi : zI kd w) (h_village : isV village_a) {r : St} (hf : q0_seatStarved σ village_a = some r) : zM l kd w yX0_seatStarved cX0_seatStarved 3 none rm0_seatStarved [.ref (w.2.2.1 13), .ref (w.2.2.1 village_a)] σ (none, r) := sorry
/-! LastLoaf$Baker.bakeWeeks -/
theorem w_3_127 : Cond.code ({ cls := "java/lang/Math", name := "floorMod", desc := "(II)I" } : MethodName) prog_23_method_50_code (3 : Nat) (Option.some ClassFile.FieldType.int) ∈ TB := sorry
theorem w_3_125 : Cond.methodLink "LastLoaf$Baker" (25 : Nat) ({ cls := "java/lang/Math", name := "floorMod", desc := "(II)I" } : MethodName) ∈ TB := sorry
theorem w_3_126 : Cond.static ({ cls := "java/lang/Math", name := "floorMod", desc := "(II)I" } : MethodName) ∈ TB := sorry
theorem w_1_116 : Cond.fieldLink "LastLoaf$Baker" (34 : Nat) "LastLoaf$Village" "grist" "[I" ∈ TB := sorry
theorem fg0_34 {Θ : Tz} {cc : ByteArray} {nL kc ks : Nat} {ret : Option FieldType} {rm : Room} {Q : State → Prop} {σ : St} {pc : Nat} {lv : List (Nat × Value)} {st : List Value} (C : Zc Θ cc nL RX0 ret rm) (hkd : Θ.2.2.2.2.1 = kdC) {th : Nat} (hth : isV th) (hd : decode cc pc = .ok (.getfield 34, 3)) (kk : Z Θ nL kc ks Q σ (pc + 3) lv (.ref (zA Θ (th + 7)) :: st)) : Z Θ nL kc ks Q σ pc lv (.ref (zA Θ th) :: st) := sorry
theorem w_3_134 : Cond.code ({ cls := "LastLoaf$Baker", name := "feedOthers", desc := "(LLastLoaf$Village;)V" } : MethodName) prog_2_method_3_code (3 : Nat) (Option.none : Option ClassFile.FieldType) ∈ TB := sorry
theorem w_3_131 : Cond.methodLink "LastLoaf$Baker" (41 : Nat) ({ cls := "LastLoaf$Baker", name := "feedOthers", desc := "(LLastLoaf$Village;)V" } : MethodName) ∈ TB := sorry
theorem w_3_132 : Cond.instanceMethod ({ cls := "LastLoaf$Baker", name := "feedOthers", desc := "(LLastLoaf$Village;)V" } : MethodName) ∈ TB := sorry
theorem w_3_133 : Cond.selects "LastLoaf$Baker" ({ cls := "LastLoaf$Baker", name := "feedOthers", desc := "(LLastLoaf$Village;)V" } : MethodName) ({ cls := "LastLoaf$Baker", name := "feedOthers", desc := "(LLastLoaf$Village;)V" } : MethodName) ∈ TB := sorry
theorem cr0_41 {Θ : Tz} {cc : ByteArray} {nL kc ks : Nat} {ret : Option FieldType} {rm : Room} {Q : State → Prop} {σ : St} {pc : Nat} {lv : List (Nat × Value)} {st : List Value} (C : Zc Θ cc nL RX0 ret rm) (hkd : Θ.2.2.2.2.1 = kdC) {village_a : Nat} (h_village : isV village_a) {r : St} (hx : q0_feedOthers σ village_a = some r) (hrm : rm0_feedOthers.frames + 1 ≤ rm.frames ∧ 8 + (3 + 11) + rm0_feedOthers.locals ≤ rm.locals) (hcat : (st.map fun v => v.category).sum ≤ 8) (hk : kc ≤ rm.cells ∧ ks ≤ rm.slots) (hd : decode cc pc = .ok (.invokevirtual 41, 3)) (kk : Z Θ nL kc ks Q r (pc + 3) lv st) : Z Θ nL kc ks Q σ pc lv (.ref (zA Θ village_a) :: .ref (zA Θ 13) :: st) := sorry
theorem w_3_144 : Cond.code ({ cls := "LastLoaf$Baker", name := "giveLastLoaf", desc := "(LLastLoaf$Village;)V" } : MethodName) prog_2_method_4_code (4 : Nat) (Option.none : Option ClassFile.FieldType) ∈ TB := sorry
theorem w_3_141 : Cond.methodLink "LastLoaf$Baker" (45 : Nat) ({ cls := "LastLoaf$Baker", name := "giveLastLoaf", desc := "(LLastLoaf$Village;)V" } : MethodName) ∈ TB := sorry
theorem w_3_142 : Cond.instanceMethod ({ cls := "LastLoaf$Baker", name := "giveLastLoaf", desc := "(LLastLoaf$Village;)V" } : MethodName) ∈ TB := sorry
theorem w_3_143 : Cond.selects "LastLoaf$Baker" ({ cls := "LastLoaf$Baker", name := "giveLastLoaf", desc := "(LLastLoaf$Village;)V" } : MethodName) ({ cls := "LastLoaf$Baker", name := "giveLastLoaf", desc := "(LLastLoaf$Village;)V" } : MethodName) ∈ TB := sorry
theorem cr0_45 {Θ : Tz} {cc : ByteArray} {nL kc ks : Nat} {ret : Option FieldType} {rm : Room} {Q : State → Prop} {σ : St} {pc : Nat} {lv : List (Nat × Value)} {st : List Value} (C : Zc Θ cc nL RX0 ret rm) (hkd : Θ.2.2.2.2.1 = kdC) {village_a : Nat} (h_village : isV village_a) {r : St} (hx : q0_giveLastLoaf σ village_a = some r) (hrm : rm0_giveLastLoaf.frames + 1 ≤ rm.frames ∧ 8 + (4 + 11) + rm0_giveLastLoaf.locals ≤ rm.locals) (hcat : (st.map fun v => v.category).sum ≤ 8) (hk : kc ≤ rm.cells ∧ ks ≤ rm.slots) (hd : decode cc pc = .ok (.invokevirtual 45, 3)) (kk : Z Θ nL kc ks Q r (pc + 3) lv st) : Z Θ nL kc ks Q σ pc lv (.ref (zA Θ village_a) :: .ref (zA Θ 13) :: st) := sorry
theorem w_3_211 : Cond.code ({ cls := "LastLoaf$Baker", name := "seatStarved", desc := "(LLastLoaf$Village;)V" } : MethodName) prog_2_method_5_code (3 : Nat) (Option.none : Option ClassFile.FieldType) ∈ TB := sorry
theorem w_3_208 : Cond.methodLink "LastLoaf$Baker" (48 : Nat) ({ cls := "LastLoaf$Baker", name := "seatStarved", desc := "(LLastLoaf$Village;)V" } : MethodName) ∈ TB := sorry
theorem w_3_209 : Cond.instanceMethod ({ cls := "LastLoaf$Baker", name := "seatStarved", desc := "(LLastLoaf$Village;)V" } : MethodName) ∈ TB := sorry
theorem w_3_210 : Cond.selects "LastLoaf$Baker" ({ cls := "LastLoaf$Baker", name := "seatStarved", desc := "(LLastLoaf$Village;)V" } : MethodName) ({ cls := "LastLoaf$Baker", name := "seatStarved", desc := "(LLastLoaf$Village;)V" } : MethodName) ∈ TB := sorry
theorem cr0_48 {Θ : Tz} {cc : ByteArray} {nL kc ks : Nat} {ret : Option FieldType} {rm : Room} {Q : State → Prop} {σ : St} {pc : Nat} {lv : List (Nat × Value)} {st : List Value} (C : Zc Θ cc nL RX0 ret rm) (hkd : Θ.2.2.2.2.1 = kdC) {village_a : Nat} (h_village : isV village_a) {r : St} (hx : q0_seatStarved σ village_a = some r) (hrm : rm0_seatStarved.frames + 1 ≤ rm.frames ∧ 8 + (3 + 11) + rm0_seatStarved.locals ≤ rm.locals) (hcat : (st.map fun v => v.category).sum ≤ 8) (hk : kc ≤ rm.cells ∧ ks ≤ rm.slots) (hd : decode cc pc = .ok (.invokevirtual 48, 3)) (kk : Z Θ nL kc ks Q r (pc + 3) lv st) : Z Θ nL kc ks Q σ pc lv (.ref (zA Θ village_a) :: .ref (zA Θ 13) :: st) := sorry
theorem w_3_215 : Cond.code ({ cls := "LastLoaf$Baker", name := "holdSpeech", desc := "(LLastLoaf$Village;)V" } : MethodName) prog_2_method_6_code (6 : Nat) (Option.none : Option ClassFile.FieldType) ∈ TB := sorry
theorem w_3_212 : Cond.methodLink "LastLoaf$Baker" (51 : Nat) ({ cls := "LastLoaf$Baker", name := "holdSpeech", desc := "(LLastLoaf$Village;)V" } : MethodName) ∈ TB := sorry
theorem w_3_213 : Cond.instanceMethod ({ cls := "LastLoaf$Baker", name := "holdSpeech", desc := "(LLastLoaf$Village;)V" } : MethodName) ∈ TB := sorry
theorem w_3_214 : Cond.selects "LastLoaf$Baker" ({ cls := "LastLoaf$Baker", name := "holdSpeech", desc := "(LLastLoaf$Village;)V" } : MethodName) ({ cls := "LastLoaf$Baker", name := "holdSpeech", desc := "(LLastLoaf$Village;)V" } : MethodName) ∈ TB := sorry
theorem cr0_51 {Θ : Tz} {cc : ByteArray} {nL kc ks : Nat} {ret : Option FieldType} {rm : Room} {Q : State → Prop} {σ : St} {pc : Nat} {lv : List (Nat × Value)} {st : List Value} (C : Zc Θ cc nL RX0 ret rm) (hkd : Θ.2.2.2.2.1 = kdC) {village_a : Nat} (h_village : isV village_a) {r : St} (hx : q0_holdSpeech σ village_a = some r) (hrm : rm0_holdSpeech.frames + 1 ≤ rm.frames ∧ 8 + (6 + 11) + rm0_holdSpeech.locals ≤ rm.locals) (hcat : (st.map fun v => v.category).sum ≤ 8) (hk : kc ≤ rm.cells ∧ ks ≤ rm.slots) (hd : decode cc pc = .ok (.invokevirtual 51, 3)) (kk : Z Θ nL kc ks Q r (pc + 3) lv st) : Z Θ nL kc ks Q σ pc lv (.ref (zA Θ village_a) :: .ref (zA Θ 13) :: st) := sorry
theorem fp0_19 {Θ : Tz} {cc : ByteArray} {nL kc ks : Nat} {ret : Option FieldType} {rm : Room} {Q : State → Prop} {σ : St} {pc : Nat} {lv : List (Nat × Value)} {st : List Value} (C : Zc Θ cc nL RX0 ret rm) (hkd : Θ.2.2.2.2.1 = kdC) {th : Nat} (hth : isV th) {x : Int32} {σ1 : St} (he : σ1 = up σ th 12 x) (hd : decode cc pc = .ok (.putfield 19, 3)) (kk : Z Θ nL kc ks Q σ1 (pc + 3) lv st) : Z Θ nL kc ks Q σ pc lv (.int x :: .ref (zA Θ th) :: st) := sorry
def q0_bakeWeeks (σ : St) (village_a : Nat) (n_a : Int32) (speeches_a : Bool) : Option St :=
  Option.bind (loop2 (fun rec4_ (i7_ : Int32) (σ8_ : St) =>
  if i7_ < n_a then
  lt (fmod (σ8_ village_a 12) 4) fun season15_ =>
  Option.bind (ag σ8_ (village_a + 7) 4 season15_) fun x17_ =>
  lt (up σ8_ village_a 11 (imin 9999 ((σ8_ village_a 11) + x17_))) fun σ19_ =>
  Option.bind (q0_feedOthers σ19_ village_a) fun x21_ =>
  Option.bind (q0_giveLastLoaf x21_ village_a) fun x23_ =>
  Option.bind (q0_seatStarved x23_ village_a) fun x25_ =>
  Option.bind (if speeches_a = true then (Option.bind (q0_holdSpeech x25_ village_a) fun x34_ =>
  some (x34_)) else (some (x25_))) fun y27_ =>
  lt (up y27_ village_a 12 (imin 9999 ((y27_ village_a 12) + 1))) fun σ36_ =>
  lt (i7_ + 1) fun i38_ =>
  rec4_ i38_ σ36_
  else (some (i7_, σ8_))) fuelN (0 : Int32) σ) fun y1_ =>
  some y1_.2
abbrev rm0_bakeWeeks : Room := { frames := 5, cells := 0, slots := 0, locals := 119 }
theorem c0_bakeWeeks {l : Launch} {kd : List KD} {w : Wp} {σ : St} {village_a : Nat} {n_a : Int32} {speeches_a : Bool} (hkd : kd = kdC) (hi : zI kd w) (h_village : isV village_a) {r : St} (hf : q0_bakeWeeks σ village_a n_a speeches_a = some r) : zM l kd w yX0_bakeWeeks cX0_bakeWeeks 6 none rm0_bakeWeeks [.ref (w.2.2.1 13), .ref (w.2.2.1 village_a), .int n_a, .int (b2i speeches_a)] σ (none, r) := sorry
/-! LastLoaf$Past.remember -/
theorem w_2_24 : Cond.fieldLink "LastLoaf$Past" (11 : Nat) "LastLoaf$Past" "kept" "[LLastLoaf$Village;" ∈ TB := sorry
theorem fg4_11 {Θ : Tz} {cc : ByteArray} {nL kc ks : Nat} {ret : Option FieldType} {rm : Room} {Q : State → Prop} {σ : St} {pc : Nat} {lv : List (Nat × Value)} {st : List Value} (C : Zc Θ cc nL RX4 ret rm) (hkd : Θ.2.2.2.2.1 = kdC) (hd : decode cc pc = .ok (.getfield 11, 3)) (kk : Z Θ nL kc ks Q σ (pc + 3) lv (.ref (zA Θ 31) :: st)) : Z Θ nL kc ks Q σ pc lv (.ref (zA Θ 5) :: st) := sorry
theorem w_2_27 : Cond.fieldLink "LastLoaf$Past" (21 : Nat) "LastLoaf$Past" "following" "I" ∈ TB := sorry
theorem fg4_21 {Θ : Tz} {cc : ByteArray} {nL kc ks : Nat} {ret : Option FieldType} {rm : Room} {Q : State → Prop} {σ : St} {pc : Nat} {lv : List (Nat × Value)} {st : List Value} (C : Zc Θ cc nL RX4 ret rm) (hkd : Θ.2.2.2.2.1 = kdC) (hd : decode cc pc = .ok (.getfield 21, 3)) (kk : Z Θ nL kc ks Q σ (pc + 3) lv (.int (σ 5 2) :: st)) : Z Θ nL kc ks Q σ pc lv (.ref (zA Θ 5) :: st) := sorry
theorem w_4_127 : Cond.methodLink "LastLoaf$Past" (25 : Nat) ({ cls := "LastLoaf$Village", name := "become", desc := "(LLastLoaf$Village;)V" } : MethodName) ∈ TB := sorry
theorem cr4_25 {Θ : Tz} {cc : ByteArray} {nL kc ks : Nat} {ret : Option FieldType} {rm : Room} {Q : State → Prop} {σ : St} {pc : Nat} {lv : List (Nat × Value)} {st : List Value} (C : Zc Θ cc nL RX4 ret rm) (hkd : Θ.2.2.2.2.1 = kdC) {th : Nat} {other_a : Nat} (hth : isV th) (h_other : isV other_a) {r : St} (hx : q10_become σ th other_a = some r) (hrm : rm10_become.frames + 1 ≤ rm.frames ∧ 8 + (2 + 11) + rm10_become.locals ≤ rm.locals) (hcat : (st.map fun v => v.category).sum ≤ 8) (hk : kc ≤ rm.cells ∧ ks ≤ rm.slots) (hd : decode cc pc = .ok (.invokevirtual 25, 3)) (kk : Z Θ nL kc ks Q r (pc + 3) lv st) : Z Θ nL kc ks Q σ pc lv (.ref (zA Θ other_a) :: .ref (zA Θ th) :: st) := sorry
theorem fp4_21 {Θ : Tz} {cc : ByteArray} {nL kc ks : Nat} {ret : Option FieldType} {rm : Room} {Q : State → Prop} {σ : St} {pc : Nat} {lv : List (Nat × Value)} {st : List Value} (C : Zc Θ cc nL RX4 ret rm) (hkd : Θ.2.2.2.2.1 = kdC) {x : Int32} {σ1 : St} (he : σ1 = up σ 5 2 x) (hd : decode cc pc = .ok (.putfield 21, 3)) (kk : Z Θ nL kc ks Q σ1 (pc + 3) lv st) : Z Θ nL kc ks Q σ pc lv (.int x :: .ref (zA Θ 5) :: st) := sorry
theorem fg4_17 {Θ : Tz} {cc : ByteArray} {nL kc ks : Nat} {ret : Option FieldType} {rm : Room} {Q : State → Prop} {σ : St} {pc : Nat} {lv : List (Nat × Value)} {st : List Value} (C : Zc Θ cc nL RX4 ret rm) (hkd : Θ.2.2.2.2.1 = kdC) (hd : decode cc pc = .ok (.getfield 17, 3)) (kk : Z Θ nL kc ks Q σ (pc + 3) lv (.int (σ 5 1) :: st)) : Z Θ nL kc ks Q σ pc lv (.ref (zA Θ 5) :: st) := sorry
theorem w_6_89 : Cond.methodLink "LastLoaf$Past" (29 : Nat) ({ cls := "java/lang/Math", name := "min", desc := "(II)I" } : MethodName) ∈ TB := sorry
def q4_remember (σ : St) (village_a : Nat) : Option St :=
  Option.bind (kpt (σ 5 2)) fun x1_ =>
  Option.bind (q10_become σ x1_ village_a) fun x3_ =>
  lt (up x3_ 5 2 (irm ((x3_ 5 2) + 1) 12)) fun σ5_ =>
  lt (up σ5_ 5 1 (imin 12 ((σ5_ 5 1) + 1))) fun σ7_ =>
  some σ7_
abbrev rm4_remember : Room := { frames := 3, cells := 0, slots := 0, locals := 82 }
theorem c4_remember {l : Launch} {kd : List KD} {w : Wp} {σ : St} {village_a : Nat} (hkd : kd = kdC) (hi : zI kd w) (h_village : isV village_a) {r : St} (hf : q4_remember σ village_a = some r) : zM l kd w yX4_remember cX4_remember 2 none rm4_remember [.ref (w.2.2.1 5), .ref (w.2.2.1 village_a)] σ (none, r) := sorry
/-! LastLoaf.weeks -/
theorem w_6_83 : Cond.code ({ cls := "LastLoaf", name := "needNumber", desc := "(III)V" } : MethodName) prog_1_method_70_code (3 : Nat) (Option.none : Option ClassFile.FieldType) ∈ TB := sorry
theorem w_6_81 : Cond.methodLink "LastLoaf" (231 : Nat) ({ cls := "LastLoaf", name := "needNumber", desc := "(III)V" } : MethodName) ∈ TB := sorry
theorem w_6_82 : Cond.static ({ cls := "LastLoaf", name := "needNumber", desc := "(III)V" } : MethodName) ∈ TB := sorry
theorem w_6_88 : Cond.code ({ cls := "LastLoaf$Past", name := "remember", desc := "(LLastLoaf$Village;)V" } : MethodName) prog_6_method_2_code (2 : Nat) (Option.none : Option ClassFile.FieldType) ∈ TB := sorry
theorem w_6_85 : Cond.methodLink "LastLoaf" (235 : Nat) ({ cls := "LastLoaf$Past", name := "remember", desc := "(LLastLoaf$Village;)V" } : MethodName) ∈ TB := sorry
theorem w_6_86 : Cond.instanceMethod ({ cls := "LastLoaf$Past", name := "remember", desc := "(LLastLoaf$Village;)V" } : MethodName) ∈ TB := sorry
theorem w_6_87 : Cond.selects "LastLoaf$Past" ({ cls := "LastLoaf$Past", name := "remember", desc := "(LLastLoaf$Village;)V" } : MethodName) ({ cls := "LastLoaf$Past", name := "remember", desc := "(LLastLoaf$Village;)V" } : MethodName) ∈ TB := sorry
theorem cr11_235 {Θ : Tz} {cc : ByteArray} {nL kc ks : Nat} {ret : Option FieldType} {rm : Room} {Q : State → Prop} {σ : St} {pc : Nat} {lv : List (Nat × Value)} {st : List Value} (C : Zc Θ cc nL RX11 ret rm) (hkd : Θ.2.2.2.2.1 = kdC) {village_a : Nat} (h_village : isV village_a) {r : St} (hx : q4_remember σ village_a = some r) (hrm : rm4_remember.frames + 1 ≤ rm.frames ∧ 8 + (2 + 11) + rm4_remember.locals ≤ rm.locals) (hcat : (st.map fun v => v.category).sum ≤ 8) (hk : kc ≤ rm.cells ∧ ks ≤ rm.slots) (hd : decode cc pc = .ok (.invokevirtual 235, 3)) (kk : Z Θ nL kc ks Q r (pc + 3) lv st) : Z Θ nL kc ks Q σ pc lv (.ref (zA Θ village_a) :: .ref (zA Θ 5) :: st) := sorry
theorem w_2_197 : Cond.fieldLink "LastLoaf" (70 : Nat) "LastLoaf" "baker" "LLastLoaf$Baker;" ∈ TB := sorry
theorem fg11_70 {Θ : Tz} {cc : ByteArray} {nL kc ks : Nat} {ret : Option FieldType} {rm : Room} {Q : State → Prop} {σ : St} {pc : Nat} {lv : List (Nat × Value)} {st : List Value} (C : Zc Θ cc nL RX11 ret rm) (hkd : Θ.2.2.2.2.1 = kdC) (hd : decode cc pc = .ok (.getfield 70, 3)) (kk : Z Θ nL kc ks Q σ (pc + 3) lv (.ref (zA Θ 13) :: st)) : Z Θ nL kc ks Q σ pc lv (.ref (zA Θ 0) :: st) := sorry
theorem w_3_124 : Cond.code ({ cls := "LastLoaf$Baker", name := "bakeWeeks", desc := "(LLastLoaf$Village;IZ)V" } : MethodName) prog_2_method_2_code (6 : Nat) (Option.none : Option ClassFile.FieldType) ∈ TB := sorry
theorem w_3_121 : Cond.methodLink "LastLoaf" (243 : Nat) ({ cls := "LastLoaf$Baker", name := "bakeWeeks", desc := "(LLastLoaf$Village;IZ)V" } : MethodName) ∈ TB := sorry
theorem w_3_122 : Cond.instanceMethod ({ cls := "LastLoaf$Baker", name := "bakeWeeks", desc := "(LLastLoaf$Village;IZ)V" } : MethodName) ∈ TB := sorry
theorem w_3_123 : Cond.selects "LastLoaf$Baker" ({ cls := "LastLoaf$Baker", name := "bakeWeeks", desc := "(LLastLoaf$Village;IZ)V" } : MethodName) ({ cls := "LastLoaf$Baker", name := "bakeWeeks", desc := "(LLastLoaf$Village;IZ)V" } : MethodName) ∈ TB := sorry
theorem cr11_243 {Θ : Tz} {cc : ByteArray} {nL kc ks : Nat} {ret : Option FieldType} {rm : Room} {Q : State → Prop} {σ : St} {pc : Nat} {lv : List (Nat × Value)} {st : List Value} (C : Zc Θ cc nL RX11 ret rm) (hkd : Θ.2.2.2.2.1 = kdC) {village_a : Nat} {n_a : Int32} {speeches_a : Bool} (h_village : isV village_a) {r : St} (hx : q0_bakeWeeks σ village_a n_a speeches_a = some r) (hrm : rm0_bakeWeeks.frames + 1 ≤ rm.frames ∧ 8 + (6 + 11) + rm0_bakeWeeks.locals ≤ rm.locals) (hcat : (st.map fun v => v.category).sum ≤ 8) (hk : kc ≤ rm.cells ∧ ks ≤ rm.slots) (hd : decode cc pc = .ok (.invokevirtual 243, 3)) (kk : Z Θ nL kc ks Q r (pc + 3) lv st) : Z Θ nL kc ks Q σ pc lv (.int (b2i speeches_a) :: .int n_a :: .ref (zA Θ village_a) :: .ref (zA Θ 13) :: st) := sorry
def q11_weeks (σ : St) (n_a : Int32) : Option (Sum Nat Int32 × St) :=
  thn (q11_needNumber n_a 1 60) σ
  (Option.bind (q4_remember σ 44) fun x3_ =>
  lt (bcount (x3_ 44 10)) fun benchedAhead5_ =>
  Option.bind (q0_bakeWeeks x3_ 44 n_a true) fun x7_ =>
  some (.inr ((bcount (x7_ 44 10)) - benchedAhead5_), x7_))
abbrev rm11_weeks : Room := { frames := 7, cells := 1, slots := 6, locals := 144 }
theorem c11_weeks {l : Launch} {kd : List KD} {w : Wp} {σ : St} {n_a : Int32} (hkd : kd = kdC) (hi : zI kd w) (hlt : l.stackTraces = false) {r : (Sum Nat Int32 × St)} (hf : q11_weeks σ n_a = some r) : zX l kd w yX11_weeks cX11_weeks 3 (some .int) rm11_weeks [.ref (w.2.2.1 0), .int n_a] σ (om (fun v => some (.int v)) r) 1 6 := sorry
/-! LastLoaf.stand -/
theorem th11_1_251g : ∀ w ∈ (vx_atS RX11 251 (exn 1) ["java/lang/RuntimeException", "java/lang/Exception"]).filter goodWord, w ∈ TB := sorry
theorem th11_1_251n : ∀ w ∈ (vx_atS RX11 251 (exn 1) ["java/lang/RuntimeException", "java/lang/Exception"]).filter (fun w => !goodWord w), w ∈ nestW := sorry
theorem th11_1_251o : ∀ w ∈ Cond.classLink RX11 247 (exn 1) :: Cond.initialized (exn 1) :: vx_atS RX11 251 (exn 1) ["java/lang/RuntimeException", "java/lang/Exception"], vx_ot w = true := sorry
theorem w_6_98 : Cond.classLink "LastLoaf" (247 : Nat) "java/lang/IllegalStateException" ∈ TB := sorry
theorem w_1_29 : Cond.initialized "java/lang/IllegalStateException" ∈ TB := sorry
theorem w_4_32 : Cond.methodLink "LastLoaf" (252 : Nat) ({ cls := "LastLoaf", name := "without", desc := "(II)I" } : MethodName) ∈ TB := sorry
theorem cr11_252 {Θ : Tz} {cc : ByteArray} {nL kc ks : Nat} {ret : Option FieldType} {rm : Room} {Q : State → Prop} {σ : St} {pc : Nat} {lv : List (Nat × Value)} {st : List Value} (C : Zc Θ cc nL RX11 ret rm) (hkd : Θ.2.2.2.2.1 = kdC) {set_a : Int32} {person_a : Int32} (hrm : rm11_without.frames + 1 ≤ rm.frames ∧ 8 + (2 + 11) + rm11_without.locals ≤ rm.locals) (hcat : (st.map fun v => v.category).sum ≤ 8) (hk : kc ≤ rm.cells ∧ ks ≤ rm.slots) (hd : decode cc pc = .ok (.invokestatic 252, 3)) (kk : Z Θ nL kc ks Q σ (pc + 3) lv (.int (q11_without set_a person_a) :: st)) : Z Θ nL kc ks Q σ pc lv (.int person_a :: .int set_a :: st) := sorry
theorem fp11_164 {Θ : Tz} {cc : ByteArray} {nL kc ks : Nat} {ret : Option FieldType} {rm : Room} {Q : State → Prop} {σ : St} {pc : Nat} {lv : List (Nat × Value)} {st : List Value} (C : Zc Θ cc nL RX11 ret rm) (hkd : Θ.2.2.2.2.1 = kdC) {th : Nat} (hth : isV th) {x : Int32} {σ1 : St} (he : σ1 = up σ th 9 x) (hd : decode cc pc = .ok (.putfield 164, 3)) (kk : Z Θ nL kc ks Q σ1 (pc + 3) lv st) : Z Θ nL kc ks Q σ pc lv (.int x :: .ref (zA Θ th) :: st) := sorry
def q11_stand (σ : St) (person_a : Int32) (is_a : Bool) : Option (Sum Nat Bool × St) :=
  thn (q11_needPerson σ person_a) σ
  (if q11_isIn (σ 44 10) person_a = true then (some (.inl 1, σ)) else
  Option.bind (q4_remember σ 44) fun x7_ =>
  lt (q11_isIn (x7_ 44 9) person_a) fun was9_ =>
  lt (up x7_ 44 9 (if is_a = true then (x7_ 44 9) ||| (shl 1 person_a) else q11_without (x7_ 44 9) person_a)) fun σ16_ =>
  some (.inr (decide (¬ (b2i was9_) = (b2i is_a))), σ16_))
abbrev rm11_stand : Room := { frames := 7, cells := 2, slots := 12, locals := 111 }
theorem c11_stand {l : Launch} {kd : List KD} {w : Wp} {σ : St} {person_a : Int32} {is_a : Bool} (hkd : kd = kdC) (hi : zI kd w) (hlt : l.stackTraces = false) {r : (Sum Nat Bool × St)} (hf : q11_stand σ person_a is_a = some r) : zX l kd w yX11_stand cX11_stand 4 (some .boolean) rm11_stand [.ref (w.2.2.1 0), .int person_a, .int (b2i is_a)] σ (om (fun v => some (.int (b2i v))) r) 2 12 := sorry
/-! LastLoaf.like -/
theorem w_1_114 : Cond.fieldLink "LastLoaf" (255 : Nat) "LastLoaf$Village" "likes" "[I" ∈ TB := sorry
theorem fg11_255 {Θ : Tz} {cc : ByteArray} {nL kc ks : Nat} {ret : Option FieldType} {rm : Room} {Q : State → Prop} {σ : St} {pc : Nat} {lv : List (Nat × Value)} {st : List Value} (C : Zc Θ cc nL RX11 ret rm) (hkd : Θ.2.2.2.2.1 = kdC) {th : Nat} (hth : isV th) (hd : decode cc pc = .ok (.getfield 255, 3)) (kk : Z Θ nL kc ks Q σ (pc + 3) lv (.ref (zA Θ (th + 6)) :: st)) : Z Θ nL kc ks Q σ pc lv (.ref (zA Θ th) :: st) := sorry
def q11_like (σ : St) (person_a : Int32) (other_a : Int32) (n_a : Int32) : Option (Sum Nat Int32 × St) :=
  thn (q11_needTwo σ person_a other_a) σ
  (thn (q11_needNumber n_a 0 9) σ
  (Option.bind (q4_remember σ 44) fun x5_ =>
  Option.bind (q10_likingOf x5_ 44 person_a other_a) fun x7_ =>
  Option.bind (sa x5_ (44 + 6) 36 ((person_a * 6) + other_a) n_a) fun σ9_ =>
  some (.inr x7_, σ9_)))
abbrev rm11_like : Room := { frames := 8, cells := 4, slots := 24, locals := 133 }
theorem c11_like {l : Launch} {kd : List KD} {w : Wp} {σ : St} {person_a : Int32} {other_a : Int32} {n_a : Int32} (hkd : kd = kdC) (hi : zI kd w) (hlt : l.stackTraces = false) {r : (Sum Nat Int32 × St)} (hf : q11_like σ person_a other_a n_a = some r) : zX l kd w yX11_like cX11_like 5 (some .int) rm11_like [.ref (w.2.2.1 0), .int person_a, .int other_a, .int n_a] σ (om (fun v => some (.int v)) r) 4 24 := sorry
/-! LastLoaf.needParty -/
def q11_needParty (party_a : Int32) : Option Nat :=
  if (party_a < 0) ∨ (3 ≤ party_a) then (some 2) else
  none
abbrev rm11_needParty : Room := { frames := 6, cells := 1, slots := 6, locals := 90 }
theorem c11_needParty {l : Launch} {kd : List KD} {w : Wp} {σ : St} {party_a : Int32} (hkd : kd = kdC) (hi : zI kd w) (hlt : l.stackTraces = false) : zX l kd w yX11_needParty cX11_needParty 1 none rm11_needParty [.int party_a] σ (omN (q11_needParty party_a) σ) 1 6 := sorry
/-! LastLoaf.join -/
theorem w_6_130 : Cond.code ({ cls := "LastLoaf", name := "needParty", desc := "(I)V" } : MethodName) prog_1_method_71_code (1 : Nat) (Option.none : Option ClassFile.FieldType) ∈ TB := sorry
theorem w_6_128 : Cond.methodLink "LastLoaf" (258 : Nat) ({ cls := "LastLoaf", name := "needParty", desc := "(I)V" } : MethodName) ∈ TB := sorry
theorem w_6_129 : Cond.static ({ cls := "LastLoaf", name := "needParty", desc := "(I)V" } : MethodName) ∈ TB := sorry
def q11_join (σ : St) (person_a : Int32) (party_a : Int32) : Option (Sum Nat Int32 × St) :=
  thn (q11_needPerson σ person_a) σ
  (thn (q11_needParty party_a) σ
  (Option.bind (q4_remember σ 44) fun x5_ =>
  Option.bind (ag x5_ (44 + 2) 6 person_a) fun x7_ =>
  Option.bind (sa x5_ (44 + 2) 6 person_a party_a) fun σ9_ =>
  some (.inr x7_, σ9_)))
abbrev rm11_join : Room := { frames := 7, cells := 2, slots := 12, locals := 111 }
theorem c11_join {l : Launch} {kd : List KD} {w : Wp} {σ : St} {person_a : Int32} {party_a : Int32} (hkd : kd = kdC) (hi : zI kd w) (hlt : l.stackTraces = false) {r : (Sum Nat Int32 × St)} (hf : q11_join σ person_a party_a = some r) : zX l kd w yX11_join cX11_join 4 (some .int) rm11_join [.ref (w.2.2.1 0), .int person_a, .int party_a] σ (om (fun v => some (.int v)) r) 2 12 := sorry
/-! LastLoaf.bring -/
theorem w_1_146 : Cond.fieldLink "LastLoaf" (261 : Nat) "LastLoaf$Village" "flour" "I" ∈ TB := sorry
theorem fg11_261 {Θ : Tz} {cc : ByteArray} {nL kc ks : Nat} {ret : Option FieldType} {rm : Room} {Q : State → Prop} {σ : St} {pc : Nat} {lv : List (Nat × Value)} {st : List Value} (C : Zc Θ cc nL RX11 ret rm) (hkd : Θ.2.2.2.2.1 = kdC) {th : Nat} (hth : isV th) (hd : decode cc pc = .ok (.getfield 261, 3)) (kk : Z Θ nL kc ks Q σ (pc + 3) lv (.int (σ th 11) :: st)) : Z Θ nL kc ks Q σ pc lv (.ref (zA Θ th) :: st) := sorry
theorem w_6_139 : Cond.methodLink "LastLoaf" (264 : Nat) ({ cls := "java/lang/Math", name := "min", desc := "(II)I" } : MethodName) ∈ TB := sorry
theorem fp11_261 {Θ : Tz} {cc : ByteArray} {nL kc ks : Nat} {ret : Option FieldType} {rm : Room} {Q : State → Prop} {σ : St} {pc : Nat} {lv : List (Nat × Value)} {st : List Value} (C : Zc Θ cc nL RX11 ret rm) (hkd : Θ.2.2.2.2.1 = kdC) {th : Nat} (hth : isV th) {x : Int32} {σ1 : St} (he : σ1 = up σ th 11 x) (hd : decode cc pc = .ok (.putfield 261, 3)) (kk : Z Θ nL kc ks Q σ1 (pc + 3) lv st) : Z Θ nL kc ks Q σ pc lv (.int x :: .ref (zA Θ th) :: st) := sorry
def q11_bring (σ : St) (n_a : Int32) : Option (Sum Nat Int32 × St) :=
  thn (q11_needNumber n_a 1 999) σ
  (Option.bind (q4_remember σ 44) fun x3_ =>
  lt (up x3_ 44 11 (imin 9999 ((x3_ 44 11) + n_a))) fun σ5_ =>
  some (.inr (σ5_ 44 11), σ5_))
abbrev rm11_bring : Room := { frames := 7, cells := 1, slots := 6, locals := 112 }
theorem c11_bring {l : Launch} {kd : List KD} {w : Wp} {σ : St} {n_a : Int32} (hkd : kd = kdC) (hi : zI kd w) (hlt : l.stackTraces = false) {r : (Sum Nat Int32 × St)} (hf : q11_bring σ n_a = some r) : zX l kd w yX11_bring cX11_bring 2 (some .int) rm11_bring [.ref (w.2.2.1 0), .int n_a] σ (om (fun v => some (.int v)) r) 1 6 := sorry
/-! LastLoaf.way -/
theorem w_1_155 : Cond.fieldLink "LastLoaf" (269 : Nat) "LastLoaf$Village" "way" "I" ∈ TB := sorry
theorem fg11_269 {Θ : Tz} {cc : ByteArray} {nL kc ks : Nat} {ret : Option FieldType} {rm : Room} {Q : State → Prop} {σ : St} {pc : Nat} {lv : List (Nat × Value)} {st : List Value} (C : Zc Θ cc nL RX11 ret rm) (hkd : Θ.2.2.2.2.1 = kdC) {th : Nat} (hth : isV th) (hd : decode cc pc = .ok (.getfield 269, 3)) (kk : Z Θ nL kc ks Q σ (pc + 3) lv (.int (σ th 13) :: st)) : Z Θ nL kc ks Q σ pc lv (.ref (zA Θ th) :: st) := sorry
theorem fp11_269 {Θ : Tz} {cc : ByteArray} {nL kc ks : Nat} {ret : Option FieldType} {rm : Room} {Q : State → Prop} {σ : St} {pc : Nat} {lv : List (Nat × Value)} {st : List Value} (C : Zc Θ cc nL RX11 ret rm) (hkd : Θ.2.2.2.2.1 = kdC) {th : Nat} (hth : isV th) {x : Int32} {σ1 : St} (he : σ1 = up σ th 13 x) (hd : decode cc pc = .ok (.putfield 269, 3)) (kk : Z Θ nL kc ks Q σ1 (pc + 3) lv st) : Z Θ nL kc ks Q σ pc lv (.int x :: .ref (zA Θ th) :: st) := sorry
def q11_way (σ : St) (n_a : Int32) : Option (Sum Nat Int32 × St) :=
  thn (q11_needNumber n_a 0 5) σ
  (Option.bind (q4_remember σ 44) fun x3_ =>
  lt (x3_ 44 13) fun was5_ =>
  lt (up x3_ 44 13 n_a) fun σ7_ =>
  some (.inr was5_, σ7_))
abbrev rm11_way : Room := { frames := 7, cells := 1, slots := 6, locals := 112 }
theorem c11_way {l : Launch} {kd : List KD} {w : Wp} {σ : St} {n_a : Int32} (hkd : kd = kdC) (hi : zI kd w) (hlt : l.stackTraces = false) {r : (Sum Nat Int32 × St)} (hf : q11_way σ n_a = some r) : zX l kd w yX11_way cX11_way 3 (some .int) rm11_way [.ref (w.2.2.1 0), .int n_a] σ (om (fun v => some (.int v)) r) 1 6 := sorry
/-! LastLoaf.pass -/
theorem w_6_155 : Cond.methodLink "LastLoaf" (274 : Nat) ({ cls := "LastLoaf$Village", name := "warm", desc := "(II)V" } : MethodName) ∈ TB := sorry
theorem cr11_274 {Θ : Tz} {cc : ByteArray} {nL kc ks : Nat} {ret : Option FieldType} {rm : Room} {Q : State → Prop} {σ : St} {pc : Nat} {lv : List (Nat × Value)} {st : List Value} (C : Zc Θ cc nL RX11 ret rm) (hkd : Θ.2.2.2.2.1 = kdC) {th : Nat} {person_a : Int32} {other_a : Int32} (hth : isV th) {r : St} (hx : q10_warm σ th person_a other_a = some r) (hrm : rm10_warm.frames + 1 ≤ rm.frames ∧ 8 + (4 + 11) + rm10_warm.locals ≤ rm.locals) (hcat : (st.map fun v => v.category).sum ≤ 8) (hk : kc ≤ rm.cells ∧ ks ≤ rm.slots) (hd : decode cc pc = .ok (.invokevirtual 274, 3)) (kk : Z Θ nL kc ks Q r (pc + 3) lv st) : Z Θ nL kc ks Q σ pc lv (.int other_a :: .int person_a :: .ref (zA Θ th) :: st) := sorry
def q11_pass (σ : St) (person_a : Int32) (other_a : Int32) : Option (Sum Nat Int32 × St) :=
  thn (q11_needTwo σ person_a other_a) σ
  (Option.bind (ag σ (44 + 1) 6 person_a) fun x5_ =>
  if ((¬ x5_ = 0) ∨ (q11_isIn (σ 44 10) person_a = true)) ∨ (q11_isIn (σ 44 10) other_a = true) then (some (.inl 1, σ)) else
  Option.bind (q4_remember σ 44) fun x11_ =>
  Option.bind (sa x11_ (44 + 1) 6 person_a 1) fun σ13_ =>
  Option.bind (sa σ13_ (44 + 1) 6 other_a 0) fun σ15_ =>
  Option.bind (q10_warm σ15_ 44 other_a person_a) fun x17_ =>
  Option.bind (q10_likingOf x17_ 44 other_a person_a) fun x19_ =>
  some (.inr x19_, x17_))
abbrev rm11_pass : Room := { frames := 8, cells := 4, slots := 24, locals := 133 }
theorem c11_pass {l : Launch} {kd : List KD} {w : Wp} {σ : St} {person_a : Int32} {other_a : Int32} (hkd : kd = kdC) (hi : zI kd w) (hlt : l.stackTraces = false) {r : (Sum Nat Int32 × St)} (hf : q11_pass σ person_a other_a = some r) : zX l kd w yX11_pass cX11_pass 3 (some .int) rm11_pass [.ref (w.2.2.1 0), .int person_a, .int other_a] σ (om (fun v => some (.int v)) r) 4 24 := sorry
/-! LastLoaf.fetch -/
theorem fp11_171 {Θ : Tz} {cc : ByteArray} {nL kc ks : Nat} {ret : Option FieldType} {rm : Room} {Q : State → Prop} {σ : St} {pc : Nat} {lv : List (Nat × Value)} {st : List Value} (C : Zc Θ cc nL RX11 ret rm) (hkd : Θ.2.2.2.2.1 = kdC) {th : Nat} (hth : isV th) {x : Int32} {σ1 : St} (he : σ1 = up σ th 10 x) (hd : decode cc pc = .ok (.putfield 171, 3)) (kk : Z Θ nL kc ks Q σ1 (pc + 3) lv st) : Z Θ nL kc ks Q σ pc lv (.int x :: .ref (zA Θ th) :: st) := sorry
def q11_fetch (σ : St) (person_a : Int32) : Option (Sum Nat Int32 × St) :=
  thn (q11_needPerson σ person_a) σ
  (if ¬ (q11_isIn (σ 44 10) person_a = true) then (some (.inl 1, σ)) else
  Option.bind (q4_remember σ 44) fun x7_ =>
  lt (up x7_ 44 10 (q11_without (x7_ 44 10) person_a)) fun σ9_ =>
  Option.bind (sa σ9_ (44 + 1) 6 person_a 5) fun σ11_ =>
  some (.inr (bcount (σ11_ 44 10)), σ11_))
abbrev rm11_fetch : Room := { frames := 7, cells := 2, slots := 12, locals := 111 }
theorem c11_fetch {l : Launch} {kd : List KD} {w : Wp} {σ : St} {person_a : Int32} (hkd : kd = kdC) (hi : zI kd w) (hlt : l.stackTraces = false) {r : (Sum Nat Int32 × St)} (hf : q11_fetch σ person_a = some r) : zX l kd w yX11_fetch cX11_fetch 2 (some .int) rm11_fetch [.ref (w.2.2.1 0), .int person_a] σ (om (fun v => some (.int v)) r) 2 12 := sorry
/-! LastLoaf.winner -/
theorem w_6_171 : Cond.methodLink "LastLoaf" (279 : Nat) ({ cls := "LastLoaf$Poll", name := "winnerBy", desc := "(I)I" } : MethodName) ∈ TB := sorry
theorem cr11_279 {Θ : Tz} {cc : ByteArray} {nL kc ks : Nat} {ret : Option FieldType} {rm : Room} {Q : State → Prop} {σ : St} {pc : Nat} {lv : List (Nat × Value)} {st : List Value} (C : Zc Θ cc nL RX11 ret rm) (hkd : Θ.2.2.2.2.1 = kdC) {way_a : Int32} {r : Int32 × St} (hx : q5_winnerBy σ way_a = some r) (hrm : rm5_winnerBy.frames + 1 ≤ rm.frames ∧ 8 + (2 + 11) + rm5_winnerBy.locals ≤ rm.locals) (hcat : (st.map fun v => v.category).sum ≤ 8) (hk : kc ≤ rm.cells ∧ ks ≤ rm.slots) (hd : decode cc pc = .ok (.invokevirtual 279, 3)) (kk : Z Θ nL kc ks Q r.2 (pc + 3) lv (.int r.1 :: st)) : Z Θ nL kc ks Q σ pc lv (.int way_a :: .ref (zA Θ 6) :: st) := sorry
def q11_winner (σ : St) (way_a : Int32) : Option (Sum Nat Int32 × St) :=
  thn (q11_needNumber way_a 0 5) σ
  (Option.bind (q11_pollNow σ) fun x3_ =>
  Option.bind (q5_winnerBy x3_.2 way_a) fun x5_ =>
  some (.inr x5_.1, x5_.2))
abbrev rm11_winner : Room := { frames := 7, cells := 1, slots := 6, locals := 116 }
theorem c11_winner {l : Launch} {kd : List KD} {w : Wp} {σ : St} {way_a : Int32} (hkd : kd = kdC) (hi : zI kd w) (hlt : l.stackTraces = false) {r : (Sum Nat Int32 × St)} (hf : q11_winner σ way_a = some r) : zX l kd w yX11_winner cX11_winner 2 (some .int) rm11_winner [.ref (w.2.2.1 0), .int way_a] σ (om (fun v => some (.int v)) r) 1 6 := sorry
/-! LastLoaf.rank -/
def q11_rank (σ : St) (person_a : Int32) (k_a : Int32) : Option (Sum Nat Int32 × St) :=
  thn (q11_needPerson σ person_a) σ
  (Option.bind (q11_pollNow σ) fun x3_ =>
  Option.bind (q5_rankAt x3_.2 person_a k_a) fun x5_ =>
  some (.inr x5_, x3_.2))
abbrev rm11_rank : Room := { frames := 7, cells := 1, slots := 6, locals := 116 }
theorem c11_rank {l : Launch} {kd : List KD} {w : Wp} {σ : St} {person_a : Int32} {k_a : Int32} (hkd : kd = kdC) (hi : zI kd w) (hlt : l.stackTraces = false) {r : (Sum Nat Int32 × St)} (hf : q11_rank σ person_a k_a = some r) : zX l kd w yX11_rank cX11_rank 3 (some .int) rm11_rank [.ref (w.2.2.1 0), .int person_a, .int k_a] σ (om (fun v => some (.int v)) r) 1 6 := sorry
/-! LastLoaf.beats -/
theorem w_6_186 : Cond.methodLink "LastLoaf" (282 : Nat) ({ cls := "LastLoaf$Poll", name := "isAhead", desc := "(II)Z" } : MethodName) ∈ TB := sorry
theorem cr11_282 {Θ : Tz} {cc : ByteArray} {nL kc ks : Nat} {ret : Option FieldType} {rm : Room} {Q : State → Prop} {σ : St} {pc : Nat} {lv : List (Nat × Value)} {st : List Value} (C : Zc Θ cc nL RX11 ret rm) (hkd : Θ.2.2.2.2.1 = kdC) {person_a : Int32} {other_a : Int32} {r : Bool} (hx : q5_isAhead σ person_a other_a = some r) (hrm : rm5_isAhead.frames + 1 ≤ rm.frames ∧ 8 + (6 + 11) + rm5_isAhead.locals ≤ rm.locals) (hcat : (st.map fun v => v.category).sum ≤ 8) (hk : kc ≤ rm.cells ∧ ks ≤ rm.slots) (hd : decode cc pc = .ok (.invokevirtual 282, 3)) (kk : Z Θ nL kc ks Q σ (pc + 3) lv (.int (b2i r) :: st)) : Z Θ nL kc ks Q σ pc lv (.int other_a :: .int person_a :: .ref (zA Θ 6) :: st) := sorry
def q11_beats (σ : St) (person_a : Int32) (other_a : Int32) : Option (Sum Nat Bool × St) :=
  thn (q11_needTwo σ person_a other_a) σ
  (Option.bind (q11_pollNow σ) fun x3_ =>
  Option.bind (q5_isAhead x3_.2 person_a other_a) fun x5_ =>
  some (.inr x5_, x3_.2))
abbrev rm11_beats : Room := { frames := 8, cells := 3, slots := 18, locals := 133 }
theorem c11_beats {l : Launch} {kd : List KD} {w : Wp} {σ : St} {person_a : Int32} {other_a : Int32} (hkd : kd = kdC) (hi : zI kd w) (hlt : l.stackTraces = false) {r : (Sum Nat Bool × St)} (hf : q11_beats σ person_a other_a = some r) : zX l kd w yX11_beats cX11_beats 3 (some .boolean) rm11_beats [.ref (w.2.2.1 0), .int person_a, .int other_a] σ (om (fun v => some (.int (b2i v))) r) 3 18 := sorry
/-! LastLoaf$Poll.beaterOfAll -/
theorem w_3_73 : Cond.methodLink "LastLoaf$Poll" (83 : Nat) ({ cls := "LastLoaf$Poll", name := "duelsOf", desc := "(I)I" } : MethodName) ∈ TB := sorry
theorem cr5_83 {Θ : Tz} {cc : ByteArray} {nL kc ks : Nat} {ret : Option FieldType} {rm : Room} {Q : State → Prop} {σ : St} {pc : Nat} {lv : List (Nat × Value)} {st : List Value} (C : Zc Θ cc nL RX5 ret rm) (hkd : Θ.2.2.2.2.1 = kdC) {person_a : Int32} {r : Int32} (hx : q5_duelsOf σ person_a = some r) (hrm : rm5_duelsOf.frames + 1 ≤ rm.frames ∧ 8 + (4 + 11) + rm5_duelsOf.locals ≤ rm.locals) (hcat : (st.map fun v => v.category).sum ≤ 8) (hk : kc ≤ rm.cells ∧ ks ≤ rm.slots) (hd : decode cc pc = .ok (.invokevirtual 83, 3)) (kk : Z Θ nL kc ks Q σ (pc + 3) lv (.int r :: st)) : Z Θ nL kc ks Q σ pc lv (.int person_a :: .ref (zA Θ 6) :: st) := sorry
def q5_beaterOfAll (σ : St) : Option Int32 :=
  Option.bind (loop1 (fun rec4_ (r7_ : Int32) =>
  if r7_ < (σ 6 6) then
  Option.bind (if q11_isIn (σ 6 7) r7_ = true then (Option.bind (q5_duelsOf σ r7_) fun x19_ =>
  if x19_ = ((σ 6 8) - 1) then (some true) else (some false)) else (some false)) fun t16_ =>
  if t16_ = true then (some (.inl r7_)) else
  lt (r7_ + 1) fun r23_ =>
  rec4_ r23_
  else (some (.inr r7_))) fuelN (0 : Int32)) fun y1_ =>
  Sum.elim (fun x9 => some x9) (fun y1_r =>
  some (-1)) y1_
abbrev rm5_beaterOfAll : Room := { frames := 3, cells := 0, slots := 0, locals := 69 }
theorem c5_beaterOfAll {l : Launch} {kd : List KD} {w : Wp} {σ : St} (hkd : kd = kdC) (hi : zI kd w) {r : Int32} (hf : q5_beaterOfAll σ = some r) : zM l kd w yX5_beaterOfAll cX5_beaterOfAll 2 (some .int) rm5_beaterOfAll [.ref (w.2.2.1 6)] σ (some (.int r), σ) := sorry
/-! LastLoaf.master -/
theorem w_3_72 : Cond.code ({ cls := "LastLoaf$Poll", name := "beaterOfAll", desc := "()I" } : MethodName) prog_7_method_9_code (2 : Nat) (Option.some ClassFile.FieldType.int) ∈ TB := sorry
theorem w_3_69 : Cond.methodLink "LastLoaf" (285 : Nat) ({ cls := "LastLoaf$Poll", name := "beaterOfAll", desc := "()I" } : MethodName) ∈ TB := sorry
theorem w_3_70 : Cond.instanceMethod ({ cls := "LastLoaf$Poll", name := "beaterOfAll", desc := "()I" } : MethodName) ∈ TB := sorry
theorem w_3_71 : Cond.selects "LastLoaf$Poll" ({ cls := "LastLoaf$Poll", name := "beaterOfAll", desc := "()I" } : MethodName) ({ cls := "LastLoaf$Poll", name := "beaterOfAll", desc := "()I" } : MethodName) ∈ TB := sorry
theorem cr11_285 {Θ : Tz} {cc : ByteArray} {nL kc ks : Nat} {ret : Option FieldType} {rm : Room} {Q : State → Prop} {σ : St} {pc : Nat} {lv : List (Nat × Value)} {st : List Value} (C : Zc Θ cc nL RX11 ret rm) (hkd : Θ.2.2.2.2.1 = kdC) {r : Int32} (hx : q5_beaterOfAll σ = some r) (hrm : rm5_beaterOfAll.frames + 1 ≤ rm.frames ∧ 8 + (2 + 11) + rm5_beaterOfAll.locals ≤ rm.locals) (hcat : (st.map fun v => v.category).sum ≤ 8) (hk : kc ≤ rm.cells ∧ ks ≤ rm.slots) (hd : decode cc pc = .ok (.invokevirtual 285, 3)) (kk : Z Θ nL kc ks Q σ (pc + 3) lv (.int r :: st)) : Z Θ nL kc ks Q σ pc lv (.ref (zA Θ 6) :: st) := sorry
def q11_master (σ : St) : Option (Int32 × St) :=
  Option.bind (q11_pollNow σ) fun x1_ =>
  Option.bind (q5_beaterOfAll x1_.2) fun x3_ =>
  some (x3_, x1_.2)
abbrev rm11_master : Room := { frames := 5, cells := 0, slots := 0, locals := 116 }
theorem c11_master {l : Launch} {kd : List KD} {w : Wp} {σ : St} (hkd : kd = kdC) (hi : zI kd w) {r : (Int32 × St)} (hf : q11_master σ = some r) : zM l kd w yX11_master cX11_master 1 (some .int) rm11_master [.ref (w.2.2.1 0)] σ (some (.int r.1), r.2) := sorry
/-! LastLoaf.leftHungry -/
def q11_leftHungry (σ : St) (way_a : Int32) (n_a : Int32) : Option (Int32 × St) :=
  Option.bind (q10_become σ 54 44) fun x1_ =>
  lt (up x1_ 54 13 way_a) fun σ3_ =>
  Option.bind (q0_bakeWeeks σ3_ 54 n_a false) fun x5_ =>
  some (bcount (x5_ 54 10), x5_)
abbrev rm11_leftHungry : Room := { frames := 6, cells := 0, slots := 0, locals := 144 }
theorem c11_leftHungry {l : Launch} {kd : List KD} {w : Wp} {σ : St} {way_a : Int32} {n_a : Int32} (hkd : kd = kdC) (hi : zI kd w) {r : (Int32 × St)} (hf : q11_leftHungry σ way_a n_a = some r) : zM l kd w yX11_leftHungry cX11_leftHungry 3 (some .int) rm11_leftHungry [.ref (w.2.2.1 0), .int way_a, .int n_a] σ (some (.int r.1), r.2) := sorry
/-! LastLoaf.hungry -/
theorem w_6_197 : Cond.code ({ cls := "LastLoaf", name := "leftHungry", desc := "(II)I" } : MethodName) prog_1_method_79_code (3 : Nat) (Option.some ClassFile.FieldType.int) ∈ TB := sorry
theorem w_6_194 : Cond.methodLink "LastLoaf" (289 : Nat) ({ cls := "LastLoaf", name := "leftHungry", desc := "(II)I" } : MethodName) ∈ TB := sorry
theorem w_6_196 : Cond.instanceMethod ({ cls := "LastLoaf", name := "leftHungry", desc := "(II)I" } : MethodName) ∈ TB := sorry
theorem ws_LastLoaf_leftHungry_II_I : Cond.selects "LastLoaf" (⟨"LastLoaf", "leftHungry", "(II)I"⟩ : MethodName) (⟨"LastLoaf", "leftHungry", "(II)I"⟩ : MethodName) ∈ TB := sorry
theorem cr11_289 {Θ : Tz} {cc : ByteArray} {nL kc ks : Nat} {ret : Option FieldType} {rm : Room} {Q : State → Prop} {σ : St} {pc : Nat} {lv : List (Nat × Value)} {st : List Value} (C : Zc Θ cc nL RX11 ret rm) (hkd : Θ.2.2.2.2.1 = kdC) {way_a : Int32} {n_a : Int32} {r : Int32 × St} (hx : q11_leftHungry σ way_a n_a = some r) (hrm : rm11_leftHungry.frames + 1 ≤ rm.frames ∧ 8 + (3 + 11) + rm11_leftHungry.locals ≤ rm.locals) (hcat : (st.map fun v => v.category).sum ≤ 8) (hk : kc ≤ rm.cells ∧ ks ≤ rm.slots) (hd : decode cc pc = .ok (.invokevirtual 289, 3)) (kk : Z Θ nL kc ks Q r.2 (pc + 3) lv (.int r.1 :: st)) : Z Θ nL kc ks Q σ pc lv (.int n_a :: .int way_a :: .ref (zA Θ 0) :: st) := sorry
def q11_hungry (σ : St) (way_a : Int32) (n_a : Int32) : Option (Sum Nat Int32 × St) :=
  thn (q11_needNumber way_a 0 5) σ
  (thn (q11_needNumber n_a 0 60) σ
  (Option.bind (q11_leftHungry σ way_a n_a) fun x5_ =>
  some (.inr x5_.1, x5_.2)))
abbrev rm11_hungry : Room := { frames := 7, cells := 2, slots := 12, locals := 166 }
theorem c11_hungry {l : Launch} {kd : List KD} {w : Wp} {σ : St} {way_a : Int32} {n_a : Int32} (hkd : kd = kdC) (hi : zI kd w) (hlt : l.stackTraces = false) {r : (Sum Nat Int32 × St)} (hf : q11_hungry σ way_a n_a = some r) : zX l kd w yX11_hungry cX11_hungry 3 (some .int) rm11_hungry [.ref (w.2.2.1 0), .int way_a, .int n_a] σ (om (fun v => some (.int v)) r) 2 12 := sorry

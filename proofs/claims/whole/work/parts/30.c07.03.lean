/-! LastLoaf$Baker.bakeWeeks -/
theorem w_3_127 : Cond.code ({ cls := "java/lang/Math", name := "floorMod", desc := "(II)I" } : MethodName) prog_23_method_50_code (3 : Nat) (Option.some ClassFile.FieldType.int) ∈ TB := tb_in (lwt_3 (List.mem_of_getElem? (i := 127) (by decide +kernel))) rfl
theorem w_3_125 : Cond.methodLink "LastLoaf$Baker" (25 : Nat) ({ cls := "java/lang/Math", name := "floorMod", desc := "(II)I" } : MethodName) ∈ TB := tb_in (lwt_3 (List.mem_of_getElem? (i := 125) (by decide +kernel))) rfl
theorem w_3_126 : Cond.static ({ cls := "java/lang/Math", name := "floorMod", desc := "(II)I" } : MethodName) ∈ TB := tb_in (lwt_3 (List.mem_of_getElem? (i := 126) (by decide +kernel))) rfl
theorem w_1_116 : Cond.fieldLink "LastLoaf$Baker" (34 : Nat) "LastLoaf$Village" "grist" "[I" ∈ TB := tb_in (lwt_1 (List.mem_of_getElem? (i := 116) (by decide +kernel))) rfl
theorem fg0_34 {Θ : Tz} {cc : ByteArray} {nL kc ks : Nat} {ret : Option FieldType} {rm : Room} {Q : State → Prop} {σ : St} {pc : Nat} {lv : List (Nat × Value)} {st : List Value} (C : Zc Θ cc nL RX0 ret rm) (hkd : Θ.2.2.2.2.1 = kdC) {th : Nat} (hth : isV th) (hd : decode cc pc = .ok (.getfield 34, 3)) (kk : Z Θ nL kc ks Q σ (pc + 3) lv (.ref (zA Θ (th + 7)) :: st)) : Z Θ nL kc ks Q σ pc lv (.ref (zA Θ th) :: st) := z_get C inT10 th (kV_0 hkd hth) rfl 6 (by decide) w_1_116 rfl hd kk
theorem w_3_134 : Cond.code ({ cls := "LastLoaf$Baker", name := "feedOthers", desc := "(LLastLoaf$Village;)V" } : MethodName) prog_2_method_3_code (3 : Nat) (Option.none : Option ClassFile.FieldType) ∈ TB := tb_in (lwt_3 (List.mem_of_getElem? (i := 134) (by decide +kernel))) rfl
theorem w_3_131 : Cond.methodLink "LastLoaf$Baker" (41 : Nat) ({ cls := "LastLoaf$Baker", name := "feedOthers", desc := "(LLastLoaf$Village;)V" } : MethodName) ∈ TB := tb_in (lwt_3 (List.mem_of_getElem? (i := 131) (by decide +kernel))) rfl
theorem w_3_132 : Cond.instanceMethod ({ cls := "LastLoaf$Baker", name := "feedOthers", desc := "(LLastLoaf$Village;)V" } : MethodName) ∈ TB := tb_in (lwt_3 (List.mem_of_getElem? (i := 132) (by decide +kernel))) rfl
theorem w_3_133 : Cond.selects "LastLoaf$Baker" ({ cls := "LastLoaf$Baker", name := "feedOthers", desc := "(LLastLoaf$Village;)V" } : MethodName) ({ cls := "LastLoaf$Baker", name := "feedOthers", desc := "(LLastLoaf$Village;)V" } : MethodName) ∈ TB := tb_in (lwt_3 (List.mem_of_getElem? (i := 133) (by decide +kernel))) rfl
theorem cr0_41 {Θ : Tz} {cc : ByteArray} {nL kc ks : Nat} {ret : Option FieldType} {rm : Room} {Q : State → Prop} {σ : St} {pc : Nat} {lv : List (Nat × Value)} {st : List Value} (C : Zc Θ cc nL RX0 ret rm) (hkd : Θ.2.2.2.2.1 = kdC) {village_a : Nat} (h_village : isV village_a) {r : St} (hx : q0_feedOthers σ village_a = some r) (hrm : rm0_feedOthers.frames + 1 ≤ rm.frames ∧ 8 + (3 + 11) + rm0_feedOthers.locals ≤ rm.locals) (hcat : (st.map fun v => v.category).sum ≤ 8) (hk : kc ≤ rm.cells ∧ ks ≤ rm.slots) (hd : decode cc pc = .ok (.invokevirtual 41, 3)) (kk : Z Θ nL kc ks Q r (pc + 3) lv st) : Z Θ nL kc ks Q σ pc lv (.ref (zA Θ village_a) :: .ref (zA Θ 13) :: st) := z_callV C 13 [.ref (zA Θ village_a)] (none, r) 1 (kC_13 hkd) rfl (c0_feedOthers (village_a := village_a) hkd (zc_inj C) h_village hx) w_3_134 w_3_131 w_3_132 w_3_133 w_1_10 ⟨rfl, rfl, hrm.1, hrm.2⟩ (by decide +kernel) rfl rfl hcat hk hd kk
theorem w_3_144 : Cond.code ({ cls := "LastLoaf$Baker", name := "giveLastLoaf", desc := "(LLastLoaf$Village;)V" } : MethodName) prog_2_method_4_code (4 : Nat) (Option.none : Option ClassFile.FieldType) ∈ TB := tb_in (lwt_3 (List.mem_of_getElem? (i := 144) (by decide +kernel))) rfl
theorem w_3_141 : Cond.methodLink "LastLoaf$Baker" (45 : Nat) ({ cls := "LastLoaf$Baker", name := "giveLastLoaf", desc := "(LLastLoaf$Village;)V" } : MethodName) ∈ TB := tb_in (lwt_3 (List.mem_of_getElem? (i := 141) (by decide +kernel))) rfl
theorem w_3_142 : Cond.instanceMethod ({ cls := "LastLoaf$Baker", name := "giveLastLoaf", desc := "(LLastLoaf$Village;)V" } : MethodName) ∈ TB := tb_in (lwt_3 (List.mem_of_getElem? (i := 142) (by decide +kernel))) rfl
theorem w_3_143 : Cond.selects "LastLoaf$Baker" ({ cls := "LastLoaf$Baker", name := "giveLastLoaf", desc := "(LLastLoaf$Village;)V" } : MethodName) ({ cls := "LastLoaf$Baker", name := "giveLastLoaf", desc := "(LLastLoaf$Village;)V" } : MethodName) ∈ TB := tb_in (lwt_3 (List.mem_of_getElem? (i := 143) (by decide +kernel))) rfl
theorem cr0_45 {Θ : Tz} {cc : ByteArray} {nL kc ks : Nat} {ret : Option FieldType} {rm : Room} {Q : State → Prop} {σ : St} {pc : Nat} {lv : List (Nat × Value)} {st : List Value} (C : Zc Θ cc nL RX0 ret rm) (hkd : Θ.2.2.2.2.1 = kdC) {village_a : Nat} (h_village : isV village_a) {r : St} (hx : q0_giveLastLoaf σ village_a = some r) (hrm : rm0_giveLastLoaf.frames + 1 ≤ rm.frames ∧ 8 + (4 + 11) + rm0_giveLastLoaf.locals ≤ rm.locals) (hcat : (st.map fun v => v.category).sum ≤ 8) (hk : kc ≤ rm.cells ∧ ks ≤ rm.slots) (hd : decode cc pc = .ok (.invokevirtual 45, 3)) (kk : Z Θ nL kc ks Q r (pc + 3) lv st) : Z Θ nL kc ks Q σ pc lv (.ref (zA Θ village_a) :: .ref (zA Θ 13) :: st) := z_callV C 13 [.ref (zA Θ village_a)] (none, r) 1 (kC_13 hkd) rfl (c0_giveLastLoaf (village_a := village_a) hkd (zc_inj C) h_village hx) w_3_144 w_3_141 w_3_142 w_3_143 w_1_10 ⟨rfl, rfl, hrm.1, hrm.2⟩ (by decide +kernel) rfl rfl hcat hk hd kk
theorem w_3_211 : Cond.code ({ cls := "LastLoaf$Baker", name := "seatStarved", desc := "(LLastLoaf$Village;)V" } : MethodName) prog_2_method_5_code (3 : Nat) (Option.none : Option ClassFile.FieldType) ∈ TB := tb_in (lwt_3 (List.mem_of_getElem? (i := 211) (by decide +kernel))) rfl
theorem w_3_208 : Cond.methodLink "LastLoaf$Baker" (48 : Nat) ({ cls := "LastLoaf$Baker", name := "seatStarved", desc := "(LLastLoaf$Village;)V" } : MethodName) ∈ TB := tb_in (lwt_3 (List.mem_of_getElem? (i := 208) (by decide +kernel))) rfl
theorem w_3_209 : Cond.instanceMethod ({ cls := "LastLoaf$Baker", name := "seatStarved", desc := "(LLastLoaf$Village;)V" } : MethodName) ∈ TB := tb_in (lwt_3 (List.mem_of_getElem? (i := 209) (by decide +kernel))) rfl
theorem w_3_210 : Cond.selects "LastLoaf$Baker" ({ cls := "LastLoaf$Baker", name := "seatStarved", desc := "(LLastLoaf$Village;)V" } : MethodName) ({ cls := "LastLoaf$Baker", name := "seatStarved", desc := "(LLastLoaf$Village;)V" } : MethodName) ∈ TB := tb_in (lwt_3 (List.mem_of_getElem? (i := 210) (by decide +kernel))) rfl
theorem cr0_48 {Θ : Tz} {cc : ByteArray} {nL kc ks : Nat} {ret : Option FieldType} {rm : Room} {Q : State → Prop} {σ : St} {pc : Nat} {lv : List (Nat × Value)} {st : List Value} (C : Zc Θ cc nL RX0 ret rm) (hkd : Θ.2.2.2.2.1 = kdC) {village_a : Nat} (h_village : isV village_a) {r : St} (hx : q0_seatStarved σ village_a = some r) (hrm : rm0_seatStarved.frames + 1 ≤ rm.frames ∧ 8 + (3 + 11) + rm0_seatStarved.locals ≤ rm.locals) (hcat : (st.map fun v => v.category).sum ≤ 8) (hk : kc ≤ rm.cells ∧ ks ≤ rm.slots) (hd : decode cc pc = .ok (.invokevirtual 48, 3)) (kk : Z Θ nL kc ks Q r (pc + 3) lv st) : Z Θ nL kc ks Q σ pc lv (.ref (zA Θ village_a) :: .ref (zA Θ 13) :: st) := z_callV C 13 [.ref (zA Θ village_a)] (none, r) 1 (kC_13 hkd) rfl (c0_seatStarved (village_a := village_a) hkd (zc_inj C) h_village hx) w_3_211 w_3_208 w_3_209 w_3_210 w_1_10 ⟨rfl, rfl, hrm.1, hrm.2⟩ (by decide +kernel) rfl rfl hcat hk hd kk
theorem w_3_215 : Cond.code ({ cls := "LastLoaf$Baker", name := "holdSpeech", desc := "(LLastLoaf$Village;)V" } : MethodName) prog_2_method_6_code (6 : Nat) (Option.none : Option ClassFile.FieldType) ∈ TB := tb_in (lwt_3 (List.mem_of_getElem? (i := 215) (by decide +kernel))) rfl
theorem w_3_212 : Cond.methodLink "LastLoaf$Baker" (51 : Nat) ({ cls := "LastLoaf$Baker", name := "holdSpeech", desc := "(LLastLoaf$Village;)V" } : MethodName) ∈ TB := tb_in (lwt_3 (List.mem_of_getElem? (i := 212) (by decide +kernel))) rfl
theorem w_3_213 : Cond.instanceMethod ({ cls := "LastLoaf$Baker", name := "holdSpeech", desc := "(LLastLoaf$Village;)V" } : MethodName) ∈ TB := tb_in (lwt_3 (List.mem_of_getElem? (i := 213) (by decide +kernel))) rfl
theorem w_3_214 : Cond.selects "LastLoaf$Baker" ({ cls := "LastLoaf$Baker", name := "holdSpeech", desc := "(LLastLoaf$Village;)V" } : MethodName) ({ cls := "LastLoaf$Baker", name := "holdSpeech", desc := "(LLastLoaf$Village;)V" } : MethodName) ∈ TB := tb_in (lwt_3 (List.mem_of_getElem? (i := 214) (by decide +kernel))) rfl
theorem cr0_51 {Θ : Tz} {cc : ByteArray} {nL kc ks : Nat} {ret : Option FieldType} {rm : Room} {Q : State → Prop} {σ : St} {pc : Nat} {lv : List (Nat × Value)} {st : List Value} (C : Zc Θ cc nL RX0 ret rm) (hkd : Θ.2.2.2.2.1 = kdC) {village_a : Nat} (h_village : isV village_a) {r : St} (hx : q0_holdSpeech σ village_a = some r) (hrm : rm0_holdSpeech.frames + 1 ≤ rm.frames ∧ 8 + (6 + 11) + rm0_holdSpeech.locals ≤ rm.locals) (hcat : (st.map fun v => v.category).sum ≤ 8) (hk : kc ≤ rm.cells ∧ ks ≤ rm.slots) (hd : decode cc pc = .ok (.invokevirtual 51, 3)) (kk : Z Θ nL kc ks Q r (pc + 3) lv st) : Z Θ nL kc ks Q σ pc lv (.ref (zA Θ village_a) :: .ref (zA Θ 13) :: st) := z_callV C 13 [.ref (zA Θ village_a)] (none, r) 1 (kC_13 hkd) rfl (c0_holdSpeech (village_a := village_a) hkd (zc_inj C) h_village hx) w_3_215 w_3_212 w_3_213 w_3_214 w_1_10 ⟨rfl, rfl, hrm.1, hrm.2⟩ (by decide +kernel) rfl rfl hcat hk hd kk
theorem fp0_19 {Θ : Tz} {cc : ByteArray} {nL kc ks : Nat} {ret : Option FieldType} {rm : Room} {Q : State → Prop} {σ : St} {pc : Nat} {lv : List (Nat × Value)} {st : List Value} (C : Zc Θ cc nL RX0 ret rm) (hkd : Θ.2.2.2.2.1 = kdC) {th : Nat} (hth : isV th) {x : Int32} {σ1 : St} (he : σ1 = up σ th 12 x) (hd : decode cc pc = .ok (.putfield 19, 3)) (kk : Z Θ nL kc ks Q σ1 (pc + 3) lv st) : Z Θ nL kc ks Q σ pc lv (.int x :: .ref (zA Θ th) :: st) := by subst he; exact z_put C inT10 tyX10_ok nmX10 th (kV_0 hkd hth) rfl 12 (by decide) w_1_148 rfl rfl rfl rfl hd kk
theorem dX0_bakeWeeks_0 : decode cX0_bakeWeeks 0 = .ok (.iconst 0, 1) := by decide +kernel
theorem dX0_bakeWeeks_1 : decode cX0_bakeWeeks 1 = .ok (.istore 4, 2) := by decide +kernel
theorem dX0_bakeWeeks_3 : decode cX0_bakeWeeks 3 = .ok (.iload 4, 2) := by decide +kernel
theorem dX0_bakeWeeks_5 : decode cX0_bakeWeeks 5 = .ok (.iload_n 2, 1) := by decide +kernel
theorem dX0_bakeWeeks_6 : decode cX0_bakeWeeks 6 = .ok (.if_icmp .ge 81, 3) := by decide +kernel
theorem dX0_bakeWeeks_9 : decode cX0_bakeWeeks 9 = .ok (.aload_n 1, 1) := by decide +kernel
theorem dX0_bakeWeeks_10 : decode cX0_bakeWeeks 10 = .ok (.getfield 19, 3) := by decide +kernel
theorem dX0_bakeWeeks_13 : decode cX0_bakeWeeks 13 = .ok (.iconst 4, 1) := by decide +kernel
theorem dX0_bakeWeeks_14 : decode cX0_bakeWeeks 14 = .ok (.invokestatic 25, 3) := by decide +kernel
theorem dX0_bakeWeeks_17 : decode cX0_bakeWeeks 17 = .ok (.istore 5, 2) := by decide +kernel
theorem dX0_bakeWeeks_19 : decode cX0_bakeWeeks 19 = .ok (.aload_n 1, 1) := by decide +kernel
theorem dX0_bakeWeeks_20 : decode cX0_bakeWeeks 20 = .ok (.sipush 9999, 3) := by decide +kernel
theorem dX0_bakeWeeks_23 : decode cX0_bakeWeeks 23 = .ok (.aload_n 1, 1) := by decide +kernel
theorem dX0_bakeWeeks_24 : decode cX0_bakeWeeks 24 = .ok (.getfield 31, 3) := by decide +kernel
theorem dX0_bakeWeeks_27 : decode cX0_bakeWeeks 27 = .ok (.aload_n 1, 1) := by decide +kernel
theorem dX0_bakeWeeks_28 : decode cX0_bakeWeeks 28 = .ok (.getfield 34, 3) := by decide +kernel
theorem dX0_bakeWeeks_31 : decode cX0_bakeWeeks 31 = .ok (.iload 5, 2) := by decide +kernel
theorem dX0_bakeWeeks_33 : decode cX0_bakeWeeks 33 = .ok (.iaload, 1) := by decide +kernel
theorem dX0_bakeWeeks_34 : decode cX0_bakeWeeks 34 = .ok (.iadd, 1) := by decide +kernel
theorem dX0_bakeWeeks_35 : decode cX0_bakeWeeks 35 = .ok (.invokestatic 38, 3) := by decide +kernel
theorem dX0_bakeWeeks_38 : decode cX0_bakeWeeks 38 = .ok (.putfield 31, 3) := by decide +kernel
theorem dX0_bakeWeeks_41 : decode cX0_bakeWeeks 41 = .ok (.aload_n 0, 1) := by decide +kernel
theorem dX0_bakeWeeks_42 : decode cX0_bakeWeeks 42 = .ok (.aload_n 1, 1) := by decide +kernel
theorem dX0_bakeWeeks_43 : decode cX0_bakeWeeks 43 = .ok (.invokevirtual 41, 3) := by decide +kernel
theorem dX0_bakeWeeks_46 : decode cX0_bakeWeeks 46 = .ok (.aload_n 0, 1) := by decide +kernel
theorem dX0_bakeWeeks_47 : decode cX0_bakeWeeks 47 = .ok (.aload_n 1, 1) := by decide +kernel
theorem dX0_bakeWeeks_48 : decode cX0_bakeWeeks 48 = .ok (.invokevirtual 45, 3) := by decide +kernel
theorem dX0_bakeWeeks_51 : decode cX0_bakeWeeks 51 = .ok (.aload_n 0, 1) := by decide +kernel
theorem dX0_bakeWeeks_52 : decode cX0_bakeWeeks 52 = .ok (.aload_n 1, 1) := by decide +kernel
theorem dX0_bakeWeeks_53 : decode cX0_bakeWeeks 53 = .ok (.invokevirtual 48, 3) := by decide +kernel
theorem dX0_bakeWeeks_56 : decode cX0_bakeWeeks 56 = .ok (.iload_n 3, 1) := by decide +kernel
theorem dX0_bakeWeeks_57 : decode cX0_bakeWeeks 57 = .ok (.ifCond .eq 8, 3) := by decide +kernel
theorem dX0_bakeWeeks_60 : decode cX0_bakeWeeks 60 = .ok (.aload_n 0, 1) := by decide +kernel
theorem dX0_bakeWeeks_61 : decode cX0_bakeWeeks 61 = .ok (.aload_n 1, 1) := by decide +kernel
theorem dX0_bakeWeeks_62 : decode cX0_bakeWeeks 62 = .ok (.invokevirtual 51, 3) := by decide +kernel
theorem dX0_bakeWeeks_65 : decode cX0_bakeWeeks 65 = .ok (.aload_n 1, 1) := by decide +kernel
theorem dX0_bakeWeeks_66 : decode cX0_bakeWeeks 66 = .ok (.sipush 9999, 3) := by decide +kernel
theorem dX0_bakeWeeks_69 : decode cX0_bakeWeeks 69 = .ok (.aload_n 1, 1) := by decide +kernel
theorem dX0_bakeWeeks_70 : decode cX0_bakeWeeks 70 = .ok (.getfield 19, 3) := by decide +kernel
theorem dX0_bakeWeeks_73 : decode cX0_bakeWeeks 73 = .ok (.iconst 1, 1) := by decide +kernel
theorem dX0_bakeWeeks_74 : decode cX0_bakeWeeks 74 = .ok (.iadd, 1) := by decide +kernel
theorem dX0_bakeWeeks_75 : decode cX0_bakeWeeks 75 = .ok (.invokestatic 38, 3) := by decide +kernel
theorem dX0_bakeWeeks_78 : decode cX0_bakeWeeks 78 = .ok (.putfield 19, 3) := by decide +kernel
theorem dX0_bakeWeeks_81 : decode cX0_bakeWeeks 81 = .ok (.iinc 4 1, 3) := by decide +kernel
theorem dX0_bakeWeeks_84 : decode cX0_bakeWeeks 84 = .ok (.goto (-81), 3) := by decide +kernel
theorem dX0_bakeWeeks_87 : decode cX0_bakeWeeks 87 = .ok (.return_, 1) := by decide +kernel
def q0_bakeWeeks (σ : St) (village_a : Nat) (n_a : Int32) (speeches_a : Bool) : Option St :=
  Option.bind (loop2 (fun rec4_ (i7_ : Int32) (σ8_ : St) =>
  if i7_ < n_a then
  lt (fmod (σ8_ village_a 12) 4) fun season15_ =>
  Option.bind (ag σ8_ (village_a + 7) 4 season15_) fun x17_ =>
  lt (up σ8_ village_a 11 (imin 9999 ((σ8_ village_a 11) + x17_))) fun σ19_ =>
  Option.bind (q0_feedOthers σ19_ village_a) fun x21_ =>
  Option.bind (q0_giveLastLoaf x21_ village_a) fun x23_ =>
  Option.bind (q0_seatStarved x23_ village_a) fun x25_ =>
  Option.bind (if speeches_a = true then (Option.bind (q0_holdSpeech x25_ village_a) fun x34_ =>
  some (x34_)) else (some (x25_))) fun y27_ =>
  lt (up y27_ village_a 12 (imin 9999 ((y27_ village_a 12) + 1))) fun σ36_ =>
  lt (i7_ + 1) fun i38_ =>
  rec4_ i38_ σ36_
  else (some (i7_, σ8_))) fuelN (0 : Int32) σ) fun y1_ =>
  some y1_.2
abbrev rm0_bakeWeeks : Room := { frames := 5, cells := 0, slots := 0, locals := 119 }
set_option maxHeartbeats 4000000 in
set_option maxRecDepth 100000 in
theorem p0_bakeWeeks {Θ : Tz} {σ : St} {ρ : Option Value × St} (C : Zc Θ cX0_bakeWeeks 6 RX0 none rm0_bakeWeeks) (hkd : Θ.2.2.2.2.1 = kdC) {village_a : Nat} {n_a : Int32} {speeches_a : Bool} (h_village : isV village_a) {r : St} (hf : q0_bakeWeeks σ village_a n_a speeches_a = some r) (hρ : ρ = (none, r)) : Z Θ 6 0 0 (zQ Θ ρ) σ 0 [(0, .ref (zA Θ 13)), (1, .ref (zA Θ village_a)), (2, .int n_a), (3, .int (b2i speeches_a))] [] := by
  unfold q0_bakeWeeks at hf
  refine z_iconst (v := 0) C dX0_bakeWeeks_0 ic_0 ?_
  refine z_ist C dX0_bakeWeeks_1 rfl (Nat.le_of_ble_eq_true rfl) rfl ?_
  refine Z.sub [1, 2, 3, 4, 0] rfl ?_
  obtain ⟨y1_, h2_, hf⟩ := ob hf
  suffices K3_ : Z Θ 6 0 0 (zQ Θ ρ) y1_.2 87 [(0, .ref (zA Θ 13)), (1, .ref (zA Θ village_a)), (2, .int n_a), (3, .int (b2i speeches_a)), (4, .int y1_.1)] [] by
    refine loop2_Z (P := fun (i7_ : Int32) (σ8_ : St) => Z Θ 6 0 0 (zQ Θ ρ) σ8_ 3 [(0, .ref (zA Θ 13)), (1, .ref (zA Θ village_a)), (2, .int n_a), (3, .int (b2i speeches_a)), (4, .int i7_)] []) ?_ fuelN (0 : Int32) σ h2_
    clear h2_
    intro rec4_ i7_ σ8_ h5_ h6_
    have K11_ : i7_ < n_a → Z Θ 6 0 0 (zQ Θ ρ) σ8_ 9 [(0, .ref (zA Θ 13)), (1, .ref (zA Θ village_a)), (2, .int n_a), (3, .int (b2i speeches_a)), (4, .int i7_)] [] := by
      intro h14_
      rw [if_pos h14_] at h6_
      refine z_aload_n C 1 dX0_bakeWeeks_9 rfl rfl ?_
      refine fg0_19 C hkd h_village dX0_bakeWeeks_10 ?_
      refine z_iconst (v := 4) C dX0_bakeWeeks_13 ic_4 ?_
      refine z_callS C [.int (σ8_ village_a 12), .int 4] (some (.int (fmod (σ8_ village_a 12) 4)), σ8_) 2 (cJ_floorMod (zc_inj C) (by decide)) w_3_127 w_3_125 w_3_126 w_1_28 ⟨rfl, rfl, (Nat.le_of_ble_eq_true rfl), (Nat.le_of_ble_eq_true rfl)⟩ (by decide +kernel) rfl rfl (Nat.le_of_ble_eq_true rfl) ⟨Nat.zero_le _, Nat.zero_le _⟩ dX0_bakeWeeks_14 ?_
      obtain ⟨season15_, h16_, h6_⟩ := lt_ h6_
      refine z_ist C dX0_bakeWeeks_17 h16_ (Nat.le_of_ble_eq_true rfl) rfl ?_
      refine z_aload_n C 2 dX0_bakeWeeks_19 rfl rfl ?_
      refine z_sipush (v := 9999) C dX0_bakeWeeks_20 sp_9999 ?_
      refine z_aload_n C 2 dX0_bakeWeeks_23 rfl rfl ?_
      refine fg0_31 C hkd h_village dX0_bakeWeeks_24 ?_
      refine z_aload_n C 2 dX0_bakeWeeks_27 rfl rfl ?_
      refine fg0_34 C hkd h_village dX0_bakeWeeks_28 ?_
      refine z_iload C 0 dX0_bakeWeeks_31 rfl ?_
      obtain ⟨x17_, h18_, h6_⟩ := ob h6_
      refine z_ag C h18_ (kV_7 hkd h_village) dX0_bakeWeeks_33 ?_
      refine z_iadd C dX0_bakeWeeks_34 ?_
      refine z_min C w_3_128 w_3_129 w_1_28 w_3_130 ⟨(Nat.le_of_ble_eq_true rfl), (Nat.le_of_ble_eq_true rfl)⟩ (Nat.le_of_ble_eq_true rfl) ⟨Nat.zero_le _, Nat.zero_le _⟩ dX0_bakeWeeks_35 ?_
      obtain ⟨σ19_, h20_, h6_⟩ := lt_ h6_
      refine fp0_31 C hkd h_village h20_ dX0_bakeWeeks_38 ?_
      refine z_aload_n C 1 dX0_bakeWeeks_41 rfl rfl ?_
      refine z_aload_n C 2 dX0_bakeWeeks_42 rfl rfl ?_
      obtain ⟨x21_, h22_, h6_⟩ := ob h6_
      refine cr0_41 (village_a := village_a) C hkd h_village h22_ ⟨(Nat.le_of_ble_eq_true rfl), (Nat.le_of_ble_eq_true rfl)⟩ (Nat.le_of_ble_eq_true rfl) ⟨Nat.zero_le _, Nat.zero_le _⟩ dX0_bakeWeeks_43 ?_
      refine z_aload_n C 1 dX0_bakeWeeks_46 rfl rfl ?_
      refine z_aload_n C 2 dX0_bakeWeeks_47 rfl rfl ?_
      obtain ⟨x23_, h24_, h6_⟩ := ob h6_
      refine cr0_45 (village_a := village_a) C hkd h_village h24_ ⟨(Nat.le_of_ble_eq_true rfl), (Nat.le_of_ble_eq_true rfl)⟩ (Nat.le_of_ble_eq_true rfl) ⟨Nat.zero_le _, Nat.zero_le _⟩ dX0_bakeWeeks_48 ?_
      refine z_aload_n C 1 dX0_bakeWeeks_51 rfl rfl ?_
      refine z_aload_n C 2 dX0_bakeWeeks_52 rfl rfl ?_
      obtain ⟨x25_, h26_, h6_⟩ := ob h6_
      refine cr0_48 (village_a := village_a) C hkd h_village h26_ ⟨(Nat.le_of_ble_eq_true rfl), (Nat.le_of_ble_eq_true rfl)⟩ (Nat.le_of_ble_eq_true rfl) ⟨Nat.zero_le _, Nat.zero_le _⟩ dX0_bakeWeeks_53 ?_
      obtain ⟨y27_, h28_, h6_⟩ := ob h6_
      suffices K29_ : Z Θ 6 0 0 (zQ Θ ρ) y27_ 65 [(0, .ref (zA Θ 13)), (1, .ref (zA Θ village_a)), (2, .int n_a), (3, .int (b2i speeches_a)), (4, .int i7_), (5, .int season15_)] [] by
        have K30_ : speeches_a = true → Z Θ 6 0 0 (zQ Θ ρ) x25_ 60 [(5, .int season15_), (0, .ref (zA Θ 13)), (1, .ref (zA Θ village_a)), (2, .int n_a), (3, .int (b2i speeches_a)), (4, .int i7_)] [] := by
          intro h33_
          rw [if_pos h33_] at h28_
          refine z_aload_n C 1 dX0_bakeWeeks_60 rfl rfl ?_
          refine z_aload_n C 2 dX0_bakeWeeks_61 rfl rfl ?_
          obtain ⟨x34_, h35_, h28_⟩ := ob h28_
          refine cr0_51 (village_a := village_a) C hkd h_village h35_ ⟨(Nat.le_of_ble_eq_true rfl), (Nat.le_of_ble_eq_true rfl)⟩ (Nat.le_of_ble_eq_true rfl) ⟨Nat.zero_le _, Nat.zero_le _⟩ dX0_bakeWeeks_62 ?_
          cases h28_
          refine Z.sub [1, 2, 3, 4, 5, 0] rfl ?_
          exact K29_
        have K31_ : ¬ (speeches_a = true) → Z Θ 6 0 0 (zQ Θ ρ) x25_ 65 [(5, .int season15_), (0, .ref (zA Θ 13)), (1, .ref (zA Θ village_a)), (2, .int n_a), (3, .int (b2i speeches_a)), (4, .int i7_)] [] := by
          intro h33_
          rw [if_neg h33_] at h28_
          cases h28_
          refine Z.sub [1, 2, 3, 4, 5, 0] rfl ?_
          exact K29_
        refine z_iload_n C 4 dX0_bakeWeeks_56 rfl rfl ?_
        refine cb_f C 65 dX0_bakeWeeks_57 (by decide) (fun h32_ => ?_) (fun h32_ => ?_)
        · exact K30_ h32_
        · exact K31_ h32_
      refine z_aload_n C 1 dX0_bakeWeeks_65 rfl rfl ?_
      refine z_sipush (v := 9999) C dX0_bakeWeeks_66 sp_9999 ?_
      refine z_aload_n C 1 dX0_bakeWeeks_69 rfl rfl ?_
      refine fg0_19 C hkd h_village dX0_bakeWeeks_70 ?_
      refine z_iconst (v := 1) C dX0_bakeWeeks_73 ic_1 ?_
      refine z_iadd C dX0_bakeWeeks_74 ?_
      refine z_min C w_3_128 w_3_129 w_1_28 w_3_130 ⟨(Nat.le_of_ble_eq_true rfl), (Nat.le_of_ble_eq_true rfl)⟩ (Nat.le_of_ble_eq_true rfl) ⟨Nat.zero_le _, Nat.zero_le _⟩ dX0_bakeWeeks_75 ?_
      obtain ⟨σ36_, h37_, h6_⟩ := lt_ h6_
      refine fp0_19 C hkd h_village h37_ dX0_bakeWeeks_78 ?_
      obtain ⟨i38_, h39_, h6_⟩ := lt_ h6_
      refine z_inc C 4 dX0_bakeWeeks_81 rfl ic_1 h39_ (Nat.le_of_ble_eq_true rfl) rfl ?_
      refine z_goto C 3 dX0_bakeWeeks_84 (by decide) ?_
      refine Z.sub [1, 2, 3, 4, 0] rfl ?_
      exact h5_ _ _ h6_
    have K12_ : ¬ (i7_ < n_a) → Z Θ 6 0 0 (zQ Θ ρ) σ8_ 87 [(0, .ref (zA Θ 13)), (1, .ref (zA Θ village_a)), (2, .int n_a), (3, .int (b2i speeches_a)), (4, .int i7_)] [] := by
      intro h14_
      rw [if_neg h14_] at h6_
      cases h6_
      exact K3_
    refine z_iload C 4 dX0_bakeWeeks_3 rfl ?_
    refine z_iload_n C 2 dX0_bakeWeeks_5 rfl rfl ?_
    refine c_lt_f C 87 dX0_bakeWeeks_6 (by decide) (fun h13_ => ?_) (fun h13_ => ?_)
    · exact K11_ h13_
    · exact K12_ h13_
  cases hf
  subst hρ
  exact z_vret C dX0_bakeWeeks_87
theorem c0_bakeWeeks {l : Launch} {kd : List KD} {w : Wp} {σ : St} {village_a : Nat} {n_a : Int32} {speeches_a : Bool} (hkd : kd = kdC) (hi : zI kd w) (h_village : isV village_a) {r : St} (hf : q0_bakeWeeks σ village_a n_a speeches_a = some r) : zM l kd w yX0_bakeWeeks cX0_bakeWeeks 6 none rm0_bakeWeeks [.ref (w.2.2.1 13), .ref (w.2.2.1 village_a), .int n_a, .int (b2i speeches_a)] σ (none, r) := zM_of rfl hi (Nat.le_of_ble_eq_true rfl) (fun Θ hl hw C => by
  obtain ⟨Θ1, Θ2, Θ3, Θ4, Θ5⟩ := Θ
  cases hw
  exact p0_bakeWeeks C hkd h_village hf rfl)

/-! LastLoaf$Village.likingOf -/
theorem dX10_likingOf_0 : decode cX10_likingOf 0 = .ok (.iload_n 1, 1) := by decide +kernel
theorem dX10_likingOf_1 : decode cX10_likingOf 1 = .ok (.iload_n 2, 1) := by decide +kernel
theorem dX10_likingOf_2 : decode cX10_likingOf 2 = .ok (.if_icmp .ne 8, 3) := by decide +kernel
theorem dX10_likingOf_5 : decode cX10_likingOf 5 = .ok (.bipush 9, 2) := by decide +kernel
theorem dX10_likingOf_7 : decode cX10_likingOf 7 = .ok (.goto 14, 3) := by decide +kernel
theorem dX10_likingOf_10 : decode cX10_likingOf 10 = .ok (.aload_n 0, 1) := by decide +kernel
theorem dX10_likingOf_11 : decode cX10_likingOf 11 = .ok (.getfield 27, 3) := by decide +kernel
theorem dX10_likingOf_14 : decode cX10_likingOf 14 = .ok (.iload_n 1, 1) := by decide +kernel
theorem dX10_likingOf_15 : decode cX10_likingOf 15 = .ok (.bipush 6, 2) := by decide +kernel
theorem dX10_likingOf_17 : decode cX10_likingOf 17 = .ok (.imul, 1) := by decide +kernel
theorem dX10_likingOf_18 : decode cX10_likingOf 18 = .ok (.iload_n 2, 1) := by decide +kernel
theorem dX10_likingOf_19 : decode cX10_likingOf 19 = .ok (.iadd, 1) := by decide +kernel
theorem dX10_likingOf_20 : decode cX10_likingOf 20 = .ok (.iaload, 1) := by decide +kernel
theorem dX10_likingOf_21 : decode cX10_likingOf 21 = .ok (.ireturn, 1) := by decide +kernel
def q10_likingOf (σ : St) (th : Nat) (person_a : Int32) (other_a : Int32) : Option Int32 :=
  Option.bind (if person_a = other_a then (some (9 : Int32)) else (Option.bind (ag σ (th + 6) 36 ((person_a * 6) + other_a)) fun x7_ =>
  some x7_)) fun x1_ =>
  some x1_
abbrev rm10_likingOf : Room := { frames := 0, cells := 0, slots := 0, locals := 0 }
set_option maxHeartbeats 4000000 in
set_option maxRecDepth 100000 in
theorem p10_likingOf {Θ : Tz} {σ : St} {ρ : Option Value × St} (C : Zc Θ cX10_likingOf 3 RX10 (some .int) rm10_likingOf) (hkd : Θ.2.2.2.2.1 = kdC) {th : Nat} {person_a : Int32} {other_a : Int32} (hth : isV th) {r : Int32} (hf : q10_likingOf σ th person_a other_a = some r) (hρ : ρ = (some (.int r), σ)) : Z Θ 3 0 0 (zQ Θ ρ) σ 0 [(0, .ref (zA Θ th)), (1, .int person_a), (2, .int other_a)] [] := by
  unfold q10_likingOf at hf
  obtain ⟨x1_, h2_, hf⟩ := ob hf
  suffices K3_ : Z Θ 3 0 0 (zQ Θ ρ) σ 21 [(0, .ref (zA Θ th)), (1, .int person_a), (2, .int other_a)] [.int x1_] by
    have K4_ : person_a = other_a → Z Θ 3 0 0 (zQ Θ ρ) σ 5 [(0, .ref (zA Θ th)), (1, .int person_a), (2, .int other_a)] [] := by
      intro h9_
      rw [if_pos h9_] at h2_
      refine z_bipush (v := 9) C dX10_likingOf_5 bp_9 ?_
      refine z_goto C 21 dX10_likingOf_7 (by decide) ?_
      cases h2_
      exact K3_
    have K5_ : ¬ (person_a = other_a) → Z Θ 3 0 0 (zQ Θ ρ) σ 10 [(0, .ref (zA Θ th)), (1, .int person_a), (2, .int other_a)] [] := by
      intro h9_
      rw [if_neg h9_] at h2_
      refine z_aload_n C 0 dX10_likingOf_10 rfl rfl ?_
      refine fg10_27 C hkd hth dX10_likingOf_11 ?_
      refine z_iload_n C 1 dX10_likingOf_14 rfl rfl ?_
      refine z_bipush (v := 6) C dX10_likingOf_15 bp_6 ?_
      refine z_imul C dX10_likingOf_17 ?_
      refine z_iload_n C 2 dX10_likingOf_18 rfl rfl ?_
      refine z_iadd C dX10_likingOf_19 ?_
      obtain ⟨x7_, h8_, h2_⟩ := ob h2_
      refine z_ag C h8_ (kV_6 hkd hth) dX10_likingOf_20 ?_
      cases h2_
      exact K3_
    refine z_iload_n C 1 dX10_likingOf_0 rfl rfl ?_
    refine z_iload_n C 2 dX10_likingOf_1 rfl rfl ?_
    refine c_eq_f C 10 dX10_likingOf_2 (by decide) (fun h6_ => ?_) (fun h6_ => ?_)
    · exact K4_ h6_
    · exact K5_ h6_
  cases hf
  subst hρ
  exact z_iret C dX10_likingOf_21
theorem c10_likingOf {l : Launch} {kd : List KD} {w : Wp} {σ : St} {th : Nat} {person_a : Int32} {other_a : Int32} (hkd : kd = kdC) (hi : zI kd w) (hth : isV th) {r : Int32} (hf : q10_likingOf σ th person_a other_a = some r) : zM l kd w yX10_likingOf cX10_likingOf 3 (some .int) rm10_likingOf [.ref (w.2.2.1 th), .int person_a, .int other_a] σ (some (.int r), σ) := zM_of rfl hi (Nat.le_of_ble_eq_true rfl) (fun Θ hl hw C => by
  obtain ⟨Θ1, Θ2, Θ3, Θ4, Θ5⟩ := Θ
  cases hw
  exact p10_likingOf C hkd hth hf rfl)
/-! LastLoaf$Law.weigh -/
theorem w_1_207 : Cond.fieldLink "LastLoaf$Law" (18 : Nat) "LastLoaf$Law" "parts" "[I" ∈ TB := tb_in (lwt_1 (List.mem_of_getElem? (i := 207) (by decide +kernel))) rfl
theorem fg2_18 {Θ : Tz} {cc : ByteArray} {nL kc ks : Nat} {ret : Option FieldType} {rm : Room} {Q : State → Prop} {σ : St} {pc : Nat} {lv : List (Nat × Value)} {st : List Value} (C : Zc Θ cc nL RX2 ret rm) (hkd : Θ.2.2.2.2.1 = kdC) {th : Nat} (hth : isLaw th) (hd : decode cc pc = .ok (.getfield 18, 3)) (kk : Z Θ nL kc ks Q σ (pc + 3) lv (.ref (zA Θ (th + 3)) :: st)) : Z Θ nL kc ks Q σ pc lv (.ref (zA Θ th) :: st) := z_get C inT2 th (kLaw_0 hkd hth) rfl 2 (by decide) w_1_207 rfl hd kk
theorem w_3_48 : Cond.code ({ cls := "LastLoaf$Village", name := "likingOf", desc := "(II)I" } : MethodName) prog_12_method_6_code (3 : Nat) (Option.some ClassFile.FieldType.int) ∈ TB := tb_in (lwt_3 (List.mem_of_getElem? (i := 48) (by decide +kernel))) rfl
theorem w_3_45 : Cond.methodLink "LastLoaf$Law" (41 : Nat) ({ cls := "LastLoaf$Village", name := "likingOf", desc := "(II)I" } : MethodName) ∈ TB := tb_in (lwt_3 (List.mem_of_getElem? (i := 45) (by decide +kernel))) rfl
theorem w_3_46 : Cond.instanceMethod ({ cls := "LastLoaf$Village", name := "likingOf", desc := "(II)I" } : MethodName) ∈ TB := tb_in (lwt_3 (List.mem_of_getElem? (i := 46) (by decide +kernel))) rfl
theorem w_3_47 : Cond.selects "LastLoaf$Village" ({ cls := "LastLoaf$Village", name := "likingOf", desc := "(II)I" } : MethodName) ({ cls := "LastLoaf$Village", name := "likingOf", desc := "(II)I" } : MethodName) ∈ TB := tb_in (lwt_3 (List.mem_of_getElem? (i := 47) (by decide +kernel))) rfl
theorem cr2_41 {Θ : Tz} {cc : ByteArray} {nL kc ks : Nat} {ret : Option FieldType} {rm : Room} {Q : State → Prop} {σ : St} {pc : Nat} {lv : List (Nat × Value)} {st : List Value} (C : Zc Θ cc nL RX2 ret rm) (hkd : Θ.2.2.2.2.1 = kdC) {th : Nat} {person_a : Int32} {other_a : Int32} (hth : isV th) {r : Int32} (hx : q10_likingOf σ th person_a other_a = some r) (hrm : rm10_likingOf.frames + 1 ≤ rm.frames ∧ 8 + (3 + 11) + rm10_likingOf.locals ≤ rm.locals) (hcat : (st.map fun v => v.category).sum ≤ 8) (hk : kc ≤ rm.cells ∧ ks ≤ rm.slots) (hd : decode cc pc = .ok (.invokevirtual 41, 3)) (kk : Z Θ nL kc ks Q σ (pc + 3) lv (.int r :: st)) : Z Θ nL kc ks Q σ pc lv (.int other_a :: .int person_a :: .ref (zA Θ th) :: st) := z_callV C th [.int person_a, .int other_a] (some (.int r), σ) 2 (kV_0 hkd hth) rfl (c10_likingOf (th := th) (person_a := person_a) (other_a := other_a) hkd (zc_inj C) hth hx) w_3_48 w_3_45 w_3_46 w_3_47 w_1_3 ⟨rfl, rfl, hrm.1, hrm.2⟩ (by decide +kernel) rfl rfl hcat hk hd kk
theorem w_1_95 : Cond.fieldLink "LastLoaf$Law" (55 : Nat) "LastLoaf$Village" "hunger" "[I" ∈ TB := tb_in (lwt_1 (List.mem_of_getElem? (i := 95) (by decide +kernel))) rfl
theorem fg2_55 {Θ : Tz} {cc : ByteArray} {nL kc ks : Nat} {ret : Option FieldType} {rm : Room} {Q : State → Prop} {σ : St} {pc : Nat} {lv : List (Nat × Value)} {st : List Value} (C : Zc Θ cc nL RX2 ret rm) (hkd : Θ.2.2.2.2.1 = kdC) {th : Nat} (hth : isV th) (hd : decode cc pc = .ok (.getfield 55, 3)) (kk : Z Θ nL kc ks Q σ (pc + 3) lv (.ref (zA Θ (th + 1)) :: st)) : Z Θ nL kc ks Q σ pc lv (.ref (zA Θ th) :: st) := z_get C inT10 th (kV_0 hkd hth) rfl 0 (by decide) w_1_95 rfl hd kk
theorem w_1_106 : Cond.fieldLink "LastLoaf$Law" (58 : Nat) "LastLoaf$Village" "had" "[I" ∈ TB := tb_in (lwt_1 (List.mem_of_getElem? (i := 106) (by decide +kernel))) rfl
theorem fg2_58 {Θ : Tz} {cc : ByteArray} {nL kc ks : Nat} {ret : Option FieldType} {rm : Room} {Q : State → Prop} {σ : St} {pc : Nat} {lv : List (Nat × Value)} {st : List Value} (C : Zc Θ cc nL RX2 ret rm) (hkd : Θ.2.2.2.2.1 = kdC) {th : Nat} (hth : isV th) (hd : decode cc pc = .ok (.getfield 58, 3)) (kk : Z Θ nL kc ks Q σ (pc + 3) lv (.ref (zA Θ (th + 4)) :: st)) : Z Θ nL kc ks Q σ pc lv (.ref (zA Θ th) :: st) := z_get C inT10 th (kV_0 hkd hth) rfl 3 (by decide) w_1_106 rfl hd kk
theorem w_1_110 : Cond.fieldLink "LastLoaf$Law" (61 : Nat) "LastLoaf$Village" "run" "[I" ∈ TB := tb_in (lwt_1 (List.mem_of_getElem? (i := 110) (by decide +kernel))) rfl
theorem fg2_61 {Θ : Tz} {cc : ByteArray} {nL kc ks : Nat} {ret : Option FieldType} {rm : Room} {Q : State → Prop} {σ : St} {pc : Nat} {lv : List (Nat × Value)} {st : List Value} (C : Zc Θ cc nL RX2 ret rm) (hkd : Θ.2.2.2.2.1 = kdC) {th : Nat} (hth : isV th) (hd : decode cc pc = .ok (.getfield 61, 3)) (kk : Z Θ nL kc ks Q σ (pc + 3) lv (.ref (zA Θ (th + 5)) :: st)) : Z Θ nL kc ks Q σ pc lv (.ref (zA Θ th) :: st) := z_get C inT10 th (kV_0 hkd hth) rfl 4 (by decide) w_1_110 rfl hd kk
theorem w_1_102 : Cond.fieldLink "LastLoaf$Law" (64 : Nat) "LastLoaf$Village" "skin" "[I" ∈ TB := tb_in (lwt_1 (List.mem_of_getElem? (i := 102) (by decide +kernel))) rfl
theorem fg2_64 {Θ : Tz} {cc : ByteArray} {nL kc ks : Nat} {ret : Option FieldType} {rm : Room} {Q : State → Prop} {σ : St} {pc : Nat} {lv : List (Nat × Value)} {st : List Value} (C : Zc Θ cc nL RX2 ret rm) (hkd : Θ.2.2.2.2.1 = kdC) {th : Nat} (hth : isV th) (hd : decode cc pc = .ok (.getfield 64, 3)) (kk : Z Θ nL kc ks Q σ (pc + 3) lv (.ref (zA Θ (th + 3)) :: st)) : Z Θ nL kc ks Q σ pc lv (.ref (zA Θ th) :: st) := z_get C inT10 th (kV_0 hkd hth) rfl 2 (by decide) w_1_102 rfl hd kk
theorem w_3_52 : Cond.code ({ cls := "LastLoaf$Village", name := "areOfOneParty", desc := "(II)Z" } : MethodName) prog_12_method_7_code (3 : Nat) (Option.some ClassFile.FieldType.boolean) ∈ TB := tb_in (lwt_3 (List.mem_of_getElem? (i := 52) (by decide +kernel))) rfl
theorem w_3_49 : Cond.methodLink "LastLoaf$Law" (47 : Nat) ({ cls := "LastLoaf$Village", name := "areOfOneParty", desc := "(II)Z" } : MethodName) ∈ TB := tb_in (lwt_3 (List.mem_of_getElem? (i := 49) (by decide +kernel))) rfl
theorem w_3_50 : Cond.instanceMethod ({ cls := "LastLoaf$Village", name := "areOfOneParty", desc := "(II)Z" } : MethodName) ∈ TB := tb_in (lwt_3 (List.mem_of_getElem? (i := 50) (by decide +kernel))) rfl
theorem w_3_51 : Cond.selects "LastLoaf$Village" ({ cls := "LastLoaf$Village", name := "areOfOneParty", desc := "(II)Z" } : MethodName) ({ cls := "LastLoaf$Village", name := "areOfOneParty", desc := "(II)Z" } : MethodName) ∈ TB := tb_in (lwt_3 (List.mem_of_getElem? (i := 51) (by decide +kernel))) rfl
theorem cr2_47 {Θ : Tz} {cc : ByteArray} {nL kc ks : Nat} {ret : Option FieldType} {rm : Room} {Q : State → Prop} {σ : St} {pc : Nat} {lv : List (Nat × Value)} {st : List Value} (C : Zc Θ cc nL RX2 ret rm) (hkd : Θ.2.2.2.2.1 = kdC) {th : Nat} {person_a : Int32} {other_a : Int32} (hth : isV th) {r : Bool} (hx : q10_areOfOneParty σ th person_a other_a = some r) (hrm : rm10_areOfOneParty.frames + 1 ≤ rm.frames ∧ 8 + (3 + 11) + rm10_areOfOneParty.locals ≤ rm.locals) (hcat : (st.map fun v => v.category).sum ≤ 8) (hk : kc ≤ rm.cells ∧ ks ≤ rm.slots) (hd : decode cc pc = .ok (.invokevirtual 47, 3)) (kk : Z Θ nL kc ks Q σ (pc + 3) lv (.int (b2i r) :: st)) : Z Θ nL kc ks Q σ pc lv (.int other_a :: .int person_a :: .ref (zA Θ th) :: st) := z_callV C th [.int person_a, .int other_a] (some (.int (b2i r)), σ) 2 (kV_0 hkd hth) rfl (c10_areOfOneParty (th := th) (person_a := person_a) (other_a := other_a) hkd (zc_inj C) hth hx) w_3_52 w_3_49 w_3_50 w_3_51 w_1_3 ⟨rfl, rfl, hrm.1, hrm.2⟩ (by decide +kernel) rfl rfl hcat hk hd kk
theorem w_1_135 : Cond.fieldLink "LastLoaf$Law" (67 : Nat) "LastLoaf$Village" "standing" "I" ∈ TB := tb_in (lwt_1 (List.mem_of_getElem? (i := 135) (by decide +kernel))) rfl
theorem fg2_67 {Θ : Tz} {cc : ByteArray} {nL kc ks : Nat} {ret : Option FieldType} {rm : Room} {Q : State → Prop} {σ : St} {pc : Nat} {lv : List (Nat × Value)} {st : List Value} (C : Zc Θ cc nL RX2 ret rm) (hkd : Θ.2.2.2.2.1 = kdC) {th : Nat} (hth : isV th) (hd : decode cc pc = .ok (.getfield 67, 3)) (kk : Z Θ nL kc ks Q σ (pc + 3) lv (.int (σ th 9) :: st)) : Z Θ nL kc ks Q σ pc lv (.ref (zA Θ th) :: st) := z_get C inT10 th (kV_0 hkd hth) rfl 9 (by decide) w_1_135 rfl hd kk
theorem w_3_36 : Cond.code ({ cls := "LastLoaf", name := "isIn", desc := "(II)Z" } : MethodName) prog_1_method_65_code (2 : Nat) (Option.some ClassFile.FieldType.boolean) ∈ TB := tb_in (lwt_3 (List.mem_of_getElem? (i := 36) (by decide +kernel))) rfl
theorem w_3_35 : Cond.static ({ cls := "LastLoaf", name := "isIn", desc := "(II)Z" } : MethodName) ∈ TB := tb_in (lwt_3 (List.mem_of_getElem? (i := 35) (by decide +kernel))) rfl
theorem cr2_70 {Θ : Tz} {cc : ByteArray} {nL kc ks : Nat} {ret : Option FieldType} {rm : Room} {Q : State → Prop} {σ : St} {pc : Nat} {lv : List (Nat × Value)} {st : List Value} (C : Zc Θ cc nL RX2 ret rm) (hkd : Θ.2.2.2.2.1 = kdC) {set_a : Int32} {person_a : Int32} (hrm : rm11_isIn.frames + 1 ≤ rm.frames ∧ 8 + (2 + 11) + rm11_isIn.locals ≤ rm.locals) (hcat : (st.map fun v => v.category).sum ≤ 8) (hk : kc ≤ rm.cells ∧ ks ≤ rm.slots) (hd : decode cc pc = .ok (.invokestatic 70, 3)) (kk : Z Θ nL kc ks Q σ (pc + 3) lv (.int (b2i (q11_isIn set_a person_a)) :: st)) : Z Θ nL kc ks Q σ pc lv (.int person_a :: .int set_a :: st) := z_callSN (host := "LastLoaf") C [.int set_a, .int person_a] (some (.int (b2i (q11_isIn set_a person_a))), σ) 2 (c11_isIn (set_a := set_a) (person_a := person_a) hkd (zc_inj C)) w_3_36 (List.mem_of_getElem? (i := 8) rfl) w_3_35 w_1_1 ⟨rfl, rfl, hrm.1, hrm.2⟩ (by decide +kernel) rfl rfl hcat hk hd kk
theorem sp_1009 : (Int16.ofInt (1009)).toInt32 = 1009 := by decide +kernel
theorem w_1_206 : Cond.fieldLink "LastLoaf$Law" (15 : Nat) "LastLoaf$Law" "stack" "[I" ∈ TB := tb_in (lwt_1 (List.mem_of_getElem? (i := 206) (by decide +kernel))) rfl
theorem fg2_15 {Θ : Tz} {cc : ByteArray} {nL kc ks : Nat} {ret : Option FieldType} {rm : Room} {Q : State → Prop} {σ : St} {pc : Nat} {lv : List (Nat × Value)} {st : List Value} (C : Zc Θ cc nL RX2 ret rm) (hkd : Θ.2.2.2.2.1 = kdC) {th : Nat} (hth : isLaw th) (hd : decode cc pc = .ok (.getfield 15, 3)) (kk : Z Θ nL kc ks Q σ (pc + 3) lv (.ref (zA Θ (th + 2)) :: st)) : Z Θ nL kc ks Q σ pc lv (.ref (zA Θ th) :: st) := z_get C inT2 th (kLaw_0 hkd hth) rfl 1 (by decide) w_1_206 rfl hd kk
theorem w_3_57 : Cond.code ({ cls := "LastLoaf$Law", name := "hold", desc := "(I)V" } : MethodName) prog_4_method_7_code (2 : Nat) (Option.none : Option ClassFile.FieldType) ∈ TB := tb_in (lwt_3 (List.mem_of_getElem? (i := 57) (by decide +kernel))) rfl
theorem w_3_54 : Cond.methodLink "LastLoaf$Law" (73 : Nat) ({ cls := "LastLoaf$Law", name := "hold", desc := "(I)V" } : MethodName) ∈ TB := tb_in (lwt_3 (List.mem_of_getElem? (i := 54) (by decide +kernel))) rfl
theorem w_3_55 : Cond.instanceMethod ({ cls := "LastLoaf$Law", name := "hold", desc := "(I)V" } : MethodName) ∈ TB := tb_in (lwt_3 (List.mem_of_getElem? (i := 55) (by decide +kernel))) rfl
theorem w_3_56 : Cond.selects "LastLoaf$Law" ({ cls := "LastLoaf$Law", name := "hold", desc := "(I)V" } : MethodName) ({ cls := "LastLoaf$Law", name := "hold", desc := "(I)V" } : MethodName) ∈ TB := tb_in (lwt_3 (List.mem_of_getElem? (i := 56) (by decide +kernel))) rfl
theorem cr2_73 {Θ : Tz} {cc : ByteArray} {nL kc ks : Nat} {ret : Option FieldType} {rm : Room} {Q : State → Prop} {σ : St} {pc : Nat} {lv : List (Nat × Value)} {st : List Value} (C : Zc Θ cc nL RX2 ret rm) (hkd : Θ.2.2.2.2.1 = kdC) {th : Nat} {line_a : Int32} (hth : isLaw th) {r : St} (hx : q2_hold σ th line_a = some r) (hrm : rm2_hold.frames + 1 ≤ rm.frames ∧ 8 + (2 + 11) + rm2_hold.locals ≤ rm.locals) (hcat : (st.map fun v => v.category).sum ≤ 8) (hk : kc ≤ rm.cells ∧ ks ≤ rm.slots) (hd : decode cc pc = .ok (.invokevirtual 73, 3)) (kk : Z Θ nL kc ks Q r (pc + 3) lv st) : Z Θ nL kc ks Q σ pc lv (.int line_a :: .ref (zA Θ th) :: st) := z_callV C th [.int line_a] (none, r) 1 (kLaw_0 hkd hth) rfl (c2_hold (th := th) (line_a := line_a) hkd (zc_inj C) hth hx) w_3_57 w_3_54 w_3_55 w_3_56 w_1_6 ⟨rfl, rfl, hrm.1, hrm.2⟩ (by decide +kernel) rfl rfl hcat hk hd kk
theorem w_3_60 : Cond.code ({ cls := "LastLoaf$Law", name := "joined", desc := "(III)I" } : MethodName) prog_4_method_8_code (3 : Nat) (Option.some ClassFile.FieldType.int) ∈ TB := tb_in (lwt_3 (List.mem_of_getElem? (i := 60) (by decide +kernel))) rfl
theorem w_3_59 : Cond.static ({ cls := "LastLoaf$Law", name := "joined", desc := "(III)I" } : MethodName) ∈ TB := tb_in (lwt_3 (List.mem_of_getElem? (i := 59) (by decide +kernel))) rfl
theorem w_3_58 : Cond.methodLink "LastLoaf$Law" (77 : Nat) ({ cls := "LastLoaf$Law", name := "joined", desc := "(III)I" } : MethodName) ∈ TB := tb_in (lwt_3 (List.mem_of_getElem? (i := 58) (by decide +kernel))) rfl
theorem cr2_77 {Θ : Tz} {cc : ByteArray} {nL kc ks : Nat} {ret : Option FieldType} {rm : Room} {Q : State → Prop} {σ : St} {pc : Nat} {lv : List (Nat × Value)} {st : List Value} (C : Zc Θ cc nL RX2 ret rm) (hkd : Θ.2.2.2.2.1 = kdC) {sign_a : Int32} {first_a : Int32} {second_a : Int32} (hrm : rm2_joined.frames + 1 ≤ rm.frames ∧ 8 + (3 + 11) + rm2_joined.locals ≤ rm.locals) (hcat : (st.map fun v => v.category).sum ≤ 8) (hk : kc ≤ rm.cells ∧ ks ≤ rm.slots) (hd : decode cc pc = .ok (.invokestatic 77, 3)) (kk : Z Θ nL kc ks Q σ (pc + 3) lv (.int (q2_joined sign_a first_a second_a) :: st)) : Z Θ nL kc ks Q σ pc lv (.int second_a :: .int first_a :: .int sign_a :: st) := z_callS C [.int sign_a, .int first_a, .int second_a] (some (.int (q2_joined sign_a first_a second_a)), σ) 3 (c2_joined (sign_a := sign_a) (first_a := first_a) (second_a := second_a) hkd (zc_inj C)) w_3_60 w_3_58 w_3_59 w_1_6 ⟨rfl, rfl, hrm.1, hrm.2⟩ (by decide +kernel) rfl rfl hcat hk hd kk
theorem dX2_weigh_0 : decode cX2_weigh 0 = .ok (.aload_n 0, 1) := by decide +kernel
theorem dX2_weigh_1 : decode cX2_weigh 1 = .ok (.getfield 18, 3) := by decide +kernel
theorem dX2_weigh_4 : decode cX2_weigh 4 = .ok (.iconst 0, 1) := by decide +kernel
theorem dX2_weigh_5 : decode cX2_weigh 5 = .ok (.iload_n 2, 1) := by decide +kernel
theorem dX2_weigh_6 : decode cX2_weigh 6 = .ok (.iastore, 1) := by decide +kernel
theorem dX2_weigh_7 : decode cX2_weigh 7 = .ok (.aload_n 0, 1) := by decide +kernel
theorem dX2_weigh_8 : decode cX2_weigh 8 = .ok (.getfield 18, 3) := by decide +kernel
theorem dX2_weigh_11 : decode cX2_weigh 11 = .ok (.iconst 1, 1) := by decide +kernel
theorem dX2_weigh_12 : decode cX2_weigh 12 = .ok (.iload_n 3, 1) := by decide +kernel
theorem dX2_weigh_13 : decode cX2_weigh 13 = .ok (.iastore, 1) := by decide +kernel
theorem dX2_weigh_14 : decode cX2_weigh 14 = .ok (.aload_n 0, 1) := by decide +kernel
theorem dX2_weigh_15 : decode cX2_weigh 15 = .ok (.getfield 18, 3) := by decide +kernel
theorem dX2_weigh_18 : decode cX2_weigh 18 = .ok (.iconst 2, 1) := by decide +kernel
theorem dX2_weigh_19 : decode cX2_weigh 19 = .ok (.aload_n 1, 1) := by decide +kernel
theorem dX2_weigh_20 : decode cX2_weigh 20 = .ok (.iload_n 2, 1) := by decide +kernel
theorem dX2_weigh_21 : decode cX2_weigh 21 = .ok (.iload_n 3, 1) := by decide +kernel
theorem dX2_weigh_22 : decode cX2_weigh 22 = .ok (.invokevirtual 41, 3) := by decide +kernel
theorem dX2_weigh_25 : decode cX2_weigh 25 = .ok (.iastore, 1) := by decide +kernel
theorem dX2_weigh_26 : decode cX2_weigh 26 = .ok (.aload_n 0, 1) := by decide +kernel
theorem dX2_weigh_27 : decode cX2_weigh 27 = .ok (.getfield 18, 3) := by decide +kernel
theorem dX2_weigh_30 : decode cX2_weigh 30 = .ok (.iconst 3, 1) := by decide +kernel
theorem dX2_weigh_31 : decode cX2_weigh 31 = .ok (.aload_n 1, 1) := by decide +kernel
theorem dX2_weigh_32 : decode cX2_weigh 32 = .ok (.getfield 55, 3) := by decide +kernel
theorem dX2_weigh_35 : decode cX2_weigh 35 = .ok (.iload_n 3, 1) := by decide +kernel
theorem dX2_weigh_36 : decode cX2_weigh 36 = .ok (.iaload, 1) := by decide +kernel
theorem dX2_weigh_37 : decode cX2_weigh 37 = .ok (.iastore, 1) := by decide +kernel
theorem dX2_weigh_38 : decode cX2_weigh 38 = .ok (.aload_n 0, 1) := by decide +kernel
theorem dX2_weigh_39 : decode cX2_weigh 39 = .ok (.getfield 18, 3) := by decide +kernel
theorem dX2_weigh_42 : decode cX2_weigh 42 = .ok (.iconst 4, 1) := by decide +kernel
theorem dX2_weigh_43 : decode cX2_weigh 43 = .ok (.aload_n 1, 1) := by decide +kernel
theorem dX2_weigh_44 : decode cX2_weigh 44 = .ok (.getfield 58, 3) := by decide +kernel
theorem dX2_weigh_47 : decode cX2_weigh 47 = .ok (.iload_n 3, 1) := by decide +kernel
theorem dX2_weigh_48 : decode cX2_weigh 48 = .ok (.iaload, 1) := by decide +kernel
theorem dX2_weigh_49 : decode cX2_weigh 49 = .ok (.iastore, 1) := by decide +kernel
theorem dX2_weigh_50 : decode cX2_weigh 50 = .ok (.aload_n 0, 1) := by decide +kernel
theorem dX2_weigh_51 : decode cX2_weigh 51 = .ok (.getfield 18, 3) := by decide +kernel
theorem dX2_weigh_54 : decode cX2_weigh 54 = .ok (.iconst 5, 1) := by decide +kernel
theorem dX2_weigh_55 : decode cX2_weigh 55 = .ok (.aload_n 1, 1) := by decide +kernel
theorem dX2_weigh_56 : decode cX2_weigh 56 = .ok (.getfield 61, 3) := by decide +kernel
theorem dX2_weigh_59 : decode cX2_weigh 59 = .ok (.iload_n 3, 1) := by decide +kernel
theorem dX2_weigh_60 : decode cX2_weigh 60 = .ok (.iaload, 1) := by decide +kernel
theorem dX2_weigh_61 : decode cX2_weigh 61 = .ok (.iastore, 1) := by decide +kernel
theorem dX2_weigh_62 : decode cX2_weigh 62 = .ok (.aload_n 0, 1) := by decide +kernel
theorem dX2_weigh_63 : decode cX2_weigh 63 = .ok (.getfield 18, 3) := by decide +kernel
theorem dX2_weigh_66 : decode cX2_weigh 66 = .ok (.bipush 6, 2) := by decide +kernel
theorem dX2_weigh_68 : decode cX2_weigh 68 = .ok (.aload_n 1, 1) := by decide +kernel
theorem dX2_weigh_69 : decode cX2_weigh 69 = .ok (.getfield 64, 3) := by decide +kernel
theorem dX2_weigh_72 : decode cX2_weigh 72 = .ok (.iload_n 2, 1) := by decide +kernel
theorem dX2_weigh_73 : decode cX2_weigh 73 = .ok (.iaload, 1) := by decide +kernel
theorem dX2_weigh_74 : decode cX2_weigh 74 = .ok (.iastore, 1) := by decide +kernel
theorem dX2_weigh_75 : decode cX2_weigh 75 = .ok (.aload_n 0, 1) := by decide +kernel
theorem dX2_weigh_76 : decode cX2_weigh 76 = .ok (.getfield 18, 3) := by decide +kernel
theorem dX2_weigh_79 : decode cX2_weigh 79 = .ok (.bipush 7, 2) := by decide +kernel
theorem dX2_weigh_81 : decode cX2_weigh 81 = .ok (.aload_n 1, 1) := by decide +kernel
theorem dX2_weigh_82 : decode cX2_weigh 82 = .ok (.iload_n 2, 1) := by decide +kernel
theorem dX2_weigh_83 : decode cX2_weigh 83 = .ok (.iload_n 3, 1) := by decide +kernel
theorem dX2_weigh_84 : decode cX2_weigh 84 = .ok (.invokevirtual 47, 3) := by decide +kernel
theorem dX2_weigh_87 : decode cX2_weigh 87 = .ok (.ifCond .eq 7, 3) := by decide +kernel
theorem dX2_weigh_90 : decode cX2_weigh 90 = .ok (.iconst 1, 1) := by decide +kernel
theorem dX2_weigh_91 : decode cX2_weigh 91 = .ok (.goto 4, 3) := by decide +kernel
theorem dX2_weigh_94 : decode cX2_weigh 94 = .ok (.iconst 0, 1) := by decide +kernel
theorem dX2_weigh_95 : decode cX2_weigh 95 = .ok (.iastore, 1) := by decide +kernel
theorem dX2_weigh_96 : decode cX2_weigh 96 = .ok (.aload_n 0, 1) := by decide +kernel
theorem dX2_weigh_97 : decode cX2_weigh 97 = .ok (.getfield 18, 3) := by decide +kernel
theorem dX2_weigh_100 : decode cX2_weigh 100 = .ok (.bipush 8, 2) := by decide +kernel
theorem dX2_weigh_102 : decode cX2_weigh 102 = .ok (.aload_n 1, 1) := by decide +kernel
theorem dX2_weigh_103 : decode cX2_weigh 103 = .ok (.getfield 67, 3) := by decide +kernel
theorem dX2_weigh_106 : decode cX2_weigh 106 = .ok (.iload_n 2, 1) := by decide +kernel
theorem dX2_weigh_107 : decode cX2_weigh 107 = .ok (.invokestatic 70, 3) := by decide +kernel
theorem dX2_weigh_110 : decode cX2_weigh 110 = .ok (.ifCond .eq 7, 3) := by decide +kernel
theorem dX2_weigh_113 : decode cX2_weigh 113 = .ok (.iconst 1, 1) := by decide +kernel
theorem dX2_weigh_114 : decode cX2_weigh 114 = .ok (.goto 4, 3) := by decide +kernel
theorem dX2_weigh_117 : decode cX2_weigh 117 = .ok (.iconst 0, 1) := by decide +kernel
theorem dX2_weigh_118 : decode cX2_weigh 118 = .ok (.iastore, 1) := by decide +kernel
theorem dX2_weigh_119 : decode cX2_weigh 119 = .ok (.aload_n 0, 1) := by decide +kernel
theorem dX2_weigh_120 : decode cX2_weigh 120 = .ok (.iconst 0, 1) := by decide +kernel
theorem dX2_weigh_121 : decode cX2_weigh 121 = .ok (.putfield 28, 3) := by decide +kernel
theorem dX2_weigh_124 : decode cX2_weigh 124 = .ok (.aload_n 0, 1) := by decide +kernel
theorem dX2_weigh_125 : decode cX2_weigh 125 = .ok (.iconst 0, 1) := by decide +kernel
theorem dX2_weigh_126 : decode cX2_weigh 126 = .ok (.putfield 31, 3) := by decide +kernel
theorem dX2_weigh_129 : decode cX2_weigh 129 = .ok (.iconst 0, 1) := by decide +kernel
theorem dX2_weigh_130 : decode cX2_weigh 130 = .ok (.istore 4, 2) := by decide +kernel
theorem dX2_weigh_132 : decode cX2_weigh 132 = .ok (.iconst 0, 1) := by decide +kernel
theorem dX2_weigh_133 : decode cX2_weigh 133 = .ok (.istore 5, 2) := by decide +kernel
theorem dX2_weigh_135 : decode cX2_weigh 135 = .ok (.iload 5, 2) := by decide +kernel
theorem dX2_weigh_137 : decode cX2_weigh 137 = .ok (.aload_n 0, 1) := by decide +kernel
theorem dX2_weigh_138 : decode cX2_weigh 138 = .ok (.getfield 21, 3) := by decide +kernel
theorem dX2_weigh_141 : decode cX2_weigh 141 = .ok (.if_icmp .ge 191, 3) := by decide +kernel
theorem dX2_weigh_144 : decode cX2_weigh 144 = .ok (.iload 5, 2) := by decide +kernel
theorem dX2_weigh_146 : decode cX2_weigh 146 = .ok (.sipush 412, 3) := by decide +kernel
theorem dX2_weigh_149 : decode cX2_weigh 149 = .ok (.if_icmp .ge 183, 3) := by decide +kernel
theorem dX2_weigh_152 : decode cX2_weigh 152 = .ok (.aload_n 0, 1) := by decide +kernel
theorem dX2_weigh_153 : decode cX2_weigh 153 = .ok (.getfield 9, 3) := by decide +kernel
theorem dX2_weigh_156 : decode cX2_weigh 156 = .ok (.iload 5, 2) := by decide +kernel
theorem dX2_weigh_158 : decode cX2_weigh 158 = .ok (.iaload, 1) := by decide +kernel
theorem dX2_weigh_159 : decode cX2_weigh 159 = .ok (.istore 6, 2) := by decide +kernel
theorem dX2_weigh_161 : decode cX2_weigh 161 = .ok (.iload 6, 2) := by decide +kernel
theorem dX2_weigh_163 : decode cX2_weigh 163 = .ok (.sipush 1009, 3) := by decide +kernel
theorem dX2_weigh_166 : decode cX2_weigh 166 = .ok (.if_icmp .ge 47, 3) := by decide +kernel
theorem dX2_weigh_169 : decode cX2_weigh 169 = .ok (.iload 4, 2) := by decide +kernel
theorem dX2_weigh_171 : decode cX2_weigh 171 = .ok (.bipush 32, 2) := by decide +kernel
theorem dX2_weigh_173 : decode cX2_weigh 173 = .ok (.if_icmp .ge 40, 3) := by decide +kernel
theorem dX2_weigh_176 : decode cX2_weigh 176 = .ok (.aload_n 0, 1) := by decide +kernel
theorem dX2_weigh_177 : decode cX2_weigh 177 = .ok (.getfield 15, 3) := by decide +kernel
theorem dX2_weigh_180 : decode cX2_weigh 180 = .ok (.iload 4, 2) := by decide +kernel
theorem dX2_weigh_182 : decode cX2_weigh 182 = .ok (.iload 6, 2) := by decide +kernel
theorem dX2_weigh_184 : decode cX2_weigh 184 = .ok (.sipush 1000, 3) := by decide +kernel
theorem dX2_weigh_187 : decode cX2_weigh 187 = .ok (.if_icmp .ge 8, 3) := by decide +kernel
theorem dX2_weigh_190 : decode cX2_weigh 190 = .ok (.iload 6, 2) := by decide +kernel
theorem dX2_weigh_192 : decode cX2_weigh 192 = .ok (.goto 14, 3) := by decide +kernel
theorem dX2_weigh_195 : decode cX2_weigh 195 = .ok (.aload_n 0, 1) := by decide +kernel
theorem dX2_weigh_196 : decode cX2_weigh 196 = .ok (.getfield 18, 3) := by decide +kernel
theorem dX2_weigh_199 : decode cX2_weigh 199 = .ok (.iload 6, 2) := by decide +kernel
theorem dX2_weigh_201 : decode cX2_weigh 201 = .ok (.sipush 1000, 3) := by decide +kernel
theorem dX2_weigh_204 : decode cX2_weigh 204 = .ok (.isub, 1) := by decide +kernel
theorem dX2_weigh_205 : decode cX2_weigh 205 = .ok (.iaload, 1) := by decide +kernel
theorem dX2_weigh_206 : decode cX2_weigh 206 = .ok (.iastore, 1) := by decide +kernel
theorem dX2_weigh_207 : decode cX2_weigh 207 = .ok (.iinc 4 1, 3) := by decide +kernel
theorem dX2_weigh_210 : decode cX2_weigh 210 = .ok (.goto 116, 3) := by decide +kernel
theorem dX2_weigh_213 : decode cX2_weigh 213 = .ok (.iload 6, 2) := by decide +kernel
theorem dX2_weigh_215 : decode cX2_weigh 215 = .ok (.sipush 2000, 3) := by decide +kernel
theorem dX2_weigh_218 : decode cX2_weigh 218 = .ok (.if_icmp .lt 33, 3) := by decide +kernel
theorem dX2_weigh_221 : decode cX2_weigh 221 = .ok (.iload 4, 2) := by decide +kernel
theorem dX2_weigh_223 : decode cX2_weigh 223 = .ok (.ifCond .le 22, 3) := by decide +kernel
theorem dX2_weigh_226 : decode cX2_weigh 226 = .ok (.aload_n 0, 1) := by decide +kernel
theorem dX2_weigh_227 : decode cX2_weigh 227 = .ok (.getfield 15, 3) := by decide +kernel
theorem dX2_weigh_230 : decode cX2_weigh 230 = .ok (.iload 4, 2) := by decide +kernel
theorem dX2_weigh_232 : decode cX2_weigh 232 = .ok (.iconst 1, 1) := by decide +kernel
theorem dX2_weigh_233 : decode cX2_weigh 233 = .ok (.isub, 1) := by decide +kernel
theorem dX2_weigh_234 : decode cX2_weigh 234 = .ok (.iaload, 1) := by decide +kernel
theorem dX2_weigh_235 : decode cX2_weigh 235 = .ok (.iconst 1, 1) := by decide +kernel
theorem dX2_weigh_236 : decode cX2_weigh 236 = .ok (.if_icmp .ne 9, 3) := by decide +kernel
theorem dX2_weigh_239 : decode cX2_weigh 239 = .ok (.aload_n 0, 1) := by decide +kernel
theorem dX2_weigh_240 : decode cX2_weigh 240 = .ok (.iload 6, 2) := by decide +kernel
theorem dX2_weigh_242 : decode cX2_weigh 242 = .ok (.invokevirtual 73, 3) := by decide +kernel
theorem dX2_weigh_245 : decode cX2_weigh 245 = .ok (.iconst 0, 1) := by decide +kernel
theorem dX2_weigh_246 : decode cX2_weigh 246 = .ok (.istore 4, 2) := by decide +kernel
theorem dX2_weigh_248 : decode cX2_weigh 248 = .ok (.goto 78, 3) := by decide +kernel
theorem dX2_weigh_251 : decode cX2_weigh 251 = .ok (.iload 6, 2) := by decide +kernel
theorem dX2_weigh_253 : decode cX2_weigh 253 = .ok (.sipush 1105, 3) := by decide +kernel
theorem dX2_weigh_256 : decode cX2_weigh 256 = .ok (.if_icmp .ne 31, 3) := by decide +kernel
theorem dX2_weigh_259 : decode cX2_weigh 259 = .ok (.iload 4, 2) := by decide +kernel
theorem dX2_weigh_261 : decode cX2_weigh 261 = .ok (.ifCond .le 26, 3) := by decide +kernel
theorem dX2_weigh_264 : decode cX2_weigh 264 = .ok (.aload_n 0, 1) := by decide +kernel
theorem dX2_weigh_265 : decode cX2_weigh 265 = .ok (.getfield 15, 3) := by decide +kernel
theorem dX2_weigh_268 : decode cX2_weigh 268 = .ok (.iload 4, 2) := by decide +kernel
theorem dX2_weigh_270 : decode cX2_weigh 270 = .ok (.iconst 1, 1) := by decide +kernel
theorem dX2_weigh_271 : decode cX2_weigh 271 = .ok (.isub, 1) := by decide +kernel
theorem dX2_weigh_272 : decode cX2_weigh 272 = .ok (.iconst 1, 1) := by decide +kernel
theorem dX2_weigh_273 : decode cX2_weigh 273 = .ok (.aload_n 0, 1) := by decide +kernel
theorem dX2_weigh_274 : decode cX2_weigh 274 = .ok (.getfield 15, 3) := by decide +kernel
theorem dX2_weigh_277 : decode cX2_weigh 277 = .ok (.iload 4, 2) := by decide +kernel
theorem dX2_weigh_279 : decode cX2_weigh 279 = .ok (.iconst 1, 1) := by decide +kernel
theorem dX2_weigh_280 : decode cX2_weigh 280 = .ok (.isub, 1) := by decide +kernel
theorem dX2_weigh_281 : decode cX2_weigh 281 = .ok (.iaload, 1) := by decide +kernel
theorem dX2_weigh_282 : decode cX2_weigh 282 = .ok (.isub, 1) := by decide +kernel
theorem dX2_weigh_283 : decode cX2_weigh 283 = .ok (.iastore, 1) := by decide +kernel
theorem dX2_weigh_284 : decode cX2_weigh 284 = .ok (.goto 42, 3) := by decide +kernel
theorem dX2_weigh_287 : decode cX2_weigh 287 = .ok (.iload 4, 2) := by decide +kernel
theorem dX2_weigh_289 : decode cX2_weigh 289 = .ok (.iconst 1, 1) := by decide +kernel
theorem dX2_weigh_290 : decode cX2_weigh 290 = .ok (.if_icmp .le 36, 3) := by decide +kernel
theorem dX2_weigh_293 : decode cX2_weigh 293 = .ok (.iinc 4 (-1), 3) := by decide +kernel
theorem dX2_weigh_296 : decode cX2_weigh 296 = .ok (.aload_n 0, 1) := by decide +kernel
theorem dX2_weigh_297 : decode cX2_weigh 297 = .ok (.getfield 15, 3) := by decide +kernel
theorem dX2_weigh_300 : decode cX2_weigh 300 = .ok (.iload 4, 2) := by decide +kernel
theorem dX2_weigh_302 : decode cX2_weigh 302 = .ok (.iconst 1, 1) := by decide +kernel
theorem dX2_weigh_303 : decode cX2_weigh 303 = .ok (.isub, 1) := by decide +kernel
theorem dX2_weigh_304 : decode cX2_weigh 304 = .ok (.iload 6, 2) := by decide +kernel
theorem dX2_weigh_306 : decode cX2_weigh 306 = .ok (.aload_n 0, 1) := by decide +kernel
theorem dX2_weigh_307 : decode cX2_weigh 307 = .ok (.getfield 15, 3) := by decide +kernel
theorem dX2_weigh_310 : decode cX2_weigh 310 = .ok (.iload 4, 2) := by decide +kernel
theorem dX2_weigh_312 : decode cX2_weigh 312 = .ok (.iconst 1, 1) := by decide +kernel
theorem dX2_weigh_313 : decode cX2_weigh 313 = .ok (.isub, 1) := by decide +kernel
theorem dX2_weigh_314 : decode cX2_weigh 314 = .ok (.iaload, 1) := by decide +kernel
theorem dX2_weigh_315 : decode cX2_weigh 315 = .ok (.aload_n 0, 1) := by decide +kernel
theorem dX2_weigh_316 : decode cX2_weigh 316 = .ok (.getfield 15, 3) := by decide +kernel
theorem dX2_weigh_319 : decode cX2_weigh 319 = .ok (.iload 4, 2) := by decide +kernel
theorem dX2_weigh_321 : decode cX2_weigh 321 = .ok (.iaload, 1) := by decide +kernel
theorem dX2_weigh_322 : decode cX2_weigh 322 = .ok (.invokestatic 77, 3) := by decide +kernel
theorem dX2_weigh_325 : decode cX2_weigh 325 = .ok (.iastore, 1) := by decide +kernel
theorem dX2_weigh_326 : decode cX2_weigh 326 = .ok (.iinc 5 1, 3) := by decide +kernel
theorem dX2_weigh_329 : decode cX2_weigh 329 = .ok (.goto (-194), 3) := by decide +kernel
theorem dX2_weigh_332 : decode cX2_weigh 332 = .ok (.return_, 1) := by decide +kernel
def q2_weigh (σ : St) (th : Nat) (village_a : Nat) (voter_a : Int32) (other_a : Int32) : Option St :=
  Option.bind (sa σ (th + 3) 9 0 voter_a) fun σ1_ =>
  Option.bind (sa σ1_ (th + 3) 9 1 other_a) fun σ3_ =>
  Option.bind (q10_likingOf σ3_ village_a voter_a other_a) fun x5_ =>
  Option.bind (sa σ3_ (th + 3) 9 2 x5_) fun σ7_ =>
  Option.bind (ag σ7_ (village_a + 1) 6 other_a) fun x9_ =>
  Option.bind (sa σ7_ (th + 3) 9 3 x9_) fun σ11_ =>
  Option.bind (ag σ11_ (village_a + 4) 6 other_a) fun x13_ =>
  Option.bind (sa σ11_ (th + 3) 9 4 x13_) fun σ15_ =>
  Option.bind (ag σ15_ (village_a + 5) 6 other_a) fun x17_ =>
  Option.bind (sa σ15_ (th + 3) 9 5 x17_) fun σ19_ =>
  Option.bind (ag σ19_ (village_a + 3) 6 voter_a) fun x21_ =>
  Option.bind (sa σ19_ (th + 3) 9 6 x21_) fun σ23_ =>
  Option.bind (Option.bind (q10_areOfOneParty σ23_ village_a voter_a other_a) fun x30_ =>
  if x30_ = true then (some (1 : Int32)) else (some (0 : Int32))) fun x25_ =>
  Option.bind (sa σ23_ (th + 3) 9 7 x25_) fun σ34_ =>
  Option.bind (sa σ34_ (th + 3) 9 8 (if q11_isIn (σ34_ village_a 9) voter_a = true then 1 else 0)) fun σ41_ =>
  lt (up σ41_ th 5 0) fun σ43_ =>
  lt (up σ43_ th 6 (b2i false)) fun σ45_ =>
  Option.bind (loop3 (fun rec50_ (top53_ : Int32) (i54_ : Int32) (σ55_ : St) =>
  if (i54_ < (σ55_ th 3)) ∧ (i54_ < 412) then
  Option.bind (ag σ55_ (th + 1) 412 i54_) fun x63_ =>
  Option.bind (if (x63_ < 1009) ∧ (top53_ < 32) then (Option.bind (if x63_ < 1000 then (some x63_) else (Option.bind (ag σ55_ (th + 3) 9 (x63_ - 1000)) fun x79_ =>
  some x79_)) fun x73_ =>
  Option.bind (sa σ55_ (th + 2) 32 top53_ x73_) fun σ82_ =>
  lt (top53_ + 1) fun top84_ =>
  some (top84_, σ82_)) else (Option.bind (if 2000 ≤ x63_ then (Option.bind (Option.bind (if 0 < top53_ then (Option.bind (ag σ55_ (th + 2) 32 (top53_ - 1)) fun x101_ =>
  if x101_ = 1 then (some true) else (some false)) else (some false)) fun t98_ =>
  if t98_ = true then (Option.bind (q2_hold σ55_ th x63_) fun x105_ =>
  some (x105_)) else (some (σ55_))) fun y93_ =>
  some ((0 : Int32), y93_)) else (Option.bind (if (x63_ = 1105) ∧ (0 < top53_) then (Option.bind (ag σ55_ (th + 2) 32 (top53_ - 1)) fun x115_ =>
  Option.bind (sa σ55_ (th + 2) 32 (top53_ - 1) (1 - x115_)) fun σ117_ =>
  some (top53_, σ117_)) else (Option.bind (if 1 < top53_ then (lt (top53_ + (-1)) fun top126_ =>
  Option.bind (ag σ55_ (th + 2) 32 (top126_ - 1)) fun x128_ =>
  Option.bind (ag σ55_ (th + 2) 32 top126_) fun x130_ =>
  Option.bind (sa σ55_ (th + 2) 32 (top126_ - 1) (q2_joined x63_ x128_ x130_)) fun σ132_ =>
  some (top126_, σ132_)) else (some (top53_, σ55_))) fun y119_ =>
  some (y119_.1, y119_.2))) fun y107_ =>
  some (y107_.1, y107_.2))) fun y86_ =>
  some (y86_.1, y86_.2))) fun y65_ =>
  lt (i54_ + 1) fun i134_ =>
  rec50_ y65_.1 i134_ y65_.2
  else (some (top53_, i54_, σ55_))) fuelN (0 : Int32) (0 : Int32) σ45_) fun y47_ =>
  some y47_.2.2
abbrev rm2_weigh : Room := { frames := 1, cells := 0, slots := 0, locals := 22 }
set_option maxHeartbeats 4000000 in
set_option maxRecDepth 100000 in
theorem p2_weigh {Θ : Tz} {σ : St} {ρ : Option Value × St} (C : Zc Θ cX2_weigh 7 RX2 none rm2_weigh) (hkd : Θ.2.2.2.2.1 = kdC) {th : Nat} {village_a : Nat} {voter_a : Int32} {other_a : Int32} (hth : isLaw th) (h_village : isV village_a) {r : St} (hf : q2_weigh σ th village_a voter_a other_a = some r) (hρ : ρ = (none, r)) : Z Θ 7 0 0 (zQ Θ ρ) σ 0 [(0, .ref (zA Θ th)), (1, .ref (zA Θ village_a)), (2, .int voter_a), (3, .int other_a)] [] := by
  unfold q2_weigh at hf
  refine z_aload_n C 0 dX2_weigh_0 rfl rfl ?_
  refine fg2_18 C hkd hth dX2_weigh_1 ?_
  refine z_iconst (v := 0) C dX2_weigh_4 ic_0 ?_
  refine z_iload_n C 2 dX2_weigh_5 rfl rfl ?_
  obtain ⟨σ1_, h2_, hf⟩ := ob hf
  refine z_sa C h2_ (kLaw_3 hkd hth) dX2_weigh_6 ?_
  refine z_aload_n C 0 dX2_weigh_7 rfl rfl ?_
  refine fg2_18 C hkd hth dX2_weigh_8 ?_
  refine z_iconst (v := 1) C dX2_weigh_11 ic_1 ?_
  refine z_iload_n C 3 dX2_weigh_12 rfl rfl ?_
  obtain ⟨σ3_, h4_, hf⟩ := ob hf
  refine z_sa C h4_ (kLaw_3 hkd hth) dX2_weigh_13 ?_
  refine z_aload_n C 0 dX2_weigh_14 rfl rfl ?_
  refine fg2_18 C hkd hth dX2_weigh_15 ?_
  refine z_iconst (v := 2) C dX2_weigh_18 ic_2 ?_
  refine z_aload_n C 1 dX2_weigh_19 rfl rfl ?_
  refine z_iload_n C 2 dX2_weigh_20 rfl rfl ?_
  refine z_iload_n C 3 dX2_weigh_21 rfl rfl ?_
  obtain ⟨x5_, h6_, hf⟩ := ob hf
  refine cr2_41 (th := village_a) (person_a := voter_a) (other_a := other_a) C hkd h_village h6_ ⟨(Nat.le_of_ble_eq_true rfl), (Nat.le_of_ble_eq_true rfl)⟩ (Nat.le_of_ble_eq_true rfl) ⟨Nat.zero_le _, Nat.zero_le _⟩ dX2_weigh_22 ?_
  obtain ⟨σ7_, h8_, hf⟩ := ob hf
  refine z_sa C h8_ (kLaw_3 hkd hth) dX2_weigh_25 ?_
  refine z_aload_n C 0 dX2_weigh_26 rfl rfl ?_
  refine fg2_18 C hkd hth dX2_weigh_27 ?_
  refine z_iconst (v := 3) C dX2_weigh_30 ic_3 ?_
  refine z_aload_n C 1 dX2_weigh_31 rfl rfl ?_
  refine fg2_55 C hkd h_village dX2_weigh_32 ?_
  refine z_iload_n C 3 dX2_weigh_35 rfl rfl ?_
  obtain ⟨x9_, h10_, hf⟩ := ob hf
  refine z_ag C h10_ (kV_1 hkd h_village) dX2_weigh_36 ?_
  obtain ⟨σ11_, h12_, hf⟩ := ob hf
  refine z_sa C h12_ (kLaw_3 hkd hth) dX2_weigh_37 ?_
  refine z_aload_n C 0 dX2_weigh_38 rfl rfl ?_
  refine fg2_18 C hkd hth dX2_weigh_39 ?_
  refine z_iconst (v := 4) C dX2_weigh_42 ic_4 ?_
  refine z_aload_n C 1 dX2_weigh_43 rfl rfl ?_
  refine fg2_58 C hkd h_village dX2_weigh_44 ?_
  refine z_iload_n C 3 dX2_weigh_47 rfl rfl ?_
  obtain ⟨x13_, h14_, hf⟩ := ob hf
  refine z_ag C h14_ (kV_4 hkd h_village) dX2_weigh_48 ?_
  obtain ⟨σ15_, h16_, hf⟩ := ob hf
  refine z_sa C h16_ (kLaw_3 hkd hth) dX2_weigh_49 ?_
  refine z_aload_n C 0 dX2_weigh_50 rfl rfl ?_
  refine fg2_18 C hkd hth dX2_weigh_51 ?_
  refine z_iconst (v := 5) C dX2_weigh_54 ic_5 ?_
  refine z_aload_n C 1 dX2_weigh_55 rfl rfl ?_
  refine fg2_61 C hkd h_village dX2_weigh_56 ?_
  refine z_iload_n C 3 dX2_weigh_59 rfl rfl ?_
  obtain ⟨x17_, h18_, hf⟩ := ob hf
  refine z_ag C h18_ (kV_5 hkd h_village) dX2_weigh_60 ?_
  obtain ⟨σ19_, h20_, hf⟩ := ob hf
  refine z_sa C h20_ (kLaw_3 hkd hth) dX2_weigh_61 ?_
  refine z_aload_n C 0 dX2_weigh_62 rfl rfl ?_
  refine fg2_18 C hkd hth dX2_weigh_63 ?_
  refine z_bipush (v := 6) C dX2_weigh_66 bp_6 ?_
  refine z_aload_n C 1 dX2_weigh_68 rfl rfl ?_
  refine fg2_64 C hkd h_village dX2_weigh_69 ?_
  refine z_iload_n C 2 dX2_weigh_72 rfl rfl ?_
  obtain ⟨x21_, h22_, hf⟩ := ob hf
  refine z_ag C h22_ (kV_3 hkd h_village) dX2_weigh_73 ?_
  obtain ⟨σ23_, h24_, hf⟩ := ob hf
  refine z_sa C h24_ (kLaw_3 hkd hth) dX2_weigh_74 ?_
  refine z_aload_n C 0 dX2_weigh_75 rfl rfl ?_
  refine fg2_18 C hkd hth dX2_weigh_76 ?_
  refine z_bipush (v := 7) C dX2_weigh_79 bp_7 ?_
  obtain ⟨x25_, h26_, hf⟩ := ob hf
  suffices K27_ : Z Θ 7 0 0 (zQ Θ ρ) σ23_ 95 [(0, .ref (zA Θ th)), (1, .ref (zA Θ village_a)), (2, .int voter_a), (3, .int other_a)] [.int x25_, .int 7, .ref (zA Θ (th + 3))] by
    refine z_aload_n C 1 dX2_weigh_81 rfl rfl ?_
    refine z_iload_n C 2 dX2_weigh_82 rfl rfl ?_
    refine z_iload_n C 3 dX2_weigh_83 rfl rfl ?_
    obtain ⟨x30_, h31_, h26_⟩ := ob h26_
    refine cr2_47 (th := village_a) (person_a := voter_a) (other_a := other_a) C hkd h_village h31_ ⟨(Nat.le_of_ble_eq_true rfl), (Nat.le_of_ble_eq_true rfl)⟩ (Nat.le_of_ble_eq_true rfl) ⟨Nat.zero_le _, Nat.zero_le _⟩ dX2_weigh_84 ?_
    have K28_ : x30_ = true → Z Θ 7 0 0 (zQ Θ ρ) σ23_ 90 [(0, .ref (zA Θ th)), (1, .ref (zA Θ village_a)), (2, .int voter_a), (3, .int other_a)] [.int 7, .ref (zA Θ (th + 3))] := by
      intro h33_
      rw [if_pos h33_] at h26_
      refine z_iconst (v := 1) C dX2_weigh_90 ic_1 ?_
      refine z_goto C 95 dX2_weigh_91 (by decide) ?_
      cases h26_
      exact K27_
    have K29_ : ¬ (x30_ = true) → Z Θ 7 0 0 (zQ Θ ρ) σ23_ 94 [(0, .ref (zA Θ th)), (1, .ref (zA Θ village_a)), (2, .int voter_a), (3, .int other_a)] [.int 7, .ref (zA Θ (th + 3))] := by
      intro h33_
      rw [if_neg h33_] at h26_
      refine z_iconst (v := 0) C dX2_weigh_94 ic_0 ?_
      cases h26_
      exact K27_
    refine cb_f C 94 dX2_weigh_87 (by decide) (fun h32_ => ?_) (fun h32_ => ?_)
    · exact K28_ h32_
    · exact K29_ h32_
  obtain ⟨σ34_, h35_, hf⟩ := ob hf
  refine z_sa C h35_ (kLaw_3 hkd hth) dX2_weigh_95 ?_
  refine z_aload_n C 0 dX2_weigh_96 rfl rfl ?_
  refine fg2_18 C hkd hth dX2_weigh_97 ?_
  refine z_bipush (v := 8) C dX2_weigh_100 bp_8 ?_
  suffices K36_ : Z Θ 7 0 0 (zQ Θ ρ) σ34_ 118 [(0, .ref (zA Θ th)), (1, .ref (zA Θ village_a)), (2, .int voter_a), (3, .int other_a)] [.int (if q11_isIn (σ34_ village_a 9) voter_a = true then 1 else 0), .int 8, .ref (zA Θ (th + 3))] by
    have K37_ : q11_isIn (σ34_ village_a 9) voter_a = true → Z Θ 7 0 0 (zQ Θ ρ) σ34_ 113 [(0, .ref (zA Θ th)), (1, .ref (zA Θ village_a)), (2, .int voter_a), (3, .int other_a)] [.int 8, .ref (zA Θ (th + 3))] := by
      intro h40_
      rw [if_pos h40_] at K36_
      refine z_iconst (v := 1) C dX2_weigh_113 ic_1 ?_
      refine z_goto C 118 dX2_weigh_114 (by decide) ?_
      exact K36_
    have K38_ : ¬ (q11_isIn (σ34_ village_a 9) voter_a = true) → Z Θ 7 0 0 (zQ Θ ρ) σ34_ 117 [(0, .ref (zA Θ th)), (1, .ref (zA Θ village_a)), (2, .int voter_a), (3, .int other_a)] [.int 8, .ref (zA Θ (th + 3))] := by
      intro h40_
      rw [if_neg h40_] at K36_
      refine z_iconst (v := 0) C dX2_weigh_117 ic_0 ?_
      exact K36_
    refine z_aload_n C 1 dX2_weigh_102 rfl rfl ?_
    refine fg2_67 C hkd h_village dX2_weigh_103 ?_
    refine z_iload_n C 2 dX2_weigh_106 rfl rfl ?_
    refine cr2_70 (set_a := (σ34_ village_a 9)) (person_a := voter_a) C hkd  ⟨(Nat.le_of_ble_eq_true rfl), (Nat.le_of_ble_eq_true rfl)⟩ (Nat.le_of_ble_eq_true rfl) ⟨Nat.zero_le _, Nat.zero_le _⟩ dX2_weigh_107 ?_
    refine cb_f C 117 dX2_weigh_110 (by decide) (fun h39_ => ?_) (fun h39_ => ?_)
    · exact K37_ h39_
    · exact K38_ h39_
  obtain ⟨σ41_, h42_, hf⟩ := ob hf
  refine z_sa C h42_ (kLaw_3 hkd hth) dX2_weigh_118 ?_
  refine z_aload_n C 0 dX2_weigh_119 rfl rfl ?_
  refine z_iconst (v := 0) C dX2_weigh_120 ic_0 ?_
  obtain ⟨σ43_, h44_, hf⟩ := lt_ hf
  refine fp2_28 C hkd hth h44_ dX2_weigh_121 ?_
  refine z_aload_n C 0 dX2_weigh_124 rfl rfl ?_
  refine z_iconst (v := 0) C dX2_weigh_125 ic_0 ?_
  obtain ⟨σ45_, h46_, hf⟩ := lt_ hf
  refine fp2_31 (b := false) C hkd hth h46_ dX2_weigh_126 ?_
  refine z_iconst (v := 0) C dX2_weigh_129 ic_0 ?_
  refine z_ist C dX2_weigh_130 rfl (Nat.le_of_ble_eq_true rfl) rfl ?_
  refine z_iconst (v := 0) C dX2_weigh_132 ic_0 ?_
  refine z_ist C dX2_weigh_133 rfl (Nat.le_of_ble_eq_true rfl) rfl ?_
  refine Z.sub [2, 3, 4, 5, 1, 0] rfl ?_
  obtain ⟨y47_, h48_, hf⟩ := ob hf
  suffices K49_ : Z Θ 7 0 0 (zQ Θ ρ) y47_.2.2 332 [(0, .ref (zA Θ th)), (1, .ref (zA Θ village_a)), (2, .int voter_a), (3, .int other_a), (4, .int y47_.1), (5, .int y47_.2.1)] [] by
    refine loop3_Z (P := fun (top53_ : Int32) (i54_ : Int32) (σ55_ : St) => Z Θ 7 0 0 (zQ Θ ρ) σ55_ 135 [(0, .ref (zA Θ th)), (1, .ref (zA Θ village_a)), (2, .int voter_a), (3, .int other_a), (4, .int top53_), (5, .int i54_)] []) ?_ fuelN (0 : Int32) (0 : Int32) σ45_ h48_
    clear h48_
    intro rec50_ top53_ i54_ σ55_ h51_ h52_
    have K58_ : (i54_ < (σ55_ th 3)) ∧ (i54_ < 412) → Z Θ 7 0 0 (zQ Θ ρ) σ55_ 152 [(0, .ref (zA Θ th)), (1, .ref (zA Θ village_a)), (2, .int voter_a), (3, .int other_a), (4, .int top53_), (5, .int i54_)] [] := by
      intro h62_
      rw [if_pos h62_] at h52_
      refine z_aload_n C 0 dX2_weigh_152 rfl rfl ?_
      refine fg2_9 C hkd hth dX2_weigh_153 ?_
      refine z_iload C 5 dX2_weigh_156 rfl ?_
      obtain ⟨x63_, h64_, h52_⟩ := ob h52_
      refine z_ag C h64_ (kLaw_1 hkd hth) dX2_weigh_158 ?_
      refine z_ist C dX2_weigh_159 rfl (Nat.le_of_ble_eq_true rfl) rfl ?_
      obtain ⟨y65_, h66_, h52_⟩ := ob h52_
      suffices K67_ : Z Θ 7 0 0 (zQ Θ ρ) y65_.2 326 [(0, .ref (zA Θ th)), (1, .ref (zA Θ village_a)), (2, .int voter_a), (3, .int other_a), (4, .int y65_.1), (5, .int i54_), (6, .int x63_)] [] by
        have K68_ : (x63_ < 1009) ∧ (top53_ < 32) → Z Θ 7 0 0 (zQ Θ ρ) σ55_ 176 [(6, .int x63_), (0, .ref (zA Θ th)), (1, .ref (zA Θ village_a)), (2, .int voter_a), (3, .int other_a), (4, .int top53_), (5, .int i54_)] [] := by
          intro h72_
          rw [if_pos h72_] at h66_
          refine z_aload_n C 1 dX2_weigh_176 rfl rfl ?_
          refine fg2_15 C hkd hth dX2_weigh_177 ?_
          refine z_iload C 5 dX2_weigh_180 rfl ?_
          obtain ⟨x73_, h74_, h66_⟩ := ob h66_
          suffices K75_ : Z Θ 7 0 0 (zQ Θ ρ) σ55_ 206 [(6, .int x63_), (0, .ref (zA Θ th)), (1, .ref (zA Θ village_a)), (2, .int voter_a), (3, .int other_a), (4, .int top53_), (5, .int i54_)] [.int x73_, .int top53_, .ref (zA Θ (th + 2))] by
            have K76_ : x63_ < 1000 → Z Θ 7 0 0 (zQ Θ ρ) σ55_ 190 [(6, .int x63_), (0, .ref (zA Θ th)), (1, .ref (zA Θ village_a)), (2, .int voter_a), (3, .int other_a), (4, .int top53_), (5, .int i54_)] [.int top53_, .ref (zA Θ (th + 2))] := by
              intro h81_
              rw [if_pos h81_] at h74_
              refine z_iload C 0 dX2_weigh_190 rfl ?_
              refine z_goto C 206 dX2_weigh_192 (by decide) ?_
              cases h74_
              exact K75_
            have K77_ : ¬ (x63_ < 1000) → Z Θ 7 0 0 (zQ Θ ρ) σ55_ 195 [(6, .int x63_), (0, .ref (zA Θ th)), (1, .ref (zA Θ village_a)), (2, .int voter_a), (3, .int other_a), (4, .int top53_), (5, .int i54_)] [.int top53_, .ref (zA Θ (th + 2))] := by
              intro h81_
              rw [if_neg h81_] at h74_
              refine z_aload_n C 1 dX2_weigh_195 rfl rfl ?_
              refine fg2_18 C hkd hth dX2_weigh_196 ?_
              refine z_iload C 0 dX2_weigh_199 rfl ?_
              refine z_sipush (v := 1000) C dX2_weigh_201 sp_1000 ?_
              refine z_isub C dX2_weigh_204 ?_
              obtain ⟨x79_, h80_, h74_⟩ := ob h74_
              refine z_ag C h80_ (kLaw_3 hkd hth) dX2_weigh_205 ?_
              cases h74_
              exact K75_
            refine z_iload C 0 dX2_weigh_182 rfl ?_
            refine z_sipush (v := 1000) C dX2_weigh_184 sp_1000 ?_
            refine c_lt_f C 195 dX2_weigh_187 (by decide) (fun h78_ => ?_) (fun h78_ => ?_)
            · exact K76_ h78_
            · exact K77_ h78_
          obtain ⟨σ82_, h83_, h66_⟩ := ob h66_
          refine z_sa C h83_ (kLaw_2 hkd hth) dX2_weigh_206 ?_
          obtain ⟨top84_, h85_, h66_⟩ := lt_ h66_
          refine z_inc C 5 dX2_weigh_207 rfl ic_1 h85_ (Nat.le_of_ble_eq_true rfl) rfl ?_
          refine z_goto C 326 dX2_weigh_210 (by decide) ?_
          cases h66_
          refine Z.sub [2, 3, 4, 5, 0, 6, 1] rfl ?_
          exact K67_
        have K69_ : ¬ ((x63_ < 1009) ∧ (top53_ < 32)) → Z Θ 7 0 0 (zQ Θ ρ) σ55_ 213 [(6, .int x63_), (0, .ref (zA Θ th)), (1, .ref (zA Θ village_a)), (2, .int voter_a), (3, .int other_a), (4, .int top53_), (5, .int i54_)] [] := by
          intro h72_
          rw [if_neg h72_] at h66_
          obtain ⟨y86_, h87_, h66_⟩ := ob h66_
          suffices K88_ : Z Θ 7 0 0 (zQ Θ ρ) y86_.2 326 [(0, .ref (zA Θ th)), (1, .ref (zA Θ village_a)), (2, .int voter_a), (3, .int other_a), (4, .int y86_.1), (5, .int i54_), (6, .int x63_)] [] by
            have K89_ : 2000 ≤ x63_ → Z Θ 7 0 0 (zQ Θ ρ) σ55_ 221 [(6, .int x63_), (0, .ref (zA Θ th)), (1, .ref (zA Θ village_a)), (2, .int voter_a), (3, .int other_a), (4, .int top53_), (5, .int i54_)] [] := by
              intro h92_
              rw [if_pos h92_] at h87_
              obtain ⟨y93_, h94_, h87_⟩ := ob h87_
              suffices K95_ : Z Θ 7 0 0 (zQ Θ ρ) y93_ 245 [(0, .ref (zA Θ th)), (1, .ref (zA Θ village_a)), (2, .int voter_a), (3, .int other_a), (4, .int top53_), (5, .int i54_), (6, .int x63_)] [] by
                obtain ⟨t98_, h99_, h94_⟩ := ob h94_
                have K96_ : t98_ = true → Z Θ 7 0 0 (zQ Θ ρ) σ55_ 239 [(6, .int x63_), (0, .ref (zA Θ th)), (1, .ref (zA Θ village_a)), (2, .int voter_a), (3, .int other_a), (4, .int top53_), (5, .int i54_)] [] := by
                  intro h104_
                  rw [if_pos h104_] at h94_
                  refine z_aload_n C 1 dX2_weigh_239 rfl rfl ?_
                  refine z_iload C 0 dX2_weigh_240 rfl ?_
                  obtain ⟨x105_, h106_, h94_⟩ := ob h94_
                  refine cr2_73 (th := th) (line_a := x63_) C hkd hth h106_ ⟨(Nat.le_of_ble_eq_true rfl), (Nat.le_of_ble_eq_true rfl)⟩ (Nat.le_of_ble_eq_true rfl) ⟨Nat.zero_le _, Nat.zero_le _⟩ dX2_weigh_242 ?_
                  cases h94_
                  refine Z.sub [1, 2, 3, 4, 5, 6, 0] rfl ?_
                  exact K95_
                have K97_ : ¬ (t98_ = true) → Z Θ 7 0 0 (zQ Θ ρ) σ55_ 245 [(6, .int x63_), (0, .ref (zA Θ th)), (1, .ref (zA Θ village_a)), (2, .int voter_a), (3, .int other_a), (4, .int top53_), (5, .int i54_)] [] := by
                  intro h104_
                  rw [if_neg h104_] at h94_
                  cases h94_
                  refine Z.sub [1, 2, 3, 4, 5, 6, 0] rfl ?_
                  exact K95_
                refine z_iload C 5 dX2_weigh_221 rfl ?_
                refine c0_gt_f C 245 dX2_weigh_223 (by decide) (fun h100_ => ?_) (fun h100_ => ?_)
                · rw [if_pos h100_] at h99_
                  refine z_aload_n C 1 dX2_weigh_226 rfl rfl ?_
                  refine fg2_15 C hkd hth dX2_weigh_227 ?_
                  refine z_iload C 5 dX2_weigh_230 rfl ?_
                  refine z_iconst (v := 1) C dX2_weigh_232 ic_1 ?_
                  refine z_isub C dX2_weigh_233 ?_
                  obtain ⟨x101_, h102_, h99_⟩ := ob h99_
                  refine z_ag C h102_ (kLaw_2 hkd hth) dX2_weigh_234 ?_
                  refine z_iconst (v := 1) C dX2_weigh_235 ic_1 ?_
                  refine c_eq_f C 245 dX2_weigh_236 (by decide) (fun h103_ => ?_) (fun h103_ => ?_)
                  · rw [if_pos h103_] at h99_
                    cases h99_
                    exact K96_ rfl
                  · rw [if_neg h103_] at h99_
                    cases h99_
                    exact K97_ Bool.false_ne_true
                · rw [if_neg h100_] at h99_
                  cases h99_
                  exact K97_ Bool.false_ne_true
              refine z_iconst (v := 0) C dX2_weigh_245 ic_0 ?_
              refine z_ist C dX2_weigh_246 rfl (Nat.le_of_ble_eq_true rfl) rfl ?_
              refine z_goto C 326 dX2_weigh_248 (by decide) ?_
              cases h87_
              refine Z.sub [1, 2, 3, 4, 0, 5, 6] rfl ?_
              exact K88_
            have K90_ : ¬ (2000 ≤ x63_) → Z Θ 7 0 0 (zQ Θ ρ) σ55_ 251 [(6, .int x63_), (0, .ref (zA Θ th)), (1, .ref (zA Θ village_a)), (2, .int voter_a), (3, .int other_a), (4, .int top53_), (5, .int i54_)] [] := by
              intro h92_
              rw [if_neg h92_] at h87_
              obtain ⟨y107_, h108_, h87_⟩ := ob h87_
              suffices K109_ : Z Θ 7 0 0 (zQ Θ ρ) y107_.2 326 [(0, .ref (zA Θ th)), (1, .ref (zA Θ village_a)), (2, .int voter_a), (3, .int other_a), (4, .int y107_.1), (5, .int i54_), (6, .int x63_)] [] by
                have K110_ : (x63_ = 1105) ∧ (0 < top53_) → Z Θ 7 0 0 (zQ Θ ρ) σ55_ 264 [(6, .int x63_), (0, .ref (zA Θ th)), (1, .ref (zA Θ village_a)), (2, .int voter_a), (3, .int other_a), (4, .int top53_), (5, .int i54_)] [] := by
                  intro h114_
                  rw [if_pos h114_] at h108_
                  refine z_aload_n C 1 dX2_weigh_264 rfl rfl ?_
                  refine fg2_15 C hkd hth dX2_weigh_265 ?_
                  refine z_iload C 5 dX2_weigh_268 rfl ?_
                  refine z_iconst (v := 1) C dX2_weigh_270 ic_1 ?_
                  refine z_isub C dX2_weigh_271 ?_
                  refine z_iconst (v := 1) C dX2_weigh_272 ic_1 ?_
                  refine z_aload_n C 1 dX2_weigh_273 rfl rfl ?_
                  refine fg2_15 C hkd hth dX2_weigh_274 ?_
                  refine z_iload C 5 dX2_weigh_277 rfl ?_
                  refine z_iconst (v := 1) C dX2_weigh_279 ic_1 ?_
                  refine z_isub C dX2_weigh_280 ?_
                  obtain ⟨x115_, h116_, h108_⟩ := ob h108_
                  refine z_ag C h116_ (kLaw_2 hkd hth) dX2_weigh_281 ?_
                  refine z_isub C dX2_weigh_282 ?_
                  obtain ⟨σ117_, h118_, h108_⟩ := ob h108_
                  refine z_sa C h118_ (kLaw_2 hkd hth) dX2_weigh_283 ?_
                  refine z_goto C 326 dX2_weigh_284 (by decide) ?_
                  cases h108_
                  refine Z.sub [1, 2, 3, 4, 5, 6, 0] rfl ?_
                  exact K109_
                have K111_ : ¬ ((x63_ = 1105) ∧ (0 < top53_)) → Z Θ 7 0 0 (zQ Θ ρ) σ55_ 287 [(6, .int x63_), (0, .ref (zA Θ th)), (1, .ref (zA Θ village_a)), (2, .int voter_a), (3, .int other_a), (4, .int top53_), (5, .int i54_)] [] := by
                  intro h114_
                  rw [if_neg h114_] at h108_
                  obtain ⟨y119_, h120_, h108_⟩ := ob h108_
                  suffices K121_ : Z Θ 7 0 0 (zQ Θ ρ) y119_.2 326 [(0, .ref (zA Θ th)), (1, .ref (zA Θ village_a)), (2, .int voter_a), (3, .int other_a), (4, .int y119_.1), (5, .int i54_), (6, .int x63_)] [] by
                    have K122_ : 1 < top53_ → Z Θ 7 0 0 (zQ Θ ρ) σ55_ 293 [(6, .int x63_), (0, .ref (zA Θ th)), (1, .ref (zA Θ village_a)), (2, .int voter_a), (3, .int other_a), (4, .int top53_), (5, .int i54_)] [] := by
                      intro h125_
                      rw [if_pos h125_] at h120_
                      obtain ⟨top126_, h127_, h120_⟩ := lt_ h120_
                      refine z_inc C 5 dX2_weigh_293 rfl ic_m1 h127_ (Nat.le_of_ble_eq_true rfl) rfl ?_
                      refine z_aload_n C 2 dX2_weigh_296 rfl rfl ?_
                      refine fg2_15 C hkd hth dX2_weigh_297 ?_
                      refine z_iload C 0 dX2_weigh_300 rfl ?_
                      refine z_iconst (v := 1) C dX2_weigh_302 ic_1 ?_
                      refine z_isub C dX2_weigh_303 ?_
                      refine z_iload C 1 dX2_weigh_304 rfl ?_
                      refine z_aload_n C 2 dX2_weigh_306 rfl rfl ?_
                      refine fg2_15 C hkd hth dX2_weigh_307 ?_
                      refine z_iload C 0 dX2_weigh_310 rfl ?_
                      refine z_iconst (v := 1) C dX2_weigh_312 ic_1 ?_
                      refine z_isub C dX2_weigh_313 ?_
                      obtain ⟨x128_, h129_, h120_⟩ := ob h120_
                      refine z_ag C h129_ (kLaw_2 hkd hth) dX2_weigh_314 ?_
                      refine z_aload_n C 2 dX2_weigh_315 rfl rfl ?_
                      refine fg2_15 C hkd hth dX2_weigh_316 ?_
                      refine z_iload C 0 dX2_weigh_319 rfl ?_
                      obtain ⟨x130_, h131_, h120_⟩ := ob h120_
                      refine z_ag C h131_ (kLaw_2 hkd hth) dX2_weigh_321 ?_
                      refine cr2_77 (sign_a := x63_) (first_a := x128_) (second_a := x130_) C hkd  ⟨(Nat.le_of_ble_eq_true rfl), (Nat.le_of_ble_eq_true rfl)⟩ (Nat.le_of_ble_eq_true rfl) ⟨Nat.zero_le _, Nat.zero_le _⟩ dX2_weigh_322 ?_
                      obtain ⟨σ132_, h133_, h120_⟩ := ob h120_
                      refine z_sa C h133_ (kLaw_2 hkd hth) dX2_weigh_325 ?_
                      cases h120_
                      refine Z.sub [2, 3, 4, 5, 0, 6, 1] rfl ?_
                      exact K121_
                    have K123_ : ¬ (1 < top53_) → Z Θ 7 0 0 (zQ Θ ρ) σ55_ 326 [(6, .int x63_), (0, .ref (zA Θ th)), (1, .ref (zA Θ village_a)), (2, .int voter_a), (3, .int other_a), (4, .int top53_), (5, .int i54_)] [] := by
                      intro h125_
                      rw [if_neg h125_] at h120_
                      cases h120_
                      refine Z.sub [1, 2, 3, 4, 5, 6, 0] rfl ?_
                      exact K121_
                    refine z_iload C 5 dX2_weigh_287 rfl ?_
                    refine z_iconst (v := 1) C dX2_weigh_289 ic_1 ?_
                    refine c_gt_f C 326 dX2_weigh_290 (by decide) (fun h124_ => ?_) (fun h124_ => ?_)
                    · exact K122_ h124_
                    · exact K123_ h124_
                  cases h108_
                  exact K109_
                refine z_iload C 0 dX2_weigh_251 rfl ?_
                refine z_sipush (v := 1105) C dX2_weigh_253 sp_1105 ?_
                refine c_eq_f C 287 dX2_weigh_256 (by decide) (fun h112_ => ?_) (fun h112_ => ?_)
                · refine z_iload C 5 dX2_weigh_259 rfl ?_
                  refine c0_gt_f C 287 dX2_weigh_261 (by decide) (fun h113_ => ?_) (fun h113_ => ?_)
                  · exact K110_ ⟨h112_, h113_⟩
                  · exact K111_ (fun n => h113_ n.2)
                · exact K111_ (fun n => h112_ n.1)
              cases h87_
              exact K88_
            refine z_iload C 0 dX2_weigh_213 rfl ?_
            refine z_sipush (v := 2000) C dX2_weigh_215 sp_2000 ?_
            refine c_ge_f C 251 dX2_weigh_218 (by decide) (fun h91_ => ?_) (fun h91_ => ?_)
            · exact K89_ h91_
            · exact K90_ h91_
          cases h66_
          exact K67_
        refine z_iload C 0 dX2_weigh_161 rfl ?_
        refine z_sipush (v := 1009) C dX2_weigh_163 sp_1009 ?_
        refine c_lt_f C 213 dX2_weigh_166 (by decide) (fun h70_ => ?_) (fun h70_ => ?_)
        · refine z_iload C 5 dX2_weigh_169 rfl ?_
          refine z_bipush (v := 32) C dX2_weigh_171 bp_32 ?_
          refine c_lt_f C 213 dX2_weigh_173 (by decide) (fun h71_ => ?_) (fun h71_ => ?_)
          · exact K68_ ⟨h70_, h71_⟩
          · exact K69_ (fun n => h71_ n.2)
        · exact K69_ (fun n => h70_ n.1)
      obtain ⟨i134_, h135_, h52_⟩ := lt_ h52_
      refine z_inc C 5 dX2_weigh_326 rfl ic_1 h135_ (Nat.le_of_ble_eq_true rfl) rfl ?_
      refine z_goto C 135 dX2_weigh_329 (by decide) ?_
      refine Z.sub [1, 2, 3, 4, 5, 0] rfl ?_
      exact h51_ _ _ _ h52_
    have K59_ : ¬ ((i54_ < (σ55_ th 3)) ∧ (i54_ < 412)) → Z Θ 7 0 0 (zQ Θ ρ) σ55_ 332 [(0, .ref (zA Θ th)), (1, .ref (zA Θ village_a)), (2, .int voter_a), (3, .int other_a), (4, .int top53_), (5, .int i54_)] [] := by
      intro h62_
      rw [if_neg h62_] at h52_
      cases h52_
      exact K49_
    refine z_iload C 5 dX2_weigh_135 rfl ?_
    refine z_aload_n C 0 dX2_weigh_137 rfl rfl ?_
    refine fg2_21 C hkd hth dX2_weigh_138 ?_
    refine c_lt_f C 332 dX2_weigh_141 (by decide) (fun h60_ => ?_) (fun h60_ => ?_)
    · refine z_iload C 5 dX2_weigh_144 rfl ?_
      refine z_sipush (v := 412) C dX2_weigh_146 sp_412 ?_
      refine c_lt_f C 332 dX2_weigh_149 (by decide) (fun h61_ => ?_) (fun h61_ => ?_)
      · exact K58_ ⟨h60_, h61_⟩
      · exact K59_ (fun n => h61_ n.2)
    · exact K59_ (fun n => h60_ n.1)
  cases hf
  subst hρ
  exact z_vret C dX2_weigh_332
theorem c2_weigh {l : Launch} {kd : List KD} {w : Wp} {σ : St} {th : Nat} {village_a : Nat} {voter_a : Int32} {other_a : Int32} (hkd : kd = kdC) (hi : zI kd w) (hth : isLaw th) (h_village : isV village_a) {r : St} (hf : q2_weigh σ th village_a voter_a other_a = some r) : zM l kd w yX2_weigh cX2_weigh 7 none rm2_weigh [.ref (w.2.2.1 th), .ref (w.2.2.1 village_a), .int voter_a, .int other_a] σ (none, r) := zM_of rfl hi (Nat.le_of_ble_eq_true rfl) (fun Θ hl hw C => by
  obtain ⟨Θ1, Θ2, Θ3, Θ4, Θ5⟩ := Θ
  cases hw
  exact p2_weigh C hkd hth h_village hf rfl)
/-! LastLoaf$Law.favourOf -/
theorem w_3_44 : Cond.code ({ cls := "LastLoaf$Law", name := "weigh", desc := "(LLastLoaf$Village;II)V" } : MethodName) prog_4_method_6_code (7 : Nat) (Option.none : Option ClassFile.FieldType) ∈ TB := tb_in (lwt_3 (List.mem_of_getElem? (i := 44) (by decide +kernel))) rfl
theorem w_3_41 : Cond.methodLink "LastLoaf$Law" (51 : Nat) ({ cls := "LastLoaf$Law", name := "weigh", desc := "(LLastLoaf$Village;II)V" } : MethodName) ∈ TB := tb_in (lwt_3 (List.mem_of_getElem? (i := 41) (by decide +kernel))) rfl
theorem w_3_42 : Cond.instanceMethod ({ cls := "LastLoaf$Law", name := "weigh", desc := "(LLastLoaf$Village;II)V" } : MethodName) ∈ TB := tb_in (lwt_3 (List.mem_of_getElem? (i := 42) (by decide +kernel))) rfl
theorem w_3_43 : Cond.selects "LastLoaf$Law" ({ cls := "LastLoaf$Law", name := "weigh", desc := "(LLastLoaf$Village;II)V" } : MethodName) ({ cls := "LastLoaf$Law", name := "weigh", desc := "(LLastLoaf$Village;II)V" } : MethodName) ∈ TB := tb_in (lwt_3 (List.mem_of_getElem? (i := 43) (by decide +kernel))) rfl
theorem cr2_51 {Θ : Tz} {cc : ByteArray} {nL kc ks : Nat} {ret : Option FieldType} {rm : Room} {Q : State → Prop} {σ : St} {pc : Nat} {lv : List (Nat × Value)} {st : List Value} (C : Zc Θ cc nL RX2 ret rm) (hkd : Θ.2.2.2.2.1 = kdC) {th : Nat} {village_a : Nat} {voter_a : Int32} {other_a : Int32} (hth : isLaw th) (h_village : isV village_a) {r : St} (hx : q2_weigh σ th village_a voter_a other_a = some r) (hrm : rm2_weigh.frames + 1 ≤ rm.frames ∧ 8 + (7 + 11) + rm2_weigh.locals ≤ rm.locals) (hcat : (st.map fun v => v.category).sum ≤ 8) (hk : kc ≤ rm.cells ∧ ks ≤ rm.slots) (hd : decode cc pc = .ok (.invokevirtual 51, 3)) (kk : Z Θ nL kc ks Q r (pc + 3) lv st) : Z Θ nL kc ks Q σ pc lv (.int other_a :: .int voter_a :: .ref (zA Θ village_a) :: .ref (zA Θ th) :: st) := z_callV C th [.ref (zA Θ village_a), .int voter_a, .int other_a] (none, r) 3 (kLaw_0 hkd hth) rfl (c2_weigh (th := th) (village_a := village_a) (voter_a := voter_a) (other_a := other_a) hkd (zc_inj C) hth h_village hx) w_3_44 w_3_41 w_3_42 w_3_43 w_1_6 ⟨rfl, rfl, hrm.1, hrm.2⟩ (by decide +kernel) rfl rfl hcat hk hd kk
theorem dX2_favourOf_0 : decode cX2_favourOf 0 = .ok (.aload_n 1, 1) := by decide +kernel
theorem dX2_favourOf_1 : decode cX2_favourOf 1 = .ok (.iload_n 2, 1) := by decide +kernel
theorem dX2_favourOf_2 : decode cX2_favourOf 2 = .ok (.iload_n 3, 1) := by decide +kernel
theorem dX2_favourOf_3 : decode cX2_favourOf 3 = .ok (.invokevirtual 41, 3) := by decide +kernel
theorem dX2_favourOf_6 : decode cX2_favourOf 6 = .ok (.istore 4, 2) := by decide +kernel
theorem dX2_favourOf_8 : decode cX2_favourOf 8 = .ok (.aload_n 0, 1) := by decide +kernel
theorem dX2_favourOf_9 : decode cX2_favourOf 9 = .ok (.getfield 25, 3) := by decide +kernel
theorem dX2_favourOf_12 : decode cX2_favourOf 12 = .ok (.iconst (-1), 1) := by decide +kernel
theorem dX2_favourOf_13 : decode cX2_favourOf 13 = .ok (.if_icmp .ne 22, 3) := by decide +kernel
theorem dX2_favourOf_16 : decode cX2_favourOf 16 = .ok (.aload_n 1, 1) := by decide +kernel
theorem dX2_favourOf_17 : decode cX2_favourOf 17 = .ok (.iload_n 2, 1) := by decide +kernel
theorem dX2_favourOf_18 : decode cX2_favourOf 18 = .ok (.iload_n 3, 1) := by decide +kernel
theorem dX2_favourOf_19 : decode cX2_favourOf 19 = .ok (.invokevirtual 47, 3) := by decide +kernel
theorem dX2_favourOf_22 : decode cX2_favourOf 22 = .ok (.ifCond .eq 10, 3) := by decide +kernel
theorem dX2_favourOf_25 : decode cX2_favourOf 25 = .ok (.iload 4, 2) := by decide +kernel
theorem dX2_favourOf_27 : decode cX2_favourOf 27 = .ok (.iconst 2, 1) := by decide +kernel
theorem dX2_favourOf_28 : decode cX2_favourOf 28 = .ok (.iadd, 1) := by decide +kernel
theorem dX2_favourOf_29 : decode cX2_favourOf 29 = .ok (.goto 5, 3) := by decide +kernel
theorem dX2_favourOf_32 : decode cX2_favourOf 32 = .ok (.iload 4, 2) := by decide +kernel
theorem dX2_favourOf_34 : decode cX2_favourOf 34 = .ok (.ireturn, 1) := by decide +kernel
theorem dX2_favourOf_35 : decode cX2_favourOf 35 = .ok (.aload_n 0, 1) := by decide +kernel
theorem dX2_favourOf_36 : decode cX2_favourOf 36 = .ok (.aload_n 1, 1) := by decide +kernel
theorem dX2_favourOf_37 : decode cX2_favourOf 37 = .ok (.iload_n 2, 1) := by decide +kernel
theorem dX2_favourOf_38 : decode cX2_favourOf 38 = .ok (.iload_n 3, 1) := by decide +kernel
theorem dX2_favourOf_39 : decode cX2_favourOf 39 = .ok (.invokevirtual 51, 3) := by decide +kernel
theorem dX2_favourOf_42 : decode cX2_favourOf 42 = .ok (.iload 4, 2) := by decide +kernel
theorem dX2_favourOf_44 : decode cX2_favourOf 44 = .ok (.aload_n 0, 1) := by decide +kernel
theorem dX2_favourOf_45 : decode cX2_favourOf 45 = .ok (.getfield 28, 3) := by decide +kernel
theorem dX2_favourOf_48 : decode cX2_favourOf 48 = .ok (.iadd, 1) := by decide +kernel
theorem dX2_favourOf_49 : decode cX2_favourOf 49 = .ok (.ireturn, 1) := by decide +kernel
def q2_favourOf (σ : St) (th : Nat) (village_a : Nat) (voter_a : Int32) (other_a : Int32) : Option (Int32 × St) :=
  Option.bind (q10_likingOf σ village_a voter_a other_a) fun x1_ =>
  if (σ th 4) = (-1) then (Option.bind (Option.bind (q10_areOfOneParty σ village_a voter_a other_a) fun x12_ =>
  if x12_ = true then (some (x1_ + 2)) else (some x1_)) fun x7_ =>
  some (x7_, σ)) else
  Option.bind (q2_weigh σ th village_a voter_a other_a) fun x16_ =>
  some (x1_ + (x16_ th 5), x16_)
abbrev rm2_favourOf : Room := { frames := 2, cells := 0, slots := 0, locals := 48 }
set_option maxHeartbeats 4000000 in
set_option maxRecDepth 100000 in
theorem p2_favourOf {Θ : Tz} {σ : St} {ρ : Option Value × St} (C : Zc Θ cX2_favourOf 5 RX2 (some .int) rm2_favourOf) (hkd : Θ.2.2.2.2.1 = kdC) {th : Nat} {village_a : Nat} {voter_a : Int32} {other_a : Int32} (hth : isLaw th) (h_village : isV village_a) {r : (Int32 × St)} (hf : q2_favourOf σ th village_a voter_a other_a = some r) (hρ : ρ = (some (.int r.1), r.2)) : Z Θ 5 0 0 (zQ Θ ρ) σ 0 [(0, .ref (zA Θ th)), (1, .ref (zA Θ village_a)), (2, .int voter_a), (3, .int other_a)] [] := by
  unfold q2_favourOf at hf
  refine z_aload_n C 1 dX2_favourOf_0 rfl rfl ?_
  refine z_iload_n C 2 dX2_favourOf_1 rfl rfl ?_
  refine z_iload_n C 3 dX2_favourOf_2 rfl rfl ?_
  obtain ⟨x1_, h2_, hf⟩ := ob hf
  refine cr2_41 (th := village_a) (person_a := voter_a) (other_a := other_a) C hkd h_village h2_ ⟨(Nat.le_of_ble_eq_true rfl), (Nat.le_of_ble_eq_true rfl)⟩ (Nat.le_of_ble_eq_true rfl) ⟨Nat.zero_le _, Nat.zero_le _⟩ dX2_favourOf_3 ?_
  refine z_ist C dX2_favourOf_6 rfl (Nat.le_of_ble_eq_true rfl) rfl ?_
  have K3_ : (σ th 4) = (-1) → Z Θ 5 0 0 (zQ Θ ρ) σ 16 [(4, .int x1_), (0, .ref (zA Θ th)), (1, .ref (zA Θ village_a)), (2, .int voter_a), (3, .int other_a)] [] := by
    intro h6_
    rw [if_pos h6_] at hf
    obtain ⟨x7_, h8_, hf⟩ := ob hf
    suffices K9_ : Z Θ 5 0 0 (zQ Θ ρ) σ 34 [(4, .int x1_), (0, .ref (zA Θ th)), (1, .ref (zA Θ village_a)), (2, .int voter_a), (3, .int other_a)] [.int x7_] by
      refine z_aload_n C 2 dX2_favourOf_16 rfl rfl ?_
      refine z_iload_n C 3 dX2_favourOf_17 rfl rfl ?_
      refine z_iload_n C 4 dX2_favourOf_18 rfl rfl ?_
      obtain ⟨x12_, h13_, h8_⟩ := ob h8_
      refine cr2_47 (th := village_a) (person_a := voter_a) (other_a := other_a) C hkd h_village h13_ ⟨(Nat.le_of_ble_eq_true rfl), (Nat.le_of_ble_eq_true rfl)⟩ (Nat.le_of_ble_eq_true rfl) ⟨Nat.zero_le _, Nat.zero_le _⟩ dX2_favourOf_19 ?_
      have K10_ : x12_ = true → Z Θ 5 0 0 (zQ Θ ρ) σ 25 [(4, .int x1_), (0, .ref (zA Θ th)), (1, .ref (zA Θ village_a)), (2, .int voter_a), (3, .int other_a)] [] := by
        intro h15_
        rw [if_pos h15_] at h8_
        refine z_iload C 0 dX2_favourOf_25 rfl ?_
        refine z_iconst (v := 2) C dX2_favourOf_27 ic_2 ?_
        refine z_iadd C dX2_favourOf_28 ?_
        refine z_goto C 34 dX2_favourOf_29 (by decide) ?_
        cases h8_
        exact K9_
      have K11_ : ¬ (x12_ = true) → Z Θ 5 0 0 (zQ Θ ρ) σ 32 [(4, .int x1_), (0, .ref (zA Θ th)), (1, .ref (zA Θ village_a)), (2, .int voter_a), (3, .int other_a)] [] := by
        intro h15_
        rw [if_neg h15_] at h8_
        refine z_iload C 0 dX2_favourOf_32 rfl ?_
        cases h8_
        exact K9_
      refine cb_f C 32 dX2_favourOf_22 (by decide) (fun h14_ => ?_) (fun h14_ => ?_)
      · exact K10_ h14_
      · exact K11_ h14_
    cases hf
    subst hρ
    exact z_iret C dX2_favourOf_34
  suffices K4_ : ¬ ((σ th 4) = (-1)) → Z Θ 5 0 0 (zQ Θ ρ) σ 35 [(4, .int x1_), (0, .ref (zA Θ th)), (1, .ref (zA Θ village_a)), (2, .int voter_a), (3, .int other_a)] [] by
    refine z_aload_n C 1 dX2_favourOf_8 rfl rfl ?_
    refine fg2_25 C hkd hth dX2_favourOf_9 ?_
    refine z_iconst (v := (-1)) C dX2_favourOf_12 ic_m1 ?_
    refine c_eq_f C 35 dX2_favourOf_13 (by decide) (fun h5_ => ?_) (fun h5_ => ?_)
    · exact K3_ h5_
    · exact K4_ h5_
  intro h6_
  rw [if_neg h6_] at hf
  refine z_aload_n C 1 dX2_favourOf_35 rfl rfl ?_
  refine z_aload_n C 2 dX2_favourOf_36 rfl rfl ?_
  refine z_iload_n C 3 dX2_favourOf_37 rfl rfl ?_
  refine z_iload_n C 4 dX2_favourOf_38 rfl rfl ?_
  obtain ⟨x16_, h17_, hf⟩ := ob hf
  refine cr2_51 (th := th) (village_a := village_a) (voter_a := voter_a) (other_a := other_a) C hkd hth h_village h17_ ⟨(Nat.le_of_ble_eq_true rfl), (Nat.le_of_ble_eq_true rfl)⟩ (Nat.le_of_ble_eq_true rfl) ⟨Nat.zero_le _, Nat.zero_le _⟩ dX2_favourOf_39 ?_
  refine z_iload C 0 dX2_favourOf_42 rfl ?_
  refine z_aload_n C 1 dX2_favourOf_44 rfl rfl ?_
  refine fg2_28 C hkd hth dX2_favourOf_45 ?_
  refine z_iadd C dX2_favourOf_48 ?_
  cases hf
  subst hρ
  exact z_iret C dX2_favourOf_49
theorem c2_favourOf {l : Launch} {kd : List KD} {w : Wp} {σ : St} {th : Nat} {village_a : Nat} {voter_a : Int32} {other_a : Int32} (hkd : kd = kdC) (hi : zI kd w) (hth : isLaw th) (h_village : isV village_a) {r : (Int32 × St)} (hf : q2_favourOf σ th village_a voter_a other_a = some r) : zM l kd w yX2_favourOf cX2_favourOf 5 (some .int) rm2_favourOf [.ref (w.2.2.1 th), .ref (w.2.2.1 village_a), .int voter_a, .int other_a] σ (some (.int r.1), r.2) := zM_of rfl hi (Nat.le_of_ble_eq_true rfl) (fun Θ hl hw C => by
  obtain ⟨Θ1, Θ2, Θ3, Θ4, Θ5⟩ := Θ
  cases hw
  exact p2_favourOf C hkd hth h_village hf rfl)
/-! LastLoaf$Law.keepsFromVoting -/
theorem fg2_31 {Θ : Tz} {cc : ByteArray} {nL kc ks : Nat} {ret : Option FieldType} {rm : Room} {Q : State → Prop} {σ : St} {pc : Nat} {lv : List (Nat × Value)} {st : List Value} (C : Zc Θ cc nL RX2 ret rm) (hkd : Θ.2.2.2.2.1 = kdC) {th : Nat} (hth : isLaw th) (hd : decode cc pc = .ok (.getfield 31, 3)) (kk : Z Θ nL kc ks Q σ (pc + 3) lv (.int (σ th 6) :: st)) : Z Θ nL kc ks Q σ pc lv (.ref (zA Θ th) :: st) := z_get C inT2 th (kLaw_0 hkd hth) rfl 6 (by decide) w_1_214 rfl hd kk
theorem dX2_keepsFromVoting_0 : decode cX2_keepsFromVoting 0 = .ok (.aload_n 0, 1) := by decide +kernel
theorem dX2_keepsFromVoting_1 : decode cX2_keepsFromVoting 1 = .ok (.getfield 25, 3) := by decide +kernel
theorem dX2_keepsFromVoting_4 : decode cX2_keepsFromVoting 4 = .ok (.iconst (-1), 1) := by decide +kernel
theorem dX2_keepsFromVoting_5 : decode cX2_keepsFromVoting 5 = .ok (.if_icmp .ne 5, 3) := by decide +kernel
theorem dX2_keepsFromVoting_8 : decode cX2_keepsFromVoting 8 = .ok (.iconst 0, 1) := by decide +kernel
theorem dX2_keepsFromVoting_9 : decode cX2_keepsFromVoting 9 = .ok (.ireturn, 1) := by decide +kernel
theorem dX2_keepsFromVoting_10 : decode cX2_keepsFromVoting 10 = .ok (.aload_n 0, 1) := by decide +kernel
theorem dX2_keepsFromVoting_11 : decode cX2_keepsFromVoting 11 = .ok (.aload_n 1, 1) := by decide +kernel
theorem dX2_keepsFromVoting_12 : decode cX2_keepsFromVoting 12 = .ok (.iload_n 2, 1) := by decide +kernel
theorem dX2_keepsFromVoting_13 : decode cX2_keepsFromVoting 13 = .ok (.iload_n 2, 1) := by decide +kernel
theorem dX2_keepsFromVoting_14 : decode cX2_keepsFromVoting 14 = .ok (.invokevirtual 51, 3) := by decide +kernel
theorem dX2_keepsFromVoting_17 : decode cX2_keepsFromVoting 17 = .ok (.aload_n 0, 1) := by decide +kernel
theorem dX2_keepsFromVoting_18 : decode cX2_keepsFromVoting 18 = .ok (.getfield 31, 3) := by decide +kernel
theorem dX2_keepsFromVoting_21 : decode cX2_keepsFromVoting 21 = .ok (.ireturn, 1) := by decide +kernel
def q2_keepsFromVoting (σ : St) (th : Nat) (village_a : Nat) (voter_a : Int32) : Option (Bool × St) :=
  if (σ th 4) = (-1) then (some (false, σ)) else
  Option.bind (q2_weigh σ th village_a voter_a voter_a) fun x5_ =>
  Option.bind (toB (x5_ th 6)) fun b7_ =>
  some (b7_, x5_)
abbrev rm2_keepsFromVoting : Room := { frames := 2, cells := 0, slots := 0, locals := 48 }
set_option maxHeartbeats 4000000 in
set_option maxRecDepth 100000 in
theorem p2_keepsFromVoting {Θ : Tz} {σ : St} {ρ : Option Value × St} (C : Zc Θ cX2_keepsFromVoting 3 RX2 (some .boolean) rm2_keepsFromVoting) (hkd : Θ.2.2.2.2.1 = kdC) {th : Nat} {village_a : Nat} {voter_a : Int32} (hth : isLaw th) (h_village : isV village_a) {r : (Bool × St)} (hf : q2_keepsFromVoting σ th village_a voter_a = some r) (hρ : ρ = (some (.int (b2i r.1)), r.2)) : Z Θ 3 0 0 (zQ Θ ρ) σ 0 [(0, .ref (zA Θ th)), (1, .ref (zA Θ village_a)), (2, .int voter_a)] [] := by
  unfold q2_keepsFromVoting at hf
  have K1_ : (σ th 4) = (-1) → Z Θ 3 0 0 (zQ Θ ρ) σ 8 [(0, .ref (zA Θ th)), (1, .ref (zA Θ village_a)), (2, .int voter_a)] [] := by
    intro h4_
    rw [if_pos h4_] at hf
    refine z_iconst (v := 0) C dX2_keepsFromVoting_8 ic_0 ?_
    cases hf
    subst hρ
    exact z_zret C (b2i_narrow _) dX2_keepsFromVoting_9
  suffices K2_ : ¬ ((σ th 4) = (-1)) → Z Θ 3 0 0 (zQ Θ ρ) σ 10 [(0, .ref (zA Θ th)), (1, .ref (zA Θ village_a)), (2, .int voter_a)] [] by
    refine z_aload_n C 0 dX2_keepsFromVoting_0 rfl rfl ?_
    refine fg2_25 C hkd hth dX2_keepsFromVoting_1 ?_
    refine z_iconst (v := (-1)) C dX2_keepsFromVoting_4 ic_m1 ?_
    refine c_eq_f C 10 dX2_keepsFromVoting_5 (by decide) (fun h3_ => ?_) (fun h3_ => ?_)
    · exact K1_ h3_
    · exact K2_ h3_
  intro h4_
  rw [if_neg h4_] at hf
  refine z_aload_n C 0 dX2_keepsFromVoting_10 rfl rfl ?_
  refine z_aload_n C 1 dX2_keepsFromVoting_11 rfl rfl ?_
  refine z_iload_n C 2 dX2_keepsFromVoting_12 rfl rfl ?_
  refine z_iload_n C 2 dX2_keepsFromVoting_13 rfl rfl ?_
  obtain ⟨x5_, h6_, hf⟩ := ob hf
  refine cr2_51 (th := th) (village_a := village_a) (voter_a := voter_a) (other_a := voter_a) C hkd hth h_village h6_ ⟨(Nat.le_of_ble_eq_true rfl), (Nat.le_of_ble_eq_true rfl)⟩ (Nat.le_of_ble_eq_true rfl) ⟨Nat.zero_le _, Nat.zero_le _⟩ dX2_keepsFromVoting_14 ?_
  refine z_aload_n C 0 dX2_keepsFromVoting_17 rfl rfl ?_
  refine fg2_31 C hkd hth dX2_keepsFromVoting_18 ?_
  obtain ⟨b7_, h8_, hf⟩ := ob hf
  rw [toB_ h8_]
  cases hf
  subst hρ
  exact z_zret C (b2i_narrow _) dX2_keepsFromVoting_21
theorem c2_keepsFromVoting {l : Launch} {kd : List KD} {w : Wp} {σ : St} {th : Nat} {village_a : Nat} {voter_a : Int32} (hkd : kd = kdC) (hi : zI kd w) (hth : isLaw th) (h_village : isV village_a) {r : (Bool × St)} (hf : q2_keepsFromVoting σ th village_a voter_a = some r) : zM l kd w yX2_keepsFromVoting cX2_keepsFromVoting 3 (some .boolean) rm2_keepsFromVoting [.ref (w.2.2.1 th), .ref (w.2.2.1 village_a), .int voter_a] σ (some (.int (b2i r.1)), r.2) := zM_of rfl hi (Nat.le_of_ble_eq_true rfl) (fun Θ hl hw C => by
  obtain ⟨Θ1, Θ2, Θ3, Θ4, Θ5⟩ := Θ
  cases hw
  exact p2_keepsFromVoting C hkd hth h_village hf rfl)
/-! LastLoaf$Poll.sortRank -/
theorem w_2_47 : Cond.fieldLink "LastLoaf$Poll" (30 : Nat) "LastLoaf$Poll" "people" "I" ∈ TB := tb_in (lwt_2 (List.mem_of_getElem? (i := 47) (by decide +kernel))) rfl
theorem fg5_30 {Θ : Tz} {cc : ByteArray} {nL kc ks : Nat} {ret : Option FieldType} {rm : Room} {Q : State → Prop} {σ : St} {pc : Nat} {lv : List (Nat × Value)} {st : List Value} (C : Zc Θ cc nL RX5 ret rm) (hkd : Θ.2.2.2.2.1 = kdC) (hd : decode cc pc = .ok (.getfield 30, 3)) (kk : Z Θ nL kc ks Q σ (pc + 3) lv (.int (σ 6 6) :: st)) : Z Θ nL kc ks Q σ pc lv (.ref (zA Θ 6) :: st) := z_get C inT5 6 (kC_6 hkd) rfl 6 (by decide) w_2_47 rfl hd kk
theorem w_2_48 : Cond.fieldLink "LastLoaf$Poll" (34 : Nat) "LastLoaf$Poll" "runners" "I" ∈ TB := tb_in (lwt_2 (List.mem_of_getElem? (i := 48) (by decide +kernel))) rfl
theorem fg5_34 {Θ : Tz} {cc : ByteArray} {nL kc ks : Nat} {ret : Option FieldType} {rm : Room} {Q : State → Prop} {σ : St} {pc : Nat} {lv : List (Nat × Value)} {st : List Value} (C : Zc Θ cc nL RX5 ret rm) (hkd : Θ.2.2.2.2.1 = kdC) (hd : decode cc pc = .ok (.getfield 34, 3)) (kk : Z Θ nL kc ks Q σ (pc + 3) lv (.int (σ 6 7) :: st)) : Z Θ nL kc ks Q σ pc lv (.ref (zA Θ 6) :: st) := z_get C inT5 6 (kC_6 hkd) rfl 7 (by decide) w_2_48 rfl hd kk
theorem cr5_58 {Θ : Tz} {cc : ByteArray} {nL kc ks : Nat} {ret : Option FieldType} {rm : Room} {Q : State → Prop} {σ : St} {pc : Nat} {lv : List (Nat × Value)} {st : List Value} (C : Zc Θ cc nL RX5 ret rm) (hkd : Θ.2.2.2.2.1 = kdC) {set_a : Int32} {person_a : Int32} (hrm : rm11_isIn.frames + 1 ≤ rm.frames ∧ 8 + (2 + 11) + rm11_isIn.locals ≤ rm.locals) (hcat : (st.map fun v => v.category).sum ≤ 8) (hk : kc ≤ rm.cells ∧ ks ≤ rm.slots) (hd : decode cc pc = .ok (.invokestatic 58, 3)) (kk : Z Θ nL kc ks Q σ (pc + 3) lv (.int (b2i (q11_isIn set_a person_a)) :: st)) : Z Θ nL kc ks Q σ pc lv (.int person_a :: .int set_a :: st) := z_callSN (host := "LastLoaf") C [.int set_a, .int person_a] (some (.int (b2i (q11_isIn set_a person_a))), σ) 2 (c11_isIn (set_a := set_a) (person_a := person_a) hkd (zc_inj C)) w_3_36 (List.mem_of_getElem? (i := 7) rfl) w_3_35 w_1_1 ⟨rfl, rfl, hrm.1, hrm.2⟩ (by decide +kernel) rfl rfl hcat hk hd kk
theorem w_2_43 : Cond.fieldLink "LastLoaf$Poll" (18 : Nat) "LastLoaf$Poll" "favours" "[I" ∈ TB := tb_in (lwt_2 (List.mem_of_getElem? (i := 43) (by decide +kernel))) rfl
theorem fg5_18 {Θ : Tz} {cc : ByteArray} {nL kc ks : Nat} {ret : Option FieldType} {rm : Room} {Q : State → Prop} {σ : St} {pc : Nat} {lv : List (Nat × Value)} {st : List Value} (C : Zc Θ cc nL RX5 ret rm) (hkd : Θ.2.2.2.2.1 = kdC) (hd : decode cc pc = .ok (.getfield 18, 3)) (kk : Z Θ nL kc ks Q σ (pc + 3) lv (.ref (zA Θ 9) :: st)) : Z Θ nL kc ks Q σ pc lv (.ref (zA Θ 6) :: st) := z_get C inT5 6 (kC_6 hkd) rfl 2 (by decide) w_2_43 rfl hd kk
theorem w_2_41 : Cond.fieldLink "LastLoaf$Poll" (9 : Nat) "LastLoaf$Poll" "ranks" "[I" ∈ TB := tb_in (lwt_2 (List.mem_of_getElem? (i := 41) (by decide +kernel))) rfl
theorem fg5_9 {Θ : Tz} {cc : ByteArray} {nL kc ks : Nat} {ret : Option FieldType} {rm : Room} {Q : State → Prop} {σ : St} {pc : Nat} {lv : List (Nat × Value)} {st : List Value} (C : Zc Θ cc nL RX5 ret rm) (hkd : Θ.2.2.2.2.1 = kdC) (hd : decode cc pc = .ok (.getfield 9, 3)) (kk : Z Θ nL kc ks Q σ (pc + 3) lv (.ref (zA Θ 7) :: st)) : Z Θ nL kc ks Q σ pc lv (.ref (zA Θ 6) :: st) := z_get C inT5 6 (kC_6 hkd) rfl 0 (by decide) w_2_41 rfl hd kk
theorem w_2_42 : Cond.fieldLink "LastLoaf$Poll" (15 : Nat) "LastLoaf$Poll" "places" "[I" ∈ TB := tb_in (lwt_2 (List.mem_of_getElem? (i := 42) (by decide +kernel))) rfl
theorem fg5_15 {Θ : Tz} {cc : ByteArray} {nL kc ks : Nat} {ret : Option FieldType} {rm : Room} {Q : State → Prop} {σ : St} {pc : Nat} {lv : List (Nat × Value)} {st : List Value} (C : Zc Θ cc nL RX5 ret rm) (hkd : Θ.2.2.2.2.1 = kdC) (hd : decode cc pc = .ok (.getfield 15, 3)) (kk : Z Θ nL kc ks Q σ (pc + 3) lv (.ref (zA Θ 8) :: st)) : Z Θ nL kc ks Q σ pc lv (.ref (zA Θ 6) :: st) := z_get C inT5 6 (kC_6 hkd) rfl 1 (by decide) w_2_42 rfl hd kk
theorem dX5_sortRank_0 : decode cX5_sortRank 0 = .ok (.iload_n 1, 1) := by decide +kernel
theorem dX5_sortRank_1 : decode cX5_sortRank 1 = .ok (.bipush 6, 2) := by decide +kernel
theorem dX5_sortRank_3 : decode cX5_sortRank 3 = .ok (.imul, 1) := by decide +kernel
theorem dX5_sortRank_4 : decode cX5_sortRank 4 = .ok (.istore_n 2, 1) := by decide +kernel
theorem dX5_sortRank_5 : decode cX5_sortRank 5 = .ok (.iconst 0, 1) := by decide +kernel
theorem dX5_sortRank_6 : decode cX5_sortRank 6 = .ok (.istore_n 3, 1) := by decide +kernel
theorem dX5_sortRank_7 : decode cX5_sortRank 7 = .ok (.iconst 0, 1) := by decide +kernel
theorem dX5_sortRank_8 : decode cX5_sortRank 8 = .ok (.istore 4, 2) := by decide +kernel
theorem dX5_sortRank_10 : decode cX5_sortRank 10 = .ok (.iload 4, 2) := by decide +kernel
theorem dX5_sortRank_12 : decode cX5_sortRank 12 = .ok (.aload_n 0, 1) := by decide +kernel
theorem dX5_sortRank_13 : decode cX5_sortRank 13 = .ok (.getfield 30, 3) := by decide +kernel
theorem dX5_sortRank_16 : decode cX5_sortRank 16 = .ok (.if_icmp .ge 95, 3) := by decide +kernel
theorem dX5_sortRank_19 : decode cX5_sortRank 19 = .ok (.aload_n 0, 1) := by decide +kernel
theorem dX5_sortRank_20 : decode cX5_sortRank 20 = .ok (.getfield 34, 3) := by decide +kernel
theorem dX5_sortRank_23 : decode cX5_sortRank 23 = .ok (.iload 4, 2) := by decide +kernel
theorem dX5_sortRank_25 : decode cX5_sortRank 25 = .ok (.invokestatic 58, 3) := by decide +kernel
theorem dX5_sortRank_28 : decode cX5_sortRank 28 = .ok (.ifCond .eq 77, 3) := by decide +kernel
theorem dX5_sortRank_31 : decode cX5_sortRank 31 = .ok (.iload_n 3, 1) := by decide +kernel
theorem dX5_sortRank_32 : decode cX5_sortRank 32 = .ok (.istore 5, 2) := by decide +kernel
theorem dX5_sortRank_34 : decode cX5_sortRank 34 = .ok (.iload 5, 2) := by decide +kernel
theorem dX5_sortRank_36 : decode cX5_sortRank 36 = .ok (.ifCond .le 55, 3) := by decide +kernel
theorem dX5_sortRank_39 : decode cX5_sortRank 39 = .ok (.aload_n 0, 1) := by decide +kernel
theorem dX5_sortRank_40 : decode cX5_sortRank 40 = .ok (.getfield 18, 3) := by decide +kernel
theorem dX5_sortRank_43 : decode cX5_sortRank 43 = .ok (.aload_n 0, 1) := by decide +kernel
theorem dX5_sortRank_44 : decode cX5_sortRank 44 = .ok (.getfield 9, 3) := by decide +kernel
theorem dX5_sortRank_47 : decode cX5_sortRank 47 = .ok (.iload_n 2, 1) := by decide +kernel
theorem dX5_sortRank_48 : decode cX5_sortRank 48 = .ok (.iload 5, 2) := by decide +kernel
theorem dX5_sortRank_50 : decode cX5_sortRank 50 = .ok (.iadd, 1) := by decide +kernel
theorem dX5_sortRank_51 : decode cX5_sortRank 51 = .ok (.iconst 1, 1) := by decide +kernel
theorem dX5_sortRank_52 : decode cX5_sortRank 52 = .ok (.isub, 1) := by decide +kernel
theorem dX5_sortRank_53 : decode cX5_sortRank 53 = .ok (.iaload, 1) := by decide +kernel
theorem dX5_sortRank_54 : decode cX5_sortRank 54 = .ok (.iaload, 1) := by decide +kernel
theorem dX5_sortRank_55 : decode cX5_sortRank 55 = .ok (.aload_n 0, 1) := by decide +kernel
theorem dX5_sortRank_56 : decode cX5_sortRank 56 = .ok (.getfield 18, 3) := by decide +kernel
theorem dX5_sortRank_59 : decode cX5_sortRank 59 = .ok (.iload 4, 2) := by decide +kernel
theorem dX5_sortRank_61 : decode cX5_sortRank 61 = .ok (.iaload, 1) := by decide +kernel
theorem dX5_sortRank_62 : decode cX5_sortRank 62 = .ok (.if_icmp .ge 29, 3) := by decide +kernel
theorem dX5_sortRank_65 : decode cX5_sortRank 65 = .ok (.aload_n 0, 1) := by decide +kernel
theorem dX5_sortRank_66 : decode cX5_sortRank 66 = .ok (.getfield 9, 3) := by decide +kernel
theorem dX5_sortRank_69 : decode cX5_sortRank 69 = .ok (.iload_n 2, 1) := by decide +kernel
theorem dX5_sortRank_70 : decode cX5_sortRank 70 = .ok (.iload 5, 2) := by decide +kernel
theorem dX5_sortRank_72 : decode cX5_sortRank 72 = .ok (.iadd, 1) := by decide +kernel
theorem dX5_sortRank_73 : decode cX5_sortRank 73 = .ok (.aload_n 0, 1) := by decide +kernel
theorem dX5_sortRank_74 : decode cX5_sortRank 74 = .ok (.getfield 9, 3) := by decide +kernel
theorem dX5_sortRank_77 : decode cX5_sortRank 77 = .ok (.iload_n 2, 1) := by decide +kernel
theorem dX5_sortRank_78 : decode cX5_sortRank 78 = .ok (.iload 5, 2) := by decide +kernel
theorem dX5_sortRank_80 : decode cX5_sortRank 80 = .ok (.iadd, 1) := by decide +kernel
theorem dX5_sortRank_81 : decode cX5_sortRank 81 = .ok (.iconst 1, 1) := by decide +kernel
theorem dX5_sortRank_82 : decode cX5_sortRank 82 = .ok (.isub, 1) := by decide +kernel
theorem dX5_sortRank_83 : decode cX5_sortRank 83 = .ok (.iaload, 1) := by decide +kernel
theorem dX5_sortRank_84 : decode cX5_sortRank 84 = .ok (.iastore, 1) := by decide +kernel
theorem dX5_sortRank_85 : decode cX5_sortRank 85 = .ok (.iinc 5 (-1), 3) := by decide +kernel
theorem dX5_sortRank_88 : decode cX5_sortRank 88 = .ok (.goto (-54), 3) := by decide +kernel
theorem dX5_sortRank_91 : decode cX5_sortRank 91 = .ok (.aload_n 0, 1) := by decide +kernel
theorem dX5_sortRank_92 : decode cX5_sortRank 92 = .ok (.getfield 9, 3) := by decide +kernel
theorem dX5_sortRank_95 : decode cX5_sortRank 95 = .ok (.iload_n 2, 1) := by decide +kernel
theorem dX5_sortRank_96 : decode cX5_sortRank 96 = .ok (.iload 5, 2) := by decide +kernel
theorem dX5_sortRank_98 : decode cX5_sortRank 98 = .ok (.iadd, 1) := by decide +kernel
theorem dX5_sortRank_99 : decode cX5_sortRank 99 = .ok (.iload 4, 2) := by decide +kernel
theorem dX5_sortRank_101 : decode cX5_sortRank 101 = .ok (.iastore, 1) := by decide +kernel
theorem dX5_sortRank_102 : decode cX5_sortRank 102 = .ok (.iinc 3 1, 3) := by decide +kernel
theorem dX5_sortRank_105 : decode cX5_sortRank 105 = .ok (.iinc 4 1, 3) := by decide +kernel
theorem dX5_sortRank_108 : decode cX5_sortRank 108 = .ok (.goto (-98), 3) := by decide +kernel
theorem dX5_sortRank_111 : decode cX5_sortRank 111 = .ok (.iconst 0, 1) := by decide +kernel
theorem dX5_sortRank_112 : decode cX5_sortRank 112 = .ok (.istore 4, 2) := by decide +kernel
theorem dX5_sortRank_114 : decode cX5_sortRank 114 = .ok (.iload 4, 2) := by decide +kernel
theorem dX5_sortRank_116 : decode cX5_sortRank 116 = .ok (.iload_n 3, 1) := by decide +kernel
theorem dX5_sortRank_117 : decode cX5_sortRank 117 = .ok (.if_icmp .ge 27, 3) := by decide +kernel
theorem dX5_sortRank_120 : decode cX5_sortRank 120 = .ok (.aload_n 0, 1) := by decide +kernel
theorem dX5_sortRank_121 : decode cX5_sortRank 121 = .ok (.getfield 15, 3) := by decide +kernel
theorem dX5_sortRank_124 : decode cX5_sortRank 124 = .ok (.iload_n 2, 1) := by decide +kernel
theorem dX5_sortRank_125 : decode cX5_sortRank 125 = .ok (.aload_n 0, 1) := by decide +kernel
theorem dX5_sortRank_126 : decode cX5_sortRank 126 = .ok (.getfield 9, 3) := by decide +kernel
theorem dX5_sortRank_129 : decode cX5_sortRank 129 = .ok (.iload_n 2, 1) := by decide +kernel
theorem dX5_sortRank_130 : decode cX5_sortRank 130 = .ok (.iload 4, 2) := by decide +kernel
theorem dX5_sortRank_132 : decode cX5_sortRank 132 = .ok (.iadd, 1) := by decide +kernel
theorem dX5_sortRank_133 : decode cX5_sortRank 133 = .ok (.iaload, 1) := by decide +kernel
theorem dX5_sortRank_134 : decode cX5_sortRank 134 = .ok (.iadd, 1) := by decide +kernel
theorem dX5_sortRank_135 : decode cX5_sortRank 135 = .ok (.iload 4, 2) := by decide +kernel
theorem dX5_sortRank_137 : decode cX5_sortRank 137 = .ok (.iastore, 1) := by decide +kernel
theorem dX5_sortRank_138 : decode cX5_sortRank 138 = .ok (.iinc 4 1, 3) := by decide +kernel
theorem dX5_sortRank_141 : decode cX5_sortRank 141 = .ok (.goto (-27), 3) := by decide +kernel
theorem dX5_sortRank_144 : decode cX5_sortRank 144 = .ok (.return_, 1) := by decide +kernel
def q5_sortRank (σ : St) (voter_a : Int32) : Option St :=
  lt (voter_a * 6) fun row1_ =>
  Option.bind (loop3 (fun rec6_ (ranked9_ : Int32) (r10_ : Int32) (σ11_ : St) =>
  if r10_ < (σ11_ 6 6) then
  Option.bind (if q11_isIn (σ11_ 6 7) r10_ = true then (Option.bind (loop2 (fun rec28_ (k31_ : Int32) (σ32_ : St) =>
  Option.bind (if 0 < k31_ then (Option.bind (ag σ32_ 7 36 ((row1_ + k31_) - 1)) fun x40_ =>
  Option.bind (ag σ32_ 9 6 x40_) fun x42_ =>
  Option.bind (ag σ32_ 9 6 r10_) fun x44_ =>
  if x42_ < x44_ then (some true) else (some false)) else (some false)) fun t37_ =>
  if t37_ = true then
  Option.bind (ag σ32_ 7 36 ((row1_ + k31_) - 1)) fun x48_ =>
  Option.bind (sa σ32_ 7 36 (row1_ + k31_) x48_) fun σ50_ =>
  lt (k31_ + (-1)) fun k52_ =>
  rec28_ k52_ σ50_
  else (some (k31_, σ32_))) fuelN ranked9_ σ11_) fun y25_ =>
  Option.bind (sa y25_.2 7 36 (row1_ + y25_.1) r10_) fun σ54_ =>
  lt (ranked9_ + 1) fun ranked56_ =>
  some (ranked56_, σ54_)) else (some (ranked9_, σ11_))) fun y18_ =>
  lt (r10_ + 1) fun r58_ =>
  rec6_ y18_.1 r58_ y18_.2
  else (some (ranked9_, r10_, σ11_))) fuelN (0 : Int32) (0 : Int32) σ) fun y3_ =>
  Option.bind (loop2 (fun rec63_ (k66_ : Int32) (σ67_ : St) =>
  if k66_ < y3_.1 then
  Option.bind (ag σ67_ 7 36 (row1_ + k66_)) fun x74_ =>
  Option.bind (sa σ67_ 8 36 (row1_ + x74_) k66_) fun σ76_ =>
  lt (k66_ + 1) fun k78_ =>
  rec63_ k78_ σ76_
  else (some (k66_, σ67_))) fuelN (0 : Int32) y3_.2.2) fun y60_ =>
  some y60_.2
abbrev rm5_sortRank : Room := { frames := 1, cells := 0, slots := 0, locals := 21 }
set_option maxHeartbeats 4000000 in
set_option maxRecDepth 100000 in
theorem p5_sortRank {Θ : Tz} {σ : St} {ρ : Option Value × St} (C : Zc Θ cX5_sortRank 6 RX5 none rm5_sortRank) (hkd : Θ.2.2.2.2.1 = kdC) {voter_a : Int32} {r : St} (hf : q5_sortRank σ voter_a = some r) (hρ : ρ = (none, r)) : Z Θ 6 0 0 (zQ Θ ρ) σ 0 [(0, .ref (zA Θ 6)), (1, .int voter_a)] [] := by
  unfold q5_sortRank at hf
  refine z_iload_n C 1 dX5_sortRank_0 rfl rfl ?_
  refine z_bipush (v := 6) C dX5_sortRank_1 bp_6 ?_
  refine z_imul C dX5_sortRank_3 ?_
  obtain ⟨row1_, h2_, hf⟩ := lt_ hf
  refine z_istN C dX5_sortRank_4 h2_ rfl (Nat.le_of_ble_eq_true rfl) rfl ?_
  refine z_iconst (v := 0) C dX5_sortRank_5 ic_0 ?_
  refine z_istN C dX5_sortRank_6 rfl rfl (Nat.le_of_ble_eq_true rfl) rfl ?_
  refine z_iconst (v := 0) C dX5_sortRank_7 ic_0 ?_
  refine z_ist C dX5_sortRank_8 rfl (Nat.le_of_ble_eq_true rfl) rfl ?_
  refine Z.sub [3, 4, 2, 1, 0] rfl ?_
  obtain ⟨y3_, h4_, hf⟩ := ob hf
  suffices K5_ : Z Θ 6 0 0 (zQ Θ ρ) y3_.2.2 111 [(0, .ref (zA Θ 6)), (1, .int voter_a), (2, .int row1_), (3, .int y3_.1), (4, .int y3_.2.1)] [] by
    refine loop3_Z (P := fun (ranked9_ : Int32) (r10_ : Int32) (σ11_ : St) => Z Θ 6 0 0 (zQ Θ ρ) σ11_ 10 [(0, .ref (zA Θ 6)), (1, .int voter_a), (2, .int row1_), (3, .int ranked9_), (4, .int r10_)] []) ?_ fuelN (0 : Int32) (0 : Int32) σ h4_
    clear h4_
    intro rec6_ ranked9_ r10_ σ11_ h7_ h8_
    have K14_ : r10_ < (σ11_ 6 6) → Z Θ 6 0 0 (zQ Θ ρ) σ11_ 19 [(0, .ref (zA Θ 6)), (1, .int voter_a), (2, .int row1_), (3, .int ranked9_), (4, .int r10_)] [] := by
      intro h17_
      rw [if_pos h17_] at h8_
      obtain ⟨y18_, h19_, h8_⟩ := ob h8_
      suffices K20_ : Z Θ 6 0 0 (zQ Θ ρ) y18_.2 105 [(0, .ref (zA Θ 6)), (1, .int voter_a), (2, .int row1_), (3, .int y18_.1), (4, .int r10_)] [] by
        have K21_ : q11_isIn (σ11_ 6 7) r10_ = true → Z Θ 6 0 0 (zQ Θ ρ) σ11_ 31 [(0, .ref (zA Θ 6)), (1, .int voter_a), (2, .int row1_), (3, .int ranked9_), (4, .int r10_)] [] := by
          intro h24_
          rw [if_pos h24_] at h19_
          refine z_iload_n C 3 dX5_sortRank_31 rfl rfl ?_
          refine z_ist C dX5_sortRank_32 rfl (Nat.le_of_ble_eq_true rfl) rfl ?_
          refine Z.sub [1, 2, 3, 4, 5, 0] rfl ?_
          obtain ⟨y25_, h26_, h19_⟩ := ob h19_
          suffices K27_ : Z Θ 6 0 0 (zQ Θ ρ) y25_.2 91 [(0, .ref (zA Θ 6)), (1, .int voter_a), (2, .int row1_), (3, .int ranked9_), (4, .int r10_), (5, .int y25_.1)] [] by
            refine loop2_Z (P := fun (k31_ : Int32) (σ32_ : St) => Z Θ 6 0 0 (zQ Θ ρ) σ32_ 34 [(0, .ref (zA Θ 6)), (1, .int voter_a), (2, .int row1_), (3, .int ranked9_), (4, .int r10_), (5, .int k31_)] []) ?_ fuelN ranked9_ σ11_ h26_
            clear h26_
            intro rec28_ k31_ σ32_ h29_ h30_
            obtain ⟨t37_, h38_, h30_⟩ := ob h30_
            have K35_ : t37_ = true → Z Θ 6 0 0 (zQ Θ ρ) σ32_ 65 [(0, .ref (zA Θ 6)), (1, .int voter_a), (2, .int row1_), (3, .int ranked9_), (4, .int r10_), (5, .int k31_)] [] := by
              intro h47_
              rw [if_pos h47_] at h30_
              refine z_aload_n C 0 dX5_sortRank_65 rfl rfl ?_
              refine fg5_9 C hkd dX5_sortRank_66 ?_
              refine z_iload_n C 2 dX5_sortRank_69 rfl rfl ?_
              refine z_iload C 5 dX5_sortRank_70 rfl ?_
              refine z_iadd C dX5_sortRank_72 ?_
              refine z_aload_n C 0 dX5_sortRank_73 rfl rfl ?_
              refine fg5_9 C hkd dX5_sortRank_74 ?_
              refine z_iload_n C 2 dX5_sortRank_77 rfl rfl ?_
              refine z_iload C 5 dX5_sortRank_78 rfl ?_
              refine z_iadd C dX5_sortRank_80 ?_
              refine z_iconst (v := 1) C dX5_sortRank_81 ic_1 ?_
              refine z_isub C dX5_sortRank_82 ?_
              obtain ⟨x48_, h49_, h30_⟩ := ob h30_
              refine z_ag C h49_ (kC_7 hkd) dX5_sortRank_83 ?_
              obtain ⟨σ50_, h51_, h30_⟩ := ob h30_
              refine z_sa C h51_ (kC_7 hkd) dX5_sortRank_84 ?_
              obtain ⟨k52_, h53_, h30_⟩ := lt_ h30_
              refine z_inc C 5 dX5_sortRank_85 rfl ic_m1 h53_ (Nat.le_of_ble_eq_true rfl) rfl ?_
              refine z_goto C 34 dX5_sortRank_88 (by decide) ?_
              refine Z.sub [1, 2, 3, 4, 5, 0] rfl ?_
              exact h29_ _ _ h30_
            have K36_ : ¬ (t37_ = true) → Z Θ 6 0 0 (zQ Θ ρ) σ32_ 91 [(0, .ref (zA Θ 6)), (1, .int voter_a), (2, .int row1_), (3, .int ranked9_), (4, .int r10_), (5, .int k31_)] [] := by
              intro h47_
              rw [if_neg h47_] at h30_
              cases h30_
              exact K27_
            refine z_iload C 5 dX5_sortRank_34 rfl ?_
            refine c0_gt_f C 91 dX5_sortRank_36 (by decide) (fun h39_ => ?_) (fun h39_ => ?_)
            · rw [if_pos h39_] at h38_
              refine z_aload_n C 0 dX5_sortRank_39 rfl rfl ?_
              refine fg5_18 C hkd dX5_sortRank_40 ?_
              refine z_aload_n C 0 dX5_sortRank_43 rfl rfl ?_
              refine fg5_9 C hkd dX5_sortRank_44 ?_
              refine z_iload_n C 2 dX5_sortRank_47 rfl rfl ?_
              refine z_iload C 5 dX5_sortRank_48 rfl ?_
              refine z_iadd C dX5_sortRank_50 ?_
              refine z_iconst (v := 1) C dX5_sortRank_51 ic_1 ?_
              refine z_isub C dX5_sortRank_52 ?_
              obtain ⟨x40_, h41_, h38_⟩ := ob h38_
              refine z_ag C h41_ (kC_7 hkd) dX5_sortRank_53 ?_
              obtain ⟨x42_, h43_, h38_⟩ := ob h38_
              refine z_ag C h43_ (kC_9 hkd) dX5_sortRank_54 ?_
              refine z_aload_n C 0 dX5_sortRank_55 rfl rfl ?_
              refine fg5_18 C hkd dX5_sortRank_56 ?_
              refine z_iload C 4 dX5_sortRank_59 rfl ?_
              obtain ⟨x44_, h45_, h38_⟩ := ob h38_
              refine z_ag C h45_ (kC_9 hkd) dX5_sortRank_61 ?_
              refine c_lt_f C 91 dX5_sortRank_62 (by decide) (fun h46_ => ?_) (fun h46_ => ?_)
              · rw [if_pos h46_] at h38_
                cases h38_
                exact K35_ rfl
              · rw [if_neg h46_] at h38_
                cases h38_
                exact K36_ Bool.false_ne_true
            · rw [if_neg h39_] at h38_
              cases h38_
              exact K36_ Bool.false_ne_true
          refine z_aload_n C 0 dX5_sortRank_91 rfl rfl ?_
          refine fg5_9 C hkd dX5_sortRank_92 ?_
          refine z_iload_n C 2 dX5_sortRank_95 rfl rfl ?_
          refine z_iload C 5 dX5_sortRank_96 rfl ?_
          refine z_iadd C dX5_sortRank_98 ?_
          refine z_iload C 4 dX5_sortRank_99 rfl ?_
          obtain ⟨σ54_, h55_, h19_⟩ := ob h19_
          refine z_sa C h55_ (kC_7 hkd) dX5_sortRank_101 ?_
          obtain ⟨ranked56_, h57_, h19_⟩ := lt_ h19_
          refine z_inc C 3 dX5_sortRank_102 rfl ic_1 h57_ (Nat.le_of_ble_eq_true rfl) rfl ?_
          cases h19_
          refine Z.sub [1, 2, 3, 0, 4] rfl ?_
          exact K20_
        have K22_ : ¬ (q11_isIn (σ11_ 6 7) r10_ = true) → Z Θ 6 0 0 (zQ Θ ρ) σ11_ 105 [(0, .ref (zA Θ 6)), (1, .int voter_a), (2, .int row1_), (3, .int ranked9_), (4, .int r10_)] [] := by
          intro h24_
          rw [if_neg h24_] at h19_
          cases h19_
          exact K20_
        refine z_aload_n C 0 dX5_sortRank_19 rfl rfl ?_
        refine fg5_34 C hkd dX5_sortRank_20 ?_
        refine z_iload C 4 dX5_sortRank_23 rfl ?_
        refine cr5_58 (set_a := (σ11_ 6 7)) (person_a := r10_) C hkd  ⟨(Nat.le_of_ble_eq_true rfl), (Nat.le_of_ble_eq_true rfl)⟩ (Nat.le_of_ble_eq_true rfl) ⟨Nat.zero_le _, Nat.zero_le _⟩ dX5_sortRank_25 ?_
        refine cb_f C 105 dX5_sortRank_28 (by decide) (fun h23_ => ?_) (fun h23_ => ?_)
        · exact K21_ h23_
        · exact K22_ h23_
      obtain ⟨r58_, h59_, h8_⟩ := lt_ h8_
      refine z_inc C 4 dX5_sortRank_105 rfl ic_1 h59_ (Nat.le_of_ble_eq_true rfl) rfl ?_
      refine z_goto C 10 dX5_sortRank_108 (by decide) ?_
      refine Z.sub [1, 2, 3, 4, 0] rfl ?_
      exact h7_ _ _ _ h8_
    have K15_ : ¬ (r10_ < (σ11_ 6 6)) → Z Θ 6 0 0 (zQ Θ ρ) σ11_ 111 [(0, .ref (zA Θ 6)), (1, .int voter_a), (2, .int row1_), (3, .int ranked9_), (4, .int r10_)] [] := by
      intro h17_
      rw [if_neg h17_] at h8_
      cases h8_
      exact K5_
    refine z_iload C 4 dX5_sortRank_10 rfl ?_
    refine z_aload_n C 0 dX5_sortRank_12 rfl rfl ?_
    refine fg5_30 C hkd dX5_sortRank_13 ?_
    refine c_lt_f C 111 dX5_sortRank_16 (by decide) (fun h16_ => ?_) (fun h16_ => ?_)
    · exact K14_ h16_
    · exact K15_ h16_
  refine z_iconst (v := 0) C dX5_sortRank_111 ic_0 ?_
  refine z_ist C dX5_sortRank_112 rfl (Nat.le_of_ble_eq_true rfl) rfl ?_
  refine Z.sub [1, 2, 3, 4, 0] rfl ?_
  obtain ⟨y60_, h61_, hf⟩ := ob hf
  suffices K62_ : Z Θ 6 0 0 (zQ Θ ρ) y60_.2 144 [(0, .ref (zA Θ 6)), (1, .int voter_a), (2, .int row1_), (3, .int y3_.1), (4, .int y60_.1)] [] by
    refine loop2_Z (P := fun (k66_ : Int32) (σ67_ : St) => Z Θ 6 0 0 (zQ Θ ρ) σ67_ 114 [(0, .ref (zA Θ 6)), (1, .int voter_a), (2, .int row1_), (3, .int y3_.1), (4, .int k66_)] []) ?_ fuelN (0 : Int32) y3_.2.2 h61_
    clear h61_
    intro rec63_ k66_ σ67_ h64_ h65_
    have K70_ : k66_ < y3_.1 → Z Θ 6 0 0 (zQ Θ ρ) σ67_ 120 [(0, .ref (zA Θ 6)), (1, .int voter_a), (2, .int row1_), (3, .int y3_.1), (4, .int k66_)] [] := by
      intro h73_
      rw [if_pos h73_] at h65_
      refine z_aload_n C 0 dX5_sortRank_120 rfl rfl ?_
      refine fg5_15 C hkd dX5_sortRank_121 ?_
      refine z_iload_n C 2 dX5_sortRank_124 rfl rfl ?_
      refine z_aload_n C 0 dX5_sortRank_125 rfl rfl ?_
      refine fg5_9 C hkd dX5_sortRank_126 ?_
      refine z_iload_n C 2 dX5_sortRank_129 rfl rfl ?_
      refine z_iload C 4 dX5_sortRank_130 rfl ?_
      refine z_iadd C dX5_sortRank_132 ?_
      obtain ⟨x74_, h75_, h65_⟩ := ob h65_
      refine z_ag C h75_ (kC_7 hkd) dX5_sortRank_133 ?_
      refine z_iadd C dX5_sortRank_134 ?_
      refine z_iload C 4 dX5_sortRank_135 rfl ?_
      obtain ⟨σ76_, h77_, h65_⟩ := ob h65_
      refine z_sa C h77_ (kC_8 hkd) dX5_sortRank_137 ?_
      obtain ⟨k78_, h79_, h65_⟩ := lt_ h65_
      refine z_inc C 4 dX5_sortRank_138 rfl ic_1 h79_ (Nat.le_of_ble_eq_true rfl) rfl ?_
      refine z_goto C 114 dX5_sortRank_141 (by decide) ?_
      refine Z.sub [1, 2, 3, 4, 0] rfl ?_
      exact h64_ _ _ h65_
    have K71_ : ¬ (k66_ < y3_.1) → Z Θ 6 0 0 (zQ Θ ρ) σ67_ 144 [(0, .ref (zA Θ 6)), (1, .int voter_a), (2, .int row1_), (3, .int y3_.1), (4, .int k66_)] [] := by
      intro h73_
      rw [if_neg h73_] at h65_
      cases h65_
      exact K62_
    refine z_iload C 4 dX5_sortRank_114 rfl ?_
    refine z_iload_n C 3 dX5_sortRank_116 rfl rfl ?_
    refine c_lt_f C 144 dX5_sortRank_117 (by decide) (fun h72_ => ?_) (fun h72_ => ?_)
    · exact K70_ h72_
    · exact K71_ h72_
  cases hf
  subst hρ
  exact z_vret C dX5_sortRank_144
theorem c5_sortRank {l : Launch} {kd : List KD} {w : Wp} {σ : St} {voter_a : Int32} (hkd : kd = kdC) (hi : zI kd w) {r : St} (hf : q5_sortRank σ voter_a = some r) : zM l kd w yX5_sortRank cX5_sortRank 6 none rm5_sortRank [.ref (w.2.2.1 6), .int voter_a] σ (none, r) := zM_of rfl hi (Nat.le_of_ble_eq_true rfl) (fun Θ hl hw C => by
  obtain ⟨Θ1, Θ2, Θ3, Θ4, Θ5⟩ := Θ
  cases hw
  exact p5_sortRank C hkd  hf rfl)
/-! LastLoaf$Village.runners -/
theorem dX10_runners_0 : decode cX10_runners 0 = .ok (.aload_n 0, 1) := by decide +kernel
theorem dX10_runners_1 : decode cX10_runners 1 = .ok (.getfield 44, 3) := by decide +kernel
theorem dX10_runners_4 : decode cX10_runners 4 = .ok (.aload_n 0, 1) := by decide +kernel
theorem dX10_runners_5 : decode cX10_runners 5 = .ok (.getfield 47, 3) := by decide +kernel
theorem dX10_runners_8 : decode cX10_runners 8 = .ok (.iconst (-1), 1) := by decide +kernel
theorem dX10_runners_9 : decode cX10_runners 9 = .ok (.ixor, 1) := by decide +kernel
theorem dX10_runners_10 : decode cX10_runners 10 = .ok (.iand, 1) := by decide +kernel
theorem dX10_runners_11 : decode cX10_runners 11 = .ok (.ireturn, 1) := by decide +kernel
def q10_runners (σ : St) (th : Nat) : Int32 :=
  (σ th 9) &&& ((σ th 10) ^^^ (-1))
abbrev rm10_runners : Room := { frames := 0, cells := 0, slots := 0, locals := 0 }
set_option maxHeartbeats 4000000 in
set_option maxRecDepth 100000 in
theorem p10_runners {Θ : Tz} {σ : St} {ρ : Option Value × St} (C : Zc Θ cX10_runners 1 RX10 (some .int) rm10_runners) (hkd : Θ.2.2.2.2.1 = kdC) {th : Nat} (hth : isV th) {r : Int32} (hf : q10_runners σ th = r) (hρ : ρ = (some (.int r), σ)) : Z Θ 1 0 0 (zQ Θ ρ) σ 0 [(0, .ref (zA Θ th))] [] := by
  unfold q10_runners at hf
  refine z_aload_n C 0 dX10_runners_0 rfl rfl ?_
  refine fg10_44 C hkd hth dX10_runners_1 ?_
  refine z_aload_n C 0 dX10_runners_4 rfl rfl ?_
  refine fg10_47 C hkd hth dX10_runners_5 ?_
  refine z_iconst (v := (-1)) C dX10_runners_8 ic_m1 ?_
  refine z_ixor C dX10_runners_9 ?_
  refine z_iand C dX10_runners_10 ?_
  subst hf
  subst hρ
  exact z_iret C dX10_runners_11
theorem c10_runners {l : Launch} {kd : List KD} {w : Wp} {σ : St} {th : Nat} (hkd : kd = kdC) (hi : zI kd w) (hth : isV th) : zM l kd w yX10_runners cX10_runners 1 (some .int) rm10_runners [.ref (w.2.2.1 th)] σ (some (.int (q10_runners σ th)), σ) := zM_of rfl hi (Nat.le_of_ble_eq_true rfl) (fun Θ hl hw C => by
  obtain ⟨Θ1, Θ2, Θ3, Θ4, Θ5⟩ := Θ
  cases hw
  exact p10_runners C hkd hth rfl rfl)
/-! LastLoaf$Poll.hold -/
theorem w_1_124 : Cond.fieldLink "LastLoaf$Poll" (43 : Nat) "LastLoaf$Village" "people" "I" ∈ TB := tb_in (lwt_1 (List.mem_of_getElem? (i := 124) (by decide +kernel))) rfl
theorem fg5_43 {Θ : Tz} {cc : ByteArray} {nL kc ks : Nat} {ret : Option FieldType} {rm : Room} {Q : State → Prop} {σ : St} {pc : Nat} {lv : List (Nat × Value)} {st : List Value} (C : Zc Θ cc nL RX5 ret rm) (hkd : Θ.2.2.2.2.1 = kdC) {th : Nat} (hth : isV th) (hd : decode cc pc = .ok (.getfield 43, 3)) (kk : Z Θ nL kc ks Q σ (pc + 3) lv (.int (σ th 8) :: st)) : Z Θ nL kc ks Q σ pc lv (.ref (zA Θ th) :: st) := z_get C inT10 th (kV_0 hkd hth) rfl 8 (by decide) w_1_124 rfl hd kk
theorem fp5_30 {Θ : Tz} {cc : ByteArray} {nL kc ks : Nat} {ret : Option FieldType} {rm : Room} {Q : State → Prop} {σ : St} {pc : Nat} {lv : List (Nat × Value)} {st : List Value} (C : Zc Θ cc nL RX5 ret rm) (hkd : Θ.2.2.2.2.1 = kdC) {x : Int32} {σ1 : St} (he : σ1 = up σ 6 6 x) (hd : decode cc pc = .ok (.putfield 30, 3)) (kk : Z Θ nL kc ks Q σ1 (pc + 3) lv st) : Z Θ nL kc ks Q σ pc lv (.int x :: .ref (zA Θ 6) :: st) := by subst he; exact z_put C inT5 tyX5_ok nmX5 6 (kC_6 hkd) rfl 6 (by decide) w_2_47 rfl rfl rfl rfl hd kk
theorem w_3_27 : Cond.code ({ cls := "LastLoaf$Village", name := "runners", desc := "()I" } : MethodName) prog_12_method_5_code (1 : Nat) (Option.some ClassFile.FieldType.int) ∈ TB := tb_in (lwt_3 (List.mem_of_getElem? (i := 27) (by decide +kernel))) rfl
theorem w_3_24 : Cond.methodLink "LastLoaf$Poll" (46 : Nat) ({ cls := "LastLoaf$Village", name := "runners", desc := "()I" } : MethodName) ∈ TB := tb_in (lwt_3 (List.mem_of_getElem? (i := 24) (by decide +kernel))) rfl
theorem w_3_25 : Cond.instanceMethod ({ cls := "LastLoaf$Village", name := "runners", desc := "()I" } : MethodName) ∈ TB := tb_in (lwt_3 (List.mem_of_getElem? (i := 25) (by decide +kernel))) rfl
theorem w_3_26 : Cond.selects "LastLoaf$Village" ({ cls := "LastLoaf$Village", name := "runners", desc := "()I" } : MethodName) ({ cls := "LastLoaf$Village", name := "runners", desc := "()I" } : MethodName) ∈ TB := tb_in (lwt_3 (List.mem_of_getElem? (i := 26) (by decide +kernel))) rfl
theorem cr5_46 {Θ : Tz} {cc : ByteArray} {nL kc ks : Nat} {ret : Option FieldType} {rm : Room} {Q : State → Prop} {σ : St} {pc : Nat} {lv : List (Nat × Value)} {st : List Value} (C : Zc Θ cc nL RX5 ret rm) (hkd : Θ.2.2.2.2.1 = kdC) {th : Nat} (hth : isV th) (hrm : rm10_runners.frames + 1 ≤ rm.frames ∧ 8 + (1 + 11) + rm10_runners.locals ≤ rm.locals) (hcat : (st.map fun v => v.category).sum ≤ 8) (hk : kc ≤ rm.cells ∧ ks ≤ rm.slots) (hd : decode cc pc = .ok (.invokevirtual 46, 3)) (kk : Z Θ nL kc ks Q σ (pc + 3) lv (.int (q10_runners σ th) :: st)) : Z Θ nL kc ks Q σ pc lv (.ref (zA Θ th) :: st) := z_callV C th [] (some (.int (q10_runners σ th)), σ) 0 (kV_0 hkd hth) rfl (c10_runners (th := th) hkd (zc_inj C) hth) w_3_27 w_3_24 w_3_25 w_3_26 w_1_3 ⟨rfl, rfl, hrm.1, hrm.2⟩ (by decide +kernel) rfl rfl hcat hk hd kk
theorem fp5_34 {Θ : Tz} {cc : ByteArray} {nL kc ks : Nat} {ret : Option FieldType} {rm : Room} {Q : State → Prop} {σ : St} {pc : Nat} {lv : List (Nat × Value)} {st : List Value} (C : Zc Θ cc nL RX5 ret rm) (hkd : Θ.2.2.2.2.1 = kdC) {x : Int32} {σ1 : St} (he : σ1 = up σ 6 7 x) (hd : decode cc pc = .ok (.putfield 34, 3)) (kk : Z Θ nL kc ks Q σ1 (pc + 3) lv st) : Z Θ nL kc ks Q σ pc lv (.int x :: .ref (zA Θ 6) :: st) := by subst he; exact z_put C inT5 tyX5_ok nmX5 6 (kC_6 hkd) rfl 7 (by decide) w_2_48 rfl rfl rfl rfl hd kk
theorem w_3_30 : Cond.code ({ cls := "java/lang/Integer", name := "bitCount", desc := "(I)I" } : MethodName) prog_22_method_49_code (1 : Nat) (Option.some ClassFile.FieldType.int) ∈ TB := tb_in (lwt_3 (List.mem_of_getElem? (i := 30) (by decide +kernel))) rfl
theorem w_3_28 : Cond.methodLink "LastLoaf$Poll" (49 : Nat) ({ cls := "java/lang/Integer", name := "bitCount", desc := "(I)I" } : MethodName) ∈ TB := tb_in (lwt_3 (List.mem_of_getElem? (i := 28) (by decide +kernel))) rfl
theorem w_3_29 : Cond.static ({ cls := "java/lang/Integer", name := "bitCount", desc := "(I)I" } : MethodName) ∈ TB := tb_in (lwt_3 (List.mem_of_getElem? (i := 29) (by decide +kernel))) rfl
theorem w_1_26 : Cond.initialized "java/lang/Integer" ∈ TB := tb_in (lwt_1 (List.mem_of_getElem? (i := 26) (by decide +kernel))) rfl
theorem w_2_50 : Cond.fieldLink "LastLoaf$Poll" (37 : Nat) "LastLoaf$Poll" "running" "I" ∈ TB := tb_in (lwt_2 (List.mem_of_getElem? (i := 50) (by decide +kernel))) rfl
theorem fp5_37 {Θ : Tz} {cc : ByteArray} {nL kc ks : Nat} {ret : Option FieldType} {rm : Room} {Q : State → Prop} {σ : St} {pc : Nat} {lv : List (Nat × Value)} {st : List Value} (C : Zc Θ cc nL RX5 ret rm) (hkd : Θ.2.2.2.2.1 = kdC) {x : Int32} {σ1 : St} (he : σ1 = up σ 6 8 x) (hd : decode cc pc = .ok (.putfield 37, 3)) (kk : Z Θ nL kc ks Q σ1 (pc + 3) lv st) : Z Θ nL kc ks Q σ pc lv (.int x :: .ref (zA Θ 6) :: st) := by subst he; exact z_put C inT5 tyX5_ok nmX5 6 (kC_6 hkd) rfl 8 (by decide) w_2_50 rfl rfl rfl rfl hd kk
theorem w_2_51 : Cond.fieldLink "LastLoaf$Poll" (40 : Nat) "LastLoaf$Poll" "voters" "I" ∈ TB := tb_in (lwt_2 (List.mem_of_getElem? (i := 51) (by decide +kernel))) rfl
theorem fp5_40 {Θ : Tz} {cc : ByteArray} {nL kc ks : Nat} {ret : Option FieldType} {rm : Room} {Q : State → Prop} {σ : St} {pc : Nat} {lv : List (Nat × Value)} {st : List Value} (C : Zc Θ cc nL RX5 ret rm) (hkd : Θ.2.2.2.2.1 = kdC) {x : Int32} {σ1 : St} (he : σ1 = up σ 6 9 x) (hd : decode cc pc = .ok (.putfield 40, 3)) (kk : Z Θ nL kc ks Q σ1 (pc + 3) lv st) : Z Θ nL kc ks Q σ pc lv (.int x :: .ref (zA Θ 6) :: st) := by subst he; exact z_put C inT5 tyX5_ok nmX5 6 (kC_6 hkd) rfl 9 (by decide) w_2_51 rfl rfl rfl rfl hd kk
theorem w_1_138 : Cond.fieldLink "LastLoaf$Poll" (55 : Nat) "LastLoaf$Village" "benched" "I" ∈ TB := tb_in (lwt_1 (List.mem_of_getElem? (i := 138) (by decide +kernel))) rfl
theorem fg5_55 {Θ : Tz} {cc : ByteArray} {nL kc ks : Nat} {ret : Option FieldType} {rm : Room} {Q : State → Prop} {σ : St} {pc : Nat} {lv : List (Nat × Value)} {st : List Value} (C : Zc Θ cc nL RX5 ret rm) (hkd : Θ.2.2.2.2.1 = kdC) {th : Nat} (hth : isV th) (hd : decode cc pc = .ok (.getfield 55, 3)) (kk : Z Θ nL kc ks Q σ (pc + 3) lv (.int (σ th 10) :: st)) : Z Θ nL kc ks Q σ pc lv (.ref (zA Θ th) :: st) := z_get C inT10 th (kV_0 hkd hth) rfl 10 (by decide) w_1_138 rfl hd kk
theorem w_3_40 : Cond.code ({ cls := "LastLoaf$Law", name := "keepsFromVoting", desc := "(LLastLoaf$Village;I)Z" } : MethodName) prog_4_method_5_code (3 : Nat) (Option.some ClassFile.FieldType.boolean) ∈ TB := tb_in (lwt_3 (List.mem_of_getElem? (i := 40) (by decide +kernel))) rfl
theorem w_3_37 : Cond.methodLink "LastLoaf$Poll" (62 : Nat) ({ cls := "LastLoaf$Law", name := "keepsFromVoting", desc := "(LLastLoaf$Village;I)Z" } : MethodName) ∈ TB := tb_in (lwt_3 (List.mem_of_getElem? (i := 37) (by decide +kernel))) rfl
theorem w_3_38 : Cond.instanceMethod ({ cls := "LastLoaf$Law", name := "keepsFromVoting", desc := "(LLastLoaf$Village;I)Z" } : MethodName) ∈ TB := tb_in (lwt_3 (List.mem_of_getElem? (i := 38) (by decide +kernel))) rfl
theorem w_3_39 : Cond.selects "LastLoaf$Law" ({ cls := "LastLoaf$Law", name := "keepsFromVoting", desc := "(LLastLoaf$Village;I)Z" } : MethodName) ({ cls := "LastLoaf$Law", name := "keepsFromVoting", desc := "(LLastLoaf$Village;I)Z" } : MethodName) ∈ TB := tb_in (lwt_3 (List.mem_of_getElem? (i := 39) (by decide +kernel))) rfl
theorem cr5_62 {Θ : Tz} {cc : ByteArray} {nL kc ks : Nat} {ret : Option FieldType} {rm : Room} {Q : State → Prop} {σ : St} {pc : Nat} {lv : List (Nat × Value)} {st : List Value} (C : Zc Θ cc nL RX5 ret rm) (hkd : Θ.2.2.2.2.1 = kdC) {th : Nat} {village_a : Nat} {voter_a : Int32} (hth : isLaw th) (h_village : isV village_a) {r : Bool × St} (hx : q2_keepsFromVoting σ th village_a voter_a = some r) (hrm : rm2_keepsFromVoting.frames + 1 ≤ rm.frames ∧ 8 + (3 + 11) + rm2_keepsFromVoting.locals ≤ rm.locals) (hcat : (st.map fun v => v.category).sum ≤ 8) (hk : kc ≤ rm.cells ∧ ks ≤ rm.slots) (hd : decode cc pc = .ok (.invokevirtual 62, 3)) (kk : Z Θ nL kc ks Q r.2 (pc + 3) lv (.int (b2i r.1) :: st)) : Z Θ nL kc ks Q σ pc lv (.int voter_a :: .ref (zA Θ village_a) :: .ref (zA Θ th) :: st) := z_callV C th [.ref (zA Θ village_a), .int voter_a] (some (.int (b2i r.1)), r.2) 2 (kLaw_0 hkd hth) rfl (c2_keepsFromVoting (th := th) (village_a := village_a) (voter_a := voter_a) hkd (zc_inj C) hth h_village hx) w_3_40 w_3_37 w_3_38 w_3_39 w_1_6 ⟨rfl, rfl, hrm.1, hrm.2⟩ (by decide +kernel) rfl rfl hcat hk hd kk
theorem fg5_40 {Θ : Tz} {cc : ByteArray} {nL kc ks : Nat} {ret : Option FieldType} {rm : Room} {Q : State → Prop} {σ : St} {pc : Nat} {lv : List (Nat × Value)} {st : List Value} (C : Zc Θ cc nL RX5 ret rm) (hkd : Θ.2.2.2.2.1 = kdC) (hd : decode cc pc = .ok (.getfield 40, 3)) (kk : Z Θ nL kc ks Q σ (pc + 3) lv (.int (σ 6 9) :: st)) : Z Θ nL kc ks Q σ pc lv (.ref (zA Θ 6) :: st) := z_get C inT5 6 (kC_6 hkd) rfl 9 (by decide) w_2_51 rfl hd kk
theorem w_3_64 : Cond.code ({ cls := "LastLoaf$Law", name := "favourOf", desc := "(LLastLoaf$Village;II)I" } : MethodName) prog_4_method_4_code (5 : Nat) (Option.some ClassFile.FieldType.int) ∈ TB := tb_in (lwt_3 (List.mem_of_getElem? (i := 64) (by decide +kernel))) rfl
theorem w_3_61 : Cond.methodLink "LastLoaf$Poll" (68 : Nat) ({ cls := "LastLoaf$Law", name := "favourOf", desc := "(LLastLoaf$Village;II)I" } : MethodName) ∈ TB := tb_in (lwt_3 (List.mem_of_getElem? (i := 61) (by decide +kernel))) rfl
theorem w_3_62 : Cond.instanceMethod ({ cls := "LastLoaf$Law", name := "favourOf", desc := "(LLastLoaf$Village;II)I" } : MethodName) ∈ TB := tb_in (lwt_3 (List.mem_of_getElem? (i := 62) (by decide +kernel))) rfl
theorem w_3_63 : Cond.selects "LastLoaf$Law" ({ cls := "LastLoaf$Law", name := "favourOf", desc := "(LLastLoaf$Village;II)I" } : MethodName) ({ cls := "LastLoaf$Law", name := "favourOf", desc := "(LLastLoaf$Village;II)I" } : MethodName) ∈ TB := tb_in (lwt_3 (List.mem_of_getElem? (i := 63) (by decide +kernel))) rfl
theorem cr5_68 {Θ : Tz} {cc : ByteArray} {nL kc ks : Nat} {ret : Option FieldType} {rm : Room} {Q : State → Prop} {σ : St} {pc : Nat} {lv : List (Nat × Value)} {st : List Value} (C : Zc Θ cc nL RX5 ret rm) (hkd : Θ.2.2.2.2.1 = kdC) {th : Nat} {village_a : Nat} {voter_a : Int32} {other_a : Int32} (hth : isLaw th) (h_village : isV village_a) {r : Int32 × St} (hx : q2_favourOf σ th village_a voter_a other_a = some r) (hrm : rm2_favourOf.frames + 1 ≤ rm.frames ∧ 8 + (5 + 11) + rm2_favourOf.locals ≤ rm.locals) (hcat : (st.map fun v => v.category).sum ≤ 8) (hk : kc ≤ rm.cells ∧ ks ≤ rm.slots) (hd : decode cc pc = .ok (.invokevirtual 68, 3)) (kk : Z Θ nL kc ks Q r.2 (pc + 3) lv (.int r.1 :: st)) : Z Θ nL kc ks Q σ pc lv (.int other_a :: .int voter_a :: .ref (zA Θ village_a) :: .ref (zA Θ th) :: st) := z_callV C th [.ref (zA Θ village_a), .int voter_a, .int other_a] (some (.int r.1), r.2) 3 (kLaw_0 hkd hth) rfl (c2_favourOf (th := th) (village_a := village_a) (voter_a := voter_a) (other_a := other_a) hkd (zc_inj C) hth h_village hx) w_3_64 w_3_61 w_3_62 w_3_63 w_1_6 ⟨rfl, rfl, hrm.1, hrm.2⟩ (by decide +kernel) rfl rfl hcat hk hd kk
theorem w_3_68 : Cond.code ({ cls := "LastLoaf$Poll", name := "sortRank", desc := "(I)V" } : MethodName) prog_7_method_3_code (6 : Nat) (Option.none : Option ClassFile.FieldType) ∈ TB := tb_in (lwt_3 (List.mem_of_getElem? (i := 68) (by decide +kernel))) rfl
theorem w_1_9 : Cond.initialized "LastLoaf$Poll" ∈ TB := tb_in (lwt_1 (List.mem_of_getElem? (i := 9) (by decide +kernel))) rfl
theorem w_3_65 : Cond.methodLink "LastLoaf$Poll" (72 : Nat) ({ cls := "LastLoaf$Poll", name := "sortRank", desc := "(I)V" } : MethodName) ∈ TB := tb_in (lwt_3 (List.mem_of_getElem? (i := 65) (by decide +kernel))) rfl
theorem w_3_66 : Cond.instanceMethod ({ cls := "LastLoaf$Poll", name := "sortRank", desc := "(I)V" } : MethodName) ∈ TB := tb_in (lwt_3 (List.mem_of_getElem? (i := 66) (by decide +kernel))) rfl
theorem w_3_67 : Cond.selects "LastLoaf$Poll" ({ cls := "LastLoaf$Poll", name := "sortRank", desc := "(I)V" } : MethodName) ({ cls := "LastLoaf$Poll", name := "sortRank", desc := "(I)V" } : MethodName) ∈ TB := tb_in (lwt_3 (List.mem_of_getElem? (i := 67) (by decide +kernel))) rfl
theorem cr5_72 {Θ : Tz} {cc : ByteArray} {nL kc ks : Nat} {ret : Option FieldType} {rm : Room} {Q : State → Prop} {σ : St} {pc : Nat} {lv : List (Nat × Value)} {st : List Value} (C : Zc Θ cc nL RX5 ret rm) (hkd : Θ.2.2.2.2.1 = kdC) {voter_a : Int32} {r : St} (hx : q5_sortRank σ voter_a = some r) (hrm : rm5_sortRank.frames + 1 ≤ rm.frames ∧ 8 + (6 + 11) + rm5_sortRank.locals ≤ rm.locals) (hcat : (st.map fun v => v.category).sum ≤ 8) (hk : kc ≤ rm.cells ∧ ks ≤ rm.slots) (hd : decode cc pc = .ok (.invokevirtual 72, 3)) (kk : Z Θ nL kc ks Q r (pc + 3) lv st) : Z Θ nL kc ks Q σ pc lv (.int voter_a :: .ref (zA Θ 6) :: st) := z_callV C 6 [.int voter_a] (none, r) 1 (kC_6 hkd) rfl (c5_sortRank (voter_a := voter_a) hkd (zc_inj C) hx) w_3_68 w_3_65 w_3_66 w_3_67 w_1_9 ⟨rfl, rfl, hrm.1, hrm.2⟩ (by decide +kernel) rfl rfl hcat hk hd kk
theorem dX5_hold_0 : decode cX5_hold 0 = .ok (.aload_n 0, 1) := by decide +kernel
theorem dX5_hold_1 : decode cX5_hold 1 = .ok (.aload_n 1, 1) := by decide +kernel
theorem dX5_hold_2 : decode cX5_hold 2 = .ok (.getfield 43, 3) := by decide +kernel
theorem dX5_hold_5 : decode cX5_hold 5 = .ok (.putfield 30, 3) := by decide +kernel
theorem dX5_hold_8 : decode cX5_hold 8 = .ok (.aload_n 0, 1) := by decide +kernel
theorem dX5_hold_9 : decode cX5_hold 9 = .ok (.aload_n 1, 1) := by decide +kernel
theorem dX5_hold_10 : decode cX5_hold 10 = .ok (.invokevirtual 46, 3) := by decide +kernel
theorem dX5_hold_13 : decode cX5_hold 13 = .ok (.putfield 34, 3) := by decide +kernel
theorem dX5_hold_16 : decode cX5_hold 16 = .ok (.aload_n 0, 1) := by decide +kernel
theorem dX5_hold_17 : decode cX5_hold 17 = .ok (.aload_n 0, 1) := by decide +kernel
theorem dX5_hold_18 : decode cX5_hold 18 = .ok (.getfield 34, 3) := by decide +kernel
theorem dX5_hold_21 : decode cX5_hold 21 = .ok (.invokestatic 49, 3) := by decide +kernel
theorem dX5_hold_24 : decode cX5_hold 24 = .ok (.putfield 37, 3) := by decide +kernel
theorem dX5_hold_27 : decode cX5_hold 27 = .ok (.aload_n 0, 1) := by decide +kernel
theorem dX5_hold_28 : decode cX5_hold 28 = .ok (.iconst 0, 1) := by decide +kernel
theorem dX5_hold_29 : decode cX5_hold 29 = .ok (.putfield 40, 3) := by decide +kernel
theorem dX5_hold_32 : decode cX5_hold 32 = .ok (.iconst 0, 1) := by decide +kernel
theorem dX5_hold_33 : decode cX5_hold 33 = .ok (.istore_n 3, 1) := by decide +kernel
theorem dX5_hold_34 : decode cX5_hold 34 = .ok (.iload_n 3, 1) := by decide +kernel
theorem dX5_hold_35 : decode cX5_hold 35 = .ok (.aload_n 0, 1) := by decide +kernel
theorem dX5_hold_36 : decode cX5_hold 36 = .ok (.getfield 30, 3) := by decide +kernel
theorem dX5_hold_39 : decode cX5_hold 39 = .ok (.if_icmp .ge 95, 3) := by decide +kernel
theorem dX5_hold_42 : decode cX5_hold 42 = .ok (.aload_n 1, 1) := by decide +kernel
theorem dX5_hold_43 : decode cX5_hold 43 = .ok (.getfield 55, 3) := by decide +kernel
theorem dX5_hold_46 : decode cX5_hold 46 = .ok (.iload_n 3, 1) := by decide +kernel
theorem dX5_hold_47 : decode cX5_hold 47 = .ok (.invokestatic 58, 3) := by decide +kernel
theorem dX5_hold_50 : decode cX5_hold 50 = .ok (.ifCond .ne 78, 3) := by decide +kernel
theorem dX5_hold_53 : decode cX5_hold 53 = .ok (.aload_n 2, 1) := by decide +kernel
theorem dX5_hold_54 : decode cX5_hold 54 = .ok (.aload_n 1, 1) := by decide +kernel
theorem dX5_hold_55 : decode cX5_hold 55 = .ok (.iload_n 3, 1) := by decide +kernel
theorem dX5_hold_56 : decode cX5_hold 56 = .ok (.invokevirtual 62, 3) := by decide +kernel
theorem dX5_hold_59 : decode cX5_hold 59 = .ok (.ifCond .ne 69, 3) := by decide +kernel
theorem dX5_hold_62 : decode cX5_hold 62 = .ok (.aload_n 0, 1) := by decide +kernel
theorem dX5_hold_63 : decode cX5_hold 63 = .ok (.dup, 1) := by decide +kernel
theorem dX5_hold_64 : decode cX5_hold 64 = .ok (.getfield 40, 3) := by decide +kernel
theorem dX5_hold_67 : decode cX5_hold 67 = .ok (.iconst 1, 1) := by decide +kernel
theorem dX5_hold_68 : decode cX5_hold 68 = .ok (.iload_n 3, 1) := by decide +kernel
theorem dX5_hold_69 : decode cX5_hold 69 = .ok (.ishl, 1) := by decide +kernel
theorem dX5_hold_70 : decode cX5_hold 70 = .ok (.ior, 1) := by decide +kernel
theorem dX5_hold_71 : decode cX5_hold 71 = .ok (.putfield 40, 3) := by decide +kernel
theorem dX5_hold_74 : decode cX5_hold 74 = .ok (.iconst 0, 1) := by decide +kernel
theorem dX5_hold_75 : decode cX5_hold 75 = .ok (.istore 4, 2) := by decide +kernel
theorem dX5_hold_77 : decode cX5_hold 77 = .ok (.iload 4, 2) := by decide +kernel
theorem dX5_hold_79 : decode cX5_hold 79 = .ok (.aload_n 0, 1) := by decide +kernel
theorem dX5_hold_80 : decode cX5_hold 80 = .ok (.getfield 30, 3) := by decide +kernel
theorem dX5_hold_83 : decode cX5_hold 83 = .ok (.if_icmp .ge 40, 3) := by decide +kernel
theorem dX5_hold_86 : decode cX5_hold 86 = .ok (.aload_n 0, 1) := by decide +kernel
theorem dX5_hold_87 : decode cX5_hold 87 = .ok (.getfield 18, 3) := by decide +kernel
theorem dX5_hold_90 : decode cX5_hold 90 = .ok (.iload 4, 2) := by decide +kernel
theorem dX5_hold_92 : decode cX5_hold 92 = .ok (.aload_n 0, 1) := by decide +kernel
theorem dX5_hold_93 : decode cX5_hold 93 = .ok (.getfield 34, 3) := by decide +kernel
theorem dX5_hold_96 : decode cX5_hold 96 = .ok (.iload 4, 2) := by decide +kernel
theorem dX5_hold_98 : decode cX5_hold 98 = .ok (.invokestatic 58, 3) := by decide +kernel
theorem dX5_hold_101 : decode cX5_hold 101 = .ok (.ifCond .eq 14, 3) := by decide +kernel
theorem dX5_hold_104 : decode cX5_hold 104 = .ok (.aload_n 2, 1) := by decide +kernel
theorem dX5_hold_105 : decode cX5_hold 105 = .ok (.aload_n 1, 1) := by decide +kernel
theorem dX5_hold_106 : decode cX5_hold 106 = .ok (.iload_n 3, 1) := by decide +kernel
theorem dX5_hold_107 : decode cX5_hold 107 = .ok (.iload 4, 2) := by decide +kernel
theorem dX5_hold_109 : decode cX5_hold 109 = .ok (.invokevirtual 68, 3) := by decide +kernel
theorem dX5_hold_112 : decode cX5_hold 112 = .ok (.goto 4, 3) := by decide +kernel
theorem dX5_hold_115 : decode cX5_hold 115 = .ok (.iconst 0, 1) := by decide +kernel
theorem dX5_hold_116 : decode cX5_hold 116 = .ok (.iastore, 1) := by decide +kernel
theorem dX5_hold_117 : decode cX5_hold 117 = .ok (.iinc 4 1, 3) := by decide +kernel
theorem dX5_hold_120 : decode cX5_hold 120 = .ok (.goto (-43), 3) := by decide +kernel
theorem dX5_hold_123 : decode cX5_hold 123 = .ok (.aload_n 0, 1) := by decide +kernel
theorem dX5_hold_124 : decode cX5_hold 124 = .ok (.iload_n 3, 1) := by decide +kernel
theorem dX5_hold_125 : decode cX5_hold 125 = .ok (.invokevirtual 72, 3) := by decide +kernel
theorem dX5_hold_128 : decode cX5_hold 128 = .ok (.iinc 3 1, 3) := by decide +kernel
theorem dX5_hold_131 : decode cX5_hold 131 = .ok (.goto (-97), 3) := by decide +kernel
theorem dX5_hold_134 : decode cX5_hold 134 = .ok (.return_, 1) := by decide +kernel
def q5_hold (σ : St) (village_a : Nat) (law_a : Nat) : Option St :=
  lt (up σ 6 6 (σ village_a 8)) fun σ1_ =>
  lt (up σ1_ 6 7 (q10_runners σ1_ village_a)) fun σ3_ =>
  lt (up σ3_ 6 8 (bcount (σ3_ 6 7))) fun σ5_ =>
  lt (up σ5_ 6 9 0) fun σ7_ =>
  Option.bind (loop2 (fun rec12_ (v15_ : Int32) (σ16_ : St) =>
  if v15_ < (σ16_ 6 6) then
  Option.bind (Option.bind (if q11_isIn (σ16_ village_a 10) v15_ = true then (some (false, σ16_)) else (Option.bind (q2_keepsFromVoting σ16_ law_a village_a v15_) fun x31_ =>
  if x31_.1 = true then (some (false, x31_.2)) else (some (true, x31_.2)))) fun t28_ =>
  if t28_.1 = true then (lt (up t28_.2 6 9 ((t28_.2 6 9) ||| (shl 1 v15_))) fun σ35_ =>
  Option.bind (loop2 (fun rec40_ (r43_ : Int32) (σ44_ : St) =>
  if r43_ < (σ44_ 6 6) then
  Option.bind (if q11_isIn (σ44_ 6 7) r43_ = true then (Option.bind (q2_favourOf σ44_ law_a village_a v15_ r43_) fun x57_ =>
  some (x57_.1, x57_.2)) else (some ((0 : Int32), σ44_))) fun x51_ =>
  Option.bind (sa x51_.2 9 6 r43_ x51_.1) fun σ60_ =>
  lt (r43_ + 1) fun r62_ =>
  rec40_ r62_ σ60_
  else (some (r43_, σ44_))) fuelN (0 : Int32) σ35_) fun y37_ =>
  Option.bind (q5_sortRank y37_.2 v15_) fun x64_ =>
  some (x64_)) else (some (t28_.2))) fun y23_ =>
  lt (v15_ + 1) fun v66_ =>
  rec12_ v66_ y23_
  else (some (v15_, σ16_))) fuelN (0 : Int32) σ7_) fun y9_ =>
  some y9_.2
abbrev rm5_hold : Room := { frames := 3, cells := 0, slots := 0, locals := 72 }
set_option maxHeartbeats 4000000 in
set_option maxRecDepth 100000 in
theorem p5_hold {Θ : Tz} {σ : St} {ρ : Option Value × St} (C : Zc Θ cX5_hold 5 RX5 none rm5_hold) (hkd : Θ.2.2.2.2.1 = kdC) {village_a : Nat} {law_a : Nat} (h_village : isV village_a) (h_law : isLaw law_a) {r : St} (hf : q5_hold σ village_a law_a = some r) (hρ : ρ = (none, r)) : Z Θ 5 0 0 (zQ Θ ρ) σ 0 [(0, .ref (zA Θ 6)), (1, .ref (zA Θ village_a)), (2, .ref (zA Θ law_a))] [] := by
  unfold q5_hold at hf
  refine z_aload_n C 0 dX5_hold_0 rfl rfl ?_
  refine z_aload_n C 1 dX5_hold_1 rfl rfl ?_
  refine fg5_43 C hkd h_village dX5_hold_2 ?_
  obtain ⟨σ1_, h2_, hf⟩ := lt_ hf
  refine fp5_30 C hkd h2_ dX5_hold_5 ?_
  refine z_aload_n C 0 dX5_hold_8 rfl rfl ?_
  refine z_aload_n C 1 dX5_hold_9 rfl rfl ?_
  refine cr5_46 (th := village_a) C hkd h_village ⟨(Nat.le_of_ble_eq_true rfl), (Nat.le_of_ble_eq_true rfl)⟩ (Nat.le_of_ble_eq_true rfl) ⟨Nat.zero_le _, Nat.zero_le _⟩ dX5_hold_10 ?_
  obtain ⟨σ3_, h4_, hf⟩ := lt_ hf
  refine fp5_34 C hkd h4_ dX5_hold_13 ?_
  refine z_aload_n C 0 dX5_hold_16 rfl rfl ?_
  refine z_aload_n C 0 dX5_hold_17 rfl rfl ?_
  refine fg5_34 C hkd dX5_hold_18 ?_
  refine z_callS C [.int (σ3_ 6 7)] (some (.int (bcount (σ3_ 6 7))), σ3_) 1 (cJ_bitCount (zc_inj C)) w_3_30 w_3_28 w_3_29 w_1_26 ⟨rfl, rfl, (Nat.le_of_ble_eq_true rfl), (Nat.le_of_ble_eq_true rfl)⟩ (by decide +kernel) rfl rfl (Nat.le_of_ble_eq_true rfl) ⟨Nat.zero_le _, Nat.zero_le _⟩ dX5_hold_21 ?_
  obtain ⟨σ5_, h6_, hf⟩ := lt_ hf
  refine fp5_37 C hkd h6_ dX5_hold_24 ?_
  refine z_aload_n C 0 dX5_hold_27 rfl rfl ?_
  refine z_iconst (v := 0) C dX5_hold_28 ic_0 ?_
  obtain ⟨σ7_, h8_, hf⟩ := lt_ hf
  refine fp5_40 C hkd h8_ dX5_hold_29 ?_
  refine z_iconst (v := 0) C dX5_hold_32 ic_0 ?_
  refine z_istN C dX5_hold_33 rfl rfl (Nat.le_of_ble_eq_true rfl) rfl ?_
  refine Z.sub [1, 2, 3, 0] rfl ?_
  obtain ⟨y9_, h10_, hf⟩ := ob hf
  suffices K11_ : Z Θ 5 0 0 (zQ Θ ρ) y9_.2 134 [(0, .ref (zA Θ 6)), (1, .ref (zA Θ village_a)), (2, .ref (zA Θ law_a)), (3, .int y9_.1)] [] by
    refine loop2_Z (P := fun (v15_ : Int32) (σ16_ : St) => Z Θ 5 0 0 (zQ Θ ρ) σ16_ 34 [(0, .ref (zA Θ 6)), (1, .ref (zA Θ village_a)), (2, .ref (zA Θ law_a)), (3, .int v15_)] []) ?_ fuelN (0 : Int32) σ7_ h10_
    clear h10_
    intro rec12_ v15_ σ16_ h13_ h14_
    have K19_ : v15_ < (σ16_ 6 6) → Z Θ 5 0 0 (zQ Θ ρ) σ16_ 42 [(0, .ref (zA Θ 6)), (1, .ref (zA Θ village_a)), (2, .ref (zA Θ law_a)), (3, .int v15_)] [] := by
      intro h22_
      rw [if_pos h22_] at h14_
      obtain ⟨y23_, h24_, h14_⟩ := ob h14_
      suffices K25_ : Z Θ 5 0 0 (zQ Θ ρ) y23_ 128 [(0, .ref (zA Θ 6)), (1, .ref (zA Θ village_a)), (2, .ref (zA Θ law_a)), (3, .int v15_)] [] by
        obtain ⟨t28_, h29_, h24_⟩ := ob h24_
        have K26_ : t28_.1 = true → Z Θ 5 0 0 (zQ Θ ρ) t28_.2 62 [(0, .ref (zA Θ 6)), (1, .ref (zA Θ village_a)), (2, .ref (zA Θ law_a)), (3, .int v15_)] [] := by
          intro h34_
          rw [if_pos h34_] at h24_
          refine z_aload_n C 0 dX5_hold_62 rfl rfl ?_
          refine z_dup C dX5_hold_63 rfl ?_
          refine fg5_40 C hkd dX5_hold_64 ?_
          refine z_iconst (v := 1) C dX5_hold_67 ic_1 ?_
          refine z_iload_n C 3 dX5_hold_68 rfl rfl ?_
          refine z_shl C dX5_hold_69 ?_
          refine z_ior C dX5_hold_70 ?_
          obtain ⟨σ35_, h36_, h24_⟩ := lt_ h24_
          refine fp5_40 C hkd h36_ dX5_hold_71 ?_
          refine z_iconst (v := 0) C dX5_hold_74 ic_0 ?_
          refine z_ist C dX5_hold_75 rfl (Nat.le_of_ble_eq_true rfl) rfl ?_
          refine Z.sub [1, 2, 3, 4, 0] rfl ?_
          obtain ⟨y37_, h38_, h24_⟩ := ob h24_
          suffices K39_ : Z Θ 5 0 0 (zQ Θ ρ) y37_.2 123 [(0, .ref (zA Θ 6)), (1, .ref (zA Θ village_a)), (2, .ref (zA Θ law_a)), (3, .int v15_), (4, .int y37_.1)] [] by
            refine loop2_Z (P := fun (r43_ : Int32) (σ44_ : St) => Z Θ 5 0 0 (zQ Θ ρ) σ44_ 77 [(0, .ref (zA Θ 6)), (1, .ref (zA Θ village_a)), (2, .ref (zA Θ law_a)), (3, .int v15_), (4, .int r43_)] []) ?_ fuelN (0 : Int32) σ35_ h38_
            clear h38_
            intro rec40_ r43_ σ44_ h41_ h42_
            have K47_ : r43_ < (σ44_ 6 6) → Z Θ 5 0 0 (zQ Θ ρ) σ44_ 86 [(0, .ref (zA Θ 6)), (1, .ref (zA Θ village_a)), (2, .ref (zA Θ law_a)), (3, .int v15_), (4, .int r43_)] [] := by
              intro h50_
              rw [if_pos h50_] at h42_
              refine z_aload_n C 0 dX5_hold_86 rfl rfl ?_
              refine fg5_18 C hkd dX5_hold_87 ?_
              refine z_iload C 4 dX5_hold_90 rfl ?_
              obtain ⟨x51_, h52_, h42_⟩ := ob h42_
              suffices K53_ : Z Θ 5 0 0 (zQ Θ ρ) x51_.2 116 [(0, .ref (zA Θ 6)), (1, .ref (zA Θ village_a)), (2, .ref (zA Θ law_a)), (3, .int v15_), (4, .int r43_)] [.int x51_.1, .int r43_, .ref (zA Θ 9)] by
                have K54_ : q11_isIn (σ44_ 6 7) r43_ = true → Z Θ 5 0 0 (zQ Θ ρ) σ44_ 104 [(0, .ref (zA Θ 6)), (1, .ref (zA Θ village_a)), (2, .ref (zA Θ law_a)), (3, .int v15_), (4, .int r43_)] [.int r43_, .ref (zA Θ 9)] := by
                  intro h59_
                  rw [if_pos h59_] at h52_
                  refine z_aload_n C 2 dX5_hold_104 rfl rfl ?_
                  refine z_aload_n C 1 dX5_hold_105 rfl rfl ?_
                  refine z_iload_n C 3 dX5_hold_106 rfl rfl ?_
                  refine z_iload C 4 dX5_hold_107 rfl ?_
                  obtain ⟨x57_, h58_, h52_⟩ := ob h52_
                  refine cr5_68 (th := law_a) (village_a := village_a) (voter_a := v15_) (other_a := r43_) C hkd h_law h_village h58_ ⟨(Nat.le_of_ble_eq_true rfl), (Nat.le_of_ble_eq_true rfl)⟩ (Nat.le_of_ble_eq_true rfl) ⟨Nat.zero_le _, Nat.zero_le _⟩ dX5_hold_109 ?_
                  refine z_goto C 116 dX5_hold_112 (by decide) ?_
                  cases h52_
                  exact K53_
                have K55_ : ¬ (q11_isIn (σ44_ 6 7) r43_ = true) → Z Θ 5 0 0 (zQ Θ ρ) σ44_ 115 [(0, .ref (zA Θ 6)), (1, .ref (zA Θ village_a)), (2, .ref (zA Θ law_a)), (3, .int v15_), (4, .int r43_)] [.int r43_, .ref (zA Θ 9)] := by
                  intro h59_
                  rw [if_neg h59_] at h52_
                  refine z_iconst (v := 0) C dX5_hold_115 ic_0 ?_
                  cases h52_
                  exact K53_
                refine z_aload_n C 0 dX5_hold_92 rfl rfl ?_
                refine fg5_34 C hkd dX5_hold_93 ?_
                refine z_iload C 4 dX5_hold_96 rfl ?_
                refine cr5_58 (set_a := (σ44_ 6 7)) (person_a := r43_) C hkd  ⟨(Nat.le_of_ble_eq_true rfl), (Nat.le_of_ble_eq_true rfl)⟩ (Nat.le_of_ble_eq_true rfl) ⟨Nat.zero_le _, Nat.zero_le _⟩ dX5_hold_98 ?_
                refine cb_f C 115 dX5_hold_101 (by decide) (fun h56_ => ?_) (fun h56_ => ?_)
                · exact K54_ h56_
                · exact K55_ h56_
              obtain ⟨σ60_, h61_, h42_⟩ := ob h42_
              refine z_sa C h61_ (kC_9 hkd) dX5_hold_116 ?_
              obtain ⟨r62_, h63_, h42_⟩ := lt_ h42_
              refine z_inc C 4 dX5_hold_117 rfl ic_1 h63_ (Nat.le_of_ble_eq_true rfl) rfl ?_
              refine z_goto C 77 dX5_hold_120 (by decide) ?_
              refine Z.sub [1, 2, 3, 4, 0] rfl ?_
              exact h41_ _ _ h42_
            have K48_ : ¬ (r43_ < (σ44_ 6 6)) → Z Θ 5 0 0 (zQ Θ ρ) σ44_ 123 [(0, .ref (zA Θ 6)), (1, .ref (zA Θ village_a)), (2, .ref (zA Θ law_a)), (3, .int v15_), (4, .int r43_)] [] := by
              intro h50_
              rw [if_neg h50_] at h42_
              cases h42_
              exact K39_
            refine z_iload C 4 dX5_hold_77 rfl ?_
            refine z_aload_n C 0 dX5_hold_79 rfl rfl ?_
            refine fg5_30 C hkd dX5_hold_80 ?_
            refine c_lt_f C 123 dX5_hold_83 (by decide) (fun h49_ => ?_) (fun h49_ => ?_)
            · exact K47_ h49_
            · exact K48_ h49_
          refine z_aload_n C 0 dX5_hold_123 rfl rfl ?_
          refine z_iload_n C 3 dX5_hold_124 rfl rfl ?_
          obtain ⟨x64_, h65_, h24_⟩ := ob h24_
          refine cr5_72 (voter_a := v15_) C hkd  h65_ ⟨(Nat.le_of_ble_eq_true rfl), (Nat.le_of_ble_eq_true rfl)⟩ (Nat.le_of_ble_eq_true rfl) ⟨Nat.zero_le _, Nat.zero_le _⟩ dX5_hold_125 ?_
          cases h24_
          refine Z.sub [0, 1, 2, 3] rfl ?_
          exact K25_
        have K27_ : ¬ (t28_.1 = true) → Z Θ 5 0 0 (zQ Θ ρ) t28_.2 128 [(0, .ref (zA Θ 6)), (1, .ref (zA Θ village_a)), (2, .ref (zA Θ law_a)), (3, .int v15_)] [] := by
          intro h34_
          rw [if_neg h34_] at h24_
          cases h24_
          exact K25_
        refine z_aload_n C 1 dX5_hold_42 rfl rfl ?_
        refine fg5_55 C hkd h_village dX5_hold_43 ?_
        refine z_iload_n C 3 dX5_hold_46 rfl rfl ?_
        refine cr5_58 (set_a := (σ16_ village_a 10)) (person_a := v15_) C hkd  ⟨(Nat.le_of_ble_eq_true rfl), (Nat.le_of_ble_eq_true rfl)⟩ (Nat.le_of_ble_eq_true rfl) ⟨Nat.zero_le _, Nat.zero_le _⟩ dX5_hold_47 ?_
        refine cb_t C 128 dX5_hold_50 (by decide) (fun h30_ => ?_) (fun h30_ => ?_)
        · rw [if_pos h30_] at h29_
          cases h29_
          exact K27_ Bool.false_ne_true
        · rw [if_neg h30_] at h29_
          refine z_aload_n C 2 dX5_hold_53 rfl rfl ?_
          refine z_aload_n C 1 dX5_hold_54 rfl rfl ?_
          refine z_iload_n C 3 dX5_hold_55 rfl rfl ?_
          obtain ⟨x31_, h32_, h29_⟩ := ob h29_
          refine cr5_62 (th := law_a) (village_a := village_a) (voter_a := v15_) C hkd h_law h_village h32_ ⟨(Nat.le_of_ble_eq_true rfl), (Nat.le_of_ble_eq_true rfl)⟩ (Nat.le_of_ble_eq_true rfl) ⟨Nat.zero_le _, Nat.zero_le _⟩ dX5_hold_56 ?_
          refine cb_t C 128 dX5_hold_59 (by decide) (fun h33_ => ?_) (fun h33_ => ?_)
          · rw [if_pos h33_] at h29_
            cases h29_
            exact K27_ Bool.false_ne_true
          · rw [if_neg h33_] at h29_
            cases h29_
            exact K26_ rfl
      obtain ⟨v66_, h67_, h14_⟩ := lt_ h14_
      refine z_inc C 3 dX5_hold_128 rfl ic_1 h67_ (Nat.le_of_ble_eq_true rfl) rfl ?_
      refine z_goto C 34 dX5_hold_131 (by decide) ?_
      refine Z.sub [1, 2, 3, 0] rfl ?_
      exact h13_ _ _ h14_
    have K20_ : ¬ (v15_ < (σ16_ 6 6)) → Z Θ 5 0 0 (zQ Θ ρ) σ16_ 134 [(0, .ref (zA Θ 6)), (1, .ref (zA Θ village_a)), (2, .ref (zA Θ law_a)), (3, .int v15_)] [] := by
      intro h22_
      rw [if_neg h22_] at h14_
      cases h14_
      exact K11_
    refine z_iload_n C 3 dX5_hold_34 rfl rfl ?_
    refine z_aload_n C 0 dX5_hold_35 rfl rfl ?_
    refine fg5_30 C hkd dX5_hold_36 ?_
    refine c_lt_f C 134 dX5_hold_39 (by decide) (fun h21_ => ?_) (fun h21_ => ?_)
    · exact K19_ h21_
    · exact K20_ h21_
  cases hf
  subst hρ
  exact z_vret C dX5_hold_134
theorem c5_hold {l : Launch} {kd : List KD} {w : Wp} {σ : St} {village_a : Nat} {law_a : Nat} (hkd : kd = kdC) (hi : zI kd w) (h_village : isV village_a) (h_law : isLaw law_a) {r : St} (hf : q5_hold σ village_a law_a = some r) : zM l kd w yX5_hold cX5_hold 5 none rm5_hold [.ref (w.2.2.1 6), .ref (w.2.2.1 village_a), .ref (w.2.2.1 law_a)] σ (none, r) := zM_of rfl hi (Nat.le_of_ble_eq_true rfl) (fun Θ hl hw C => by
  obtain ⟨Θ1, Θ2, Θ3, Θ4, Θ5⟩ := Θ
  cases hw
  exact p5_hold C hkd h_village h_law hf rfl)
/-! LastLoaf.pollNow -/
theorem w_2_196 : Cond.fieldLink "LastLoaf" (61 : Nat) "LastLoaf" "poll" "LLastLoaf$Poll;" ∈ TB := tb_in (lwt_2 (List.mem_of_getElem? (i := 196) (by decide +kernel))) rfl
theorem fg11_61 {Θ : Tz} {cc : ByteArray} {nL kc ks : Nat} {ret : Option FieldType} {rm : Room} {Q : State → Prop} {σ : St} {pc : Nat} {lv : List (Nat × Value)} {st : List Value} (C : Zc Θ cc nL RX11 ret rm) (hkd : Θ.2.2.2.2.1 = kdC) (hd : decode cc pc = .ok (.getfield 61, 3)) (kk : Z Θ nL kc ks Q σ (pc + 3) lv (.ref (zA Θ 6) :: st)) : Z Θ nL kc ks Q σ pc lv (.ref (zA Θ 0) :: st) := z_get C inT11 0 (kC_0 hkd) rfl 9 (by decide) w_2_196 rfl hd kk
theorem w_3_23 : Cond.code ({ cls := "LastLoaf$Poll", name := "hold", desc := "(LLastLoaf$Village;LLastLoaf$Law;)V" } : MethodName) prog_7_method_2_code (5 : Nat) (Option.none : Option ClassFile.FieldType) ∈ TB := tb_in (lwt_3 (List.mem_of_getElem? (i := 23) (by decide +kernel))) rfl
theorem w_3_20 : Cond.methodLink "LastLoaf" (295 : Nat) ({ cls := "LastLoaf$Poll", name := "hold", desc := "(LLastLoaf$Village;LLastLoaf$Law;)V" } : MethodName) ∈ TB := tb_in (lwt_3 (List.mem_of_getElem? (i := 20) (by decide +kernel))) rfl
theorem w_3_21 : Cond.instanceMethod ({ cls := "LastLoaf$Poll", name := "hold", desc := "(LLastLoaf$Village;LLastLoaf$Law;)V" } : MethodName) ∈ TB := tb_in (lwt_3 (List.mem_of_getElem? (i := 21) (by decide +kernel))) rfl
theorem w_3_22 : Cond.selects "LastLoaf$Poll" ({ cls := "LastLoaf$Poll", name := "hold", desc := "(LLastLoaf$Village;LLastLoaf$Law;)V" } : MethodName) ({ cls := "LastLoaf$Poll", name := "hold", desc := "(LLastLoaf$Village;LLastLoaf$Law;)V" } : MethodName) ∈ TB := tb_in (lwt_3 (List.mem_of_getElem? (i := 22) (by decide +kernel))) rfl
theorem cr11_295 {Θ : Tz} {cc : ByteArray} {nL kc ks : Nat} {ret : Option FieldType} {rm : Room} {Q : State → Prop} {σ : St} {pc : Nat} {lv : List (Nat × Value)} {st : List Value} (C : Zc Θ cc nL RX11 ret rm) (hkd : Θ.2.2.2.2.1 = kdC) {village_a : Nat} {law_a : Nat} (h_village : isV village_a) (h_law : isLaw law_a) {r : St} (hx : q5_hold σ village_a law_a = some r) (hrm : rm5_hold.frames + 1 ≤ rm.frames ∧ 8 + (5 + 11) + rm5_hold.locals ≤ rm.locals) (hcat : (st.map fun v => v.category).sum ≤ 8) (hk : kc ≤ rm.cells ∧ ks ≤ rm.slots) (hd : decode cc pc = .ok (.invokevirtual 295, 3)) (kk : Z Θ nL kc ks Q r (pc + 3) lv st) : Z Θ nL kc ks Q σ pc lv (.ref (zA Θ law_a) :: .ref (zA Θ village_a) :: .ref (zA Θ 6) :: st) := z_callV C 6 [.ref (zA Θ village_a), .ref (zA Θ law_a)] (none, r) 2 (kC_6 hkd) rfl (c5_hold (village_a := village_a) (law_a := law_a) hkd (zc_inj C) h_village h_law hx) w_3_23 w_3_20 w_3_21 w_3_22 w_1_9 ⟨rfl, rfl, hrm.1, hrm.2⟩ (by decide +kernel) rfl rfl hcat hk hd kk
theorem dX11_pollNow_0 : decode cX11_pollNow 0 = .ok (.aload_n 0, 1) := by decide +kernel
theorem dX11_pollNow_1 : decode cX11_pollNow 1 = .ok (.getfield 61, 3) := by decide +kernel
theorem dX11_pollNow_4 : decode cX11_pollNow 4 = .ok (.aload_n 0, 1) := by decide +kernel
theorem dX11_pollNow_5 : decode cX11_pollNow 5 = .ok (.getfield 19, 3) := by decide +kernel
theorem dX11_pollNow_8 : decode cX11_pollNow 8 = .ok (.aload_n 0, 1) := by decide +kernel
theorem dX11_pollNow_9 : decode cX11_pollNow 9 = .ok (.getfield 29, 3) := by decide +kernel
theorem dX11_pollNow_12 : decode cX11_pollNow 12 = .ok (.invokevirtual 295, 3) := by decide +kernel
theorem dX11_pollNow_15 : decode cX11_pollNow 15 = .ok (.aload_n 0, 1) := by decide +kernel
theorem dX11_pollNow_16 : decode cX11_pollNow 16 = .ok (.getfield 61, 3) := by decide +kernel
theorem dX11_pollNow_19 : decode cX11_pollNow 19 = .ok (.areturn, 1) := by decide +kernel
def q11_pollNow (σ : St) : Option (Nat × St) :=
  Option.bind (q5_hold σ 44 32) fun x1_ =>
  some (6, x1_)
abbrev rm11_pollNow : Room := { frames := 4, cells := 0, slots := 0, locals := 96 }
set_option maxHeartbeats 4000000 in
set_option maxRecDepth 100000 in
theorem p11_pollNow {Θ : Tz} {σ : St} {ρ : Option Value × St} (C : Zc Θ cX11_pollNow 1 RX11 (some (.object "LastLoaf$Poll")) rm11_pollNow) (hkd : Θ.2.2.2.2.1 = kdC) {r : (Nat × St)} (hf : q11_pollNow σ = some r) (hρ : ρ = (some (.ref (zA Θ r.1)), r.2)) : Z Θ 1 0 0 (zQ Θ ρ) σ 0 [(0, .ref (zA Θ 0))] [] := by
  unfold q11_pollNow at hf
  refine z_aload_n C 0 dX11_pollNow_0 rfl rfl ?_
  refine fg11_61 C hkd dX11_pollNow_1 ?_
  refine z_aload_n C 0 dX11_pollNow_4 rfl rfl ?_
  refine fg11_19 C hkd dX11_pollNow_5 ?_
  refine z_aload_n C 0 dX11_pollNow_8 rfl rfl ?_
  refine fg11_29 C hkd dX11_pollNow_9 ?_
  obtain ⟨x1_, h2_, hf⟩ := ob hf
  refine cr11_295 (village_a := 44) (law_a := 32) C hkd isV_44 isLaw_32 h2_ ⟨(Nat.le_of_ble_eq_true rfl), (Nat.le_of_ble_eq_true rfl)⟩ (Nat.le_of_ble_eq_true rfl) ⟨Nat.zero_le _, Nat.zero_le _⟩ dX11_pollNow_12 ?_
  refine z_aload_n C 0 dX11_pollNow_15 rfl rfl ?_
  refine fg11_61 C hkd dX11_pollNow_16 ?_
  cases hf
  subst hρ
  exact z_aret C dX11_pollNow_19
theorem c11_pollNow {l : Launch} {kd : List KD} {w : Wp} {σ : St} (hkd : kd = kdC) (hi : zI kd w) {r : (Nat × St)} (hf : q11_pollNow σ = some r) : zM l kd w yX11_pollNow cX11_pollNow 1 (some (.object "LastLoaf$Poll")) rm11_pollNow [.ref (w.2.2.1 0)] σ (some (.ref (w.2.2.1 r.1)), r.2) := zM_of rfl hi (Nat.le_of_ble_eq_true rfl) (fun Θ hl hw C => by
  obtain ⟨Θ1, Θ2, Θ3, Θ4, Θ5⟩ := Θ
  cases hw
  exact p11_pollNow C hkd  hf rfl)
/-! LastLoaf$Poll.greatest -/
theorem w_2_44 : Cond.fieldLink "LastLoaf$Poll" (21 : Nat) "LastLoaf$Poll" "tally" "[I" ∈ TB := tb_in (lwt_2 (List.mem_of_getElem? (i := 44) (by decide +kernel))) rfl
theorem fg5_21 {Θ : Tz} {cc : ByteArray} {nL kc ks : Nat} {ret : Option FieldType} {rm : Room} {Q : State → Prop} {σ : St} {pc : Nat} {lv : List (Nat × Value)} {st : List Value} (C : Zc Θ cc nL RX5 ret rm) (hkd : Θ.2.2.2.2.1 = kdC) (hd : decode cc pc = .ok (.getfield 21, 3)) (kk : Z Θ nL kc ks Q σ (pc + 3) lv (.ref (zA Θ 10) :: st)) : Z Θ nL kc ks Q σ pc lv (.ref (zA Θ 6) :: st) := z_get C inT5 6 (kC_6 hkd) rfl 3 (by decide) w_2_44 rfl hd kk
theorem dX5_greatest_0 : decode cX5_greatest 0 = .ok (.iconst (-1), 1) := by decide +kernel
theorem dX5_greatest_1 : decode cX5_greatest 1 = .ok (.istore_n 2, 1) := by decide +kernel
theorem dX5_greatest_2 : decode cX5_greatest 2 = .ok (.iconst 0, 1) := by decide +kernel
theorem dX5_greatest_3 : decode cX5_greatest 3 = .ok (.istore_n 3, 1) := by decide +kernel
theorem dX5_greatest_4 : decode cX5_greatest 4 = .ok (.iload_n 3, 1) := by decide +kernel
theorem dX5_greatest_5 : decode cX5_greatest 5 = .ok (.aload_n 0, 1) := by decide +kernel
theorem dX5_greatest_6 : decode cX5_greatest 6 = .ok (.getfield 30, 3) := by decide +kernel
theorem dX5_greatest_9 : decode cX5_greatest 9 = .ok (.if_icmp .ge 39, 3) := by decide +kernel
theorem dX5_greatest_12 : decode cX5_greatest 12 = .ok (.iload_n 1, 1) := by decide +kernel
theorem dX5_greatest_13 : decode cX5_greatest 13 = .ok (.iload_n 3, 1) := by decide +kernel
theorem dX5_greatest_14 : decode cX5_greatest 14 = .ok (.invokestatic 58, 3) := by decide +kernel
theorem dX5_greatest_17 : decode cX5_greatest 17 = .ok (.ifCond .eq 25, 3) := by decide +kernel
theorem dX5_greatest_20 : decode cX5_greatest 20 = .ok (.iload_n 2, 1) := by decide +kernel
theorem dX5_greatest_21 : decode cX5_greatest 21 = .ok (.iconst (-1), 1) := by decide +kernel
theorem dX5_greatest_22 : decode cX5_greatest 22 = .ok (.if_icmp .eq 18, 3) := by decide +kernel
theorem dX5_greatest_25 : decode cX5_greatest 25 = .ok (.aload_n 0, 1) := by decide +kernel
theorem dX5_greatest_26 : decode cX5_greatest 26 = .ok (.getfield 21, 3) := by decide +kernel
theorem dX5_greatest_29 : decode cX5_greatest 29 = .ok (.iload_n 3, 1) := by decide +kernel
theorem dX5_greatest_30 : decode cX5_greatest 30 = .ok (.iaload, 1) := by decide +kernel
theorem dX5_greatest_31 : decode cX5_greatest 31 = .ok (.aload_n 0, 1) := by decide +kernel
theorem dX5_greatest_32 : decode cX5_greatest 32 = .ok (.getfield 21, 3) := by decide +kernel
theorem dX5_greatest_35 : decode cX5_greatest 35 = .ok (.iload_n 2, 1) := by decide +kernel
theorem dX5_greatest_36 : decode cX5_greatest 36 = .ok (.iaload, 1) := by decide +kernel
theorem dX5_greatest_37 : decode cX5_greatest 37 = .ok (.if_icmp .le 5, 3) := by decide +kernel
theorem dX5_greatest_40 : decode cX5_greatest 40 = .ok (.iload_n 3, 1) := by decide +kernel
theorem dX5_greatest_41 : decode cX5_greatest 41 = .ok (.istore_n 2, 1) := by decide +kernel
theorem dX5_greatest_42 : decode cX5_greatest 42 = .ok (.iinc 3 1, 3) := by decide +kernel
theorem dX5_greatest_45 : decode cX5_greatest 45 = .ok (.goto (-41), 3) := by decide +kernel
theorem dX5_greatest_48 : decode cX5_greatest 48 = .ok (.iload_n 2, 1) := by decide +kernel
theorem dX5_greatest_49 : decode cX5_greatest 49 = .ok (.ireturn, 1) := by decide +kernel
def q5_greatest (σ : St) (among_a : Int32) : Option Int32 :=
  Option.bind (loop2 (fun rec4_ (best7_ : Int32) (r8_ : Int32) =>
  if r8_ < (σ 6 6) then
  Option.bind (Option.bind (if q11_isIn among_a r8_ = true then (if best7_ = (-1) then (some true) else (Option.bind (ag σ 10 6 r8_) fun x24_ =>
  Option.bind (ag σ 10 6 best7_) fun x26_ =>
  if x26_ < x24_ then (some true) else (some false))) else (some false)) fun t20_ =>
  if t20_ = true then (some (r8_)) else (some (best7_))) fun y15_ =>
  lt (r8_ + 1) fun r30_ =>
  rec4_ y15_ r30_
  else (some (best7_, r8_))) fuelN (-1 : Int32) (0 : Int32)) fun y1_ =>
  some y1_.1
abbrev rm5_greatest : Room := { frames := 1, cells := 0, slots := 0, locals := 21 }
set_option maxHeartbeats 4000000 in
set_option maxRecDepth 100000 in
theorem p5_greatest {Θ : Tz} {σ : St} {ρ : Option Value × St} (C : Zc Θ cX5_greatest 4 RX5 (some .int) rm5_greatest) (hkd : Θ.2.2.2.2.1 = kdC) {among_a : Int32} {r : Int32} (hf : q5_greatest σ among_a = some r) (hρ : ρ = (some (.int r), σ)) : Z Θ 4 0 0 (zQ Θ ρ) σ 0 [(0, .ref (zA Θ 6)), (1, .int among_a)] [] := by
  unfold q5_greatest at hf
  refine z_iconst (v := (-1)) C dX5_greatest_0 ic_m1 ?_
  refine z_istN C dX5_greatest_1 rfl rfl (Nat.le_of_ble_eq_true rfl) rfl ?_
  refine z_iconst (v := 0) C dX5_greatest_2 ic_0 ?_
  refine z_istN C dX5_greatest_3 rfl rfl (Nat.le_of_ble_eq_true rfl) rfl ?_
  refine Z.sub [2, 3, 1, 0] rfl ?_
  obtain ⟨y1_, h2_, hf⟩ := ob hf
  suffices K3_ : Z Θ 4 0 0 (zQ Θ ρ) σ 48 [(0, .ref (zA Θ 6)), (1, .int among_a), (2, .int y1_.1), (3, .int y1_.2)] [] by
    refine loop2_Z (P := fun (best7_ : Int32) (r8_ : Int32) => Z Θ 4 0 0 (zQ Θ ρ) σ 4 [(0, .ref (zA Θ 6)), (1, .int among_a), (2, .int best7_), (3, .int r8_)] []) ?_ fuelN (-1 : Int32) (0 : Int32) h2_
    clear h2_
    intro rec4_ best7_ r8_ h5_ h6_
    have K11_ : r8_ < (σ 6 6) → Z Θ 4 0 0 (zQ Θ ρ) σ 12 [(0, .ref (zA Θ 6)), (1, .int among_a), (2, .int best7_), (3, .int r8_)] [] := by
      intro h14_
      rw [if_pos h14_] at h6_
      obtain ⟨y15_, h16_, h6_⟩ := ob h6_
      suffices K17_ : Z Θ 4 0 0 (zQ Θ ρ) σ 42 [(0, .ref (zA Θ 6)), (1, .int among_a), (2, .int y15_), (3, .int r8_)] [] by
        obtain ⟨t20_, h21_, h16_⟩ := ob h16_
        have K18_ : t20_ = true → Z Θ 4 0 0 (zQ Θ ρ) σ 40 [(0, .ref (zA Θ 6)), (1, .int among_a), (2, .int best7_), (3, .int r8_)] [] := by
          intro h29_
          rw [if_pos h29_] at h16_
          refine z_iload_n C 3 dX5_greatest_40 rfl rfl ?_
          refine z_istN C dX5_greatest_41 rfl rfl (Nat.le_of_ble_eq_true rfl) rfl ?_
          cases h16_
          refine Z.sub [1, 2, 0, 3] rfl ?_
          exact K17_
        have K19_ : ¬ (t20_ = true) → Z Θ 4 0 0 (zQ Θ ρ) σ 42 [(0, .ref (zA Θ 6)), (1, .int among_a), (2, .int best7_), (3, .int r8_)] [] := by
          intro h29_
          rw [if_neg h29_] at h16_
          cases h16_
          exact K17_
        refine z_iload_n C 1 dX5_greatest_12 rfl rfl ?_
        refine z_iload_n C 3 dX5_greatest_13 rfl rfl ?_
        refine cr5_58 (set_a := among_a) (person_a := r8_) C hkd  ⟨(Nat.le_of_ble_eq_true rfl), (Nat.le_of_ble_eq_true rfl)⟩ (Nat.le_of_ble_eq_true rfl) ⟨Nat.zero_le _, Nat.zero_le _⟩ dX5_greatest_14 ?_
        refine cb_f C 42 dX5_greatest_17 (by decide) (fun h22_ => ?_) (fun h22_ => ?_)
        · rw [if_pos h22_] at h21_
          refine z_iload_n C 2 dX5_greatest_20 rfl rfl ?_
          refine z_iconst (v := (-1)) C dX5_greatest_21 ic_m1 ?_
          refine c_eq_t C 40 dX5_greatest_22 (by decide) (fun h23_ => ?_) (fun h23_ => ?_)
          · rw [if_pos h23_] at h21_
            cases h21_
            exact K18_ rfl
          · rw [if_neg h23_] at h21_
            refine z_aload_n C 0 dX5_greatest_25 rfl rfl ?_
            refine fg5_21 C hkd dX5_greatest_26 ?_
            refine z_iload_n C 3 dX5_greatest_29 rfl rfl ?_
            obtain ⟨x24_, h25_, h21_⟩ := ob h21_
            refine z_ag C h25_ (kC_10 hkd) dX5_greatest_30 ?_
            refine z_aload_n C 0 dX5_greatest_31 rfl rfl ?_
            refine fg5_21 C hkd dX5_greatest_32 ?_
            refine z_iload_n C 2 dX5_greatest_35 rfl rfl ?_
            obtain ⟨x26_, h27_, h21_⟩ := ob h21_
            refine z_ag C h27_ (kC_10 hkd) dX5_greatest_36 ?_
            refine c_gt_f C 42 dX5_greatest_37 (by decide) (fun h28_ => ?_) (fun h28_ => ?_)
            · rw [if_pos h28_] at h21_
              cases h21_
              exact K18_ rfl
            · rw [if_neg h28_] at h21_
              cases h21_
              exact K19_ Bool.false_ne_true
        · rw [if_neg h22_] at h21_
          cases h21_
          exact K19_ Bool.false_ne_true
      obtain ⟨r30_, h31_, h6_⟩ := lt_ h6_
      refine z_inc C 3 dX5_greatest_42 rfl ic_1 h31_ (Nat.le_of_ble_eq_true rfl) rfl ?_
      refine z_goto C 4 dX5_greatest_45 (by decide) ?_
      refine Z.sub [1, 2, 3, 0] rfl ?_
      exact h5_ _ _ h6_
    have K12_ : ¬ (r8_ < (σ 6 6)) → Z Θ 4 0 0 (zQ Θ ρ) σ 48 [(0, .ref (zA Θ 6)), (1, .int among_a), (2, .int best7_), (3, .int r8_)] [] := by
      intro h14_
      rw [if_neg h14_] at h6_
      cases h6_
      exact K3_
    refine z_iload_n C 3 dX5_greatest_4 rfl rfl ?_
    refine z_aload_n C 0 dX5_greatest_5 rfl rfl ?_
    refine fg5_30 C hkd dX5_greatest_6 ?_
    refine c_lt_f C 48 dX5_greatest_9 (by decide) (fun h13_ => ?_) (fun h13_ => ?_)
    · exact K11_ h13_
    · exact K12_ h13_
  refine z_iload_n C 2 dX5_greatest_48 rfl rfl ?_
  cases hf
  subst hρ
  exact z_iret C dX5_greatest_49
theorem c5_greatest {l : Launch} {kd : List KD} {w : Wp} {σ : St} {among_a : Int32} (hkd : kd = kdC) (hi : zI kd w) {r : Int32} (hf : q5_greatest σ among_a = some r) : zM l kd w yX5_greatest cX5_greatest 4 (some .int) rm5_greatest [.ref (w.2.2.1 6), .int among_a] σ (some (.int r), σ) := zM_of rfl hi (Nat.le_of_ble_eq_true rfl) (fun Θ hl hw C => by
  obtain ⟨Θ1, Θ2, Θ3, Θ4, Θ5⟩ := Θ
  cases hw
  exact p5_greatest C hkd  hf rfl)
/-! LastLoaf$Poll.rankAt -/
theorem fg5_37 {Θ : Tz} {cc : ByteArray} {nL kc ks : Nat} {ret : Option FieldType} {rm : Room} {Q : State → Prop} {σ : St} {pc : Nat} {lv : List (Nat × Value)} {st : List Value} (C : Zc Θ cc nL RX5 ret rm) (hkd : Θ.2.2.2.2.1 = kdC) (hd : decode cc pc = .ok (.getfield 37, 3)) (kk : Z Θ nL kc ks Q σ (pc + 3) lv (.int (σ 6 8) :: st)) : Z Θ nL kc ks Q σ pc lv (.ref (zA Θ 6) :: st) := z_get C inT5 6 (kC_6 hkd) rfl 8 (by decide) w_2_50 rfl hd kk
theorem dX5_rankAt_0 : decode cX5_rankAt 0 = .ok (.aload_n 0, 1) := by decide +kernel
theorem dX5_rankAt_1 : decode cX5_rankAt 1 = .ok (.getfield 40, 3) := by decide +kernel
theorem dX5_rankAt_4 : decode cX5_rankAt 4 = .ok (.iload_n 1, 1) := by decide +kernel
theorem dX5_rankAt_5 : decode cX5_rankAt 5 = .ok (.invokestatic 58, 3) := by decide +kernel
theorem dX5_rankAt_8 : decode cX5_rankAt 8 = .ok (.ifCond .eq 15, 3) := by decide +kernel
theorem dX5_rankAt_11 : decode cX5_rankAt 11 = .ok (.iload_n 2, 1) := by decide +kernel
theorem dX5_rankAt_12 : decode cX5_rankAt 12 = .ok (.ifCond .lt 11, 3) := by decide +kernel
theorem dX5_rankAt_15 : decode cX5_rankAt 15 = .ok (.iload_n 2, 1) := by decide +kernel
theorem dX5_rankAt_16 : decode cX5_rankAt 16 = .ok (.aload_n 0, 1) := by decide +kernel
theorem dX5_rankAt_17 : decode cX5_rankAt 17 = .ok (.getfield 37, 3) := by decide +kernel
theorem dX5_rankAt_20 : decode cX5_rankAt 20 = .ok (.if_icmp .lt 5, 3) := by decide +kernel
theorem dX5_rankAt_23 : decode cX5_rankAt 23 = .ok (.iconst (-1), 1) := by decide +kernel
theorem dX5_rankAt_24 : decode cX5_rankAt 24 = .ok (.ireturn, 1) := by decide +kernel
theorem dX5_rankAt_25 : decode cX5_rankAt 25 = .ok (.aload_n 0, 1) := by decide +kernel
theorem dX5_rankAt_26 : decode cX5_rankAt 26 = .ok (.getfield 9, 3) := by decide +kernel
theorem dX5_rankAt_29 : decode cX5_rankAt 29 = .ok (.iload_n 1, 1) := by decide +kernel
theorem dX5_rankAt_30 : decode cX5_rankAt 30 = .ok (.bipush 6, 2) := by decide +kernel
theorem dX5_rankAt_32 : decode cX5_rankAt 32 = .ok (.imul, 1) := by decide +kernel
theorem dX5_rankAt_33 : decode cX5_rankAt 33 = .ok (.iload_n 2, 1) := by decide +kernel
theorem dX5_rankAt_34 : decode cX5_rankAt 34 = .ok (.iadd, 1) := by decide +kernel
theorem dX5_rankAt_35 : decode cX5_rankAt 35 = .ok (.iaload, 1) := by decide +kernel
theorem dX5_rankAt_36 : decode cX5_rankAt 36 = .ok (.ireturn, 1) := by decide +kernel
def q5_rankAt (σ : St) (voter_a : Int32) (k_a : Int32) : Option Int32 :=
  if ((¬ (q11_isIn (σ 6 9) voter_a = true)) ∨ (k_a < 0)) ∨ ((σ 6 8) ≤ k_a) then (some (-1)) else
  Option.bind (ag σ 7 36 ((voter_a * 6) + k_a)) fun x7_ =>
  some x7_
abbrev rm5_rankAt : Room := { frames := 1, cells := 0, slots := 0, locals := 21 }
set_option maxHeartbeats 4000000 in
set_option maxRecDepth 100000 in
theorem p5_rankAt {Θ : Tz} {σ : St} {ρ : Option Value × St} (C : Zc Θ cX5_rankAt 3 RX5 (some .int) rm5_rankAt) (hkd : Θ.2.2.2.2.1 = kdC) {voter_a : Int32} {k_a : Int32} {r : Int32} (hf : q5_rankAt σ voter_a k_a = some r) (hρ : ρ = (some (.int r), σ)) : Z Θ 3 0 0 (zQ Θ ρ) σ 0 [(0, .ref (zA Θ 6)), (1, .int voter_a), (2, .int k_a)] [] := by
  unfold q5_rankAt at hf
  have K1_ : ((¬ (q11_isIn (σ 6 9) voter_a = true)) ∨ (k_a < 0)) ∨ ((σ 6 8) ≤ k_a) → Z Θ 3 0 0 (zQ Θ ρ) σ 23 [(0, .ref (zA Θ 6)), (1, .int voter_a), (2, .int k_a)] [] := by
    intro h6_
    rw [if_pos h6_] at hf
    refine z_iconst (v := (-1)) C dX5_rankAt_23 ic_m1 ?_
    cases hf
    subst hρ
    exact z_iret C dX5_rankAt_24
  suffices K2_ : ¬ (((¬ (q11_isIn (σ 6 9) voter_a = true)) ∨ (k_a < 0)) ∨ ((σ 6 8) ≤ k_a)) → Z Θ 3 0 0 (zQ Θ ρ) σ 25 [(0, .ref (zA Θ 6)), (1, .int voter_a), (2, .int k_a)] [] by
    refine z_aload_n C 0 dX5_rankAt_0 rfl rfl ?_
    refine fg5_40 C hkd dX5_rankAt_1 ?_
    refine z_iload_n C 1 dX5_rankAt_4 rfl rfl ?_
    refine cr5_58 (set_a := (σ 6 9)) (person_a := voter_a) C hkd  ⟨(Nat.le_of_ble_eq_true rfl), (Nat.le_of_ble_eq_true rfl)⟩ (Nat.le_of_ble_eq_true rfl) ⟨Nat.zero_le _, Nat.zero_le _⟩ dX5_rankAt_5 ?_
    refine cb_f C 23 dX5_rankAt_8 (by decide) (fun h3_ => ?_) (fun h3_ => ?_)
    · refine z_iload_n C 2 dX5_rankAt_11 rfl rfl ?_
      refine c0_lt_t C 23 dX5_rankAt_12 (by decide) (fun h4_ => ?_) (fun h4_ => ?_)
      · exact K1_ (Or.inl (Or.inr h4_))
      · refine z_iload_n C 2 dX5_rankAt_15 rfl rfl ?_
        refine z_aload_n C 0 dX5_rankAt_16 rfl rfl ?_
        refine fg5_37 C hkd dX5_rankAt_17 ?_
        refine c_ge_f C 25 dX5_rankAt_20 (by decide) (fun h5_ => ?_) (fun h5_ => ?_)
        · exact K1_ (Or.inr h5_)
        · exact K2_ (fun n => n.elim (fun n => n.elim (fun n => n h3_) h4_) h5_)
    · exact K1_ (Or.inl (Or.inl h3_))
  intro h6_
  rw [if_neg h6_] at hf
  refine z_aload_n C 0 dX5_rankAt_25 rfl rfl ?_
  refine fg5_9 C hkd dX5_rankAt_26 ?_
  refine z_iload_n C 1 dX5_rankAt_29 rfl rfl ?_
  refine z_bipush (v := 6) C dX5_rankAt_30 bp_6 ?_
  refine z_imul C dX5_rankAt_32 ?_
  refine z_iload_n C 2 dX5_rankAt_33 rfl rfl ?_
  refine z_iadd C dX5_rankAt_34 ?_
  obtain ⟨x7_, h8_, hf⟩ := ob hf
  refine z_ag C h8_ (kC_7 hkd) dX5_rankAt_35 ?_
  cases hf
  subst hρ
  exact z_iret C dX5_rankAt_36
theorem c5_rankAt {l : Launch} {kd : List KD} {w : Wp} {σ : St} {voter_a : Int32} {k_a : Int32} (hkd : kd = kdC) (hi : zI kd w) {r : Int32} (hf : q5_rankAt σ voter_a k_a = some r) : zM l kd w yX5_rankAt cX5_rankAt 3 (some .int) rm5_rankAt [.ref (w.2.2.1 6), .int voter_a, .int k_a] σ (some (.int r), σ) := zM_of rfl hi (Nat.le_of_ble_eq_true rfl) (fun Θ hl hw C => by
  obtain ⟨Θ1, Θ2, Θ3, Θ4, Θ5⟩ := Θ
  cases hw
  exact p5_rankAt C hkd  hf rfl)
/-! LastLoaf$Poll.hasItWith -/
theorem w_1_90 : Cond.code ({ cls := "java/util/Arrays", name := "fill", desc := "([II)V" } : MethodName) prog_33_method_103_code (4 : Nat) (Option.none : Option ClassFile.FieldType) ∈ TB := tb_in (lwt_1 (List.mem_of_getElem? (i := 90) (by decide +kernel))) rfl
theorem w_3_158 : Cond.methodLink "LastLoaf$Poll" (107 : Nat) ({ cls := "java/util/Arrays", name := "fill", desc := "([II)V" } : MethodName) ∈ TB := tb_in (lwt_3 (List.mem_of_getElem? (i := 158) (by decide +kernel))) rfl
theorem w_1_89 : Cond.static ({ cls := "java/util/Arrays", name := "fill", desc := "([II)V" } : MethodName) ∈ TB := tb_in (lwt_1 (List.mem_of_getElem? (i := 89) (by decide +kernel))) rfl
theorem w_1_5 : Cond.initialized "java/util/Arrays" ∈ TB := tb_in (lwt_1 (List.mem_of_getElem? (i := 5) (by decide +kernel))) rfl
theorem w_3_185 : Cond.code ({ cls := "LastLoaf$Poll", name := "rankAt", desc := "(II)I" } : MethodName) prog_7_method_4_code (3 : Nat) (Option.some ClassFile.FieldType.int) ∈ TB := tb_in (lwt_3 (List.mem_of_getElem? (i := 185) (by decide +kernel))) rfl
theorem w_3_182 : Cond.methodLink "LastLoaf$Poll" (76 : Nat) ({ cls := "LastLoaf$Poll", name := "rankAt", desc := "(II)I" } : MethodName) ∈ TB := tb_in (lwt_3 (List.mem_of_getElem? (i := 182) (by decide +kernel))) rfl
theorem w_3_183 : Cond.instanceMethod ({ cls := "LastLoaf$Poll", name := "rankAt", desc := "(II)I" } : MethodName) ∈ TB := tb_in (lwt_3 (List.mem_of_getElem? (i := 183) (by decide +kernel))) rfl
theorem w_3_184 : Cond.selects "LastLoaf$Poll" ({ cls := "LastLoaf$Poll", name := "rankAt", desc := "(II)I" } : MethodName) ({ cls := "LastLoaf$Poll", name := "rankAt", desc := "(II)I" } : MethodName) ∈ TB := tb_in (lwt_3 (List.mem_of_getElem? (i := 184) (by decide +kernel))) rfl
theorem cr5_76 {Θ : Tz} {cc : ByteArray} {nL kc ks : Nat} {ret : Option FieldType} {rm : Room} {Q : State → Prop} {σ : St} {pc : Nat} {lv : List (Nat × Value)} {st : List Value} (C : Zc Θ cc nL RX5 ret rm) (hkd : Θ.2.2.2.2.1 = kdC) {voter_a : Int32} {k_a : Int32} {r : Int32} (hx : q5_rankAt σ voter_a k_a = some r) (hrm : rm5_rankAt.frames + 1 ≤ rm.frames ∧ 8 + (3 + 11) + rm5_rankAt.locals ≤ rm.locals) (hcat : (st.map fun v => v.category).sum ≤ 8) (hk : kc ≤ rm.cells ∧ ks ≤ rm.slots) (hd : decode cc pc = .ok (.invokevirtual 76, 3)) (kk : Z Θ nL kc ks Q σ (pc + 3) lv (.int r :: st)) : Z Θ nL kc ks Q σ pc lv (.int k_a :: .int voter_a :: .ref (zA Θ 6) :: st) := z_callV C 6 [.int voter_a, .int k_a] (some (.int r), σ) 2 (kC_6 hkd) rfl (c5_rankAt (voter_a := voter_a) (k_a := k_a) hkd (zc_inj C) hx) w_3_185 w_3_182 w_3_183 w_3_184 w_1_9 ⟨rfl, rfl, hrm.1, hrm.2⟩ (by decide +kernel) rfl rfl hcat hk hd kk
theorem w_3_173 : Cond.code ({ cls := "LastLoaf$Poll", name := "greatest", desc := "(I)I" } : MethodName) prog_7_method_11_code (4 : Nat) (Option.some ClassFile.FieldType.int) ∈ TB := tb_in (lwt_3 (List.mem_of_getElem? (i := 173) (by decide +kernel))) rfl
theorem w_3_170 : Cond.methodLink "LastLoaf$Poll" (104 : Nat) ({ cls := "LastLoaf$Poll", name := "greatest", desc := "(I)I" } : MethodName) ∈ TB := tb_in (lwt_3 (List.mem_of_getElem? (i := 170) (by decide +kernel))) rfl
theorem w_3_171 : Cond.instanceMethod ({ cls := "LastLoaf$Poll", name := "greatest", desc := "(I)I" } : MethodName) ∈ TB := tb_in (lwt_3 (List.mem_of_getElem? (i := 171) (by decide +kernel))) rfl
theorem w_3_172 : Cond.selects "LastLoaf$Poll" ({ cls := "LastLoaf$Poll", name := "greatest", desc := "(I)I" } : MethodName) ({ cls := "LastLoaf$Poll", name := "greatest", desc := "(I)I" } : MethodName) ∈ TB := tb_in (lwt_3 (List.mem_of_getElem? (i := 172) (by decide +kernel))) rfl
theorem cr5_104 {Θ : Tz} {cc : ByteArray} {nL kc ks : Nat} {ret : Option FieldType} {rm : Room} {Q : State → Prop} {σ : St} {pc : Nat} {lv : List (Nat × Value)} {st : List Value} (C : Zc Θ cc nL RX5 ret rm) (hkd : Θ.2.2.2.2.1 = kdC) {among_a : Int32} {r : Int32} (hx : q5_greatest σ among_a = some r) (hrm : rm5_greatest.frames + 1 ≤ rm.frames ∧ 8 + (4 + 11) + rm5_greatest.locals ≤ rm.locals) (hcat : (st.map fun v => v.category).sum ≤ 8) (hk : kc ≤ rm.cells ∧ ks ≤ rm.slots) (hd : decode cc pc = .ok (.invokevirtual 104, 3)) (kk : Z Θ nL kc ks Q σ (pc + 3) lv (.int r :: st)) : Z Θ nL kc ks Q σ pc lv (.int among_a :: .ref (zA Θ 6) :: st) := z_callV C 6 [.int among_a] (some (.int r), σ) 1 (kC_6 hkd) rfl (c5_greatest (among_a := among_a) hkd (zc_inj C) hx) w_3_173 w_3_170 w_3_171 w_3_172 w_1_9 ⟨rfl, rfl, hrm.1, hrm.2⟩ (by decide +kernel) rfl rfl hcat hk hd kk
theorem dX5_hasItWith_0 : decode cX5_hasItWith 0 = .ok (.aload_n 0, 1) := by decide +kernel
theorem dX5_hasItWith_1 : decode cX5_hasItWith 1 = .ok (.getfield 21, 3) := by decide +kernel
theorem dX5_hasItWith_4 : decode cX5_hasItWith 4 = .ok (.iconst 0, 1) := by decide +kernel
theorem dX5_hasItWith_5 : decode cX5_hasItWith 5 = .ok (.invokestatic 107, 3) := by decide +kernel
theorem dX5_hasItWith_8 : decode cX5_hasItWith 8 = .ok (.iconst 0, 1) := by decide +kernel
theorem dX5_hasItWith_9 : decode cX5_hasItWith 9 = .ok (.istore_n 3, 1) := by decide +kernel
theorem dX5_hasItWith_10 : decode cX5_hasItWith 10 = .ok (.iload_n 3, 1) := by decide +kernel
theorem dX5_hasItWith_11 : decode cX5_hasItWith 11 = .ok (.aload_n 0, 1) := by decide +kernel
theorem dX5_hasItWith_12 : decode cX5_hasItWith 12 = .ok (.getfield 30, 3) := by decide +kernel
theorem dX5_hasItWith_15 : decode cX5_hasItWith 15 = .ok (.if_icmp .ge 46, 3) := by decide +kernel
theorem dX5_hasItWith_18 : decode cX5_hasItWith 18 = .ok (.iload_n 2, 1) := by decide +kernel
theorem dX5_hasItWith_19 : decode cX5_hasItWith 19 = .ok (.iload_n 3, 1) := by decide +kernel
theorem dX5_hasItWith_20 : decode cX5_hasItWith 20 = .ok (.invokestatic 58, 3) := by decide +kernel
theorem dX5_hasItWith_23 : decode cX5_hasItWith 23 = .ok (.ifCond .eq 7, 3) := by decide +kernel
theorem dX5_hasItWith_26 : decode cX5_hasItWith 26 = .ok (.iload_n 1, 1) := by decide +kernel
theorem dX5_hasItWith_27 : decode cX5_hasItWith 27 = .ok (.goto 9, 3) := by decide +kernel
theorem dX5_hasItWith_30 : decode cX5_hasItWith 30 = .ok (.aload_n 0, 1) := by decide +kernel
theorem dX5_hasItWith_31 : decode cX5_hasItWith 31 = .ok (.iload_n 3, 1) := by decide +kernel
theorem dX5_hasItWith_32 : decode cX5_hasItWith 32 = .ok (.iconst 0, 1) := by decide +kernel
theorem dX5_hasItWith_33 : decode cX5_hasItWith 33 = .ok (.invokevirtual 76, 3) := by decide +kernel
theorem dX5_hasItWith_36 : decode cX5_hasItWith 36 = .ok (.istore 4, 2) := by decide +kernel
theorem dX5_hasItWith_38 : decode cX5_hasItWith 38 = .ok (.iload 4, 2) := by decide +kernel
theorem dX5_hasItWith_40 : decode cX5_hasItWith 40 = .ok (.iconst (-1), 1) := by decide +kernel
theorem dX5_hasItWith_41 : decode cX5_hasItWith 41 = .ok (.if_icmp .eq 14, 3) := by decide +kernel
theorem dX5_hasItWith_44 : decode cX5_hasItWith 44 = .ok (.aload_n 0, 1) := by decide +kernel
theorem dX5_hasItWith_45 : decode cX5_hasItWith 45 = .ok (.getfield 21, 3) := by decide +kernel
theorem dX5_hasItWith_48 : decode cX5_hasItWith 48 = .ok (.iload 4, 2) := by decide +kernel
theorem dX5_hasItWith_50 : decode cX5_hasItWith 50 = .ok (.dup2, 1) := by decide +kernel
theorem dX5_hasItWith_51 : decode cX5_hasItWith 51 = .ok (.iaload, 1) := by decide +kernel
theorem dX5_hasItWith_52 : decode cX5_hasItWith 52 = .ok (.iconst 1, 1) := by decide +kernel
theorem dX5_hasItWith_53 : decode cX5_hasItWith 53 = .ok (.iadd, 1) := by decide +kernel
theorem dX5_hasItWith_54 : decode cX5_hasItWith 54 = .ok (.iastore, 1) := by decide +kernel
theorem dX5_hasItWith_55 : decode cX5_hasItWith 55 = .ok (.iinc 3 1, 3) := by decide +kernel
theorem dX5_hasItWith_58 : decode cX5_hasItWith 58 = .ok (.goto (-48), 3) := by decide +kernel
theorem dX5_hasItWith_61 : decode cX5_hasItWith 61 = .ok (.aload_n 0, 1) := by decide +kernel
theorem dX5_hasItWith_62 : decode cX5_hasItWith 62 = .ok (.aload_n 0, 1) := by decide +kernel
theorem dX5_hasItWith_63 : decode cX5_hasItWith 63 = .ok (.getfield 34, 3) := by decide +kernel
theorem dX5_hasItWith_66 : decode cX5_hasItWith 66 = .ok (.invokevirtual 104, 3) := by decide +kernel
theorem dX5_hasItWith_69 : decode cX5_hasItWith 69 = .ok (.iload_n 1, 1) := by decide +kernel
theorem dX5_hasItWith_70 : decode cX5_hasItWith 70 = .ok (.if_icmp .ne 7, 3) := by decide +kernel
theorem dX5_hasItWith_73 : decode cX5_hasItWith 73 = .ok (.iconst 1, 1) := by decide +kernel
theorem dX5_hasItWith_74 : decode cX5_hasItWith 74 = .ok (.goto 4, 3) := by decide +kernel
theorem dX5_hasItWith_77 : decode cX5_hasItWith 77 = .ok (.iconst 0, 1) := by decide +kernel
theorem dX5_hasItWith_78 : decode cX5_hasItWith 78 = .ok (.ireturn, 1) := by decide +kernel
def q5_hasItWith (σ : St) (person_a : Int32) (turned_a : Int32) : Option (Bool × St) :=
  lt (fil σ 10 6 0) fun σ1_ =>
  Option.bind (loop2 (fun rec6_ (v9_ : Int32) (σ10_ : St) =>
  if v9_ < (σ10_ 6 6) then
  Option.bind (if q11_isIn turned_a v9_ = true then (some person_a) else (Option.bind (q5_rankAt σ10_ v9_ 0) fun x23_ =>
  some x23_)) fun x17_ =>
  Option.bind (if ¬ x17_ = (-1) then (Option.bind (ag σ10_ 10 6 x17_) fun x33_ =>
  Option.bind (sa σ10_ 10 6 x17_ (x33_ + 1)) fun σ35_ =>
  some (σ35_)) else (some (σ10_))) fun y26_ =>
  lt (v9_ + 1) fun v37_ =>
  rec6_ v37_ y26_
  else (some (v9_, σ10_))) fuelN (0 : Int32) σ1_) fun y3_ =>
  Option.bind (Option.bind (q5_greatest y3_.2 (y3_.2 6 7)) fun x44_ =>
  if x44_ = person_a then (some true) else (some false)) fun x39_ =>
  some (x39_, y3_.2)
abbrev rm5_hasItWith : Room := { frames := 2, cells := 0, slots := 0, locals := 44 }
set_option maxHeartbeats 4000000 in
set_option maxRecDepth 100000 in
theorem p5_hasItWith {Θ : Tz} {σ : St} {ρ : Option Value × St} (C : Zc Θ cX5_hasItWith 5 RX5 (some .boolean) rm5_hasItWith) (hkd : Θ.2.2.2.2.1 = kdC) {person_a : Int32} {turned_a : Int32} {r : (Bool × St)} (hf : q5_hasItWith σ person_a turned_a = some r) (hρ : ρ = (some (.int (b2i r.1)), r.2)) : Z Θ 5 0 0 (zQ Θ ρ) σ 0 [(0, .ref (zA Θ 6)), (1, .int person_a), (2, .int turned_a)] [] := by
  unfold q5_hasItWith at hf
  refine z_aload_n C 0 dX5_hasItWith_0 rfl rfl ?_
  refine fg5_21 C hkd dX5_hasItWith_1 ?_
  refine z_iconst (v := 0) C dX5_hasItWith_4 ic_0 ?_
  obtain ⟨σ1_, h2_, hf⟩ := lt_ hf
  refine z_callS C [.ref (zA Θ 10), .int 0] (none, fil σ 10 6 0) 2 (cJ_fill (zc_inj C) (kC_10 hkd) (Nat.le_of_ble_eq_true rfl)) w_1_90 w_3_158 w_1_89 w_1_5 ⟨rfl, rfl, (Nat.le_of_ble_eq_true rfl), (Nat.le_of_ble_eq_true rfl)⟩ (by decide +kernel) rfl rfl (Nat.le_of_ble_eq_true rfl) ⟨Nat.zero_le _, Nat.zero_le _⟩ dX5_hasItWith_5 ?_
  rw [← h2_]
  refine z_iconst (v := 0) C dX5_hasItWith_8 ic_0 ?_
  refine z_istN C dX5_hasItWith_9 rfl rfl (Nat.le_of_ble_eq_true rfl) rfl ?_
  refine Z.sub [1, 2, 3, 0] rfl ?_
  obtain ⟨y3_, h4_, hf⟩ := ob hf
  suffices K5_ : Z Θ 5 0 0 (zQ Θ ρ) y3_.2 61 [(0, .ref (zA Θ 6)), (1, .int person_a), (2, .int turned_a), (3, .int y3_.1)] [] by
    refine loop2_Z (P := fun (v9_ : Int32) (σ10_ : St) => Z Θ 5 0 0 (zQ Θ ρ) σ10_ 10 [(0, .ref (zA Θ 6)), (1, .int person_a), (2, .int turned_a), (3, .int v9_)] []) ?_ fuelN (0 : Int32) σ1_ h4_
    clear h4_
    intro rec6_ v9_ σ10_ h7_ h8_
    have K13_ : v9_ < (σ10_ 6 6) → Z Θ 5 0 0 (zQ Θ ρ) σ10_ 18 [(0, .ref (zA Θ 6)), (1, .int person_a), (2, .int turned_a), (3, .int v9_)] [] := by
      intro h16_
      rw [if_pos h16_] at h8_
      obtain ⟨x17_, h18_, h8_⟩ := ob h8_
      suffices K19_ : Z Θ 5 0 0 (zQ Θ ρ) σ10_ 36 [(0, .ref (zA Θ 6)), (1, .int person_a), (2, .int turned_a), (3, .int v9_)] [.int x17_] by
        have K20_ : q11_isIn turned_a v9_ = true → Z Θ 5 0 0 (zQ Θ ρ) σ10_ 26 [(0, .ref (zA Θ 6)), (1, .int person_a), (2, .int turned_a), (3, .int v9_)] [] := by
          intro h25_
          rw [if_pos h25_] at h18_
          refine z_iload_n C 1 dX5_hasItWith_26 rfl rfl ?_
          refine z_goto C 36 dX5_hasItWith_27 (by decide) ?_
          cases h18_
          exact K19_
        have K21_ : ¬ (q11_isIn turned_a v9_ = true) → Z Θ 5 0 0 (zQ Θ ρ) σ10_ 30 [(0, .ref (zA Θ 6)), (1, .int person_a), (2, .int turned_a), (3, .int v9_)] [] := by
          intro h25_
          rw [if_neg h25_] at h18_
          refine z_aload_n C 0 dX5_hasItWith_30 rfl rfl ?_
          refine z_iload_n C 3 dX5_hasItWith_31 rfl rfl ?_
          refine z_iconst (v := 0) C dX5_hasItWith_32 ic_0 ?_
          obtain ⟨x23_, h24_, h18_⟩ := ob h18_
          refine cr5_76 (voter_a := v9_) (k_a := 0) C hkd  h24_ ⟨(Nat.le_of_ble_eq_true rfl), (Nat.le_of_ble_eq_true rfl)⟩ (Nat.le_of_ble_eq_true rfl) ⟨Nat.zero_le _, Nat.zero_le _⟩ dX5_hasItWith_33 ?_
          cases h18_
          exact K19_
        refine z_iload_n C 2 dX5_hasItWith_18 rfl rfl ?_
        refine z_iload_n C 3 dX5_hasItWith_19 rfl rfl ?_
        refine cr5_58 (set_a := turned_a) (person_a := v9_) C hkd  ⟨(Nat.le_of_ble_eq_true rfl), (Nat.le_of_ble_eq_true rfl)⟩ (Nat.le_of_ble_eq_true rfl) ⟨Nat.zero_le _, Nat.zero_le _⟩ dX5_hasItWith_20 ?_
        refine cb_f C 30 dX5_hasItWith_23 (by decide) (fun h22_ => ?_) (fun h22_ => ?_)
        · exact K20_ h22_
        · exact K21_ h22_
      refine z_ist C dX5_hasItWith_36 rfl (Nat.le_of_ble_eq_true rfl) rfl ?_
      obtain ⟨y26_, h27_, h8_⟩ := ob h8_
      suffices K28_ : Z Θ 5 0 0 (zQ Θ ρ) y26_ 55 [(0, .ref (zA Θ 6)), (1, .int person_a), (2, .int turned_a), (3, .int v9_), (4, .int x17_)] [] by
        have K29_ : ¬ x17_ = (-1) → Z Θ 5 0 0 (zQ Θ ρ) σ10_ 44 [(4, .int x17_), (0, .ref (zA Θ 6)), (1, .int person_a), (2, .int turned_a), (3, .int v9_)] [] := by
          intro h32_
          rw [if_pos h32_] at h27_
          refine z_aload_n C 1 dX5_hasItWith_44 rfl rfl ?_
          refine fg5_21 C hkd dX5_hasItWith_45 ?_
          refine z_iload C 0 dX5_hasItWith_48 rfl ?_
          refine z_dup2 C dX5_hasItWith_50 rfl rfl ?_
          obtain ⟨x33_, h34_, h27_⟩ := ob h27_
          refine z_ag C h34_ (kC_10 hkd) dX5_hasItWith_51 ?_
          refine z_iconst (v := 1) C dX5_hasItWith_52 ic_1 ?_
          refine z_iadd C dX5_hasItWith_53 ?_
          obtain ⟨σ35_, h36_, h27_⟩ := ob h27_
          refine z_sa C h36_ (kC_10 hkd) dX5_hasItWith_54 ?_
          cases h27_
          refine Z.sub [1, 2, 3, 4, 0] rfl ?_
          exact K28_
        have K30_ : ¬ (¬ x17_ = (-1)) → Z Θ 5 0 0 (zQ Θ ρ) σ10_ 55 [(4, .int x17_), (0, .ref (zA Θ 6)), (1, .int person_a), (2, .int turned_a), (3, .int v9_)] [] := by
          intro h32_
          rw [if_neg h32_] at h27_
          cases h27_
          refine Z.sub [1, 2, 3, 4, 0] rfl ?_
          exact K28_
        refine z_iload C 0 dX5_hasItWith_38 rfl ?_
        refine z_iconst (v := (-1)) C dX5_hasItWith_40 ic_m1 ?_
        refine c_ne_f C 55 dX5_hasItWith_41 (by decide) (fun h31_ => ?_) (fun h31_ => ?_)
        · exact K29_ h31_
        · exact K30_ h31_
      obtain ⟨v37_, h38_, h8_⟩ := lt_ h8_
      refine z_inc C 3 dX5_hasItWith_55 rfl ic_1 h38_ (Nat.le_of_ble_eq_true rfl) rfl ?_
      refine z_goto C 10 dX5_hasItWith_58 (by decide) ?_
      refine Z.sub [1, 2, 3, 0] rfl ?_
      exact h7_ _ _ h8_
    have K14_ : ¬ (v9_ < (σ10_ 6 6)) → Z Θ 5 0 0 (zQ Θ ρ) σ10_ 61 [(0, .ref (zA Θ 6)), (1, .int person_a), (2, .int turned_a), (3, .int v9_)] [] := by
      intro h16_
      rw [if_neg h16_] at h8_
      cases h8_
      exact K5_
    refine z_iload_n C 3 dX5_hasItWith_10 rfl rfl ?_
    refine z_aload_n C 0 dX5_hasItWith_11 rfl rfl ?_
    refine fg5_30 C hkd dX5_hasItWith_12 ?_
    refine c_lt_f C 61 dX5_hasItWith_15 (by decide) (fun h15_ => ?_) (fun h15_ => ?_)
    · exact K13_ h15_
    · exact K14_ h15_
  obtain ⟨x39_, h40_, hf⟩ := ob hf
  suffices K41_ : Z Θ 5 0 0 (zQ Θ ρ) y3_.2 78 [(0, .ref (zA Θ 6)), (1, .int person_a), (2, .int turned_a), (3, .int y3_.1)] [.int (b2i x39_)] by
    refine z_aload_n C 0 dX5_hasItWith_61 rfl rfl ?_
    refine z_aload_n C 0 dX5_hasItWith_62 rfl rfl ?_
    refine fg5_34 C hkd dX5_hasItWith_63 ?_
    obtain ⟨x44_, h45_, h40_⟩ := ob h40_
    refine cr5_104 (among_a := (y3_.2 6 7)) C hkd  h45_ ⟨(Nat.le_of_ble_eq_true rfl), (Nat.le_of_ble_eq_true rfl)⟩ (Nat.le_of_ble_eq_true rfl) ⟨Nat.zero_le _, Nat.zero_le _⟩ dX5_hasItWith_66 ?_
    refine z_iload_n C 1 dX5_hasItWith_69 rfl rfl ?_
    have K42_ : x44_ = person_a → Z Θ 5 0 0 (zQ Θ ρ) y3_.2 73 [(0, .ref (zA Θ 6)), (1, .int person_a), (2, .int turned_a), (3, .int y3_.1)] [] := by
      intro h47_
      rw [if_pos h47_] at h40_
      refine z_iconst (v := 1) C dX5_hasItWith_73 ic_1 ?_
      refine z_goto C 78 dX5_hasItWith_74 (by decide) ?_
      cases h40_
      exact K41_
    have K43_ : ¬ (x44_ = person_a) → Z Θ 5 0 0 (zQ Θ ρ) y3_.2 77 [(0, .ref (zA Θ 6)), (1, .int person_a), (2, .int turned_a), (3, .int y3_.1)] [] := by
      intro h47_
      rw [if_neg h47_] at h40_
      refine z_iconst (v := 0) C dX5_hasItWith_77 ic_0 ?_
      cases h40_
      exact K41_
    refine c_eq_f C 77 dX5_hasItWith_70 (by decide) (fun h46_ => ?_) (fun h46_ => ?_)
    · exact K42_ h46_
    · exact K43_ h46_
  cases hf
  subst hρ
  exact z_zret C (b2i_narrow _) dX5_hasItWith_78
theorem c5_hasItWith {l : Launch} {kd : List KD} {w : Wp} {σ : St} {person_a : Int32} {turned_a : Int32} (hkd : kd = kdC) (hi : zI kd w) {r : (Bool × St)} (hf : q5_hasItWith σ person_a turned_a = some r) : zM l kd w yX5_hasItWith cX5_hasItWith 5 (some .boolean) rm5_hasItWith [.ref (w.2.2.1 6), .int person_a, .int turned_a] σ (some (.int (b2i r.1)), r.2) := zM_of rfl hi (Nat.le_of_ble_eq_true rfl) (fun Θ hl hw C => by
  obtain ⟨Θ1, Θ2, Θ3, Θ4, Θ5⟩ := Θ
  cases hw
  exact p5_hasItWith C hkd  hf rfl)

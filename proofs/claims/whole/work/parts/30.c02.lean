/-! LastLoaf$Reader.readVillageLine -/
theorem w_5_6 : Cond.code ({ cls := "LastLoaf$Reader", name := "readPerson", desc := "()Z" } : MethodName) prog_8_method_5_code (2 : Nat) (Option.some ClassFile.FieldType.boolean) ∈ TB := tb_in (lwt_5 (List.mem_of_getElem? (i := 6) (by decide +kernel))) rfl
theorem w_5_3 : Cond.methodLink "LastLoaf$Reader" (59 : Nat) ({ cls := "LastLoaf$Reader", name := "readPerson", desc := "()Z" } : MethodName) ∈ TB := tb_in (lwt_5 (List.mem_of_getElem? (i := 3) (by decide +kernel))) rfl
theorem w_5_4 : Cond.instanceMethod ({ cls := "LastLoaf$Reader", name := "readPerson", desc := "()Z" } : MethodName) ∈ TB := tb_in (lwt_5 (List.mem_of_getElem? (i := 4) (by decide +kernel))) rfl
theorem w_5_5 : Cond.selects "LastLoaf$Reader" ({ cls := "LastLoaf$Reader", name := "readPerson", desc := "()Z" } : MethodName) ({ cls := "LastLoaf$Reader", name := "readPerson", desc := "()Z" } : MethodName) ∈ TB := tb_in (lwt_5 (List.mem_of_getElem? (i := 5) (by decide +kernel))) rfl
theorem cr6_59 {Θ : Tz} {cc : ByteArray} {nL kc ks : Nat} {ret : Option FieldType} {rm : Room} {Q : State → Prop} {σ : St} {pc : Nat} {lv : List (Nat × Value)} {st : List Value} (C : Zc Θ cc nL RX6 ret rm) (hkd : Θ.2.2.2.2.1 = kdC) {r : Bool × St} (hx : q6_readPerson σ = some r) (hrm : rm6_readPerson.frames + 1 ≤ rm.frames ∧ 8 + (2 + 11) + rm6_readPerson.locals ≤ rm.locals) (hcat : (st.map fun v => v.category).sum ≤ 8) (hk : kc ≤ rm.cells ∧ ks ≤ rm.slots) (hd : decode cc pc = .ok (.invokevirtual 59, 3)) (kk : Z Θ nL kc ks Q r.2 (pc + 3) lv (.int (b2i r.1) :: st)) : Z Θ nL kc ks Q σ pc lv (.ref (zA Θ 3) :: st) := z_callV C 3 [] (some (.int (b2i r.1)), r.2) 0 (kC_3 hkd) rfl (c6_readPerson hkd (zc_inj C) hx) w_5_6 w_5_3 w_5_4 w_5_5 w_1_7 ⟨rfl, rfl, hrm.1, hrm.2⟩ (by decide +kernel) rfl rfl hcat hk hd kk
theorem w_5_30 : Cond.code ({ cls := "LastLoaf$Reader", name := "readLikes", desc := "()Z" } : MethodName) prog_8_method_7_code (4 : Nat) (Option.some ClassFile.FieldType.boolean) ∈ TB := tb_in (lwt_5 (List.mem_of_getElem? (i := 30) (by decide +kernel))) rfl
theorem w_5_27 : Cond.methodLink "LastLoaf$Reader" (64 : Nat) ({ cls := "LastLoaf$Reader", name := "readLikes", desc := "()Z" } : MethodName) ∈ TB := tb_in (lwt_5 (List.mem_of_getElem? (i := 27) (by decide +kernel))) rfl
theorem w_5_28 : Cond.instanceMethod ({ cls := "LastLoaf$Reader", name := "readLikes", desc := "()Z" } : MethodName) ∈ TB := tb_in (lwt_5 (List.mem_of_getElem? (i := 28) (by decide +kernel))) rfl
theorem w_5_29 : Cond.selects "LastLoaf$Reader" ({ cls := "LastLoaf$Reader", name := "readLikes", desc := "()Z" } : MethodName) ({ cls := "LastLoaf$Reader", name := "readLikes", desc := "()Z" } : MethodName) ∈ TB := tb_in (lwt_5 (List.mem_of_getElem? (i := 29) (by decide +kernel))) rfl
theorem cr6_64 {Θ : Tz} {cc : ByteArray} {nL kc ks : Nat} {ret : Option FieldType} {rm : Room} {Q : State → Prop} {σ : St} {pc : Nat} {lv : List (Nat × Value)} {st : List Value} (C : Zc Θ cc nL RX6 ret rm) (hkd : Θ.2.2.2.2.1 = kdC) {r : Bool × St} (hx : q6_readLikes σ = some r) (hrm : rm6_readLikes.frames + 1 ≤ rm.frames ∧ 8 + (4 + 11) + rm6_readLikes.locals ≤ rm.locals) (hcat : (st.map fun v => v.category).sum ≤ 8) (hk : kc ≤ rm.cells ∧ ks ≤ rm.slots) (hd : decode cc pc = .ok (.invokevirtual 64, 3)) (kk : Z Θ nL kc ks Q r.2 (pc + 3) lv (.int (b2i r.1) :: st)) : Z Θ nL kc ks Q σ pc lv (.ref (zA Θ 3) :: st) := z_callV C 3 [] (some (.int (b2i r.1)), r.2) 0 (kC_3 hkd) rfl (c6_readLikes hkd (zc_inj C) hx) w_5_30 w_5_27 w_5_28 w_5_29 w_1_7 ⟨rfl, rfl, hrm.1, hrm.2⟩ (by decide +kernel) rfl rfl hcat hk hd kk
theorem w_5_35 : Cond.code ({ cls := "LastLoaf$Reader", name := "readGrist", desc := "()Z" } : MethodName) prog_8_method_8_code (2 : Nat) (Option.some ClassFile.FieldType.boolean) ∈ TB := tb_in (lwt_5 (List.mem_of_getElem? (i := 35) (by decide +kernel))) rfl
theorem w_5_32 : Cond.methodLink "LastLoaf$Reader" (69 : Nat) ({ cls := "LastLoaf$Reader", name := "readGrist", desc := "()Z" } : MethodName) ∈ TB := tb_in (lwt_5 (List.mem_of_getElem? (i := 32) (by decide +kernel))) rfl
theorem w_5_33 : Cond.instanceMethod ({ cls := "LastLoaf$Reader", name := "readGrist", desc := "()Z" } : MethodName) ∈ TB := tb_in (lwt_5 (List.mem_of_getElem? (i := 33) (by decide +kernel))) rfl
theorem w_5_34 : Cond.selects "LastLoaf$Reader" ({ cls := "LastLoaf$Reader", name := "readGrist", desc := "()Z" } : MethodName) ({ cls := "LastLoaf$Reader", name := "readGrist", desc := "()Z" } : MethodName) ∈ TB := tb_in (lwt_5 (List.mem_of_getElem? (i := 34) (by decide +kernel))) rfl
theorem cr6_69 {Θ : Tz} {cc : ByteArray} {nL kc ks : Nat} {ret : Option FieldType} {rm : Room} {Q : State → Prop} {σ : St} {pc : Nat} {lv : List (Nat × Value)} {st : List Value} (C : Zc Θ cc nL RX6 ret rm) (hkd : Θ.2.2.2.2.1 = kdC) {r : Bool × St} (hx : q6_readGrist σ = some r) (hrm : rm6_readGrist.frames + 1 ≤ rm.frames ∧ 8 + (2 + 11) + rm6_readGrist.locals ≤ rm.locals) (hcat : (st.map fun v => v.category).sum ≤ 8) (hk : kc ≤ rm.cells ∧ ks ≤ rm.slots) (hd : decode cc pc = .ok (.invokevirtual 69, 3)) (kk : Z Θ nL kc ks Q r.2 (pc + 3) lv (.int (b2i r.1) :: st)) : Z Θ nL kc ks Q σ pc lv (.ref (zA Θ 3) :: st) := z_callV C 3 [] (some (.int (b2i r.1)), r.2) 0 (kC_3 hkd) rfl (c6_readGrist hkd (zc_inj C) hx) w_5_35 w_5_32 w_5_33 w_5_34 w_1_7 ⟨rfl, rfl, hrm.1, hrm.2⟩ (by decide +kernel) rfl rfl hcat hk hd kk
theorem w_1_145 : Cond.fieldLink "LastLoaf$Reader" (78 : Nat) "LastLoaf$Village" "flour" "I" ∈ TB := tb_in (lwt_1 (List.mem_of_getElem? (i := 145) (by decide +kernel))) rfl
theorem fp6_78 {Θ : Tz} {cc : ByteArray} {nL kc ks : Nat} {ret : Option FieldType} {rm : Room} {Q : State → Prop} {σ : St} {pc : Nat} {lv : List (Nat × Value)} {st : List Value} (C : Zc Θ cc nL RX6 ret rm) (hkd : Θ.2.2.2.2.1 = kdC) {th : Nat} (hth : isV th) {x : Int32} {σ1 : St} (he : σ1 = up σ th 11 x) (hd : decode cc pc = .ok (.putfield 78, 3)) (kk : Z Θ nL kc ks Q σ1 (pc + 3) lv st) : Z Θ nL kc ks Q σ pc lv (.int x :: .ref (zA Θ th) :: st) := by subst he; exact z_put C inT10 tyX10_ok nmX10 th (kV_0 hkd hth) rfl 11 (by decide) w_1_145 rfl rfl rfl rfl hd kk
theorem fg6_78 {Θ : Tz} {cc : ByteArray} {nL kc ks : Nat} {ret : Option FieldType} {rm : Room} {Q : State → Prop} {σ : St} {pc : Nat} {lv : List (Nat × Value)} {st : List Value} (C : Zc Θ cc nL RX6 ret rm) (hkd : Θ.2.2.2.2.1 = kdC) {th : Nat} (hth : isV th) (hd : decode cc pc = .ok (.getfield 78, 3)) (kk : Z Θ nL kc ks Q σ (pc + 3) lv (.int (σ th 11) :: st)) : Z Θ nL kc ks Q σ pc lv (.ref (zA Θ th) :: st) := z_get C inT10 th (kV_0 hkd hth) rfl 11 (by decide) w_1_145 rfl hd kk
theorem w_1_153 : Cond.fieldLink "LastLoaf$Reader" (84 : Nat) "LastLoaf$Village" "way" "I" ∈ TB := tb_in (lwt_1 (List.mem_of_getElem? (i := 153) (by decide +kernel))) rfl
theorem fp6_84 {Θ : Tz} {cc : ByteArray} {nL kc ks : Nat} {ret : Option FieldType} {rm : Room} {Q : State → Prop} {σ : St} {pc : Nat} {lv : List (Nat × Value)} {st : List Value} (C : Zc Θ cc nL RX6 ret rm) (hkd : Θ.2.2.2.2.1 = kdC) {th : Nat} (hth : isV th) {x : Int32} {σ1 : St} (he : σ1 = up σ th 13 x) (hd : decode cc pc = .ok (.putfield 84, 3)) (kk : Z Θ nL kc ks Q σ1 (pc + 3) lv st) : Z Θ nL kc ks Q σ pc lv (.int x :: .ref (zA Θ th) :: st) := by subst he; exact z_put C inT10 tyX10_ok nmX10 th (kV_0 hkd hth) rfl 13 (by decide) w_1_153 rfl rfl rfl rfl hd kk
theorem fg6_84 {Θ : Tz} {cc : ByteArray} {nL kc ks : Nat} {ret : Option FieldType} {rm : Room} {Q : State → Prop} {σ : St} {pc : Nat} {lv : List (Nat × Value)} {st : List Value} (C : Zc Θ cc nL RX6 ret rm) (hkd : Θ.2.2.2.2.1 = kdC) {th : Nat} (hth : isV th) (hd : decode cc pc = .ok (.getfield 84, 3)) (kk : Z Θ nL kc ks Q σ (pc + 3) lv (.int (σ th 13) :: st)) : Z Θ nL kc ks Q σ pc lv (.ref (zA Θ th) :: st) := z_get C inT10 th (kV_0 hkd hth) rfl 13 (by decide) w_1_153 rfl hd kk
theorem w_1_157 : Cond.fieldLink "LastLoaf$Reader" (88 : Nat) "LastLoaf$Village" "speech" "I" ∈ TB := tb_in (lwt_1 (List.mem_of_getElem? (i := 157) (by decide +kernel))) rfl
theorem fp6_88 {Θ : Tz} {cc : ByteArray} {nL kc ks : Nat} {ret : Option FieldType} {rm : Room} {Q : State → Prop} {σ : St} {pc : Nat} {lv : List (Nat × Value)} {st : List Value} (C : Zc Θ cc nL RX6 ret rm) (hkd : Θ.2.2.2.2.1 = kdC) {th : Nat} (hth : isV th) {x : Int32} {σ1 : St} (he : σ1 = up σ th 14 x) (hd : decode cc pc = .ok (.putfield 88, 3)) (kk : Z Θ nL kc ks Q σ1 (pc + 3) lv st) : Z Θ nL kc ks Q σ pc lv (.int x :: .ref (zA Θ th) :: st) := by subst he; exact z_put C inT10 tyX10_ok nmX10 th (kV_0 hkd hth) rfl 14 (by decide) w_1_157 rfl rfl rfl rfl hd kk
theorem fg6_88 {Θ : Tz} {cc : ByteArray} {nL kc ks : Nat} {ret : Option FieldType} {rm : Room} {Q : State → Prop} {σ : St} {pc : Nat} {lv : List (Nat × Value)} {st : List Value} (C : Zc Θ cc nL RX6 ret rm) (hkd : Θ.2.2.2.2.1 = kdC) {th : Nat} (hth : isV th) (hd : decode cc pc = .ok (.getfield 88, 3)) (kk : Z Θ nL kc ks Q σ (pc + 3) lv (.int (σ th 14) :: st)) : Z Θ nL kc ks Q σ pc lv (.ref (zA Θ th) :: st) := z_get C inT10 th (kV_0 hkd hth) rfl 14 (by decide) w_1_157 rfl hd kk
theorem w_1_150 : Cond.fieldLink "LastLoaf$Reader" (92 : Nat) "LastLoaf$Village" "week" "I" ∈ TB := tb_in (lwt_1 (List.mem_of_getElem? (i := 150) (by decide +kernel))) rfl
theorem fp6_92 {Θ : Tz} {cc : ByteArray} {nL kc ks : Nat} {ret : Option FieldType} {rm : Room} {Q : State → Prop} {σ : St} {pc : Nat} {lv : List (Nat × Value)} {st : List Value} (C : Zc Θ cc nL RX6 ret rm) (hkd : Θ.2.2.2.2.1 = kdC) {th : Nat} (hth : isV th) {x : Int32} {σ1 : St} (he : σ1 = up σ th 12 x) (hd : decode cc pc = .ok (.putfield 92, 3)) (kk : Z Θ nL kc ks Q σ1 (pc + 3) lv st) : Z Θ nL kc ks Q σ pc lv (.int x :: .ref (zA Θ th) :: st) := by subst he; exact z_put C inT10 tyX10_ok nmX10 th (kV_0 hkd hth) rfl 12 (by decide) w_1_150 rfl rfl rfl rfl hd kk
theorem fg6_92 {Θ : Tz} {cc : ByteArray} {nL kc ks : Nat} {ret : Option FieldType} {rm : Room} {Q : State → Prop} {σ : St} {pc : Nat} {lv : List (Nat × Value)} {st : List Value} (C : Zc Θ cc nL RX6 ret rm) (hkd : Θ.2.2.2.2.1 = kdC) {th : Nat} (hth : isV th) (hd : decode cc pc = .ok (.getfield 92, 3)) (kk : Z Θ nL kc ks Q σ (pc + 3) lv (.int (σ th 12) :: st)) : Z Θ nL kc ks Q σ pc lv (.ref (zA Θ th) :: st) := z_get C inT10 th (kV_0 hkd hth) rfl 12 (by decide) w_1_150 rfl hd kk
theorem dX6_readVillageLine_0 : decode cX6_readVillageLine 0 = .ok (.aload_n 0, 1) := by decide +kernel
theorem dX6_readVillageLine_1 : decode cX6_readVillageLine 1 = .ok (.getfield 22, 3) := by decide +kernel
theorem dX6_readVillageLine_4 : decode cX6_readVillageLine 4 = .ok (.ldc 53, 2) := by decide +kernel
theorem dX6_readVillageLine_6 : decode cX6_readVillageLine 6 = .ok (.invokevirtual 55, 3) := by decide +kernel
theorem dX6_readVillageLine_9 : decode cX6_readVillageLine 9 = .ok (.ifCond .eq 8, 3) := by decide +kernel
theorem dX6_readVillageLine_12 : decode cX6_readVillageLine 12 = .ok (.aload_n 0, 1) := by decide +kernel
theorem dX6_readVillageLine_13 : decode cX6_readVillageLine 13 = .ok (.invokevirtual 59, 3) := by decide +kernel
theorem dX6_readVillageLine_16 : decode cX6_readVillageLine 16 = .ok (.ireturn, 1) := by decide +kernel
theorem dX6_readVillageLine_17 : decode cX6_readVillageLine 17 = .ok (.aload_n 0, 1) := by decide +kernel
theorem dX6_readVillageLine_18 : decode cX6_readVillageLine 18 = .ok (.getfield 22, 3) := by decide +kernel
theorem dX6_readVillageLine_21 : decode cX6_readVillageLine 21 = .ok (.ldc 62, 2) := by decide +kernel
theorem dX6_readVillageLine_23 : decode cX6_readVillageLine 23 = .ok (.invokevirtual 55, 3) := by decide +kernel
theorem dX6_readVillageLine_26 : decode cX6_readVillageLine 26 = .ok (.ifCond .eq 8, 3) := by decide +kernel
theorem dX6_readVillageLine_29 : decode cX6_readVillageLine 29 = .ok (.aload_n 0, 1) := by decide +kernel
theorem dX6_readVillageLine_30 : decode cX6_readVillageLine 30 = .ok (.invokevirtual 64, 3) := by decide +kernel
theorem dX6_readVillageLine_33 : decode cX6_readVillageLine 33 = .ok (.ireturn, 1) := by decide +kernel
theorem dX6_readVillageLine_34 : decode cX6_readVillageLine 34 = .ok (.aload_n 0, 1) := by decide +kernel
theorem dX6_readVillageLine_35 : decode cX6_readVillageLine 35 = .ok (.getfield 22, 3) := by decide +kernel
theorem dX6_readVillageLine_38 : decode cX6_readVillageLine 38 = .ok (.ldc 67, 2) := by decide +kernel
theorem dX6_readVillageLine_40 : decode cX6_readVillageLine 40 = .ok (.invokevirtual 55, 3) := by decide +kernel
theorem dX6_readVillageLine_43 : decode cX6_readVillageLine 43 = .ok (.ifCond .eq 8, 3) := by decide +kernel
theorem dX6_readVillageLine_46 : decode cX6_readVillageLine 46 = .ok (.aload_n 0, 1) := by decide +kernel
theorem dX6_readVillageLine_47 : decode cX6_readVillageLine 47 = .ok (.invokevirtual 69, 3) := by decide +kernel
theorem dX6_readVillageLine_50 : decode cX6_readVillageLine 50 = .ok (.ireturn, 1) := by decide +kernel
theorem dX6_readVillageLine_51 : decode cX6_readVillageLine 51 = .ok (.aload_n 0, 1) := by decide +kernel
theorem dX6_readVillageLine_52 : decode cX6_readVillageLine 52 = .ok (.getfield 22, 3) := by decide +kernel
theorem dX6_readVillageLine_55 : decode cX6_readVillageLine 55 = .ok (.ldc 72, 2) := by decide +kernel
theorem dX6_readVillageLine_57 : decode cX6_readVillageLine 57 = .ok (.invokevirtual 55, 3) := by decide +kernel
theorem dX6_readVillageLine_60 : decode cX6_readVillageLine 60 = .ok (.ifCond .eq 34, 3) := by decide +kernel
theorem dX6_readVillageLine_63 : decode cX6_readVillageLine 63 = .ok (.aload_n 0, 1) := by decide +kernel
theorem dX6_readVillageLine_64 : decode cX6_readVillageLine 64 = .ok (.getfield 26, 3) := by decide +kernel
theorem dX6_readVillageLine_67 : decode cX6_readVillageLine 67 = .ok (.aload_n 0, 1) := by decide +kernel
theorem dX6_readVillageLine_68 : decode cX6_readVillageLine 68 = .ok (.sipush 999, 3) := by decide +kernel
theorem dX6_readVillageLine_71 : decode cX6_readVillageLine 71 = .ok (.invokevirtual 74, 3) := by decide +kernel
theorem dX6_readVillageLine_74 : decode cX6_readVillageLine 74 = .ok (.putfield 78, 3) := by decide +kernel
theorem dX6_readVillageLine_77 : decode cX6_readVillageLine 77 = .ok (.aload_n 0, 1) := by decide +kernel
theorem dX6_readVillageLine_78 : decode cX6_readVillageLine 78 = .ok (.getfield 26, 3) := by decide +kernel
theorem dX6_readVillageLine_81 : decode cX6_readVillageLine 81 = .ok (.getfield 78, 3) := by decide +kernel
theorem dX6_readVillageLine_84 : decode cX6_readVillageLine 84 = .ok (.iconst (-1), 1) := by decide +kernel
theorem dX6_readVillageLine_85 : decode cX6_readVillageLine 85 = .ok (.if_icmp .eq 7, 3) := by decide +kernel
theorem dX6_readVillageLine_88 : decode cX6_readVillageLine 88 = .ok (.iconst 1, 1) := by decide +kernel
theorem dX6_readVillageLine_89 : decode cX6_readVillageLine 89 = .ok (.goto 4, 3) := by decide +kernel
theorem dX6_readVillageLine_92 : decode cX6_readVillageLine 92 = .ok (.iconst 0, 1) := by decide +kernel
theorem dX6_readVillageLine_93 : decode cX6_readVillageLine 93 = .ok (.ireturn, 1) := by decide +kernel
theorem dX6_readVillageLine_94 : decode cX6_readVillageLine 94 = .ok (.aload_n 0, 1) := by decide +kernel
theorem dX6_readVillageLine_95 : decode cX6_readVillageLine 95 = .ok (.getfield 22, 3) := by decide +kernel
theorem dX6_readVillageLine_98 : decode cX6_readVillageLine 98 = .ok (.ldc 82, 2) := by decide +kernel
theorem dX6_readVillageLine_100 : decode cX6_readVillageLine 100 = .ok (.invokevirtual 55, 3) := by decide +kernel
theorem dX6_readVillageLine_103 : decode cX6_readVillageLine 103 = .ok (.ifCond .eq 32, 3) := by decide +kernel
theorem dX6_readVillageLine_106 : decode cX6_readVillageLine 106 = .ok (.aload_n 0, 1) := by decide +kernel
theorem dX6_readVillageLine_107 : decode cX6_readVillageLine 107 = .ok (.getfield 26, 3) := by decide +kernel
theorem dX6_readVillageLine_110 : decode cX6_readVillageLine 110 = .ok (.aload_n 0, 1) := by decide +kernel
theorem dX6_readVillageLine_111 : decode cX6_readVillageLine 111 = .ok (.iconst 5, 1) := by decide +kernel
theorem dX6_readVillageLine_112 : decode cX6_readVillageLine 112 = .ok (.invokevirtual 74, 3) := by decide +kernel
theorem dX6_readVillageLine_115 : decode cX6_readVillageLine 115 = .ok (.putfield 84, 3) := by decide +kernel
theorem dX6_readVillageLine_118 : decode cX6_readVillageLine 118 = .ok (.aload_n 0, 1) := by decide +kernel
theorem dX6_readVillageLine_119 : decode cX6_readVillageLine 119 = .ok (.getfield 26, 3) := by decide +kernel
theorem dX6_readVillageLine_122 : decode cX6_readVillageLine 122 = .ok (.getfield 84, 3) := by decide +kernel
theorem dX6_readVillageLine_125 : decode cX6_readVillageLine 125 = .ok (.iconst (-1), 1) := by decide +kernel
theorem dX6_readVillageLine_126 : decode cX6_readVillageLine 126 = .ok (.if_icmp .eq 7, 3) := by decide +kernel
theorem dX6_readVillageLine_129 : decode cX6_readVillageLine 129 = .ok (.iconst 1, 1) := by decide +kernel
theorem dX6_readVillageLine_130 : decode cX6_readVillageLine 130 = .ok (.goto 4, 3) := by decide +kernel
theorem dX6_readVillageLine_133 : decode cX6_readVillageLine 133 = .ok (.iconst 0, 1) := by decide +kernel
theorem dX6_readVillageLine_134 : decode cX6_readVillageLine 134 = .ok (.ireturn, 1) := by decide +kernel
theorem dX6_readVillageLine_135 : decode cX6_readVillageLine 135 = .ok (.aload_n 0, 1) := by decide +kernel
theorem dX6_readVillageLine_136 : decode cX6_readVillageLine 136 = .ok (.getfield 22, 3) := by decide +kernel
theorem dX6_readVillageLine_139 : decode cX6_readVillageLine 139 = .ok (.ldc 86, 2) := by decide +kernel
theorem dX6_readVillageLine_141 : decode cX6_readVillageLine 141 = .ok (.invokevirtual 55, 3) := by decide +kernel
theorem dX6_readVillageLine_144 : decode cX6_readVillageLine 144 = .ok (.ifCond .eq 33, 3) := by decide +kernel
theorem dX6_readVillageLine_147 : decode cX6_readVillageLine 147 = .ok (.aload_n 0, 1) := by decide +kernel
theorem dX6_readVillageLine_148 : decode cX6_readVillageLine 148 = .ok (.getfield 26, 3) := by decide +kernel
theorem dX6_readVillageLine_151 : decode cX6_readVillageLine 151 = .ok (.aload_n 0, 1) := by decide +kernel
theorem dX6_readVillageLine_152 : decode cX6_readVillageLine 152 = .ok (.bipush 100, 2) := by decide +kernel
theorem dX6_readVillageLine_154 : decode cX6_readVillageLine 154 = .ok (.invokevirtual 74, 3) := by decide +kernel
theorem dX6_readVillageLine_157 : decode cX6_readVillageLine 157 = .ok (.putfield 88, 3) := by decide +kernel
theorem dX6_readVillageLine_160 : decode cX6_readVillageLine 160 = .ok (.aload_n 0, 1) := by decide +kernel
theorem dX6_readVillageLine_161 : decode cX6_readVillageLine 161 = .ok (.getfield 26, 3) := by decide +kernel
theorem dX6_readVillageLine_164 : decode cX6_readVillageLine 164 = .ok (.getfield 88, 3) := by decide +kernel
theorem dX6_readVillageLine_167 : decode cX6_readVillageLine 167 = .ok (.iconst (-1), 1) := by decide +kernel
theorem dX6_readVillageLine_168 : decode cX6_readVillageLine 168 = .ok (.if_icmp .eq 7, 3) := by decide +kernel
theorem dX6_readVillageLine_171 : decode cX6_readVillageLine 171 = .ok (.iconst 1, 1) := by decide +kernel
theorem dX6_readVillageLine_172 : decode cX6_readVillageLine 172 = .ok (.goto 4, 3) := by decide +kernel
theorem dX6_readVillageLine_175 : decode cX6_readVillageLine 175 = .ok (.iconst 0, 1) := by decide +kernel
theorem dX6_readVillageLine_176 : decode cX6_readVillageLine 176 = .ok (.ireturn, 1) := by decide +kernel
theorem dX6_readVillageLine_177 : decode cX6_readVillageLine 177 = .ok (.aload_n 0, 1) := by decide +kernel
theorem dX6_readVillageLine_178 : decode cX6_readVillageLine 178 = .ok (.getfield 22, 3) := by decide +kernel
theorem dX6_readVillageLine_181 : decode cX6_readVillageLine 181 = .ok (.ldc 90, 2) := by decide +kernel
theorem dX6_readVillageLine_183 : decode cX6_readVillageLine 183 = .ok (.invokevirtual 55, 3) := by decide +kernel
theorem dX6_readVillageLine_186 : decode cX6_readVillageLine 186 = .ok (.ifCond .eq 34, 3) := by decide +kernel
theorem dX6_readVillageLine_189 : decode cX6_readVillageLine 189 = .ok (.aload_n 0, 1) := by decide +kernel
theorem dX6_readVillageLine_190 : decode cX6_readVillageLine 190 = .ok (.getfield 26, 3) := by decide +kernel
theorem dX6_readVillageLine_193 : decode cX6_readVillageLine 193 = .ok (.aload_n 0, 1) := by decide +kernel
theorem dX6_readVillageLine_194 : decode cX6_readVillageLine 194 = .ok (.sipush 999, 3) := by decide +kernel
theorem dX6_readVillageLine_197 : decode cX6_readVillageLine 197 = .ok (.invokevirtual 74, 3) := by decide +kernel
theorem dX6_readVillageLine_200 : decode cX6_readVillageLine 200 = .ok (.putfield 92, 3) := by decide +kernel
theorem dX6_readVillageLine_203 : decode cX6_readVillageLine 203 = .ok (.aload_n 0, 1) := by decide +kernel
theorem dX6_readVillageLine_204 : decode cX6_readVillageLine 204 = .ok (.getfield 26, 3) := by decide +kernel
theorem dX6_readVillageLine_207 : decode cX6_readVillageLine 207 = .ok (.getfield 92, 3) := by decide +kernel
theorem dX6_readVillageLine_210 : decode cX6_readVillageLine 210 = .ok (.iconst (-1), 1) := by decide +kernel
theorem dX6_readVillageLine_211 : decode cX6_readVillageLine 211 = .ok (.if_icmp .eq 7, 3) := by decide +kernel
theorem dX6_readVillageLine_214 : decode cX6_readVillageLine 214 = .ok (.iconst 1, 1) := by decide +kernel
theorem dX6_readVillageLine_215 : decode cX6_readVillageLine 215 = .ok (.goto 4, 3) := by decide +kernel
theorem dX6_readVillageLine_218 : decode cX6_readVillageLine 218 = .ok (.iconst 0, 1) := by decide +kernel
theorem dX6_readVillageLine_219 : decode cX6_readVillageLine 219 = .ok (.ireturn, 1) := by decide +kernel
theorem dX6_readVillageLine_220 : decode cX6_readVillageLine 220 = .ok (.iconst 0, 1) := by decide +kernel
theorem dX6_readVillageLine_221 : decode cX6_readVillageLine 221 = .ok (.ireturn, 1) := by decide +kernel
def q6_readVillageLine (σ : St) : Option (Bool × St) :=
  Option.bind (q8_isWord σ 0) fun x3_ =>
  if x3_ = true then (Option.bind (q6_readPerson σ) fun x7_ =>
  some (x7_.1, x7_.2)) else
  Option.bind (q8_isWord σ 7) fun x11_ =>
  if x11_ = true then (Option.bind (q6_readLikes σ) fun x15_ =>
  some (x15_.1, x15_.2)) else
  Option.bind (q8_isWord σ 8) fun x19_ =>
  if x19_ = true then (Option.bind (q6_readGrist σ) fun x23_ =>
  some (x23_.1, x23_.2)) else
  Option.bind (q8_isWord σ 13) fun x27_ =>
  if x27_ = true then (Option.bind (q6_numberFollows σ 999) fun x31_ =>
  lt (up x31_.2 54 11 x31_.1) fun σ33_ =>
  some (decide (¬ (σ33_ 54 11) = (-1)), σ33_)) else
  Option.bind (q8_isWord σ 14) fun x42_ =>
  if x42_ = true then (Option.bind (q6_numberFollows σ 5) fun x46_ =>
  lt (up x46_.2 54 13 x46_.1) fun σ48_ =>
  some (decide (¬ (σ48_ 54 13) = (-1)), σ48_)) else
  Option.bind (q8_isWord σ 15) fun x57_ =>
  if x57_ = true then (Option.bind (q6_numberFollows σ 100) fun x61_ =>
  lt (up x61_.2 54 14 x61_.1) fun σ63_ =>
  some (decide (¬ (σ63_ 54 14) = (-1)), σ63_)) else
  Option.bind (q8_isWord σ 16) fun x72_ =>
  if x72_ = true then (Option.bind (q6_numberFollows σ 999) fun x76_ =>
  lt (up x76_.2 54 12 x76_.1) fun σ78_ =>
  some (decide (¬ (σ78_ 54 12) = (-1)), σ78_)) else
  some (false, σ)
abbrev rm6_readVillageLine : Room := { frames := 7, cells := 0, slots := 0, locals := 149 }
set_option maxHeartbeats 4000000 in
set_option maxRecDepth 100000 in
theorem p6_readVillageLine {Θ : Tz} {σ : St} {ρ : Option Value × St} (C : Zc Θ cX6_readVillageLine 1 RX6 (some .boolean) rm6_readVillageLine) (hkd : Θ.2.2.2.2.1 = kdC) {r : (Bool × St)} (hf : q6_readVillageLine σ = some r) (hρ : ρ = (some (.int (b2i r.1)), r.2)) : Z Θ 1 0 0 (zQ Θ ρ) σ 0 [(0, .ref (zA Θ 3))] [] := by
  unfold q6_readVillageLine at hf
  refine z_aload_n C 0 dX6_readVillageLine_0 rfl rfl ?_
  refine fg6_22 C hkd dX6_readVillageLine_1 ?_
  refine z_ldcs (k := 0) (tx := "person") C (List.mem_of_getElem? (i := 0) rfl) dX6_readVillageLine_4 ?_
  obtain ⟨x3_, h4_, hf⟩ := ob hf
  refine cr6_55 (word_a := 0) C hkd (Nat.le_of_ble_eq_true rfl) h4_ ⟨(Nat.le_of_ble_eq_true rfl), (Nat.le_of_ble_eq_true rfl)⟩ (Nat.le_of_ble_eq_true rfl) ⟨Nat.zero_le _, Nat.zero_le _⟩ dX6_readVillageLine_6 ?_
  have K1_ : x3_ = true → Z Θ 1 0 0 (zQ Θ ρ) σ 12 [(0, .ref (zA Θ 3))] [] := by
    intro h6_
    rw [if_pos h6_] at hf
    refine z_aload_n C 0 dX6_readVillageLine_12 rfl rfl ?_
    obtain ⟨x7_, h8_, hf⟩ := ob hf
    refine cr6_59 C hkd  h8_ ⟨(Nat.le_of_ble_eq_true rfl), (Nat.le_of_ble_eq_true rfl)⟩ (Nat.le_of_ble_eq_true rfl) ⟨Nat.zero_le _, Nat.zero_le _⟩ dX6_readVillageLine_13 ?_
    cases hf
    subst hρ
    exact z_zret C (b2i_narrow _) dX6_readVillageLine_16
  suffices K2_ : ¬ (x3_ = true) → Z Θ 1 0 0 (zQ Θ ρ) σ 17 [(0, .ref (zA Θ 3))] [] by
    refine cb_f C 17 dX6_readVillageLine_9 (by decide) (fun h5_ => ?_) (fun h5_ => ?_)
    · exact K1_ h5_
    · exact K2_ h5_
  intro h6_
  rw [if_neg h6_] at hf
  refine z_aload_n C 0 dX6_readVillageLine_17 rfl rfl ?_
  refine fg6_22 C hkd dX6_readVillageLine_18 ?_
  refine z_ldcs (k := 7) (tx := "likes") C (List.mem_of_getElem? (i := 7) rfl) dX6_readVillageLine_21 ?_
  obtain ⟨x11_, h12_, hf⟩ := ob hf
  refine cr6_55 (word_a := 7) C hkd (Nat.le_of_ble_eq_true rfl) h12_ ⟨(Nat.le_of_ble_eq_true rfl), (Nat.le_of_ble_eq_true rfl)⟩ (Nat.le_of_ble_eq_true rfl) ⟨Nat.zero_le _, Nat.zero_le _⟩ dX6_readVillageLine_23 ?_
  have K9_ : x11_ = true → Z Θ 1 0 0 (zQ Θ ρ) σ 29 [(0, .ref (zA Θ 3))] [] := by
    intro h14_
    rw [if_pos h14_] at hf
    refine z_aload_n C 0 dX6_readVillageLine_29 rfl rfl ?_
    obtain ⟨x15_, h16_, hf⟩ := ob hf
    refine cr6_64 C hkd  h16_ ⟨(Nat.le_of_ble_eq_true rfl), (Nat.le_of_ble_eq_true rfl)⟩ (Nat.le_of_ble_eq_true rfl) ⟨Nat.zero_le _, Nat.zero_le _⟩ dX6_readVillageLine_30 ?_
    cases hf
    subst hρ
    exact z_zret C (b2i_narrow _) dX6_readVillageLine_33
  suffices K10_ : ¬ (x11_ = true) → Z Θ 1 0 0 (zQ Θ ρ) σ 34 [(0, .ref (zA Θ 3))] [] by
    refine cb_f C 34 dX6_readVillageLine_26 (by decide) (fun h13_ => ?_) (fun h13_ => ?_)
    · exact K9_ h13_
    · exact K10_ h13_
  intro h14_
  rw [if_neg h14_] at hf
  refine z_aload_n C 0 dX6_readVillageLine_34 rfl rfl ?_
  refine fg6_22 C hkd dX6_readVillageLine_35 ?_
  refine z_ldcs (k := 8) (tx := "grist") C (List.mem_of_getElem? (i := 8) rfl) dX6_readVillageLine_38 ?_
  obtain ⟨x19_, h20_, hf⟩ := ob hf
  refine cr6_55 (word_a := 8) C hkd (Nat.le_of_ble_eq_true rfl) h20_ ⟨(Nat.le_of_ble_eq_true rfl), (Nat.le_of_ble_eq_true rfl)⟩ (Nat.le_of_ble_eq_true rfl) ⟨Nat.zero_le _, Nat.zero_le _⟩ dX6_readVillageLine_40 ?_
  have K17_ : x19_ = true → Z Θ 1 0 0 (zQ Θ ρ) σ 46 [(0, .ref (zA Θ 3))] [] := by
    intro h22_
    rw [if_pos h22_] at hf
    refine z_aload_n C 0 dX6_readVillageLine_46 rfl rfl ?_
    obtain ⟨x23_, h24_, hf⟩ := ob hf
    refine cr6_69 C hkd  h24_ ⟨(Nat.le_of_ble_eq_true rfl), (Nat.le_of_ble_eq_true rfl)⟩ (Nat.le_of_ble_eq_true rfl) ⟨Nat.zero_le _, Nat.zero_le _⟩ dX6_readVillageLine_47 ?_
    cases hf
    subst hρ
    exact z_zret C (b2i_narrow _) dX6_readVillageLine_50
  suffices K18_ : ¬ (x19_ = true) → Z Θ 1 0 0 (zQ Θ ρ) σ 51 [(0, .ref (zA Θ 3))] [] by
    refine cb_f C 51 dX6_readVillageLine_43 (by decide) (fun h21_ => ?_) (fun h21_ => ?_)
    · exact K17_ h21_
    · exact K18_ h21_
  intro h22_
  rw [if_neg h22_] at hf
  refine z_aload_n C 0 dX6_readVillageLine_51 rfl rfl ?_
  refine fg6_22 C hkd dX6_readVillageLine_52 ?_
  refine z_ldcs (k := 13) (tx := "flour") C (List.mem_of_getElem? (i := 13) rfl) dX6_readVillageLine_55 ?_
  obtain ⟨x27_, h28_, hf⟩ := ob hf
  refine cr6_55 (word_a := 13) C hkd (Nat.le_of_ble_eq_true rfl) h28_ ⟨(Nat.le_of_ble_eq_true rfl), (Nat.le_of_ble_eq_true rfl)⟩ (Nat.le_of_ble_eq_true rfl) ⟨Nat.zero_le _, Nat.zero_le _⟩ dX6_readVillageLine_57 ?_
  have K25_ : x27_ = true → Z Θ 1 0 0 (zQ Θ ρ) σ 63 [(0, .ref (zA Θ 3))] [] := by
    intro h30_
    rw [if_pos h30_] at hf
    refine z_aload_n C 0 dX6_readVillageLine_63 rfl rfl ?_
    refine fg6_26 C hkd dX6_readVillageLine_64 ?_
    refine z_aload_n C 0 dX6_readVillageLine_67 rfl rfl ?_
    refine z_sipush (v := 999) C dX6_readVillageLine_68 sp_999 ?_
    obtain ⟨x31_, h32_, hf⟩ := ob hf
    refine cr6_74 (most_a := 999) C hkd  h32_ ⟨(Nat.le_of_ble_eq_true rfl), (Nat.le_of_ble_eq_true rfl)⟩ (Nat.le_of_ble_eq_true rfl) ⟨Nat.zero_le _, Nat.zero_le _⟩ dX6_readVillageLine_71 ?_
    obtain ⟨σ33_, h34_, hf⟩ := lt_ hf
    refine fp6_78 C hkd isV_54 h34_ dX6_readVillageLine_74 ?_
    suffices K35_ : Z Θ 1 0 0 (zQ Θ ρ) σ33_ 93 [(0, .ref (zA Θ 3))] [.int (b2i (decide (¬ (σ33_ 54 11) = (-1))))] by
      have K36_ : ¬ (σ33_ 54 11) = (-1) → Z Θ 1 0 0 (zQ Θ ρ) σ33_ 88 [(0, .ref (zA Θ 3))] [] := by
        intro h39_
        rw [decide_eq_true h39_] at K35_
        refine z_iconst (v := 1) C dX6_readVillageLine_88 ic_1 ?_
        refine z_goto C 93 dX6_readVillageLine_89 (by decide) ?_
        exact K35_
      have K37_ : ¬ (¬ (σ33_ 54 11) = (-1)) → Z Θ 1 0 0 (zQ Θ ρ) σ33_ 92 [(0, .ref (zA Θ 3))] [] := by
        intro h39_
        rw [decide_eq_false h39_] at K35_
        refine z_iconst (v := 0) C dX6_readVillageLine_92 ic_0 ?_
        exact K35_
      refine z_aload_n C 0 dX6_readVillageLine_77 rfl rfl ?_
      refine fg6_26 C hkd dX6_readVillageLine_78 ?_
      refine fg6_78 C hkd isV_54 dX6_readVillageLine_81 ?_
      refine z_iconst (v := (-1)) C dX6_readVillageLine_84 ic_m1 ?_
      refine c_ne_f C 92 dX6_readVillageLine_85 (by decide) (fun h38_ => ?_) (fun h38_ => ?_)
      · exact K36_ h38_
      · exact K37_ h38_
    cases hf
    subst hρ
    exact z_zret C (b2i_narrow _) dX6_readVillageLine_93
  suffices K26_ : ¬ (x27_ = true) → Z Θ 1 0 0 (zQ Θ ρ) σ 94 [(0, .ref (zA Θ 3))] [] by
    refine cb_f C 94 dX6_readVillageLine_60 (by decide) (fun h29_ => ?_) (fun h29_ => ?_)
    · exact K25_ h29_
    · exact K26_ h29_
  intro h30_
  rw [if_neg h30_] at hf
  refine z_aload_n C 0 dX6_readVillageLine_94 rfl rfl ?_
  refine fg6_22 C hkd dX6_readVillageLine_95 ?_
  refine z_ldcs (k := 14) (tx := "way") C (List.mem_of_getElem? (i := 14) rfl) dX6_readVillageLine_98 ?_
  obtain ⟨x42_, h43_, hf⟩ := ob hf
  refine cr6_55 (word_a := 14) C hkd (Nat.le_of_ble_eq_true rfl) h43_ ⟨(Nat.le_of_ble_eq_true rfl), (Nat.le_of_ble_eq_true rfl)⟩ (Nat.le_of_ble_eq_true rfl) ⟨Nat.zero_le _, Nat.zero_le _⟩ dX6_readVillageLine_100 ?_
  have K40_ : x42_ = true → Z Θ 1 0 0 (zQ Θ ρ) σ 106 [(0, .ref (zA Θ 3))] [] := by
    intro h45_
    rw [if_pos h45_] at hf
    refine z_aload_n C 0 dX6_readVillageLine_106 rfl rfl ?_
    refine fg6_26 C hkd dX6_readVillageLine_107 ?_
    refine z_aload_n C 0 dX6_readVillageLine_110 rfl rfl ?_
    refine z_iconst (v := 5) C dX6_readVillageLine_111 ic_5 ?_
    obtain ⟨x46_, h47_, hf⟩ := ob hf
    refine cr6_74 (most_a := 5) C hkd  h47_ ⟨(Nat.le_of_ble_eq_true rfl), (Nat.le_of_ble_eq_true rfl)⟩ (Nat.le_of_ble_eq_true rfl) ⟨Nat.zero_le _, Nat.zero_le _⟩ dX6_readVillageLine_112 ?_
    obtain ⟨σ48_, h49_, hf⟩ := lt_ hf
    refine fp6_84 C hkd isV_54 h49_ dX6_readVillageLine_115 ?_
    suffices K50_ : Z Θ 1 0 0 (zQ Θ ρ) σ48_ 134 [(0, .ref (zA Θ 3))] [.int (b2i (decide (¬ (σ48_ 54 13) = (-1))))] by
      have K51_ : ¬ (σ48_ 54 13) = (-1) → Z Θ 1 0 0 (zQ Θ ρ) σ48_ 129 [(0, .ref (zA Θ 3))] [] := by
        intro h54_
        rw [decide_eq_true h54_] at K50_
        refine z_iconst (v := 1) C dX6_readVillageLine_129 ic_1 ?_
        refine z_goto C 134 dX6_readVillageLine_130 (by decide) ?_
        exact K50_
      have K52_ : ¬ (¬ (σ48_ 54 13) = (-1)) → Z Θ 1 0 0 (zQ Θ ρ) σ48_ 133 [(0, .ref (zA Θ 3))] [] := by
        intro h54_
        rw [decide_eq_false h54_] at K50_
        refine z_iconst (v := 0) C dX6_readVillageLine_133 ic_0 ?_
        exact K50_
      refine z_aload_n C 0 dX6_readVillageLine_118 rfl rfl ?_
      refine fg6_26 C hkd dX6_readVillageLine_119 ?_
      refine fg6_84 C hkd isV_54 dX6_readVillageLine_122 ?_
      refine z_iconst (v := (-1)) C dX6_readVillageLine_125 ic_m1 ?_
      refine c_ne_f C 133 dX6_readVillageLine_126 (by decide) (fun h53_ => ?_) (fun h53_ => ?_)
      · exact K51_ h53_
      · exact K52_ h53_
    cases hf
    subst hρ
    exact z_zret C (b2i_narrow _) dX6_readVillageLine_134
  suffices K41_ : ¬ (x42_ = true) → Z Θ 1 0 0 (zQ Θ ρ) σ 135 [(0, .ref (zA Θ 3))] [] by
    refine cb_f C 135 dX6_readVillageLine_103 (by decide) (fun h44_ => ?_) (fun h44_ => ?_)
    · exact K40_ h44_
    · exact K41_ h44_
  intro h45_
  rw [if_neg h45_] at hf
  refine z_aload_n C 0 dX6_readVillageLine_135 rfl rfl ?_
  refine fg6_22 C hkd dX6_readVillageLine_136 ?_
  refine z_ldcs (k := 15) (tx := "speech") C (List.mem_of_getElem? (i := 15) rfl) dX6_readVillageLine_139 ?_
  obtain ⟨x57_, h58_, hf⟩ := ob hf
  refine cr6_55 (word_a := 15) C hkd (Nat.le_of_ble_eq_true rfl) h58_ ⟨(Nat.le_of_ble_eq_true rfl), (Nat.le_of_ble_eq_true rfl)⟩ (Nat.le_of_ble_eq_true rfl) ⟨Nat.zero_le _, Nat.zero_le _⟩ dX6_readVillageLine_141 ?_
  have K55_ : x57_ = true → Z Θ 1 0 0 (zQ Θ ρ) σ 147 [(0, .ref (zA Θ 3))] [] := by
    intro h60_
    rw [if_pos h60_] at hf
    refine z_aload_n C 0 dX6_readVillageLine_147 rfl rfl ?_
    refine fg6_26 C hkd dX6_readVillageLine_148 ?_
    refine z_aload_n C 0 dX6_readVillageLine_151 rfl rfl ?_
    refine z_bipush (v := 100) C dX6_readVillageLine_152 bp_100 ?_
    obtain ⟨x61_, h62_, hf⟩ := ob hf
    refine cr6_74 (most_a := 100) C hkd  h62_ ⟨(Nat.le_of_ble_eq_true rfl), (Nat.le_of_ble_eq_true rfl)⟩ (Nat.le_of_ble_eq_true rfl) ⟨Nat.zero_le _, Nat.zero_le _⟩ dX6_readVillageLine_154 ?_
    obtain ⟨σ63_, h64_, hf⟩ := lt_ hf
    refine fp6_88 C hkd isV_54 h64_ dX6_readVillageLine_157 ?_
    suffices K65_ : Z Θ 1 0 0 (zQ Θ ρ) σ63_ 176 [(0, .ref (zA Θ 3))] [.int (b2i (decide (¬ (σ63_ 54 14) = (-1))))] by
      have K66_ : ¬ (σ63_ 54 14) = (-1) → Z Θ 1 0 0 (zQ Θ ρ) σ63_ 171 [(0, .ref (zA Θ 3))] [] := by
        intro h69_
        rw [decide_eq_true h69_] at K65_
        refine z_iconst (v := 1) C dX6_readVillageLine_171 ic_1 ?_
        refine z_goto C 176 dX6_readVillageLine_172 (by decide) ?_
        exact K65_
      have K67_ : ¬ (¬ (σ63_ 54 14) = (-1)) → Z Θ 1 0 0 (zQ Θ ρ) σ63_ 175 [(0, .ref (zA Θ 3))] [] := by
        intro h69_
        rw [decide_eq_false h69_] at K65_
        refine z_iconst (v := 0) C dX6_readVillageLine_175 ic_0 ?_
        exact K65_
      refine z_aload_n C 0 dX6_readVillageLine_160 rfl rfl ?_
      refine fg6_26 C hkd dX6_readVillageLine_161 ?_
      refine fg6_88 C hkd isV_54 dX6_readVillageLine_164 ?_
      refine z_iconst (v := (-1)) C dX6_readVillageLine_167 ic_m1 ?_
      refine c_ne_f C 175 dX6_readVillageLine_168 (by decide) (fun h68_ => ?_) (fun h68_ => ?_)
      · exact K66_ h68_
      · exact K67_ h68_
    cases hf
    subst hρ
    exact z_zret C (b2i_narrow _) dX6_readVillageLine_176
  suffices K56_ : ¬ (x57_ = true) → Z Θ 1 0 0 (zQ Θ ρ) σ 177 [(0, .ref (zA Θ 3))] [] by
    refine cb_f C 177 dX6_readVillageLine_144 (by decide) (fun h59_ => ?_) (fun h59_ => ?_)
    · exact K55_ h59_
    · exact K56_ h59_
  intro h60_
  rw [if_neg h60_] at hf
  refine z_aload_n C 0 dX6_readVillageLine_177 rfl rfl ?_
  refine fg6_22 C hkd dX6_readVillageLine_178 ?_
  refine z_ldcs (k := 16) (tx := "week") C (List.mem_of_getElem? (i := 16) rfl) dX6_readVillageLine_181 ?_
  obtain ⟨x72_, h73_, hf⟩ := ob hf
  refine cr6_55 (word_a := 16) C hkd (Nat.le_of_ble_eq_true rfl) h73_ ⟨(Nat.le_of_ble_eq_true rfl), (Nat.le_of_ble_eq_true rfl)⟩ (Nat.le_of_ble_eq_true rfl) ⟨Nat.zero_le _, Nat.zero_le _⟩ dX6_readVillageLine_183 ?_
  have K70_ : x72_ = true → Z Θ 1 0 0 (zQ Θ ρ) σ 189 [(0, .ref (zA Θ 3))] [] := by
    intro h75_
    rw [if_pos h75_] at hf
    refine z_aload_n C 0 dX6_readVillageLine_189 rfl rfl ?_
    refine fg6_26 C hkd dX6_readVillageLine_190 ?_
    refine z_aload_n C 0 dX6_readVillageLine_193 rfl rfl ?_
    refine z_sipush (v := 999) C dX6_readVillageLine_194 sp_999 ?_
    obtain ⟨x76_, h77_, hf⟩ := ob hf
    refine cr6_74 (most_a := 999) C hkd  h77_ ⟨(Nat.le_of_ble_eq_true rfl), (Nat.le_of_ble_eq_true rfl)⟩ (Nat.le_of_ble_eq_true rfl) ⟨Nat.zero_le _, Nat.zero_le _⟩ dX6_readVillageLine_197 ?_
    obtain ⟨σ78_, h79_, hf⟩ := lt_ hf
    refine fp6_92 C hkd isV_54 h79_ dX6_readVillageLine_200 ?_
    suffices K80_ : Z Θ 1 0 0 (zQ Θ ρ) σ78_ 219 [(0, .ref (zA Θ 3))] [.int (b2i (decide (¬ (σ78_ 54 12) = (-1))))] by
      have K81_ : ¬ (σ78_ 54 12) = (-1) → Z Θ 1 0 0 (zQ Θ ρ) σ78_ 214 [(0, .ref (zA Θ 3))] [] := by
        intro h84_
        rw [decide_eq_true h84_] at K80_
        refine z_iconst (v := 1) C dX6_readVillageLine_214 ic_1 ?_
        refine z_goto C 219 dX6_readVillageLine_215 (by decide) ?_
        exact K80_
      have K82_ : ¬ (¬ (σ78_ 54 12) = (-1)) → Z Θ 1 0 0 (zQ Θ ρ) σ78_ 218 [(0, .ref (zA Θ 3))] [] := by
        intro h84_
        rw [decide_eq_false h84_] at K80_
        refine z_iconst (v := 0) C dX6_readVillageLine_218 ic_0 ?_
        exact K80_
      refine z_aload_n C 0 dX6_readVillageLine_203 rfl rfl ?_
      refine fg6_26 C hkd dX6_readVillageLine_204 ?_
      refine fg6_92 C hkd isV_54 dX6_readVillageLine_207 ?_
      refine z_iconst (v := (-1)) C dX6_readVillageLine_210 ic_m1 ?_
      refine c_ne_f C 218 dX6_readVillageLine_211 (by decide) (fun h83_ => ?_) (fun h83_ => ?_)
      · exact K81_ h83_
      · exact K82_ h83_
    cases hf
    subst hρ
    exact z_zret C (b2i_narrow _) dX6_readVillageLine_219
  suffices K71_ : ¬ (x72_ = true) → Z Θ 1 0 0 (zQ Θ ρ) σ 220 [(0, .ref (zA Θ 3))] [] by
    refine cb_f C 220 dX6_readVillageLine_186 (by decide) (fun h74_ => ?_) (fun h74_ => ?_)
    · exact K70_ h74_
    · exact K71_ h74_
  intro h75_
  rw [if_neg h75_] at hf
  refine z_iconst (v := 0) C dX6_readVillageLine_220 ic_0 ?_
  cases hf
  subst hρ
  exact z_zret C (b2i_narrow _) dX6_readVillageLine_221
theorem c6_readVillageLine {l : Launch} {kd : List KD} {w : Wp} {σ : St} (hkd : kd = kdC) (hi : zI kd w) {r : (Bool × St)} (hf : q6_readVillageLine σ = some r) : zM l kd w yX6_readVillageLine cX6_readVillageLine 1 (some .boolean) rm6_readVillageLine [.ref (w.2.2.1 3)] σ (some (.int (b2i r.1)), r.2) := zM_of rfl hi (Nat.le_of_ble_eq_true rfl) (fun Θ hl hw C => by
  obtain ⟨Θ1, Θ2, Θ3, Θ4, Θ5⟩ := Θ
  cases hw
  exact p6_readVillageLine C hkd  hf rfl)
/-! LastLoaf$Tape.isAtEnd -/
theorem dX8_isAtEnd_0 : decode cX8_isAtEnd 0 = .ok (.aload_n 0, 1) := by decide +kernel
theorem dX8_isAtEnd_1 : decode cX8_isAtEnd 1 = .ok (.getfield 25, 3) := by decide +kernel
theorem dX8_isAtEnd_4 : decode cX8_isAtEnd 4 = .ok (.ifCond .ne 7, 3) := by decide +kernel
theorem dX8_isAtEnd_7 : decode cX8_isAtEnd 7 = .ok (.iconst 1, 1) := by decide +kernel
theorem dX8_isAtEnd_8 : decode cX8_isAtEnd 8 = .ok (.goto 4, 3) := by decide +kernel
theorem dX8_isAtEnd_11 : decode cX8_isAtEnd 11 = .ok (.iconst 0, 1) := by decide +kernel
theorem dX8_isAtEnd_12 : decode cX8_isAtEnd 12 = .ok (.ireturn, 1) := by decide +kernel
def q8_isAtEnd (σ : St) : Bool :=
  decide ((σ 1 4) = 0)
abbrev rm8_isAtEnd : Room := { frames := 0, cells := 0, slots := 0, locals := 0 }
set_option maxHeartbeats 4000000 in
set_option maxRecDepth 100000 in
theorem p8_isAtEnd {Θ : Tz} {σ : St} {ρ : Option Value × St} (C : Zc Θ cX8_isAtEnd 1 RX8 (some .boolean) rm8_isAtEnd) (hkd : Θ.2.2.2.2.1 = kdC) {r : Bool} (hf : q8_isAtEnd σ = r) (hρ : ρ = (some (.int (b2i r)), σ)) : Z Θ 1 0 0 (zQ Θ ρ) σ 0 [(0, .ref (zA Θ 1))] [] := by
  unfold q8_isAtEnd at hf
  suffices K1_ : Z Θ 1 0 0 (zQ Θ ρ) σ 12 [(0, .ref (zA Θ 1))] [.int (b2i (decide ((σ 1 4) = 0)))] by
    have K2_ : (σ 1 4) = 0 → Z Θ 1 0 0 (zQ Θ ρ) σ 7 [(0, .ref (zA Θ 1))] [] := by
      intro h5_
      rw [decide_eq_true h5_] at K1_
      refine z_iconst (v := 1) C dX8_isAtEnd_7 ic_1 ?_
      refine z_goto C 12 dX8_isAtEnd_8 (by decide) ?_
      exact K1_
    have K3_ : ¬ ((σ 1 4) = 0) → Z Θ 1 0 0 (zQ Θ ρ) σ 11 [(0, .ref (zA Θ 1))] [] := by
      intro h5_
      rw [decide_eq_false h5_] at K1_
      refine z_iconst (v := 0) C dX8_isAtEnd_11 ic_0 ?_
      exact K1_
    refine z_aload_n C 0 dX8_isAtEnd_0 rfl rfl ?_
    refine fg8_25 C hkd dX8_isAtEnd_1 ?_
    refine c0_eq_f C 11 dX8_isAtEnd_4 (by decide) (fun h4_ => ?_) (fun h4_ => ?_)
    · exact K2_ h4_
    · exact K3_ h4_
  subst hf
  subst hρ
  exact z_zret C (b2i_narrow _) dX8_isAtEnd_12
theorem c8_isAtEnd {l : Launch} {kd : List KD} {w : Wp} {σ : St} (hkd : kd = kdC) (hi : zI kd w) : zM l kd w yX8_isAtEnd cX8_isAtEnd 1 (some .boolean) rm8_isAtEnd [.ref (w.2.2.1 1)] σ (some (.int (b2i (q8_isAtEnd σ))), σ) := zM_of rfl hi (Nat.le_of_ble_eq_true rfl) (fun Θ hl hw C => by
  obtain ⟨Θ1, Θ2, Θ3, Θ4, Θ5⟩ := Θ
  cases hw
  exact p8_isAtEnd C hkd  rfl rfl)
/-! LastLoaf$Tape.isSign -/
theorem dX8_isSign_0 : decode cX8_isSign 0 = .ok (.aload_n 0, 1) := by decide +kernel
theorem dX8_isSign_1 : decode cX8_isSign 1 = .ok (.getfield 25, 3) := by decide +kernel
theorem dX8_isSign_4 : decode cX8_isSign 4 = .ok (.iconst 3, 1) := by decide +kernel
theorem dX8_isSign_5 : decode cX8_isSign 5 = .ok (.if_icmp .ne 20, 3) := by decide +kernel
theorem dX8_isSign_8 : decode cX8_isSign 8 = .ok (.aload_n 0, 1) := by decide +kernel
theorem dX8_isSign_9 : decode cX8_isSign 9 = .ok (.getfield 9, 3) := by decide +kernel
theorem dX8_isSign_12 : decode cX8_isSign 12 = .ok (.aload_n 0, 1) := by decide +kernel
theorem dX8_isSign_13 : decode cX8_isSign 13 = .ok (.getfield 19, 3) := by decide +kernel
theorem dX8_isSign_16 : decode cX8_isSign 16 = .ok (.iaload, 1) := by decide +kernel
theorem dX8_isSign_17 : decode cX8_isSign 17 = .ok (.iload_n 1, 1) := by decide +kernel
theorem dX8_isSign_18 : decode cX8_isSign 18 = .ok (.if_icmp .ne 7, 3) := by decide +kernel
theorem dX8_isSign_21 : decode cX8_isSign 21 = .ok (.iconst 1, 1) := by decide +kernel
theorem dX8_isSign_22 : decode cX8_isSign 22 = .ok (.goto 4, 3) := by decide +kernel
theorem dX8_isSign_25 : decode cX8_isSign 25 = .ok (.iconst 0, 1) := by decide +kernel
theorem dX8_isSign_26 : decode cX8_isSign 26 = .ok (.ireturn, 1) := by decide +kernel
def q8_isSign (σ : St) (sign_a : Int32) : Option Bool :=
  Option.bind (Option.bind (if (σ 1 4) = 3 then (Option.bind (ag σ 2 400 (σ 1 2)) fun x9_ =>
  if x9_ = sign_a then (some true) else (some false)) else (some false)) fun t6_ =>
  if t6_ = true then (some true) else (some false)) fun x1_ =>
  some x1_
abbrev rm8_isSign : Room := { frames := 0, cells := 0, slots := 0, locals := 0 }
set_option maxHeartbeats 4000000 in
set_option maxRecDepth 100000 in
theorem p8_isSign {Θ : Tz} {σ : St} {ρ : Option Value × St} (C : Zc Θ cX8_isSign 2 RX8 (some .boolean) rm8_isSign) (hkd : Θ.2.2.2.2.1 = kdC) {sign_a : Int32} {r : Bool} (hf : q8_isSign σ sign_a = some r) (hρ : ρ = (some (.int (b2i r)), σ)) : Z Θ 2 0 0 (zQ Θ ρ) σ 0 [(0, .ref (zA Θ 1)), (1, .int sign_a)] [] := by
  unfold q8_isSign at hf
  obtain ⟨x1_, h2_, hf⟩ := ob hf
  suffices K3_ : Z Θ 2 0 0 (zQ Θ ρ) σ 26 [(0, .ref (zA Θ 1)), (1, .int sign_a)] [.int (b2i x1_)] by
    obtain ⟨t6_, h7_, h2_⟩ := ob h2_
    have K4_ : t6_ = true → Z Θ 2 0 0 (zQ Θ ρ) σ 21 [(0, .ref (zA Θ 1)), (1, .int sign_a)] [] := by
      intro h12_
      rw [if_pos h12_] at h2_
      refine z_iconst (v := 1) C dX8_isSign_21 ic_1 ?_
      refine z_goto C 26 dX8_isSign_22 (by decide) ?_
      cases h2_
      exact K3_
    have K5_ : ¬ (t6_ = true) → Z Θ 2 0 0 (zQ Θ ρ) σ 25 [(0, .ref (zA Θ 1)), (1, .int sign_a)] [] := by
      intro h12_
      rw [if_neg h12_] at h2_
      refine z_iconst (v := 0) C dX8_isSign_25 ic_0 ?_
      cases h2_
      exact K3_
    refine z_aload_n C 0 dX8_isSign_0 rfl rfl ?_
    refine fg8_25 C hkd dX8_isSign_1 ?_
    refine z_iconst (v := 3) C dX8_isSign_4 ic_3 ?_
    refine c_eq_f C 25 dX8_isSign_5 (by decide) (fun h8_ => ?_) (fun h8_ => ?_)
    · rw [if_pos h8_] at h7_
      refine z_aload_n C 0 dX8_isSign_8 rfl rfl ?_
      refine fg8_9 C hkd dX8_isSign_9 ?_
      refine z_aload_n C 0 dX8_isSign_12 rfl rfl ?_
      refine fg8_19 C hkd dX8_isSign_13 ?_
      obtain ⟨x9_, h10_, h7_⟩ := ob h7_
      refine z_ag C h10_ (kC_2 hkd) dX8_isSign_16 ?_
      refine z_iload_n C 1 dX8_isSign_17 rfl rfl ?_
      refine c_eq_f C 25 dX8_isSign_18 (by decide) (fun h11_ => ?_) (fun h11_ => ?_)
      · rw [if_pos h11_] at h7_
        cases h7_
        exact K4_ rfl
      · rw [if_neg h11_] at h7_
        cases h7_
        exact K5_ Bool.false_ne_true
    · rw [if_neg h8_] at h7_
      cases h7_
      exact K5_ Bool.false_ne_true
  cases hf
  subst hρ
  exact z_zret C (b2i_narrow _) dX8_isSign_26
theorem c8_isSign {l : Launch} {kd : List KD} {w : Wp} {σ : St} {sign_a : Int32} (hkd : kd = kdC) (hi : zI kd w) {r : Bool} (hf : q8_isSign σ sign_a = some r) : zM l kd w yX8_isSign cX8_isSign 2 (some .boolean) rm8_isSign [.ref (w.2.2.1 1), .int sign_a] σ (some (.int (b2i r)), σ) := zM_of rfl hi (Nat.le_of_ble_eq_true rfl) (fun Θ hl hw C => by
  obtain ⟨Θ1, Θ2, Θ3, Θ4, Θ5⟩ := Θ
  cases hw
  exact p8_isSign C hkd  hf rfl)
/-! LastLoaf$Tape.open -/
theorem w_4_175 : Cond.methodLink "LastLoaf$Tape" (28 : Nat) ({ cls := "LastLoaf$Tape", name := "advance", desc := "()V" } : MethodName) ∈ TB := tb_in (lwt_4 (List.mem_of_getElem? (i := 175) (by decide +kernel))) rfl
theorem cr8_28 {Θ : Tz} {cc : ByteArray} {nL kc ks : Nat} {ret : Option FieldType} {rm : Room} {Q : State → Prop} {σ : St} {pc : Nat} {lv : List (Nat × Value)} {st : List Value} (C : Zc Θ cc nL RX8 ret rm) (hkd : Θ.2.2.2.2.1 = kdC) {r : St} (hx : q8_advance σ = some r) (hrm : rm8_advance.frames + 1 ≤ rm.frames ∧ 8 + (1 + 11) + rm8_advance.locals ≤ rm.locals) (hcat : (st.map fun v => v.category).sum ≤ 8) (hk : kc ≤ rm.cells ∧ ks ≤ rm.slots) (hd : decode cc pc = .ok (.invokevirtual 28, 3)) (kk : Z Θ nL kc ks Q r (pc + 3) lv st) : Z Θ nL kc ks Q σ pc lv (.ref (zA Θ 1) :: st) := z_callV C 1 [] (none, r) 0 (kC_1 hkd) rfl (c8_advance hkd (zc_inj C) hx) w_4_178 w_4_175 w_4_176 w_4_177 w_1_2 ⟨rfl, rfl, hrm.1, hrm.2⟩ (by decide +kernel) rfl rfl hcat hk hd kk
theorem dX8_open_0 : decode cX8_open 0 = .ok (.aload_n 0, 1) := by decide +kernel
theorem dX8_open_1 : decode cX8_open 1 = .ok (.iconst 0, 1) := by decide +kernel
theorem dX8_open_2 : decode cX8_open 2 = .ok (.putfield 22, 3) := by decide +kernel
theorem dX8_open_5 : decode cX8_open 5 = .ok (.aload_n 0, 1) := by decide +kernel
theorem dX8_open_6 : decode cX8_open 6 = .ok (.invokevirtual 28, 3) := by decide +kernel
theorem dX8_open_9 : decode cX8_open 9 = .ok (.return_, 1) := by decide +kernel
def q8_open (σ : St) : Option St :=
  lt (up σ 1 3 0) fun σ1_ =>
  Option.bind (q8_advance σ1_) fun x3_ =>
  some x3_
abbrev rm8_open : Room := { frames := 2, cells := 0, slots := 0, locals := 40 }
set_option maxHeartbeats 4000000 in
set_option maxRecDepth 100000 in
theorem p8_open {Θ : Tz} {σ : St} {ρ : Option Value × St} (C : Zc Θ cX8_open 1 RX8 none rm8_open) (hkd : Θ.2.2.2.2.1 = kdC) {r : St} (hf : q8_open σ = some r) (hρ : ρ = (none, r)) : Z Θ 1 0 0 (zQ Θ ρ) σ 0 [(0, .ref (zA Θ 1))] [] := by
  unfold q8_open at hf
  refine z_aload_n C 0 dX8_open_0 rfl rfl ?_
  refine z_iconst (v := 0) C dX8_open_1 ic_0 ?_
  obtain ⟨σ1_, h2_, hf⟩ := lt_ hf
  refine fp8_22 C hkd h2_ dX8_open_2 ?_
  refine z_aload_n C 0 dX8_open_5 rfl rfl ?_
  obtain ⟨x3_, h4_, hf⟩ := ob hf
  refine cr8_28 C hkd  h4_ ⟨(Nat.le_of_ble_eq_true rfl), (Nat.le_of_ble_eq_true rfl)⟩ (Nat.le_of_ble_eq_true rfl) ⟨Nat.zero_le _, Nat.zero_le _⟩ dX8_open_6 ?_
  cases hf
  subst hρ
  exact z_vret C dX8_open_9
theorem c8_open {l : Launch} {kd : List KD} {w : Wp} {σ : St} (hkd : kd = kdC) (hi : zI kd w) {r : St} (hf : q8_open σ = some r) : zM l kd w yX8_open cX8_open 1 none rm8_open [.ref (w.2.2.1 1)] σ (none, r) := zM_of rfl hi (Nat.le_of_ble_eq_true rfl) (fun Θ hl hw C => by
  obtain ⟨Θ1, Θ2, Θ3, Θ4, Θ5⟩ := Θ
  cases hw
  exact p8_open C hkd  hf rfl)
/-! LastLoaf$Reader.readVillage -/
theorem w_4_174 : Cond.code ({ cls := "LastLoaf$Tape", name := "open", desc := "()V" } : MethodName) prog_10_method_3_code (1 : Nat) (Option.none : Option ClassFile.FieldType) ∈ TB := tb_in (lwt_4 (List.mem_of_getElem? (i := 174) (by decide +kernel))) rfl
theorem w_4_171 : Cond.methodLink "LastLoaf$Reader" (34 : Nat) ({ cls := "LastLoaf$Tape", name := "open", desc := "()V" } : MethodName) ∈ TB := tb_in (lwt_4 (List.mem_of_getElem? (i := 171) (by decide +kernel))) rfl
theorem w_4_172 : Cond.instanceMethod ({ cls := "LastLoaf$Tape", name := "open", desc := "()V" } : MethodName) ∈ TB := tb_in (lwt_4 (List.mem_of_getElem? (i := 172) (by decide +kernel))) rfl
theorem w_4_173 : Cond.selects "LastLoaf$Tape" ({ cls := "LastLoaf$Tape", name := "open", desc := "()V" } : MethodName) ({ cls := "LastLoaf$Tape", name := "open", desc := "()V" } : MethodName) ∈ TB := tb_in (lwt_4 (List.mem_of_getElem? (i := 173) (by decide +kernel))) rfl
theorem cr6_34 {Θ : Tz} {cc : ByteArray} {nL kc ks : Nat} {ret : Option FieldType} {rm : Room} {Q : State → Prop} {σ : St} {pc : Nat} {lv : List (Nat × Value)} {st : List Value} (C : Zc Θ cc nL RX6 ret rm) (hkd : Θ.2.2.2.2.1 = kdC) {r : St} (hx : q8_open σ = some r) (hrm : rm8_open.frames + 1 ≤ rm.frames ∧ 8 + (1 + 11) + rm8_open.locals ≤ rm.locals) (hcat : (st.map fun v => v.category).sum ≤ 8) (hk : kc ≤ rm.cells ∧ ks ≤ rm.slots) (hd : decode cc pc = .ok (.invokevirtual 34, 3)) (kk : Z Θ nL kc ks Q r (pc + 3) lv st) : Z Θ nL kc ks Q σ pc lv (.ref (zA Θ 1) :: st) := z_callV C 1 [] (none, r) 0 (kC_1 hkd) rfl (c8_open hkd (zc_inj C) hx) w_4_174 w_4_171 w_4_172 w_4_173 w_1_2 ⟨rfl, rfl, hrm.1, hrm.2⟩ (by decide +kernel) rfl rfl hcat hk hd kk
theorem w_4_185 : Cond.code ({ cls := "LastLoaf$Tape", name := "isAtEnd", desc := "()Z" } : MethodName) prog_10_method_6_code (1 : Nat) (Option.some ClassFile.FieldType.boolean) ∈ TB := tb_in (lwt_4 (List.mem_of_getElem? (i := 185) (by decide +kernel))) rfl
theorem w_4_182 : Cond.methodLink "LastLoaf$Reader" (39 : Nat) ({ cls := "LastLoaf$Tape", name := "isAtEnd", desc := "()Z" } : MethodName) ∈ TB := tb_in (lwt_4 (List.mem_of_getElem? (i := 182) (by decide +kernel))) rfl
theorem w_4_183 : Cond.instanceMethod ({ cls := "LastLoaf$Tape", name := "isAtEnd", desc := "()Z" } : MethodName) ∈ TB := tb_in (lwt_4 (List.mem_of_getElem? (i := 183) (by decide +kernel))) rfl
theorem w_4_184 : Cond.selects "LastLoaf$Tape" ({ cls := "LastLoaf$Tape", name := "isAtEnd", desc := "()Z" } : MethodName) ({ cls := "LastLoaf$Tape", name := "isAtEnd", desc := "()Z" } : MethodName) ∈ TB := tb_in (lwt_4 (List.mem_of_getElem? (i := 184) (by decide +kernel))) rfl
theorem cr6_39 {Θ : Tz} {cc : ByteArray} {nL kc ks : Nat} {ret : Option FieldType} {rm : Room} {Q : State → Prop} {σ : St} {pc : Nat} {lv : List (Nat × Value)} {st : List Value} (C : Zc Θ cc nL RX6 ret rm) (hkd : Θ.2.2.2.2.1 = kdC) (hrm : rm8_isAtEnd.frames + 1 ≤ rm.frames ∧ 8 + (1 + 11) + rm8_isAtEnd.locals ≤ rm.locals) (hcat : (st.map fun v => v.category).sum ≤ 8) (hk : kc ≤ rm.cells ∧ ks ≤ rm.slots) (hd : decode cc pc = .ok (.invokevirtual 39, 3)) (kk : Z Θ nL kc ks Q σ (pc + 3) lv (.int (b2i (q8_isAtEnd σ)) :: st)) : Z Θ nL kc ks Q σ pc lv (.ref (zA Θ 1) :: st) := z_callV C 1 [] (some (.int (b2i (q8_isAtEnd σ))), σ) 0 (kC_1 hkd) rfl (c8_isAtEnd hkd (zc_inj C)) w_4_185 w_4_182 w_4_183 w_4_184 w_1_2 ⟨rfl, rfl, hrm.1, hrm.2⟩ (by decide +kernel) rfl rfl hcat hk hd kk
theorem w_4_189 : Cond.code ({ cls := "LastLoaf$Reader", name := "readVillageLine", desc := "()Z" } : MethodName) prog_8_method_3_code (1 : Nat) (Option.some ClassFile.FieldType.boolean) ∈ TB := tb_in (lwt_4 (List.mem_of_getElem? (i := 189) (by decide +kernel))) rfl
theorem w_4_186 : Cond.methodLink "LastLoaf$Reader" (43 : Nat) ({ cls := "LastLoaf$Reader", name := "readVillageLine", desc := "()Z" } : MethodName) ∈ TB := tb_in (lwt_4 (List.mem_of_getElem? (i := 186) (by decide +kernel))) rfl
theorem w_4_187 : Cond.instanceMethod ({ cls := "LastLoaf$Reader", name := "readVillageLine", desc := "()Z" } : MethodName) ∈ TB := tb_in (lwt_4 (List.mem_of_getElem? (i := 187) (by decide +kernel))) rfl
theorem w_4_188 : Cond.selects "LastLoaf$Reader" ({ cls := "LastLoaf$Reader", name := "readVillageLine", desc := "()Z" } : MethodName) ({ cls := "LastLoaf$Reader", name := "readVillageLine", desc := "()Z" } : MethodName) ∈ TB := tb_in (lwt_4 (List.mem_of_getElem? (i := 188) (by decide +kernel))) rfl
theorem cr6_43 {Θ : Tz} {cc : ByteArray} {nL kc ks : Nat} {ret : Option FieldType} {rm : Room} {Q : State → Prop} {σ : St} {pc : Nat} {lv : List (Nat × Value)} {st : List Value} (C : Zc Θ cc nL RX6 ret rm) (hkd : Θ.2.2.2.2.1 = kdC) {r : Bool × St} (hx : q6_readVillageLine σ = some r) (hrm : rm6_readVillageLine.frames + 1 ≤ rm.frames ∧ 8 + (1 + 11) + rm6_readVillageLine.locals ≤ rm.locals) (hcat : (st.map fun v => v.category).sum ≤ 8) (hk : kc ≤ rm.cells ∧ ks ≤ rm.slots) (hd : decode cc pc = .ok (.invokevirtual 43, 3)) (kk : Z Θ nL kc ks Q r.2 (pc + 3) lv (.int (b2i r.1) :: st)) : Z Θ nL kc ks Q σ pc lv (.ref (zA Θ 3) :: st) := z_callV C 3 [] (some (.int (b2i r.1)), r.2) 0 (kC_3 hkd) rfl (c6_readVillageLine hkd (zc_inj C) hx) w_4_189 w_4_186 w_4_187 w_4_188 w_1_7 ⟨rfl, rfl, hrm.1, hrm.2⟩ (by decide +kernel) rfl rfl hcat hk hd kk
theorem w_5_51 : Cond.code ({ cls := "LastLoaf$Tape", name := "isSign", desc := "(C)Z" } : MethodName) prog_10_method_7_code (2 : Nat) (Option.some ClassFile.FieldType.boolean) ∈ TB := tb_in (lwt_5 (List.mem_of_getElem? (i := 51) (by decide +kernel))) rfl
theorem w_5_48 : Cond.methodLink "LastLoaf$Reader" (46 : Nat) ({ cls := "LastLoaf$Tape", name := "isSign", desc := "(C)Z" } : MethodName) ∈ TB := tb_in (lwt_5 (List.mem_of_getElem? (i := 48) (by decide +kernel))) rfl
theorem w_5_49 : Cond.instanceMethod ({ cls := "LastLoaf$Tape", name := "isSign", desc := "(C)Z" } : MethodName) ∈ TB := tb_in (lwt_5 (List.mem_of_getElem? (i := 49) (by decide +kernel))) rfl
theorem w_5_50 : Cond.selects "LastLoaf$Tape" ({ cls := "LastLoaf$Tape", name := "isSign", desc := "(C)Z" } : MethodName) ({ cls := "LastLoaf$Tape", name := "isSign", desc := "(C)Z" } : MethodName) ∈ TB := tb_in (lwt_5 (List.mem_of_getElem? (i := 50) (by decide +kernel))) rfl
theorem cr6_46 {Θ : Tz} {cc : ByteArray} {nL kc ks : Nat} {ret : Option FieldType} {rm : Room} {Q : State → Prop} {σ : St} {pc : Nat} {lv : List (Nat × Value)} {st : List Value} (C : Zc Θ cc nL RX6 ret rm) (hkd : Θ.2.2.2.2.1 = kdC) {sign_a : Int32} {r : Bool} (hx : q8_isSign σ sign_a = some r) (hrm : rm8_isSign.frames + 1 ≤ rm.frames ∧ 8 + (2 + 11) + rm8_isSign.locals ≤ rm.locals) (hcat : (st.map fun v => v.category).sum ≤ 8) (hk : kc ≤ rm.cells ∧ ks ≤ rm.slots) (hd : decode cc pc = .ok (.invokevirtual 46, 3)) (kk : Z Θ nL kc ks Q σ (pc + 3) lv (.int (b2i r) :: st)) : Z Θ nL kc ks Q σ pc lv (.int sign_a :: .ref (zA Θ 1) :: st) := z_callV C 1 [.int sign_a] (some (.int (b2i r)), σ) 1 (kC_1 hkd) rfl (c8_isSign (sign_a := sign_a) hkd (zc_inj C) hx) w_5_51 w_5_48 w_5_49 w_5_50 w_1_2 ⟨rfl, rfl, hrm.1, hrm.2⟩ (by decide +kernel) rfl rfl hcat hk hd kk
theorem dX6_readVillage_0 : decode cX6_readVillage 0 = .ok (.aload_n 0, 1) := by decide +kernel
theorem dX6_readVillage_1 : decode cX6_readVillage 1 = .ok (.getfield 22, 3) := by decide +kernel
theorem dX6_readVillage_4 : decode cX6_readVillage 4 = .ok (.invokevirtual 34, 3) := by decide +kernel
theorem dX6_readVillage_7 : decode cX6_readVillage 7 = .ok (.aload_n 0, 1) := by decide +kernel
theorem dX6_readVillage_8 : decode cX6_readVillage 8 = .ok (.getfield 22, 3) := by decide +kernel
theorem dX6_readVillage_11 : decode cX6_readVillage 11 = .ok (.invokevirtual 39, 3) := by decide +kernel
theorem dX6_readVillage_14 : decode cX6_readVillage 14 = .ok (.ifCond .eq 5, 3) := by decide +kernel
theorem dX6_readVillage_17 : decode cX6_readVillage 17 = .ok (.iconst 1, 1) := by decide +kernel
theorem dX6_readVillage_18 : decode cX6_readVillage 18 = .ok (.ireturn, 1) := by decide +kernel
theorem dX6_readVillage_19 : decode cX6_readVillage 19 = .ok (.iconst 0, 1) := by decide +kernel
theorem dX6_readVillage_20 : decode cX6_readVillage 20 = .ok (.istore_n 1, 1) := by decide +kernel
theorem dX6_readVillage_21 : decode cX6_readVillage 21 = .ok (.iload_n 1, 1) := by decide +kernel
theorem dX6_readVillage_22 : decode cX6_readVillage 22 = .ok (.bipush 14, 2) := by decide +kernel
theorem dX6_readVillage_24 : decode cX6_readVillage 24 = .ok (.if_icmp .ge 51, 3) := by decide +kernel
theorem dX6_readVillage_27 : decode cX6_readVillage 27 = .ok (.aload_n 0, 1) := by decide +kernel
theorem dX6_readVillage_28 : decode cX6_readVillage 28 = .ok (.invokevirtual 43, 3) := by decide +kernel
theorem dX6_readVillage_31 : decode cX6_readVillage 31 = .ok (.ifCond .ne 5, 3) := by decide +kernel
theorem dX6_readVillage_34 : decode cX6_readVillage 34 = .ok (.iconst 0, 1) := by decide +kernel
theorem dX6_readVillage_35 : decode cX6_readVillage 35 = .ok (.ireturn, 1) := by decide +kernel
theorem dX6_readVillage_36 : decode cX6_readVillage 36 = .ok (.aload_n 0, 1) := by decide +kernel
theorem dX6_readVillage_37 : decode cX6_readVillage 37 = .ok (.getfield 22, 3) := by decide +kernel
theorem dX6_readVillage_40 : decode cX6_readVillage 40 = .ok (.invokevirtual 39, 3) := by decide +kernel
theorem dX6_readVillage_43 : decode cX6_readVillage 43 = .ok (.ifCond .eq 5, 3) := by decide +kernel
theorem dX6_readVillage_46 : decode cX6_readVillage 46 = .ok (.iconst 1, 1) := by decide +kernel
theorem dX6_readVillage_47 : decode cX6_readVillage 47 = .ok (.ireturn, 1) := by decide +kernel
theorem dX6_readVillage_48 : decode cX6_readVillage 48 = .ok (.aload_n 0, 1) := by decide +kernel
theorem dX6_readVillage_49 : decode cX6_readVillage 49 = .ok (.getfield 22, 3) := by decide +kernel
theorem dX6_readVillage_52 : decode cX6_readVillage 52 = .ok (.bipush 59, 2) := by decide +kernel
theorem dX6_readVillage_54 : decode cX6_readVillage 54 = .ok (.invokevirtual 46, 3) := by decide +kernel
theorem dX6_readVillage_57 : decode cX6_readVillage 57 = .ok (.ifCond .ne 5, 3) := by decide +kernel
theorem dX6_readVillage_60 : decode cX6_readVillage 60 = .ok (.iconst 0, 1) := by decide +kernel
theorem dX6_readVillage_61 : decode cX6_readVillage 61 = .ok (.ireturn, 1) := by decide +kernel
theorem dX6_readVillage_62 : decode cX6_readVillage 62 = .ok (.aload_n 0, 1) := by decide +kernel
theorem dX6_readVillage_63 : decode cX6_readVillage 63 = .ok (.getfield 22, 3) := by decide +kernel
theorem dX6_readVillage_66 : decode cX6_readVillage 66 = .ok (.invokevirtual 50, 3) := by decide +kernel
theorem dX6_readVillage_69 : decode cX6_readVillage 69 = .ok (.iinc 1 1, 3) := by decide +kernel
theorem dX6_readVillage_72 : decode cX6_readVillage 72 = .ok (.goto (-51), 3) := by decide +kernel
theorem dX6_readVillage_75 : decode cX6_readVillage 75 = .ok (.iconst 0, 1) := by decide +kernel
theorem dX6_readVillage_76 : decode cX6_readVillage 76 = .ok (.ireturn, 1) := by decide +kernel
def q6_readVillage (σ : St) : Option (Bool × St) :=
  Option.bind (q8_open σ) fun x1_ =>
  if q8_isAtEnd x1_ = true then (some (true, x1_)) else
  Option.bind (loop2 (fun rec10_ (lines13_ : Int32) (σ14_ : St) =>
  if lines13_ < 14 then
  Option.bind (q6_readVillageLine σ14_) fun x23_ =>
  if ¬ (x23_.1 = true) then (some (.inl (false, x23_.2))) else
  if q8_isAtEnd x23_.2 = true then (some (.inl (true, x23_.2))) else
  Option.bind (q8_isSign x23_.2 59) fun x33_ =>
  if ¬ (x33_ = true) then (some (.inl (false, x23_.2))) else
  Option.bind (q8_advance x23_.2) fun x37_ =>
  lt (lines13_ + 1) fun lines39_ =>
  rec10_ lines39_ x37_
  else (some (.inr (lines13_, σ14_)))) fuelN (0 : Int32) x1_) fun y7_ =>
  Sum.elim (fun x9 => some x9) (fun y7_r =>
  some (false, y7_r.2)) y7_
abbrev rm6_readVillage : Room := { frames := 8, cells := 0, slots := 0, locals := 169 }
set_option maxHeartbeats 4000000 in
set_option maxRecDepth 100000 in
theorem p6_readVillage {Θ : Tz} {σ : St} {ρ : Option Value × St} (C : Zc Θ cX6_readVillage 2 RX6 (some .boolean) rm6_readVillage) (hkd : Θ.2.2.2.2.1 = kdC) {r : (Bool × St)} (hf : q6_readVillage σ = some r) (hρ : ρ = (some (.int (b2i r.1)), r.2)) : Z Θ 2 0 0 (zQ Θ ρ) σ 0 [(0, .ref (zA Θ 3))] [] := by
  unfold q6_readVillage at hf
  refine z_aload_n C 0 dX6_readVillage_0 rfl rfl ?_
  refine fg6_22 C hkd dX6_readVillage_1 ?_
  obtain ⟨x1_, h2_, hf⟩ := ob hf
  refine cr6_34 C hkd  h2_ ⟨(Nat.le_of_ble_eq_true rfl), (Nat.le_of_ble_eq_true rfl)⟩ (Nat.le_of_ble_eq_true rfl) ⟨Nat.zero_le _, Nat.zero_le _⟩ dX6_readVillage_4 ?_
  have K3_ : q8_isAtEnd x1_ = true → Z Θ 2 0 0 (zQ Θ ρ) x1_ 17 [(0, .ref (zA Θ 3))] [] := by
    intro h6_
    rw [if_pos h6_] at hf
    refine z_iconst (v := 1) C dX6_readVillage_17 ic_1 ?_
    cases hf
    subst hρ
    exact z_zret C (b2i_narrow _) dX6_readVillage_18
  suffices K4_ : ¬ (q8_isAtEnd x1_ = true) → Z Θ 2 0 0 (zQ Θ ρ) x1_ 19 [(0, .ref (zA Θ 3))] [] by
    refine z_aload_n C 0 dX6_readVillage_7 rfl rfl ?_
    refine fg6_22 C hkd dX6_readVillage_8 ?_
    refine cr6_39 C hkd  ⟨(Nat.le_of_ble_eq_true rfl), (Nat.le_of_ble_eq_true rfl)⟩ (Nat.le_of_ble_eq_true rfl) ⟨Nat.zero_le _, Nat.zero_le _⟩ dX6_readVillage_11 ?_
    refine cb_f C 19 dX6_readVillage_14 (by decide) (fun h5_ => ?_) (fun h5_ => ?_)
    · exact K3_ h5_
    · exact K4_ h5_
  intro h6_
  rw [if_neg h6_] at hf
  refine z_iconst (v := 0) C dX6_readVillage_19 ic_0 ?_
  refine z_istN C dX6_readVillage_20 rfl rfl (Nat.le_of_ble_eq_true rfl) rfl ?_
  refine Z.sub [1, 0] rfl ?_
  obtain ⟨y7_, h8_, hf⟩ := ob hf
  suffices K9_ : ∀ y7_r, y7_ = .inr y7_r → Z Θ 2 0 0 (zQ Θ ρ) y7_r.2 75 [(0, .ref (zA Θ 3)), (1, .int y7_r.1)] [] by
    refine loop2_Z (P := fun (lines13_ : Int32) (σ14_ : St) => Z Θ 2 0 0 (zQ Θ ρ) σ14_ 21 [(0, .ref (zA Θ 3)), (1, .int lines13_)] []) ?_ fuelN (0 : Int32) x1_ h8_
    clear h8_
    intro rec10_ lines13_ σ14_ h11_ h12_
    have K17_ : lines13_ < 14 → Z Θ 2 0 0 (zQ Θ ρ) σ14_ 27 [(0, .ref (zA Θ 3)), (1, .int lines13_)] [] := by
      intro h20_
      rw [if_pos h20_] at h12_
      refine z_aload_n C 0 dX6_readVillage_27 rfl rfl ?_
      obtain ⟨x23_, h24_, h12_⟩ := ob h12_
      refine cr6_43 C hkd  h24_ ⟨(Nat.le_of_ble_eq_true rfl), (Nat.le_of_ble_eq_true rfl)⟩ (Nat.le_of_ble_eq_true rfl) ⟨Nat.zero_le _, Nat.zero_le _⟩ dX6_readVillage_28 ?_
      have K21_ : ¬ (x23_.1 = true) → Z Θ 2 0 0 (zQ Θ ρ) x23_.2 34 [(0, .ref (zA Θ 3)), (1, .int lines13_)] [] := by
        intro h26_
        rw [if_pos h26_] at h12_
        refine z_iconst (v := 0) C dX6_readVillage_34 ic_0 ?_
        rw [← Option.some.inj h12_] at hf
        replace hf : some (false, x23_.2) = some r := hf
        cases hf
        subst hρ
        exact z_zret C (b2i_narrow _) dX6_readVillage_35
      suffices K22_ : ¬ (¬ (x23_.1 = true)) → Z Θ 2 0 0 (zQ Θ ρ) x23_.2 36 [(0, .ref (zA Θ 3)), (1, .int lines13_)] [] by
        refine cb_t C 36 dX6_readVillage_31 (by decide) (fun h25_ => ?_) (fun h25_ => ?_)
        · exact K22_ (fun n => n h25_)
        · exact K21_ h25_
      intro h26_
      rw [if_neg h26_] at h12_
      have K27_ : q8_isAtEnd x23_.2 = true → Z Θ 2 0 0 (zQ Θ ρ) x23_.2 46 [(0, .ref (zA Θ 3)), (1, .int lines13_)] [] := by
        intro h30_
        rw [if_pos h30_] at h12_
        refine z_iconst (v := 1) C dX6_readVillage_46 ic_1 ?_
        rw [← Option.some.inj h12_] at hf
        replace hf : some (true, x23_.2) = some r := hf
        cases hf
        subst hρ
        exact z_zret C (b2i_narrow _) dX6_readVillage_47
      suffices K28_ : ¬ (q8_isAtEnd x23_.2 = true) → Z Θ 2 0 0 (zQ Θ ρ) x23_.2 48 [(0, .ref (zA Θ 3)), (1, .int lines13_)] [] by
        refine z_aload_n C 0 dX6_readVillage_36 rfl rfl ?_
        refine fg6_22 C hkd dX6_readVillage_37 ?_
        refine cr6_39 C hkd  ⟨(Nat.le_of_ble_eq_true rfl), (Nat.le_of_ble_eq_true rfl)⟩ (Nat.le_of_ble_eq_true rfl) ⟨Nat.zero_le _, Nat.zero_le _⟩ dX6_readVillage_40 ?_
        refine cb_f C 48 dX6_readVillage_43 (by decide) (fun h29_ => ?_) (fun h29_ => ?_)
        · exact K27_ h29_
        · exact K28_ h29_
      intro h30_
      rw [if_neg h30_] at h12_
      refine z_aload_n C 0 dX6_readVillage_48 rfl rfl ?_
      refine fg6_22 C hkd dX6_readVillage_49 ?_
      refine z_bipush (v := 59) C dX6_readVillage_52 bp_59 ?_
      obtain ⟨x33_, h34_, h12_⟩ := ob h12_
      refine cr6_46 (sign_a := 59) C hkd  h34_ ⟨(Nat.le_of_ble_eq_true rfl), (Nat.le_of_ble_eq_true rfl)⟩ (Nat.le_of_ble_eq_true rfl) ⟨Nat.zero_le _, Nat.zero_le _⟩ dX6_readVillage_54 ?_
      have K31_ : ¬ (x33_ = true) → Z Θ 2 0 0 (zQ Θ ρ) x23_.2 60 [(0, .ref (zA Θ 3)), (1, .int lines13_)] [] := by
        intro h36_
        rw [if_pos h36_] at h12_
        refine z_iconst (v := 0) C dX6_readVillage_60 ic_0 ?_
        rw [← Option.some.inj h12_] at hf
        replace hf : some (false, x23_.2) = some r := hf
        cases hf
        subst hρ
        exact z_zret C (b2i_narrow _) dX6_readVillage_61
      suffices K32_ : ¬ (¬ (x33_ = true)) → Z Θ 2 0 0 (zQ Θ ρ) x23_.2 62 [(0, .ref (zA Θ 3)), (1, .int lines13_)] [] by
        refine cb_t C 62 dX6_readVillage_57 (by decide) (fun h35_ => ?_) (fun h35_ => ?_)
        · exact K32_ (fun n => n h35_)
        · exact K31_ h35_
      intro h36_
      rw [if_neg h36_] at h12_
      refine z_aload_n C 0 dX6_readVillage_62 rfl rfl ?_
      refine fg6_22 C hkd dX6_readVillage_63 ?_
      obtain ⟨x37_, h38_, h12_⟩ := ob h12_
      refine cr6_50 C hkd  h38_ ⟨(Nat.le_of_ble_eq_true rfl), (Nat.le_of_ble_eq_true rfl)⟩ (Nat.le_of_ble_eq_true rfl) ⟨Nat.zero_le _, Nat.zero_le _⟩ dX6_readVillage_66 ?_
      obtain ⟨lines39_, h40_, h12_⟩ := lt_ h12_
      refine z_inc C 1 dX6_readVillage_69 rfl ic_1 h40_ (Nat.le_of_ble_eq_true rfl) rfl ?_
      refine z_goto C 21 dX6_readVillage_72 (by decide) ?_
      refine Z.sub [1, 0] rfl ?_
      exact h11_ _ _ h12_
    have K18_ : ¬ (lines13_ < 14) → Z Θ 2 0 0 (zQ Θ ρ) σ14_ 75 [(0, .ref (zA Θ 3)), (1, .int lines13_)] [] := by
      intro h20_
      rw [if_neg h20_] at h12_
      exact K9_ _ (Option.some.inj h12_).symm
    refine z_iload_n C 1 dX6_readVillage_21 rfl rfl ?_
    refine z_bipush (v := 14) C dX6_readVillage_22 bp_14 ?_
    refine c_lt_f C 75 dX6_readVillage_24 (by decide) (fun h19_ => ?_) (fun h19_ => ?_)
    · exact K17_ h19_
    · exact K18_ h19_
  intro y7_r e9
  subst e9
  simp only [Sum.elim_inr] at hf
  refine z_iconst (v := 0) C dX6_readVillage_75 ic_0 ?_
  cases hf
  subst hρ
  exact z_zret C (b2i_narrow _) dX6_readVillage_76
theorem c6_readVillage {l : Launch} {kd : List KD} {w : Wp} {σ : St} (hkd : kd = kdC) (hi : zI kd w) {r : (Bool × St)} (hf : q6_readVillage σ = some r) : zM l kd w yX6_readVillage cX6_readVillage 2 (some .boolean) rm6_readVillage [.ref (w.2.2.1 3)] σ (some (.int (b2i r.1)), r.2) := zM_of rfl hi (Nat.le_of_ble_eq_true rfl) (fun Θ hl hw C => by
  obtain ⟨Θ1, Θ2, Θ3, Θ4, Θ5⟩ := Θ
  cases hw
  exact p6_readVillage C hkd  hf rfl)
/-! LastLoaf$Log.become -/
theorem w_1_77 : Cond.fieldLink "LastLoaf$Log" (9 : Nat) "LastLoaf$Log" "cells" "[I" ∈ TB := tb_in (lwt_1 (List.mem_of_getElem? (i := 77) (by decide +kernel))) rfl
theorem fg3_9 {Θ : Tz} {cc : ByteArray} {nL kc ks : Nat} {ret : Option FieldType} {rm : Room} {Q : State → Prop} {σ : St} {pc : Nat} {lv : List (Nat × Value)} {st : List Value} (C : Zc Θ cc nL RX3 ret rm) (hkd : Θ.2.2.2.2.1 = kdC) {th : Nat} (hth : isLog th) (hd : decode cc pc = .ok (.getfield 9, 3)) (kk : Z Θ nL kc ks Q σ (pc + 3) lv (.ref (zA Θ (th + 1)) :: st)) : Z Θ nL kc ks Q σ pc lv (.ref (zA Θ th) :: st) := z_get C inT3 th (kLog_0 hkd hth) rfl 0 (by decide) w_1_77 rfl hd kk
theorem sp_240 : (Int16.ofInt (240)).toInt32 = 240 := by decide +kernel
theorem w_3_120 : Cond.methodLink "LastLoaf$Log" (22 : Nat) ({ cls := "java/lang/System", name := "arraycopy", desc := "(Ljava/lang/Object;ILjava/lang/Object;II)V" } : MethodName) ∈ TB := tb_in (lwt_3 (List.mem_of_getElem? (i := 120) (by decide +kernel))) rfl
theorem w_1_78 : Cond.fieldLink "LastLoaf$Log" (15 : Nat) "LastLoaf$Log" "size" "I" ∈ TB := tb_in (lwt_1 (List.mem_of_getElem? (i := 78) (by decide +kernel))) rfl
theorem fg3_15 {Θ : Tz} {cc : ByteArray} {nL kc ks : Nat} {ret : Option FieldType} {rm : Room} {Q : State → Prop} {σ : St} {pc : Nat} {lv : List (Nat × Value)} {st : List Value} (C : Zc Θ cc nL RX3 ret rm) (hkd : Θ.2.2.2.2.1 = kdC) {th : Nat} (hth : isLog th) (hd : decode cc pc = .ok (.getfield 15, 3)) (kk : Z Θ nL kc ks Q σ (pc + 3) lv (.int (σ th 1) :: st)) : Z Θ nL kc ks Q σ pc lv (.ref (zA Θ th) :: st) := z_get C inT3 th (kLog_0 hkd hth) rfl 1 (by decide) w_1_78 rfl hd kk
theorem fp3_15 {Θ : Tz} {cc : ByteArray} {nL kc ks : Nat} {ret : Option FieldType} {rm : Room} {Q : State → Prop} {σ : St} {pc : Nat} {lv : List (Nat × Value)} {st : List Value} (C : Zc Θ cc nL RX3 ret rm) (hkd : Θ.2.2.2.2.1 = kdC) {th : Nat} (hth : isLog th) {x : Int32} {σ1 : St} (he : σ1 = up σ th 1 x) (hd : decode cc pc = .ok (.putfield 15, 3)) (kk : Z Θ nL kc ks Q σ1 (pc + 3) lv st) : Z Θ nL kc ks Q σ pc lv (.int x :: .ref (zA Θ th) :: st) := by subst he; exact z_put C inT3 tyX3_ok nmX3 th (kLog_0 hkd hth) rfl 1 (by decide) w_1_78 rfl rfl rfl rfl hd kk
theorem w_1_80 : Cond.fieldLink "LastLoaf$Log" (19 : Nat) "LastLoaf$Log" "following" "I" ∈ TB := tb_in (lwt_1 (List.mem_of_getElem? (i := 80) (by decide +kernel))) rfl
theorem fg3_19 {Θ : Tz} {cc : ByteArray} {nL kc ks : Nat} {ret : Option FieldType} {rm : Room} {Q : State → Prop} {σ : St} {pc : Nat} {lv : List (Nat × Value)} {st : List Value} (C : Zc Θ cc nL RX3 ret rm) (hkd : Θ.2.2.2.2.1 = kdC) {th : Nat} (hth : isLog th) (hd : decode cc pc = .ok (.getfield 19, 3)) (kk : Z Θ nL kc ks Q σ (pc + 3) lv (.int (σ th 2) :: st)) : Z Θ nL kc ks Q σ pc lv (.ref (zA Θ th) :: st) := z_get C inT3 th (kLog_0 hkd hth) rfl 2 (by decide) w_1_80 rfl hd kk
theorem fp3_19 {Θ : Tz} {cc : ByteArray} {nL kc ks : Nat} {ret : Option FieldType} {rm : Room} {Q : State → Prop} {σ : St} {pc : Nat} {lv : List (Nat × Value)} {st : List Value} (C : Zc Θ cc nL RX3 ret rm) (hkd : Θ.2.2.2.2.1 = kdC) {th : Nat} (hth : isLog th) {x : Int32} {σ1 : St} (he : σ1 = up σ th 2 x) (hd : decode cc pc = .ok (.putfield 19, 3)) (kk : Z Θ nL kc ks Q σ1 (pc + 3) lv st) : Z Θ nL kc ks Q σ pc lv (.int x :: .ref (zA Θ th) :: st) := by subst he; exact z_put C inT3 tyX3_ok nmX3 th (kLog_0 hkd hth) rfl 2 (by decide) w_1_80 rfl rfl rfl rfl hd kk
theorem dX3_become_0 : decode cX3_become 0 = .ok (.aload_n 1, 1) := by decide +kernel
theorem dX3_become_1 : decode cX3_become 1 = .ok (.getfield 9, 3) := by decide +kernel
theorem dX3_become_4 : decode cX3_become 4 = .ok (.iconst 0, 1) := by decide +kernel
theorem dX3_become_5 : decode cX3_become 5 = .ok (.aload_n 0, 1) := by decide +kernel
theorem dX3_become_6 : decode cX3_become 6 = .ok (.getfield 9, 3) := by decide +kernel
theorem dX3_become_9 : decode cX3_become 9 = .ok (.iconst 0, 1) := by decide +kernel
theorem dX3_become_10 : decode cX3_become 10 = .ok (.sipush 240, 3) := by decide +kernel
theorem dX3_become_13 : decode cX3_become 13 = .ok (.invokestatic 22, 3) := by decide +kernel
theorem dX3_become_16 : decode cX3_become 16 = .ok (.aload_n 0, 1) := by decide +kernel
theorem dX3_become_17 : decode cX3_become 17 = .ok (.aload_n 1, 1) := by decide +kernel
theorem dX3_become_18 : decode cX3_become 18 = .ok (.getfield 15, 3) := by decide +kernel
theorem dX3_become_21 : decode cX3_become 21 = .ok (.putfield 15, 3) := by decide +kernel
theorem dX3_become_24 : decode cX3_become 24 = .ok (.aload_n 0, 1) := by decide +kernel
theorem dX3_become_25 : decode cX3_become 25 = .ok (.aload_n 1, 1) := by decide +kernel
theorem dX3_become_26 : decode cX3_become 26 = .ok (.getfield 19, 3) := by decide +kernel
theorem dX3_become_29 : decode cX3_become 29 = .ok (.putfield 19, 3) := by decide +kernel
theorem dX3_become_32 : decode cX3_become 32 = .ok (.return_, 1) := by decide +kernel
def q3_become (σ : St) (th : Nat) (other_a : Nat) : Option St :=
  Option.bind (acp σ (other_a + 1) 240 (th + 1) 240 240) fun σ1_ =>
  lt (up σ1_ th 1 (σ1_ other_a 1)) fun σ3_ =>
  lt (up σ3_ th 2 (σ3_ other_a 2)) fun σ5_ =>
  some σ5_
abbrev rm3_become : Room := { frames := 1, cells := 0, slots := 0, locals := 40 }
set_option maxHeartbeats 4000000 in
set_option maxRecDepth 100000 in
theorem p3_become {Θ : Tz} {σ : St} {ρ : Option Value × St} (C : Zc Θ cX3_become 2 RX3 none rm3_become) (hkd : Θ.2.2.2.2.1 = kdC) {th : Nat} {other_a : Nat} (hth : isLog th) (h_other : isLog other_a) {r : St} (hf : q3_become σ th other_a = some r) (hρ : ρ = (none, r)) : Z Θ 2 0 0 (zQ Θ ρ) σ 0 [(0, .ref (zA Θ th)), (1, .ref (zA Θ other_a))] [] := by
  unfold q3_become at hf
  refine z_aload_n C 1 dX3_become_0 rfl rfl ?_
  refine fg3_9 C hkd h_other dX3_become_1 ?_
  refine z_iconst (v := 0) C dX3_become_4 ic_0 ?_
  refine z_aload_n C 0 dX3_become_5 rfl rfl ?_
  refine fg3_9 C hkd hth dX3_become_6 ?_
  refine z_iconst (v := 0) C dX3_become_9 ic_0 ?_
  refine z_sipush (v := 240) C dX3_become_10 sp_240 ?_
  obtain ⟨σ1_, h2_, hf⟩ := ob hf
  refine z_acp C h2_ (kLog_1 hkd h_other) (kLog_1 hkd hth) w_3_120 ⟨(Nat.le_of_ble_eq_true rfl), (Nat.le_of_ble_eq_true rfl)⟩ (Nat.le_of_ble_eq_true rfl) dX3_become_13 ?_
  refine z_aload_n C 0 dX3_become_16 rfl rfl ?_
  refine z_aload_n C 1 dX3_become_17 rfl rfl ?_
  refine fg3_15 C hkd h_other dX3_become_18 ?_
  obtain ⟨σ3_, h4_, hf⟩ := lt_ hf
  refine fp3_15 C hkd hth h4_ dX3_become_21 ?_
  refine z_aload_n C 0 dX3_become_24 rfl rfl ?_
  refine z_aload_n C 1 dX3_become_25 rfl rfl ?_
  refine fg3_19 C hkd h_other dX3_become_26 ?_
  obtain ⟨σ5_, h6_, hf⟩ := lt_ hf
  refine fp3_19 C hkd hth h6_ dX3_become_29 ?_
  cases hf
  subst hρ
  exact z_vret C dX3_become_32
theorem c3_become {l : Launch} {kd : List KD} {w : Wp} {σ : St} {th : Nat} {other_a : Nat} (hkd : kd = kdC) (hi : zI kd w) (hth : isLog th) (h_other : isLog other_a) {r : St} (hf : q3_become σ th other_a = some r) : zM l kd w yX3_become cX3_become 2 none rm3_become [.ref (w.2.2.1 th), .ref (w.2.2.1 other_a)] σ (none, r) := zM_of rfl hi (Nat.le_of_ble_eq_true rfl) (fun Θ hl hw C => by
  obtain ⟨Θ1, Θ2, Θ3, Θ4, Θ5⟩ := Θ
  cases hw
  exact p3_become C hkd hth h_other hf rfl)
/-! LastLoaf$Village.become -/
theorem w_1_91 : Cond.fieldLink "LastLoaf$Village" (9 : Nat) "LastLoaf$Village" "hunger" "[I" ∈ TB := tb_in (lwt_1 (List.mem_of_getElem? (i := 91) (by decide +kernel))) rfl
theorem fg10_9 {Θ : Tz} {cc : ByteArray} {nL kc ks : Nat} {ret : Option FieldType} {rm : Room} {Q : State → Prop} {σ : St} {pc : Nat} {lv : List (Nat × Value)} {st : List Value} (C : Zc Θ cc nL RX10 ret rm) (hkd : Θ.2.2.2.2.1 = kdC) {th : Nat} (hth : isV th) (hd : decode cc pc = .ok (.getfield 9, 3)) (kk : Z Θ nL kc ks Q σ (pc + 3) lv (.ref (zA Θ (th + 1)) :: st)) : Z Θ nL kc ks Q σ pc lv (.ref (zA Θ th) :: st) := z_get C inT10 th (kV_0 hkd hth) rfl 0 (by decide) w_1_91 rfl hd kk
theorem w_3_113 : Cond.methodLink "LastLoaf$Village" (74 : Nat) ({ cls := "java/lang/System", name := "arraycopy", desc := "(Ljava/lang/Object;ILjava/lang/Object;II)V" } : MethodName) ∈ TB := tb_in (lwt_3 (List.mem_of_getElem? (i := 113) (by decide +kernel))) rfl
theorem w_1_97 : Cond.fieldLink "LastLoaf$Village" (15 : Nat) "LastLoaf$Village" "party" "[I" ∈ TB := tb_in (lwt_1 (List.mem_of_getElem? (i := 97) (by decide +kernel))) rfl
theorem fg10_15 {Θ : Tz} {cc : ByteArray} {nL kc ks : Nat} {ret : Option FieldType} {rm : Room} {Q : State → Prop} {σ : St} {pc : Nat} {lv : List (Nat × Value)} {st : List Value} (C : Zc Θ cc nL RX10 ret rm) (hkd : Θ.2.2.2.2.1 = kdC) {th : Nat} (hth : isV th) (hd : decode cc pc = .ok (.getfield 15, 3)) (kk : Z Θ nL kc ks Q σ (pc + 3) lv (.ref (zA Θ (th + 2)) :: st)) : Z Θ nL kc ks Q σ pc lv (.ref (zA Θ th) :: st) := z_get C inT10 th (kV_0 hkd hth) rfl 1 (by decide) w_1_97 rfl hd kk
theorem w_1_100 : Cond.fieldLink "LastLoaf$Village" (18 : Nat) "LastLoaf$Village" "skin" "[I" ∈ TB := tb_in (lwt_1 (List.mem_of_getElem? (i := 100) (by decide +kernel))) rfl
theorem fg10_18 {Θ : Tz} {cc : ByteArray} {nL kc ks : Nat} {ret : Option FieldType} {rm : Room} {Q : State → Prop} {σ : St} {pc : Nat} {lv : List (Nat × Value)} {st : List Value} (C : Zc Θ cc nL RX10 ret rm) (hkd : Θ.2.2.2.2.1 = kdC) {th : Nat} (hth : isV th) (hd : decode cc pc = .ok (.getfield 18, 3)) (kk : Z Θ nL kc ks Q σ (pc + 3) lv (.ref (zA Θ (th + 3)) :: st)) : Z Θ nL kc ks Q σ pc lv (.ref (zA Θ th) :: st) := z_get C inT10 th (kV_0 hkd hth) rfl 2 (by decide) w_1_100 rfl hd kk
theorem w_1_104 : Cond.fieldLink "LastLoaf$Village" (21 : Nat) "LastLoaf$Village" "had" "[I" ∈ TB := tb_in (lwt_1 (List.mem_of_getElem? (i := 104) (by decide +kernel))) rfl
theorem fg10_21 {Θ : Tz} {cc : ByteArray} {nL kc ks : Nat} {ret : Option FieldType} {rm : Room} {Q : State → Prop} {σ : St} {pc : Nat} {lv : List (Nat × Value)} {st : List Value} (C : Zc Θ cc nL RX10 ret rm) (hkd : Θ.2.2.2.2.1 = kdC) {th : Nat} (hth : isV th) (hd : decode cc pc = .ok (.getfield 21, 3)) (kk : Z Θ nL kc ks Q σ (pc + 3) lv (.ref (zA Θ (th + 4)) :: st)) : Z Θ nL kc ks Q σ pc lv (.ref (zA Θ th) :: st) := z_get C inT10 th (kV_0 hkd hth) rfl 3 (by decide) w_1_104 rfl hd kk
theorem w_1_108 : Cond.fieldLink "LastLoaf$Village" (24 : Nat) "LastLoaf$Village" "run" "[I" ∈ TB := tb_in (lwt_1 (List.mem_of_getElem? (i := 108) (by decide +kernel))) rfl
theorem fg10_24 {Θ : Tz} {cc : ByteArray} {nL kc ks : Nat} {ret : Option FieldType} {rm : Room} {Q : State → Prop} {σ : St} {pc : Nat} {lv : List (Nat × Value)} {st : List Value} (C : Zc Θ cc nL RX10 ret rm) (hkd : Θ.2.2.2.2.1 = kdC) {th : Nat} (hth : isV th) (hd : decode cc pc = .ok (.getfield 24, 3)) (kk : Z Θ nL kc ks Q σ (pc + 3) lv (.ref (zA Θ (th + 5)) :: st)) : Z Θ nL kc ks Q σ pc lv (.ref (zA Θ th) :: st) := z_get C inT10 th (kV_0 hkd hth) rfl 4 (by decide) w_1_108 rfl hd kk
theorem w_1_112 : Cond.fieldLink "LastLoaf$Village" (27 : Nat) "LastLoaf$Village" "likes" "[I" ∈ TB := tb_in (lwt_1 (List.mem_of_getElem? (i := 112) (by decide +kernel))) rfl
theorem fg10_27 {Θ : Tz} {cc : ByteArray} {nL kc ks : Nat} {ret : Option FieldType} {rm : Room} {Q : State → Prop} {σ : St} {pc : Nat} {lv : List (Nat × Value)} {st : List Value} (C : Zc Θ cc nL RX10 ret rm) (hkd : Θ.2.2.2.2.1 = kdC) {th : Nat} (hth : isV th) (hd : decode cc pc = .ok (.getfield 27, 3)) (kk : Z Θ nL kc ks Q σ (pc + 3) lv (.ref (zA Θ (th + 6)) :: st)) : Z Θ nL kc ks Q σ pc lv (.ref (zA Θ th) :: st) := z_get C inT10 th (kV_0 hkd hth) rfl 5 (by decide) w_1_112 rfl hd kk
theorem bp_36 : (Int8.ofInt (36)).toInt32 = 36 := by decide +kernel
theorem w_1_115 : Cond.fieldLink "LastLoaf$Village" (30 : Nat) "LastLoaf$Village" "grist" "[I" ∈ TB := tb_in (lwt_1 (List.mem_of_getElem? (i := 115) (by decide +kernel))) rfl
theorem fg10_30 {Θ : Tz} {cc : ByteArray} {nL kc ks : Nat} {ret : Option FieldType} {rm : Room} {Q : State → Prop} {σ : St} {pc : Nat} {lv : List (Nat × Value)} {st : List Value} (C : Zc Θ cc nL RX10 ret rm) (hkd : Θ.2.2.2.2.1 = kdC) {th : Nat} (hth : isV th) (hd : decode cc pc = .ok (.getfield 30, 3)) (kk : Z Θ nL kc ks Q σ (pc + 3) lv (.ref (zA Θ (th + 7)) :: st)) : Z Θ nL kc ks Q σ pc lv (.ref (zA Θ th) :: st) := z_get C inT10 th (kV_0 hkd hth) rfl 6 (by decide) w_1_115 rfl hd kk
theorem w_1_120 : Cond.fieldLink "LastLoaf$Village" (36 : Nat) "LastLoaf$Village" "rows" "LLastLoaf$Log;" ∈ TB := tb_in (lwt_1 (List.mem_of_getElem? (i := 120) (by decide +kernel))) rfl
theorem fg10_36 {Θ : Tz} {cc : ByteArray} {nL kc ks : Nat} {ret : Option FieldType} {rm : Room} {Q : State → Prop} {σ : St} {pc : Nat} {lv : List (Nat × Value)} {st : List Value} (C : Zc Θ cc nL RX10 ret rm) (hkd : Θ.2.2.2.2.1 = kdC) {th : Nat} (hth : isV th) (hd : decode cc pc = .ok (.getfield 36, 3)) (kk : Z Θ nL kc ks Q σ (pc + 3) lv (.ref (zA Θ (th + 8)) :: st)) : Z Θ nL kc ks Q σ pc lv (.ref (zA Θ th) :: st) := z_get C inT10 th (kV_0 hkd hth) rfl 7 (by decide) w_1_120 rfl hd kk
theorem w_3_119 : Cond.code ({ cls := "LastLoaf$Log", name := "become", desc := "(LLastLoaf$Log;)V" } : MethodName) prog_5_method_2_code (2 : Nat) (Option.none : Option ClassFile.FieldType) ∈ TB := tb_in (lwt_3 (List.mem_of_getElem? (i := 119) (by decide +kernel))) rfl
theorem w_1_4 : Cond.initialized "LastLoaf$Log" ∈ TB := tb_in (lwt_1 (List.mem_of_getElem? (i := 4) (by decide +kernel))) rfl
theorem w_3_116 : Cond.methodLink "LastLoaf$Village" (80 : Nat) ({ cls := "LastLoaf$Log", name := "become", desc := "(LLastLoaf$Log;)V" } : MethodName) ∈ TB := tb_in (lwt_3 (List.mem_of_getElem? (i := 116) (by decide +kernel))) rfl
theorem w_3_117 : Cond.instanceMethod ({ cls := "LastLoaf$Log", name := "become", desc := "(LLastLoaf$Log;)V" } : MethodName) ∈ TB := tb_in (lwt_3 (List.mem_of_getElem? (i := 117) (by decide +kernel))) rfl
theorem w_3_118 : Cond.selects "LastLoaf$Log" ({ cls := "LastLoaf$Log", name := "become", desc := "(LLastLoaf$Log;)V" } : MethodName) ({ cls := "LastLoaf$Log", name := "become", desc := "(LLastLoaf$Log;)V" } : MethodName) ∈ TB := tb_in (lwt_3 (List.mem_of_getElem? (i := 118) (by decide +kernel))) rfl
theorem cr10_80 {Θ : Tz} {cc : ByteArray} {nL kc ks : Nat} {ret : Option FieldType} {rm : Room} {Q : State → Prop} {σ : St} {pc : Nat} {lv : List (Nat × Value)} {st : List Value} (C : Zc Θ cc nL RX10 ret rm) (hkd : Θ.2.2.2.2.1 = kdC) {th : Nat} {other_a : Nat} (hth : isLog th) (h_other : isLog other_a) {r : St} (hx : q3_become σ th other_a = some r) (hrm : rm3_become.frames + 1 ≤ rm.frames ∧ 8 + (2 + 11) + rm3_become.locals ≤ rm.locals) (hcat : (st.map fun v => v.category).sum ≤ 8) (hk : kc ≤ rm.cells ∧ ks ≤ rm.slots) (hd : decode cc pc = .ok (.invokevirtual 80, 3)) (kk : Z Θ nL kc ks Q r (pc + 3) lv st) : Z Θ nL kc ks Q σ pc lv (.ref (zA Θ other_a) :: .ref (zA Θ th) :: st) := z_callV C th [.ref (zA Θ other_a)] (none, r) 1 (kLog_0 hkd hth) rfl (c3_become (th := th) (other_a := other_a) hkd (zc_inj C) hth h_other hx) w_3_119 w_3_116 w_3_117 w_3_118 w_1_4 ⟨rfl, rfl, hrm.1, hrm.2⟩ (by decide +kernel) rfl rfl hcat hk hd kk
theorem w_1_123 : Cond.fieldLink "LastLoaf$Village" (40 : Nat) "LastLoaf$Village" "people" "I" ∈ TB := tb_in (lwt_1 (List.mem_of_getElem? (i := 123) (by decide +kernel))) rfl
theorem fg10_40 {Θ : Tz} {cc : ByteArray} {nL kc ks : Nat} {ret : Option FieldType} {rm : Room} {Q : State → Prop} {σ : St} {pc : Nat} {lv : List (Nat × Value)} {st : List Value} (C : Zc Θ cc nL RX10 ret rm) (hkd : Θ.2.2.2.2.1 = kdC) {th : Nat} (hth : isV th) (hd : decode cc pc = .ok (.getfield 40, 3)) (kk : Z Θ nL kc ks Q σ (pc + 3) lv (.int (σ th 8) :: st)) : Z Θ nL kc ks Q σ pc lv (.ref (zA Θ th) :: st) := z_get C inT10 th (kV_0 hkd hth) rfl 8 (by decide) w_1_123 rfl hd kk
theorem fp10_40 {Θ : Tz} {cc : ByteArray} {nL kc ks : Nat} {ret : Option FieldType} {rm : Room} {Q : State → Prop} {σ : St} {pc : Nat} {lv : List (Nat × Value)} {st : List Value} (C : Zc Θ cc nL RX10 ret rm) (hkd : Θ.2.2.2.2.1 = kdC) {th : Nat} (hth : isV th) {x : Int32} {σ1 : St} (he : σ1 = up σ th 8 x) (hd : decode cc pc = .ok (.putfield 40, 3)) (kk : Z Θ nL kc ks Q σ1 (pc + 3) lv st) : Z Θ nL kc ks Q σ pc lv (.int x :: .ref (zA Θ th) :: st) := by subst he; exact z_put C inT10 tyX10_ok nmX10 th (kV_0 hkd hth) rfl 8 (by decide) w_1_123 rfl rfl rfl rfl hd kk
theorem w_1_131 : Cond.fieldLink "LastLoaf$Village" (44 : Nat) "LastLoaf$Village" "standing" "I" ∈ TB := tb_in (lwt_1 (List.mem_of_getElem? (i := 131) (by decide +kernel))) rfl
theorem fg10_44 {Θ : Tz} {cc : ByteArray} {nL kc ks : Nat} {ret : Option FieldType} {rm : Room} {Q : State → Prop} {σ : St} {pc : Nat} {lv : List (Nat × Value)} {st : List Value} (C : Zc Θ cc nL RX10 ret rm) (hkd : Θ.2.2.2.2.1 = kdC) {th : Nat} (hth : isV th) (hd : decode cc pc = .ok (.getfield 44, 3)) (kk : Z Θ nL kc ks Q σ (pc + 3) lv (.int (σ th 9) :: st)) : Z Θ nL kc ks Q σ pc lv (.ref (zA Θ th) :: st) := z_get C inT10 th (kV_0 hkd hth) rfl 9 (by decide) w_1_131 rfl hd kk
theorem fp10_44 {Θ : Tz} {cc : ByteArray} {nL kc ks : Nat} {ret : Option FieldType} {rm : Room} {Q : State → Prop} {σ : St} {pc : Nat} {lv : List (Nat × Value)} {st : List Value} (C : Zc Θ cc nL RX10 ret rm) (hkd : Θ.2.2.2.2.1 = kdC) {th : Nat} (hth : isV th) {x : Int32} {σ1 : St} (he : σ1 = up σ th 9 x) (hd : decode cc pc = .ok (.putfield 44, 3)) (kk : Z Θ nL kc ks Q σ1 (pc + 3) lv st) : Z Θ nL kc ks Q σ pc lv (.int x :: .ref (zA Θ th) :: st) := by subst he; exact z_put C inT10 tyX10_ok nmX10 th (kV_0 hkd hth) rfl 9 (by decide) w_1_131 rfl rfl rfl rfl hd kk
theorem w_1_137 : Cond.fieldLink "LastLoaf$Village" (47 : Nat) "LastLoaf$Village" "benched" "I" ∈ TB := tb_in (lwt_1 (List.mem_of_getElem? (i := 137) (by decide +kernel))) rfl
theorem fg10_47 {Θ : Tz} {cc : ByteArray} {nL kc ks : Nat} {ret : Option FieldType} {rm : Room} {Q : State → Prop} {σ : St} {pc : Nat} {lv : List (Nat × Value)} {st : List Value} (C : Zc Θ cc nL RX10 ret rm) (hkd : Θ.2.2.2.2.1 = kdC) {th : Nat} (hth : isV th) (hd : decode cc pc = .ok (.getfield 47, 3)) (kk : Z Θ nL kc ks Q σ (pc + 3) lv (.int (σ th 10) :: st)) : Z Θ nL kc ks Q σ pc lv (.ref (zA Θ th) :: st) := z_get C inT10 th (kV_0 hkd hth) rfl 10 (by decide) w_1_137 rfl hd kk
theorem fp10_47 {Θ : Tz} {cc : ByteArray} {nL kc ks : Nat} {ret : Option FieldType} {rm : Room} {Q : State → Prop} {σ : St} {pc : Nat} {lv : List (Nat × Value)} {st : List Value} (C : Zc Θ cc nL RX10 ret rm) (hkd : Θ.2.2.2.2.1 = kdC) {th : Nat} (hth : isV th) {x : Int32} {σ1 : St} (he : σ1 = up σ th 10 x) (hd : decode cc pc = .ok (.putfield 47, 3)) (kk : Z Θ nL kc ks Q σ1 (pc + 3) lv st) : Z Θ nL kc ks Q σ pc lv (.int x :: .ref (zA Θ th) :: st) := by subst he; exact z_put C inT10 tyX10_ok nmX10 th (kV_0 hkd hth) rfl 10 (by decide) w_1_137 rfl rfl rfl rfl hd kk
theorem w_1_142 : Cond.fieldLink "LastLoaf$Village" (50 : Nat) "LastLoaf$Village" "flour" "I" ∈ TB := tb_in (lwt_1 (List.mem_of_getElem? (i := 142) (by decide +kernel))) rfl
theorem fg10_50 {Θ : Tz} {cc : ByteArray} {nL kc ks : Nat} {ret : Option FieldType} {rm : Room} {Q : State → Prop} {σ : St} {pc : Nat} {lv : List (Nat × Value)} {st : List Value} (C : Zc Θ cc nL RX10 ret rm) (hkd : Θ.2.2.2.2.1 = kdC) {th : Nat} (hth : isV th) (hd : decode cc pc = .ok (.getfield 50, 3)) (kk : Z Θ nL kc ks Q σ (pc + 3) lv (.int (σ th 11) :: st)) : Z Θ nL kc ks Q σ pc lv (.ref (zA Θ th) :: st) := z_get C inT10 th (kV_0 hkd hth) rfl 11 (by decide) w_1_142 rfl hd kk
theorem fp10_50 {Θ : Tz} {cc : ByteArray} {nL kc ks : Nat} {ret : Option FieldType} {rm : Room} {Q : State → Prop} {σ : St} {pc : Nat} {lv : List (Nat × Value)} {st : List Value} (C : Zc Θ cc nL RX10 ret rm) (hkd : Θ.2.2.2.2.1 = kdC) {th : Nat} (hth : isV th) {x : Int32} {σ1 : St} (he : σ1 = up σ th 11 x) (hd : decode cc pc = .ok (.putfield 50, 3)) (kk : Z Θ nL kc ks Q σ1 (pc + 3) lv st) : Z Θ nL kc ks Q σ pc lv (.int x :: .ref (zA Θ th) :: st) := by subst he; exact z_put C inT10 tyX10_ok nmX10 th (kV_0 hkd hth) rfl 11 (by decide) w_1_142 rfl rfl rfl rfl hd kk
theorem w_1_147 : Cond.fieldLink "LastLoaf$Village" (53 : Nat) "LastLoaf$Village" "week" "I" ∈ TB := tb_in (lwt_1 (List.mem_of_getElem? (i := 147) (by decide +kernel))) rfl
theorem fg10_53 {Θ : Tz} {cc : ByteArray} {nL kc ks : Nat} {ret : Option FieldType} {rm : Room} {Q : State → Prop} {σ : St} {pc : Nat} {lv : List (Nat × Value)} {st : List Value} (C : Zc Θ cc nL RX10 ret rm) (hkd : Θ.2.2.2.2.1 = kdC) {th : Nat} (hth : isV th) (hd : decode cc pc = .ok (.getfield 53, 3)) (kk : Z Θ nL kc ks Q σ (pc + 3) lv (.int (σ th 12) :: st)) : Z Θ nL kc ks Q σ pc lv (.ref (zA Θ th) :: st) := z_get C inT10 th (kV_0 hkd hth) rfl 12 (by decide) w_1_147 rfl hd kk
theorem fp10_53 {Θ : Tz} {cc : ByteArray} {nL kc ks : Nat} {ret : Option FieldType} {rm : Room} {Q : State → Prop} {σ : St} {pc : Nat} {lv : List (Nat × Value)} {st : List Value} (C : Zc Θ cc nL RX10 ret rm) (hkd : Θ.2.2.2.2.1 = kdC) {th : Nat} (hth : isV th) {x : Int32} {σ1 : St} (he : σ1 = up σ th 12 x) (hd : decode cc pc = .ok (.putfield 53, 3)) (kk : Z Θ nL kc ks Q σ1 (pc + 3) lv st) : Z Θ nL kc ks Q σ pc lv (.int x :: .ref (zA Θ th) :: st) := by subst he; exact z_put C inT10 tyX10_ok nmX10 th (kV_0 hkd hth) rfl 12 (by decide) w_1_147 rfl rfl rfl rfl hd kk
theorem w_1_152 : Cond.fieldLink "LastLoaf$Village" (56 : Nat) "LastLoaf$Village" "way" "I" ∈ TB := tb_in (lwt_1 (List.mem_of_getElem? (i := 152) (by decide +kernel))) rfl
theorem fg10_56 {Θ : Tz} {cc : ByteArray} {nL kc ks : Nat} {ret : Option FieldType} {rm : Room} {Q : State → Prop} {σ : St} {pc : Nat} {lv : List (Nat × Value)} {st : List Value} (C : Zc Θ cc nL RX10 ret rm) (hkd : Θ.2.2.2.2.1 = kdC) {th : Nat} (hth : isV th) (hd : decode cc pc = .ok (.getfield 56, 3)) (kk : Z Θ nL kc ks Q σ (pc + 3) lv (.int (σ th 13) :: st)) : Z Θ nL kc ks Q σ pc lv (.ref (zA Θ th) :: st) := z_get C inT10 th (kV_0 hkd hth) rfl 13 (by decide) w_1_152 rfl hd kk
theorem fp10_56 {Θ : Tz} {cc : ByteArray} {nL kc ks : Nat} {ret : Option FieldType} {rm : Room} {Q : State → Prop} {σ : St} {pc : Nat} {lv : List (Nat × Value)} {st : List Value} (C : Zc Θ cc nL RX10 ret rm) (hkd : Θ.2.2.2.2.1 = kdC) {th : Nat} (hth : isV th) {x : Int32} {σ1 : St} (he : σ1 = up σ th 13 x) (hd : decode cc pc = .ok (.putfield 56, 3)) (kk : Z Θ nL kc ks Q σ1 (pc + 3) lv st) : Z Θ nL kc ks Q σ pc lv (.int x :: .ref (zA Θ th) :: st) := by subst he; exact z_put C inT10 tyX10_ok nmX10 th (kV_0 hkd hth) rfl 13 (by decide) w_1_152 rfl rfl rfl rfl hd kk
theorem w_1_156 : Cond.fieldLink "LastLoaf$Village" (59 : Nat) "LastLoaf$Village" "speech" "I" ∈ TB := tb_in (lwt_1 (List.mem_of_getElem? (i := 156) (by decide +kernel))) rfl
theorem fg10_59 {Θ : Tz} {cc : ByteArray} {nL kc ks : Nat} {ret : Option FieldType} {rm : Room} {Q : State → Prop} {σ : St} {pc : Nat} {lv : List (Nat × Value)} {st : List Value} (C : Zc Θ cc nL RX10 ret rm) (hkd : Θ.2.2.2.2.1 = kdC) {th : Nat} (hth : isV th) (hd : decode cc pc = .ok (.getfield 59, 3)) (kk : Z Θ nL kc ks Q σ (pc + 3) lv (.int (σ th 14) :: st)) : Z Θ nL kc ks Q σ pc lv (.ref (zA Θ th) :: st) := z_get C inT10 th (kV_0 hkd hth) rfl 14 (by decide) w_1_156 rfl hd kk
theorem fp10_59 {Θ : Tz} {cc : ByteArray} {nL kc ks : Nat} {ret : Option FieldType} {rm : Room} {Q : State → Prop} {σ : St} {pc : Nat} {lv : List (Nat × Value)} {st : List Value} (C : Zc Θ cc nL RX10 ret rm) (hkd : Θ.2.2.2.2.1 = kdC) {th : Nat} (hth : isV th) {x : Int32} {σ1 : St} (he : σ1 = up σ th 14 x) (hd : decode cc pc = .ok (.putfield 59, 3)) (kk : Z Θ nL kc ks Q σ1 (pc + 3) lv st) : Z Θ nL kc ks Q σ pc lv (.int x :: .ref (zA Θ th) :: st) := by subst he; exact z_put C inT10 tyX10_ok nmX10 th (kV_0 hkd hth) rfl 14 (by decide) w_1_156 rfl rfl rfl rfl hd kk
theorem w_1_160 : Cond.fieldLink "LastLoaf$Village" (62 : Nat) "LastLoaf$Village" "seed" "I" ∈ TB := tb_in (lwt_1 (List.mem_of_getElem? (i := 160) (by decide +kernel))) rfl
theorem fg10_62 {Θ : Tz} {cc : ByteArray} {nL kc ks : Nat} {ret : Option FieldType} {rm : Room} {Q : State → Prop} {σ : St} {pc : Nat} {lv : List (Nat × Value)} {st : List Value} (C : Zc Θ cc nL RX10 ret rm) (hkd : Θ.2.2.2.2.1 = kdC) {th : Nat} (hth : isV th) (hd : decode cc pc = .ok (.getfield 62, 3)) (kk : Z Θ nL kc ks Q σ (pc + 3) lv (.int (σ th 15) :: st)) : Z Θ nL kc ks Q σ pc lv (.ref (zA Θ th) :: st) := z_get C inT10 th (kV_0 hkd hth) rfl 15 (by decide) w_1_160 rfl hd kk
theorem fp10_62 {Θ : Tz} {cc : ByteArray} {nL kc ks : Nat} {ret : Option FieldType} {rm : Room} {Q : State → Prop} {σ : St} {pc : Nat} {lv : List (Nat × Value)} {st : List Value} (C : Zc Θ cc nL RX10 ret rm) (hkd : Θ.2.2.2.2.1 = kdC) {th : Nat} (hth : isV th) {x : Int32} {σ1 : St} (he : σ1 = up σ th 15 x) (hd : decode cc pc = .ok (.putfield 62, 3)) (kk : Z Θ nL kc ks Q σ1 (pc + 3) lv st) : Z Θ nL kc ks Q σ pc lv (.int x :: .ref (zA Θ th) :: st) := by subst he; exact z_put C inT10 tyX10_ok nmX10 th (kV_0 hkd hth) rfl 15 (by decide) w_1_160 rfl rfl rfl rfl hd kk
theorem w_1_162 : Cond.fieldLink "LastLoaf$Village" (65 : Nat) "LastLoaf$Village" "texts" "I" ∈ TB := tb_in (lwt_1 (List.mem_of_getElem? (i := 162) (by decide +kernel))) rfl
theorem fg10_65 {Θ : Tz} {cc : ByteArray} {nL kc ks : Nat} {ret : Option FieldType} {rm : Room} {Q : State → Prop} {σ : St} {pc : Nat} {lv : List (Nat × Value)} {st : List Value} (C : Zc Θ cc nL RX10 ret rm) (hkd : Θ.2.2.2.2.1 = kdC) {th : Nat} (hth : isV th) (hd : decode cc pc = .ok (.getfield 65, 3)) (kk : Z Θ nL kc ks Q σ (pc + 3) lv (.int (σ th 16) :: st)) : Z Θ nL kc ks Q σ pc lv (.ref (zA Θ th) :: st) := z_get C inT10 th (kV_0 hkd hth) rfl 16 (by decide) w_1_162 rfl hd kk
theorem fp10_65 {Θ : Tz} {cc : ByteArray} {nL kc ks : Nat} {ret : Option FieldType} {rm : Room} {Q : State → Prop} {σ : St} {pc : Nat} {lv : List (Nat × Value)} {st : List Value} (C : Zc Θ cc nL RX10 ret rm) (hkd : Θ.2.2.2.2.1 = kdC) {th : Nat} (hth : isV th) {x : Int32} {σ1 : St} (he : σ1 = up σ th 16 x) (hd : decode cc pc = .ok (.putfield 65, 3)) (kk : Z Θ nL kc ks Q σ1 (pc + 3) lv st) : Z Θ nL kc ks Q σ pc lv (.int x :: .ref (zA Θ th) :: st) := by subst he; exact z_put C inT10 tyX10_ok nmX10 th (kV_0 hkd hth) rfl 16 (by decide) w_1_162 rfl rfl rfl rfl hd kk
theorem dX10_become_0 : decode cX10_become 0 = .ok (.aload_n 1, 1) := by decide +kernel
theorem dX10_become_1 : decode cX10_become 1 = .ok (.getfield 9, 3) := by decide +kernel
theorem dX10_become_4 : decode cX10_become 4 = .ok (.iconst 0, 1) := by decide +kernel
theorem dX10_become_5 : decode cX10_become 5 = .ok (.aload_n 0, 1) := by decide +kernel
theorem dX10_become_6 : decode cX10_become 6 = .ok (.getfield 9, 3) := by decide +kernel
theorem dX10_become_9 : decode cX10_become 9 = .ok (.iconst 0, 1) := by decide +kernel
theorem dX10_become_10 : decode cX10_become 10 = .ok (.bipush 6, 2) := by decide +kernel
theorem dX10_become_12 : decode cX10_become 12 = .ok (.invokestatic 74, 3) := by decide +kernel
theorem dX10_become_15 : decode cX10_become 15 = .ok (.aload_n 1, 1) := by decide +kernel
theorem dX10_become_16 : decode cX10_become 16 = .ok (.getfield 15, 3) := by decide +kernel
theorem dX10_become_19 : decode cX10_become 19 = .ok (.iconst 0, 1) := by decide +kernel
theorem dX10_become_20 : decode cX10_become 20 = .ok (.aload_n 0, 1) := by decide +kernel
theorem dX10_become_21 : decode cX10_become 21 = .ok (.getfield 15, 3) := by decide +kernel
theorem dX10_become_24 : decode cX10_become 24 = .ok (.iconst 0, 1) := by decide +kernel
theorem dX10_become_25 : decode cX10_become 25 = .ok (.bipush 6, 2) := by decide +kernel
theorem dX10_become_27 : decode cX10_become 27 = .ok (.invokestatic 74, 3) := by decide +kernel
theorem dX10_become_30 : decode cX10_become 30 = .ok (.aload_n 1, 1) := by decide +kernel
theorem dX10_become_31 : decode cX10_become 31 = .ok (.getfield 18, 3) := by decide +kernel
theorem dX10_become_34 : decode cX10_become 34 = .ok (.iconst 0, 1) := by decide +kernel
theorem dX10_become_35 : decode cX10_become 35 = .ok (.aload_n 0, 1) := by decide +kernel
theorem dX10_become_36 : decode cX10_become 36 = .ok (.getfield 18, 3) := by decide +kernel
theorem dX10_become_39 : decode cX10_become 39 = .ok (.iconst 0, 1) := by decide +kernel
theorem dX10_become_40 : decode cX10_become 40 = .ok (.bipush 6, 2) := by decide +kernel
theorem dX10_become_42 : decode cX10_become 42 = .ok (.invokestatic 74, 3) := by decide +kernel
theorem dX10_become_45 : decode cX10_become 45 = .ok (.aload_n 1, 1) := by decide +kernel
theorem dX10_become_46 : decode cX10_become 46 = .ok (.getfield 21, 3) := by decide +kernel
theorem dX10_become_49 : decode cX10_become 49 = .ok (.iconst 0, 1) := by decide +kernel
theorem dX10_become_50 : decode cX10_become 50 = .ok (.aload_n 0, 1) := by decide +kernel
theorem dX10_become_51 : decode cX10_become 51 = .ok (.getfield 21, 3) := by decide +kernel
theorem dX10_become_54 : decode cX10_become 54 = .ok (.iconst 0, 1) := by decide +kernel
theorem dX10_become_55 : decode cX10_become 55 = .ok (.bipush 6, 2) := by decide +kernel
theorem dX10_become_57 : decode cX10_become 57 = .ok (.invokestatic 74, 3) := by decide +kernel
theorem dX10_become_60 : decode cX10_become 60 = .ok (.aload_n 1, 1) := by decide +kernel
theorem dX10_become_61 : decode cX10_become 61 = .ok (.getfield 24, 3) := by decide +kernel
theorem dX10_become_64 : decode cX10_become 64 = .ok (.iconst 0, 1) := by decide +kernel
theorem dX10_become_65 : decode cX10_become 65 = .ok (.aload_n 0, 1) := by decide +kernel
theorem dX10_become_66 : decode cX10_become 66 = .ok (.getfield 24, 3) := by decide +kernel
theorem dX10_become_69 : decode cX10_become 69 = .ok (.iconst 0, 1) := by decide +kernel
theorem dX10_become_70 : decode cX10_become 70 = .ok (.bipush 6, 2) := by decide +kernel
theorem dX10_become_72 : decode cX10_become 72 = .ok (.invokestatic 74, 3) := by decide +kernel
theorem dX10_become_75 : decode cX10_become 75 = .ok (.aload_n 1, 1) := by decide +kernel
theorem dX10_become_76 : decode cX10_become 76 = .ok (.getfield 27, 3) := by decide +kernel
theorem dX10_become_79 : decode cX10_become 79 = .ok (.iconst 0, 1) := by decide +kernel
theorem dX10_become_80 : decode cX10_become 80 = .ok (.aload_n 0, 1) := by decide +kernel
theorem dX10_become_81 : decode cX10_become 81 = .ok (.getfield 27, 3) := by decide +kernel
theorem dX10_become_84 : decode cX10_become 84 = .ok (.iconst 0, 1) := by decide +kernel
theorem dX10_become_85 : decode cX10_become 85 = .ok (.bipush 36, 2) := by decide +kernel
theorem dX10_become_87 : decode cX10_become 87 = .ok (.invokestatic 74, 3) := by decide +kernel
theorem dX10_become_90 : decode cX10_become 90 = .ok (.aload_n 1, 1) := by decide +kernel
theorem dX10_become_91 : decode cX10_become 91 = .ok (.getfield 30, 3) := by decide +kernel
theorem dX10_become_94 : decode cX10_become 94 = .ok (.iconst 0, 1) := by decide +kernel
theorem dX10_become_95 : decode cX10_become 95 = .ok (.aload_n 0, 1) := by decide +kernel
theorem dX10_become_96 : decode cX10_become 96 = .ok (.getfield 30, 3) := by decide +kernel
theorem dX10_become_99 : decode cX10_become 99 = .ok (.iconst 0, 1) := by decide +kernel
theorem dX10_become_100 : decode cX10_become 100 = .ok (.iconst 4, 1) := by decide +kernel
theorem dX10_become_101 : decode cX10_become 101 = .ok (.invokestatic 74, 3) := by decide +kernel
theorem dX10_become_104 : decode cX10_become 104 = .ok (.aload_n 0, 1) := by decide +kernel
theorem dX10_become_105 : decode cX10_become 105 = .ok (.getfield 36, 3) := by decide +kernel
theorem dX10_become_108 : decode cX10_become 108 = .ok (.aload_n 1, 1) := by decide +kernel
theorem dX10_become_109 : decode cX10_become 109 = .ok (.getfield 36, 3) := by decide +kernel
theorem dX10_become_112 : decode cX10_become 112 = .ok (.invokevirtual 80, 3) := by decide +kernel
theorem dX10_become_115 : decode cX10_become 115 = .ok (.aload_n 0, 1) := by decide +kernel
theorem dX10_become_116 : decode cX10_become 116 = .ok (.aload_n 1, 1) := by decide +kernel
theorem dX10_become_117 : decode cX10_become 117 = .ok (.getfield 40, 3) := by decide +kernel
theorem dX10_become_120 : decode cX10_become 120 = .ok (.putfield 40, 3) := by decide +kernel
theorem dX10_become_123 : decode cX10_become 123 = .ok (.aload_n 0, 1) := by decide +kernel
theorem dX10_become_124 : decode cX10_become 124 = .ok (.aload_n 1, 1) := by decide +kernel
theorem dX10_become_125 : decode cX10_become 125 = .ok (.getfield 44, 3) := by decide +kernel
theorem dX10_become_128 : decode cX10_become 128 = .ok (.putfield 44, 3) := by decide +kernel
theorem dX10_become_131 : decode cX10_become 131 = .ok (.aload_n 0, 1) := by decide +kernel
theorem dX10_become_132 : decode cX10_become 132 = .ok (.aload_n 1, 1) := by decide +kernel
theorem dX10_become_133 : decode cX10_become 133 = .ok (.getfield 47, 3) := by decide +kernel
theorem dX10_become_136 : decode cX10_become 136 = .ok (.putfield 47, 3) := by decide +kernel
theorem dX10_become_139 : decode cX10_become 139 = .ok (.aload_n 0, 1) := by decide +kernel
theorem dX10_become_140 : decode cX10_become 140 = .ok (.aload_n 1, 1) := by decide +kernel
theorem dX10_become_141 : decode cX10_become 141 = .ok (.getfield 50, 3) := by decide +kernel
theorem dX10_become_144 : decode cX10_become 144 = .ok (.putfield 50, 3) := by decide +kernel
theorem dX10_become_147 : decode cX10_become 147 = .ok (.aload_n 0, 1) := by decide +kernel
theorem dX10_become_148 : decode cX10_become 148 = .ok (.aload_n 1, 1) := by decide +kernel
theorem dX10_become_149 : decode cX10_become 149 = .ok (.getfield 53, 3) := by decide +kernel
theorem dX10_become_152 : decode cX10_become 152 = .ok (.putfield 53, 3) := by decide +kernel
theorem dX10_become_155 : decode cX10_become 155 = .ok (.aload_n 0, 1) := by decide +kernel
theorem dX10_become_156 : decode cX10_become 156 = .ok (.aload_n 1, 1) := by decide +kernel
theorem dX10_become_157 : decode cX10_become 157 = .ok (.getfield 56, 3) := by decide +kernel
theorem dX10_become_160 : decode cX10_become 160 = .ok (.putfield 56, 3) := by decide +kernel
theorem dX10_become_163 : decode cX10_become 163 = .ok (.aload_n 0, 1) := by decide +kernel
theorem dX10_become_164 : decode cX10_become 164 = .ok (.aload_n 1, 1) := by decide +kernel
theorem dX10_become_165 : decode cX10_become 165 = .ok (.getfield 59, 3) := by decide +kernel
theorem dX10_become_168 : decode cX10_become 168 = .ok (.putfield 59, 3) := by decide +kernel
theorem dX10_become_171 : decode cX10_become 171 = .ok (.aload_n 0, 1) := by decide +kernel
theorem dX10_become_172 : decode cX10_become 172 = .ok (.aload_n 1, 1) := by decide +kernel
theorem dX10_become_173 : decode cX10_become 173 = .ok (.getfield 62, 3) := by decide +kernel
theorem dX10_become_176 : decode cX10_become 176 = .ok (.putfield 62, 3) := by decide +kernel
theorem dX10_become_179 : decode cX10_become 179 = .ok (.aload_n 0, 1) := by decide +kernel
theorem dX10_become_180 : decode cX10_become 180 = .ok (.aload_n 1, 1) := by decide +kernel
theorem dX10_become_181 : decode cX10_become 181 = .ok (.getfield 65, 3) := by decide +kernel
theorem dX10_become_184 : decode cX10_become 184 = .ok (.putfield 65, 3) := by decide +kernel
theorem dX10_become_187 : decode cX10_become 187 = .ok (.return_, 1) := by decide +kernel
def q10_become (σ : St) (th : Nat) (other_a : Nat) : Option St :=
  Option.bind (acp σ (other_a + 1) 6 (th + 1) 6 6) fun σ1_ =>
  Option.bind (acp σ1_ (other_a + 2) 6 (th + 2) 6 6) fun σ3_ =>
  Option.bind (acp σ3_ (other_a + 3) 6 (th + 3) 6 6) fun σ5_ =>
  Option.bind (acp σ5_ (other_a + 4) 6 (th + 4) 6 6) fun σ7_ =>
  Option.bind (acp σ7_ (other_a + 5) 6 (th + 5) 6 6) fun σ9_ =>
  Option.bind (acp σ9_ (other_a + 6) 36 (th + 6) 36 36) fun σ11_ =>
  Option.bind (acp σ11_ (other_a + 7) 4 (th + 7) 4 4) fun σ13_ =>
  Option.bind (q3_become σ13_ (th + 8) (other_a + 8)) fun x15_ =>
  lt (up x15_ th 8 (x15_ other_a 8)) fun σ17_ =>
  lt (up σ17_ th 9 (σ17_ other_a 9)) fun σ19_ =>
  lt (up σ19_ th 10 (σ19_ other_a 10)) fun σ21_ =>
  lt (up σ21_ th 11 (σ21_ other_a 11)) fun σ23_ =>
  lt (up σ23_ th 12 (σ23_ other_a 12)) fun σ25_ =>
  lt (up σ25_ th 13 (σ25_ other_a 13)) fun σ27_ =>
  lt (up σ27_ th 14 (σ27_ other_a 14)) fun σ29_ =>
  lt (up σ29_ th 15 (σ29_ other_a 15)) fun σ31_ =>
  lt (up σ31_ th 16 (σ31_ other_a 16)) fun σ33_ =>
  some σ33_
abbrev rm10_become : Room := { frames := 2, cells := 0, slots := 0, locals := 61 }
set_option maxHeartbeats 4000000 in
set_option maxRecDepth 100000 in
theorem p10_become {Θ : Tz} {σ : St} {ρ : Option Value × St} (C : Zc Θ cX10_become 2 RX10 none rm10_become) (hkd : Θ.2.2.2.2.1 = kdC) {th : Nat} {other_a : Nat} (hth : isV th) (h_other : isV other_a) {r : St} (hf : q10_become σ th other_a = some r) (hρ : ρ = (none, r)) : Z Θ 2 0 0 (zQ Θ ρ) σ 0 [(0, .ref (zA Θ th)), (1, .ref (zA Θ other_a))] [] := by
  unfold q10_become at hf
  refine z_aload_n C 1 dX10_become_0 rfl rfl ?_
  refine fg10_9 C hkd h_other dX10_become_1 ?_
  refine z_iconst (v := 0) C dX10_become_4 ic_0 ?_
  refine z_aload_n C 0 dX10_become_5 rfl rfl ?_
  refine fg10_9 C hkd hth dX10_become_6 ?_
  refine z_iconst (v := 0) C dX10_become_9 ic_0 ?_
  refine z_bipush (v := 6) C dX10_become_10 bp_6 ?_
  obtain ⟨σ1_, h2_, hf⟩ := ob hf
  refine z_acp C h2_ (kV_1 hkd h_other) (kV_1 hkd hth) w_3_113 ⟨(Nat.le_of_ble_eq_true rfl), (Nat.le_of_ble_eq_true rfl)⟩ (Nat.le_of_ble_eq_true rfl) dX10_become_12 ?_
  refine z_aload_n C 1 dX10_become_15 rfl rfl ?_
  refine fg10_15 C hkd h_other dX10_become_16 ?_
  refine z_iconst (v := 0) C dX10_become_19 ic_0 ?_
  refine z_aload_n C 0 dX10_become_20 rfl rfl ?_
  refine fg10_15 C hkd hth dX10_become_21 ?_
  refine z_iconst (v := 0) C dX10_become_24 ic_0 ?_
  refine z_bipush (v := 6) C dX10_become_25 bp_6 ?_
  obtain ⟨σ3_, h4_, hf⟩ := ob hf
  refine z_acp C h4_ (kV_2 hkd h_other) (kV_2 hkd hth) w_3_113 ⟨(Nat.le_of_ble_eq_true rfl), (Nat.le_of_ble_eq_true rfl)⟩ (Nat.le_of_ble_eq_true rfl) dX10_become_27 ?_
  refine z_aload_n C 1 dX10_become_30 rfl rfl ?_
  refine fg10_18 C hkd h_other dX10_become_31 ?_
  refine z_iconst (v := 0) C dX10_become_34 ic_0 ?_
  refine z_aload_n C 0 dX10_become_35 rfl rfl ?_
  refine fg10_18 C hkd hth dX10_become_36 ?_
  refine z_iconst (v := 0) C dX10_become_39 ic_0 ?_
  refine z_bipush (v := 6) C dX10_become_40 bp_6 ?_
  obtain ⟨σ5_, h6_, hf⟩ := ob hf
  refine z_acp C h6_ (kV_3 hkd h_other) (kV_3 hkd hth) w_3_113 ⟨(Nat.le_of_ble_eq_true rfl), (Nat.le_of_ble_eq_true rfl)⟩ (Nat.le_of_ble_eq_true rfl) dX10_become_42 ?_
  refine z_aload_n C 1 dX10_become_45 rfl rfl ?_
  refine fg10_21 C hkd h_other dX10_become_46 ?_
  refine z_iconst (v := 0) C dX10_become_49 ic_0 ?_
  refine z_aload_n C 0 dX10_become_50 rfl rfl ?_
  refine fg10_21 C hkd hth dX10_become_51 ?_
  refine z_iconst (v := 0) C dX10_become_54 ic_0 ?_
  refine z_bipush (v := 6) C dX10_become_55 bp_6 ?_
  obtain ⟨σ7_, h8_, hf⟩ := ob hf
  refine z_acp C h8_ (kV_4 hkd h_other) (kV_4 hkd hth) w_3_113 ⟨(Nat.le_of_ble_eq_true rfl), (Nat.le_of_ble_eq_true rfl)⟩ (Nat.le_of_ble_eq_true rfl) dX10_become_57 ?_
  refine z_aload_n C 1 dX10_become_60 rfl rfl ?_
  refine fg10_24 C hkd h_other dX10_become_61 ?_
  refine z_iconst (v := 0) C dX10_become_64 ic_0 ?_
  refine z_aload_n C 0 dX10_become_65 rfl rfl ?_
  refine fg10_24 C hkd hth dX10_become_66 ?_
  refine z_iconst (v := 0) C dX10_become_69 ic_0 ?_
  refine z_bipush (v := 6) C dX10_become_70 bp_6 ?_
  obtain ⟨σ9_, h10_, hf⟩ := ob hf
  refine z_acp C h10_ (kV_5 hkd h_other) (kV_5 hkd hth) w_3_113 ⟨(Nat.le_of_ble_eq_true rfl), (Nat.le_of_ble_eq_true rfl)⟩ (Nat.le_of_ble_eq_true rfl) dX10_become_72 ?_
  refine z_aload_n C 1 dX10_become_75 rfl rfl ?_
  refine fg10_27 C hkd h_other dX10_become_76 ?_
  refine z_iconst (v := 0) C dX10_become_79 ic_0 ?_
  refine z_aload_n C 0 dX10_become_80 rfl rfl ?_
  refine fg10_27 C hkd hth dX10_become_81 ?_
  refine z_iconst (v := 0) C dX10_become_84 ic_0 ?_
  refine z_bipush (v := 36) C dX10_become_85 bp_36 ?_
  obtain ⟨σ11_, h12_, hf⟩ := ob hf
  refine z_acp C h12_ (kV_6 hkd h_other) (kV_6 hkd hth) w_3_113 ⟨(Nat.le_of_ble_eq_true rfl), (Nat.le_of_ble_eq_true rfl)⟩ (Nat.le_of_ble_eq_true rfl) dX10_become_87 ?_
  refine z_aload_n C 1 dX10_become_90 rfl rfl ?_
  refine fg10_30 C hkd h_other dX10_become_91 ?_
  refine z_iconst (v := 0) C dX10_become_94 ic_0 ?_
  refine z_aload_n C 0 dX10_become_95 rfl rfl ?_
  refine fg10_30 C hkd hth dX10_become_96 ?_
  refine z_iconst (v := 0) C dX10_become_99 ic_0 ?_
  refine z_iconst (v := 4) C dX10_become_100 ic_4 ?_
  obtain ⟨σ13_, h14_, hf⟩ := ob hf
  refine z_acp C h14_ (kV_7 hkd h_other) (kV_7 hkd hth) w_3_113 ⟨(Nat.le_of_ble_eq_true rfl), (Nat.le_of_ble_eq_true rfl)⟩ (Nat.le_of_ble_eq_true rfl) dX10_become_101 ?_
  refine z_aload_n C 0 dX10_become_104 rfl rfl ?_
  refine fg10_36 C hkd hth dX10_become_105 ?_
  refine z_aload_n C 1 dX10_become_108 rfl rfl ?_
  refine fg10_36 C hkd h_other dX10_become_109 ?_
  obtain ⟨x15_, h16_, hf⟩ := ob hf
  refine cr10_80 (th := (th + 8)) (other_a := (other_a + 8)) C hkd (isLog_of hth) (isLog_of h_other) h16_ ⟨(Nat.le_of_ble_eq_true rfl), (Nat.le_of_ble_eq_true rfl)⟩ (Nat.le_of_ble_eq_true rfl) ⟨Nat.zero_le _, Nat.zero_le _⟩ dX10_become_112 ?_
  refine z_aload_n C 0 dX10_become_115 rfl rfl ?_
  refine z_aload_n C 1 dX10_become_116 rfl rfl ?_
  refine fg10_40 C hkd h_other dX10_become_117 ?_
  obtain ⟨σ17_, h18_, hf⟩ := lt_ hf
  refine fp10_40 C hkd hth h18_ dX10_become_120 ?_
  refine z_aload_n C 0 dX10_become_123 rfl rfl ?_
  refine z_aload_n C 1 dX10_become_124 rfl rfl ?_
  refine fg10_44 C hkd h_other dX10_become_125 ?_
  obtain ⟨σ19_, h20_, hf⟩ := lt_ hf
  refine fp10_44 C hkd hth h20_ dX10_become_128 ?_
  refine z_aload_n C 0 dX10_become_131 rfl rfl ?_
  refine z_aload_n C 1 dX10_become_132 rfl rfl ?_
  refine fg10_47 C hkd h_other dX10_become_133 ?_
  obtain ⟨σ21_, h22_, hf⟩ := lt_ hf
  refine fp10_47 C hkd hth h22_ dX10_become_136 ?_
  refine z_aload_n C 0 dX10_become_139 rfl rfl ?_
  refine z_aload_n C 1 dX10_become_140 rfl rfl ?_
  refine fg10_50 C hkd h_other dX10_become_141 ?_
  obtain ⟨σ23_, h24_, hf⟩ := lt_ hf
  refine fp10_50 C hkd hth h24_ dX10_become_144 ?_
  refine z_aload_n C 0 dX10_become_147 rfl rfl ?_
  refine z_aload_n C 1 dX10_become_148 rfl rfl ?_
  refine fg10_53 C hkd h_other dX10_become_149 ?_
  obtain ⟨σ25_, h26_, hf⟩ := lt_ hf
  refine fp10_53 C hkd hth h26_ dX10_become_152 ?_
  refine z_aload_n C 0 dX10_become_155 rfl rfl ?_
  refine z_aload_n C 1 dX10_become_156 rfl rfl ?_
  refine fg10_56 C hkd h_other dX10_become_157 ?_
  obtain ⟨σ27_, h28_, hf⟩ := lt_ hf
  refine fp10_56 C hkd hth h28_ dX10_become_160 ?_
  refine z_aload_n C 0 dX10_become_163 rfl rfl ?_
  refine z_aload_n C 1 dX10_become_164 rfl rfl ?_
  refine fg10_59 C hkd h_other dX10_become_165 ?_
  obtain ⟨σ29_, h30_, hf⟩ := lt_ hf
  refine fp10_59 C hkd hth h30_ dX10_become_168 ?_
  refine z_aload_n C 0 dX10_become_171 rfl rfl ?_
  refine z_aload_n C 1 dX10_become_172 rfl rfl ?_
  refine fg10_62 C hkd h_other dX10_become_173 ?_
  obtain ⟨σ31_, h32_, hf⟩ := lt_ hf
  refine fp10_62 C hkd hth h32_ dX10_become_176 ?_
  refine z_aload_n C 0 dX10_become_179 rfl rfl ?_
  refine z_aload_n C 1 dX10_become_180 rfl rfl ?_
  refine fg10_65 C hkd h_other dX10_become_181 ?_
  obtain ⟨σ33_, h34_, hf⟩ := lt_ hf
  refine fp10_65 C hkd hth h34_ dX10_become_184 ?_
  cases hf
  subst hρ
  exact z_vret C dX10_become_187
theorem c10_become {l : Launch} {kd : List KD} {w : Wp} {σ : St} {th : Nat} {other_a : Nat} (hkd : kd = kdC) (hi : zI kd w) (hth : isV th) (h_other : isV other_a) {r : St} (hf : q10_become σ th other_a = some r) : zM l kd w yX10_become cX10_become 2 none rm10_become [.ref (w.2.2.1 th), .ref (w.2.2.1 other_a)] σ (none, r) := zM_of rfl hi (Nat.le_of_ble_eq_true rfl) (fun Θ hl hw C => by
  obtain ⟨Θ1, Θ2, Θ3, Θ4, Θ5⟩ := Θ
  cases hw
  exact p10_become C hkd hth h_other hf rfl)
/-! LastLoaf.village -/
theorem w_2_189 : Cond.fieldLink "LastLoaf" (23 : Nat) "LastLoaf" "spare" "LLastLoaf$Village;" ∈ TB := tb_in (lwt_2 (List.mem_of_getElem? (i := 189) (by decide +kernel))) rfl
theorem fg11_23 {Θ : Tz} {cc : ByteArray} {nL kc ks : Nat} {ret : Option FieldType} {rm : Room} {Q : State → Prop} {σ : St} {pc : Nat} {lv : List (Nat × Value)} {st : List Value} (C : Zc Θ cc nL RX11 ret rm) (hkd : Θ.2.2.2.2.1 = kdC) (hd : decode cc pc = .ok (.getfield 23, 3)) (kk : Z Θ nL kc ks Q σ (pc + 3) lv (.ref (zA Θ 54) :: st)) : Z Θ nL kc ks Q σ pc lv (.ref (zA Θ 0) :: st) := z_get C inT11 0 (kC_0 hkd) rfl 2 (by decide) w_2_189 rfl hd kk
theorem w_2_188 : Cond.fieldLink "LastLoaf" (19 : Nat) "LastLoaf" "now" "LLastLoaf$Village;" ∈ TB := tb_in (lwt_2 (List.mem_of_getElem? (i := 188) (by decide +kernel))) rfl
theorem fg11_19 {Θ : Tz} {cc : ByteArray} {nL kc ks : Nat} {ret : Option FieldType} {rm : Room} {Q : State → Prop} {σ : St} {pc : Nat} {lv : List (Nat × Value)} {st : List Value} (C : Zc Θ cc nL RX11 ret rm) (hkd : Θ.2.2.2.2.1 = kdC) (hd : decode cc pc = .ok (.getfield 19, 3)) (kk : Z Θ nL kc ks Q σ (pc + 3) lv (.ref (zA Θ 44) :: st)) : Z Θ nL kc ks Q σ pc lv (.ref (zA Θ 0) :: st) := z_get C inT11 0 (kC_0 hkd) rfl 1 (by decide) w_2_188 rfl hd kk
theorem w_3_112 : Cond.code ({ cls := "LastLoaf$Village", name := "become", desc := "(LLastLoaf$Village;)V" } : MethodName) prog_12_method_2_code (2 : Nat) (Option.none : Option ClassFile.FieldType) ∈ TB := tb_in (lwt_3 (List.mem_of_getElem? (i := 112) (by decide +kernel))) rfl
theorem w_1_3 : Cond.initialized "LastLoaf$Village" ∈ TB := tb_in (lwt_1 (List.mem_of_getElem? (i := 3) (by decide +kernel))) rfl
theorem w_3_109 : Cond.methodLink "LastLoaf" (110 : Nat) ({ cls := "LastLoaf$Village", name := "become", desc := "(LLastLoaf$Village;)V" } : MethodName) ∈ TB := tb_in (lwt_3 (List.mem_of_getElem? (i := 109) (by decide +kernel))) rfl
theorem w_3_110 : Cond.instanceMethod ({ cls := "LastLoaf$Village", name := "become", desc := "(LLastLoaf$Village;)V" } : MethodName) ∈ TB := tb_in (lwt_3 (List.mem_of_getElem? (i := 110) (by decide +kernel))) rfl
theorem w_3_111 : Cond.selects "LastLoaf$Village" ({ cls := "LastLoaf$Village", name := "become", desc := "(LLastLoaf$Village;)V" } : MethodName) ({ cls := "LastLoaf$Village", name := "become", desc := "(LLastLoaf$Village;)V" } : MethodName) ∈ TB := tb_in (lwt_3 (List.mem_of_getElem? (i := 111) (by decide +kernel))) rfl
theorem cr11_110 {Θ : Tz} {cc : ByteArray} {nL kc ks : Nat} {ret : Option FieldType} {rm : Room} {Q : State → Prop} {σ : St} {pc : Nat} {lv : List (Nat × Value)} {st : List Value} (C : Zc Θ cc nL RX11 ret rm) (hkd : Θ.2.2.2.2.1 = kdC) {th : Nat} {other_a : Nat} (hth : isV th) (h_other : isV other_a) {r : St} (hx : q10_become σ th other_a = some r) (hrm : rm10_become.frames + 1 ≤ rm.frames ∧ 8 + (2 + 11) + rm10_become.locals ≤ rm.locals) (hcat : (st.map fun v => v.category).sum ≤ 8) (hk : kc ≤ rm.cells ∧ ks ≤ rm.slots) (hd : decode cc pc = .ok (.invokevirtual 110, 3)) (kk : Z Θ nL kc ks Q r (pc + 3) lv st) : Z Θ nL kc ks Q σ pc lv (.ref (zA Θ other_a) :: .ref (zA Θ th) :: st) := z_callV C th [.ref (zA Θ other_a)] (none, r) 1 (kV_0 hkd hth) rfl (c10_become (th := th) (other_a := other_a) hkd (zc_inj C) hth h_other hx) w_3_112 w_3_109 w_3_110 w_3_111 w_1_3 ⟨rfl, rfl, hrm.1, hrm.2⟩ (by decide +kernel) rfl rfl hcat hk hd kk
theorem w_2_192 : Cond.fieldLink "LastLoaf" (41 : Nat) "LastLoaf" "reader" "LLastLoaf$Reader;" ∈ TB := tb_in (lwt_2 (List.mem_of_getElem? (i := 192) (by decide +kernel))) rfl
theorem fg11_41 {Θ : Tz} {cc : ByteArray} {nL kc ks : Nat} {ret : Option FieldType} {rm : Room} {Q : State → Prop} {σ : St} {pc : Nat} {lv : List (Nat × Value)} {st : List Value} (C : Zc Θ cc nL RX11 ret rm) (hkd : Θ.2.2.2.2.1 = kdC) (hd : decode cc pc = .ok (.getfield 41, 3)) (kk : Z Θ nL kc ks Q σ (pc + 3) lv (.ref (zA Θ 3) :: st)) : Z Θ nL kc ks Q σ pc lv (.ref (zA Θ 0) :: st) := z_get C inT11 0 (kC_0 hkd) rfl 5 (by decide) w_2_192 rfl hd kk
theorem w_4_170 : Cond.code ({ cls := "LastLoaf$Reader", name := "readVillage", desc := "()Z" } : MethodName) prog_8_method_2_code (2 : Nat) (Option.some ClassFile.FieldType.boolean) ∈ TB := tb_in (lwt_4 (List.mem_of_getElem? (i := 170) (by decide +kernel))) rfl
theorem w_4_167 : Cond.methodLink "LastLoaf" (114 : Nat) ({ cls := "LastLoaf$Reader", name := "readVillage", desc := "()Z" } : MethodName) ∈ TB := tb_in (lwt_4 (List.mem_of_getElem? (i := 167) (by decide +kernel))) rfl
theorem w_4_168 : Cond.instanceMethod ({ cls := "LastLoaf$Reader", name := "readVillage", desc := "()Z" } : MethodName) ∈ TB := tb_in (lwt_4 (List.mem_of_getElem? (i := 168) (by decide +kernel))) rfl
theorem w_4_169 : Cond.selects "LastLoaf$Reader" ({ cls := "LastLoaf$Reader", name := "readVillage", desc := "()Z" } : MethodName) ({ cls := "LastLoaf$Reader", name := "readVillage", desc := "()Z" } : MethodName) ∈ TB := tb_in (lwt_4 (List.mem_of_getElem? (i := 169) (by decide +kernel))) rfl
theorem cr11_114 {Θ : Tz} {cc : ByteArray} {nL kc ks : Nat} {ret : Option FieldType} {rm : Room} {Q : State → Prop} {σ : St} {pc : Nat} {lv : List (Nat × Value)} {st : List Value} (C : Zc Θ cc nL RX11 ret rm) (hkd : Θ.2.2.2.2.1 = kdC) {r : Bool × St} (hx : q6_readVillage σ = some r) (hrm : rm6_readVillage.frames + 1 ≤ rm.frames ∧ 8 + (2 + 11) + rm6_readVillage.locals ≤ rm.locals) (hcat : (st.map fun v => v.category).sum ≤ 8) (hk : kc ≤ rm.cells ∧ ks ≤ rm.slots) (hd : decode cc pc = .ok (.invokevirtual 114, 3)) (kk : Z Θ nL kc ks Q r.2 (pc + 3) lv (.int (b2i r.1) :: st)) : Z Θ nL kc ks Q σ pc lv (.ref (zA Θ 3) :: st) := z_callV C 3 [] (some (.int (b2i r.1)), r.2) 0 (kC_3 hkd) rfl (c6_readVillage hkd (zc_inj C) hx) w_4_170 w_4_167 w_4_168 w_4_169 w_1_7 ⟨rfl, rfl, hrm.1, hrm.2⟩ (by decide +kernel) rfl rfl hcat hk hd kk
theorem w_5_55 : Cond.code ({ cls := "LastLoaf", name := "closeText", desc := "(Z)V" } : MethodName) prog_1_method_75_code (2 : Nat) (Option.none : Option ClassFile.FieldType) ∈ TB := tb_in (lwt_5 (List.mem_of_getElem? (i := 55) (by decide +kernel))) rfl
theorem w_1_1 : Cond.initialized "LastLoaf" ∈ TB := tb_in (lwt_1 (List.mem_of_getElem? (i := 1) (by decide +kernel))) rfl
theorem w_5_52 : Cond.methodLink "LastLoaf" (118 : Nat) ({ cls := "LastLoaf", name := "closeText", desc := "(Z)V" } : MethodName) ∈ TB := tb_in (lwt_5 (List.mem_of_getElem? (i := 52) (by decide +kernel))) rfl
theorem w_5_54 : Cond.instanceMethod ({ cls := "LastLoaf", name := "closeText", desc := "(Z)V" } : MethodName) ∈ TB := tb_in (lwt_5 (List.mem_of_getElem? (i := 54) (by decide +kernel))) rfl
theorem ws_LastLoaf_closeText_Z_V : Cond.selects "LastLoaf" (⟨"LastLoaf", "closeText", "(Z)V"⟩ : MethodName) (⟨"LastLoaf", "closeText", "(Z)V"⟩ : MethodName) ∈ TB := tb_in (List.mem_append_left _ (List.mem_of_getElem? (i := 5) (by decide +kernel))) rfl
theorem cr11_118 {Θ : Tz} {cc : ByteArray} {nL kc ks : Nat} {ret : Option FieldType} {rm : Room} {Q : State → Prop} {σ : St} {pc : Nat} {lv : List (Nat × Value)} {st : List Value} (C : Zc Θ cc nL RX11 ret rm) (hkd : Θ.2.2.2.2.1 = kdC) {right_a : Bool} {r : St} (hx : q11_closeText σ right_a = some r) (hrm : rm11_closeText.frames + 1 ≤ rm.frames ∧ 8 + (2 + 11) + rm11_closeText.locals ≤ rm.locals) (hcat : (st.map fun v => v.category).sum ≤ 8) (hk : kc ≤ rm.cells ∧ ks ≤ rm.slots) (hd : decode cc pc = .ok (.invokevirtual 118, 3)) (kk : Z Θ nL kc ks Q r (pc + 3) lv st) : Z Θ nL kc ks Q σ pc lv (.int (b2i right_a) :: .ref (zA Θ 0) :: st) := z_callV C 0 [.int (b2i right_a)] (none, r) 1 (kC_0 hkd) rfl (c11_closeText (right_a := right_a) hkd (zc_inj C) hx) w_5_55 w_5_52 w_5_54 ws_LastLoaf_closeText_Z_V w_1_1 ⟨rfl, rfl, hrm.1, hrm.2⟩ (by decide +kernel) rfl rfl hcat hk hd kk
theorem th11_0_126g : ∀ w ∈ (vx_atS RX11 126 (exn 0) ["java/lang/RuntimeException", "java/lang/Exception"]).filter goodWord, w ∈ TB := fun w h => tb_in ((by decide +kernel : ∀ w ∈ (vx_atS RX11 126 (exn 0) ["java/lang/RuntimeException", "java/lang/Exception"]).filter goodWord, w ∈ lw_tbl) w h) ((List.mem_filter.mp h).2)
theorem th11_0_126n : ∀ w ∈ (vx_atS RX11 126 (exn 0) ["java/lang/RuntimeException", "java/lang/Exception"]).filter (fun w => !goodWord w), w ∈ nestW := by decide +kernel
theorem th11_0_126o : ∀ w ∈ Cond.classLink RX11 122 (exn 0) :: Cond.initialized (exn 0) :: vx_atS RX11 126 (exn 0) ["java/lang/RuntimeException", "java/lang/Exception"], vx_ot w = true := by decide +kernel
theorem w_5_56 : Cond.classLink "LastLoaf" (122 : Nat) "java/lang/IllegalArgumentException" ∈ TB := tb_in (lwt_5 (List.mem_of_getElem? (i := 56) (by decide +kernel))) rfl
theorem w_1_23 : Cond.initialized "java/lang/IllegalArgumentException" ∈ TB := tb_in (lwt_1 (List.mem_of_getElem? (i := 23) (by decide +kernel))) rfl
theorem w_1_163 : Cond.fieldLink "LastLoaf" (129 : Nat) "LastLoaf$Village" "texts" "I" ∈ TB := tb_in (lwt_1 (List.mem_of_getElem? (i := 163) (by decide +kernel))) rfl
theorem fg11_129 {Θ : Tz} {cc : ByteArray} {nL kc ks : Nat} {ret : Option FieldType} {rm : Room} {Q : State → Prop} {σ : St} {pc : Nat} {lv : List (Nat × Value)} {st : List Value} (C : Zc Θ cc nL RX11 ret rm) (hkd : Θ.2.2.2.2.1 = kdC) {th : Nat} (hth : isV th) (hd : decode cc pc = .ok (.getfield 129, 3)) (kk : Z Θ nL kc ks Q σ (pc + 3) lv (.int (σ th 16) :: st)) : Z Θ nL kc ks Q σ pc lv (.ref (zA Θ th) :: st) := z_get C inT10 th (kV_0 hkd hth) rfl 16 (by decide) w_1_163 rfl hd kk
theorem th11_3_136g : ∀ w ∈ (vx_atS RX11 136 (exn 3) ["java/lang/RuntimeException", "java/lang/Exception"]).filter goodWord, w ∈ TB := fun w h => tb_in ((by decide +kernel : ∀ w ∈ (vx_atS RX11 136 (exn 3) ["java/lang/RuntimeException", "java/lang/Exception"]).filter goodWord, w ∈ lw_tbl) w h) ((List.mem_filter.mp h).2)
theorem th11_3_136n : ∀ w ∈ (vx_atS RX11 136 (exn 3) ["java/lang/RuntimeException", "java/lang/Exception"]).filter (fun w => !goodWord w), w ∈ nestW := by decide +kernel
theorem th11_3_136o : ∀ w ∈ Cond.classLink RX11 132 (exn 3) :: Cond.initialized (exn 3) :: vx_atS RX11 136 (exn 3) ["java/lang/RuntimeException", "java/lang/Exception"], vx_ot w = true := by decide +kernel
theorem w_5_126 : Cond.classLink "LastLoaf" (132 : Nat) "java/lang/UnsupportedOperationException" ∈ TB := tb_in (lwt_5 (List.mem_of_getElem? (i := 126) (by decide +kernel))) rfl
theorem w_1_24 : Cond.initialized "java/lang/UnsupportedOperationException" ∈ TB := tb_in (lwt_1 (List.mem_of_getElem? (i := 24) (by decide +kernel))) rfl
theorem fp11_129 {Θ : Tz} {cc : ByteArray} {nL kc ks : Nat} {ret : Option FieldType} {rm : Room} {Q : State → Prop} {σ : St} {pc : Nat} {lv : List (Nat × Value)} {st : List Value} (C : Zc Θ cc nL RX11 ret rm) (hkd : Θ.2.2.2.2.1 = kdC) {th : Nat} (hth : isV th) {x : Int32} {σ1 : St} (he : σ1 = up σ th 16 x) (hd : decode cc pc = .ok (.putfield 129, 3)) (kk : Z Θ nL kc ks Q σ1 (pc + 3) lv st) : Z Θ nL kc ks Q σ pc lv (.int x :: .ref (zA Θ th) :: st) := by subst he; exact z_put C inT10 tyX10_ok nmX10 th (kV_0 hkd hth) rfl 16 (by decide) w_1_163 rfl rfl rfl rfl hd kk
theorem w_2_195 : Cond.fieldLink "LastLoaf" (54 : Nat) "LastLoaf" "past" "LLastLoaf$Past;" ∈ TB := tb_in (lwt_2 (List.mem_of_getElem? (i := 195) (by decide +kernel))) rfl
theorem fg11_54 {Θ : Tz} {cc : ByteArray} {nL kc ks : Nat} {ret : Option FieldType} {rm : Room} {Q : State → Prop} {σ : St} {pc : Nat} {lv : List (Nat × Value)} {st : List Value} (C : Zc Θ cc nL RX11 ret rm) (hkd : Θ.2.2.2.2.1 = kdC) (hd : decode cc pc = .ok (.getfield 54, 3)) (kk : Z Θ nL kc ks Q σ (pc + 3) lv (.ref (zA Θ 5) :: st)) : Z Θ nL kc ks Q σ pc lv (.ref (zA Θ 0) :: st) := z_get C inT11 0 (kC_0 hkd) rfl 8 (by decide) w_2_195 rfl hd kk
theorem w_4_144 : Cond.code ({ cls := "LastLoaf$Past", name := "forget", desc := "()V" } : MethodName) prog_6_method_4_code (1 : Nat) (Option.none : Option ClassFile.FieldType) ∈ TB := tb_in (lwt_4 (List.mem_of_getElem? (i := 144) (by decide +kernel))) rfl
theorem w_1_8 : Cond.initialized "LastLoaf$Past" ∈ TB := tb_in (lwt_1 (List.mem_of_getElem? (i := 8) (by decide +kernel))) rfl
theorem w_4_141 : Cond.methodLink "LastLoaf" (137 : Nat) ({ cls := "LastLoaf$Past", name := "forget", desc := "()V" } : MethodName) ∈ TB := tb_in (lwt_4 (List.mem_of_getElem? (i := 141) (by decide +kernel))) rfl
theorem w_4_142 : Cond.instanceMethod ({ cls := "LastLoaf$Past", name := "forget", desc := "()V" } : MethodName) ∈ TB := tb_in (lwt_4 (List.mem_of_getElem? (i := 142) (by decide +kernel))) rfl
theorem w_4_143 : Cond.selects "LastLoaf$Past" ({ cls := "LastLoaf$Past", name := "forget", desc := "()V" } : MethodName) ({ cls := "LastLoaf$Past", name := "forget", desc := "()V" } : MethodName) ∈ TB := tb_in (lwt_4 (List.mem_of_getElem? (i := 143) (by decide +kernel))) rfl
theorem cr11_137 {Θ : Tz} {cc : ByteArray} {nL kc ks : Nat} {ret : Option FieldType} {rm : Room} {Q : State → Prop} {σ : St} {pc : Nat} {lv : List (Nat × Value)} {st : List Value} (C : Zc Θ cc nL RX11 ret rm) (hkd : Θ.2.2.2.2.1 = kdC) {r : St} (hx : q4_forget σ = some r) (hrm : rm4_forget.frames + 1 ≤ rm.frames ∧ 8 + (1 + 11) + rm4_forget.locals ≤ rm.locals) (hcat : (st.map fun v => v.category).sum ≤ 8) (hk : kc ≤ rm.cells ∧ ks ≤ rm.slots) (hd : decode cc pc = .ok (.invokevirtual 137, 3)) (kk : Z Θ nL kc ks Q r (pc + 3) lv st) : Z Θ nL kc ks Q σ pc lv (.ref (zA Θ 5) :: st) := z_callV C 5 [] (none, r) 0 (kC_5 hkd) rfl (c4_forget hkd (zc_inj C) hx) w_4_144 w_4_141 w_4_142 w_4_143 w_1_8 ⟨rfl, rfl, hrm.1, hrm.2⟩ (by decide +kernel) rfl rfl hcat hk hd kk
theorem dX11_village_0 : decode cX11_village 0 = .ok (.aload_n 0, 1) := by decide +kernel
theorem dX11_village_1 : decode cX11_village 1 = .ok (.getfield 23, 3) := by decide +kernel
theorem dX11_village_4 : decode cX11_village 4 = .ok (.aload_n 0, 1) := by decide +kernel
theorem dX11_village_5 : decode cX11_village 5 = .ok (.getfield 19, 3) := by decide +kernel
theorem dX11_village_8 : decode cX11_village 8 = .ok (.invokevirtual 110, 3) := by decide +kernel
theorem dX11_village_11 : decode cX11_village 11 = .ok (.aload_n 0, 1) := by decide +kernel
theorem dX11_village_12 : decode cX11_village 12 = .ok (.getfield 41, 3) := by decide +kernel
theorem dX11_village_15 : decode cX11_village 15 = .ok (.invokevirtual 114, 3) := by decide +kernel
theorem dX11_village_18 : decode cX11_village 18 = .ok (.istore_n 1, 1) := by decide +kernel
theorem dX11_village_19 : decode cX11_village 19 = .ok (.aload_n 0, 1) := by decide +kernel
theorem dX11_village_20 : decode cX11_village 20 = .ok (.iload_n 1, 1) := by decide +kernel
theorem dX11_village_21 : decode cX11_village 21 = .ok (.invokevirtual 118, 3) := by decide +kernel
theorem dX11_village_24 : decode cX11_village 24 = .ok (.iload_n 1, 1) := by decide +kernel
theorem dX11_village_25 : decode cX11_village 25 = .ok (.ifCond .ne 13, 3) := by decide +kernel
theorem dX11_village_28 : decode cX11_village 28 = .ok (.new 122, 3) := by decide +kernel
theorem dX11_village_31 : decode cX11_village 31 = .ok (.dup, 1) := by decide +kernel
theorem dX11_village_32 : decode cX11_village 32 = .ok (.ldc 124, 2) := by decide +kernel
theorem dX11_village_34 : decode cX11_village 34 = .ok (.invokespecial 126, 3) := by decide +kernel
theorem dX11_village_37 : decode cX11_village 37 = .ok (.athrow, 1) := by decide +kernel
theorem dX11_village_38 : decode cX11_village 38 = .ok (.aload_n 0, 1) := by decide +kernel
theorem dX11_village_39 : decode cX11_village 39 = .ok (.getfield 19, 3) := by decide +kernel
theorem dX11_village_42 : decode cX11_village 42 = .ok (.getfield 129, 3) := by decide +kernel
theorem dX11_village_45 : decode cX11_village 45 = .ok (.bipush 12, 2) := by decide +kernel
theorem dX11_village_47 : decode cX11_village 47 = .ok (.if_icmp .lt 13, 3) := by decide +kernel
theorem dX11_village_50 : decode cX11_village 50 = .ok (.new 132, 3) := by decide +kernel
theorem dX11_village_53 : decode cX11_village 53 = .ok (.dup, 1) := by decide +kernel
theorem dX11_village_54 : decode cX11_village 54 = .ok (.ldc 134, 2) := by decide +kernel
theorem dX11_village_56 : decode cX11_village 56 = .ok (.invokespecial 136, 3) := by decide +kernel
theorem dX11_village_59 : decode cX11_village 59 = .ok (.athrow, 1) := by decide +kernel
theorem dX11_village_60 : decode cX11_village 60 = .ok (.aload_n 0, 1) := by decide +kernel
theorem dX11_village_61 : decode cX11_village 61 = .ok (.getfield 19, 3) := by decide +kernel
theorem dX11_village_64 : decode cX11_village 64 = .ok (.aload_n 0, 1) := by decide +kernel
theorem dX11_village_65 : decode cX11_village 65 = .ok (.getfield 23, 3) := by decide +kernel
theorem dX11_village_68 : decode cX11_village 68 = .ok (.invokevirtual 110, 3) := by decide +kernel
theorem dX11_village_71 : decode cX11_village 71 = .ok (.aload_n 0, 1) := by decide +kernel
theorem dX11_village_72 : decode cX11_village 72 = .ok (.getfield 19, 3) := by decide +kernel
theorem dX11_village_75 : decode cX11_village 75 = .ok (.dup, 1) := by decide +kernel
theorem dX11_village_76 : decode cX11_village 76 = .ok (.getfield 129, 3) := by decide +kernel
theorem dX11_village_79 : decode cX11_village 79 = .ok (.iconst 1, 1) := by decide +kernel
theorem dX11_village_80 : decode cX11_village 80 = .ok (.iadd, 1) := by decide +kernel
theorem dX11_village_81 : decode cX11_village 81 = .ok (.putfield 129, 3) := by decide +kernel
theorem dX11_village_84 : decode cX11_village 84 = .ok (.aload_n 0, 1) := by decide +kernel
theorem dX11_village_85 : decode cX11_village 85 = .ok (.getfield 54, 3) := by decide +kernel
theorem dX11_village_88 : decode cX11_village 88 = .ok (.invokevirtual 137, 3) := by decide +kernel
theorem dX11_village_91 : decode cX11_village 91 = .ok (.aload_n 0, 1) := by decide +kernel
theorem dX11_village_92 : decode cX11_village 92 = .ok (.getfield 19, 3) := by decide +kernel
theorem dX11_village_95 : decode cX11_village 95 = .ok (.getfield 129, 3) := by decide +kernel
theorem dX11_village_98 : decode cX11_village 98 = .ok (.ireturn, 1) := by decide +kernel
def q11_village (σ : St) : Option (Sum Nat Int32 × St) :=
  Option.bind (q10_become σ 54 44) fun x1_ =>
  Option.bind (q6_readVillage x1_) fun x3_ =>
  Option.bind (q11_closeText x3_.2 x3_.1) fun x5_ =>
  if ¬ (x3_.1 = true) then (some (.inl 0, x5_)) else
  if 12 ≤ (x5_ 44 16) then (some (.inl 3, x5_)) else
  Option.bind (q10_become x5_ 44 54) fun x15_ =>
  lt (up x15_ 44 16 ((x15_ 44 16) + 1)) fun σ17_ =>
  Option.bind (q4_forget σ17_) fun x19_ =>
  some (.inr (x19_ 44 16), x19_)
abbrev rm11_village : Room := { frames := 9, cells := 1, slots := 6, locals := 190 }
set_option maxHeartbeats 4000000 in
set_option maxRecDepth 100000 in
theorem p11_village {Θ : Tz} {σ : St} {ω : Om} (C : Zc Θ cX11_village 2 RX11 (some .int) rm11_village) (hkd : Θ.2.2.2.2.1 = kdC) (hlt : Θ.1.2.1.stackTraces = false) (het : ∀ x ∈ Θ.2.2.1.2.exceptionTable.toList, False) {r : (Sum Nat Int32 × St)} (hf : q11_village σ = some r) (hω : ω = om (fun v => some (.int v)) r) : Z Θ 2 0 0 (zQX Θ ω 1 6) σ 0 [(0, .ref (zA Θ 0))] [] := by
  unfold q11_village at hf
  refine z_aload_n C 0 dX11_village_0 rfl rfl ?_
  refine fg11_23 C hkd dX11_village_1 ?_
  refine z_aload_n C 0 dX11_village_4 rfl rfl ?_
  refine fg11_19 C hkd dX11_village_5 ?_
  obtain ⟨x1_, h2_, hf⟩ := ob hf
  refine cr11_110 (th := 54) (other_a := 44) C hkd isV_54 isV_44 h2_ ⟨(Nat.le_of_ble_eq_true rfl), (Nat.le_of_ble_eq_true rfl)⟩ (Nat.le_of_ble_eq_true rfl) ⟨(Nat.le_of_ble_eq_true rfl), (Nat.le_of_ble_eq_true rfl)⟩ dX11_village_8 ?_
  refine z_aload_n C 0 dX11_village_11 rfl rfl ?_
  refine fg11_41 C hkd dX11_village_12 ?_
  obtain ⟨x3_, h4_, hf⟩ := ob hf
  refine cr11_114 C hkd  h4_ ⟨(Nat.le_of_ble_eq_true rfl), (Nat.le_of_ble_eq_true rfl)⟩ (Nat.le_of_ble_eq_true rfl) ⟨(Nat.le_of_ble_eq_true rfl), (Nat.le_of_ble_eq_true rfl)⟩ dX11_village_15 ?_
  refine z_istN C dX11_village_18 rfl rfl (Nat.le_of_ble_eq_true rfl) rfl ?_
  refine z_aload_n C 1 dX11_village_19 rfl rfl ?_
  refine z_iload_n C 0 dX11_village_20 rfl rfl ?_
  obtain ⟨x5_, h6_, hf⟩ := ob hf
  refine cr11_118 (right_a := x3_.1) C hkd  h6_ ⟨(Nat.le_of_ble_eq_true rfl), (Nat.le_of_ble_eq_true rfl)⟩ (Nat.le_of_ble_eq_true rfl) ⟨(Nat.le_of_ble_eq_true rfl), (Nat.le_of_ble_eq_true rfl)⟩ dX11_village_21 ?_
  have K7_ : ¬ (x3_.1 = true) → Z Θ 2 0 0 (zQX Θ ω 1 6) x5_ 28 [(1, .int (b2i x3_.1)), (0, .ref (zA Θ 0))] [] := by
    intro h10_
    rw [if_pos h10_] at hf
    cases hf
    subst hω
    exact zx_throw (tx := "the text of the village is wrong") C hlt het 0 (by decide +kernel) w_5_56 w_1_23 (List.mem_of_getElem? (i := 17) rfl) th11_0_126g th11_0_126n th11_0_126o dX11_village_28 dX11_village_31 dX11_village_32 dX11_village_34 dX11_village_37 ⟨(Nat.le_of_ble_eq_true rfl), (Nat.le_of_ble_eq_true rfl), (Nat.le_of_ble_eq_true rfl), (Nat.le_of_ble_eq_true rfl)⟩ (Nat.le_of_ble_eq_true rfl) ⟨(Nat.le_of_ble_eq_true rfl), (Nat.le_of_ble_eq_true rfl)⟩
  suffices K8_ : ¬ (¬ (x3_.1 = true)) → Z Θ 2 0 0 (zQX Θ ω 1 6) x5_ 38 [(1, .int (b2i x3_.1)), (0, .ref (zA Θ 0))] [] by
    refine z_iload_n C 0 dX11_village_24 rfl rfl ?_
    refine cb_t C 38 dX11_village_25 (by decide) (fun h9_ => ?_) (fun h9_ => ?_)
    · exact K8_ (fun n => n h9_)
    · exact K7_ h9_
  intro h10_
  rw [if_neg h10_] at hf
  have K11_ : 12 ≤ (x5_ 44 16) → Z Θ 2 0 0 (zQX Θ ω 1 6) x5_ 50 [(1, .int (b2i x3_.1)), (0, .ref (zA Θ 0))] [] := by
    intro h14_
    rw [if_pos h14_] at hf
    cases hf
    subst hω
    exact zx_throw (tx := "there are twelve texts") C hlt het 3 (by decide +kernel) w_5_126 w_1_24 (List.mem_of_getElem? (i := 18) rfl) th11_3_136g th11_3_136n th11_3_136o dX11_village_50 dX11_village_53 dX11_village_54 dX11_village_56 dX11_village_59 ⟨(Nat.le_of_ble_eq_true rfl), (Nat.le_of_ble_eq_true rfl), (Nat.le_of_ble_eq_true rfl), (Nat.le_of_ble_eq_true rfl)⟩ (Nat.le_of_ble_eq_true rfl) ⟨(Nat.le_of_ble_eq_true rfl), (Nat.le_of_ble_eq_true rfl)⟩
  suffices K12_ : ¬ (12 ≤ (x5_ 44 16)) → Z Θ 2 0 0 (zQX Θ ω 1 6) x5_ 60 [(1, .int (b2i x3_.1)), (0, .ref (zA Θ 0))] [] by
    refine z_aload_n C 1 dX11_village_38 rfl rfl ?_
    refine fg11_19 C hkd dX11_village_39 ?_
    refine fg11_129 C hkd isV_44 dX11_village_42 ?_
    refine z_bipush (v := 12) C dX11_village_45 bp_12 ?_
    refine c_ge_f C 60 dX11_village_47 (by decide) (fun h13_ => ?_) (fun h13_ => ?_)
    · exact K11_ h13_
    · exact K12_ h13_
  intro h14_
  rw [if_neg h14_] at hf
  refine z_aload_n C 1 dX11_village_60 rfl rfl ?_
  refine fg11_19 C hkd dX11_village_61 ?_
  refine z_aload_n C 1 dX11_village_64 rfl rfl ?_
  refine fg11_23 C hkd dX11_village_65 ?_
  obtain ⟨x15_, h16_, hf⟩ := ob hf
  refine cr11_110 (th := 44) (other_a := 54) C hkd isV_44 isV_54 h16_ ⟨(Nat.le_of_ble_eq_true rfl), (Nat.le_of_ble_eq_true rfl)⟩ (Nat.le_of_ble_eq_true rfl) ⟨(Nat.le_of_ble_eq_true rfl), (Nat.le_of_ble_eq_true rfl)⟩ dX11_village_68 ?_
  refine z_aload_n C 1 dX11_village_71 rfl rfl ?_
  refine fg11_19 C hkd dX11_village_72 ?_
  refine z_dup C dX11_village_75 rfl ?_
  refine fg11_129 C hkd isV_44 dX11_village_76 ?_
  refine z_iconst (v := 1) C dX11_village_79 ic_1 ?_
  refine z_iadd C dX11_village_80 ?_
  obtain ⟨σ17_, h18_, hf⟩ := lt_ hf
  refine fp11_129 C hkd isV_44 h18_ dX11_village_81 ?_
  refine z_aload_n C 1 dX11_village_84 rfl rfl ?_
  refine fg11_54 C hkd dX11_village_85 ?_
  obtain ⟨x19_, h20_, hf⟩ := ob hf
  refine cr11_137 C hkd  h20_ ⟨(Nat.le_of_ble_eq_true rfl), (Nat.le_of_ble_eq_true rfl)⟩ (Nat.le_of_ble_eq_true rfl) ⟨(Nat.le_of_ble_eq_true rfl), (Nat.le_of_ble_eq_true rfl)⟩ dX11_village_88 ?_
  refine z_aload_n C 1 dX11_village_91 rfl rfl ?_
  refine fg11_19 C hkd dX11_village_92 ?_
  refine fg11_129 C hkd isV_44 dX11_village_95 ?_
  cases hf
  subst hω
  exact zx_iret C ⟨(Nat.le_of_ble_eq_true rfl), (Nat.le_of_ble_eq_true rfl)⟩ dX11_village_98
theorem c11_village {l : Launch} {kd : List KD} {w : Wp} {σ : St} (hkd : kd = kdC) (hi : zI kd w) (hlt : l.stackTraces = false) {r : (Sum Nat Int32 × St)} (hf : q11_village σ = some r) : zX l kd w yX11_village cX11_village 2 (some .int) rm11_village [.ref (w.2.2.1 0)] σ (om (fun v => some (.int v)) r) 1 6 := zX_of rfl hi (Nat.le_of_ble_eq_true rfl) (fun Θ hl hw C het => by
  obtain ⟨Θ1, Θ2, Θ3, Θ4, Θ5⟩ := Θ
  cases hw
  cases hl
  exact p11_village C hkd hlt het  hf rfl)
/-! LastLoaf$Law.become -/
theorem w_1_205 : Cond.fieldLink "LastLoaf$Law" (9 : Nat) "LastLoaf$Law" "code" "[I" ∈ TB := tb_in (lwt_1 (List.mem_of_getElem? (i := 205) (by decide +kernel))) rfl
theorem fg2_9 {Θ : Tz} {cc : ByteArray} {nL kc ks : Nat} {ret : Option FieldType} {rm : Room} {Q : State → Prop} {σ : St} {pc : Nat} {lv : List (Nat × Value)} {st : List Value} (C : Zc Θ cc nL RX2 ret rm) (hkd : Θ.2.2.2.2.1 = kdC) {th : Nat} (hth : isLaw th) (hd : decode cc pc = .ok (.getfield 9, 3)) (kk : Z Θ nL kc ks Q σ (pc + 3) lv (.ref (zA Θ (th + 1)) :: st)) : Z Θ nL kc ks Q σ pc lv (.ref (zA Θ th) :: st) := z_get C inT2 th (kLaw_0 hkd hth) rfl 0 (by decide) w_1_205 rfl hd kk
theorem sp_412 : (Int16.ofInt (412)).toInt32 = 412 := by decide +kernel
theorem w_4_136 : Cond.methodLink "LastLoaf$Law" (35 : Nat) ({ cls := "java/lang/System", name := "arraycopy", desc := "(Ljava/lang/Object;ILjava/lang/Object;II)V" } : MethodName) ∈ TB := tb_in (lwt_4 (List.mem_of_getElem? (i := 136) (by decide +kernel))) rfl
theorem w_1_208 : Cond.fieldLink "LastLoaf$Law" (21 : Nat) "LastLoaf$Law" "length" "I" ∈ TB := tb_in (lwt_1 (List.mem_of_getElem? (i := 208) (by decide +kernel))) rfl
theorem fg2_21 {Θ : Tz} {cc : ByteArray} {nL kc ks : Nat} {ret : Option FieldType} {rm : Room} {Q : State → Prop} {σ : St} {pc : Nat} {lv : List (Nat × Value)} {st : List Value} (C : Zc Θ cc nL RX2 ret rm) (hkd : Θ.2.2.2.2.1 = kdC) {th : Nat} (hth : isLaw th) (hd : decode cc pc = .ok (.getfield 21, 3)) (kk : Z Θ nL kc ks Q σ (pc + 3) lv (.int (σ th 3) :: st)) : Z Θ nL kc ks Q σ pc lv (.ref (zA Θ th) :: st) := z_get C inT2 th (kLaw_0 hkd hth) rfl 3 (by decide) w_1_208 rfl hd kk
theorem fp2_21 {Θ : Tz} {cc : ByteArray} {nL kc ks : Nat} {ret : Option FieldType} {rm : Room} {Q : State → Prop} {σ : St} {pc : Nat} {lv : List (Nat × Value)} {st : List Value} (C : Zc Θ cc nL RX2 ret rm) (hkd : Θ.2.2.2.2.1 = kdC) {th : Nat} (hth : isLaw th) {x : Int32} {σ1 : St} (he : σ1 = up σ th 3 x) (hd : decode cc pc = .ok (.putfield 21, 3)) (kk : Z Θ nL kc ks Q σ1 (pc + 3) lv st) : Z Θ nL kc ks Q σ pc lv (.int x :: .ref (zA Θ th) :: st) := by subst he; exact z_put C inT2 tyX2_ok nmX2 th (kLaw_0 hkd hth) rfl 3 (by decide) w_1_208 rfl rfl rfl rfl hd kk
theorem w_1_210 : Cond.fieldLink "LastLoaf$Law" (25 : Nat) "LastLoaf$Law" "lines" "I" ∈ TB := tb_in (lwt_1 (List.mem_of_getElem? (i := 210) (by decide +kernel))) rfl
theorem fg2_25 {Θ : Tz} {cc : ByteArray} {nL kc ks : Nat} {ret : Option FieldType} {rm : Room} {Q : State → Prop} {σ : St} {pc : Nat} {lv : List (Nat × Value)} {st : List Value} (C : Zc Θ cc nL RX2 ret rm) (hkd : Θ.2.2.2.2.1 = kdC) {th : Nat} (hth : isLaw th) (hd : decode cc pc = .ok (.getfield 25, 3)) (kk : Z Θ nL kc ks Q σ (pc + 3) lv (.int (σ th 4) :: st)) : Z Θ nL kc ks Q σ pc lv (.ref (zA Θ th) :: st) := z_get C inT2 th (kLaw_0 hkd hth) rfl 4 (by decide) w_1_210 rfl hd kk
theorem fp2_25 {Θ : Tz} {cc : ByteArray} {nL kc ks : Nat} {ret : Option FieldType} {rm : Room} {Q : State → Prop} {σ : St} {pc : Nat} {lv : List (Nat × Value)} {st : List Value} (C : Zc Θ cc nL RX2 ret rm) (hkd : Θ.2.2.2.2.1 = kdC) {th : Nat} (hth : isLaw th) {x : Int32} {σ1 : St} (he : σ1 = up σ th 4 x) (hd : decode cc pc = .ok (.putfield 25, 3)) (kk : Z Θ nL kc ks Q σ1 (pc + 3) lv st) : Z Θ nL kc ks Q σ pc lv (.int x :: .ref (zA Θ th) :: st) := by subst he; exact z_put C inT2 tyX2_ok nmX2 th (kLaw_0 hkd hth) rfl 4 (by decide) w_1_210 rfl rfl rfl rfl hd kk
theorem dX2_become_0 : decode cX2_become 0 = .ok (.aload_n 1, 1) := by decide +kernel
theorem dX2_become_1 : decode cX2_become 1 = .ok (.getfield 9, 3) := by decide +kernel
theorem dX2_become_4 : decode cX2_become 4 = .ok (.iconst 0, 1) := by decide +kernel
theorem dX2_become_5 : decode cX2_become 5 = .ok (.aload_n 0, 1) := by decide +kernel
theorem dX2_become_6 : decode cX2_become 6 = .ok (.getfield 9, 3) := by decide +kernel
theorem dX2_become_9 : decode cX2_become 9 = .ok (.iconst 0, 1) := by decide +kernel
theorem dX2_become_10 : decode cX2_become 10 = .ok (.sipush 412, 3) := by decide +kernel
theorem dX2_become_13 : decode cX2_become 13 = .ok (.invokestatic 35, 3) := by decide +kernel
theorem dX2_become_16 : decode cX2_become 16 = .ok (.aload_n 0, 1) := by decide +kernel
theorem dX2_become_17 : decode cX2_become 17 = .ok (.aload_n 1, 1) := by decide +kernel
theorem dX2_become_18 : decode cX2_become 18 = .ok (.getfield 21, 3) := by decide +kernel
theorem dX2_become_21 : decode cX2_become 21 = .ok (.putfield 21, 3) := by decide +kernel
theorem dX2_become_24 : decode cX2_become 24 = .ok (.aload_n 0, 1) := by decide +kernel
theorem dX2_become_25 : decode cX2_become 25 = .ok (.aload_n 1, 1) := by decide +kernel
theorem dX2_become_26 : decode cX2_become 26 = .ok (.getfield 25, 3) := by decide +kernel
theorem dX2_become_29 : decode cX2_become 29 = .ok (.putfield 25, 3) := by decide +kernel
theorem dX2_become_32 : decode cX2_become 32 = .ok (.return_, 1) := by decide +kernel
def q2_become (σ : St) (th : Nat) (other_a : Nat) : Option St :=
  Option.bind (acp σ (other_a + 1) 412 (th + 1) 412 412) fun σ1_ =>
  lt (up σ1_ th 3 (σ1_ other_a 3)) fun σ3_ =>
  lt (up σ3_ th 4 (σ3_ other_a 4)) fun σ5_ =>
  some σ5_
abbrev rm2_become : Room := { frames := 1, cells := 0, slots := 0, locals := 40 }
set_option maxHeartbeats 4000000 in
set_option maxRecDepth 100000 in
theorem p2_become {Θ : Tz} {σ : St} {ρ : Option Value × St} (C : Zc Θ cX2_become 2 RX2 none rm2_become) (hkd : Θ.2.2.2.2.1 = kdC) {th : Nat} {other_a : Nat} (hth : isLaw th) (h_other : isLaw other_a) {r : St} (hf : q2_become σ th other_a = some r) (hρ : ρ = (none, r)) : Z Θ 2 0 0 (zQ Θ ρ) σ 0 [(0, .ref (zA Θ th)), (1, .ref (zA Θ other_a))] [] := by
  unfold q2_become at hf
  refine z_aload_n C 1 dX2_become_0 rfl rfl ?_
  refine fg2_9 C hkd h_other dX2_become_1 ?_
  refine z_iconst (v := 0) C dX2_become_4 ic_0 ?_
  refine z_aload_n C 0 dX2_become_5 rfl rfl ?_
  refine fg2_9 C hkd hth dX2_become_6 ?_
  refine z_iconst (v := 0) C dX2_become_9 ic_0 ?_
  refine z_sipush (v := 412) C dX2_become_10 sp_412 ?_
  obtain ⟨σ1_, h2_, hf⟩ := ob hf
  refine z_acp C h2_ (kLaw_1 hkd h_other) (kLaw_1 hkd hth) w_4_136 ⟨(Nat.le_of_ble_eq_true rfl), (Nat.le_of_ble_eq_true rfl)⟩ (Nat.le_of_ble_eq_true rfl) dX2_become_13 ?_
  refine z_aload_n C 0 dX2_become_16 rfl rfl ?_
  refine z_aload_n C 1 dX2_become_17 rfl rfl ?_
  refine fg2_21 C hkd h_other dX2_become_18 ?_
  obtain ⟨σ3_, h4_, hf⟩ := lt_ hf
  refine fp2_21 C hkd hth h4_ dX2_become_21 ?_
  refine z_aload_n C 0 dX2_become_24 rfl rfl ?_
  refine z_aload_n C 1 dX2_become_25 rfl rfl ?_
  refine fg2_25 C hkd h_other dX2_become_26 ?_
  obtain ⟨σ5_, h6_, hf⟩ := lt_ hf
  refine fp2_25 C hkd hth h6_ dX2_become_29 ?_
  cases hf
  subst hρ
  exact z_vret C dX2_become_32
theorem c2_become {l : Launch} {kd : List KD} {w : Wp} {σ : St} {th : Nat} {other_a : Nat} (hkd : kd = kdC) (hi : zI kd w) (hth : isLaw th) (h_other : isLaw other_a) {r : St} (hf : q2_become σ th other_a = some r) : zM l kd w yX2_become cX2_become 2 none rm2_become [.ref (w.2.2.1 th), .ref (w.2.2.1 other_a)] σ (none, r) := zM_of rfl hi (Nat.le_of_ble_eq_true rfl) (fun Θ hl hw C => by
  obtain ⟨Θ1, Θ2, Θ3, Θ4, Θ5⟩ := Θ
  cases hw
  exact p2_become C hkd hth h_other hf rfl)
/-! LastLoaf$Law.emit -/
theorem dX2_emit_0 : decode cX2_emit 0 = .ok (.aload_n 0, 1) := by decide +kernel
theorem dX2_emit_1 : decode cX2_emit 1 = .ok (.getfield 21, 3) := by decide +kernel
theorem dX2_emit_4 : decode cX2_emit 4 = .ok (.sipush 412, 3) := by decide +kernel
theorem dX2_emit_7 : decode cX2_emit 7 = .ok (.if_icmp .ge 23, 3) := by decide +kernel
theorem dX2_emit_10 : decode cX2_emit 10 = .ok (.aload_n 0, 1) := by decide +kernel
theorem dX2_emit_11 : decode cX2_emit 11 = .ok (.getfield 9, 3) := by decide +kernel
theorem dX2_emit_14 : decode cX2_emit 14 = .ok (.aload_n 0, 1) := by decide +kernel
theorem dX2_emit_15 : decode cX2_emit 15 = .ok (.getfield 21, 3) := by decide +kernel
theorem dX2_emit_18 : decode cX2_emit 18 = .ok (.iload_n 1, 1) := by decide +kernel
theorem dX2_emit_19 : decode cX2_emit 19 = .ok (.iastore, 1) := by decide +kernel
theorem dX2_emit_20 : decode cX2_emit 20 = .ok (.aload_n 0, 1) := by decide +kernel
theorem dX2_emit_21 : decode cX2_emit 21 = .ok (.dup, 1) := by decide +kernel
theorem dX2_emit_22 : decode cX2_emit 22 = .ok (.getfield 21, 3) := by decide +kernel
theorem dX2_emit_25 : decode cX2_emit 25 = .ok (.iconst 1, 1) := by decide +kernel
theorem dX2_emit_26 : decode cX2_emit 26 = .ok (.iadd, 1) := by decide +kernel
theorem dX2_emit_27 : decode cX2_emit 27 = .ok (.putfield 21, 3) := by decide +kernel
theorem dX2_emit_30 : decode cX2_emit 30 = .ok (.return_, 1) := by decide +kernel
def q2_emit (σ : St) (th : Nat) (word_a : Int32) : Option St :=
  Option.bind (if (σ th 3) < 412 then (Option.bind (sa σ (th + 1) 412 (σ th 3) word_a) fun σ8_ =>
  lt (up σ8_ th 3 ((σ8_ th 3) + 1)) fun σ10_ =>
  some (σ10_)) else (some (σ))) fun y1_ =>
  some y1_
abbrev rm2_emit : Room := { frames := 0, cells := 0, slots := 0, locals := 0 }
set_option maxHeartbeats 4000000 in
set_option maxRecDepth 100000 in
theorem p2_emit {Θ : Tz} {σ : St} {ρ : Option Value × St} (C : Zc Θ cX2_emit 2 RX2 none rm2_emit) (hkd : Θ.2.2.2.2.1 = kdC) {th : Nat} {word_a : Int32} (hth : isLaw th) {r : St} (hf : q2_emit σ th word_a = some r) (hρ : ρ = (none, r)) : Z Θ 2 0 0 (zQ Θ ρ) σ 0 [(0, .ref (zA Θ th)), (1, .int word_a)] [] := by
  unfold q2_emit at hf
  obtain ⟨y1_, h2_, hf⟩ := ob hf
  suffices K3_ : Z Θ 2 0 0 (zQ Θ ρ) y1_ 30 [(0, .ref (zA Θ th)), (1, .int word_a)] [] by
    have K4_ : (σ th 3) < 412 → Z Θ 2 0 0 (zQ Θ ρ) σ 10 [(0, .ref (zA Θ th)), (1, .int word_a)] [] := by
      intro h7_
      rw [if_pos h7_] at h2_
      refine z_aload_n C 0 dX2_emit_10 rfl rfl ?_
      refine fg2_9 C hkd hth dX2_emit_11 ?_
      refine z_aload_n C 0 dX2_emit_14 rfl rfl ?_
      refine fg2_21 C hkd hth dX2_emit_15 ?_
      refine z_iload_n C 1 dX2_emit_18 rfl rfl ?_
      obtain ⟨σ8_, h9_, h2_⟩ := ob h2_
      refine z_sa C h9_ (kLaw_1 hkd hth) dX2_emit_19 ?_
      refine z_aload_n C 0 dX2_emit_20 rfl rfl ?_
      refine z_dup C dX2_emit_21 rfl ?_
      refine fg2_21 C hkd hth dX2_emit_22 ?_
      refine z_iconst (v := 1) C dX2_emit_25 ic_1 ?_
      refine z_iadd C dX2_emit_26 ?_
      obtain ⟨σ10_, h11_, h2_⟩ := lt_ h2_
      refine fp2_21 C hkd hth h11_ dX2_emit_27 ?_
      cases h2_
      exact K3_
    have K5_ : ¬ ((σ th 3) < 412) → Z Θ 2 0 0 (zQ Θ ρ) σ 30 [(0, .ref (zA Θ th)), (1, .int word_a)] [] := by
      intro h7_
      rw [if_neg h7_] at h2_
      cases h2_
      exact K3_
    refine z_aload_n C 0 dX2_emit_0 rfl rfl ?_
    refine fg2_21 C hkd hth dX2_emit_1 ?_
    refine z_sipush (v := 412) C dX2_emit_4 sp_412 ?_
    refine c_lt_f C 30 dX2_emit_7 (by decide) (fun h6_ => ?_) (fun h6_ => ?_)
    · exact K4_ h6_
    · exact K5_ h6_
  cases hf
  subst hρ
  exact z_vret C dX2_emit_30
theorem c2_emit {l : Launch} {kd : List KD} {w : Wp} {σ : St} {th : Nat} {word_a : Int32} (hkd : kd = kdC) (hi : zI kd w) (hth : isLaw th) {r : St} (hf : q2_emit σ th word_a = some r) : zM l kd w yX2_emit cX2_emit 2 none rm2_emit [.ref (w.2.2.1 th), .int word_a] σ (none, r) := zM_of rfl hi (Nat.le_of_ble_eq_true rfl) (fun Θ hl hw C => by
  obtain ⟨Θ1, Θ2, Θ3, Θ4, Θ5⟩ := Θ
  cases hw
  exact p2_emit C hkd hth hf rfl)
/-! LastLoaf$Reader.emitWaiting -/
theorem w_2_0 : Cond.fieldLink "LastLoaf$Reader" (15 : Nat) "LastLoaf$Reader" "waitingSize" "I" ∈ TB := tb_in (lwt_2 (List.mem_of_getElem? (i := 0) (by decide +kernel))) rfl
theorem fg6_15 {Θ : Tz} {cc : ByteArray} {nL kc ks : Nat} {ret : Option FieldType} {rm : Room} {Q : State → Prop} {σ : St} {pc : Nat} {lv : List (Nat × Value)} {st : List Value} (C : Zc Θ cc nL RX6 ret rm) (hkd : Θ.2.2.2.2.1 = kdC) (hd : decode cc pc = .ok (.getfield 15, 3)) (kk : Z Θ nL kc ks Q σ (pc + 3) lv (.int (σ 3 4) :: st)) : Z Θ nL kc ks Q σ pc lv (.ref (zA Θ 3) :: st) := z_get C inT6 3 (kC_3 hkd) rfl 4 (by decide) w_2_0 rfl hd kk
theorem w_1_239 : Cond.fieldLink "LastLoaf$Reader" (9 : Nat) "LastLoaf$Reader" "waiting" "[I" ∈ TB := tb_in (lwt_1 (List.mem_of_getElem? (i := 239) (by decide +kernel))) rfl
theorem fg6_9 {Θ : Tz} {cc : ByteArray} {nL kc ks : Nat} {ret : Option FieldType} {rm : Room} {Q : State → Prop} {σ : St} {pc : Nat} {lv : List (Nat × Value)} {st : List Value} (C : Zc Θ cc nL RX6 ret rm) (hkd : Θ.2.2.2.2.1 = kdC) (hd : decode cc pc = .ok (.getfield 9, 3)) (kk : Z Θ nL kc ks Q σ (pc + 3) lv (.ref (zA Θ 4) :: st)) : Z Θ nL kc ks Q σ pc lv (.ref (zA Θ 3) :: st) := z_get C inT6 3 (kC_3 hkd) rfl 3 (by decide) w_1_239 rfl hd kk
theorem w_1_238 : Cond.fieldLink "LastLoaf$Reader" (30 : Nat) "LastLoaf$Reader" "law" "LLastLoaf$Law;" ∈ TB := tb_in (lwt_1 (List.mem_of_getElem? (i := 238) (by decide +kernel))) rfl
theorem fg6_30 {Θ : Tz} {cc : ByteArray} {nL kc ks : Nat} {ret : Option FieldType} {rm : Room} {Q : State → Prop} {σ : St} {pc : Nat} {lv : List (Nat × Value)} {st : List Value} (C : Zc Θ cc nL RX6 ret rm) (hkd : Θ.2.2.2.2.1 = kdC) (hd : decode cc pc = .ok (.getfield 30, 3)) (kk : Z Θ nL kc ks Q σ (pc + 3) lv (.ref (zA Θ 36) :: st)) : Z Θ nL kc ks Q σ pc lv (.ref (zA Θ 3) :: st) := z_get C inT6 3 (kC_3 hkd) rfl 2 (by decide) w_1_238 rfl hd kk
theorem w_5_164 : Cond.code ({ cls := "LastLoaf$Law", name := "emit", desc := "(I)V" } : MethodName) prog_4_method_3_code (2 : Nat) (Option.none : Option ClassFile.FieldType) ∈ TB := tb_in (lwt_5 (List.mem_of_getElem? (i := 164) (by decide +kernel))) rfl
theorem w_1_6 : Cond.initialized "LastLoaf$Law" ∈ TB := tb_in (lwt_1 (List.mem_of_getElem? (i := 6) (by decide +kernel))) rfl
theorem w_5_161 : Cond.methodLink "LastLoaf$Reader" (160 : Nat) ({ cls := "LastLoaf$Law", name := "emit", desc := "(I)V" } : MethodName) ∈ TB := tb_in (lwt_5 (List.mem_of_getElem? (i := 161) (by decide +kernel))) rfl
theorem w_5_162 : Cond.instanceMethod ({ cls := "LastLoaf$Law", name := "emit", desc := "(I)V" } : MethodName) ∈ TB := tb_in (lwt_5 (List.mem_of_getElem? (i := 162) (by decide +kernel))) rfl
theorem w_5_163 : Cond.selects "LastLoaf$Law" ({ cls := "LastLoaf$Law", name := "emit", desc := "(I)V" } : MethodName) ({ cls := "LastLoaf$Law", name := "emit", desc := "(I)V" } : MethodName) ∈ TB := tb_in (lwt_5 (List.mem_of_getElem? (i := 163) (by decide +kernel))) rfl
theorem cr6_160 {Θ : Tz} {cc : ByteArray} {nL kc ks : Nat} {ret : Option FieldType} {rm : Room} {Q : State → Prop} {σ : St} {pc : Nat} {lv : List (Nat × Value)} {st : List Value} (C : Zc Θ cc nL RX6 ret rm) (hkd : Θ.2.2.2.2.1 = kdC) {th : Nat} {word_a : Int32} (hth : isLaw th) {r : St} (hx : q2_emit σ th word_a = some r) (hrm : rm2_emit.frames + 1 ≤ rm.frames ∧ 8 + (2 + 11) + rm2_emit.locals ≤ rm.locals) (hcat : (st.map fun v => v.category).sum ≤ 8) (hk : kc ≤ rm.cells ∧ ks ≤ rm.slots) (hd : decode cc pc = .ok (.invokevirtual 160, 3)) (kk : Z Θ nL kc ks Q r (pc + 3) lv st) : Z Θ nL kc ks Q σ pc lv (.int word_a :: .ref (zA Θ th) :: st) := z_callV C th [.int word_a] (none, r) 1 (kLaw_0 hkd hth) rfl (c2_emit (th := th) (word_a := word_a) hkd (zc_inj C) hth hx) w_5_164 w_5_161 w_5_162 w_5_163 w_1_6 ⟨rfl, rfl, hrm.1, hrm.2⟩ (by decide +kernel) rfl rfl hcat hk hd kk
theorem fp6_15 {Θ : Tz} {cc : ByteArray} {nL kc ks : Nat} {ret : Option FieldType} {rm : Room} {Q : State → Prop} {σ : St} {pc : Nat} {lv : List (Nat × Value)} {st : List Value} (C : Zc Θ cc nL RX6 ret rm) (hkd : Θ.2.2.2.2.1 = kdC) {x : Int32} {σ1 : St} (he : σ1 = up σ 3 4 x) (hd : decode cc pc = .ok (.putfield 15, 3)) (kk : Z Θ nL kc ks Q σ1 (pc + 3) lv st) : Z Θ nL kc ks Q σ pc lv (.int x :: .ref (zA Θ 3) :: st) := by subst he; exact z_put C inT6 tyX6_ok nmX6 3 (kC_3 hkd) rfl 4 (by decide) w_2_0 rfl rfl rfl rfl hd kk
theorem dX6_emitWaiting_0 : decode cX6_emitWaiting 0 = .ok (.aload_n 0, 1) := by decide +kernel
theorem dX6_emitWaiting_1 : decode cX6_emitWaiting 1 = .ok (.getfield 15, 3) := by decide +kernel
theorem dX6_emitWaiting_4 : decode cX6_emitWaiting 4 = .ok (.iconst 1, 1) := by decide +kernel
theorem dX6_emitWaiting_5 : decode cX6_emitWaiting 5 = .ok (.isub, 1) := by decide +kernel
theorem dX6_emitWaiting_6 : decode cX6_emitWaiting 6 = .ok (.istore_n 3, 1) := by decide +kernel
theorem dX6_emitWaiting_7 : decode cX6_emitWaiting 7 = .ok (.iload_n 3, 1) := by decide +kernel
theorem dX6_emitWaiting_8 : decode cX6_emitWaiting 8 = .ok (.ifCond .lt 48, 3) := by decide +kernel
theorem dX6_emitWaiting_11 : decode cX6_emitWaiting 11 = .ok (.aload_n 0, 1) := by decide +kernel
theorem dX6_emitWaiting_12 : decode cX6_emitWaiting 12 = .ok (.getfield 9, 3) := by decide +kernel
theorem dX6_emitWaiting_15 : decode cX6_emitWaiting 15 = .ok (.iload_n 3, 1) := by decide +kernel
theorem dX6_emitWaiting_16 : decode cX6_emitWaiting 16 = .ok (.iaload, 1) := by decide +kernel
theorem dX6_emitWaiting_17 : decode cX6_emitWaiting 17 = .ok (.iload_n 1, 1) := by decide +kernel
theorem dX6_emitWaiting_18 : decode cX6_emitWaiting 18 = .ok (.if_icmp .lt 13, 3) := by decide +kernel
theorem dX6_emitWaiting_21 : decode cX6_emitWaiting 21 = .ok (.aload_n 0, 1) := by decide +kernel
theorem dX6_emitWaiting_22 : decode cX6_emitWaiting 22 = .ok (.getfield 9, 3) := by decide +kernel
theorem dX6_emitWaiting_25 : decode cX6_emitWaiting 25 = .ok (.iload_n 3, 1) := by decide +kernel
theorem dX6_emitWaiting_26 : decode cX6_emitWaiting 26 = .ok (.iaload, 1) := by decide +kernel
theorem dX6_emitWaiting_27 : decode cX6_emitWaiting 27 = .ok (.iload_n 2, 1) := by decide +kernel
theorem dX6_emitWaiting_28 : decode cX6_emitWaiting 28 = .ok (.if_icmp .le 4, 3) := by decide +kernel
theorem dX6_emitWaiting_31 : decode cX6_emitWaiting 31 = .ok (.return_, 1) := by decide +kernel
theorem dX6_emitWaiting_32 : decode cX6_emitWaiting 32 = .ok (.aload_n 0, 1) := by decide +kernel
theorem dX6_emitWaiting_33 : decode cX6_emitWaiting 33 = .ok (.getfield 30, 3) := by decide +kernel
theorem dX6_emitWaiting_36 : decode cX6_emitWaiting 36 = .ok (.aload_n 0, 1) := by decide +kernel
theorem dX6_emitWaiting_37 : decode cX6_emitWaiting 37 = .ok (.getfield 9, 3) := by decide +kernel
theorem dX6_emitWaiting_40 : decode cX6_emitWaiting 40 = .ok (.iload_n 3, 1) := by decide +kernel
theorem dX6_emitWaiting_41 : decode cX6_emitWaiting 41 = .ok (.iaload, 1) := by decide +kernel
theorem dX6_emitWaiting_42 : decode cX6_emitWaiting 42 = .ok (.invokevirtual 160, 3) := by decide +kernel
theorem dX6_emitWaiting_45 : decode cX6_emitWaiting 45 = .ok (.aload_n 0, 1) := by decide +kernel
theorem dX6_emitWaiting_46 : decode cX6_emitWaiting 46 = .ok (.iload_n 3, 1) := by decide +kernel
theorem dX6_emitWaiting_47 : decode cX6_emitWaiting 47 = .ok (.putfield 15, 3) := by decide +kernel
theorem dX6_emitWaiting_50 : decode cX6_emitWaiting 50 = .ok (.iinc 3 (-1), 3) := by decide +kernel
theorem dX6_emitWaiting_53 : decode cX6_emitWaiting 53 = .ok (.goto (-46), 3) := by decide +kernel
theorem dX6_emitWaiting_56 : decode cX6_emitWaiting 56 = .ok (.return_, 1) := by decide +kernel
def q6_emitWaiting (σ : St) (least_a : Int32) (most_a : Int32) : Option St :=
  lt ((σ 3 4) - 1) fun i1_ =>
  Option.bind (loop2 (fun rec6_ (i9_ : Int32) (σ10_ : St) =>
  if 0 ≤ i9_ then
  Option.bind (Option.bind (ag σ10_ 4 32 i9_) fun x21_ =>
  if x21_ < least_a then (some true) else (Option.bind (ag σ10_ 4 32 i9_) fun x24_ =>
  if most_a < x24_ then (some true) else (some false))) fun t19_ =>
  if t19_ = true then (some (.inl σ10_)) else
  Option.bind (ag σ10_ 4 32 i9_) fun x28_ =>
  Option.bind (q2_emit σ10_ 36 x28_) fun x30_ =>
  lt (up x30_ 3 4 i9_) fun σ32_ =>
  lt (i9_ + (-1)) fun i34_ =>
  rec6_ i34_ σ32_
  else (some (.inr (i9_, σ10_)))) fuelN i1_ σ) fun y3_ =>
  Sum.elim (fun x9 => some x9) (fun y3_r =>
  some y3_r.2) y3_
abbrev rm6_emitWaiting : Room := { frames := 1, cells := 0, slots := 0, locals := 21 }
set_option maxHeartbeats 4000000 in
set_option maxRecDepth 100000 in
theorem p6_emitWaiting {Θ : Tz} {σ : St} {ρ : Option Value × St} (C : Zc Θ cX6_emitWaiting 4 RX6 none rm6_emitWaiting) (hkd : Θ.2.2.2.2.1 = kdC) {least_a : Int32} {most_a : Int32} {r : St} (hf : q6_emitWaiting σ least_a most_a = some r) (hρ : ρ = (none, r)) : Z Θ 4 0 0 (zQ Θ ρ) σ 0 [(0, .ref (zA Θ 3)), (1, .int least_a), (2, .int most_a)] [] := by
  unfold q6_emitWaiting at hf
  refine z_aload_n C 0 dX6_emitWaiting_0 rfl rfl ?_
  refine fg6_15 C hkd dX6_emitWaiting_1 ?_
  refine z_iconst (v := 1) C dX6_emitWaiting_4 ic_1 ?_
  refine z_isub C dX6_emitWaiting_5 ?_
  obtain ⟨i1_, h2_, hf⟩ := lt_ hf
  refine z_istN C dX6_emitWaiting_6 h2_ rfl (Nat.le_of_ble_eq_true rfl) rfl ?_
  refine Z.sub [1, 2, 3, 0] rfl ?_
  obtain ⟨y3_, h4_, hf⟩ := ob hf
  suffices K5_ : ∀ y3_r, y3_ = .inr y3_r → Z Θ 4 0 0 (zQ Θ ρ) y3_r.2 56 [(0, .ref (zA Θ 3)), (1, .int least_a), (2, .int most_a), (3, .int y3_r.1)] [] by
    refine loop2_Z (P := fun (i9_ : Int32) (σ10_ : St) => Z Θ 4 0 0 (zQ Θ ρ) σ10_ 7 [(0, .ref (zA Θ 3)), (1, .int least_a), (2, .int most_a), (3, .int i9_)] []) ?_ fuelN i1_ σ h4_
    clear h4_
    intro rec6_ i9_ σ10_ h7_ h8_
    have K13_ : 0 ≤ i9_ → Z Θ 4 0 0 (zQ Θ ρ) σ10_ 11 [(0, .ref (zA Θ 3)), (1, .int least_a), (2, .int most_a), (3, .int i9_)] [] := by
      intro h16_
      rw [if_pos h16_] at h8_
      obtain ⟨t19_, h20_, h8_⟩ := ob h8_
      have K17_ : t19_ = true → Z Θ 4 0 0 (zQ Θ ρ) σ10_ 31 [(0, .ref (zA Θ 3)), (1, .int least_a), (2, .int most_a), (3, .int i9_)] [] := by
        intro h27_
        rw [if_pos h27_] at h8_
        rw [← Option.some.inj h8_] at hf
        replace hf : some σ10_ = some r := hf
        cases hf
        subst hρ
        exact z_vret C dX6_emitWaiting_31
      suffices K18_ : ¬ (t19_ = true) → Z Θ 4 0 0 (zQ Θ ρ) σ10_ 32 [(0, .ref (zA Θ 3)), (1, .int least_a), (2, .int most_a), (3, .int i9_)] [] by
        refine z_aload_n C 0 dX6_emitWaiting_11 rfl rfl ?_
        refine fg6_9 C hkd dX6_emitWaiting_12 ?_
        refine z_iload_n C 3 dX6_emitWaiting_15 rfl rfl ?_
        obtain ⟨x21_, h22_, h20_⟩ := ob h20_
        refine z_ag C h22_ (kC_4 hkd) dX6_emitWaiting_16 ?_
        refine z_iload_n C 1 dX6_emitWaiting_17 rfl rfl ?_
        refine c_lt_t C 31 dX6_emitWaiting_18 (by decide) (fun h23_ => ?_) (fun h23_ => ?_)
        · rw [if_pos h23_] at h20_
          cases h20_
          exact K17_ rfl
        · rw [if_neg h23_] at h20_
          refine z_aload_n C 0 dX6_emitWaiting_21 rfl rfl ?_
          refine fg6_9 C hkd dX6_emitWaiting_22 ?_
          refine z_iload_n C 3 dX6_emitWaiting_25 rfl rfl ?_
          obtain ⟨x24_, h25_, h20_⟩ := ob h20_
          refine z_ag C h25_ (kC_4 hkd) dX6_emitWaiting_26 ?_
          refine z_iload_n C 2 dX6_emitWaiting_27 rfl rfl ?_
          refine c_gt_f C 32 dX6_emitWaiting_28 (by decide) (fun h26_ => ?_) (fun h26_ => ?_)
          · rw [if_pos h26_] at h20_
            cases h20_
            exact K17_ rfl
          · rw [if_neg h26_] at h20_
            cases h20_
            exact K18_ Bool.false_ne_true
      intro h27_
      rw [if_neg h27_] at h8_
      refine z_aload_n C 0 dX6_emitWaiting_32 rfl rfl ?_
      refine fg6_30 C hkd dX6_emitWaiting_33 ?_
      refine z_aload_n C 0 dX6_emitWaiting_36 rfl rfl ?_
      refine fg6_9 C hkd dX6_emitWaiting_37 ?_
      refine z_iload_n C 3 dX6_emitWaiting_40 rfl rfl ?_
      obtain ⟨x28_, h29_, h8_⟩ := ob h8_
      refine z_ag C h29_ (kC_4 hkd) dX6_emitWaiting_41 ?_
      obtain ⟨x30_, h31_, h8_⟩ := ob h8_
      refine cr6_160 (th := 36) (word_a := x28_) C hkd isLaw_36 h31_ ⟨(Nat.le_of_ble_eq_true rfl), (Nat.le_of_ble_eq_true rfl)⟩ (Nat.le_of_ble_eq_true rfl) ⟨Nat.zero_le _, Nat.zero_le _⟩ dX6_emitWaiting_42 ?_
      refine z_aload_n C 0 dX6_emitWaiting_45 rfl rfl ?_
      refine z_iload_n C 3 dX6_emitWaiting_46 rfl rfl ?_
      obtain ⟨σ32_, h33_, h8_⟩ := lt_ h8_
      refine fp6_15 C hkd h33_ dX6_emitWaiting_47 ?_
      obtain ⟨i34_, h35_, h8_⟩ := lt_ h8_
      refine z_inc C 3 dX6_emitWaiting_50 rfl ic_m1 h35_ (Nat.le_of_ble_eq_true rfl) rfl ?_
      refine z_goto C 7 dX6_emitWaiting_53 (by decide) ?_
      refine Z.sub [1, 2, 3, 0] rfl ?_
      exact h7_ _ _ h8_
    have K14_ : ¬ (0 ≤ i9_) → Z Θ 4 0 0 (zQ Θ ρ) σ10_ 56 [(0, .ref (zA Θ 3)), (1, .int least_a), (2, .int most_a), (3, .int i9_)] [] := by
      intro h16_
      rw [if_neg h16_] at h8_
      exact K5_ _ (Option.some.inj h8_).symm
    refine z_iload_n C 3 dX6_emitWaiting_7 rfl rfl ?_
    refine c0_ge_f C 56 dX6_emitWaiting_8 (by decide) (fun h15_ => ?_) (fun h15_ => ?_)
    · exact K13_ h15_
    · exact K14_ h15_
  intro y3_r e9
  subst e9
  simp only [Sum.elim_inr] at hf
  cases hf
  subst hρ
  exact z_vret C dX6_emitWaiting_56
theorem c6_emitWaiting {l : Launch} {kd : List KD} {w : Wp} {σ : St} {least_a : Int32} {most_a : Int32} (hkd : kd = kdC) (hi : zI kd w) {r : St} (hf : q6_emitWaiting σ least_a most_a = some r) : zM l kd w yX6_emitWaiting cX6_emitWaiting 4 none rm6_emitWaiting [.ref (w.2.2.1 3), .int least_a, .int most_a] σ (none, r) := zM_of rfl hi (Nat.le_of_ble_eq_true rfl) (fun Θ hl hw C => by
  obtain ⟨Θ1, Θ2, Θ3, Θ4, Θ5⟩ := Θ
  cases hw
  exact p6_emitWaiting C hkd  hf rfl)
/-! LastLoaf$Reader.closeNots -/
theorem sp_1105 : (Int16.ofInt (1105)).toInt32 = 1105 := by decide +kernel
theorem w_5_211 : Cond.code ({ cls := "LastLoaf$Reader", name := "emitWaiting", desc := "(II)V" } : MethodName) prog_8_method_16_code (4 : Nat) (Option.none : Option ClassFile.FieldType) ∈ TB := tb_in (lwt_5 (List.mem_of_getElem? (i := 211) (by decide +kernel))) rfl
theorem w_5_208 : Cond.methodLink "LastLoaf$Reader" (178 : Nat) ({ cls := "LastLoaf$Reader", name := "emitWaiting", desc := "(II)V" } : MethodName) ∈ TB := tb_in (lwt_5 (List.mem_of_getElem? (i := 208) (by decide +kernel))) rfl
theorem w_5_209 : Cond.instanceMethod ({ cls := "LastLoaf$Reader", name := "emitWaiting", desc := "(II)V" } : MethodName) ∈ TB := tb_in (lwt_5 (List.mem_of_getElem? (i := 209) (by decide +kernel))) rfl
theorem w_5_210 : Cond.selects "LastLoaf$Reader" ({ cls := "LastLoaf$Reader", name := "emitWaiting", desc := "(II)V" } : MethodName) ({ cls := "LastLoaf$Reader", name := "emitWaiting", desc := "(II)V" } : MethodName) ∈ TB := tb_in (lwt_5 (List.mem_of_getElem? (i := 210) (by decide +kernel))) rfl
theorem cr6_178 {Θ : Tz} {cc : ByteArray} {nL kc ks : Nat} {ret : Option FieldType} {rm : Room} {Q : State → Prop} {σ : St} {pc : Nat} {lv : List (Nat × Value)} {st : List Value} (C : Zc Θ cc nL RX6 ret rm) (hkd : Θ.2.2.2.2.1 = kdC) {least_a : Int32} {most_a : Int32} {r : St} (hx : q6_emitWaiting σ least_a most_a = some r) (hrm : rm6_emitWaiting.frames + 1 ≤ rm.frames ∧ 8 + (4 + 11) + rm6_emitWaiting.locals ≤ rm.locals) (hcat : (st.map fun v => v.category).sum ≤ 8) (hk : kc ≤ rm.cells ∧ ks ≤ rm.slots) (hd : decode cc pc = .ok (.invokevirtual 178, 3)) (kk : Z Θ nL kc ks Q r (pc + 3) lv st) : Z Θ nL kc ks Q σ pc lv (.int most_a :: .int least_a :: .ref (zA Θ 3) :: st) := z_callV C 3 [.int least_a, .int most_a] (none, r) 2 (kC_3 hkd) rfl (c6_emitWaiting (least_a := least_a) (most_a := most_a) hkd (zc_inj C) hx) w_5_211 w_5_208 w_5_209 w_5_210 w_1_7 ⟨rfl, rfl, hrm.1, hrm.2⟩ (by decide +kernel) rfl rfl hcat hk hd kk
theorem w_2_1 : Cond.fieldLink "LastLoaf$Reader" (19 : Nat) "LastLoaf$Reader" "depth" "I" ∈ TB := tb_in (lwt_2 (List.mem_of_getElem? (i := 1) (by decide +kernel))) rfl
theorem fg6_19 {Θ : Tz} {cc : ByteArray} {nL kc ks : Nat} {ret : Option FieldType} {rm : Room} {Q : State → Prop} {σ : St} {pc : Nat} {lv : List (Nat × Value)} {st : List Value} (C : Zc Θ cc nL RX6 ret rm) (hkd : Θ.2.2.2.2.1 = kdC) (hd : decode cc pc = .ok (.getfield 19, 3)) (kk : Z Θ nL kc ks Q σ (pc + 3) lv (.int (σ 3 5) :: st)) : Z Θ nL kc ks Q σ pc lv (.ref (zA Θ 3) :: st) := z_get C inT6 3 (kC_3 hkd) rfl 5 (by decide) w_2_1 rfl hd kk
theorem fp6_19 {Θ : Tz} {cc : ByteArray} {nL kc ks : Nat} {ret : Option FieldType} {rm : Room} {Q : State → Prop} {σ : St} {pc : Nat} {lv : List (Nat × Value)} {st : List Value} (C : Zc Θ cc nL RX6 ret rm) (hkd : Θ.2.2.2.2.1 = kdC) {x : Int32} {σ1 : St} (he : σ1 = up σ 3 5 x) (hd : decode cc pc = .ok (.putfield 19, 3)) (kk : Z Θ nL kc ks Q σ1 (pc + 3) lv st) : Z Θ nL kc ks Q σ pc lv (.int x :: .ref (zA Θ 3) :: st) := by subst he; exact z_put C inT6 tyX6_ok nmX6 3 (kC_3 hkd) rfl 5 (by decide) w_2_1 rfl rfl rfl rfl hd kk
theorem dX6_closeNots_0 : decode cX6_closeNots 0 = .ok (.aload_n 0, 1) := by decide +kernel
theorem dX6_closeNots_1 : decode cX6_closeNots 1 = .ok (.getfield 15, 3) := by decide +kernel
theorem dX6_closeNots_4 : decode cX6_closeNots 4 = .ok (.istore_n 1, 1) := by decide +kernel
theorem dX6_closeNots_5 : decode cX6_closeNots 5 = .ok (.aload_n 0, 1) := by decide +kernel
theorem dX6_closeNots_6 : decode cX6_closeNots 6 = .ok (.sipush 1105, 3) := by decide +kernel
theorem dX6_closeNots_9 : decode cX6_closeNots 9 = .ok (.sipush 1105, 3) := by decide +kernel
theorem dX6_closeNots_12 : decode cX6_closeNots 12 = .ok (.invokevirtual 178, 3) := by decide +kernel
theorem dX6_closeNots_15 : decode cX6_closeNots 15 = .ok (.aload_n 0, 1) := by decide +kernel
theorem dX6_closeNots_16 : decode cX6_closeNots 16 = .ok (.dup, 1) := by decide +kernel
theorem dX6_closeNots_17 : decode cX6_closeNots 17 = .ok (.getfield 19, 3) := by decide +kernel
theorem dX6_closeNots_20 : decode cX6_closeNots 20 = .ok (.iload_n 1, 1) := by decide +kernel
theorem dX6_closeNots_21 : decode cX6_closeNots 21 = .ok (.aload_n 0, 1) := by decide +kernel
theorem dX6_closeNots_22 : decode cX6_closeNots 22 = .ok (.getfield 15, 3) := by decide +kernel
theorem dX6_closeNots_25 : decode cX6_closeNots 25 = .ok (.isub, 1) := by decide +kernel
theorem dX6_closeNots_26 : decode cX6_closeNots 26 = .ok (.isub, 1) := by decide +kernel
theorem dX6_closeNots_27 : decode cX6_closeNots 27 = .ok (.putfield 19, 3) := by decide +kernel
theorem dX6_closeNots_30 : decode cX6_closeNots 30 = .ok (.return_, 1) := by decide +kernel
def q6_closeNots (σ : St) : Option St :=
  lt (σ 3 4) fun ahead1_ =>
  Option.bind (q6_emitWaiting σ 1105 1105) fun x3_ =>
  lt (up x3_ 3 5 ((x3_ 3 5) - (ahead1_ - (x3_ 3 4)))) fun σ5_ =>
  some σ5_
abbrev rm6_closeNots : Room := { frames := 2, cells := 0, slots := 0, locals := 44 }
set_option maxHeartbeats 4000000 in
set_option maxRecDepth 100000 in
theorem p6_closeNots {Θ : Tz} {σ : St} {ρ : Option Value × St} (C : Zc Θ cX6_closeNots 2 RX6 none rm6_closeNots) (hkd : Θ.2.2.2.2.1 = kdC) {r : St} (hf : q6_closeNots σ = some r) (hρ : ρ = (none, r)) : Z Θ 2 0 0 (zQ Θ ρ) σ 0 [(0, .ref (zA Θ 3))] [] := by
  unfold q6_closeNots at hf
  refine z_aload_n C 0 dX6_closeNots_0 rfl rfl ?_
  refine fg6_15 C hkd dX6_closeNots_1 ?_
  obtain ⟨ahead1_, h2_, hf⟩ := lt_ hf
  refine z_istN C dX6_closeNots_4 h2_ rfl (Nat.le_of_ble_eq_true rfl) rfl ?_
  refine z_aload_n C 1 dX6_closeNots_5 rfl rfl ?_
  refine z_sipush (v := 1105) C dX6_closeNots_6 sp_1105 ?_
  refine z_sipush (v := 1105) C dX6_closeNots_9 sp_1105 ?_
  obtain ⟨x3_, h4_, hf⟩ := ob hf
  refine cr6_178 (least_a := 1105) (most_a := 1105) C hkd  h4_ ⟨(Nat.le_of_ble_eq_true rfl), (Nat.le_of_ble_eq_true rfl)⟩ (Nat.le_of_ble_eq_true rfl) ⟨Nat.zero_le _, Nat.zero_le _⟩ dX6_closeNots_12 ?_
  refine z_aload_n C 1 dX6_closeNots_15 rfl rfl ?_
  refine z_dup C dX6_closeNots_16 rfl ?_
  refine fg6_19 C hkd dX6_closeNots_17 ?_
  refine z_iload_n C 0 dX6_closeNots_20 rfl rfl ?_
  refine z_aload_n C 1 dX6_closeNots_21 rfl rfl ?_
  refine fg6_15 C hkd dX6_closeNots_22 ?_
  refine z_isub C dX6_closeNots_25 ?_
  refine z_isub C dX6_closeNots_26 ?_
  obtain ⟨σ5_, h6_, hf⟩ := lt_ hf
  refine fp6_19 C hkd h6_ dX6_closeNots_27 ?_
  cases hf
  subst hρ
  exact z_vret C dX6_closeNots_30
theorem c6_closeNots {l : Launch} {kd : List KD} {w : Wp} {σ : St} (hkd : kd = kdC) (hi : zI kd w) {r : St} (hf : q6_closeNots σ = some r) : zM l kd w yX6_closeNots cX6_closeNots 2 none rm6_closeNots [.ref (w.2.2.1 3)] σ (none, r) := zM_of rfl hi (Nat.le_of_ble_eq_true rfl) (fun Θ hl hw C => by
  obtain ⟨Θ1, Θ2, Θ3, Θ4, Θ5⟩ := Θ
  cases hw
  exact p6_closeNots C hkd  hf rfl)
/-! LastLoaf$Reader.closeAtoms -/
theorem w_5_207 : Cond.code ({ cls := "LastLoaf$Reader", name := "closeNots", desc := "()V" } : MethodName) prog_8_method_15_code (2 : Nat) (Option.none : Option ClassFile.FieldType) ∈ TB := tb_in (lwt_5 (List.mem_of_getElem? (i := 207) (by decide +kernel))) rfl
theorem w_5_204 : Cond.methodLink "LastLoaf$Reader" (189 : Nat) ({ cls := "LastLoaf$Reader", name := "closeNots", desc := "()V" } : MethodName) ∈ TB := tb_in (lwt_5 (List.mem_of_getElem? (i := 204) (by decide +kernel))) rfl
theorem w_5_205 : Cond.instanceMethod ({ cls := "LastLoaf$Reader", name := "closeNots", desc := "()V" } : MethodName) ∈ TB := tb_in (lwt_5 (List.mem_of_getElem? (i := 205) (by decide +kernel))) rfl
theorem w_5_206 : Cond.selects "LastLoaf$Reader" ({ cls := "LastLoaf$Reader", name := "closeNots", desc := "()V" } : MethodName) ({ cls := "LastLoaf$Reader", name := "closeNots", desc := "()V" } : MethodName) ∈ TB := tb_in (lwt_5 (List.mem_of_getElem? (i := 206) (by decide +kernel))) rfl
theorem cr6_189 {Θ : Tz} {cc : ByteArray} {nL kc ks : Nat} {ret : Option FieldType} {rm : Room} {Q : State → Prop} {σ : St} {pc : Nat} {lv : List (Nat × Value)} {st : List Value} (C : Zc Θ cc nL RX6 ret rm) (hkd : Θ.2.2.2.2.1 = kdC) {r : St} (hx : q6_closeNots σ = some r) (hrm : rm6_closeNots.frames + 1 ≤ rm.frames ∧ 8 + (2 + 11) + rm6_closeNots.locals ≤ rm.locals) (hcat : (st.map fun v => v.category).sum ≤ 8) (hk : kc ≤ rm.cells ∧ ks ≤ rm.slots) (hd : decode cc pc = .ok (.invokevirtual 189, 3)) (kk : Z Θ nL kc ks Q r (pc + 3) lv st) : Z Θ nL kc ks Q σ pc lv (.ref (zA Θ 3) :: st) := z_callV C 3 [] (none, r) 0 (kC_3 hkd) rfl (c6_closeNots hkd (zc_inj C) hx) w_5_207 w_5_204 w_5_205 w_5_206 w_1_7 ⟨rfl, rfl, hrm.1, hrm.2⟩ (by decide +kernel) rfl rfl hcat hk hd kk
theorem sp_1103 : (Int16.ofInt (1103)).toInt32 = 1103 := by decide +kernel
theorem sp_1104 : (Int16.ofInt (1104)).toInt32 = 1104 := by decide +kernel
theorem dX6_closeAtoms_0 : decode cX6_closeAtoms 0 = .ok (.aload_n 0, 1) := by decide +kernel
theorem dX6_closeAtoms_1 : decode cX6_closeAtoms 1 = .ok (.invokevirtual 189, 3) := by decide +kernel
theorem dX6_closeAtoms_4 : decode cX6_closeAtoms 4 = .ok (.iconst 0, 1) := by decide +kernel
theorem dX6_closeAtoms_5 : decode cX6_closeAtoms 5 = .ok (.istore_n 1, 1) := by decide +kernel
theorem dX6_closeAtoms_6 : decode cX6_closeAtoms 6 = .ok (.iload_n 1, 1) := by decide +kernel
theorem dX6_closeAtoms_7 : decode cX6_closeAtoms 7 = .ok (.bipush 6, 2) := by decide +kernel
theorem dX6_closeAtoms_9 : decode cX6_closeAtoms 9 = .ok (.if_icmp .ge 70, 3) := by decide +kernel
theorem dX6_closeAtoms_12 : decode cX6_closeAtoms 12 = .ok (.aload_n 0, 1) := by decide +kernel
theorem dX6_closeAtoms_13 : decode cX6_closeAtoms 13 = .ok (.getfield 22, 3) := by decide +kernel
theorem dX6_closeAtoms_16 : decode cX6_closeAtoms 16 = .ok (.bipush 41, 2) := by decide +kernel
theorem dX6_closeAtoms_18 : decode cX6_closeAtoms 18 = .ok (.invokevirtual 46, 3) := by decide +kernel
theorem dX6_closeAtoms_21 : decode cX6_closeAtoms 21 = .ok (.ifCond .eq 58, 3) := by decide +kernel
theorem dX6_closeAtoms_24 : decode cX6_closeAtoms 24 = .ok (.aload_n 0, 1) := by decide +kernel
theorem dX6_closeAtoms_25 : decode cX6_closeAtoms 25 = .ok (.sipush 1103, 3) := by decide +kernel
theorem dX6_closeAtoms_28 : decode cX6_closeAtoms 28 = .ok (.sipush 1104, 3) := by decide +kernel
theorem dX6_closeAtoms_31 : decode cX6_closeAtoms 31 = .ok (.invokevirtual 178, 3) := by decide +kernel
theorem dX6_closeAtoms_34 : decode cX6_closeAtoms 34 = .ok (.aload_n 0, 1) := by decide +kernel
theorem dX6_closeAtoms_35 : decode cX6_closeAtoms 35 = .ok (.getfield 15, 3) := by decide +kernel
theorem dX6_closeAtoms_38 : decode cX6_closeAtoms 38 = .ok (.ifCond .gt 4, 3) := by decide +kernel
theorem dX6_closeAtoms_41 : decode cX6_closeAtoms 41 = .ok (.return_, 1) := by decide +kernel
theorem dX6_closeAtoms_42 : decode cX6_closeAtoms 42 = .ok (.aload_n 0, 1) := by decide +kernel
theorem dX6_closeAtoms_43 : decode cX6_closeAtoms 43 = .ok (.dup, 1) := by decide +kernel
theorem dX6_closeAtoms_44 : decode cX6_closeAtoms 44 = .ok (.getfield 15, 3) := by decide +kernel
theorem dX6_closeAtoms_47 : decode cX6_closeAtoms 47 = .ok (.iconst 1, 1) := by decide +kernel
theorem dX6_closeAtoms_48 : decode cX6_closeAtoms 48 = .ok (.isub, 1) := by decide +kernel
theorem dX6_closeAtoms_49 : decode cX6_closeAtoms 49 = .ok (.putfield 15, 3) := by decide +kernel
theorem dX6_closeAtoms_52 : decode cX6_closeAtoms 52 = .ok (.aload_n 0, 1) := by decide +kernel
theorem dX6_closeAtoms_53 : decode cX6_closeAtoms 53 = .ok (.dup, 1) := by decide +kernel
theorem dX6_closeAtoms_54 : decode cX6_closeAtoms 54 = .ok (.getfield 19, 3) := by decide +kernel
theorem dX6_closeAtoms_57 : decode cX6_closeAtoms 57 = .ok (.iconst 1, 1) := by decide +kernel
theorem dX6_closeAtoms_58 : decode cX6_closeAtoms 58 = .ok (.isub, 1) := by decide +kernel
theorem dX6_closeAtoms_59 : decode cX6_closeAtoms 59 = .ok (.putfield 19, 3) := by decide +kernel
theorem dX6_closeAtoms_62 : decode cX6_closeAtoms 62 = .ok (.aload_n 0, 1) := by decide +kernel
theorem dX6_closeAtoms_63 : decode cX6_closeAtoms 63 = .ok (.getfield 22, 3) := by decide +kernel
theorem dX6_closeAtoms_66 : decode cX6_closeAtoms 66 = .ok (.invokevirtual 50, 3) := by decide +kernel
theorem dX6_closeAtoms_69 : decode cX6_closeAtoms 69 = .ok (.aload_n 0, 1) := by decide +kernel
theorem dX6_closeAtoms_70 : decode cX6_closeAtoms 70 = .ok (.invokevirtual 189, 3) := by decide +kernel
theorem dX6_closeAtoms_73 : decode cX6_closeAtoms 73 = .ok (.iinc 1 1, 3) := by decide +kernel
theorem dX6_closeAtoms_76 : decode cX6_closeAtoms 76 = .ok (.goto (-70), 3) := by decide +kernel
theorem dX6_closeAtoms_79 : decode cX6_closeAtoms 79 = .ok (.return_, 1) := by decide +kernel
def q6_closeAtoms (σ : St) : Option St :=
  Option.bind (q6_closeNots σ) fun x1_ =>
  Option.bind (loop2 (fun rec6_ (closed9_ : Int32) (σ10_ : St) =>
  Option.bind (if closed9_ < 6 then (Option.bind (q8_isSign σ10_ 41) fun x18_ =>
  if x18_ = true then (some true) else (some false)) else (some false)) fun t15_ =>
  if t15_ = true then
  Option.bind (q6_emitWaiting σ10_ 1103 1104) fun x22_ =>
  if (x22_ 3 4) ≤ 0 then (some (.inl x22_)) else
  lt (up x22_ 3 4 ((x22_ 3 4) - 1)) fun σ28_ =>
  lt (up σ28_ 3 5 ((σ28_ 3 5) - 1)) fun σ30_ =>
  Option.bind (q8_advance σ30_) fun x32_ =>
  Option.bind (q6_closeNots x32_) fun x34_ =>
  lt (closed9_ + 1) fun closed36_ =>
  rec6_ closed36_ x34_
  else (some (.inr (closed9_, σ10_)))) fuelN (0 : Int32) x1_) fun y3_ =>
  Sum.elim (fun x9 => some x9) (fun y3_r =>
  some y3_r.2) y3_
abbrev rm6_closeAtoms : Room := { frames := 3, cells := 0, slots := 0, locals := 65 }
set_option maxHeartbeats 4000000 in
set_option maxRecDepth 100000 in
theorem p6_closeAtoms {Θ : Tz} {σ : St} {ρ : Option Value × St} (C : Zc Θ cX6_closeAtoms 2 RX6 none rm6_closeAtoms) (hkd : Θ.2.2.2.2.1 = kdC) {r : St} (hf : q6_closeAtoms σ = some r) (hρ : ρ = (none, r)) : Z Θ 2 0 0 (zQ Θ ρ) σ 0 [(0, .ref (zA Θ 3))] [] := by
  unfold q6_closeAtoms at hf
  refine z_aload_n C 0 dX6_closeAtoms_0 rfl rfl ?_
  obtain ⟨x1_, h2_, hf⟩ := ob hf
  refine cr6_189 C hkd  h2_ ⟨(Nat.le_of_ble_eq_true rfl), (Nat.le_of_ble_eq_true rfl)⟩ (Nat.le_of_ble_eq_true rfl) ⟨Nat.zero_le _, Nat.zero_le _⟩ dX6_closeAtoms_1 ?_
  refine z_iconst (v := 0) C dX6_closeAtoms_4 ic_0 ?_
  refine z_istN C dX6_closeAtoms_5 rfl rfl (Nat.le_of_ble_eq_true rfl) rfl ?_
  refine Z.sub [1, 0] rfl ?_
  obtain ⟨y3_, h4_, hf⟩ := ob hf
  suffices K5_ : ∀ y3_r, y3_ = .inr y3_r → Z Θ 2 0 0 (zQ Θ ρ) y3_r.2 79 [(0, .ref (zA Θ 3)), (1, .int y3_r.1)] [] by
    refine loop2_Z (P := fun (closed9_ : Int32) (σ10_ : St) => Z Θ 2 0 0 (zQ Θ ρ) σ10_ 6 [(0, .ref (zA Θ 3)), (1, .int closed9_)] []) ?_ fuelN (0 : Int32) x1_ h4_
    clear h4_
    intro rec6_ closed9_ σ10_ h7_ h8_
    obtain ⟨t15_, h16_, h8_⟩ := ob h8_
    have K13_ : t15_ = true → Z Θ 2 0 0 (zQ Θ ρ) σ10_ 24 [(0, .ref (zA Θ 3)), (1, .int closed9_)] [] := by
      intro h21_
      rw [if_pos h21_] at h8_
      refine z_aload_n C 0 dX6_closeAtoms_24 rfl rfl ?_
      refine z_sipush (v := 1103) C dX6_closeAtoms_25 sp_1103 ?_
      refine z_sipush (v := 1104) C dX6_closeAtoms_28 sp_1104 ?_
      obtain ⟨x22_, h23_, h8_⟩ := ob h8_
      refine cr6_178 (least_a := 1103) (most_a := 1104) C hkd  h23_ ⟨(Nat.le_of_ble_eq_true rfl), (Nat.le_of_ble_eq_true rfl)⟩ (Nat.le_of_ble_eq_true rfl) ⟨Nat.zero_le _, Nat.zero_le _⟩ dX6_closeAtoms_31 ?_
      have K24_ : (x22_ 3 4) ≤ 0 → Z Θ 2 0 0 (zQ Θ ρ) x22_ 41 [(0, .ref (zA Θ 3)), (1, .int closed9_)] [] := by
        intro h27_
        rw [if_pos h27_] at h8_
        rw [← Option.some.inj h8_] at hf
        replace hf : some x22_ = some r := hf
        cases hf
        subst hρ
        exact z_vret C dX6_closeAtoms_41
      suffices K25_ : ¬ ((x22_ 3 4) ≤ 0) → Z Θ 2 0 0 (zQ Θ ρ) x22_ 42 [(0, .ref (zA Θ 3)), (1, .int closed9_)] [] by
        refine z_aload_n C 0 dX6_closeAtoms_34 rfl rfl ?_
        refine fg6_15 C hkd dX6_closeAtoms_35 ?_
        refine c0_le_f C 42 dX6_closeAtoms_38 (by decide) (fun h26_ => ?_) (fun h26_ => ?_)
        · exact K24_ h26_
        · exact K25_ h26_
      intro h27_
      rw [if_neg h27_] at h8_
      refine z_aload_n C 0 dX6_closeAtoms_42 rfl rfl ?_
      refine z_dup C dX6_closeAtoms_43 rfl ?_
      refine fg6_15 C hkd dX6_closeAtoms_44 ?_
      refine z_iconst (v := 1) C dX6_closeAtoms_47 ic_1 ?_
      refine z_isub C dX6_closeAtoms_48 ?_
      obtain ⟨σ28_, h29_, h8_⟩ := lt_ h8_
      refine fp6_15 C hkd h29_ dX6_closeAtoms_49 ?_
      refine z_aload_n C 0 dX6_closeAtoms_52 rfl rfl ?_
      refine z_dup C dX6_closeAtoms_53 rfl ?_
      refine fg6_19 C hkd dX6_closeAtoms_54 ?_
      refine z_iconst (v := 1) C dX6_closeAtoms_57 ic_1 ?_
      refine z_isub C dX6_closeAtoms_58 ?_
      obtain ⟨σ30_, h31_, h8_⟩ := lt_ h8_
      refine fp6_19 C hkd h31_ dX6_closeAtoms_59 ?_
      refine z_aload_n C 0 dX6_closeAtoms_62 rfl rfl ?_
      refine fg6_22 C hkd dX6_closeAtoms_63 ?_
      obtain ⟨x32_, h33_, h8_⟩ := ob h8_
      refine cr6_50 C hkd  h33_ ⟨(Nat.le_of_ble_eq_true rfl), (Nat.le_of_ble_eq_true rfl)⟩ (Nat.le_of_ble_eq_true rfl) ⟨Nat.zero_le _, Nat.zero_le _⟩ dX6_closeAtoms_66 ?_
      refine z_aload_n C 0 dX6_closeAtoms_69 rfl rfl ?_
      obtain ⟨x34_, h35_, h8_⟩ := ob h8_
      refine cr6_189 C hkd  h35_ ⟨(Nat.le_of_ble_eq_true rfl), (Nat.le_of_ble_eq_true rfl)⟩ (Nat.le_of_ble_eq_true rfl) ⟨Nat.zero_le _, Nat.zero_le _⟩ dX6_closeAtoms_70 ?_
      obtain ⟨closed36_, h37_, h8_⟩ := lt_ h8_
      refine z_inc C 1 dX6_closeAtoms_73 rfl ic_1 h37_ (Nat.le_of_ble_eq_true rfl) rfl ?_
      refine z_goto C 6 dX6_closeAtoms_76 (by decide) ?_
      refine Z.sub [1, 0] rfl ?_
      exact h7_ _ _ h8_
    have K14_ : ¬ (t15_ = true) → Z Θ 2 0 0 (zQ Θ ρ) σ10_ 79 [(0, .ref (zA Θ 3)), (1, .int closed9_)] [] := by
      intro h21_
      rw [if_neg h21_] at h8_
      exact K5_ _ (Option.some.inj h8_).symm
    refine z_iload_n C 1 dX6_closeAtoms_6 rfl rfl ?_
    refine z_bipush (v := 6) C dX6_closeAtoms_7 bp_6 ?_
    refine c_lt_f C 79 dX6_closeAtoms_9 (by decide) (fun h17_ => ?_) (fun h17_ => ?_)
    · rw [if_pos h17_] at h16_
      refine z_aload_n C 0 dX6_closeAtoms_12 rfl rfl ?_
      refine fg6_22 C hkd dX6_closeAtoms_13 ?_
      refine z_bipush (v := 41) C dX6_closeAtoms_16 bp_41 ?_
      obtain ⟨x18_, h19_, h16_⟩ := ob h16_
      refine cr6_46 (sign_a := 41) C hkd  h19_ ⟨(Nat.le_of_ble_eq_true rfl), (Nat.le_of_ble_eq_true rfl)⟩ (Nat.le_of_ble_eq_true rfl) ⟨Nat.zero_le _, Nat.zero_le _⟩ dX6_closeAtoms_18 ?_
      refine cb_f C 79 dX6_closeAtoms_21 (by decide) (fun h20_ => ?_) (fun h20_ => ?_)
      · rw [if_pos h20_] at h16_
        cases h16_
        exact K13_ rfl
      · rw [if_neg h20_] at h16_
        cases h16_
        exact K14_ Bool.false_ne_true
    · rw [if_neg h17_] at h16_
      cases h16_
      exact K14_ Bool.false_ne_true
  intro y3_r e9
  subst e9
  simp only [Sum.elim_inr] at hf
  cases hf
  subst hρ
  exact z_vret C dX6_closeAtoms_79
theorem c6_closeAtoms {l : Launch} {kd : List KD} {w : Wp} {σ : St} (hkd : kd = kdC) (hi : zI kd w) {r : St} (hf : q6_closeAtoms σ = some r) : zM l kd w yX6_closeAtoms cX6_closeAtoms 2 none rm6_closeAtoms [.ref (w.2.2.1 3)] σ (none, r) := zM_of rfl hi (Nat.le_of_ble_eq_true rfl) (fun Θ hl hw C => by
  obtain ⟨Θ1, Θ2, Θ3, Θ4, Θ5⟩ := Θ
  cases hw
  exact p6_closeAtoms C hkd  hf rfl)

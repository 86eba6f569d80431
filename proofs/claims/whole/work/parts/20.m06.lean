/-! LastLoafModel.person -/
theorem w_9_53 : Cond.code ({ cls := "LastLoafModel", name := "isOne", desc := "(I)Z" } : MethodName) prog_14_method_11_code (2 : Nat) (Option.some ClassFile.FieldType.boolean) ∈ TB := tb_in (lwt_9 (List.mem_of_getElem? (i := 53) (by decide +kernel))) rfl
theorem w_9_50 : Cond.methodLink "LastLoafModel" (347 : Nat) ({ cls := "LastLoafModel", name := "isOne", desc := "(I)Z" } : MethodName) ∈ TB := tb_in (lwt_9 (List.mem_of_getElem? (i := 50) (by decide +kernel))) rfl
theorem w_9_52 : Cond.instanceMethod ({ cls := "LastLoafModel", name := "isOne", desc := "(I)Z" } : MethodName) ∈ TB := tb_in (lwt_9 (List.mem_of_getElem? (i := 52) (by decide +kernel))) rfl
theorem ws_LastLoafModel_isOne_I_Z : Cond.selects "LastLoafModel" (⟨"LastLoafModel", "isOne", "(I)Z"⟩ : MethodName) (⟨"LastLoafModel", "isOne", "(I)Z"⟩ : MethodName) ∈ TB := tb_in (List.mem_append_left _ (List.mem_of_getElem? (i := 42) (by decide +kernel))) rfl
theorem cr12_347 {Θ : Tz} {cc : ByteArray} {nL kc ks : Nat} {ret : Option FieldType} {rm : Room} {Q : State → Prop} {σ : St} {pc : Nat} {lv : List (Nat × Value)} {st : List Value} (C : Zc Θ cc nL RX12 ret rm) (hkd : Θ.2.2.2.2.1 = kdM) {p_a : Int32} {r : Bool} (hx : q12_isOne σ p_a = some r) (hrm : rm12_isOne.frames + 1 ≤ rm.frames ∧ 8 + (2 + 11) + rm12_isOne.locals ≤ rm.locals) (hcat : (st.map fun v => v.category).sum ≤ 8) (hk : kc ≤ rm.cells ∧ ks ≤ rm.slots) (hd : decode cc pc = .ok (.invokevirtual 347, 3)) (kk : Z Θ nL kc ks Q σ (pc + 3) lv (.int (b2i r) :: st)) : Z Θ nL kc ks Q σ pc lv (.int p_a :: .ref (zA Θ 0) :: st) := z_callV C 0 [.int p_a] (some (.int (b2i r)), σ) 1 (kM_0 hkd) rfl (c12_isOne (p_a := p_a) hkd (zc_inj C) hx) w_9_53 w_9_50 w_9_52 ws_LastLoafModel_isOne_I_Z w_1_14 ⟨rfl, rfl, hrm.1, hrm.2⟩ (by decide +kernel) rfl rfl hcat hk hd kk
theorem bp_13 : (Int8.ofInt (13)).toInt32 = 13 := by decide +kernel
theorem bp_11 : (Int8.ofInt (11)).toInt32 = 11 := by decide +kernel
theorem w_9_115 : Cond.code ({ cls := "LastLoafModel", name := "wooed", desc := "(I)I" } : MethodName) prog_14_method_91_code (4 : Nat) (Option.some ClassFile.FieldType.int) ∈ TB := tb_in (lwt_9 (List.mem_of_getElem? (i := 115) (by decide +kernel))) rfl
theorem w_9_112 : Cond.methodLink "LastLoafModel" (353 : Nat) ({ cls := "LastLoafModel", name := "wooed", desc := "(I)I" } : MethodName) ∈ TB := tb_in (lwt_9 (List.mem_of_getElem? (i := 112) (by decide +kernel))) rfl
theorem w_9_114 : Cond.instanceMethod ({ cls := "LastLoafModel", name := "wooed", desc := "(I)I" } : MethodName) ∈ TB := tb_in (lwt_9 (List.mem_of_getElem? (i := 114) (by decide +kernel))) rfl
theorem ws_LastLoafModel_wooed_I_I : Cond.selects "LastLoafModel" (⟨"LastLoafModel", "wooed", "(I)I"⟩ : MethodName) (⟨"LastLoafModel", "wooed", "(I)I"⟩ : MethodName) ∈ TB := tb_in (List.mem_append_left _ (List.mem_of_getElem? (i := 56) (by decide +kernel))) rfl
theorem cr12_353 {Θ : Tz} {cc : ByteArray} {nL kc ks : Nat} {ret : Option FieldType} {rm : Room} {Q : State → Prop} {σ : St} {pc : Nat} {lv : List (Nat × Value)} {st : List Value} (C : Zc Θ cc nL RX12 ret rm) (hkd : Θ.2.2.2.2.1 = kdM) {one_a : Int32} {r : Int32} (hx : q12_wooed σ one_a = some r) (hrm : rm12_wooed.frames + 1 ≤ rm.frames ∧ 8 + (4 + 11) + rm12_wooed.locals ≤ rm.locals) (hcat : (st.map fun v => v.category).sum ≤ 8) (hk : kc ≤ rm.cells ∧ ks ≤ rm.slots) (hd : decode cc pc = .ok (.invokevirtual 353, 3)) (kk : Z Θ nL kc ks Q σ (pc + 3) lv (.int r :: st)) : Z Θ nL kc ks Q σ pc lv (.int one_a :: .ref (zA Θ 0) :: st) := z_callV C 0 [.int one_a] (some (.int r), σ) 1 (kM_0 hkd) rfl (c12_wooed (one_a := one_a) hkd (zc_inj C) hx) w_9_115 w_9_112 w_9_114 ws_LastLoafModel_wooed_I_I w_1_14 ⟨rfl, rfl, hrm.1, hrm.2⟩ (by decide +kernel) rfl rfl hcat hk hd kk
theorem w_9_123 : Cond.code ({ cls := "LastLoafModel", name := "passesTo", desc := "(I)I" } : MethodName) prog_14_method_128_code (4 : Nat) (Option.some ClassFile.FieldType.int) ∈ TB := tb_in (lwt_9 (List.mem_of_getElem? (i := 123) (by decide +kernel))) rfl
theorem w_9_120 : Cond.methodLink "LastLoafModel" (356 : Nat) ({ cls := "LastLoafModel", name := "passesTo", desc := "(I)I" } : MethodName) ∈ TB := tb_in (lwt_9 (List.mem_of_getElem? (i := 120) (by decide +kernel))) rfl
theorem w_9_122 : Cond.instanceMethod ({ cls := "LastLoafModel", name := "passesTo", desc := "(I)I" } : MethodName) ∈ TB := tb_in (lwt_9 (List.mem_of_getElem? (i := 122) (by decide +kernel))) rfl
theorem ws_LastLoafModel_passesTo_I_I : Cond.selects "LastLoafModel" (⟨"LastLoafModel", "passesTo", "(I)I"⟩ : MethodName) (⟨"LastLoafModel", "passesTo", "(I)I"⟩ : MethodName) ∈ TB := tb_in (List.mem_append_left _ (List.mem_of_getElem? (i := 58) (by decide +kernel))) rfl
theorem cr12_356 {Θ : Tz} {cc : ByteArray} {nL kc ks : Nat} {ret : Option FieldType} {rm : Room} {Q : State → Prop} {σ : St} {pc : Nat} {lv : List (Nat × Value)} {st : List Value} (C : Zc Θ cc nL RX12 ret rm) (hkd : Θ.2.2.2.2.1 = kdM) {p_a : Int32} {r : Int32} (hx : q12_passesTo σ p_a = some r) (hrm : rm12_passesTo.frames + 1 ≤ rm.frames ∧ 8 + (4 + 11) + rm12_passesTo.locals ≤ rm.locals) (hcat : (st.map fun v => v.category).sum ≤ 8) (hk : kc ≤ rm.cells ∧ ks ≤ rm.slots) (hd : decode cc pc = .ok (.invokevirtual 356, 3)) (kk : Z Θ nL kc ks Q σ (pc + 3) lv (.int r :: st)) : Z Θ nL kc ks Q σ pc lv (.int p_a :: .ref (zA Θ 0) :: st) := z_callV C 0 [.int p_a] (some (.int r), σ) 1 (kM_0 hkd) rfl (c12_passesTo (p_a := p_a) hkd (zc_inj C) hx) w_9_123 w_9_120 w_9_122 ws_LastLoafModel_passesTo_I_I w_1_14 ⟨rfl, rfl, hrm.1, hrm.2⟩ (by decide +kernel) rfl rfl hcat hk hd kk
theorem w_9_127 : Cond.code ({ cls := "LastLoafModel", name := "sumOf", desc := "(I)I" } : MethodName) prog_14_method_65_code (4 : Nat) (Option.some ClassFile.FieldType.int) ∈ TB := tb_in (lwt_9 (List.mem_of_getElem? (i := 127) (by decide +kernel))) rfl
theorem w_9_124 : Cond.methodLink "LastLoafModel" (359 : Nat) ({ cls := "LastLoafModel", name := "sumOf", desc := "(I)I" } : MethodName) ∈ TB := tb_in (lwt_9 (List.mem_of_getElem? (i := 124) (by decide +kernel))) rfl
theorem w_9_126 : Cond.instanceMethod ({ cls := "LastLoafModel", name := "sumOf", desc := "(I)I" } : MethodName) ∈ TB := tb_in (lwt_9 (List.mem_of_getElem? (i := 126) (by decide +kernel))) rfl
theorem ws_LastLoafModel_sumOf_I_I : Cond.selects "LastLoafModel" (⟨"LastLoafModel", "sumOf", "(I)I"⟩ : MethodName) (⟨"LastLoafModel", "sumOf", "(I)I"⟩ : MethodName) ∈ TB := tb_in (List.mem_append_left _ (List.mem_of_getElem? (i := 59) (by decide +kernel))) rfl
theorem cr12_359 {Θ : Tz} {cc : ByteArray} {nL kc ks : Nat} {ret : Option FieldType} {rm : Room} {Q : State → Prop} {σ : St} {pc : Nat} {lv : List (Nat × Value)} {st : List Value} (C : Zc Θ cc nL RX12 ret rm) (hkd : Θ.2.2.2.2.1 = kdM) {what_a : Int32} {r : Int32} (hx : q12_sumOf σ what_a = some r) (hrm : rm12_sumOf.frames + 1 ≤ rm.frames ∧ 8 + (4 + 11) + rm12_sumOf.locals ≤ rm.locals) (hcat : (st.map fun v => v.category).sum ≤ 8) (hk : kc ≤ rm.cells ∧ ks ≤ rm.slots) (hd : decode cc pc = .ok (.invokevirtual 359, 3)) (kk : Z Θ nL kc ks Q σ (pc + 3) lv (.int r :: st)) : Z Θ nL kc ks Q σ pc lv (.int what_a :: .ref (zA Θ 0) :: st) := z_callV C 0 [.int what_a] (some (.int r), σ) 1 (kM_0 hkd) rfl (c12_sumOf (what_a := what_a) hkd (zc_inj C) hx) w_9_127 w_9_124 w_9_126 ws_LastLoafModel_sumOf_I_I w_1_14 ⟨rfl, rfl, hrm.1, hrm.2⟩ (by decide +kernel) rfl rfl hcat hk hd kk
theorem dX12_person_0 : decode cX12_person 0 = .ok (.aload_n 0, 1) := by decide +kernel
theorem dX12_person_1 : decode cX12_person 1 = .ok (.aload_n 0, 1) := by decide +kernel
theorem dX12_person_2 : decode cX12_person 2 = .ok (.iload_n 1, 1) := by decide +kernel
theorem dX12_person_3 : decode cX12_person 3 = .ok (.invokevirtual 347, 3) := by decide +kernel
theorem dX12_person_6 : decode cX12_person 6 = .ok (.ifCond .ne 7, 3) := by decide +kernel
theorem dX12_person_9 : decode cX12_person 9 = .ok (.iconst 1, 1) := by decide +kernel
theorem dX12_person_10 : decode cX12_person 10 = .ok (.goto 18, 3) := by decide +kernel
theorem dX12_person_13 : decode cX12_person 13 = .ok (.iload_n 2, 1) := by decide +kernel
theorem dX12_person_14 : decode cX12_person 14 = .ok (.iconst 0, 1) := by decide +kernel
theorem dX12_person_15 : decode cX12_person 15 = .ok (.bipush 13, 2) := by decide +kernel
theorem dX12_person_17 : decode cX12_person 17 = .ok (.invokestatic 68, 3) := by decide +kernel
theorem dX12_person_20 : decode cX12_person 20 = .ok (.ifCond .ne 7, 3) := by decide +kernel
theorem dX12_person_23 : decode cX12_person 23 = .ok (.iconst 2, 1) := by decide +kernel
theorem dX12_person_24 : decode cX12_person 24 = .ok (.goto 4, 3) := by decide +kernel
theorem dX12_person_27 : decode cX12_person 27 = .ok (.iconst 0, 1) := by decide +kernel
theorem dX12_person_28 : decode cX12_person 28 = .ok (.putfield 65, 3) := by decide +kernel
theorem dX12_person_31 : decode cX12_person 31 = .ok (.aload_n 0, 1) := by decide +kernel
theorem dX12_person_32 : decode cX12_person 32 = .ok (.getfield 65, 3) := by decide +kernel
theorem dX12_person_35 : decode cX12_person 35 = .ok (.ifCond .le 5, 3) := by decide +kernel
theorem dX12_person_38 : decode cX12_person 38 = .ok (.iconst 0, 1) := by decide +kernel
theorem dX12_person_39 : decode cX12_person 39 = .ok (.ireturn, 1) := by decide +kernel
theorem dX12_person_40 : decode cX12_person 40 = .ok (.iload_n 2, 1) := by decide +kernel
theorem dX12_person_41 : decode cX12_person 41 = .ok (.bipush 7, 2) := by decide +kernel
theorem dX12_person_43 : decode cX12_person 43 = .ok (.if_icmp .ge 10, 3) := by decide +kernel
theorem dX12_person_46 : decode cX12_person 46 = .ok (.aload_n 0, 1) := by decide +kernel
theorem dX12_person_47 : decode cX12_person 47 = .ok (.iload_n 1, 1) := by decide +kernel
theorem dX12_person_48 : decode cX12_person 48 = .ok (.iload_n 2, 1) := by decide +kernel
theorem dX12_person_49 : decode cX12_person 49 = .ok (.invokevirtual 72, 3) := by decide +kernel
theorem dX12_person_52 : decode cX12_person 52 = .ok (.ireturn, 1) := by decide +kernel
theorem dX12_person_53 : decode cX12_person 53 = .ok (.aload_n 0, 1) := by decide +kernel
theorem dX12_person_54 : decode cX12_person 54 = .ok (.invokevirtual 320, 3) := by decide +kernel
theorem dX12_person_57 : decode cX12_person 57 = .ok (.iload_n 2, 1) := by decide +kernel
theorem dX12_person_58 : decode cX12_person 58 = .ok (.bipush 7, 2) := by decide +kernel
theorem dX12_person_60 : decode cX12_person 60 = .ok (.if_icmp .ne 9, 3) := by decide +kernel
theorem dX12_person_63 : decode cX12_person 63 = .ok (.aload_n 0, 1) := by decide +kernel
theorem dX12_person_64 : decode cX12_person 64 = .ok (.iload_n 1, 1) := by decide +kernel
theorem dX12_person_65 : decode cX12_person 65 = .ok (.invokevirtual 350, 3) := by decide +kernel
theorem dX12_person_68 : decode cX12_person 68 = .ok (.ireturn, 1) := by decide +kernel
theorem dX12_person_69 : decode cX12_person 69 = .ok (.iload_n 2, 1) := by decide +kernel
theorem dX12_person_70 : decode cX12_person 70 = .ok (.bipush 8, 2) := by decide +kernel
theorem dX12_person_72 : decode cX12_person 72 = .ok (.if_icmp .ne 14, 3) := by decide +kernel
theorem dX12_person_75 : decode cX12_person 75 = .ok (.aload_n 0, 1) := by decide +kernel
theorem dX12_person_76 : decode cX12_person 76 = .ok (.iload_n 1, 1) := by decide +kernel
theorem dX12_person_77 : decode cX12_person 77 = .ok (.iconst 0, 1) := by decide +kernel
theorem dX12_person_78 : decode cX12_person 78 = .ok (.aload_n 0, 1) := by decide +kernel
theorem dX12_person_79 : decode cX12_person 79 = .ok (.getfield 269, 3) := by decide +kernel
theorem dX12_person_82 : decode cX12_person 82 = .ok (.invokevirtual 292, 3) := by decide +kernel
theorem dX12_person_85 : decode cX12_person 85 = .ok (.ireturn, 1) := by decide +kernel
theorem dX12_person_86 : decode cX12_person 86 = .ok (.iload_n 2, 1) := by decide +kernel
theorem dX12_person_87 : decode cX12_person 87 = .ok (.bipush 9, 2) := by decide +kernel
theorem dX12_person_89 : decode cX12_person 89 = .ok (.if_icmp .ne 9, 3) := by decide +kernel
theorem dX12_person_92 : decode cX12_person 92 = .ok (.aload_n 0, 1) := by decide +kernel
theorem dX12_person_93 : decode cX12_person 93 = .ok (.iload_n 1, 1) := by decide +kernel
theorem dX12_person_94 : decode cX12_person 94 = .ok (.invokevirtual 295, 3) := by decide +kernel
theorem dX12_person_97 : decode cX12_person 97 = .ok (.ireturn, 1) := by decide +kernel
theorem dX12_person_98 : decode cX12_person 98 = .ok (.iload_n 2, 1) := by decide +kernel
theorem dX12_person_99 : decode cX12_person 99 = .ok (.bipush 10, 2) := by decide +kernel
theorem dX12_person_101 : decode cX12_person 101 = .ok (.if_icmp .ne 9, 3) := by decide +kernel
theorem dX12_person_104 : decode cX12_person 104 = .ok (.aload_n 0, 1) := by decide +kernel
theorem dX12_person_105 : decode cX12_person 105 = .ok (.iload_n 1, 1) := by decide +kernel
theorem dX12_person_106 : decode cX12_person 106 = .ok (.invokevirtual 298, 3) := by decide +kernel
theorem dX12_person_109 : decode cX12_person 109 = .ok (.ireturn, 1) := by decide +kernel
theorem dX12_person_110 : decode cX12_person 110 = .ok (.iload_n 2, 1) := by decide +kernel
theorem dX12_person_111 : decode cX12_person 111 = .ok (.bipush 11, 2) := by decide +kernel
theorem dX12_person_113 : decode cX12_person 113 = .ok (.if_icmp .ne 36, 3) := by decide +kernel
theorem dX12_person_116 : decode cX12_person 116 = .ok (.aload_n 0, 1) := by decide +kernel
theorem dX12_person_117 : decode cX12_person 117 = .ok (.getfield 269, 3) := by decide +kernel
theorem dX12_person_120 : decode cX12_person 120 = .ok (.iload_n 1, 1) := by decide +kernel
theorem dX12_person_121 : decode cX12_person 121 = .ok (.invokestatic 275, 3) := by decide +kernel
theorem dX12_person_124 : decode cX12_person 124 = .ok (.ifCond .eq 23, 3) := by decide +kernel
theorem dX12_person_127 : decode cX12_person 127 = .ok (.aload_n 0, 1) := by decide +kernel
theorem dX12_person_128 : decode cX12_person 128 = .ok (.iload_n 1, 1) := by decide +kernel
theorem dX12_person_129 : decode cX12_person 129 = .ok (.invokevirtual 353, 3) := by decide +kernel
theorem dX12_person_132 : decode cX12_person 132 = .ok (.iconst (-1), 1) := by decide +kernel
theorem dX12_person_133 : decode cX12_person 133 = .ok (.if_icmp .eq 14, 3) := by decide +kernel
theorem dX12_person_136 : decode cX12_person 136 = .ok (.aload_n 0, 1) := by decide +kernel
theorem dX12_person_137 : decode cX12_person 137 = .ok (.iload_n 1, 1) := by decide +kernel
theorem dX12_person_138 : decode cX12_person 138 = .ok (.invokevirtual 353, 3) := by decide +kernel
theorem dX12_person_141 : decode cX12_person 141 = .ok (.invokestatic 286, 3) := by decide +kernel
theorem dX12_person_144 : decode cX12_person 144 = .ok (.goto 4, 3) := by decide +kernel
theorem dX12_person_147 : decode cX12_person 147 = .ok (.iconst (-1), 1) := by decide +kernel
theorem dX12_person_148 : decode cX12_person 148 = .ok (.ireturn, 1) := by decide +kernel
theorem dX12_person_149 : decode cX12_person 149 = .ok (.iload_n 2, 1) := by decide +kernel
theorem dX12_person_150 : decode cX12_person 150 = .ok (.bipush 13, 2) := by decide +kernel
theorem dX12_person_152 : decode cX12_person 152 = .ok (.if_icmp .ne 11, 3) := by decide +kernel
theorem dX12_person_155 : decode cX12_person 155 = .ok (.aload_n 0, 1) := by decide +kernel
theorem dX12_person_156 : decode cX12_person 156 = .ok (.iload_n 1, 1) := by decide +kernel
theorem dX12_person_157 : decode cX12_person 157 = .ok (.invokevirtual 356, 3) := by decide +kernel
theorem dX12_person_160 : decode cX12_person 160 = .ok (.goto 30, 3) := by decide +kernel
theorem dX12_person_163 : decode cX12_person 163 = .ok (.aload_n 0, 1) := by decide +kernel
theorem dX12_person_164 : decode cX12_person 164 = .ok (.iconst 5, 1) := by decide +kernel
theorem dX12_person_165 : decode cX12_person 165 = .ok (.invokevirtual 359, 3) := by decide +kernel
theorem dX12_person_168 : decode cX12_person 168 = .ok (.ifCond .ne 7, 3) := by decide +kernel
theorem dX12_person_171 : decode cX12_person 171 = .ok (.iconst 0, 1) := by decide +kernel
theorem dX12_person_172 : decode cX12_person 172 = .ok (.goto 18, 3) := by decide +kernel
theorem dX12_person_175 : decode cX12_person 175 = .ok (.bipush 100, 2) := by decide +kernel
theorem dX12_person_177 : decode cX12_person 177 = .ok (.aload_n 0, 1) := by decide +kernel
theorem dX12_person_178 : decode cX12_person 178 = .ok (.iload_n 1, 1) := by decide +kernel
theorem dX12_person_179 : decode cX12_person 179 = .ok (.iconst 5, 1) := by decide +kernel
theorem dX12_person_180 : decode cX12_person 180 = .ok (.invokevirtual 72, 3) := by decide +kernel
theorem dX12_person_183 : decode cX12_person 183 = .ok (.imul, 1) := by decide +kernel
theorem dX12_person_184 : decode cX12_person 184 = .ok (.aload_n 0, 1) := by decide +kernel
theorem dX12_person_185 : decode cX12_person 185 = .ok (.iconst 5, 1) := by decide +kernel
theorem dX12_person_186 : decode cX12_person 186 = .ok (.invokevirtual 359, 3) := by decide +kernel
theorem dX12_person_189 : decode cX12_person 189 = .ok (.idiv, 1) := by decide +kernel
theorem dX12_person_190 : decode cX12_person 190 = .ok (.ireturn, 1) := by decide +kernel
def q12_person (σ : St) (p_a : Int32) (what_a : Int32) : Option (Int32 × St) :=
  Option.bind (Option.bind (q12_isOne σ p_a) fun x6_ =>
  if ¬ (x6_ = true) then (some (1 : Int32)) else (some (if ¬ (q12_isIn what_a 0 13 = true) then 2 else 0))) fun x1_ =>
  lt (up σ 0 0 x1_) fun σ15_ =>
  if 0 < (σ15_ 0 0) then (some (0, σ15_)) else
  if what_a < 7 then (Option.bind (q12_of σ15_ p_a what_a) fun x25_ =>
  some (x25_, σ15_)) else
  Option.bind (q12_looks σ15_) fun x27_ =>
  if what_a = 7 then (Option.bind (q12_voteOf x27_ p_a) fun x33_ =>
  some (x33_, x27_)) else
  if what_a = 8 then (Option.bind (q12_votesAt x27_ p_a 0 (x27_ 0 21)) fun x39_ =>
  some (x39_, x27_)) else
  if what_a = 9 then (Option.bind (q12_pointsOf x27_ p_a) fun x45_ =>
  some (x45_, x27_)) else
  if what_a = 10 then (Option.bind (q12_duelsOf x27_ p_a) fun x51_ =>
  some (x51_, x27_)) else
  if what_a = 11 then (Option.bind (Option.bind (if q12_isOf (x27_ 0 21) p_a = true then (Option.bind (q12_wooed x27_ p_a) fun x65_ =>
  if ¬ x65_ = (-1) then (some true) else (some false)) else (some false)) fun t62_ =>
  if t62_ = true then (Option.bind (q12_wooed x27_ p_a) fun x68_ =>
  Option.bind (q12_bits x68_) fun x70_ =>
  some x70_) else (some (-1 : Int32))) fun x57_ =>
  some (x57_, x27_)) else
  Option.bind (if what_a = 13 then (Option.bind (q12_passesTo x27_ p_a) fun x79_ =>
  some x79_) else (Option.bind (Option.bind (q12_sumOf x27_ 5) fun x86_ =>
  if x86_ = 0 then (some (0 : Int32)) else (Option.bind (q12_of x27_ p_a 5) fun x89_ =>
  Option.bind (q12_sumOf x27_ 5) fun x91_ =>
  Option.bind (dv (100 * x89_) x91_) fun x93_ =>
  some x93_)) fun x81_ =>
  some x81_)) fun x73_ =>
  some (x73_, x27_)
abbrev rm12_person : Room := { frames := 77, cells := 0, slots := 0, locals := 4194 }
set_option maxHeartbeats 4000000 in
set_option maxRecDepth 100000 in
theorem p12_person {Θ : Tz} {σ : St} {ρ : Option Value × St} (C : Zc Θ cX12_person 3 RX12 (some .int) rm12_person) (hkd : Θ.2.2.2.2.1 = kdM) {p_a : Int32} {what_a : Int32} {r : (Int32 × St)} (hf : q12_person σ p_a what_a = some r) (hρ : ρ = (some (.int r.1), r.2)) : Z Θ 3 0 0 (zQ Θ ρ) σ 0 [(0, .ref (zA Θ 0)), (1, .int p_a), (2, .int what_a)] [] := by
  unfold q12_person at hf
  refine z_aload_n C 0 dX12_person_0 rfl rfl ?_
  obtain ⟨x1_, h2_, hf⟩ := ob hf
  suffices K3_ : Z Θ 3 0 0 (zQ Θ ρ) σ 28 [(0, .ref (zA Θ 0)), (1, .int p_a), (2, .int what_a)] [.int x1_, .ref (zA Θ 0)] by
    refine z_aload_n C 0 dX12_person_1 rfl rfl ?_
    refine z_iload_n C 1 dX12_person_2 rfl rfl ?_
    obtain ⟨x6_, h7_, h2_⟩ := ob h2_
    refine cr12_347 (p_a := p_a) C hkd  h7_ ⟨(Nat.le_of_ble_eq_true rfl), (Nat.le_of_ble_eq_true rfl)⟩ (Nat.le_of_ble_eq_true rfl) ⟨Nat.zero_le _, Nat.zero_le _⟩ dX12_person_3 ?_
    have K4_ : ¬ (x6_ = true) → Z Θ 3 0 0 (zQ Θ ρ) σ 9 [(0, .ref (zA Θ 0)), (1, .int p_a), (2, .int what_a)] [.ref (zA Θ 0)] := by
      intro h14_
      rw [if_pos h14_] at h2_
      refine z_iconst (v := 1) C dX12_person_9 ic_1 ?_
      refine z_goto C 28 dX12_person_10 (by decide) ?_
      cases h2_
      exact K3_
    have K5_ : ¬ (¬ (x6_ = true)) → Z Θ 3 0 0 (zQ Θ ρ) σ 13 [(0, .ref (zA Θ 0)), (1, .int p_a), (2, .int what_a)] [.ref (zA Θ 0)] := by
      intro h14_
      rw [if_neg h14_] at h2_
      suffices K9_ : Z Θ 3 0 0 (zQ Θ ρ) σ 28 [(0, .ref (zA Θ 0)), (1, .int p_a), (2, .int what_a)] [.int (if ¬ (q12_isIn what_a 0 13 = true) then 2 else 0), .ref (zA Θ 0)] by
        have K10_ : ¬ (q12_isIn what_a 0 13 = true) → Z Θ 3 0 0 (zQ Θ ρ) σ 23 [(0, .ref (zA Θ 0)), (1, .int p_a), (2, .int what_a)] [.ref (zA Θ 0)] := by
          intro h13_
          rw [if_pos h13_] at K9_
          refine z_iconst (v := 2) C dX12_person_23 ic_2 ?_
          refine z_goto C 28 dX12_person_24 (by decide) ?_
          exact K9_
        have K11_ : ¬ (¬ (q12_isIn what_a 0 13 = true)) → Z Θ 3 0 0 (zQ Θ ρ) σ 27 [(0, .ref (zA Θ 0)), (1, .int p_a), (2, .int what_a)] [.ref (zA Θ 0)] := by
          intro h13_
          rw [if_neg h13_] at K9_
          refine z_iconst (v := 0) C dX12_person_27 ic_0 ?_
          exact K9_
        refine z_iload_n C 2 dX12_person_13 rfl rfl ?_
        refine z_iconst (v := 0) C dX12_person_14 ic_0 ?_
        refine z_bipush (v := 13) C dX12_person_15 bp_13 ?_
        refine cr12_68 (v_a := what_a) (low_a := 0) (high_a := 13) C hkd  ⟨(Nat.le_of_ble_eq_true rfl), (Nat.le_of_ble_eq_true rfl)⟩ (Nat.le_of_ble_eq_true rfl) ⟨Nat.zero_le _, Nat.zero_le _⟩ dX12_person_17 ?_
        refine cb_t C 27 dX12_person_20 (by decide) (fun h12_ => ?_) (fun h12_ => ?_)
        · exact K11_ (fun n => n h12_)
        · exact K10_ h12_
      cases h2_
      exact K3_
    refine cb_t C 13 dX12_person_6 (by decide) (fun h8_ => ?_) (fun h8_ => ?_)
    · exact K5_ (fun n => n h8_)
    · exact K4_ h8_
  obtain ⟨σ15_, h16_, hf⟩ := lt_ hf
  refine fp12_65 C hkd h16_ dX12_person_28 ?_
  have K17_ : 0 < (σ15_ 0 0) → Z Θ 3 0 0 (zQ Θ ρ) σ15_ 38 [(0, .ref (zA Θ 0)), (1, .int p_a), (2, .int what_a)] [] := by
    intro h20_
    rw [if_pos h20_] at hf
    refine z_iconst (v := 0) C dX12_person_38 ic_0 ?_
    cases hf
    subst hρ
    exact z_iret C dX12_person_39
  suffices K18_ : ¬ (0 < (σ15_ 0 0)) → Z Θ 3 0 0 (zQ Θ ρ) σ15_ 40 [(0, .ref (zA Θ 0)), (1, .int p_a), (2, .int what_a)] [] by
    refine z_aload_n C 0 dX12_person_31 rfl rfl ?_
    refine fg12_65 C hkd dX12_person_32 ?_
    refine c0_gt_f C 40 dX12_person_35 (by decide) (fun h19_ => ?_) (fun h19_ => ?_)
    · exact K17_ h19_
    · exact K18_ h19_
  intro h20_
  rw [if_neg h20_] at hf
  have K21_ : what_a < 7 → Z Θ 3 0 0 (zQ Θ ρ) σ15_ 46 [(0, .ref (zA Θ 0)), (1, .int p_a), (2, .int what_a)] [] := by
    intro h24_
    rw [if_pos h24_] at hf
    refine z_aload_n C 0 dX12_person_46 rfl rfl ?_
    refine z_iload_n C 1 dX12_person_47 rfl rfl ?_
    refine z_iload_n C 2 dX12_person_48 rfl rfl ?_
    obtain ⟨x25_, h26_, hf⟩ := ob hf
    refine cr12_72 (p_a := p_a) (what_a := what_a) C hkd  h26_ ⟨(Nat.le_of_ble_eq_true rfl), (Nat.le_of_ble_eq_true rfl)⟩ (Nat.le_of_ble_eq_true rfl) ⟨Nat.zero_le _, Nat.zero_le _⟩ dX12_person_49 ?_
    cases hf
    subst hρ
    exact z_iret C dX12_person_52
  suffices K22_ : ¬ (what_a < 7) → Z Θ 3 0 0 (zQ Θ ρ) σ15_ 53 [(0, .ref (zA Θ 0)), (1, .int p_a), (2, .int what_a)] [] by
    refine z_iload_n C 2 dX12_person_40 rfl rfl ?_
    refine z_bipush (v := 7) C dX12_person_41 bp_7 ?_
    refine c_lt_f C 53 dX12_person_43 (by decide) (fun h23_ => ?_) (fun h23_ => ?_)
    · exact K21_ h23_
    · exact K22_ h23_
  intro h24_
  rw [if_neg h24_] at hf
  refine z_aload_n C 0 dX12_person_53 rfl rfl ?_
  obtain ⟨x27_, h28_, hf⟩ := ob hf
  refine cr12_320 C hkd  h28_ ⟨(Nat.le_of_ble_eq_true rfl), (Nat.le_of_ble_eq_true rfl)⟩ (Nat.le_of_ble_eq_true rfl) ⟨Nat.zero_le _, Nat.zero_le _⟩ dX12_person_54 ?_
  have K29_ : what_a = 7 → Z Θ 3 0 0 (zQ Θ ρ) x27_ 63 [(0, .ref (zA Θ 0)), (1, .int p_a), (2, .int what_a)] [] := by
    intro h32_
    rw [if_pos h32_] at hf
    refine z_aload_n C 0 dX12_person_63 rfl rfl ?_
    refine z_iload_n C 1 dX12_person_64 rfl rfl ?_
    obtain ⟨x33_, h34_, hf⟩ := ob hf
    refine cr12_350 (p_a := p_a) C hkd  h34_ ⟨(Nat.le_of_ble_eq_true rfl), (Nat.le_of_ble_eq_true rfl)⟩ (Nat.le_of_ble_eq_true rfl) ⟨Nat.zero_le _, Nat.zero_le _⟩ dX12_person_65 ?_
    cases hf
    subst hρ
    exact z_iret C dX12_person_68
  suffices K30_ : ¬ (what_a = 7) → Z Θ 3 0 0 (zQ Θ ρ) x27_ 69 [(0, .ref (zA Θ 0)), (1, .int p_a), (2, .int what_a)] [] by
    refine z_iload_n C 2 dX12_person_57 rfl rfl ?_
    refine z_bipush (v := 7) C dX12_person_58 bp_7 ?_
    refine c_eq_f C 69 dX12_person_60 (by decide) (fun h31_ => ?_) (fun h31_ => ?_)
    · exact K29_ h31_
    · exact K30_ h31_
  intro h32_
  rw [if_neg h32_] at hf
  have K35_ : what_a = 8 → Z Θ 3 0 0 (zQ Θ ρ) x27_ 75 [(0, .ref (zA Θ 0)), (1, .int p_a), (2, .int what_a)] [] := by
    intro h38_
    rw [if_pos h38_] at hf
    refine z_aload_n C 0 dX12_person_75 rfl rfl ?_
    refine z_iload_n C 1 dX12_person_76 rfl rfl ?_
    refine z_iconst (v := 0) C dX12_person_77 ic_0 ?_
    refine z_aload_n C 0 dX12_person_78 rfl rfl ?_
    refine fg12_269 C hkd dX12_person_79 ?_
    obtain ⟨x39_, h40_, hf⟩ := ob hf
    refine cr12_292 (o_a := p_a) (k_a := 0) (set_a := (x27_ 0 21)) C hkd  h40_ ⟨(Nat.le_of_ble_eq_true rfl), (Nat.le_of_ble_eq_true rfl)⟩ (Nat.le_of_ble_eq_true rfl) ⟨Nat.zero_le _, Nat.zero_le _⟩ dX12_person_82 ?_
    cases hf
    subst hρ
    exact z_iret C dX12_person_85
  suffices K36_ : ¬ (what_a = 8) → Z Θ 3 0 0 (zQ Θ ρ) x27_ 86 [(0, .ref (zA Θ 0)), (1, .int p_a), (2, .int what_a)] [] by
    refine z_iload_n C 2 dX12_person_69 rfl rfl ?_
    refine z_bipush (v := 8) C dX12_person_70 bp_8 ?_
    refine c_eq_f C 86 dX12_person_72 (by decide) (fun h37_ => ?_) (fun h37_ => ?_)
    · exact K35_ h37_
    · exact K36_ h37_
  intro h38_
  rw [if_neg h38_] at hf
  have K41_ : what_a = 9 → Z Θ 3 0 0 (zQ Θ ρ) x27_ 92 [(0, .ref (zA Θ 0)), (1, .int p_a), (2, .int what_a)] [] := by
    intro h44_
    rw [if_pos h44_] at hf
    refine z_aload_n C 0 dX12_person_92 rfl rfl ?_
    refine z_iload_n C 1 dX12_person_93 rfl rfl ?_
    obtain ⟨x45_, h46_, hf⟩ := ob hf
    refine cr12_295 (o_a := p_a) C hkd  h46_ ⟨(Nat.le_of_ble_eq_true rfl), (Nat.le_of_ble_eq_true rfl)⟩ (Nat.le_of_ble_eq_true rfl) ⟨Nat.zero_le _, Nat.zero_le _⟩ dX12_person_94 ?_
    cases hf
    subst hρ
    exact z_iret C dX12_person_97
  suffices K42_ : ¬ (what_a = 9) → Z Θ 3 0 0 (zQ Θ ρ) x27_ 98 [(0, .ref (zA Θ 0)), (1, .int p_a), (2, .int what_a)] [] by
    refine z_iload_n C 2 dX12_person_86 rfl rfl ?_
    refine z_bipush (v := 9) C dX12_person_87 bp_9 ?_
    refine c_eq_f C 98 dX12_person_89 (by decide) (fun h43_ => ?_) (fun h43_ => ?_)
    · exact K41_ h43_
    · exact K42_ h43_
  intro h44_
  rw [if_neg h44_] at hf
  have K47_ : what_a = 10 → Z Θ 3 0 0 (zQ Θ ρ) x27_ 104 [(0, .ref (zA Θ 0)), (1, .int p_a), (2, .int what_a)] [] := by
    intro h50_
    rw [if_pos h50_] at hf
    refine z_aload_n C 0 dX12_person_104 rfl rfl ?_
    refine z_iload_n C 1 dX12_person_105 rfl rfl ?_
    obtain ⟨x51_, h52_, hf⟩ := ob hf
    refine cr12_298 (a_a := p_a) C hkd  h52_ ⟨(Nat.le_of_ble_eq_true rfl), (Nat.le_of_ble_eq_true rfl)⟩ (Nat.le_of_ble_eq_true rfl) ⟨Nat.zero_le _, Nat.zero_le _⟩ dX12_person_106 ?_
    cases hf
    subst hρ
    exact z_iret C dX12_person_109
  suffices K48_ : ¬ (what_a = 10) → Z Θ 3 0 0 (zQ Θ ρ) x27_ 110 [(0, .ref (zA Θ 0)), (1, .int p_a), (2, .int what_a)] [] by
    refine z_iload_n C 2 dX12_person_98 rfl rfl ?_
    refine z_bipush (v := 10) C dX12_person_99 bp_10 ?_
    refine c_eq_f C 110 dX12_person_101 (by decide) (fun h49_ => ?_) (fun h49_ => ?_)
    · exact K47_ h49_
    · exact K48_ h49_
  intro h50_
  rw [if_neg h50_] at hf
  have K53_ : what_a = 11 → Z Θ 3 0 0 (zQ Θ ρ) x27_ 116 [(0, .ref (zA Θ 0)), (1, .int p_a), (2, .int what_a)] [] := by
    intro h56_
    rw [if_pos h56_] at hf
    obtain ⟨x57_, h58_, hf⟩ := ob hf
    suffices K59_ : Z Θ 3 0 0 (zQ Θ ρ) x27_ 148 [(0, .ref (zA Θ 0)), (1, .int p_a), (2, .int what_a)] [.int x57_] by
      obtain ⟨t62_, h63_, h58_⟩ := ob h58_
      have K60_ : t62_ = true → Z Θ 3 0 0 (zQ Θ ρ) x27_ 136 [(0, .ref (zA Θ 0)), (1, .int p_a), (2, .int what_a)] [] := by
        intro h72_
        rw [if_pos h72_] at h58_
        refine z_aload_n C 0 dX12_person_136 rfl rfl ?_
        refine z_iload_n C 1 dX12_person_137 rfl rfl ?_
        obtain ⟨x68_, h69_, h58_⟩ := ob h58_
        refine cr12_353 (one_a := p_a) C hkd  h69_ ⟨(Nat.le_of_ble_eq_true rfl), (Nat.le_of_ble_eq_true rfl)⟩ (Nat.le_of_ble_eq_true rfl) ⟨Nat.zero_le _, Nat.zero_le _⟩ dX12_person_138 ?_
        obtain ⟨x70_, h71_, h58_⟩ := ob h58_
        refine cr12_286 (set_a := x68_) C hkd  h71_ ⟨(Nat.le_of_ble_eq_true rfl), (Nat.le_of_ble_eq_true rfl)⟩ (Nat.le_of_ble_eq_true rfl) ⟨Nat.zero_le _, Nat.zero_le _⟩ dX12_person_141 ?_
        refine z_goto C 148 dX12_person_144 (by decide) ?_
        cases h58_
        exact K59_
      have K61_ : ¬ (t62_ = true) → Z Θ 3 0 0 (zQ Θ ρ) x27_ 147 [(0, .ref (zA Θ 0)), (1, .int p_a), (2, .int what_a)] [] := by
        intro h72_
        rw [if_neg h72_] at h58_
        refine z_iconst (v := (-1)) C dX12_person_147 ic_m1 ?_
        cases h58_
        exact K59_
      refine z_aload_n C 0 dX12_person_116 rfl rfl ?_
      refine fg12_269 C hkd dX12_person_117 ?_
      refine z_iload_n C 1 dX12_person_120 rfl rfl ?_
      refine cr12_275 (set_a := (x27_ 0 21)) (k_a := p_a) C hkd  ⟨(Nat.le_of_ble_eq_true rfl), (Nat.le_of_ble_eq_true rfl)⟩ (Nat.le_of_ble_eq_true rfl) ⟨Nat.zero_le _, Nat.zero_le _⟩ dX12_person_121 ?_
      refine cb_f C 147 dX12_person_124 (by decide) (fun h64_ => ?_) (fun h64_ => ?_)
      · rw [if_pos h64_] at h63_
        refine z_aload_n C 0 dX12_person_127 rfl rfl ?_
        refine z_iload_n C 1 dX12_person_128 rfl rfl ?_
        obtain ⟨x65_, h66_, h63_⟩ := ob h63_
        refine cr12_353 (one_a := p_a) C hkd  h66_ ⟨(Nat.le_of_ble_eq_true rfl), (Nat.le_of_ble_eq_true rfl)⟩ (Nat.le_of_ble_eq_true rfl) ⟨Nat.zero_le _, Nat.zero_le _⟩ dX12_person_129 ?_
        refine z_iconst (v := (-1)) C dX12_person_132 ic_m1 ?_
        refine c_ne_f C 147 dX12_person_133 (by decide) (fun h67_ => ?_) (fun h67_ => ?_)
        · rw [if_pos h67_] at h63_
          cases h63_
          exact K60_ rfl
        · rw [if_neg h67_] at h63_
          cases h63_
          exact K61_ Bool.false_ne_true
      · rw [if_neg h64_] at h63_
        cases h63_
        exact K61_ Bool.false_ne_true
    cases hf
    subst hρ
    exact z_iret C dX12_person_148
  suffices K54_ : ¬ (what_a = 11) → Z Θ 3 0 0 (zQ Θ ρ) x27_ 149 [(0, .ref (zA Θ 0)), (1, .int p_a), (2, .int what_a)] [] by
    refine z_iload_n C 2 dX12_person_110 rfl rfl ?_
    refine z_bipush (v := 11) C dX12_person_111 bp_11 ?_
    refine c_eq_f C 149 dX12_person_113 (by decide) (fun h55_ => ?_) (fun h55_ => ?_)
    · exact K53_ h55_
    · exact K54_ h55_
  intro h56_
  rw [if_neg h56_] at hf
  obtain ⟨x73_, h74_, hf⟩ := ob hf
  suffices K75_ : Z Θ 3 0 0 (zQ Θ ρ) x27_ 190 [(0, .ref (zA Θ 0)), (1, .int p_a), (2, .int what_a)] [.int x73_] by
    have K76_ : what_a = 13 → Z Θ 3 0 0 (zQ Θ ρ) x27_ 155 [(0, .ref (zA Θ 0)), (1, .int p_a), (2, .int what_a)] [] := by
      intro h96_
      rw [if_pos h96_] at h74_
      refine z_aload_n C 0 dX12_person_155 rfl rfl ?_
      refine z_iload_n C 1 dX12_person_156 rfl rfl ?_
      obtain ⟨x79_, h80_, h74_⟩ := ob h74_
      refine cr12_356 (p_a := p_a) C hkd  h80_ ⟨(Nat.le_of_ble_eq_true rfl), (Nat.le_of_ble_eq_true rfl)⟩ (Nat.le_of_ble_eq_true rfl) ⟨Nat.zero_le _, Nat.zero_le _⟩ dX12_person_157 ?_
      refine z_goto C 190 dX12_person_160 (by decide) ?_
      cases h74_
      exact K75_
    have K77_ : ¬ (what_a = 13) → Z Θ 3 0 0 (zQ Θ ρ) x27_ 163 [(0, .ref (zA Θ 0)), (1, .int p_a), (2, .int what_a)] [] := by
      intro h96_
      rw [if_neg h96_] at h74_
      obtain ⟨x81_, h82_, h74_⟩ := ob h74_
      suffices K83_ : Z Θ 3 0 0 (zQ Θ ρ) x27_ 190 [(0, .ref (zA Θ 0)), (1, .int p_a), (2, .int what_a)] [.int x81_] by
        refine z_aload_n C 0 dX12_person_163 rfl rfl ?_
        refine z_iconst (v := 5) C dX12_person_164 ic_5 ?_
        obtain ⟨x86_, h87_, h82_⟩ := ob h82_
        refine cr12_359 (what_a := 5) C hkd  h87_ ⟨(Nat.le_of_ble_eq_true rfl), (Nat.le_of_ble_eq_true rfl)⟩ (Nat.le_of_ble_eq_true rfl) ⟨Nat.zero_le _, Nat.zero_le _⟩ dX12_person_165 ?_
        have K84_ : x86_ = 0 → Z Θ 3 0 0 (zQ Θ ρ) x27_ 171 [(0, .ref (zA Θ 0)), (1, .int p_a), (2, .int what_a)] [] := by
          intro h95_
          rw [if_pos h95_] at h82_
          refine z_iconst (v := 0) C dX12_person_171 ic_0 ?_
          refine z_goto C 190 dX12_person_172 (by decide) ?_
          cases h82_
          exact K83_
        have K85_ : ¬ (x86_ = 0) → Z Θ 3 0 0 (zQ Θ ρ) x27_ 175 [(0, .ref (zA Θ 0)), (1, .int p_a), (2, .int what_a)] [] := by
          intro h95_
          rw [if_neg h95_] at h82_
          refine z_bipush (v := 100) C dX12_person_175 bp_100 ?_
          refine z_aload_n C 0 dX12_person_177 rfl rfl ?_
          refine z_iload_n C 1 dX12_person_178 rfl rfl ?_
          refine z_iconst (v := 5) C dX12_person_179 ic_5 ?_
          obtain ⟨x89_, h90_, h82_⟩ := ob h82_
          refine cr12_72 (p_a := p_a) (what_a := 5) C hkd  h90_ ⟨(Nat.le_of_ble_eq_true rfl), (Nat.le_of_ble_eq_true rfl)⟩ (Nat.le_of_ble_eq_true rfl) ⟨Nat.zero_le _, Nat.zero_le _⟩ dX12_person_180 ?_
          refine z_imul C dX12_person_183 ?_
          refine z_aload_n C 0 dX12_person_184 rfl rfl ?_
          refine z_iconst (v := 5) C dX12_person_185 ic_5 ?_
          obtain ⟨x91_, h92_, h82_⟩ := ob h82_
          refine cr12_359 (what_a := 5) C hkd  h92_ ⟨(Nat.le_of_ble_eq_true rfl), (Nat.le_of_ble_eq_true rfl)⟩ (Nat.le_of_ble_eq_true rfl) ⟨Nat.zero_le _, Nat.zero_le _⟩ dX12_person_186 ?_
          obtain ⟨x93_, h94_, h82_⟩ := ob h82_
          refine z_dv C h94_ dX12_person_189 ?_
          cases h82_
          exact K83_
        refine c0_eq_f C 175 dX12_person_168 (by decide) (fun h88_ => ?_) (fun h88_ => ?_)
        · exact K84_ h88_
        · exact K85_ h88_
      cases h74_
      exact K75_
    refine z_iload_n C 2 dX12_person_149 rfl rfl ?_
    refine z_bipush (v := 13) C dX12_person_150 bp_13 ?_
    refine c_eq_f C 163 dX12_person_152 (by decide) (fun h78_ => ?_) (fun h78_ => ?_)
    · exact K76_ h78_
    · exact K77_ h78_
  cases hf
  subst hρ
  exact z_iret C dX12_person_190
theorem c12_person {l : Launch} {kd : List KD} {w : Wp} {σ : St} {p_a : Int32} {what_a : Int32} (hkd : kd = kdM) (hi : zI kd w) {r : (Int32 × St)} (hf : q12_person σ p_a what_a = some r) : zM l kd w yX12_person cX12_person 3 (some .int) rm12_person [.ref (w.2.2.1 0), .int p_a, .int what_a] σ (some (.int r.1), r.2) := zM_of rfl hi (Nat.le_of_ble_eq_true rfl) (fun Θ hl hw C => by
  obtain ⟨Θ1, Θ2, Θ3, Θ4, Θ5⟩ := Θ
  cases hw
  exact p12_person C hkd  hf rfl)
/-! LastLoafModel.areTwo -/
theorem dX12_areTwo_0 : decode cX12_areTwo 0 = .ok (.aload_n 0, 1) := by decide +kernel
theorem dX12_areTwo_1 : decode cX12_areTwo 1 = .ok (.aload_n 0, 1) := by decide +kernel
theorem dX12_areTwo_2 : decode cX12_areTwo 2 = .ok (.iload_n 1, 1) := by decide +kernel
theorem dX12_areTwo_3 : decode cX12_areTwo 3 = .ok (.invokevirtual 347, 3) := by decide +kernel
theorem dX12_areTwo_6 : decode cX12_areTwo 6 = .ok (.ifCond .eq 11, 3) := by decide +kernel
theorem dX12_areTwo_9 : decode cX12_areTwo 9 = .ok (.aload_n 0, 1) := by decide +kernel
theorem dX12_areTwo_10 : decode cX12_areTwo 10 = .ok (.iload_n 2, 1) := by decide +kernel
theorem dX12_areTwo_11 : decode cX12_areTwo 11 = .ok (.invokevirtual 347, 3) := by decide +kernel
theorem dX12_areTwo_14 : decode cX12_areTwo 14 = .ok (.ifCond .ne 7, 3) := by decide +kernel
theorem dX12_areTwo_17 : decode cX12_areTwo 17 = .ok (.iconst 1, 1) := by decide +kernel
theorem dX12_areTwo_18 : decode cX12_areTwo 18 = .ok (.goto 13, 3) := by decide +kernel
theorem dX12_areTwo_21 : decode cX12_areTwo 21 = .ok (.iload_n 1, 1) := by decide +kernel
theorem dX12_areTwo_22 : decode cX12_areTwo 22 = .ok (.iload_n 2, 1) := by decide +kernel
theorem dX12_areTwo_23 : decode cX12_areTwo 23 = .ok (.if_icmp .ne 7, 3) := by decide +kernel
theorem dX12_areTwo_26 : decode cX12_areTwo 26 = .ok (.iconst 2, 1) := by decide +kernel
theorem dX12_areTwo_27 : decode cX12_areTwo 27 = .ok (.goto 4, 3) := by decide +kernel
theorem dX12_areTwo_30 : decode cX12_areTwo 30 = .ok (.iconst 0, 1) := by decide +kernel
theorem dX12_areTwo_31 : decode cX12_areTwo 31 = .ok (.putfield 65, 3) := by decide +kernel
theorem dX12_areTwo_34 : decode cX12_areTwo 34 = .ok (.return_, 1) := by decide +kernel
def q12_areTwo (σ : St) (p_a : Int32) (o_a : Int32) : Option St :=
  Option.bind (Option.bind (Option.bind (q12_isOne σ p_a) fun x8_ =>
  if x8_ = true then (Option.bind (q12_isOne σ o_a) fun x11_ =>
  if x11_ = true then (some false) else (some true)) else (some true)) fun t6_ =>
  if t6_ = true then (some (1 : Int32)) else (some (if p_a = o_a then 2 else 0))) fun x1_ =>
  lt (up σ 0 0 x1_) fun σ20_ =>
  some σ20_
abbrev rm12_areTwo : Room := { frames := 2, cells := 0, slots := 0, locals := 43 }
set_option maxHeartbeats 4000000 in
set_option maxRecDepth 100000 in
theorem p12_areTwo {Θ : Tz} {σ : St} {ρ : Option Value × St} (C : Zc Θ cX12_areTwo 3 RX12 none rm12_areTwo) (hkd : Θ.2.2.2.2.1 = kdM) {p_a : Int32} {o_a : Int32} {r : St} (hf : q12_areTwo σ p_a o_a = some r) (hρ : ρ = (none, r)) : Z Θ 3 0 0 (zQ Θ ρ) σ 0 [(0, .ref (zA Θ 0)), (1, .int p_a), (2, .int o_a)] [] := by
  unfold q12_areTwo at hf
  refine z_aload_n C 0 dX12_areTwo_0 rfl rfl ?_
  obtain ⟨x1_, h2_, hf⟩ := ob hf
  suffices K3_ : Z Θ 3 0 0 (zQ Θ ρ) σ 31 [(0, .ref (zA Θ 0)), (1, .int p_a), (2, .int o_a)] [.int x1_, .ref (zA Θ 0)] by
    obtain ⟨t6_, h7_, h2_⟩ := ob h2_
    have K4_ : t6_ = true → Z Θ 3 0 0 (zQ Θ ρ) σ 17 [(0, .ref (zA Θ 0)), (1, .int p_a), (2, .int o_a)] [.ref (zA Θ 0)] := by
      intro h19_
      rw [if_pos h19_] at h2_
      refine z_iconst (v := 1) C dX12_areTwo_17 ic_1 ?_
      refine z_goto C 31 dX12_areTwo_18 (by decide) ?_
      cases h2_
      exact K3_
    have K5_ : ¬ (t6_ = true) → Z Θ 3 0 0 (zQ Θ ρ) σ 21 [(0, .ref (zA Θ 0)), (1, .int p_a), (2, .int o_a)] [.ref (zA Θ 0)] := by
      intro h19_
      rw [if_neg h19_] at h2_
      suffices K14_ : Z Θ 3 0 0 (zQ Θ ρ) σ 31 [(0, .ref (zA Θ 0)), (1, .int p_a), (2, .int o_a)] [.int (if p_a = o_a then 2 else 0), .ref (zA Θ 0)] by
        have K15_ : p_a = o_a → Z Θ 3 0 0 (zQ Θ ρ) σ 26 [(0, .ref (zA Θ 0)), (1, .int p_a), (2, .int o_a)] [.ref (zA Θ 0)] := by
          intro h18_
          rw [if_pos h18_] at K14_
          refine z_iconst (v := 2) C dX12_areTwo_26 ic_2 ?_
          refine z_goto C 31 dX12_areTwo_27 (by decide) ?_
          exact K14_
        have K16_ : ¬ (p_a = o_a) → Z Θ 3 0 0 (zQ Θ ρ) σ 30 [(0, .ref (zA Θ 0)), (1, .int p_a), (2, .int o_a)] [.ref (zA Θ 0)] := by
          intro h18_
          rw [if_neg h18_] at K14_
          refine z_iconst (v := 0) C dX12_areTwo_30 ic_0 ?_
          exact K14_
        refine z_iload_n C 1 dX12_areTwo_21 rfl rfl ?_
        refine z_iload_n C 2 dX12_areTwo_22 rfl rfl ?_
        refine c_eq_f C 30 dX12_areTwo_23 (by decide) (fun h17_ => ?_) (fun h17_ => ?_)
        · exact K15_ h17_
        · exact K16_ h17_
      cases h2_
      exact K3_
    refine z_aload_n C 0 dX12_areTwo_1 rfl rfl ?_
    refine z_iload_n C 1 dX12_areTwo_2 rfl rfl ?_
    obtain ⟨x8_, h9_, h7_⟩ := ob h7_
    refine cr12_347 (p_a := p_a) C hkd  h9_ ⟨(Nat.le_of_ble_eq_true rfl), (Nat.le_of_ble_eq_true rfl)⟩ (Nat.le_of_ble_eq_true rfl) ⟨Nat.zero_le _, Nat.zero_le _⟩ dX12_areTwo_3 ?_
    refine cb_f C 17 dX12_areTwo_6 (by decide) (fun h10_ => ?_) (fun h10_ => ?_)
    · rw [if_pos h10_] at h7_
      refine z_aload_n C 0 dX12_areTwo_9 rfl rfl ?_
      refine z_iload_n C 2 dX12_areTwo_10 rfl rfl ?_
      obtain ⟨x11_, h12_, h7_⟩ := ob h7_
      refine cr12_347 (p_a := o_a) C hkd  h12_ ⟨(Nat.le_of_ble_eq_true rfl), (Nat.le_of_ble_eq_true rfl)⟩ (Nat.le_of_ble_eq_true rfl) ⟨Nat.zero_le _, Nat.zero_le _⟩ dX12_areTwo_11 ?_
      refine cb_t C 21 dX12_areTwo_14 (by decide) (fun h13_ => ?_) (fun h13_ => ?_)
      · rw [if_pos h13_] at h7_
        cases h7_
        exact K5_ Bool.false_ne_true
      · rw [if_neg h13_] at h7_
        cases h7_
        exact K4_ rfl
    · rw [if_neg h10_] at h7_
      cases h7_
      exact K4_ rfl
  obtain ⟨σ20_, h21_, hf⟩ := lt_ hf
  refine fp12_65 C hkd h21_ dX12_areTwo_31 ?_
  cases hf
  subst hρ
  exact z_vret C dX12_areTwo_34
theorem c12_areTwo {l : Launch} {kd : List KD} {w : Wp} {σ : St} {p_a : Int32} {o_a : Int32} (hkd : kd = kdM) (hi : zI kd w) {r : St} (hf : q12_areTwo σ p_a o_a = some r) : zM l kd w yX12_areTwo cX12_areTwo 3 none rm12_areTwo [.ref (w.2.2.1 0), .int p_a, .int o_a] σ (none, r) := zM_of rfl hi (Nat.le_of_ble_eq_true rfl) (fun Θ hl hw C => by
  obtain ⟨Θ1, Θ2, Θ3, Θ4, Θ5⟩ := Θ
  cases hw
  exact p12_areTwo C hkd  hf rfl)
/-! LastLoafModel.likes -/
theorem w_9_135 : Cond.code ({ cls := "LastLoafModel", name := "areTwo", desc := "(II)V" } : MethodName) prog_14_method_68_code (3 : Nat) (Option.none : Option ClassFile.FieldType) ∈ TB := tb_in (lwt_9 (List.mem_of_getElem? (i := 135) (by decide +kernel))) rfl
theorem w_9_132 : Cond.methodLink "LastLoafModel" (362 : Nat) ({ cls := "LastLoafModel", name := "areTwo", desc := "(II)V" } : MethodName) ∈ TB := tb_in (lwt_9 (List.mem_of_getElem? (i := 132) (by decide +kernel))) rfl
theorem w_9_134 : Cond.instanceMethod ({ cls := "LastLoafModel", name := "areTwo", desc := "(II)V" } : MethodName) ∈ TB := tb_in (lwt_9 (List.mem_of_getElem? (i := 134) (by decide +kernel))) rfl
theorem ws_LastLoafModel_areTwo_II_V : Cond.selects "LastLoafModel" (⟨"LastLoafModel", "areTwo", "(II)V"⟩ : MethodName) (⟨"LastLoafModel", "areTwo", "(II)V"⟩ : MethodName) ∈ TB := tb_in (List.mem_append_left _ (List.mem_of_getElem? (i := 60) (by decide +kernel))) rfl
theorem cr12_362 {Θ : Tz} {cc : ByteArray} {nL kc ks : Nat} {ret : Option FieldType} {rm : Room} {Q : State → Prop} {σ : St} {pc : Nat} {lv : List (Nat × Value)} {st : List Value} (C : Zc Θ cc nL RX12 ret rm) (hkd : Θ.2.2.2.2.1 = kdM) {p_a : Int32} {o_a : Int32} {r : St} (hx : q12_areTwo σ p_a o_a = some r) (hrm : rm12_areTwo.frames + 1 ≤ rm.frames ∧ 8 + (3 + 11) + rm12_areTwo.locals ≤ rm.locals) (hcat : (st.map fun v => v.category).sum ≤ 8) (hk : kc ≤ rm.cells ∧ ks ≤ rm.slots) (hd : decode cc pc = .ok (.invokevirtual 362, 3)) (kk : Z Θ nL kc ks Q r (pc + 3) lv st) : Z Θ nL kc ks Q σ pc lv (.int o_a :: .int p_a :: .ref (zA Θ 0) :: st) := z_callV C 0 [.int p_a, .int o_a] (none, r) 2 (kM_0 hkd) rfl (c12_areTwo (p_a := p_a) (o_a := o_a) hkd (zc_inj C) hx) w_9_135 w_9_132 w_9_134 ws_LastLoafModel_areTwo_II_V w_1_14 ⟨rfl, rfl, hrm.1, hrm.2⟩ (by decide +kernel) rfl rfl hcat hk hd kk
theorem dX12_likes_0 : decode cX12_likes 0 = .ok (.aload_n 0, 1) := by decide +kernel
theorem dX12_likes_1 : decode cX12_likes 1 = .ok (.iload_n 1, 1) := by decide +kernel
theorem dX12_likes_2 : decode cX12_likes 2 = .ok (.iload_n 2, 1) := by decide +kernel
theorem dX12_likes_3 : decode cX12_likes 3 = .ok (.invokevirtual 362, 3) := by decide +kernel
theorem dX12_likes_6 : decode cX12_likes 6 = .ok (.aload_n 0, 1) := by decide +kernel
theorem dX12_likes_7 : decode cX12_likes 7 = .ok (.getfield 65, 3) := by decide +kernel
theorem dX12_likes_10 : decode cX12_likes 10 = .ok (.ifCond .le 7, 3) := by decide +kernel
theorem dX12_likes_13 : decode cX12_likes 13 = .ok (.iconst 0, 1) := by decide +kernel
theorem dX12_likes_14 : decode cX12_likes 14 = .ok (.goto 9, 3) := by decide +kernel
theorem dX12_likes_17 : decode cX12_likes 17 = .ok (.aload_n 0, 1) := by decide +kernel
theorem dX12_likes_18 : decode cX12_likes 18 = .ok (.iload_n 1, 1) := by decide +kernel
theorem dX12_likes_19 : decode cX12_likes 19 = .ok (.iload_n 2, 1) := by decide +kernel
theorem dX12_likes_20 : decode cX12_likes 20 = .ok (.invokevirtual 260, 3) := by decide +kernel
theorem dX12_likes_23 : decode cX12_likes 23 = .ok (.ireturn, 1) := by decide +kernel
def q12_likes (σ : St) (p_a : Int32) (o_a : Int32) : Option (Int32 × St) :=
  Option.bind (q12_areTwo σ p_a o_a) fun x1_ =>
  Option.bind (if 0 < (x1_ 0 0) then (some (0 : Int32)) else (Option.bind (q12_liking x1_ p_a o_a) fun x9_ =>
  some x9_)) fun x3_ =>
  some (x3_, x1_)
abbrev rm12_likes : Room := { frames := 3, cells := 0, slots := 0, locals := 65 }
set_option maxHeartbeats 4000000 in
set_option maxRecDepth 100000 in
theorem p12_likes {Θ : Tz} {σ : St} {ρ : Option Value × St} (C : Zc Θ cX12_likes 3 RX12 (some .int) rm12_likes) (hkd : Θ.2.2.2.2.1 = kdM) {p_a : Int32} {o_a : Int32} {r : (Int32 × St)} (hf : q12_likes σ p_a o_a = some r) (hρ : ρ = (some (.int r.1), r.2)) : Z Θ 3 0 0 (zQ Θ ρ) σ 0 [(0, .ref (zA Θ 0)), (1, .int p_a), (2, .int o_a)] [] := by
  unfold q12_likes at hf
  refine z_aload_n C 0 dX12_likes_0 rfl rfl ?_
  refine z_iload_n C 1 dX12_likes_1 rfl rfl ?_
  refine z_iload_n C 2 dX12_likes_2 rfl rfl ?_
  obtain ⟨x1_, h2_, hf⟩ := ob hf
  refine cr12_362 (p_a := p_a) (o_a := o_a) C hkd  h2_ ⟨(Nat.le_of_ble_eq_true rfl), (Nat.le_of_ble_eq_true rfl)⟩ (Nat.le_of_ble_eq_true rfl) ⟨Nat.zero_le _, Nat.zero_le _⟩ dX12_likes_3 ?_
  obtain ⟨x3_, h4_, hf⟩ := ob hf
  suffices K5_ : Z Θ 3 0 0 (zQ Θ ρ) x1_ 23 [(0, .ref (zA Θ 0)), (1, .int p_a), (2, .int o_a)] [.int x3_] by
    have K6_ : 0 < (x1_ 0 0) → Z Θ 3 0 0 (zQ Θ ρ) x1_ 13 [(0, .ref (zA Θ 0)), (1, .int p_a), (2, .int o_a)] [] := by
      intro h11_
      rw [if_pos h11_] at h4_
      refine z_iconst (v := 0) C dX12_likes_13 ic_0 ?_
      refine z_goto C 23 dX12_likes_14 (by decide) ?_
      cases h4_
      exact K5_
    have K7_ : ¬ (0 < (x1_ 0 0)) → Z Θ 3 0 0 (zQ Θ ρ) x1_ 17 [(0, .ref (zA Θ 0)), (1, .int p_a), (2, .int o_a)] [] := by
      intro h11_
      rw [if_neg h11_] at h4_
      refine z_aload_n C 0 dX12_likes_17 rfl rfl ?_
      refine z_iload_n C 1 dX12_likes_18 rfl rfl ?_
      refine z_iload_n C 2 dX12_likes_19 rfl rfl ?_
      obtain ⟨x9_, h10_, h4_⟩ := ob h4_
      refine cr12_260 (p_a := p_a) (o_a := o_a) C hkd  h10_ ⟨(Nat.le_of_ble_eq_true rfl), (Nat.le_of_ble_eq_true rfl)⟩ (Nat.le_of_ble_eq_true rfl) ⟨Nat.zero_le _, Nat.zero_le _⟩ dX12_likes_20 ?_
      cases h4_
      exact K5_
    refine z_aload_n C 0 dX12_likes_6 rfl rfl ?_
    refine fg12_65 C hkd dX12_likes_7 ?_
    refine c0_gt_f C 17 dX12_likes_10 (by decide) (fun h8_ => ?_) (fun h8_ => ?_)
    · exact K6_ h8_
    · exact K7_ h8_
  cases hf
  subst hρ
  exact z_iret C dX12_likes_23
theorem c12_likes {l : Launch} {kd : List KD} {w : Wp} {σ : St} {p_a : Int32} {o_a : Int32} (hkd : kd = kdM) (hi : zI kd w) {r : (Int32 × St)} (hf : q12_likes σ p_a o_a = some r) : zM l kd w yX12_likes cX12_likes 3 (some .int) rm12_likes [.ref (w.2.2.1 0), .int p_a, .int o_a] σ (some (.int r.1), r.2) := zM_of rfl hi (Nat.le_of_ble_eq_true rfl) (fun Θ hl hw C => by
  obtain ⟨Θ1, Θ2, Θ3, Θ4, Θ5⟩ := Θ
  cases hw
  exact p12_likes C hkd  hf rfl)
/-! LastLoafModel.favour -/
theorem dX12_favour_0 : decode cX12_favour 0 = .ok (.aload_n 0, 1) := by decide +kernel
theorem dX12_favour_1 : decode cX12_favour 1 = .ok (.aload_n 0, 1) := by decide +kernel
theorem dX12_favour_2 : decode cX12_favour 2 = .ok (.iload_n 1, 1) := by decide +kernel
theorem dX12_favour_3 : decode cX12_favour 3 = .ok (.invokevirtual 347, 3) := by decide +kernel
theorem dX12_favour_6 : decode cX12_favour 6 = .ok (.ifCond .eq 11, 3) := by decide +kernel
theorem dX12_favour_9 : decode cX12_favour 9 = .ok (.aload_n 0, 1) := by decide +kernel
theorem dX12_favour_10 : decode cX12_favour 10 = .ok (.iload_n 2, 1) := by decide +kernel
theorem dX12_favour_11 : decode cX12_favour 11 = .ok (.invokevirtual 347, 3) := by decide +kernel
theorem dX12_favour_14 : decode cX12_favour 14 = .ok (.ifCond .ne 7, 3) := by decide +kernel
theorem dX12_favour_17 : decode cX12_favour 17 = .ok (.iconst 1, 1) := by decide +kernel
theorem dX12_favour_18 : decode cX12_favour 18 = .ok (.goto 4, 3) := by decide +kernel
theorem dX12_favour_21 : decode cX12_favour 21 = .ok (.iconst 0, 1) := by decide +kernel
theorem dX12_favour_22 : decode cX12_favour 22 = .ok (.putfield 65, 3) := by decide +kernel
theorem dX12_favour_25 : decode cX12_favour 25 = .ok (.aload_n 0, 1) := by decide +kernel
theorem dX12_favour_26 : decode cX12_favour 26 = .ok (.getfield 65, 3) := by decide +kernel
theorem dX12_favour_29 : decode cX12_favour 29 = .ok (.ifCond .le 7, 3) := by decide +kernel
theorem dX12_favour_32 : decode cX12_favour 32 = .ok (.iconst 0, 1) := by decide +kernel
theorem dX12_favour_33 : decode cX12_favour 33 = .ok (.goto 9, 3) := by decide +kernel
theorem dX12_favour_36 : decode cX12_favour 36 = .ok (.aload_n 0, 1) := by decide +kernel
theorem dX12_favour_37 : decode cX12_favour 37 = .ok (.iload_n 1, 1) := by decide +kernel
theorem dX12_favour_38 : decode cX12_favour 38 = .ok (.iload_n 2, 1) := by decide +kernel
theorem dX12_favour_39 : decode cX12_favour 39 = .ok (.invokevirtual 272, 3) := by decide +kernel
theorem dX12_favour_42 : decode cX12_favour 42 = .ok (.ireturn, 1) := by decide +kernel
def q12_favour (σ : St) (p_a : Int32) (o_a : Int32) : Option (Int32 × St) :=
  Option.bind (Option.bind (Option.bind (q12_isOne σ p_a) fun x8_ =>
  if x8_ = true then (Option.bind (q12_isOne σ o_a) fun x11_ =>
  if x11_ = true then (some false) else (some true)) else (some true)) fun t6_ =>
  if t6_ = true then (some (1 : Int32)) else (some (0 : Int32))) fun x1_ =>
  lt (up σ 0 0 x1_) fun σ15_ =>
  Option.bind (if 0 < (σ15_ 0 0) then (some ((0 : Int32), σ15_)) else (Option.bind (q12_favourOf σ15_ p_a o_a) fun x23_ =>
  some (x23_.1, x23_.2))) fun x17_ =>
  some (x17_.1, x17_.2)
abbrev rm12_favour : Room := { frames := 76, cells := 0, slots := 0, locals := 4172 }
set_option maxHeartbeats 4000000 in
set_option maxRecDepth 100000 in
theorem p12_favour {Θ : Tz} {σ : St} {ρ : Option Value × St} (C : Zc Θ cX12_favour 3 RX12 (some .int) rm12_favour) (hkd : Θ.2.2.2.2.1 = kdM) {p_a : Int32} {o_a : Int32} {r : (Int32 × St)} (hf : q12_favour σ p_a o_a = some r) (hρ : ρ = (some (.int r.1), r.2)) : Z Θ 3 0 0 (zQ Θ ρ) σ 0 [(0, .ref (zA Θ 0)), (1, .int p_a), (2, .int o_a)] [] := by
  unfold q12_favour at hf
  refine z_aload_n C 0 dX12_favour_0 rfl rfl ?_
  obtain ⟨x1_, h2_, hf⟩ := ob hf
  suffices K3_ : Z Θ 3 0 0 (zQ Θ ρ) σ 22 [(0, .ref (zA Θ 0)), (1, .int p_a), (2, .int o_a)] [.int x1_, .ref (zA Θ 0)] by
    obtain ⟨t6_, h7_, h2_⟩ := ob h2_
    have K4_ : t6_ = true → Z Θ 3 0 0 (zQ Θ ρ) σ 17 [(0, .ref (zA Θ 0)), (1, .int p_a), (2, .int o_a)] [.ref (zA Θ 0)] := by
      intro h14_
      rw [if_pos h14_] at h2_
      refine z_iconst (v := 1) C dX12_favour_17 ic_1 ?_
      refine z_goto C 22 dX12_favour_18 (by decide) ?_
      cases h2_
      exact K3_
    have K5_ : ¬ (t6_ = true) → Z Θ 3 0 0 (zQ Θ ρ) σ 21 [(0, .ref (zA Θ 0)), (1, .int p_a), (2, .int o_a)] [.ref (zA Θ 0)] := by
      intro h14_
      rw [if_neg h14_] at h2_
      refine z_iconst (v := 0) C dX12_favour_21 ic_0 ?_
      cases h2_
      exact K3_
    refine z_aload_n C 0 dX12_favour_1 rfl rfl ?_
    refine z_iload_n C 1 dX12_favour_2 rfl rfl ?_
    obtain ⟨x8_, h9_, h7_⟩ := ob h7_
    refine cr12_347 (p_a := p_a) C hkd  h9_ ⟨(Nat.le_of_ble_eq_true rfl), (Nat.le_of_ble_eq_true rfl)⟩ (Nat.le_of_ble_eq_true rfl) ⟨Nat.zero_le _, Nat.zero_le _⟩ dX12_favour_3 ?_
    refine cb_f C 17 dX12_favour_6 (by decide) (fun h10_ => ?_) (fun h10_ => ?_)
    · rw [if_pos h10_] at h7_
      refine z_aload_n C 0 dX12_favour_9 rfl rfl ?_
      refine z_iload_n C 2 dX12_favour_10 rfl rfl ?_
      obtain ⟨x11_, h12_, h7_⟩ := ob h7_
      refine cr12_347 (p_a := o_a) C hkd  h12_ ⟨(Nat.le_of_ble_eq_true rfl), (Nat.le_of_ble_eq_true rfl)⟩ (Nat.le_of_ble_eq_true rfl) ⟨Nat.zero_le _, Nat.zero_le _⟩ dX12_favour_11 ?_
      refine cb_t C 21 dX12_favour_14 (by decide) (fun h13_ => ?_) (fun h13_ => ?_)
      · rw [if_pos h13_] at h7_
        cases h7_
        exact K5_ Bool.false_ne_true
      · rw [if_neg h13_] at h7_
        cases h7_
        exact K4_ rfl
    · rw [if_neg h10_] at h7_
      cases h7_
      exact K4_ rfl
  obtain ⟨σ15_, h16_, hf⟩ := lt_ hf
  refine fp12_65 C hkd h16_ dX12_favour_22 ?_
  obtain ⟨x17_, h18_, hf⟩ := ob hf
  suffices K19_ : Z Θ 3 0 0 (zQ Θ ρ) x17_.2 42 [(0, .ref (zA Θ 0)), (1, .int p_a), (2, .int o_a)] [.int x17_.1] by
    have K20_ : 0 < (σ15_ 0 0) → Z Θ 3 0 0 (zQ Θ ρ) σ15_ 32 [(0, .ref (zA Θ 0)), (1, .int p_a), (2, .int o_a)] [] := by
      intro h25_
      rw [if_pos h25_] at h18_
      refine z_iconst (v := 0) C dX12_favour_32 ic_0 ?_
      refine z_goto C 42 dX12_favour_33 (by decide) ?_
      cases h18_
      exact K19_
    have K21_ : ¬ (0 < (σ15_ 0 0)) → Z Θ 3 0 0 (zQ Θ ρ) σ15_ 36 [(0, .ref (zA Θ 0)), (1, .int p_a), (2, .int o_a)] [] := by
      intro h25_
      rw [if_neg h25_] at h18_
      refine z_aload_n C 0 dX12_favour_36 rfl rfl ?_
      refine z_iload_n C 1 dX12_favour_37 rfl rfl ?_
      refine z_iload_n C 2 dX12_favour_38 rfl rfl ?_
      obtain ⟨x23_, h24_, h18_⟩ := ob h18_
      refine cr12_272 (p_a := p_a) (o_a := o_a) C hkd  h24_ ⟨(Nat.le_of_ble_eq_true rfl), (Nat.le_of_ble_eq_true rfl)⟩ (Nat.le_of_ble_eq_true rfl) ⟨Nat.zero_le _, Nat.zero_le _⟩ dX12_favour_39 ?_
      cases h18_
      exact K19_
    refine z_aload_n C 0 dX12_favour_25 rfl rfl ?_
    refine fg12_65 C hkd dX12_favour_26 ?_
    refine c0_gt_f C 36 dX12_favour_29 (by decide) (fun h22_ => ?_) (fun h22_ => ?_)
    · exact K20_ h22_
    · exact K21_ h22_
  cases hf
  subst hρ
  exact z_iret C dX12_favour_42
theorem c12_favour {l : Launch} {kd : List KD} {w : Wp} {σ : St} {p_a : Int32} {o_a : Int32} (hkd : kd = kdM) (hi : zI kd w) {r : (Int32 × St)} (hf : q12_favour σ p_a o_a = some r) : zM l kd w yX12_favour cX12_favour 3 (some .int) rm12_favour [.ref (w.2.2.1 0), .int p_a, .int o_a] σ (some (.int r.1), r.2) := zM_of rfl hi (Nat.le_of_ble_eq_true rfl) (fun Θ hl hw C => by
  obtain ⟨Θ1, Θ2, Θ3, Θ4, Θ5⟩ := Θ
  cases hw
  exact p12_favour C hkd  hf rfl)
/-! LastLoafModel.grist -/
theorem dX12_grist_0 : decode cX12_grist 0 = .ok (.aload_n 0, 1) := by decide +kernel
theorem dX12_grist_1 : decode cX12_grist 1 = .ok (.iload_n 1, 1) := by decide +kernel
theorem dX12_grist_2 : decode cX12_grist 2 = .ok (.iconst 0, 1) := by decide +kernel
theorem dX12_grist_3 : decode cX12_grist 3 = .ok (.iconst 3, 1) := by decide +kernel
theorem dX12_grist_4 : decode cX12_grist 4 = .ok (.invokestatic 68, 3) := by decide +kernel
theorem dX12_grist_7 : decode cX12_grist 7 = .ok (.ifCond .ne 7, 3) := by decide +kernel
theorem dX12_grist_10 : decode cX12_grist 10 = .ok (.iconst 1, 1) := by decide +kernel
theorem dX12_grist_11 : decode cX12_grist 11 = .ok (.goto 4, 3) := by decide +kernel
theorem dX12_grist_14 : decode cX12_grist 14 = .ok (.iconst 0, 1) := by decide +kernel
theorem dX12_grist_15 : decode cX12_grist 15 = .ok (.putfield 65, 3) := by decide +kernel
theorem dX12_grist_18 : decode cX12_grist 18 = .ok (.aload_n 0, 1) := by decide +kernel
theorem dX12_grist_19 : decode cX12_grist 19 = .ok (.getfield 65, 3) := by decide +kernel
theorem dX12_grist_22 : decode cX12_grist 22 = .ok (.ifCond .le 7, 3) := by decide +kernel
theorem dX12_grist_25 : decode cX12_grist 25 = .ok (.iconst 0, 1) := by decide +kernel
theorem dX12_grist_26 : decode cX12_grist 26 = .ok (.goto 12, 3) := by decide +kernel
theorem dX12_grist_29 : decode cX12_grist 29 = .ok (.aload_n 0, 1) := by decide +kernel
theorem dX12_grist_30 : decode cX12_grist 30 = .ok (.getfield 7, 3) := by decide +kernel
theorem dX12_grist_33 : decode cX12_grist 33 = .ok (.bipush 10, 2) := by decide +kernel
theorem dX12_grist_35 : decode cX12_grist 35 = .ok (.iload_n 1, 1) := by decide +kernel
theorem dX12_grist_36 : decode cX12_grist 36 = .ok (.iadd, 1) := by decide +kernel
theorem dX12_grist_37 : decode cX12_grist 37 = .ok (.iaload, 1) := by decide +kernel
theorem dX12_grist_38 : decode cX12_grist 38 = .ok (.ireturn, 1) := by decide +kernel
def q12_grist (σ : St) (q_a : Int32) : Option (Int32 × St) :=
  lt (up σ 0 0 (if ¬ (q12_isIn q_a 0 3 = true) then 1 else 0)) fun σ6_ =>
  Option.bind (if 0 < (σ6_ 0 0) then (some (0 : Int32)) else (Option.bind (ag σ6_ 1 752 (10 + q_a)) fun x14_ =>
  some x14_)) fun x8_ =>
  some (x8_, σ6_)
abbrev rm12_grist : Room := { frames := 1, cells := 0, slots := 0, locals := 22 }
set_option maxHeartbeats 4000000 in
set_option maxRecDepth 100000 in
theorem p12_grist {Θ : Tz} {σ : St} {ρ : Option Value × St} (C : Zc Θ cX12_grist 2 RX12 (some .int) rm12_grist) (hkd : Θ.2.2.2.2.1 = kdM) {q_a : Int32} {r : (Int32 × St)} (hf : q12_grist σ q_a = some r) (hρ : ρ = (some (.int r.1), r.2)) : Z Θ 2 0 0 (zQ Θ ρ) σ 0 [(0, .ref (zA Θ 0)), (1, .int q_a)] [] := by
  unfold q12_grist at hf
  refine z_aload_n C 0 dX12_grist_0 rfl rfl ?_
  suffices K1_ : Z Θ 2 0 0 (zQ Θ ρ) σ 15 [(0, .ref (zA Θ 0)), (1, .int q_a)] [.int (if ¬ (q12_isIn q_a 0 3 = true) then 1 else 0), .ref (zA Θ 0)] by
    have K2_ : ¬ (q12_isIn q_a 0 3 = true) → Z Θ 2 0 0 (zQ Θ ρ) σ 10 [(0, .ref (zA Θ 0)), (1, .int q_a)] [.ref (zA Θ 0)] := by
      intro h5_
      rw [if_pos h5_] at K1_
      refine z_iconst (v := 1) C dX12_grist_10 ic_1 ?_
      refine z_goto C 15 dX12_grist_11 (by decide) ?_
      exact K1_
    have K3_ : ¬ (¬ (q12_isIn q_a 0 3 = true)) → Z Θ 2 0 0 (zQ Θ ρ) σ 14 [(0, .ref (zA Θ 0)), (1, .int q_a)] [.ref (zA Θ 0)] := by
      intro h5_
      rw [if_neg h5_] at K1_
      refine z_iconst (v := 0) C dX12_grist_14 ic_0 ?_
      exact K1_
    refine z_iload_n C 1 dX12_grist_1 rfl rfl ?_
    refine z_iconst (v := 0) C dX12_grist_2 ic_0 ?_
    refine z_iconst (v := 3) C dX12_grist_3 ic_3 ?_
    refine cr12_68 (v_a := q_a) (low_a := 0) (high_a := 3) C hkd  ⟨(Nat.le_of_ble_eq_true rfl), (Nat.le_of_ble_eq_true rfl)⟩ (Nat.le_of_ble_eq_true rfl) ⟨Nat.zero_le _, Nat.zero_le _⟩ dX12_grist_4 ?_
    refine cb_t C 14 dX12_grist_7 (by decide) (fun h4_ => ?_) (fun h4_ => ?_)
    · exact K3_ (fun n => n h4_)
    · exact K2_ h4_
  obtain ⟨σ6_, h7_, hf⟩ := lt_ hf
  refine fp12_65 C hkd h7_ dX12_grist_15 ?_
  obtain ⟨x8_, h9_, hf⟩ := ob hf
  suffices K10_ : Z Θ 2 0 0 (zQ Θ ρ) σ6_ 38 [(0, .ref (zA Θ 0)), (1, .int q_a)] [.int x8_] by
    have K11_ : 0 < (σ6_ 0 0) → Z Θ 2 0 0 (zQ Θ ρ) σ6_ 25 [(0, .ref (zA Θ 0)), (1, .int q_a)] [] := by
      intro h16_
      rw [if_pos h16_] at h9_
      refine z_iconst (v := 0) C dX12_grist_25 ic_0 ?_
      refine z_goto C 38 dX12_grist_26 (by decide) ?_
      cases h9_
      exact K10_
    have K12_ : ¬ (0 < (σ6_ 0 0)) → Z Θ 2 0 0 (zQ Θ ρ) σ6_ 29 [(0, .ref (zA Θ 0)), (1, .int q_a)] [] := by
      intro h16_
      rw [if_neg h16_] at h9_
      refine z_aload_n C 0 dX12_grist_29 rfl rfl ?_
      refine fg12_7 C hkd dX12_grist_30 ?_
      refine z_bipush (v := 10) C dX12_grist_33 bp_10 ?_
      refine z_iload_n C 1 dX12_grist_35 rfl rfl ?_
      refine z_iadd C dX12_grist_36 ?_
      obtain ⟨x14_, h15_, h9_⟩ := ob h9_
      refine z_ag C h15_ (kM_1 hkd) dX12_grist_37 ?_
      cases h9_
      exact K10_
    refine z_aload_n C 0 dX12_grist_18 rfl rfl ?_
    refine fg12_65 C hkd dX12_grist_19 ?_
    refine c0_gt_f C 29 dX12_grist_22 (by decide) (fun h13_ => ?_) (fun h13_ => ?_)
    · exact K11_ h13_
    · exact K12_ h13_
  cases hf
  subst hρ
  exact z_iret C dX12_grist_38
theorem c12_grist {l : Launch} {kd : List KD} {w : Wp} {σ : St} {q_a : Int32} (hkd : kd = kdM) (hi : zI kd w) {r : (Int32 × St)} (hf : q12_grist σ q_a = some r) : zM l kd w yX12_grist cX12_grist 2 (some .int) rm12_grist [.ref (w.2.2.1 0), .int q_a] σ (some (.int r.1), r.2) := zM_of rfl hi (Nat.le_of_ble_eq_true rfl) (fun Θ hl hw C => by
  obtain ⟨Θ1, Θ2, Θ3, Θ4, Θ5⟩ := Θ
  cases hw
  exact p12_grist C hkd  hf rfl)
/-! LastLoafModel.remembers -/
theorem fg12_199 {Θ : Tz} {cc : ByteArray} {nL kc ks : Nat} {ret : Option FieldType} {rm : Room} {Q : State → Prop} {σ : St} {pc : Nat} {lv : List (Nat × Value)} {st : List Value} (C : Zc Θ cc nL RX12 ret rm) (hkd : Θ.2.2.2.2.1 = kdM) (hd : decode cc pc = .ok (.getfield 199, 3)) (kk : Z Θ nL kc ks Q σ (pc + 3) lv (.int (σ 0 6) :: st)) : Z Θ nL kc ks Q σ pc lv (.ref (zA Θ 0) :: st) := z_get C inT12 0 (kM_0 hkd) rfl 6 (by decide) w_8_33 rfl hd kk
theorem sp_3872 : (Int16.ofInt (3872)).toInt32 = 3872 := by decide +kernel
theorem w_8_32 : Cond.fieldLink "LastLoafModel" (19 : Nat) "LastLoafModel" "acts" "[I" ∈ TB := tb_in (lwt_8 (List.mem_of_getElem? (i := 32) (by decide +kernel))) rfl
theorem fg12_19 {Θ : Tz} {cc : ByteArray} {nL kc ks : Nat} {ret : Option FieldType} {rm : Room} {Q : State → Prop} {σ : St} {pc : Nat} {lv : List (Nat × Value)} {st : List Value} (C : Zc Θ cc nL RX12 ret rm) (hkd : Θ.2.2.2.2.1 = kdM) (hd : decode cc pc = .ok (.getfield 19, 3)) (kk : Z Θ nL kc ks Q σ (pc + 3) lv (.ref (zA Θ 4) :: st)) : Z Θ nL kc ks Q σ pc lv (.ref (zA Θ 0) :: st) := z_get C inT12 0 (kM_0 hkd) rfl 5 (by decide) w_8_32 rfl hd kk
theorem dX12_remembers_0 : decode cX12_remembers 0 = .ok (.aload_n 0, 1) := by decide +kernel
theorem dX12_remembers_1 : decode cX12_remembers 1 = .ok (.getfield 199, 3) := by decide +kernel
theorem dX12_remembers_4 : decode cX12_remembers 4 = .ok (.bipush 12, 2) := by decide +kernel
theorem dX12_remembers_6 : decode cX12_remembers 6 = .ok (.if_icmp .ne 44, 3) := by decide +kernel
theorem dX12_remembers_9 : decode cX12_remembers 9 = .ok (.iconst 0, 1) := by decide +kernel
theorem dX12_remembers_10 : decode cX12_remembers 10 = .ok (.istore_n 1, 1) := by decide +kernel
theorem dX12_remembers_11 : decode cX12_remembers 11 = .ok (.iload_n 1, 1) := by decide +kernel
theorem dX12_remembers_12 : decode cX12_remembers 12 = .ok (.sipush 3872, 3) := by decide +kernel
theorem dX12_remembers_15 : decode cX12_remembers 15 = .ok (.if_icmp .ge 25, 3) := by decide +kernel
theorem dX12_remembers_18 : decode cX12_remembers 18 = .ok (.aload_n 0, 1) := by decide +kernel
theorem dX12_remembers_19 : decode cX12_remembers 19 = .ok (.getfield 19, 3) := by decide +kernel
theorem dX12_remembers_22 : decode cX12_remembers 22 = .ok (.iload_n 1, 1) := by decide +kernel
theorem dX12_remembers_23 : decode cX12_remembers 23 = .ok (.aload_n 0, 1) := by decide +kernel
theorem dX12_remembers_24 : decode cX12_remembers 24 = .ok (.getfield 19, 3) := by decide +kernel
theorem dX12_remembers_27 : decode cX12_remembers 27 = .ok (.iload_n 1, 1) := by decide +kernel
theorem dX12_remembers_28 : decode cX12_remembers 28 = .ok (.sipush 352, 3) := by decide +kernel
theorem dX12_remembers_31 : decode cX12_remembers 31 = .ok (.iadd, 1) := by decide +kernel
theorem dX12_remembers_32 : decode cX12_remembers 32 = .ok (.iaload, 1) := by decide +kernel
theorem dX12_remembers_33 : decode cX12_remembers 33 = .ok (.iastore, 1) := by decide +kernel
theorem dX12_remembers_34 : decode cX12_remembers 34 = .ok (.iinc 1 1, 3) := by decide +kernel
theorem dX12_remembers_37 : decode cX12_remembers 37 = .ok (.goto (-26), 3) := by decide +kernel
theorem dX12_remembers_40 : decode cX12_remembers 40 = .ok (.aload_n 0, 1) := by decide +kernel
theorem dX12_remembers_41 : decode cX12_remembers 41 = .ok (.dup, 1) := by decide +kernel
theorem dX12_remembers_42 : decode cX12_remembers 42 = .ok (.getfield 199, 3) := by decide +kernel
theorem dX12_remembers_45 : decode cX12_remembers 45 = .ok (.iconst 1, 1) := by decide +kernel
theorem dX12_remembers_46 : decode cX12_remembers 46 = .ok (.isub, 1) := by decide +kernel
theorem dX12_remembers_47 : decode cX12_remembers 47 = .ok (.putfield 199, 3) := by decide +kernel
theorem dX12_remembers_50 : decode cX12_remembers 50 = .ok (.iconst 0, 1) := by decide +kernel
theorem dX12_remembers_51 : decode cX12_remembers 51 = .ok (.istore_n 1, 1) := by decide +kernel
theorem dX12_remembers_52 : decode cX12_remembers 52 = .ok (.iload_n 1, 1) := by decide +kernel
theorem dX12_remembers_53 : decode cX12_remembers 53 = .ok (.sipush 352, 3) := by decide +kernel
theorem dX12_remembers_56 : decode cX12_remembers 56 = .ok (.if_icmp .ge 30, 3) := by decide +kernel
theorem dX12_remembers_59 : decode cX12_remembers 59 = .ok (.aload_n 0, 1) := by decide +kernel
theorem dX12_remembers_60 : decode cX12_remembers 60 = .ok (.getfield 19, 3) := by decide +kernel
theorem dX12_remembers_63 : decode cX12_remembers 63 = .ok (.sipush 352, 3) := by decide +kernel
theorem dX12_remembers_66 : decode cX12_remembers 66 = .ok (.aload_n 0, 1) := by decide +kernel
theorem dX12_remembers_67 : decode cX12_remembers 67 = .ok (.getfield 199, 3) := by decide +kernel
theorem dX12_remembers_70 : decode cX12_remembers 70 = .ok (.imul, 1) := by decide +kernel
theorem dX12_remembers_71 : decode cX12_remembers 71 = .ok (.iload_n 1, 1) := by decide +kernel
theorem dX12_remembers_72 : decode cX12_remembers 72 = .ok (.iadd, 1) := by decide +kernel
theorem dX12_remembers_73 : decode cX12_remembers 73 = .ok (.aload_n 0, 1) := by decide +kernel
theorem dX12_remembers_74 : decode cX12_remembers 74 = .ok (.getfield 7, 3) := by decide +kernel
theorem dX12_remembers_77 : decode cX12_remembers 77 = .ok (.iload_n 1, 1) := by decide +kernel
theorem dX12_remembers_78 : decode cX12_remembers 78 = .ok (.iaload, 1) := by decide +kernel
theorem dX12_remembers_79 : decode cX12_remembers 79 = .ok (.iastore, 1) := by decide +kernel
theorem dX12_remembers_80 : decode cX12_remembers 80 = .ok (.iinc 1 1, 3) := by decide +kernel
theorem dX12_remembers_83 : decode cX12_remembers 83 = .ok (.goto (-31), 3) := by decide +kernel
theorem dX12_remembers_86 : decode cX12_remembers 86 = .ok (.aload_n 0, 1) := by decide +kernel
theorem dX12_remembers_87 : decode cX12_remembers 87 = .ok (.dup, 1) := by decide +kernel
theorem dX12_remembers_88 : decode cX12_remembers 88 = .ok (.getfield 199, 3) := by decide +kernel
theorem dX12_remembers_91 : decode cX12_remembers 91 = .ok (.iconst 1, 1) := by decide +kernel
theorem dX12_remembers_92 : decode cX12_remembers 92 = .ok (.iadd, 1) := by decide +kernel
theorem dX12_remembers_93 : decode cX12_remembers 93 = .ok (.putfield 199, 3) := by decide +kernel
theorem dX12_remembers_96 : decode cX12_remembers 96 = .ok (.return_, 1) := by decide +kernel
def q12_remembers (σ : St) : Option St :=
  Option.bind (if (σ 0 6) = 12 then (Option.bind (loop2 (fun rec11_ (k14_ : Int32) (σ15_ : St) =>
  if k14_ < 3872 then
  Option.bind (ag σ15_ 4 4224 (k14_ + 352)) fun x22_ =>
  Option.bind (sa σ15_ 4 4224 k14_ x22_) fun σ24_ =>
  lt (k14_ + 1) fun k26_ =>
  rec11_ k26_ σ24_
  else (some (k14_, σ15_))) fuelN (0 : Int32) σ) fun y8_ =>
  lt (up y8_.2 0 6 ((y8_.2 0 6) - 1)) fun σ28_ =>
  some (σ28_)) else (some (σ))) fun y1_ =>
  Option.bind (loop2 (fun rec33_ (k36_ : Int32) (σ37_ : St) =>
  if k36_ < 352 then
  Option.bind (ag σ37_ 1 752 k36_) fun x44_ =>
  Option.bind (sa σ37_ 4 4224 ((352 * (σ37_ 0 6)) + k36_) x44_) fun σ46_ =>
  lt (k36_ + 1) fun k48_ =>
  rec33_ k48_ σ46_
  else (some (k36_, σ37_))) fuelN (0 : Int32) y1_) fun y30_ =>
  lt (up y30_.2 0 6 ((y30_.2 0 6) + 1)) fun σ50_ =>
  some σ50_
abbrev rm12_remembers : Room := { frames := 0, cells := 0, slots := 0, locals := 0 }
set_option maxHeartbeats 4000000 in
set_option maxRecDepth 100000 in
theorem p12_remembers {Θ : Tz} {σ : St} {ρ : Option Value × St} (C : Zc Θ cX12_remembers 2 RX12 none rm12_remembers) (hkd : Θ.2.2.2.2.1 = kdM) {r : St} (hf : q12_remembers σ = some r) (hρ : ρ = (none, r)) : Z Θ 2 0 0 (zQ Θ ρ) σ 0 [(0, .ref (zA Θ 0))] [] := by
  unfold q12_remembers at hf
  obtain ⟨y1_, h2_, hf⟩ := ob hf
  suffices K3_ : Z Θ 2 0 0 (zQ Θ ρ) y1_ 50 [(0, .ref (zA Θ 0))] [] by
    have K4_ : (σ 0 6) = 12 → Z Θ 2 0 0 (zQ Θ ρ) σ 9 [(0, .ref (zA Θ 0))] [] := by
      intro h7_
      rw [if_pos h7_] at h2_
      refine z_iconst (v := 0) C dX12_remembers_9 ic_0 ?_
      refine z_istN C dX12_remembers_10 rfl rfl (Nat.le_of_ble_eq_true rfl) rfl ?_
      refine Z.sub [1, 0] rfl ?_
      obtain ⟨y8_, h9_, h2_⟩ := ob h2_
      suffices K10_ : Z Θ 2 0 0 (zQ Θ ρ) y8_.2 40 [(0, .ref (zA Θ 0)), (1, .int y8_.1)] [] by
        refine loop2_Z (P := fun (k14_ : Int32) (σ15_ : St) => Z Θ 2 0 0 (zQ Θ ρ) σ15_ 11 [(0, .ref (zA Θ 0)), (1, .int k14_)] []) ?_ fuelN (0 : Int32) σ h9_
        clear h9_
        intro rec11_ k14_ σ15_ h12_ h13_
        have K18_ : k14_ < 3872 → Z Θ 2 0 0 (zQ Θ ρ) σ15_ 18 [(0, .ref (zA Θ 0)), (1, .int k14_)] [] := by
          intro h21_
          rw [if_pos h21_] at h13_
          refine z_aload_n C 0 dX12_remembers_18 rfl rfl ?_
          refine fg12_19 C hkd dX12_remembers_19 ?_
          refine z_iload_n C 1 dX12_remembers_22 rfl rfl ?_
          refine z_aload_n C 0 dX12_remembers_23 rfl rfl ?_
          refine fg12_19 C hkd dX12_remembers_24 ?_
          refine z_iload_n C 1 dX12_remembers_27 rfl rfl ?_
          refine z_sipush (v := 352) C dX12_remembers_28 sp_352 ?_
          refine z_iadd C dX12_remembers_31 ?_
          obtain ⟨x22_, h23_, h13_⟩ := ob h13_
          refine z_ag C h23_ (kM_4 hkd) dX12_remembers_32 ?_
          obtain ⟨σ24_, h25_, h13_⟩ := ob h13_
          refine z_sa C h25_ (kM_4 hkd) dX12_remembers_33 ?_
          obtain ⟨k26_, h27_, h13_⟩ := lt_ h13_
          refine z_inc C 1 dX12_remembers_34 rfl ic_1 h27_ (Nat.le_of_ble_eq_true rfl) rfl ?_
          refine z_goto C 11 dX12_remembers_37 (by decide) ?_
          refine Z.sub [1, 0] rfl ?_
          exact h12_ _ _ h13_
        have K19_ : ¬ (k14_ < 3872) → Z Θ 2 0 0 (zQ Θ ρ) σ15_ 40 [(0, .ref (zA Θ 0)), (1, .int k14_)] [] := by
          intro h21_
          rw [if_neg h21_] at h13_
          cases h13_
          exact K10_
        refine z_iload_n C 1 dX12_remembers_11 rfl rfl ?_
        refine z_sipush (v := 3872) C dX12_remembers_12 sp_3872 ?_
        refine c_lt_f C 40 dX12_remembers_15 (by decide) (fun h20_ => ?_) (fun h20_ => ?_)
        · exact K18_ h20_
        · exact K19_ h20_
      refine z_aload_n C 0 dX12_remembers_40 rfl rfl ?_
      refine z_dup C dX12_remembers_41 rfl ?_
      refine fg12_199 C hkd dX12_remembers_42 ?_
      refine z_iconst (v := 1) C dX12_remembers_45 ic_1 ?_
      refine z_isub C dX12_remembers_46 ?_
      obtain ⟨σ28_, h29_, h2_⟩ := lt_ h2_
      refine fp12_199 C hkd h29_ dX12_remembers_47 ?_
      cases h2_
      refine Z.sub [0] rfl ?_
      exact K3_
    have K5_ : ¬ ((σ 0 6) = 12) → Z Θ 2 0 0 (zQ Θ ρ) σ 50 [(0, .ref (zA Θ 0))] [] := by
      intro h7_
      rw [if_neg h7_] at h2_
      cases h2_
      exact K3_
    refine z_aload_n C 0 dX12_remembers_0 rfl rfl ?_
    refine fg12_199 C hkd dX12_remembers_1 ?_
    refine z_bipush (v := 12) C dX12_remembers_4 bp_12 ?_
    refine c_eq_f C 50 dX12_remembers_6 (by decide) (fun h6_ => ?_) (fun h6_ => ?_)
    · exact K4_ h6_
    · exact K5_ h6_
  refine z_iconst (v := 0) C dX12_remembers_50 ic_0 ?_
  refine z_istN C dX12_remembers_51 rfl rfl (Nat.le_of_ble_eq_true rfl) rfl ?_
  refine Z.sub [1, 0] rfl ?_
  obtain ⟨y30_, h31_, hf⟩ := ob hf
  suffices K32_ : Z Θ 2 0 0 (zQ Θ ρ) y30_.2 86 [(0, .ref (zA Θ 0)), (1, .int y30_.1)] [] by
    refine loop2_Z (P := fun (k36_ : Int32) (σ37_ : St) => Z Θ 2 0 0 (zQ Θ ρ) σ37_ 52 [(0, .ref (zA Θ 0)), (1, .int k36_)] []) ?_ fuelN (0 : Int32) y1_ h31_
    clear h31_
    intro rec33_ k36_ σ37_ h34_ h35_
    have K40_ : k36_ < 352 → Z Θ 2 0 0 (zQ Θ ρ) σ37_ 59 [(0, .ref (zA Θ 0)), (1, .int k36_)] [] := by
      intro h43_
      rw [if_pos h43_] at h35_
      refine z_aload_n C 0 dX12_remembers_59 rfl rfl ?_
      refine fg12_19 C hkd dX12_remembers_60 ?_
      refine z_sipush (v := 352) C dX12_remembers_63 sp_352 ?_
      refine z_aload_n C 0 dX12_remembers_66 rfl rfl ?_
      refine fg12_199 C hkd dX12_remembers_67 ?_
      refine z_imul C dX12_remembers_70 ?_
      refine z_iload_n C 1 dX12_remembers_71 rfl rfl ?_
      refine z_iadd C dX12_remembers_72 ?_
      refine z_aload_n C 0 dX12_remembers_73 rfl rfl ?_
      refine fg12_7 C hkd dX12_remembers_74 ?_
      refine z_iload_n C 1 dX12_remembers_77 rfl rfl ?_
      obtain ⟨x44_, h45_, h35_⟩ := ob h35_
      refine z_ag C h45_ (kM_1 hkd) dX12_remembers_78 ?_
      obtain ⟨σ46_, h47_, h35_⟩ := ob h35_
      refine z_sa C h47_ (kM_4 hkd) dX12_remembers_79 ?_
      obtain ⟨k48_, h49_, h35_⟩ := lt_ h35_
      refine z_inc C 1 dX12_remembers_80 rfl ic_1 h49_ (Nat.le_of_ble_eq_true rfl) rfl ?_
      refine z_goto C 52 dX12_remembers_83 (by decide) ?_
      refine Z.sub [1, 0] rfl ?_
      exact h34_ _ _ h35_
    have K41_ : ¬ (k36_ < 352) → Z Θ 2 0 0 (zQ Θ ρ) σ37_ 86 [(0, .ref (zA Θ 0)), (1, .int k36_)] [] := by
      intro h43_
      rw [if_neg h43_] at h35_
      cases h35_
      exact K32_
    refine z_iload_n C 1 dX12_remembers_52 rfl rfl ?_
    refine z_sipush (v := 352) C dX12_remembers_53 sp_352 ?_
    refine c_lt_f C 86 dX12_remembers_56 (by decide) (fun h42_ => ?_) (fun h42_ => ?_)
    · exact K40_ h42_
    · exact K41_ h42_
  refine z_aload_n C 0 dX12_remembers_86 rfl rfl ?_
  refine z_dup C dX12_remembers_87 rfl ?_
  refine fg12_199 C hkd dX12_remembers_88 ?_
  refine z_iconst (v := 1) C dX12_remembers_91 ic_1 ?_
  refine z_iadd C dX12_remembers_92 ?_
  obtain ⟨σ50_, h51_, hf⟩ := lt_ hf
  refine fp12_199 C hkd h51_ dX12_remembers_93 ?_
  cases hf
  subst hρ
  exact z_vret C dX12_remembers_96
theorem c12_remembers {l : Launch} {kd : List KD} {w : Wp} {σ : St} (hkd : kd = kdM) (hi : zI kd w) {r : St} (hf : q12_remembers σ = some r) : zM l kd w yX12_remembers cX12_remembers 2 none rm12_remembers [.ref (w.2.2.1 0)] σ (none, r) := zM_of rfl hi (Nat.le_of_ble_eq_true rfl) (fun Θ hl hw C => by
  obtain ⟨Θ1, Θ2, Θ3, Θ4, Θ5⟩ := Θ
  cases hw
  exact p12_remembers C hkd  hf rfl)
/-! LastLoafModel.sets -/
theorem w_9_151 : Cond.code ({ cls := "LastLoafModel", name := "remembers", desc := "()V" } : MethodName) prog_14_method_72_code (2 : Nat) (Option.none : Option ClassFile.FieldType) ∈ TB := tb_in (lwt_9 (List.mem_of_getElem? (i := 151) (by decide +kernel))) rfl
theorem w_9_148 : Cond.methodLink "LastLoafModel" (366 : Nat) ({ cls := "LastLoafModel", name := "remembers", desc := "()V" } : MethodName) ∈ TB := tb_in (lwt_9 (List.mem_of_getElem? (i := 148) (by decide +kernel))) rfl
theorem w_9_150 : Cond.instanceMethod ({ cls := "LastLoafModel", name := "remembers", desc := "()V" } : MethodName) ∈ TB := tb_in (lwt_9 (List.mem_of_getElem? (i := 150) (by decide +kernel))) rfl
theorem ws_LastLoafModel_remembers__V : Cond.selects "LastLoafModel" (⟨"LastLoafModel", "remembers", "()V"⟩ : MethodName) (⟨"LastLoafModel", "remembers", "()V"⟩ : MethodName) ∈ TB := tb_in (List.mem_append_left _ (List.mem_of_getElem? (i := 61) (by decide +kernel))) rfl
theorem cr12_366 {Θ : Tz} {cc : ByteArray} {nL kc ks : Nat} {ret : Option FieldType} {rm : Room} {Q : State → Prop} {σ : St} {pc : Nat} {lv : List (Nat × Value)} {st : List Value} (C : Zc Θ cc nL RX12 ret rm) (hkd : Θ.2.2.2.2.1 = kdM) {r : St} (hx : q12_remembers σ = some r) (hrm : rm12_remembers.frames + 1 ≤ rm.frames ∧ 8 + (2 + 11) + rm12_remembers.locals ≤ rm.locals) (hcat : (st.map fun v => v.category).sum ≤ 8) (hk : kc ≤ rm.cells ∧ ks ≤ rm.slots) (hd : decode cc pc = .ok (.invokevirtual 366, 3)) (kk : Z Θ nL kc ks Q r (pc + 3) lv st) : Z Θ nL kc ks Q σ pc lv (.ref (zA Θ 0) :: st) := z_callV C 0 [] (none, r) 0 (kM_0 hkd) rfl (c12_remembers hkd (zc_inj C) hx) w_9_151 w_9_148 w_9_150 ws_LastLoafModel_remembers__V w_1_14 ⟨rfl, rfl, hrm.1, hrm.2⟩ (by decide +kernel) rfl rfl hcat hk hd kk
theorem dX12_sets_0 : decode cX12_sets 0 = .ok (.aload_n 0, 1) := by decide +kernel
theorem dX12_sets_1 : decode cX12_sets 1 = .ok (.invokevirtual 366, 3) := by decide +kernel
theorem dX12_sets_4 : decode cX12_sets 4 = .ok (.aload_n 0, 1) := by decide +kernel
theorem dX12_sets_5 : decode cX12_sets 5 = .ok (.getfield 7, 3) := by decide +kernel
theorem dX12_sets_8 : decode cX12_sets 8 = .ok (.iload_n 1, 1) := by decide +kernel
theorem dX12_sets_9 : decode cX12_sets 9 = .ok (.iaload, 1) := by decide +kernel
theorem dX12_sets_10 : decode cX12_sets 10 = .ok (.istore_n 3, 1) := by decide +kernel
theorem dX12_sets_11 : decode cX12_sets 11 = .ok (.aload_n 0, 1) := by decide +kernel
theorem dX12_sets_12 : decode cX12_sets 12 = .ok (.getfield 7, 3) := by decide +kernel
theorem dX12_sets_15 : decode cX12_sets 15 = .ok (.iload_n 1, 1) := by decide +kernel
theorem dX12_sets_16 : decode cX12_sets 16 = .ok (.iload_n 2, 1) := by decide +kernel
theorem dX12_sets_17 : decode cX12_sets 17 = .ok (.iastore, 1) := by decide +kernel
theorem dX12_sets_18 : decode cX12_sets 18 = .ok (.iload_n 3, 1) := by decide +kernel
theorem dX12_sets_19 : decode cX12_sets 19 = .ok (.ireturn, 1) := by decide +kernel
def q12_sets (σ : St) (where_a : Int32) (v_a : Int32) : Option (Int32 × St) :=
  Option.bind (q12_remembers σ) fun x1_ =>
  Option.bind (ag x1_ 1 752 where_a) fun x3_ =>
  Option.bind (sa x1_ 1 752 where_a v_a) fun σ5_ =>
  some (x3_, σ5_)
abbrev rm12_sets : Room := { frames := 1, cells := 0, slots := 0, locals := 21 }
set_option maxHeartbeats 4000000 in
set_option maxRecDepth 100000 in
theorem p12_sets {Θ : Tz} {σ : St} {ρ : Option Value × St} (C : Zc Θ cX12_sets 4 RX12 (some .int) rm12_sets) (hkd : Θ.2.2.2.2.1 = kdM) {where_a : Int32} {v_a : Int32} {r : (Int32 × St)} (hf : q12_sets σ where_a v_a = some r) (hρ : ρ = (some (.int r.1), r.2)) : Z Θ 4 0 0 (zQ Θ ρ) σ 0 [(0, .ref (zA Θ 0)), (1, .int where_a), (2, .int v_a)] [] := by
  unfold q12_sets at hf
  refine z_aload_n C 0 dX12_sets_0 rfl rfl ?_
  obtain ⟨x1_, h2_, hf⟩ := ob hf
  refine cr12_366 C hkd  h2_ ⟨(Nat.le_of_ble_eq_true rfl), (Nat.le_of_ble_eq_true rfl)⟩ (Nat.le_of_ble_eq_true rfl) ⟨Nat.zero_le _, Nat.zero_le _⟩ dX12_sets_1 ?_
  refine z_aload_n C 0 dX12_sets_4 rfl rfl ?_
  refine fg12_7 C hkd dX12_sets_5 ?_
  refine z_iload_n C 1 dX12_sets_8 rfl rfl ?_
  obtain ⟨x3_, h4_, hf⟩ := ob hf
  refine z_ag C h4_ (kM_1 hkd) dX12_sets_9 ?_
  refine z_istN C dX12_sets_10 rfl rfl (Nat.le_of_ble_eq_true rfl) rfl ?_
  refine z_aload_n C 1 dX12_sets_11 rfl rfl ?_
  refine fg12_7 C hkd dX12_sets_12 ?_
  refine z_iload_n C 2 dX12_sets_15 rfl rfl ?_
  refine z_iload_n C 3 dX12_sets_16 rfl rfl ?_
  obtain ⟨σ5_, h6_, hf⟩ := ob hf
  refine z_sa C h6_ (kM_1 hkd) dX12_sets_17 ?_
  refine z_iload_n C 0 dX12_sets_18 rfl rfl ?_
  cases hf
  subst hρ
  exact z_iret C dX12_sets_19
theorem c12_sets {l : Launch} {kd : List KD} {w : Wp} {σ : St} {where_a : Int32} {v_a : Int32} (hkd : kd = kdM) (hi : zI kd w) {r : (Int32 × St)} (hf : q12_sets σ where_a v_a = some r) : zM l kd w yX12_sets cX12_sets 4 (some .int) rm12_sets [.ref (w.2.2.1 0), .int where_a, .int v_a] σ (some (.int r.1), r.2) := zM_of rfl hi (Nat.le_of_ble_eq_true rfl) (fun Θ hl hw C => by
  obtain ⟨Θ1, Θ2, Θ3, Θ4, Θ5⟩ := Θ
  cases hw
  exact p12_sets C hkd  hf rfl)
/-! LastLoafModel.weeks -/
theorem w_9_155 : Cond.code ({ cls := "LastLoafModel", name := "goes", desc := "(IZ)I" } : MethodName) prog_14_method_64_code (5 : Nat) (Option.some ClassFile.FieldType.int) ∈ TB := tb_in (lwt_9 (List.mem_of_getElem? (i := 155) (by decide +kernel))) rfl
theorem w_9_152 : Cond.methodLink "LastLoafModel" (369 : Nat) ({ cls := "LastLoafModel", name := "goes", desc := "(IZ)I" } : MethodName) ∈ TB := tb_in (lwt_9 (List.mem_of_getElem? (i := 152) (by decide +kernel))) rfl
theorem w_9_154 : Cond.instanceMethod ({ cls := "LastLoafModel", name := "goes", desc := "(IZ)I" } : MethodName) ∈ TB := tb_in (lwt_9 (List.mem_of_getElem? (i := 154) (by decide +kernel))) rfl
theorem ws_LastLoafModel_goes_IZ_I : Cond.selects "LastLoafModel" (⟨"LastLoafModel", "goes", "(IZ)I"⟩ : MethodName) (⟨"LastLoafModel", "goes", "(IZ)I"⟩ : MethodName) ∈ TB := tb_in (List.mem_append_left _ (List.mem_of_getElem? (i := 62) (by decide +kernel))) rfl
theorem cr12_369 {Θ : Tz} {cc : ByteArray} {nL kc ks : Nat} {ret : Option FieldType} {rm : Room} {Q : State → Prop} {σ : St} {pc : Nat} {lv : List (Nat × Value)} {st : List Value} (C : Zc Θ cc nL RX12 ret rm) (hkd : Θ.2.2.2.2.1 = kdM) {n_a : Int32} {draws_a : Bool} {r : Int32 × St} (hx : q12_goes σ n_a draws_a = some r) (hrm : rm12_goes.frames + 1 ≤ rm.frames ∧ 8 + (5 + 11) + rm12_goes.locals ≤ rm.locals) (hcat : (st.map fun v => v.category).sum ≤ 8) (hk : kc ≤ rm.cells ∧ ks ≤ rm.slots) (hd : decode cc pc = .ok (.invokevirtual 369, 3)) (kk : Z Θ nL kc ks Q r.2 (pc + 3) lv (.int r.1 :: st)) : Z Θ nL kc ks Q σ pc lv (.int (b2i draws_a) :: .int n_a :: .ref (zA Θ 0) :: st) := z_callV C 0 [.int n_a, .int (b2i draws_a)] (some (.int r.1), r.2) 2 (kM_0 hkd) rfl (c12_goes (n_a := n_a) (draws_a := draws_a) hkd (zc_inj C) hx) w_9_155 w_9_152 w_9_154 ws_LastLoafModel_goes_IZ_I w_1_14 ⟨rfl, rfl, hrm.1, hrm.2⟩ (by decide +kernel) rfl rfl hcat hk hd kk
theorem dX12_weeks_0 : decode cX12_weeks 0 = .ok (.aload_n 0, 1) := by decide +kernel
theorem dX12_weeks_1 : decode cX12_weeks 1 = .ok (.iload_n 1, 1) := by decide +kernel
theorem dX12_weeks_2 : decode cX12_weeks 2 = .ok (.iconst 1, 1) := by decide +kernel
theorem dX12_weeks_3 : decode cX12_weeks 3 = .ok (.bipush 60, 2) := by decide +kernel
theorem dX12_weeks_5 : decode cX12_weeks 5 = .ok (.invokestatic 68, 3) := by decide +kernel
theorem dX12_weeks_8 : decode cX12_weeks 8 = .ok (.ifCond .ne 7, 3) := by decide +kernel
theorem dX12_weeks_11 : decode cX12_weeks 11 = .ok (.iconst 1, 1) := by decide +kernel
theorem dX12_weeks_12 : decode cX12_weeks 12 = .ok (.goto 4, 3) := by decide +kernel
theorem dX12_weeks_15 : decode cX12_weeks 15 = .ok (.iconst 0, 1) := by decide +kernel
theorem dX12_weeks_16 : decode cX12_weeks 16 = .ok (.putfield 65, 3) := by decide +kernel
theorem dX12_weeks_19 : decode cX12_weeks 19 = .ok (.aload_n 0, 1) := by decide +kernel
theorem dX12_weeks_20 : decode cX12_weeks 20 = .ok (.getfield 65, 3) := by decide +kernel
theorem dX12_weeks_23 : decode cX12_weeks 23 = .ok (.ifCond .le 5, 3) := by decide +kernel
theorem dX12_weeks_26 : decode cX12_weeks 26 = .ok (.iconst 0, 1) := by decide +kernel
theorem dX12_weeks_27 : decode cX12_weeks 27 = .ok (.ireturn, 1) := by decide +kernel
theorem dX12_weeks_28 : decode cX12_weeks 28 = .ok (.aload_n 0, 1) := by decide +kernel
theorem dX12_weeks_29 : decode cX12_weeks 29 = .ok (.invokevirtual 366, 3) := by decide +kernel
theorem dX12_weeks_32 : decode cX12_weeks 32 = .ok (.aload_n 0, 1) := by decide +kernel
theorem dX12_weeks_33 : decode cX12_weeks 33 = .ok (.iload_n 1, 1) := by decide +kernel
theorem dX12_weeks_34 : decode cX12_weeks 34 = .ok (.iconst 1, 1) := by decide +kernel
theorem dX12_weeks_35 : decode cX12_weeks 35 = .ok (.invokevirtual 369, 3) := by decide +kernel
theorem dX12_weeks_38 : decode cX12_weeks 38 = .ok (.ireturn, 1) := by decide +kernel
def q12_weeks (σ : St) (n_a : Int32) : Option (Int32 × St) :=
  lt (up σ 0 0 (if ¬ (q12_isIn n_a 1 60 = true) then 1 else 0)) fun σ6_ =>
  if 0 < (σ6_ 0 0) then (some (0, σ6_)) else
  Option.bind (q12_remembers σ6_) fun x12_ =>
  Option.bind (q12_goes x12_ n_a true) fun x14_ =>
  some (x14_.1, x14_.2)
abbrev rm12_weeks : Room := { frames := 80, cells := 0, slots := 0, locals := 4263 }
set_option maxHeartbeats 4000000 in
set_option maxRecDepth 100000 in
theorem p12_weeks {Θ : Tz} {σ : St} {ρ : Option Value × St} (C : Zc Θ cX12_weeks 2 RX12 (some .int) rm12_weeks) (hkd : Θ.2.2.2.2.1 = kdM) {n_a : Int32} {r : (Int32 × St)} (hf : q12_weeks σ n_a = some r) (hρ : ρ = (some (.int r.1), r.2)) : Z Θ 2 0 0 (zQ Θ ρ) σ 0 [(0, .ref (zA Θ 0)), (1, .int n_a)] [] := by
  unfold q12_weeks at hf
  refine z_aload_n C 0 dX12_weeks_0 rfl rfl ?_
  suffices K1_ : Z Θ 2 0 0 (zQ Θ ρ) σ 16 [(0, .ref (zA Θ 0)), (1, .int n_a)] [.int (if ¬ (q12_isIn n_a 1 60 = true) then 1 else 0), .ref (zA Θ 0)] by
    have K2_ : ¬ (q12_isIn n_a 1 60 = true) → Z Θ 2 0 0 (zQ Θ ρ) σ 11 [(0, .ref (zA Θ 0)), (1, .int n_a)] [.ref (zA Θ 0)] := by
      intro h5_
      rw [if_pos h5_] at K1_
      refine z_iconst (v := 1) C dX12_weeks_11 ic_1 ?_
      refine z_goto C 16 dX12_weeks_12 (by decide) ?_
      exact K1_
    have K3_ : ¬ (¬ (q12_isIn n_a 1 60 = true)) → Z Θ 2 0 0 (zQ Θ ρ) σ 15 [(0, .ref (zA Θ 0)), (1, .int n_a)] [.ref (zA Θ 0)] := by
      intro h5_
      rw [if_neg h5_] at K1_
      refine z_iconst (v := 0) C dX12_weeks_15 ic_0 ?_
      exact K1_
    refine z_iload_n C 1 dX12_weeks_1 rfl rfl ?_
    refine z_iconst (v := 1) C dX12_weeks_2 ic_1 ?_
    refine z_bipush (v := 60) C dX12_weeks_3 bp_60 ?_
    refine cr12_68 (v_a := n_a) (low_a := 1) (high_a := 60) C hkd  ⟨(Nat.le_of_ble_eq_true rfl), (Nat.le_of_ble_eq_true rfl)⟩ (Nat.le_of_ble_eq_true rfl) ⟨Nat.zero_le _, Nat.zero_le _⟩ dX12_weeks_5 ?_
    refine cb_t C 15 dX12_weeks_8 (by decide) (fun h4_ => ?_) (fun h4_ => ?_)
    · exact K3_ (fun n => n h4_)
    · exact K2_ h4_
  obtain ⟨σ6_, h7_, hf⟩ := lt_ hf
  refine fp12_65 C hkd h7_ dX12_weeks_16 ?_
  have K8_ : 0 < (σ6_ 0 0) → Z Θ 2 0 0 (zQ Θ ρ) σ6_ 26 [(0, .ref (zA Θ 0)), (1, .int n_a)] [] := by
    intro h11_
    rw [if_pos h11_] at hf
    refine z_iconst (v := 0) C dX12_weeks_26 ic_0 ?_
    cases hf
    subst hρ
    exact z_iret C dX12_weeks_27
  suffices K9_ : ¬ (0 < (σ6_ 0 0)) → Z Θ 2 0 0 (zQ Θ ρ) σ6_ 28 [(0, .ref (zA Θ 0)), (1, .int n_a)] [] by
    refine z_aload_n C 0 dX12_weeks_19 rfl rfl ?_
    refine fg12_65 C hkd dX12_weeks_20 ?_
    refine c0_gt_f C 28 dX12_weeks_23 (by decide) (fun h10_ => ?_) (fun h10_ => ?_)
    · exact K8_ h10_
    · exact K9_ h10_
  intro h11_
  rw [if_neg h11_] at hf
  refine z_aload_n C 0 dX12_weeks_28 rfl rfl ?_
  obtain ⟨x12_, h13_, hf⟩ := ob hf
  refine cr12_366 C hkd  h13_ ⟨(Nat.le_of_ble_eq_true rfl), (Nat.le_of_ble_eq_true rfl)⟩ (Nat.le_of_ble_eq_true rfl) ⟨Nat.zero_le _, Nat.zero_le _⟩ dX12_weeks_29 ?_
  refine z_aload_n C 0 dX12_weeks_32 rfl rfl ?_
  refine z_iload_n C 1 dX12_weeks_33 rfl rfl ?_
  refine z_iconst (v := 1) C dX12_weeks_34 ic_1 ?_
  obtain ⟨x14_, h15_, hf⟩ := ob hf
  refine cr12_369 (n_a := n_a) (draws_a := true) C hkd  h15_ ⟨(Nat.le_of_ble_eq_true rfl), (Nat.le_of_ble_eq_true rfl)⟩ (Nat.le_of_ble_eq_true rfl) ⟨Nat.zero_le _, Nat.zero_le _⟩ dX12_weeks_35 ?_
  cases hf
  subst hρ
  exact z_iret C dX12_weeks_38
theorem c12_weeks {l : Launch} {kd : List KD} {w : Wp} {σ : St} {n_a : Int32} (hkd : kd = kdM) (hi : zI kd w) {r : (Int32 × St)} (hf : q12_weeks σ n_a = some r) : zM l kd w yX12_weeks cX12_weeks 2 (some .int) rm12_weeks [.ref (w.2.2.1 0), .int n_a] σ (some (.int r.1), r.2) := zM_of rfl hi (Nat.le_of_ble_eq_true rfl) (fun Θ hl hw C => by
  obtain ⟨Θ1, Θ2, Θ3, Θ4, Θ5⟩ := Θ
  cases hw
  exact p12_weeks C hkd  hf rfl)
/-! LastLoafModel.stand -/
theorem w_9_214 : Cond.code ({ cls := "LastLoafModel", name := "sets", desc := "(II)I" } : MethodName) prog_14_method_73_code (4 : Nat) (Option.some ClassFile.FieldType.int) ∈ TB := tb_in (lwt_9 (List.mem_of_getElem? (i := 214) (by decide +kernel))) rfl
theorem w_9_211 : Cond.methodLink "LastLoafModel" (373 : Nat) ({ cls := "LastLoafModel", name := "sets", desc := "(II)I" } : MethodName) ∈ TB := tb_in (lwt_9 (List.mem_of_getElem? (i := 211) (by decide +kernel))) rfl
theorem w_9_213 : Cond.instanceMethod ({ cls := "LastLoafModel", name := "sets", desc := "(II)I" } : MethodName) ∈ TB := tb_in (lwt_9 (List.mem_of_getElem? (i := 213) (by decide +kernel))) rfl
theorem ws_LastLoafModel_sets_II_I : Cond.selects "LastLoafModel" (⟨"LastLoafModel", "sets", "(II)I"⟩ : MethodName) (⟨"LastLoafModel", "sets", "(II)I"⟩ : MethodName) ∈ TB := tb_in (List.mem_append_left _ (List.mem_of_getElem? (i := 74) (by decide +kernel))) rfl
theorem cr12_373 {Θ : Tz} {cc : ByteArray} {nL kc ks : Nat} {ret : Option FieldType} {rm : Room} {Q : State → Prop} {σ : St} {pc : Nat} {lv : List (Nat × Value)} {st : List Value} (C : Zc Θ cc nL RX12 ret rm) (hkd : Θ.2.2.2.2.1 = kdM) {where_a : Int32} {v_a : Int32} {r : Int32 × St} (hx : q12_sets σ where_a v_a = some r) (hrm : rm12_sets.frames + 1 ≤ rm.frames ∧ 8 + (4 + 11) + rm12_sets.locals ≤ rm.locals) (hcat : (st.map fun v => v.category).sum ≤ 8) (hk : kc ≤ rm.cells ∧ ks ≤ rm.slots) (hd : decode cc pc = .ok (.invokevirtual 373, 3)) (kk : Z Θ nL kc ks Q r.2 (pc + 3) lv (.int r.1 :: st)) : Z Θ nL kc ks Q σ pc lv (.int v_a :: .int where_a :: .ref (zA Θ 0) :: st) := z_callV C 0 [.int where_a, .int v_a] (some (.int r.1), r.2) 2 (kM_0 hkd) rfl (c12_sets (where_a := where_a) (v_a := v_a) hkd (zc_inj C) hx) w_9_214 w_9_211 w_9_213 ws_LastLoafModel_sets_II_I w_1_14 ⟨rfl, rfl, hrm.1, hrm.2⟩ (by decide +kernel) rfl rfl hcat hk hd kk
theorem dX12_stand_0 : decode cX12_stand 0 = .ok (.aload_n 0, 1) := by decide +kernel
theorem dX12_stand_1 : decode cX12_stand 1 = .ok (.aload_n 0, 1) := by decide +kernel
theorem dX12_stand_2 : decode cX12_stand 2 = .ok (.iload_n 1, 1) := by decide +kernel
theorem dX12_stand_3 : decode cX12_stand 3 = .ok (.invokevirtual 347, 3) := by decide +kernel
theorem dX12_stand_6 : decode cX12_stand 6 = .ok (.ifCond .ne 7, 3) := by decide +kernel
theorem dX12_stand_9 : decode cX12_stand 9 = .ok (.iconst 1, 1) := by decide +kernel
theorem dX12_stand_10 : decode cX12_stand 10 = .ok (.goto 4, 3) := by decide +kernel
theorem dX12_stand_13 : decode cX12_stand 13 = .ok (.iconst 0, 1) := by decide +kernel
theorem dX12_stand_14 : decode cX12_stand 14 = .ok (.putfield 65, 3) := by decide +kernel
theorem dX12_stand_17 : decode cX12_stand 17 = .ok (.aload_n 0, 1) := by decide +kernel
theorem dX12_stand_18 : decode cX12_stand 18 = .ok (.getfield 65, 3) := by decide +kernel
theorem dX12_stand_21 : decode cX12_stand 21 = .ok (.ifCond .le 5, 3) := by decide +kernel
theorem dX12_stand_24 : decode cX12_stand 24 = .ok (.iconst 0, 1) := by decide +kernel
theorem dX12_stand_25 : decode cX12_stand 25 = .ok (.ireturn, 1) := by decide +kernel
theorem dX12_stand_26 : decode cX12_stand 26 = .ok (.aload_n 0, 1) := by decide +kernel
theorem dX12_stand_27 : decode cX12_stand 27 = .ok (.aload_n 0, 1) := by decide +kernel
theorem dX12_stand_28 : decode cX12_stand 28 = .ok (.iload_n 1, 1) := by decide +kernel
theorem dX12_stand_29 : decode cX12_stand 29 = .ok (.iconst 4, 1) := by decide +kernel
theorem dX12_stand_30 : decode cX12_stand 30 = .ok (.invokevirtual 72, 3) := by decide +kernel
theorem dX12_stand_33 : decode cX12_stand 33 = .ok (.iconst 1, 1) := by decide +kernel
theorem dX12_stand_34 : decode cX12_stand 34 = .ok (.if_icmp .ne 7, 3) := by decide +kernel
theorem dX12_stand_37 : decode cX12_stand 37 = .ok (.iconst 2, 1) := by decide +kernel
theorem dX12_stand_38 : decode cX12_stand 38 = .ok (.goto 4, 3) := by decide +kernel
theorem dX12_stand_41 : decode cX12_stand 41 = .ok (.iconst 0, 1) := by decide +kernel
theorem dX12_stand_42 : decode cX12_stand 42 = .ok (.putfield 65, 3) := by decide +kernel
theorem dX12_stand_45 : decode cX12_stand 45 = .ok (.aload_n 0, 1) := by decide +kernel
theorem dX12_stand_46 : decode cX12_stand 46 = .ok (.getfield 65, 3) := by decide +kernel
theorem dX12_stand_49 : decode cX12_stand 49 = .ok (.ifCond .ne 41, 3) := by decide +kernel
theorem dX12_stand_52 : decode cX12_stand 52 = .ok (.aload_n 0, 1) := by decide +kernel
theorem dX12_stand_53 : decode cX12_stand 53 = .ok (.bipush 14, 2) := by decide +kernel
theorem dX12_stand_55 : decode cX12_stand 55 = .ok (.bipush 7, 2) := by decide +kernel
theorem dX12_stand_57 : decode cX12_stand 57 = .ok (.iload_n 1, 1) := by decide +kernel
theorem dX12_stand_58 : decode cX12_stand 58 = .ok (.imul, 1) := by decide +kernel
theorem dX12_stand_59 : decode cX12_stand 59 = .ok (.iadd, 1) := by decide +kernel
theorem dX12_stand_60 : decode cX12_stand 60 = .ok (.iconst 3, 1) := by decide +kernel
theorem dX12_stand_61 : decode cX12_stand 61 = .ok (.iadd, 1) := by decide +kernel
theorem dX12_stand_62 : decode cX12_stand 62 = .ok (.iload_n 2, 1) := by decide +kernel
theorem dX12_stand_63 : decode cX12_stand 63 = .ok (.ifCond .eq 7, 3) := by decide +kernel
theorem dX12_stand_66 : decode cX12_stand 66 = .ok (.iconst 1, 1) := by decide +kernel
theorem dX12_stand_67 : decode cX12_stand 67 = .ok (.goto 4, 3) := by decide +kernel
theorem dX12_stand_70 : decode cX12_stand 70 = .ok (.iconst 0, 1) := by decide +kernel
theorem dX12_stand_71 : decode cX12_stand 71 = .ok (.invokevirtual 373, 3) := by decide +kernel
theorem dX12_stand_74 : decode cX12_stand 74 = .ok (.iload_n 2, 1) := by decide +kernel
theorem dX12_stand_75 : decode cX12_stand 75 = .ok (.ifCond .eq 7, 3) := by decide +kernel
theorem dX12_stand_78 : decode cX12_stand 78 = .ok (.iconst 1, 1) := by decide +kernel
theorem dX12_stand_79 : decode cX12_stand 79 = .ok (.goto 4, 3) := by decide +kernel
theorem dX12_stand_82 : decode cX12_stand 82 = .ok (.iconst 0, 1) := by decide +kernel
theorem dX12_stand_83 : decode cX12_stand 83 = .ok (.if_icmp .eq 7, 3) := by decide +kernel
theorem dX12_stand_86 : decode cX12_stand 86 = .ok (.iconst 1, 1) := by decide +kernel
theorem dX12_stand_87 : decode cX12_stand 87 = .ok (.goto 4, 3) := by decide +kernel
theorem dX12_stand_90 : decode cX12_stand 90 = .ok (.iconst 0, 1) := by decide +kernel
theorem dX12_stand_91 : decode cX12_stand 91 = .ok (.ireturn, 1) := by decide +kernel
def q12_stand (σ : St) (p_a : Int32) (is_a : Bool) : Option (Bool × St) :=
  Option.bind (Option.bind (q12_isOne σ p_a) fun x6_ =>
  if ¬ (x6_ = true) then (some (1 : Int32)) else (some (0 : Int32))) fun x1_ =>
  lt (up σ 0 0 x1_) fun σ10_ =>
  if 0 < (σ10_ 0 0) then (some (false, σ10_)) else
  Option.bind (Option.bind (q12_of σ10_ p_a 4) fun x21_ =>
  if x21_ = 1 then (some (2 : Int32)) else (some (0 : Int32))) fun x16_ =>
  lt (up σ10_ 0 0 x16_) fun σ25_ =>
  Option.bind (Option.bind (if (σ25_ 0 0) = 0 then (Option.bind (q12_sets σ25_ ((14 + (7 * p_a)) + 3) (if is_a = true then 1 else 0)) fun x40_ =>
  if ¬ x40_.1 = (if is_a = true then 1 else 0) then (some (true, x40_.2)) else (some (false, x40_.2))) else (some (false, σ25_))) fun t32_ =>
  if t32_.1 = true then (some (true, t32_.2)) else (some (false, t32_.2))) fun x27_ =>
  some (x27_.1, x27_.2)
abbrev rm12_stand : Room := { frames := 2, cells := 0, slots := 0, locals := 44 }
set_option maxHeartbeats 4000000 in
set_option maxRecDepth 100000 in
theorem p12_stand {Θ : Tz} {σ : St} {ρ : Option Value × St} (C : Zc Θ cX12_stand 3 RX12 (some .boolean) rm12_stand) (hkd : Θ.2.2.2.2.1 = kdM) {p_a : Int32} {is_a : Bool} {r : (Bool × St)} (hf : q12_stand σ p_a is_a = some r) (hρ : ρ = (some (.int (b2i r.1)), r.2)) : Z Θ 3 0 0 (zQ Θ ρ) σ 0 [(0, .ref (zA Θ 0)), (1, .int p_a), (2, .int (b2i is_a))] [] := by
  unfold q12_stand at hf
  refine z_aload_n C 0 dX12_stand_0 rfl rfl ?_
  obtain ⟨x1_, h2_, hf⟩ := ob hf
  suffices K3_ : Z Θ 3 0 0 (zQ Θ ρ) σ 14 [(0, .ref (zA Θ 0)), (1, .int p_a), (2, .int (b2i is_a))] [.int x1_, .ref (zA Θ 0)] by
    refine z_aload_n C 0 dX12_stand_1 rfl rfl ?_
    refine z_iload_n C 1 dX12_stand_2 rfl rfl ?_
    obtain ⟨x6_, h7_, h2_⟩ := ob h2_
    refine cr12_347 (p_a := p_a) C hkd  h7_ ⟨(Nat.le_of_ble_eq_true rfl), (Nat.le_of_ble_eq_true rfl)⟩ (Nat.le_of_ble_eq_true rfl) ⟨Nat.zero_le _, Nat.zero_le _⟩ dX12_stand_3 ?_
    have K4_ : ¬ (x6_ = true) → Z Θ 3 0 0 (zQ Θ ρ) σ 9 [(0, .ref (zA Θ 0)), (1, .int p_a), (2, .int (b2i is_a))] [.ref (zA Θ 0)] := by
      intro h9_
      rw [if_pos h9_] at h2_
      refine z_iconst (v := 1) C dX12_stand_9 ic_1 ?_
      refine z_goto C 14 dX12_stand_10 (by decide) ?_
      cases h2_
      exact K3_
    have K5_ : ¬ (¬ (x6_ = true)) → Z Θ 3 0 0 (zQ Θ ρ) σ 13 [(0, .ref (zA Θ 0)), (1, .int p_a), (2, .int (b2i is_a))] [.ref (zA Θ 0)] := by
      intro h9_
      rw [if_neg h9_] at h2_
      refine z_iconst (v := 0) C dX12_stand_13 ic_0 ?_
      cases h2_
      exact K3_
    refine cb_t C 13 dX12_stand_6 (by decide) (fun h8_ => ?_) (fun h8_ => ?_)
    · exact K5_ (fun n => n h8_)
    · exact K4_ h8_
  obtain ⟨σ10_, h11_, hf⟩ := lt_ hf
  refine fp12_65 C hkd h11_ dX12_stand_14 ?_
  have K12_ : 0 < (σ10_ 0 0) → Z Θ 3 0 0 (zQ Θ ρ) σ10_ 24 [(0, .ref (zA Θ 0)), (1, .int p_a), (2, .int (b2i is_a))] [] := by
    intro h15_
    rw [if_pos h15_] at hf
    refine z_iconst (v := 0) C dX12_stand_24 ic_0 ?_
    cases hf
    subst hρ
    exact z_zret C (b2i_narrow _) dX12_stand_25
  suffices K13_ : ¬ (0 < (σ10_ 0 0)) → Z Θ 3 0 0 (zQ Θ ρ) σ10_ 26 [(0, .ref (zA Θ 0)), (1, .int p_a), (2, .int (b2i is_a))] [] by
    refine z_aload_n C 0 dX12_stand_17 rfl rfl ?_
    refine fg12_65 C hkd dX12_stand_18 ?_
    refine c0_gt_f C 26 dX12_stand_21 (by decide) (fun h14_ => ?_) (fun h14_ => ?_)
    · exact K12_ h14_
    · exact K13_ h14_
  intro h15_
  rw [if_neg h15_] at hf
  refine z_aload_n C 0 dX12_stand_26 rfl rfl ?_
  obtain ⟨x16_, h17_, hf⟩ := ob hf
  suffices K18_ : Z Θ 3 0 0 (zQ Θ ρ) σ10_ 42 [(0, .ref (zA Θ 0)), (1, .int p_a), (2, .int (b2i is_a))] [.int x16_, .ref (zA Θ 0)] by
    refine z_aload_n C 0 dX12_stand_27 rfl rfl ?_
    refine z_iload_n C 1 dX12_stand_28 rfl rfl ?_
    refine z_iconst (v := 4) C dX12_stand_29 ic_4 ?_
    obtain ⟨x21_, h22_, h17_⟩ := ob h17_
    refine cr12_72 (p_a := p_a) (what_a := 4) C hkd  h22_ ⟨(Nat.le_of_ble_eq_true rfl), (Nat.le_of_ble_eq_true rfl)⟩ (Nat.le_of_ble_eq_true rfl) ⟨Nat.zero_le _, Nat.zero_le _⟩ dX12_stand_30 ?_
    refine z_iconst (v := 1) C dX12_stand_33 ic_1 ?_
    have K19_ : x21_ = 1 → Z Θ 3 0 0 (zQ Θ ρ) σ10_ 37 [(0, .ref (zA Θ 0)), (1, .int p_a), (2, .int (b2i is_a))] [.ref (zA Θ 0)] := by
      intro h24_
      rw [if_pos h24_] at h17_
      refine z_iconst (v := 2) C dX12_stand_37 ic_2 ?_
      refine z_goto C 42 dX12_stand_38 (by decide) ?_
      cases h17_
      exact K18_
    have K20_ : ¬ (x21_ = 1) → Z Θ 3 0 0 (zQ Θ ρ) σ10_ 41 [(0, .ref (zA Θ 0)), (1, .int p_a), (2, .int (b2i is_a))] [.ref (zA Θ 0)] := by
      intro h24_
      rw [if_neg h24_] at h17_
      refine z_iconst (v := 0) C dX12_stand_41 ic_0 ?_
      cases h17_
      exact K18_
    refine c_eq_f C 41 dX12_stand_34 (by decide) (fun h23_ => ?_) (fun h23_ => ?_)
    · exact K19_ h23_
    · exact K20_ h23_
  obtain ⟨σ25_, h26_, hf⟩ := lt_ hf
  refine fp12_65 C hkd h26_ dX12_stand_42 ?_
  obtain ⟨x27_, h28_, hf⟩ := ob hf
  suffices K29_ : Z Θ 3 0 0 (zQ Θ ρ) x27_.2 91 [(0, .ref (zA Θ 0)), (1, .int p_a), (2, .int (b2i is_a))] [.int (b2i x27_.1)] by
    obtain ⟨t32_, h33_, h28_⟩ := ob h28_
    have K30_ : t32_.1 = true → Z Θ 3 0 0 (zQ Θ ρ) t32_.2 86 [(0, .ref (zA Θ 0)), (1, .int p_a), (2, .int (b2i is_a))] [] := by
      intro h48_
      rw [if_pos h48_] at h28_
      refine z_iconst (v := 1) C dX12_stand_86 ic_1 ?_
      refine z_goto C 91 dX12_stand_87 (by decide) ?_
      cases h28_
      exact K29_
    have K31_ : ¬ (t32_.1 = true) → Z Θ 3 0 0 (zQ Θ ρ) t32_.2 90 [(0, .ref (zA Θ 0)), (1, .int p_a), (2, .int (b2i is_a))] [] := by
      intro h48_
      rw [if_neg h48_] at h28_
      refine z_iconst (v := 0) C dX12_stand_90 ic_0 ?_
      cases h28_
      exact K29_
    refine z_aload_n C 0 dX12_stand_45 rfl rfl ?_
    refine fg12_65 C hkd dX12_stand_46 ?_
    refine c0_eq_f C 90 dX12_stand_49 (by decide) (fun h34_ => ?_) (fun h34_ => ?_)
    · rw [if_pos h34_] at h33_
      refine z_aload_n C 0 dX12_stand_52 rfl rfl ?_
      refine z_bipush (v := 14) C dX12_stand_53 bp_14 ?_
      refine z_bipush (v := 7) C dX12_stand_55 bp_7 ?_
      refine z_iload_n C 1 dX12_stand_57 rfl rfl ?_
      refine z_imul C dX12_stand_58 ?_
      refine z_iadd C dX12_stand_59 ?_
      refine z_iconst (v := 3) C dX12_stand_60 ic_3 ?_
      refine z_iadd C dX12_stand_61 ?_
      suffices K35_ : Z Θ 3 0 0 (zQ Θ ρ) σ25_ 71 [(0, .ref (zA Θ 0)), (1, .int p_a), (2, .int (b2i is_a))] [.int (if is_a = true then 1 else 0), .int ((14 + (7 * p_a)) + 3), .ref (zA Θ 0)] by
        have K36_ : is_a = true → Z Θ 3 0 0 (zQ Θ ρ) σ25_ 66 [(0, .ref (zA Θ 0)), (1, .int p_a), (2, .int (b2i is_a))] [.int ((14 + (7 * p_a)) + 3), .ref (zA Θ 0)] := by
          intro h39_
          rw [if_pos h39_] at K35_
          refine z_iconst (v := 1) C dX12_stand_66 ic_1 ?_
          refine z_goto C 71 dX12_stand_67 (by decide) ?_
          exact K35_
        have K37_ : ¬ (is_a = true) → Z Θ 3 0 0 (zQ Θ ρ) σ25_ 70 [(0, .ref (zA Θ 0)), (1, .int p_a), (2, .int (b2i is_a))] [.int ((14 + (7 * p_a)) + 3), .ref (zA Θ 0)] := by
          intro h39_
          rw [if_neg h39_] at K35_
          refine z_iconst (v := 0) C dX12_stand_70 ic_0 ?_
          exact K35_
        refine z_iload_n C 2 dX12_stand_62 rfl rfl ?_
        refine cb_f C 70 dX12_stand_63 (by decide) (fun h38_ => ?_) (fun h38_ => ?_)
        · exact K36_ h38_
        · exact K37_ h38_
      obtain ⟨x40_, h41_, h33_⟩ := ob h33_
      refine cr12_373 (where_a := ((14 + (7 * p_a)) + 3)) (v_a := (if is_a = true then 1 else 0)) C hkd  h41_ ⟨(Nat.le_of_ble_eq_true rfl), (Nat.le_of_ble_eq_true rfl)⟩ (Nat.le_of_ble_eq_true rfl) ⟨Nat.zero_le _, Nat.zero_le _⟩ dX12_stand_71 ?_
      suffices K42_ : Z Θ 3 0 0 (zQ Θ ρ) x40_.2 83 [(0, .ref (zA Θ 0)), (1, .int p_a), (2, .int (b2i is_a))] [.int (if is_a = true then 1 else 0), .int x40_.1] by
        have K43_ : is_a = true → Z Θ 3 0 0 (zQ Θ ρ) x40_.2 78 [(0, .ref (zA Θ 0)), (1, .int p_a), (2, .int (b2i is_a))] [.int x40_.1] := by
          intro h46_
          rw [if_pos h46_] at K42_
          refine z_iconst (v := 1) C dX12_stand_78 ic_1 ?_
          refine z_goto C 83 dX12_stand_79 (by decide) ?_
          exact K42_
        have K44_ : ¬ (is_a = true) → Z Θ 3 0 0 (zQ Θ ρ) x40_.2 82 [(0, .ref (zA Θ 0)), (1, .int p_a), (2, .int (b2i is_a))] [.int x40_.1] := by
          intro h46_
          rw [if_neg h46_] at K42_
          refine z_iconst (v := 0) C dX12_stand_82 ic_0 ?_
          exact K42_
        refine z_iload_n C 2 dX12_stand_74 rfl rfl ?_
        refine cb_f C 82 dX12_stand_75 (by decide) (fun h45_ => ?_) (fun h45_ => ?_)
        · exact K43_ h45_
        · exact K44_ h45_
      refine c_ne_f C 90 dX12_stand_83 (by decide) (fun h47_ => ?_) (fun h47_ => ?_)
      · rw [if_pos h47_] at h33_
        cases h33_
        exact K30_ rfl
      · rw [if_neg h47_] at h33_
        cases h33_
        exact K31_ Bool.false_ne_true
    · rw [if_neg h34_] at h33_
      cases h33_
      exact K31_ Bool.false_ne_true
  cases hf
  subst hρ
  exact z_zret C (b2i_narrow _) dX12_stand_91
theorem c12_stand {l : Launch} {kd : List KD} {w : Wp} {σ : St} {p_a : Int32} {is_a : Bool} (hkd : kd = kdM) (hi : zI kd w) {r : (Bool × St)} (hf : q12_stand σ p_a is_a = some r) : zM l kd w yX12_stand cX12_stand 3 (some .boolean) rm12_stand [.ref (w.2.2.1 0), .int p_a, .int (b2i is_a)] σ (some (.int (b2i r.1)), r.2) := zM_of rfl hi (Nat.le_of_ble_eq_true rfl) (fun Θ hl hw C => by
  obtain ⟨Θ1, Θ2, Θ3, Θ4, Θ5⟩ := Θ
  cases hw
  exact p12_stand C hkd  hf rfl)
/-! LastLoafModel.like -/
theorem dX12_like_0 : decode cX12_like 0 = .ok (.aload_n 0, 1) := by decide +kernel
theorem dX12_like_1 : decode cX12_like 1 = .ok (.aload_n 0, 1) := by decide +kernel
theorem dX12_like_2 : decode cX12_like 2 = .ok (.iload_n 1, 1) := by decide +kernel
theorem dX12_like_3 : decode cX12_like 3 = .ok (.invokevirtual 347, 3) := by decide +kernel
theorem dX12_like_6 : decode cX12_like 6 = .ok (.ifCond .eq 11, 3) := by decide +kernel
theorem dX12_like_9 : decode cX12_like 9 = .ok (.aload_n 0, 1) := by decide +kernel
theorem dX12_like_10 : decode cX12_like 10 = .ok (.iload_n 2, 1) := by decide +kernel
theorem dX12_like_11 : decode cX12_like 11 = .ok (.invokevirtual 347, 3) := by decide +kernel
theorem dX12_like_14 : decode cX12_like 14 = .ok (.ifCond .ne 7, 3) := by decide +kernel
theorem dX12_like_17 : decode cX12_like 17 = .ok (.iconst 1, 1) := by decide +kernel
theorem dX12_like_18 : decode cX12_like 18 = .ok (.goto 23, 3) := by decide +kernel
theorem dX12_like_21 : decode cX12_like 21 = .ok (.iload_n 1, 1) := by decide +kernel
theorem dX12_like_22 : decode cX12_like 22 = .ok (.iload_n 2, 1) := by decide +kernel
theorem dX12_like_23 : decode cX12_like 23 = .ok (.if_icmp .eq 13, 3) := by decide +kernel
theorem dX12_like_26 : decode cX12_like 26 = .ok (.iload_n 3, 1) := by decide +kernel
theorem dX12_like_27 : decode cX12_like 27 = .ok (.iconst 0, 1) := by decide +kernel
theorem dX12_like_28 : decode cX12_like 28 = .ok (.bipush 9, 2) := by decide +kernel
theorem dX12_like_30 : decode cX12_like 30 = .ok (.invokestatic 68, 3) := by decide +kernel
theorem dX12_like_33 : decode cX12_like 33 = .ok (.ifCond .ne 7, 3) := by decide +kernel
theorem dX12_like_36 : decode cX12_like 36 = .ok (.iconst 2, 1) := by decide +kernel
theorem dX12_like_37 : decode cX12_like 37 = .ok (.goto 4, 3) := by decide +kernel
theorem dX12_like_40 : decode cX12_like 40 = .ok (.iconst 0, 1) := by decide +kernel
theorem dX12_like_41 : decode cX12_like 41 = .ok (.putfield 65, 3) := by decide +kernel
theorem dX12_like_44 : decode cX12_like 44 = .ok (.aload_n 0, 1) := by decide +kernel
theorem dX12_like_45 : decode cX12_like 45 = .ok (.getfield 65, 3) := by decide +kernel
theorem dX12_like_48 : decode cX12_like 48 = .ok (.ifCond .le 7, 3) := by decide +kernel
theorem dX12_like_51 : decode cX12_like 51 = .ok (.iconst 0, 1) := by decide +kernel
theorem dX12_like_52 : decode cX12_like 52 = .ok (.goto 17, 3) := by decide +kernel
theorem dX12_like_55 : decode cX12_like 55 = .ok (.aload_n 0, 1) := by decide +kernel
theorem dX12_like_56 : decode cX12_like 56 = .ok (.bipush 63, 2) := by decide +kernel
theorem dX12_like_58 : decode cX12_like 58 = .ok (.bipush 7, 2) := by decide +kernel
theorem dX12_like_60 : decode cX12_like 60 = .ok (.iload_n 1, 1) := by decide +kernel
theorem dX12_like_61 : decode cX12_like 61 = .ok (.imul, 1) := by decide +kernel
theorem dX12_like_62 : decode cX12_like 62 = .ok (.iadd, 1) := by decide +kernel
theorem dX12_like_63 : decode cX12_like 63 = .ok (.iload_n 2, 1) := by decide +kernel
theorem dX12_like_64 : decode cX12_like 64 = .ok (.iadd, 1) := by decide +kernel
theorem dX12_like_65 : decode cX12_like 65 = .ok (.iload_n 3, 1) := by decide +kernel
theorem dX12_like_66 : decode cX12_like 66 = .ok (.invokevirtual 373, 3) := by decide +kernel
theorem dX12_like_69 : decode cX12_like 69 = .ok (.ireturn, 1) := by decide +kernel
def q12_like (σ : St) (p_a : Int32) (o_a : Int32) (n_a : Int32) : Option (Int32 × St) :=
  Option.bind (Option.bind (Option.bind (q12_isOne σ p_a) fun x8_ =>
  if x8_ = true then (Option.bind (q12_isOne σ o_a) fun x11_ =>
  if x11_ = true then (some false) else (some true)) else (some true)) fun t6_ =>
  if t6_ = true then (some (1 : Int32)) else (some (if (p_a = o_a) ∨ (¬ (q12_isIn n_a 0 9 = true)) then 2 else 0))) fun x1_ =>
  lt (up σ 0 0 x1_) fun σ21_ =>
  Option.bind (if 0 < (σ21_ 0 0) then (some ((0 : Int32), σ21_)) else (Option.bind (q12_sets σ21_ ((63 + (7 * p_a)) + o_a) n_a) fun x29_ =>
  some (x29_.1, x29_.2))) fun x23_ =>
  some (x23_.1, x23_.2)
abbrev rm12_like : Room := { frames := 2, cells := 0, slots := 0, locals := 44 }
set_option maxHeartbeats 4000000 in
set_option maxRecDepth 100000 in
theorem p12_like {Θ : Tz} {σ : St} {ρ : Option Value × St} (C : Zc Θ cX12_like 4 RX12 (some .int) rm12_like) (hkd : Θ.2.2.2.2.1 = kdM) {p_a : Int32} {o_a : Int32} {n_a : Int32} {r : (Int32 × St)} (hf : q12_like σ p_a o_a n_a = some r) (hρ : ρ = (some (.int r.1), r.2)) : Z Θ 4 0 0 (zQ Θ ρ) σ 0 [(0, .ref (zA Θ 0)), (1, .int p_a), (2, .int o_a), (3, .int n_a)] [] := by
  unfold q12_like at hf
  refine z_aload_n C 0 dX12_like_0 rfl rfl ?_
  obtain ⟨x1_, h2_, hf⟩ := ob hf
  suffices K3_ : Z Θ 4 0 0 (zQ Θ ρ) σ 41 [(0, .ref (zA Θ 0)), (1, .int p_a), (2, .int o_a), (3, .int n_a)] [.int x1_, .ref (zA Θ 0)] by
    obtain ⟨t6_, h7_, h2_⟩ := ob h2_
    have K4_ : t6_ = true → Z Θ 4 0 0 (zQ Θ ρ) σ 17 [(0, .ref (zA Θ 0)), (1, .int p_a), (2, .int o_a), (3, .int n_a)] [.ref (zA Θ 0)] := by
      intro h20_
      rw [if_pos h20_] at h2_
      refine z_iconst (v := 1) C dX12_like_17 ic_1 ?_
      refine z_goto C 41 dX12_like_18 (by decide) ?_
      cases h2_
      exact K3_
    have K5_ : ¬ (t6_ = true) → Z Θ 4 0 0 (zQ Θ ρ) σ 21 [(0, .ref (zA Θ 0)), (1, .int p_a), (2, .int o_a), (3, .int n_a)] [.ref (zA Θ 0)] := by
      intro h20_
      rw [if_neg h20_] at h2_
      suffices K14_ : Z Θ 4 0 0 (zQ Θ ρ) σ 41 [(0, .ref (zA Θ 0)), (1, .int p_a), (2, .int o_a), (3, .int n_a)] [.int (if (p_a = o_a) ∨ (¬ (q12_isIn n_a 0 9 = true)) then 2 else 0), .ref (zA Θ 0)] by
        have K15_ : (p_a = o_a) ∨ (¬ (q12_isIn n_a 0 9 = true)) → Z Θ 4 0 0 (zQ Θ ρ) σ 36 [(0, .ref (zA Θ 0)), (1, .int p_a), (2, .int o_a), (3, .int n_a)] [.ref (zA Θ 0)] := by
          intro h19_
          rw [if_pos h19_] at K14_
          refine z_iconst (v := 2) C dX12_like_36 ic_2 ?_
          refine z_goto C 41 dX12_like_37 (by decide) ?_
          exact K14_
        have K16_ : ¬ ((p_a = o_a) ∨ (¬ (q12_isIn n_a 0 9 = true))) → Z Θ 4 0 0 (zQ Θ ρ) σ 40 [(0, .ref (zA Θ 0)), (1, .int p_a), (2, .int o_a), (3, .int n_a)] [.ref (zA Θ 0)] := by
          intro h19_
          rw [if_neg h19_] at K14_
          refine z_iconst (v := 0) C dX12_like_40 ic_0 ?_
          exact K14_
        refine z_iload_n C 1 dX12_like_21 rfl rfl ?_
        refine z_iload_n C 2 dX12_like_22 rfl rfl ?_
        refine c_eq_t C 36 dX12_like_23 (by decide) (fun h17_ => ?_) (fun h17_ => ?_)
        · exact K15_ (Or.inl h17_)
        · refine z_iload_n C 3 dX12_like_26 rfl rfl ?_
          refine z_iconst (v := 0) C dX12_like_27 ic_0 ?_
          refine z_bipush (v := 9) C dX12_like_28 bp_9 ?_
          refine cr12_68 (v_a := n_a) (low_a := 0) (high_a := 9) C hkd  ⟨(Nat.le_of_ble_eq_true rfl), (Nat.le_of_ble_eq_true rfl)⟩ (Nat.le_of_ble_eq_true rfl) ⟨Nat.zero_le _, Nat.zero_le _⟩ dX12_like_30 ?_
          refine cb_t C 40 dX12_like_33 (by decide) (fun h18_ => ?_) (fun h18_ => ?_)
          · exact K16_ (fun n => n.elim h17_ (fun n => n h18_))
          · exact K15_ (Or.inr h18_)
      cases h2_
      exact K3_
    refine z_aload_n C 0 dX12_like_1 rfl rfl ?_
    refine z_iload_n C 1 dX12_like_2 rfl rfl ?_
    obtain ⟨x8_, h9_, h7_⟩ := ob h7_
    refine cr12_347 (p_a := p_a) C hkd  h9_ ⟨(Nat.le_of_ble_eq_true rfl), (Nat.le_of_ble_eq_true rfl)⟩ (Nat.le_of_ble_eq_true rfl) ⟨Nat.zero_le _, Nat.zero_le _⟩ dX12_like_3 ?_
    refine cb_f C 17 dX12_like_6 (by decide) (fun h10_ => ?_) (fun h10_ => ?_)
    · rw [if_pos h10_] at h7_
      refine z_aload_n C 0 dX12_like_9 rfl rfl ?_
      refine z_iload_n C 2 dX12_like_10 rfl rfl ?_
      obtain ⟨x11_, h12_, h7_⟩ := ob h7_
      refine cr12_347 (p_a := o_a) C hkd  h12_ ⟨(Nat.le_of_ble_eq_true rfl), (Nat.le_of_ble_eq_true rfl)⟩ (Nat.le_of_ble_eq_true rfl) ⟨Nat.zero_le _, Nat.zero_le _⟩ dX12_like_11 ?_
      refine cb_t C 21 dX12_like_14 (by decide) (fun h13_ => ?_) (fun h13_ => ?_)
      · rw [if_pos h13_] at h7_
        cases h7_
        exact K5_ Bool.false_ne_true
      · rw [if_neg h13_] at h7_
        cases h7_
        exact K4_ rfl
    · rw [if_neg h10_] at h7_
      cases h7_
      exact K4_ rfl
  obtain ⟨σ21_, h22_, hf⟩ := lt_ hf
  refine fp12_65 C hkd h22_ dX12_like_41 ?_
  obtain ⟨x23_, h24_, hf⟩ := ob hf
  suffices K25_ : Z Θ 4 0 0 (zQ Θ ρ) x23_.2 69 [(0, .ref (zA Θ 0)), (1, .int p_a), (2, .int o_a), (3, .int n_a)] [.int x23_.1] by
    have K26_ : 0 < (σ21_ 0 0) → Z Θ 4 0 0 (zQ Θ ρ) σ21_ 51 [(0, .ref (zA Θ 0)), (1, .int p_a), (2, .int o_a), (3, .int n_a)] [] := by
      intro h31_
      rw [if_pos h31_] at h24_
      refine z_iconst (v := 0) C dX12_like_51 ic_0 ?_
      refine z_goto C 69 dX12_like_52 (by decide) ?_
      cases h24_
      exact K25_
    have K27_ : ¬ (0 < (σ21_ 0 0)) → Z Θ 4 0 0 (zQ Θ ρ) σ21_ 55 [(0, .ref (zA Θ 0)), (1, .int p_a), (2, .int o_a), (3, .int n_a)] [] := by
      intro h31_
      rw [if_neg h31_] at h24_
      refine z_aload_n C 0 dX12_like_55 rfl rfl ?_
      refine z_bipush (v := 63) C dX12_like_56 bp_63 ?_
      refine z_bipush (v := 7) C dX12_like_58 bp_7 ?_
      refine z_iload_n C 1 dX12_like_60 rfl rfl ?_
      refine z_imul C dX12_like_61 ?_
      refine z_iadd C dX12_like_62 ?_
      refine z_iload_n C 2 dX12_like_63 rfl rfl ?_
      refine z_iadd C dX12_like_64 ?_
      refine z_iload_n C 3 dX12_like_65 rfl rfl ?_
      obtain ⟨x29_, h30_, h24_⟩ := ob h24_
      refine cr12_373 (where_a := ((63 + (7 * p_a)) + o_a)) (v_a := n_a) C hkd  h30_ ⟨(Nat.le_of_ble_eq_true rfl), (Nat.le_of_ble_eq_true rfl)⟩ (Nat.le_of_ble_eq_true rfl) ⟨Nat.zero_le _, Nat.zero_le _⟩ dX12_like_66 ?_
      cases h24_
      exact K25_
    refine z_aload_n C 0 dX12_like_44 rfl rfl ?_
    refine fg12_65 C hkd dX12_like_45 ?_
    refine c0_gt_f C 55 dX12_like_48 (by decide) (fun h28_ => ?_) (fun h28_ => ?_)
    · exact K26_ h28_
    · exact K27_ h28_
  cases hf
  subst hρ
  exact z_iret C dX12_like_69
theorem c12_like {l : Launch} {kd : List KD} {w : Wp} {σ : St} {p_a : Int32} {o_a : Int32} {n_a : Int32} (hkd : kd = kdM) (hi : zI kd w) {r : (Int32 × St)} (hf : q12_like σ p_a o_a n_a = some r) : zM l kd w yX12_like cX12_like 4 (some .int) rm12_like [.ref (w.2.2.1 0), .int p_a, .int o_a, .int n_a] σ (some (.int r.1), r.2) := zM_of rfl hi (Nat.le_of_ble_eq_true rfl) (fun Θ hl hw C => by
  obtain ⟨Θ1, Θ2, Θ3, Θ4, Θ5⟩ := Θ
  cases hw
  exact p12_like C hkd  hf rfl)
/-! LastLoafModel.join -/
theorem dX12_join_0 : decode cX12_join 0 = .ok (.aload_n 0, 1) := by decide +kernel
theorem dX12_join_1 : decode cX12_join 1 = .ok (.aload_n 0, 1) := by decide +kernel
theorem dX12_join_2 : decode cX12_join 2 = .ok (.iload_n 1, 1) := by decide +kernel
theorem dX12_join_3 : decode cX12_join 3 = .ok (.invokevirtual 347, 3) := by decide +kernel
theorem dX12_join_6 : decode cX12_join 6 = .ok (.ifCond .eq 12, 3) := by decide +kernel
theorem dX12_join_9 : decode cX12_join 9 = .ok (.iload_n 2, 1) := by decide +kernel
theorem dX12_join_10 : decode cX12_join 10 = .ok (.iconst 0, 1) := by decide +kernel
theorem dX12_join_11 : decode cX12_join 11 = .ok (.iconst 2, 1) := by decide +kernel
theorem dX12_join_12 : decode cX12_join 12 = .ok (.invokestatic 68, 3) := by decide +kernel
theorem dX12_join_15 : decode cX12_join 15 = .ok (.ifCond .ne 7, 3) := by decide +kernel
theorem dX12_join_18 : decode cX12_join 18 = .ok (.iconst 1, 1) := by decide +kernel
theorem dX12_join_19 : decode cX12_join 19 = .ok (.goto 4, 3) := by decide +kernel
theorem dX12_join_22 : decode cX12_join 22 = .ok (.iconst 0, 1) := by decide +kernel
theorem dX12_join_23 : decode cX12_join 23 = .ok (.putfield 65, 3) := by decide +kernel
theorem dX12_join_26 : decode cX12_join 26 = .ok (.aload_n 0, 1) := by decide +kernel
theorem dX12_join_27 : decode cX12_join 27 = .ok (.getfield 65, 3) := by decide +kernel
theorem dX12_join_30 : decode cX12_join 30 = .ok (.ifCond .le 7, 3) := by decide +kernel
theorem dX12_join_33 : decode cX12_join 33 = .ok (.iconst 0, 1) := by decide +kernel
theorem dX12_join_34 : decode cX12_join 34 = .ok (.goto 17, 3) := by decide +kernel
theorem dX12_join_37 : decode cX12_join 37 = .ok (.aload_n 0, 1) := by decide +kernel
theorem dX12_join_38 : decode cX12_join 38 = .ok (.bipush 14, 2) := by decide +kernel
theorem dX12_join_40 : decode cX12_join 40 = .ok (.bipush 7, 2) := by decide +kernel
theorem dX12_join_42 : decode cX12_join 42 = .ok (.iload_n 1, 1) := by decide +kernel
theorem dX12_join_43 : decode cX12_join 43 = .ok (.imul, 1) := by decide +kernel
theorem dX12_join_44 : decode cX12_join 44 = .ok (.iadd, 1) := by decide +kernel
theorem dX12_join_45 : decode cX12_join 45 = .ok (.iconst 1, 1) := by decide +kernel
theorem dX12_join_46 : decode cX12_join 46 = .ok (.iadd, 1) := by decide +kernel
theorem dX12_join_47 : decode cX12_join 47 = .ok (.iload_n 2, 1) := by decide +kernel
theorem dX12_join_48 : decode cX12_join 48 = .ok (.invokevirtual 373, 3) := by decide +kernel
theorem dX12_join_51 : decode cX12_join 51 = .ok (.ireturn, 1) := by decide +kernel
def q12_join (σ : St) (p_a : Int32) (party_a : Int32) : Option (Int32 × St) :=
  Option.bind (Option.bind (q12_isOne σ p_a) fun x6_ =>
  if (¬ (x6_ = true)) ∨ (¬ (q12_isIn party_a 0 2 = true)) then (some (1 : Int32)) else (some (0 : Int32))) fun x1_ =>
  lt (up σ 0 0 x1_) fun σ11_ =>
  Option.bind (if 0 < (σ11_ 0 0) then (some ((0 : Int32), σ11_)) else (Option.bind (q12_sets σ11_ ((14 + (7 * p_a)) + 1) party_a) fun x19_ =>
  some (x19_.1, x19_.2))) fun x13_ =>
  some (x13_.1, x13_.2)
abbrev rm12_join : Room := { frames := 2, cells := 0, slots := 0, locals := 44 }
set_option maxHeartbeats 4000000 in
set_option maxRecDepth 100000 in
theorem p12_join {Θ : Tz} {σ : St} {ρ : Option Value × St} (C : Zc Θ cX12_join 3 RX12 (some .int) rm12_join) (hkd : Θ.2.2.2.2.1 = kdM) {p_a : Int32} {party_a : Int32} {r : (Int32 × St)} (hf : q12_join σ p_a party_a = some r) (hρ : ρ = (some (.int r.1), r.2)) : Z Θ 3 0 0 (zQ Θ ρ) σ 0 [(0, .ref (zA Θ 0)), (1, .int p_a), (2, .int party_a)] [] := by
  unfold q12_join at hf
  refine z_aload_n C 0 dX12_join_0 rfl rfl ?_
  obtain ⟨x1_, h2_, hf⟩ := ob hf
  suffices K3_ : Z Θ 3 0 0 (zQ Θ ρ) σ 23 [(0, .ref (zA Θ 0)), (1, .int p_a), (2, .int party_a)] [.int x1_, .ref (zA Θ 0)] by
    refine z_aload_n C 0 dX12_join_1 rfl rfl ?_
    refine z_iload_n C 1 dX12_join_2 rfl rfl ?_
    obtain ⟨x6_, h7_, h2_⟩ := ob h2_
    refine cr12_347 (p_a := p_a) C hkd  h7_ ⟨(Nat.le_of_ble_eq_true rfl), (Nat.le_of_ble_eq_true rfl)⟩ (Nat.le_of_ble_eq_true rfl) ⟨Nat.zero_le _, Nat.zero_le _⟩ dX12_join_3 ?_
    have K4_ : (¬ (x6_ = true)) ∨ (¬ (q12_isIn party_a 0 2 = true)) → Z Θ 3 0 0 (zQ Θ ρ) σ 18 [(0, .ref (zA Θ 0)), (1, .int p_a), (2, .int party_a)] [.ref (zA Θ 0)] := by
      intro h10_
      rw [if_pos h10_] at h2_
      refine z_iconst (v := 1) C dX12_join_18 ic_1 ?_
      refine z_goto C 23 dX12_join_19 (by decide) ?_
      cases h2_
      exact K3_
    have K5_ : ¬ ((¬ (x6_ = true)) ∨ (¬ (q12_isIn party_a 0 2 = true))) → Z Θ 3 0 0 (zQ Θ ρ) σ 22 [(0, .ref (zA Θ 0)), (1, .int p_a), (2, .int party_a)] [.ref (zA Θ 0)] := by
      intro h10_
      rw [if_neg h10_] at h2_
      refine z_iconst (v := 0) C dX12_join_22 ic_0 ?_
      cases h2_
      exact K3_
    refine cb_f C 18 dX12_join_6 (by decide) (fun h8_ => ?_) (fun h8_ => ?_)
    · refine z_iload_n C 2 dX12_join_9 rfl rfl ?_
      refine z_iconst (v := 0) C dX12_join_10 ic_0 ?_
      refine z_iconst (v := 2) C dX12_join_11 ic_2 ?_
      refine cr12_68 (v_a := party_a) (low_a := 0) (high_a := 2) C hkd  ⟨(Nat.le_of_ble_eq_true rfl), (Nat.le_of_ble_eq_true rfl)⟩ (Nat.le_of_ble_eq_true rfl) ⟨Nat.zero_le _, Nat.zero_le _⟩ dX12_join_12 ?_
      refine cb_t C 22 dX12_join_15 (by decide) (fun h9_ => ?_) (fun h9_ => ?_)
      · exact K5_ (fun n => n.elim (fun n => n h8_) (fun n => n h9_))
      · exact K4_ (Or.inr h9_)
    · exact K4_ (Or.inl h8_)
  obtain ⟨σ11_, h12_, hf⟩ := lt_ hf
  refine fp12_65 C hkd h12_ dX12_join_23 ?_
  obtain ⟨x13_, h14_, hf⟩ := ob hf
  suffices K15_ : Z Θ 3 0 0 (zQ Θ ρ) x13_.2 51 [(0, .ref (zA Θ 0)), (1, .int p_a), (2, .int party_a)] [.int x13_.1] by
    have K16_ : 0 < (σ11_ 0 0) → Z Θ 3 0 0 (zQ Θ ρ) σ11_ 33 [(0, .ref (zA Θ 0)), (1, .int p_a), (2, .int party_a)] [] := by
      intro h21_
      rw [if_pos h21_] at h14_
      refine z_iconst (v := 0) C dX12_join_33 ic_0 ?_
      refine z_goto C 51 dX12_join_34 (by decide) ?_
      cases h14_
      exact K15_
    have K17_ : ¬ (0 < (σ11_ 0 0)) → Z Θ 3 0 0 (zQ Θ ρ) σ11_ 37 [(0, .ref (zA Θ 0)), (1, .int p_a), (2, .int party_a)] [] := by
      intro h21_
      rw [if_neg h21_] at h14_
      refine z_aload_n C 0 dX12_join_37 rfl rfl ?_
      refine z_bipush (v := 14) C dX12_join_38 bp_14 ?_
      refine z_bipush (v := 7) C dX12_join_40 bp_7 ?_
      refine z_iload_n C 1 dX12_join_42 rfl rfl ?_
      refine z_imul C dX12_join_43 ?_
      refine z_iadd C dX12_join_44 ?_
      refine z_iconst (v := 1) C dX12_join_45 ic_1 ?_
      refine z_iadd C dX12_join_46 ?_
      refine z_iload_n C 2 dX12_join_47 rfl rfl ?_
      obtain ⟨x19_, h20_, h14_⟩ := ob h14_
      refine cr12_373 (where_a := ((14 + (7 * p_a)) + 1)) (v_a := party_a) C hkd  h20_ ⟨(Nat.le_of_ble_eq_true rfl), (Nat.le_of_ble_eq_true rfl)⟩ (Nat.le_of_ble_eq_true rfl) ⟨Nat.zero_le _, Nat.zero_le _⟩ dX12_join_48 ?_
      cases h14_
      exact K15_
    refine z_aload_n C 0 dX12_join_26 rfl rfl ?_
    refine fg12_65 C hkd dX12_join_27 ?_
    refine c0_gt_f C 37 dX12_join_30 (by decide) (fun h18_ => ?_) (fun h18_ => ?_)
    · exact K16_ h18_
    · exact K17_ h18_
  cases hf
  subst hρ
  exact z_iret C dX12_join_51
theorem c12_join {l : Launch} {kd : List KD} {w : Wp} {σ : St} {p_a : Int32} {party_a : Int32} (hkd : kd = kdM) (hi : zI kd w) {r : (Int32 × St)} (hf : q12_join σ p_a party_a = some r) : zM l kd w yX12_join cX12_join 3 (some .int) rm12_join [.ref (w.2.2.1 0), .int p_a, .int party_a] σ (some (.int r.1), r.2) := zM_of rfl hi (Nat.le_of_ble_eq_true rfl) (fun Θ hl hw C => by
  obtain ⟨Θ1, Θ2, Θ3, Θ4, Θ5⟩ := Θ
  cases hw
  exact p12_join C hkd  hf rfl)
/-! LastLoafModel.bring -/
theorem dX12_bring_0 : decode cX12_bring 0 = .ok (.aload_n 0, 1) := by decide +kernel
theorem dX12_bring_1 : decode cX12_bring 1 = .ok (.iload_n 1, 1) := by decide +kernel
theorem dX12_bring_2 : decode cX12_bring 2 = .ok (.iconst 1, 1) := by decide +kernel
theorem dX12_bring_3 : decode cX12_bring 3 = .ok (.sipush 999, 3) := by decide +kernel
theorem dX12_bring_6 : decode cX12_bring 6 = .ok (.invokestatic 68, 3) := by decide +kernel
theorem dX12_bring_9 : decode cX12_bring 9 = .ok (.ifCond .ne 7, 3) := by decide +kernel
theorem dX12_bring_12 : decode cX12_bring 12 = .ok (.iconst 1, 1) := by decide +kernel
theorem dX12_bring_13 : decode cX12_bring 13 = .ok (.goto 4, 3) := by decide +kernel
theorem dX12_bring_16 : decode cX12_bring 16 = .ok (.iconst 0, 1) := by decide +kernel
theorem dX12_bring_17 : decode cX12_bring 17 = .ok (.putfield 65, 3) := by decide +kernel
theorem dX12_bring_20 : decode cX12_bring 20 = .ok (.aload_n 0, 1) := by decide +kernel
theorem dX12_bring_21 : decode cX12_bring 21 = .ok (.getfield 65, 3) := by decide +kernel
theorem dX12_bring_24 : decode cX12_bring 24 = .ok (.ifCond .le 5, 3) := by decide +kernel
theorem dX12_bring_27 : decode cX12_bring 27 = .ok (.iconst 0, 1) := by decide +kernel
theorem dX12_bring_28 : decode cX12_bring 28 = .ok (.ireturn, 1) := by decide +kernel
theorem dX12_bring_29 : decode cX12_bring 29 = .ok (.aload_n 0, 1) := by decide +kernel
theorem dX12_bring_30 : decode cX12_bring 30 = .ok (.iconst 5, 1) := by decide +kernel
theorem dX12_bring_31 : decode cX12_bring 31 = .ok (.sipush 9999, 3) := by decide +kernel
theorem dX12_bring_34 : decode cX12_bring 34 = .ok (.aload_n 0, 1) := by decide +kernel
theorem dX12_bring_35 : decode cX12_bring 35 = .ok (.getfield 7, 3) := by decide +kernel
theorem dX12_bring_38 : decode cX12_bring 38 = .ok (.iconst 5, 1) := by decide +kernel
theorem dX12_bring_39 : decode cX12_bring 39 = .ok (.iaload, 1) := by decide +kernel
theorem dX12_bring_40 : decode cX12_bring 40 = .ok (.iload_n 1, 1) := by decide +kernel
theorem dX12_bring_41 : decode cX12_bring 41 = .ok (.iadd, 1) := by decide +kernel
theorem dX12_bring_42 : decode cX12_bring 42 = .ok (.invokestatic 313, 3) := by decide +kernel
theorem dX12_bring_45 : decode cX12_bring 45 = .ok (.invokevirtual 373, 3) := by decide +kernel
theorem dX12_bring_48 : decode cX12_bring 48 = .ok (.istore_n 2, 1) := by decide +kernel
theorem dX12_bring_49 : decode cX12_bring 49 = .ok (.aload_n 0, 1) := by decide +kernel
theorem dX12_bring_50 : decode cX12_bring 50 = .ok (.getfield 7, 3) := by decide +kernel
theorem dX12_bring_53 : decode cX12_bring 53 = .ok (.iconst 5, 1) := by decide +kernel
theorem dX12_bring_54 : decode cX12_bring 54 = .ok (.iaload, 1) := by decide +kernel
theorem dX12_bring_55 : decode cX12_bring 55 = .ok (.ireturn, 1) := by decide +kernel
def q12_bring (σ : St) (n_a : Int32) : Option (Int32 × St) :=
  lt (up σ 0 0 (if ¬ (q12_isIn n_a 1 999 = true) then 1 else 0)) fun σ6_ =>
  if 0 < (σ6_ 0 0) then (some (0, σ6_)) else
  Option.bind (ag σ6_ 1 752 5) fun x12_ =>
  Option.bind (q12_sets σ6_ 5 (q12_lesser 9999 (x12_ + n_a))) fun x14_ =>
  Option.bind (ag x14_.2 1 752 5) fun x16_ =>
  some (x16_, x14_.2)
abbrev rm12_bring : Room := { frames := 2, cells := 0, slots := 0, locals := 44 }
set_option maxHeartbeats 4000000 in
set_option maxRecDepth 100000 in
theorem p12_bring {Θ : Tz} {σ : St} {ρ : Option Value × St} (C : Zc Θ cX12_bring 3 RX12 (some .int) rm12_bring) (hkd : Θ.2.2.2.2.1 = kdM) {n_a : Int32} {r : (Int32 × St)} (hf : q12_bring σ n_a = some r) (hρ : ρ = (some (.int r.1), r.2)) : Z Θ 3 0 0 (zQ Θ ρ) σ 0 [(0, .ref (zA Θ 0)), (1, .int n_a)] [] := by
  unfold q12_bring at hf
  refine z_aload_n C 0 dX12_bring_0 rfl rfl ?_
  suffices K1_ : Z Θ 3 0 0 (zQ Θ ρ) σ 17 [(0, .ref (zA Θ 0)), (1, .int n_a)] [.int (if ¬ (q12_isIn n_a 1 999 = true) then 1 else 0), .ref (zA Θ 0)] by
    have K2_ : ¬ (q12_isIn n_a 1 999 = true) → Z Θ 3 0 0 (zQ Θ ρ) σ 12 [(0, .ref (zA Θ 0)), (1, .int n_a)] [.ref (zA Θ 0)] := by
      intro h5_
      rw [if_pos h5_] at K1_
      refine z_iconst (v := 1) C dX12_bring_12 ic_1 ?_
      refine z_goto C 17 dX12_bring_13 (by decide) ?_
      exact K1_
    have K3_ : ¬ (¬ (q12_isIn n_a 1 999 = true)) → Z Θ 3 0 0 (zQ Θ ρ) σ 16 [(0, .ref (zA Θ 0)), (1, .int n_a)] [.ref (zA Θ 0)] := by
      intro h5_
      rw [if_neg h5_] at K1_
      refine z_iconst (v := 0) C dX12_bring_16 ic_0 ?_
      exact K1_
    refine z_iload_n C 1 dX12_bring_1 rfl rfl ?_
    refine z_iconst (v := 1) C dX12_bring_2 ic_1 ?_
    refine z_sipush (v := 999) C dX12_bring_3 sp_999 ?_
    refine cr12_68 (v_a := n_a) (low_a := 1) (high_a := 999) C hkd  ⟨(Nat.le_of_ble_eq_true rfl), (Nat.le_of_ble_eq_true rfl)⟩ (Nat.le_of_ble_eq_true rfl) ⟨Nat.zero_le _, Nat.zero_le _⟩ dX12_bring_6 ?_
    refine cb_t C 16 dX12_bring_9 (by decide) (fun h4_ => ?_) (fun h4_ => ?_)
    · exact K3_ (fun n => n h4_)
    · exact K2_ h4_
  obtain ⟨σ6_, h7_, hf⟩ := lt_ hf
  refine fp12_65 C hkd h7_ dX12_bring_17 ?_
  have K8_ : 0 < (σ6_ 0 0) → Z Θ 3 0 0 (zQ Θ ρ) σ6_ 27 [(0, .ref (zA Θ 0)), (1, .int n_a)] [] := by
    intro h11_
    rw [if_pos h11_] at hf
    refine z_iconst (v := 0) C dX12_bring_27 ic_0 ?_
    cases hf
    subst hρ
    exact z_iret C dX12_bring_28
  suffices K9_ : ¬ (0 < (σ6_ 0 0)) → Z Θ 3 0 0 (zQ Θ ρ) σ6_ 29 [(0, .ref (zA Θ 0)), (1, .int n_a)] [] by
    refine z_aload_n C 0 dX12_bring_20 rfl rfl ?_
    refine fg12_65 C hkd dX12_bring_21 ?_
    refine c0_gt_f C 29 dX12_bring_24 (by decide) (fun h10_ => ?_) (fun h10_ => ?_)
    · exact K8_ h10_
    · exact K9_ h10_
  intro h11_
  rw [if_neg h11_] at hf
  refine z_aload_n C 0 dX12_bring_29 rfl rfl ?_
  refine z_iconst (v := 5) C dX12_bring_30 ic_5 ?_
  refine z_sipush (v := 9999) C dX12_bring_31 sp_9999 ?_
  refine z_aload_n C 0 dX12_bring_34 rfl rfl ?_
  refine fg12_7 C hkd dX12_bring_35 ?_
  refine z_iconst (v := 5) C dX12_bring_38 ic_5 ?_
  obtain ⟨x12_, h13_, hf⟩ := ob hf
  refine z_ag C h13_ (kM_1 hkd) dX12_bring_39 ?_
  refine z_iload_n C 1 dX12_bring_40 rfl rfl ?_
  refine z_iadd C dX12_bring_41 ?_
  refine cr12_313 (a_a := 9999) (b_a := (x12_ + n_a)) C hkd  ⟨(Nat.le_of_ble_eq_true rfl), (Nat.le_of_ble_eq_true rfl)⟩ (Nat.le_of_ble_eq_true rfl) ⟨Nat.zero_le _, Nat.zero_le _⟩ dX12_bring_42 ?_
  obtain ⟨x14_, h15_, hf⟩ := ob hf
  refine cr12_373 (where_a := 5) (v_a := (q12_lesser 9999 (x12_ + n_a))) C hkd  h15_ ⟨(Nat.le_of_ble_eq_true rfl), (Nat.le_of_ble_eq_true rfl)⟩ (Nat.le_of_ble_eq_true rfl) ⟨Nat.zero_le _, Nat.zero_le _⟩ dX12_bring_45 ?_
  refine z_istN C dX12_bring_48 rfl rfl (Nat.le_of_ble_eq_true rfl) rfl ?_
  refine z_aload_n C 1 dX12_bring_49 rfl rfl ?_
  refine fg12_7 C hkd dX12_bring_50 ?_
  refine z_iconst (v := 5) C dX12_bring_53 ic_5 ?_
  obtain ⟨x16_, h17_, hf⟩ := ob hf
  refine z_ag C h17_ (kM_1 hkd) dX12_bring_54 ?_
  cases hf
  subst hρ
  exact z_iret C dX12_bring_55
theorem c12_bring {l : Launch} {kd : List KD} {w : Wp} {σ : St} {n_a : Int32} (hkd : kd = kdM) (hi : zI kd w) {r : (Int32 × St)} (hf : q12_bring σ n_a = some r) : zM l kd w yX12_bring cX12_bring 3 (some .int) rm12_bring [.ref (w.2.2.1 0), .int n_a] σ (some (.int r.1), r.2) := zM_of rfl hi (Nat.le_of_ble_eq_true rfl) (fun Θ hl hw C => by
  obtain ⟨Θ1, Θ2, Θ3, Θ4, Θ5⟩ := Θ
  cases hw
  exact p12_bring C hkd  hf rfl)
/-! LastLoafModel.way -/
theorem dX12_way_0 : decode cX12_way 0 = .ok (.aload_n 0, 1) := by decide +kernel
theorem dX12_way_1 : decode cX12_way 1 = .ok (.iload_n 1, 1) := by decide +kernel
theorem dX12_way_2 : decode cX12_way 2 = .ok (.iconst 0, 1) := by decide +kernel
theorem dX12_way_3 : decode cX12_way 3 = .ok (.iconst 5, 1) := by decide +kernel
theorem dX12_way_4 : decode cX12_way 4 = .ok (.invokestatic 68, 3) := by decide +kernel
theorem dX12_way_7 : decode cX12_way 7 = .ok (.ifCond .ne 7, 3) := by decide +kernel
theorem dX12_way_10 : decode cX12_way 10 = .ok (.iconst 1, 1) := by decide +kernel
theorem dX12_way_11 : decode cX12_way 11 = .ok (.goto 4, 3) := by decide +kernel
theorem dX12_way_14 : decode cX12_way 14 = .ok (.iconst 0, 1) := by decide +kernel
theorem dX12_way_15 : decode cX12_way 15 = .ok (.putfield 65, 3) := by decide +kernel
theorem dX12_way_18 : decode cX12_way 18 = .ok (.aload_n 0, 1) := by decide +kernel
theorem dX12_way_19 : decode cX12_way 19 = .ok (.getfield 65, 3) := by decide +kernel
theorem dX12_way_22 : decode cX12_way 22 = .ok (.ifCond .le 7, 3) := by decide +kernel
theorem dX12_way_25 : decode cX12_way 25 = .ok (.iconst 0, 1) := by decide +kernel
theorem dX12_way_26 : decode cX12_way 26 = .ok (.goto 10, 3) := by decide +kernel
theorem dX12_way_29 : decode cX12_way 29 = .ok (.aload_n 0, 1) := by decide +kernel
theorem dX12_way_30 : decode cX12_way 30 = .ok (.bipush 6, 2) := by decide +kernel
theorem dX12_way_32 : decode cX12_way 32 = .ok (.iload_n 1, 1) := by decide +kernel
theorem dX12_way_33 : decode cX12_way 33 = .ok (.invokevirtual 373, 3) := by decide +kernel
theorem dX12_way_36 : decode cX12_way 36 = .ok (.ireturn, 1) := by decide +kernel
def q12_way (σ : St) (n_a : Int32) : Option (Int32 × St) :=
  lt (up σ 0 0 (if ¬ (q12_isIn n_a 0 5 = true) then 1 else 0)) fun σ6_ =>
  Option.bind (if 0 < (σ6_ 0 0) then (some ((0 : Int32), σ6_)) else (Option.bind (q12_sets σ6_ 6 n_a) fun x14_ =>
  some (x14_.1, x14_.2))) fun x8_ =>
  some (x8_.1, x8_.2)
abbrev rm12_way : Room := { frames := 2, cells := 0, slots := 0, locals := 44 }
set_option maxHeartbeats 4000000 in
set_option maxRecDepth 100000 in
theorem p12_way {Θ : Tz} {σ : St} {ρ : Option Value × St} (C : Zc Θ cX12_way 2 RX12 (some .int) rm12_way) (hkd : Θ.2.2.2.2.1 = kdM) {n_a : Int32} {r : (Int32 × St)} (hf : q12_way σ n_a = some r) (hρ : ρ = (some (.int r.1), r.2)) : Z Θ 2 0 0 (zQ Θ ρ) σ 0 [(0, .ref (zA Θ 0)), (1, .int n_a)] [] := by
  unfold q12_way at hf
  refine z_aload_n C 0 dX12_way_0 rfl rfl ?_
  suffices K1_ : Z Θ 2 0 0 (zQ Θ ρ) σ 15 [(0, .ref (zA Θ 0)), (1, .int n_a)] [.int (if ¬ (q12_isIn n_a 0 5 = true) then 1 else 0), .ref (zA Θ 0)] by
    have K2_ : ¬ (q12_isIn n_a 0 5 = true) → Z Θ 2 0 0 (zQ Θ ρ) σ 10 [(0, .ref (zA Θ 0)), (1, .int n_a)] [.ref (zA Θ 0)] := by
      intro h5_
      rw [if_pos h5_] at K1_
      refine z_iconst (v := 1) C dX12_way_10 ic_1 ?_
      refine z_goto C 15 dX12_way_11 (by decide) ?_
      exact K1_
    have K3_ : ¬ (¬ (q12_isIn n_a 0 5 = true)) → Z Θ 2 0 0 (zQ Θ ρ) σ 14 [(0, .ref (zA Θ 0)), (1, .int n_a)] [.ref (zA Θ 0)] := by
      intro h5_
      rw [if_neg h5_] at K1_
      refine z_iconst (v := 0) C dX12_way_14 ic_0 ?_
      exact K1_
    refine z_iload_n C 1 dX12_way_1 rfl rfl ?_
    refine z_iconst (v := 0) C dX12_way_2 ic_0 ?_
    refine z_iconst (v := 5) C dX12_way_3 ic_5 ?_
    refine cr12_68 (v_a := n_a) (low_a := 0) (high_a := 5) C hkd  ⟨(Nat.le_of_ble_eq_true rfl), (Nat.le_of_ble_eq_true rfl)⟩ (Nat.le_of_ble_eq_true rfl) ⟨Nat.zero_le _, Nat.zero_le _⟩ dX12_way_4 ?_
    refine cb_t C 14 dX12_way_7 (by decide) (fun h4_ => ?_) (fun h4_ => ?_)
    · exact K3_ (fun n => n h4_)
    · exact K2_ h4_
  obtain ⟨σ6_, h7_, hf⟩ := lt_ hf
  refine fp12_65 C hkd h7_ dX12_way_15 ?_
  obtain ⟨x8_, h9_, hf⟩ := ob hf
  suffices K10_ : Z Θ 2 0 0 (zQ Θ ρ) x8_.2 36 [(0, .ref (zA Θ 0)), (1, .int n_a)] [.int x8_.1] by
    have K11_ : 0 < (σ6_ 0 0) → Z Θ 2 0 0 (zQ Θ ρ) σ6_ 25 [(0, .ref (zA Θ 0)), (1, .int n_a)] [] := by
      intro h16_
      rw [if_pos h16_] at h9_
      refine z_iconst (v := 0) C dX12_way_25 ic_0 ?_
      refine z_goto C 36 dX12_way_26 (by decide) ?_
      cases h9_
      exact K10_
    have K12_ : ¬ (0 < (σ6_ 0 0)) → Z Θ 2 0 0 (zQ Θ ρ) σ6_ 29 [(0, .ref (zA Θ 0)), (1, .int n_a)] [] := by
      intro h16_
      rw [if_neg h16_] at h9_
      refine z_aload_n C 0 dX12_way_29 rfl rfl ?_
      refine z_bipush (v := 6) C dX12_way_30 bp_6 ?_
      refine z_iload_n C 1 dX12_way_32 rfl rfl ?_
      obtain ⟨x14_, h15_, h9_⟩ := ob h9_
      refine cr12_373 (where_a := 6) (v_a := n_a) C hkd  h15_ ⟨(Nat.le_of_ble_eq_true rfl), (Nat.le_of_ble_eq_true rfl)⟩ (Nat.le_of_ble_eq_true rfl) ⟨Nat.zero_le _, Nat.zero_le _⟩ dX12_way_33 ?_
      cases h9_
      exact K10_
    refine z_aload_n C 0 dX12_way_18 rfl rfl ?_
    refine fg12_65 C hkd dX12_way_19 ?_
    refine c0_gt_f C 29 dX12_way_22 (by decide) (fun h13_ => ?_) (fun h13_ => ?_)
    · exact K11_ h13_
    · exact K12_ h13_
  cases hf
  subst hρ
  exact z_iret C dX12_way_36
theorem c12_way {l : Launch} {kd : List KD} {w : Wp} {σ : St} {n_a : Int32} (hkd : kd = kdM) (hi : zI kd w) {r : (Int32 × St)} (hf : q12_way σ n_a = some r) : zM l kd w yX12_way cX12_way 2 (some .int) rm12_way [.ref (w.2.2.1 0), .int n_a] σ (some (.int r.1), r.2) := zM_of rfl hi (Nat.le_of_ble_eq_true rfl) (fun Θ hl hw C => by
  obtain ⟨Θ1, Θ2, Θ3, Θ4, Θ5⟩ := Θ
  cases hw
  exact p12_way C hkd  hf rfl)
/-! LastLoafModel.pass -/
theorem dX12_pass_0 : decode cX12_pass 0 = .ok (.aload_n 0, 1) := by decide +kernel
theorem dX12_pass_1 : decode cX12_pass 1 = .ok (.iload_n 1, 1) := by decide +kernel
theorem dX12_pass_2 : decode cX12_pass 2 = .ok (.iload_n 2, 1) := by decide +kernel
theorem dX12_pass_3 : decode cX12_pass 3 = .ok (.invokevirtual 362, 3) := by decide +kernel
theorem dX12_pass_6 : decode cX12_pass 6 = .ok (.aload_n 0, 1) := by decide +kernel
theorem dX12_pass_7 : decode cX12_pass 7 = .ok (.getfield 65, 3) := by decide +kernel
theorem dX12_pass_10 : decode cX12_pass 10 = .ok (.ifCond .le 5, 3) := by decide +kernel
theorem dX12_pass_13 : decode cX12_pass 13 = .ok (.iconst 0, 1) := by decide +kernel
theorem dX12_pass_14 : decode cX12_pass 14 = .ok (.ireturn, 1) := by decide +kernel
theorem dX12_pass_15 : decode cX12_pass 15 = .ok (.aload_n 0, 1) := by decide +kernel
theorem dX12_pass_16 : decode cX12_pass 16 = .ok (.aload_n 0, 1) := by decide +kernel
theorem dX12_pass_17 : decode cX12_pass 17 = .ok (.iload_n 1, 1) := by decide +kernel
theorem dX12_pass_18 : decode cX12_pass 18 = .ok (.iconst 0, 1) := by decide +kernel
theorem dX12_pass_19 : decode cX12_pass 19 = .ok (.invokevirtual 72, 3) := by decide +kernel
theorem dX12_pass_22 : decode cX12_pass 22 = .ok (.ifCond .gt 19, 3) := by decide +kernel
theorem dX12_pass_25 : decode cX12_pass 25 = .ok (.aload_n 0, 1) := by decide +kernel
theorem dX12_pass_26 : decode cX12_pass 26 = .ok (.iload_n 1, 1) := by decide +kernel
theorem dX12_pass_27 : decode cX12_pass 27 = .ok (.iconst 4, 1) := by decide +kernel
theorem dX12_pass_28 : decode cX12_pass 28 = .ok (.invokevirtual 72, 3) := by decide +kernel
theorem dX12_pass_31 : decode cX12_pass 31 = .ok (.aload_n 0, 1) := by decide +kernel
theorem dX12_pass_32 : decode cX12_pass 32 = .ok (.iload_n 2, 1) := by decide +kernel
theorem dX12_pass_33 : decode cX12_pass 33 = .ok (.iconst 4, 1) := by decide +kernel
theorem dX12_pass_34 : decode cX12_pass 34 = .ok (.invokevirtual 72, 3) := by decide +kernel
theorem dX12_pass_37 : decode cX12_pass 37 = .ok (.iadd, 1) := by decide +kernel
theorem dX12_pass_38 : decode cX12_pass 38 = .ok (.ifCond .le 7, 3) := by decide +kernel
theorem dX12_pass_41 : decode cX12_pass 41 = .ok (.iconst 3, 1) := by decide +kernel
theorem dX12_pass_42 : decode cX12_pass 42 = .ok (.goto 4, 3) := by decide +kernel
theorem dX12_pass_45 : decode cX12_pass 45 = .ok (.iconst 0, 1) := by decide +kernel
theorem dX12_pass_46 : decode cX12_pass 46 = .ok (.putfield 65, 3) := by decide +kernel
theorem dX12_pass_49 : decode cX12_pass 49 = .ok (.aload_n 0, 1) := by decide +kernel
theorem dX12_pass_50 : decode cX12_pass 50 = .ok (.getfield 65, 3) := by decide +kernel
theorem dX12_pass_53 : decode cX12_pass 53 = .ok (.ifCond .le 5, 3) := by decide +kernel
theorem dX12_pass_56 : decode cX12_pass 56 = .ok (.iconst 0, 1) := by decide +kernel
theorem dX12_pass_57 : decode cX12_pass 57 = .ok (.ireturn, 1) := by decide +kernel
theorem dX12_pass_58 : decode cX12_pass 58 = .ok (.aload_n 0, 1) := by decide +kernel
theorem dX12_pass_59 : decode cX12_pass 59 = .ok (.bipush 63, 2) := by decide +kernel
theorem dX12_pass_61 : decode cX12_pass 61 = .ok (.bipush 7, 2) := by decide +kernel
theorem dX12_pass_63 : decode cX12_pass 63 = .ok (.iload_n 2, 1) := by decide +kernel
theorem dX12_pass_64 : decode cX12_pass 64 = .ok (.imul, 1) := by decide +kernel
theorem dX12_pass_65 : decode cX12_pass 65 = .ok (.iadd, 1) := by decide +kernel
theorem dX12_pass_66 : decode cX12_pass 66 = .ok (.iload_n 1, 1) := by decide +kernel
theorem dX12_pass_67 : decode cX12_pass 67 = .ok (.iadd, 1) := by decide +kernel
theorem dX12_pass_68 : decode cX12_pass 68 = .ok (.bipush 9, 2) := by decide +kernel
theorem dX12_pass_70 : decode cX12_pass 70 = .ok (.aload_n 0, 1) := by decide +kernel
theorem dX12_pass_71 : decode cX12_pass 71 = .ok (.iload_n 2, 1) := by decide +kernel
theorem dX12_pass_72 : decode cX12_pass 72 = .ok (.iload_n 1, 1) := by decide +kernel
theorem dX12_pass_73 : decode cX12_pass 73 = .ok (.invokevirtual 260, 3) := by decide +kernel
theorem dX12_pass_76 : decode cX12_pass 76 = .ok (.iconst 1, 1) := by decide +kernel
theorem dX12_pass_77 : decode cX12_pass 77 = .ok (.iadd, 1) := by decide +kernel
theorem dX12_pass_78 : decode cX12_pass 78 = .ok (.invokestatic 313, 3) := by decide +kernel
theorem dX12_pass_81 : decode cX12_pass 81 = .ok (.invokevirtual 373, 3) := by decide +kernel
theorem dX12_pass_84 : decode cX12_pass 84 = .ok (.istore_n 3, 1) := by decide +kernel
theorem dX12_pass_85 : decode cX12_pass 85 = .ok (.aload_n 0, 1) := by decide +kernel
theorem dX12_pass_86 : decode cX12_pass 86 = .ok (.iload_n 1, 1) := by decide +kernel
theorem dX12_pass_87 : decode cX12_pass 87 = .ok (.iconst 0, 1) := by decide +kernel
theorem dX12_pass_88 : decode cX12_pass 88 = .ok (.iconst 1, 1) := by decide +kernel
theorem dX12_pass_89 : decode cX12_pass 89 = .ok (.invokevirtual 135, 3) := by decide +kernel
theorem dX12_pass_92 : decode cX12_pass 92 = .ok (.aload_n 0, 1) := by decide +kernel
theorem dX12_pass_93 : decode cX12_pass 93 = .ok (.iload_n 2, 1) := by decide +kernel
theorem dX12_pass_94 : decode cX12_pass 94 = .ok (.iconst 0, 1) := by decide +kernel
theorem dX12_pass_95 : decode cX12_pass 95 = .ok (.iconst 0, 1) := by decide +kernel
theorem dX12_pass_96 : decode cX12_pass 96 = .ok (.invokevirtual 135, 3) := by decide +kernel
theorem dX12_pass_99 : decode cX12_pass 99 = .ok (.aload_n 0, 1) := by decide +kernel
theorem dX12_pass_100 : decode cX12_pass 100 = .ok (.iload_n 2, 1) := by decide +kernel
theorem dX12_pass_101 : decode cX12_pass 101 = .ok (.iload_n 1, 1) := by decide +kernel
theorem dX12_pass_102 : decode cX12_pass 102 = .ok (.invokevirtual 260, 3) := by decide +kernel
theorem dX12_pass_105 : decode cX12_pass 105 = .ok (.ireturn, 1) := by decide +kernel
def q12_pass (σ : St) (p_a : Int32) (o_a : Int32) : Option (Int32 × St) :=
  Option.bind (q12_areTwo σ p_a o_a) fun x1_ =>
  if 0 < (x1_ 0 0) then (some (0, x1_)) else
  Option.bind (Option.bind (Option.bind (q12_of x1_ p_a 0) fun x14_ =>
  if 0 < x14_ then (some true) else (Option.bind (q12_of x1_ p_a 4) fun x17_ =>
  Option.bind (q12_of x1_ o_a 4) fun x19_ =>
  if 0 < (x17_ + x19_) then (some true) else (some false))) fun t12_ =>
  if t12_ = true then (some (3 : Int32)) else (some (0 : Int32))) fun x7_ =>
  lt (up x1_ 0 0 x7_) fun σ23_ =>
  if 0 < (σ23_ 0 0) then (some (0, σ23_)) else
  Option.bind (q12_liking σ23_ o_a p_a) fun x29_ =>
  Option.bind (q12_sets σ23_ ((63 + (7 * o_a)) + p_a) (q12_lesser 9 (x29_ + 1))) fun x31_ =>
  Option.bind (q12_lays x31_.2 p_a 0 1) fun x33_ =>
  Option.bind (q12_lays x33_ o_a 0 0) fun x35_ =>
  Option.bind (q12_liking x35_ o_a p_a) fun x37_ =>
  some (x37_, x35_)
abbrev rm12_pass : Room := { frames := 3, cells := 0, slots := 0, locals := 65 }
set_option maxHeartbeats 4000000 in
set_option maxRecDepth 100000 in
theorem p12_pass {Θ : Tz} {σ : St} {ρ : Option Value × St} (C : Zc Θ cX12_pass 4 RX12 (some .int) rm12_pass) (hkd : Θ.2.2.2.2.1 = kdM) {p_a : Int32} {o_a : Int32} {r : (Int32 × St)} (hf : q12_pass σ p_a o_a = some r) (hρ : ρ = (some (.int r.1), r.2)) : Z Θ 4 0 0 (zQ Θ ρ) σ 0 [(0, .ref (zA Θ 0)), (1, .int p_a), (2, .int o_a)] [] := by
  unfold q12_pass at hf
  refine z_aload_n C 0 dX12_pass_0 rfl rfl ?_
  refine z_iload_n C 1 dX12_pass_1 rfl rfl ?_
  refine z_iload_n C 2 dX12_pass_2 rfl rfl ?_
  obtain ⟨x1_, h2_, hf⟩ := ob hf
  refine cr12_362 (p_a := p_a) (o_a := o_a) C hkd  h2_ ⟨(Nat.le_of_ble_eq_true rfl), (Nat.le_of_ble_eq_true rfl)⟩ (Nat.le_of_ble_eq_true rfl) ⟨Nat.zero_le _, Nat.zero_le _⟩ dX12_pass_3 ?_
  have K3_ : 0 < (x1_ 0 0) → Z Θ 4 0 0 (zQ Θ ρ) x1_ 13 [(0, .ref (zA Θ 0)), (1, .int p_a), (2, .int o_a)] [] := by
    intro h6_
    rw [if_pos h6_] at hf
    refine z_iconst (v := 0) C dX12_pass_13 ic_0 ?_
    cases hf
    subst hρ
    exact z_iret C dX12_pass_14
  suffices K4_ : ¬ (0 < (x1_ 0 0)) → Z Θ 4 0 0 (zQ Θ ρ) x1_ 15 [(0, .ref (zA Θ 0)), (1, .int p_a), (2, .int o_a)] [] by
    refine z_aload_n C 0 dX12_pass_6 rfl rfl ?_
    refine fg12_65 C hkd dX12_pass_7 ?_
    refine c0_gt_f C 15 dX12_pass_10 (by decide) (fun h5_ => ?_) (fun h5_ => ?_)
    · exact K3_ h5_
    · exact K4_ h5_
  intro h6_
  rw [if_neg h6_] at hf
  refine z_aload_n C 0 dX12_pass_15 rfl rfl ?_
  obtain ⟨x7_, h8_, hf⟩ := ob hf
  suffices K9_ : Z Θ 4 0 0 (zQ Θ ρ) x1_ 46 [(0, .ref (zA Θ 0)), (1, .int p_a), (2, .int o_a)] [.int x7_, .ref (zA Θ 0)] by
    obtain ⟨t12_, h13_, h8_⟩ := ob h8_
    have K10_ : t12_ = true → Z Θ 4 0 0 (zQ Θ ρ) x1_ 41 [(0, .ref (zA Θ 0)), (1, .int p_a), (2, .int o_a)] [.ref (zA Θ 0)] := by
      intro h22_
      rw [if_pos h22_] at h8_
      refine z_iconst (v := 3) C dX12_pass_41 ic_3 ?_
      refine z_goto C 46 dX12_pass_42 (by decide) ?_
      cases h8_
      exact K9_
    have K11_ : ¬ (t12_ = true) → Z Θ 4 0 0 (zQ Θ ρ) x1_ 45 [(0, .ref (zA Θ 0)), (1, .int p_a), (2, .int o_a)] [.ref (zA Θ 0)] := by
      intro h22_
      rw [if_neg h22_] at h8_
      refine z_iconst (v := 0) C dX12_pass_45 ic_0 ?_
      cases h8_
      exact K9_
    refine z_aload_n C 0 dX12_pass_16 rfl rfl ?_
    refine z_iload_n C 1 dX12_pass_17 rfl rfl ?_
    refine z_iconst (v := 0) C dX12_pass_18 ic_0 ?_
    obtain ⟨x14_, h15_, h13_⟩ := ob h13_
    refine cr12_72 (p_a := p_a) (what_a := 0) C hkd  h15_ ⟨(Nat.le_of_ble_eq_true rfl), (Nat.le_of_ble_eq_true rfl)⟩ (Nat.le_of_ble_eq_true rfl) ⟨Nat.zero_le _, Nat.zero_le _⟩ dX12_pass_19 ?_
    refine c0_gt_t C 41 dX12_pass_22 (by decide) (fun h16_ => ?_) (fun h16_ => ?_)
    · rw [if_pos h16_] at h13_
      cases h13_
      exact K10_ rfl
    · rw [if_neg h16_] at h13_
      refine z_aload_n C 0 dX12_pass_25 rfl rfl ?_
      refine z_iload_n C 1 dX12_pass_26 rfl rfl ?_
      refine z_iconst (v := 4) C dX12_pass_27 ic_4 ?_
      obtain ⟨x17_, h18_, h13_⟩ := ob h13_
      refine cr12_72 (p_a := p_a) (what_a := 4) C hkd  h18_ ⟨(Nat.le_of_ble_eq_true rfl), (Nat.le_of_ble_eq_true rfl)⟩ (Nat.le_of_ble_eq_true rfl) ⟨Nat.zero_le _, Nat.zero_le _⟩ dX12_pass_28 ?_
      refine z_aload_n C 0 dX12_pass_31 rfl rfl ?_
      refine z_iload_n C 2 dX12_pass_32 rfl rfl ?_
      refine z_iconst (v := 4) C dX12_pass_33 ic_4 ?_
      obtain ⟨x19_, h20_, h13_⟩ := ob h13_
      refine cr12_72 (p_a := o_a) (what_a := 4) C hkd  h20_ ⟨(Nat.le_of_ble_eq_true rfl), (Nat.le_of_ble_eq_true rfl)⟩ (Nat.le_of_ble_eq_true rfl) ⟨Nat.zero_le _, Nat.zero_le _⟩ dX12_pass_34 ?_
      refine z_iadd C dX12_pass_37 ?_
      refine c0_gt_f C 45 dX12_pass_38 (by decide) (fun h21_ => ?_) (fun h21_ => ?_)
      · rw [if_pos h21_] at h13_
        cases h13_
        exact K10_ rfl
      · rw [if_neg h21_] at h13_
        cases h13_
        exact K11_ Bool.false_ne_true
  obtain ⟨σ23_, h24_, hf⟩ := lt_ hf
  refine fp12_65 C hkd h24_ dX12_pass_46 ?_
  have K25_ : 0 < (σ23_ 0 0) → Z Θ 4 0 0 (zQ Θ ρ) σ23_ 56 [(0, .ref (zA Θ 0)), (1, .int p_a), (2, .int o_a)] [] := by
    intro h28_
    rw [if_pos h28_] at hf
    refine z_iconst (v := 0) C dX12_pass_56 ic_0 ?_
    cases hf
    subst hρ
    exact z_iret C dX12_pass_57
  suffices K26_ : ¬ (0 < (σ23_ 0 0)) → Z Θ 4 0 0 (zQ Θ ρ) σ23_ 58 [(0, .ref (zA Θ 0)), (1, .int p_a), (2, .int o_a)] [] by
    refine z_aload_n C 0 dX12_pass_49 rfl rfl ?_
    refine fg12_65 C hkd dX12_pass_50 ?_
    refine c0_gt_f C 58 dX12_pass_53 (by decide) (fun h27_ => ?_) (fun h27_ => ?_)
    · exact K25_ h27_
    · exact K26_ h27_
  intro h28_
  rw [if_neg h28_] at hf
  refine z_aload_n C 0 dX12_pass_58 rfl rfl ?_
  refine z_bipush (v := 63) C dX12_pass_59 bp_63 ?_
  refine z_bipush (v := 7) C dX12_pass_61 bp_7 ?_
  refine z_iload_n C 2 dX12_pass_63 rfl rfl ?_
  refine z_imul C dX12_pass_64 ?_
  refine z_iadd C dX12_pass_65 ?_
  refine z_iload_n C 1 dX12_pass_66 rfl rfl ?_
  refine z_iadd C dX12_pass_67 ?_
  refine z_bipush (v := 9) C dX12_pass_68 bp_9 ?_
  refine z_aload_n C 0 dX12_pass_70 rfl rfl ?_
  refine z_iload_n C 2 dX12_pass_71 rfl rfl ?_
  refine z_iload_n C 1 dX12_pass_72 rfl rfl ?_
  obtain ⟨x29_, h30_, hf⟩ := ob hf
  refine cr12_260 (p_a := o_a) (o_a := p_a) C hkd  h30_ ⟨(Nat.le_of_ble_eq_true rfl), (Nat.le_of_ble_eq_true rfl)⟩ (Nat.le_of_ble_eq_true rfl) ⟨Nat.zero_le _, Nat.zero_le _⟩ dX12_pass_73 ?_
  refine z_iconst (v := 1) C dX12_pass_76 ic_1 ?_
  refine z_iadd C dX12_pass_77 ?_
  refine cr12_313 (a_a := 9) (b_a := (x29_ + 1)) C hkd  ⟨(Nat.le_of_ble_eq_true rfl), (Nat.le_of_ble_eq_true rfl)⟩ (Nat.le_of_ble_eq_true rfl) ⟨Nat.zero_le _, Nat.zero_le _⟩ dX12_pass_78 ?_
  obtain ⟨x31_, h32_, hf⟩ := ob hf
  refine cr12_373 (where_a := ((63 + (7 * o_a)) + p_a)) (v_a := (q12_lesser 9 (x29_ + 1))) C hkd  h32_ ⟨(Nat.le_of_ble_eq_true rfl), (Nat.le_of_ble_eq_true rfl)⟩ (Nat.le_of_ble_eq_true rfl) ⟨Nat.zero_le _, Nat.zero_le _⟩ dX12_pass_81 ?_
  refine z_istN C dX12_pass_84 rfl rfl (Nat.le_of_ble_eq_true rfl) rfl ?_
  refine z_aload_n C 1 dX12_pass_85 rfl rfl ?_
  refine z_iload_n C 2 dX12_pass_86 rfl rfl ?_
  refine z_iconst (v := 0) C dX12_pass_87 ic_0 ?_
  refine z_iconst (v := 1) C dX12_pass_88 ic_1 ?_
  obtain ⟨x33_, h34_, hf⟩ := ob hf
  refine cr12_135 (p_a := p_a) (what_a := 0) (v_a := 1) C hkd  h34_ ⟨(Nat.le_of_ble_eq_true rfl), (Nat.le_of_ble_eq_true rfl)⟩ (Nat.le_of_ble_eq_true rfl) ⟨Nat.zero_le _, Nat.zero_le _⟩ dX12_pass_89 ?_
  refine z_aload_n C 1 dX12_pass_92 rfl rfl ?_
  refine z_iload_n C 3 dX12_pass_93 rfl rfl ?_
  refine z_iconst (v := 0) C dX12_pass_94 ic_0 ?_
  refine z_iconst (v := 0) C dX12_pass_95 ic_0 ?_
  obtain ⟨x35_, h36_, hf⟩ := ob hf
  refine cr12_135 (p_a := o_a) (what_a := 0) (v_a := 0) C hkd  h36_ ⟨(Nat.le_of_ble_eq_true rfl), (Nat.le_of_ble_eq_true rfl)⟩ (Nat.le_of_ble_eq_true rfl) ⟨Nat.zero_le _, Nat.zero_le _⟩ dX12_pass_96 ?_
  refine z_aload_n C 1 dX12_pass_99 rfl rfl ?_
  refine z_iload_n C 3 dX12_pass_100 rfl rfl ?_
  refine z_iload_n C 2 dX12_pass_101 rfl rfl ?_
  obtain ⟨x37_, h38_, hf⟩ := ob hf
  refine cr12_260 (p_a := o_a) (o_a := p_a) C hkd  h38_ ⟨(Nat.le_of_ble_eq_true rfl), (Nat.le_of_ble_eq_true rfl)⟩ (Nat.le_of_ble_eq_true rfl) ⟨Nat.zero_le _, Nat.zero_le _⟩ dX12_pass_102 ?_
  cases hf
  subst hρ
  exact z_iret C dX12_pass_105
theorem c12_pass {l : Launch} {kd : List KD} {w : Wp} {σ : St} {p_a : Int32} {o_a : Int32} (hkd : kd = kdM) (hi : zI kd w) {r : (Int32 × St)} (hf : q12_pass σ p_a o_a = some r) : zM l kd w yX12_pass cX12_pass 4 (some .int) rm12_pass [.ref (w.2.2.1 0), .int p_a, .int o_a] σ (some (.int r.1), r.2) := zM_of rfl hi (Nat.le_of_ble_eq_true rfl) (fun Θ hl hw C => by
  obtain ⟨Θ1, Θ2, Θ3, Θ4, Θ5⟩ := Θ
  cases hw
  exact p12_pass C hkd  hf rfl)
/-! LastLoafModel.fetch -/
theorem dX12_fetch_0 : decode cX12_fetch 0 = .ok (.aload_n 0, 1) := by decide +kernel
theorem dX12_fetch_1 : decode cX12_fetch 1 = .ok (.aload_n 0, 1) := by decide +kernel
theorem dX12_fetch_2 : decode cX12_fetch 2 = .ok (.iload_n 1, 1) := by decide +kernel
theorem dX12_fetch_3 : decode cX12_fetch 3 = .ok (.invokevirtual 347, 3) := by decide +kernel
theorem dX12_fetch_6 : decode cX12_fetch 6 = .ok (.ifCond .ne 7, 3) := by decide +kernel
theorem dX12_fetch_9 : decode cX12_fetch 9 = .ok (.iconst 1, 1) := by decide +kernel
theorem dX12_fetch_10 : decode cX12_fetch 10 = .ok (.goto 4, 3) := by decide +kernel
theorem dX12_fetch_13 : decode cX12_fetch 13 = .ok (.iconst 0, 1) := by decide +kernel
theorem dX12_fetch_14 : decode cX12_fetch 14 = .ok (.putfield 65, 3) := by decide +kernel
theorem dX12_fetch_17 : decode cX12_fetch 17 = .ok (.aload_n 0, 1) := by decide +kernel
theorem dX12_fetch_18 : decode cX12_fetch 18 = .ok (.getfield 65, 3) := by decide +kernel
theorem dX12_fetch_21 : decode cX12_fetch 21 = .ok (.ifCond .le 5, 3) := by decide +kernel
theorem dX12_fetch_24 : decode cX12_fetch 24 = .ok (.iconst 0, 1) := by decide +kernel
theorem dX12_fetch_25 : decode cX12_fetch 25 = .ok (.ireturn, 1) := by decide +kernel
theorem dX12_fetch_26 : decode cX12_fetch 26 = .ok (.aload_n 0, 1) := by decide +kernel
theorem dX12_fetch_27 : decode cX12_fetch 27 = .ok (.aload_n 0, 1) := by decide +kernel
theorem dX12_fetch_28 : decode cX12_fetch 28 = .ok (.iload_n 1, 1) := by decide +kernel
theorem dX12_fetch_29 : decode cX12_fetch 29 = .ok (.iconst 4, 1) := by decide +kernel
theorem dX12_fetch_30 : decode cX12_fetch 30 = .ok (.invokevirtual 72, 3) := by decide +kernel
theorem dX12_fetch_33 : decode cX12_fetch 33 = .ok (.ifCond .ne 7, 3) := by decide +kernel
theorem dX12_fetch_36 : decode cX12_fetch 36 = .ok (.iconst 2, 1) := by decide +kernel
theorem dX12_fetch_37 : decode cX12_fetch 37 = .ok (.goto 4, 3) := by decide +kernel
theorem dX12_fetch_40 : decode cX12_fetch 40 = .ok (.iconst 0, 1) := by decide +kernel
theorem dX12_fetch_41 : decode cX12_fetch 41 = .ok (.putfield 65, 3) := by decide +kernel
theorem dX12_fetch_44 : decode cX12_fetch 44 = .ok (.aload_n 0, 1) := by decide +kernel
theorem dX12_fetch_45 : decode cX12_fetch 45 = .ok (.getfield 65, 3) := by decide +kernel
theorem dX12_fetch_48 : decode cX12_fetch 48 = .ok (.ifCond .le 5, 3) := by decide +kernel
theorem dX12_fetch_51 : decode cX12_fetch 51 = .ok (.iconst 0, 1) := by decide +kernel
theorem dX12_fetch_52 : decode cX12_fetch 52 = .ok (.ireturn, 1) := by decide +kernel
theorem dX12_fetch_53 : decode cX12_fetch 53 = .ok (.aload_n 0, 1) := by decide +kernel
theorem dX12_fetch_54 : decode cX12_fetch 54 = .ok (.bipush 14, 2) := by decide +kernel
theorem dX12_fetch_56 : decode cX12_fetch 56 = .ok (.bipush 7, 2) := by decide +kernel
theorem dX12_fetch_58 : decode cX12_fetch 58 = .ok (.iload_n 1, 1) := by decide +kernel
theorem dX12_fetch_59 : decode cX12_fetch 59 = .ok (.imul, 1) := by decide +kernel
theorem dX12_fetch_60 : decode cX12_fetch 60 = .ok (.iadd, 1) := by decide +kernel
theorem dX12_fetch_61 : decode cX12_fetch 61 = .ok (.iconst 4, 1) := by decide +kernel
theorem dX12_fetch_62 : decode cX12_fetch 62 = .ok (.iadd, 1) := by decide +kernel
theorem dX12_fetch_63 : decode cX12_fetch 63 = .ok (.iconst 0, 1) := by decide +kernel
theorem dX12_fetch_64 : decode cX12_fetch 64 = .ok (.invokevirtual 373, 3) := by decide +kernel
theorem dX12_fetch_67 : decode cX12_fetch 67 = .ok (.istore_n 2, 1) := by decide +kernel
theorem dX12_fetch_68 : decode cX12_fetch 68 = .ok (.aload_n 0, 1) := by decide +kernel
theorem dX12_fetch_69 : decode cX12_fetch 69 = .ok (.iload_n 1, 1) := by decide +kernel
theorem dX12_fetch_70 : decode cX12_fetch 70 = .ok (.iconst 0, 1) := by decide +kernel
theorem dX12_fetch_71 : decode cX12_fetch 71 = .ok (.iconst 5, 1) := by decide +kernel
theorem dX12_fetch_72 : decode cX12_fetch 72 = .ok (.invokevirtual 135, 3) := by decide +kernel
theorem dX12_fetch_75 : decode cX12_fetch 75 = .ok (.aload_n 0, 1) := by decide +kernel
theorem dX12_fetch_76 : decode cX12_fetch 76 = .ok (.iconst 4, 1) := by decide +kernel
theorem dX12_fetch_77 : decode cX12_fetch 77 = .ok (.invokevirtual 266, 3) := by decide +kernel
theorem dX12_fetch_80 : decode cX12_fetch 80 = .ok (.invokestatic 286, 3) := by decide +kernel
theorem dX12_fetch_83 : decode cX12_fetch 83 = .ok (.ireturn, 1) := by decide +kernel
def q12_fetch (σ : St) (p_a : Int32) : Option (Int32 × St) :=
  Option.bind (Option.bind (q12_isOne σ p_a) fun x6_ =>
  if ¬ (x6_ = true) then (some (1 : Int32)) else (some (0 : Int32))) fun x1_ =>
  lt (up σ 0 0 x1_) fun σ10_ =>
  if 0 < (σ10_ 0 0) then (some (0, σ10_)) else
  Option.bind (Option.bind (q12_of σ10_ p_a 4) fun x21_ =>
  if x21_ = 0 then (some (2 : Int32)) else (some (0 : Int32))) fun x16_ =>
  lt (up σ10_ 0 0 x16_) fun σ25_ =>
  if 0 < (σ25_ 0 0) then (some (0, σ25_)) else
  Option.bind (q12_sets σ25_ ((14 + (7 * p_a)) + 4) 0) fun x31_ =>
  Option.bind (q12_lays x31_.2 p_a 0 5) fun x33_ =>
  Option.bind (q12_those x33_ 4) fun x35_ =>
  Option.bind (q12_bits x35_) fun x37_ =>
  some (x37_, x33_)
abbrev rm12_fetch : Room := { frames := 2, cells := 0, slots := 0, locals := 45 }
set_option maxHeartbeats 4000000 in
set_option maxRecDepth 100000 in
theorem p12_fetch {Θ : Tz} {σ : St} {ρ : Option Value × St} (C : Zc Θ cX12_fetch 3 RX12 (some .int) rm12_fetch) (hkd : Θ.2.2.2.2.1 = kdM) {p_a : Int32} {r : (Int32 × St)} (hf : q12_fetch σ p_a = some r) (hρ : ρ = (some (.int r.1), r.2)) : Z Θ 3 0 0 (zQ Θ ρ) σ 0 [(0, .ref (zA Θ 0)), (1, .int p_a)] [] := by
  unfold q12_fetch at hf
  refine z_aload_n C 0 dX12_fetch_0 rfl rfl ?_
  obtain ⟨x1_, h2_, hf⟩ := ob hf
  suffices K3_ : Z Θ 3 0 0 (zQ Θ ρ) σ 14 [(0, .ref (zA Θ 0)), (1, .int p_a)] [.int x1_, .ref (zA Θ 0)] by
    refine z_aload_n C 0 dX12_fetch_1 rfl rfl ?_
    refine z_iload_n C 1 dX12_fetch_2 rfl rfl ?_
    obtain ⟨x6_, h7_, h2_⟩ := ob h2_
    refine cr12_347 (p_a := p_a) C hkd  h7_ ⟨(Nat.le_of_ble_eq_true rfl), (Nat.le_of_ble_eq_true rfl)⟩ (Nat.le_of_ble_eq_true rfl) ⟨Nat.zero_le _, Nat.zero_le _⟩ dX12_fetch_3 ?_
    have K4_ : ¬ (x6_ = true) → Z Θ 3 0 0 (zQ Θ ρ) σ 9 [(0, .ref (zA Θ 0)), (1, .int p_a)] [.ref (zA Θ 0)] := by
      intro h9_
      rw [if_pos h9_] at h2_
      refine z_iconst (v := 1) C dX12_fetch_9 ic_1 ?_
      refine z_goto C 14 dX12_fetch_10 (by decide) ?_
      cases h2_
      exact K3_
    have K5_ : ¬ (¬ (x6_ = true)) → Z Θ 3 0 0 (zQ Θ ρ) σ 13 [(0, .ref (zA Θ 0)), (1, .int p_a)] [.ref (zA Θ 0)] := by
      intro h9_
      rw [if_neg h9_] at h2_
      refine z_iconst (v := 0) C dX12_fetch_13 ic_0 ?_
      cases h2_
      exact K3_
    refine cb_t C 13 dX12_fetch_6 (by decide) (fun h8_ => ?_) (fun h8_ => ?_)
    · exact K5_ (fun n => n h8_)
    · exact K4_ h8_
  obtain ⟨σ10_, h11_, hf⟩ := lt_ hf
  refine fp12_65 C hkd h11_ dX12_fetch_14 ?_
  have K12_ : 0 < (σ10_ 0 0) → Z Θ 3 0 0 (zQ Θ ρ) σ10_ 24 [(0, .ref (zA Θ 0)), (1, .int p_a)] [] := by
    intro h15_
    rw [if_pos h15_] at hf
    refine z_iconst (v := 0) C dX12_fetch_24 ic_0 ?_
    cases hf
    subst hρ
    exact z_iret C dX12_fetch_25
  suffices K13_ : ¬ (0 < (σ10_ 0 0)) → Z Θ 3 0 0 (zQ Θ ρ) σ10_ 26 [(0, .ref (zA Θ 0)), (1, .int p_a)] [] by
    refine z_aload_n C 0 dX12_fetch_17 rfl rfl ?_
    refine fg12_65 C hkd dX12_fetch_18 ?_
    refine c0_gt_f C 26 dX12_fetch_21 (by decide) (fun h14_ => ?_) (fun h14_ => ?_)
    · exact K12_ h14_
    · exact K13_ h14_
  intro h15_
  rw [if_neg h15_] at hf
  refine z_aload_n C 0 dX12_fetch_26 rfl rfl ?_
  obtain ⟨x16_, h17_, hf⟩ := ob hf
  suffices K18_ : Z Θ 3 0 0 (zQ Θ ρ) σ10_ 41 [(0, .ref (zA Θ 0)), (1, .int p_a)] [.int x16_, .ref (zA Θ 0)] by
    refine z_aload_n C 0 dX12_fetch_27 rfl rfl ?_
    refine z_iload_n C 1 dX12_fetch_28 rfl rfl ?_
    refine z_iconst (v := 4) C dX12_fetch_29 ic_4 ?_
    obtain ⟨x21_, h22_, h17_⟩ := ob h17_
    refine cr12_72 (p_a := p_a) (what_a := 4) C hkd  h22_ ⟨(Nat.le_of_ble_eq_true rfl), (Nat.le_of_ble_eq_true rfl)⟩ (Nat.le_of_ble_eq_true rfl) ⟨Nat.zero_le _, Nat.zero_le _⟩ dX12_fetch_30 ?_
    have K19_ : x21_ = 0 → Z Θ 3 0 0 (zQ Θ ρ) σ10_ 36 [(0, .ref (zA Θ 0)), (1, .int p_a)] [.ref (zA Θ 0)] := by
      intro h24_
      rw [if_pos h24_] at h17_
      refine z_iconst (v := 2) C dX12_fetch_36 ic_2 ?_
      refine z_goto C 41 dX12_fetch_37 (by decide) ?_
      cases h17_
      exact K18_
    have K20_ : ¬ (x21_ = 0) → Z Θ 3 0 0 (zQ Θ ρ) σ10_ 40 [(0, .ref (zA Θ 0)), (1, .int p_a)] [.ref (zA Θ 0)] := by
      intro h24_
      rw [if_neg h24_] at h17_
      refine z_iconst (v := 0) C dX12_fetch_40 ic_0 ?_
      cases h17_
      exact K18_
    refine c0_eq_f C 40 dX12_fetch_33 (by decide) (fun h23_ => ?_) (fun h23_ => ?_)
    · exact K19_ h23_
    · exact K20_ h23_
  obtain ⟨σ25_, h26_, hf⟩ := lt_ hf
  refine fp12_65 C hkd h26_ dX12_fetch_41 ?_
  have K27_ : 0 < (σ25_ 0 0) → Z Θ 3 0 0 (zQ Θ ρ) σ25_ 51 [(0, .ref (zA Θ 0)), (1, .int p_a)] [] := by
    intro h30_
    rw [if_pos h30_] at hf
    refine z_iconst (v := 0) C dX12_fetch_51 ic_0 ?_
    cases hf
    subst hρ
    exact z_iret C dX12_fetch_52
  suffices K28_ : ¬ (0 < (σ25_ 0 0)) → Z Θ 3 0 0 (zQ Θ ρ) σ25_ 53 [(0, .ref (zA Θ 0)), (1, .int p_a)] [] by
    refine z_aload_n C 0 dX12_fetch_44 rfl rfl ?_
    refine fg12_65 C hkd dX12_fetch_45 ?_
    refine c0_gt_f C 53 dX12_fetch_48 (by decide) (fun h29_ => ?_) (fun h29_ => ?_)
    · exact K27_ h29_
    · exact K28_ h29_
  intro h30_
  rw [if_neg h30_] at hf
  refine z_aload_n C 0 dX12_fetch_53 rfl rfl ?_
  refine z_bipush (v := 14) C dX12_fetch_54 bp_14 ?_
  refine z_bipush (v := 7) C dX12_fetch_56 bp_7 ?_
  refine z_iload_n C 1 dX12_fetch_58 rfl rfl ?_
  refine z_imul C dX12_fetch_59 ?_
  refine z_iadd C dX12_fetch_60 ?_
  refine z_iconst (v := 4) C dX12_fetch_61 ic_4 ?_
  refine z_iadd C dX12_fetch_62 ?_
  refine z_iconst (v := 0) C dX12_fetch_63 ic_0 ?_
  obtain ⟨x31_, h32_, hf⟩ := ob hf
  refine cr12_373 (where_a := ((14 + (7 * p_a)) + 4)) (v_a := 0) C hkd  h32_ ⟨(Nat.le_of_ble_eq_true rfl), (Nat.le_of_ble_eq_true rfl)⟩ (Nat.le_of_ble_eq_true rfl) ⟨Nat.zero_le _, Nat.zero_le _⟩ dX12_fetch_64 ?_
  refine z_istN C dX12_fetch_67 rfl rfl (Nat.le_of_ble_eq_true rfl) rfl ?_
  refine z_aload_n C 1 dX12_fetch_68 rfl rfl ?_
  refine z_iload_n C 2 dX12_fetch_69 rfl rfl ?_
  refine z_iconst (v := 0) C dX12_fetch_70 ic_0 ?_
  refine z_iconst (v := 5) C dX12_fetch_71 ic_5 ?_
  obtain ⟨x33_, h34_, hf⟩ := ob hf
  refine cr12_135 (p_a := p_a) (what_a := 0) (v_a := 5) C hkd  h34_ ⟨(Nat.le_of_ble_eq_true rfl), (Nat.le_of_ble_eq_true rfl)⟩ (Nat.le_of_ble_eq_true rfl) ⟨Nat.zero_le _, Nat.zero_le _⟩ dX12_fetch_72 ?_
  refine z_aload_n C 1 dX12_fetch_75 rfl rfl ?_
  refine z_iconst (v := 4) C dX12_fetch_76 ic_4 ?_
  obtain ⟨x35_, h36_, hf⟩ := ob hf
  refine cr12_266 (what_a := 4) C hkd  h36_ ⟨(Nat.le_of_ble_eq_true rfl), (Nat.le_of_ble_eq_true rfl)⟩ (Nat.le_of_ble_eq_true rfl) ⟨Nat.zero_le _, Nat.zero_le _⟩ dX12_fetch_77 ?_
  obtain ⟨x37_, h38_, hf⟩ := ob hf
  refine cr12_286 (set_a := x35_) C hkd  h38_ ⟨(Nat.le_of_ble_eq_true rfl), (Nat.le_of_ble_eq_true rfl)⟩ (Nat.le_of_ble_eq_true rfl) ⟨Nat.zero_le _, Nat.zero_le _⟩ dX12_fetch_80 ?_
  cases hf
  subst hρ
  exact z_iret C dX12_fetch_83
theorem c12_fetch {l : Launch} {kd : List KD} {w : Wp} {σ : St} {p_a : Int32} (hkd : kd = kdM) (hi : zI kd w) {r : (Int32 × St)} (hf : q12_fetch σ p_a = some r) : zM l kd w yX12_fetch cX12_fetch 3 (some .int) rm12_fetch [.ref (w.2.2.1 0), .int p_a] σ (some (.int r.1), r.2) := zM_of rfl hi (Nat.le_of_ble_eq_true rfl) (fun Θ hl hw C => by
  obtain ⟨Θ1, Θ2, Θ3, Θ4, Θ5⟩ := Θ
  cases hw
  exact p12_fetch C hkd  hf rfl)
/-! LastLoafModel.winner -/
theorem dX12_winner_0 : decode cX12_winner 0 = .ok (.aload_n 0, 1) := by decide +kernel
theorem dX12_winner_1 : decode cX12_winner 1 = .ok (.iload_n 1, 1) := by decide +kernel
theorem dX12_winner_2 : decode cX12_winner 2 = .ok (.iconst 0, 1) := by decide +kernel
theorem dX12_winner_3 : decode cX12_winner 3 = .ok (.iconst 5, 1) := by decide +kernel
theorem dX12_winner_4 : decode cX12_winner 4 = .ok (.invokestatic 68, 3) := by decide +kernel
theorem dX12_winner_7 : decode cX12_winner 7 = .ok (.ifCond .ne 7, 3) := by decide +kernel
theorem dX12_winner_10 : decode cX12_winner 10 = .ok (.iconst 1, 1) := by decide +kernel
theorem dX12_winner_11 : decode cX12_winner 11 = .ok (.goto 4, 3) := by decide +kernel
theorem dX12_winner_14 : decode cX12_winner 14 = .ok (.iconst 0, 1) := by decide +kernel
theorem dX12_winner_15 : decode cX12_winner 15 = .ok (.putfield 65, 3) := by decide +kernel
theorem dX12_winner_18 : decode cX12_winner 18 = .ok (.aload_n 0, 1) := by decide +kernel
theorem dX12_winner_19 : decode cX12_winner 19 = .ok (.getfield 65, 3) := by decide +kernel
theorem dX12_winner_22 : decode cX12_winner 22 = .ok (.ifCond .le 5, 3) := by decide +kernel
theorem dX12_winner_25 : decode cX12_winner 25 = .ok (.iconst 0, 1) := by decide +kernel
theorem dX12_winner_26 : decode cX12_winner 26 = .ok (.ireturn, 1) := by decide +kernel
theorem dX12_winner_27 : decode cX12_winner 27 = .ok (.aload_n 0, 1) := by decide +kernel
theorem dX12_winner_28 : decode cX12_winner 28 = .ok (.invokevirtual 320, 3) := by decide +kernel
theorem dX12_winner_31 : decode cX12_winner 31 = .ok (.aload_n 0, 1) := by decide +kernel
theorem dX12_winner_32 : decode cX12_winner 32 = .ok (.iload_n 1, 1) := by decide +kernel
theorem dX12_winner_33 : decode cX12_winner 33 = .ok (.invokevirtual 323, 3) := by decide +kernel
theorem dX12_winner_36 : decode cX12_winner 36 = .ok (.ireturn, 1) := by decide +kernel
def q12_winner (σ : St) (way_a : Int32) : Option (Int32 × St) :=
  lt (up σ 0 0 (if ¬ (q12_isIn way_a 0 5 = true) then 1 else 0)) fun σ6_ =>
  if 0 < (σ6_ 0 0) then (some (0, σ6_)) else
  Option.bind (q12_looks σ6_) fun x12_ =>
  Option.bind (q12_winnerBy x12_ way_a) fun x14_ =>
  some (x14_, x12_)
abbrev rm12_winner : Room := { frames := 77, cells := 0, slots := 0, locals := 4194 }
set_option maxHeartbeats 4000000 in
set_option maxRecDepth 100000 in
theorem p12_winner {Θ : Tz} {σ : St} {ρ : Option Value × St} (C : Zc Θ cX12_winner 2 RX12 (some .int) rm12_winner) (hkd : Θ.2.2.2.2.1 = kdM) {way_a : Int32} {r : (Int32 × St)} (hf : q12_winner σ way_a = some r) (hρ : ρ = (some (.int r.1), r.2)) : Z Θ 2 0 0 (zQ Θ ρ) σ 0 [(0, .ref (zA Θ 0)), (1, .int way_a)] [] := by
  unfold q12_winner at hf
  refine z_aload_n C 0 dX12_winner_0 rfl rfl ?_
  suffices K1_ : Z Θ 2 0 0 (zQ Θ ρ) σ 15 [(0, .ref (zA Θ 0)), (1, .int way_a)] [.int (if ¬ (q12_isIn way_a 0 5 = true) then 1 else 0), .ref (zA Θ 0)] by
    have K2_ : ¬ (q12_isIn way_a 0 5 = true) → Z Θ 2 0 0 (zQ Θ ρ) σ 10 [(0, .ref (zA Θ 0)), (1, .int way_a)] [.ref (zA Θ 0)] := by
      intro h5_
      rw [if_pos h5_] at K1_
      refine z_iconst (v := 1) C dX12_winner_10 ic_1 ?_
      refine z_goto C 15 dX12_winner_11 (by decide) ?_
      exact K1_
    have K3_ : ¬ (¬ (q12_isIn way_a 0 5 = true)) → Z Θ 2 0 0 (zQ Θ ρ) σ 14 [(0, .ref (zA Θ 0)), (1, .int way_a)] [.ref (zA Θ 0)] := by
      intro h5_
      rw [if_neg h5_] at K1_
      refine z_iconst (v := 0) C dX12_winner_14 ic_0 ?_
      exact K1_
    refine z_iload_n C 1 dX12_winner_1 rfl rfl ?_
    refine z_iconst (v := 0) C dX12_winner_2 ic_0 ?_
    refine z_iconst (v := 5) C dX12_winner_3 ic_5 ?_
    refine cr12_68 (v_a := way_a) (low_a := 0) (high_a := 5) C hkd  ⟨(Nat.le_of_ble_eq_true rfl), (Nat.le_of_ble_eq_true rfl)⟩ (Nat.le_of_ble_eq_true rfl) ⟨Nat.zero_le _, Nat.zero_le _⟩ dX12_winner_4 ?_
    refine cb_t C 14 dX12_winner_7 (by decide) (fun h4_ => ?_) (fun h4_ => ?_)
    · exact K3_ (fun n => n h4_)
    · exact K2_ h4_
  obtain ⟨σ6_, h7_, hf⟩ := lt_ hf
  refine fp12_65 C hkd h7_ dX12_winner_15 ?_
  have K8_ : 0 < (σ6_ 0 0) → Z Θ 2 0 0 (zQ Θ ρ) σ6_ 25 [(0, .ref (zA Θ 0)), (1, .int way_a)] [] := by
    intro h11_
    rw [if_pos h11_] at hf
    refine z_iconst (v := 0) C dX12_winner_25 ic_0 ?_
    cases hf
    subst hρ
    exact z_iret C dX12_winner_26
  suffices K9_ : ¬ (0 < (σ6_ 0 0)) → Z Θ 2 0 0 (zQ Θ ρ) σ6_ 27 [(0, .ref (zA Θ 0)), (1, .int way_a)] [] by
    refine z_aload_n C 0 dX12_winner_18 rfl rfl ?_
    refine fg12_65 C hkd dX12_winner_19 ?_
    refine c0_gt_f C 27 dX12_winner_22 (by decide) (fun h10_ => ?_) (fun h10_ => ?_)
    · exact K8_ h10_
    · exact K9_ h10_
  intro h11_
  rw [if_neg h11_] at hf
  refine z_aload_n C 0 dX12_winner_27 rfl rfl ?_
  obtain ⟨x12_, h13_, hf⟩ := ob hf
  refine cr12_320 C hkd  h13_ ⟨(Nat.le_of_ble_eq_true rfl), (Nat.le_of_ble_eq_true rfl)⟩ (Nat.le_of_ble_eq_true rfl) ⟨Nat.zero_le _, Nat.zero_le _⟩ dX12_winner_28 ?_
  refine z_aload_n C 0 dX12_winner_31 rfl rfl ?_
  refine z_iload_n C 1 dX12_winner_32 rfl rfl ?_
  obtain ⟨x14_, h15_, hf⟩ := ob hf
  refine cr12_323 (way_a := way_a) C hkd  h15_ ⟨(Nat.le_of_ble_eq_true rfl), (Nat.le_of_ble_eq_true rfl)⟩ (Nat.le_of_ble_eq_true rfl) ⟨Nat.zero_le _, Nat.zero_le _⟩ dX12_winner_33 ?_
  cases hf
  subst hρ
  exact z_iret C dX12_winner_36
theorem c12_winner {l : Launch} {kd : List KD} {w : Wp} {σ : St} {way_a : Int32} (hkd : kd = kdM) (hi : zI kd w) {r : (Int32 × St)} (hf : q12_winner σ way_a = some r) : zM l kd w yX12_winner cX12_winner 2 (some .int) rm12_winner [.ref (w.2.2.1 0), .int way_a] σ (some (.int r.1), r.2) := zM_of rfl hi (Nat.le_of_ble_eq_true rfl) (fun Θ hl hw C => by
  obtain ⟨Θ1, Θ2, Θ3, Θ4, Θ5⟩ := Θ
  cases hw
  exact p12_winner C hkd  hf rfl)
/-! LastLoafModel.rank -/
theorem dX12_rank_0 : decode cX12_rank 0 = .ok (.aload_n 0, 1) := by decide +kernel
theorem dX12_rank_1 : decode cX12_rank 1 = .ok (.aload_n 0, 1) := by decide +kernel
theorem dX12_rank_2 : decode cX12_rank 2 = .ok (.iload_n 1, 1) := by decide +kernel
theorem dX12_rank_3 : decode cX12_rank 3 = .ok (.invokevirtual 347, 3) := by decide +kernel
theorem dX12_rank_6 : decode cX12_rank 6 = .ok (.ifCond .ne 7, 3) := by decide +kernel
theorem dX12_rank_9 : decode cX12_rank 9 = .ok (.iconst 1, 1) := by decide +kernel
theorem dX12_rank_10 : decode cX12_rank 10 = .ok (.goto 4, 3) := by decide +kernel
theorem dX12_rank_13 : decode cX12_rank 13 = .ok (.iconst 0, 1) := by decide +kernel
theorem dX12_rank_14 : decode cX12_rank 14 = .ok (.putfield 65, 3) := by decide +kernel
theorem dX12_rank_17 : decode cX12_rank 17 = .ok (.aload_n 0, 1) := by decide +kernel
theorem dX12_rank_18 : decode cX12_rank 18 = .ok (.getfield 65, 3) := by decide +kernel
theorem dX12_rank_21 : decode cX12_rank 21 = .ok (.ifCond .le 5, 3) := by decide +kernel
theorem dX12_rank_24 : decode cX12_rank 24 = .ok (.iconst 0, 1) := by decide +kernel
theorem dX12_rank_25 : decode cX12_rank 25 = .ok (.ireturn, 1) := by decide +kernel
theorem dX12_rank_26 : decode cX12_rank 26 = .ok (.aload_n 0, 1) := by decide +kernel
theorem dX12_rank_27 : decode cX12_rank 27 = .ok (.invokevirtual 320, 3) := by decide +kernel
theorem dX12_rank_30 : decode cX12_rank 30 = .ok (.aload_n 0, 1) := by decide +kernel
theorem dX12_rank_31 : decode cX12_rank 31 = .ok (.getfield 263, 3) := by decide +kernel
theorem dX12_rank_34 : decode cX12_rank 34 = .ok (.iload_n 1, 1) := by decide +kernel
theorem dX12_rank_35 : decode cX12_rank 35 = .ok (.invokestatic 275, 3) := by decide +kernel
theorem dX12_rank_38 : decode cX12_rank 38 = .ok (.ifCond .eq 16, 3) := by decide +kernel
theorem dX12_rank_41 : decode cX12_rank 41 = .ok (.aload_n 0, 1) := by decide +kernel
theorem dX12_rank_42 : decode cX12_rank 42 = .ok (.iload_n 1, 1) := by decide +kernel
theorem dX12_rank_43 : decode cX12_rank 43 = .ok (.iload_n 2, 1) := by decide +kernel
theorem dX12_rank_44 : decode cX12_rank 44 = .ok (.aload_n 0, 1) := by decide +kernel
theorem dX12_rank_45 : decode cX12_rank 45 = .ok (.getfield 269, 3) := by decide +kernel
theorem dX12_rank_48 : decode cX12_rank 48 = .ok (.invokevirtual 344, 3) := by decide +kernel
theorem dX12_rank_51 : decode cX12_rank 51 = .ok (.goto 4, 3) := by decide +kernel
theorem dX12_rank_54 : decode cX12_rank 54 = .ok (.iconst (-1), 1) := by decide +kernel
theorem dX12_rank_55 : decode cX12_rank 55 = .ok (.ireturn, 1) := by decide +kernel
def q12_rank (σ : St) (p_a : Int32) (k_a : Int32) : Option (Int32 × St) :=
  Option.bind (Option.bind (q12_isOne σ p_a) fun x6_ =>
  if ¬ (x6_ = true) then (some (1 : Int32)) else (some (0 : Int32))) fun x1_ =>
  lt (up σ 0 0 x1_) fun σ10_ =>
  if 0 < (σ10_ 0 0) then (some (0, σ10_)) else
  Option.bind (q12_looks σ10_) fun x16_ =>
  Option.bind (if q12_isOf (x16_ 0 20) p_a = true then (Option.bind (q12_inRank x16_ p_a k_a (x16_ 0 21)) fun x24_ =>
  some x24_) else (some (-1 : Int32))) fun x18_ =>
  some (x18_, x16_)
abbrev rm12_rank : Room := { frames := 77, cells := 0, slots := 0, locals := 4194 }
set_option maxHeartbeats 4000000 in
set_option maxRecDepth 100000 in
theorem p12_rank {Θ : Tz} {σ : St} {ρ : Option Value × St} (C : Zc Θ cX12_rank 3 RX12 (some .int) rm12_rank) (hkd : Θ.2.2.2.2.1 = kdM) {p_a : Int32} {k_a : Int32} {r : (Int32 × St)} (hf : q12_rank σ p_a k_a = some r) (hρ : ρ = (some (.int r.1), r.2)) : Z Θ 3 0 0 (zQ Θ ρ) σ 0 [(0, .ref (zA Θ 0)), (1, .int p_a), (2, .int k_a)] [] := by
  unfold q12_rank at hf
  refine z_aload_n C 0 dX12_rank_0 rfl rfl ?_
  obtain ⟨x1_, h2_, hf⟩ := ob hf
  suffices K3_ : Z Θ 3 0 0 (zQ Θ ρ) σ 14 [(0, .ref (zA Θ 0)), (1, .int p_a), (2, .int k_a)] [.int x1_, .ref (zA Θ 0)] by
    refine z_aload_n C 0 dX12_rank_1 rfl rfl ?_
    refine z_iload_n C 1 dX12_rank_2 rfl rfl ?_
    obtain ⟨x6_, h7_, h2_⟩ := ob h2_
    refine cr12_347 (p_a := p_a) C hkd  h7_ ⟨(Nat.le_of_ble_eq_true rfl), (Nat.le_of_ble_eq_true rfl)⟩ (Nat.le_of_ble_eq_true rfl) ⟨Nat.zero_le _, Nat.zero_le _⟩ dX12_rank_3 ?_
    have K4_ : ¬ (x6_ = true) → Z Θ 3 0 0 (zQ Θ ρ) σ 9 [(0, .ref (zA Θ 0)), (1, .int p_a), (2, .int k_a)] [.ref (zA Θ 0)] := by
      intro h9_
      rw [if_pos h9_] at h2_
      refine z_iconst (v := 1) C dX12_rank_9 ic_1 ?_
      refine z_goto C 14 dX12_rank_10 (by decide) ?_
      cases h2_
      exact K3_
    have K5_ : ¬ (¬ (x6_ = true)) → Z Θ 3 0 0 (zQ Θ ρ) σ 13 [(0, .ref (zA Θ 0)), (1, .int p_a), (2, .int k_a)] [.ref (zA Θ 0)] := by
      intro h9_
      rw [if_neg h9_] at h2_
      refine z_iconst (v := 0) C dX12_rank_13 ic_0 ?_
      cases h2_
      exact K3_
    refine cb_t C 13 dX12_rank_6 (by decide) (fun h8_ => ?_) (fun h8_ => ?_)
    · exact K5_ (fun n => n h8_)
    · exact K4_ h8_
  obtain ⟨σ10_, h11_, hf⟩ := lt_ hf
  refine fp12_65 C hkd h11_ dX12_rank_14 ?_
  have K12_ : 0 < (σ10_ 0 0) → Z Θ 3 0 0 (zQ Θ ρ) σ10_ 24 [(0, .ref (zA Θ 0)), (1, .int p_a), (2, .int k_a)] [] := by
    intro h15_
    rw [if_pos h15_] at hf
    refine z_iconst (v := 0) C dX12_rank_24 ic_0 ?_
    cases hf
    subst hρ
    exact z_iret C dX12_rank_25
  suffices K13_ : ¬ (0 < (σ10_ 0 0)) → Z Θ 3 0 0 (zQ Θ ρ) σ10_ 26 [(0, .ref (zA Θ 0)), (1, .int p_a), (2, .int k_a)] [] by
    refine z_aload_n C 0 dX12_rank_17 rfl rfl ?_
    refine fg12_65 C hkd dX12_rank_18 ?_
    refine c0_gt_f C 26 dX12_rank_21 (by decide) (fun h14_ => ?_) (fun h14_ => ?_)
    · exact K12_ h14_
    · exact K13_ h14_
  intro h15_
  rw [if_neg h15_] at hf
  refine z_aload_n C 0 dX12_rank_26 rfl rfl ?_
  obtain ⟨x16_, h17_, hf⟩ := ob hf
  refine cr12_320 C hkd  h17_ ⟨(Nat.le_of_ble_eq_true rfl), (Nat.le_of_ble_eq_true rfl)⟩ (Nat.le_of_ble_eq_true rfl) ⟨Nat.zero_le _, Nat.zero_le _⟩ dX12_rank_27 ?_
  obtain ⟨x18_, h19_, hf⟩ := ob hf
  suffices K20_ : Z Θ 3 0 0 (zQ Θ ρ) x16_ 55 [(0, .ref (zA Θ 0)), (1, .int p_a), (2, .int k_a)] [.int x18_] by
    have K21_ : q12_isOf (x16_ 0 20) p_a = true → Z Θ 3 0 0 (zQ Θ ρ) x16_ 41 [(0, .ref (zA Θ 0)), (1, .int p_a), (2, .int k_a)] [] := by
      intro h26_
      rw [if_pos h26_] at h19_
      refine z_aload_n C 0 dX12_rank_41 rfl rfl ?_
      refine z_iload_n C 1 dX12_rank_42 rfl rfl ?_
      refine z_iload_n C 2 dX12_rank_43 rfl rfl ?_
      refine z_aload_n C 0 dX12_rank_44 rfl rfl ?_
      refine fg12_269 C hkd dX12_rank_45 ?_
      obtain ⟨x24_, h25_, h19_⟩ := ob h19_
      refine cr12_344 (p_a := p_a) (k_a := k_a) (set_a := (x16_ 0 21)) C hkd  h25_ ⟨(Nat.le_of_ble_eq_true rfl), (Nat.le_of_ble_eq_true rfl)⟩ (Nat.le_of_ble_eq_true rfl) ⟨Nat.zero_le _, Nat.zero_le _⟩ dX12_rank_48 ?_
      refine z_goto C 55 dX12_rank_51 (by decide) ?_
      cases h19_
      exact K20_
    have K22_ : ¬ (q12_isOf (x16_ 0 20) p_a = true) → Z Θ 3 0 0 (zQ Θ ρ) x16_ 54 [(0, .ref (zA Θ 0)), (1, .int p_a), (2, .int k_a)] [] := by
      intro h26_
      rw [if_neg h26_] at h19_
      refine z_iconst (v := (-1)) C dX12_rank_54 ic_m1 ?_
      cases h19_
      exact K20_
    refine z_aload_n C 0 dX12_rank_30 rfl rfl ?_
    refine fg12_263 C hkd dX12_rank_31 ?_
    refine z_iload_n C 1 dX12_rank_34 rfl rfl ?_
    refine cr12_275 (set_a := (x16_ 0 20)) (k_a := p_a) C hkd  ⟨(Nat.le_of_ble_eq_true rfl), (Nat.le_of_ble_eq_true rfl)⟩ (Nat.le_of_ble_eq_true rfl) ⟨Nat.zero_le _, Nat.zero_le _⟩ dX12_rank_35 ?_
    refine cb_f C 54 dX12_rank_38 (by decide) (fun h23_ => ?_) (fun h23_ => ?_)
    · exact K21_ h23_
    · exact K22_ h23_
  cases hf
  subst hρ
  exact z_iret C dX12_rank_55
theorem c12_rank {l : Launch} {kd : List KD} {w : Wp} {σ : St} {p_a : Int32} {k_a : Int32} (hkd : kd = kdM) (hi : zI kd w) {r : (Int32 × St)} (hf : q12_rank σ p_a k_a = some r) : zM l kd w yX12_rank cX12_rank 3 (some .int) rm12_rank [.ref (w.2.2.1 0), .int p_a, .int k_a] σ (some (.int r.1), r.2) := zM_of rfl hi (Nat.le_of_ble_eq_true rfl) (fun Θ hl hw C => by
  obtain ⟨Θ1, Θ2, Θ3, Θ4, Θ5⟩ := Θ
  cases hw
  exact p12_rank C hkd  hf rfl)
/-! LastLoafModel.beats -/
theorem dX12_beats_0 : decode cX12_beats 0 = .ok (.aload_n 0, 1) := by decide +kernel
theorem dX12_beats_1 : decode cX12_beats 1 = .ok (.iload_n 1, 1) := by decide +kernel
theorem dX12_beats_2 : decode cX12_beats 2 = .ok (.iload_n 2, 1) := by decide +kernel
theorem dX12_beats_3 : decode cX12_beats 3 = .ok (.invokevirtual 362, 3) := by decide +kernel
theorem dX12_beats_6 : decode cX12_beats 6 = .ok (.aload_n 0, 1) := by decide +kernel
theorem dX12_beats_7 : decode cX12_beats 7 = .ok (.getfield 65, 3) := by decide +kernel
theorem dX12_beats_10 : decode cX12_beats 10 = .ok (.ifCond .le 5, 3) := by decide +kernel
theorem dX12_beats_13 : decode cX12_beats 13 = .ok (.iconst 0, 1) := by decide +kernel
theorem dX12_beats_14 : decode cX12_beats 14 = .ok (.ireturn, 1) := by decide +kernel
theorem dX12_beats_15 : decode cX12_beats 15 = .ok (.aload_n 0, 1) := by decide +kernel
theorem dX12_beats_16 : decode cX12_beats 16 = .ok (.invokevirtual 320, 3) := by decide +kernel
theorem dX12_beats_19 : decode cX12_beats 19 = .ok (.aload_n 0, 1) := by decide +kernel
theorem dX12_beats_20 : decode cX12_beats 20 = .ok (.iload_n 1, 1) := by decide +kernel
theorem dX12_beats_21 : decode cX12_beats 21 = .ok (.iload_n 2, 1) := by decide +kernel
theorem dX12_beats_22 : decode cX12_beats 22 = .ok (.invokevirtual 289, 3) := by decide +kernel
theorem dX12_beats_25 : decode cX12_beats 25 = .ok (.ireturn, 1) := by decide +kernel
def q12_beats (σ : St) (p_a : Int32) (o_a : Int32) : Option (Bool × St) :=
  Option.bind (q12_areTwo σ p_a o_a) fun x1_ =>
  if 0 < (x1_ 0 0) then (some (false, x1_)) else
  Option.bind (q12_looks x1_) fun x7_ =>
  Option.bind (q12_doesBeat x7_ p_a o_a) fun x9_ =>
  some (x9_, x7_)
abbrev rm12_beats : Room := { frames := 77, cells := 0, slots := 0, locals := 4194 }
set_option maxHeartbeats 4000000 in
set_option maxRecDepth 100000 in
theorem p12_beats {Θ : Tz} {σ : St} {ρ : Option Value × St} (C : Zc Θ cX12_beats 3 RX12 (some .boolean) rm12_beats) (hkd : Θ.2.2.2.2.1 = kdM) {p_a : Int32} {o_a : Int32} {r : (Bool × St)} (hf : q12_beats σ p_a o_a = some r) (hρ : ρ = (some (.int (b2i r.1)), r.2)) : Z Θ 3 0 0 (zQ Θ ρ) σ 0 [(0, .ref (zA Θ 0)), (1, .int p_a), (2, .int o_a)] [] := by
  unfold q12_beats at hf
  refine z_aload_n C 0 dX12_beats_0 rfl rfl ?_
  refine z_iload_n C 1 dX12_beats_1 rfl rfl ?_
  refine z_iload_n C 2 dX12_beats_2 rfl rfl ?_
  obtain ⟨x1_, h2_, hf⟩ := ob hf
  refine cr12_362 (p_a := p_a) (o_a := o_a) C hkd  h2_ ⟨(Nat.le_of_ble_eq_true rfl), (Nat.le_of_ble_eq_true rfl)⟩ (Nat.le_of_ble_eq_true rfl) ⟨Nat.zero_le _, Nat.zero_le _⟩ dX12_beats_3 ?_
  have K3_ : 0 < (x1_ 0 0) → Z Θ 3 0 0 (zQ Θ ρ) x1_ 13 [(0, .ref (zA Θ 0)), (1, .int p_a), (2, .int o_a)] [] := by
    intro h6_
    rw [if_pos h6_] at hf
    refine z_iconst (v := 0) C dX12_beats_13 ic_0 ?_
    cases hf
    subst hρ
    exact z_zret C (b2i_narrow _) dX12_beats_14
  suffices K4_ : ¬ (0 < (x1_ 0 0)) → Z Θ 3 0 0 (zQ Θ ρ) x1_ 15 [(0, .ref (zA Θ 0)), (1, .int p_a), (2, .int o_a)] [] by
    refine z_aload_n C 0 dX12_beats_6 rfl rfl ?_
    refine fg12_65 C hkd dX12_beats_7 ?_
    refine c0_gt_f C 15 dX12_beats_10 (by decide) (fun h5_ => ?_) (fun h5_ => ?_)
    · exact K3_ h5_
    · exact K4_ h5_
  intro h6_
  rw [if_neg h6_] at hf
  refine z_aload_n C 0 dX12_beats_15 rfl rfl ?_
  obtain ⟨x7_, h8_, hf⟩ := ob hf
  refine cr12_320 C hkd  h8_ ⟨(Nat.le_of_ble_eq_true rfl), (Nat.le_of_ble_eq_true rfl)⟩ (Nat.le_of_ble_eq_true rfl) ⟨Nat.zero_le _, Nat.zero_le _⟩ dX12_beats_16 ?_
  refine z_aload_n C 0 dX12_beats_19 rfl rfl ?_
  refine z_iload_n C 1 dX12_beats_20 rfl rfl ?_
  refine z_iload_n C 2 dX12_beats_21 rfl rfl ?_
  obtain ⟨x9_, h10_, hf⟩ := ob hf
  refine cr12_289 (a_a := p_a) (b_a := o_a) C hkd  h10_ ⟨(Nat.le_of_ble_eq_true rfl), (Nat.le_of_ble_eq_true rfl)⟩ (Nat.le_of_ble_eq_true rfl) ⟨Nat.zero_le _, Nat.zero_le _⟩ dX12_beats_22 ?_
  cases hf
  subst hρ
  exact z_zret C (b2i_narrow _) dX12_beats_25
theorem c12_beats {l : Launch} {kd : List KD} {w : Wp} {σ : St} {p_a : Int32} {o_a : Int32} (hkd : kd = kdM) (hi : zI kd w) {r : (Bool × St)} (hf : q12_beats σ p_a o_a = some r) : zM l kd w yX12_beats cX12_beats 3 (some .boolean) rm12_beats [.ref (w.2.2.1 0), .int p_a, .int o_a] σ (some (.int (b2i r.1)), r.2) := zM_of rfl hi (Nat.le_of_ble_eq_true rfl) (fun Θ hl hw C => by
  obtain ⟨Θ1, Θ2, Θ3, Θ4, Θ5⟩ := Θ
  cases hw
  exact p12_beats C hkd  hf rfl)

/-! LastLoafModel.personLine -/
theorem bp_6 : (Int8.ofInt (6)).toInt32 = 6 := by decide +kernel
theorem w_9_4 : Cond.code ({ cls := "LastLoafModel", name := "after", desc := "(Ljava/lang/String;II)I" } : MethodName) prog_14_method_23_code (4 : Nat) (Option.some ClassFile.FieldType.int) ∈ TB := tb_in (lwt_9 (List.mem_of_getElem? (i := 4) (by decide +kernel))) rfl
theorem w_9_1 : Cond.methodLink "LastLoafModel" (121 : Nat) ({ cls := "LastLoafModel", name := "after", desc := "(Ljava/lang/String;II)I" } : MethodName) ∈ TB := tb_in (lwt_9 (List.mem_of_getElem? (i := 1) (by decide +kernel))) rfl
theorem w_9_3 : Cond.instanceMethod ({ cls := "LastLoafModel", name := "after", desc := "(Ljava/lang/String;II)I" } : MethodName) ∈ TB := tb_in (lwt_9 (List.mem_of_getElem? (i := 3) (by decide +kernel))) rfl
theorem ws_LastLoafModel_after_Ljava_lang_String_II_I : Cond.selects "LastLoafModel" (⟨"LastLoafModel", "after", "(Ljava/lang/String;II)I"⟩ : MethodName) (⟨"LastLoafModel", "after", "(Ljava/lang/String;II)I"⟩ : MethodName) ∈ TB := tb_in (List.mem_append_left _ (List.mem_of_getElem? (i := 36) (by decide +kernel))) rfl
theorem cr12_121 {Θ : Tz} {cc : ByteArray} {nL kc ks : Nat} {ret : Option FieldType} {rm : Room} {Q : State → Prop} {σ : St} {pc : Nat} {lv : List (Nat × Value)} {st : List Value} (C : Zc Θ cc nL RX12 ret rm) (hkd : Θ.2.2.2.2.1 = kdM) {w_a : Nat} {low_a : Int32} {high_a : Int32} (h_w : w_a < 46) {r : Int32 × St} (hx : q12_after σ w_a low_a high_a = some r) (hrm : rm12_after.frames + 1 ≤ rm.frames ∧ 8 + (4 + 11) + rm12_after.locals ≤ rm.locals) (hcat : (st.map fun v => v.category).sum ≤ 8) (hk : kc ≤ rm.cells ∧ ks ≤ rm.slots) (hd : decode cc pc = .ok (.invokevirtual 121, 3)) (kk : Z Θ nL kc ks Q r.2 (pc + 3) lv (.int r.1 :: st)) : Z Θ nL kc ks Q σ pc lv (.int high_a :: .int low_a :: .ref (zK Θ w_a) :: .ref (zA Θ 0) :: st) := z_callV C 0 [.ref (zK Θ w_a), .int low_a, .int high_a] (some (.int r.1), r.2) 3 (kM_0 hkd) rfl (c12_after (w_a := w_a) (low_a := low_a) (high_a := high_a) hkd (zc_inj C) h_w hx) w_9_4 w_9_1 w_9_3 ws_LastLoafModel_after_Ljava_lang_String_II_I w_1_14 ⟨rfl, rfl, hrm.1, hrm.2⟩ (by decide +kernel) rfl rfl hcat hk hd kk
theorem w_9_12 : Cond.code ({ cls := "LastLoafModel", name := "lays", desc := "(III)V" } : MethodName) prog_14_method_9_code (4 : Nat) (Option.none : Option ClassFile.FieldType) ∈ TB := tb_in (lwt_9 (List.mem_of_getElem? (i := 12) (by decide +kernel))) rfl
theorem w_9_9 : Cond.methodLink "LastLoafModel" (135 : Nat) ({ cls := "LastLoafModel", name := "lays", desc := "(III)V" } : MethodName) ∈ TB := tb_in (lwt_9 (List.mem_of_getElem? (i := 9) (by decide +kernel))) rfl
theorem w_9_11 : Cond.instanceMethod ({ cls := "LastLoafModel", name := "lays", desc := "(III)V" } : MethodName) ∈ TB := tb_in (lwt_9 (List.mem_of_getElem? (i := 11) (by decide +kernel))) rfl
theorem ws_LastLoafModel_lays_III_V : Cond.selects "LastLoafModel" (⟨"LastLoafModel", "lays", "(III)V"⟩ : MethodName) (⟨"LastLoafModel", "lays", "(III)V"⟩ : MethodName) ∈ TB := tb_in (List.mem_append_left _ (List.mem_of_getElem? (i := 37) (by decide +kernel))) rfl
theorem cr12_135 {Θ : Tz} {cc : ByteArray} {nL kc ks : Nat} {ret : Option FieldType} {rm : Room} {Q : State → Prop} {σ : St} {pc : Nat} {lv : List (Nat × Value)} {st : List Value} (C : Zc Θ cc nL RX12 ret rm) (hkd : Θ.2.2.2.2.1 = kdM) {p_a : Int32} {what_a : Int32} {v_a : Int32} {r : St} (hx : q12_lays σ p_a what_a v_a = some r) (hrm : rm12_lays.frames + 1 ≤ rm.frames ∧ 8 + (4 + 11) + rm12_lays.locals ≤ rm.locals) (hcat : (st.map fun v => v.category).sum ≤ 8) (hk : kc ≤ rm.cells ∧ ks ≤ rm.slots) (hd : decode cc pc = .ok (.invokevirtual 135, 3)) (kk : Z Θ nL kc ks Q r (pc + 3) lv st) : Z Θ nL kc ks Q σ pc lv (.int v_a :: .int what_a :: .int p_a :: .ref (zA Θ 0) :: st) := z_callV C 0 [.int p_a, .int what_a, .int v_a] (none, r) 3 (kM_0 hkd) rfl (c12_lays (p_a := p_a) (what_a := what_a) (v_a := v_a) hkd (zc_inj C) hx) w_9_12 w_9_9 w_9_11 ws_LastLoafModel_lays_III_V w_1_14 ⟨rfl, rfl, hrm.1, hrm.2⟩ (by decide +kernel) rfl rfl hcat hk hd kk
theorem ic_5 : Int32.ofInt (5) = 5 := by decide +kernel
theorem dX12_personLine_0 : decode cX12_personLine 0 = .ok (.aload_n 0, 1) := by decide +kernel
theorem dX12_personLine_1 : decode cX12_personLine 1 = .ok (.getfield 7, 3) := by decide +kernel
theorem dX12_personLine_4 : decode cX12_personLine 4 = .ok (.iconst 3, 1) := by decide +kernel
theorem dX12_personLine_5 : decode cX12_personLine 5 = .ok (.iaload, 1) := by decide +kernel
theorem dX12_personLine_6 : decode cX12_personLine 6 = .ok (.bipush 6, 2) := by decide +kernel
theorem dX12_personLine_8 : decode cX12_personLine 8 = .ok (.if_icmp .ne 8, 3) := by decide +kernel
theorem dX12_personLine_11 : decode cX12_personLine 11 = .ok (.aload_n 0, 1) := by decide +kernel
theorem dX12_personLine_12 : decode cX12_personLine 12 = .ok (.iload_n 1, 1) := by decide +kernel
theorem dX12_personLine_13 : decode cX12_personLine 13 = .ok (.invokevirtual 108, 3) := by decide +kernel
theorem dX12_personLine_16 : decode cX12_personLine 16 = .ok (.aload_n 0, 1) := by decide +kernel
theorem dX12_personLine_17 : decode cX12_personLine 17 = .ok (.ldc 119, 2) := by decide +kernel
theorem dX12_personLine_19 : decode cX12_personLine 19 = .ok (.iconst 0, 1) := by decide +kernel
theorem dX12_personLine_20 : decode cX12_personLine 20 = .ok (.bipush 9, 2) := by decide +kernel
theorem dX12_personLine_22 : decode cX12_personLine 22 = .ok (.invokevirtual 121, 3) := by decide +kernel
theorem dX12_personLine_25 : decode cX12_personLine 25 = .ok (.istore_n 2, 1) := by decide +kernel
theorem dX12_personLine_26 : decode cX12_personLine 26 = .ok (.iconst 2, 1) := by decide +kernel
theorem dX12_personLine_27 : decode cX12_personLine 27 = .ok (.istore_n 3, 1) := by decide +kernel
theorem dX12_personLine_28 : decode cX12_personLine 28 = .ok (.aload_n 0, 1) := by decide +kernel
theorem dX12_personLine_29 : decode cX12_personLine 29 = .ok (.getfield 25, 3) := by decide +kernel
theorem dX12_personLine_32 : decode cX12_personLine 32 = .ok (.iconst (-1), 1) := by decide +kernel
theorem dX12_personLine_33 : decode cX12_personLine 33 = .ok (.if_icmp .ne 53, 3) := by decide +kernel
theorem dX12_personLine_36 : decode cX12_personLine 36 = .ok (.aload_n 0, 1) := by decide +kernel
theorem dX12_personLine_37 : decode cX12_personLine 37 = .ok (.ldc 125, 2) := by decide +kernel
theorem dX12_personLine_39 : decode cX12_personLine 39 = .ok (.invokevirtual 112, 3) := by decide +kernel
theorem dX12_personLine_42 : decode cX12_personLine 42 = .ok (.ifCond .eq 44, 3) := by decide +kernel
theorem dX12_personLine_45 : decode cX12_personLine 45 = .ok (.aload_n 0, 1) := by decide +kernel
theorem dX12_personLine_46 : decode cX12_personLine 46 = .ok (.ldc 127, 2) := by decide +kernel
theorem dX12_personLine_48 : decode cX12_personLine 48 = .ok (.invokevirtual 112, 3) := by decide +kernel
theorem dX12_personLine_51 : decode cX12_personLine 51 = .ok (.ifCond .eq 7, 3) := by decide +kernel
theorem dX12_personLine_54 : decode cX12_personLine 54 = .ok (.iconst 0, 1) := by decide +kernel
theorem dX12_personLine_55 : decode cX12_personLine 55 = .ok (.goto 17, 3) := by decide +kernel
theorem dX12_personLine_58 : decode cX12_personLine 58 = .ok (.aload_n 0, 1) := by decide +kernel
theorem dX12_personLine_59 : decode cX12_personLine 59 = .ok (.ldc 129, 2) := by decide +kernel
theorem dX12_personLine_61 : decode cX12_personLine 61 = .ok (.invokevirtual 112, 3) := by decide +kernel
theorem dX12_personLine_64 : decode cX12_personLine 64 = .ok (.ifCond .eq 7, 3) := by decide +kernel
theorem dX12_personLine_67 : decode cX12_personLine 67 = .ok (.iconst 1, 1) := by decide +kernel
theorem dX12_personLine_68 : decode cX12_personLine 68 = .ok (.goto 4, 3) := by decide +kernel
theorem dX12_personLine_71 : decode cX12_personLine 71 = .ok (.iconst 2, 1) := by decide +kernel
theorem dX12_personLine_72 : decode cX12_personLine 72 = .ok (.istore_n 3, 1) := by decide +kernel
theorem dX12_personLine_73 : decode cX12_personLine 73 = .ok (.iload_n 3, 1) := by decide +kernel
theorem dX12_personLine_74 : decode cX12_personLine 74 = .ok (.iconst 2, 1) := by decide +kernel
theorem dX12_personLine_75 : decode cX12_personLine 75 = .ok (.if_icmp .ne 11, 3) := by decide +kernel
theorem dX12_personLine_78 : decode cX12_personLine 78 = .ok (.aload_n 0, 1) := by decide +kernel
theorem dX12_personLine_79 : decode cX12_personLine 79 = .ok (.aload_n 0, 1) := by decide +kernel
theorem dX12_personLine_80 : decode cX12_personLine 80 = .ok (.invokevirtual 105, 3) := by decide +kernel
theorem dX12_personLine_83 : decode cX12_personLine 83 = .ok (.invokevirtual 108, 3) := by decide +kernel
theorem dX12_personLine_86 : decode cX12_personLine 86 = .ok (.aload_n 0, 1) := by decide +kernel
theorem dX12_personLine_87 : decode cX12_personLine 87 = .ok (.getfield 25, 3) := by decide +kernel
theorem dX12_personLine_90 : decode cX12_personLine 90 = .ok (.iconst (-1), 1) := by decide +kernel
theorem dX12_personLine_91 : decode cX12_personLine 91 = .ok (.if_icmp .ne 22, 3) := by decide +kernel
theorem dX12_personLine_94 : decode cX12_personLine 94 = .ok (.aload_n 0, 1) := by decide +kernel
theorem dX12_personLine_95 : decode cX12_personLine 95 = .ok (.ldc 131, 2) := by decide +kernel
theorem dX12_personLine_97 : decode cX12_personLine 97 = .ok (.invokevirtual 112, 3) := by decide +kernel
theorem dX12_personLine_100 : decode cX12_personLine 100 = .ok (.ifCond .eq 13, 3) := by decide +kernel
theorem dX12_personLine_103 : decode cX12_personLine 103 = .ok (.aload_n 0, 1) := by decide +kernel
theorem dX12_personLine_104 : decode cX12_personLine 104 = .ok (.iconst 0, 1) := by decide +kernel
theorem dX12_personLine_105 : decode cX12_personLine 105 = .ok (.bipush 9, 2) := by decide +kernel
theorem dX12_personLine_107 : decode cX12_personLine 107 = .ok (.invokevirtual 116, 3) := by decide +kernel
theorem dX12_personLine_110 : decode cX12_personLine 110 = .ok (.goto 4, 3) := by decide +kernel
theorem dX12_personLine_113 : decode cX12_personLine 113 = .ok (.iconst 0, 1) := by decide +kernel
theorem dX12_personLine_114 : decode cX12_personLine 114 = .ok (.istore 4, 2) := by decide +kernel
theorem dX12_personLine_116 : decode cX12_personLine 116 = .ok (.aload_n 0, 1) := by decide +kernel
theorem dX12_personLine_117 : decode cX12_personLine 117 = .ok (.getfield 25, 3) := by decide +kernel
theorem dX12_personLine_120 : decode cX12_personLine 120 = .ok (.iconst (-1), 1) := by decide +kernel
theorem dX12_personLine_121 : decode cX12_personLine 121 = .ok (.if_icmp .ne 16, 3) := by decide +kernel
theorem dX12_personLine_124 : decode cX12_personLine 124 = .ok (.aload_n 0, 1) := by decide +kernel
theorem dX12_personLine_125 : decode cX12_personLine 125 = .ok (.ldc 133, 2) := by decide +kernel
theorem dX12_personLine_127 : decode cX12_personLine 127 = .ok (.invokevirtual 112, 3) := by decide +kernel
theorem dX12_personLine_130 : decode cX12_personLine 130 = .ok (.ifCond .eq 7, 3) := by decide +kernel
theorem dX12_personLine_133 : decode cX12_personLine 133 = .ok (.iconst 1, 1) := by decide +kernel
theorem dX12_personLine_134 : decode cX12_personLine 134 = .ok (.goto 4, 3) := by decide +kernel
theorem dX12_personLine_137 : decode cX12_personLine 137 = .ok (.iconst 0, 1) := by decide +kernel
theorem dX12_personLine_138 : decode cX12_personLine 138 = .ok (.istore 5, 2) := by decide +kernel
theorem dX12_personLine_140 : decode cX12_personLine 140 = .ok (.aload_n 0, 1) := by decide +kernel
theorem dX12_personLine_141 : decode cX12_personLine 141 = .ok (.getfield 25, 3) := by decide +kernel
theorem dX12_personLine_144 : decode cX12_personLine 144 = .ok (.iconst (-1), 1) := by decide +kernel
theorem dX12_personLine_145 : decode cX12_personLine 145 = .ok (.if_icmp .eq 4, 3) := by decide +kernel
theorem dX12_personLine_148 : decode cX12_personLine 148 = .ok (.return_, 1) := by decide +kernel
theorem dX12_personLine_149 : decode cX12_personLine 149 = .ok (.aload_n 0, 1) := by decide +kernel
theorem dX12_personLine_150 : decode cX12_personLine 150 = .ok (.getfield 7, 3) := by decide +kernel
theorem dX12_personLine_153 : decode cX12_personLine 153 = .ok (.iconst 3, 1) := by decide +kernel
theorem dX12_personLine_154 : decode cX12_personLine 154 = .ok (.iaload, 1) := by decide +kernel
theorem dX12_personLine_155 : decode cX12_personLine 155 = .ok (.istore 6, 2) := by decide +kernel
theorem dX12_personLine_157 : decode cX12_personLine 157 = .ok (.iconst 0, 1) := by decide +kernel
theorem dX12_personLine_158 : decode cX12_personLine 158 = .ok (.istore 7, 2) := by decide +kernel
theorem dX12_personLine_160 : decode cX12_personLine 160 = .ok (.iload 7, 2) := by decide +kernel
theorem dX12_personLine_162 : decode cX12_personLine 162 = .ok (.bipush 7, 2) := by decide +kernel
theorem dX12_personLine_164 : decode cX12_personLine 164 = .ok (.if_icmp .ge 18, 3) := by decide +kernel
theorem dX12_personLine_167 : decode cX12_personLine 167 = .ok (.aload_n 0, 1) := by decide +kernel
theorem dX12_personLine_168 : decode cX12_personLine 168 = .ok (.iload 6, 2) := by decide +kernel
theorem dX12_personLine_170 : decode cX12_personLine 170 = .ok (.iload 7, 2) := by decide +kernel
theorem dX12_personLine_172 : decode cX12_personLine 172 = .ok (.iconst 0, 1) := by decide +kernel
theorem dX12_personLine_173 : decode cX12_personLine 173 = .ok (.invokevirtual 135, 3) := by decide +kernel
theorem dX12_personLine_176 : decode cX12_personLine 176 = .ok (.iinc 7 1, 3) := by decide +kernel
theorem dX12_personLine_179 : decode cX12_personLine 179 = .ok (.goto (-19), 3) := by decide +kernel
theorem dX12_personLine_182 : decode cX12_personLine 182 = .ok (.aload_n 0, 1) := by decide +kernel
theorem dX12_personLine_183 : decode cX12_personLine 183 = .ok (.iload 6, 2) := by decide +kernel
theorem dX12_personLine_185 : decode cX12_personLine 185 = .ok (.iconst 0, 1) := by decide +kernel
theorem dX12_personLine_186 : decode cX12_personLine 186 = .ok (.iload_n 2, 1) := by decide +kernel
theorem dX12_personLine_187 : decode cX12_personLine 187 = .ok (.invokevirtual 135, 3) := by decide +kernel
theorem dX12_personLine_190 : decode cX12_personLine 190 = .ok (.aload_n 0, 1) := by decide +kernel
theorem dX12_personLine_191 : decode cX12_personLine 191 = .ok (.iload 6, 2) := by decide +kernel
theorem dX12_personLine_193 : decode cX12_personLine 193 = .ok (.iconst 1, 1) := by decide +kernel
theorem dX12_personLine_194 : decode cX12_personLine 194 = .ok (.iload_n 3, 1) := by decide +kernel
theorem dX12_personLine_195 : decode cX12_personLine 195 = .ok (.invokevirtual 135, 3) := by decide +kernel
theorem dX12_personLine_198 : decode cX12_personLine 198 = .ok (.aload_n 0, 1) := by decide +kernel
theorem dX12_personLine_199 : decode cX12_personLine 199 = .ok (.iload 6, 2) := by decide +kernel
theorem dX12_personLine_201 : decode cX12_personLine 201 = .ok (.iconst 2, 1) := by decide +kernel
theorem dX12_personLine_202 : decode cX12_personLine 202 = .ok (.iload 4, 2) := by decide +kernel
theorem dX12_personLine_204 : decode cX12_personLine 204 = .ok (.invokevirtual 135, 3) := by decide +kernel
theorem dX12_personLine_207 : decode cX12_personLine 207 = .ok (.aload_n 0, 1) := by decide +kernel
theorem dX12_personLine_208 : decode cX12_personLine 208 = .ok (.iload 6, 2) := by decide +kernel
theorem dX12_personLine_210 : decode cX12_personLine 210 = .ok (.iconst 3, 1) := by decide +kernel
theorem dX12_personLine_211 : decode cX12_personLine 211 = .ok (.iload 5, 2) := by decide +kernel
theorem dX12_personLine_213 : decode cX12_personLine 213 = .ok (.ifCond .eq 7, 3) := by decide +kernel
theorem dX12_personLine_216 : decode cX12_personLine 216 = .ok (.iconst 1, 1) := by decide +kernel
theorem dX12_personLine_217 : decode cX12_personLine 217 = .ok (.goto 4, 3) := by decide +kernel
theorem dX12_personLine_220 : decode cX12_personLine 220 = .ok (.iconst 0, 1) := by decide +kernel
theorem dX12_personLine_221 : decode cX12_personLine 221 = .ok (.invokevirtual 135, 3) := by decide +kernel
theorem dX12_personLine_224 : decode cX12_personLine 224 = .ok (.iconst 0, 1) := by decide +kernel
theorem dX12_personLine_225 : decode cX12_personLine 225 = .ok (.istore 7, 2) := by decide +kernel
theorem dX12_personLine_227 : decode cX12_personLine 227 = .ok (.iload 7, 2) := by decide +kernel
theorem dX12_personLine_229 : decode cX12_personLine 229 = .ok (.bipush 6, 2) := by decide +kernel
theorem dX12_personLine_231 : decode cX12_personLine 231 = .ok (.if_icmp .ge 43, 3) := by decide +kernel
theorem dX12_personLine_234 : decode cX12_personLine 234 = .ok (.aload_n 0, 1) := by decide +kernel
theorem dX12_personLine_235 : decode cX12_personLine 235 = .ok (.getfield 7, 3) := by decide +kernel
theorem dX12_personLine_238 : decode cX12_personLine 238 = .ok (.bipush 63, 2) := by decide +kernel
theorem dX12_personLine_240 : decode cX12_personLine 240 = .ok (.bipush 7, 2) := by decide +kernel
theorem dX12_personLine_242 : decode cX12_personLine 242 = .ok (.iload 6, 2) := by decide +kernel
theorem dX12_personLine_244 : decode cX12_personLine 244 = .ok (.imul, 1) := by decide +kernel
theorem dX12_personLine_245 : decode cX12_personLine 245 = .ok (.iadd, 1) := by decide +kernel
theorem dX12_personLine_246 : decode cX12_personLine 246 = .ok (.iload 7, 2) := by decide +kernel
theorem dX12_personLine_248 : decode cX12_personLine 248 = .ok (.iadd, 1) := by decide +kernel
theorem dX12_personLine_249 : decode cX12_personLine 249 = .ok (.iconst 5, 1) := by decide +kernel
theorem dX12_personLine_250 : decode cX12_personLine 250 = .ok (.iastore, 1) := by decide +kernel
theorem dX12_personLine_251 : decode cX12_personLine 251 = .ok (.aload_n 0, 1) := by decide +kernel
theorem dX12_personLine_252 : decode cX12_personLine 252 = .ok (.getfield 7, 3) := by decide +kernel
theorem dX12_personLine_255 : decode cX12_personLine 255 = .ok (.bipush 63, 2) := by decide +kernel
theorem dX12_personLine_257 : decode cX12_personLine 257 = .ok (.bipush 7, 2) := by decide +kernel
theorem dX12_personLine_259 : decode cX12_personLine 259 = .ok (.iload 7, 2) := by decide +kernel
theorem dX12_personLine_261 : decode cX12_personLine 261 = .ok (.imul, 1) := by decide +kernel
theorem dX12_personLine_262 : decode cX12_personLine 262 = .ok (.iadd, 1) := by decide +kernel
theorem dX12_personLine_263 : decode cX12_personLine 263 = .ok (.iload 6, 2) := by decide +kernel
theorem dX12_personLine_265 : decode cX12_personLine 265 = .ok (.iadd, 1) := by decide +kernel
theorem dX12_personLine_266 : decode cX12_personLine 266 = .ok (.iconst 5, 1) := by decide +kernel
theorem dX12_personLine_267 : decode cX12_personLine 267 = .ok (.iastore, 1) := by decide +kernel
theorem dX12_personLine_268 : decode cX12_personLine 268 = .ok (.iinc 7 1, 3) := by decide +kernel
theorem dX12_personLine_271 : decode cX12_personLine 271 = .ok (.goto (-44), 3) := by decide +kernel
theorem dX12_personLine_274 : decode cX12_personLine 274 = .ok (.aload_n 0, 1) := by decide +kernel
theorem dX12_personLine_275 : decode cX12_personLine 275 = .ok (.getfield 7, 3) := by decide +kernel
theorem dX12_personLine_278 : decode cX12_personLine 278 = .ok (.iconst 3, 1) := by decide +kernel
theorem dX12_personLine_279 : decode cX12_personLine 279 = .ok (.dup2, 1) := by decide +kernel
theorem dX12_personLine_280 : decode cX12_personLine 280 = .ok (.iaload, 1) := by decide +kernel
theorem dX12_personLine_281 : decode cX12_personLine 281 = .ok (.iconst 1, 1) := by decide +kernel
theorem dX12_personLine_282 : decode cX12_personLine 282 = .ok (.iadd, 1) := by decide +kernel
theorem dX12_personLine_283 : decode cX12_personLine 283 = .ok (.iastore, 1) := by decide +kernel
theorem dX12_personLine_284 : decode cX12_personLine 284 = .ok (.return_, 1) := by decide +kernel
def q12_personLine (σ : St) (begin_a : Int32) : Option St :=
  Option.bind (Option.bind (ag σ 1 752 3) fun x6_ =>
  if x6_ = 6 then (Option.bind (q12_wrong σ begin_a) fun x10_ =>
  some (x10_)) else (some (σ))) fun y1_ =>
  Option.bind (q12_after y1_ 1 0 9) fun x12_ =>
  Option.bind (Option.bind (if (x12_.2 0 12) = (-1) then (Option.bind (q12_has x12_.2 2) fun x22_ =>
  if x22_.1 = true then (some (true, x22_.2)) else (some (false, x22_.2))) else (some (false, x12_.2))) fun t19_ =>
  if t19_.1 = true then (Option.bind (Option.bind (q12_has t19_.2 3) fun x31_ =>
  if x31_.1 = true then (some ((0 : Int32), x31_.2)) else (Option.bind (Option.bind (q12_has x31_.2 4) fun x39_ =>
  if x39_.1 = true then (some ((1 : Int32), x39_.2)) else (some ((2 : Int32), x39_.2))) fun x34_ =>
  some (x34_.1, x34_.2))) fun x26_ =>
  Option.bind (if x26_.1 = 2 then (Option.bind (q12_here x26_.2) fun x51_ =>
  Option.bind (q12_wrong x51_.2 x51_.1) fun x53_ =>
  some (x53_)) else (some (x26_.2))) fun y44_ =>
  some (x26_.1, y44_)) else (some ((2 : Int32), t19_.2))) fun y14_ =>
  Option.bind (Option.bind (if (y14_.2 0 12) = (-1) then (Option.bind (q12_has y14_.2 5) fun x63_ =>
  if x63_.1 = true then (some (true, x63_.2)) else (some (false, x63_.2))) else (some (false, y14_.2))) fun t60_ =>
  if t60_.1 = true then (Option.bind (q12_figures t60_.2 0 9) fun x66_ =>
  some (x66_.1, x66_.2)) else (some ((0 : Int32), t60_.2))) fun x55_ =>
  Option.bind (Option.bind (if (x55_.2 0 12) = (-1) then (Option.bind (q12_has x55_.2 6) fun x77_ =>
  if x77_.1 = true then (some (true, x77_.2)) else (some (false, x77_.2))) else (some (false, x55_.2))) fun t74_ =>
  if t74_.1 = true then (some (true, t74_.2)) else (some (false, t74_.2))) fun x69_ =>
  if ¬ (x69_.2 0 12) = (-1) then (some x69_.2) else
  Option.bind (ag x69_.2 1 752 3) fun x85_ =>
  Option.bind (loop2 (fun rec90_ (k93_ : Int32) (σ94_ : St) =>
  if k93_ < 7 then
  Option.bind (q12_lays σ94_ x85_ k93_ 0) fun x101_ =>
  lt (k93_ + 1) fun k103_ =>
  rec90_ k103_ x101_
  else (some (k93_, σ94_))) fuelN (0 : Int32) x69_.2) fun y87_ =>
  Option.bind (q12_lays y87_.2 x85_ 0 x12_.1) fun x105_ =>
  Option.bind (q12_lays x105_ x85_ 1 y14_.1) fun x107_ =>
  Option.bind (q12_lays x107_ x85_ 2 x55_.1) fun x109_ =>
  Option.bind (q12_lays x109_ x85_ 3 (if x69_.1 = true then 1 else 0)) fun x116_ =>
  Option.bind (loop2 (fun rec121_ (o124_ : Int32) (σ125_ : St) =>
  if o124_ < 6 then
  Option.bind (sa σ125_ 1 752 ((63 + (7 * x85_)) + o124_) 5) fun σ132_ =>
  Option.bind (sa σ132_ 1 752 ((63 + (7 * o124_)) + x85_) 5) fun σ134_ =>
  lt (o124_ + 1) fun o136_ =>
  rec121_ o136_ σ134_
  else (some (o124_, σ125_))) fuelN (0 : Int32) x116_) fun y118_ =>
  Option.bind (ag y118_.2 1 752 3) fun x138_ =>
  Option.bind (sa y118_.2 1 752 3 (x138_ + 1)) fun σ140_ =>
  some σ140_
abbrev rm12_personLine : Room := { frames := 6, cells := 0, slots := 0, locals := 131 }
set_option maxHeartbeats 4000000 in
set_option maxRecDepth 100000 in
theorem p12_personLine {Θ : Tz} {σ : St} {ρ : Option Value × St} (C : Zc Θ cX12_personLine 8 RX12 none rm12_personLine) (hkd : Θ.2.2.2.2.1 = kdM) {begin_a : Int32} {r : St} (hf : q12_personLine σ begin_a = some r) (hρ : ρ = (none, r)) : Z Θ 8 0 0 (zQ Θ ρ) σ 0 [(0, .ref (zA Θ 0)), (1, .int begin_a)] [] := by
  unfold q12_personLine at hf
  obtain ⟨y1_, h2_, hf⟩ := ob hf
  suffices K3_ : Z Θ 8 0 0 (zQ Θ ρ) y1_ 16 [(0, .ref (zA Θ 0)), (1, .int begin_a)] [] by
    refine z_aload_n C 0 dX12_personLine_0 rfl rfl ?_
    refine fg12_7 C hkd dX12_personLine_1 ?_
    refine z_iconst (v := 3) C dX12_personLine_4 ic_3 ?_
    obtain ⟨x6_, h7_, h2_⟩ := ob h2_
    refine z_ag C h7_ (kM_1 hkd) dX12_personLine_5 ?_
    refine z_bipush (v := 6) C dX12_personLine_6 bp_6 ?_
    have K4_ : x6_ = 6 → Z Θ 8 0 0 (zQ Θ ρ) σ 11 [(0, .ref (zA Θ 0)), (1, .int begin_a)] [] := by
      intro h9_
      rw [if_pos h9_] at h2_
      refine z_aload_n C 0 dX12_personLine_11 rfl rfl ?_
      refine z_iload_n C 1 dX12_personLine_12 rfl rfl ?_
      obtain ⟨x10_, h11_, h2_⟩ := ob h2_
      refine cr12_108 (where_a := begin_a) C hkd  h11_ ⟨(Nat.le_of_ble_eq_true rfl), (Nat.le_of_ble_eq_true rfl)⟩ (Nat.le_of_ble_eq_true rfl) ⟨Nat.zero_le _, Nat.zero_le _⟩ dX12_personLine_13 ?_
      cases h2_
      exact K3_
    have K5_ : ¬ (x6_ = 6) → Z Θ 8 0 0 (zQ Θ ρ) σ 16 [(0, .ref (zA Θ 0)), (1, .int begin_a)] [] := by
      intro h9_
      rw [if_neg h9_] at h2_
      cases h2_
      exact K3_
    refine c_eq_f C 16 dX12_personLine_8 (by decide) (fun h8_ => ?_) (fun h8_ => ?_)
    · exact K4_ h8_
    · exact K5_ h8_
  refine z_aload_n C 0 dX12_personLine_16 rfl rfl ?_
  refine z_ldcs (k := 1) (tx := "hunger") C (List.mem_of_getElem? (i := 56) rfl) dX12_personLine_17 ?_
  refine z_iconst (v := 0) C dX12_personLine_19 ic_0 ?_
  refine z_bipush (v := 9) C dX12_personLine_20 bp_9 ?_
  obtain ⟨x12_, h13_, hf⟩ := ob hf
  refine cr12_121 (w_a := 1) (low_a := 0) (high_a := 9) C hkd (Nat.le_of_ble_eq_true rfl) h13_ ⟨(Nat.le_of_ble_eq_true rfl), (Nat.le_of_ble_eq_true rfl)⟩ (Nat.le_of_ble_eq_true rfl) ⟨Nat.zero_le _, Nat.zero_le _⟩ dX12_personLine_22 ?_
  refine z_istN C dX12_personLine_25 rfl rfl (Nat.le_of_ble_eq_true rfl) rfl ?_
  refine z_iconst (v := 2) C dX12_personLine_26 ic_2 ?_
  refine z_istN C dX12_personLine_27 rfl rfl (Nat.le_of_ble_eq_true rfl) rfl ?_
  obtain ⟨y14_, h15_, hf⟩ := ob hf
  suffices K16_ : Z Θ 8 0 0 (zQ Θ ρ) y14_.2 86 [(0, .ref (zA Θ 0)), (1, .int begin_a), (2, .int x12_.1), (3, .int y14_.1)] [] by
    obtain ⟨t19_, h20_, h15_⟩ := ob h15_
    have K17_ : t19_.1 = true → Z Θ 8 0 0 (zQ Θ ρ) t19_.2 45 [(3, .int 2), (2, .int x12_.1), (0, .ref (zA Θ 0)), (1, .int begin_a)] [] := by
      intro h25_
      rw [if_pos h25_] at h15_
      obtain ⟨x26_, h27_, h15_⟩ := ob h15_
      suffices K28_ : Z Θ 8 0 0 (zQ Θ ρ) x26_.2 72 [(3, .int 2), (2, .int x12_.1), (0, .ref (zA Θ 0)), (1, .int begin_a)] [.int x26_.1] by
        refine z_aload_n C 2 dX12_personLine_45 rfl rfl ?_
        refine z_ldcs (k := 3) (tx := "crust") C (List.mem_of_getElem? (i := 64) rfl) dX12_personLine_46 ?_
        obtain ⟨x31_, h32_, h27_⟩ := ob h27_
        refine cr12_112 (w_a := 3) C hkd (Nat.le_of_ble_eq_true rfl) h32_ ⟨(Nat.le_of_ble_eq_true rfl), (Nat.le_of_ble_eq_true rfl)⟩ (Nat.le_of_ble_eq_true rfl) ⟨Nat.zero_le _, Nat.zero_le _⟩ dX12_personLine_48 ?_
        have K29_ : x31_.1 = true → Z Θ 8 0 0 (zQ Θ ρ) x31_.2 54 [(3, .int 2), (2, .int x12_.1), (0, .ref (zA Θ 0)), (1, .int begin_a)] [] := by
          intro h43_
          rw [if_pos h43_] at h27_
          refine z_iconst (v := 0) C dX12_personLine_54 ic_0 ?_
          refine z_goto C 72 dX12_personLine_55 (by decide) ?_
          cases h27_
          exact K28_
        have K30_ : ¬ (x31_.1 = true) → Z Θ 8 0 0 (zQ Θ ρ) x31_.2 58 [(3, .int 2), (2, .int x12_.1), (0, .ref (zA Θ 0)), (1, .int begin_a)] [] := by
          intro h43_
          rw [if_neg h43_] at h27_
          obtain ⟨x34_, h35_, h27_⟩ := ob h27_
          suffices K36_ : Z Θ 8 0 0 (zQ Θ ρ) x34_.2 72 [(3, .int 2), (2, .int x12_.1), (0, .ref (zA Θ 0)), (1, .int begin_a)] [.int x34_.1] by
            refine z_aload_n C 2 dX12_personLine_58 rfl rfl ?_
            refine z_ldcs (k := 4) (tx := "crumb") C (List.mem_of_getElem? (i := 65) rfl) dX12_personLine_59 ?_
            obtain ⟨x39_, h40_, h35_⟩ := ob h35_
            refine cr12_112 (w_a := 4) C hkd (Nat.le_of_ble_eq_true rfl) h40_ ⟨(Nat.le_of_ble_eq_true rfl), (Nat.le_of_ble_eq_true rfl)⟩ (Nat.le_of_ble_eq_true rfl) ⟨Nat.zero_le _, Nat.zero_le _⟩ dX12_personLine_61 ?_
            have K37_ : x39_.1 = true → Z Θ 8 0 0 (zQ Θ ρ) x39_.2 67 [(3, .int 2), (2, .int x12_.1), (0, .ref (zA Θ 0)), (1, .int begin_a)] [] := by
              intro h42_
              rw [if_pos h42_] at h35_
              refine z_iconst (v := 1) C dX12_personLine_67 ic_1 ?_
              refine z_goto C 72 dX12_personLine_68 (by decide) ?_
              cases h35_
              exact K36_
            have K38_ : ¬ (x39_.1 = true) → Z Θ 8 0 0 (zQ Θ ρ) x39_.2 71 [(3, .int 2), (2, .int x12_.1), (0, .ref (zA Θ 0)), (1, .int begin_a)] [] := by
              intro h42_
              rw [if_neg h42_] at h35_
              refine z_iconst (v := 2) C dX12_personLine_71 ic_2 ?_
              cases h35_
              exact K36_
            refine cb_f C 71 dX12_personLine_64 (by decide) (fun h41_ => ?_) (fun h41_ => ?_)
            · exact K37_ h41_
            · exact K38_ h41_
          cases h27_
          exact K28_
        refine cb_f C 58 dX12_personLine_51 (by decide) (fun h33_ => ?_) (fun h33_ => ?_)
        · exact K29_ h33_
        · exact K30_ h33_
      refine z_istN C dX12_personLine_72 rfl rfl (Nat.le_of_ble_eq_true rfl) rfl ?_
      obtain ⟨y44_, h45_, h15_⟩ := ob h15_
      suffices K46_ : Z Θ 8 0 0 (zQ Θ ρ) y44_ 86 [(0, .ref (zA Θ 0)), (1, .int begin_a), (2, .int x12_.1), (3, .int x26_.1)] [] by
        have K47_ : x26_.1 = 2 → Z Θ 8 0 0 (zQ Θ ρ) x26_.2 78 [(3, .int x26_.1), (2, .int x12_.1), (0, .ref (zA Θ 0)), (1, .int begin_a)] [] := by
          intro h50_
          rw [if_pos h50_] at h45_
          refine z_aload_n C 2 dX12_personLine_78 rfl rfl ?_
          refine z_aload_n C 2 dX12_personLine_79 rfl rfl ?_
          obtain ⟨x51_, h52_, h45_⟩ := ob h45_
          refine cr12_105 C hkd  h52_ ⟨(Nat.le_of_ble_eq_true rfl), (Nat.le_of_ble_eq_true rfl)⟩ (Nat.le_of_ble_eq_true rfl) ⟨Nat.zero_le _, Nat.zero_le _⟩ dX12_personLine_80 ?_
          obtain ⟨x53_, h54_, h45_⟩ := ob h45_
          refine cr12_108 (where_a := x51_.1) C hkd  h54_ ⟨(Nat.le_of_ble_eq_true rfl), (Nat.le_of_ble_eq_true rfl)⟩ (Nat.le_of_ble_eq_true rfl) ⟨Nat.zero_le _, Nat.zero_le _⟩ dX12_personLine_83 ?_
          cases h45_
          refine Z.sub [2, 3, 1, 0] rfl ?_
          exact K46_
        have K48_ : ¬ (x26_.1 = 2) → Z Θ 8 0 0 (zQ Θ ρ) x26_.2 86 [(3, .int x26_.1), (2, .int x12_.1), (0, .ref (zA Θ 0)), (1, .int begin_a)] [] := by
          intro h50_
          rw [if_neg h50_] at h45_
          cases h45_
          refine Z.sub [2, 3, 1, 0] rfl ?_
          exact K46_
        refine z_iload_n C 0 dX12_personLine_73 rfl rfl ?_
        refine z_iconst (v := 2) C dX12_personLine_74 ic_2 ?_
        refine c_eq_f C 86 dX12_personLine_75 (by decide) (fun h49_ => ?_) (fun h49_ => ?_)
        · exact K47_ h49_
        · exact K48_ h49_
      cases h15_
      exact K16_
    have K18_ : ¬ (t19_.1 = true) → Z Θ 8 0 0 (zQ Θ ρ) t19_.2 86 [(3, .int 2), (2, .int x12_.1), (0, .ref (zA Θ 0)), (1, .int begin_a)] [] := by
      intro h25_
      rw [if_neg h25_] at h15_
      cases h15_
      refine Z.sub [2, 3, 1, 0] rfl ?_
      exact K16_
    refine z_aload_n C 2 dX12_personLine_28 rfl rfl ?_
    refine fg12_25 C hkd dX12_personLine_29 ?_
    refine z_iconst (v := (-1)) C dX12_personLine_32 ic_m1 ?_
    refine c_eq_f C 86 dX12_personLine_33 (by decide) (fun h21_ => ?_) (fun h21_ => ?_)
    · rw [if_pos h21_] at h20_
      refine z_aload_n C 2 dX12_personLine_36 rfl rfl ?_
      refine z_ldcs (k := 2) (tx := "party") C (List.mem_of_getElem? (i := 63) rfl) dX12_personLine_37 ?_
      obtain ⟨x22_, h23_, h20_⟩ := ob h20_
      refine cr12_112 (w_a := 2) C hkd (Nat.le_of_ble_eq_true rfl) h23_ ⟨(Nat.le_of_ble_eq_true rfl), (Nat.le_of_ble_eq_true rfl)⟩ (Nat.le_of_ble_eq_true rfl) ⟨Nat.zero_le _, Nat.zero_le _⟩ dX12_personLine_39 ?_
      refine cb_f C 86 dX12_personLine_42 (by decide) (fun h24_ => ?_) (fun h24_ => ?_)
      · rw [if_pos h24_] at h20_
        cases h20_
        exact K17_ rfl
      · rw [if_neg h24_] at h20_
        cases h20_
        exact K18_ Bool.false_ne_true
    · rw [if_neg h21_] at h20_
      cases h20_
      exact K18_ Bool.false_ne_true
  obtain ⟨x55_, h56_, hf⟩ := ob hf
  suffices K57_ : Z Θ 8 0 0 (zQ Θ ρ) x55_.2 114 [(0, .ref (zA Θ 0)), (1, .int begin_a), (2, .int x12_.1), (3, .int y14_.1)] [.int x55_.1] by
    obtain ⟨t60_, h61_, h56_⟩ := ob h56_
    have K58_ : t60_.1 = true → Z Θ 8 0 0 (zQ Θ ρ) t60_.2 103 [(0, .ref (zA Θ 0)), (1, .int begin_a), (2, .int x12_.1), (3, .int y14_.1)] [] := by
      intro h68_
      rw [if_pos h68_] at h56_
      refine z_aload_n C 0 dX12_personLine_103 rfl rfl ?_
      refine z_iconst (v := 0) C dX12_personLine_104 ic_0 ?_
      refine z_bipush (v := 9) C dX12_personLine_105 bp_9 ?_
      obtain ⟨x66_, h67_, h56_⟩ := ob h56_
      refine cr12_116 (low_a := 0) (high_a := 9) C hkd  h67_ ⟨(Nat.le_of_ble_eq_true rfl), (Nat.le_of_ble_eq_true rfl)⟩ (Nat.le_of_ble_eq_true rfl) ⟨Nat.zero_le _, Nat.zero_le _⟩ dX12_personLine_107 ?_
      refine z_goto C 114 dX12_personLine_110 (by decide) ?_
      cases h56_
      exact K57_
    have K59_ : ¬ (t60_.1 = true) → Z Θ 8 0 0 (zQ Θ ρ) t60_.2 113 [(0, .ref (zA Θ 0)), (1, .int begin_a), (2, .int x12_.1), (3, .int y14_.1)] [] := by
      intro h68_
      rw [if_neg h68_] at h56_
      refine z_iconst (v := 0) C dX12_personLine_113 ic_0 ?_
      cases h56_
      exact K57_
    refine z_aload_n C 0 dX12_personLine_86 rfl rfl ?_
    refine fg12_25 C hkd dX12_personLine_87 ?_
    refine z_iconst (v := (-1)) C dX12_personLine_90 ic_m1 ?_
    refine c_eq_f C 113 dX12_personLine_91 (by decide) (fun h62_ => ?_) (fun h62_ => ?_)
    · rw [if_pos h62_] at h61_
      refine z_aload_n C 0 dX12_personLine_94 rfl rfl ?_
      refine z_ldcs (k := 5) (tx := "skin") C (List.mem_of_getElem? (i := 59) rfl) dX12_personLine_95 ?_
      obtain ⟨x63_, h64_, h61_⟩ := ob h61_
      refine cr12_112 (w_a := 5) C hkd (Nat.le_of_ble_eq_true rfl) h64_ ⟨(Nat.le_of_ble_eq_true rfl), (Nat.le_of_ble_eq_true rfl)⟩ (Nat.le_of_ble_eq_true rfl) ⟨Nat.zero_le _, Nat.zero_le _⟩ dX12_personLine_97 ?_
      refine cb_f C 113 dX12_personLine_100 (by decide) (fun h65_ => ?_) (fun h65_ => ?_)
      · rw [if_pos h65_] at h61_
        cases h61_
        exact K58_ rfl
      · rw [if_neg h65_] at h61_
        cases h61_
        exact K59_ Bool.false_ne_true
    · rw [if_neg h62_] at h61_
      cases h61_
      exact K59_ Bool.false_ne_true
  refine z_ist C dX12_personLine_114 rfl (Nat.le_of_ble_eq_true rfl) rfl ?_
  obtain ⟨x69_, h70_, hf⟩ := ob hf
  suffices K71_ : Z Θ 8 0 0 (zQ Θ ρ) x69_.2 138 [(4, .int x55_.1), (0, .ref (zA Θ 0)), (1, .int begin_a), (2, .int x12_.1), (3, .int y14_.1)] [.int (b2i x69_.1)] by
    obtain ⟨t74_, h75_, h70_⟩ := ob h70_
    have K72_ : t74_.1 = true → Z Θ 8 0 0 (zQ Θ ρ) t74_.2 133 [(4, .int x55_.1), (0, .ref (zA Θ 0)), (1, .int begin_a), (2, .int x12_.1), (3, .int y14_.1)] [] := by
      intro h80_
      rw [if_pos h80_] at h70_
      refine z_iconst (v := 1) C dX12_personLine_133 ic_1 ?_
      refine z_goto C 138 dX12_personLine_134 (by decide) ?_
      cases h70_
      exact K71_
    have K73_ : ¬ (t74_.1 = true) → Z Θ 8 0 0 (zQ Θ ρ) t74_.2 137 [(4, .int x55_.1), (0, .ref (zA Θ 0)), (1, .int begin_a), (2, .int x12_.1), (3, .int y14_.1)] [] := by
      intro h80_
      rw [if_neg h80_] at h70_
      refine z_iconst (v := 0) C dX12_personLine_137 ic_0 ?_
      cases h70_
      exact K71_
    refine z_aload_n C 1 dX12_personLine_116 rfl rfl ?_
    refine fg12_25 C hkd dX12_personLine_117 ?_
    refine z_iconst (v := (-1)) C dX12_personLine_120 ic_m1 ?_
    refine c_eq_f C 137 dX12_personLine_121 (by decide) (fun h76_ => ?_) (fun h76_ => ?_)
    · rw [if_pos h76_] at h75_
      refine z_aload_n C 1 dX12_personLine_124 rfl rfl ?_
      refine z_ldcs (k := 6) (tx := "stands") C (List.mem_of_getElem? (i := 66) rfl) dX12_personLine_125 ?_
      obtain ⟨x77_, h78_, h75_⟩ := ob h75_
      refine cr12_112 (w_a := 6) C hkd (Nat.le_of_ble_eq_true rfl) h78_ ⟨(Nat.le_of_ble_eq_true rfl), (Nat.le_of_ble_eq_true rfl)⟩ (Nat.le_of_ble_eq_true rfl) ⟨Nat.zero_le _, Nat.zero_le _⟩ dX12_personLine_127 ?_
      refine cb_f C 137 dX12_personLine_130 (by decide) (fun h79_ => ?_) (fun h79_ => ?_)
      · rw [if_pos h79_] at h75_
        cases h75_
        exact K72_ rfl
      · rw [if_neg h79_] at h75_
        cases h75_
        exact K73_ Bool.false_ne_true
    · rw [if_neg h76_] at h75_
      cases h75_
      exact K73_ Bool.false_ne_true
  refine z_ist C dX12_personLine_138 rfl (Nat.le_of_ble_eq_true rfl) rfl ?_
  have K81_ : ¬ (x69_.2 0 12) = (-1) → Z Θ 8 0 0 (zQ Θ ρ) x69_.2 148 [(5, .int (b2i x69_.1)), (4, .int x55_.1), (0, .ref (zA Θ 0)), (1, .int begin_a), (2, .int x12_.1), (3, .int y14_.1)] [] := by
    intro h84_
    rw [if_pos h84_] at hf
    cases hf
    subst hρ
    exact z_vret C dX12_personLine_148
  suffices K82_ : ¬ (¬ (x69_.2 0 12) = (-1)) → Z Θ 8 0 0 (zQ Θ ρ) x69_.2 149 [(5, .int (b2i x69_.1)), (4, .int x55_.1), (0, .ref (zA Θ 0)), (1, .int begin_a), (2, .int x12_.1), (3, .int y14_.1)] [] by
    refine z_aload_n C 2 dX12_personLine_140 rfl rfl ?_
    refine fg12_25 C hkd dX12_personLine_141 ?_
    refine z_iconst (v := (-1)) C dX12_personLine_144 ic_m1 ?_
    refine c_ne_f C 149 dX12_personLine_145 (by decide) (fun h83_ => ?_) (fun h83_ => ?_)
    · exact K81_ h83_
    · exact K82_ h83_
  intro h84_
  rw [if_neg h84_] at hf
  refine z_aload_n C 2 dX12_personLine_149 rfl rfl ?_
  refine fg12_7 C hkd dX12_personLine_150 ?_
  refine z_iconst (v := 3) C dX12_personLine_153 ic_3 ?_
  obtain ⟨x85_, h86_, hf⟩ := ob hf
  refine z_ag C h86_ (kM_1 hkd) dX12_personLine_154 ?_
  refine z_ist C dX12_personLine_155 rfl (Nat.le_of_ble_eq_true rfl) rfl ?_
  refine z_iconst (v := 0) C dX12_personLine_157 ic_0 ?_
  refine z_ist C dX12_personLine_158 rfl (Nat.le_of_ble_eq_true rfl) rfl ?_
  refine Z.sub [4, 5, 6, 7, 3, 2, 1, 0] rfl ?_
  obtain ⟨y87_, h88_, hf⟩ := ob hf
  suffices K89_ : Z Θ 8 0 0 (zQ Θ ρ) y87_.2 182 [(0, .ref (zA Θ 0)), (1, .int begin_a), (2, .int x12_.1), (3, .int y14_.1), (4, .int x55_.1), (5, .int (b2i x69_.1)), (6, .int x85_), (7, .int y87_.1)] [] by
    refine loop2_Z (P := fun (k93_ : Int32) (σ94_ : St) => Z Θ 8 0 0 (zQ Θ ρ) σ94_ 160 [(0, .ref (zA Θ 0)), (1, .int begin_a), (2, .int x12_.1), (3, .int y14_.1), (4, .int x55_.1), (5, .int (b2i x69_.1)), (6, .int x85_), (7, .int k93_)] []) ?_ fuelN (0 : Int32) x69_.2 h88_
    clear h88_
    intro rec90_ k93_ σ94_ h91_ h92_
    have K97_ : k93_ < 7 → Z Θ 8 0 0 (zQ Θ ρ) σ94_ 167 [(0, .ref (zA Θ 0)), (1, .int begin_a), (2, .int x12_.1), (3, .int y14_.1), (4, .int x55_.1), (5, .int (b2i x69_.1)), (6, .int x85_), (7, .int k93_)] [] := by
      intro h100_
      rw [if_pos h100_] at h92_
      refine z_aload_n C 0 dX12_personLine_167 rfl rfl ?_
      refine z_iload C 6 dX12_personLine_168 rfl ?_
      refine z_iload C 7 dX12_personLine_170 rfl ?_
      refine z_iconst (v := 0) C dX12_personLine_172 ic_0 ?_
      obtain ⟨x101_, h102_, h92_⟩ := ob h92_
      refine cr12_135 (p_a := x85_) (what_a := k93_) (v_a := 0) C hkd  h102_ ⟨(Nat.le_of_ble_eq_true rfl), (Nat.le_of_ble_eq_true rfl)⟩ (Nat.le_of_ble_eq_true rfl) ⟨Nat.zero_le _, Nat.zero_le _⟩ dX12_personLine_173 ?_
      obtain ⟨k103_, h104_, h92_⟩ := lt_ h92_
      refine z_inc C 7 dX12_personLine_176 rfl ic_1 h104_ (Nat.le_of_ble_eq_true rfl) rfl ?_
      refine z_goto C 160 dX12_personLine_179 (by decide) ?_
      refine Z.sub [1, 2, 3, 4, 5, 6, 7, 0] rfl ?_
      exact h91_ _ _ h92_
    have K98_ : ¬ (k93_ < 7) → Z Θ 8 0 0 (zQ Θ ρ) σ94_ 182 [(0, .ref (zA Θ 0)), (1, .int begin_a), (2, .int x12_.1), (3, .int y14_.1), (4, .int x55_.1), (5, .int (b2i x69_.1)), (6, .int x85_), (7, .int k93_)] [] := by
      intro h100_
      rw [if_neg h100_] at h92_
      cases h92_
      exact K89_
    refine z_iload C 7 dX12_personLine_160 rfl ?_
    refine z_bipush (v := 7) C dX12_personLine_162 bp_7 ?_
    refine c_lt_f C 182 dX12_personLine_164 (by decide) (fun h99_ => ?_) (fun h99_ => ?_)
    · exact K97_ h99_
    · exact K98_ h99_
  refine z_aload_n C 0 dX12_personLine_182 rfl rfl ?_
  refine z_iload C 6 dX12_personLine_183 rfl ?_
  refine z_iconst (v := 0) C dX12_personLine_185 ic_0 ?_
  refine z_iload_n C 2 dX12_personLine_186 rfl rfl ?_
  obtain ⟨x105_, h106_, hf⟩ := ob hf
  refine cr12_135 (p_a := x85_) (what_a := 0) (v_a := x12_.1) C hkd  h106_ ⟨(Nat.le_of_ble_eq_true rfl), (Nat.le_of_ble_eq_true rfl)⟩ (Nat.le_of_ble_eq_true rfl) ⟨Nat.zero_le _, Nat.zero_le _⟩ dX12_personLine_187 ?_
  refine z_aload_n C 0 dX12_personLine_190 rfl rfl ?_
  refine z_iload C 6 dX12_personLine_191 rfl ?_
  refine z_iconst (v := 1) C dX12_personLine_193 ic_1 ?_
  refine z_iload_n C 3 dX12_personLine_194 rfl rfl ?_
  obtain ⟨x107_, h108_, hf⟩ := ob hf
  refine cr12_135 (p_a := x85_) (what_a := 1) (v_a := y14_.1) C hkd  h108_ ⟨(Nat.le_of_ble_eq_true rfl), (Nat.le_of_ble_eq_true rfl)⟩ (Nat.le_of_ble_eq_true rfl) ⟨Nat.zero_le _, Nat.zero_le _⟩ dX12_personLine_195 ?_
  refine z_aload_n C 0 dX12_personLine_198 rfl rfl ?_
  refine z_iload C 6 dX12_personLine_199 rfl ?_
  refine z_iconst (v := 2) C dX12_personLine_201 ic_2 ?_
  refine z_iload C 4 dX12_personLine_202 rfl ?_
  obtain ⟨x109_, h110_, hf⟩ := ob hf
  refine cr12_135 (p_a := x85_) (what_a := 2) (v_a := x55_.1) C hkd  h110_ ⟨(Nat.le_of_ble_eq_true rfl), (Nat.le_of_ble_eq_true rfl)⟩ (Nat.le_of_ble_eq_true rfl) ⟨Nat.zero_le _, Nat.zero_le _⟩ dX12_personLine_204 ?_
  refine z_aload_n C 0 dX12_personLine_207 rfl rfl ?_
  refine z_iload C 6 dX12_personLine_208 rfl ?_
  refine z_iconst (v := 3) C dX12_personLine_210 ic_3 ?_
  suffices K111_ : Z Θ 8 0 0 (zQ Θ ρ) x109_ 221 [(0, .ref (zA Θ 0)), (1, .int begin_a), (2, .int x12_.1), (3, .int y14_.1), (4, .int x55_.1), (5, .int (b2i x69_.1)), (6, .int x85_), (7, .int y87_.1)] [.int (if x69_.1 = true then 1 else 0), .int 3, .int x85_, .ref (zA Θ 0)] by
    have K112_ : x69_.1 = true → Z Θ 8 0 0 (zQ Θ ρ) x109_ 216 [(0, .ref (zA Θ 0)), (1, .int begin_a), (2, .int x12_.1), (3, .int y14_.1), (4, .int x55_.1), (5, .int (b2i x69_.1)), (6, .int x85_), (7, .int y87_.1)] [.int 3, .int x85_, .ref (zA Θ 0)] := by
      intro h115_
      rw [if_pos h115_] at K111_
      refine z_iconst (v := 1) C dX12_personLine_216 ic_1 ?_
      refine z_goto C 221 dX12_personLine_217 (by decide) ?_
      exact K111_
    have K113_ : ¬ (x69_.1 = true) → Z Θ 8 0 0 (zQ Θ ρ) x109_ 220 [(0, .ref (zA Θ 0)), (1, .int begin_a), (2, .int x12_.1), (3, .int y14_.1), (4, .int x55_.1), (5, .int (b2i x69_.1)), (6, .int x85_), (7, .int y87_.1)] [.int 3, .int x85_, .ref (zA Θ 0)] := by
      intro h115_
      rw [if_neg h115_] at K111_
      refine z_iconst (v := 0) C dX12_personLine_220 ic_0 ?_
      exact K111_
    refine z_iload C 5 dX12_personLine_211 rfl ?_
    refine cb_f C 220 dX12_personLine_213 (by decide) (fun h114_ => ?_) (fun h114_ => ?_)
    · exact K112_ h114_
    · exact K113_ h114_
  obtain ⟨x116_, h117_, hf⟩ := ob hf
  refine cr12_135 (p_a := x85_) (what_a := 3) (v_a := (if x69_.1 = true then 1 else 0)) C hkd  h117_ ⟨(Nat.le_of_ble_eq_true rfl), (Nat.le_of_ble_eq_true rfl)⟩ (Nat.le_of_ble_eq_true rfl) ⟨Nat.zero_le _, Nat.zero_le _⟩ dX12_personLine_221 ?_
  refine z_iconst (v := 0) C dX12_personLine_224 ic_0 ?_
  refine z_ist C dX12_personLine_225 rfl (Nat.le_of_ble_eq_true rfl) rfl ?_
  refine Z.sub [1, 2, 3, 4, 5, 6, 7, 0] rfl ?_
  obtain ⟨y118_, h119_, hf⟩ := ob hf
  suffices K120_ : Z Θ 8 0 0 (zQ Θ ρ) y118_.2 274 [(0, .ref (zA Θ 0)), (1, .int begin_a), (2, .int x12_.1), (3, .int y14_.1), (4, .int x55_.1), (5, .int (b2i x69_.1)), (6, .int x85_), (7, .int y118_.1)] [] by
    refine loop2_Z (P := fun (o124_ : Int32) (σ125_ : St) => Z Θ 8 0 0 (zQ Θ ρ) σ125_ 227 [(0, .ref (zA Θ 0)), (1, .int begin_a), (2, .int x12_.1), (3, .int y14_.1), (4, .int x55_.1), (5, .int (b2i x69_.1)), (6, .int x85_), (7, .int o124_)] []) ?_ fuelN (0 : Int32) x116_ h119_
    clear h119_
    intro rec121_ o124_ σ125_ h122_ h123_
    have K128_ : o124_ < 6 → Z Θ 8 0 0 (zQ Θ ρ) σ125_ 234 [(0, .ref (zA Θ 0)), (1, .int begin_a), (2, .int x12_.1), (3, .int y14_.1), (4, .int x55_.1), (5, .int (b2i x69_.1)), (6, .int x85_), (7, .int o124_)] [] := by
      intro h131_
      rw [if_pos h131_] at h123_
      refine z_aload_n C 0 dX12_personLine_234 rfl rfl ?_
      refine fg12_7 C hkd dX12_personLine_235 ?_
      refine z_bipush (v := 63) C dX12_personLine_238 bp_63 ?_
      refine z_bipush (v := 7) C dX12_personLine_240 bp_7 ?_
      refine z_iload C 6 dX12_personLine_242 rfl ?_
      refine z_imul C dX12_personLine_244 ?_
      refine z_iadd C dX12_personLine_245 ?_
      refine z_iload C 7 dX12_personLine_246 rfl ?_
      refine z_iadd C dX12_personLine_248 ?_
      refine z_iconst (v := 5) C dX12_personLine_249 ic_5 ?_
      obtain ⟨σ132_, h133_, h123_⟩ := ob h123_
      refine z_sa C h133_ (kM_1 hkd) dX12_personLine_250 ?_
      refine z_aload_n C 0 dX12_personLine_251 rfl rfl ?_
      refine fg12_7 C hkd dX12_personLine_252 ?_
      refine z_bipush (v := 63) C dX12_personLine_255 bp_63 ?_
      refine z_bipush (v := 7) C dX12_personLine_257 bp_7 ?_
      refine z_iload C 7 dX12_personLine_259 rfl ?_
      refine z_imul C dX12_personLine_261 ?_
      refine z_iadd C dX12_personLine_262 ?_
      refine z_iload C 6 dX12_personLine_263 rfl ?_
      refine z_iadd C dX12_personLine_265 ?_
      refine z_iconst (v := 5) C dX12_personLine_266 ic_5 ?_
      obtain ⟨σ134_, h135_, h123_⟩ := ob h123_
      refine z_sa C h135_ (kM_1 hkd) dX12_personLine_267 ?_
      obtain ⟨o136_, h137_, h123_⟩ := lt_ h123_
      refine z_inc C 7 dX12_personLine_268 rfl ic_1 h137_ (Nat.le_of_ble_eq_true rfl) rfl ?_
      refine z_goto C 227 dX12_personLine_271 (by decide) ?_
      refine Z.sub [1, 2, 3, 4, 5, 6, 7, 0] rfl ?_
      exact h122_ _ _ h123_
    have K129_ : ¬ (o124_ < 6) → Z Θ 8 0 0 (zQ Θ ρ) σ125_ 274 [(0, .ref (zA Θ 0)), (1, .int begin_a), (2, .int x12_.1), (3, .int y14_.1), (4, .int x55_.1), (5, .int (b2i x69_.1)), (6, .int x85_), (7, .int o124_)] [] := by
      intro h131_
      rw [if_neg h131_] at h123_
      cases h123_
      exact K120_
    refine z_iload C 7 dX12_personLine_227 rfl ?_
    refine z_bipush (v := 6) C dX12_personLine_229 bp_6 ?_
    refine c_lt_f C 274 dX12_personLine_231 (by decide) (fun h130_ => ?_) (fun h130_ => ?_)
    · exact K128_ h130_
    · exact K129_ h130_
  refine z_aload_n C 0 dX12_personLine_274 rfl rfl ?_
  refine fg12_7 C hkd dX12_personLine_275 ?_
  refine z_iconst (v := 3) C dX12_personLine_278 ic_3 ?_
  refine z_dup2 C dX12_personLine_279 rfl rfl ?_
  obtain ⟨x138_, h139_, hf⟩ := ob hf
  refine z_ag C h139_ (kM_1 hkd) dX12_personLine_280 ?_
  refine z_iconst (v := 1) C dX12_personLine_281 ic_1 ?_
  refine z_iadd C dX12_personLine_282 ?_
  obtain ⟨σ140_, h141_, hf⟩ := ob hf
  refine z_sa C h141_ (kM_1 hkd) dX12_personLine_283 ?_
  cases hf
  subst hρ
  exact z_vret C dX12_personLine_284
theorem c12_personLine {l : Launch} {kd : List KD} {w : Wp} {σ : St} {begin_a : Int32} (hkd : kd = kdM) (hi : zI kd w) {r : St} (hf : q12_personLine σ begin_a = some r) : zM l kd w yX12_personLine cX12_personLine 8 none rm12_personLine [.ref (w.2.2.1 0), .int begin_a] σ (none, r) := zM_of rfl hi (Nat.le_of_ble_eq_true rfl) (fun Θ hl hw C => by
  obtain ⟨Θ1, Θ2, Θ3, Θ4, Θ5⟩ := Θ
  cases hw
  exact p12_personLine C hkd  hf rfl)
/-! LastLoafModel.likesLine -/
theorem dX12_likesLine_0 : decode cX12_likesLine 0 = .ok (.aload_n 0, 1) := by decide +kernel
theorem dX12_likesLine_1 : decode cX12_likesLine 1 = .ok (.iconst 0, 1) := by decide +kernel
theorem dX12_likesLine_2 : decode cX12_likesLine 2 = .ok (.aload_n 0, 1) := by decide +kernel
theorem dX12_likesLine_3 : decode cX12_likesLine 3 = .ok (.getfield 7, 3) := by decide +kernel
theorem dX12_likesLine_6 : decode cX12_likesLine 6 = .ok (.iconst 3, 1) := by decide +kernel
theorem dX12_likesLine_7 : decode cX12_likesLine 7 = .ok (.iaload, 1) := by decide +kernel
theorem dX12_likesLine_8 : decode cX12_likesLine 8 = .ok (.iconst 1, 1) := by decide +kernel
theorem dX12_likesLine_9 : decode cX12_likesLine 9 = .ok (.isub, 1) := by decide +kernel
theorem dX12_likesLine_10 : decode cX12_likesLine 10 = .ok (.invokevirtual 116, 3) := by decide +kernel
theorem dX12_likesLine_13 : decode cX12_likesLine 13 = .ok (.istore_n 1, 1) := by decide +kernel
theorem dX12_likesLine_14 : decode cX12_likesLine 14 = .ok (.aload_n 0, 1) := by decide +kernel
theorem dX12_likesLine_15 : decode cX12_likesLine 15 = .ok (.invokevirtual 105, 3) := by decide +kernel
theorem dX12_likesLine_18 : decode cX12_likesLine 18 = .ok (.istore_n 2, 1) := by decide +kernel
theorem dX12_likesLine_19 : decode cX12_likesLine 19 = .ok (.aload_n 0, 1) := by decide +kernel
theorem dX12_likesLine_20 : decode cX12_likesLine 20 = .ok (.iconst 0, 1) := by decide +kernel
theorem dX12_likesLine_21 : decode cX12_likesLine 21 = .ok (.aload_n 0, 1) := by decide +kernel
theorem dX12_likesLine_22 : decode cX12_likesLine 22 = .ok (.getfield 7, 3) := by decide +kernel
theorem dX12_likesLine_25 : decode cX12_likesLine 25 = .ok (.iconst 3, 1) := by decide +kernel
theorem dX12_likesLine_26 : decode cX12_likesLine 26 = .ok (.iaload, 1) := by decide +kernel
theorem dX12_likesLine_27 : decode cX12_likesLine 27 = .ok (.iconst 1, 1) := by decide +kernel
theorem dX12_likesLine_28 : decode cX12_likesLine 28 = .ok (.isub, 1) := by decide +kernel
theorem dX12_likesLine_29 : decode cX12_likesLine 29 = .ok (.invokevirtual 116, 3) := by decide +kernel
theorem dX12_likesLine_32 : decode cX12_likesLine 32 = .ok (.istore_n 3, 1) := by decide +kernel
theorem dX12_likesLine_33 : decode cX12_likesLine 33 = .ok (.aload_n 0, 1) := by decide +kernel
theorem dX12_likesLine_34 : decode cX12_likesLine 34 = .ok (.getfield 25, 3) := by decide +kernel
theorem dX12_likesLine_37 : decode cX12_likesLine 37 = .ok (.iconst (-1), 1) := by decide +kernel
theorem dX12_likesLine_38 : decode cX12_likesLine 38 = .ok (.if_icmp .ne 13, 3) := by decide +kernel
theorem dX12_likesLine_41 : decode cX12_likesLine 41 = .ok (.iload_n 3, 1) := by decide +kernel
theorem dX12_likesLine_42 : decode cX12_likesLine 42 = .ok (.iload_n 1, 1) := by decide +kernel
theorem dX12_likesLine_43 : decode cX12_likesLine 43 = .ok (.if_icmp .ne 8, 3) := by decide +kernel
theorem dX12_likesLine_46 : decode cX12_likesLine 46 = .ok (.aload_n 0, 1) := by decide +kernel
theorem dX12_likesLine_47 : decode cX12_likesLine 47 = .ok (.iload_n 2, 1) := by decide +kernel
theorem dX12_likesLine_48 : decode cX12_likesLine 48 = .ok (.invokevirtual 108, 3) := by decide +kernel
theorem dX12_likesLine_51 : decode cX12_likesLine 51 = .ok (.aload_n 0, 1) := by decide +kernel
theorem dX12_likesLine_52 : decode cX12_likesLine 52 = .ok (.iconst 0, 1) := by decide +kernel
theorem dX12_likesLine_53 : decode cX12_likesLine 53 = .ok (.bipush 9, 2) := by decide +kernel
theorem dX12_likesLine_55 : decode cX12_likesLine 55 = .ok (.invokevirtual 116, 3) := by decide +kernel
theorem dX12_likesLine_58 : decode cX12_likesLine 58 = .ok (.istore 4, 2) := by decide +kernel
theorem dX12_likesLine_60 : decode cX12_likesLine 60 = .ok (.aload_n 0, 1) := by decide +kernel
theorem dX12_likesLine_61 : decode cX12_likesLine 61 = .ok (.getfield 25, 3) := by decide +kernel
theorem dX12_likesLine_64 : decode cX12_likesLine 64 = .ok (.iconst (-1), 1) := by decide +kernel
theorem dX12_likesLine_65 : decode cX12_likesLine 65 = .ok (.if_icmp .ne 19, 3) := by decide +kernel
theorem dX12_likesLine_68 : decode cX12_likesLine 68 = .ok (.aload_n 0, 1) := by decide +kernel
theorem dX12_likesLine_69 : decode cX12_likesLine 69 = .ok (.getfield 7, 3) := by decide +kernel
theorem dX12_likesLine_72 : decode cX12_likesLine 72 = .ok (.bipush 63, 2) := by decide +kernel
theorem dX12_likesLine_74 : decode cX12_likesLine 74 = .ok (.bipush 7, 2) := by decide +kernel
theorem dX12_likesLine_76 : decode cX12_likesLine 76 = .ok (.iload_n 1, 1) := by decide +kernel
theorem dX12_likesLine_77 : decode cX12_likesLine 77 = .ok (.imul, 1) := by decide +kernel
theorem dX12_likesLine_78 : decode cX12_likesLine 78 = .ok (.iadd, 1) := by decide +kernel
theorem dX12_likesLine_79 : decode cX12_likesLine 79 = .ok (.iload_n 3, 1) := by decide +kernel
theorem dX12_likesLine_80 : decode cX12_likesLine 80 = .ok (.iadd, 1) := by decide +kernel
theorem dX12_likesLine_81 : decode cX12_likesLine 81 = .ok (.iload 4, 2) := by decide +kernel
theorem dX12_likesLine_83 : decode cX12_likesLine 83 = .ok (.iastore, 1) := by decide +kernel
theorem dX12_likesLine_84 : decode cX12_likesLine 84 = .ok (.return_, 1) := by decide +kernel
def q12_likesLine (σ : St) : Option St :=
  Option.bind (ag σ 1 752 3) fun x1_ =>
  Option.bind (q12_figures σ 0 (x1_ - 1)) fun x3_ =>
  Option.bind (q12_here x3_.2) fun x5_ =>
  Option.bind (ag x5_.2 1 752 3) fun x7_ =>
  Option.bind (q12_figures x5_.2 0 (x7_ - 1)) fun x9_ =>
  Option.bind (if ((x9_.2 0 12) = (-1)) ∧ (x9_.1 = x3_.1) then (Option.bind (q12_wrong x9_.2 x5_.1) fun x19_ =>
  some (x19_)) else (some (x9_.2))) fun y11_ =>
  Option.bind (q12_figures y11_ 0 9) fun x21_ =>
  Option.bind (if (x21_.2 0 12) = (-1) then (Option.bind (sa x21_.2 1 752 ((63 + (7 * x3_.1)) + x9_.1) x21_.1) fun σ30_ =>
  some (σ30_)) else (some (x21_.2))) fun y23_ =>
  some y23_
abbrev rm12_likesLine : Room := { frames := 4, cells := 0, slots := 0, locals := 85 }
set_option maxHeartbeats 4000000 in
set_option maxRecDepth 100000 in
theorem p12_likesLine {Θ : Tz} {σ : St} {ρ : Option Value × St} (C : Zc Θ cX12_likesLine 5 RX12 none rm12_likesLine) (hkd : Θ.2.2.2.2.1 = kdM) {r : St} (hf : q12_likesLine σ = some r) (hρ : ρ = (none, r)) : Z Θ 5 0 0 (zQ Θ ρ) σ 0 [(0, .ref (zA Θ 0))] [] := by
  unfold q12_likesLine at hf
  refine z_aload_n C 0 dX12_likesLine_0 rfl rfl ?_
  refine z_iconst (v := 0) C dX12_likesLine_1 ic_0 ?_
  refine z_aload_n C 0 dX12_likesLine_2 rfl rfl ?_
  refine fg12_7 C hkd dX12_likesLine_3 ?_
  refine z_iconst (v := 3) C dX12_likesLine_6 ic_3 ?_
  obtain ⟨x1_, h2_, hf⟩ := ob hf
  refine z_ag C h2_ (kM_1 hkd) dX12_likesLine_7 ?_
  refine z_iconst (v := 1) C dX12_likesLine_8 ic_1 ?_
  refine z_isub C dX12_likesLine_9 ?_
  obtain ⟨x3_, h4_, hf⟩ := ob hf
  refine cr12_116 (low_a := 0) (high_a := (x1_ - 1)) C hkd  h4_ ⟨(Nat.le_of_ble_eq_true rfl), (Nat.le_of_ble_eq_true rfl)⟩ (Nat.le_of_ble_eq_true rfl) ⟨Nat.zero_le _, Nat.zero_le _⟩ dX12_likesLine_10 ?_
  refine z_istN C dX12_likesLine_13 rfl rfl (Nat.le_of_ble_eq_true rfl) rfl ?_
  refine z_aload_n C 1 dX12_likesLine_14 rfl rfl ?_
  obtain ⟨x5_, h6_, hf⟩ := ob hf
  refine cr12_105 C hkd  h6_ ⟨(Nat.le_of_ble_eq_true rfl), (Nat.le_of_ble_eq_true rfl)⟩ (Nat.le_of_ble_eq_true rfl) ⟨Nat.zero_le _, Nat.zero_le _⟩ dX12_likesLine_15 ?_
  refine z_istN C dX12_likesLine_18 rfl rfl (Nat.le_of_ble_eq_true rfl) rfl ?_
  refine z_aload_n C 2 dX12_likesLine_19 rfl rfl ?_
  refine z_iconst (v := 0) C dX12_likesLine_20 ic_0 ?_
  refine z_aload_n C 2 dX12_likesLine_21 rfl rfl ?_
  refine fg12_7 C hkd dX12_likesLine_22 ?_
  refine z_iconst (v := 3) C dX12_likesLine_25 ic_3 ?_
  obtain ⟨x7_, h8_, hf⟩ := ob hf
  refine z_ag C h8_ (kM_1 hkd) dX12_likesLine_26 ?_
  refine z_iconst (v := 1) C dX12_likesLine_27 ic_1 ?_
  refine z_isub C dX12_likesLine_28 ?_
  obtain ⟨x9_, h10_, hf⟩ := ob hf
  refine cr12_116 (low_a := 0) (high_a := (x7_ - 1)) C hkd  h10_ ⟨(Nat.le_of_ble_eq_true rfl), (Nat.le_of_ble_eq_true rfl)⟩ (Nat.le_of_ble_eq_true rfl) ⟨Nat.zero_le _, Nat.zero_le _⟩ dX12_likesLine_29 ?_
  refine z_istN C dX12_likesLine_32 rfl rfl (Nat.le_of_ble_eq_true rfl) rfl ?_
  obtain ⟨y11_, h12_, hf⟩ := ob hf
  suffices K13_ : Z Θ 5 0 0 (zQ Θ ρ) y11_ 51 [(0, .ref (zA Θ 0)), (1, .int x3_.1), (2, .int x5_.1), (3, .int x9_.1)] [] by
    have K14_ : ((x9_.2 0 12) = (-1)) ∧ (x9_.1 = x3_.1) → Z Θ 5 0 0 (zQ Θ ρ) x9_.2 46 [(3, .int x9_.1), (2, .int x5_.1), (1, .int x3_.1), (0, .ref (zA Θ 0))] [] := by
      intro h18_
      rw [if_pos h18_] at h12_
      refine z_aload_n C 3 dX12_likesLine_46 rfl rfl ?_
      refine z_iload_n C 1 dX12_likesLine_47 rfl rfl ?_
      obtain ⟨x19_, h20_, h12_⟩ := ob h12_
      refine cr12_108 (where_a := x5_.1) C hkd  h20_ ⟨(Nat.le_of_ble_eq_true rfl), (Nat.le_of_ble_eq_true rfl)⟩ (Nat.le_of_ble_eq_true rfl) ⟨Nat.zero_le _, Nat.zero_le _⟩ dX12_likesLine_48 ?_
      cases h12_
      refine Z.sub [3, 2, 1, 0] rfl ?_
      exact K13_
    have K15_ : ¬ (((x9_.2 0 12) = (-1)) ∧ (x9_.1 = x3_.1)) → Z Θ 5 0 0 (zQ Θ ρ) x9_.2 51 [(3, .int x9_.1), (2, .int x5_.1), (1, .int x3_.1), (0, .ref (zA Θ 0))] [] := by
      intro h18_
      rw [if_neg h18_] at h12_
      cases h12_
      refine Z.sub [3, 2, 1, 0] rfl ?_
      exact K13_
    refine z_aload_n C 3 dX12_likesLine_33 rfl rfl ?_
    refine fg12_25 C hkd dX12_likesLine_34 ?_
    refine z_iconst (v := (-1)) C dX12_likesLine_37 ic_m1 ?_
    refine c_eq_f C 51 dX12_likesLine_38 (by decide) (fun h16_ => ?_) (fun h16_ => ?_)
    · refine z_iload_n C 0 dX12_likesLine_41 rfl rfl ?_
      refine z_iload_n C 2 dX12_likesLine_42 rfl rfl ?_
      refine c_eq_f C 51 dX12_likesLine_43 (by decide) (fun h17_ => ?_) (fun h17_ => ?_)
      · exact K14_ ⟨h16_, h17_⟩
      · exact K15_ (fun n => h17_ n.2)
    · exact K15_ (fun n => h16_ n.1)
  refine z_aload_n C 0 dX12_likesLine_51 rfl rfl ?_
  refine z_iconst (v := 0) C dX12_likesLine_52 ic_0 ?_
  refine z_bipush (v := 9) C dX12_likesLine_53 bp_9 ?_
  obtain ⟨x21_, h22_, hf⟩ := ob hf
  refine cr12_116 (low_a := 0) (high_a := 9) C hkd  h22_ ⟨(Nat.le_of_ble_eq_true rfl), (Nat.le_of_ble_eq_true rfl)⟩ (Nat.le_of_ble_eq_true rfl) ⟨Nat.zero_le _, Nat.zero_le _⟩ dX12_likesLine_55 ?_
  refine z_ist C dX12_likesLine_58 rfl (Nat.le_of_ble_eq_true rfl) rfl ?_
  obtain ⟨y23_, h24_, hf⟩ := ob hf
  suffices K25_ : Z Θ 5 0 0 (zQ Θ ρ) y23_ 84 [(0, .ref (zA Θ 0)), (1, .int x3_.1), (2, .int x5_.1), (3, .int x9_.1), (4, .int x21_.1)] [] by
    have K26_ : (x21_.2 0 12) = (-1) → Z Θ 5 0 0 (zQ Θ ρ) x21_.2 68 [(4, .int x21_.1), (0, .ref (zA Θ 0)), (1, .int x3_.1), (2, .int x5_.1), (3, .int x9_.1)] [] := by
      intro h29_
      rw [if_pos h29_] at h24_
      refine z_aload_n C 1 dX12_likesLine_68 rfl rfl ?_
      refine fg12_7 C hkd dX12_likesLine_69 ?_
      refine z_bipush (v := 63) C dX12_likesLine_72 bp_63 ?_
      refine z_bipush (v := 7) C dX12_likesLine_74 bp_7 ?_
      refine z_iload_n C 2 dX12_likesLine_76 rfl rfl ?_
      refine z_imul C dX12_likesLine_77 ?_
      refine z_iadd C dX12_likesLine_78 ?_
      refine z_iload_n C 4 dX12_likesLine_79 rfl rfl ?_
      refine z_iadd C dX12_likesLine_80 ?_
      refine z_iload C 0 dX12_likesLine_81 rfl ?_
      obtain ⟨σ30_, h31_, h24_⟩ := ob h24_
      refine z_sa C h31_ (kM_1 hkd) dX12_likesLine_83 ?_
      cases h24_
      refine Z.sub [1, 2, 3, 4, 0] rfl ?_
      exact K25_
    have K27_ : ¬ ((x21_.2 0 12) = (-1)) → Z Θ 5 0 0 (zQ Θ ρ) x21_.2 84 [(4, .int x21_.1), (0, .ref (zA Θ 0)), (1, .int x3_.1), (2, .int x5_.1), (3, .int x9_.1)] [] := by
      intro h29_
      rw [if_neg h29_] at h24_
      cases h24_
      refine Z.sub [1, 2, 3, 4, 0] rfl ?_
      exact K25_
    refine z_aload_n C 1 dX12_likesLine_60 rfl rfl ?_
    refine fg12_25 C hkd dX12_likesLine_61 ?_
    refine z_iconst (v := (-1)) C dX12_likesLine_64 ic_m1 ?_
    refine c_eq_f C 84 dX12_likesLine_65 (by decide) (fun h28_ => ?_) (fun h28_ => ?_)
    · exact K26_ h28_
    · exact K27_ h28_
  cases hf
  subst hρ
  exact z_vret C dX12_likesLine_84
theorem c12_likesLine {l : Launch} {kd : List KD} {w : Wp} {σ : St} (hkd : kd = kdM) (hi : zI kd w) {r : St} (hf : q12_likesLine σ = some r) : zM l kd w yX12_likesLine cX12_likesLine 5 none rm12_likesLine [.ref (w.2.2.1 0)] σ (none, r) := zM_of rfl hi (Nat.le_of_ble_eq_true rfl) (fun Θ hl hw C => by
  obtain ⟨Θ1, Θ2, Θ3, Θ4, Θ5⟩ := Θ
  cases hw
  exact p12_likesLine C hkd  hf rfl)
/-! LastLoafModel.gristLine -/
theorem bp_99 : (Int8.ofInt (99)).toInt32 = 99 := by decide +kernel
theorem dX12_gristLine_0 : decode cX12_gristLine 0 = .ok (.aload_n 0, 1) := by decide +kernel
theorem dX12_gristLine_1 : decode cX12_gristLine 1 = .ok (.ldc 139, 2) := by decide +kernel
theorem dX12_gristLine_3 : decode cX12_gristLine 3 = .ok (.invokevirtual 112, 3) := by decide +kernel
theorem dX12_gristLine_6 : decode cX12_gristLine 6 = .ok (.ifCond .eq 7, 3) := by decide +kernel
theorem dX12_gristLine_9 : decode cX12_gristLine 9 = .ok (.iconst 0, 1) := by decide +kernel
theorem dX12_gristLine_10 : decode cX12_gristLine 10 = .ok (.goto 43, 3) := by decide +kernel
theorem dX12_gristLine_13 : decode cX12_gristLine 13 = .ok (.aload_n 0, 1) := by decide +kernel
theorem dX12_gristLine_14 : decode cX12_gristLine 14 = .ok (.ldc 141, 2) := by decide +kernel
theorem dX12_gristLine_16 : decode cX12_gristLine 16 = .ok (.invokevirtual 112, 3) := by decide +kernel
theorem dX12_gristLine_19 : decode cX12_gristLine 19 = .ok (.ifCond .eq 7, 3) := by decide +kernel
theorem dX12_gristLine_22 : decode cX12_gristLine 22 = .ok (.iconst 1, 1) := by decide +kernel
theorem dX12_gristLine_23 : decode cX12_gristLine 23 = .ok (.goto 30, 3) := by decide +kernel
theorem dX12_gristLine_26 : decode cX12_gristLine 26 = .ok (.aload_n 0, 1) := by decide +kernel
theorem dX12_gristLine_27 : decode cX12_gristLine 27 = .ok (.ldc 143, 2) := by decide +kernel
theorem dX12_gristLine_29 : decode cX12_gristLine 29 = .ok (.invokevirtual 112, 3) := by decide +kernel
theorem dX12_gristLine_32 : decode cX12_gristLine 32 = .ok (.ifCond .eq 7, 3) := by decide +kernel
theorem dX12_gristLine_35 : decode cX12_gristLine 35 = .ok (.iconst 2, 1) := by decide +kernel
theorem dX12_gristLine_36 : decode cX12_gristLine 36 = .ok (.goto 17, 3) := by decide +kernel
theorem dX12_gristLine_39 : decode cX12_gristLine 39 = .ok (.aload_n 0, 1) := by decide +kernel
theorem dX12_gristLine_40 : decode cX12_gristLine 40 = .ok (.ldc 145, 2) := by decide +kernel
theorem dX12_gristLine_42 : decode cX12_gristLine 42 = .ok (.invokevirtual 112, 3) := by decide +kernel
theorem dX12_gristLine_45 : decode cX12_gristLine 45 = .ok (.ifCond .eq 7, 3) := by decide +kernel
theorem dX12_gristLine_48 : decode cX12_gristLine 48 = .ok (.iconst 3, 1) := by decide +kernel
theorem dX12_gristLine_49 : decode cX12_gristLine 49 = .ok (.goto 4, 3) := by decide +kernel
theorem dX12_gristLine_52 : decode cX12_gristLine 52 = .ok (.iconst (-1), 1) := by decide +kernel
theorem dX12_gristLine_53 : decode cX12_gristLine 53 = .ok (.istore_n 1, 1) := by decide +kernel
theorem dX12_gristLine_54 : decode cX12_gristLine 54 = .ok (.iload_n 1, 1) := by decide +kernel
theorem dX12_gristLine_55 : decode cX12_gristLine 55 = .ok (.iconst (-1), 1) := by decide +kernel
theorem dX12_gristLine_56 : decode cX12_gristLine 56 = .ok (.if_icmp .ne 11, 3) := by decide +kernel
theorem dX12_gristLine_59 : decode cX12_gristLine 59 = .ok (.aload_n 0, 1) := by decide +kernel
theorem dX12_gristLine_60 : decode cX12_gristLine 60 = .ok (.aload_n 0, 1) := by decide +kernel
theorem dX12_gristLine_61 : decode cX12_gristLine 61 = .ok (.invokevirtual 105, 3) := by decide +kernel
theorem dX12_gristLine_64 : decode cX12_gristLine 64 = .ok (.invokevirtual 108, 3) := by decide +kernel
theorem dX12_gristLine_67 : decode cX12_gristLine 67 = .ok (.aload_n 0, 1) := by decide +kernel
theorem dX12_gristLine_68 : decode cX12_gristLine 68 = .ok (.iconst 0, 1) := by decide +kernel
theorem dX12_gristLine_69 : decode cX12_gristLine 69 = .ok (.bipush 99, 2) := by decide +kernel
theorem dX12_gristLine_71 : decode cX12_gristLine 71 = .ok (.invokevirtual 116, 3) := by decide +kernel
theorem dX12_gristLine_74 : decode cX12_gristLine 74 = .ok (.istore_n 2, 1) := by decide +kernel
theorem dX12_gristLine_75 : decode cX12_gristLine 75 = .ok (.aload_n 0, 1) := by decide +kernel
theorem dX12_gristLine_76 : decode cX12_gristLine 76 = .ok (.getfield 25, 3) := by decide +kernel
theorem dX12_gristLine_79 : decode cX12_gristLine 79 = .ok (.iconst (-1), 1) := by decide +kernel
theorem dX12_gristLine_80 : decode cX12_gristLine 80 = .ok (.if_icmp .ne 13, 3) := by decide +kernel
theorem dX12_gristLine_83 : decode cX12_gristLine 83 = .ok (.aload_n 0, 1) := by decide +kernel
theorem dX12_gristLine_84 : decode cX12_gristLine 84 = .ok (.getfield 7, 3) := by decide +kernel
theorem dX12_gristLine_87 : decode cX12_gristLine 87 = .ok (.bipush 10, 2) := by decide +kernel
theorem dX12_gristLine_89 : decode cX12_gristLine 89 = .ok (.iload_n 1, 1) := by decide +kernel
theorem dX12_gristLine_90 : decode cX12_gristLine 90 = .ok (.iadd, 1) := by decide +kernel
theorem dX12_gristLine_91 : decode cX12_gristLine 91 = .ok (.iload_n 2, 1) := by decide +kernel
theorem dX12_gristLine_92 : decode cX12_gristLine 92 = .ok (.iastore, 1) := by decide +kernel
theorem dX12_gristLine_93 : decode cX12_gristLine 93 = .ok (.return_, 1) := by decide +kernel
def q12_gristLine (σ : St) : Option St :=
  Option.bind (Option.bind (q12_has σ 9) fun x6_ =>
  if x6_.1 = true then (some ((0 : Int32), x6_.2)) else (Option.bind (Option.bind (q12_has x6_.2 10) fun x14_ =>
  if x14_.1 = true then (some ((1 : Int32), x14_.2)) else (Option.bind (Option.bind (q12_has x14_.2 11) fun x22_ =>
  if x22_.1 = true then (some ((2 : Int32), x22_.2)) else (Option.bind (Option.bind (q12_has x22_.2 12) fun x30_ =>
  if x30_.1 = true then (some ((3 : Int32), x30_.2)) else (some ((-1 : Int32), x30_.2))) fun x25_ =>
  some (x25_.1, x25_.2))) fun x17_ =>
  some (x17_.1, x17_.2))) fun x9_ =>
  some (x9_.1, x9_.2))) fun x1_ =>
  Option.bind (if x1_.1 = (-1) then (Option.bind (q12_here x1_.2) fun x44_ =>
  Option.bind (q12_wrong x44_.2 x44_.1) fun x46_ =>
  some (x46_)) else (some (x1_.2))) fun y37_ =>
  Option.bind (q12_figures y37_ 0 99) fun x48_ =>
  Option.bind (if (x48_.2 0 12) = (-1) then (Option.bind (sa x48_.2 1 752 (10 + x1_.1) x48_.1) fun σ57_ =>
  some (σ57_)) else (some (x48_.2))) fun y50_ =>
  some y50_
abbrev rm12_gristLine : Room := { frames := 5, cells := 0, slots := 0, locals := 108 }
set_option maxHeartbeats 4000000 in
set_option maxRecDepth 100000 in
theorem p12_gristLine {Θ : Tz} {σ : St} {ρ : Option Value × St} (C : Zc Θ cX12_gristLine 3 RX12 none rm12_gristLine) (hkd : Θ.2.2.2.2.1 = kdM) {r : St} (hf : q12_gristLine σ = some r) (hρ : ρ = (none, r)) : Z Θ 3 0 0 (zQ Θ ρ) σ 0 [(0, .ref (zA Θ 0))] [] := by
  unfold q12_gristLine at hf
  obtain ⟨x1_, h2_, hf⟩ := ob hf
  suffices K3_ : Z Θ 3 0 0 (zQ Θ ρ) x1_.2 53 [(0, .ref (zA Θ 0))] [.int x1_.1] by
    refine z_aload_n C 0 dX12_gristLine_0 rfl rfl ?_
    refine z_ldcs (k := 9) (tx := "spring") C (List.mem_of_getElem? (i := 69) rfl) dX12_gristLine_1 ?_
    obtain ⟨x6_, h7_, h2_⟩ := ob h2_
    refine cr12_112 (w_a := 9) C hkd (Nat.le_of_ble_eq_true rfl) h7_ ⟨(Nat.le_of_ble_eq_true rfl), (Nat.le_of_ble_eq_true rfl)⟩ (Nat.le_of_ble_eq_true rfl) ⟨Nat.zero_le _, Nat.zero_le _⟩ dX12_gristLine_3 ?_
    have K4_ : x6_.1 = true → Z Θ 3 0 0 (zQ Θ ρ) x6_.2 9 [(0, .ref (zA Θ 0))] [] := by
      intro h36_
      rw [if_pos h36_] at h2_
      refine z_iconst (v := 0) C dX12_gristLine_9 ic_0 ?_
      refine z_goto C 53 dX12_gristLine_10 (by decide) ?_
      cases h2_
      exact K3_
    have K5_ : ¬ (x6_.1 = true) → Z Θ 3 0 0 (zQ Θ ρ) x6_.2 13 [(0, .ref (zA Θ 0))] [] := by
      intro h36_
      rw [if_neg h36_] at h2_
      obtain ⟨x9_, h10_, h2_⟩ := ob h2_
      suffices K11_ : Z Θ 3 0 0 (zQ Θ ρ) x9_.2 53 [(0, .ref (zA Θ 0))] [.int x9_.1] by
        refine z_aload_n C 0 dX12_gristLine_13 rfl rfl ?_
        refine z_ldcs (k := 10) (tx := "summer") C (List.mem_of_getElem? (i := 70) rfl) dX12_gristLine_14 ?_
        obtain ⟨x14_, h15_, h10_⟩ := ob h10_
        refine cr12_112 (w_a := 10) C hkd (Nat.le_of_ble_eq_true rfl) h15_ ⟨(Nat.le_of_ble_eq_true rfl), (Nat.le_of_ble_eq_true rfl)⟩ (Nat.le_of_ble_eq_true rfl) ⟨Nat.zero_le _, Nat.zero_le _⟩ dX12_gristLine_16 ?_
        have K12_ : x14_.1 = true → Z Θ 3 0 0 (zQ Θ ρ) x14_.2 22 [(0, .ref (zA Θ 0))] [] := by
          intro h35_
          rw [if_pos h35_] at h10_
          refine z_iconst (v := 1) C dX12_gristLine_22 ic_1 ?_
          refine z_goto C 53 dX12_gristLine_23 (by decide) ?_
          cases h10_
          exact K11_
        have K13_ : ¬ (x14_.1 = true) → Z Θ 3 0 0 (zQ Θ ρ) x14_.2 26 [(0, .ref (zA Θ 0))] [] := by
          intro h35_
          rw [if_neg h35_] at h10_
          obtain ⟨x17_, h18_, h10_⟩ := ob h10_
          suffices K19_ : Z Θ 3 0 0 (zQ Θ ρ) x17_.2 53 [(0, .ref (zA Θ 0))] [.int x17_.1] by
            refine z_aload_n C 0 dX12_gristLine_26 rfl rfl ?_
            refine z_ldcs (k := 11) (tx := "autumn") C (List.mem_of_getElem? (i := 71) rfl) dX12_gristLine_27 ?_
            obtain ⟨x22_, h23_, h18_⟩ := ob h18_
            refine cr12_112 (w_a := 11) C hkd (Nat.le_of_ble_eq_true rfl) h23_ ⟨(Nat.le_of_ble_eq_true rfl), (Nat.le_of_ble_eq_true rfl)⟩ (Nat.le_of_ble_eq_true rfl) ⟨Nat.zero_le _, Nat.zero_le _⟩ dX12_gristLine_29 ?_
            have K20_ : x22_.1 = true → Z Θ 3 0 0 (zQ Θ ρ) x22_.2 35 [(0, .ref (zA Θ 0))] [] := by
              intro h34_
              rw [if_pos h34_] at h18_
              refine z_iconst (v := 2) C dX12_gristLine_35 ic_2 ?_
              refine z_goto C 53 dX12_gristLine_36 (by decide) ?_
              cases h18_
              exact K19_
            have K21_ : ¬ (x22_.1 = true) → Z Θ 3 0 0 (zQ Θ ρ) x22_.2 39 [(0, .ref (zA Θ 0))] [] := by
              intro h34_
              rw [if_neg h34_] at h18_
              obtain ⟨x25_, h26_, h18_⟩ := ob h18_
              suffices K27_ : Z Θ 3 0 0 (zQ Θ ρ) x25_.2 53 [(0, .ref (zA Θ 0))] [.int x25_.1] by
                refine z_aload_n C 0 dX12_gristLine_39 rfl rfl ?_
                refine z_ldcs (k := 12) (tx := "winter") C (List.mem_of_getElem? (i := 72) rfl) dX12_gristLine_40 ?_
                obtain ⟨x30_, h31_, h26_⟩ := ob h26_
                refine cr12_112 (w_a := 12) C hkd (Nat.le_of_ble_eq_true rfl) h31_ ⟨(Nat.le_of_ble_eq_true rfl), (Nat.le_of_ble_eq_true rfl)⟩ (Nat.le_of_ble_eq_true rfl) ⟨Nat.zero_le _, Nat.zero_le _⟩ dX12_gristLine_42 ?_
                have K28_ : x30_.1 = true → Z Θ 3 0 0 (zQ Θ ρ) x30_.2 48 [(0, .ref (zA Θ 0))] [] := by
                  intro h33_
                  rw [if_pos h33_] at h26_
                  refine z_iconst (v := 3) C dX12_gristLine_48 ic_3 ?_
                  refine z_goto C 53 dX12_gristLine_49 (by decide) ?_
                  cases h26_
                  exact K27_
                have K29_ : ¬ (x30_.1 = true) → Z Θ 3 0 0 (zQ Θ ρ) x30_.2 52 [(0, .ref (zA Θ 0))] [] := by
                  intro h33_
                  rw [if_neg h33_] at h26_
                  refine z_iconst (v := (-1)) C dX12_gristLine_52 ic_m1 ?_
                  cases h26_
                  exact K27_
                refine cb_f C 52 dX12_gristLine_45 (by decide) (fun h32_ => ?_) (fun h32_ => ?_)
                · exact K28_ h32_
                · exact K29_ h32_
              cases h18_
              exact K19_
            refine cb_f C 39 dX12_gristLine_32 (by decide) (fun h24_ => ?_) (fun h24_ => ?_)
            · exact K20_ h24_
            · exact K21_ h24_
          cases h10_
          exact K11_
        refine cb_f C 26 dX12_gristLine_19 (by decide) (fun h16_ => ?_) (fun h16_ => ?_)
        · exact K12_ h16_
        · exact K13_ h16_
      cases h2_
      exact K3_
    refine cb_f C 13 dX12_gristLine_6 (by decide) (fun h8_ => ?_) (fun h8_ => ?_)
    · exact K4_ h8_
    · exact K5_ h8_
  refine z_istN C dX12_gristLine_53 rfl rfl (Nat.le_of_ble_eq_true rfl) rfl ?_
  obtain ⟨y37_, h38_, hf⟩ := ob hf
  suffices K39_ : Z Θ 3 0 0 (zQ Θ ρ) y37_ 67 [(0, .ref (zA Θ 0)), (1, .int x1_.1)] [] by
    have K40_ : x1_.1 = (-1) → Z Θ 3 0 0 (zQ Θ ρ) x1_.2 59 [(1, .int x1_.1), (0, .ref (zA Θ 0))] [] := by
      intro h43_
      rw [if_pos h43_] at h38_
      refine z_aload_n C 1 dX12_gristLine_59 rfl rfl ?_
      refine z_aload_n C 1 dX12_gristLine_60 rfl rfl ?_
      obtain ⟨x44_, h45_, h38_⟩ := ob h38_
      refine cr12_105 C hkd  h45_ ⟨(Nat.le_of_ble_eq_true rfl), (Nat.le_of_ble_eq_true rfl)⟩ (Nat.le_of_ble_eq_true rfl) ⟨Nat.zero_le _, Nat.zero_le _⟩ dX12_gristLine_61 ?_
      obtain ⟨x46_, h47_, h38_⟩ := ob h38_
      refine cr12_108 (where_a := x44_.1) C hkd  h47_ ⟨(Nat.le_of_ble_eq_true rfl), (Nat.le_of_ble_eq_true rfl)⟩ (Nat.le_of_ble_eq_true rfl) ⟨Nat.zero_le _, Nat.zero_le _⟩ dX12_gristLine_64 ?_
      cases h38_
      refine Z.sub [1, 0] rfl ?_
      exact K39_
    have K41_ : ¬ (x1_.1 = (-1)) → Z Θ 3 0 0 (zQ Θ ρ) x1_.2 67 [(1, .int x1_.1), (0, .ref (zA Θ 0))] [] := by
      intro h43_
      rw [if_neg h43_] at h38_
      cases h38_
      refine Z.sub [1, 0] rfl ?_
      exact K39_
    refine z_iload_n C 0 dX12_gristLine_54 rfl rfl ?_
    refine z_iconst (v := (-1)) C dX12_gristLine_55 ic_m1 ?_
    refine c_eq_f C 67 dX12_gristLine_56 (by decide) (fun h42_ => ?_) (fun h42_ => ?_)
    · exact K40_ h42_
    · exact K41_ h42_
  refine z_aload_n C 0 dX12_gristLine_67 rfl rfl ?_
  refine z_iconst (v := 0) C dX12_gristLine_68 ic_0 ?_
  refine z_bipush (v := 99) C dX12_gristLine_69 bp_99 ?_
  obtain ⟨x48_, h49_, hf⟩ := ob hf
  refine cr12_116 (low_a := 0) (high_a := 99) C hkd  h49_ ⟨(Nat.le_of_ble_eq_true rfl), (Nat.le_of_ble_eq_true rfl)⟩ (Nat.le_of_ble_eq_true rfl) ⟨Nat.zero_le _, Nat.zero_le _⟩ dX12_gristLine_71 ?_
  refine z_istN C dX12_gristLine_74 rfl rfl (Nat.le_of_ble_eq_true rfl) rfl ?_
  obtain ⟨y50_, h51_, hf⟩ := ob hf
  suffices K52_ : Z Θ 3 0 0 (zQ Θ ρ) y50_ 93 [(0, .ref (zA Θ 0)), (1, .int x1_.1), (2, .int x48_.1)] [] by
    have K53_ : (x48_.2 0 12) = (-1) → Z Θ 3 0 0 (zQ Θ ρ) x48_.2 83 [(2, .int x48_.1), (0, .ref (zA Θ 0)), (1, .int x1_.1)] [] := by
      intro h56_
      rw [if_pos h56_] at h51_
      refine z_aload_n C 1 dX12_gristLine_83 rfl rfl ?_
      refine fg12_7 C hkd dX12_gristLine_84 ?_
      refine z_bipush (v := 10) C dX12_gristLine_87 bp_10 ?_
      refine z_iload_n C 2 dX12_gristLine_89 rfl rfl ?_
      refine z_iadd C dX12_gristLine_90 ?_
      refine z_iload_n C 0 dX12_gristLine_91 rfl rfl ?_
      obtain ⟨σ57_, h58_, h51_⟩ := ob h51_
      refine z_sa C h58_ (kM_1 hkd) dX12_gristLine_92 ?_
      cases h51_
      refine Z.sub [1, 2, 0] rfl ?_
      exact K52_
    have K54_ : ¬ ((x48_.2 0 12) = (-1)) → Z Θ 3 0 0 (zQ Θ ρ) x48_.2 93 [(2, .int x48_.1), (0, .ref (zA Θ 0)), (1, .int x1_.1)] [] := by
      intro h56_
      rw [if_neg h56_] at h51_
      cases h51_
      refine Z.sub [1, 2, 0] rfl ?_
      exact K52_
    refine z_aload_n C 1 dX12_gristLine_75 rfl rfl ?_
    refine fg12_25 C hkd dX12_gristLine_76 ?_
    refine z_iconst (v := (-1)) C dX12_gristLine_79 ic_m1 ?_
    refine c_eq_f C 93 dX12_gristLine_80 (by decide) (fun h55_ => ?_) (fun h55_ => ?_)
    · exact K53_ h55_
    · exact K54_ h55_
  cases hf
  subst hρ
  exact z_vret C dX12_gristLine_93
theorem c12_gristLine {l : Launch} {kd : List KD} {w : Wp} {σ : St} (hkd : kd = kdM) (hi : zI kd w) {r : St} (hf : q12_gristLine σ = some r) : zM l kd w yX12_gristLine cX12_gristLine 3 none rm12_gristLine [.ref (w.2.2.1 0)] σ (none, r) := zM_of rfl hi (Nat.le_of_ble_eq_true rfl) (fun Θ hl hw C => by
  obtain ⟨Θ1, Θ2, Θ3, Θ4, Θ5⟩ := Θ
  cases hw
  exact p12_gristLine C hkd  hf rfl)
/-! LastLoafModel.tells -/
theorem dX12_tells_0 : decode cX12_tells 0 = .ok (.aload_n 0, 1) := by decide +kernel
theorem dX12_tells_1 : decode cX12_tells 1 = .ok (.iload_n 2, 1) := by decide +kernel
theorem dX12_tells_2 : decode cX12_tells 2 = .ok (.iload_n 3, 1) := by decide +kernel
theorem dX12_tells_3 : decode cX12_tells 3 = .ok (.invokevirtual 116, 3) := by decide +kernel
theorem dX12_tells_6 : decode cX12_tells 6 = .ok (.istore 4, 2) := by decide +kernel
theorem dX12_tells_8 : decode cX12_tells 8 = .ok (.aload_n 0, 1) := by decide +kernel
theorem dX12_tells_9 : decode cX12_tells 9 = .ok (.getfield 25, 3) := by decide +kernel
theorem dX12_tells_12 : decode cX12_tells 12 = .ok (.iconst (-1), 1) := by decide +kernel
theorem dX12_tells_13 : decode cX12_tells 13 = .ok (.if_icmp .ne 11, 3) := by decide +kernel
theorem dX12_tells_16 : decode cX12_tells 16 = .ok (.aload_n 0, 1) := by decide +kernel
theorem dX12_tells_17 : decode cX12_tells 17 = .ok (.getfield 7, 3) := by decide +kernel
theorem dX12_tells_20 : decode cX12_tells 20 = .ok (.iload_n 1, 1) := by decide +kernel
theorem dX12_tells_21 : decode cX12_tells 21 = .ok (.iload 4, 2) := by decide +kernel
theorem dX12_tells_23 : decode cX12_tells 23 = .ok (.iastore, 1) := by decide +kernel
theorem dX12_tells_24 : decode cX12_tells 24 = .ok (.return_, 1) := by decide +kernel
def q12_tells (σ : St) (where_a : Int32) (low_a : Int32) (most_a : Int32) : Option St :=
  Option.bind (q12_figures σ low_a most_a) fun x1_ =>
  Option.bind (if (x1_.2 0 12) = (-1) then (Option.bind (sa x1_.2 1 752 where_a x1_.1) fun σ10_ =>
  some (σ10_)) else (some (x1_.2))) fun y3_ =>
  some y3_
abbrev rm12_tells : Room := { frames := 4, cells := 0, slots := 0, locals := 85 }
set_option maxHeartbeats 4000000 in
set_option maxRecDepth 100000 in
theorem p12_tells {Θ : Tz} {σ : St} {ρ : Option Value × St} (C : Zc Θ cX12_tells 5 RX12 none rm12_tells) (hkd : Θ.2.2.2.2.1 = kdM) {where_a : Int32} {low_a : Int32} {most_a : Int32} {r : St} (hf : q12_tells σ where_a low_a most_a = some r) (hρ : ρ = (none, r)) : Z Θ 5 0 0 (zQ Θ ρ) σ 0 [(0, .ref (zA Θ 0)), (1, .int where_a), (2, .int low_a), (3, .int most_a)] [] := by
  unfold q12_tells at hf
  refine z_aload_n C 0 dX12_tells_0 rfl rfl ?_
  refine z_iload_n C 2 dX12_tells_1 rfl rfl ?_
  refine z_iload_n C 3 dX12_tells_2 rfl rfl ?_
  obtain ⟨x1_, h2_, hf⟩ := ob hf
  refine cr12_116 (low_a := low_a) (high_a := most_a) C hkd  h2_ ⟨(Nat.le_of_ble_eq_true rfl), (Nat.le_of_ble_eq_true rfl)⟩ (Nat.le_of_ble_eq_true rfl) ⟨Nat.zero_le _, Nat.zero_le _⟩ dX12_tells_3 ?_
  refine z_ist C dX12_tells_6 rfl (Nat.le_of_ble_eq_true rfl) rfl ?_
  obtain ⟨y3_, h4_, hf⟩ := ob hf
  suffices K5_ : Z Θ 5 0 0 (zQ Θ ρ) y3_ 24 [(0, .ref (zA Θ 0)), (1, .int where_a), (2, .int low_a), (3, .int most_a), (4, .int x1_.1)] [] by
    have K6_ : (x1_.2 0 12) = (-1) → Z Θ 5 0 0 (zQ Θ ρ) x1_.2 16 [(4, .int x1_.1), (0, .ref (zA Θ 0)), (1, .int where_a), (2, .int low_a), (3, .int most_a)] [] := by
      intro h9_
      rw [if_pos h9_] at h4_
      refine z_aload_n C 1 dX12_tells_16 rfl rfl ?_
      refine fg12_7 C hkd dX12_tells_17 ?_
      refine z_iload_n C 2 dX12_tells_20 rfl rfl ?_
      refine z_iload C 0 dX12_tells_21 rfl ?_
      obtain ⟨σ10_, h11_, h4_⟩ := ob h4_
      refine z_sa C h11_ (kM_1 hkd) dX12_tells_23 ?_
      cases h4_
      refine Z.sub [1, 2, 3, 4, 0] rfl ?_
      exact K5_
    have K7_ : ¬ ((x1_.2 0 12) = (-1)) → Z Θ 5 0 0 (zQ Θ ρ) x1_.2 24 [(4, .int x1_.1), (0, .ref (zA Θ 0)), (1, .int where_a), (2, .int low_a), (3, .int most_a)] [] := by
      intro h9_
      rw [if_neg h9_] at h4_
      cases h4_
      refine Z.sub [1, 2, 3, 4, 0] rfl ?_
      exact K5_
    refine z_aload_n C 1 dX12_tells_8 rfl rfl ?_
    refine fg12_25 C hkd dX12_tells_9 ?_
    refine z_iconst (v := (-1)) C dX12_tells_12 ic_m1 ?_
    refine c_eq_f C 24 dX12_tells_13 (by decide) (fun h8_ => ?_) (fun h8_ => ?_)
    · exact K6_ h8_
    · exact K7_ h8_
  cases hf
  subst hρ
  exact z_vret C dX12_tells_24
theorem c12_tells {l : Launch} {kd : List KD} {w : Wp} {σ : St} {where_a : Int32} {low_a : Int32} {most_a : Int32} (hkd : kd = kdM) (hi : zI kd w) {r : St} (hf : q12_tells σ where_a low_a most_a = some r) : zM l kd w yX12_tells cX12_tells 5 none rm12_tells [.ref (w.2.2.1 0), .int where_a, .int low_a, .int most_a] σ (none, r) := zM_of rfl hi (Nat.le_of_ble_eq_true rfl) (fun Θ hl hw C => by
  obtain ⟨Θ1, Θ2, Θ3, Θ4, Θ5⟩ := Θ
  cases hw
  exact p12_tells C hkd  hf rfl)
/-! LastLoafModel.villageLine -/
theorem w_9_0 : Cond.code ({ cls := "LastLoafModel", name := "personLine", desc := "(I)V" } : MethodName) prog_14_method_24_code (8 : Nat) (Option.none : Option ClassFile.FieldType) ∈ TB := tb_in (lwt_9 (List.mem_of_getElem? (i := 0) (by decide +kernel))) rfl
theorem w_8_237 : Cond.methodLink "LastLoafModel" (149 : Nat) ({ cls := "LastLoafModel", name := "personLine", desc := "(I)V" } : MethodName) ∈ TB := tb_in (lwt_8 (List.mem_of_getElem? (i := 237) (by decide +kernel))) rfl
theorem w_8_239 : Cond.instanceMethod ({ cls := "LastLoafModel", name := "personLine", desc := "(I)V" } : MethodName) ∈ TB := tb_in (lwt_8 (List.mem_of_getElem? (i := 239) (by decide +kernel))) rfl
theorem ws_LastLoafModel_personLine_I_V : Cond.selects "LastLoafModel" (⟨"LastLoafModel", "personLine", "(I)V"⟩ : MethodName) (⟨"LastLoafModel", "personLine", "(I)V"⟩ : MethodName) ∈ TB := tb_in (List.mem_append_left _ (List.mem_of_getElem? (i := 35) (by decide +kernel))) rfl
theorem cr12_149 {Θ : Tz} {cc : ByteArray} {nL kc ks : Nat} {ret : Option FieldType} {rm : Room} {Q : State → Prop} {σ : St} {pc : Nat} {lv : List (Nat × Value)} {st : List Value} (C : Zc Θ cc nL RX12 ret rm) (hkd : Θ.2.2.2.2.1 = kdM) {begin_a : Int32} {r : St} (hx : q12_personLine σ begin_a = some r) (hrm : rm12_personLine.frames + 1 ≤ rm.frames ∧ 8 + (8 + 11) + rm12_personLine.locals ≤ rm.locals) (hcat : (st.map fun v => v.category).sum ≤ 8) (hk : kc ≤ rm.cells ∧ ks ≤ rm.slots) (hd : decode cc pc = .ok (.invokevirtual 149, 3)) (kk : Z Θ nL kc ks Q r (pc + 3) lv st) : Z Θ nL kc ks Q σ pc lv (.int begin_a :: .ref (zA Θ 0) :: st) := z_callV C 0 [.int begin_a] (none, r) 1 (kM_0 hkd) rfl (c12_personLine (begin_a := begin_a) hkd (zc_inj C) hx) w_9_0 w_8_237 w_8_239 ws_LastLoafModel_personLine_I_V w_1_14 ⟨rfl, rfl, hrm.1, hrm.2⟩ (by decide +kernel) rfl rfl hcat hk hd kk
theorem w_9_16 : Cond.code ({ cls := "LastLoafModel", name := "likesLine", desc := "()V" } : MethodName) prog_14_method_25_code (5 : Nat) (Option.none : Option ClassFile.FieldType) ∈ TB := tb_in (lwt_9 (List.mem_of_getElem? (i := 16) (by decide +kernel))) rfl
theorem w_9_13 : Cond.methodLink "LastLoafModel" (154 : Nat) ({ cls := "LastLoafModel", name := "likesLine", desc := "()V" } : MethodName) ∈ TB := tb_in (lwt_9 (List.mem_of_getElem? (i := 13) (by decide +kernel))) rfl
theorem w_9_15 : Cond.instanceMethod ({ cls := "LastLoafModel", name := "likesLine", desc := "()V" } : MethodName) ∈ TB := tb_in (lwt_9 (List.mem_of_getElem? (i := 15) (by decide +kernel))) rfl
theorem ws_LastLoafModel_likesLine__V : Cond.selects "LastLoafModel" (⟨"LastLoafModel", "likesLine", "()V"⟩ : MethodName) (⟨"LastLoafModel", "likesLine", "()V"⟩ : MethodName) ∈ TB := tb_in (List.mem_append_left _ (List.mem_of_getElem? (i := 38) (by decide +kernel))) rfl
theorem cr12_154 {Θ : Tz} {cc : ByteArray} {nL kc ks : Nat} {ret : Option FieldType} {rm : Room} {Q : State → Prop} {σ : St} {pc : Nat} {lv : List (Nat × Value)} {st : List Value} (C : Zc Θ cc nL RX12 ret rm) (hkd : Θ.2.2.2.2.1 = kdM) {r : St} (hx : q12_likesLine σ = some r) (hrm : rm12_likesLine.frames + 1 ≤ rm.frames ∧ 8 + (5 + 11) + rm12_likesLine.locals ≤ rm.locals) (hcat : (st.map fun v => v.category).sum ≤ 8) (hk : kc ≤ rm.cells ∧ ks ≤ rm.slots) (hd : decode cc pc = .ok (.invokevirtual 154, 3)) (kk : Z Θ nL kc ks Q r (pc + 3) lv st) : Z Θ nL kc ks Q σ pc lv (.ref (zA Θ 0) :: st) := z_callV C 0 [] (none, r) 0 (kM_0 hkd) rfl (c12_likesLine hkd (zc_inj C) hx) w_9_16 w_9_13 w_9_15 ws_LastLoafModel_likesLine__V w_1_14 ⟨rfl, rfl, hrm.1, hrm.2⟩ (by decide +kernel) rfl rfl hcat hk hd kk
theorem sp_999 : (Int16.ofInt (999)).toInt32 = 999 := by decide +kernel
theorem w_9_21 : Cond.code ({ cls := "LastLoafModel", name := "tells", desc := "(III)V" } : MethodName) prog_14_method_27_code (5 : Nat) (Option.none : Option ClassFile.FieldType) ∈ TB := tb_in (lwt_9 (List.mem_of_getElem? (i := 21) (by decide +kernel))) rfl
theorem w_9_18 : Cond.methodLink "LastLoafModel" (159 : Nat) ({ cls := "LastLoafModel", name := "tells", desc := "(III)V" } : MethodName) ∈ TB := tb_in (lwt_9 (List.mem_of_getElem? (i := 18) (by decide +kernel))) rfl
theorem w_9_20 : Cond.instanceMethod ({ cls := "LastLoafModel", name := "tells", desc := "(III)V" } : MethodName) ∈ TB := tb_in (lwt_9 (List.mem_of_getElem? (i := 20) (by decide +kernel))) rfl
theorem ws_LastLoafModel_tells_III_V : Cond.selects "LastLoafModel" (⟨"LastLoafModel", "tells", "(III)V"⟩ : MethodName) (⟨"LastLoafModel", "tells", "(III)V"⟩ : MethodName) ∈ TB := tb_in (List.mem_append_left _ (List.mem_of_getElem? (i := 39) (by decide +kernel))) rfl
theorem cr12_159 {Θ : Tz} {cc : ByteArray} {nL kc ks : Nat} {ret : Option FieldType} {rm : Room} {Q : State → Prop} {σ : St} {pc : Nat} {lv : List (Nat × Value)} {st : List Value} (C : Zc Θ cc nL RX12 ret rm) (hkd : Θ.2.2.2.2.1 = kdM) {where_a : Int32} {low_a : Int32} {most_a : Int32} {r : St} (hx : q12_tells σ where_a low_a most_a = some r) (hrm : rm12_tells.frames + 1 ≤ rm.frames ∧ 8 + (5 + 11) + rm12_tells.locals ≤ rm.locals) (hcat : (st.map fun v => v.category).sum ≤ 8) (hk : kc ≤ rm.cells ∧ ks ≤ rm.slots) (hd : decode cc pc = .ok (.invokevirtual 159, 3)) (kk : Z Θ nL kc ks Q r (pc + 3) lv st) : Z Θ nL kc ks Q σ pc lv (.int most_a :: .int low_a :: .int where_a :: .ref (zA Θ 0) :: st) := z_callV C 0 [.int where_a, .int low_a, .int most_a] (none, r) 3 (kM_0 hkd) rfl (c12_tells (where_a := where_a) (low_a := low_a) (most_a := most_a) hkd (zc_inj C) hx) w_9_21 w_9_18 w_9_20 ws_LastLoafModel_tells_III_V w_1_14 ⟨rfl, rfl, hrm.1, hrm.2⟩ (by decide +kernel) rfl rfl hcat hk hd kk
theorem w_9_26 : Cond.code ({ cls := "LastLoafModel", name := "gristLine", desc := "()V" } : MethodName) prog_14_method_26_code (3 : Nat) (Option.none : Option ClassFile.FieldType) ∈ TB := tb_in (lwt_9 (List.mem_of_getElem? (i := 26) (by decide +kernel))) rfl
theorem w_9_23 : Cond.methodLink "LastLoafModel" (164 : Nat) ({ cls := "LastLoafModel", name := "gristLine", desc := "()V" } : MethodName) ∈ TB := tb_in (lwt_9 (List.mem_of_getElem? (i := 23) (by decide +kernel))) rfl
theorem w_9_25 : Cond.instanceMethod ({ cls := "LastLoafModel", name := "gristLine", desc := "()V" } : MethodName) ∈ TB := tb_in (lwt_9 (List.mem_of_getElem? (i := 25) (by decide +kernel))) rfl
theorem ws_LastLoafModel_gristLine__V : Cond.selects "LastLoafModel" (⟨"LastLoafModel", "gristLine", "()V"⟩ : MethodName) (⟨"LastLoafModel", "gristLine", "()V"⟩ : MethodName) ∈ TB := tb_in (List.mem_append_left _ (List.mem_of_getElem? (i := 40) (by decide +kernel))) rfl
theorem cr12_164 {Θ : Tz} {cc : ByteArray} {nL kc ks : Nat} {ret : Option FieldType} {rm : Room} {Q : State → Prop} {σ : St} {pc : Nat} {lv : List (Nat × Value)} {st : List Value} (C : Zc Θ cc nL RX12 ret rm) (hkd : Θ.2.2.2.2.1 = kdM) {r : St} (hx : q12_gristLine σ = some r) (hrm : rm12_gristLine.frames + 1 ≤ rm.frames ∧ 8 + (3 + 11) + rm12_gristLine.locals ≤ rm.locals) (hcat : (st.map fun v => v.category).sum ≤ 8) (hk : kc ≤ rm.cells ∧ ks ≤ rm.slots) (hd : decode cc pc = .ok (.invokevirtual 164, 3)) (kk : Z Θ nL kc ks Q r (pc + 3) lv st) : Z Θ nL kc ks Q σ pc lv (.ref (zA Θ 0) :: st) := z_callV C 0 [] (none, r) 0 (kM_0 hkd) rfl (c12_gristLine hkd (zc_inj C) hx) w_9_26 w_9_23 w_9_25 ws_LastLoafModel_gristLine__V w_1_14 ⟨rfl, rfl, hrm.1, hrm.2⟩ (by decide +kernel) rfl rfl hcat hk hd kk
theorem bp_100 : (Int8.ofInt (100)).toInt32 = 100 := by decide +kernel
theorem dX12_villageLine_0 : decode cX12_villageLine 0 = .ok (.aload_n 0, 1) := by decide +kernel
theorem dX12_villageLine_1 : decode cX12_villageLine 1 = .ok (.invokevirtual 105, 3) := by decide +kernel
theorem dX12_villageLine_4 : decode cX12_villageLine 4 = .ok (.istore_n 1, 1) := by decide +kernel
theorem dX12_villageLine_5 : decode cX12_villageLine 5 = .ok (.aload_n 0, 1) := by decide +kernel
theorem dX12_villageLine_6 : decode cX12_villageLine 6 = .ok (.ldc 147, 2) := by decide +kernel
theorem dX12_villageLine_8 : decode cX12_villageLine 8 = .ok (.invokevirtual 112, 3) := by decide +kernel
theorem dX12_villageLine_11 : decode cX12_villageLine 11 = .ok (.ifCond .eq 11, 3) := by decide +kernel
theorem dX12_villageLine_14 : decode cX12_villageLine 14 = .ok (.aload_n 0, 1) := by decide +kernel
theorem dX12_villageLine_15 : decode cX12_villageLine 15 = .ok (.iload_n 1, 1) := by decide +kernel
theorem dX12_villageLine_16 : decode cX12_villageLine 16 = .ok (.invokevirtual 149, 3) := by decide +kernel
theorem dX12_villageLine_19 : decode cX12_villageLine 19 = .ok (.goto 126, 3) := by decide +kernel
theorem dX12_villageLine_22 : decode cX12_villageLine 22 = .ok (.aload_n 0, 1) := by decide +kernel
theorem dX12_villageLine_23 : decode cX12_villageLine 23 = .ok (.ldc 152, 2) := by decide +kernel
theorem dX12_villageLine_25 : decode cX12_villageLine 25 = .ok (.invokevirtual 112, 3) := by decide +kernel
theorem dX12_villageLine_28 : decode cX12_villageLine 28 = .ok (.ifCond .eq 10, 3) := by decide +kernel
theorem dX12_villageLine_31 : decode cX12_villageLine 31 = .ok (.aload_n 0, 1) := by decide +kernel
theorem dX12_villageLine_32 : decode cX12_villageLine 32 = .ok (.invokevirtual 154, 3) := by decide +kernel
theorem dX12_villageLine_35 : decode cX12_villageLine 35 = .ok (.goto 110, 3) := by decide +kernel
theorem dX12_villageLine_38 : decode cX12_villageLine 38 = .ok (.aload_n 0, 1) := by decide +kernel
theorem dX12_villageLine_39 : decode cX12_villageLine 39 = .ok (.ldc 157, 2) := by decide +kernel
theorem dX12_villageLine_41 : decode cX12_villageLine 41 = .ok (.invokevirtual 112, 3) := by decide +kernel
theorem dX12_villageLine_44 : decode cX12_villageLine 44 = .ok (.ifCond .eq 15, 3) := by decide +kernel
theorem dX12_villageLine_47 : decode cX12_villageLine 47 = .ok (.aload_n 0, 1) := by decide +kernel
theorem dX12_villageLine_48 : decode cX12_villageLine 48 = .ok (.iconst 5, 1) := by decide +kernel
theorem dX12_villageLine_49 : decode cX12_villageLine 49 = .ok (.iconst 0, 1) := by decide +kernel
theorem dX12_villageLine_50 : decode cX12_villageLine 50 = .ok (.sipush 999, 3) := by decide +kernel
theorem dX12_villageLine_53 : decode cX12_villageLine 53 = .ok (.invokevirtual 159, 3) := by decide +kernel
theorem dX12_villageLine_56 : decode cX12_villageLine 56 = .ok (.goto 89, 3) := by decide +kernel
theorem dX12_villageLine_59 : decode cX12_villageLine 59 = .ok (.aload_n 0, 1) := by decide +kernel
theorem dX12_villageLine_60 : decode cX12_villageLine 60 = .ok (.ldc 162, 2) := by decide +kernel
theorem dX12_villageLine_62 : decode cX12_villageLine 62 = .ok (.invokevirtual 112, 3) := by decide +kernel
theorem dX12_villageLine_65 : decode cX12_villageLine 65 = .ok (.ifCond .eq 10, 3) := by decide +kernel
theorem dX12_villageLine_68 : decode cX12_villageLine 68 = .ok (.aload_n 0, 1) := by decide +kernel
theorem dX12_villageLine_69 : decode cX12_villageLine 69 = .ok (.invokevirtual 164, 3) := by decide +kernel
theorem dX12_villageLine_72 : decode cX12_villageLine 72 = .ok (.goto 73, 3) := by decide +kernel
theorem dX12_villageLine_75 : decode cX12_villageLine 75 = .ok (.aload_n 0, 1) := by decide +kernel
theorem dX12_villageLine_76 : decode cX12_villageLine 76 = .ok (.ldc 167, 2) := by decide +kernel
theorem dX12_villageLine_78 : decode cX12_villageLine 78 = .ok (.invokevirtual 112, 3) := by decide +kernel
theorem dX12_villageLine_81 : decode cX12_villageLine 81 = .ok (.ifCond .eq 14, 3) := by decide +kernel
theorem dX12_villageLine_84 : decode cX12_villageLine 84 = .ok (.aload_n 0, 1) := by decide +kernel
theorem dX12_villageLine_85 : decode cX12_villageLine 85 = .ok (.bipush 6, 2) := by decide +kernel
theorem dX12_villageLine_87 : decode cX12_villageLine 87 = .ok (.iconst 0, 1) := by decide +kernel
theorem dX12_villageLine_88 : decode cX12_villageLine 88 = .ok (.iconst 5, 1) := by decide +kernel
theorem dX12_villageLine_89 : decode cX12_villageLine 89 = .ok (.invokevirtual 159, 3) := by decide +kernel
theorem dX12_villageLine_92 : decode cX12_villageLine 92 = .ok (.goto 53, 3) := by decide +kernel
theorem dX12_villageLine_95 : decode cX12_villageLine 95 = .ok (.aload_n 0, 1) := by decide +kernel
theorem dX12_villageLine_96 : decode cX12_villageLine 96 = .ok (.ldc 169, 2) := by decide +kernel
theorem dX12_villageLine_98 : decode cX12_villageLine 98 = .ok (.invokevirtual 112, 3) := by decide +kernel
theorem dX12_villageLine_101 : decode cX12_villageLine 101 = .ok (.ifCond .eq 15, 3) := by decide +kernel
theorem dX12_villageLine_104 : decode cX12_villageLine 104 = .ok (.aload_n 0, 1) := by decide +kernel
theorem dX12_villageLine_105 : decode cX12_villageLine 105 = .ok (.bipush 7, 2) := by decide +kernel
theorem dX12_villageLine_107 : decode cX12_villageLine 107 = .ok (.iconst 0, 1) := by decide +kernel
theorem dX12_villageLine_108 : decode cX12_villageLine 108 = .ok (.bipush 100, 2) := by decide +kernel
theorem dX12_villageLine_110 : decode cX12_villageLine 110 = .ok (.invokevirtual 159, 3) := by decide +kernel
theorem dX12_villageLine_113 : decode cX12_villageLine 113 = .ok (.goto 32, 3) := by decide +kernel
theorem dX12_villageLine_116 : decode cX12_villageLine 116 = .ok (.aload_n 0, 1) := by decide +kernel
theorem dX12_villageLine_117 : decode cX12_villageLine 117 = .ok (.ldc 171, 2) := by decide +kernel
theorem dX12_villageLine_119 : decode cX12_villageLine 119 = .ok (.invokevirtual 112, 3) := by decide +kernel
theorem dX12_villageLine_122 : decode cX12_villageLine 122 = .ok (.ifCond .eq 15, 3) := by decide +kernel
theorem dX12_villageLine_125 : decode cX12_villageLine 125 = .ok (.aload_n 0, 1) := by decide +kernel
theorem dX12_villageLine_126 : decode cX12_villageLine 126 = .ok (.iconst 4, 1) := by decide +kernel
theorem dX12_villageLine_127 : decode cX12_villageLine 127 = .ok (.iconst 0, 1) := by decide +kernel
theorem dX12_villageLine_128 : decode cX12_villageLine 128 = .ok (.sipush 999, 3) := by decide +kernel
theorem dX12_villageLine_131 : decode cX12_villageLine 131 = .ok (.invokevirtual 159, 3) := by decide +kernel
theorem dX12_villageLine_134 : decode cX12_villageLine 134 = .ok (.goto 11, 3) := by decide +kernel
theorem dX12_villageLine_137 : decode cX12_villageLine 137 = .ok (.aload_n 0, 1) := by decide +kernel
theorem dX12_villageLine_138 : decode cX12_villageLine 138 = .ok (.aload_n 0, 1) := by decide +kernel
theorem dX12_villageLine_139 : decode cX12_villageLine 139 = .ok (.getfield 82, 3) := by decide +kernel
theorem dX12_villageLine_142 : decode cX12_villageLine 142 = .ok (.invokevirtual 108, 3) := by decide +kernel
theorem dX12_villageLine_145 : decode cX12_villageLine 145 = .ok (.return_, 1) := by decide +kernel
def q12_villageLine (σ : St) : Option St :=
  Option.bind (q12_here σ) fun x1_ =>
  Option.bind (Option.bind (q12_has x1_.2 0) fun x8_ =>
  if x8_.1 = true then (Option.bind (q12_personLine x8_.2 x1_.1) fun x12_ =>
  some (x12_)) else (Option.bind (Option.bind (q12_has x8_.2 7) fun x19_ =>
  if x19_.1 = true then (Option.bind (q12_likesLine x19_.2) fun x23_ =>
  some (x23_)) else (Option.bind (Option.bind (q12_has x19_.2 13) fun x30_ =>
  if x30_.1 = true then (Option.bind (q12_tells x30_.2 5 0 999) fun x34_ =>
  some (x34_)) else (Option.bind (Option.bind (q12_has x30_.2 8) fun x41_ =>
  if x41_.1 = true then (Option.bind (q12_gristLine x41_.2) fun x45_ =>
  some (x45_)) else (Option.bind (Option.bind (q12_has x41_.2 14) fun x52_ =>
  if x52_.1 = true then (Option.bind (q12_tells x52_.2 6 0 5) fun x56_ =>
  some (x56_)) else (Option.bind (Option.bind (q12_has x52_.2 15) fun x63_ =>
  if x63_.1 = true then (Option.bind (q12_tells x63_.2 7 0 100) fun x67_ =>
  some (x67_)) else (Option.bind (Option.bind (q12_has x63_.2 16) fun x74_ =>
  if x74_.1 = true then (Option.bind (q12_tells x74_.2 4 0 999) fun x78_ =>
  some (x78_)) else (Option.bind (q12_wrong x74_.2 (x74_.2 0 11)) fun x80_ =>
  some (x80_))) fun y69_ =>
  some (y69_))) fun y58_ =>
  some (y58_))) fun y47_ =>
  some (y47_))) fun y36_ =>
  some (y36_))) fun y25_ =>
  some (y25_))) fun y14_ =>
  some (y14_))) fun y3_ =>
  some y3_
abbrev rm12_villageLine : Room := { frames := 7, cells := 0, slots := 0, locals := 158 }
set_option maxHeartbeats 4000000 in
set_option maxRecDepth 100000 in
theorem p12_villageLine {Θ : Tz} {σ : St} {ρ : Option Value × St} (C : Zc Θ cX12_villageLine 2 RX12 none rm12_villageLine) (hkd : Θ.2.2.2.2.1 = kdM) {r : St} (hf : q12_villageLine σ = some r) (hρ : ρ = (none, r)) : Z Θ 2 0 0 (zQ Θ ρ) σ 0 [(0, .ref (zA Θ 0))] [] := by
  unfold q12_villageLine at hf
  refine z_aload_n C 0 dX12_villageLine_0 rfl rfl ?_
  obtain ⟨x1_, h2_, hf⟩ := ob hf
  refine cr12_105 C hkd  h2_ ⟨(Nat.le_of_ble_eq_true rfl), (Nat.le_of_ble_eq_true rfl)⟩ (Nat.le_of_ble_eq_true rfl) ⟨Nat.zero_le _, Nat.zero_le _⟩ dX12_villageLine_1 ?_
  refine z_istN C dX12_villageLine_4 rfl rfl (Nat.le_of_ble_eq_true rfl) rfl ?_
  obtain ⟨y3_, h4_, hf⟩ := ob hf
  suffices K5_ : Z Θ 2 0 0 (zQ Θ ρ) y3_ 145 [(0, .ref (zA Θ 0)), (1, .int x1_.1)] [] by
    refine z_aload_n C 1 dX12_villageLine_5 rfl rfl ?_
    refine z_ldcs (k := 0) (tx := "person") C (List.mem_of_getElem? (i := 62) rfl) dX12_villageLine_6 ?_
    obtain ⟨x8_, h9_, h4_⟩ := ob h4_
    refine cr12_112 (w_a := 0) C hkd (Nat.le_of_ble_eq_true rfl) h9_ ⟨(Nat.le_of_ble_eq_true rfl), (Nat.le_of_ble_eq_true rfl)⟩ (Nat.le_of_ble_eq_true rfl) ⟨Nat.zero_le _, Nat.zero_le _⟩ dX12_villageLine_8 ?_
    have K6_ : x8_.1 = true → Z Θ 2 0 0 (zQ Θ ρ) x8_.2 14 [(1, .int x1_.1), (0, .ref (zA Θ 0))] [] := by
      intro h11_
      rw [if_pos h11_] at h4_
      refine z_aload_n C 1 dX12_villageLine_14 rfl rfl ?_
      refine z_iload_n C 0 dX12_villageLine_15 rfl rfl ?_
      obtain ⟨x12_, h13_, h4_⟩ := ob h4_
      refine cr12_149 (begin_a := x1_.1) C hkd  h13_ ⟨(Nat.le_of_ble_eq_true rfl), (Nat.le_of_ble_eq_true rfl)⟩ (Nat.le_of_ble_eq_true rfl) ⟨Nat.zero_le _, Nat.zero_le _⟩ dX12_villageLine_16 ?_
      refine z_goto C 145 dX12_villageLine_19 (by decide) ?_
      cases h4_
      refine Z.sub [1, 0] rfl ?_
      exact K5_
    have K7_ : ¬ (x8_.1 = true) → Z Θ 2 0 0 (zQ Θ ρ) x8_.2 22 [(1, .int x1_.1), (0, .ref (zA Θ 0))] [] := by
      intro h11_
      rw [if_neg h11_] at h4_
      obtain ⟨y14_, h15_, h4_⟩ := ob h4_
      suffices K16_ : Z Θ 2 0 0 (zQ Θ ρ) y14_ 145 [(0, .ref (zA Θ 0)), (1, .int x1_.1)] [] by
        refine z_aload_n C 1 dX12_villageLine_22 rfl rfl ?_
        refine z_ldcs (k := 7) (tx := "likes") C (List.mem_of_getElem? (i := 55) rfl) dX12_villageLine_23 ?_
        obtain ⟨x19_, h20_, h15_⟩ := ob h15_
        refine cr12_112 (w_a := 7) C hkd (Nat.le_of_ble_eq_true rfl) h20_ ⟨(Nat.le_of_ble_eq_true rfl), (Nat.le_of_ble_eq_true rfl)⟩ (Nat.le_of_ble_eq_true rfl) ⟨Nat.zero_le _, Nat.zero_le _⟩ dX12_villageLine_25 ?_
        have K17_ : x19_.1 = true → Z Θ 2 0 0 (zQ Θ ρ) x19_.2 31 [(1, .int x1_.1), (0, .ref (zA Θ 0))] [] := by
          intro h22_
          rw [if_pos h22_] at h15_
          refine z_aload_n C 1 dX12_villageLine_31 rfl rfl ?_
          obtain ⟨x23_, h24_, h15_⟩ := ob h15_
          refine cr12_154 C hkd  h24_ ⟨(Nat.le_of_ble_eq_true rfl), (Nat.le_of_ble_eq_true rfl)⟩ (Nat.le_of_ble_eq_true rfl) ⟨Nat.zero_le _, Nat.zero_le _⟩ dX12_villageLine_32 ?_
          refine z_goto C 145 dX12_villageLine_35 (by decide) ?_
          cases h15_
          refine Z.sub [1, 0] rfl ?_
          exact K16_
        have K18_ : ¬ (x19_.1 = true) → Z Θ 2 0 0 (zQ Θ ρ) x19_.2 38 [(1, .int x1_.1), (0, .ref (zA Θ 0))] [] := by
          intro h22_
          rw [if_neg h22_] at h15_
          obtain ⟨y25_, h26_, h15_⟩ := ob h15_
          suffices K27_ : Z Θ 2 0 0 (zQ Θ ρ) y25_ 145 [(0, .ref (zA Θ 0)), (1, .int x1_.1)] [] by
            refine z_aload_n C 1 dX12_villageLine_38 rfl rfl ?_
            refine z_ldcs (k := 13) (tx := "flour") C (List.mem_of_getElem? (i := 67) rfl) dX12_villageLine_39 ?_
            obtain ⟨x30_, h31_, h26_⟩ := ob h26_
            refine cr12_112 (w_a := 13) C hkd (Nat.le_of_ble_eq_true rfl) h31_ ⟨(Nat.le_of_ble_eq_true rfl), (Nat.le_of_ble_eq_true rfl)⟩ (Nat.le_of_ble_eq_true rfl) ⟨Nat.zero_le _, Nat.zero_le _⟩ dX12_villageLine_41 ?_
            have K28_ : x30_.1 = true → Z Θ 2 0 0 (zQ Θ ρ) x30_.2 47 [(1, .int x1_.1), (0, .ref (zA Θ 0))] [] := by
              intro h33_
              rw [if_pos h33_] at h26_
              refine z_aload_n C 1 dX12_villageLine_47 rfl rfl ?_
              refine z_iconst (v := 5) C dX12_villageLine_48 ic_5 ?_
              refine z_iconst (v := 0) C dX12_villageLine_49 ic_0 ?_
              refine z_sipush (v := 999) C dX12_villageLine_50 sp_999 ?_
              obtain ⟨x34_, h35_, h26_⟩ := ob h26_
              refine cr12_159 (where_a := 5) (low_a := 0) (most_a := 999) C hkd  h35_ ⟨(Nat.le_of_ble_eq_true rfl), (Nat.le_of_ble_eq_true rfl)⟩ (Nat.le_of_ble_eq_true rfl) ⟨Nat.zero_le _, Nat.zero_le _⟩ dX12_villageLine_53 ?_
              refine z_goto C 145 dX12_villageLine_56 (by decide) ?_
              cases h26_
              refine Z.sub [1, 0] rfl ?_
              exact K27_
            have K29_ : ¬ (x30_.1 = true) → Z Θ 2 0 0 (zQ Θ ρ) x30_.2 59 [(1, .int x1_.1), (0, .ref (zA Θ 0))] [] := by
              intro h33_
              rw [if_neg h33_] at h26_
              obtain ⟨y36_, h37_, h26_⟩ := ob h26_
              suffices K38_ : Z Θ 2 0 0 (zQ Θ ρ) y36_ 145 [(0, .ref (zA Θ 0)), (1, .int x1_.1)] [] by
                refine z_aload_n C 1 dX12_villageLine_59 rfl rfl ?_
                refine z_ldcs (k := 8) (tx := "grist") C (List.mem_of_getElem? (i := 68) rfl) dX12_villageLine_60 ?_
                obtain ⟨x41_, h42_, h37_⟩ := ob h37_
                refine cr12_112 (w_a := 8) C hkd (Nat.le_of_ble_eq_true rfl) h42_ ⟨(Nat.le_of_ble_eq_true rfl), (Nat.le_of_ble_eq_true rfl)⟩ (Nat.le_of_ble_eq_true rfl) ⟨Nat.zero_le _, Nat.zero_le _⟩ dX12_villageLine_62 ?_
                have K39_ : x41_.1 = true → Z Θ 2 0 0 (zQ Θ ρ) x41_.2 68 [(1, .int x1_.1), (0, .ref (zA Θ 0))] [] := by
                  intro h44_
                  rw [if_pos h44_] at h37_
                  refine z_aload_n C 1 dX12_villageLine_68 rfl rfl ?_
                  obtain ⟨x45_, h46_, h37_⟩ := ob h37_
                  refine cr12_164 C hkd  h46_ ⟨(Nat.le_of_ble_eq_true rfl), (Nat.le_of_ble_eq_true rfl)⟩ (Nat.le_of_ble_eq_true rfl) ⟨Nat.zero_le _, Nat.zero_le _⟩ dX12_villageLine_69 ?_
                  refine z_goto C 145 dX12_villageLine_72 (by decide) ?_
                  cases h37_
                  refine Z.sub [1, 0] rfl ?_
                  exact K38_
                have K40_ : ¬ (x41_.1 = true) → Z Θ 2 0 0 (zQ Θ ρ) x41_.2 75 [(1, .int x1_.1), (0, .ref (zA Θ 0))] [] := by
                  intro h44_
                  rw [if_neg h44_] at h37_
                  obtain ⟨y47_, h48_, h37_⟩ := ob h37_
                  suffices K49_ : Z Θ 2 0 0 (zQ Θ ρ) y47_ 145 [(0, .ref (zA Θ 0)), (1, .int x1_.1)] [] by
                    refine z_aload_n C 1 dX12_villageLine_75 rfl rfl ?_
                    refine z_ldcs (k := 14) (tx := "way") C (List.mem_of_getElem? (i := 73) rfl) dX12_villageLine_76 ?_
                    obtain ⟨x52_, h53_, h48_⟩ := ob h48_
                    refine cr12_112 (w_a := 14) C hkd (Nat.le_of_ble_eq_true rfl) h53_ ⟨(Nat.le_of_ble_eq_true rfl), (Nat.le_of_ble_eq_true rfl)⟩ (Nat.le_of_ble_eq_true rfl) ⟨Nat.zero_le _, Nat.zero_le _⟩ dX12_villageLine_78 ?_
                    have K50_ : x52_.1 = true → Z Θ 2 0 0 (zQ Θ ρ) x52_.2 84 [(1, .int x1_.1), (0, .ref (zA Θ 0))] [] := by
                      intro h55_
                      rw [if_pos h55_] at h48_
                      refine z_aload_n C 1 dX12_villageLine_84 rfl rfl ?_
                      refine z_bipush (v := 6) C dX12_villageLine_85 bp_6 ?_
                      refine z_iconst (v := 0) C dX12_villageLine_87 ic_0 ?_
                      refine z_iconst (v := 5) C dX12_villageLine_88 ic_5 ?_
                      obtain ⟨x56_, h57_, h48_⟩ := ob h48_
                      refine cr12_159 (where_a := 6) (low_a := 0) (most_a := 5) C hkd  h57_ ⟨(Nat.le_of_ble_eq_true rfl), (Nat.le_of_ble_eq_true rfl)⟩ (Nat.le_of_ble_eq_true rfl) ⟨Nat.zero_le _, Nat.zero_le _⟩ dX12_villageLine_89 ?_
                      refine z_goto C 145 dX12_villageLine_92 (by decide) ?_
                      cases h48_
                      refine Z.sub [1, 0] rfl ?_
                      exact K49_
                    have K51_ : ¬ (x52_.1 = true) → Z Θ 2 0 0 (zQ Θ ρ) x52_.2 95 [(1, .int x1_.1), (0, .ref (zA Θ 0))] [] := by
                      intro h55_
                      rw [if_neg h55_] at h48_
                      obtain ⟨y58_, h59_, h48_⟩ := ob h48_
                      suffices K60_ : Z Θ 2 0 0 (zQ Θ ρ) y58_ 145 [(0, .ref (zA Θ 0)), (1, .int x1_.1)] [] by
                        refine z_aload_n C 1 dX12_villageLine_95 rfl rfl ?_
                        refine z_ldcs (k := 15) (tx := "speech") C (List.mem_of_getElem? (i := 74) rfl) dX12_villageLine_96 ?_
                        obtain ⟨x63_, h64_, h59_⟩ := ob h59_
                        refine cr12_112 (w_a := 15) C hkd (Nat.le_of_ble_eq_true rfl) h64_ ⟨(Nat.le_of_ble_eq_true rfl), (Nat.le_of_ble_eq_true rfl)⟩ (Nat.le_of_ble_eq_true rfl) ⟨Nat.zero_le _, Nat.zero_le _⟩ dX12_villageLine_98 ?_
                        have K61_ : x63_.1 = true → Z Θ 2 0 0 (zQ Θ ρ) x63_.2 104 [(1, .int x1_.1), (0, .ref (zA Θ 0))] [] := by
                          intro h66_
                          rw [if_pos h66_] at h59_
                          refine z_aload_n C 1 dX12_villageLine_104 rfl rfl ?_
                          refine z_bipush (v := 7) C dX12_villageLine_105 bp_7 ?_
                          refine z_iconst (v := 0) C dX12_villageLine_107 ic_0 ?_
                          refine z_bipush (v := 100) C dX12_villageLine_108 bp_100 ?_
                          obtain ⟨x67_, h68_, h59_⟩ := ob h59_
                          refine cr12_159 (where_a := 7) (low_a := 0) (most_a := 100) C hkd  h68_ ⟨(Nat.le_of_ble_eq_true rfl), (Nat.le_of_ble_eq_true rfl)⟩ (Nat.le_of_ble_eq_true rfl) ⟨Nat.zero_le _, Nat.zero_le _⟩ dX12_villageLine_110 ?_
                          refine z_goto C 145 dX12_villageLine_113 (by decide) ?_
                          cases h59_
                          refine Z.sub [1, 0] rfl ?_
                          exact K60_
                        have K62_ : ¬ (x63_.1 = true) → Z Θ 2 0 0 (zQ Θ ρ) x63_.2 116 [(1, .int x1_.1), (0, .ref (zA Θ 0))] [] := by
                          intro h66_
                          rw [if_neg h66_] at h59_
                          obtain ⟨y69_, h70_, h59_⟩ := ob h59_
                          suffices K71_ : Z Θ 2 0 0 (zQ Θ ρ) y69_ 145 [(0, .ref (zA Θ 0)), (1, .int x1_.1)] [] by
                            refine z_aload_n C 1 dX12_villageLine_116 rfl rfl ?_
                            refine z_ldcs (k := 16) (tx := "week") C (List.mem_of_getElem? (i := 75) rfl) dX12_villageLine_117 ?_
                            obtain ⟨x74_, h75_, h70_⟩ := ob h70_
                            refine cr12_112 (w_a := 16) C hkd (Nat.le_of_ble_eq_true rfl) h75_ ⟨(Nat.le_of_ble_eq_true rfl), (Nat.le_of_ble_eq_true rfl)⟩ (Nat.le_of_ble_eq_true rfl) ⟨Nat.zero_le _, Nat.zero_le _⟩ dX12_villageLine_119 ?_
                            have K72_ : x74_.1 = true → Z Θ 2 0 0 (zQ Θ ρ) x74_.2 125 [(1, .int x1_.1), (0, .ref (zA Θ 0))] [] := by
                              intro h77_
                              rw [if_pos h77_] at h70_
                              refine z_aload_n C 1 dX12_villageLine_125 rfl rfl ?_
                              refine z_iconst (v := 4) C dX12_villageLine_126 ic_4 ?_
                              refine z_iconst (v := 0) C dX12_villageLine_127 ic_0 ?_
                              refine z_sipush (v := 999) C dX12_villageLine_128 sp_999 ?_
                              obtain ⟨x78_, h79_, h70_⟩ := ob h70_
                              refine cr12_159 (where_a := 4) (low_a := 0) (most_a := 999) C hkd  h79_ ⟨(Nat.le_of_ble_eq_true rfl), (Nat.le_of_ble_eq_true rfl)⟩ (Nat.le_of_ble_eq_true rfl) ⟨Nat.zero_le _, Nat.zero_le _⟩ dX12_villageLine_131 ?_
                              refine z_goto C 145 dX12_villageLine_134 (by decide) ?_
                              cases h70_
                              refine Z.sub [1, 0] rfl ?_
                              exact K71_
                            have K73_ : ¬ (x74_.1 = true) → Z Θ 2 0 0 (zQ Θ ρ) x74_.2 137 [(1, .int x1_.1), (0, .ref (zA Θ 0))] [] := by
                              intro h77_
                              rw [if_neg h77_] at h70_
                              refine z_aload_n C 1 dX12_villageLine_137 rfl rfl ?_
                              refine z_aload_n C 1 dX12_villageLine_138 rfl rfl ?_
                              refine fg12_82 C hkd dX12_villageLine_139 ?_
                              obtain ⟨x80_, h81_, h70_⟩ := ob h70_
                              refine cr12_108 (where_a := (x74_.2 0 11)) C hkd  h81_ ⟨(Nat.le_of_ble_eq_true rfl), (Nat.le_of_ble_eq_true rfl)⟩ (Nat.le_of_ble_eq_true rfl) ⟨Nat.zero_le _, Nat.zero_le _⟩ dX12_villageLine_142 ?_
                              cases h70_
                              refine Z.sub [1, 0] rfl ?_
                              exact K71_
                            refine cb_f C 137 dX12_villageLine_122 (by decide) (fun h76_ => ?_) (fun h76_ => ?_)
                            · exact K72_ h76_
                            · exact K73_ h76_
                          cases h59_
                          exact K60_
                        refine cb_f C 116 dX12_villageLine_101 (by decide) (fun h65_ => ?_) (fun h65_ => ?_)
                        · exact K61_ h65_
                        · exact K62_ h65_
                      cases h48_
                      exact K49_
                    refine cb_f C 95 dX12_villageLine_81 (by decide) (fun h54_ => ?_) (fun h54_ => ?_)
                    · exact K50_ h54_
                    · exact K51_ h54_
                  cases h37_
                  exact K38_
                refine cb_f C 75 dX12_villageLine_65 (by decide) (fun h43_ => ?_) (fun h43_ => ?_)
                · exact K39_ h43_
                · exact K40_ h43_
              cases h26_
              exact K27_
            refine cb_f C 59 dX12_villageLine_44 (by decide) (fun h32_ => ?_) (fun h32_ => ?_)
            · exact K28_ h32_
            · exact K29_ h32_
          cases h15_
          exact K16_
        refine cb_f C 38 dX12_villageLine_28 (by decide) (fun h21_ => ?_) (fun h21_ => ?_)
        · exact K17_ h21_
        · exact K18_ h21_
      cases h4_
      exact K5_
    refine cb_f C 22 dX12_villageLine_11 (by decide) (fun h10_ => ?_) (fun h10_ => ?_)
    · exact K6_ h10_
    · exact K7_ h10_
  cases hf
  subst hρ
  exact z_vret C dX12_villageLine_145
theorem c12_villageLine {l : Launch} {kd : List KD} {w : Wp} {σ : St} (hkd : kd = kdM) (hi : zI kd w) {r : St} (hf : q12_villageLine σ = some r) : zM l kd w yX12_villageLine cX12_villageLine 2 none rm12_villageLine [.ref (w.2.2.1 0)] σ (none, r) := zM_of rfl hi (Nat.le_of_ble_eq_true rfl) (fun Θ hl hw C => by
  obtain ⟨Θ1, Θ2, Θ3, Θ4, Θ5⟩ := Θ
  cases hw
  exact p12_villageLine C hkd  hf rfl)
/-! LastLoafModel.begins -/
theorem fp12_79 {Θ : Tz} {cc : ByteArray} {nL kc ks : Nat} {ret : Option FieldType} {rm : Room} {Q : State → Prop} {σ : St} {pc : Nat} {lv : List (Nat × Value)} {st : List Value} (C : Zc Θ cc nL RX12 ret rm) (hkd : Θ.2.2.2.2.1 = kdM) {x : Int32} {σ1 : St} (he : σ1 = up σ 0 9 x) (hd : decode cc pc = .ok (.putfield 79, 3)) (kk : Z Θ nL kc ks Q σ1 (pc + 3) lv st) : Z Θ nL kc ks Q σ pc lv (.int x :: .ref (zA Θ 0) :: st) := by subst he; exact z_put C inT12 tyX12_ok nmX12 0 (kM_0 hkd) rfl 9 (by decide) w_8_36 rfl rfl rfl rfl hd kk
theorem fp12_85 {Θ : Tz} {cc : ByteArray} {nL kc ks : Nat} {ret : Option FieldType} {rm : Room} {Q : State → Prop} {σ : St} {pc : Nat} {lv : List (Nat × Value)} {st : List Value} (C : Zc Θ cc nL RX12 ret rm) (hkd : Θ.2.2.2.2.1 = kdM) {x : Int32} {σ1 : St} (he : σ1 = up σ 0 10 x) (hd : decode cc pc = .ok (.putfield 85, 3)) (kk : Z Θ nL kc ks Q σ1 (pc + 3) lv st) : Z Θ nL kc ks Q σ pc lv (.int x :: .ref (zA Θ 0) :: st) := by subst he; exact z_put C inT12 tyX12_ok nmX12 0 (kM_0 hkd) rfl 10 (by decide) w_8_37 rfl rfl rfl rfl hd kk
theorem w_8_40 : Cond.fieldLink "LastLoafModel" (173 : Nat) "LastLoafModel" "deep" "I" ∈ TB := tb_in (lwt_8 (List.mem_of_getElem? (i := 40) (by decide +kernel))) rfl
theorem fp12_173 {Θ : Tz} {cc : ByteArray} {nL kc ks : Nat} {ret : Option FieldType} {rm : Room} {Q : State → Prop} {σ : St} {pc : Nat} {lv : List (Nat × Value)} {st : List Value} (C : Zc Θ cc nL RX12 ret rm) (hkd : Θ.2.2.2.2.1 = kdM) {x : Int32} {σ1 : St} (he : σ1 = up σ 0 13 x) (hd : decode cc pc = .ok (.putfield 173, 3)) (kk : Z Θ nL kc ks Q σ1 (pc + 3) lv st) : Z Θ nL kc ks Q σ pc lv (.int x :: .ref (zA Θ 0) :: st) := by subst he; exact z_put C inT12 tyX12_ok nmX12 0 (kM_0 hkd) rfl 13 (by decide) w_8_40 rfl rfl rfl rfl hd kk
theorem dX12_begins_0 : decode cX12_begins 0 = .ok (.aload_n 0, 1) := by decide +kernel
theorem dX12_begins_1 : decode cX12_begins 1 = .ok (.iconst (-1), 1) := by decide +kernel
theorem dX12_begins_2 : decode cX12_begins 2 = .ok (.putfield 25, 3) := by decide +kernel
theorem dX12_begins_5 : decode cX12_begins 5 = .ok (.aload_n 0, 1) := by decide +kernel
theorem dX12_begins_6 : decode cX12_begins 6 = .ok (.iconst (-1), 1) := by decide +kernel
theorem dX12_begins_7 : decode cX12_begins 7 = .ok (.putfield 79, 3) := by decide +kernel
theorem dX12_begins_10 : decode cX12_begins 10 = .ok (.aload_n 0, 1) := by decide +kernel
theorem dX12_begins_11 : decode cX12_begins 11 = .ok (.aload_n 0, 1) := by decide +kernel
theorem dX12_begins_12 : decode cX12_begins 12 = .ok (.getfield 76, 3) := by decide +kernel
theorem dX12_begins_15 : decode cX12_begins 15 = .ok (.putfield 85, 3) := by decide +kernel
theorem dX12_begins_18 : decode cX12_begins 18 = .ok (.aload_n 0, 1) := by decide +kernel
theorem dX12_begins_19 : decode cX12_begins 19 = .ok (.iconst 0, 1) := by decide +kernel
theorem dX12_begins_20 : decode cX12_begins 20 = .ok (.putfield 76, 3) := by decide +kernel
theorem dX12_begins_23 : decode cX12_begins 23 = .ok (.aload_n 0, 1) := by decide +kernel
theorem dX12_begins_24 : decode cX12_begins 24 = .ok (.iconst 0, 1) := by decide +kernel
theorem dX12_begins_25 : decode cX12_begins 25 = .ok (.putfield 82, 3) := by decide +kernel
theorem dX12_begins_28 : decode cX12_begins 28 = .ok (.aload_n 0, 1) := by decide +kernel
theorem dX12_begins_29 : decode cX12_begins 29 = .ok (.iconst 0, 1) := by decide +kernel
theorem dX12_begins_30 : decode cX12_begins 30 = .ok (.putfield 173, 3) := by decide +kernel
theorem dX12_begins_33 : decode cX12_begins 33 = .ok (.return_, 1) := by decide +kernel
def q12_begins (σ : St) : Option St :=
  lt (up σ 0 12 (-1)) fun σ1_ =>
  lt (up σ1_ 0 9 (-1)) fun σ3_ =>
  lt (up σ3_ 0 10 (σ3_ 0 8)) fun σ5_ =>
  lt (up σ5_ 0 8 0) fun σ7_ =>
  lt (up σ7_ 0 11 0) fun σ9_ =>
  lt (up σ9_ 0 13 0) fun σ11_ =>
  some σ11_
abbrev rm12_begins : Room := { frames := 0, cells := 0, slots := 0, locals := 0 }
set_option maxHeartbeats 4000000 in
set_option maxRecDepth 100000 in
theorem p12_begins {Θ : Tz} {σ : St} {ρ : Option Value × St} (C : Zc Θ cX12_begins 1 RX12 none rm12_begins) (hkd : Θ.2.2.2.2.1 = kdM) {r : St} (hf : q12_begins σ = some r) (hρ : ρ = (none, r)) : Z Θ 1 0 0 (zQ Θ ρ) σ 0 [(0, .ref (zA Θ 0))] [] := by
  unfold q12_begins at hf
  refine z_aload_n C 0 dX12_begins_0 rfl rfl ?_
  refine z_iconst (v := (-1)) C dX12_begins_1 ic_m1 ?_
  obtain ⟨σ1_, h2_, hf⟩ := lt_ hf
  refine fp12_25 C hkd h2_ dX12_begins_2 ?_
  refine z_aload_n C 0 dX12_begins_5 rfl rfl ?_
  refine z_iconst (v := (-1)) C dX12_begins_6 ic_m1 ?_
  obtain ⟨σ3_, h4_, hf⟩ := lt_ hf
  refine fp12_79 C hkd h4_ dX12_begins_7 ?_
  refine z_aload_n C 0 dX12_begins_10 rfl rfl ?_
  refine z_aload_n C 0 dX12_begins_11 rfl rfl ?_
  refine fg12_76 C hkd dX12_begins_12 ?_
  obtain ⟨σ5_, h6_, hf⟩ := lt_ hf
  refine fp12_85 C hkd h6_ dX12_begins_15 ?_
  refine z_aload_n C 0 dX12_begins_18 rfl rfl ?_
  refine z_iconst (v := 0) C dX12_begins_19 ic_0 ?_
  obtain ⟨σ7_, h8_, hf⟩ := lt_ hf
  refine fp12_76 C hkd h8_ dX12_begins_20 ?_
  refine z_aload_n C 0 dX12_begins_23 rfl rfl ?_
  refine z_iconst (v := 0) C dX12_begins_24 ic_0 ?_
  obtain ⟨σ9_, h10_, hf⟩ := lt_ hf
  refine fp12_82 C hkd h10_ dX12_begins_25 ?_
  refine z_aload_n C 0 dX12_begins_28 rfl rfl ?_
  refine z_iconst (v := 0) C dX12_begins_29 ic_0 ?_
  obtain ⟨σ11_, h12_, hf⟩ := lt_ hf
  refine fp12_173 C hkd h12_ dX12_begins_30 ?_
  cases hf
  subst hρ
  exact z_vret C dX12_begins_33
theorem c12_begins {l : Launch} {kd : List KD} {w : Wp} {σ : St} (hkd : kd = kdM) (hi : zI kd w) {r : St} (hf : q12_begins σ = some r) : zM l kd w yX12_begins cX12_begins 1 none rm12_begins [.ref (w.2.2.1 0)] σ (none, r) := zM_of rfl hi (Nat.le_of_ble_eq_true rfl) (fun Θ hl hw C => by
  obtain ⟨Θ1, Θ2, Θ3, Θ4, Θ5⟩ := Θ
  cases hw
  exact p12_begins C hkd  hf rfl)
/-! LastLoafModel.part -/
theorem w_8_41 : Cond.fieldLink "LastLoafModel" (29 : Nat) "LastLoafModel" "fact" "[I" ∈ TB := tb_in (lwt_8 (List.mem_of_getElem? (i := 41) (by decide +kernel))) rfl
theorem fg12_29 {Θ : Tz} {cc : ByteArray} {nL kc ks : Nat} {ret : Option FieldType} {rm : Room} {Q : State → Prop} {σ : St} {pc : Nat} {lv : List (Nat × Value)} {st : List Value} (C : Zc Θ cc nL RX12 ret rm) (hkd : Θ.2.2.2.2.1 = kdM) (hd : decode cc pc = .ok (.getfield 29, 3)) (kk : Z Θ nL kc ks Q σ (pc + 3) lv (.ref (zA Θ 6) :: st)) : Z Θ nL kc ks Q σ pc lv (.ref (zA Θ 0) :: st) := z_get C inT12 0 (kM_0 hkd) rfl 14 (by decide) w_8_41 rfl hd kk
theorem dX12_part_0 : decode cX12_part 0 = .ok (.aload_n 0, 1) := by decide +kernel
theorem dX12_part_1 : decode cX12_part 1 = .ok (.getfield 25, 3) := by decide +kernel
theorem dX12_part_4 : decode cX12_part 4 = .ok (.iconst (-1), 1) := by decide +kernel
theorem dX12_part_5 : decode cX12_part 5 = .ok (.if_icmp .eq 5, 3) := by decide +kernel
theorem dX12_part_8 : decode cX12_part 8 = .ok (.iconst 0, 1) := by decide +kernel
theorem dX12_part_9 : decode cX12_part 9 = .ok (.ireturn, 1) := by decide +kernel
theorem dX12_part_10 : decode cX12_part 10 = .ok (.aload_n 0, 1) := by decide +kernel
theorem dX12_part_11 : decode cX12_part 11 = .ok (.invokevirtual 92, 3) := by decide +kernel
theorem dX12_part_14 : decode cX12_part 14 = .ok (.aload_n 0, 1) := by decide +kernel
theorem dX12_part_15 : decode cX12_part 15 = .ok (.getfield 82, 3) := by decide +kernel
theorem dX12_part_18 : decode cX12_part 18 = .ok (.aload_n 0, 1) := by decide +kernel
theorem dX12_part_19 : decode cX12_part 19 = .ok (.getfield 85, 3) := by decide +kernel
theorem dX12_part_22 : decode cX12_part 22 = .ok (.if_icmp .ge 30, 3) := by decide +kernel
theorem dX12_part_25 : decode cX12_part 25 = .ok (.aload_n 0, 1) := by decide +kernel
theorem dX12_part_26 : decode cX12_part 26 = .ok (.aload_n 0, 1) := by decide +kernel
theorem dX12_part_27 : decode cX12_part 27 = .ok (.getfield 82, 3) := by decide +kernel
theorem dX12_part_30 : decode cX12_part 30 = .ok (.invokevirtual 88, 3) := by decide +kernel
theorem dX12_part_33 : decode cX12_part 33 = .ok (.bipush 48, 2) := by decide +kernel
theorem dX12_part_35 : decode cX12_part 35 = .ok (.bipush 57, 2) := by decide +kernel
theorem dX12_part_37 : decode cX12_part 37 = .ok (.invokestatic 68, 3) := by decide +kernel
theorem dX12_part_40 : decode cX12_part 40 = .ok (.ifCond .eq 12, 3) := by decide +kernel
theorem dX12_part_43 : decode cX12_part 43 = .ok (.aload_n 0, 1) := by decide +kernel
theorem dX12_part_44 : decode cX12_part 44 = .ok (.iconst 0, 1) := by decide +kernel
theorem dX12_part_45 : decode cX12_part 45 = .ok (.sipush 999, 3) := by decide +kernel
theorem dX12_part_48 : decode cX12_part 48 = .ok (.invokevirtual 116, 3) := by decide +kernel
theorem dX12_part_51 : decode cX12_part 51 = .ok (.ireturn, 1) := by decide +kernel
theorem dX12_part_52 : decode cX12_part 52 = .ok (.aload_n 0, 1) := by decide +kernel
theorem dX12_part_53 : decode cX12_part 53 = .ok (.ldc 202, 2) := by decide +kernel
theorem dX12_part_55 : decode cX12_part 55 = .ok (.invokevirtual 112, 3) := by decide +kernel
theorem dX12_part_58 : decode cX12_part 58 = .ok (.ifCond .eq 7, 3) := by decide +kernel
theorem dX12_part_61 : decode cX12_part 61 = .ok (.iconst 0, 1) := by decide +kernel
theorem dX12_part_62 : decode cX12_part 62 = .ok (.goto 83, 3) := by decide +kernel
theorem dX12_part_65 : decode cX12_part 65 = .ok (.aload_n 0, 1) := by decide +kernel
theorem dX12_part_66 : decode cX12_part 66 = .ok (.ldc 204, 2) := by decide +kernel
theorem dX12_part_68 : decode cX12_part 68 = .ok (.invokevirtual 112, 3) := by decide +kernel
theorem dX12_part_71 : decode cX12_part 71 = .ok (.ifCond .eq 7, 3) := by decide +kernel
theorem dX12_part_74 : decode cX12_part 74 = .ok (.iconst 1, 1) := by decide +kernel
theorem dX12_part_75 : decode cX12_part 75 = .ok (.goto 70, 3) := by decide +kernel
theorem dX12_part_78 : decode cX12_part 78 = .ok (.aload_n 0, 1) := by decide +kernel
theorem dX12_part_79 : decode cX12_part 79 = .ok (.ldc 152, 2) := by decide +kernel
theorem dX12_part_81 : decode cX12_part 81 = .ok (.invokevirtual 112, 3) := by decide +kernel
theorem dX12_part_84 : decode cX12_part 84 = .ok (.ifCond .eq 7, 3) := by decide +kernel
theorem dX12_part_87 : decode cX12_part 87 = .ok (.iconst 2, 1) := by decide +kernel
theorem dX12_part_88 : decode cX12_part 88 = .ok (.goto 57, 3) := by decide +kernel
theorem dX12_part_91 : decode cX12_part 91 = .ok (.aload_n 0, 1) := by decide +kernel
theorem dX12_part_92 : decode cX12_part 92 = .ok (.ldc 119, 2) := by decide +kernel
theorem dX12_part_94 : decode cX12_part 94 = .ok (.invokevirtual 112, 3) := by decide +kernel
theorem dX12_part_97 : decode cX12_part 97 = .ok (.ifCond .eq 7, 3) := by decide +kernel
theorem dX12_part_100 : decode cX12_part 100 = .ok (.iconst 3, 1) := by decide +kernel
theorem dX12_part_101 : decode cX12_part 101 = .ok (.goto 44, 3) := by decide +kernel
theorem dX12_part_104 : decode cX12_part 104 = .ok (.aload_n 0, 1) := by decide +kernel
theorem dX12_part_105 : decode cX12_part 105 = .ok (.ldc 206, 2) := by decide +kernel
theorem dX12_part_107 : decode cX12_part 107 = .ok (.invokevirtual 112, 3) := by decide +kernel
theorem dX12_part_110 : decode cX12_part 110 = .ok (.ifCond .eq 7, 3) := by decide +kernel
theorem dX12_part_113 : decode cX12_part 113 = .ok (.iconst 4, 1) := by decide +kernel
theorem dX12_part_114 : decode cX12_part 114 = .ok (.goto 31, 3) := by decide +kernel
theorem dX12_part_117 : decode cX12_part 117 = .ok (.aload_n 0, 1) := by decide +kernel
theorem dX12_part_118 : decode cX12_part 118 = .ok (.ldc 208, 2) := by decide +kernel
theorem dX12_part_120 : decode cX12_part 120 = .ok (.invokevirtual 112, 3) := by decide +kernel
theorem dX12_part_123 : decode cX12_part 123 = .ok (.ifCond .eq 7, 3) := by decide +kernel
theorem dX12_part_126 : decode cX12_part 126 = .ok (.iconst 5, 1) := by decide +kernel
theorem dX12_part_127 : decode cX12_part 127 = .ok (.goto 18, 3) := by decide +kernel
theorem dX12_part_130 : decode cX12_part 130 = .ok (.aload_n 0, 1) := by decide +kernel
theorem dX12_part_131 : decode cX12_part 131 = .ok (.ldc 131, 2) := by decide +kernel
theorem dX12_part_133 : decode cX12_part 133 = .ok (.invokevirtual 112, 3) := by decide +kernel
theorem dX12_part_136 : decode cX12_part 136 = .ok (.ifCond .eq 8, 3) := by decide +kernel
theorem dX12_part_139 : decode cX12_part 139 = .ok (.bipush 6, 2) := by decide +kernel
theorem dX12_part_141 : decode cX12_part 141 = .ok (.goto 4, 3) := by decide +kernel
theorem dX12_part_144 : decode cX12_part 144 = .ok (.iconst (-1), 1) := by decide +kernel
theorem dX12_part_145 : decode cX12_part 145 = .ok (.istore_n 1, 1) := by decide +kernel
theorem dX12_part_146 : decode cX12_part 146 = .ok (.iload_n 1, 1) := by decide +kernel
theorem dX12_part_147 : decode cX12_part 147 = .ok (.iconst (-1), 1) := by decide +kernel
theorem dX12_part_148 : decode cX12_part 148 = .ok (.if_icmp .ne 13, 3) := by decide +kernel
theorem dX12_part_151 : decode cX12_part 151 = .ok (.aload_n 0, 1) := by decide +kernel
theorem dX12_part_152 : decode cX12_part 152 = .ok (.aload_n 0, 1) := by decide +kernel
theorem dX12_part_153 : decode cX12_part 153 = .ok (.getfield 82, 3) := by decide +kernel
theorem dX12_part_156 : decode cX12_part 156 = .ok (.invokevirtual 108, 3) := by decide +kernel
theorem dX12_part_159 : decode cX12_part 159 = .ok (.iconst 0, 1) := by decide +kernel
theorem dX12_part_160 : decode cX12_part 160 = .ok (.ireturn, 1) := by decide +kernel
theorem dX12_part_161 : decode cX12_part 161 = .ok (.aload_n 0, 1) := by decide +kernel
theorem dX12_part_162 : decode cX12_part 162 = .ok (.getfield 29, 3) := by decide +kernel
theorem dX12_part_165 : decode cX12_part 165 = .ok (.iload_n 1, 1) := by decide +kernel
theorem dX12_part_166 : decode cX12_part 166 = .ok (.iaload, 1) := by decide +kernel
theorem dX12_part_167 : decode cX12_part 167 = .ok (.ireturn, 1) := by decide +kernel
def q12_part (σ : St) : Option (Int32 × St) :=
  if ¬ (σ 0 12) = (-1) then (some (0, σ)) else
  Option.bind (q12_skip σ) fun x5_ =>
  Option.bind (if (x5_ 0 11) < (x5_ 0 10) then (Option.bind (q12_letter x5_ (x5_ 0 11)) fun x12_ =>
  if q12_isIn x12_ 48 57 = true then (some true) else (some false)) else (some false)) fun t9_ =>
  if t9_ = true then (Option.bind (q12_figures x5_ 0 999) fun x16_ =>
  some (x16_.1, x16_.2)) else
  Option.bind (Option.bind (q12_has x5_ 26) fun x23_ =>
  if x23_.1 = true then (some ((0 : Int32), x23_.2)) else (Option.bind (Option.bind (q12_has x23_.2 27) fun x31_ =>
  if x31_.1 = true then (some ((1 : Int32), x31_.2)) else (Option.bind (Option.bind (q12_has x31_.2 7) fun x39_ =>
  if x39_.1 = true then (some ((2 : Int32), x39_.2)) else (Option.bind (Option.bind (q12_has x39_.2 1) fun x47_ =>
  if x47_.1 = true then (some ((3 : Int32), x47_.2)) else (Option.bind (Option.bind (q12_has x47_.2 28) fun x55_ =>
  if x55_.1 = true then (some ((4 : Int32), x55_.2)) else (Option.bind (Option.bind (q12_has x55_.2 29) fun x63_ =>
  if x63_.1 = true then (some ((5 : Int32), x63_.2)) else (Option.bind (Option.bind (q12_has x63_.2 5) fun x71_ =>
  if x71_.1 = true then (some ((6 : Int32), x71_.2)) else (some ((-1 : Int32), x71_.2))) fun x66_ =>
  some (x66_.1, x66_.2))) fun x58_ =>
  some (x58_.1, x58_.2))) fun x50_ =>
  some (x50_.1, x50_.2))) fun x42_ =>
  some (x42_.1, x42_.2))) fun x34_ =>
  some (x34_.1, x34_.2))) fun x26_ =>
  some (x26_.1, x26_.2))) fun x18_ =>
  if x18_.1 = (-1) then (Option.bind (q12_wrong x18_.2 (x18_.2 0 11)) fun x85_ =>
  some (0, x85_)) else
  Option.bind (ag x18_.2 6 7 x18_.1) fun x87_ =>
  some (x87_, x18_.2)
abbrev rm12_part : Room := { frames := 5, cells := 0, slots := 0, locals := 108 }
set_option maxHeartbeats 4000000 in
set_option maxRecDepth 100000 in
theorem p12_part {Θ : Tz} {σ : St} {ρ : Option Value × St} (C : Zc Θ cX12_part 2 RX12 (some .int) rm12_part) (hkd : Θ.2.2.2.2.1 = kdM) {r : (Int32 × St)} (hf : q12_part σ = some r) (hρ : ρ = (some (.int r.1), r.2)) : Z Θ 2 0 0 (zQ Θ ρ) σ 0 [(0, .ref (zA Θ 0))] [] := by
  unfold q12_part at hf
  have K1_ : ¬ (σ 0 12) = (-1) → Z Θ 2 0 0 (zQ Θ ρ) σ 8 [(0, .ref (zA Θ 0))] [] := by
    intro h4_
    rw [if_pos h4_] at hf
    refine z_iconst (v := 0) C dX12_part_8 ic_0 ?_
    cases hf
    subst hρ
    exact z_iret C dX12_part_9
  suffices K2_ : ¬ (¬ (σ 0 12) = (-1)) → Z Θ 2 0 0 (zQ Θ ρ) σ 10 [(0, .ref (zA Θ 0))] [] by
    refine z_aload_n C 0 dX12_part_0 rfl rfl ?_
    refine fg12_25 C hkd dX12_part_1 ?_
    refine z_iconst (v := (-1)) C dX12_part_4 ic_m1 ?_
    refine c_ne_f C 10 dX12_part_5 (by decide) (fun h3_ => ?_) (fun h3_ => ?_)
    · exact K1_ h3_
    · exact K2_ h3_
  intro h4_
  rw [if_neg h4_] at hf
  refine z_aload_n C 0 dX12_part_10 rfl rfl ?_
  obtain ⟨x5_, h6_, hf⟩ := ob hf
  refine cr12_92 C hkd  h6_ ⟨(Nat.le_of_ble_eq_true rfl), (Nat.le_of_ble_eq_true rfl)⟩ (Nat.le_of_ble_eq_true rfl) ⟨Nat.zero_le _, Nat.zero_le _⟩ dX12_part_11 ?_
  obtain ⟨t9_, h10_, hf⟩ := ob hf
  have K7_ : t9_ = true → Z Θ 2 0 0 (zQ Θ ρ) x5_ 43 [(0, .ref (zA Θ 0))] [] := by
    intro h15_
    rw [if_pos h15_] at hf
    refine z_aload_n C 0 dX12_part_43 rfl rfl ?_
    refine z_iconst (v := 0) C dX12_part_44 ic_0 ?_
    refine z_sipush (v := 999) C dX12_part_45 sp_999 ?_
    obtain ⟨x16_, h17_, hf⟩ := ob hf
    refine cr12_116 (low_a := 0) (high_a := 999) C hkd  h17_ ⟨(Nat.le_of_ble_eq_true rfl), (Nat.le_of_ble_eq_true rfl)⟩ (Nat.le_of_ble_eq_true rfl) ⟨Nat.zero_le _, Nat.zero_le _⟩ dX12_part_48 ?_
    cases hf
    subst hρ
    exact z_iret C dX12_part_51
  suffices K8_ : ¬ (t9_ = true) → Z Θ 2 0 0 (zQ Θ ρ) x5_ 52 [(0, .ref (zA Θ 0))] [] by
    refine z_aload_n C 0 dX12_part_14 rfl rfl ?_
    refine fg12_82 C hkd dX12_part_15 ?_
    refine z_aload_n C 0 dX12_part_18 rfl rfl ?_
    refine fg12_85 C hkd dX12_part_19 ?_
    refine c_lt_f C 52 dX12_part_22 (by decide) (fun h11_ => ?_) (fun h11_ => ?_)
    · rw [if_pos h11_] at h10_
      refine z_aload_n C 0 dX12_part_25 rfl rfl ?_
      refine z_aload_n C 0 dX12_part_26 rfl rfl ?_
      refine fg12_82 C hkd dX12_part_27 ?_
      obtain ⟨x12_, h13_, h10_⟩ := ob h10_
      refine cr12_88 (k_a := (x5_ 0 11)) C hkd  h13_ ⟨(Nat.le_of_ble_eq_true rfl), (Nat.le_of_ble_eq_true rfl)⟩ (Nat.le_of_ble_eq_true rfl) ⟨Nat.zero_le _, Nat.zero_le _⟩ dX12_part_30 ?_
      refine z_bipush (v := 48) C dX12_part_33 bp_48 ?_
      refine z_bipush (v := 57) C dX12_part_35 bp_57 ?_
      refine cr12_68 (v_a := x12_) (low_a := 48) (high_a := 57) C hkd  ⟨(Nat.le_of_ble_eq_true rfl), (Nat.le_of_ble_eq_true rfl)⟩ (Nat.le_of_ble_eq_true rfl) ⟨Nat.zero_le _, Nat.zero_le _⟩ dX12_part_37 ?_
      refine cb_f C 52 dX12_part_40 (by decide) (fun h14_ => ?_) (fun h14_ => ?_)
      · rw [if_pos h14_] at h10_
        cases h10_
        exact K7_ rfl
      · rw [if_neg h14_] at h10_
        cases h10_
        exact K8_ Bool.false_ne_true
    · rw [if_neg h11_] at h10_
      cases h10_
      exact K8_ Bool.false_ne_true
  intro h15_
  rw [if_neg h15_] at hf
  obtain ⟨x18_, h19_, hf⟩ := ob hf
  suffices K20_ : Z Θ 2 0 0 (zQ Θ ρ) x18_.2 145 [(0, .ref (zA Θ 0))] [.int x18_.1] by
    refine z_aload_n C 0 dX12_part_52 rfl rfl ?_
    refine z_ldcs (k := 26) (tx := "voter") C (List.mem_of_getElem? (i := 53) rfl) dX12_part_53 ?_
    obtain ⟨x23_, h24_, h19_⟩ := ob h19_
    refine cr12_112 (w_a := 26) C hkd (Nat.le_of_ble_eq_true rfl) h24_ ⟨(Nat.le_of_ble_eq_true rfl), (Nat.le_of_ble_eq_true rfl)⟩ (Nat.le_of_ble_eq_true rfl) ⟨Nat.zero_le _, Nat.zero_le _⟩ dX12_part_55 ?_
    have K21_ : x23_.1 = true → Z Θ 2 0 0 (zQ Θ ρ) x23_.2 61 [(0, .ref (zA Θ 0))] [] := by
      intro h80_
      rw [if_pos h80_] at h19_
      refine z_iconst (v := 0) C dX12_part_61 ic_0 ?_
      refine z_goto C 145 dX12_part_62 (by decide) ?_
      cases h19_
      exact K20_
    have K22_ : ¬ (x23_.1 = true) → Z Θ 2 0 0 (zQ Θ ρ) x23_.2 65 [(0, .ref (zA Θ 0))] [] := by
      intro h80_
      rw [if_neg h80_] at h19_
      obtain ⟨x26_, h27_, h19_⟩ := ob h19_
      suffices K28_ : Z Θ 2 0 0 (zQ Θ ρ) x26_.2 145 [(0, .ref (zA Θ 0))] [.int x26_.1] by
        refine z_aload_n C 0 dX12_part_65 rfl rfl ?_
        refine z_ldcs (k := 27) (tx := "other") C (List.mem_of_getElem? (i := 54) rfl) dX12_part_66 ?_
        obtain ⟨x31_, h32_, h27_⟩ := ob h27_
        refine cr12_112 (w_a := 27) C hkd (Nat.le_of_ble_eq_true rfl) h32_ ⟨(Nat.le_of_ble_eq_true rfl), (Nat.le_of_ble_eq_true rfl)⟩ (Nat.le_of_ble_eq_true rfl) ⟨Nat.zero_le _, Nat.zero_le _⟩ dX12_part_68 ?_
        have K29_ : x31_.1 = true → Z Θ 2 0 0 (zQ Θ ρ) x31_.2 74 [(0, .ref (zA Θ 0))] [] := by
          intro h79_
          rw [if_pos h79_] at h27_
          refine z_iconst (v := 1) C dX12_part_74 ic_1 ?_
          refine z_goto C 145 dX12_part_75 (by decide) ?_
          cases h27_
          exact K28_
        have K30_ : ¬ (x31_.1 = true) → Z Θ 2 0 0 (zQ Θ ρ) x31_.2 78 [(0, .ref (zA Θ 0))] [] := by
          intro h79_
          rw [if_neg h79_] at h27_
          obtain ⟨x34_, h35_, h27_⟩ := ob h27_
          suffices K36_ : Z Θ 2 0 0 (zQ Θ ρ) x34_.2 145 [(0, .ref (zA Θ 0))] [.int x34_.1] by
            refine z_aload_n C 0 dX12_part_78 rfl rfl ?_
            refine z_ldcs (k := 7) (tx := "likes") C (List.mem_of_getElem? (i := 55) rfl) dX12_part_79 ?_
            obtain ⟨x39_, h40_, h35_⟩ := ob h35_
            refine cr12_112 (w_a := 7) C hkd (Nat.le_of_ble_eq_true rfl) h40_ ⟨(Nat.le_of_ble_eq_true rfl), (Nat.le_of_ble_eq_true rfl)⟩ (Nat.le_of_ble_eq_true rfl) ⟨Nat.zero_le _, Nat.zero_le _⟩ dX12_part_81 ?_
            have K37_ : x39_.1 = true → Z Θ 2 0 0 (zQ Θ ρ) x39_.2 87 [(0, .ref (zA Θ 0))] [] := by
              intro h78_
              rw [if_pos h78_] at h35_
              refine z_iconst (v := 2) C dX12_part_87 ic_2 ?_
              refine z_goto C 145 dX12_part_88 (by decide) ?_
              cases h35_
              exact K36_
            have K38_ : ¬ (x39_.1 = true) → Z Θ 2 0 0 (zQ Θ ρ) x39_.2 91 [(0, .ref (zA Θ 0))] [] := by
              intro h78_
              rw [if_neg h78_] at h35_
              obtain ⟨x42_, h43_, h35_⟩ := ob h35_
              suffices K44_ : Z Θ 2 0 0 (zQ Θ ρ) x42_.2 145 [(0, .ref (zA Θ 0))] [.int x42_.1] by
                refine z_aload_n C 0 dX12_part_91 rfl rfl ?_
                refine z_ldcs (k := 1) (tx := "hunger") C (List.mem_of_getElem? (i := 56) rfl) dX12_part_92 ?_
                obtain ⟨x47_, h48_, h43_⟩ := ob h43_
                refine cr12_112 (w_a := 1) C hkd (Nat.le_of_ble_eq_true rfl) h48_ ⟨(Nat.le_of_ble_eq_true rfl), (Nat.le_of_ble_eq_true rfl)⟩ (Nat.le_of_ble_eq_true rfl) ⟨Nat.zero_le _, Nat.zero_le _⟩ dX12_part_94 ?_
                have K45_ : x47_.1 = true → Z Θ 2 0 0 (zQ Θ ρ) x47_.2 100 [(0, .ref (zA Θ 0))] [] := by
                  intro h77_
                  rw [if_pos h77_] at h43_
                  refine z_iconst (v := 3) C dX12_part_100 ic_3 ?_
                  refine z_goto C 145 dX12_part_101 (by decide) ?_
                  cases h43_
                  exact K44_
                have K46_ : ¬ (x47_.1 = true) → Z Θ 2 0 0 (zQ Θ ρ) x47_.2 104 [(0, .ref (zA Θ 0))] [] := by
                  intro h77_
                  rw [if_neg h77_] at h43_
                  obtain ⟨x50_, h51_, h43_⟩ := ob h43_
                  suffices K52_ : Z Θ 2 0 0 (zQ Θ ρ) x50_.2 145 [(0, .ref (zA Θ 0))] [.int x50_.1] by
                    refine z_aload_n C 0 dX12_part_104 rfl rfl ?_
                    refine z_ldcs (k := 28) (tx := "had") C (List.mem_of_getElem? (i := 57) rfl) dX12_part_105 ?_
                    obtain ⟨x55_, h56_, h51_⟩ := ob h51_
                    refine cr12_112 (w_a := 28) C hkd (Nat.le_of_ble_eq_true rfl) h56_ ⟨(Nat.le_of_ble_eq_true rfl), (Nat.le_of_ble_eq_true rfl)⟩ (Nat.le_of_ble_eq_true rfl) ⟨Nat.zero_le _, Nat.zero_le _⟩ dX12_part_107 ?_
                    have K53_ : x55_.1 = true → Z Θ 2 0 0 (zQ Θ ρ) x55_.2 113 [(0, .ref (zA Θ 0))] [] := by
                      intro h76_
                      rw [if_pos h76_] at h51_
                      refine z_iconst (v := 4) C dX12_part_113 ic_4 ?_
                      refine z_goto C 145 dX12_part_114 (by decide) ?_
                      cases h51_
                      exact K52_
                    have K54_ : ¬ (x55_.1 = true) → Z Θ 2 0 0 (zQ Θ ρ) x55_.2 117 [(0, .ref (zA Θ 0))] [] := by
                      intro h76_
                      rw [if_neg h76_] at h51_
                      obtain ⟨x58_, h59_, h51_⟩ := ob h51_
                      suffices K60_ : Z Θ 2 0 0 (zQ Θ ρ) x58_.2 145 [(0, .ref (zA Θ 0))] [.int x58_.1] by
                        refine z_aload_n C 0 dX12_part_117 rfl rfl ?_
                        refine z_ldcs (k := 29) (tx := "run") C (List.mem_of_getElem? (i := 58) rfl) dX12_part_118 ?_
                        obtain ⟨x63_, h64_, h59_⟩ := ob h59_
                        refine cr12_112 (w_a := 29) C hkd (Nat.le_of_ble_eq_true rfl) h64_ ⟨(Nat.le_of_ble_eq_true rfl), (Nat.le_of_ble_eq_true rfl)⟩ (Nat.le_of_ble_eq_true rfl) ⟨Nat.zero_le _, Nat.zero_le _⟩ dX12_part_120 ?_
                        have K61_ : x63_.1 = true → Z Θ 2 0 0 (zQ Θ ρ) x63_.2 126 [(0, .ref (zA Θ 0))] [] := by
                          intro h75_
                          rw [if_pos h75_] at h59_
                          refine z_iconst (v := 5) C dX12_part_126 ic_5 ?_
                          refine z_goto C 145 dX12_part_127 (by decide) ?_
                          cases h59_
                          exact K60_
                        have K62_ : ¬ (x63_.1 = true) → Z Θ 2 0 0 (zQ Θ ρ) x63_.2 130 [(0, .ref (zA Θ 0))] [] := by
                          intro h75_
                          rw [if_neg h75_] at h59_
                          obtain ⟨x66_, h67_, h59_⟩ := ob h59_
                          suffices K68_ : Z Θ 2 0 0 (zQ Θ ρ) x66_.2 145 [(0, .ref (zA Θ 0))] [.int x66_.1] by
                            refine z_aload_n C 0 dX12_part_130 rfl rfl ?_
                            refine z_ldcs (k := 5) (tx := "skin") C (List.mem_of_getElem? (i := 59) rfl) dX12_part_131 ?_
                            obtain ⟨x71_, h72_, h67_⟩ := ob h67_
                            refine cr12_112 (w_a := 5) C hkd (Nat.le_of_ble_eq_true rfl) h72_ ⟨(Nat.le_of_ble_eq_true rfl), (Nat.le_of_ble_eq_true rfl)⟩ (Nat.le_of_ble_eq_true rfl) ⟨Nat.zero_le _, Nat.zero_le _⟩ dX12_part_133 ?_
                            have K69_ : x71_.1 = true → Z Θ 2 0 0 (zQ Θ ρ) x71_.2 139 [(0, .ref (zA Θ 0))] [] := by
                              intro h74_
                              rw [if_pos h74_] at h67_
                              refine z_bipush (v := 6) C dX12_part_139 bp_6 ?_
                              refine z_goto C 145 dX12_part_141 (by decide) ?_
                              cases h67_
                              exact K68_
                            have K70_ : ¬ (x71_.1 = true) → Z Θ 2 0 0 (zQ Θ ρ) x71_.2 144 [(0, .ref (zA Θ 0))] [] := by
                              intro h74_
                              rw [if_neg h74_] at h67_
                              refine z_iconst (v := (-1)) C dX12_part_144 ic_m1 ?_
                              cases h67_
                              exact K68_
                            refine cb_f C 144 dX12_part_136 (by decide) (fun h73_ => ?_) (fun h73_ => ?_)
                            · exact K69_ h73_
                            · exact K70_ h73_
                          cases h59_
                          exact K60_
                        refine cb_f C 130 dX12_part_123 (by decide) (fun h65_ => ?_) (fun h65_ => ?_)
                        · exact K61_ h65_
                        · exact K62_ h65_
                      cases h51_
                      exact K52_
                    refine cb_f C 117 dX12_part_110 (by decide) (fun h57_ => ?_) (fun h57_ => ?_)
                    · exact K53_ h57_
                    · exact K54_ h57_
                  cases h43_
                  exact K44_
                refine cb_f C 104 dX12_part_97 (by decide) (fun h49_ => ?_) (fun h49_ => ?_)
                · exact K45_ h49_
                · exact K46_ h49_
              cases h35_
              exact K36_
            refine cb_f C 91 dX12_part_84 (by decide) (fun h41_ => ?_) (fun h41_ => ?_)
            · exact K37_ h41_
            · exact K38_ h41_
          cases h27_
          exact K28_
        refine cb_f C 78 dX12_part_71 (by decide) (fun h33_ => ?_) (fun h33_ => ?_)
        · exact K29_ h33_
        · exact K30_ h33_
      cases h19_
      exact K20_
    refine cb_f C 65 dX12_part_58 (by decide) (fun h25_ => ?_) (fun h25_ => ?_)
    · exact K21_ h25_
    · exact K22_ h25_
  refine z_istN C dX12_part_145 rfl rfl (Nat.le_of_ble_eq_true rfl) rfl ?_
  have K81_ : x18_.1 = (-1) → Z Θ 2 0 0 (zQ Θ ρ) x18_.2 151 [(1, .int x18_.1), (0, .ref (zA Θ 0))] [] := by
    intro h84_
    rw [if_pos h84_] at hf
    refine z_aload_n C 1 dX12_part_151 rfl rfl ?_
    refine z_aload_n C 1 dX12_part_152 rfl rfl ?_
    refine fg12_82 C hkd dX12_part_153 ?_
    obtain ⟨x85_, h86_, hf⟩ := ob hf
    refine cr12_108 (where_a := (x18_.2 0 11)) C hkd  h86_ ⟨(Nat.le_of_ble_eq_true rfl), (Nat.le_of_ble_eq_true rfl)⟩ (Nat.le_of_ble_eq_true rfl) ⟨Nat.zero_le _, Nat.zero_le _⟩ dX12_part_156 ?_
    refine z_iconst (v := 0) C dX12_part_159 ic_0 ?_
    cases hf
    subst hρ
    exact z_iret C dX12_part_160
  suffices K82_ : ¬ (x18_.1 = (-1)) → Z Θ 2 0 0 (zQ Θ ρ) x18_.2 161 [(1, .int x18_.1), (0, .ref (zA Θ 0))] [] by
    refine z_iload_n C 0 dX12_part_146 rfl rfl ?_
    refine z_iconst (v := (-1)) C dX12_part_147 ic_m1 ?_
    refine c_eq_f C 161 dX12_part_148 (by decide) (fun h83_ => ?_) (fun h83_ => ?_)
    · exact K81_ h83_
    · exact K82_ h83_
  intro h84_
  rw [if_neg h84_] at hf
  refine z_aload_n C 1 dX12_part_161 rfl rfl ?_
  refine fg12_29 C hkd dX12_part_162 ?_
  refine z_iload_n C 0 dX12_part_165 rfl rfl ?_
  obtain ⟨x87_, h88_, hf⟩ := ob hf
  refine z_ag C h88_ (kM_6 hkd) dX12_part_166 ?_
  cases hf
  subst hρ
  exact z_iret C dX12_part_167
theorem c12_part {l : Launch} {kd : List KD} {w : Wp} {σ : St} (hkd : kd = kdM) (hi : zI kd w) {r : (Int32 × St)} (hf : q12_part σ = some r) : zM l kd w yX12_part cX12_part 2 (some .int) rm12_part [.ref (w.2.2.1 0)] σ (some (.int r.1), r.2) := zM_of rfl hi (Nat.le_of_ble_eq_true rfl) (fun Θ hl hw C => by
  obtain ⟨Θ1, Θ2, Θ3, Θ4, Θ5⟩ := Θ
  cases hw
  exact p12_part C hkd  hf rfl)
/-! LastLoafModel.sum -/
theorem w_8_222 : Cond.code ({ cls := "LastLoafModel", name := "part", desc := "()I" } : MethodName) prog_14_method_34_code (2 : Nat) (Option.some ClassFile.FieldType.int) ∈ TB := tb_in (lwt_8 (List.mem_of_getElem? (i := 222) (by decide +kernel))) rfl
theorem w_8_219 : Cond.methodLink "LastLoafModel" (210 : Nat) ({ cls := "LastLoafModel", name := "part", desc := "()I" } : MethodName) ∈ TB := tb_in (lwt_8 (List.mem_of_getElem? (i := 219) (by decide +kernel))) rfl
theorem w_8_221 : Cond.instanceMethod ({ cls := "LastLoafModel", name := "part", desc := "()I" } : MethodName) ∈ TB := tb_in (lwt_8 (List.mem_of_getElem? (i := 221) (by decide +kernel))) rfl
theorem ws_LastLoafModel_part__I : Cond.selects "LastLoafModel" (⟨"LastLoafModel", "part", "()I"⟩ : MethodName) (⟨"LastLoafModel", "part", "()I"⟩ : MethodName) ∈ TB := tb_in (List.mem_append_left _ (List.mem_of_getElem? (i := 33) (by decide +kernel))) rfl
theorem cr12_210 {Θ : Tz} {cc : ByteArray} {nL kc ks : Nat} {ret : Option FieldType} {rm : Room} {Q : State → Prop} {σ : St} {pc : Nat} {lv : List (Nat × Value)} {st : List Value} (C : Zc Θ cc nL RX12 ret rm) (hkd : Θ.2.2.2.2.1 = kdM) {r : Int32 × St} (hx : q12_part σ = some r) (hrm : rm12_part.frames + 1 ≤ rm.frames ∧ 8 + (2 + 11) + rm12_part.locals ≤ rm.locals) (hcat : (st.map fun v => v.category).sum ≤ 8) (hk : kc ≤ rm.cells ∧ ks ≤ rm.slots) (hd : decode cc pc = .ok (.invokevirtual 210, 3)) (kk : Z Θ nL kc ks Q r.2 (pc + 3) lv (.int r.1 :: st)) : Z Θ nL kc ks Q σ pc lv (.ref (zA Θ 0) :: st) := z_callV C 0 [] (some (.int r.1), r.2) 0 (kM_0 hkd) rfl (c12_part hkd (zc_inj C) hx) w_8_222 w_8_219 w_8_221 ws_LastLoafModel_part__I w_1_14 ⟨rfl, rfl, hrm.1, hrm.2⟩ (by decide +kernel) rfl rfl hcat hk hd kk
theorem bp_43 : (Int8.ofInt (43)).toInt32 = 43 := by decide +kernel
theorem w_8_208 : Cond.code ({ cls := "LastLoafModel", name := "isSign", desc := "(I)Z" } : MethodName) prog_14_method_18_code (2 : Nat) (Option.some ClassFile.FieldType.boolean) ∈ TB := tb_in (lwt_8 (List.mem_of_getElem? (i := 208) (by decide +kernel))) rfl
theorem w_8_205 : Cond.methodLink "LastLoafModel" (182 : Nat) ({ cls := "LastLoafModel", name := "isSign", desc := "(I)Z" } : MethodName) ∈ TB := tb_in (lwt_8 (List.mem_of_getElem? (i := 205) (by decide +kernel))) rfl
theorem w_8_207 : Cond.instanceMethod ({ cls := "LastLoafModel", name := "isSign", desc := "(I)Z" } : MethodName) ∈ TB := tb_in (lwt_8 (List.mem_of_getElem? (i := 207) (by decide +kernel))) rfl
theorem ws_LastLoafModel_isSign_I_Z : Cond.selects "LastLoafModel" (⟨"LastLoafModel", "isSign", "(I)Z"⟩ : MethodName) (⟨"LastLoafModel", "isSign", "(I)Z"⟩ : MethodName) ∈ TB := tb_in (List.mem_append_left _ (List.mem_of_getElem? (i := 30) (by decide +kernel))) rfl
theorem cr12_182 {Θ : Tz} {cc : ByteArray} {nL kc ks : Nat} {ret : Option FieldType} {rm : Room} {Q : State → Prop} {σ : St} {pc : Nat} {lv : List (Nat × Value)} {st : List Value} (C : Zc Θ cc nL RX12 ret rm) (hkd : Θ.2.2.2.2.1 = kdM) {c_a : Int32} {r : Bool × St} (hx : q12_isSign σ c_a = some r) (hrm : rm12_isSign.frames + 1 ≤ rm.frames ∧ 8 + (2 + 11) + rm12_isSign.locals ≤ rm.locals) (hcat : (st.map fun v => v.category).sum ≤ 8) (hk : kc ≤ rm.cells ∧ ks ≤ rm.slots) (hd : decode cc pc = .ok (.invokevirtual 182, 3)) (kk : Z Θ nL kc ks Q r.2 (pc + 3) lv (.int (b2i r.1) :: st)) : Z Θ nL kc ks Q σ pc lv (.int c_a :: .ref (zA Θ 0) :: st) := z_callV C 0 [.int c_a] (some (.int (b2i r.1)), r.2) 1 (kM_0 hkd) rfl (c12_isSign (c_a := c_a) hkd (zc_inj C) hx) w_8_208 w_8_205 w_8_207 ws_LastLoafModel_isSign_I_Z w_1_14 ⟨rfl, rfl, hrm.1, hrm.2⟩ (by decide +kernel) rfl rfl hcat hk hd kk
theorem dX12_sum_0 : decode cX12_sum 0 = .ok (.aload_n 0, 1) := by decide +kernel
theorem dX12_sum_1 : decode cX12_sum 1 = .ok (.invokevirtual 210, 3) := by decide +kernel
theorem dX12_sum_4 : decode cX12_sum 4 = .ok (.istore_n 1, 1) := by decide +kernel
theorem dX12_sum_5 : decode cX12_sum 5 = .ok (.aload_n 0, 1) := by decide +kernel
theorem dX12_sum_6 : decode cX12_sum 6 = .ok (.getfield 25, 3) := by decide +kernel
theorem dX12_sum_9 : decode cX12_sum 9 = .ok (.iconst (-1), 1) := by decide +kernel
theorem dX12_sum_10 : decode cX12_sum 10 = .ok (.if_icmp .ne 32, 3) := by decide +kernel
theorem dX12_sum_13 : decode cX12_sum 13 = .ok (.aload_n 0, 1) := by decide +kernel
theorem dX12_sum_14 : decode cX12_sum 14 = .ok (.bipush 43, 2) := by decide +kernel
theorem dX12_sum_16 : decode cX12_sum 16 = .ok (.invokevirtual 182, 3) := by decide +kernel
theorem dX12_sum_19 : decode cX12_sum 19 = .ok (.ifCond .eq 23, 3) := by decide +kernel
theorem dX12_sum_22 : decode cX12_sum 22 = .ok (.aload_n 0, 1) := by decide +kernel
theorem dX12_sum_23 : decode cX12_sum 23 = .ok (.dup, 1) := by decide +kernel
theorem dX12_sum_24 : decode cX12_sum 24 = .ok (.getfield 82, 3) := by decide +kernel
theorem dX12_sum_27 : decode cX12_sum 27 = .ok (.iconst 1, 1) := by decide +kernel
theorem dX12_sum_28 : decode cX12_sum 28 = .ok (.iadd, 1) := by decide +kernel
theorem dX12_sum_29 : decode cX12_sum 29 = .ok (.putfield 82, 3) := by decide +kernel
theorem dX12_sum_32 : decode cX12_sum 32 = .ok (.iload_n 1, 1) := by decide +kernel
theorem dX12_sum_33 : decode cX12_sum 33 = .ok (.aload_n 0, 1) := by decide +kernel
theorem dX12_sum_34 : decode cX12_sum 34 = .ok (.invokevirtual 210, 3) := by decide +kernel
theorem dX12_sum_37 : decode cX12_sum 37 = .ok (.iadd, 1) := by decide +kernel
theorem dX12_sum_38 : decode cX12_sum 38 = .ok (.istore_n 1, 1) := by decide +kernel
theorem dX12_sum_39 : decode cX12_sum 39 = .ok (.goto (-34), 3) := by decide +kernel
theorem dX12_sum_42 : decode cX12_sum 42 = .ok (.iload_n 1, 1) := by decide +kernel
theorem dX12_sum_43 : decode cX12_sum 43 = .ok (.ireturn, 1) := by decide +kernel
def q12_sum (σ : St) : Option (Int32 × St) :=
  Option.bind (q12_part σ) fun x1_ =>
  Option.bind (loop2 (fun rec6_ (n9_ : Int32) (σ10_ : St) =>
  Option.bind (if (σ10_ 0 12) = (-1) then (Option.bind (q12_isSign σ10_ 43) fun x18_ =>
  if x18_.1 = true then (some (true, x18_.2)) else (some (false, x18_.2))) else (some (false, σ10_))) fun t15_ =>
  if t15_.1 = true then
  lt (up t15_.2 0 11 ((t15_.2 0 11) + 1)) fun σ22_ =>
  Option.bind (q12_part σ22_) fun x24_ =>
  lt (n9_ + x24_.1) fun n26_ =>
  rec6_ n26_ x24_.2
  else (some (n9_, t15_.2))) fuelN x1_.1 x1_.2) fun y3_ =>
  some (y3_.1, y3_.2)
abbrev rm12_sum : Room := { frames := 6, cells := 0, slots := 0, locals := 129 }
set_option maxHeartbeats 4000000 in
set_option maxRecDepth 100000 in
theorem p12_sum {Θ : Tz} {σ : St} {ρ : Option Value × St} (C : Zc Θ cX12_sum 2 RX12 (some .int) rm12_sum) (hkd : Θ.2.2.2.2.1 = kdM) {r : (Int32 × St)} (hf : q12_sum σ = some r) (hρ : ρ = (some (.int r.1), r.2)) : Z Θ 2 0 0 (zQ Θ ρ) σ 0 [(0, .ref (zA Θ 0))] [] := by
  unfold q12_sum at hf
  refine z_aload_n C 0 dX12_sum_0 rfl rfl ?_
  obtain ⟨x1_, h2_, hf⟩ := ob hf
  refine cr12_210 C hkd  h2_ ⟨(Nat.le_of_ble_eq_true rfl), (Nat.le_of_ble_eq_true rfl)⟩ (Nat.le_of_ble_eq_true rfl) ⟨Nat.zero_le _, Nat.zero_le _⟩ dX12_sum_1 ?_
  refine z_istN C dX12_sum_4 rfl rfl (Nat.le_of_ble_eq_true rfl) rfl ?_
  refine Z.sub [1, 0] rfl ?_
  obtain ⟨y3_, h4_, hf⟩ := ob hf
  suffices K5_ : Z Θ 2 0 0 (zQ Θ ρ) y3_.2 42 [(0, .ref (zA Θ 0)), (1, .int y3_.1)] [] by
    refine loop2_Z (P := fun (n9_ : Int32) (σ10_ : St) => Z Θ 2 0 0 (zQ Θ ρ) σ10_ 5 [(0, .ref (zA Θ 0)), (1, .int n9_)] []) ?_ fuelN x1_.1 x1_.2 h4_
    clear h4_
    intro rec6_ n9_ σ10_ h7_ h8_
    obtain ⟨t15_, h16_, h8_⟩ := ob h8_
    have K13_ : t15_.1 = true → Z Θ 2 0 0 (zQ Θ ρ) t15_.2 22 [(0, .ref (zA Θ 0)), (1, .int n9_)] [] := by
      intro h21_
      rw [if_pos h21_] at h8_
      refine z_aload_n C 0 dX12_sum_22 rfl rfl ?_
      refine z_dup C dX12_sum_23 rfl ?_
      refine fg12_82 C hkd dX12_sum_24 ?_
      refine z_iconst (v := 1) C dX12_sum_27 ic_1 ?_
      refine z_iadd C dX12_sum_28 ?_
      obtain ⟨σ22_, h23_, h8_⟩ := lt_ h8_
      refine fp12_82 C hkd h23_ dX12_sum_29 ?_
      refine z_iload_n C 1 dX12_sum_32 rfl rfl ?_
      refine z_aload_n C 0 dX12_sum_33 rfl rfl ?_
      obtain ⟨x24_, h25_, h8_⟩ := ob h8_
      refine cr12_210 C hkd  h25_ ⟨(Nat.le_of_ble_eq_true rfl), (Nat.le_of_ble_eq_true rfl)⟩ (Nat.le_of_ble_eq_true rfl) ⟨Nat.zero_le _, Nat.zero_le _⟩ dX12_sum_34 ?_
      refine z_iadd C dX12_sum_37 ?_
      obtain ⟨n26_, h27_, h8_⟩ := lt_ h8_
      refine z_istN C dX12_sum_38 h27_ rfl (Nat.le_of_ble_eq_true rfl) rfl ?_
      refine z_goto C 5 dX12_sum_39 (by decide) ?_
      refine Z.sub [1, 0] rfl ?_
      exact h7_ _ _ h8_
    have K14_ : ¬ (t15_.1 = true) → Z Θ 2 0 0 (zQ Θ ρ) t15_.2 42 [(0, .ref (zA Θ 0)), (1, .int n9_)] [] := by
      intro h21_
      rw [if_neg h21_] at h8_
      cases h8_
      exact K5_
    refine z_aload_n C 0 dX12_sum_5 rfl rfl ?_
    refine fg12_25 C hkd dX12_sum_6 ?_
    refine z_iconst (v := (-1)) C dX12_sum_9 ic_m1 ?_
    refine c_eq_f C 42 dX12_sum_10 (by decide) (fun h17_ => ?_) (fun h17_ => ?_)
    · rw [if_pos h17_] at h16_
      refine z_aload_n C 0 dX12_sum_13 rfl rfl ?_
      refine z_bipush (v := 43) C dX12_sum_14 bp_43 ?_
      obtain ⟨x18_, h19_, h16_⟩ := ob h16_
      refine cr12_182 (c_a := 43) C hkd  h19_ ⟨(Nat.le_of_ble_eq_true rfl), (Nat.le_of_ble_eq_true rfl)⟩ (Nat.le_of_ble_eq_true rfl) ⟨Nat.zero_le _, Nat.zero_le _⟩ dX12_sum_16 ?_
      refine cb_f C 42 dX12_sum_19 (by decide) (fun h20_ => ?_) (fun h20_ => ?_)
      · rw [if_pos h20_] at h16_
        cases h16_
        exact K13_ rfl
      · rw [if_neg h20_] at h16_
        cases h16_
        exact K14_ Bool.false_ne_true
    · rw [if_neg h17_] at h16_
      cases h16_
      exact K14_ Bool.false_ne_true
  refine z_iload_n C 1 dX12_sum_42 rfl rfl ?_
  cases hf
  subst hρ
  exact z_iret C dX12_sum_43
theorem c12_sum {l : Launch} {kd : List KD} {w : Wp} {σ : St} (hkd : kd = kdM) (hi : zI kd w) {r : (Int32 × St)} (hf : q12_sum σ = some r) : zM l kd w yX12_sum cX12_sum 2 (some .int) rm12_sum [.ref (w.2.2.1 0)] σ (some (.int r.1), r.2) := zM_of rfl hi (Nat.le_of_ble_eq_true rfl) (fun Θ hl hw C => by
  obtain ⟨Θ1, Θ2, Θ3, Θ4, Θ5⟩ := Θ
  cases hw
  exact p12_sum C hkd  hf rfl)
/-! LastLoafModel.plain -/
theorem w_8_42 : Cond.fieldLink "LastLoafModel" (215 : Nat) "LastLoafModel" "isSame" "Z" ∈ TB := tb_in (lwt_8 (List.mem_of_getElem? (i := 42) (by decide +kernel))) rfl
theorem fg12_215 {Θ : Tz} {cc : ByteArray} {nL kc ks : Nat} {ret : Option FieldType} {rm : Room} {Q : State → Prop} {σ : St} {pc : Nat} {lv : List (Nat × Value)} {st : List Value} (C : Zc Θ cc nL RX12 ret rm) (hkd : Θ.2.2.2.2.1 = kdM) (hd : decode cc pc = .ok (.getfield 215, 3)) (kk : Z Θ nL kc ks Q σ (pc + 3) lv (.int (σ 0 15) :: st)) : Z Θ nL kc ks Q σ pc lv (.ref (zA Θ 0) :: st) := z_get C inT12 0 (kM_0 hkd) rfl 15 (by decide) w_8_42 rfl hd kk
theorem w_8_43 : Cond.fieldLink "LastLoafModel" (221 : Nat) "LastLoafModel" "isStanding" "Z" ∈ TB := tb_in (lwt_8 (List.mem_of_getElem? (i := 43) (by decide +kernel))) rfl
theorem fg12_221 {Θ : Tz} {cc : ByteArray} {nL kc ks : Nat} {ret : Option FieldType} {rm : Room} {Q : State → Prop} {σ : St} {pc : Nat} {lv : List (Nat × Value)} {st : List Value} (C : Zc Θ cc nL RX12 ret rm) (hkd : Θ.2.2.2.2.1 = kdM) (hd : decode cc pc = .ok (.getfield 221, 3)) (kk : Z Θ nL kc ks Q σ (pc + 3) lv (.int (σ 0 16) :: st)) : Z Θ nL kc ks Q σ pc lv (.ref (zA Θ 0) :: st) := z_get C inT12 0 (kM_0 hkd) rfl 16 (by decide) w_8_43 rfl hd kk
theorem w_8_218 : Cond.code ({ cls := "LastLoafModel", name := "sum", desc := "()I" } : MethodName) prog_14_method_35_code (2 : Nat) (Option.some ClassFile.FieldType.int) ∈ TB := tb_in (lwt_8 (List.mem_of_getElem? (i := 218) (by decide +kernel))) rfl
theorem w_8_215 : Cond.methodLink "LastLoafModel" (224 : Nat) ({ cls := "LastLoafModel", name := "sum", desc := "()I" } : MethodName) ∈ TB := tb_in (lwt_8 (List.mem_of_getElem? (i := 215) (by decide +kernel))) rfl
theorem w_8_217 : Cond.instanceMethod ({ cls := "LastLoafModel", name := "sum", desc := "()I" } : MethodName) ∈ TB := tb_in (lwt_8 (List.mem_of_getElem? (i := 217) (by decide +kernel))) rfl
theorem ws_LastLoafModel_sum__I : Cond.selects "LastLoafModel" (⟨"LastLoafModel", "sum", "()I"⟩ : MethodName) (⟨"LastLoafModel", "sum", "()I"⟩ : MethodName) ∈ TB := tb_in (List.mem_append_left _ (List.mem_of_getElem? (i := 32) (by decide +kernel))) rfl
theorem cr12_224 {Θ : Tz} {cc : ByteArray} {nL kc ks : Nat} {ret : Option FieldType} {rm : Room} {Q : State → Prop} {σ : St} {pc : Nat} {lv : List (Nat × Value)} {st : List Value} (C : Zc Θ cc nL RX12 ret rm) (hkd : Θ.2.2.2.2.1 = kdM) {r : Int32 × St} (hx : q12_sum σ = some r) (hrm : rm12_sum.frames + 1 ≤ rm.frames ∧ 8 + (2 + 11) + rm12_sum.locals ≤ rm.locals) (hcat : (st.map fun v => v.category).sum ≤ 8) (hk : kc ≤ rm.cells ∧ ks ≤ rm.slots) (hd : decode cc pc = .ok (.invokevirtual 224, 3)) (kk : Z Θ nL kc ks Q r.2 (pc + 3) lv (.int r.1 :: st)) : Z Θ nL kc ks Q σ pc lv (.ref (zA Θ 0) :: st) := z_callV C 0 [] (some (.int r.1), r.2) 0 (kM_0 hkd) rfl (c12_sum hkd (zc_inj C) hx) w_8_218 w_8_215 w_8_217 ws_LastLoafModel_sum__I w_1_14 ⟨rfl, rfl, hrm.1, hrm.2⟩ (by decide +kernel) rfl rfl hcat hk hd kk
theorem bp_60 : (Int8.ofInt (60)).toInt32 = 60 := by decide +kernel
theorem bp_62 : (Int8.ofInt (62)).toInt32 = 62 := by decide +kernel
theorem dX12_plain_0 : decode cX12_plain 0 = .ok (.aload_n 0, 1) := by decide +kernel
theorem dX12_plain_1 : decode cX12_plain 1 = .ok (.ldc 213, 2) := by decide +kernel
theorem dX12_plain_3 : decode cX12_plain 3 = .ok (.invokevirtual 112, 3) := by decide +kernel
theorem dX12_plain_6 : decode cX12_plain 6 = .ok (.ifCond .eq 8, 3) := by decide +kernel
theorem dX12_plain_9 : decode cX12_plain 9 = .ok (.aload_n 0, 1) := by decide +kernel
theorem dX12_plain_10 : decode cX12_plain 10 = .ok (.getfield 215, 3) := by decide +kernel
theorem dX12_plain_13 : decode cX12_plain 13 = .ok (.ireturn, 1) := by decide +kernel
theorem dX12_plain_14 : decode cX12_plain 14 = .ok (.aload_n 0, 1) := by decide +kernel
theorem dX12_plain_15 : decode cX12_plain 15 = .ok (.ldc 219, 2) := by decide +kernel
theorem dX12_plain_17 : decode cX12_plain 17 = .ok (.invokevirtual 112, 3) := by decide +kernel
theorem dX12_plain_20 : decode cX12_plain 20 = .ok (.ifCond .eq 8, 3) := by decide +kernel
theorem dX12_plain_23 : decode cX12_plain 23 = .ok (.aload_n 0, 1) := by decide +kernel
theorem dX12_plain_24 : decode cX12_plain 24 = .ok (.getfield 221, 3) := by decide +kernel
theorem dX12_plain_27 : decode cX12_plain 27 = .ok (.ireturn, 1) := by decide +kernel
theorem dX12_plain_28 : decode cX12_plain 28 = .ok (.aload_n 0, 1) := by decide +kernel
theorem dX12_plain_29 : decode cX12_plain 29 = .ok (.invokevirtual 224, 3) := by decide +kernel
theorem dX12_plain_32 : decode cX12_plain 32 = .ok (.istore_n 1, 1) := by decide +kernel
theorem dX12_plain_33 : decode cX12_plain 33 = .ok (.aload_n 0, 1) := by decide +kernel
theorem dX12_plain_34 : decode cX12_plain 34 = .ok (.getfield 25, 3) := by decide +kernel
theorem dX12_plain_37 : decode cX12_plain 37 = .ok (.iconst (-1), 1) := by decide +kernel
theorem dX12_plain_38 : decode cX12_plain 38 = .ok (.if_icmp .eq 5, 3) := by decide +kernel
theorem dX12_plain_41 : decode cX12_plain 41 = .ok (.iconst 0, 1) := by decide +kernel
theorem dX12_plain_42 : decode cX12_plain 42 = .ok (.ireturn, 1) := by decide +kernel
theorem dX12_plain_43 : decode cX12_plain 43 = .ok (.aload_n 0, 1) := by decide +kernel
theorem dX12_plain_44 : decode cX12_plain 44 = .ok (.bipush 60, 2) := by decide +kernel
theorem dX12_plain_46 : decode cX12_plain 46 = .ok (.invokevirtual 182, 3) := by decide +kernel
theorem dX12_plain_49 : decode cX12_plain 49 = .ok (.istore_n 2, 1) := by decide +kernel
theorem dX12_plain_50 : decode cX12_plain 50 = .ok (.iload_n 2, 1) := by decide +kernel
theorem dX12_plain_51 : decode cX12_plain 51 = .ok (.ifCond .ne 22, 3) := by decide +kernel
theorem dX12_plain_54 : decode cX12_plain 54 = .ok (.aload_n 0, 1) := by decide +kernel
theorem dX12_plain_55 : decode cX12_plain 55 = .ok (.bipush 62, 2) := by decide +kernel
theorem dX12_plain_57 : decode cX12_plain 57 = .ok (.invokevirtual 182, 3) := by decide +kernel
theorem dX12_plain_60 : decode cX12_plain 60 = .ok (.ifCond .ne 13, 3) := by decide +kernel
theorem dX12_plain_63 : decode cX12_plain 63 = .ok (.aload_n 0, 1) := by decide +kernel
theorem dX12_plain_64 : decode cX12_plain 64 = .ok (.aload_n 0, 1) := by decide +kernel
theorem dX12_plain_65 : decode cX12_plain 65 = .ok (.getfield 82, 3) := by decide +kernel
theorem dX12_plain_68 : decode cX12_plain 68 = .ok (.invokevirtual 108, 3) := by decide +kernel
theorem dX12_plain_71 : decode cX12_plain 71 = .ok (.iconst 0, 1) := by decide +kernel
theorem dX12_plain_72 : decode cX12_plain 72 = .ok (.ireturn, 1) := by decide +kernel
theorem dX12_plain_73 : decode cX12_plain 73 = .ok (.aload_n 0, 1) := by decide +kernel
theorem dX12_plain_74 : decode cX12_plain 74 = .ok (.dup, 1) := by decide +kernel
theorem dX12_plain_75 : decode cX12_plain 75 = .ok (.getfield 82, 3) := by decide +kernel
theorem dX12_plain_78 : decode cX12_plain 78 = .ok (.iconst 1, 1) := by decide +kernel
theorem dX12_plain_79 : decode cX12_plain 79 = .ok (.iadd, 1) := by decide +kernel
theorem dX12_plain_80 : decode cX12_plain 80 = .ok (.putfield 82, 3) := by decide +kernel
theorem dX12_plain_83 : decode cX12_plain 83 = .ok (.aload_n 0, 1) := by decide +kernel
theorem dX12_plain_84 : decode cX12_plain 84 = .ok (.invokevirtual 224, 3) := by decide +kernel
theorem dX12_plain_87 : decode cX12_plain 87 = .ok (.istore_n 3, 1) := by decide +kernel
theorem dX12_plain_88 : decode cX12_plain 88 = .ok (.iload_n 2, 1) := by decide +kernel
theorem dX12_plain_89 : decode cX12_plain 89 = .ok (.ifCond .eq 16, 3) := by decide +kernel
theorem dX12_plain_92 : decode cX12_plain 92 = .ok (.iload_n 1, 1) := by decide +kernel
theorem dX12_plain_93 : decode cX12_plain 93 = .ok (.iload_n 3, 1) := by decide +kernel
theorem dX12_plain_94 : decode cX12_plain 94 = .ok (.if_icmp .ge 7, 3) := by decide +kernel
theorem dX12_plain_97 : decode cX12_plain 97 = .ok (.iconst 1, 1) := by decide +kernel
theorem dX12_plain_98 : decode cX12_plain 98 = .ok (.goto 17, 3) := by decide +kernel
theorem dX12_plain_101 : decode cX12_plain 101 = .ok (.iconst 0, 1) := by decide +kernel
theorem dX12_plain_102 : decode cX12_plain 102 = .ok (.goto 13, 3) := by decide +kernel
theorem dX12_plain_105 : decode cX12_plain 105 = .ok (.iload_n 1, 1) := by decide +kernel
theorem dX12_plain_106 : decode cX12_plain 106 = .ok (.iload_n 3, 1) := by decide +kernel
theorem dX12_plain_107 : decode cX12_plain 107 = .ok (.if_icmp .le 7, 3) := by decide +kernel
theorem dX12_plain_110 : decode cX12_plain 110 = .ok (.iconst 1, 1) := by decide +kernel
theorem dX12_plain_111 : decode cX12_plain 111 = .ok (.goto 4, 3) := by decide +kernel
theorem dX12_plain_114 : decode cX12_plain 114 = .ok (.iconst 0, 1) := by decide +kernel
theorem dX12_plain_115 : decode cX12_plain 115 = .ok (.ireturn, 1) := by decide +kernel
def q12_plain (σ : St) : Option (Bool × St) :=
  Option.bind (q12_has σ 24) fun x3_ =>
  if x3_.1 = true then (Option.bind (toB (x3_.2 0 15)) fun b7_ =>
  some (b7_, x3_.2)) else
  Option.bind (q12_has x3_.2 25) fun x11_ =>
  if x11_.1 = true then (Option.bind (toB (x11_.2 0 16)) fun b15_ =>
  some (b15_, x11_.2)) else
  Option.bind (q12_sum x11_.2) fun x17_ =>
  if ¬ (x17_.2 0 12) = (-1) then (some (false, x17_.2)) else
  Option.bind (q12_isSign x17_.2 60) fun x23_ =>
  Option.bind (if x23_.1 = true then (some (false, x23_.2)) else (Option.bind (q12_isSign x23_.2 62) fun x30_ =>
  if x30_.1 = true then (some (false, x30_.2)) else (some (true, x30_.2)))) fun t27_ =>
  if t27_.1 = true then (Option.bind (q12_wrong t27_.2 (t27_.2 0 11)) fun x34_ =>
  some (false, x34_)) else
  lt (up t27_.2 0 11 ((t27_.2 0 11) + 1)) fun σ36_ =>
  Option.bind (q12_sum σ36_) fun x38_ =>
  some (if x23_.1 = true then decide (x17_.1 < x38_.1) else decide (x38_.1 < x17_.1), x38_.2)
abbrev rm12_plain : Room := { frames := 7, cells := 0, slots := 0, locals := 150 }
set_option maxHeartbeats 4000000 in
set_option maxRecDepth 100000 in
theorem p12_plain {Θ : Tz} {σ : St} {ρ : Option Value × St} (C : Zc Θ cX12_plain 4 RX12 (some .boolean) rm12_plain) (hkd : Θ.2.2.2.2.1 = kdM) {r : (Bool × St)} (hf : q12_plain σ = some r) (hρ : ρ = (some (.int (b2i r.1)), r.2)) : Z Θ 4 0 0 (zQ Θ ρ) σ 0 [(0, .ref (zA Θ 0))] [] := by
  unfold q12_plain at hf
  refine z_aload_n C 0 dX12_plain_0 rfl rfl ?_
  refine z_ldcs (k := 24) (tx := "same") C (List.mem_of_getElem? (i := 51) rfl) dX12_plain_1 ?_
  obtain ⟨x3_, h4_, hf⟩ := ob hf
  refine cr12_112 (w_a := 24) C hkd (Nat.le_of_ble_eq_true rfl) h4_ ⟨(Nat.le_of_ble_eq_true rfl), (Nat.le_of_ble_eq_true rfl)⟩ (Nat.le_of_ble_eq_true rfl) ⟨Nat.zero_le _, Nat.zero_le _⟩ dX12_plain_3 ?_
  have K1_ : x3_.1 = true → Z Θ 4 0 0 (zQ Θ ρ) x3_.2 9 [(0, .ref (zA Θ 0))] [] := by
    intro h6_
    rw [if_pos h6_] at hf
    refine z_aload_n C 0 dX12_plain_9 rfl rfl ?_
    refine fg12_215 C hkd dX12_plain_10 ?_
    obtain ⟨b7_, h8_, hf⟩ := ob hf
    rw [toB_ h8_]
    cases hf
    subst hρ
    exact z_zret C (b2i_narrow _) dX12_plain_13
  suffices K2_ : ¬ (x3_.1 = true) → Z Θ 4 0 0 (zQ Θ ρ) x3_.2 14 [(0, .ref (zA Θ 0))] [] by
    refine cb_f C 14 dX12_plain_6 (by decide) (fun h5_ => ?_) (fun h5_ => ?_)
    · exact K1_ h5_
    · exact K2_ h5_
  intro h6_
  rw [if_neg h6_] at hf
  refine z_aload_n C 0 dX12_plain_14 rfl rfl ?_
  refine z_ldcs (k := 25) (tx := "standing") C (List.mem_of_getElem? (i := 52) rfl) dX12_plain_15 ?_
  obtain ⟨x11_, h12_, hf⟩ := ob hf
  refine cr12_112 (w_a := 25) C hkd (Nat.le_of_ble_eq_true rfl) h12_ ⟨(Nat.le_of_ble_eq_true rfl), (Nat.le_of_ble_eq_true rfl)⟩ (Nat.le_of_ble_eq_true rfl) ⟨Nat.zero_le _, Nat.zero_le _⟩ dX12_plain_17 ?_
  have K9_ : x11_.1 = true → Z Θ 4 0 0 (zQ Θ ρ) x11_.2 23 [(0, .ref (zA Θ 0))] [] := by
    intro h14_
    rw [if_pos h14_] at hf
    refine z_aload_n C 0 dX12_plain_23 rfl rfl ?_
    refine fg12_221 C hkd dX12_plain_24 ?_
    obtain ⟨b15_, h16_, hf⟩ := ob hf
    rw [toB_ h16_]
    cases hf
    subst hρ
    exact z_zret C (b2i_narrow _) dX12_plain_27
  suffices K10_ : ¬ (x11_.1 = true) → Z Θ 4 0 0 (zQ Θ ρ) x11_.2 28 [(0, .ref (zA Θ 0))] [] by
    refine cb_f C 28 dX12_plain_20 (by decide) (fun h13_ => ?_) (fun h13_ => ?_)
    · exact K9_ h13_
    · exact K10_ h13_
  intro h14_
  rw [if_neg h14_] at hf
  refine z_aload_n C 0 dX12_plain_28 rfl rfl ?_
  obtain ⟨x17_, h18_, hf⟩ := ob hf
  refine cr12_224 C hkd  h18_ ⟨(Nat.le_of_ble_eq_true rfl), (Nat.le_of_ble_eq_true rfl)⟩ (Nat.le_of_ble_eq_true rfl) ⟨Nat.zero_le _, Nat.zero_le _⟩ dX12_plain_29 ?_
  refine z_istN C dX12_plain_32 rfl rfl (Nat.le_of_ble_eq_true rfl) rfl ?_
  have K19_ : ¬ (x17_.2 0 12) = (-1) → Z Θ 4 0 0 (zQ Θ ρ) x17_.2 41 [(1, .int x17_.1), (0, .ref (zA Θ 0))] [] := by
    intro h22_
    rw [if_pos h22_] at hf
    refine z_iconst (v := 0) C dX12_plain_41 ic_0 ?_
    cases hf
    subst hρ
    exact z_zret C (b2i_narrow _) dX12_plain_42
  suffices K20_ : ¬ (¬ (x17_.2 0 12) = (-1)) → Z Θ 4 0 0 (zQ Θ ρ) x17_.2 43 [(1, .int x17_.1), (0, .ref (zA Θ 0))] [] by
    refine z_aload_n C 1 dX12_plain_33 rfl rfl ?_
    refine fg12_25 C hkd dX12_plain_34 ?_
    refine z_iconst (v := (-1)) C dX12_plain_37 ic_m1 ?_
    refine c_ne_f C 43 dX12_plain_38 (by decide) (fun h21_ => ?_) (fun h21_ => ?_)
    · exact K19_ h21_
    · exact K20_ h21_
  intro h22_
  rw [if_neg h22_] at hf
  refine z_aload_n C 1 dX12_plain_43 rfl rfl ?_
  refine z_bipush (v := 60) C dX12_plain_44 bp_60 ?_
  obtain ⟨x23_, h24_, hf⟩ := ob hf
  refine cr12_182 (c_a := 60) C hkd  h24_ ⟨(Nat.le_of_ble_eq_true rfl), (Nat.le_of_ble_eq_true rfl)⟩ (Nat.le_of_ble_eq_true rfl) ⟨Nat.zero_le _, Nat.zero_le _⟩ dX12_plain_46 ?_
  refine z_istN C dX12_plain_49 rfl rfl (Nat.le_of_ble_eq_true rfl) rfl ?_
  obtain ⟨t27_, h28_, hf⟩ := ob hf
  have K25_ : t27_.1 = true → Z Θ 4 0 0 (zQ Θ ρ) t27_.2 63 [(2, .int (b2i x23_.1)), (1, .int x17_.1), (0, .ref (zA Θ 0))] [] := by
    intro h33_
    rw [if_pos h33_] at hf
    refine z_aload_n C 2 dX12_plain_63 rfl rfl ?_
    refine z_aload_n C 2 dX12_plain_64 rfl rfl ?_
    refine fg12_82 C hkd dX12_plain_65 ?_
    obtain ⟨x34_, h35_, hf⟩ := ob hf
    refine cr12_108 (where_a := (t27_.2 0 11)) C hkd  h35_ ⟨(Nat.le_of_ble_eq_true rfl), (Nat.le_of_ble_eq_true rfl)⟩ (Nat.le_of_ble_eq_true rfl) ⟨Nat.zero_le _, Nat.zero_le _⟩ dX12_plain_68 ?_
    refine z_iconst (v := 0) C dX12_plain_71 ic_0 ?_
    cases hf
    subst hρ
    exact z_zret C (b2i_narrow _) dX12_plain_72
  suffices K26_ : ¬ (t27_.1 = true) → Z Θ 4 0 0 (zQ Θ ρ) t27_.2 73 [(2, .int (b2i x23_.1)), (1, .int x17_.1), (0, .ref (zA Θ 0))] [] by
    refine z_iload_n C 0 dX12_plain_50 rfl rfl ?_
    refine cb_t C 73 dX12_plain_51 (by decide) (fun h29_ => ?_) (fun h29_ => ?_)
    · rw [if_pos h29_] at h28_
      cases h28_
      exact K26_ Bool.false_ne_true
    · rw [if_neg h29_] at h28_
      refine z_aload_n C 2 dX12_plain_54 rfl rfl ?_
      refine z_bipush (v := 62) C dX12_plain_55 bp_62 ?_
      obtain ⟨x30_, h31_, h28_⟩ := ob h28_
      refine cr12_182 (c_a := 62) C hkd  h31_ ⟨(Nat.le_of_ble_eq_true rfl), (Nat.le_of_ble_eq_true rfl)⟩ (Nat.le_of_ble_eq_true rfl) ⟨Nat.zero_le _, Nat.zero_le _⟩ dX12_plain_57 ?_
      refine cb_t C 73 dX12_plain_60 (by decide) (fun h32_ => ?_) (fun h32_ => ?_)
      · rw [if_pos h32_] at h28_
        cases h28_
        exact K26_ Bool.false_ne_true
      · rw [if_neg h32_] at h28_
        cases h28_
        exact K25_ rfl
  intro h33_
  rw [if_neg h33_] at hf
  refine z_aload_n C 2 dX12_plain_73 rfl rfl ?_
  refine z_dup C dX12_plain_74 rfl ?_
  refine fg12_82 C hkd dX12_plain_75 ?_
  refine z_iconst (v := 1) C dX12_plain_78 ic_1 ?_
  refine z_iadd C dX12_plain_79 ?_
  obtain ⟨σ36_, h37_, hf⟩ := lt_ hf
  refine fp12_82 C hkd h37_ dX12_plain_80 ?_
  refine z_aload_n C 2 dX12_plain_83 rfl rfl ?_
  obtain ⟨x38_, h39_, hf⟩ := ob hf
  refine cr12_224 C hkd  h39_ ⟨(Nat.le_of_ble_eq_true rfl), (Nat.le_of_ble_eq_true rfl)⟩ (Nat.le_of_ble_eq_true rfl) ⟨Nat.zero_le _, Nat.zero_le _⟩ dX12_plain_84 ?_
  refine z_istN C dX12_plain_87 rfl rfl (Nat.le_of_ble_eq_true rfl) rfl ?_
  suffices K40_ : Z Θ 4 0 0 (zQ Θ ρ) x38_.2 115 [(3, .int x38_.1), (2, .int (b2i x23_.1)), (1, .int x17_.1), (0, .ref (zA Θ 0))] [.int (b2i (if x23_.1 = true then decide (x17_.1 < x38_.1) else decide (x38_.1 < x17_.1)))] by
    have K41_ : x23_.1 = true → Z Θ 4 0 0 (zQ Θ ρ) x38_.2 92 [(3, .int x38_.1), (2, .int (b2i x23_.1)), (1, .int x17_.1), (0, .ref (zA Θ 0))] [] := by
      intro h54_
      rw [if_pos h54_] at K40_
      suffices K44_ : Z Θ 4 0 0 (zQ Θ ρ) x38_.2 115 [(3, .int x38_.1), (2, .int (b2i x23_.1)), (1, .int x17_.1), (0, .ref (zA Θ 0))] [.int (b2i (decide (x17_.1 < x38_.1)))] by
        have K45_ : x17_.1 < x38_.1 → Z Θ 4 0 0 (zQ Θ ρ) x38_.2 97 [(3, .int x38_.1), (2, .int (b2i x23_.1)), (1, .int x17_.1), (0, .ref (zA Θ 0))] [] := by
          intro h48_
          rw [decide_eq_true h48_] at K44_
          refine z_iconst (v := 1) C dX12_plain_97 ic_1 ?_
          refine z_goto C 115 dX12_plain_98 (by decide) ?_
          exact K44_
        have K46_ : ¬ (x17_.1 < x38_.1) → Z Θ 4 0 0 (zQ Θ ρ) x38_.2 101 [(3, .int x38_.1), (2, .int (b2i x23_.1)), (1, .int x17_.1), (0, .ref (zA Θ 0))] [] := by
          intro h48_
          rw [decide_eq_false h48_] at K44_
          refine z_iconst (v := 0) C dX12_plain_101 ic_0 ?_
          refine z_goto C 115 dX12_plain_102 (by decide) ?_
          exact K44_
        refine z_iload_n C 2 dX12_plain_92 rfl rfl ?_
        refine z_iload_n C 0 dX12_plain_93 rfl rfl ?_
        refine c_lt_f C 101 dX12_plain_94 (by decide) (fun h47_ => ?_) (fun h47_ => ?_)
        · exact K45_ h47_
        · exact K46_ h47_
      exact K40_
    have K42_ : ¬ (x23_.1 = true) → Z Θ 4 0 0 (zQ Θ ρ) x38_.2 105 [(3, .int x38_.1), (2, .int (b2i x23_.1)), (1, .int x17_.1), (0, .ref (zA Θ 0))] [] := by
      intro h54_
      rw [if_neg h54_] at K40_
      suffices K49_ : Z Θ 4 0 0 (zQ Θ ρ) x38_.2 115 [(3, .int x38_.1), (2, .int (b2i x23_.1)), (1, .int x17_.1), (0, .ref (zA Θ 0))] [.int (b2i (decide (x38_.1 < x17_.1)))] by
        have K50_ : x38_.1 < x17_.1 → Z Θ 4 0 0 (zQ Θ ρ) x38_.2 110 [(3, .int x38_.1), (2, .int (b2i x23_.1)), (1, .int x17_.1), (0, .ref (zA Θ 0))] [] := by
          intro h53_
          rw [decide_eq_true h53_] at K49_
          refine z_iconst (v := 1) C dX12_plain_110 ic_1 ?_
          refine z_goto C 115 dX12_plain_111 (by decide) ?_
          exact K49_
        have K51_ : ¬ (x38_.1 < x17_.1) → Z Θ 4 0 0 (zQ Θ ρ) x38_.2 114 [(3, .int x38_.1), (2, .int (b2i x23_.1)), (1, .int x17_.1), (0, .ref (zA Θ 0))] [] := by
          intro h53_
          rw [decide_eq_false h53_] at K49_
          refine z_iconst (v := 0) C dX12_plain_114 ic_0 ?_
          exact K49_
        refine z_iload_n C 2 dX12_plain_105 rfl rfl ?_
        refine z_iload_n C 0 dX12_plain_106 rfl rfl ?_
        refine c_gt_f C 114 dX12_plain_107 (by decide) (fun h52_ => ?_) (fun h52_ => ?_)
        · exact K50_ h52_
        · exact K51_ h52_
      exact K40_
    refine z_iload_n C 1 dX12_plain_88 rfl rfl ?_
    refine cb_f C 105 dX12_plain_89 (by decide) (fun h43_ => ?_) (fun h43_ => ?_)
    · exact K41_ h43_
    · exact K42_ h43_
  cases hf
  subst hρ
  exact z_zret C (b2i_narrow _) dX12_plain_115
theorem c12_plain {l : Launch} {kd : List KD} {w : Wp} {σ : St} (hkd : kd = kdM) (hi : zI kd w) {r : (Bool × St)} (hf : q12_plain σ = some r) : zM l kd w yX12_plain cX12_plain 4 (some .boolean) rm12_plain [.ref (w.2.2.1 0)] σ (some (.int (b2i r.1)), r.2) := zM_of rfl hi (Nat.le_of_ble_eq_true rfl) (fun Θ hl hw C => by
  obtain ⟨Θ1, Θ2, Θ3, Θ4, Θ5⟩ := Θ
  cases hw
  exact p12_plain C hkd  hf rfl)
/-! LastLoafModel.every -/
theorem w_8_203 : Cond.code ({ cls := "LastLoafModel", name := "atom", desc := "()Z" } : MethodName) prog_14_method_37_code (4 : Nat) (Option.some ClassFile.FieldType.boolean) ∈ TB := tb_in (lwt_8 (List.mem_of_getElem? (i := 203) (by decide +kernel))) rfl
theorem w_8_200 : Cond.methodLink "LastLoafModel" (233 : Nat) ({ cls := "LastLoafModel", name := "atom", desc := "()Z" } : MethodName) ∈ TB := tb_in (lwt_8 (List.mem_of_getElem? (i := 200) (by decide +kernel))) rfl
theorem w_8_202 : Cond.instanceMethod ({ cls := "LastLoafModel", name := "atom", desc := "()Z" } : MethodName) ∈ TB := tb_in (lwt_8 (List.mem_of_getElem? (i := 202) (by decide +kernel))) rfl
theorem ws_LastLoafModel_atom__Z : Cond.selects "LastLoafModel" (⟨"LastLoafModel", "atom", "()Z"⟩ : MethodName) (⟨"LastLoafModel", "atom", "()Z"⟩ : MethodName) ∈ TB := tb_in (List.mem_append_left _ (List.mem_of_getElem? (i := 29) (by decide +kernel))) rfl
theorem cr12_233 {Θ : Tz} {cc : ByteArray} {nL kc ks : Nat} {ret : Option FieldType} {rm : Room} {Q : State → Prop} {σ : St} {pc : Nat} {lv : List (Nat × Value)} {st : List Value} (C : Zc Θ cc nL RX12 ret rm) (hkd : Θ.2.2.2.2.1 = kdM) {A_ : St → Option (Bool × St)} {d_ : Nat} (hA : zRec12_atom Θ.1.2.1 Θ.2.2.2.2.1 Θ.2.2.2.2.2 A_ d_) {r : Bool × St} (hx : A_ σ = some r) (hrm : (rmR12_atom d_).frames + 1 ≤ rm.frames ∧ 8 + (4 + 11) + (rmR12_atom d_).locals ≤ rm.locals) (hcat : (st.map fun v => v.category).sum ≤ 8) (hk : kc ≤ rm.cells ∧ ks ≤ rm.slots) (hd : decode cc pc = .ok (.invokevirtual 233, 3)) (kk : Z Θ nL kc ks Q r.2 (pc + 3) lv (.int (b2i r.1) :: st)) : Z Θ nL kc ks Q σ pc lv (.ref (zA Θ 0) :: st) := z_callV C 0 [] (some (.int (b2i r.1)), r.2) 0 (kM_0 hkd) rfl (hA hx) w_8_203 w_8_200 w_8_202 ws_LastLoafModel_atom__Z w_1_14 ⟨rfl, rfl, hrm.1, hrm.2⟩ (by decide +kernel) rfl rfl hcat hk hd kk
theorem dX12_every_0 : decode cX12_every 0 = .ok (.aload_n 0, 1) := by decide +kernel
theorem dX12_every_1 : decode cX12_every 1 = .ok (.invokevirtual 233, 3) := by decide +kernel
theorem dX12_every_4 : decode cX12_every 4 = .ok (.istore_n 1, 1) := by decide +kernel
theorem dX12_every_5 : decode cX12_every 5 = .ok (.aload_n 0, 1) := by decide +kernel
theorem dX12_every_6 : decode cX12_every 6 = .ok (.getfield 25, 3) := by decide +kernel
theorem dX12_every_9 : decode cX12_every 9 = .ok (.iconst (-1), 1) := by decide +kernel
theorem dX12_every_10 : decode cX12_every 10 = .ok (.if_icmp .ne 34, 3) := by decide +kernel
theorem dX12_every_13 : decode cX12_every 13 = .ok (.aload_n 0, 1) := by decide +kernel
theorem dX12_every_14 : decode cX12_every 14 = .ok (.ldc 239, 2) := by decide +kernel
theorem dX12_every_16 : decode cX12_every 16 = .ok (.invokevirtual 112, 3) := by decide +kernel
theorem dX12_every_19 : decode cX12_every 19 = .ok (.ifCond .eq 25, 3) := by decide +kernel
theorem dX12_every_22 : decode cX12_every 22 = .ok (.aload_n 0, 1) := by decide +kernel
theorem dX12_every_23 : decode cX12_every 23 = .ok (.invokevirtual 233, 3) := by decide +kernel
theorem dX12_every_26 : decode cX12_every 26 = .ok (.istore_n 2, 1) := by decide +kernel
theorem dX12_every_27 : decode cX12_every 27 = .ok (.iload_n 1, 1) := by decide +kernel
theorem dX12_every_28 : decode cX12_every 28 = .ok (.ifCond .eq 11, 3) := by decide +kernel
theorem dX12_every_31 : decode cX12_every 31 = .ok (.iload_n 2, 1) := by decide +kernel
theorem dX12_every_32 : decode cX12_every 32 = .ok (.ifCond .eq 7, 3) := by decide +kernel
theorem dX12_every_35 : decode cX12_every 35 = .ok (.iconst 1, 1) := by decide +kernel
theorem dX12_every_36 : decode cX12_every 36 = .ok (.goto 4, 3) := by decide +kernel
theorem dX12_every_39 : decode cX12_every 39 = .ok (.iconst 0, 1) := by decide +kernel
theorem dX12_every_40 : decode cX12_every 40 = .ok (.istore_n 1, 1) := by decide +kernel
theorem dX12_every_41 : decode cX12_every 41 = .ok (.goto (-36), 3) := by decide +kernel
theorem dX12_every_44 : decode cX12_every 44 = .ok (.iload_n 1, 1) := by decide +kernel
theorem dX12_every_45 : decode cX12_every 45 = .ok (.ireturn, 1) := by decide +kernel
def q12_every (A_ : St → Option (Bool × St)) (σ : St) : Option (Bool × St) :=
  Option.bind (A_ σ) fun x1_ =>
  Option.bind (loop2 (fun rec6_ (v9_ : Bool) (σ10_ : St) =>
  Option.bind (if (σ10_ 0 12) = (-1) then (Option.bind (q12_has σ10_ 30) fun x18_ =>
  if x18_.1 = true then (some (true, x18_.2)) else (some (false, x18_.2))) else (some (false, σ10_))) fun t15_ =>
  if t15_.1 = true then
  Option.bind (A_ t15_.2) fun x22_ =>
  lt (decide ((v9_ = true) ∧ (x22_.1 = true))) fun v30_ =>
  rec6_ v30_ x22_.2
  else (some (v9_, t15_.2))) fuelN x1_.1 x1_.2) fun y3_ =>
  some (y3_.1, y3_.2)
set_option maxHeartbeats 4000000 in
set_option maxRecDepth 100000 in
theorem p12_every {Θ : Tz} {σ : St} {ρ : Option Value × St} {A_ : St → Option (Bool × St)} {d_ : Nat} (hA : zRec12_atom Θ.1.2.1 Θ.2.2.2.2.1 Θ.2.2.2.2.2 A_ d_) (C : Zc Θ cX12_every 3 RX12 (some .boolean) (rmR12_every d_)) (hkd : Θ.2.2.2.2.1 = kdM) {r : (Bool × St)} (hf : q12_every A_ σ = some r) (hρ : ρ = (some (.int (b2i r.1)), r.2)) : Z Θ 3 0 0 (zQ Θ ρ) σ 0 [(0, .ref (zA Θ 0))] [] := by
  unfold q12_every at hf
  refine z_aload_n C 0 dX12_every_0 rfl rfl ?_
  obtain ⟨x1_, h2_, hf⟩ := ob hf
  refine cr12_233 C hkd hA  h2_ ⟨(by dsimp only; omega), (by dsimp only; omega)⟩ (Nat.le_of_ble_eq_true rfl) ⟨Nat.zero_le _, Nat.zero_le _⟩ dX12_every_1 ?_
  refine z_istN C dX12_every_4 rfl rfl (Nat.le_of_ble_eq_true rfl) rfl ?_
  refine Z.sub [1, 0] rfl ?_
  obtain ⟨y3_, h4_, hf⟩ := ob hf
  suffices K5_ : Z Θ 3 0 0 (zQ Θ ρ) y3_.2 44 [(0, .ref (zA Θ 0)), (1, .int (b2i y3_.1))] [] by
    refine loop2_Z (P := fun (v9_ : Bool) (σ10_ : St) => Z Θ 3 0 0 (zQ Θ ρ) σ10_ 5 [(0, .ref (zA Θ 0)), (1, .int (b2i v9_))] []) ?_ fuelN x1_.1 x1_.2 h4_
    clear h4_
    intro rec6_ v9_ σ10_ h7_ h8_
    obtain ⟨t15_, h16_, h8_⟩ := ob h8_
    have K13_ : t15_.1 = true → Z Θ 3 0 0 (zQ Θ ρ) t15_.2 22 [(0, .ref (zA Θ 0)), (1, .int (b2i v9_))] [] := by
      intro h21_
      rw [if_pos h21_] at h8_
      refine z_aload_n C 0 dX12_every_22 rfl rfl ?_
      obtain ⟨x22_, h23_, h8_⟩ := ob h8_
      refine cr12_233 C hkd hA  h23_ ⟨(by dsimp only; omega), (by dsimp only; omega)⟩ (Nat.le_of_ble_eq_true rfl) ⟨Nat.zero_le _, Nat.zero_le _⟩ dX12_every_23 ?_
      refine z_istN C dX12_every_26 rfl rfl (Nat.le_of_ble_eq_true rfl) rfl ?_
      suffices K24_ : Z Θ 3 0 0 (zQ Θ ρ) x22_.2 40 [(2, .int (b2i x22_.1)), (0, .ref (zA Θ 0)), (1, .int (b2i v9_))] [.int (b2i (decide ((v9_ = true) ∧ (x22_.1 = true))))] by
        have K25_ : (v9_ = true) ∧ (x22_.1 = true) → Z Θ 3 0 0 (zQ Θ ρ) x22_.2 35 [(2, .int (b2i x22_.1)), (0, .ref (zA Θ 0)), (1, .int (b2i v9_))] [] := by
          intro h29_
          rw [decide_eq_true h29_] at K24_
          refine z_iconst (v := 1) C dX12_every_35 ic_1 ?_
          refine z_goto C 40 dX12_every_36 (by decide) ?_
          exact K24_
        have K26_ : ¬ ((v9_ = true) ∧ (x22_.1 = true)) → Z Θ 3 0 0 (zQ Θ ρ) x22_.2 39 [(2, .int (b2i x22_.1)), (0, .ref (zA Θ 0)), (1, .int (b2i v9_))] [] := by
          intro h29_
          rw [decide_eq_false h29_] at K24_
          refine z_iconst (v := 0) C dX12_every_39 ic_0 ?_
          exact K24_
        refine z_iload_n C 2 dX12_every_27 rfl rfl ?_
        refine cb_f C 39 dX12_every_28 (by decide) (fun h27_ => ?_) (fun h27_ => ?_)
        · refine z_iload_n C 0 dX12_every_31 rfl rfl ?_
          refine cb_f C 39 dX12_every_32 (by decide) (fun h28_ => ?_) (fun h28_ => ?_)
          · exact K25_ ⟨h27_, h28_⟩
          · exact K26_ (fun n => h28_ n.2)
        · exact K26_ (fun n => h27_ n.1)
      obtain ⟨v30_, h31_, h8_⟩ := lt_ h8_
      refine z_istN C dX12_every_40 (congrArg b2i h31_) rfl (Nat.le_of_ble_eq_true rfl) rfl ?_
      refine z_goto C 5 dX12_every_41 (by decide) ?_
      refine Z.sub [2, 0] rfl ?_
      exact h7_ _ _ h8_
    have K14_ : ¬ (t15_.1 = true) → Z Θ 3 0 0 (zQ Θ ρ) t15_.2 44 [(0, .ref (zA Θ 0)), (1, .int (b2i v9_))] [] := by
      intro h21_
      rw [if_neg h21_] at h8_
      cases h8_
      exact K5_
    refine z_aload_n C 0 dX12_every_5 rfl rfl ?_
    refine fg12_25 C hkd dX12_every_6 ?_
    refine z_iconst (v := (-1)) C dX12_every_9 ic_m1 ?_
    refine c_eq_f C 44 dX12_every_10 (by decide) (fun h17_ => ?_) (fun h17_ => ?_)
    · rw [if_pos h17_] at h16_
      refine z_aload_n C 0 dX12_every_13 rfl rfl ?_
      refine z_ldcs (k := 30) (tx := "and") C (List.mem_of_getElem? (i := 60) rfl) dX12_every_14 ?_
      obtain ⟨x18_, h19_, h16_⟩ := ob h16_
      refine cr12_112 (w_a := 30) C hkd (Nat.le_of_ble_eq_true rfl) h19_ ⟨(by dsimp only; omega), (by dsimp only; omega)⟩ (Nat.le_of_ble_eq_true rfl) ⟨Nat.zero_le _, Nat.zero_le _⟩ dX12_every_16 ?_
      refine cb_f C 44 dX12_every_19 (by decide) (fun h20_ => ?_) (fun h20_ => ?_)
      · rw [if_pos h20_] at h16_
        cases h16_
        exact K13_ rfl
      · rw [if_neg h20_] at h16_
        cases h16_
        exact K14_ Bool.false_ne_true
    · rw [if_neg h17_] at h16_
      cases h16_
      exact K14_ Bool.false_ne_true
  refine z_iload_n C 1 dX12_every_44 rfl rfl ?_
  cases hf
  subst hρ
  exact z_zret C (b2i_narrow _) dX12_every_45
theorem c12_every {l : Launch} {kd : List KD} {w : Wp} {σ : St} {A_ : St → Option (Bool × St)} {d_ : Nat} (hkd : kd = kdM) (hi : zI kd w) (hA : zRec12_atom l kd w A_ d_) {r : (Bool × St)} (hf : q12_every A_ σ = some r) : zM l kd w yX12_every cX12_every 3 (some .boolean) (rmR12_every d_) [.ref (w.2.2.1 0)] σ (some (.int (b2i r.1)), r.2) := zM_of rfl hi (Nat.le_of_ble_eq_true rfl) (fun Θ hl hw C => by
  obtain ⟨Θ1, Θ2, Θ3, Θ4, Θ5⟩ := Θ
  cases hw
  cases hl
  exact p12_every hA C hkd  hf rfl)

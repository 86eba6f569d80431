/-! LastLoaf$Turns.search -/
theorem w_7_16 : Cond.methodLink "LastLoaf$Turns" (84 : Nat) ({ cls := "java/lang/Integer", name := "bitCount", desc := "(I)I" } : MethodName) ∈ TB := tb_in (lwt_7 (List.mem_of_getElem? (i := 16) (by decide +kernel))) rfl
theorem w_2_105 : Cond.fieldLink "LastLoaf$Turns" (43 : Nat) "LastLoaf$Turns" "fewest" "I" ∈ TB := tb_in (lwt_2 (List.mem_of_getElem? (i := 105) (by decide +kernel))) rfl
theorem fg9_43 {Θ : Tz} {cc : ByteArray} {nL kc ks : Nat} {ret : Option FieldType} {rm : Room} {Q : State → Prop} {σ : St} {pc : Nat} {lv : List (Nat × Value)} {st : List Value} (C : Zc Θ cc nL RX9 ret rm) (hkd : Θ.2.2.2.2.1 = kdC) (hd : decode cc pc = .ok (.getfield 43, 3)) (kk : Z Θ nL kc ks Q σ (pc + 3) lv (.int (σ 14 10) :: st)) : Z Θ nL kc ks Q σ pc lv (.ref (zA Θ 14) :: st) := z_get C inT9 14 (kC_14 hkd) rfl 10 (by decide) w_2_105 rfl hd kk
theorem w_2_104 : Cond.fieldLink "LastLoaf$Turns" (40 : Nat) "LastLoaf$Turns" "weeks" "I" ∈ TB := tb_in (lwt_2 (List.mem_of_getElem? (i := 104) (by decide +kernel))) rfl
theorem fg9_40 {Θ : Tz} {cc : ByteArray} {nL kc ks : Nat} {ret : Option FieldType} {rm : Room} {Q : State → Prop} {σ : St} {pc : Nat} {lv : List (Nat × Value)} {st : List Value} (C : Zc Θ cc nL RX9 ret rm) (hkd : Θ.2.2.2.2.1 = kdC) (hd : decode cc pc = .ok (.getfield 40, 3)) (kk : Z Θ nL kc ks Q σ (pc + 3) lv (.int (σ 14 9) :: st)) : Z Θ nL kc ks Q σ pc lv (.ref (zA Θ 14) :: st) := z_get C inT9 14 (kC_14 hkd) rfl 9 (by decide) w_2_104 rfl hd kk
theorem fp9_43 {Θ : Tz} {cc : ByteArray} {nL kc ks : Nat} {ret : Option FieldType} {rm : Room} {Q : State → Prop} {σ : St} {pc : Nat} {lv : List (Nat × Value)} {st : List Value} (C : Zc Θ cc nL RX9 ret rm) (hkd : Θ.2.2.2.2.1 = kdC) {x : Int32} {σ1 : St} (he : σ1 = up σ 14 10 x) (hd : decode cc pc = .ok (.putfield 43, 3)) (kk : Z Θ nL kc ks Q σ1 (pc + 3) lv st) : Z Θ nL kc ks Q σ pc lv (.int x :: .ref (zA Θ 14) :: st) := by subst he; exact z_put C inT9 tyX9_ok nmX9 14 (kC_14 hkd) rfl 10 (by decide) w_2_105 rfl rfl rfl rfl hd kk
theorem w_2_98 : Cond.fieldLink "LastLoaf$Turns" (24 : Nat) "LastLoaf$Turns" "row" "[I" ∈ TB := tb_in (lwt_2 (List.mem_of_getElem? (i := 98) (by decide +kernel))) rfl
theorem fg9_24 {Θ : Tz} {cc : ByteArray} {nL kc ks : Nat} {ret : Option FieldType} {rm : Room} {Q : State → Prop} {σ : St} {pc : Nat} {lv : List (Nat × Value)} {st : List Value} (C : Zc Θ cc nL RX9 ret rm) (hkd : Θ.2.2.2.2.1 = kdC) (hd : decode cc pc = .ok (.getfield 24, 3)) (kk : Z Θ nL kc ks Q σ (pc + 3) lv (.ref (zA Θ 19) :: st)) : Z Θ nL kc ks Q σ pc lv (.ref (zA Θ 14) :: st) := z_get C inT9 14 (kC_14 hkd) rfl 4 (by decide) w_2_98 rfl hd kk
theorem w_2_99 : Cond.fieldLink "LastLoaf$Turns" (27 : Nat) "LastLoaf$Turns" "best" "[I" ∈ TB := tb_in (lwt_2 (List.mem_of_getElem? (i := 99) (by decide +kernel))) rfl
theorem fg9_27 {Θ : Tz} {cc : ByteArray} {nL kc ks : Nat} {ret : Option FieldType} {rm : Room} {Q : State → Prop} {σ : St} {pc : Nat} {lv : List (Nat × Value)} {st : List Value} (C : Zc Θ cc nL RX9 ret rm) (hkd : Θ.2.2.2.2.1 = kdC) (hd : decode cc pc = .ok (.getfield 27, 3)) (kk : Z Θ nL kc ks Q σ (pc + 3) lv (.ref (zA Θ 20) :: st)) : Z Θ nL kc ks Q σ pc lv (.ref (zA Θ 14) :: st) := z_get C inT9 14 (kC_14 hkd) rfl 5 (by decide) w_2_99 rfl hd kk
theorem w_7_11 : Cond.methodLink "LastLoaf$Turns" (68 : Nat) ({ cls := "java/lang/System", name := "arraycopy", desc := "(Ljava/lang/Object;ILjava/lang/Object;II)V" } : MethodName) ∈ TB := tb_in (lwt_7 (List.mem_of_getElem? (i := 11) (by decide +kernel))) rfl
theorem w_2_103 : Cond.fieldLink "LastLoaf$Turns" (37 : Nat) "LastLoaf$Turns" "runners" "I" ∈ TB := tb_in (lwt_2 (List.mem_of_getElem? (i := 103) (by decide +kernel))) rfl
theorem fg9_37 {Θ : Tz} {cc : ByteArray} {nL kc ks : Nat} {ret : Option FieldType} {rm : Room} {Q : State → Prop} {σ : St} {pc : Nat} {lv : List (Nat × Value)} {st : List Value} (C : Zc Θ cc nL RX9 ret rm) (hkd : Θ.2.2.2.2.1 = kdC) (hd : decode cc pc = .ok (.getfield 37, 3)) (kk : Z Θ nL kc ks Q σ (pc + 3) lv (.int (σ 14 8) :: st)) : Z Θ nL kc ks Q σ pc lv (.ref (zA Θ 14) :: st) := z_get C inT9 14 (kC_14 hkd) rfl 8 (by decide) w_2_103 rfl hd kk
theorem w_7_21 : Cond.code ({ cls := "LastLoaf$Turns", name := "bake", desc := "(II)Z" } : MethodName) prog_11_method_4_code (8 : Nat) (Option.some ClassFile.FieldType.boolean) ∈ TB := tb_in (lwt_7 (List.mem_of_getElem? (i := 21) (by decide +kernel))) rfl
theorem w_1_11 : Cond.initialized "LastLoaf$Turns" ∈ TB := tb_in (lwt_1 (List.mem_of_getElem? (i := 11) (by decide +kernel))) rfl
theorem w_7_18 : Cond.methodLink "LastLoaf$Turns" (94 : Nat) ({ cls := "LastLoaf$Turns", name := "bake", desc := "(II)Z" } : MethodName) ∈ TB := tb_in (lwt_7 (List.mem_of_getElem? (i := 18) (by decide +kernel))) rfl
theorem w_7_19 : Cond.instanceMethod ({ cls := "LastLoaf$Turns", name := "bake", desc := "(II)Z" } : MethodName) ∈ TB := tb_in (lwt_7 (List.mem_of_getElem? (i := 19) (by decide +kernel))) rfl
theorem w_7_20 : Cond.selects "LastLoaf$Turns" ({ cls := "LastLoaf$Turns", name := "bake", desc := "(II)Z" } : MethodName) ({ cls := "LastLoaf$Turns", name := "bake", desc := "(II)Z" } : MethodName) ∈ TB := tb_in (lwt_7 (List.mem_of_getElem? (i := 20) (by decide +kernel))) rfl
theorem cr9_94 {Θ : Tz} {cc : ByteArray} {nL kc ks : Nat} {ret : Option FieldType} {rm : Room} {Q : State → Prop} {σ : St} {pc : Nat} {lv : List (Nat × Value)} {st : List Value} (C : Zc Θ cc nL RX9 ret rm) (hkd : Θ.2.2.2.2.1 = kdC) {depth_a : Int32} {eater_a : Int32} {r : Bool × St} (hx : q9_bake σ depth_a eater_a = some r) (hrm : rm9_bake.frames + 1 ≤ rm.frames ∧ 8 + (8 + 11) + rm9_bake.locals ≤ rm.locals) (hcat : (st.map fun v => v.category).sum ≤ 8) (hk : kc ≤ rm.cells ∧ ks ≤ rm.slots) (hd : decode cc pc = .ok (.invokevirtual 94, 3)) (kk : Z Θ nL kc ks Q r.2 (pc + 3) lv (.int (b2i r.1) :: st)) : Z Θ nL kc ks Q σ pc lv (.int eater_a :: .int depth_a :: .ref (zA Θ 14) :: st) := z_callV C 14 [.int depth_a, .int eater_a] (some (.int (b2i r.1)), r.2) 2 (kC_14 hkd) rfl (c9_bake (depth_a := depth_a) (eater_a := eater_a) hkd (zc_inj C) hx) w_7_21 w_7_18 w_7_19 w_7_20 w_1_11 ⟨rfl, rfl, hrm.1, hrm.2⟩ (by decide +kernel) rfl rfl hcat hk hd kk
theorem w_7_15 : Cond.code ({ cls := "LastLoaf$Turns", name := "search", desc := "(I)V" } : MethodName) prog_11_method_3_code (4 : Nat) (Option.none : Option ClassFile.FieldType) ∈ TB := tb_in (lwt_7 (List.mem_of_getElem? (i := 15) (by decide +kernel))) rfl
theorem w_7_12 : Cond.methodLink "LastLoaf$Turns" (80 : Nat) ({ cls := "LastLoaf$Turns", name := "search", desc := "(I)V" } : MethodName) ∈ TB := tb_in (lwt_7 (List.mem_of_getElem? (i := 12) (by decide +kernel))) rfl
theorem w_7_14 : Cond.instanceMethod ({ cls := "LastLoaf$Turns", name := "search", desc := "(I)V" } : MethodName) ∈ TB := tb_in (lwt_7 (List.mem_of_getElem? (i := 14) (by decide +kernel))) rfl
theorem ws_LastLoaf_Turns_search_I_V : Cond.selects "LastLoaf$Turns" (⟨"LastLoaf$Turns", "search", "(I)V"⟩ : MethodName) (⟨"LastLoaf$Turns", "search", "(I)V"⟩ : MethodName) ∈ TB := tb_in (List.mem_append_left _ (List.mem_of_getElem? (i := 13) (by decide +kernel))) rfl
theorem cr9_80 {Θ : Tz} {cc : ByteArray} {nL kc ks : Nat} {ret : Option FieldType} {rm : Room} {Q : State → Prop} {σ : St} {pc : Nat} {lv : List (Nat × Value)} {st : List Value} (C : Zc Θ cc nL RX9 ret rm) (hkd : Θ.2.2.2.2.1 = kdC) {A_ : St → Int32 → Option St} {d_ : Nat} (hA : zRec9_search Θ.1.2.1 Θ.2.2.2.2.1 Θ.2.2.2.2.2 A_ d_) {depth_a : Int32} {r : St} (hx : A_ σ depth_a = some r) (hrm : (rmR9_search d_).frames + 1 ≤ rm.frames ∧ 8 + (4 + 11) + (rmR9_search d_).locals ≤ rm.locals) (hcat : (st.map fun v => v.category).sum ≤ 8) (hk : kc ≤ rm.cells ∧ ks ≤ rm.slots) (hd : decode cc pc = .ok (.invokevirtual 80, 3)) (kk : Z Θ nL kc ks Q r (pc + 3) lv st) : Z Θ nL kc ks Q σ pc lv (.int depth_a :: .ref (zA Θ 14) :: st) := z_callV C 14 [.int depth_a] (none, r) 1 (kC_14 hkd) rfl (hA hx) w_7_15 w_7_12 w_7_14 ws_LastLoaf_Turns_search_I_V w_1_11 ⟨rfl, rfl, hrm.1, hrm.2⟩ (by decide +kernel) rfl rfl hcat hk hd kk
theorem dX9_search_0 : decode cX9_search 0 = .ok (.aload_n 0, 1) := by decide +kernel
theorem dX9_search_1 : decode cX9_search 1 = .ok (.getfield 18, 3) := by decide +kernel
theorem dX9_search_4 : decode cX9_search 4 = .ok (.iload_n 1, 1) := by decide +kernel
theorem dX9_search_5 : decode cX9_search 5 = .ok (.iaload, 1) := by decide +kernel
theorem dX9_search_6 : decode cX9_search 6 = .ok (.invokestatic 84, 3) := by decide +kernel
theorem dX9_search_9 : decode cX9_search 9 = .ok (.aload_n 0, 1) := by decide +kernel
theorem dX9_search_10 : decode cX9_search 10 = .ok (.getfield 43, 3) := by decide +kernel
theorem dX9_search_13 : decode cX9_search 13 = .ok (.if_icmp .lt 4, 3) := by decide +kernel
theorem dX9_search_16 : decode cX9_search 16 = .ok (.return_, 1) := by decide +kernel
theorem dX9_search_17 : decode cX9_search 17 = .ok (.iload_n 1, 1) := by decide +kernel
theorem dX9_search_18 : decode cX9_search 18 = .ok (.aload_n 0, 1) := by decide +kernel
theorem dX9_search_19 : decode cX9_search 19 = .ok (.getfield 40, 3) := by decide +kernel
theorem dX9_search_22 : decode cX9_search 22 = .ok (.if_icmp .lt 34, 3) := by decide +kernel
theorem dX9_search_25 : decode cX9_search 25 = .ok (.aload_n 0, 1) := by decide +kernel
theorem dX9_search_26 : decode cX9_search 26 = .ok (.aload_n 0, 1) := by decide +kernel
theorem dX9_search_27 : decode cX9_search 27 = .ok (.getfield 18, 3) := by decide +kernel
theorem dX9_search_30 : decode cX9_search 30 = .ok (.iload_n 1, 1) := by decide +kernel
theorem dX9_search_31 : decode cX9_search 31 = .ok (.iaload, 1) := by decide +kernel
theorem dX9_search_32 : decode cX9_search 32 = .ok (.invokestatic 84, 3) := by decide +kernel
theorem dX9_search_35 : decode cX9_search 35 = .ok (.putfield 43, 3) := by decide +kernel
theorem dX9_search_38 : decode cX9_search 38 = .ok (.aload_n 0, 1) := by decide +kernel
theorem dX9_search_39 : decode cX9_search 39 = .ok (.getfield 24, 3) := by decide +kernel
theorem dX9_search_42 : decode cX9_search 42 = .ok (.iconst 0, 1) := by decide +kernel
theorem dX9_search_43 : decode cX9_search 43 = .ok (.aload_n 0, 1) := by decide +kernel
theorem dX9_search_44 : decode cX9_search 44 = .ok (.getfield 27, 3) := by decide +kernel
theorem dX9_search_47 : decode cX9_search 47 = .ok (.iconst 0, 1) := by decide +kernel
theorem dX9_search_48 : decode cX9_search 48 = .ok (.aload_n 0, 1) := by decide +kernel
theorem dX9_search_49 : decode cX9_search 49 = .ok (.getfield 40, 3) := by decide +kernel
theorem dX9_search_52 : decode cX9_search 52 = .ok (.invokestatic 68, 3) := by decide +kernel
theorem dX9_search_55 : decode cX9_search 55 = .ok (.return_, 1) := by decide +kernel
theorem dX9_search_56 : decode cX9_search 56 = .ok (.iconst (-1), 1) := by decide +kernel
theorem dX9_search_57 : decode cX9_search 57 = .ok (.istore_n 2, 1) := by decide +kernel
theorem dX9_search_58 : decode cX9_search 58 = .ok (.iload_n 2, 1) := by decide +kernel
theorem dX9_search_59 : decode cX9_search 59 = .ok (.aload_n 0, 1) := by decide +kernel
theorem dX9_search_60 : decode cX9_search 60 = .ok (.getfield 30, 3) := by decide +kernel
theorem dX9_search_63 : decode cX9_search 63 = .ok (.if_icmp .ge 67, 3) := by decide +kernel
theorem dX9_search_66 : decode cX9_search 66 = .ok (.iload_n 2, 1) := by decide +kernel
theorem dX9_search_67 : decode cX9_search 67 = .ok (.iconst (-1), 1) := by decide +kernel
theorem dX9_search_68 : decode cX9_search 68 = .ok (.if_icmp .eq 23, 3) := by decide +kernel
theorem dX9_search_71 : decode cX9_search 71 = .ok (.aload_n 0, 1) := by decide +kernel
theorem dX9_search_72 : decode cX9_search 72 = .ok (.getfield 37, 3) := by decide +kernel
theorem dX9_search_75 : decode cX9_search 75 = .ok (.aload_n 0, 1) := by decide +kernel
theorem dX9_search_76 : decode cX9_search 76 = .ok (.getfield 18, 3) := by decide +kernel
theorem dX9_search_79 : decode cX9_search 79 = .ok (.iload_n 1, 1) := by decide +kernel
theorem dX9_search_80 : decode cX9_search 80 = .ok (.iaload, 1) := by decide +kernel
theorem dX9_search_81 : decode cX9_search 81 = .ok (.iconst (-1), 1) := by decide +kernel
theorem dX9_search_82 : decode cX9_search 82 = .ok (.ixor, 1) := by decide +kernel
theorem dX9_search_83 : decode cX9_search 83 = .ok (.iand, 1) := by decide +kernel
theorem dX9_search_84 : decode cX9_search 84 = .ok (.iload_n 2, 1) := by decide +kernel
theorem dX9_search_85 : decode cX9_search 85 = .ok (.invokestatic 90, 3) := by decide +kernel
theorem dX9_search_88 : decode cX9_search 88 = .ok (.ifCond .eq 7, 3) := by decide +kernel
theorem dX9_search_91 : decode cX9_search 91 = .ok (.iconst 1, 1) := by decide +kernel
theorem dX9_search_92 : decode cX9_search 92 = .ok (.goto 4, 3) := by decide +kernel
theorem dX9_search_95 : decode cX9_search 95 = .ok (.iconst 0, 1) := by decide +kernel
theorem dX9_search_96 : decode cX9_search 96 = .ok (.istore_n 3, 1) := by decide +kernel
theorem dX9_search_97 : decode cX9_search 97 = .ok (.iload_n 3, 1) := by decide +kernel
theorem dX9_search_98 : decode cX9_search 98 = .ok (.ifCond .eq 26, 3) := by decide +kernel
theorem dX9_search_101 : decode cX9_search 101 = .ok (.aload_n 0, 1) := by decide +kernel
theorem dX9_search_102 : decode cX9_search 102 = .ok (.iload_n 1, 1) := by decide +kernel
theorem dX9_search_103 : decode cX9_search 103 = .ok (.iload_n 2, 1) := by decide +kernel
theorem dX9_search_104 : decode cX9_search 104 = .ok (.invokevirtual 94, 3) := by decide +kernel
theorem dX9_search_107 : decode cX9_search 107 = .ok (.ifCond .eq 17, 3) := by decide +kernel
theorem dX9_search_110 : decode cX9_search 110 = .ok (.aload_n 0, 1) := by decide +kernel
theorem dX9_search_111 : decode cX9_search 111 = .ok (.getfield 24, 3) := by decide +kernel
theorem dX9_search_114 : decode cX9_search 114 = .ok (.iload_n 1, 1) := by decide +kernel
theorem dX9_search_115 : decode cX9_search 115 = .ok (.iload_n 2, 1) := by decide +kernel
theorem dX9_search_116 : decode cX9_search 116 = .ok (.iastore, 1) := by decide +kernel
theorem dX9_search_117 : decode cX9_search 117 = .ok (.aload_n 0, 1) := by decide +kernel
theorem dX9_search_118 : decode cX9_search 118 = .ok (.iload_n 1, 1) := by decide +kernel
theorem dX9_search_119 : decode cX9_search 119 = .ok (.iconst 1, 1) := by decide +kernel
theorem dX9_search_120 : decode cX9_search 120 = .ok (.iadd, 1) := by decide +kernel
theorem dX9_search_121 : decode cX9_search 121 = .ok (.invokevirtual 80, 3) := by decide +kernel
theorem dX9_search_124 : decode cX9_search 124 = .ok (.iinc 2 1, 3) := by decide +kernel
theorem dX9_search_127 : decode cX9_search 127 = .ok (.goto (-69), 3) := by decide +kernel
theorem dX9_search_130 : decode cX9_search 130 = .ok (.return_, 1) := by decide +kernel
def q9_searchB (A_ : St → Int32 → Option St) (σ : St) (depth_a : Int32) : Option St :=
  Option.bind (ag σ 17 6 depth_a) fun x3_ =>
  if (σ 14 10) ≤ (bcount x3_) then (some σ) else
  if (σ 14 9) ≤ depth_a then (Option.bind (ag σ 17 6 depth_a) fun x11_ =>
  lt (up σ 14 10 (bcount x11_)) fun σ13_ =>
  Option.bind (acp σ13_ 19 5 20 5 (σ13_ 14 9)) fun σ15_ =>
  some σ15_) else
  Option.bind (loop2 (fun rec20_ (eater23_ : Int32) (σ24_ : St) =>
  if eater23_ < (σ24_ 14 6) then
  Option.bind (Option.bind (if eater23_ = (-1) then (some true) else (Option.bind (ag σ24_ 17 6 depth_a) fun x39_ =>
  if q11_isIn ((σ24_ 14 8) &&& (x39_ ^^^ (-1))) eater23_ = true then (some true) else (some false))) fun t36_ =>
  if t36_ = true then (some true) else (some false)) fun x31_ =>
  Option.bind (Option.bind (if x31_ = true then (Option.bind (q9_bake σ24_ depth_a eater23_) fun x51_ =>
  if x51_.1 = true then (some (true, x51_.2)) else (some (false, x51_.2))) else (some (false, σ24_))) fun t48_ =>
  if t48_.1 = true then (Option.bind (sa t48_.2 19 5 depth_a eater23_) fun σ55_ =>
  Option.bind (A_ σ55_ (depth_a + 1)) fun x57_ =>
  some (x57_)) else (some (t48_.2))) fun y43_ =>
  lt (eater23_ + 1) fun eater59_ =>
  rec20_ eater59_ y43_
  else (some (eater23_, σ24_))) fuelN (-1 : Int32) σ) fun y17_ =>
  some y17_.2
set_option maxHeartbeats 4000000 in
set_option maxRecDepth 100000 in
theorem p9_search {Θ : Tz} {σ : St} {ρ : Option Value × St} {A_ : St → Int32 → Option St} {d_ : Nat} (hA : zRec9_search Θ.1.2.1 Θ.2.2.2.2.1 Θ.2.2.2.2.2 A_ d_) (C : Zc Θ cX9_search 4 RX9 none (rmR9_search (d_ + 1))) (hkd : Θ.2.2.2.2.1 = kdC) {depth_a : Int32} {r : St} (hf : q9_searchB A_ σ depth_a = some r) (hρ : ρ = (none, r)) : Z Θ 4 0 0 (zQ Θ ρ) σ 0 [(0, .ref (zA Θ 14)), (1, .int depth_a)] [] := by
  unfold q9_searchB at hf
  refine z_aload_n C 0 dX9_search_0 rfl rfl ?_
  refine fg9_18 C hkd dX9_search_1 ?_
  refine z_iload_n C 1 dX9_search_4 rfl rfl ?_
  obtain ⟨x3_, h4_, hf⟩ := ob hf
  refine z_ag C h4_ (kC_17 hkd) dX9_search_5 ?_
  refine z_callS C [.int x3_] (some (.int (bcount x3_)), σ) 1 (cJ_bitCount (zc_inj C)) w_3_30 w_7_16 w_3_29 w_1_26 ⟨rfl, rfl, (by dsimp only; omega), (by dsimp only; omega)⟩ (by decide +kernel) rfl rfl (Nat.le_of_ble_eq_true rfl) ⟨Nat.zero_le _, Nat.zero_le _⟩ dX9_search_6 ?_
  refine z_aload_n C 0 dX9_search_9 rfl rfl ?_
  refine fg9_43 C hkd dX9_search_10 ?_
  have K1_ : (σ 14 10) ≤ (bcount x3_) → Z Θ 4 0 0 (zQ Θ ρ) σ 16 [(0, .ref (zA Θ 14)), (1, .int depth_a)] [] := by
    intro h6_
    rw [if_pos h6_] at hf
    cases hf
    subst hρ
    exact z_vret C dX9_search_16
  suffices K2_ : ¬ ((σ 14 10) ≤ (bcount x3_)) → Z Θ 4 0 0 (zQ Θ ρ) σ 17 [(0, .ref (zA Θ 14)), (1, .int depth_a)] [] by
    refine c_ge_f C 17 dX9_search_13 (by decide) (fun h5_ => ?_) (fun h5_ => ?_)
    · exact K1_ h5_
    · exact K2_ h5_
  intro h6_
  rw [if_neg h6_] at hf
  have K7_ : (σ 14 9) ≤ depth_a → Z Θ 4 0 0 (zQ Θ ρ) σ 25 [(0, .ref (zA Θ 14)), (1, .int depth_a)] [] := by
    intro h10_
    rw [if_pos h10_] at hf
    refine z_aload_n C 0 dX9_search_25 rfl rfl ?_
    refine z_aload_n C 0 dX9_search_26 rfl rfl ?_
    refine fg9_18 C hkd dX9_search_27 ?_
    refine z_iload_n C 1 dX9_search_30 rfl rfl ?_
    obtain ⟨x11_, h12_, hf⟩ := ob hf
    refine z_ag C h12_ (kC_17 hkd) dX9_search_31 ?_
    refine z_callS C [.int x11_] (some (.int (bcount x11_)), σ) 1 (cJ_bitCount (zc_inj C)) w_3_30 w_7_16 w_3_29 w_1_26 ⟨rfl, rfl, (by dsimp only; omega), (by dsimp only; omega)⟩ (by decide +kernel) rfl rfl (Nat.le_of_ble_eq_true rfl) ⟨Nat.zero_le _, Nat.zero_le _⟩ dX9_search_32 ?_
    obtain ⟨σ13_, h14_, hf⟩ := lt_ hf
    refine fp9_43 C hkd h14_ dX9_search_35 ?_
    refine z_aload_n C 0 dX9_search_38 rfl rfl ?_
    refine fg9_24 C hkd dX9_search_39 ?_
    refine z_iconst (v := 0) C dX9_search_42 ic_0 ?_
    refine z_aload_n C 0 dX9_search_43 rfl rfl ?_
    refine fg9_27 C hkd dX9_search_44 ?_
    refine z_iconst (v := 0) C dX9_search_47 ic_0 ?_
    refine z_aload_n C 0 dX9_search_48 rfl rfl ?_
    refine fg9_40 C hkd dX9_search_49 ?_
    obtain ⟨σ15_, h16_, hf⟩ := ob hf
    refine z_acp C h16_ (kC_19 hkd) (kC_20 hkd) w_7_11 ⟨(by dsimp only; omega), (by refine Nat.le_trans (m := 200) (Nat.le_of_ble_eq_true rfl) ?_; dsimp only; omega)⟩ (Nat.le_of_ble_eq_true rfl) dX9_search_52 ?_
    cases hf
    subst hρ
    exact z_vret C dX9_search_55
  suffices K8_ : ¬ ((σ 14 9) ≤ depth_a) → Z Θ 4 0 0 (zQ Θ ρ) σ 56 [(0, .ref (zA Θ 14)), (1, .int depth_a)] [] by
    refine z_iload_n C 1 dX9_search_17 rfl rfl ?_
    refine z_aload_n C 0 dX9_search_18 rfl rfl ?_
    refine fg9_40 C hkd dX9_search_19 ?_
    refine c_ge_f C 56 dX9_search_22 (by decide) (fun h9_ => ?_) (fun h9_ => ?_)
    · exact K7_ h9_
    · exact K8_ h9_
  intro h10_
  rw [if_neg h10_] at hf
  refine z_iconst (v := (-1)) C dX9_search_56 ic_m1 ?_
  refine z_istN C dX9_search_57 rfl rfl (Nat.le_of_ble_eq_true rfl) rfl ?_
  refine Z.sub [1, 2, 0] rfl ?_
  obtain ⟨y17_, h18_, hf⟩ := ob hf
  suffices K19_ : Z Θ 4 0 0 (zQ Θ ρ) y17_.2 130 [(0, .ref (zA Θ 14)), (1, .int depth_a), (2, .int y17_.1)] [] by
    refine loop2_Z (P := fun (eater23_ : Int32) (σ24_ : St) => Z Θ 4 0 0 (zQ Θ ρ) σ24_ 58 [(0, .ref (zA Θ 14)), (1, .int depth_a), (2, .int eater23_)] []) ?_ fuelN (-1 : Int32) σ h18_
    clear h18_
    intro rec20_ eater23_ σ24_ h21_ h22_
    have K27_ : eater23_ < (σ24_ 14 6) → Z Θ 4 0 0 (zQ Θ ρ) σ24_ 66 [(0, .ref (zA Θ 14)), (1, .int depth_a), (2, .int eater23_)] [] := by
      intro h30_
      rw [if_pos h30_] at h22_
      obtain ⟨x31_, h32_, h22_⟩ := ob h22_
      suffices K33_ : Z Θ 4 0 0 (zQ Θ ρ) σ24_ 96 [(0, .ref (zA Θ 14)), (1, .int depth_a), (2, .int eater23_)] [.int (b2i x31_)] by
        obtain ⟨t36_, h37_, h32_⟩ := ob h32_
        have K34_ : t36_ = true → Z Θ 4 0 0 (zQ Θ ρ) σ24_ 91 [(0, .ref (zA Θ 14)), (1, .int depth_a), (2, .int eater23_)] [] := by
          intro h42_
          rw [if_pos h42_] at h32_
          refine z_iconst (v := 1) C dX9_search_91 ic_1 ?_
          refine z_goto C 96 dX9_search_92 (by decide) ?_
          cases h32_
          exact K33_
        have K35_ : ¬ (t36_ = true) → Z Θ 4 0 0 (zQ Θ ρ) σ24_ 95 [(0, .ref (zA Θ 14)), (1, .int depth_a), (2, .int eater23_)] [] := by
          intro h42_
          rw [if_neg h42_] at h32_
          refine z_iconst (v := 0) C dX9_search_95 ic_0 ?_
          cases h32_
          exact K33_
        refine z_iload_n C 2 dX9_search_66 rfl rfl ?_
        refine z_iconst (v := (-1)) C dX9_search_67 ic_m1 ?_
        refine c_eq_t C 91 dX9_search_68 (by decide) (fun h38_ => ?_) (fun h38_ => ?_)
        · rw [if_pos h38_] at h37_
          cases h37_
          exact K34_ rfl
        · rw [if_neg h38_] at h37_
          refine z_aload_n C 0 dX9_search_71 rfl rfl ?_
          refine fg9_37 C hkd dX9_search_72 ?_
          refine z_aload_n C 0 dX9_search_75 rfl rfl ?_
          refine fg9_18 C hkd dX9_search_76 ?_
          refine z_iload_n C 1 dX9_search_79 rfl rfl ?_
          obtain ⟨x39_, h40_, h37_⟩ := ob h37_
          refine z_ag C h40_ (kC_17 hkd) dX9_search_80 ?_
          refine z_iconst (v := (-1)) C dX9_search_81 ic_m1 ?_
          refine z_ixor C dX9_search_82 ?_
          refine z_iand C dX9_search_83 ?_
          refine z_iload_n C 2 dX9_search_84 rfl rfl ?_
          refine cr9_90 (set_a := ((σ24_ 14 8) &&& (x39_ ^^^ (-1)))) (person_a := eater23_) C hkd  ⟨(by dsimp only; omega), (by dsimp only; omega)⟩ (Nat.le_of_ble_eq_true rfl) ⟨Nat.zero_le _, Nat.zero_le _⟩ dX9_search_85 ?_
          refine cb_f C 95 dX9_search_88 (by decide) (fun h41_ => ?_) (fun h41_ => ?_)
          · rw [if_pos h41_] at h37_
            cases h37_
            exact K34_ rfl
          · rw [if_neg h41_] at h37_
            cases h37_
            exact K35_ Bool.false_ne_true
      refine z_istN C dX9_search_96 rfl rfl (Nat.le_of_ble_eq_true rfl) rfl ?_
      obtain ⟨y43_, h44_, h22_⟩ := ob h22_
      suffices K45_ : Z Θ 4 0 0 (zQ Θ ρ) y43_ 124 [(0, .ref (zA Θ 14)), (1, .int depth_a), (2, .int eater23_), (3, .int (b2i x31_))] [] by
        obtain ⟨t48_, h49_, h44_⟩ := ob h44_
        have K46_ : t48_.1 = true → Z Θ 4 0 0 (zQ Θ ρ) t48_.2 110 [(3, .int (b2i x31_)), (0, .ref (zA Θ 14)), (1, .int depth_a), (2, .int eater23_)] [] := by
          intro h54_
          rw [if_pos h54_] at h44_
          refine z_aload_n C 1 dX9_search_110 rfl rfl ?_
          refine fg9_24 C hkd dX9_search_111 ?_
          refine z_iload_n C 2 dX9_search_114 rfl rfl ?_
          refine z_iload_n C 3 dX9_search_115 rfl rfl ?_
          obtain ⟨σ55_, h56_, h44_⟩ := ob h44_
          refine z_sa C h56_ (kC_19 hkd) dX9_search_116 ?_
          refine z_aload_n C 1 dX9_search_117 rfl rfl ?_
          refine z_iload_n C 2 dX9_search_118 rfl rfl ?_
          refine z_iconst (v := 1) C dX9_search_119 ic_1 ?_
          refine z_iadd C dX9_search_120 ?_
          obtain ⟨x57_, h58_, h44_⟩ := ob h44_
          refine cr9_80 (depth_a := (depth_a + 1)) C hkd hA  h58_ ⟨(by dsimp only; omega), (by dsimp only; omega)⟩ (Nat.le_of_ble_eq_true rfl) ⟨Nat.zero_le _, Nat.zero_le _⟩ dX9_search_121 ?_
          cases h44_
          refine Z.sub [1, 2, 3, 0] rfl ?_
          exact K45_
        have K47_ : ¬ (t48_.1 = true) → Z Θ 4 0 0 (zQ Θ ρ) t48_.2 124 [(3, .int (b2i x31_)), (0, .ref (zA Θ 14)), (1, .int depth_a), (2, .int eater23_)] [] := by
          intro h54_
          rw [if_neg h54_] at h44_
          cases h44_
          refine Z.sub [1, 2, 3, 0] rfl ?_
          exact K45_
        refine z_iload_n C 0 dX9_search_97 rfl rfl ?_
        refine cb_f C 124 dX9_search_98 (by decide) (fun h50_ => ?_) (fun h50_ => ?_)
        · rw [if_pos h50_] at h49_
          refine z_aload_n C 1 dX9_search_101 rfl rfl ?_
          refine z_iload_n C 2 dX9_search_102 rfl rfl ?_
          refine z_iload_n C 3 dX9_search_103 rfl rfl ?_
          obtain ⟨x51_, h52_, h49_⟩ := ob h49_
          refine cr9_94 (depth_a := depth_a) (eater_a := eater23_) C hkd  h52_ ⟨(by dsimp only; omega), (by dsimp only; omega)⟩ (Nat.le_of_ble_eq_true rfl) ⟨Nat.zero_le _, Nat.zero_le _⟩ dX9_search_104 ?_
          refine cb_f C 124 dX9_search_107 (by decide) (fun h53_ => ?_) (fun h53_ => ?_)
          · rw [if_pos h53_] at h49_
            cases h49_
            exact K46_ rfl
          · rw [if_neg h53_] at h49_
            cases h49_
            exact K47_ Bool.false_ne_true
        · rw [if_neg h50_] at h49_
          cases h49_
          exact K47_ Bool.false_ne_true
      obtain ⟨eater59_, h60_, h22_⟩ := lt_ h22_
      refine z_inc C 2 dX9_search_124 rfl ic_1 h60_ (Nat.le_of_ble_eq_true rfl) rfl ?_
      refine z_goto C 58 dX9_search_127 (by decide) ?_
      refine Z.sub [1, 2, 0] rfl ?_
      exact h21_ _ _ h22_
    have K28_ : ¬ (eater23_ < (σ24_ 14 6)) → Z Θ 4 0 0 (zQ Θ ρ) σ24_ 130 [(0, .ref (zA Θ 14)), (1, .int depth_a), (2, .int eater23_)] [] := by
      intro h30_
      rw [if_neg h30_] at h22_
      cases h22_
      exact K19_
    refine z_iload_n C 2 dX9_search_58 rfl rfl ?_
    refine z_aload_n C 0 dX9_search_59 rfl rfl ?_
    refine fg9_30 C hkd dX9_search_60 ?_
    refine c_lt_f C 130 dX9_search_63 (by decide) (fun h29_ => ?_) (fun h29_ => ?_)
    · exact K27_ h29_
    · exact K28_ h29_
  cases hf
  subst hρ
  exact z_vret C dX9_search_130
theorem cb9_search {l : Launch} {kd : List KD} {w : Wp} {σ : St} {A_ : St → Int32 → Option St} {d_ : Nat} {depth_a : Int32} (hkd : kd = kdC) (hi : zI kd w) (hA : zRec9_search l kd w A_ d_) {r : St} (hf : q9_searchB A_ σ depth_a = some r) : zM l kd w yX9_search cX9_search 4 none (rmR9_search (d_ + 1)) [.ref (w.2.2.1 14), .int depth_a] σ (none, r) := zM_of rfl hi (Nat.le_of_ble_eq_true rfl) (fun Θ hl hw C => by
  obtain ⟨Θ1, Θ2, Θ3, Θ4, Θ5⟩ := Θ
  cases hw
  cases hl
  exact p9_search hA C hkd  hf rfl)
def q9_search : Nat → St → Int32 → Option St
  | 0 => fun _ _ => none
  | d + 1 => q9_searchB (q9_search d)
theorem rec9_search {l : Launch} {kd : List KD} {w : Wp} (hkd : kd = kdC) (hi : zI kd w) : ∀ d, zRec9_search l kd w (q9_search d) d
  | 0 => fun h => by cases h
  | d + 1 => fun h => cb9_search hkd hi (rec9_search hkd hi d) h
/-! LastLoaf$Turns.findBest -/
theorem w_1_125 : Cond.fieldLink "LastLoaf$Turns" (46 : Nat) "LastLoaf$Village" "people" "I" ∈ TB := tb_in (lwt_1 (List.mem_of_getElem? (i := 125) (by decide +kernel))) rfl
theorem fg9_46 {Θ : Tz} {cc : ByteArray} {nL kc ks : Nat} {ret : Option FieldType} {rm : Room} {Q : State → Prop} {σ : St} {pc : Nat} {lv : List (Nat × Value)} {st : List Value} (C : Zc Θ cc nL RX9 ret rm) (hkd : Θ.2.2.2.2.1 = kdC) {th : Nat} (hth : isV th) (hd : decode cc pc = .ok (.getfield 46, 3)) (kk : Z Θ nL kc ks Q σ (pc + 3) lv (.int (σ th 8) :: st)) : Z Θ nL kc ks Q σ pc lv (.ref (zA Θ th) :: st) := z_get C inT10 th (kV_0 hkd hth) rfl 8 (by decide) w_1_125 rfl hd kk
theorem fp9_30 {Θ : Tz} {cc : ByteArray} {nL kc ks : Nat} {ret : Option FieldType} {rm : Room} {Q : State → Prop} {σ : St} {pc : Nat} {lv : List (Nat × Value)} {st : List Value} (C : Zc Θ cc nL RX9 ret rm) (hkd : Θ.2.2.2.2.1 = kdC) {x : Int32} {σ1 : St} (he : σ1 = up σ 14 6 x) (hd : decode cc pc = .ok (.putfield 30, 3)) (kk : Z Θ nL kc ks Q σ1 (pc + 3) lv st) : Z Θ nL kc ks Q σ pc lv (.int x :: .ref (zA Θ 14) :: st) := by subst he; exact z_put C inT9 tyX9_ok nmX9 14 (kC_14 hkd) rfl 6 (by decide) w_2_101 rfl rfl rfl rfl hd kk
theorem w_1_132 : Cond.fieldLink "LastLoaf$Turns" (49 : Nat) "LastLoaf$Village" "standing" "I" ∈ TB := tb_in (lwt_1 (List.mem_of_getElem? (i := 132) (by decide +kernel))) rfl
theorem fg9_49 {Θ : Tz} {cc : ByteArray} {nL kc ks : Nat} {ret : Option FieldType} {rm : Room} {Q : State → Prop} {σ : St} {pc : Nat} {lv : List (Nat × Value)} {st : List Value} (C : Zc Θ cc nL RX9 ret rm) (hkd : Θ.2.2.2.2.1 = kdC) {th : Nat} (hth : isV th) (hd : decode cc pc = .ok (.getfield 49, 3)) (kk : Z Θ nL kc ks Q σ (pc + 3) lv (.int (σ th 9) :: st)) : Z Θ nL kc ks Q σ pc lv (.ref (zA Θ th) :: st) := z_get C inT10 th (kV_0 hkd hth) rfl 9 (by decide) w_1_132 rfl hd kk
theorem fp9_34 {Θ : Tz} {cc : ByteArray} {nL kc ks : Nat} {ret : Option FieldType} {rm : Room} {Q : State → Prop} {σ : St} {pc : Nat} {lv : List (Nat × Value)} {st : List Value} (C : Zc Θ cc nL RX9 ret rm) (hkd : Θ.2.2.2.2.1 = kdC) {x : Int32} {σ1 : St} (he : σ1 = up σ 14 7 x) (hd : decode cc pc = .ok (.putfield 34, 3)) (kk : Z Θ nL kc ks Q σ1 (pc + 3) lv st) : Z Θ nL kc ks Q σ pc lv (.int x :: .ref (zA Θ 14) :: st) := by subst he; exact z_put C inT9 tyX9_ok nmX9 14 (kC_14 hkd) rfl 7 (by decide) w_2_102 rfl rfl rfl rfl hd kk
theorem w_7_9 : Cond.methodLink "LastLoaf$Turns" (50 : Nat) ({ cls := "LastLoaf$Village", name := "runners", desc := "()I" } : MethodName) ∈ TB := tb_in (lwt_7 (List.mem_of_getElem? (i := 9) (by decide +kernel))) rfl
theorem cr9_50 {Θ : Tz} {cc : ByteArray} {nL kc ks : Nat} {ret : Option FieldType} {rm : Room} {Q : State → Prop} {σ : St} {pc : Nat} {lv : List (Nat × Value)} {st : List Value} (C : Zc Θ cc nL RX9 ret rm) (hkd : Θ.2.2.2.2.1 = kdC) {th : Nat} (hth : isV th) (hrm : rm10_runners.frames + 1 ≤ rm.frames ∧ 8 + (1 + 11) + rm10_runners.locals ≤ rm.locals) (hcat : (st.map fun v => v.category).sum ≤ 8) (hk : kc ≤ rm.cells ∧ ks ≤ rm.slots) (hd : decode cc pc = .ok (.invokevirtual 50, 3)) (kk : Z Θ nL kc ks Q σ (pc + 3) lv (.int (q10_runners σ th) :: st)) : Z Θ nL kc ks Q σ pc lv (.ref (zA Θ th) :: st) := z_callV C th [] (some (.int (q10_runners σ th)), σ) 0 (kV_0 hkd hth) rfl (c10_runners (th := th) hkd (zc_inj C) hth) w_3_27 w_7_9 w_3_25 w_3_26 w_1_3 ⟨rfl, rfl, hrm.1, hrm.2⟩ (by decide +kernel) rfl rfl hcat hk hd kk
theorem fp9_37 {Θ : Tz} {cc : ByteArray} {nL kc ks : Nat} {ret : Option FieldType} {rm : Room} {Q : State → Prop} {σ : St} {pc : Nat} {lv : List (Nat × Value)} {st : List Value} (C : Zc Θ cc nL RX9 ret rm) (hkd : Θ.2.2.2.2.1 = kdC) {x : Int32} {σ1 : St} (he : σ1 = up σ 14 8 x) (hd : decode cc pc = .ok (.putfield 37, 3)) (kk : Z Θ nL kc ks Q σ1 (pc + 3) lv st) : Z Θ nL kc ks Q σ pc lv (.int x :: .ref (zA Θ 14) :: st) := by subst he; exact z_put C inT9 tyX9_ok nmX9 14 (kC_14 hkd) rfl 8 (by decide) w_2_103 rfl rfl rfl rfl hd kk
theorem fp9_40 {Θ : Tz} {cc : ByteArray} {nL kc ks : Nat} {ret : Option FieldType} {rm : Room} {Q : State → Prop} {σ : St} {pc : Nat} {lv : List (Nat × Value)} {st : List Value} (C : Zc Θ cc nL RX9 ret rm) (hkd : Θ.2.2.2.2.1 = kdC) {x : Int32} {σ1 : St} (he : σ1 = up σ 14 9 x) (hd : decode cc pc = .ok (.putfield 40, 3)) (kk : Z Θ nL kc ks Q σ1 (pc + 3) lv st) : Z Θ nL kc ks Q σ pc lv (.int x :: .ref (zA Θ 14) :: st) := by subst he; exact z_put C inT9 tyX9_ok nmX9 14 (kC_14 hkd) rfl 9 (by decide) w_2_104 rfl rfl rfl rfl hd kk
theorem w_1_144 : Cond.fieldLink "LastLoaf$Turns" (59 : Nat) "LastLoaf$Village" "flour" "I" ∈ TB := tb_in (lwt_1 (List.mem_of_getElem? (i := 144) (by decide +kernel))) rfl
theorem fg9_59 {Θ : Tz} {cc : ByteArray} {nL kc ks : Nat} {ret : Option FieldType} {rm : Room} {Q : State → Prop} {σ : St} {pc : Nat} {lv : List (Nat × Value)} {st : List Value} (C : Zc Θ cc nL RX9 ret rm) (hkd : Θ.2.2.2.2.1 = kdC) {th : Nat} (hth : isV th) (hd : decode cc pc = .ok (.getfield 59, 3)) (kk : Z Θ nL kc ks Q σ (pc + 3) lv (.int (σ th 11) :: st)) : Z Θ nL kc ks Q σ pc lv (.ref (zA Θ th) :: st) := z_get C inT10 th (kV_0 hkd hth) rfl 11 (by decide) w_1_144 rfl hd kk
theorem w_1_139 : Cond.fieldLink "LastLoaf$Turns" (62 : Nat) "LastLoaf$Village" "benched" "I" ∈ TB := tb_in (lwt_1 (List.mem_of_getElem? (i := 139) (by decide +kernel))) rfl
theorem fg9_62 {Θ : Tz} {cc : ByteArray} {nL kc ks : Nat} {ret : Option FieldType} {rm : Room} {Q : State → Prop} {σ : St} {pc : Nat} {lv : List (Nat × Value)} {st : List Value} (C : Zc Θ cc nL RX9 ret rm) (hkd : Θ.2.2.2.2.1 = kdC) {th : Nat} (hth : isV th) (hd : decode cc pc = .ok (.getfield 62, 3)) (kk : Z Θ nL kc ks Q σ (pc + 3) lv (.int (σ th 10) :: st)) : Z Θ nL kc ks Q σ pc lv (.ref (zA Θ th) :: st) := z_get C inT10 th (kV_0 hkd hth) rfl 10 (by decide) w_1_139 rfl hd kk
theorem w_1_92 : Cond.fieldLink "LastLoaf$Turns" (65 : Nat) "LastLoaf$Village" "hunger" "[I" ∈ TB := tb_in (lwt_1 (List.mem_of_getElem? (i := 92) (by decide +kernel))) rfl
theorem fg9_65 {Θ : Tz} {cc : ByteArray} {nL kc ks : Nat} {ret : Option FieldType} {rm : Room} {Q : State → Prop} {σ : St} {pc : Nat} {lv : List (Nat × Value)} {st : List Value} (C : Zc Θ cc nL RX9 ret rm) (hkd : Θ.2.2.2.2.1 = kdC) {th : Nat} (hth : isV th) (hd : decode cc pc = .ok (.getfield 65, 3)) (kk : Z Θ nL kc ks Q σ (pc + 3) lv (.ref (zA Θ (th + 1)) :: st)) : Z Θ nL kc ks Q σ pc lv (.ref (zA Θ th) :: st) := z_get C inT10 th (kV_0 hkd hth) rfl 0 (by decide) w_1_92 rfl hd kk
theorem w_1_117 : Cond.fieldLink "LastLoaf$Turns" (74 : Nat) "LastLoaf$Village" "grist" "[I" ∈ TB := tb_in (lwt_1 (List.mem_of_getElem? (i := 117) (by decide +kernel))) rfl
theorem fg9_74 {Θ : Tz} {cc : ByteArray} {nL kc ks : Nat} {ret : Option FieldType} {rm : Room} {Q : State → Prop} {σ : St} {pc : Nat} {lv : List (Nat × Value)} {st : List Value} (C : Zc Θ cc nL RX9 ret rm) (hkd : Θ.2.2.2.2.1 = kdC) {th : Nat} (hth : isV th) (hd : decode cc pc = .ok (.getfield 74, 3)) (kk : Z Θ nL kc ks Q σ (pc + 3) lv (.ref (zA Θ (th + 7)) :: st)) : Z Θ nL kc ks Q σ pc lv (.ref (zA Θ th) :: st) := z_get C inT10 th (kV_0 hkd hth) rfl 6 (by decide) w_1_117 rfl hd kk
theorem w_1_149 : Cond.fieldLink "LastLoaf$Turns" (77 : Nat) "LastLoaf$Village" "week" "I" ∈ TB := tb_in (lwt_1 (List.mem_of_getElem? (i := 149) (by decide +kernel))) rfl
theorem fg9_77 {Θ : Tz} {cc : ByteArray} {nL kc ks : Nat} {ret : Option FieldType} {rm : Room} {Q : State → Prop} {σ : St} {pc : Nat} {lv : List (Nat × Value)} {st : List Value} (C : Zc Θ cc nL RX9 ret rm) (hkd : Θ.2.2.2.2.1 = kdC) {th : Nat} (hth : isV th) (hd : decode cc pc = .ok (.getfield 77, 3)) (kk : Z Θ nL kc ks Q σ (pc + 3) lv (.int (σ th 12) :: st)) : Z Θ nL kc ks Q σ pc lv (.ref (zA Θ th) :: st) := z_get C inT10 th (kV_0 hkd hth) rfl 12 (by decide) w_1_149 rfl hd kk
theorem dX9_findBest_0 : decode cX9_findBest 0 = .ok (.aload_n 0, 1) := by decide +kernel
theorem dX9_findBest_1 : decode cX9_findBest 1 = .ok (.aload_n 1, 1) := by decide +kernel
theorem dX9_findBest_2 : decode cX9_findBest 2 = .ok (.getfield 46, 3) := by decide +kernel
theorem dX9_findBest_5 : decode cX9_findBest 5 = .ok (.putfield 30, 3) := by decide +kernel
theorem dX9_findBest_8 : decode cX9_findBest 8 = .ok (.aload_n 0, 1) := by decide +kernel
theorem dX9_findBest_9 : decode cX9_findBest 9 = .ok (.aload_n 1, 1) := by decide +kernel
theorem dX9_findBest_10 : decode cX9_findBest 10 = .ok (.getfield 49, 3) := by decide +kernel
theorem dX9_findBest_13 : decode cX9_findBest 13 = .ok (.putfield 34, 3) := by decide +kernel
theorem dX9_findBest_16 : decode cX9_findBest 16 = .ok (.aload_n 0, 1) := by decide +kernel
theorem dX9_findBest_17 : decode cX9_findBest 17 = .ok (.aload_n 1, 1) := by decide +kernel
theorem dX9_findBest_18 : decode cX9_findBest 18 = .ok (.invokevirtual 50, 3) := by decide +kernel
theorem dX9_findBest_21 : decode cX9_findBest 21 = .ok (.putfield 37, 3) := by decide +kernel
theorem dX9_findBest_24 : decode cX9_findBest 24 = .ok (.aload_n 0, 1) := by decide +kernel
theorem dX9_findBest_25 : decode cX9_findBest 25 = .ok (.iload_n 2, 1) := by decide +kernel
theorem dX9_findBest_26 : decode cX9_findBest 26 = .ok (.iconst 5, 1) := by decide +kernel
theorem dX9_findBest_27 : decode cX9_findBest 27 = .ok (.invokestatic 53, 3) := by decide +kernel
theorem dX9_findBest_30 : decode cX9_findBest 30 = .ok (.putfield 40, 3) := by decide +kernel
theorem dX9_findBest_33 : decode cX9_findBest 33 = .ok (.aload_n 0, 1) := by decide +kernel
theorem dX9_findBest_34 : decode cX9_findBest 34 = .ok (.bipush 7, 2) := by decide +kernel
theorem dX9_findBest_36 : decode cX9_findBest 36 = .ok (.putfield 43, 3) := by decide +kernel
theorem dX9_findBest_39 : decode cX9_findBest 39 = .ok (.aload_n 0, 1) := by decide +kernel
theorem dX9_findBest_40 : decode cX9_findBest 40 = .ok (.getfield 15, 3) := by decide +kernel
theorem dX9_findBest_43 : decode cX9_findBest 43 = .ok (.iconst 0, 1) := by decide +kernel
theorem dX9_findBest_44 : decode cX9_findBest 44 = .ok (.aload_n 1, 1) := by decide +kernel
theorem dX9_findBest_45 : decode cX9_findBest 45 = .ok (.getfield 59, 3) := by decide +kernel
theorem dX9_findBest_48 : decode cX9_findBest 48 = .ok (.iastore, 1) := by decide +kernel
theorem dX9_findBest_49 : decode cX9_findBest 49 = .ok (.aload_n 0, 1) := by decide +kernel
theorem dX9_findBest_50 : decode cX9_findBest 50 = .ok (.getfield 18, 3) := by decide +kernel
theorem dX9_findBest_53 : decode cX9_findBest 53 = .ok (.iconst 0, 1) := by decide +kernel
theorem dX9_findBest_54 : decode cX9_findBest 54 = .ok (.aload_n 1, 1) := by decide +kernel
theorem dX9_findBest_55 : decode cX9_findBest 55 = .ok (.getfield 62, 3) := by decide +kernel
theorem dX9_findBest_58 : decode cX9_findBest 58 = .ok (.iastore, 1) := by decide +kernel
theorem dX9_findBest_59 : decode cX9_findBest 59 = .ok (.aload_n 1, 1) := by decide +kernel
theorem dX9_findBest_60 : decode cX9_findBest 60 = .ok (.getfield 65, 3) := by decide +kernel
theorem dX9_findBest_63 : decode cX9_findBest 63 = .ok (.iconst 0, 1) := by decide +kernel
theorem dX9_findBest_64 : decode cX9_findBest 64 = .ok (.aload_n 0, 1) := by decide +kernel
theorem dX9_findBest_65 : decode cX9_findBest 65 = .ok (.getfield 9, 3) := by decide +kernel
theorem dX9_findBest_68 : decode cX9_findBest 68 = .ok (.iconst 0, 1) := by decide +kernel
theorem dX9_findBest_69 : decode cX9_findBest 69 = .ok (.bipush 6, 2) := by decide +kernel
theorem dX9_findBest_71 : decode cX9_findBest 71 = .ok (.invokestatic 68, 3) := by decide +kernel
theorem dX9_findBest_74 : decode cX9_findBest 74 = .ok (.iconst 0, 1) := by decide +kernel
theorem dX9_findBest_75 : decode cX9_findBest 75 = .ok (.istore_n 3, 1) := by decide +kernel
theorem dX9_findBest_76 : decode cX9_findBest 76 = .ok (.iload_n 3, 1) := by decide +kernel
theorem dX9_findBest_77 : decode cX9_findBest 77 = .ok (.aload_n 0, 1) := by decide +kernel
theorem dX9_findBest_78 : decode cX9_findBest 78 = .ok (.getfield 40, 3) := by decide +kernel
theorem dX9_findBest_81 : decode cX9_findBest 81 = .ok (.if_icmp .ge 34, 3) := by decide +kernel
theorem dX9_findBest_84 : decode cX9_findBest 84 = .ok (.aload_n 0, 1) := by decide +kernel
theorem dX9_findBest_85 : decode cX9_findBest 85 = .ok (.getfield 21, 3) := by decide +kernel
theorem dX9_findBest_88 : decode cX9_findBest 88 = .ok (.iload_n 3, 1) := by decide +kernel
theorem dX9_findBest_89 : decode cX9_findBest 89 = .ok (.aload_n 1, 1) := by decide +kernel
theorem dX9_findBest_90 : decode cX9_findBest 90 = .ok (.getfield 74, 3) := by decide +kernel
theorem dX9_findBest_93 : decode cX9_findBest 93 = .ok (.sipush 9999, 3) := by decide +kernel
theorem dX9_findBest_96 : decode cX9_findBest 96 = .ok (.aload_n 1, 1) := by decide +kernel
theorem dX9_findBest_97 : decode cX9_findBest 97 = .ok (.getfield 77, 3) := by decide +kernel
theorem dX9_findBest_100 : decode cX9_findBest 100 = .ok (.iload_n 3, 1) := by decide +kernel
theorem dX9_findBest_101 : decode cX9_findBest 101 = .ok (.iadd, 1) := by decide +kernel
theorem dX9_findBest_102 : decode cX9_findBest 102 = .ok (.invokestatic 53, 3) := by decide +kernel
theorem dX9_findBest_105 : decode cX9_findBest 105 = .ok (.iconst 4, 1) := by decide +kernel
theorem dX9_findBest_106 : decode cX9_findBest 106 = .ok (.irem, 1) := by decide +kernel
theorem dX9_findBest_107 : decode cX9_findBest 107 = .ok (.iaload, 1) := by decide +kernel
theorem dX9_findBest_108 : decode cX9_findBest 108 = .ok (.iastore, 1) := by decide +kernel
theorem dX9_findBest_109 : decode cX9_findBest 109 = .ok (.iinc 3 1, 3) := by decide +kernel
theorem dX9_findBest_112 : decode cX9_findBest 112 = .ok (.goto (-36), 3) := by decide +kernel
theorem dX9_findBest_115 : decode cX9_findBest 115 = .ok (.aload_n 0, 1) := by decide +kernel
theorem dX9_findBest_116 : decode cX9_findBest 116 = .ok (.iconst 0, 1) := by decide +kernel
theorem dX9_findBest_117 : decode cX9_findBest 117 = .ok (.invokevirtual 80, 3) := by decide +kernel
theorem dX9_findBest_120 : decode cX9_findBest 120 = .ok (.return_, 1) := by decide +kernel
def q9_findBest (σ : St) (village_a : Nat) (n_a : Int32) : Option St :=
  lt (up σ 14 6 (σ village_a 8)) fun σ1_ =>
  lt (up σ1_ 14 7 (σ1_ village_a 9)) fun σ3_ =>
  lt (up σ3_ 14 8 (q10_runners σ3_ village_a)) fun σ5_ =>
  lt (up σ5_ 14 9 (imin n_a 5)) fun σ7_ =>
  lt (up σ7_ 14 10 7) fun σ9_ =>
  Option.bind (sa σ9_ 16 6 0 (σ9_ village_a 11)) fun σ11_ =>
  Option.bind (sa σ11_ 17 6 0 (σ11_ village_a 10)) fun σ13_ =>
  Option.bind (acp σ13_ (village_a + 1) 6 15 36 6) fun σ15_ =>
  Option.bind (loop2 (fun rec20_ (i23_ : Int32) (σ24_ : St) =>
  if i23_ < (σ24_ 14 9) then
  Option.bind (ag σ24_ (village_a + 7) 4 (irm (imin 9999 ((σ24_ village_a 12) + i23_)) 4)) fun x31_ =>
  Option.bind (sa σ24_ 18 5 i23_ x31_) fun σ33_ =>
  lt (i23_ + 1) fun i35_ =>
  rec20_ i35_ σ33_
  else (some (i23_, σ24_))) fuelN (0 : Int32) σ15_) fun y17_ =>
  Option.bind (q9_search 20 y17_.2 0) fun x37_ =>
  some x37_
abbrev rm9_findBest : Room := { frames := 27, cells := 0, slots := 0, locals := 1423 }
set_option maxHeartbeats 4000000 in
set_option maxRecDepth 100000 in
theorem p9_findBest {Θ : Tz} {σ : St} {ρ : Option Value × St} (C : Zc Θ cX9_findBest 4 RX9 none rm9_findBest) (hkd : Θ.2.2.2.2.1 = kdC) {village_a : Nat} {n_a : Int32} (h_village : isV village_a) {r : St} (hf : q9_findBest σ village_a n_a = some r) (hρ : ρ = (none, r)) : Z Θ 4 0 0 (zQ Θ ρ) σ 0 [(0, .ref (zA Θ 14)), (1, .ref (zA Θ village_a)), (2, .int n_a)] [] := by
  unfold q9_findBest at hf
  refine z_aload_n C 0 dX9_findBest_0 rfl rfl ?_
  refine z_aload_n C 1 dX9_findBest_1 rfl rfl ?_
  refine fg9_46 C hkd h_village dX9_findBest_2 ?_
  obtain ⟨σ1_, h2_, hf⟩ := lt_ hf
  refine fp9_30 C hkd h2_ dX9_findBest_5 ?_
  refine z_aload_n C 0 dX9_findBest_8 rfl rfl ?_
  refine z_aload_n C 1 dX9_findBest_9 rfl rfl ?_
  refine fg9_49 C hkd h_village dX9_findBest_10 ?_
  obtain ⟨σ3_, h4_, hf⟩ := lt_ hf
  refine fp9_34 C hkd h4_ dX9_findBest_13 ?_
  refine z_aload_n C 0 dX9_findBest_16 rfl rfl ?_
  refine z_aload_n C 1 dX9_findBest_17 rfl rfl ?_
  refine cr9_50 (th := village_a) C hkd h_village ⟨(Nat.le_of_ble_eq_true rfl), (Nat.le_of_ble_eq_true rfl)⟩ (Nat.le_of_ble_eq_true rfl) ⟨Nat.zero_le _, Nat.zero_le _⟩ dX9_findBest_18 ?_
  obtain ⟨σ5_, h6_, hf⟩ := lt_ hf
  refine fp9_37 C hkd h6_ dX9_findBest_21 ?_
  refine z_aload_n C 0 dX9_findBest_24 rfl rfl ?_
  refine z_iload_n C 2 dX9_findBest_25 rfl rfl ?_
  refine z_iconst (v := 5) C dX9_findBest_26 ic_5 ?_
  refine z_min C w_7_10 w_3_129 w_1_28 w_3_130 ⟨(Nat.le_of_ble_eq_true rfl), (Nat.le_of_ble_eq_true rfl)⟩ (Nat.le_of_ble_eq_true rfl) ⟨Nat.zero_le _, Nat.zero_le _⟩ dX9_findBest_27 ?_
  obtain ⟨σ7_, h8_, hf⟩ := lt_ hf
  refine fp9_40 C hkd h8_ dX9_findBest_30 ?_
  refine z_aload_n C 0 dX9_findBest_33 rfl rfl ?_
  refine z_bipush (v := 7) C dX9_findBest_34 bp_7 ?_
  obtain ⟨σ9_, h10_, hf⟩ := lt_ hf
  refine fp9_43 C hkd h10_ dX9_findBest_36 ?_
  refine z_aload_n C 0 dX9_findBest_39 rfl rfl ?_
  refine fg9_15 C hkd dX9_findBest_40 ?_
  refine z_iconst (v := 0) C dX9_findBest_43 ic_0 ?_
  refine z_aload_n C 1 dX9_findBest_44 rfl rfl ?_
  refine fg9_59 C hkd h_village dX9_findBest_45 ?_
  obtain ⟨σ11_, h12_, hf⟩ := ob hf
  refine z_sa C h12_ (kC_16 hkd) dX9_findBest_48 ?_
  refine z_aload_n C 0 dX9_findBest_49 rfl rfl ?_
  refine fg9_18 C hkd dX9_findBest_50 ?_
  refine z_iconst (v := 0) C dX9_findBest_53 ic_0 ?_
  refine z_aload_n C 1 dX9_findBest_54 rfl rfl ?_
  refine fg9_62 C hkd h_village dX9_findBest_55 ?_
  obtain ⟨σ13_, h14_, hf⟩ := ob hf
  refine z_sa C h14_ (kC_17 hkd) dX9_findBest_58 ?_
  refine z_aload_n C 1 dX9_findBest_59 rfl rfl ?_
  refine fg9_65 C hkd h_village dX9_findBest_60 ?_
  refine z_iconst (v := 0) C dX9_findBest_63 ic_0 ?_
  refine z_aload_n C 0 dX9_findBest_64 rfl rfl ?_
  refine fg9_9 C hkd dX9_findBest_65 ?_
  refine z_iconst (v := 0) C dX9_findBest_68 ic_0 ?_
  refine z_bipush (v := 6) C dX9_findBest_69 bp_6 ?_
  obtain ⟨σ15_, h16_, hf⟩ := ob hf
  refine z_acp C h16_ (kV_1 hkd h_village) (kC_15 hkd) w_7_11 ⟨(Nat.le_of_ble_eq_true rfl), (Nat.le_of_ble_eq_true rfl)⟩ (Nat.le_of_ble_eq_true rfl) dX9_findBest_71 ?_
  refine z_iconst (v := 0) C dX9_findBest_74 ic_0 ?_
  refine z_istN C dX9_findBest_75 rfl rfl (Nat.le_of_ble_eq_true rfl) rfl ?_
  refine Z.sub [1, 2, 3, 0] rfl ?_
  obtain ⟨y17_, h18_, hf⟩ := ob hf
  suffices K19_ : Z Θ 4 0 0 (zQ Θ ρ) y17_.2 115 [(0, .ref (zA Θ 14)), (1, .ref (zA Θ village_a)), (2, .int n_a), (3, .int y17_.1)] [] by
    refine loop2_Z (P := fun (i23_ : Int32) (σ24_ : St) => Z Θ 4 0 0 (zQ Θ ρ) σ24_ 76 [(0, .ref (zA Θ 14)), (1, .ref (zA Θ village_a)), (2, .int n_a), (3, .int i23_)] []) ?_ fuelN (0 : Int32) σ15_ h18_
    clear h18_
    intro rec20_ i23_ σ24_ h21_ h22_
    have K27_ : i23_ < (σ24_ 14 9) → Z Θ 4 0 0 (zQ Θ ρ) σ24_ 84 [(0, .ref (zA Θ 14)), (1, .ref (zA Θ village_a)), (2, .int n_a), (3, .int i23_)] [] := by
      intro h30_
      rw [if_pos h30_] at h22_
      refine z_aload_n C 0 dX9_findBest_84 rfl rfl ?_
      refine fg9_21 C hkd dX9_findBest_85 ?_
      refine z_iload_n C 3 dX9_findBest_88 rfl rfl ?_
      refine z_aload_n C 1 dX9_findBest_89 rfl rfl ?_
      refine fg9_74 C hkd h_village dX9_findBest_90 ?_
      refine z_sipush (v := 9999) C dX9_findBest_93 sp_9999 ?_
      refine z_aload_n C 1 dX9_findBest_96 rfl rfl ?_
      refine fg9_77 C hkd h_village dX9_findBest_97 ?_
      refine z_iload_n C 3 dX9_findBest_100 rfl rfl ?_
      refine z_iadd C dX9_findBest_101 ?_
      refine z_min C w_7_10 w_3_129 w_1_28 w_3_130 ⟨(Nat.le_of_ble_eq_true rfl), (Nat.le_of_ble_eq_true rfl)⟩ (Nat.le_of_ble_eq_true rfl) ⟨Nat.zero_le _, Nat.zero_le _⟩ dX9_findBest_102 ?_
      refine z_iconst (v := 4) C dX9_findBest_105 ic_4 ?_
      refine z_irm C (by decide) dX9_findBest_106 ?_
      obtain ⟨x31_, h32_, h22_⟩ := ob h22_
      refine z_ag C h32_ (kV_7 hkd h_village) dX9_findBest_107 ?_
      obtain ⟨σ33_, h34_, h22_⟩ := ob h22_
      refine z_sa C h34_ (kC_18 hkd) dX9_findBest_108 ?_
      obtain ⟨i35_, h36_, h22_⟩ := lt_ h22_
      refine z_inc C 3 dX9_findBest_109 rfl ic_1 h36_ (Nat.le_of_ble_eq_true rfl) rfl ?_
      refine z_goto C 76 dX9_findBest_112 (by decide) ?_
      refine Z.sub [1, 2, 3, 0] rfl ?_
      exact h21_ _ _ h22_
    have K28_ : ¬ (i23_ < (σ24_ 14 9)) → Z Θ 4 0 0 (zQ Θ ρ) σ24_ 115 [(0, .ref (zA Θ 14)), (1, .ref (zA Θ village_a)), (2, .int n_a), (3, .int i23_)] [] := by
      intro h30_
      rw [if_neg h30_] at h22_
      cases h22_
      exact K19_
    refine z_iload_n C 3 dX9_findBest_76 rfl rfl ?_
    refine z_aload_n C 0 dX9_findBest_77 rfl rfl ?_
    refine fg9_40 C hkd dX9_findBest_78 ?_
    refine c_lt_f C 115 dX9_findBest_81 (by decide) (fun h29_ => ?_) (fun h29_ => ?_)
    · exact K27_ h29_
    · exact K28_ h29_
  refine z_aload_n C 0 dX9_findBest_115 rfl rfl ?_
  refine z_iconst (v := 0) C dX9_findBest_116 ic_0 ?_
  obtain ⟨x37_, h38_, hf⟩ := ob hf
  refine cr9_80 (depth_a := 0) C hkd (rec9_search hkd (zc_inj C) 20)  h38_ ⟨(Nat.le_of_ble_eq_true rfl), (Nat.le_of_ble_eq_true rfl)⟩ (Nat.le_of_ble_eq_true rfl) ⟨Nat.zero_le _, Nat.zero_le _⟩ dX9_findBest_117 ?_
  cases hf
  subst hρ
  exact z_vret C dX9_findBest_120
theorem c9_findBest {l : Launch} {kd : List KD} {w : Wp} {σ : St} {village_a : Nat} {n_a : Int32} (hkd : kd = kdC) (hi : zI kd w) (h_village : isV village_a) {r : St} (hf : q9_findBest σ village_a n_a = some r) : zM l kd w yX9_findBest cX9_findBest 4 none rm9_findBest [.ref (w.2.2.1 14), .ref (w.2.2.1 village_a), .int n_a] σ (none, r) := zM_of rfl hi (Nat.le_of_ble_eq_true rfl) (fun Θ hl hw C => by
  obtain ⟨Θ1, Θ2, Θ3, Θ4, Θ5⟩ := Θ
  cases hw
  exact p9_findBest C hkd h_village hf rfl)
/-! LastLoaf.rota -/
theorem w_2_198 : Cond.fieldLink "LastLoaf" (77 : Nat) "LastLoaf" "turns" "LLastLoaf$Turns;" ∈ TB := tb_in (lwt_2 (List.mem_of_getElem? (i := 198) (by decide +kernel))) rfl
theorem fg11_77 {Θ : Tz} {cc : ByteArray} {nL kc ks : Nat} {ret : Option FieldType} {rm : Room} {Q : State → Prop} {σ : St} {pc : Nat} {lv : List (Nat × Value)} {st : List Value} (C : Zc Θ cc nL RX11 ret rm) (hkd : Θ.2.2.2.2.1 = kdC) (hd : decode cc pc = .ok (.getfield 77, 3)) (kk : Z Θ nL kc ks Q σ (pc + 3) lv (.ref (zA Θ 14) :: st)) : Z Θ nL kc ks Q σ pc lv (.ref (zA Θ 0) :: st) := z_get C inT11 0 (kC_0 hkd) rfl 11 (by decide) w_2_198 rfl hd kk
theorem w_7_8 : Cond.code ({ cls := "LastLoaf$Turns", name := "findBest", desc := "(LLastLoaf$Village;I)V" } : MethodName) prog_11_method_2_code (4 : Nat) (Option.none : Option ClassFile.FieldType) ∈ TB := tb_in (lwt_7 (List.mem_of_getElem? (i := 8) (by decide +kernel))) rfl
theorem w_7_5 : Cond.methodLink "LastLoaf" (311 : Nat) ({ cls := "LastLoaf$Turns", name := "findBest", desc := "(LLastLoaf$Village;I)V" } : MethodName) ∈ TB := tb_in (lwt_7 (List.mem_of_getElem? (i := 5) (by decide +kernel))) rfl
theorem w_7_6 : Cond.instanceMethod ({ cls := "LastLoaf$Turns", name := "findBest", desc := "(LLastLoaf$Village;I)V" } : MethodName) ∈ TB := tb_in (lwt_7 (List.mem_of_getElem? (i := 6) (by decide +kernel))) rfl
theorem w_7_7 : Cond.selects "LastLoaf$Turns" ({ cls := "LastLoaf$Turns", name := "findBest", desc := "(LLastLoaf$Village;I)V" } : MethodName) ({ cls := "LastLoaf$Turns", name := "findBest", desc := "(LLastLoaf$Village;I)V" } : MethodName) ∈ TB := tb_in (lwt_7 (List.mem_of_getElem? (i := 7) (by decide +kernel))) rfl
theorem cr11_311 {Θ : Tz} {cc : ByteArray} {nL kc ks : Nat} {ret : Option FieldType} {rm : Room} {Q : State → Prop} {σ : St} {pc : Nat} {lv : List (Nat × Value)} {st : List Value} (C : Zc Θ cc nL RX11 ret rm) (hkd : Θ.2.2.2.2.1 = kdC) {village_a : Nat} {n_a : Int32} (h_village : isV village_a) {r : St} (hx : q9_findBest σ village_a n_a = some r) (hrm : rm9_findBest.frames + 1 ≤ rm.frames ∧ 8 + (4 + 11) + rm9_findBest.locals ≤ rm.locals) (hcat : (st.map fun v => v.category).sum ≤ 8) (hk : kc ≤ rm.cells ∧ ks ≤ rm.slots) (hd : decode cc pc = .ok (.invokevirtual 311, 3)) (kk : Z Θ nL kc ks Q r (pc + 3) lv st) : Z Θ nL kc ks Q σ pc lv (.int n_a :: .ref (zA Θ village_a) :: .ref (zA Θ 14) :: st) := z_callV C 14 [.ref (zA Θ village_a), .int n_a] (none, r) 2 (kC_14 hkd) rfl (c9_findBest (village_a := village_a) (n_a := n_a) hkd (zc_inj C) h_village hx) w_7_8 w_7_5 w_7_6 w_7_7 w_1_11 ⟨rfl, rfl, hrm.1, hrm.2⟩ (by decide +kernel) rfl rfl hcat hk hd kk
theorem w_2_106 : Cond.fieldLink "LastLoaf" (315 : Nat) "LastLoaf$Turns" "fewest" "I" ∈ TB := tb_in (lwt_2 (List.mem_of_getElem? (i := 106) (by decide +kernel))) rfl
theorem fg11_315 {Θ : Tz} {cc : ByteArray} {nL kc ks : Nat} {ret : Option FieldType} {rm : Room} {Q : State → Prop} {σ : St} {pc : Nat} {lv : List (Nat × Value)} {st : List Value} (C : Zc Θ cc nL RX11 ret rm) (hkd : Θ.2.2.2.2.1 = kdC) (hd : decode cc pc = .ok (.getfield 315, 3)) (kk : Z Θ nL kc ks Q σ (pc + 3) lv (.int (σ 14 10) :: st)) : Z Θ nL kc ks Q σ pc lv (.ref (zA Θ 14) :: st) := z_get C inT9 14 (kC_14 hkd) rfl 10 (by decide) w_2_106 rfl hd kk
theorem w_2_100 : Cond.fieldLink "LastLoaf" (318 : Nat) "LastLoaf$Turns" "best" "[I" ∈ TB := tb_in (lwt_2 (List.mem_of_getElem? (i := 100) (by decide +kernel))) rfl
theorem fg11_318 {Θ : Tz} {cc : ByteArray} {nL kc ks : Nat} {ret : Option FieldType} {rm : Room} {Q : State → Prop} {σ : St} {pc : Nat} {lv : List (Nat × Value)} {st : List Value} (C : Zc Θ cc nL RX11 ret rm) (hkd : Θ.2.2.2.2.1 = kdC) (hd : decode cc pc = .ok (.getfield 318, 3)) (kk : Z Θ nL kc ks Q σ (pc + 3) lv (.ref (zA Θ 20) :: st)) : Z Θ nL kc ks Q σ pc lv (.ref (zA Θ 14) :: st) := z_get C inT9 14 (kC_14 hkd) rfl 5 (by decide) w_2_100 rfl hd kk
theorem dX11_rota_0 : decode cX11_rota 0 = .ok (.iload_n 1, 1) := by decide +kernel
theorem dX11_rota_1 : decode cX11_rota 1 = .ok (.iconst 0, 1) := by decide +kernel
theorem dX11_rota_2 : decode cX11_rota 2 = .ok (.iconst 5, 1) := by decide +kernel
theorem dX11_rota_3 : decode cX11_rota 3 = .ok (.invokestatic 231, 3) := by decide +kernel
theorem dX11_rota_6 : decode cX11_rota 6 = .ok (.aload_n 0, 1) := by decide +kernel
theorem dX11_rota_7 : decode cX11_rota 7 = .ok (.getfield 77, 3) := by decide +kernel
theorem dX11_rota_10 : decode cX11_rota 10 = .ok (.aload_n 0, 1) := by decide +kernel
theorem dX11_rota_11 : decode cX11_rota 11 = .ok (.getfield 19, 3) := by decide +kernel
theorem dX11_rota_14 : decode cX11_rota 14 = .ok (.iload_n 1, 1) := by decide +kernel
theorem dX11_rota_15 : decode cX11_rota 15 = .ok (.invokevirtual 311, 3) := by decide +kernel
theorem dX11_rota_18 : decode cX11_rota 18 = .ok (.iload_n 2, 1) := by decide +kernel
theorem dX11_rota_19 : decode cX11_rota 19 = .ok (.iconst (-1), 1) := by decide +kernel
theorem dX11_rota_20 : decode cX11_rota 20 = .ok (.if_icmp .ne 11, 3) := by decide +kernel
theorem dX11_rota_23 : decode cX11_rota 23 = .ok (.aload_n 0, 1) := by decide +kernel
theorem dX11_rota_24 : decode cX11_rota 24 = .ok (.getfield 77, 3) := by decide +kernel
theorem dX11_rota_27 : decode cX11_rota 27 = .ok (.getfield 315, 3) := by decide +kernel
theorem dX11_rota_30 : decode cX11_rota 30 = .ok (.ireturn, 1) := by decide +kernel
theorem dX11_rota_31 : decode cX11_rota 31 = .ok (.iload_n 2, 1) := by decide +kernel
theorem dX11_rota_32 : decode cX11_rota 32 = .ok (.ifCond .lt 20, 3) := by decide +kernel
theorem dX11_rota_35 : decode cX11_rota 35 = .ok (.iload_n 2, 1) := by decide +kernel
theorem dX11_rota_36 : decode cX11_rota 36 = .ok (.iload_n 1, 1) := by decide +kernel
theorem dX11_rota_37 : decode cX11_rota 37 = .ok (.if_icmp .ge 15, 3) := by decide +kernel
theorem dX11_rota_40 : decode cX11_rota 40 = .ok (.aload_n 0, 1) := by decide +kernel
theorem dX11_rota_41 : decode cX11_rota 41 = .ok (.getfield 77, 3) := by decide +kernel
theorem dX11_rota_44 : decode cX11_rota 44 = .ok (.getfield 318, 3) := by decide +kernel
theorem dX11_rota_47 : decode cX11_rota 47 = .ok (.iload_n 2, 1) := by decide +kernel
theorem dX11_rota_48 : decode cX11_rota 48 = .ok (.iaload, 1) := by decide +kernel
theorem dX11_rota_49 : decode cX11_rota 49 = .ok (.goto 4, 3) := by decide +kernel
theorem dX11_rota_52 : decode cX11_rota 52 = .ok (.iconst (-1), 1) := by decide +kernel
theorem dX11_rota_53 : decode cX11_rota 53 = .ok (.ireturn, 1) := by decide +kernel
def q11_rota (σ : St) (n_a : Int32) (k_a : Int32) : Option (Sum Nat Int32 × St) :=
  thn (q11_needNumber n_a 0 5) σ
  (Option.bind (q9_findBest σ 44 n_a) fun x3_ =>
  if k_a = (-1) then (some (.inr (x3_ 14 10), x3_)) else
  Option.bind (if (0 ≤ k_a) ∧ (k_a < n_a) then (Option.bind (ag x3_ 20 5 k_a) fun x16_ =>
  some x16_) else (some (-1 : Int32))) fun x9_ =>
  some (.inr x9_, x3_))
abbrev rm11_rota : Room := { frames := 28, cells := 1, slots := 6, locals := 1446 }
set_option maxHeartbeats 4000000 in
set_option maxRecDepth 100000 in
theorem p11_rota {Θ : Tz} {σ : St} {ω : Om} (C : Zc Θ cX11_rota 3 RX11 (some .int) rm11_rota) (hkd : Θ.2.2.2.2.1 = kdC) (hlt : Θ.1.2.1.stackTraces = false) (het : ∀ x ∈ Θ.2.2.1.2.exceptionTable.toList, False) {n_a : Int32} {k_a : Int32} {r : (Sum Nat Int32 × St)} (hf : q11_rota σ n_a k_a = some r) (hω : ω = om (fun v => some (.int v)) r) : Z Θ 3 0 0 (zQX Θ ω 1 6) σ 0 [(0, .ref (zA Θ 0)), (1, .int n_a), (2, .int k_a)] [] := by
  unfold q11_rota at hf
  refine z_iload_n C 1 dX11_rota_0 rfl rfl ?_
  refine z_iconst (v := 0) C dX11_rota_1 ic_0 ?_
  refine z_iconst (v := 5) C dX11_rota_2 ic_5 ?_
  refine zx_callS C het [.int n_a, .int 0, .int 5] (q11_needNumber n_a 0 5) 1 6 3 (c11_needNumber (n_a := n_a) (least_a := 0) (most_a := 5) hkd (zc_inj C) hlt) w_6_83 w_6_81 w_6_82 w_1_1 ⟨rfl, rfl, (Nat.le_of_ble_eq_true rfl), (Nat.le_of_ble_eq_true rfl)⟩ (by decide +kernel) rfl rfl (Nat.le_of_ble_eq_true rfl) ⟨(Nat.le_of_ble_eq_true rfl), (Nat.le_of_ble_eq_true rfl)⟩ dX11_rota_3 ⟨(Nat.le_of_ble_eq_true rfl), (Nat.le_of_ble_eq_true rfl)⟩ (fun e9 h2_ => by rw [h2_] at hf; cases hf; exact hω) (fun h1_ => ?_)
  rw [h1_] at hf
  replace hf := thn_x hf
  refine z_aload_n C 0 dX11_rota_6 rfl rfl ?_
  refine fg11_77 C hkd dX11_rota_7 ?_
  refine z_aload_n C 0 dX11_rota_10 rfl rfl ?_
  refine fg11_19 C hkd dX11_rota_11 ?_
  refine z_iload_n C 1 dX11_rota_14 rfl rfl ?_
  obtain ⟨x3_, h4_, hf⟩ := ob hf
  refine cr11_311 (village_a := 44) (n_a := n_a) C hkd isV_44 h4_ ⟨(Nat.le_of_ble_eq_true rfl), (Nat.le_of_ble_eq_true rfl)⟩ (Nat.le_of_ble_eq_true rfl) ⟨(Nat.le_of_ble_eq_true rfl), (Nat.le_of_ble_eq_true rfl)⟩ dX11_rota_15 ?_
  have K5_ : k_a = (-1) → Z Θ 3 1 6 (zQX Θ ω 1 6) x3_ 23 [(0, .ref (zA Θ 0)), (1, .int n_a), (2, .int k_a)] [] := by
    intro h8_
    rw [if_pos h8_] at hf
    refine z_aload_n C 0 dX11_rota_23 rfl rfl ?_
    refine fg11_77 C hkd dX11_rota_24 ?_
    refine fg11_315 C hkd dX11_rota_27 ?_
    cases hf
    subst hω
    exact zx_iret C ⟨(Nat.le_of_ble_eq_true rfl), (Nat.le_of_ble_eq_true rfl)⟩ dX11_rota_30
  suffices K6_ : ¬ (k_a = (-1)) → Z Θ 3 1 6 (zQX Θ ω 1 6) x3_ 31 [(0, .ref (zA Θ 0)), (1, .int n_a), (2, .int k_a)] [] by
    refine z_iload_n C 2 dX11_rota_18 rfl rfl ?_
    refine z_iconst (v := (-1)) C dX11_rota_19 ic_m1 ?_
    refine c_eq_f C 31 dX11_rota_20 (by decide) (fun h7_ => ?_) (fun h7_ => ?_)
    · exact K5_ h7_
    · exact K6_ h7_
  intro h8_
  rw [if_neg h8_] at hf
  obtain ⟨x9_, h10_, hf⟩ := ob hf
  suffices K11_ : Z Θ 3 1 6 (zQX Θ ω 1 6) x3_ 53 [(0, .ref (zA Θ 0)), (1, .int n_a), (2, .int k_a)] [.int x9_] by
    have K12_ : (0 ≤ k_a) ∧ (k_a < n_a) → Z Θ 3 1 6 (zQX Θ ω 1 6) x3_ 40 [(0, .ref (zA Θ 0)), (1, .int n_a), (2, .int k_a)] [] := by
      intro h18_
      rw [if_pos h18_] at h10_
      refine z_aload_n C 0 dX11_rota_40 rfl rfl ?_
      refine fg11_77 C hkd dX11_rota_41 ?_
      refine fg11_318 C hkd dX11_rota_44 ?_
      refine z_iload_n C 2 dX11_rota_47 rfl rfl ?_
      obtain ⟨x16_, h17_, h10_⟩ := ob h10_
      refine z_ag C h17_ (kC_20 hkd) dX11_rota_48 ?_
      refine z_goto C 53 dX11_rota_49 (by decide) ?_
      cases h10_
      exact K11_
    have K13_ : ¬ ((0 ≤ k_a) ∧ (k_a < n_a)) → Z Θ 3 1 6 (zQX Θ ω 1 6) x3_ 52 [(0, .ref (zA Θ 0)), (1, .int n_a), (2, .int k_a)] [] := by
      intro h18_
      rw [if_neg h18_] at h10_
      refine z_iconst (v := (-1)) C dX11_rota_52 ic_m1 ?_
      cases h10_
      exact K11_
    refine z_iload_n C 2 dX11_rota_31 rfl rfl ?_
    refine c0_ge_f C 52 dX11_rota_32 (by decide) (fun h14_ => ?_) (fun h14_ => ?_)
    · refine z_iload_n C 2 dX11_rota_35 rfl rfl ?_
      refine z_iload_n C 1 dX11_rota_36 rfl rfl ?_
      refine c_lt_f C 52 dX11_rota_37 (by decide) (fun h15_ => ?_) (fun h15_ => ?_)
      · exact K12_ ⟨h14_, h15_⟩
      · exact K13_ (fun n => h15_ n.2)
    · exact K13_ (fun n => h14_ n.1)
  cases hf
  subst hω
  exact zx_iret C ⟨(Nat.le_of_ble_eq_true rfl), (Nat.le_of_ble_eq_true rfl)⟩ dX11_rota_53
theorem c11_rota {l : Launch} {kd : List KD} {w : Wp} {σ : St} {n_a : Int32} {k_a : Int32} (hkd : kd = kdC) (hi : zI kd w) (hlt : l.stackTraces = false) {r : (Sum Nat Int32 × St)} (hf : q11_rota σ n_a k_a = some r) : zX l kd w yX11_rota cX11_rota 3 (some .int) rm11_rota [.ref (w.2.2.1 0), .int n_a, .int k_a] σ (om (fun v => some (.int v)) r) 1 6 := zX_of rfl hi (Nat.le_of_ble_eq_true rfl) (fun Θ hl hw C het => by
  obtain ⟨Θ1, Θ2, Θ3, Θ4, Θ5⟩ := Θ
  cases hw
  cases hl
  exact p11_rota C hkd hlt het  hf rfl)
/-! LastLoaf.lasts -/
theorem dX11_lasts_0 : decode cX11_lasts 0 = .ok (.aload_n 0, 1) := by decide +kernel
theorem dX11_lasts_1 : decode cX11_lasts 1 = .ok (.getfield 23, 3) := by decide +kernel
theorem dX11_lasts_4 : decode cX11_lasts 4 = .ok (.aload_n 0, 1) := by decide +kernel
theorem dX11_lasts_5 : decode cX11_lasts 5 = .ok (.getfield 19, 3) := by decide +kernel
theorem dX11_lasts_8 : decode cX11_lasts 8 = .ok (.invokevirtual 110, 3) := by decide +kernel
theorem dX11_lasts_11 : decode cX11_lasts 11 = .ok (.iconst 0, 1) := by decide +kernel
theorem dX11_lasts_12 : decode cX11_lasts 12 = .ok (.istore_n 1, 1) := by decide +kernel
theorem dX11_lasts_13 : decode cX11_lasts 13 = .ok (.iload_n 1, 1) := by decide +kernel
theorem dX11_lasts_14 : decode cX11_lasts 14 = .ok (.bipush 60, 2) := by decide +kernel
theorem dX11_lasts_16 : decode cX11_lasts 16 = .ok (.if_icmp .gt 34, 3) := by decide +kernel
theorem dX11_lasts_19 : decode cX11_lasts 19 = .ok (.aload_n 0, 1) := by decide +kernel
theorem dX11_lasts_20 : decode cX11_lasts 20 = .ok (.getfield 23, 3) := by decide +kernel
theorem dX11_lasts_23 : decode cX11_lasts 23 = .ok (.getfield 261, 3) := by decide +kernel
theorem dX11_lasts_26 : decode cX11_lasts 26 = .ok (.ifCond .ne 5, 3) := by decide +kernel
theorem dX11_lasts_29 : decode cX11_lasts 29 = .ok (.iload_n 1, 1) := by decide +kernel
theorem dX11_lasts_30 : decode cX11_lasts 30 = .ok (.ireturn, 1) := by decide +kernel
theorem dX11_lasts_31 : decode cX11_lasts 31 = .ok (.aload_n 0, 1) := by decide +kernel
theorem dX11_lasts_32 : decode cX11_lasts 32 = .ok (.getfield 70, 3) := by decide +kernel
theorem dX11_lasts_35 : decode cX11_lasts 35 = .ok (.aload_n 0, 1) := by decide +kernel
theorem dX11_lasts_36 : decode cX11_lasts 36 = .ok (.getfield 23, 3) := by decide +kernel
theorem dX11_lasts_39 : decode cX11_lasts 39 = .ok (.iconst 1, 1) := by decide +kernel
theorem dX11_lasts_40 : decode cX11_lasts 40 = .ok (.iconst 0, 1) := by decide +kernel
theorem dX11_lasts_41 : decode cX11_lasts 41 = .ok (.invokevirtual 243, 3) := by decide +kernel
theorem dX11_lasts_44 : decode cX11_lasts 44 = .ok (.iinc 1 1, 3) := by decide +kernel
theorem dX11_lasts_47 : decode cX11_lasts 47 = .ok (.goto (-34), 3) := by decide +kernel
theorem dX11_lasts_50 : decode cX11_lasts 50 = .ok (.iconst (-1), 1) := by decide +kernel
theorem dX11_lasts_51 : decode cX11_lasts 51 = .ok (.ireturn, 1) := by decide +kernel
def q11_lasts (σ : St) : Option (Int32 × St) :=
  Option.bind (q10_become σ 54 44) fun x1_ =>
  Option.bind (loop2 (fun rec6_ (n9_ : Int32) (σ10_ : St) =>
  if n9_ ≤ 60 then
  if (σ10_ 54 11) = 0 then (some (.inl (n9_, σ10_))) else
  Option.bind (q0_bakeWeeks σ10_ 54 1 false) fun x21_ =>
  lt (n9_ + 1) fun n23_ =>
  rec6_ n23_ x21_
  else (some (.inr (n9_, σ10_)))) fuelN (0 : Int32) x1_) fun y3_ =>
  Sum.elim (fun x9 => some x9) (fun y3_r =>
  some ((-1), y3_r.2)) y3_
abbrev rm11_lasts : Room := { frames := 6, cells := 0, slots := 0, locals := 144 }
set_option maxHeartbeats 4000000 in
set_option maxRecDepth 100000 in
theorem p11_lasts {Θ : Tz} {σ : St} {ρ : Option Value × St} (C : Zc Θ cX11_lasts 2 RX11 (some .int) rm11_lasts) (hkd : Θ.2.2.2.2.1 = kdC) {r : (Int32 × St)} (hf : q11_lasts σ = some r) (hρ : ρ = (some (.int r.1), r.2)) : Z Θ 2 0 0 (zQ Θ ρ) σ 0 [(0, .ref (zA Θ 0))] [] := by
  unfold q11_lasts at hf
  refine z_aload_n C 0 dX11_lasts_0 rfl rfl ?_
  refine fg11_23 C hkd dX11_lasts_1 ?_
  refine z_aload_n C 0 dX11_lasts_4 rfl rfl ?_
  refine fg11_19 C hkd dX11_lasts_5 ?_
  obtain ⟨x1_, h2_, hf⟩ := ob hf
  refine cr11_110 (th := 54) (other_a := 44) C hkd isV_54 isV_44 h2_ ⟨(Nat.le_of_ble_eq_true rfl), (Nat.le_of_ble_eq_true rfl)⟩ (Nat.le_of_ble_eq_true rfl) ⟨Nat.zero_le _, Nat.zero_le _⟩ dX11_lasts_8 ?_
  refine z_iconst (v := 0) C dX11_lasts_11 ic_0 ?_
  refine z_istN C dX11_lasts_12 rfl rfl (Nat.le_of_ble_eq_true rfl) rfl ?_
  refine Z.sub [1, 0] rfl ?_
  obtain ⟨y3_, h4_, hf⟩ := ob hf
  suffices K5_ : ∀ y3_r, y3_ = .inr y3_r → Z Θ 2 0 0 (zQ Θ ρ) y3_r.2 50 [(0, .ref (zA Θ 0)), (1, .int y3_r.1)] [] by
    refine loop2_Z (P := fun (n9_ : Int32) (σ10_ : St) => Z Θ 2 0 0 (zQ Θ ρ) σ10_ 13 [(0, .ref (zA Θ 0)), (1, .int n9_)] []) ?_ fuelN (0 : Int32) x1_ h4_
    clear h4_
    intro rec6_ n9_ σ10_ h7_ h8_
    have K13_ : n9_ ≤ 60 → Z Θ 2 0 0 (zQ Θ ρ) σ10_ 19 [(0, .ref (zA Θ 0)), (1, .int n9_)] [] := by
      intro h16_
      rw [if_pos h16_] at h8_
      have K17_ : (σ10_ 54 11) = 0 → Z Θ 2 0 0 (zQ Θ ρ) σ10_ 29 [(0, .ref (zA Θ 0)), (1, .int n9_)] [] := by
        intro h20_
        rw [if_pos h20_] at h8_
        refine z_iload_n C 1 dX11_lasts_29 rfl rfl ?_
        rw [← Option.some.inj h8_] at hf
        replace hf : some (n9_, σ10_) = some r := hf
        cases hf
        subst hρ
        exact z_iret C dX11_lasts_30
      suffices K18_ : ¬ ((σ10_ 54 11) = 0) → Z Θ 2 0 0 (zQ Θ ρ) σ10_ 31 [(0, .ref (zA Θ 0)), (1, .int n9_)] [] by
        refine z_aload_n C 0 dX11_lasts_19 rfl rfl ?_
        refine fg11_23 C hkd dX11_lasts_20 ?_
        refine fg11_261 C hkd isV_54 dX11_lasts_23 ?_
        refine c0_eq_f C 31 dX11_lasts_26 (by decide) (fun h19_ => ?_) (fun h19_ => ?_)
        · exact K17_ h19_
        · exact K18_ h19_
      intro h20_
      rw [if_neg h20_] at h8_
      refine z_aload_n C 0 dX11_lasts_31 rfl rfl ?_
      refine fg11_70 C hkd dX11_lasts_32 ?_
      refine z_aload_n C 0 dX11_lasts_35 rfl rfl ?_
      refine fg11_23 C hkd dX11_lasts_36 ?_
      refine z_iconst (v := 1) C dX11_lasts_39 ic_1 ?_
      refine z_iconst (v := 0) C dX11_lasts_40 ic_0 ?_
      obtain ⟨x21_, h22_, h8_⟩ := ob h8_
      refine cr11_243 (village_a := 54) (n_a := 1) (speeches_a := false) C hkd isV_54 h22_ ⟨(Nat.le_of_ble_eq_true rfl), (Nat.le_of_ble_eq_true rfl)⟩ (Nat.le_of_ble_eq_true rfl) ⟨Nat.zero_le _, Nat.zero_le _⟩ dX11_lasts_41 ?_
      obtain ⟨n23_, h24_, h8_⟩ := lt_ h8_
      refine z_inc C 1 dX11_lasts_44 rfl ic_1 h24_ (Nat.le_of_ble_eq_true rfl) rfl ?_
      refine z_goto C 13 dX11_lasts_47 (by decide) ?_
      refine Z.sub [1, 0] rfl ?_
      exact h7_ _ _ h8_
    have K14_ : ¬ (n9_ ≤ 60) → Z Θ 2 0 0 (zQ Θ ρ) σ10_ 50 [(0, .ref (zA Θ 0)), (1, .int n9_)] [] := by
      intro h16_
      rw [if_neg h16_] at h8_
      exact K5_ _ (Option.some.inj h8_).symm
    refine z_iload_n C 1 dX11_lasts_13 rfl rfl ?_
    refine z_bipush (v := 60) C dX11_lasts_14 bp_60 ?_
    refine c_le_f C 50 dX11_lasts_16 (by decide) (fun h15_ => ?_) (fun h15_ => ?_)
    · exact K13_ h15_
    · exact K14_ h15_
  intro y3_r e9
  subst e9
  simp only [Sum.elim_inr] at hf
  refine z_iconst (v := (-1)) C dX11_lasts_50 ic_m1 ?_
  cases hf
  subst hρ
  exact z_iret C dX11_lasts_51
theorem c11_lasts {l : Launch} {kd : List KD} {w : Wp} {σ : St} (hkd : kd = kdC) (hi : zI kd w) {r : (Int32 × St)} (hf : q11_lasts σ = some r) : zM l kd w yX11_lasts cX11_lasts 2 (some .int) rm11_lasts [.ref (w.2.2.1 0)] σ (some (.int r.1), r.2) := zM_of rfl hi (Nat.le_of_ble_eq_true rfl) (fun Θ hl hw C => by
  obtain ⟨Θ1, Θ2, Θ3, Θ4, Θ5⟩ := Θ
  cases hw
  exact p11_lasts C hkd  hf rfl)
/-! LastLoaf.mill -/
theorem w_7_30 : Cond.methodLink "LastLoaf" (321 : Nat) ({ cls := "java/util/Arrays", name := "fill", desc := "([II)V" } : MethodName) ∈ TB := tb_in (lwt_7 (List.mem_of_getElem? (i := 30) (by decide +kernel))) rfl
theorem dX11_mill_0 : decode cX11_mill 0 = .ok (.iload_n 1, 1) := by decide +kernel
theorem dX11_mill_1 : decode cX11_mill 1 = .ok (.iconst 1, 1) := by decide +kernel
theorem dX11_mill_2 : decode cX11_mill 2 = .ok (.bipush 60, 2) := by decide +kernel
theorem dX11_mill_4 : decode cX11_mill 4 = .ok (.invokestatic 231, 3) := by decide +kernel
theorem dX11_mill_7 : decode cX11_mill 7 = .ok (.iconst 0, 1) := by decide +kernel
theorem dX11_mill_8 : decode cX11_mill 8 = .ok (.istore_n 2, 1) := by decide +kernel
theorem dX11_mill_9 : decode cX11_mill 9 = .ok (.iload_n 2, 1) := by decide +kernel
theorem dX11_mill_10 : decode cX11_mill 10 = .ok (.bipush 6, 2) := by decide +kernel
theorem dX11_mill_12 : decode cX11_mill 12 = .ok (.if_icmp .gt 63, 3) := by decide +kernel
theorem dX11_mill_15 : decode cX11_mill 15 = .ok (.aload_n 0, 1) := by decide +kernel
theorem dX11_mill_16 : decode cX11_mill 16 = .ok (.getfield 23, 3) := by decide +kernel
theorem dX11_mill_19 : decode cX11_mill 19 = .ok (.aload_n 0, 1) := by decide +kernel
theorem dX11_mill_20 : decode cX11_mill 20 = .ok (.getfield 19, 3) := by decide +kernel
theorem dX11_mill_23 : decode cX11_mill 23 = .ok (.invokevirtual 110, 3) := by decide +kernel
theorem dX11_mill_26 : decode cX11_mill 26 = .ok (.aload_n 0, 1) := by decide +kernel
theorem dX11_mill_27 : decode cX11_mill 27 = .ok (.getfield 23, 3) := by decide +kernel
theorem dX11_mill_30 : decode cX11_mill 30 = .ok (.getfield 228, 3) := by decide +kernel
theorem dX11_mill_33 : decode cX11_mill 33 = .ok (.iload_n 2, 1) := by decide +kernel
theorem dX11_mill_34 : decode cX11_mill 34 = .ok (.invokestatic 321, 3) := by decide +kernel
theorem dX11_mill_37 : decode cX11_mill 37 = .ok (.aload_n 0, 1) := by decide +kernel
theorem dX11_mill_38 : decode cX11_mill 38 = .ok (.getfield 70, 3) := by decide +kernel
theorem dX11_mill_41 : decode cX11_mill 41 = .ok (.aload_n 0, 1) := by decide +kernel
theorem dX11_mill_42 : decode cX11_mill 42 = .ok (.getfield 23, 3) := by decide +kernel
theorem dX11_mill_45 : decode cX11_mill 45 = .ok (.iload_n 1, 1) := by decide +kernel
theorem dX11_mill_46 : decode cX11_mill 46 = .ok (.iconst 0, 1) := by decide +kernel
theorem dX11_mill_47 : decode cX11_mill 47 = .ok (.invokevirtual 243, 3) := by decide +kernel
theorem dX11_mill_50 : decode cX11_mill 50 = .ok (.aload_n 0, 1) := by decide +kernel
theorem dX11_mill_51 : decode cX11_mill 51 = .ok (.getfield 23, 3) := by decide +kernel
theorem dX11_mill_54 : decode cX11_mill 54 = .ok (.getfield 171, 3) := by decide +kernel
theorem dX11_mill_57 : decode cX11_mill 57 = .ok (.aload_n 0, 1) := by decide +kernel
theorem dX11_mill_58 : decode cX11_mill 58 = .ok (.getfield 19, 3) := by decide +kernel
theorem dX11_mill_61 : decode cX11_mill 61 = .ok (.getfield 171, 3) := by decide +kernel
theorem dX11_mill_64 : decode cX11_mill 64 = .ok (.if_icmp .ne 5, 3) := by decide +kernel
theorem dX11_mill_67 : decode cX11_mill 67 = .ok (.iload_n 2, 1) := by decide +kernel
theorem dX11_mill_68 : decode cX11_mill 68 = .ok (.ireturn, 1) := by decide +kernel
theorem dX11_mill_69 : decode cX11_mill 69 = .ok (.iinc 2 1, 3) := by decide +kernel
theorem dX11_mill_72 : decode cX11_mill 72 = .ok (.goto (-63), 3) := by decide +kernel
theorem dX11_mill_75 : decode cX11_mill 75 = .ok (.iconst (-1), 1) := by decide +kernel
theorem dX11_mill_76 : decode cX11_mill 76 = .ok (.ireturn, 1) := by decide +kernel
def q11_mill (σ : St) (n_a : Int32) : Option (Sum Nat Int32 × St) :=
  thn (q11_needNumber n_a 1 60) σ
  (Option.bind (loop2 (fun rec6_ (grist9_ : Int32) (σ10_ : St) =>
  if grist9_ ≤ 6 then
  Option.bind (q10_become σ10_ 54 44) fun x17_ =>
  lt (fil x17_ (54 + 7) 4 grist9_) fun σ19_ =>
  Option.bind (q0_bakeWeeks σ19_ 54 n_a false) fun x21_ =>
  if (x21_ 54 10) = (x21_ 44 10) then (some (.inl (.inr grist9_, x21_))) else
  lt (grist9_ + 1) fun grist27_ =>
  rec6_ grist27_ x21_
  else (some (.inr (grist9_, σ10_)))) fuelN (0 : Int32) σ) fun y3_ =>
  Sum.elim (fun x9 => some x9) (fun y3_r =>
  some (.inr (-1), y3_r.2)) y3_)
abbrev rm11_mill : Room := { frames := 7, cells := 1, slots := 6, locals := 144 }
set_option maxHeartbeats 4000000 in
set_option maxRecDepth 100000 in
theorem p11_mill {Θ : Tz} {σ : St} {ω : Om} (C : Zc Θ cX11_mill 3 RX11 (some .int) rm11_mill) (hkd : Θ.2.2.2.2.1 = kdC) (hlt : Θ.1.2.1.stackTraces = false) (het : ∀ x ∈ Θ.2.2.1.2.exceptionTable.toList, False) {n_a : Int32} {r : (Sum Nat Int32 × St)} (hf : q11_mill σ n_a = some r) (hω : ω = om (fun v => some (.int v)) r) : Z Θ 3 0 0 (zQX Θ ω 1 6) σ 0 [(0, .ref (zA Θ 0)), (1, .int n_a)] [] := by
  unfold q11_mill at hf
  refine z_iload_n C 1 dX11_mill_0 rfl rfl ?_
  refine z_iconst (v := 1) C dX11_mill_1 ic_1 ?_
  refine z_bipush (v := 60) C dX11_mill_2 bp_60 ?_
  refine zx_callS C het [.int n_a, .int 1, .int 60] (q11_needNumber n_a 1 60) 1 6 3 (c11_needNumber (n_a := n_a) (least_a := 1) (most_a := 60) hkd (zc_inj C) hlt) w_6_83 w_6_81 w_6_82 w_1_1 ⟨rfl, rfl, (Nat.le_of_ble_eq_true rfl), (Nat.le_of_ble_eq_true rfl)⟩ (by decide +kernel) rfl rfl (Nat.le_of_ble_eq_true rfl) ⟨(Nat.le_of_ble_eq_true rfl), (Nat.le_of_ble_eq_true rfl)⟩ dX11_mill_4 ⟨(Nat.le_of_ble_eq_true rfl), (Nat.le_of_ble_eq_true rfl)⟩ (fun e9 h2_ => by rw [h2_] at hf; cases hf; exact hω) (fun h1_ => ?_)
  rw [h1_] at hf
  replace hf := thn_x hf
  refine z_iconst (v := 0) C dX11_mill_7 ic_0 ?_
  refine z_istN C dX11_mill_8 rfl rfl (Nat.le_of_ble_eq_true rfl) rfl ?_
  refine Z.sub [1, 2, 0] rfl ?_
  obtain ⟨y3_, h4_, hf⟩ := ob hf
  suffices K5_ : ∀ y3_r, y3_ = .inr y3_r → Z Θ 3 1 6 (zQX Θ ω 1 6) y3_r.2 75 [(0, .ref (zA Θ 0)), (1, .int n_a), (2, .int y3_r.1)] [] by
    refine loop2_Z (P := fun (grist9_ : Int32) (σ10_ : St) => Z Θ 3 1 6 (zQX Θ ω 1 6) σ10_ 9 [(0, .ref (zA Θ 0)), (1, .int n_a), (2, .int grist9_)] []) ?_ fuelN (0 : Int32) σ h4_
    clear h4_
    intro rec6_ grist9_ σ10_ h7_ h8_
    have K13_ : grist9_ ≤ 6 → Z Θ 3 1 6 (zQX Θ ω 1 6) σ10_ 15 [(0, .ref (zA Θ 0)), (1, .int n_a), (2, .int grist9_)] [] := by
      intro h16_
      rw [if_pos h16_] at h8_
      refine z_aload_n C 0 dX11_mill_15 rfl rfl ?_
      refine fg11_23 C hkd dX11_mill_16 ?_
      refine z_aload_n C 0 dX11_mill_19 rfl rfl ?_
      refine fg11_19 C hkd dX11_mill_20 ?_
      obtain ⟨x17_, h18_, h8_⟩ := ob h8_
      refine cr11_110 (th := 54) (other_a := 44) C hkd isV_54 isV_44 h18_ ⟨(Nat.le_of_ble_eq_true rfl), (Nat.le_of_ble_eq_true rfl)⟩ (Nat.le_of_ble_eq_true rfl) ⟨(Nat.le_of_ble_eq_true rfl), (Nat.le_of_ble_eq_true rfl)⟩ dX11_mill_23 ?_
      refine z_aload_n C 0 dX11_mill_26 rfl rfl ?_
      refine fg11_23 C hkd dX11_mill_27 ?_
      refine fg11_228 C hkd isV_54 dX11_mill_30 ?_
      refine z_iload_n C 2 dX11_mill_33 rfl rfl ?_
      obtain ⟨σ19_, h20_, h8_⟩ := lt_ h8_
      refine z_callS C [.ref (zA Θ (54 + 7)), .int grist9_] (none, fil x17_ (54 + 7) 4 grist9_) 2 (cJ_fill (zc_inj C) (kV_7 hkd isV_54) (Nat.le_of_ble_eq_true rfl)) w_1_90 w_7_30 w_1_89 w_1_5 ⟨rfl, rfl, (Nat.le_of_ble_eq_true rfl), (Nat.le_of_ble_eq_true rfl)⟩ (by decide +kernel) rfl rfl (Nat.le_of_ble_eq_true rfl) ⟨(Nat.le_of_ble_eq_true rfl), (Nat.le_of_ble_eq_true rfl)⟩ dX11_mill_34 ?_
      rw [← h20_]
      refine z_aload_n C 0 dX11_mill_37 rfl rfl ?_
      refine fg11_70 C hkd dX11_mill_38 ?_
      refine z_aload_n C 0 dX11_mill_41 rfl rfl ?_
      refine fg11_23 C hkd dX11_mill_42 ?_
      refine z_iload_n C 1 dX11_mill_45 rfl rfl ?_
      refine z_iconst (v := 0) C dX11_mill_46 ic_0 ?_
      obtain ⟨x21_, h22_, h8_⟩ := ob h8_
      refine cr11_243 (village_a := 54) (n_a := n_a) (speeches_a := false) C hkd isV_54 h22_ ⟨(Nat.le_of_ble_eq_true rfl), (Nat.le_of_ble_eq_true rfl)⟩ (Nat.le_of_ble_eq_true rfl) ⟨(Nat.le_of_ble_eq_true rfl), (Nat.le_of_ble_eq_true rfl)⟩ dX11_mill_47 ?_
      have K23_ : (x21_ 54 10) = (x21_ 44 10) → Z Θ 3 1 6 (zQX Θ ω 1 6) x21_ 67 [(0, .ref (zA Θ 0)), (1, .int n_a), (2, .int grist9_)] [] := by
        intro h26_
        rw [if_pos h26_] at h8_
        refine z_iload_n C 2 dX11_mill_67 rfl rfl ?_
        rw [← Option.some.inj h8_] at hf
        replace hf : some (.inr grist9_, x21_) = some r := hf
        cases hf
        subst hω
        exact zx_iret C ⟨(Nat.le_of_ble_eq_true rfl), (Nat.le_of_ble_eq_true rfl)⟩ dX11_mill_68
      suffices K24_ : ¬ ((x21_ 54 10) = (x21_ 44 10)) → Z Θ 3 1 6 (zQX Θ ω 1 6) x21_ 69 [(0, .ref (zA Θ 0)), (1, .int n_a), (2, .int grist9_)] [] by
        refine z_aload_n C 0 dX11_mill_50 rfl rfl ?_
        refine fg11_23 C hkd dX11_mill_51 ?_
        refine fg11_171 C hkd isV_54 dX11_mill_54 ?_
        refine z_aload_n C 0 dX11_mill_57 rfl rfl ?_
        refine fg11_19 C hkd dX11_mill_58 ?_
        refine fg11_171 C hkd isV_44 dX11_mill_61 ?_
        refine c_eq_f C 69 dX11_mill_64 (by decide) (fun h25_ => ?_) (fun h25_ => ?_)
        · exact K23_ h25_
        · exact K24_ h25_
      intro h26_
      rw [if_neg h26_] at h8_
      obtain ⟨grist27_, h28_, h8_⟩ := lt_ h8_
      refine z_inc C 2 dX11_mill_69 rfl ic_1 h28_ (Nat.le_of_ble_eq_true rfl) rfl ?_
      refine z_goto C 9 dX11_mill_72 (by decide) ?_
      refine Z.sub [1, 2, 0] rfl ?_
      exact h7_ _ _ h8_
    have K14_ : ¬ (grist9_ ≤ 6) → Z Θ 3 1 6 (zQX Θ ω 1 6) σ10_ 75 [(0, .ref (zA Θ 0)), (1, .int n_a), (2, .int grist9_)] [] := by
      intro h16_
      rw [if_neg h16_] at h8_
      exact K5_ _ (Option.some.inj h8_).symm
    refine z_iload_n C 2 dX11_mill_9 rfl rfl ?_
    refine z_bipush (v := 6) C dX11_mill_10 bp_6 ?_
    refine c_le_f C 75 dX11_mill_12 (by decide) (fun h15_ => ?_) (fun h15_ => ?_)
    · exact K13_ h15_
    · exact K14_ h15_
  intro y3_r e9
  subst e9
  simp only [Sum.elim_inr] at hf
  refine z_iconst (v := (-1)) C dX11_mill_75 ic_m1 ?_
  cases hf
  subst hω
  exact zx_iret C ⟨(Nat.le_of_ble_eq_true rfl), (Nat.le_of_ble_eq_true rfl)⟩ dX11_mill_76
theorem c11_mill {l : Launch} {kd : List KD} {w : Wp} {σ : St} {n_a : Int32} (hkd : kd = kdC) (hi : zI kd w) (hlt : l.stackTraces = false) {r : (Sum Nat Int32 × St)} (hf : q11_mill σ n_a = some r) : zX l kd w yX11_mill cX11_mill 3 (some .int) rm11_mill [.ref (w.2.2.1 0), .int n_a] σ (om (fun v => some (.int v)) r) 1 6 := zX_of rfl hi (Nat.le_of_ble_eq_true rfl) (fun Θ hl hw C het => by
  obtain ⟨Θ1, Θ2, Θ3, Θ4, Θ5⟩ := Θ
  cases hw
  cases hl
  exact p11_mill C hkd hlt het  hf rfl)
/-! LastLoaf.starves -/
theorem w_3_234 : Cond.methodLink "LastLoaf" (327 : Nat) ({ cls := "LastLoaf", name := "leastOf", desc := "(I)I" } : MethodName) ∈ TB := tb_in (lwt_3 (List.mem_of_getElem? (i := 234) (by decide +kernel))) rfl
theorem cr11_327 {Θ : Tz} {cc : ByteArray} {nL kc ks : Nat} {ret : Option FieldType} {rm : Room} {Q : State → Prop} {σ : St} {pc : Nat} {lv : List (Nat × Value)} {st : List Value} (C : Zc Θ cc nL RX11 ret rm) (hkd : Θ.2.2.2.2.1 = kdC) {set_a : Int32} {r : Int32} (hx : q11_leastOf set_a = some r) (hrm : rm11_leastOf.frames + 1 ≤ rm.frames ∧ 8 + (2 + 11) + rm11_leastOf.locals ≤ rm.locals) (hcat : (st.map fun v => v.category).sum ≤ 8) (hk : kc ≤ rm.cells ∧ ks ≤ rm.slots) (hd : decode cc pc = .ok (.invokestatic 327, 3)) (kk : Z Θ nL kc ks Q σ (pc + 3) lv (.int r :: st)) : Z Θ nL kc ks Q σ pc lv (.int set_a :: st) := z_callS C [.int set_a] (some (.int r), σ) 1 (c11_leastOf (set_a := set_a) hkd (zc_inj C) hx) w_3_164 w_3_234 w_3_163 w_1_1 ⟨rfl, rfl, hrm.1, hrm.2⟩ (by decide +kernel) rfl rfl hcat hk hd kk
theorem dX11_starves_0 : decode cX11_starves 0 = .ok (.aload_n 0, 1) := by decide +kernel
theorem dX11_starves_1 : decode cX11_starves 1 = .ok (.getfield 23, 3) := by decide +kernel
theorem dX11_starves_4 : decode cX11_starves 4 = .ok (.aload_n 0, 1) := by decide +kernel
theorem dX11_starves_5 : decode cX11_starves 5 = .ok (.getfield 19, 3) := by decide +kernel
theorem dX11_starves_8 : decode cX11_starves 8 = .ok (.invokevirtual 110, 3) := by decide +kernel
theorem dX11_starves_11 : decode cX11_starves 11 = .ok (.iconst 1, 1) := by decide +kernel
theorem dX11_starves_12 : decode cX11_starves 12 = .ok (.istore_n 2, 1) := by decide +kernel
theorem dX11_starves_13 : decode cX11_starves 13 = .ok (.iload_n 2, 1) := by decide +kernel
theorem dX11_starves_14 : decode cX11_starves 14 = .ok (.bipush 60, 2) := by decide +kernel
theorem dX11_starves_16 : decode cX11_starves 16 = .ok (.if_icmp .gt 68, 3) := by decide +kernel
theorem dX11_starves_19 : decode cX11_starves 19 = .ok (.aload_n 0, 1) := by decide +kernel
theorem dX11_starves_20 : decode cX11_starves 20 = .ok (.getfield 70, 3) := by decide +kernel
theorem dX11_starves_23 : decode cX11_starves 23 = .ok (.aload_n 0, 1) := by decide +kernel
theorem dX11_starves_24 : decode cX11_starves 24 = .ok (.getfield 23, 3) := by decide +kernel
theorem dX11_starves_27 : decode cX11_starves 27 = .ok (.iconst 1, 1) := by decide +kernel
theorem dX11_starves_28 : decode cX11_starves 28 = .ok (.iconst 0, 1) := by decide +kernel
theorem dX11_starves_29 : decode cX11_starves 29 = .ok (.invokevirtual 243, 3) := by decide +kernel
theorem dX11_starves_32 : decode cX11_starves 32 = .ok (.aload_n 0, 1) := by decide +kernel
theorem dX11_starves_33 : decode cX11_starves 33 = .ok (.getfield 23, 3) := by decide +kernel
theorem dX11_starves_36 : decode cX11_starves 36 = .ok (.getfield 171, 3) := by decide +kernel
theorem dX11_starves_39 : decode cX11_starves 39 = .ok (.aload_n 0, 1) := by decide +kernel
theorem dX11_starves_40 : decode cX11_starves 40 = .ok (.getfield 19, 3) := by decide +kernel
theorem dX11_starves_43 : decode cX11_starves 43 = .ok (.getfield 171, 3) := by decide +kernel
theorem dX11_starves_46 : decode cX11_starves 46 = .ok (.if_icmp .eq 32, 3) := by decide +kernel
theorem dX11_starves_49 : decode cX11_starves 49 = .ok (.iload_n 1, 1) := by decide +kernel
theorem dX11_starves_50 : decode cX11_starves 50 = .ok (.ifCond .eq 26, 3) := by decide +kernel
theorem dX11_starves_53 : decode cX11_starves 53 = .ok (.aload_n 0, 1) := by decide +kernel
theorem dX11_starves_54 : decode cX11_starves 54 = .ok (.getfield 23, 3) := by decide +kernel
theorem dX11_starves_57 : decode cX11_starves 57 = .ok (.getfield 171, 3) := by decide +kernel
theorem dX11_starves_60 : decode cX11_starves 60 = .ok (.aload_n 0, 1) := by decide +kernel
theorem dX11_starves_61 : decode cX11_starves 61 = .ok (.getfield 19, 3) := by decide +kernel
theorem dX11_starves_64 : decode cX11_starves 64 = .ok (.getfield 171, 3) := by decide +kernel
theorem dX11_starves_67 : decode cX11_starves 67 = .ok (.iconst (-1), 1) := by decide +kernel
theorem dX11_starves_68 : decode cX11_starves 68 = .ok (.ixor, 1) := by decide +kernel
theorem dX11_starves_69 : decode cX11_starves 69 = .ok (.iand, 1) := by decide +kernel
theorem dX11_starves_70 : decode cX11_starves 70 = .ok (.invokestatic 327, 3) := by decide +kernel
theorem dX11_starves_73 : decode cX11_starves 73 = .ok (.goto 4, 3) := by decide +kernel
theorem dX11_starves_76 : decode cX11_starves 76 = .ok (.iload_n 2, 1) := by decide +kernel
theorem dX11_starves_77 : decode cX11_starves 77 = .ok (.ireturn, 1) := by decide +kernel
theorem dX11_starves_78 : decode cX11_starves 78 = .ok (.iinc 2 1, 3) := by decide +kernel
theorem dX11_starves_81 : decode cX11_starves 81 = .ok (.goto (-68), 3) := by decide +kernel
theorem dX11_starves_84 : decode cX11_starves 84 = .ok (.iconst (-1), 1) := by decide +kernel
theorem dX11_starves_85 : decode cX11_starves 85 = .ok (.ireturn, 1) := by decide +kernel
def q11_starves (σ : St) (who_a : Bool) : Option (Int32 × St) :=
  Option.bind (q10_become σ 54 44) fun x1_ =>
  Option.bind (loop2 (fun rec6_ (n9_ : Int32) (σ10_ : St) =>
  if n9_ ≤ 60 then
  Option.bind (q0_bakeWeeks σ10_ 54 1 false) fun x17_ =>
  if ¬ (x17_ 54 10) = (x17_ 44 10) then (Option.bind (if who_a = true then (Option.bind (q11_leastOf ((x17_ 54 10) &&& ((x17_ 44 10) ^^^ (-1)))) fun x29_ =>
  some x29_) else (some n9_)) fun x23_ =>
  some (.inl (x23_, x17_))) else
  lt (n9_ + 1) fun n32_ =>
  rec6_ n32_ x17_
  else (some (.inr (n9_, σ10_)))) fuelN (1 : Int32) x1_) fun y3_ =>
  Sum.elim (fun x9 => some x9) (fun y3_r =>
  some ((-1), y3_r.2)) y3_
abbrev rm11_starves : Room := { frames := 6, cells := 0, slots := 0, locals := 144 }
set_option maxHeartbeats 4000000 in
set_option maxRecDepth 100000 in
theorem p11_starves {Θ : Tz} {σ : St} {ρ : Option Value × St} (C : Zc Θ cX11_starves 3 RX11 (some .int) rm11_starves) (hkd : Θ.2.2.2.2.1 = kdC) {who_a : Bool} {r : (Int32 × St)} (hf : q11_starves σ who_a = some r) (hρ : ρ = (some (.int r.1), r.2)) : Z Θ 3 0 0 (zQ Θ ρ) σ 0 [(0, .ref (zA Θ 0)), (1, .int (b2i who_a))] [] := by
  unfold q11_starves at hf
  refine z_aload_n C 0 dX11_starves_0 rfl rfl ?_
  refine fg11_23 C hkd dX11_starves_1 ?_
  refine z_aload_n C 0 dX11_starves_4 rfl rfl ?_
  refine fg11_19 C hkd dX11_starves_5 ?_
  obtain ⟨x1_, h2_, hf⟩ := ob hf
  refine cr11_110 (th := 54) (other_a := 44) C hkd isV_54 isV_44 h2_ ⟨(Nat.le_of_ble_eq_true rfl), (Nat.le_of_ble_eq_true rfl)⟩ (Nat.le_of_ble_eq_true rfl) ⟨Nat.zero_le _, Nat.zero_le _⟩ dX11_starves_8 ?_
  refine z_iconst (v := 1) C dX11_starves_11 ic_1 ?_
  refine z_istN C dX11_starves_12 rfl rfl (Nat.le_of_ble_eq_true rfl) rfl ?_
  refine Z.sub [1, 2, 0] rfl ?_
  obtain ⟨y3_, h4_, hf⟩ := ob hf
  suffices K5_ : ∀ y3_r, y3_ = .inr y3_r → Z Θ 3 0 0 (zQ Θ ρ) y3_r.2 84 [(0, .ref (zA Θ 0)), (1, .int (b2i who_a)), (2, .int y3_r.1)] [] by
    refine loop2_Z (P := fun (n9_ : Int32) (σ10_ : St) => Z Θ 3 0 0 (zQ Θ ρ) σ10_ 13 [(0, .ref (zA Θ 0)), (1, .int (b2i who_a)), (2, .int n9_)] []) ?_ fuelN (1 : Int32) x1_ h4_
    clear h4_
    intro rec6_ n9_ σ10_ h7_ h8_
    have K13_ : n9_ ≤ 60 → Z Θ 3 0 0 (zQ Θ ρ) σ10_ 19 [(0, .ref (zA Θ 0)), (1, .int (b2i who_a)), (2, .int n9_)] [] := by
      intro h16_
      rw [if_pos h16_] at h8_
      refine z_aload_n C 0 dX11_starves_19 rfl rfl ?_
      refine fg11_70 C hkd dX11_starves_20 ?_
      refine z_aload_n C 0 dX11_starves_23 rfl rfl ?_
      refine fg11_23 C hkd dX11_starves_24 ?_
      refine z_iconst (v := 1) C dX11_starves_27 ic_1 ?_
      refine z_iconst (v := 0) C dX11_starves_28 ic_0 ?_
      obtain ⟨x17_, h18_, h8_⟩ := ob h8_
      refine cr11_243 (village_a := 54) (n_a := 1) (speeches_a := false) C hkd isV_54 h18_ ⟨(Nat.le_of_ble_eq_true rfl), (Nat.le_of_ble_eq_true rfl)⟩ (Nat.le_of_ble_eq_true rfl) ⟨Nat.zero_le _, Nat.zero_le _⟩ dX11_starves_29 ?_
      have K19_ : ¬ (x17_ 54 10) = (x17_ 44 10) → Z Θ 3 0 0 (zQ Θ ρ) x17_ 49 [(0, .ref (zA Θ 0)), (1, .int (b2i who_a)), (2, .int n9_)] [] := by
        intro h22_
        rw [if_pos h22_] at h8_
        obtain ⟨x23_, h24_, h8_⟩ := ob h8_
        suffices K25_ : Z Θ 3 0 0 (zQ Θ ρ) x17_ 77 [(0, .ref (zA Θ 0)), (1, .int (b2i who_a)), (2, .int n9_)] [.int x23_] by
          have K26_ : who_a = true → Z Θ 3 0 0 (zQ Θ ρ) x17_ 53 [(0, .ref (zA Θ 0)), (1, .int (b2i who_a)), (2, .int n9_)] [] := by
            intro h31_
            rw [if_pos h31_] at h24_
            refine z_aload_n C 0 dX11_starves_53 rfl rfl ?_
            refine fg11_23 C hkd dX11_starves_54 ?_
            refine fg11_171 C hkd isV_54 dX11_starves_57 ?_
            refine z_aload_n C 0 dX11_starves_60 rfl rfl ?_
            refine fg11_19 C hkd dX11_starves_61 ?_
            refine fg11_171 C hkd isV_44 dX11_starves_64 ?_
            refine z_iconst (v := (-1)) C dX11_starves_67 ic_m1 ?_
            refine z_ixor C dX11_starves_68 ?_
            refine z_iand C dX11_starves_69 ?_
            obtain ⟨x29_, h30_, h24_⟩ := ob h24_
            refine cr11_327 (set_a := ((x17_ 54 10) &&& ((x17_ 44 10) ^^^ (-1)))) C hkd  h30_ ⟨(Nat.le_of_ble_eq_true rfl), (Nat.le_of_ble_eq_true rfl)⟩ (Nat.le_of_ble_eq_true rfl) ⟨Nat.zero_le _, Nat.zero_le _⟩ dX11_starves_70 ?_
            refine z_goto C 77 dX11_starves_73 (by decide) ?_
            cases h24_
            exact K25_
          have K27_ : ¬ (who_a = true) → Z Θ 3 0 0 (zQ Θ ρ) x17_ 76 [(0, .ref (zA Θ 0)), (1, .int (b2i who_a)), (2, .int n9_)] [] := by
            intro h31_
            rw [if_neg h31_] at h24_
            refine z_iload_n C 2 dX11_starves_76 rfl rfl ?_
            cases h24_
            exact K25_
          refine z_iload_n C 1 dX11_starves_49 rfl rfl ?_
          refine cb_f C 76 dX11_starves_50 (by decide) (fun h28_ => ?_) (fun h28_ => ?_)
          · exact K26_ h28_
          · exact K27_ h28_
        rw [← Option.some.inj h8_] at hf
        replace hf : some (x23_, x17_) = some r := hf
        cases hf
        subst hρ
        exact z_iret C dX11_starves_77
      suffices K20_ : ¬ (¬ (x17_ 54 10) = (x17_ 44 10)) → Z Θ 3 0 0 (zQ Θ ρ) x17_ 78 [(0, .ref (zA Θ 0)), (1, .int (b2i who_a)), (2, .int n9_)] [] by
        refine z_aload_n C 0 dX11_starves_32 rfl rfl ?_
        refine fg11_23 C hkd dX11_starves_33 ?_
        refine fg11_171 C hkd isV_54 dX11_starves_36 ?_
        refine z_aload_n C 0 dX11_starves_39 rfl rfl ?_
        refine fg11_19 C hkd dX11_starves_40 ?_
        refine fg11_171 C hkd isV_44 dX11_starves_43 ?_
        refine c_ne_f C 78 dX11_starves_46 (by decide) (fun h21_ => ?_) (fun h21_ => ?_)
        · exact K19_ h21_
        · exact K20_ h21_
      intro h22_
      rw [if_neg h22_] at h8_
      obtain ⟨n32_, h33_, h8_⟩ := lt_ h8_
      refine z_inc C 2 dX11_starves_78 rfl ic_1 h33_ (Nat.le_of_ble_eq_true rfl) rfl ?_
      refine z_goto C 13 dX11_starves_81 (by decide) ?_
      refine Z.sub [1, 2, 0] rfl ?_
      exact h7_ _ _ h8_
    have K14_ : ¬ (n9_ ≤ 60) → Z Θ 3 0 0 (zQ Θ ρ) σ10_ 84 [(0, .ref (zA Θ 0)), (1, .int (b2i who_a)), (2, .int n9_)] [] := by
      intro h16_
      rw [if_neg h16_] at h8_
      exact K5_ _ (Option.some.inj h8_).symm
    refine z_iload_n C 2 dX11_starves_13 rfl rfl ?_
    refine z_bipush (v := 60) C dX11_starves_14 bp_60 ?_
    refine c_le_f C 84 dX11_starves_16 (by decide) (fun h15_ => ?_) (fun h15_ => ?_)
    · exact K13_ h15_
    · exact K14_ h15_
  intro y3_r e9
  subst e9
  simp only [Sum.elim_inr] at hf
  refine z_iconst (v := (-1)) C dX11_starves_84 ic_m1 ?_
  cases hf
  subst hρ
  exact z_iret C dX11_starves_85
theorem c11_starves {l : Launch} {kd : List KD} {w : Wp} {σ : St} {who_a : Bool} (hkd : kd = kdC) (hi : zI kd w) {r : (Int32 × St)} (hf : q11_starves σ who_a = some r) : zM l kd w yX11_starves cX11_starves 3 (some .int) rm11_starves [.ref (w.2.2.1 0), .int (b2i who_a)] σ (some (.int r.1), r.2) := zM_of rfl hi (Nat.le_of_ble_eq_true rfl) (fun Θ hl hw C => by
  obtain ⟨Θ1, Θ2, Θ3, Θ4, Θ5⟩ := Θ
  cases hw
  exact p11_starves C hkd  hf rfl)
/-! LastLoaf$SecretBallots.choicesOf -/
theorem w_2_141 : Cond.fieldLink "LastLoaf$SecretBallots" (27 : Nat) "LastLoaf$SecretBallots" "people" "I" ∈ TB := tb_in (lwt_2 (List.mem_of_getElem? (i := 141) (by decide +kernel))) rfl
theorem fg7_27 {Θ : Tz} {cc : ByteArray} {nL kc ks : Nat} {ret : Option FieldType} {rm : Room} {Q : State → Prop} {σ : St} {pc : Nat} {lv : List (Nat × Value)} {st : List Value} (C : Zc Θ cc nL RX7 ret rm) (hkd : Θ.2.2.2.2.1 = kdC) (hd : decode cc pc = .ok (.getfield 27, 3)) (kk : Z Θ nL kc ks Q σ (pc + 3) lv (.int (σ 21 5) :: st)) : Z Θ nL kc ks Q σ pc lv (.ref (zA Θ 21) :: st) := z_get C inT7 21 (kC_21 hkd) rfl 5 (by decide) w_2_141 rfl hd kk
theorem cr7_63 {Θ : Tz} {cc : ByteArray} {nL kc ks : Nat} {ret : Option FieldType} {rm : Room} {Q : State → Prop} {σ : St} {pc : Nat} {lv : List (Nat × Value)} {st : List Value} (C : Zc Θ cc nL RX7 ret rm) (hkd : Θ.2.2.2.2.1 = kdC) {set_a : Int32} {person_a : Int32} (hrm : rm11_isIn.frames + 1 ≤ rm.frames ∧ 8 + (2 + 11) + rm11_isIn.locals ≤ rm.locals) (hcat : (st.map fun v => v.category).sum ≤ 8) (hk : kc ≤ rm.cells ∧ ks ≤ rm.slots) (hd : decode cc pc = .ok (.invokestatic 63, 3)) (kk : Z Θ nL kc ks Q σ (pc + 3) lv (.int (b2i (q11_isIn set_a person_a)) :: st)) : Z Θ nL kc ks Q σ pc lv (.int person_a :: .int set_a :: st) := z_callSN (host := "LastLoaf") C [.int set_a, .int person_a] (some (.int (b2i (q11_isIn set_a person_a))), σ) 2 (c11_isIn (set_a := set_a) (person_a := person_a) hkd (zc_inj C)) w_3_36 (List.mem_of_getElem? (i := 26) rfl) w_3_35 w_1_1 ⟨rfl, rfl, hrm.1, hrm.2⟩ (by decide +kernel) rfl rfl hcat hk hd kk
theorem w_7_62 : Cond.methodLink "LastLoaf$SecretBallots" (97 : Nat) ({ cls := "LastLoaf$Village", name := "likingOf", desc := "(II)I" } : MethodName) ∈ TB := tb_in (lwt_7 (List.mem_of_getElem? (i := 62) (by decide +kernel))) rfl
theorem cr7_97 {Θ : Tz} {cc : ByteArray} {nL kc ks : Nat} {ret : Option FieldType} {rm : Room} {Q : State → Prop} {σ : St} {pc : Nat} {lv : List (Nat × Value)} {st : List Value} (C : Zc Θ cc nL RX7 ret rm) (hkd : Θ.2.2.2.2.1 = kdC) {th : Nat} {person_a : Int32} {other_a : Int32} (hth : isV th) {r : Int32} (hx : q10_likingOf σ th person_a other_a = some r) (hrm : rm10_likingOf.frames + 1 ≤ rm.frames ∧ 8 + (3 + 11) + rm10_likingOf.locals ≤ rm.locals) (hcat : (st.map fun v => v.category).sum ≤ 8) (hk : kc ≤ rm.cells ∧ ks ≤ rm.slots) (hd : decode cc pc = .ok (.invokevirtual 97, 3)) (kk : Z Θ nL kc ks Q σ (pc + 3) lv (.int r :: st)) : Z Θ nL kc ks Q σ pc lv (.int other_a :: .int person_a :: .ref (zA Θ th) :: st) := z_callV C th [.int person_a, .int other_a] (some (.int r), σ) 2 (kV_0 hkd hth) rfl (c10_likingOf (th := th) (person_a := person_a) (other_a := other_a) hkd (zc_inj C) hth hx) w_3_48 w_7_62 w_3_46 w_3_47 w_1_3 ⟨rfl, rfl, hrm.1, hrm.2⟩ (by decide +kernel) rfl rfl hcat hk hd kk
theorem dX7_choicesOf_0 : decode cX7_choicesOf 0 = .ok (.iconst 0, 1) := by decide +kernel
theorem dX7_choicesOf_1 : decode cX7_choicesOf 1 = .ok (.istore 4, 2) := by decide +kernel
theorem dX7_choicesOf_3 : decode cX7_choicesOf 3 = .ok (.iconst 0, 1) := by decide +kernel
theorem dX7_choicesOf_4 : decode cX7_choicesOf 4 = .ok (.istore 5, 2) := by decide +kernel
theorem dX7_choicesOf_6 : decode cX7_choicesOf 6 = .ok (.iload 5, 2) := by decide +kernel
theorem dX7_choicesOf_8 : decode cX7_choicesOf 8 = .ok (.aload_n 0, 1) := by decide +kernel
theorem dX7_choicesOf_9 : decode cX7_choicesOf 9 = .ok (.getfield 27, 3) := by decide +kernel
theorem dX7_choicesOf_12 : decode cX7_choicesOf 12 = .ok (.if_icmp .ge 38, 3) := by decide +kernel
theorem dX7_choicesOf_15 : decode cX7_choicesOf 15 = .ok (.iload_n 2, 1) := by decide +kernel
theorem dX7_choicesOf_16 : decode cX7_choicesOf 16 = .ok (.iload 5, 2) := by decide +kernel
theorem dX7_choicesOf_18 : decode cX7_choicesOf 18 = .ok (.invokestatic 63, 3) := by decide +kernel
theorem dX7_choicesOf_21 : decode cX7_choicesOf 21 = .ok (.ifCond .eq 23, 3) := by decide +kernel
theorem dX7_choicesOf_24 : decode cX7_choicesOf 24 = .ok (.aload_n 1, 1) := by decide +kernel
theorem dX7_choicesOf_25 : decode cX7_choicesOf 25 = .ok (.iload_n 3, 1) := by decide +kernel
theorem dX7_choicesOf_26 : decode cX7_choicesOf 26 = .ok (.iload 5, 2) := by decide +kernel
theorem dX7_choicesOf_28 : decode cX7_choicesOf 28 = .ok (.invokevirtual 97, 3) := by decide +kernel
theorem dX7_choicesOf_31 : decode cX7_choicesOf 31 = .ok (.iconst 4, 1) := by decide +kernel
theorem dX7_choicesOf_32 : decode cX7_choicesOf 32 = .ok (.if_icmp .lt 12, 3) := by decide +kernel
theorem dX7_choicesOf_35 : decode cX7_choicesOf 35 = .ok (.iload 4, 2) := by decide +kernel
theorem dX7_choicesOf_37 : decode cX7_choicesOf 37 = .ok (.iconst 1, 1) := by decide +kernel
theorem dX7_choicesOf_38 : decode cX7_choicesOf 38 = .ok (.iload 5, 2) := by decide +kernel
theorem dX7_choicesOf_40 : decode cX7_choicesOf 40 = .ok (.ishl, 1) := by decide +kernel
theorem dX7_choicesOf_41 : decode cX7_choicesOf 41 = .ok (.ior, 1) := by decide +kernel
theorem dX7_choicesOf_42 : decode cX7_choicesOf 42 = .ok (.istore 4, 2) := by decide +kernel
theorem dX7_choicesOf_44 : decode cX7_choicesOf 44 = .ok (.iinc 5 1, 3) := by decide +kernel
theorem dX7_choicesOf_47 : decode cX7_choicesOf 47 = .ok (.goto (-41), 3) := by decide +kernel
theorem dX7_choicesOf_50 : decode cX7_choicesOf 50 = .ok (.iload 4, 2) := by decide +kernel
theorem dX7_choicesOf_52 : decode cX7_choicesOf 52 = .ok (.ireturn, 1) := by decide +kernel
def q7_choicesOf (σ : St) (village_a : Nat) (runners_a : Int32) (voter_a : Int32) : Option Int32 :=
  Option.bind (loop2 (fun rec4_ (bits7_ : Int32) (r8_ : Int32) =>
  if r8_ < (σ 21 5) then
  Option.bind (Option.bind (if q11_isIn runners_a r8_ = true then (Option.bind (q10_likingOf σ village_a voter_a r8_) fun x23_ =>
  if 4 ≤ x23_ then (some true) else (some false)) else (some false)) fun t20_ =>
  if t20_ = true then (lt (bits7_ ||| (shl 1 r8_)) fun bits27_ =>
  some (bits27_)) else (some (bits7_))) fun y15_ =>
  lt (r8_ + 1) fun r29_ =>
  rec4_ y15_ r29_
  else (some (bits7_, r8_))) fuelN (0 : Int32) (0 : Int32)) fun y1_ =>
  some y1_.1
abbrev rm7_choicesOf : Room := { frames := 1, cells := 0, slots := 0, locals := 22 }
set_option maxHeartbeats 4000000 in
set_option maxRecDepth 100000 in
theorem p7_choicesOf {Θ : Tz} {σ : St} {ρ : Option Value × St} (C : Zc Θ cX7_choicesOf 6 RX7 (some .int) rm7_choicesOf) (hkd : Θ.2.2.2.2.1 = kdC) {village_a : Nat} {runners_a : Int32} {voter_a : Int32} (h_village : isV village_a) {r : Int32} (hf : q7_choicesOf σ village_a runners_a voter_a = some r) (hρ : ρ = (some (.int r), σ)) : Z Θ 6 0 0 (zQ Θ ρ) σ 0 [(0, .ref (zA Θ 21)), (1, .ref (zA Θ village_a)), (2, .int runners_a), (3, .int voter_a)] [] := by
  unfold q7_choicesOf at hf
  refine z_iconst (v := 0) C dX7_choicesOf_0 ic_0 ?_
  refine z_ist C dX7_choicesOf_1 rfl (Nat.le_of_ble_eq_true rfl) rfl ?_
  refine z_iconst (v := 0) C dX7_choicesOf_3 ic_0 ?_
  refine z_ist C dX7_choicesOf_4 rfl (Nat.le_of_ble_eq_true rfl) rfl ?_
  refine Z.sub [2, 3, 4, 5, 1, 0] rfl ?_
  obtain ⟨y1_, h2_, hf⟩ := ob hf
  suffices K3_ : Z Θ 6 0 0 (zQ Θ ρ) σ 50 [(0, .ref (zA Θ 21)), (1, .ref (zA Θ village_a)), (2, .int runners_a), (3, .int voter_a), (4, .int y1_.1), (5, .int y1_.2)] [] by
    refine loop2_Z (P := fun (bits7_ : Int32) (r8_ : Int32) => Z Θ 6 0 0 (zQ Θ ρ) σ 6 [(0, .ref (zA Θ 21)), (1, .ref (zA Θ village_a)), (2, .int runners_a), (3, .int voter_a), (4, .int bits7_), (5, .int r8_)] []) ?_ fuelN (0 : Int32) (0 : Int32) h2_
    clear h2_
    intro rec4_ bits7_ r8_ h5_ h6_
    have K11_ : r8_ < (σ 21 5) → Z Θ 6 0 0 (zQ Θ ρ) σ 15 [(0, .ref (zA Θ 21)), (1, .ref (zA Θ village_a)), (2, .int runners_a), (3, .int voter_a), (4, .int bits7_), (5, .int r8_)] [] := by
      intro h14_
      rw [if_pos h14_] at h6_
      obtain ⟨y15_, h16_, h6_⟩ := ob h6_
      suffices K17_ : Z Θ 6 0 0 (zQ Θ ρ) σ 44 [(0, .ref (zA Θ 21)), (1, .ref (zA Θ village_a)), (2, .int runners_a), (3, .int voter_a), (4, .int y15_), (5, .int r8_)] [] by
        obtain ⟨t20_, h21_, h16_⟩ := ob h16_
        have K18_ : t20_ = true → Z Θ 6 0 0 (zQ Θ ρ) σ 35 [(0, .ref (zA Θ 21)), (1, .ref (zA Θ village_a)), (2, .int runners_a), (3, .int voter_a), (4, .int bits7_), (5, .int r8_)] [] := by
          intro h26_
          rw [if_pos h26_] at h16_
          refine z_iload C 4 dX7_choicesOf_35 rfl ?_
          refine z_iconst (v := 1) C dX7_choicesOf_37 ic_1 ?_
          refine z_iload C 5 dX7_choicesOf_38 rfl ?_
          refine z_shl C dX7_choicesOf_40 ?_
          refine z_ior C dX7_choicesOf_41 ?_
          obtain ⟨bits27_, h28_, h16_⟩ := lt_ h16_
          refine z_ist C dX7_choicesOf_42 h28_ (Nat.le_of_ble_eq_true rfl) rfl ?_
          cases h16_
          refine Z.sub [1, 2, 3, 4, 0, 5] rfl ?_
          exact K17_
        have K19_ : ¬ (t20_ = true) → Z Θ 6 0 0 (zQ Θ ρ) σ 44 [(0, .ref (zA Θ 21)), (1, .ref (zA Θ village_a)), (2, .int runners_a), (3, .int voter_a), (4, .int bits7_), (5, .int r8_)] [] := by
          intro h26_
          rw [if_neg h26_] at h16_
          cases h16_
          exact K17_
        refine z_iload_n C 2 dX7_choicesOf_15 rfl rfl ?_
        refine z_iload C 5 dX7_choicesOf_16 rfl ?_
        refine cr7_63 (set_a := runners_a) (person_a := r8_) C hkd  ⟨(Nat.le_of_ble_eq_true rfl), (Nat.le_of_ble_eq_true rfl)⟩ (Nat.le_of_ble_eq_true rfl) ⟨Nat.zero_le _, Nat.zero_le _⟩ dX7_choicesOf_18 ?_
        refine cb_f C 44 dX7_choicesOf_21 (by decide) (fun h22_ => ?_) (fun h22_ => ?_)
        · rw [if_pos h22_] at h21_
          refine z_aload_n C 1 dX7_choicesOf_24 rfl rfl ?_
          refine z_iload_n C 3 dX7_choicesOf_25 rfl rfl ?_
          refine z_iload C 5 dX7_choicesOf_26 rfl ?_
          obtain ⟨x23_, h24_, h21_⟩ := ob h21_
          refine cr7_97 (th := village_a) (person_a := voter_a) (other_a := r8_) C hkd h_village h24_ ⟨(Nat.le_of_ble_eq_true rfl), (Nat.le_of_ble_eq_true rfl)⟩ (Nat.le_of_ble_eq_true rfl) ⟨Nat.zero_le _, Nat.zero_le _⟩ dX7_choicesOf_28 ?_
          refine z_iconst (v := 4) C dX7_choicesOf_31 ic_4 ?_
          refine c_ge_f C 44 dX7_choicesOf_32 (by decide) (fun h25_ => ?_) (fun h25_ => ?_)
          · rw [if_pos h25_] at h21_
            cases h21_
            exact K18_ rfl
          · rw [if_neg h25_] at h21_
            cases h21_
            exact K19_ Bool.false_ne_true
        · rw [if_neg h22_] at h21_
          cases h21_
          exact K19_ Bool.false_ne_true
      obtain ⟨r29_, h30_, h6_⟩ := lt_ h6_
      refine z_inc C 5 dX7_choicesOf_44 rfl ic_1 h30_ (Nat.le_of_ble_eq_true rfl) rfl ?_
      refine z_goto C 6 dX7_choicesOf_47 (by decide) ?_
      refine Z.sub [1, 2, 3, 4, 5, 0] rfl ?_
      exact h5_ _ _ h6_
    have K12_ : ¬ (r8_ < (σ 21 5)) → Z Θ 6 0 0 (zQ Θ ρ) σ 50 [(0, .ref (zA Θ 21)), (1, .ref (zA Θ village_a)), (2, .int runners_a), (3, .int voter_a), (4, .int bits7_), (5, .int r8_)] [] := by
      intro h14_
      rw [if_neg h14_] at h6_
      cases h6_
      exact K3_
    refine z_iload C 5 dX7_choicesOf_6 rfl ?_
    refine z_aload_n C 0 dX7_choicesOf_8 rfl rfl ?_
    refine fg7_27 C hkd dX7_choicesOf_9 ?_
    refine c_lt_f C 50 dX7_choicesOf_12 (by decide) (fun h13_ => ?_) (fun h13_ => ?_)
    · exact K11_ h13_
    · exact K12_ h13_
  refine z_iload C 4 dX7_choicesOf_50 rfl ?_
  cases hf
  subst hρ
  exact z_iret C dX7_choicesOf_52
theorem c7_choicesOf {l : Launch} {kd : List KD} {w : Wp} {σ : St} {village_a : Nat} {runners_a : Int32} {voter_a : Int32} (hkd : kd = kdC) (hi : zI kd w) (h_village : isV village_a) {r : Int32} (hf : q7_choicesOf σ village_a runners_a voter_a = some r) : zM l kd w yX7_choicesOf cX7_choicesOf 6 (some .int) rm7_choicesOf [.ref (w.2.2.1 21), .ref (w.2.2.1 village_a), .int runners_a, .int voter_a] σ (some (.int r), σ) := zM_of rfl hi (Nat.le_of_ble_eq_true rfl) (fun Θ hl hw C => by
  obtain ⟨Θ1, Θ2, Θ3, Θ4, Θ5⟩ := Θ
  cases hw
  exact p7_choicesOf C hkd h_village hf rfl)
/-! LastLoaf$SecretBallots.stateWith -/
theorem w_2_136 : Cond.fieldLink "LastLoaf$SecretBallots" (9 : Nat) "LastLoaf$SecretBallots" "told" "[I" ∈ TB := tb_in (lwt_2 (List.mem_of_getElem? (i := 136) (by decide +kernel))) rfl
theorem fg7_9 {Θ : Tz} {cc : ByteArray} {nL kc ks : Nat} {ret : Option FieldType} {rm : Room} {Q : State → Prop} {σ : St} {pc : Nat} {lv : List (Nat × Value)} {st : List Value} (C : Zc Θ cc nL RX7 ret rm) (hkd : Θ.2.2.2.2.1 = kdC) (hd : decode cc pc = .ok (.getfield 9, 3)) (kk : Z Θ nL kc ks Q σ (pc + 3) lv (.ref (zA Θ 22) :: st)) : Z Θ nL kc ks Q σ pc lv (.ref (zA Θ 21) :: st) := z_get C inT7 21 (kC_21 hkd) rfl 0 (by decide) w_2_136 rfl hd kk
theorem w_2_137 : Cond.fieldLink "LastLoaf$SecretBallots" (15 : Nat) "LastLoaf$SecretBallots" "steps" "[I" ∈ TB := tb_in (lwt_2 (List.mem_of_getElem? (i := 137) (by decide +kernel))) rfl
theorem fg7_15 {Θ : Tz} {cc : ByteArray} {nL kc ks : Nat} {ret : Option FieldType} {rm : Room} {Q : State → Prop} {σ : St} {pc : Nat} {lv : List (Nat × Value)} {st : List Value} (C : Zc Θ cc nL RX7 ret rm) (hkd : Θ.2.2.2.2.1 = kdC) (hd : decode cc pc = .ok (.getfield 15, 3)) (kk : Z Θ nL kc ks Q σ (pc + 3) lv (.ref (zA Θ 23) :: st)) : Z Θ nL kc ks Q σ pc lv (.ref (zA Θ 21) :: st) := z_get C inT7 21 (kC_21 hkd) rfl 1 (by decide) w_2_137 rfl hd kk
theorem w_7_52 : Cond.methodLink "LastLoaf$SecretBallots" (81 : Nat) ({ cls := "java/lang/Math", name := "max", desc := "(II)I" } : MethodName) ∈ TB := tb_in (lwt_7 (List.mem_of_getElem? (i := 52) (by decide +kernel))) rfl
theorem dX7_stateWith_0 : decode cX7_stateWith 0 = .ok (.aload_n 0, 1) := by decide +kernel
theorem dX7_stateWith_1 : decode cX7_stateWith 1 = .ok (.getfield 9, 3) := by decide +kernel
theorem dX7_stateWith_4 : decode cX7_stateWith 4 = .ok (.iload_n 2, 1) := by decide +kernel
theorem dX7_stateWith_5 : decode cX7_stateWith 5 = .ok (.iaload, 1) := by decide +kernel
theorem dX7_stateWith_6 : decode cX7_stateWith 6 = .ok (.iconst (-1), 1) := by decide +kernel
theorem dX7_stateWith_7 : decode cX7_stateWith 7 = .ok (.if_icmp .ne 5, 3) := by decide +kernel
theorem dX7_stateWith_10 : decode cX7_stateWith 10 = .ok (.iload_n 1, 1) := by decide +kernel
theorem dX7_stateWith_11 : decode cX7_stateWith 11 = .ok (.ireturn, 1) := by decide +kernel
theorem dX7_stateWith_12 : decode cX7_stateWith 12 = .ok (.iload_n 1, 1) := by decide +kernel
theorem dX7_stateWith_13 : decode cX7_stateWith 13 = .ok (.iconst 1, 1) := by decide +kernel
theorem dX7_stateWith_14 : decode cX7_stateWith 14 = .ok (.aload_n 0, 1) := by decide +kernel
theorem dX7_stateWith_15 : decode cX7_stateWith 15 = .ok (.getfield 15, 3) := by decide +kernel
theorem dX7_stateWith_18 : decode cX7_stateWith 18 = .ok (.iload_n 2, 1) := by decide +kernel
theorem dX7_stateWith_19 : decode cX7_stateWith 19 = .ok (.iaload, 1) := by decide +kernel
theorem dX7_stateWith_20 : decode cX7_stateWith 20 = .ok (.invokestatic 81, 3) := by decide +kernel
theorem dX7_stateWith_23 : decode cX7_stateWith 23 = .ok (.idiv, 1) := by decide +kernel
theorem dX7_stateWith_24 : decode cX7_stateWith 24 = .ok (.iconst 1, 1) := by decide +kernel
theorem dX7_stateWith_25 : decode cX7_stateWith 25 = .ok (.aload_n 0, 1) := by decide +kernel
theorem dX7_stateWith_26 : decode cX7_stateWith 26 = .ok (.getfield 9, 3) := by decide +kernel
theorem dX7_stateWith_29 : decode cX7_stateWith 29 = .ok (.iload_n 2, 1) := by decide +kernel
theorem dX7_stateWith_30 : decode cX7_stateWith 30 = .ok (.iaload, 1) := by decide +kernel
theorem dX7_stateWith_31 : decode cX7_stateWith 31 = .ok (.iconst 1, 1) := by decide +kernel
theorem dX7_stateWith_32 : decode cX7_stateWith 32 = .ok (.iadd, 1) := by decide +kernel
theorem dX7_stateWith_33 : decode cX7_stateWith 33 = .ok (.invokestatic 81, 3) := by decide +kernel
theorem dX7_stateWith_36 : decode cX7_stateWith 36 = .ok (.irem, 1) := by decide +kernel
theorem dX7_stateWith_37 : decode cX7_stateWith 37 = .ok (.istore_n 3, 1) := by decide +kernel
theorem dX7_stateWith_38 : decode cX7_stateWith 38 = .ok (.iload_n 3, 1) := by decide +kernel
theorem dX7_stateWith_39 : decode cX7_stateWith 39 = .ok (.aload_n 0, 1) := by decide +kernel
theorem dX7_stateWith_40 : decode cX7_stateWith 40 = .ok (.getfield 9, 3) := by decide +kernel
theorem dX7_stateWith_43 : decode cX7_stateWith 43 = .ok (.iload_n 2, 1) := by decide +kernel
theorem dX7_stateWith_44 : decode cX7_stateWith 44 = .ok (.iaload, 1) := by decide +kernel
theorem dX7_stateWith_45 : decode cX7_stateWith 45 = .ok (.if_icmp .ge 27, 3) := by decide +kernel
theorem dX7_stateWith_48 : decode cX7_stateWith 48 = .ok (.iload_n 1, 1) := by decide +kernel
theorem dX7_stateWith_49 : decode cX7_stateWith 49 = .ok (.aload_n 0, 1) := by decide +kernel
theorem dX7_stateWith_50 : decode cX7_stateWith 50 = .ok (.getfield 15, 3) := by decide +kernel
theorem dX7_stateWith_53 : decode cX7_stateWith 53 = .ok (.iload_n 2, 1) := by decide +kernel
theorem dX7_stateWith_54 : decode cX7_stateWith 54 = .ok (.iaload, 1) := by decide +kernel
theorem dX7_stateWith_55 : decode cX7_stateWith 55 = .ok (.iadd, 1) := by decide +kernel
theorem dX7_stateWith_56 : decode cX7_stateWith 56 = .ok (.bipush 64, 2) := by decide +kernel
theorem dX7_stateWith_58 : decode cX7_stateWith 58 = .ok (.if_icmp .ge 14, 3) := by decide +kernel
theorem dX7_stateWith_61 : decode cX7_stateWith 61 = .ok (.iload_n 1, 1) := by decide +kernel
theorem dX7_stateWith_62 : decode cX7_stateWith 62 = .ok (.aload_n 0, 1) := by decide +kernel
theorem dX7_stateWith_63 : decode cX7_stateWith 63 = .ok (.getfield 15, 3) := by decide +kernel
theorem dX7_stateWith_66 : decode cX7_stateWith 66 = .ok (.iload_n 2, 1) := by decide +kernel
theorem dX7_stateWith_67 : decode cX7_stateWith 67 = .ok (.iaload, 1) := by decide +kernel
theorem dX7_stateWith_68 : decode cX7_stateWith 68 = .ok (.iadd, 1) := by decide +kernel
theorem dX7_stateWith_69 : decode cX7_stateWith 69 = .ok (.goto 4, 3) := by decide +kernel
theorem dX7_stateWith_72 : decode cX7_stateWith 72 = .ok (.iconst (-1), 1) := by decide +kernel
theorem dX7_stateWith_73 : decode cX7_stateWith 73 = .ok (.ireturn, 1) := by decide +kernel
def q7_stateWith (σ : St) (state_a : Int32) (runner_a : Int32) : Option Int32 :=
  Option.bind (ag σ 22 6 runner_a) fun x3_ =>
  if x3_ = (-1) then (some state_a) else
  Option.bind (ag σ 23 6 runner_a) fun x7_ =>
  Option.bind (dv state_a (imax 1 x7_)) fun x9_ =>
  Option.bind (ag σ 22 6 runner_a) fun x11_ =>
  Option.bind (rmd x9_ (imax 1 (x11_ + 1))) fun x13_ =>
  Option.bind (Option.bind (Option.bind (ag σ 22 6 runner_a) fun x22_ =>
  if x13_ < x22_ then (Option.bind (ag σ 23 6 runner_a) fun x25_ =>
  if (state_a + x25_) < 64 then (some true) else (some false)) else (some false)) fun t20_ =>
  if t20_ = true then (Option.bind (ag σ 23 6 runner_a) fun x28_ =>
  some (state_a + x28_)) else (some (-1 : Int32))) fun x15_ =>
  some x15_
abbrev rm7_stateWith : Room := { frames := 1, cells := 0, slots := 0, locals := 21 }
set_option maxHeartbeats 4000000 in
set_option maxRecDepth 100000 in
theorem p7_stateWith {Θ : Tz} {σ : St} {ρ : Option Value × St} (C : Zc Θ cX7_stateWith 4 RX7 (some .int) rm7_stateWith) (hkd : Θ.2.2.2.2.1 = kdC) {state_a : Int32} {runner_a : Int32} {r : Int32} (hf : q7_stateWith σ state_a runner_a = some r) (hρ : ρ = (some (.int r), σ)) : Z Θ 4 0 0 (zQ Θ ρ) σ 0 [(0, .ref (zA Θ 21)), (1, .int state_a), (2, .int runner_a)] [] := by
  unfold q7_stateWith at hf
  refine z_aload_n C 0 dX7_stateWith_0 rfl rfl ?_
  refine fg7_9 C hkd dX7_stateWith_1 ?_
  refine z_iload_n C 2 dX7_stateWith_4 rfl rfl ?_
  obtain ⟨x3_, h4_, hf⟩ := ob hf
  refine z_ag C h4_ (kC_22 hkd) dX7_stateWith_5 ?_
  refine z_iconst (v := (-1)) C dX7_stateWith_6 ic_m1 ?_
  have K1_ : x3_ = (-1) → Z Θ 4 0 0 (zQ Θ ρ) σ 10 [(0, .ref (zA Θ 21)), (1, .int state_a), (2, .int runner_a)] [] := by
    intro h6_
    rw [if_pos h6_] at hf
    refine z_iload_n C 1 dX7_stateWith_10 rfl rfl ?_
    cases hf
    subst hρ
    exact z_iret C dX7_stateWith_11
  suffices K2_ : ¬ (x3_ = (-1)) → Z Θ 4 0 0 (zQ Θ ρ) σ 12 [(0, .ref (zA Θ 21)), (1, .int state_a), (2, .int runner_a)] [] by
    refine c_eq_f C 12 dX7_stateWith_7 (by decide) (fun h5_ => ?_) (fun h5_ => ?_)
    · exact K1_ h5_
    · exact K2_ h5_
  intro h6_
  rw [if_neg h6_] at hf
  refine z_iload_n C 1 dX7_stateWith_12 rfl rfl ?_
  refine z_iconst (v := 1) C dX7_stateWith_13 ic_1 ?_
  refine z_aload_n C 0 dX7_stateWith_14 rfl rfl ?_
  refine fg7_15 C hkd dX7_stateWith_15 ?_
  refine z_iload_n C 2 dX7_stateWith_18 rfl rfl ?_
  obtain ⟨x7_, h8_, hf⟩ := ob hf
  refine z_ag C h8_ (kC_23 hkd) dX7_stateWith_19 ?_
  refine z_max C w_7_52 w_3_176 w_1_28 w_3_177 ⟨(Nat.le_of_ble_eq_true rfl), (Nat.le_of_ble_eq_true rfl)⟩ (Nat.le_of_ble_eq_true rfl) ⟨Nat.zero_le _, Nat.zero_le _⟩ dX7_stateWith_20 ?_
  obtain ⟨x9_, h10_, hf⟩ := ob hf
  refine z_dv C h10_ dX7_stateWith_23 ?_
  refine z_iconst (v := 1) C dX7_stateWith_24 ic_1 ?_
  refine z_aload_n C 0 dX7_stateWith_25 rfl rfl ?_
  refine fg7_9 C hkd dX7_stateWith_26 ?_
  refine z_iload_n C 2 dX7_stateWith_29 rfl rfl ?_
  obtain ⟨x11_, h12_, hf⟩ := ob hf
  refine z_ag C h12_ (kC_22 hkd) dX7_stateWith_30 ?_
  refine z_iconst (v := 1) C dX7_stateWith_31 ic_1 ?_
  refine z_iadd C dX7_stateWith_32 ?_
  refine z_max C w_7_52 w_3_176 w_1_28 w_3_177 ⟨(Nat.le_of_ble_eq_true rfl), (Nat.le_of_ble_eq_true rfl)⟩ (Nat.le_of_ble_eq_true rfl) ⟨Nat.zero_le _, Nat.zero_le _⟩ dX7_stateWith_33 ?_
  obtain ⟨x13_, h14_, hf⟩ := ob hf
  refine z_rmd C h14_ dX7_stateWith_36 ?_
  refine z_istN C dX7_stateWith_37 rfl rfl (Nat.le_of_ble_eq_true rfl) rfl ?_
  obtain ⟨x15_, h16_, hf⟩ := ob hf
  suffices K17_ : Z Θ 4 0 0 (zQ Θ ρ) σ 73 [(3, .int x13_), (0, .ref (zA Θ 21)), (1, .int state_a), (2, .int runner_a)] [.int x15_] by
    obtain ⟨t20_, h21_, h16_⟩ := ob h16_
    have K18_ : t20_ = true → Z Θ 4 0 0 (zQ Θ ρ) σ 61 [(3, .int x13_), (0, .ref (zA Θ 21)), (1, .int state_a), (2, .int runner_a)] [] := by
      intro h30_
      rw [if_pos h30_] at h16_
      refine z_iload_n C 2 dX7_stateWith_61 rfl rfl ?_
      refine z_aload_n C 1 dX7_stateWith_62 rfl rfl ?_
      refine fg7_15 C hkd dX7_stateWith_63 ?_
      refine z_iload_n C 3 dX7_stateWith_66 rfl rfl ?_
      obtain ⟨x28_, h29_, h16_⟩ := ob h16_
      refine z_ag C h29_ (kC_23 hkd) dX7_stateWith_67 ?_
      refine z_iadd C dX7_stateWith_68 ?_
      refine z_goto C 73 dX7_stateWith_69 (by decide) ?_
      cases h16_
      exact K17_
    have K19_ : ¬ (t20_ = true) → Z Θ 4 0 0 (zQ Θ ρ) σ 72 [(3, .int x13_), (0, .ref (zA Θ 21)), (1, .int state_a), (2, .int runner_a)] [] := by
      intro h30_
      rw [if_neg h30_] at h16_
      refine z_iconst (v := (-1)) C dX7_stateWith_72 ic_m1 ?_
      cases h16_
      exact K17_
    refine z_iload_n C 0 dX7_stateWith_38 rfl rfl ?_
    refine z_aload_n C 1 dX7_stateWith_39 rfl rfl ?_
    refine fg7_9 C hkd dX7_stateWith_40 ?_
    refine z_iload_n C 3 dX7_stateWith_43 rfl rfl ?_
    obtain ⟨x22_, h23_, h21_⟩ := ob h21_
    refine z_ag C h23_ (kC_22 hkd) dX7_stateWith_44 ?_
    refine c_lt_f C 72 dX7_stateWith_45 (by decide) (fun h24_ => ?_) (fun h24_ => ?_)
    · rw [if_pos h24_] at h21_
      refine z_iload_n C 2 dX7_stateWith_48 rfl rfl ?_
      refine z_aload_n C 1 dX7_stateWith_49 rfl rfl ?_
      refine fg7_15 C hkd dX7_stateWith_50 ?_
      refine z_iload_n C 3 dX7_stateWith_53 rfl rfl ?_
      obtain ⟨x25_, h26_, h21_⟩ := ob h21_
      refine z_ag C h26_ (kC_23 hkd) dX7_stateWith_54 ?_
      refine z_iadd C dX7_stateWith_55 ?_
      refine z_bipush (v := 64) C dX7_stateWith_56 bp_64 ?_
      refine c_lt_f C 72 dX7_stateWith_58 (by decide) (fun h27_ => ?_) (fun h27_ => ?_)
      · rw [if_pos h27_] at h21_
        cases h21_
        exact K18_ rfl
      · rw [if_neg h27_] at h21_
        cases h21_
        exact K19_ Bool.false_ne_true
    · rw [if_neg h24_] at h21_
      cases h21_
      exact K19_ Bool.false_ne_true
  cases hf
  subst hρ
  exact z_iret C dX7_stateWith_73
theorem c7_stateWith {l : Launch} {kd : List KD} {w : Wp} {σ : St} {state_a : Int32} {runner_a : Int32} (hkd : kd = kdC) (hi : zI kd w) {r : Int32} (hf : q7_stateWith σ state_a runner_a = some r) : zM l kd w yX7_stateWith cX7_stateWith 4 (some .int) rm7_stateWith [.ref (w.2.2.1 21), .int state_a, .int runner_a] σ (some (.int r), σ) := zM_of rfl hi (Nat.le_of_ble_eq_true rfl) (fun Θ hl hw C => by
  obtain ⟨Θ1, Θ2, Θ3, Θ4, Θ5⟩ := Θ
  cases hw
  exact p7_stateWith C hkd  hf rfl)
/-! LastLoaf$SecretBallots.waysWith -/
theorem w_2_138 : Cond.fieldLink "LastLoaf$SecretBallots" (18 : Nat) "LastLoaf$SecretBallots" "choices" "[I" ∈ TB := tb_in (lwt_2 (List.mem_of_getElem? (i := 138) (by decide +kernel))) rfl
theorem fg7_18 {Θ : Tz} {cc : ByteArray} {nL kc ks : Nat} {ret : Option FieldType} {rm : Room} {Q : State → Prop} {σ : St} {pc : Nat} {lv : List (Nat × Value)} {st : List Value} (C : Zc Θ cc nL RX7 ret rm) (hkd : Θ.2.2.2.2.1 = kdC) (hd : decode cc pc = .ok (.getfield 18, 3)) (kk : Z Θ nL kc ks Q σ (pc + 3) lv (.ref (zA Θ 24) :: st)) : Z Θ nL kc ks Q σ pc lv (.ref (zA Θ 21) :: st) := z_get C inT7 21 (kC_21 hkd) rfl 2 (by decide) w_2_138 rfl hd kk
theorem w_7_74 : Cond.code ({ cls := "LastLoaf$SecretBallots", name := "stateWith", desc := "(II)I" } : MethodName) prog_9_method_6_code (4 : Nat) (Option.some ClassFile.FieldType.int) ∈ TB := tb_in (lwt_7 (List.mem_of_getElem? (i := 74) (by decide +kernel))) rfl
theorem w_1_12 : Cond.initialized "LastLoaf$SecretBallots" ∈ TB := tb_in (lwt_1 (List.mem_of_getElem? (i := 12) (by decide +kernel))) rfl
theorem w_7_71 : Cond.methodLink "LastLoaf$SecretBallots" (104 : Nat) ({ cls := "LastLoaf$SecretBallots", name := "stateWith", desc := "(II)I" } : MethodName) ∈ TB := tb_in (lwt_7 (List.mem_of_getElem? (i := 71) (by decide +kernel))) rfl
theorem w_7_72 : Cond.instanceMethod ({ cls := "LastLoaf$SecretBallots", name := "stateWith", desc := "(II)I" } : MethodName) ∈ TB := tb_in (lwt_7 (List.mem_of_getElem? (i := 72) (by decide +kernel))) rfl
theorem w_7_73 : Cond.selects "LastLoaf$SecretBallots" ({ cls := "LastLoaf$SecretBallots", name := "stateWith", desc := "(II)I" } : MethodName) ({ cls := "LastLoaf$SecretBallots", name := "stateWith", desc := "(II)I" } : MethodName) ∈ TB := tb_in (lwt_7 (List.mem_of_getElem? (i := 73) (by decide +kernel))) rfl
theorem cr7_104 {Θ : Tz} {cc : ByteArray} {nL kc ks : Nat} {ret : Option FieldType} {rm : Room} {Q : State → Prop} {σ : St} {pc : Nat} {lv : List (Nat × Value)} {st : List Value} (C : Zc Θ cc nL RX7 ret rm) (hkd : Θ.2.2.2.2.1 = kdC) {state_a : Int32} {runner_a : Int32} {r : Int32} (hx : q7_stateWith σ state_a runner_a = some r) (hrm : rm7_stateWith.frames + 1 ≤ rm.frames ∧ 8 + (4 + 11) + rm7_stateWith.locals ≤ rm.locals) (hcat : (st.map fun v => v.category).sum ≤ 8) (hk : kc ≤ rm.cells ∧ ks ≤ rm.slots) (hd : decode cc pc = .ok (.invokevirtual 104, 3)) (kk : Z Θ nL kc ks Q σ (pc + 3) lv (.int r :: st)) : Z Θ nL kc ks Q σ pc lv (.int runner_a :: .int state_a :: .ref (zA Θ 21) :: st) := z_callV C 21 [.int state_a, .int runner_a] (some (.int r), σ) 2 (kC_21 hkd) rfl (c7_stateWith (state_a := state_a) (runner_a := runner_a) hkd (zc_inj C) hx) w_7_74 w_7_71 w_7_72 w_7_73 w_1_12 ⟨rfl, rfl, hrm.1, hrm.2⟩ (by decide +kernel) rfl rfl hcat hk hd kk
theorem w_2_140 : Cond.fieldLink "LastLoaf$SecretBallots" (24 : Nat) "LastLoaf$SecretBallots" "after" "[I" ∈ TB := tb_in (lwt_2 (List.mem_of_getElem? (i := 140) (by decide +kernel))) rfl
theorem fg7_24 {Θ : Tz} {cc : ByteArray} {nL kc ks : Nat} {ret : Option FieldType} {rm : Room} {Q : State → Prop} {σ : St} {pc : Nat} {lv : List (Nat × Value)} {st : List Value} (C : Zc Θ cc nL RX7 ret rm) (hkd : Θ.2.2.2.2.1 = kdC) (hd : decode cc pc = .ok (.getfield 24, 3)) (kk : Z Θ nL kc ks Q σ (pc + 3) lv (.ref (zA Θ 26) :: st)) : Z Θ nL kc ks Q σ pc lv (.ref (zA Θ 21) :: st) := z_get C inT7 21 (kC_21 hkd) rfl 4 (by decide) w_2_140 rfl hd kk
theorem dX7_waysWith_0 : decode cX7_waysWith 0 = .ok (.aload_n 0, 1) := by decide +kernel
theorem dX7_waysWith_1 : decode cX7_waysWith 1 = .ok (.getfield 18, 3) := by decide +kernel
theorem dX7_waysWith_4 : decode cX7_waysWith 4 = .ok (.iload_n 1, 1) := by decide +kernel
theorem dX7_waysWith_5 : decode cX7_waysWith 5 = .ok (.iaload, 1) := by decide +kernel
theorem dX7_waysWith_6 : decode cX7_waysWith 6 = .ok (.iload_n 2, 1) := by decide +kernel
theorem dX7_waysWith_7 : decode cX7_waysWith 7 = .ok (.invokestatic 63, 3) := by decide +kernel
theorem dX7_waysWith_10 : decode cX7_waysWith 10 = .ok (.ifCond .eq 12, 3) := by decide +kernel
theorem dX7_waysWith_13 : decode cX7_waysWith 13 = .ok (.aload_n 0, 1) := by decide +kernel
theorem dX7_waysWith_14 : decode cX7_waysWith 14 = .ok (.iload_n 3, 1) := by decide +kernel
theorem dX7_waysWith_15 : decode cX7_waysWith 15 = .ok (.iload_n 2, 1) := by decide +kernel
theorem dX7_waysWith_16 : decode cX7_waysWith 16 = .ok (.invokevirtual 104, 3) := by decide +kernel
theorem dX7_waysWith_19 : decode cX7_waysWith 19 = .ok (.goto 4, 3) := by decide +kernel
theorem dX7_waysWith_22 : decode cX7_waysWith 22 = .ok (.iconst (-1), 1) := by decide +kernel
theorem dX7_waysWith_23 : decode cX7_waysWith 23 = .ok (.istore 4, 2) := by decide +kernel
theorem dX7_waysWith_25 : decode cX7_waysWith 25 = .ok (.iload 4, 2) := by decide +kernel
theorem dX7_waysWith_27 : decode cX7_waysWith 27 = .ok (.iconst (-1), 1) := by decide +kernel
theorem dX7_waysWith_28 : decode cX7_waysWith 28 = .ok (.if_icmp .ne 7, 3) := by decide +kernel
theorem dX7_waysWith_31 : decode cX7_waysWith 31 = .ok (.iconst 0, 1) := by decide +kernel
theorem dX7_waysWith_32 : decode cX7_waysWith 32 = .ok (.goto 17, 3) := by decide +kernel
theorem dX7_waysWith_35 : decode cX7_waysWith 35 = .ok (.aload_n 0, 1) := by decide +kernel
theorem dX7_waysWith_36 : decode cX7_waysWith 36 = .ok (.getfield 24, 3) := by decide +kernel
theorem dX7_waysWith_39 : decode cX7_waysWith 39 = .ok (.iload_n 1, 1) := by decide +kernel
theorem dX7_waysWith_40 : decode cX7_waysWith 40 = .ok (.iconst 1, 1) := by decide +kernel
theorem dX7_waysWith_41 : decode cX7_waysWith 41 = .ok (.iadd, 1) := by decide +kernel
theorem dX7_waysWith_42 : decode cX7_waysWith 42 = .ok (.bipush 64, 2) := by decide +kernel
theorem dX7_waysWith_44 : decode cX7_waysWith 44 = .ok (.imul, 1) := by decide +kernel
theorem dX7_waysWith_45 : decode cX7_waysWith 45 = .ok (.iload 4, 2) := by decide +kernel
theorem dX7_waysWith_47 : decode cX7_waysWith 47 = .ok (.iadd, 1) := by decide +kernel
theorem dX7_waysWith_48 : decode cX7_waysWith 48 = .ok (.iaload, 1) := by decide +kernel
theorem dX7_waysWith_49 : decode cX7_waysWith 49 = .ok (.ireturn, 1) := by decide +kernel
def q7_waysWith (σ : St) (voter_a : Int32) (runner_a : Int32) (state_a : Int32) : Option Int32 :=
  Option.bind (Option.bind (ag σ 24 6 voter_a) fun x6_ =>
  if q11_isIn x6_ runner_a = true then (Option.bind (q7_stateWith σ state_a runner_a) fun x9_ =>
  some x9_) else (some (-1 : Int32))) fun x1_ =>
  Option.bind (if x1_ = (-1) then (some (0 : Int32)) else (Option.bind (ag σ 26 448 (((voter_a + 1) * 64) + x1_)) fun x18_ =>
  some x18_)) fun x12_ =>
  some x12_
abbrev rm7_waysWith : Room := { frames := 2, cells := 0, slots := 0, locals := 44 }
set_option maxHeartbeats 4000000 in
set_option maxRecDepth 100000 in
theorem p7_waysWith {Θ : Tz} {σ : St} {ρ : Option Value × St} (C : Zc Θ cX7_waysWith 5 RX7 (some .int) rm7_waysWith) (hkd : Θ.2.2.2.2.1 = kdC) {voter_a : Int32} {runner_a : Int32} {state_a : Int32} {r : Int32} (hf : q7_waysWith σ voter_a runner_a state_a = some r) (hρ : ρ = (some (.int r), σ)) : Z Θ 5 0 0 (zQ Θ ρ) σ 0 [(0, .ref (zA Θ 21)), (1, .int voter_a), (2, .int runner_a), (3, .int state_a)] [] := by
  unfold q7_waysWith at hf
  obtain ⟨x1_, h2_, hf⟩ := ob hf
  suffices K3_ : Z Θ 5 0 0 (zQ Θ ρ) σ 23 [(0, .ref (zA Θ 21)), (1, .int voter_a), (2, .int runner_a), (3, .int state_a)] [.int x1_] by
    refine z_aload_n C 0 dX7_waysWith_0 rfl rfl ?_
    refine fg7_18 C hkd dX7_waysWith_1 ?_
    refine z_iload_n C 1 dX7_waysWith_4 rfl rfl ?_
    obtain ⟨x6_, h7_, h2_⟩ := ob h2_
    refine z_ag C h7_ (kC_24 hkd) dX7_waysWith_5 ?_
    refine z_iload_n C 2 dX7_waysWith_6 rfl rfl ?_
    refine cr7_63 (set_a := x6_) (person_a := runner_a) C hkd  ⟨(Nat.le_of_ble_eq_true rfl), (Nat.le_of_ble_eq_true rfl)⟩ (Nat.le_of_ble_eq_true rfl) ⟨Nat.zero_le _, Nat.zero_le _⟩ dX7_waysWith_7 ?_
    have K4_ : q11_isIn x6_ runner_a = true → Z Θ 5 0 0 (zQ Θ ρ) σ 13 [(0, .ref (zA Θ 21)), (1, .int voter_a), (2, .int runner_a), (3, .int state_a)] [] := by
      intro h11_
      rw [if_pos h11_] at h2_
      refine z_aload_n C 0 dX7_waysWith_13 rfl rfl ?_
      refine z_iload_n C 3 dX7_waysWith_14 rfl rfl ?_
      refine z_iload_n C 2 dX7_waysWith_15 rfl rfl ?_
      obtain ⟨x9_, h10_, h2_⟩ := ob h2_
      refine cr7_104 (state_a := state_a) (runner_a := runner_a) C hkd  h10_ ⟨(Nat.le_of_ble_eq_true rfl), (Nat.le_of_ble_eq_true rfl)⟩ (Nat.le_of_ble_eq_true rfl) ⟨Nat.zero_le _, Nat.zero_le _⟩ dX7_waysWith_16 ?_
      refine z_goto C 23 dX7_waysWith_19 (by decide) ?_
      cases h2_
      exact K3_
    have K5_ : ¬ (q11_isIn x6_ runner_a = true) → Z Θ 5 0 0 (zQ Θ ρ) σ 22 [(0, .ref (zA Θ 21)), (1, .int voter_a), (2, .int runner_a), (3, .int state_a)] [] := by
      intro h11_
      rw [if_neg h11_] at h2_
      refine z_iconst (v := (-1)) C dX7_waysWith_22 ic_m1 ?_
      cases h2_
      exact K3_
    refine cb_f C 22 dX7_waysWith_10 (by decide) (fun h8_ => ?_) (fun h8_ => ?_)
    · exact K4_ h8_
    · exact K5_ h8_
  refine z_ist C dX7_waysWith_23 rfl (Nat.le_of_ble_eq_true rfl) rfl ?_
  obtain ⟨x12_, h13_, hf⟩ := ob hf
  suffices K14_ : Z Θ 5 0 0 (zQ Θ ρ) σ 49 [(4, .int x1_), (0, .ref (zA Θ 21)), (1, .int voter_a), (2, .int runner_a), (3, .int state_a)] [.int x12_] by
    have K15_ : x1_ = (-1) → Z Θ 5 0 0 (zQ Θ ρ) σ 31 [(4, .int x1_), (0, .ref (zA Θ 21)), (1, .int voter_a), (2, .int runner_a), (3, .int state_a)] [] := by
      intro h20_
      rw [if_pos h20_] at h13_
      refine z_iconst (v := 0) C dX7_waysWith_31 ic_0 ?_
      refine z_goto C 49 dX7_waysWith_32 (by decide) ?_
      cases h13_
      exact K14_
    have K16_ : ¬ (x1_ = (-1)) → Z Θ 5 0 0 (zQ Θ ρ) σ 35 [(4, .int x1_), (0, .ref (zA Θ 21)), (1, .int voter_a), (2, .int runner_a), (3, .int state_a)] [] := by
      intro h20_
      rw [if_neg h20_] at h13_
      refine z_aload_n C 1 dX7_waysWith_35 rfl rfl ?_
      refine fg7_24 C hkd dX7_waysWith_36 ?_
      refine z_iload_n C 2 dX7_waysWith_39 rfl rfl ?_
      refine z_iconst (v := 1) C dX7_waysWith_40 ic_1 ?_
      refine z_iadd C dX7_waysWith_41 ?_
      refine z_bipush (v := 64) C dX7_waysWith_42 bp_64 ?_
      refine z_imul C dX7_waysWith_44 ?_
      refine z_iload C 0 dX7_waysWith_45 rfl ?_
      refine z_iadd C dX7_waysWith_47 ?_
      obtain ⟨x18_, h19_, h13_⟩ := ob h13_
      refine z_ag C h19_ (kC_26 hkd) dX7_waysWith_48 ?_
      cases h13_
      exact K14_
    refine z_iload C 0 dX7_waysWith_25 rfl ?_
    refine z_iconst (v := (-1)) C dX7_waysWith_27 ic_m1 ?_
    refine c_eq_f C 35 dX7_waysWith_28 (by decide) (fun h17_ => ?_) (fun h17_ => ?_)
    · exact K15_ h17_
    · exact K16_ h17_
  cases hf
  subst hρ
  exact z_iret C dX7_waysWith_49
theorem c7_waysWith {l : Launch} {kd : List KD} {w : Wp} {σ : St} {voter_a : Int32} {runner_a : Int32} {state_a : Int32} (hkd : kd = kdC) (hi : zI kd w) {r : Int32} (hf : q7_waysWith σ voter_a runner_a state_a = some r) : zM l kd w yX7_waysWith cX7_waysWith 5 (some .int) rm7_waysWith [.ref (w.2.2.1 21), .int voter_a, .int runner_a, .int state_a] σ (some (.int r), σ) := zM_of rfl hi (Nat.le_of_ble_eq_true rfl) (fun Θ hl hw C => by
  obtain ⟨Θ1, Θ2, Θ3, Θ4, Θ5⟩ := Θ
  cases hw
  exact p7_waysWith C hkd  hf rfl)
/-! LastLoaf$SecretBallots.gather -/
theorem w_2_142 : Cond.fieldLink "LastLoaf$SecretBallots" (31 : Nat) "LastLoaf$SecretBallots" "voters" "I" ∈ TB := tb_in (lwt_2 (List.mem_of_getElem? (i := 142) (by decide +kernel))) rfl
theorem fg7_31 {Θ : Tz} {cc : ByteArray} {nL kc ks : Nat} {ret : Option FieldType} {rm : Room} {Q : State → Prop} {σ : St} {pc : Nat} {lv : List (Nat × Value)} {st : List Value} (C : Zc Θ cc nL RX7 ret rm) (hkd : Θ.2.2.2.2.1 = kdC) (hd : decode cc pc = .ok (.getfield 31, 3)) (kk : Z Θ nL kc ks Q σ (pc + 3) lv (.int (σ 21 6) :: st)) : Z Θ nL kc ks Q σ pc lv (.ref (zA Θ 21) :: st) := z_get C inT7 21 (kC_21 hkd) rfl 6 (by decide) w_2_142 rfl hd kk
theorem w_7_86 : Cond.code ({ cls := "LastLoaf$SecretBallots", name := "waysWith", desc := "(III)I" } : MethodName) prog_9_method_11_code (5 : Nat) (Option.some ClassFile.FieldType.int) ∈ TB := tb_in (lwt_7 (List.mem_of_getElem? (i := 86) (by decide +kernel))) rfl
theorem w_7_83 : Cond.methodLink "LastLoaf$SecretBallots" (110 : Nat) ({ cls := "LastLoaf$SecretBallots", name := "waysWith", desc := "(III)I" } : MethodName) ∈ TB := tb_in (lwt_7 (List.mem_of_getElem? (i := 83) (by decide +kernel))) rfl
theorem w_7_84 : Cond.instanceMethod ({ cls := "LastLoaf$SecretBallots", name := "waysWith", desc := "(III)I" } : MethodName) ∈ TB := tb_in (lwt_7 (List.mem_of_getElem? (i := 84) (by decide +kernel))) rfl
theorem w_7_85 : Cond.selects "LastLoaf$SecretBallots" ({ cls := "LastLoaf$SecretBallots", name := "waysWith", desc := "(III)I" } : MethodName) ({ cls := "LastLoaf$SecretBallots", name := "waysWith", desc := "(III)I" } : MethodName) ∈ TB := tb_in (lwt_7 (List.mem_of_getElem? (i := 85) (by decide +kernel))) rfl
theorem cr7_110 {Θ : Tz} {cc : ByteArray} {nL kc ks : Nat} {ret : Option FieldType} {rm : Room} {Q : State → Prop} {σ : St} {pc : Nat} {lv : List (Nat × Value)} {st : List Value} (C : Zc Θ cc nL RX7 ret rm) (hkd : Θ.2.2.2.2.1 = kdC) {voter_a : Int32} {runner_a : Int32} {state_a : Int32} {r : Int32} (hx : q7_waysWith σ voter_a runner_a state_a = some r) (hrm : rm7_waysWith.frames + 1 ≤ rm.frames ∧ 8 + (5 + 11) + rm7_waysWith.locals ≤ rm.locals) (hcat : (st.map fun v => v.category).sum ≤ 8) (hk : kc ≤ rm.cells ∧ ks ≤ rm.slots) (hd : decode cc pc = .ok (.invokevirtual 110, 3)) (kk : Z Θ nL kc ks Q σ (pc + 3) lv (.int r :: st)) : Z Θ nL kc ks Q σ pc lv (.int state_a :: .int runner_a :: .int voter_a :: .ref (zA Θ 21) :: st) := z_callV C 21 [.int voter_a, .int runner_a, .int state_a] (some (.int r), σ) 3 (kC_21 hkd) rfl (c7_waysWith (voter_a := voter_a) (runner_a := runner_a) (state_a := state_a) hkd (zc_inj C) hx) w_7_86 w_7_83 w_7_84 w_7_85 w_1_12 ⟨rfl, rfl, hrm.1, hrm.2⟩ (by decide +kernel) rfl rfl hcat hk hd kk
theorem dX7_gather_0 : decode cX7_gather 0 = .ok (.aload_n 0, 1) := by decide +kernel
theorem dX7_gather_1 : decode cX7_gather 1 = .ok (.getfield 31, 3) := by decide +kernel
theorem dX7_gather_4 : decode cX7_gather 4 = .ok (.iload_n 1, 1) := by decide +kernel
theorem dX7_gather_5 : decode cX7_gather 5 = .ok (.invokestatic 63, 3) := by decide +kernel
theorem dX7_gather_8 : decode cX7_gather 8 = .ok (.ifCond .ne 17, 3) := by decide +kernel
theorem dX7_gather_11 : decode cX7_gather 11 = .ok (.aload_n 0, 1) := by decide +kernel
theorem dX7_gather_12 : decode cX7_gather 12 = .ok (.getfield 24, 3) := by decide +kernel
theorem dX7_gather_15 : decode cX7_gather 15 = .ok (.iload_n 1, 1) := by decide +kernel
theorem dX7_gather_16 : decode cX7_gather 16 = .ok (.iconst 1, 1) := by decide +kernel
theorem dX7_gather_17 : decode cX7_gather 17 = .ok (.iadd, 1) := by decide +kernel
theorem dX7_gather_18 : decode cX7_gather 18 = .ok (.bipush 64, 2) := by decide +kernel
theorem dX7_gather_20 : decode cX7_gather 20 = .ok (.imul, 1) := by decide +kernel
theorem dX7_gather_21 : decode cX7_gather 21 = .ok (.iload_n 2, 1) := by decide +kernel
theorem dX7_gather_22 : decode cX7_gather 22 = .ok (.iadd, 1) := by decide +kernel
theorem dX7_gather_23 : decode cX7_gather 23 = .ok (.iaload, 1) := by decide +kernel
theorem dX7_gather_24 : decode cX7_gather 24 = .ok (.ireturn, 1) := by decide +kernel
theorem dX7_gather_25 : decode cX7_gather 25 = .ok (.iconst 0, 1) := by decide +kernel
theorem dX7_gather_26 : decode cX7_gather 26 = .ok (.istore_n 3, 1) := by decide +kernel
theorem dX7_gather_27 : decode cX7_gather 27 = .ok (.iconst 0, 1) := by decide +kernel
theorem dX7_gather_28 : decode cX7_gather 28 = .ok (.istore 4, 2) := by decide +kernel
theorem dX7_gather_30 : decode cX7_gather 30 = .ok (.iload 4, 2) := by decide +kernel
theorem dX7_gather_32 : decode cX7_gather 32 = .ok (.aload_n 0, 1) := by decide +kernel
theorem dX7_gather_33 : decode cX7_gather 33 = .ok (.getfield 27, 3) := by decide +kernel
theorem dX7_gather_36 : decode cX7_gather 36 = .ok (.if_icmp .ge 20, 3) := by decide +kernel
theorem dX7_gather_39 : decode cX7_gather 39 = .ok (.iload_n 3, 1) := by decide +kernel
theorem dX7_gather_40 : decode cX7_gather 40 = .ok (.aload_n 0, 1) := by decide +kernel
theorem dX7_gather_41 : decode cX7_gather 41 = .ok (.iload_n 1, 1) := by decide +kernel
theorem dX7_gather_42 : decode cX7_gather 42 = .ok (.iload 4, 2) := by decide +kernel
theorem dX7_gather_44 : decode cX7_gather 44 = .ok (.iload_n 2, 1) := by decide +kernel
theorem dX7_gather_45 : decode cX7_gather 45 = .ok (.invokevirtual 110, 3) := by decide +kernel
theorem dX7_gather_48 : decode cX7_gather 48 = .ok (.iadd, 1) := by decide +kernel
theorem dX7_gather_49 : decode cX7_gather 49 = .ok (.istore_n 3, 1) := by decide +kernel
theorem dX7_gather_50 : decode cX7_gather 50 = .ok (.iinc 4 1, 3) := by decide +kernel
theorem dX7_gather_53 : decode cX7_gather 53 = .ok (.goto (-23), 3) := by decide +kernel
theorem dX7_gather_56 : decode cX7_gather 56 = .ok (.iload_n 3, 1) := by decide +kernel
theorem dX7_gather_57 : decode cX7_gather 57 = .ok (.ireturn, 1) := by decide +kernel
def q7_gather (σ : St) (voter_a : Int32) (state_a : Int32) : Option Int32 :=
  if ¬ (q11_isIn (σ 21 6) voter_a = true) then (Option.bind (ag σ 26 448 (((voter_a + 1) * 64) + state_a)) fun x5_ =>
  some x5_) else
  Option.bind (loop2 (fun rec10_ (sum13_ : Int32) (r14_ : Int32) =>
  if r14_ < (σ 21 5) then
  Option.bind (q7_waysWith σ voter_a r14_ state_a) fun x21_ =>
  lt (sum13_ + x21_) fun sum23_ =>
  lt (r14_ + 1) fun r25_ =>
  rec10_ sum23_ r25_
  else (some (sum13_, r14_))) fuelN (0 : Int32) (0 : Int32)) fun y7_ =>
  some y7_.1
abbrev rm7_gather : Room := { frames := 3, cells := 0, slots := 0, locals := 68 }
set_option maxHeartbeats 4000000 in
set_option maxRecDepth 100000 in
theorem p7_gather {Θ : Tz} {σ : St} {ρ : Option Value × St} (C : Zc Θ cX7_gather 5 RX7 (some .int) rm7_gather) (hkd : Θ.2.2.2.2.1 = kdC) {voter_a : Int32} {state_a : Int32} {r : Int32} (hf : q7_gather σ voter_a state_a = some r) (hρ : ρ = (some (.int r), σ)) : Z Θ 5 0 0 (zQ Θ ρ) σ 0 [(0, .ref (zA Θ 21)), (1, .int voter_a), (2, .int state_a)] [] := by
  unfold q7_gather at hf
  have K1_ : ¬ (q11_isIn (σ 21 6) voter_a = true) → Z Θ 5 0 0 (zQ Θ ρ) σ 11 [(0, .ref (zA Θ 21)), (1, .int voter_a), (2, .int state_a)] [] := by
    intro h4_
    rw [if_pos h4_] at hf
    refine z_aload_n C 0 dX7_gather_11 rfl rfl ?_
    refine fg7_24 C hkd dX7_gather_12 ?_
    refine z_iload_n C 1 dX7_gather_15 rfl rfl ?_
    refine z_iconst (v := 1) C dX7_gather_16 ic_1 ?_
    refine z_iadd C dX7_gather_17 ?_
    refine z_bipush (v := 64) C dX7_gather_18 bp_64 ?_
    refine z_imul C dX7_gather_20 ?_
    refine z_iload_n C 2 dX7_gather_21 rfl rfl ?_
    refine z_iadd C dX7_gather_22 ?_
    obtain ⟨x5_, h6_, hf⟩ := ob hf
    refine z_ag C h6_ (kC_26 hkd) dX7_gather_23 ?_
    cases hf
    subst hρ
    exact z_iret C dX7_gather_24
  suffices K2_ : ¬ (¬ (q11_isIn (σ 21 6) voter_a = true)) → Z Θ 5 0 0 (zQ Θ ρ) σ 25 [(0, .ref (zA Θ 21)), (1, .int voter_a), (2, .int state_a)] [] by
    refine z_aload_n C 0 dX7_gather_0 rfl rfl ?_
    refine fg7_31 C hkd dX7_gather_1 ?_
    refine z_iload_n C 1 dX7_gather_4 rfl rfl ?_
    refine cr7_63 (set_a := (σ 21 6)) (person_a := voter_a) C hkd  ⟨(Nat.le_of_ble_eq_true rfl), (Nat.le_of_ble_eq_true rfl)⟩ (Nat.le_of_ble_eq_true rfl) ⟨Nat.zero_le _, Nat.zero_le _⟩ dX7_gather_5 ?_
    refine cb_t C 25 dX7_gather_8 (by decide) (fun h3_ => ?_) (fun h3_ => ?_)
    · exact K2_ (fun n => n h3_)
    · exact K1_ h3_
  intro h4_
  rw [if_neg h4_] at hf
  refine z_iconst (v := 0) C dX7_gather_25 ic_0 ?_
  refine z_istN C dX7_gather_26 rfl rfl (Nat.le_of_ble_eq_true rfl) rfl ?_
  refine z_iconst (v := 0) C dX7_gather_27 ic_0 ?_
  refine z_ist C dX7_gather_28 rfl (Nat.le_of_ble_eq_true rfl) rfl ?_
  refine Z.sub [2, 3, 4, 1, 0] rfl ?_
  obtain ⟨y7_, h8_, hf⟩ := ob hf
  suffices K9_ : Z Θ 5 0 0 (zQ Θ ρ) σ 56 [(0, .ref (zA Θ 21)), (1, .int voter_a), (2, .int state_a), (3, .int y7_.1), (4, .int y7_.2)] [] by
    refine loop2_Z (P := fun (sum13_ : Int32) (r14_ : Int32) => Z Θ 5 0 0 (zQ Θ ρ) σ 30 [(0, .ref (zA Θ 21)), (1, .int voter_a), (2, .int state_a), (3, .int sum13_), (4, .int r14_)] []) ?_ fuelN (0 : Int32) (0 : Int32) h8_
    clear h8_
    intro rec10_ sum13_ r14_ h11_ h12_
    have K17_ : r14_ < (σ 21 5) → Z Θ 5 0 0 (zQ Θ ρ) σ 39 [(0, .ref (zA Θ 21)), (1, .int voter_a), (2, .int state_a), (3, .int sum13_), (4, .int r14_)] [] := by
      intro h20_
      rw [if_pos h20_] at h12_
      refine z_iload_n C 3 dX7_gather_39 rfl rfl ?_
      refine z_aload_n C 0 dX7_gather_40 rfl rfl ?_
      refine z_iload_n C 1 dX7_gather_41 rfl rfl ?_
      refine z_iload C 4 dX7_gather_42 rfl ?_
      refine z_iload_n C 2 dX7_gather_44 rfl rfl ?_
      obtain ⟨x21_, h22_, h12_⟩ := ob h12_
      refine cr7_110 (voter_a := voter_a) (runner_a := r14_) (state_a := state_a) C hkd  h22_ ⟨(Nat.le_of_ble_eq_true rfl), (Nat.le_of_ble_eq_true rfl)⟩ (Nat.le_of_ble_eq_true rfl) ⟨Nat.zero_le _, Nat.zero_le _⟩ dX7_gather_45 ?_
      refine z_iadd C dX7_gather_48 ?_
      obtain ⟨sum23_, h24_, h12_⟩ := lt_ h12_
      refine z_istN C dX7_gather_49 h24_ rfl (Nat.le_of_ble_eq_true rfl) rfl ?_
      obtain ⟨r25_, h26_, h12_⟩ := lt_ h12_
      refine z_inc C 4 dX7_gather_50 rfl ic_1 h26_ (Nat.le_of_ble_eq_true rfl) rfl ?_
      refine z_goto C 30 dX7_gather_53 (by decide) ?_
      refine Z.sub [2, 3, 4, 1, 0] rfl ?_
      exact h11_ _ _ h12_
    have K18_ : ¬ (r14_ < (σ 21 5)) → Z Θ 5 0 0 (zQ Θ ρ) σ 56 [(0, .ref (zA Θ 21)), (1, .int voter_a), (2, .int state_a), (3, .int sum13_), (4, .int r14_)] [] := by
      intro h20_
      rw [if_neg h20_] at h12_
      cases h12_
      exact K9_
    refine z_iload C 4 dX7_gather_30 rfl ?_
    refine z_aload_n C 0 dX7_gather_32 rfl rfl ?_
    refine fg7_27 C hkd dX7_gather_33 ?_
    refine c_lt_f C 56 dX7_gather_36 (by decide) (fun h19_ => ?_) (fun h19_ => ?_)
    · exact K17_ h19_
    · exact K18_ h19_
  refine z_iload_n C 3 dX7_gather_56 rfl rfl ?_
  cases hf
  subst hρ
  exact z_iret C dX7_gather_57
theorem c7_gather {l : Launch} {kd : List KD} {w : Wp} {σ : St} {voter_a : Int32} {state_a : Int32} (hkd : kd = kdC) (hi : zI kd w) {r : Int32} (hf : q7_gather σ voter_a state_a = some r) : zM l kd w yX7_gather cX7_gather 5 (some .int) rm7_gather [.ref (w.2.2.1 21), .int voter_a, .int state_a] σ (some (.int r), σ) := zM_of rfl hi (Nat.le_of_ble_eq_true rfl) (fun Θ hl hw C => by
  obtain ⟨Θ1, Θ2, Θ3, Θ4, Θ5⟩ := Θ
  cases hw
  exact p7_gather C hkd  hf rfl)
/-! LastLoaf$SecretBallots.countAfter -/
theorem w_7_46 : Cond.methodLink "LastLoaf$SecretBallots" (46 : Nat) ({ cls := "java/util/Arrays", name := "fill", desc := "([II)V" } : MethodName) ∈ TB := tb_in (lwt_7 (List.mem_of_getElem? (i := 46) (by decide +kernel))) rfl
theorem w_2_143 : Cond.fieldLink "LastLoaf$SecretBallots" (34 : Nat) "LastLoaf$SecretBallots" "states" "I" ∈ TB := tb_in (lwt_2 (List.mem_of_getElem? (i := 143) (by decide +kernel))) rfl
theorem fg7_34 {Θ : Tz} {cc : ByteArray} {nL kc ks : Nat} {ret : Option FieldType} {rm : Room} {Q : State → Prop} {σ : St} {pc : Nat} {lv : List (Nat × Value)} {st : List Value} (C : Zc Θ cc nL RX7 ret rm) (hkd : Θ.2.2.2.2.1 = kdC) (hd : decode cc pc = .ok (.getfield 34, 3)) (kk : Z Θ nL kc ks Q σ (pc + 3) lv (.int (σ 21 7) :: st)) : Z Θ nL kc ks Q σ pc lv (.ref (zA Θ 21) :: st) := z_get C inT7 21 (kC_21 hkd) rfl 7 (by decide) w_2_143 rfl hd kk
theorem w_7_82 : Cond.code ({ cls := "LastLoaf$SecretBallots", name := "gather", desc := "(II)I" } : MethodName) prog_9_method_10_code (5 : Nat) (Option.some ClassFile.FieldType.int) ∈ TB := tb_in (lwt_7 (List.mem_of_getElem? (i := 82) (by decide +kernel))) rfl
theorem w_7_79 : Cond.methodLink "LastLoaf$SecretBallots" (107 : Nat) ({ cls := "LastLoaf$SecretBallots", name := "gather", desc := "(II)I" } : MethodName) ∈ TB := tb_in (lwt_7 (List.mem_of_getElem? (i := 79) (by decide +kernel))) rfl
theorem w_7_80 : Cond.instanceMethod ({ cls := "LastLoaf$SecretBallots", name := "gather", desc := "(II)I" } : MethodName) ∈ TB := tb_in (lwt_7 (List.mem_of_getElem? (i := 80) (by decide +kernel))) rfl
theorem w_7_81 : Cond.selects "LastLoaf$SecretBallots" ({ cls := "LastLoaf$SecretBallots", name := "gather", desc := "(II)I" } : MethodName) ({ cls := "LastLoaf$SecretBallots", name := "gather", desc := "(II)I" } : MethodName) ∈ TB := tb_in (lwt_7 (List.mem_of_getElem? (i := 81) (by decide +kernel))) rfl
theorem cr7_107 {Θ : Tz} {cc : ByteArray} {nL kc ks : Nat} {ret : Option FieldType} {rm : Room} {Q : State → Prop} {σ : St} {pc : Nat} {lv : List (Nat × Value)} {st : List Value} (C : Zc Θ cc nL RX7 ret rm) (hkd : Θ.2.2.2.2.1 = kdC) {voter_a : Int32} {state_a : Int32} {r : Int32} (hx : q7_gather σ voter_a state_a = some r) (hrm : rm7_gather.frames + 1 ≤ rm.frames ∧ 8 + (5 + 11) + rm7_gather.locals ≤ rm.locals) (hcat : (st.map fun v => v.category).sum ≤ 8) (hk : kc ≤ rm.cells ∧ ks ≤ rm.slots) (hd : decode cc pc = .ok (.invokevirtual 107, 3)) (kk : Z Θ nL kc ks Q σ (pc + 3) lv (.int r :: st)) : Z Θ nL kc ks Q σ pc lv (.int state_a :: .int voter_a :: .ref (zA Θ 21) :: st) := z_callV C 21 [.int voter_a, .int state_a] (some (.int r), σ) 2 (kC_21 hkd) rfl (c7_gather (voter_a := voter_a) (state_a := state_a) hkd (zc_inj C) hx) w_7_82 w_7_79 w_7_80 w_7_81 w_1_12 ⟨rfl, rfl, hrm.1, hrm.2⟩ (by decide +kernel) rfl rfl hcat hk hd kk
theorem dX7_countAfter_0 : decode cX7_countAfter 0 = .ok (.aload_n 0, 1) := by decide +kernel
theorem dX7_countAfter_1 : decode cX7_countAfter 1 = .ok (.getfield 24, 3) := by decide +kernel
theorem dX7_countAfter_4 : decode cX7_countAfter 4 = .ok (.iconst 0, 1) := by decide +kernel
theorem dX7_countAfter_5 : decode cX7_countAfter 5 = .ok (.invokestatic 46, 3) := by decide +kernel
theorem dX7_countAfter_8 : decode cX7_countAfter 8 = .ok (.aload_n 0, 1) := by decide +kernel
theorem dX7_countAfter_9 : decode cX7_countAfter 9 = .ok (.getfield 34, 3) := by decide +kernel
theorem dX7_countAfter_12 : decode cX7_countAfter 12 = .ok (.iconst 1, 1) := by decide +kernel
theorem dX7_countAfter_13 : decode cX7_countAfter 13 = .ok (.if_icmp .lt 12, 3) := by decide +kernel
theorem dX7_countAfter_16 : decode cX7_countAfter 16 = .ok (.aload_n 0, 1) := by decide +kernel
theorem dX7_countAfter_17 : decode cX7_countAfter 17 = .ok (.getfield 34, 3) := by decide +kernel
theorem dX7_countAfter_20 : decode cX7_countAfter 20 = .ok (.bipush 64, 2) := by decide +kernel
theorem dX7_countAfter_22 : decode cX7_countAfter 22 = .ok (.if_icmp .le 4, 3) := by decide +kernel
theorem dX7_countAfter_25 : decode cX7_countAfter 25 = .ok (.return_, 1) := by decide +kernel
theorem dX7_countAfter_26 : decode cX7_countAfter 26 = .ok (.aload_n 0, 1) := by decide +kernel
theorem dX7_countAfter_27 : decode cX7_countAfter 27 = .ok (.getfield 24, 3) := by decide +kernel
theorem dX7_countAfter_30 : decode cX7_countAfter 30 = .ok (.aload_n 0, 1) := by decide +kernel
theorem dX7_countAfter_31 : decode cX7_countAfter 31 = .ok (.getfield 27, 3) := by decide +kernel
theorem dX7_countAfter_34 : decode cX7_countAfter 34 = .ok (.bipush 64, 2) := by decide +kernel
theorem dX7_countAfter_36 : decode cX7_countAfter 36 = .ok (.imul, 1) := by decide +kernel
theorem dX7_countAfter_37 : decode cX7_countAfter 37 = .ok (.aload_n 0, 1) := by decide +kernel
theorem dX7_countAfter_38 : decode cX7_countAfter 38 = .ok (.getfield 34, 3) := by decide +kernel
theorem dX7_countAfter_41 : decode cX7_countAfter 41 = .ok (.iadd, 1) := by decide +kernel
theorem dX7_countAfter_42 : decode cX7_countAfter 42 = .ok (.iconst 1, 1) := by decide +kernel
theorem dX7_countAfter_43 : decode cX7_countAfter 43 = .ok (.isub, 1) := by decide +kernel
theorem dX7_countAfter_44 : decode cX7_countAfter 44 = .ok (.iconst 1, 1) := by decide +kernel
theorem dX7_countAfter_45 : decode cX7_countAfter 45 = .ok (.iastore, 1) := by decide +kernel
theorem dX7_countAfter_46 : decode cX7_countAfter 46 = .ok (.aload_n 0, 1) := by decide +kernel
theorem dX7_countAfter_47 : decode cX7_countAfter 47 = .ok (.getfield 27, 3) := by decide +kernel
theorem dX7_countAfter_50 : decode cX7_countAfter 50 = .ok (.iconst 1, 1) := by decide +kernel
theorem dX7_countAfter_51 : decode cX7_countAfter 51 = .ok (.isub, 1) := by decide +kernel
theorem dX7_countAfter_52 : decode cX7_countAfter 52 = .ok (.istore_n 1, 1) := by decide +kernel
theorem dX7_countAfter_53 : decode cX7_countAfter 53 = .ok (.iload_n 1, 1) := by decide +kernel
theorem dX7_countAfter_54 : decode cX7_countAfter 54 = .ok (.ifCond .lt 42, 3) := by decide +kernel
theorem dX7_countAfter_57 : decode cX7_countAfter 57 = .ok (.iconst 0, 1) := by decide +kernel
theorem dX7_countAfter_58 : decode cX7_countAfter 58 = .ok (.istore_n 2, 1) := by decide +kernel
theorem dX7_countAfter_59 : decode cX7_countAfter 59 = .ok (.iload_n 2, 1) := by decide +kernel
theorem dX7_countAfter_60 : decode cX7_countAfter 60 = .ok (.aload_n 0, 1) := by decide +kernel
theorem dX7_countAfter_61 : decode cX7_countAfter 61 = .ok (.getfield 34, 3) := by decide +kernel
theorem dX7_countAfter_64 : decode cX7_countAfter 64 = .ok (.if_icmp .ge 26, 3) := by decide +kernel
theorem dX7_countAfter_67 : decode cX7_countAfter 67 = .ok (.aload_n 0, 1) := by decide +kernel
theorem dX7_countAfter_68 : decode cX7_countAfter 68 = .ok (.getfield 24, 3) := by decide +kernel
theorem dX7_countAfter_71 : decode cX7_countAfter 71 = .ok (.iload_n 1, 1) := by decide +kernel
theorem dX7_countAfter_72 : decode cX7_countAfter 72 = .ok (.bipush 64, 2) := by decide +kernel
theorem dX7_countAfter_74 : decode cX7_countAfter 74 = .ok (.imul, 1) := by decide +kernel
theorem dX7_countAfter_75 : decode cX7_countAfter 75 = .ok (.iload_n 2, 1) := by decide +kernel
theorem dX7_countAfter_76 : decode cX7_countAfter 76 = .ok (.iadd, 1) := by decide +kernel
theorem dX7_countAfter_77 : decode cX7_countAfter 77 = .ok (.aload_n 0, 1) := by decide +kernel
theorem dX7_countAfter_78 : decode cX7_countAfter 78 = .ok (.iload_n 1, 1) := by decide +kernel
theorem dX7_countAfter_79 : decode cX7_countAfter 79 = .ok (.iload_n 2, 1) := by decide +kernel
theorem dX7_countAfter_80 : decode cX7_countAfter 80 = .ok (.invokevirtual 107, 3) := by decide +kernel
theorem dX7_countAfter_83 : decode cX7_countAfter 83 = .ok (.iastore, 1) := by decide +kernel
theorem dX7_countAfter_84 : decode cX7_countAfter 84 = .ok (.iinc 2 1, 3) := by decide +kernel
theorem dX7_countAfter_87 : decode cX7_countAfter 87 = .ok (.goto (-28), 3) := by decide +kernel
theorem dX7_countAfter_90 : decode cX7_countAfter 90 = .ok (.iinc 1 (-1), 3) := by decide +kernel
theorem dX7_countAfter_93 : decode cX7_countAfter 93 = .ok (.goto (-40), 3) := by decide +kernel
theorem dX7_countAfter_96 : decode cX7_countAfter 96 = .ok (.return_, 1) := by decide +kernel
def q7_countAfter (σ : St) : Option St :=
  lt (fil σ 26 448 0) fun σ1_ =>
  if ((σ1_ 21 7) < 1) ∨ (64 < (σ1_ 21 7)) then (some σ1_) else
  Option.bind (sa σ1_ 26 448 ((((σ1_ 21 5) * 64) + (σ1_ 21 7)) - 1) 1) fun σ8_ =>
  lt ((σ8_ 21 5) - 1) fun v10_ =>
  Option.bind (loop2 (fun rec15_ (v18_ : Int32) (σ19_ : St) =>
  if 0 ≤ v18_ then
  Option.bind (loop2 (fun rec29_ (s32_ : Int32) (σ33_ : St) =>
  if s32_ < (σ33_ 21 7) then
  Option.bind (q7_gather σ33_ v18_ s32_) fun x40_ =>
  Option.bind (sa σ33_ 26 448 ((v18_ * 64) + s32_) x40_) fun σ42_ =>
  lt (s32_ + 1) fun s44_ =>
  rec29_ s44_ σ42_
  else (some (s32_, σ33_))) fuelN (0 : Int32) σ19_) fun y26_ =>
  lt (v18_ + (-1)) fun v46_ =>
  rec15_ v46_ y26_.2
  else (some (v18_, σ19_))) fuelN v10_ σ8_) fun y12_ =>
  some y12_.2
abbrev rm7_countAfter : Room := { frames := 4, cells := 0, slots := 0, locals := 92 }
set_option maxHeartbeats 4000000 in
set_option maxRecDepth 100000 in
theorem p7_countAfter {Θ : Tz} {σ : St} {ρ : Option Value × St} (C : Zc Θ cX7_countAfter 3 RX7 none rm7_countAfter) (hkd : Θ.2.2.2.2.1 = kdC) {r : St} (hf : q7_countAfter σ = some r) (hρ : ρ = (none, r)) : Z Θ 3 0 0 (zQ Θ ρ) σ 0 [(0, .ref (zA Θ 21))] [] := by
  unfold q7_countAfter at hf
  refine z_aload_n C 0 dX7_countAfter_0 rfl rfl ?_
  refine fg7_24 C hkd dX7_countAfter_1 ?_
  refine z_iconst (v := 0) C dX7_countAfter_4 ic_0 ?_
  obtain ⟨σ1_, h2_, hf⟩ := lt_ hf
  refine z_callS C [.ref (zA Θ 26), .int 0] (none, fil σ 26 448 0) 2 (cJ_fill (zc_inj C) (kC_26 hkd) (Nat.le_of_ble_eq_true rfl)) w_1_90 w_7_46 w_1_89 w_1_5 ⟨rfl, rfl, (Nat.le_of_ble_eq_true rfl), (Nat.le_of_ble_eq_true rfl)⟩ (by decide +kernel) rfl rfl (Nat.le_of_ble_eq_true rfl) ⟨Nat.zero_le _, Nat.zero_le _⟩ dX7_countAfter_5 ?_
  rw [← h2_]
  have K3_ : ((σ1_ 21 7) < 1) ∨ (64 < (σ1_ 21 7)) → Z Θ 3 0 0 (zQ Θ ρ) σ1_ 25 [(0, .ref (zA Θ 21))] [] := by
    intro h7_
    rw [if_pos h7_] at hf
    cases hf
    subst hρ
    exact z_vret C dX7_countAfter_25
  suffices K4_ : ¬ (((σ1_ 21 7) < 1) ∨ (64 < (σ1_ 21 7))) → Z Θ 3 0 0 (zQ Θ ρ) σ1_ 26 [(0, .ref (zA Θ 21))] [] by
    refine z_aload_n C 0 dX7_countAfter_8 rfl rfl ?_
    refine fg7_34 C hkd dX7_countAfter_9 ?_
    refine z_iconst (v := 1) C dX7_countAfter_12 ic_1 ?_
    refine c_lt_t C 25 dX7_countAfter_13 (by decide) (fun h5_ => ?_) (fun h5_ => ?_)
    · exact K3_ (Or.inl h5_)
    · refine z_aload_n C 0 dX7_countAfter_16 rfl rfl ?_
      refine fg7_34 C hkd dX7_countAfter_17 ?_
      refine z_bipush (v := 64) C dX7_countAfter_20 bp_64 ?_
      refine c_gt_f C 26 dX7_countAfter_22 (by decide) (fun h6_ => ?_) (fun h6_ => ?_)
      · exact K3_ (Or.inr h6_)
      · exact K4_ (fun n => n.elim h5_ h6_)
  intro h7_
  rw [if_neg h7_] at hf
  refine z_aload_n C 0 dX7_countAfter_26 rfl rfl ?_
  refine fg7_24 C hkd dX7_countAfter_27 ?_
  refine z_aload_n C 0 dX7_countAfter_30 rfl rfl ?_
  refine fg7_27 C hkd dX7_countAfter_31 ?_
  refine z_bipush (v := 64) C dX7_countAfter_34 bp_64 ?_
  refine z_imul C dX7_countAfter_36 ?_
  refine z_aload_n C 0 dX7_countAfter_37 rfl rfl ?_
  refine fg7_34 C hkd dX7_countAfter_38 ?_
  refine z_iadd C dX7_countAfter_41 ?_
  refine z_iconst (v := 1) C dX7_countAfter_42 ic_1 ?_
  refine z_isub C dX7_countAfter_43 ?_
  refine z_iconst (v := 1) C dX7_countAfter_44 ic_1 ?_
  obtain ⟨σ8_, h9_, hf⟩ := ob hf
  refine z_sa C h9_ (kC_26 hkd) dX7_countAfter_45 ?_
  refine z_aload_n C 0 dX7_countAfter_46 rfl rfl ?_
  refine fg7_27 C hkd dX7_countAfter_47 ?_
  refine z_iconst (v := 1) C dX7_countAfter_50 ic_1 ?_
  refine z_isub C dX7_countAfter_51 ?_
  obtain ⟨v10_, h11_, hf⟩ := lt_ hf
  refine z_istN C dX7_countAfter_52 h11_ rfl (Nat.le_of_ble_eq_true rfl) rfl ?_
  refine Z.sub [1, 0] rfl ?_
  obtain ⟨y12_, h13_, hf⟩ := ob hf
  suffices K14_ : Z Θ 3 0 0 (zQ Θ ρ) y12_.2 96 [(0, .ref (zA Θ 21)), (1, .int y12_.1)] [] by
    refine loop2_Z (P := fun (v18_ : Int32) (σ19_ : St) => Z Θ 3 0 0 (zQ Θ ρ) σ19_ 53 [(0, .ref (zA Θ 21)), (1, .int v18_)] []) ?_ fuelN v10_ σ8_ h13_
    clear h13_
    intro rec15_ v18_ σ19_ h16_ h17_
    have K22_ : 0 ≤ v18_ → Z Θ 3 0 0 (zQ Θ ρ) σ19_ 57 [(0, .ref (zA Θ 21)), (1, .int v18_)] [] := by
      intro h25_
      rw [if_pos h25_] at h17_
      refine z_iconst (v := 0) C dX7_countAfter_57 ic_0 ?_
      refine z_istN C dX7_countAfter_58 rfl rfl (Nat.le_of_ble_eq_true rfl) rfl ?_
      refine Z.sub [1, 2, 0] rfl ?_
      obtain ⟨y26_, h27_, h17_⟩ := ob h17_
      suffices K28_ : Z Θ 3 0 0 (zQ Θ ρ) y26_.2 90 [(0, .ref (zA Θ 21)), (1, .int v18_), (2, .int y26_.1)] [] by
        refine loop2_Z (P := fun (s32_ : Int32) (σ33_ : St) => Z Θ 3 0 0 (zQ Θ ρ) σ33_ 59 [(0, .ref (zA Θ 21)), (1, .int v18_), (2, .int s32_)] []) ?_ fuelN (0 : Int32) σ19_ h27_
        clear h27_
        intro rec29_ s32_ σ33_ h30_ h31_
        have K36_ : s32_ < (σ33_ 21 7) → Z Θ 3 0 0 (zQ Θ ρ) σ33_ 67 [(0, .ref (zA Θ 21)), (1, .int v18_), (2, .int s32_)] [] := by
          intro h39_
          rw [if_pos h39_] at h31_
          refine z_aload_n C 0 dX7_countAfter_67 rfl rfl ?_
          refine fg7_24 C hkd dX7_countAfter_68 ?_
          refine z_iload_n C 1 dX7_countAfter_71 rfl rfl ?_
          refine z_bipush (v := 64) C dX7_countAfter_72 bp_64 ?_
          refine z_imul C dX7_countAfter_74 ?_
          refine z_iload_n C 2 dX7_countAfter_75 rfl rfl ?_
          refine z_iadd C dX7_countAfter_76 ?_
          refine z_aload_n C 0 dX7_countAfter_77 rfl rfl ?_
          refine z_iload_n C 1 dX7_countAfter_78 rfl rfl ?_
          refine z_iload_n C 2 dX7_countAfter_79 rfl rfl ?_
          obtain ⟨x40_, h41_, h31_⟩ := ob h31_
          refine cr7_107 (voter_a := v18_) (state_a := s32_) C hkd  h41_ ⟨(Nat.le_of_ble_eq_true rfl), (Nat.le_of_ble_eq_true rfl)⟩ (Nat.le_of_ble_eq_true rfl) ⟨Nat.zero_le _, Nat.zero_le _⟩ dX7_countAfter_80 ?_
          obtain ⟨σ42_, h43_, h31_⟩ := ob h31_
          refine z_sa C h43_ (kC_26 hkd) dX7_countAfter_83 ?_
          obtain ⟨s44_, h45_, h31_⟩ := lt_ h31_
          refine z_inc C 2 dX7_countAfter_84 rfl ic_1 h45_ (Nat.le_of_ble_eq_true rfl) rfl ?_
          refine z_goto C 59 dX7_countAfter_87 (by decide) ?_
          refine Z.sub [1, 2, 0] rfl ?_
          exact h30_ _ _ h31_
        have K37_ : ¬ (s32_ < (σ33_ 21 7)) → Z Θ 3 0 0 (zQ Θ ρ) σ33_ 90 [(0, .ref (zA Θ 21)), (1, .int v18_), (2, .int s32_)] [] := by
          intro h39_
          rw [if_neg h39_] at h31_
          cases h31_
          exact K28_
        refine z_iload_n C 2 dX7_countAfter_59 rfl rfl ?_
        refine z_aload_n C 0 dX7_countAfter_60 rfl rfl ?_
        refine fg7_34 C hkd dX7_countAfter_61 ?_
        refine c_lt_f C 90 dX7_countAfter_64 (by decide) (fun h38_ => ?_) (fun h38_ => ?_)
        · exact K36_ h38_
        · exact K37_ h38_
      obtain ⟨v46_, h47_, h17_⟩ := lt_ h17_
      refine z_inc C 1 dX7_countAfter_90 rfl ic_m1 h47_ (Nat.le_of_ble_eq_true rfl) rfl ?_
      refine z_goto C 53 dX7_countAfter_93 (by decide) ?_
      refine Z.sub [1, 0] rfl ?_
      exact h16_ _ _ h17_
    have K23_ : ¬ (0 ≤ v18_) → Z Θ 3 0 0 (zQ Θ ρ) σ19_ 96 [(0, .ref (zA Θ 21)), (1, .int v18_)] [] := by
      intro h25_
      rw [if_neg h25_] at h17_
      cases h17_
      exact K14_
    refine z_iload_n C 1 dX7_countAfter_53 rfl rfl ?_
    refine c0_ge_f C 96 dX7_countAfter_54 (by decide) (fun h24_ => ?_) (fun h24_ => ?_)
    · exact K22_ h24_
    · exact K23_ h24_
  cases hf
  subst hρ
  exact z_vret C dX7_countAfter_96
theorem c7_countAfter {l : Launch} {kd : List KD} {w : Wp} {σ : St} (hkd : kd = kdC) (hi : zI kd w) {r : St} (hf : q7_countAfter σ = some r) : zM l kd w yX7_countAfter cX7_countAfter 3 none rm7_countAfter [.ref (w.2.2.1 21)] σ (none, r) := zM_of rfl hi (Nat.le_of_ble_eq_true rfl) (fun Θ hl hw C => by
  obtain ⟨Θ1, Θ2, Θ3, Θ4, Θ5⟩ := Θ
  cases hw
  exact p7_countAfter C hkd  hf rfl)
/-! LastLoaf$SecretBallots.spread -/
theorem w_2_139 : Cond.fieldLink "LastLoaf$SecretBallots" (21 : Nat) "LastLoaf$SecretBallots" "before" "[I" ∈ TB := tb_in (lwt_2 (List.mem_of_getElem? (i := 139) (by decide +kernel))) rfl
theorem fg7_21 {Θ : Tz} {cc : ByteArray} {nL kc ks : Nat} {ret : Option FieldType} {rm : Room} {Q : State → Prop} {σ : St} {pc : Nat} {lv : List (Nat × Value)} {st : List Value} (C : Zc Θ cc nL RX7 ret rm) (hkd : Θ.2.2.2.2.1 = kdC) (hd : decode cc pc = .ok (.getfield 21, 3)) (kk : Z Θ nL kc ks Q σ (pc + 3) lv (.ref (zA Θ 25) :: st)) : Z Θ nL kc ks Q σ pc lv (.ref (zA Θ 21) :: st) := z_get C inT7 21 (kC_21 hkd) rfl 3 (by decide) w_2_139 rfl hd kk
theorem dX7_spread_0 : decode cX7_spread 0 = .ok (.aload_n 0, 1) := by decide +kernel
theorem dX7_spread_1 : decode cX7_spread 1 = .ok (.getfield 21, 3) := by decide +kernel
theorem dX7_spread_4 : decode cX7_spread 4 = .ok (.iload_n 1, 1) := by decide +kernel
theorem dX7_spread_5 : decode cX7_spread 5 = .ok (.bipush 64, 2) := by decide +kernel
theorem dX7_spread_7 : decode cX7_spread 7 = .ok (.imul, 1) := by decide +kernel
theorem dX7_spread_8 : decode cX7_spread 8 = .ok (.iload_n 2, 1) := by decide +kernel
theorem dX7_spread_9 : decode cX7_spread 9 = .ok (.iadd, 1) := by decide +kernel
theorem dX7_spread_10 : decode cX7_spread 10 = .ok (.iaload, 1) := by decide +kernel
theorem dX7_spread_11 : decode cX7_spread 11 = .ok (.istore_n 3, 1) := by decide +kernel
theorem dX7_spread_12 : decode cX7_spread 12 = .ok (.iload_n 1, 1) := by decide +kernel
theorem dX7_spread_13 : decode cX7_spread 13 = .ok (.iconst 1, 1) := by decide +kernel
theorem dX7_spread_14 : decode cX7_spread 14 = .ok (.iadd, 1) := by decide +kernel
theorem dX7_spread_15 : decode cX7_spread 15 = .ok (.bipush 64, 2) := by decide +kernel
theorem dX7_spread_17 : decode cX7_spread 17 = .ok (.imul, 1) := by decide +kernel
theorem dX7_spread_18 : decode cX7_spread 18 = .ok (.istore 4, 2) := by decide +kernel
theorem dX7_spread_20 : decode cX7_spread 20 = .ok (.aload_n 0, 1) := by decide +kernel
theorem dX7_spread_21 : decode cX7_spread 21 = .ok (.getfield 31, 3) := by decide +kernel
theorem dX7_spread_24 : decode cX7_spread 24 = .ok (.iload_n 1, 1) := by decide +kernel
theorem dX7_spread_25 : decode cX7_spread 25 = .ok (.invokestatic 63, 3) := by decide +kernel
theorem dX7_spread_28 : decode cX7_spread 28 = .ok (.ifCond .ne 17, 3) := by decide +kernel
theorem dX7_spread_31 : decode cX7_spread 31 = .ok (.aload_n 0, 1) := by decide +kernel
theorem dX7_spread_32 : decode cX7_spread 32 = .ok (.getfield 21, 3) := by decide +kernel
theorem dX7_spread_35 : decode cX7_spread 35 = .ok (.iload 4, 2) := by decide +kernel
theorem dX7_spread_37 : decode cX7_spread 37 = .ok (.iload_n 2, 1) := by decide +kernel
theorem dX7_spread_38 : decode cX7_spread 38 = .ok (.iadd, 1) := by decide +kernel
theorem dX7_spread_39 : decode cX7_spread 39 = .ok (.dup2, 1) := by decide +kernel
theorem dX7_spread_40 : decode cX7_spread 40 = .ok (.iaload, 1) := by decide +kernel
theorem dX7_spread_41 : decode cX7_spread 41 = .ok (.iload_n 3, 1) := by decide +kernel
theorem dX7_spread_42 : decode cX7_spread 42 = .ok (.iadd, 1) := by decide +kernel
theorem dX7_spread_43 : decode cX7_spread 43 = .ok (.iastore, 1) := by decide +kernel
theorem dX7_spread_44 : decode cX7_spread 44 = .ok (.return_, 1) := by decide +kernel
theorem dX7_spread_45 : decode cX7_spread 45 = .ok (.iconst 0, 1) := by decide +kernel
theorem dX7_spread_46 : decode cX7_spread 46 = .ok (.istore 5, 2) := by decide +kernel
theorem dX7_spread_48 : decode cX7_spread 48 = .ok (.iload 5, 2) := by decide +kernel
theorem dX7_spread_50 : decode cX7_spread 50 = .ok (.aload_n 0, 1) := by decide +kernel
theorem dX7_spread_51 : decode cX7_spread 51 = .ok (.getfield 27, 3) := by decide +kernel
theorem dX7_spread_54 : decode cX7_spread 54 = .ok (.if_icmp .ge 56, 3) := by decide +kernel
theorem dX7_spread_57 : decode cX7_spread 57 = .ok (.aload_n 0, 1) := by decide +kernel
theorem dX7_spread_58 : decode cX7_spread 58 = .ok (.getfield 18, 3) := by decide +kernel
theorem dX7_spread_61 : decode cX7_spread 61 = .ok (.iload_n 1, 1) := by decide +kernel
theorem dX7_spread_62 : decode cX7_spread 62 = .ok (.iaload, 1) := by decide +kernel
theorem dX7_spread_63 : decode cX7_spread 63 = .ok (.iload 5, 2) := by decide +kernel
theorem dX7_spread_65 : decode cX7_spread 65 = .ok (.invokestatic 63, 3) := by decide +kernel
theorem dX7_spread_68 : decode cX7_spread 68 = .ok (.ifCond .eq 13, 3) := by decide +kernel
theorem dX7_spread_71 : decode cX7_spread 71 = .ok (.aload_n 0, 1) := by decide +kernel
theorem dX7_spread_72 : decode cX7_spread 72 = .ok (.iload_n 2, 1) := by decide +kernel
theorem dX7_spread_73 : decode cX7_spread 73 = .ok (.iload 5, 2) := by decide +kernel
theorem dX7_spread_75 : decode cX7_spread 75 = .ok (.invokevirtual 104, 3) := by decide +kernel
theorem dX7_spread_78 : decode cX7_spread 78 = .ok (.goto 4, 3) := by decide +kernel
theorem dX7_spread_81 : decode cX7_spread 81 = .ok (.iconst (-1), 1) := by decide +kernel
theorem dX7_spread_82 : decode cX7_spread 82 = .ok (.istore 6, 2) := by decide +kernel
theorem dX7_spread_84 : decode cX7_spread 84 = .ok (.iload 6, 2) := by decide +kernel
theorem dX7_spread_86 : decode cX7_spread 86 = .ok (.iconst (-1), 1) := by decide +kernel
theorem dX7_spread_87 : decode cX7_spread 87 = .ok (.if_icmp .eq 17, 3) := by decide +kernel
theorem dX7_spread_90 : decode cX7_spread 90 = .ok (.aload_n 0, 1) := by decide +kernel
theorem dX7_spread_91 : decode cX7_spread 91 = .ok (.getfield 21, 3) := by decide +kernel
theorem dX7_spread_94 : decode cX7_spread 94 = .ok (.iload 4, 2) := by decide +kernel
theorem dX7_spread_96 : decode cX7_spread 96 = .ok (.iload 6, 2) := by decide +kernel
theorem dX7_spread_98 : decode cX7_spread 98 = .ok (.iadd, 1) := by decide +kernel
theorem dX7_spread_99 : decode cX7_spread 99 = .ok (.dup2, 1) := by decide +kernel
theorem dX7_spread_100 : decode cX7_spread 100 = .ok (.iaload, 1) := by decide +kernel
theorem dX7_spread_101 : decode cX7_spread 101 = .ok (.iload_n 3, 1) := by decide +kernel
theorem dX7_spread_102 : decode cX7_spread 102 = .ok (.iadd, 1) := by decide +kernel
theorem dX7_spread_103 : decode cX7_spread 103 = .ok (.iastore, 1) := by decide +kernel
theorem dX7_spread_104 : decode cX7_spread 104 = .ok (.iinc 5 1, 3) := by decide +kernel
theorem dX7_spread_107 : decode cX7_spread 107 = .ok (.goto (-59), 3) := by decide +kernel
theorem dX7_spread_110 : decode cX7_spread 110 = .ok (.return_, 1) := by decide +kernel
def q7_spread (σ : St) (voter_a : Int32) (state_a : Int32) : Option St :=
  Option.bind (ag σ 25 448 ((voter_a * 64) + state_a)) fun x1_ =>
  lt ((voter_a + 1) * 64) fun to3_ =>
  if ¬ (q11_isIn (σ 21 6) voter_a = true) then (Option.bind (ag σ 25 448 (to3_ + state_a)) fun x9_ =>
  Option.bind (sa σ 25 448 (to3_ + state_a) (x9_ + x1_)) fun σ11_ =>
  some σ11_) else
  Option.bind (loop2 (fun rec16_ (r19_ : Int32) (σ20_ : St) =>
  if r19_ < (σ20_ 21 5) then
  Option.bind (Option.bind (ag σ20_ 24 6 voter_a) fun x32_ =>
  if q11_isIn x32_ r19_ = true then (Option.bind (q7_stateWith σ20_ state_a r19_) fun x35_ =>
  some x35_) else (some (-1 : Int32))) fun x27_ =>
  Option.bind (if ¬ x27_ = (-1) then (Option.bind (ag σ20_ 25 448 (to3_ + x27_)) fun x45_ =>
  Option.bind (sa σ20_ 25 448 (to3_ + x27_) (x45_ + x1_)) fun σ47_ =>
  some (σ47_)) else (some (σ20_))) fun y38_ =>
  lt (r19_ + 1) fun r49_ =>
  rec16_ r49_ y38_
  else (some (r19_, σ20_))) fuelN (0 : Int32) σ) fun y13_ =>
  some y13_.2
abbrev rm7_spread : Room := { frames := 2, cells := 0, slots := 0, locals := 44 }
set_option maxHeartbeats 4000000 in
set_option maxRecDepth 100000 in
theorem p7_spread {Θ : Tz} {σ : St} {ρ : Option Value × St} (C : Zc Θ cX7_spread 7 RX7 none rm7_spread) (hkd : Θ.2.2.2.2.1 = kdC) {voter_a : Int32} {state_a : Int32} {r : St} (hf : q7_spread σ voter_a state_a = some r) (hρ : ρ = (none, r)) : Z Θ 7 0 0 (zQ Θ ρ) σ 0 [(0, .ref (zA Θ 21)), (1, .int voter_a), (2, .int state_a)] [] := by
  unfold q7_spread at hf
  refine z_aload_n C 0 dX7_spread_0 rfl rfl ?_
  refine fg7_21 C hkd dX7_spread_1 ?_
  refine z_iload_n C 1 dX7_spread_4 rfl rfl ?_
  refine z_bipush (v := 64) C dX7_spread_5 bp_64 ?_
  refine z_imul C dX7_spread_7 ?_
  refine z_iload_n C 2 dX7_spread_8 rfl rfl ?_
  refine z_iadd C dX7_spread_9 ?_
  obtain ⟨x1_, h2_, hf⟩ := ob hf
  refine z_ag C h2_ (kC_25 hkd) dX7_spread_10 ?_
  refine z_istN C dX7_spread_11 rfl rfl (Nat.le_of_ble_eq_true rfl) rfl ?_
  refine z_iload_n C 2 dX7_spread_12 rfl rfl ?_
  refine z_iconst (v := 1) C dX7_spread_13 ic_1 ?_
  refine z_iadd C dX7_spread_14 ?_
  refine z_bipush (v := 64) C dX7_spread_15 bp_64 ?_
  refine z_imul C dX7_spread_17 ?_
  obtain ⟨to3_, h4_, hf⟩ := lt_ hf
  refine z_ist C dX7_spread_18 h4_ (Nat.le_of_ble_eq_true rfl) rfl ?_
  have K5_ : ¬ (q11_isIn (σ 21 6) voter_a = true) → Z Θ 7 0 0 (zQ Θ ρ) σ 31 [(4, .int to3_), (3, .int x1_), (0, .ref (zA Θ 21)), (1, .int voter_a), (2, .int state_a)] [] := by
    intro h8_
    rw [if_pos h8_] at hf
    refine z_aload_n C 2 dX7_spread_31 rfl rfl ?_
    refine fg7_21 C hkd dX7_spread_32 ?_
    refine z_iload C 0 dX7_spread_35 rfl ?_
    refine z_iload_n C 4 dX7_spread_37 rfl rfl ?_
    refine z_iadd C dX7_spread_38 ?_
    refine z_dup2 C dX7_spread_39 rfl rfl ?_
    obtain ⟨x9_, h10_, hf⟩ := ob hf
    refine z_ag C h10_ (kC_25 hkd) dX7_spread_40 ?_
    refine z_iload_n C 1 dX7_spread_41 rfl rfl ?_
    refine z_iadd C dX7_spread_42 ?_
    obtain ⟨σ11_, h12_, hf⟩ := ob hf
    refine z_sa C h12_ (kC_25 hkd) dX7_spread_43 ?_
    cases hf
    subst hρ
    exact z_vret C dX7_spread_44
  suffices K6_ : ¬ (¬ (q11_isIn (σ 21 6) voter_a = true)) → Z Θ 7 0 0 (zQ Θ ρ) σ 45 [(4, .int to3_), (3, .int x1_), (0, .ref (zA Θ 21)), (1, .int voter_a), (2, .int state_a)] [] by
    refine z_aload_n C 2 dX7_spread_20 rfl rfl ?_
    refine fg7_31 C hkd dX7_spread_21 ?_
    refine z_iload_n C 3 dX7_spread_24 rfl rfl ?_
    refine cr7_63 (set_a := (σ 21 6)) (person_a := voter_a) C hkd  ⟨(Nat.le_of_ble_eq_true rfl), (Nat.le_of_ble_eq_true rfl)⟩ (Nat.le_of_ble_eq_true rfl) ⟨Nat.zero_le _, Nat.zero_le _⟩ dX7_spread_25 ?_
    refine cb_t C 45 dX7_spread_28 (by decide) (fun h7_ => ?_) (fun h7_ => ?_)
    · exact K6_ (fun n => n h7_)
    · exact K5_ h7_
  intro h8_
  rw [if_neg h8_] at hf
  refine z_iconst (v := 0) C dX7_spread_45 ic_0 ?_
  refine z_ist C dX7_spread_46 rfl (Nat.le_of_ble_eq_true rfl) rfl ?_
  refine Z.sub [3, 4, 5, 2, 1, 0] rfl ?_
  obtain ⟨y13_, h14_, hf⟩ := ob hf
  suffices K15_ : Z Θ 7 0 0 (zQ Θ ρ) y13_.2 110 [(0, .ref (zA Θ 21)), (1, .int voter_a), (2, .int state_a), (3, .int x1_), (4, .int to3_), (5, .int y13_.1)] [] by
    refine loop2_Z (P := fun (r19_ : Int32) (σ20_ : St) => Z Θ 7 0 0 (zQ Θ ρ) σ20_ 48 [(0, .ref (zA Θ 21)), (1, .int voter_a), (2, .int state_a), (3, .int x1_), (4, .int to3_), (5, .int r19_)] []) ?_ fuelN (0 : Int32) σ h14_
    clear h14_
    intro rec16_ r19_ σ20_ h17_ h18_
    have K23_ : r19_ < (σ20_ 21 5) → Z Θ 7 0 0 (zQ Θ ρ) σ20_ 57 [(0, .ref (zA Θ 21)), (1, .int voter_a), (2, .int state_a), (3, .int x1_), (4, .int to3_), (5, .int r19_)] [] := by
      intro h26_
      rw [if_pos h26_] at h18_
      obtain ⟨x27_, h28_, h18_⟩ := ob h18_
      suffices K29_ : Z Θ 7 0 0 (zQ Θ ρ) σ20_ 82 [(0, .ref (zA Θ 21)), (1, .int voter_a), (2, .int state_a), (3, .int x1_), (4, .int to3_), (5, .int r19_)] [.int x27_] by
        refine z_aload_n C 0 dX7_spread_57 rfl rfl ?_
        refine fg7_18 C hkd dX7_spread_58 ?_
        refine z_iload_n C 1 dX7_spread_61 rfl rfl ?_
        obtain ⟨x32_, h33_, h28_⟩ := ob h28_
        refine z_ag C h33_ (kC_24 hkd) dX7_spread_62 ?_
        refine z_iload C 5 dX7_spread_63 rfl ?_
        refine cr7_63 (set_a := x32_) (person_a := r19_) C hkd  ⟨(Nat.le_of_ble_eq_true rfl), (Nat.le_of_ble_eq_true rfl)⟩ (Nat.le_of_ble_eq_true rfl) ⟨Nat.zero_le _, Nat.zero_le _⟩ dX7_spread_65 ?_
        have K30_ : q11_isIn x32_ r19_ = true → Z Θ 7 0 0 (zQ Θ ρ) σ20_ 71 [(0, .ref (zA Θ 21)), (1, .int voter_a), (2, .int state_a), (3, .int x1_), (4, .int to3_), (5, .int r19_)] [] := by
          intro h37_
          rw [if_pos h37_] at h28_
          refine z_aload_n C 0 dX7_spread_71 rfl rfl ?_
          refine z_iload_n C 2 dX7_spread_72 rfl rfl ?_
          refine z_iload C 5 dX7_spread_73 rfl ?_
          obtain ⟨x35_, h36_, h28_⟩ := ob h28_
          refine cr7_104 (state_a := state_a) (runner_a := r19_) C hkd  h36_ ⟨(Nat.le_of_ble_eq_true rfl), (Nat.le_of_ble_eq_true rfl)⟩ (Nat.le_of_ble_eq_true rfl) ⟨Nat.zero_le _, Nat.zero_le _⟩ dX7_spread_75 ?_
          refine z_goto C 82 dX7_spread_78 (by decide) ?_
          cases h28_
          exact K29_
        have K31_ : ¬ (q11_isIn x32_ r19_ = true) → Z Θ 7 0 0 (zQ Θ ρ) σ20_ 81 [(0, .ref (zA Θ 21)), (1, .int voter_a), (2, .int state_a), (3, .int x1_), (4, .int to3_), (5, .int r19_)] [] := by
          intro h37_
          rw [if_neg h37_] at h28_
          refine z_iconst (v := (-1)) C dX7_spread_81 ic_m1 ?_
          cases h28_
          exact K29_
        refine cb_f C 81 dX7_spread_68 (by decide) (fun h34_ => ?_) (fun h34_ => ?_)
        · exact K30_ h34_
        · exact K31_ h34_
      refine z_ist C dX7_spread_82 rfl (Nat.le_of_ble_eq_true rfl) rfl ?_
      obtain ⟨y38_, h39_, h18_⟩ := ob h18_
      suffices K40_ : Z Θ 7 0 0 (zQ Θ ρ) y38_ 104 [(0, .ref (zA Θ 21)), (1, .int voter_a), (2, .int state_a), (3, .int x1_), (4, .int to3_), (5, .int r19_), (6, .int x27_)] [] by
        have K41_ : ¬ x27_ = (-1) → Z Θ 7 0 0 (zQ Θ ρ) σ20_ 90 [(6, .int x27_), (0, .ref (zA Θ 21)), (1, .int voter_a), (2, .int state_a), (3, .int x1_), (4, .int to3_), (5, .int r19_)] [] := by
          intro h44_
          rw [if_pos h44_] at h39_
          refine z_aload_n C 1 dX7_spread_90 rfl rfl ?_
          refine fg7_21 C hkd dX7_spread_91 ?_
          refine z_iload C 5 dX7_spread_94 rfl ?_
          refine z_iload C 0 dX7_spread_96 rfl ?_
          refine z_iadd C dX7_spread_98 ?_
          refine z_dup2 C dX7_spread_99 rfl rfl ?_
          obtain ⟨x45_, h46_, h39_⟩ := ob h39_
          refine z_ag C h46_ (kC_25 hkd) dX7_spread_100 ?_
          refine z_iload_n C 4 dX7_spread_101 rfl rfl ?_
          refine z_iadd C dX7_spread_102 ?_
          obtain ⟨σ47_, h48_, h39_⟩ := ob h39_
          refine z_sa C h48_ (kC_25 hkd) dX7_spread_103 ?_
          cases h39_
          refine Z.sub [1, 2, 3, 4, 5, 6, 0] rfl ?_
          exact K40_
        have K42_ : ¬ (¬ x27_ = (-1)) → Z Θ 7 0 0 (zQ Θ ρ) σ20_ 104 [(6, .int x27_), (0, .ref (zA Θ 21)), (1, .int voter_a), (2, .int state_a), (3, .int x1_), (4, .int to3_), (5, .int r19_)] [] := by
          intro h44_
          rw [if_neg h44_] at h39_
          cases h39_
          refine Z.sub [1, 2, 3, 4, 5, 6, 0] rfl ?_
          exact K40_
        refine z_iload C 0 dX7_spread_84 rfl ?_
        refine z_iconst (v := (-1)) C dX7_spread_86 ic_m1 ?_
        refine c_ne_f C 104 dX7_spread_87 (by decide) (fun h43_ => ?_) (fun h43_ => ?_)
        · exact K41_ h43_
        · exact K42_ h43_
      obtain ⟨r49_, h50_, h18_⟩ := lt_ h18_
      refine z_inc C 5 dX7_spread_104 rfl ic_1 h50_ (Nat.le_of_ble_eq_true rfl) rfl ?_
      refine z_goto C 48 dX7_spread_107 (by decide) ?_
      refine Z.sub [1, 2, 3, 4, 5, 0] rfl ?_
      exact h17_ _ _ h18_
    have K24_ : ¬ (r19_ < (σ20_ 21 5)) → Z Θ 7 0 0 (zQ Θ ρ) σ20_ 110 [(0, .ref (zA Θ 21)), (1, .int voter_a), (2, .int state_a), (3, .int x1_), (4, .int to3_), (5, .int r19_)] [] := by
      intro h26_
      rw [if_neg h26_] at h18_
      cases h18_
      exact K15_
    refine z_iload C 5 dX7_spread_48 rfl ?_
    refine z_aload_n C 0 dX7_spread_50 rfl rfl ?_
    refine fg7_27 C hkd dX7_spread_51 ?_
    refine c_lt_f C 110 dX7_spread_54 (by decide) (fun h25_ => ?_) (fun h25_ => ?_)
    · exact K23_ h25_
    · exact K24_ h25_
  cases hf
  subst hρ
  exact z_vret C dX7_spread_110
theorem c7_spread {l : Launch} {kd : List KD} {w : Wp} {σ : St} {voter_a : Int32} {state_a : Int32} (hkd : kd = kdC) (hi : zI kd w) {r : St} (hf : q7_spread σ voter_a state_a = some r) : zM l kd w yX7_spread cX7_spread 7 none rm7_spread [.ref (w.2.2.1 21), .int voter_a, .int state_a] σ (none, r) := zM_of rfl hi (Nat.le_of_ble_eq_true rfl) (fun Θ hl hw C => by
  obtain ⟨Θ1, Θ2, Θ3, Θ4, Θ5⟩ := Θ
  cases hw
  exact p7_spread C hkd  hf rfl)
/-! LastLoaf$SecretBallots.countBefore -/
theorem w_7_70 : Cond.code ({ cls := "LastLoaf$SecretBallots", name := "spread", desc := "(II)V" } : MethodName) prog_9_method_8_code (7 : Nat) (Option.none : Option ClassFile.FieldType) ∈ TB := tb_in (lwt_7 (List.mem_of_getElem? (i := 70) (by decide +kernel))) rfl
theorem w_7_67 : Cond.methodLink "LastLoaf$SecretBallots" (100 : Nat) ({ cls := "LastLoaf$SecretBallots", name := "spread", desc := "(II)V" } : MethodName) ∈ TB := tb_in (lwt_7 (List.mem_of_getElem? (i := 67) (by decide +kernel))) rfl
theorem w_7_68 : Cond.instanceMethod ({ cls := "LastLoaf$SecretBallots", name := "spread", desc := "(II)V" } : MethodName) ∈ TB := tb_in (lwt_7 (List.mem_of_getElem? (i := 68) (by decide +kernel))) rfl
theorem w_7_69 : Cond.selects "LastLoaf$SecretBallots" ({ cls := "LastLoaf$SecretBallots", name := "spread", desc := "(II)V" } : MethodName) ({ cls := "LastLoaf$SecretBallots", name := "spread", desc := "(II)V" } : MethodName) ∈ TB := tb_in (lwt_7 (List.mem_of_getElem? (i := 69) (by decide +kernel))) rfl
theorem cr7_100 {Θ : Tz} {cc : ByteArray} {nL kc ks : Nat} {ret : Option FieldType} {rm : Room} {Q : State → Prop} {σ : St} {pc : Nat} {lv : List (Nat × Value)} {st : List Value} (C : Zc Θ cc nL RX7 ret rm) (hkd : Θ.2.2.2.2.1 = kdC) {voter_a : Int32} {state_a : Int32} {r : St} (hx : q7_spread σ voter_a state_a = some r) (hrm : rm7_spread.frames + 1 ≤ rm.frames ∧ 8 + (7 + 11) + rm7_spread.locals ≤ rm.locals) (hcat : (st.map fun v => v.category).sum ≤ 8) (hk : kc ≤ rm.cells ∧ ks ≤ rm.slots) (hd : decode cc pc = .ok (.invokevirtual 100, 3)) (kk : Z Θ nL kc ks Q r (pc + 3) lv st) : Z Θ nL kc ks Q σ pc lv (.int state_a :: .int voter_a :: .ref (zA Θ 21) :: st) := z_callV C 21 [.int voter_a, .int state_a] (none, r) 2 (kC_21 hkd) rfl (c7_spread (voter_a := voter_a) (state_a := state_a) hkd (zc_inj C) hx) w_7_70 w_7_67 w_7_68 w_7_69 w_1_12 ⟨rfl, rfl, hrm.1, hrm.2⟩ (by decide +kernel) rfl rfl hcat hk hd kk
theorem dX7_countBefore_0 : decode cX7_countBefore 0 = .ok (.aload_n 0, 1) := by decide +kernel
theorem dX7_countBefore_1 : decode cX7_countBefore 1 = .ok (.getfield 21, 3) := by decide +kernel
theorem dX7_countBefore_4 : decode cX7_countBefore 4 = .ok (.iconst 0, 1) := by decide +kernel
theorem dX7_countBefore_5 : decode cX7_countBefore 5 = .ok (.invokestatic 46, 3) := by decide +kernel
theorem dX7_countBefore_8 : decode cX7_countBefore 8 = .ok (.aload_n 0, 1) := by decide +kernel
theorem dX7_countBefore_9 : decode cX7_countBefore 9 = .ok (.getfield 21, 3) := by decide +kernel
theorem dX7_countBefore_12 : decode cX7_countBefore 12 = .ok (.iconst 0, 1) := by decide +kernel
theorem dX7_countBefore_13 : decode cX7_countBefore 13 = .ok (.iconst 1, 1) := by decide +kernel
theorem dX7_countBefore_14 : decode cX7_countBefore 14 = .ok (.iastore, 1) := by decide +kernel
theorem dX7_countBefore_15 : decode cX7_countBefore 15 = .ok (.iconst 0, 1) := by decide +kernel
theorem dX7_countBefore_16 : decode cX7_countBefore 16 = .ok (.istore_n 1, 1) := by decide +kernel
theorem dX7_countBefore_17 : decode cX7_countBefore 17 = .ok (.iload_n 1, 1) := by decide +kernel
theorem dX7_countBefore_18 : decode cX7_countBefore 18 = .ok (.aload_n 0, 1) := by decide +kernel
theorem dX7_countBefore_19 : decode cX7_countBefore 19 = .ok (.getfield 27, 3) := by decide +kernel
theorem dX7_countBefore_22 : decode cX7_countBefore 22 = .ok (.if_icmp .ge 37, 3) := by decide +kernel
theorem dX7_countBefore_25 : decode cX7_countBefore 25 = .ok (.iconst 0, 1) := by decide +kernel
theorem dX7_countBefore_26 : decode cX7_countBefore 26 = .ok (.istore_n 2, 1) := by decide +kernel
theorem dX7_countBefore_27 : decode cX7_countBefore 27 = .ok (.iload_n 2, 1) := by decide +kernel
theorem dX7_countBefore_28 : decode cX7_countBefore 28 = .ok (.aload_n 0, 1) := by decide +kernel
theorem dX7_countBefore_29 : decode cX7_countBefore 29 = .ok (.getfield 34, 3) := by decide +kernel
theorem dX7_countBefore_32 : decode cX7_countBefore 32 = .ok (.if_icmp .ge 21, 3) := by decide +kernel
theorem dX7_countBefore_35 : decode cX7_countBefore 35 = .ok (.iload_n 2, 1) := by decide +kernel
theorem dX7_countBefore_36 : decode cX7_countBefore 36 = .ok (.bipush 64, 2) := by decide +kernel
theorem dX7_countBefore_38 : decode cX7_countBefore 38 = .ok (.if_icmp .ge 15, 3) := by decide +kernel
theorem dX7_countBefore_41 : decode cX7_countBefore 41 = .ok (.aload_n 0, 1) := by decide +kernel
theorem dX7_countBefore_42 : decode cX7_countBefore 42 = .ok (.iload_n 1, 1) := by decide +kernel
theorem dX7_countBefore_43 : decode cX7_countBefore 43 = .ok (.iload_n 2, 1) := by decide +kernel
theorem dX7_countBefore_44 : decode cX7_countBefore 44 = .ok (.invokevirtual 100, 3) := by decide +kernel
theorem dX7_countBefore_47 : decode cX7_countBefore 47 = .ok (.iinc 2 1, 3) := by decide +kernel
theorem dX7_countBefore_50 : decode cX7_countBefore 50 = .ok (.goto (-23), 3) := by decide +kernel
theorem dX7_countBefore_53 : decode cX7_countBefore 53 = .ok (.iinc 1 1, 3) := by decide +kernel
theorem dX7_countBefore_56 : decode cX7_countBefore 56 = .ok (.goto (-39), 3) := by decide +kernel
theorem dX7_countBefore_59 : decode cX7_countBefore 59 = .ok (.return_, 1) := by decide +kernel
def q7_countBefore (σ : St) : Option St :=
  lt (fil σ 25 448 0) fun σ1_ =>
  Option.bind (sa σ1_ 25 448 0 1) fun σ3_ =>
  Option.bind (loop2 (fun rec8_ (v11_ : Int32) (σ12_ : St) =>
  if v11_ < (σ12_ 21 5) then
  Option.bind (loop2 (fun rec22_ (s25_ : Int32) (σ26_ : St) =>
  if (s25_ < (σ26_ 21 7)) ∧ (s25_ < 64) then
  Option.bind (q7_spread σ26_ v11_ s25_) fun x34_ =>
  lt (s25_ + 1) fun s36_ =>
  rec22_ s36_ x34_
  else (some (s25_, σ26_))) fuelN (0 : Int32) σ12_) fun y19_ =>
  lt (v11_ + 1) fun v38_ =>
  rec8_ v38_ y19_.2
  else (some (v11_, σ12_))) fuelN (0 : Int32) σ3_) fun y5_ =>
  some y5_.2
abbrev rm7_countBefore : Room := { frames := 3, cells := 0, slots := 0, locals := 70 }
set_option maxHeartbeats 4000000 in
set_option maxRecDepth 100000 in
theorem p7_countBefore {Θ : Tz} {σ : St} {ρ : Option Value × St} (C : Zc Θ cX7_countBefore 3 RX7 none rm7_countBefore) (hkd : Θ.2.2.2.2.1 = kdC) {r : St} (hf : q7_countBefore σ = some r) (hρ : ρ = (none, r)) : Z Θ 3 0 0 (zQ Θ ρ) σ 0 [(0, .ref (zA Θ 21))] [] := by
  unfold q7_countBefore at hf
  refine z_aload_n C 0 dX7_countBefore_0 rfl rfl ?_
  refine fg7_21 C hkd dX7_countBefore_1 ?_
  refine z_iconst (v := 0) C dX7_countBefore_4 ic_0 ?_
  obtain ⟨σ1_, h2_, hf⟩ := lt_ hf
  refine z_callS C [.ref (zA Θ 25), .int 0] (none, fil σ 25 448 0) 2 (cJ_fill (zc_inj C) (kC_25 hkd) (Nat.le_of_ble_eq_true rfl)) w_1_90 w_7_46 w_1_89 w_1_5 ⟨rfl, rfl, (Nat.le_of_ble_eq_true rfl), (Nat.le_of_ble_eq_true rfl)⟩ (by decide +kernel) rfl rfl (Nat.le_of_ble_eq_true rfl) ⟨Nat.zero_le _, Nat.zero_le _⟩ dX7_countBefore_5 ?_
  rw [← h2_]
  refine z_aload_n C 0 dX7_countBefore_8 rfl rfl ?_
  refine fg7_21 C hkd dX7_countBefore_9 ?_
  refine z_iconst (v := 0) C dX7_countBefore_12 ic_0 ?_
  refine z_iconst (v := 1) C dX7_countBefore_13 ic_1 ?_
  obtain ⟨σ3_, h4_, hf⟩ := ob hf
  refine z_sa C h4_ (kC_25 hkd) dX7_countBefore_14 ?_
  refine z_iconst (v := 0) C dX7_countBefore_15 ic_0 ?_
  refine z_istN C dX7_countBefore_16 rfl rfl (Nat.le_of_ble_eq_true rfl) rfl ?_
  refine Z.sub [1, 0] rfl ?_
  obtain ⟨y5_, h6_, hf⟩ := ob hf
  suffices K7_ : Z Θ 3 0 0 (zQ Θ ρ) y5_.2 59 [(0, .ref (zA Θ 21)), (1, .int y5_.1)] [] by
    refine loop2_Z (P := fun (v11_ : Int32) (σ12_ : St) => Z Θ 3 0 0 (zQ Θ ρ) σ12_ 17 [(0, .ref (zA Θ 21)), (1, .int v11_)] []) ?_ fuelN (0 : Int32) σ3_ h6_
    clear h6_
    intro rec8_ v11_ σ12_ h9_ h10_
    have K15_ : v11_ < (σ12_ 21 5) → Z Θ 3 0 0 (zQ Θ ρ) σ12_ 25 [(0, .ref (zA Θ 21)), (1, .int v11_)] [] := by
      intro h18_
      rw [if_pos h18_] at h10_
      refine z_iconst (v := 0) C dX7_countBefore_25 ic_0 ?_
      refine z_istN C dX7_countBefore_26 rfl rfl (Nat.le_of_ble_eq_true rfl) rfl ?_
      refine Z.sub [1, 2, 0] rfl ?_
      obtain ⟨y19_, h20_, h10_⟩ := ob h10_
      suffices K21_ : Z Θ 3 0 0 (zQ Θ ρ) y19_.2 53 [(0, .ref (zA Θ 21)), (1, .int v11_), (2, .int y19_.1)] [] by
        refine loop2_Z (P := fun (s25_ : Int32) (σ26_ : St) => Z Θ 3 0 0 (zQ Θ ρ) σ26_ 27 [(0, .ref (zA Θ 21)), (1, .int v11_), (2, .int s25_)] []) ?_ fuelN (0 : Int32) σ12_ h20_
        clear h20_
        intro rec22_ s25_ σ26_ h23_ h24_
        have K29_ : (s25_ < (σ26_ 21 7)) ∧ (s25_ < 64) → Z Θ 3 0 0 (zQ Θ ρ) σ26_ 41 [(0, .ref (zA Θ 21)), (1, .int v11_), (2, .int s25_)] [] := by
          intro h33_
          rw [if_pos h33_] at h24_
          refine z_aload_n C 0 dX7_countBefore_41 rfl rfl ?_
          refine z_iload_n C 1 dX7_countBefore_42 rfl rfl ?_
          refine z_iload_n C 2 dX7_countBefore_43 rfl rfl ?_
          obtain ⟨x34_, h35_, h24_⟩ := ob h24_
          refine cr7_100 (voter_a := v11_) (state_a := s25_) C hkd  h35_ ⟨(Nat.le_of_ble_eq_true rfl), (Nat.le_of_ble_eq_true rfl)⟩ (Nat.le_of_ble_eq_true rfl) ⟨Nat.zero_le _, Nat.zero_le _⟩ dX7_countBefore_44 ?_
          obtain ⟨s36_, h37_, h24_⟩ := lt_ h24_
          refine z_inc C 2 dX7_countBefore_47 rfl ic_1 h37_ (Nat.le_of_ble_eq_true rfl) rfl ?_
          refine z_goto C 27 dX7_countBefore_50 (by decide) ?_
          refine Z.sub [1, 2, 0] rfl ?_
          exact h23_ _ _ h24_
        have K30_ : ¬ ((s25_ < (σ26_ 21 7)) ∧ (s25_ < 64)) → Z Θ 3 0 0 (zQ Θ ρ) σ26_ 53 [(0, .ref (zA Θ 21)), (1, .int v11_), (2, .int s25_)] [] := by
          intro h33_
          rw [if_neg h33_] at h24_
          cases h24_
          exact K21_
        refine z_iload_n C 2 dX7_countBefore_27 rfl rfl ?_
        refine z_aload_n C 0 dX7_countBefore_28 rfl rfl ?_
        refine fg7_34 C hkd dX7_countBefore_29 ?_
        refine c_lt_f C 53 dX7_countBefore_32 (by decide) (fun h31_ => ?_) (fun h31_ => ?_)
        · refine z_iload_n C 2 dX7_countBefore_35 rfl rfl ?_
          refine z_bipush (v := 64) C dX7_countBefore_36 bp_64 ?_
          refine c_lt_f C 53 dX7_countBefore_38 (by decide) (fun h32_ => ?_) (fun h32_ => ?_)
          · exact K29_ ⟨h31_, h32_⟩
          · exact K30_ (fun n => h32_ n.2)
        · exact K30_ (fun n => h31_ n.1)
      obtain ⟨v38_, h39_, h10_⟩ := lt_ h10_
      refine z_inc C 1 dX7_countBefore_53 rfl ic_1 h39_ (Nat.le_of_ble_eq_true rfl) rfl ?_
      refine z_goto C 17 dX7_countBefore_56 (by decide) ?_
      refine Z.sub [1, 0] rfl ?_
      exact h9_ _ _ h10_
    have K16_ : ¬ (v11_ < (σ12_ 21 5)) → Z Θ 3 0 0 (zQ Θ ρ) σ12_ 59 [(0, .ref (zA Θ 21)), (1, .int v11_)] [] := by
      intro h18_
      rw [if_neg h18_] at h10_
      cases h10_
      exact K7_
    refine z_iload_n C 1 dX7_countBefore_17 rfl rfl ?_
    refine z_aload_n C 0 dX7_countBefore_18 rfl rfl ?_
    refine fg7_27 C hkd dX7_countBefore_19 ?_
    refine c_lt_f C 59 dX7_countBefore_22 (by decide) (fun h17_ => ?_) (fun h17_ => ?_)
    · exact K15_ h17_
    · exact K16_ h17_
  cases hf
  subst hρ
  exact z_vret C dX7_countBefore_59
theorem c7_countBefore {l : Launch} {kd : List KD} {w : Wp} {σ : St} (hkd : kd = kdC) (hi : zI kd w) {r : St} (hf : q7_countBefore σ = some r) : zM l kd w yX7_countBefore cX7_countBefore 3 none rm7_countBefore [.ref (w.2.2.1 21)] σ (none, r) := zM_of rfl hi (Nat.le_of_ble_eq_true rfl) (fun Θ hl hw C => by
  obtain ⟨Θ1, Θ2, Θ3, Θ4, Θ5⟩ := Θ
  cases hw
  exact p7_countBefore C hkd  hf rfl)

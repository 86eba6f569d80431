theorem dX8_init_0 : decode cX8_init 0 = .ok (.aload_n 0, 1) := by decide +kernel
theorem dX8_init_1 : decode cX8_init 1 = .ok (.invokespecial 3, 3) := by decide +kernel
theorem w_1_43 : Cond.methodLink "LastLoaf$Tape" (3 : Nat) ({ cls := "java/lang/Object", name := "<init>", desc := "()V" } : MethodName) ∈ TB := tb_in (lwt_1 (List.mem_of_getElem? (i := 43) (by decide +kernel))) rfl
theorem w_1_36 : Cond.instanceMethod ({ cls := "java/lang/Object", name := "<init>", desc := "()V" } : MethodName) ∈ TB := tb_in (lwt_1 (List.mem_of_getElem? (i := 36) (by decide +kernel))) rfl
theorem w_1_37 : Cond.code ({ cls := "java/lang/Object", name := "<init>", desc := "()V" } : MethodName) object_method_1_code (1 : Nat) (Option.none : Option ClassFile.FieldType) ∈ TB := tb_in (lwt_1 (List.mem_of_getElem? (i := 37) (by decide +kernel))) rfl
theorem dX8_init_4 : decode cX8_init 4 = .ok (.aload_n 0, 1) := by decide +kernel
theorem dX8_init_5 : decode cX8_init 5 = .ok (.sipush 400, 3) := by decide +kernel
theorem dX8_init_8 : decode cX8_init 8 = .ok (.newarray .int, 2) := by decide +kernel
theorem w_1_64 : Cond.arrayClass ClassFile.FieldType.int ∈ TB := tb_in (lwt_1 (List.mem_of_getElem? (i := 64) (by decide +kernel))) rfl
theorem dX8_init_10 : decode cX8_init 10 = .ok (.putfield 9, 3) := by decide +kernel
theorem dX8_init_13 : decode cX8_init 13 = .ok (.aload_n 0, 1) := by decide +kernel
theorem dX8_init_14 : decode cX8_init 14 = .ok (.iconst 0, 1) := by decide +kernel
theorem dX8_init_15 : decode cX8_init 15 = .ok (.putfield 15, 3) := by decide +kernel
theorem dX8_init_18 : decode cX8_init 18 = .ok (.aload_n 0, 1) := by decide +kernel
theorem dX8_init_19 : decode cX8_init 19 = .ok (.iconst 0, 1) := by decide +kernel
theorem dX8_init_20 : decode cX8_init 20 = .ok (.putfield 19, 3) := by decide +kernel
theorem dX8_init_23 : decode cX8_init 23 = .ok (.aload_n 0, 1) := by decide +kernel
theorem dX8_init_24 : decode cX8_init 24 = .ok (.iconst 0, 1) := by decide +kernel
theorem dX8_init_25 : decode cX8_init 25 = .ok (.putfield 22, 3) := by decide +kernel
theorem dX8_init_28 : decode cX8_init 28 = .ok (.aload_n 0, 1) := by decide +kernel
theorem dX8_init_29 : decode cX8_init 29 = .ok (.iconst 0, 1) := by decide +kernel
theorem dX8_init_30 : decode cX8_init 30 = .ok (.putfield 25, 3) := by decide +kernel
theorem dX8_init_33 : decode cX8_init 33 = .ok (.return_, 1) := by decide +kernel
/-! LastLoaf$Tape.<init> -/
def ch8 (w : Wp) (b n : Nat) : List va_E := .inr (8, [.ref (b + (n + 1)), .int 0, .int 0, .int 0, .int 0]) :: ([] ++ [.inl (w.2.1.1, 400, .inl (fun _ => 0))])
abbrev rmI8 : Room := { frames := 1, cells := 1, slots := 400, locals := 40 }
set_option maxHeartbeats 8000000 in
set_option maxRecDepth 100000 in
theorem k8_init {l : Launch} {w : Wp} {b n : Nat} {Q : List va_E} (hQ : Q.length = n) : yM l w yX8_init cX8_init 1 rmI8 [.ref (b + n)] b (Q ++ [.inr (8, [.null, .int 0, .int 0, .int 0, .int 0])]) (Q ++ ch8 w b n) 1 400 := yM_of rfl (Nat.le_of_ble_eq_true rfl) (fun Θ hl0 hw C hnm => by
  subst hw
  refine y_cs (cs' := Q ++ .inr (8, [.null, .int 0, .int 0, .int 0, .int 0]) :: []) rfl ?_
  refine y_aload_n C 0 dX8_init_0 rfl rfl ?_
  refine y_objInit C w_1_43 w_1_36 w_1_37 dX8_init_1 ⟨(Nat.le_of_ble_eq_true rfl), (Nat.le_of_ble_eq_true rfl)⟩ ?_
  refine y_aload_n C 0 dX8_init_4 rfl rfl ?_
  refine y_sipush (v := 400) C dX8_init_5 sp_400 ?_
  refine y_newa (N := 400) (n := n + 1) (cs' := Q ++ .inr (8, [.null, .int 0, .int 0, .int 0, .int 0]) :: ([] ++ [.inl (Θ.2.2.2.2.2.2.1.1, 400, .inl (fun _ => 0))])) C w_1_64 (by decide) (by decide) (by decide) (cq_len hQ rfl) cq_app ⟨(Nat.le_of_ble_eq_true rfl), (Nat.le_of_ble_eq_true rfl)⟩ dX8_init_8 ?_
  refine y_put (cs' := Q ++ .inr (8, [.ref (b + (n + 1)), .int 0, .int 0, .int 0, .int 0]) :: ([] ++ [.inl (Θ.2.2.2.2.2.2.1.1, 400, .inl (fun _ => 0))])) C hnm inT8 tyX8_ok nmX8 n (cq_get0 hQ) rfl 0 (by decide) w_1_44 rfl rfl rfl (by decide) (cq_put hQ rfl) dX8_init_10 ?_
  refine y_aload_n C 0 dX8_init_13 rfl rfl ?_
  refine y_iconst (v := 0) C dX8_init_14 ic_0 ?_
  refine y_put (cs' := Q ++ .inr (8, [.ref (b + (n + 1)), .int 0, .int 0, .int 0, .int 0]) :: ([] ++ [.inl (Θ.2.2.2.2.2.2.1.1, 400, .inl (fun _ => 0))])) C hnm inT8 tyX8_ok nmX8 n (cq_get0 hQ) rfl 1 (by decide) w_1_46 rfl rfl rfl (by decide) (cq_put hQ rfl) dX8_init_15 ?_
  refine y_aload_n C 0 dX8_init_18 rfl rfl ?_
  refine y_iconst (v := 0) C dX8_init_19 ic_0 ?_
  refine y_put (cs' := Q ++ .inr (8, [.ref (b + (n + 1)), .int 0, .int 0, .int 0, .int 0]) :: ([] ++ [.inl (Θ.2.2.2.2.2.2.1.1, 400, .inl (fun _ => 0))])) C hnm inT8 tyX8_ok nmX8 n (cq_get0 hQ) rfl 2 (by decide) w_1_49 rfl rfl rfl (by decide) (cq_put hQ rfl) dX8_init_20 ?_
  refine y_aload_n C 0 dX8_init_23 rfl rfl ?_
  refine y_iconst (v := 0) C dX8_init_24 ic_0 ?_
  refine y_put (cs' := Q ++ .inr (8, [.ref (b + (n + 1)), .int 0, .int 0, .int 0, .int 0]) :: ([] ++ [.inl (Θ.2.2.2.2.2.2.1.1, 400, .inl (fun _ => 0))])) C hnm inT8 tyX8_ok nmX8 n (cq_get0 hQ) rfl 3 (by decide) w_1_51 rfl rfl rfl (by decide) (cq_put hQ rfl) dX8_init_25 ?_
  refine y_aload_n C 0 dX8_init_28 rfl rfl ?_
  refine y_iconst (v := 0) C dX8_init_29 ic_0 ?_
  refine y_put (cs' := Q ++ .inr (8, [.ref (b + (n + 1)), .int 0, .int 0, .int 0, .int 0]) :: ([] ++ [.inl (Θ.2.2.2.2.2.2.1.1, 400, .inl (fun _ => 0))])) C hnm inT8 tyX8_ok nmX8 n (cq_get0 hQ) rfl 4 (by decide) w_1_52 rfl rfl rfl (by decide) (cq_put hQ rfl) dX8_init_30 ?_
  exact y_vret C ⟨Nat.le_refl _, Nat.le_refl _⟩ dX8_init_33)
theorem dX3_init_0 : decode cX3_init 0 = .ok (.aload_n 0, 1) := by decide +kernel
theorem dX3_init_1 : decode cX3_init 1 = .ok (.invokespecial 3, 3) := by decide +kernel
theorem w_1_76 : Cond.methodLink "LastLoaf$Log" (3 : Nat) ({ cls := "java/lang/Object", name := "<init>", desc := "()V" } : MethodName) ∈ TB := tb_in (lwt_1 (List.mem_of_getElem? (i := 76) (by decide +kernel))) rfl
theorem dX3_init_4 : decode cX3_init 4 = .ok (.aload_n 0, 1) := by decide +kernel
theorem dX3_init_5 : decode cX3_init 5 = .ok (.sipush 240, 3) := by decide +kernel
theorem dX3_init_8 : decode cX3_init 8 = .ok (.newarray .int, 2) := by decide +kernel
theorem dX3_init_10 : decode cX3_init 10 = .ok (.putfield 9, 3) := by decide +kernel
theorem dX3_init_13 : decode cX3_init 13 = .ok (.aload_n 0, 1) := by decide +kernel
theorem dX3_init_14 : decode cX3_init 14 = .ok (.iconst 0, 1) := by decide +kernel
theorem dX3_init_15 : decode cX3_init 15 = .ok (.putfield 15, 3) := by decide +kernel
theorem dX3_init_18 : decode cX3_init 18 = .ok (.aload_n 0, 1) := by decide +kernel
theorem dX3_init_19 : decode cX3_init 19 = .ok (.iconst 0, 1) := by decide +kernel
theorem dX3_init_20 : decode cX3_init 20 = .ok (.putfield 19, 3) := by decide +kernel
theorem dX3_init_23 : decode cX3_init 23 = .ok (.return_, 1) := by decide +kernel
/-! LastLoaf$Log.<init> -/
def ch3 (w : Wp) (b n : Nat) : List va_E := .inr (3, [.ref (b + (n + 1)), .int 0, .int 0]) :: ([] ++ [.inl (w.2.1.1, 240, .inl (fun _ => 0))])
abbrev rmI3 : Room := { frames := 1, cells := 1, slots := 240, locals := 40 }
set_option maxHeartbeats 8000000 in
set_option maxRecDepth 100000 in
theorem k3_init {l : Launch} {w : Wp} {b n : Nat} {Q : List va_E} (hQ : Q.length = n) : yM l w yX3_init cX3_init 1 rmI3 [.ref (b + n)] b (Q ++ [.inr (3, [.null, .int 0, .int 0])]) (Q ++ ch3 w b n) 1 240 := yM_of rfl (Nat.le_of_ble_eq_true rfl) (fun Θ hl0 hw C hnm => by
  subst hw
  refine y_cs (cs' := Q ++ .inr (3, [.null, .int 0, .int 0]) :: []) rfl ?_
  refine y_aload_n C 0 dX3_init_0 rfl rfl ?_
  refine y_objInit C w_1_76 w_1_36 w_1_37 dX3_init_1 ⟨(Nat.le_of_ble_eq_true rfl), (Nat.le_of_ble_eq_true rfl)⟩ ?_
  refine y_aload_n C 0 dX3_init_4 rfl rfl ?_
  refine y_sipush (v := 240) C dX3_init_5 sp_240 ?_
  refine y_newa (N := 240) (n := n + 1) (cs' := Q ++ .inr (3, [.null, .int 0, .int 0]) :: ([] ++ [.inl (Θ.2.2.2.2.2.2.1.1, 240, .inl (fun _ => 0))])) C w_1_64 (by decide) (by decide) (by decide) (cq_len hQ rfl) cq_app ⟨(Nat.le_of_ble_eq_true rfl), (Nat.le_of_ble_eq_true rfl)⟩ dX3_init_8 ?_
  refine y_put (cs' := Q ++ .inr (3, [.ref (b + (n + 1)), .int 0, .int 0]) :: ([] ++ [.inl (Θ.2.2.2.2.2.2.1.1, 240, .inl (fun _ => 0))])) C hnm inT3 tyX3_ok nmX3 n (cq_get0 hQ) rfl 0 (by decide) w_1_77 rfl rfl rfl (by decide) (cq_put hQ rfl) dX3_init_10 ?_
  refine y_aload_n C 0 dX3_init_13 rfl rfl ?_
  refine y_iconst (v := 0) C dX3_init_14 ic_0 ?_
  refine y_put (cs' := Q ++ .inr (3, [.ref (b + (n + 1)), .int 0, .int 0]) :: ([] ++ [.inl (Θ.2.2.2.2.2.2.1.1, 240, .inl (fun _ => 0))])) C hnm inT3 tyX3_ok nmX3 n (cq_get0 hQ) rfl 1 (by decide) w_1_78 rfl rfl rfl (by decide) (cq_put hQ rfl) dX3_init_15 ?_
  refine y_aload_n C 0 dX3_init_18 rfl rfl ?_
  refine y_iconst (v := 0) C dX3_init_19 ic_0 ?_
  refine y_put (cs' := Q ++ .inr (3, [.ref (b + (n + 1)), .int 0, .int 0]) :: ([] ++ [.inl (Θ.2.2.2.2.2.2.1.1, 240, .inl (fun _ => 0))])) C hnm inT3 tyX3_ok nmX3 n (cq_get0 hQ) rfl 2 (by decide) w_1_80 rfl rfl rfl (by decide) (cq_put hQ rfl) dX3_init_20 ?_
  exact y_vret C ⟨Nat.le_refl _, Nat.le_refl _⟩ dX3_init_23)
theorem dX10_init_0 : decode cX10_init 0 = .ok (.aload_n 0, 1) := by decide +kernel
theorem dX10_init_1 : decode cX10_init 1 = .ok (.invokespecial 3, 3) := by decide +kernel
theorem w_1_70 : Cond.methodLink "LastLoaf$Village" (3 : Nat) ({ cls := "java/lang/Object", name := "<init>", desc := "()V" } : MethodName) ∈ TB := tb_in (lwt_1 (List.mem_of_getElem? (i := 70) (by decide +kernel))) rfl
theorem dX10_init_4 : decode cX10_init 4 = .ok (.aload_n 0, 1) := by decide +kernel
theorem dX10_init_5 : decode cX10_init 5 = .ok (.bipush 6, 2) := by decide +kernel
theorem dX10_init_7 : decode cX10_init 7 = .ok (.newarray .int, 2) := by decide +kernel
theorem dX10_init_9 : decode cX10_init 9 = .ok (.putfield 9, 3) := by decide +kernel
theorem dX10_init_12 : decode cX10_init 12 = .ok (.aload_n 0, 1) := by decide +kernel
theorem dX10_init_13 : decode cX10_init 13 = .ok (.bipush 6, 2) := by decide +kernel
theorem dX10_init_15 : decode cX10_init 15 = .ok (.newarray .int, 2) := by decide +kernel
theorem dX10_init_17 : decode cX10_init 17 = .ok (.putfield 15, 3) := by decide +kernel
theorem dX10_init_20 : decode cX10_init 20 = .ok (.aload_n 0, 1) := by decide +kernel
theorem dX10_init_21 : decode cX10_init 21 = .ok (.bipush 6, 2) := by decide +kernel
theorem dX10_init_23 : decode cX10_init 23 = .ok (.newarray .int, 2) := by decide +kernel
theorem dX10_init_25 : decode cX10_init 25 = .ok (.putfield 18, 3) := by decide +kernel
theorem dX10_init_28 : decode cX10_init 28 = .ok (.aload_n 0, 1) := by decide +kernel
theorem dX10_init_29 : decode cX10_init 29 = .ok (.bipush 6, 2) := by decide +kernel
theorem dX10_init_31 : decode cX10_init 31 = .ok (.newarray .int, 2) := by decide +kernel
theorem dX10_init_33 : decode cX10_init 33 = .ok (.putfield 21, 3) := by decide +kernel
theorem dX10_init_36 : decode cX10_init 36 = .ok (.aload_n 0, 1) := by decide +kernel
theorem dX10_init_37 : decode cX10_init 37 = .ok (.bipush 6, 2) := by decide +kernel
theorem dX10_init_39 : decode cX10_init 39 = .ok (.newarray .int, 2) := by decide +kernel
theorem dX10_init_41 : decode cX10_init 41 = .ok (.putfield 24, 3) := by decide +kernel
theorem dX10_init_44 : decode cX10_init 44 = .ok (.aload_n 0, 1) := by decide +kernel
theorem dX10_init_45 : decode cX10_init 45 = .ok (.bipush 36, 2) := by decide +kernel
theorem dX10_init_47 : decode cX10_init 47 = .ok (.newarray .int, 2) := by decide +kernel
theorem dX10_init_49 : decode cX10_init 49 = .ok (.putfield 27, 3) := by decide +kernel
theorem dX10_init_52 : decode cX10_init 52 = .ok (.aload_n 0, 1) := by decide +kernel
theorem dX10_init_53 : decode cX10_init 53 = .ok (.iconst 4, 1) := by decide +kernel
theorem dX10_init_54 : decode cX10_init 54 = .ok (.newarray .int, 2) := by decide +kernel
theorem dX10_init_56 : decode cX10_init 56 = .ok (.putfield 30, 3) := by decide +kernel
theorem dX10_init_59 : decode cX10_init 59 = .ok (.aload_n 0, 1) := by decide +kernel
theorem dX10_init_60 : decode cX10_init 60 = .ok (.new 33, 3) := by decide +kernel
theorem w_1_71 : Cond.classLink "LastLoaf$Village" (33 : Nat) "LastLoaf$Log" ∈ TB := tb_in (lwt_1 (List.mem_of_getElem? (i := 71) (by decide +kernel))) rfl
theorem w_1_72 : Cond.instantiable "LastLoaf$Log" (3 : Nat) ∈ TB := tb_in (lwt_1 (List.mem_of_getElem? (i := 72) (by decide +kernel))) rfl
theorem dX10_init_63 : decode cX10_init 63 = .ok (.dup, 1) := by decide +kernel
theorem dX10_init_64 : decode cX10_init 64 = .ok (.invokespecial 35, 3) := by decide +kernel
theorem w_1_75 : Cond.code ({ cls := "LastLoaf$Log", name := "<init>", desc := "()V" } : MethodName) prog_5_method_1_code (1 : Nat) (Option.none : Option ClassFile.FieldType) ∈ TB := tb_in (lwt_1 (List.mem_of_getElem? (i := 75) (by decide +kernel))) rfl
theorem w_1_74 : Cond.instanceMethod ({ cls := "LastLoaf$Log", name := "<init>", desc := "()V" } : MethodName) ∈ TB := tb_in (lwt_1 (List.mem_of_getElem? (i := 74) (by decide +kernel))) rfl
theorem dX10_init_67 : decode cX10_init 67 = .ok (.putfield 36, 3) := by decide +kernel
theorem dX10_init_70 : decode cX10_init 70 = .ok (.aload_n 0, 1) := by decide +kernel
theorem dX10_init_71 : decode cX10_init 71 = .ok (.iconst 0, 1) := by decide +kernel
theorem dX10_init_72 : decode cX10_init 72 = .ok (.putfield 40, 3) := by decide +kernel
theorem dX10_init_75 : decode cX10_init 75 = .ok (.aload_n 0, 1) := by decide +kernel
theorem dX10_init_76 : decode cX10_init 76 = .ok (.iconst 0, 1) := by decide +kernel
theorem dX10_init_77 : decode cX10_init 77 = .ok (.putfield 44, 3) := by decide +kernel
theorem dX10_init_80 : decode cX10_init 80 = .ok (.aload_n 0, 1) := by decide +kernel
theorem dX10_init_81 : decode cX10_init 81 = .ok (.iconst 0, 1) := by decide +kernel
theorem dX10_init_82 : decode cX10_init 82 = .ok (.putfield 47, 3) := by decide +kernel
theorem dX10_init_85 : decode cX10_init 85 = .ok (.aload_n 0, 1) := by decide +kernel
theorem dX10_init_86 : decode cX10_init 86 = .ok (.iconst 0, 1) := by decide +kernel
theorem dX10_init_87 : decode cX10_init 87 = .ok (.putfield 50, 3) := by decide +kernel
theorem dX10_init_90 : decode cX10_init 90 = .ok (.aload_n 0, 1) := by decide +kernel
theorem dX10_init_91 : decode cX10_init 91 = .ok (.iconst 0, 1) := by decide +kernel
theorem dX10_init_92 : decode cX10_init 92 = .ok (.putfield 53, 3) := by decide +kernel
theorem dX10_init_95 : decode cX10_init 95 = .ok (.aload_n 0, 1) := by decide +kernel
theorem dX10_init_96 : decode cX10_init 96 = .ok (.iconst 0, 1) := by decide +kernel
theorem dX10_init_97 : decode cX10_init 97 = .ok (.putfield 56, 3) := by decide +kernel
theorem dX10_init_100 : decode cX10_init 100 = .ok (.aload_n 0, 1) := by decide +kernel
theorem dX10_init_101 : decode cX10_init 101 = .ok (.iconst 0, 1) := by decide +kernel
theorem dX10_init_102 : decode cX10_init 102 = .ok (.putfield 59, 3) := by decide +kernel
theorem dX10_init_105 : decode cX10_init 105 = .ok (.aload_n 0, 1) := by decide +kernel
theorem dX10_init_106 : decode cX10_init 106 = .ok (.iconst 1, 1) := by decide +kernel
theorem dX10_init_107 : decode cX10_init 107 = .ok (.putfield 62, 3) := by decide +kernel
theorem dX10_init_110 : decode cX10_init 110 = .ok (.aload_n 0, 1) := by decide +kernel
theorem dX10_init_111 : decode cX10_init 111 = .ok (.iconst 0, 1) := by decide +kernel
theorem dX10_init_112 : decode cX10_init 112 = .ok (.putfield 65, 3) := by decide +kernel
theorem dX10_init_115 : decode cX10_init 115 = .ok (.aload_n 0, 1) := by decide +kernel
theorem dX10_init_116 : decode cX10_init 116 = .ok (.getfield 27, 3) := by decide +kernel
theorem dX10_init_119 : decode cX10_init 119 = .ok (.iconst 5, 1) := by decide +kernel
theorem dX10_init_120 : decode cX10_init 120 = .ok (.invokestatic 68, 3) := by decide +kernel
theorem w_1_88 : Cond.methodLink "LastLoaf$Village" (68 : Nat) ({ cls := "java/util/Arrays", name := "fill", desc := "([II)V" } : MethodName) ∈ TB := tb_in (lwt_1 (List.mem_of_getElem? (i := 88) (by decide +kernel))) rfl
theorem dX10_init_123 : decode cX10_init 123 = .ok (.aload_n 0, 1) := by decide +kernel
theorem dX10_init_124 : decode cX10_init 124 = .ok (.getfield 30, 3) := by decide +kernel
theorem dX10_init_127 : decode cX10_init 127 = .ok (.iconst 5, 1) := by decide +kernel
theorem dX10_init_128 : decode cX10_init 128 = .ok (.invokestatic 68, 3) := by decide +kernel
theorem dX10_init_131 : decode cX10_init 131 = .ok (.return_, 1) := by decide +kernel
/-! LastLoaf$Village.<init> -/
def ch10 (w : Wp) (b n : Nat) : List va_E := .inr (10, [.ref (b + (n + 1)), .ref (b + (n + 2)), .ref (b + (n + 3)), .ref (b + (n + 4)), .ref (b + (n + 5)), .ref (b + (n + 6)), .ref (b + (n + 7)), .ref (b + (n + 8)), .int 0, .int 0, .int 0, .int 0, .int 0, .int 0, .int 0, .int 1, .int 0]) :: (((((((([] ++ [.inl (w.2.1.1, 6, .inl (fun _ => 0))]) ++ [.inl (w.2.1.1, 6, .inl (fun _ => 0))]) ++ [.inl (w.2.1.1, 6, .inl (fun _ => 0))]) ++ [.inl (w.2.1.1, 6, .inl (fun _ => 0))]) ++ [.inl (w.2.1.1, 6, .inl (fun _ => 0))]) ++ [.inl (w.2.1.1, 36, .inl (fl9 (fun _ => 0) 36 5))]) ++ [.inl (w.2.1.1, 4, .inl (fl9 (fun _ => 0) 4 5))]) ++ ch3 w b (n + 8))
abbrev rmI10 : Room := { frames := 2, cells := 9, slots := 313, locals := 60 }
set_option maxHeartbeats 8000000 in
set_option maxRecDepth 100000 in
theorem k10_init {l : Launch} {w : Wp} {b n : Nat} {Q : List va_E} (hQ : Q.length = n) : yM l w yX10_init cX10_init 1 rmI10 [.ref (b + n)] b (Q ++ [.inr (10, [.null, .null, .null, .null, .null, .null, .null, .null, .int 0, .int 0, .int 0, .int 0, .int 0, .int 0, .int 0, .int 0, .int 0])]) (Q ++ ch10 w b n) 9 313 := yM_of rfl (Nat.le_of_ble_eq_true rfl) (fun Θ hl0 hw C hnm => by
  subst hw
  refine y_cs (cs' := Q ++ .inr (10, [.null, .null, .null, .null, .null, .null, .null, .null, .int 0, .int 0, .int 0, .int 0, .int 0, .int 0, .int 0, .int 0, .int 0]) :: []) rfl ?_
  refine y_aload_n C 0 dX10_init_0 rfl rfl ?_
  refine y_objInit C w_1_70 w_1_36 w_1_37 dX10_init_1 ⟨(Nat.le_of_ble_eq_true rfl), (Nat.le_of_ble_eq_true rfl)⟩ ?_
  refine y_aload_n C 0 dX10_init_4 rfl rfl ?_
  refine y_bipush (v := 6) C dX10_init_5 bp_6 ?_
  refine y_newa (N := 6) (n := n + 1) (cs' := Q ++ .inr (10, [.null, .null, .null, .null, .null, .null, .null, .null, .int 0, .int 0, .int 0, .int 0, .int 0, .int 0, .int 0, .int 0, .int 0]) :: ([] ++ [.inl (Θ.2.2.2.2.2.2.1.1, 6, .inl (fun _ => 0))])) C w_1_64 (by decide) (by decide) (by decide) (cq_len hQ rfl) cq_app ⟨(Nat.le_of_ble_eq_true rfl), (Nat.le_of_ble_eq_true rfl)⟩ dX10_init_7 ?_
  refine y_put (cs' := Q ++ .inr (10, [.ref (b + (n + 1)), .null, .null, .null, .null, .null, .null, .null, .int 0, .int 0, .int 0, .int 0, .int 0, .int 0, .int 0, .int 0, .int 0]) :: ([] ++ [.inl (Θ.2.2.2.2.2.2.1.1, 6, .inl (fun _ => 0))])) C hnm inT10 tyX10_ok nmX10 n (cq_get0 hQ) rfl 0 (by decide) w_1_91 rfl rfl rfl (by decide) (cq_put hQ rfl) dX10_init_9 ?_
  refine y_aload_n C 0 dX10_init_12 rfl rfl ?_
  refine y_bipush (v := 6) C dX10_init_13 bp_6 ?_
  refine y_newa (N := 6) (n := n + 2) (cs' := Q ++ .inr (10, [.ref (b + (n + 1)), .null, .null, .null, .null, .null, .null, .null, .int 0, .int 0, .int 0, .int 0, .int 0, .int 0, .int 0, .int 0, .int 0]) :: (([] ++ [.inl (Θ.2.2.2.2.2.2.1.1, 6, .inl (fun _ => 0))]) ++ [.inl (Θ.2.2.2.2.2.2.1.1, 6, .inl (fun _ => 0))])) C w_1_64 (by decide) (by decide) (by decide) (cq_len hQ rfl) cq_app ⟨(Nat.le_of_ble_eq_true rfl), (Nat.le_of_ble_eq_true rfl)⟩ dX10_init_15 ?_
  refine y_put (cs' := Q ++ .inr (10, [.ref (b + (n + 1)), .ref (b + (n + 2)), .null, .null, .null, .null, .null, .null, .int 0, .int 0, .int 0, .int 0, .int 0, .int 0, .int 0, .int 0, .int 0]) :: (([] ++ [.inl (Θ.2.2.2.2.2.2.1.1, 6, .inl (fun _ => 0))]) ++ [.inl (Θ.2.2.2.2.2.2.1.1, 6, .inl (fun _ => 0))])) C hnm inT10 tyX10_ok nmX10 n (cq_get0 hQ) rfl 1 (by decide) w_1_97 rfl rfl rfl (by decide) (cq_put hQ rfl) dX10_init_17 ?_
  refine y_aload_n C 0 dX10_init_20 rfl rfl ?_
  refine y_bipush (v := 6) C dX10_init_21 bp_6 ?_
  refine y_newa (N := 6) (n := n + 3) (cs' := Q ++ .inr (10, [.ref (b + (n + 1)), .ref (b + (n + 2)), .null, .null, .null, .null, .null, .null, .int 0, .int 0, .int 0, .int 0, .int 0, .int 0, .int 0, .int 0, .int 0]) :: ((([] ++ [.inl (Θ.2.2.2.2.2.2.1.1, 6, .inl (fun _ => 0))]) ++ [.inl (Θ.2.2.2.2.2.2.1.1, 6, .inl (fun _ => 0))]) ++ [.inl (Θ.2.2.2.2.2.2.1.1, 6, .inl (fun _ => 0))])) C w_1_64 (by decide) (by decide) (by decide) (cq_len hQ rfl) cq_app ⟨(Nat.le_of_ble_eq_true rfl), (Nat.le_of_ble_eq_true rfl)⟩ dX10_init_23 ?_
  refine y_put (cs' := Q ++ .inr (10, [.ref (b + (n + 1)), .ref (b + (n + 2)), .ref (b + (n + 3)), .null, .null, .null, .null, .null, .int 0, .int 0, .int 0, .int 0, .int 0, .int 0, .int 0, .int 0, .int 0]) :: ((([] ++ [.inl (Θ.2.2.2.2.2.2.1.1, 6, .inl (fun _ => 0))]) ++ [.inl (Θ.2.2.2.2.2.2.1.1, 6, .inl (fun _ => 0))]) ++ [.inl (Θ.2.2.2.2.2.2.1.1, 6, .inl (fun _ => 0))])) C hnm inT10 tyX10_ok nmX10 n (cq_get0 hQ) rfl 2 (by decide) w_1_100 rfl rfl rfl (by decide) (cq_put hQ rfl) dX10_init_25 ?_
  refine y_aload_n C 0 dX10_init_28 rfl rfl ?_
  refine y_bipush (v := 6) C dX10_init_29 bp_6 ?_
  refine y_newa (N := 6) (n := n + 4) (cs' := Q ++ .inr (10, [.ref (b + (n + 1)), .ref (b + (n + 2)), .ref (b + (n + 3)), .null, .null, .null, .null, .null, .int 0, .int 0, .int 0, .int 0, .int 0, .int 0, .int 0, .int 0, .int 0]) :: (((([] ++ [.inl (Θ.2.2.2.2.2.2.1.1, 6, .inl (fun _ => 0))]) ++ [.inl (Θ.2.2.2.2.2.2.1.1, 6, .inl (fun _ => 0))]) ++ [.inl (Θ.2.2.2.2.2.2.1.1, 6, .inl (fun _ => 0))]) ++ [.inl (Θ.2.2.2.2.2.2.1.1, 6, .inl (fun _ => 0))])) C w_1_64 (by decide) (by decide) (by decide) (cq_len hQ rfl) cq_app ⟨(Nat.le_of_ble_eq_true rfl), (Nat.le_of_ble_eq_true rfl)⟩ dX10_init_31 ?_
  refine y_put (cs' := Q ++ .inr (10, [.ref (b + (n + 1)), .ref (b + (n + 2)), .ref (b + (n + 3)), .ref (b + (n + 4)), .null, .null, .null, .null, .int 0, .int 0, .int 0, .int 0, .int 0, .int 0, .int 0, .int 0, .int 0]) :: (((([] ++ [.inl (Θ.2.2.2.2.2.2.1.1, 6, .inl (fun _ => 0))]) ++ [.inl (Θ.2.2.2.2.2.2.1.1, 6, .inl (fun _ => 0))]) ++ [.inl (Θ.2.2.2.2.2.2.1.1, 6, .inl (fun _ => 0))]) ++ [.inl (Θ.2.2.2.2.2.2.1.1, 6, .inl (fun _ => 0))])) C hnm inT10 tyX10_ok nmX10 n (cq_get0 hQ) rfl 3 (by decide) w_1_104 rfl rfl rfl (by decide) (cq_put hQ rfl) dX10_init_33 ?_
  refine y_aload_n C 0 dX10_init_36 rfl rfl ?_
  refine y_bipush (v := 6) C dX10_init_37 bp_6 ?_
  refine y_newa (N := 6) (n := n + 5) (cs' := Q ++ .inr (10, [.ref (b + (n + 1)), .ref (b + (n + 2)), .ref (b + (n + 3)), .ref (b + (n + 4)), .null, .null, .null, .null, .int 0, .int 0, .int 0, .int 0, .int 0, .int 0, .int 0, .int 0, .int 0]) :: ((((([] ++ [.inl (Θ.2.2.2.2.2.2.1.1, 6, .inl (fun _ => 0))]) ++ [.inl (Θ.2.2.2.2.2.2.1.1, 6, .inl (fun _ => 0))]) ++ [.inl (Θ.2.2.2.2.2.2.1.1, 6, .inl (fun _ => 0))]) ++ [.inl (Θ.2.2.2.2.2.2.1.1, 6, .inl (fun _ => 0))]) ++ [.inl (Θ.2.2.2.2.2.2.1.1, 6, .inl (fun _ => 0))])) C w_1_64 (by decide) (by decide) (by decide) (cq_len hQ rfl) cq_app ⟨(Nat.le_of_ble_eq_true rfl), (Nat.le_of_ble_eq_true rfl)⟩ dX10_init_39 ?_
  refine y_put (cs' := Q ++ .inr (10, [.ref (b + (n + 1)), .ref (b + (n + 2)), .ref (b + (n + 3)), .ref (b + (n + 4)), .ref (b + (n + 5)), .null, .null, .null, .int 0, .int 0, .int 0, .int 0, .int 0, .int 0, .int 0, .int 0, .int 0]) :: ((((([] ++ [.inl (Θ.2.2.2.2.2.2.1.1, 6, .inl (fun _ => 0))]) ++ [.inl (Θ.2.2.2.2.2.2.1.1, 6, .inl (fun _ => 0))]) ++ [.inl (Θ.2.2.2.2.2.2.1.1, 6, .inl (fun _ => 0))]) ++ [.inl (Θ.2.2.2.2.2.2.1.1, 6, .inl (fun _ => 0))]) ++ [.inl (Θ.2.2.2.2.2.2.1.1, 6, .inl (fun _ => 0))])) C hnm inT10 tyX10_ok nmX10 n (cq_get0 hQ) rfl 4 (by decide) w_1_108 rfl rfl rfl (by decide) (cq_put hQ rfl) dX10_init_41 ?_
  refine y_aload_n C 0 dX10_init_44 rfl rfl ?_
  refine y_bipush (v := 36) C dX10_init_45 bp_36 ?_
  refine y_newa (N := 36) (n := n + 6) (cs' := Q ++ .inr (10, [.ref (b + (n + 1)), .ref (b + (n + 2)), .ref (b + (n + 3)), .ref (b + (n + 4)), .ref (b + (n + 5)), .null, .null, .null, .int 0, .int 0, .int 0, .int 0, .int 0, .int 0, .int 0, .int 0, .int 0]) :: (((((([] ++ [.inl (Θ.2.2.2.2.2.2.1.1, 6, .inl (fun _ => 0))]) ++ [.inl (Θ.2.2.2.2.2.2.1.1, 6, .inl (fun _ => 0))]) ++ [.inl (Θ.2.2.2.2.2.2.1.1, 6, .inl (fun _ => 0))]) ++ [.inl (Θ.2.2.2.2.2.2.1.1, 6, .inl (fun _ => 0))]) ++ [.inl (Θ.2.2.2.2.2.2.1.1, 6, .inl (fun _ => 0))]) ++ [.inl (Θ.2.2.2.2.2.2.1.1, 36, .inl (fun _ => 0))])) C w_1_64 (by decide) (by decide) (by decide) (cq_len hQ rfl) cq_app ⟨(Nat.le_of_ble_eq_true rfl), (Nat.le_of_ble_eq_true rfl)⟩ dX10_init_47 ?_
  refine y_put (cs' := Q ++ .inr (10, [.ref (b + (n + 1)), .ref (b + (n + 2)), .ref (b + (n + 3)), .ref (b + (n + 4)), .ref (b + (n + 5)), .ref (b + (n + 6)), .null, .null, .int 0, .int 0, .int 0, .int 0, .int 0, .int 0, .int 0, .int 0, .int 0]) :: (((((([] ++ [.inl (Θ.2.2.2.2.2.2.1.1, 6, .inl (fun _ => 0))]) ++ [.inl (Θ.2.2.2.2.2.2.1.1, 6, .inl (fun _ => 0))]) ++ [.inl (Θ.2.2.2.2.2.2.1.1, 6, .inl (fun _ => 0))]) ++ [.inl (Θ.2.2.2.2.2.2.1.1, 6, .inl (fun _ => 0))]) ++ [.inl (Θ.2.2.2.2.2.2.1.1, 6, .inl (fun _ => 0))]) ++ [.inl (Θ.2.2.2.2.2.2.1.1, 36, .inl (fun _ => 0))])) C hnm inT10 tyX10_ok nmX10 n (cq_get0 hQ) rfl 5 (by decide) w_1_112 rfl rfl rfl (by decide) (cq_put hQ rfl) dX10_init_49 ?_
  refine y_aload_n C 0 dX10_init_52 rfl rfl ?_
  refine y_iconst (v := 4) C dX10_init_53 ic_4 ?_
  refine y_newa (N := 4) (n := n + 7) (cs' := Q ++ .inr (10, [.ref (b + (n + 1)), .ref (b + (n + 2)), .ref (b + (n + 3)), .ref (b + (n + 4)), .ref (b + (n + 5)), .ref (b + (n + 6)), .null, .null, .int 0, .int 0, .int 0, .int 0, .int 0, .int 0, .int 0, .int 0, .int 0]) :: ((((((([] ++ [.inl (Θ.2.2.2.2.2.2.1.1, 6, .inl (fun _ => 0))]) ++ [.inl (Θ.2.2.2.2.2.2.1.1, 6, .inl (fun _ => 0))]) ++ [.inl (Θ.2.2.2.2.2.2.1.1, 6, .inl (fun _ => 0))]) ++ [.inl (Θ.2.2.2.2.2.2.1.1, 6, .inl (fun _ => 0))]) ++ [.inl (Θ.2.2.2.2.2.2.1.1, 6, .inl (fun _ => 0))]) ++ [.inl (Θ.2.2.2.2.2.2.1.1, 36, .inl (fun _ => 0))]) ++ [.inl (Θ.2.2.2.2.2.2.1.1, 4, .inl (fun _ => 0))])) C w_1_64 (by decide) (by decide) (by decide) (cq_len hQ rfl) cq_app ⟨(Nat.le_of_ble_eq_true rfl), (Nat.le_of_ble_eq_true rfl)⟩ dX10_init_54 ?_
  refine y_put (cs' := Q ++ .inr (10, [.ref (b + (n + 1)), .ref (b + (n + 2)), .ref (b + (n + 3)), .ref (b + (n + 4)), .ref (b + (n + 5)), .ref (b + (n + 6)), .ref (b + (n + 7)), .null, .int 0, .int 0, .int 0, .int 0, .int 0, .int 0, .int 0, .int 0, .int 0]) :: ((((((([] ++ [.inl (Θ.2.2.2.2.2.2.1.1, 6, .inl (fun _ => 0))]) ++ [.inl (Θ.2.2.2.2.2.2.1.1, 6, .inl (fun _ => 0))]) ++ [.inl (Θ.2.2.2.2.2.2.1.1, 6, .inl (fun _ => 0))]) ++ [.inl (Θ.2.2.2.2.2.2.1.1, 6, .inl (fun _ => 0))]) ++ [.inl (Θ.2.2.2.2.2.2.1.1, 6, .inl (fun _ => 0))]) ++ [.inl (Θ.2.2.2.2.2.2.1.1, 36, .inl (fun _ => 0))]) ++ [.inl (Θ.2.2.2.2.2.2.1.1, 4, .inl (fun _ => 0))])) C hnm inT10 tyX10_ok nmX10 n (cq_get0 hQ) rfl 6 (by decide) w_1_115 rfl rfl rfl (by decide) (cq_put hQ rfl) dX10_init_56 ?_
  refine y_aload_n C 0 dX10_init_59 rfl rfl ?_
  refine y_new (n := n + 8) (fs := [.null, .int 0, .int 0]) C inT3 tyX3_ok w_1_71 w_1_72 w_1_4 rfl (by decide) (cq_len hQ rfl) rfl ⟨(Nat.le_of_ble_eq_true rfl), (Nat.le_of_ble_eq_true rfl)⟩ dX10_init_60 ?_
  refine y_dup C dX10_init_63 rfl ?_
  refine y_callIN (host := "LastLoaf") C (n + 8) [] 0 (k3_init (l := Θ.1.2.1) (w := Θ.2.2.2.2.2) (b := b) (n := n + 8) (Q := Q ++ .inr (10, [.ref (b + (n + 1)), .ref (b + (n + 2)), .ref (b + (n + 3)), .ref (b + (n + 4)), .ref (b + (n + 5)), .ref (b + (n + 6)), .ref (b + (n + 7)), .null, .int 0, .int 0, .int 0, .int 0, .int 0, .int 0, .int 0, .int 0, .int 0]) :: ((((((([] ++ [.inl (Θ.2.2.2.2.2.2.1.1, 6, .inl (fun _ => 0))]) ++ [.inl (Θ.2.2.2.2.2.2.1.1, 6, .inl (fun _ => 0))]) ++ [.inl (Θ.2.2.2.2.2.2.1.1, 6, .inl (fun _ => 0))]) ++ [.inl (Θ.2.2.2.2.2.2.1.1, 6, .inl (fun _ => 0))]) ++ [.inl (Θ.2.2.2.2.2.2.1.1, 6, .inl (fun _ => 0))]) ++ [.inl (Θ.2.2.2.2.2.2.1.1, 36, .inl (fun _ => 0))]) ++ [.inl (Θ.2.2.2.2.2.2.1.1, 4, .inl (fun _ => 0))])) (cq_len hQ rfl)) w_1_75 (List.mem_of_getElem? (i := 1) rfl) w_1_74 w_1_4 rfl ⟨rfl, rfl, (Nat.le_of_ble_eq_true rfl), (Nat.le_of_ble_eq_true rfl)⟩ (by decide +kernel) rfl rfl (Nat.le_of_ble_eq_true rfl) ⟨(Nat.le_of_ble_eq_true rfl), (Nat.le_of_ble_eq_true rfl)⟩ dX10_init_64 ?_
  refine y_cs (cs' := Q ++ .inr (10, [.ref (b + (n + 1)), .ref (b + (n + 2)), .ref (b + (n + 3)), .ref (b + (n + 4)), .ref (b + (n + 5)), .ref (b + (n + 6)), .ref (b + (n + 7)), .null, .int 0, .int 0, .int 0, .int 0, .int 0, .int 0, .int 0, .int 0, .int 0]) :: (((((((([] ++ [.inl (Θ.2.2.2.2.2.2.1.1, 6, .inl (fun _ => 0))]) ++ [.inl (Θ.2.2.2.2.2.2.1.1, 6, .inl (fun _ => 0))]) ++ [.inl (Θ.2.2.2.2.2.2.1.1, 6, .inl (fun _ => 0))]) ++ [.inl (Θ.2.2.2.2.2.2.1.1, 6, .inl (fun _ => 0))]) ++ [.inl (Θ.2.2.2.2.2.2.1.1, 6, .inl (fun _ => 0))]) ++ [.inl (Θ.2.2.2.2.2.2.1.1, 36, .inl (fun _ => 0))]) ++ [.inl (Θ.2.2.2.2.2.2.1.1, 4, .inl (fun _ => 0))]) ++ ch3 Θ.2.2.2.2.2 b (n + 8))) cq_app ?_
  refine y_put (cs' := Q ++ .inr (10, [.ref (b + (n + 1)), .ref (b + (n + 2)), .ref (b + (n + 3)), .ref (b + (n + 4)), .ref (b + (n + 5)), .ref (b + (n + 6)), .ref (b + (n + 7)), .ref (b + (n + 8)), .int 0, .int 0, .int 0, .int 0, .int 0, .int 0, .int 0, .int 0, .int 0]) :: (((((((([] ++ [.inl (Θ.2.2.2.2.2.2.1.1, 6, .inl (fun _ => 0))]) ++ [.inl (Θ.2.2.2.2.2.2.1.1, 6, .inl (fun _ => 0))]) ++ [.inl (Θ.2.2.2.2.2.2.1.1, 6, .inl (fun _ => 0))]) ++ [.inl (Θ.2.2.2.2.2.2.1.1, 6, .inl (fun _ => 0))]) ++ [.inl (Θ.2.2.2.2.2.2.1.1, 6, .inl (fun _ => 0))]) ++ [.inl (Θ.2.2.2.2.2.2.1.1, 36, .inl (fun _ => 0))]) ++ [.inl (Θ.2.2.2.2.2.2.1.1, 4, .inl (fun _ => 0))]) ++ ch3 Θ.2.2.2.2.2 b (n + 8))) C hnm inT10 tyX10_ok nmX10 n (cq_get0 hQ) rfl 7 (by decide) w_1_120 rfl rfl rfl (by decide) (cq_put hQ rfl) dX10_init_67 ?_
  refine y_aload_n C 0 dX10_init_70 rfl rfl ?_
  refine y_iconst (v := 0) C dX10_init_71 ic_0 ?_
  refine y_put (cs' := Q ++ .inr (10, [.ref (b + (n + 1)), .ref (b + (n + 2)), .ref (b + (n + 3)), .ref (b + (n + 4)), .ref (b + (n + 5)), .ref (b + (n + 6)), .ref (b + (n + 7)), .ref (b + (n + 8)), .int 0, .int 0, .int 0, .int 0, .int 0, .int 0, .int 0, .int 0, .int 0]) :: (((((((([] ++ [.inl (Θ.2.2.2.2.2.2.1.1, 6, .inl (fun _ => 0))]) ++ [.inl (Θ.2.2.2.2.2.2.1.1, 6, .inl (fun _ => 0))]) ++ [.inl (Θ.2.2.2.2.2.2.1.1, 6, .inl (fun _ => 0))]) ++ [.inl (Θ.2.2.2.2.2.2.1.1, 6, .inl (fun _ => 0))]) ++ [.inl (Θ.2.2.2.2.2.2.1.1, 6, .inl (fun _ => 0))]) ++ [.inl (Θ.2.2.2.2.2.2.1.1, 36, .inl (fun _ => 0))]) ++ [.inl (Θ.2.2.2.2.2.2.1.1, 4, .inl (fun _ => 0))]) ++ ch3 Θ.2.2.2.2.2 b (n + 8))) C hnm inT10 tyX10_ok nmX10 n (cq_get0 hQ) rfl 8 (by decide) w_1_123 rfl rfl rfl (by decide) (cq_put hQ rfl) dX10_init_72 ?_
  refine y_aload_n C 0 dX10_init_75 rfl rfl ?_
  refine y_iconst (v := 0) C dX10_init_76 ic_0 ?_
  refine y_put (cs' := Q ++ .inr (10, [.ref (b + (n + 1)), .ref (b + (n + 2)), .ref (b + (n + 3)), .ref (b + (n + 4)), .ref (b + (n + 5)), .ref (b + (n + 6)), .ref (b + (n + 7)), .ref (b + (n + 8)), .int 0, .int 0, .int 0, .int 0, .int 0, .int 0, .int 0, .int 0, .int 0]) :: (((((((([] ++ [.inl (Θ.2.2.2.2.2.2.1.1, 6, .inl (fun _ => 0))]) ++ [.inl (Θ.2.2.2.2.2.2.1.1, 6, .inl (fun _ => 0))]) ++ [.inl (Θ.2.2.2.2.2.2.1.1, 6, .inl (fun _ => 0))]) ++ [.inl (Θ.2.2.2.2.2.2.1.1, 6, .inl (fun _ => 0))]) ++ [.inl (Θ.2.2.2.2.2.2.1.1, 6, .inl (fun _ => 0))]) ++ [.inl (Θ.2.2.2.2.2.2.1.1, 36, .inl (fun _ => 0))]) ++ [.inl (Θ.2.2.2.2.2.2.1.1, 4, .inl (fun _ => 0))]) ++ ch3 Θ.2.2.2.2.2 b (n + 8))) C hnm inT10 tyX10_ok nmX10 n (cq_get0 hQ) rfl 9 (by decide) w_1_131 rfl rfl rfl (by decide) (cq_put hQ rfl) dX10_init_77 ?_
  refine y_aload_n C 0 dX10_init_80 rfl rfl ?_
  refine y_iconst (v := 0) C dX10_init_81 ic_0 ?_
  refine y_put (cs' := Q ++ .inr (10, [.ref (b + (n + 1)), .ref (b + (n + 2)), .ref (b + (n + 3)), .ref (b + (n + 4)), .ref (b + (n + 5)), .ref (b + (n + 6)), .ref (b + (n + 7)), .ref (b + (n + 8)), .int 0, .int 0, .int 0, .int 0, .int 0, .int 0, .int 0, .int 0, .int 0]) :: (((((((([] ++ [.inl (Θ.2.2.2.2.2.2.1.1, 6, .inl (fun _ => 0))]) ++ [.inl (Θ.2.2.2.2.2.2.1.1, 6, .inl (fun _ => 0))]) ++ [.inl (Θ.2.2.2.2.2.2.1.1, 6, .inl (fun _ => 0))]) ++ [.inl (Θ.2.2.2.2.2.2.1.1, 6, .inl (fun _ => 0))]) ++ [.inl (Θ.2.2.2.2.2.2.1.1, 6, .inl (fun _ => 0))]) ++ [.inl (Θ.2.2.2.2.2.2.1.1, 36, .inl (fun _ => 0))]) ++ [.inl (Θ.2.2.2.2.2.2.1.1, 4, .inl (fun _ => 0))]) ++ ch3 Θ.2.2.2.2.2 b (n + 8))) C hnm inT10 tyX10_ok nmX10 n (cq_get0 hQ) rfl 10 (by decide) w_1_137 rfl rfl rfl (by decide) (cq_put hQ rfl) dX10_init_82 ?_
  refine y_aload_n C 0 dX10_init_85 rfl rfl ?_
  refine y_iconst (v := 0) C dX10_init_86 ic_0 ?_
  refine y_put (cs' := Q ++ .inr (10, [.ref (b + (n + 1)), .ref (b + (n + 2)), .ref (b + (n + 3)), .ref (b + (n + 4)), .ref (b + (n + 5)), .ref (b + (n + 6)), .ref (b + (n + 7)), .ref (b + (n + 8)), .int 0, .int 0, .int 0, .int 0, .int 0, .int 0, .int 0, .int 0, .int 0]) :: (((((((([] ++ [.inl (Θ.2.2.2.2.2.2.1.1, 6, .inl (fun _ => 0))]) ++ [.inl (Θ.2.2.2.2.2.2.1.1, 6, .inl (fun _ => 0))]) ++ [.inl (Θ.2.2.2.2.2.2.1.1, 6, .inl (fun _ => 0))]) ++ [.inl (Θ.2.2.2.2.2.2.1.1, 6, .inl (fun _ => 0))]) ++ [.inl (Θ.2.2.2.2.2.2.1.1, 6, .inl (fun _ => 0))]) ++ [.inl (Θ.2.2.2.2.2.2.1.1, 36, .inl (fun _ => 0))]) ++ [.inl (Θ.2.2.2.2.2.2.1.1, 4, .inl (fun _ => 0))]) ++ ch3 Θ.2.2.2.2.2 b (n + 8))) C hnm inT10 tyX10_ok nmX10 n (cq_get0 hQ) rfl 11 (by decide) w_1_142 rfl rfl rfl (by decide) (cq_put hQ rfl) dX10_init_87 ?_
  refine y_aload_n C 0 dX10_init_90 rfl rfl ?_
  refine y_iconst (v := 0) C dX10_init_91 ic_0 ?_
  refine y_put (cs' := Q ++ .inr (10, [.ref (b + (n + 1)), .ref (b + (n + 2)), .ref (b + (n + 3)), .ref (b + (n + 4)), .ref (b + (n + 5)), .ref (b + (n + 6)), .ref (b + (n + 7)), .ref (b + (n + 8)), .int 0, .int 0, .int 0, .int 0, .int 0, .int 0, .int 0, .int 0, .int 0]) :: (((((((([] ++ [.inl (Θ.2.2.2.2.2.2.1.1, 6, .inl (fun _ => 0))]) ++ [.inl (Θ.2.2.2.2.2.2.1.1, 6, .inl (fun _ => 0))]) ++ [.inl (Θ.2.2.2.2.2.2.1.1, 6, .inl (fun _ => 0))]) ++ [.inl (Θ.2.2.2.2.2.2.1.1, 6, .inl (fun _ => 0))]) ++ [.inl (Θ.2.2.2.2.2.2.1.1, 6, .inl (fun _ => 0))]) ++ [.inl (Θ.2.2.2.2.2.2.1.1, 36, .inl (fun _ => 0))]) ++ [.inl (Θ.2.2.2.2.2.2.1.1, 4, .inl (fun _ => 0))]) ++ ch3 Θ.2.2.2.2.2 b (n + 8))) C hnm inT10 tyX10_ok nmX10 n (cq_get0 hQ) rfl 12 (by decide) w_1_147 rfl rfl rfl (by decide) (cq_put hQ rfl) dX10_init_92 ?_
  refine y_aload_n C 0 dX10_init_95 rfl rfl ?_
  refine y_iconst (v := 0) C dX10_init_96 ic_0 ?_
  refine y_put (cs' := Q ++ .inr (10, [.ref (b + (n + 1)), .ref (b + (n + 2)), .ref (b + (n + 3)), .ref (b + (n + 4)), .ref (b + (n + 5)), .ref (b + (n + 6)), .ref (b + (n + 7)), .ref (b + (n + 8)), .int 0, .int 0, .int 0, .int 0, .int 0, .int 0, .int 0, .int 0, .int 0]) :: (((((((([] ++ [.inl (Θ.2.2.2.2.2.2.1.1, 6, .inl (fun _ => 0))]) ++ [.inl (Θ.2.2.2.2.2.2.1.1, 6, .inl (fun _ => 0))]) ++ [.inl (Θ.2.2.2.2.2.2.1.1, 6, .inl (fun _ => 0))]) ++ [.inl (Θ.2.2.2.2.2.2.1.1, 6, .inl (fun _ => 0))]) ++ [.inl (Θ.2.2.2.2.2.2.1.1, 6, .inl (fun _ => 0))]) ++ [.inl (Θ.2.2.2.2.2.2.1.1, 36, .inl (fun _ => 0))]) ++ [.inl (Θ.2.2.2.2.2.2.1.1, 4, .inl (fun _ => 0))]) ++ ch3 Θ.2.2.2.2.2 b (n + 8))) C hnm inT10 tyX10_ok nmX10 n (cq_get0 hQ) rfl 13 (by decide) w_1_152 rfl rfl rfl (by decide) (cq_put hQ rfl) dX10_init_97 ?_
  refine y_aload_n C 0 dX10_init_100 rfl rfl ?_
  refine y_iconst (v := 0) C dX10_init_101 ic_0 ?_
  refine y_put (cs' := Q ++ .inr (10, [.ref (b + (n + 1)), .ref (b + (n + 2)), .ref (b + (n + 3)), .ref (b + (n + 4)), .ref (b + (n + 5)), .ref (b + (n + 6)), .ref (b + (n + 7)), .ref (b + (n + 8)), .int 0, .int 0, .int 0, .int 0, .int 0, .int 0, .int 0, .int 0, .int 0]) :: (((((((([] ++ [.inl (Θ.2.2.2.2.2.2.1.1, 6, .inl (fun _ => 0))]) ++ [.inl (Θ.2.2.2.2.2.2.1.1, 6, .inl (fun _ => 0))]) ++ [.inl (Θ.2.2.2.2.2.2.1.1, 6, .inl (fun _ => 0))]) ++ [.inl (Θ.2.2.2.2.2.2.1.1, 6, .inl (fun _ => 0))]) ++ [.inl (Θ.2.2.2.2.2.2.1.1, 6, .inl (fun _ => 0))]) ++ [.inl (Θ.2.2.2.2.2.2.1.1, 36, .inl (fun _ => 0))]) ++ [.inl (Θ.2.2.2.2.2.2.1.1, 4, .inl (fun _ => 0))]) ++ ch3 Θ.2.2.2.2.2 b (n + 8))) C hnm inT10 tyX10_ok nmX10 n (cq_get0 hQ) rfl 14 (by decide) w_1_156 rfl rfl rfl (by decide) (cq_put hQ rfl) dX10_init_102 ?_
  refine y_aload_n C 0 dX10_init_105 rfl rfl ?_
  refine y_iconst (v := 1) C dX10_init_106 ic_1 ?_
  refine y_put (cs' := Q ++ .inr (10, [.ref (b + (n + 1)), .ref (b + (n + 2)), .ref (b + (n + 3)), .ref (b + (n + 4)), .ref (b + (n + 5)), .ref (b + (n + 6)), .ref (b + (n + 7)), .ref (b + (n + 8)), .int 0, .int 0, .int 0, .int 0, .int 0, .int 0, .int 0, .int 1, .int 0]) :: (((((((([] ++ [.inl (Θ.2.2.2.2.2.2.1.1, 6, .inl (fun _ => 0))]) ++ [.inl (Θ.2.2.2.2.2.2.1.1, 6, .inl (fun _ => 0))]) ++ [.inl (Θ.2.2.2.2.2.2.1.1, 6, .inl (fun _ => 0))]) ++ [.inl (Θ.2.2.2.2.2.2.1.1, 6, .inl (fun _ => 0))]) ++ [.inl (Θ.2.2.2.2.2.2.1.1, 6, .inl (fun _ => 0))]) ++ [.inl (Θ.2.2.2.2.2.2.1.1, 36, .inl (fun _ => 0))]) ++ [.inl (Θ.2.2.2.2.2.2.1.1, 4, .inl (fun _ => 0))]) ++ ch3 Θ.2.2.2.2.2 b (n + 8))) C hnm inT10 tyX10_ok nmX10 n (cq_get0 hQ) rfl 15 (by decide) w_1_160 rfl rfl rfl (by decide) (cq_put hQ rfl) dX10_init_107 ?_
  refine y_aload_n C 0 dX10_init_110 rfl rfl ?_
  refine y_iconst (v := 0) C dX10_init_111 ic_0 ?_
  refine y_put (cs' := Q ++ .inr (10, [.ref (b + (n + 1)), .ref (b + (n + 2)), .ref (b + (n + 3)), .ref (b + (n + 4)), .ref (b + (n + 5)), .ref (b + (n + 6)), .ref (b + (n + 7)), .ref (b + (n + 8)), .int 0, .int 0, .int 0, .int 0, .int 0, .int 0, .int 0, .int 1, .int 0]) :: (((((((([] ++ [.inl (Θ.2.2.2.2.2.2.1.1, 6, .inl (fun _ => 0))]) ++ [.inl (Θ.2.2.2.2.2.2.1.1, 6, .inl (fun _ => 0))]) ++ [.inl (Θ.2.2.2.2.2.2.1.1, 6, .inl (fun _ => 0))]) ++ [.inl (Θ.2.2.2.2.2.2.1.1, 6, .inl (fun _ => 0))]) ++ [.inl (Θ.2.2.2.2.2.2.1.1, 6, .inl (fun _ => 0))]) ++ [.inl (Θ.2.2.2.2.2.2.1.1, 36, .inl (fun _ => 0))]) ++ [.inl (Θ.2.2.2.2.2.2.1.1, 4, .inl (fun _ => 0))]) ++ ch3 Θ.2.2.2.2.2 b (n + 8))) C hnm inT10 tyX10_ok nmX10 n (cq_get0 hQ) rfl 16 (by decide) w_1_162 rfl rfl rfl (by decide) (cq_put hQ rfl) dX10_init_112 ?_
  refine y_aload_n C 0 dX10_init_115 rfl rfl ?_
  refine y_get (v := .ref (b + (n + 6))) C inT10 n (cq_get0 hQ) rfl 5 (by decide) w_1_112 rfl dX10_init_116 ?_
  refine y_iconst (v := 5) C dX10_init_119 ic_5 ?_
  refine y_callS C [.ref (b + (n + 6)), .int 5] 2 (yJ_fill (l := Θ.1.2.1) (w := Θ.2.2.2.2.2) (b := b) (i := n + 6) (n := 36) (f := (fun _ => 0)) (x := 5) (cq_get hQ rfl) (by decide)) w_1_90 w_1_88 w_1_89 w_1_5 ⟨rfl, rfl, (Nat.le_of_ble_eq_true rfl), (Nat.le_of_ble_eq_true rfl)⟩ (by decide +kernel) rfl rfl (Nat.le_of_ble_eq_true rfl) ⟨(Nat.le_of_ble_eq_true rfl), (Nat.le_of_ble_eq_true rfl)⟩ dX10_init_120 ?_
  refine y_cs (cs' := Q ++ .inr (10, [.ref (b + (n + 1)), .ref (b + (n + 2)), .ref (b + (n + 3)), .ref (b + (n + 4)), .ref (b + (n + 5)), .ref (b + (n + 6)), .ref (b + (n + 7)), .ref (b + (n + 8)), .int 0, .int 0, .int 0, .int 0, .int 0, .int 0, .int 0, .int 1, .int 0]) :: (((((((([] ++ [.inl (Θ.2.2.2.2.2.2.1.1, 6, .inl (fun _ => 0))]) ++ [.inl (Θ.2.2.2.2.2.2.1.1, 6, .inl (fun _ => 0))]) ++ [.inl (Θ.2.2.2.2.2.2.1.1, 6, .inl (fun _ => 0))]) ++ [.inl (Θ.2.2.2.2.2.2.1.1, 6, .inl (fun _ => 0))]) ++ [.inl (Θ.2.2.2.2.2.2.1.1, 6, .inl (fun _ => 0))]) ++ [.inl (Θ.2.2.2.2.2.2.1.1, 36, .inl (fl9 (fun _ => 0) 36 5))]) ++ [.inl (Θ.2.2.2.2.2.2.1.1, 4, .inl (fun _ => 0))]) ++ ch3 Θ.2.2.2.2.2 b (n + 8))) (cq_set hQ rfl) ?_
  refine y_aload_n C 0 dX10_init_123 rfl rfl ?_
  refine y_get (v := .ref (b + (n + 7))) C inT10 n (cq_get0 hQ) rfl 6 (by decide) w_1_115 rfl dX10_init_124 ?_
  refine y_iconst (v := 5) C dX10_init_127 ic_5 ?_
  refine y_callS C [.ref (b + (n + 7)), .int 5] 2 (yJ_fill (l := Θ.1.2.1) (w := Θ.2.2.2.2.2) (b := b) (i := n + 7) (n := 4) (f := (fun _ => 0)) (x := 5) (cq_get hQ rfl) (by decide)) w_1_90 w_1_88 w_1_89 w_1_5 ⟨rfl, rfl, (Nat.le_of_ble_eq_true rfl), (Nat.le_of_ble_eq_true rfl)⟩ (by decide +kernel) rfl rfl (Nat.le_of_ble_eq_true rfl) ⟨(Nat.le_of_ble_eq_true rfl), (Nat.le_of_ble_eq_true rfl)⟩ dX10_init_128 ?_
  refine y_cs (cs' := Q ++ .inr (10, [.ref (b + (n + 1)), .ref (b + (n + 2)), .ref (b + (n + 3)), .ref (b + (n + 4)), .ref (b + (n + 5)), .ref (b + (n + 6)), .ref (b + (n + 7)), .ref (b + (n + 8)), .int 0, .int 0, .int 0, .int 0, .int 0, .int 0, .int 0, .int 1, .int 0]) :: (((((((([] ++ [.inl (Θ.2.2.2.2.2.2.1.1, 6, .inl (fun _ => 0))]) ++ [.inl (Θ.2.2.2.2.2.2.1.1, 6, .inl (fun _ => 0))]) ++ [.inl (Θ.2.2.2.2.2.2.1.1, 6, .inl (fun _ => 0))]) ++ [.inl (Θ.2.2.2.2.2.2.1.1, 6, .inl (fun _ => 0))]) ++ [.inl (Θ.2.2.2.2.2.2.1.1, 6, .inl (fun _ => 0))]) ++ [.inl (Θ.2.2.2.2.2.2.1.1, 36, .inl (fl9 (fun _ => 0) 36 5))]) ++ [.inl (Θ.2.2.2.2.2.2.1.1, 4, .inl (fl9 (fun _ => 0) 4 5))]) ++ ch3 Θ.2.2.2.2.2 b (n + 8))) (cq_set hQ rfl) ?_
  exact y_vret C ⟨Nat.le_refl _, Nat.le_refl _⟩ dX10_init_131)
theorem dX2_init_0 : decode cX2_init 0 = .ok (.aload_n 0, 1) := by decide +kernel
theorem dX2_init_1 : decode cX2_init 1 = .ok (.invokespecial 3, 3) := by decide +kernel
theorem w_1_204 : Cond.methodLink "LastLoaf$Law" (3 : Nat) ({ cls := "java/lang/Object", name := "<init>", desc := "()V" } : MethodName) ∈ TB := tb_in (lwt_1 (List.mem_of_getElem? (i := 204) (by decide +kernel))) rfl
theorem dX2_init_4 : decode cX2_init 4 = .ok (.aload_n 0, 1) := by decide +kernel
theorem dX2_init_5 : decode cX2_init 5 = .ok (.sipush 412, 3) := by decide +kernel
theorem dX2_init_8 : decode cX2_init 8 = .ok (.newarray .int, 2) := by decide +kernel
theorem dX2_init_10 : decode cX2_init 10 = .ok (.putfield 9, 3) := by decide +kernel
theorem dX2_init_13 : decode cX2_init 13 = .ok (.aload_n 0, 1) := by decide +kernel
theorem dX2_init_14 : decode cX2_init 14 = .ok (.bipush 32, 2) := by decide +kernel
theorem dX2_init_16 : decode cX2_init 16 = .ok (.newarray .int, 2) := by decide +kernel
theorem dX2_init_18 : decode cX2_init 18 = .ok (.putfield 15, 3) := by decide +kernel
theorem dX2_init_21 : decode cX2_init 21 = .ok (.aload_n 0, 1) := by decide +kernel
theorem dX2_init_22 : decode cX2_init 22 = .ok (.bipush 9, 2) := by decide +kernel
theorem dX2_init_24 : decode cX2_init 24 = .ok (.newarray .int, 2) := by decide +kernel
theorem dX2_init_26 : decode cX2_init 26 = .ok (.putfield 18, 3) := by decide +kernel
theorem dX2_init_29 : decode cX2_init 29 = .ok (.aload_n 0, 1) := by decide +kernel
theorem dX2_init_30 : decode cX2_init 30 = .ok (.iconst 0, 1) := by decide +kernel
theorem dX2_init_31 : decode cX2_init 31 = .ok (.putfield 21, 3) := by decide +kernel
theorem dX2_init_34 : decode cX2_init 34 = .ok (.aload_n 0, 1) := by decide +kernel
theorem dX2_init_35 : decode cX2_init 35 = .ok (.iconst (-1), 1) := by decide +kernel
theorem dX2_init_36 : decode cX2_init 36 = .ok (.putfield 25, 3) := by decide +kernel
theorem dX2_init_39 : decode cX2_init 39 = .ok (.aload_n 0, 1) := by decide +kernel
theorem dX2_init_40 : decode cX2_init 40 = .ok (.iconst 0, 1) := by decide +kernel
theorem dX2_init_41 : decode cX2_init 41 = .ok (.putfield 28, 3) := by decide +kernel
theorem dX2_init_44 : decode cX2_init 44 = .ok (.aload_n 0, 1) := by decide +kernel
theorem dX2_init_45 : decode cX2_init 45 = .ok (.iconst 0, 1) := by decide +kernel
theorem dX2_init_46 : decode cX2_init 46 = .ok (.putfield 31, 3) := by decide +kernel
theorem dX2_init_49 : decode cX2_init 49 = .ok (.return_, 1) := by decide +kernel
/-! LastLoaf$Law.<init> -/
def ch2 (w : Wp) (b n : Nat) : List va_E := .inr (2, [.ref (b + (n + 1)), .ref (b + (n + 2)), .ref (b + (n + 3)), .int 0, .int (-1), .int 0, .int 0]) :: ((([] ++ [.inl (w.2.1.1, 412, .inl (fun _ => 0))]) ++ [.inl (w.2.1.1, 32, .inl (fun _ => 0))]) ++ [.inl (w.2.1.1, 9, .inl (fun _ => 0))])
abbrev rmI2 : Room := { frames := 1, cells := 3, slots := 453, locals := 40 }
set_option maxHeartbeats 8000000 in
set_option maxRecDepth 100000 in
theorem k2_init {l : Launch} {w : Wp} {b n : Nat} {Q : List va_E} (hQ : Q.length = n) : yM l w yX2_init cX2_init 1 rmI2 [.ref (b + n)] b (Q ++ [.inr (2, [.null, .null, .null, .int 0, .int 0, .int 0, .int 0])]) (Q ++ ch2 w b n) 3 453 := yM_of rfl (Nat.le_of_ble_eq_true rfl) (fun Θ hl0 hw C hnm => by
  subst hw
  refine y_cs (cs' := Q ++ .inr (2, [.null, .null, .null, .int 0, .int 0, .int 0, .int 0]) :: []) rfl ?_
  refine y_aload_n C 0 dX2_init_0 rfl rfl ?_
  refine y_objInit C w_1_204 w_1_36 w_1_37 dX2_init_1 ⟨(Nat.le_of_ble_eq_true rfl), (Nat.le_of_ble_eq_true rfl)⟩ ?_
  refine y_aload_n C 0 dX2_init_4 rfl rfl ?_
  refine y_sipush (v := 412) C dX2_init_5 sp_412 ?_
  refine y_newa (N := 412) (n := n + 1) (cs' := Q ++ .inr (2, [.null, .null, .null, .int 0, .int 0, .int 0, .int 0]) :: ([] ++ [.inl (Θ.2.2.2.2.2.2.1.1, 412, .inl (fun _ => 0))])) C w_1_64 (by decide) (by decide) (by decide) (cq_len hQ rfl) cq_app ⟨(Nat.le_of_ble_eq_true rfl), (Nat.le_of_ble_eq_true rfl)⟩ dX2_init_8 ?_
  refine y_put (cs' := Q ++ .inr (2, [.ref (b + (n + 1)), .null, .null, .int 0, .int 0, .int 0, .int 0]) :: ([] ++ [.inl (Θ.2.2.2.2.2.2.1.1, 412, .inl (fun _ => 0))])) C hnm inT2 tyX2_ok nmX2 n (cq_get0 hQ) rfl 0 (by decide) w_1_205 rfl rfl rfl (by decide) (cq_put hQ rfl) dX2_init_10 ?_
  refine y_aload_n C 0 dX2_init_13 rfl rfl ?_
  refine y_bipush (v := 32) C dX2_init_14 bp_32 ?_
  refine y_newa (N := 32) (n := n + 2) (cs' := Q ++ .inr (2, [.ref (b + (n + 1)), .null, .null, .int 0, .int 0, .int 0, .int 0]) :: (([] ++ [.inl (Θ.2.2.2.2.2.2.1.1, 412, .inl (fun _ => 0))]) ++ [.inl (Θ.2.2.2.2.2.2.1.1, 32, .inl (fun _ => 0))])) C w_1_64 (by decide) (by decide) (by decide) (cq_len hQ rfl) cq_app ⟨(Nat.le_of_ble_eq_true rfl), (Nat.le_of_ble_eq_true rfl)⟩ dX2_init_16 ?_
  refine y_put (cs' := Q ++ .inr (2, [.ref (b + (n + 1)), .ref (b + (n + 2)), .null, .int 0, .int 0, .int 0, .int 0]) :: (([] ++ [.inl (Θ.2.2.2.2.2.2.1.1, 412, .inl (fun _ => 0))]) ++ [.inl (Θ.2.2.2.2.2.2.1.1, 32, .inl (fun _ => 0))])) C hnm inT2 tyX2_ok nmX2 n (cq_get0 hQ) rfl 1 (by decide) w_1_206 rfl rfl rfl (by decide) (cq_put hQ rfl) dX2_init_18 ?_
  refine y_aload_n C 0 dX2_init_21 rfl rfl ?_
  refine y_bipush (v := 9) C dX2_init_22 bp_9 ?_
  refine y_newa (N := 9) (n := n + 3) (cs' := Q ++ .inr (2, [.ref (b + (n + 1)), .ref (b + (n + 2)), .null, .int 0, .int 0, .int 0, .int 0]) :: ((([] ++ [.inl (Θ.2.2.2.2.2.2.1.1, 412, .inl (fun _ => 0))]) ++ [.inl (Θ.2.2.2.2.2.2.1.1, 32, .inl (fun _ => 0))]) ++ [.inl (Θ.2.2.2.2.2.2.1.1, 9, .inl (fun _ => 0))])) C w_1_64 (by decide) (by decide) (by decide) (cq_len hQ rfl) cq_app ⟨(Nat.le_of_ble_eq_true rfl), (Nat.le_of_ble_eq_true rfl)⟩ dX2_init_24 ?_
  refine y_put (cs' := Q ++ .inr (2, [.ref (b + (n + 1)), .ref (b + (n + 2)), .ref (b + (n + 3)), .int 0, .int 0, .int 0, .int 0]) :: ((([] ++ [.inl (Θ.2.2.2.2.2.2.1.1, 412, .inl (fun _ => 0))]) ++ [.inl (Θ.2.2.2.2.2.2.1.1, 32, .inl (fun _ => 0))]) ++ [.inl (Θ.2.2.2.2.2.2.1.1, 9, .inl (fun _ => 0))])) C hnm inT2 tyX2_ok nmX2 n (cq_get0 hQ) rfl 2 (by decide) w_1_207 rfl rfl rfl (by decide) (cq_put hQ rfl) dX2_init_26 ?_
  refine y_aload_n C 0 dX2_init_29 rfl rfl ?_
  refine y_iconst (v := 0) C dX2_init_30 ic_0 ?_
  refine y_put (cs' := Q ++ .inr (2, [.ref (b + (n + 1)), .ref (b + (n + 2)), .ref (b + (n + 3)), .int 0, .int 0, .int 0, .int 0]) :: ((([] ++ [.inl (Θ.2.2.2.2.2.2.1.1, 412, .inl (fun _ => 0))]) ++ [.inl (Θ.2.2.2.2.2.2.1.1, 32, .inl (fun _ => 0))]) ++ [.inl (Θ.2.2.2.2.2.2.1.1, 9, .inl (fun _ => 0))])) C hnm inT2 tyX2_ok nmX2 n (cq_get0 hQ) rfl 3 (by decide) w_1_208 rfl rfl rfl (by decide) (cq_put hQ rfl) dX2_init_31 ?_
  refine y_aload_n C 0 dX2_init_34 rfl rfl ?_
  refine y_iconst (v := (-1)) C dX2_init_35 ic_m1 ?_
  refine y_put (cs' := Q ++ .inr (2, [.ref (b + (n + 1)), .ref (b + (n + 2)), .ref (b + (n + 3)), .int 0, .int (-1), .int 0, .int 0]) :: ((([] ++ [.inl (Θ.2.2.2.2.2.2.1.1, 412, .inl (fun _ => 0))]) ++ [.inl (Θ.2.2.2.2.2.2.1.1, 32, .inl (fun _ => 0))]) ++ [.inl (Θ.2.2.2.2.2.2.1.1, 9, .inl (fun _ => 0))])) C hnm inT2 tyX2_ok nmX2 n (cq_get0 hQ) rfl 4 (by decide) w_1_210 rfl rfl rfl (by decide) (cq_put hQ rfl) dX2_init_36 ?_
  refine y_aload_n C 0 dX2_init_39 rfl rfl ?_
  refine y_iconst (v := 0) C dX2_init_40 ic_0 ?_
  refine y_put (cs' := Q ++ .inr (2, [.ref (b + (n + 1)), .ref (b + (n + 2)), .ref (b + (n + 3)), .int 0, .int (-1), .int 0, .int 0]) :: ((([] ++ [.inl (Θ.2.2.2.2.2.2.1.1, 412, .inl (fun _ => 0))]) ++ [.inl (Θ.2.2.2.2.2.2.1.1, 32, .inl (fun _ => 0))]) ++ [.inl (Θ.2.2.2.2.2.2.1.1, 9, .inl (fun _ => 0))])) C hnm inT2 tyX2_ok nmX2 n (cq_get0 hQ) rfl 5 (by decide) w_1_213 rfl rfl rfl (by decide) (cq_put hQ rfl) dX2_init_41 ?_
  refine y_aload_n C 0 dX2_init_44 rfl rfl ?_
  refine y_iconst (v := 0) C dX2_init_45 ic_0 ?_
  refine y_put (cs' := Q ++ .inr (2, [.ref (b + (n + 1)), .ref (b + (n + 2)), .ref (b + (n + 3)), .int 0, .int (-1), .int 0, .int 0]) :: ((([] ++ [.inl (Θ.2.2.2.2.2.2.1.1, 412, .inl (fun _ => 0))]) ++ [.inl (Θ.2.2.2.2.2.2.1.1, 32, .inl (fun _ => 0))]) ++ [.inl (Θ.2.2.2.2.2.2.1.1, 9, .inl (fun _ => 0))])) C hnm inT2 tyX2_ok nmX2 n (cq_get0 hQ) rfl 6 (by decide) w_1_214 rfl rfl rfl (by decide) (cq_put hQ rfl) dX2_init_46 ?_
  exact y_vret C ⟨Nat.le_refl _, Nat.le_refl _⟩ dX2_init_49)
theorem dX6_init_0 : decode cX6_init 0 = .ok (.aload_n 0, 1) := by decide +kernel
theorem dX6_init_1 : decode cX6_init 1 = .ok (.invokespecial 3, 3) := by decide +kernel
theorem w_1_235 : Cond.methodLink "LastLoaf$Reader" (3 : Nat) ({ cls := "java/lang/Object", name := "<init>", desc := "()V" } : MethodName) ∈ TB := tb_in (lwt_1 (List.mem_of_getElem? (i := 235) (by decide +kernel))) rfl
theorem dX6_init_4 : decode cX6_init 4 = .ok (.aload_n 0, 1) := by decide +kernel
theorem dX6_init_5 : decode cX6_init 5 = .ok (.bipush 32, 2) := by decide +kernel
theorem dX6_init_7 : decode cX6_init 7 = .ok (.newarray .int, 2) := by decide +kernel
theorem dX6_init_9 : decode cX6_init 9 = .ok (.putfield 9, 3) := by decide +kernel
theorem dX6_init_12 : decode cX6_init 12 = .ok (.aload_n 0, 1) := by decide +kernel
theorem dX6_init_13 : decode cX6_init 13 = .ok (.iconst 0, 1) := by decide +kernel
theorem dX6_init_14 : decode cX6_init 14 = .ok (.putfield 15, 3) := by decide +kernel
theorem dX6_init_17 : decode cX6_init 17 = .ok (.aload_n 0, 1) := by decide +kernel
theorem dX6_init_18 : decode cX6_init 18 = .ok (.iconst 0, 1) := by decide +kernel
theorem dX6_init_19 : decode cX6_init 19 = .ok (.putfield 19, 3) := by decide +kernel
theorem dX6_init_22 : decode cX6_init 22 = .ok (.aload_n 0, 1) := by decide +kernel
theorem dX6_init_23 : decode cX6_init 23 = .ok (.aload_n 1, 1) := by decide +kernel
theorem dX6_init_24 : decode cX6_init 24 = .ok (.putfield 22, 3) := by decide +kernel
theorem dX6_init_27 : decode cX6_init 27 = .ok (.aload_n 0, 1) := by decide +kernel
theorem dX6_init_28 : decode cX6_init 28 = .ok (.aload_n 2, 1) := by decide +kernel
theorem dX6_init_29 : decode cX6_init 29 = .ok (.putfield 26, 3) := by decide +kernel
theorem dX6_init_32 : decode cX6_init 32 = .ok (.aload_n 0, 1) := by decide +kernel
theorem dX6_init_33 : decode cX6_init 33 = .ok (.aload_n 3, 1) := by decide +kernel
theorem dX6_init_34 : decode cX6_init 34 = .ok (.putfield 30, 3) := by decide +kernel
theorem dX6_init_37 : decode cX6_init 37 = .ok (.return_, 1) := by decide +kernel
/-! LastLoaf$Reader.<init> -/
def ch6 (w : Wp) (b n : Nat) (p0 : Nat) (p1 : Nat) (p2 : Nat) : List va_E := .inr (6, [.ref p0, .ref p1, .ref p2, .ref (b + (n + 1)), .int 0, .int 0]) :: ([] ++ [.inl (w.2.1.1, 32, .inl (fun _ => 0))])
abbrev rmI6 : Room := { frames := 1, cells := 1, slots := 32, locals := 40 }
set_option maxHeartbeats 8000000 in
set_option maxRecDepth 100000 in
theorem k6_init {l : Launch} {w : Wp} {b n : Nat} {Q : List va_E} {p0 : Nat} {p1 : Nat} {p2 : Nat} (hQ : Q.length = n) : yM l w yX6_init cX6_init 4 rmI6 [.ref (b + n), .ref p0, .ref p1, .ref p2] b (Q ++ [.inr (6, [.null, .null, .null, .null, .int 0, .int 0])]) (Q ++ ch6 w b n p0 p1 p2) 1 32 := yM_of rfl (Nat.le_of_ble_eq_true rfl) (fun Θ hl0 hw C hnm => by
  subst hw
  refine y_cs (cs' := Q ++ .inr (6, [.null, .null, .null, .null, .int 0, .int 0]) :: []) rfl ?_
  refine y_aload_n C 0 dX6_init_0 rfl rfl ?_
  refine y_objInit C w_1_235 w_1_36 w_1_37 dX6_init_1 ⟨(Nat.le_of_ble_eq_true rfl), (Nat.le_of_ble_eq_true rfl)⟩ ?_
  refine y_aload_n C 0 dX6_init_4 rfl rfl ?_
  refine y_bipush (v := 32) C dX6_init_5 bp_32 ?_
  refine y_newa (N := 32) (n := n + 1) (cs' := Q ++ .inr (6, [.null, .null, .null, .null, .int 0, .int 0]) :: ([] ++ [.inl (Θ.2.2.2.2.2.2.1.1, 32, .inl (fun _ => 0))])) C w_1_64 (by decide) (by decide) (by decide) (cq_len hQ rfl) cq_app ⟨(Nat.le_of_ble_eq_true rfl), (Nat.le_of_ble_eq_true rfl)⟩ dX6_init_7 ?_
  refine y_put (cs' := Q ++ .inr (6, [.null, .null, .null, .ref (b + (n + 1)), .int 0, .int 0]) :: ([] ++ [.inl (Θ.2.2.2.2.2.2.1.1, 32, .inl (fun _ => 0))])) C hnm inT6 tyX6_ok nmX6 n (cq_get0 hQ) rfl 3 (by decide) w_1_239 rfl rfl rfl (by decide) (cq_put hQ rfl) dX6_init_9 ?_
  refine y_aload_n C 0 dX6_init_12 rfl rfl ?_
  refine y_iconst (v := 0) C dX6_init_13 ic_0 ?_
  refine y_put (cs' := Q ++ .inr (6, [.null, .null, .null, .ref (b + (n + 1)), .int 0, .int 0]) :: ([] ++ [.inl (Θ.2.2.2.2.2.2.1.1, 32, .inl (fun _ => 0))])) C hnm inT6 tyX6_ok nmX6 n (cq_get0 hQ) rfl 4 (by decide) w_2_0 rfl rfl rfl (by decide) (cq_put hQ rfl) dX6_init_14 ?_
  refine y_aload_n C 0 dX6_init_17 rfl rfl ?_
  refine y_iconst (v := 0) C dX6_init_18 ic_0 ?_
  refine y_put (cs' := Q ++ .inr (6, [.null, .null, .null, .ref (b + (n + 1)), .int 0, .int 0]) :: ([] ++ [.inl (Θ.2.2.2.2.2.2.1.1, 32, .inl (fun _ => 0))])) C hnm inT6 tyX6_ok nmX6 n (cq_get0 hQ) rfl 5 (by decide) w_2_1 rfl rfl rfl (by decide) (cq_put hQ rfl) dX6_init_19 ?_
  refine y_aload_n C 0 dX6_init_22 rfl rfl ?_
  refine y_aload_n C 1 dX6_init_23 rfl rfl ?_
  refine y_put (cs' := Q ++ .inr (6, [.ref p0, .null, .null, .ref (b + (n + 1)), .int 0, .int 0]) :: ([] ++ [.inl (Θ.2.2.2.2.2.2.1.1, 32, .inl (fun _ => 0))])) C hnm inT6 tyX6_ok nmX6 n (cq_get0 hQ) rfl 0 (by decide) w_1_236 rfl rfl rfl (by decide) (cq_put hQ rfl) dX6_init_24 ?_
  refine y_aload_n C 0 dX6_init_27 rfl rfl ?_
  refine y_aload_n C 2 dX6_init_28 rfl rfl ?_
  refine y_put (cs' := Q ++ .inr (6, [.ref p0, .ref p1, .null, .ref (b + (n + 1)), .int 0, .int 0]) :: ([] ++ [.inl (Θ.2.2.2.2.2.2.1.1, 32, .inl (fun _ => 0))])) C hnm inT6 tyX6_ok nmX6 n (cq_get0 hQ) rfl 1 (by decide) w_1_237 rfl rfl rfl (by decide) (cq_put hQ rfl) dX6_init_29 ?_
  refine y_aload_n C 0 dX6_init_32 rfl rfl ?_
  refine y_aload_n C 3 dX6_init_33 rfl rfl ?_
  refine y_put (cs' := Q ++ .inr (6, [.ref p0, .ref p1, .ref p2, .ref (b + (n + 1)), .int 0, .int 0]) :: ([] ++ [.inl (Θ.2.2.2.2.2.2.1.1, 32, .inl (fun _ => 0))])) C hnm inT6 tyX6_ok nmX6 n (cq_get0 hQ) rfl 2 (by decide) w_1_238 rfl rfl rfl (by decide) (cq_put hQ rfl) dX6_init_34 ?_
  exact y_vret C ⟨Nat.le_refl _, Nat.le_refl _⟩ dX6_init_37)
theorem dX4_init_0 : decode cX4_init 0 = .ok (.aload_n 0, 1) := by decide +kernel
theorem dX4_init_1 : decode cX4_init 1 = .ok (.invokespecial 3, 3) := by decide +kernel
theorem w_2_20 : Cond.methodLink "LastLoaf$Past" (3 : Nat) ({ cls := "java/lang/Object", name := "<init>", desc := "()V" } : MethodName) ∈ TB := tb_in (lwt_2 (List.mem_of_getElem? (i := 20) (by decide +kernel))) rfl
theorem dX4_init_4 : decode cX4_init 4 = .ok (.aload_n 0, 1) := by decide +kernel
theorem dX4_init_5 : decode cX4_init 5 = .ok (.bipush 12, 2) := by decide +kernel
theorem dX4_init_7 : decode cX4_init 7 = .ok (.anewarray 9, 3) := by decide +kernel
theorem w_2_21 : Cond.classLink "LastLoaf$Past" (9 : Nat) "LastLoaf$Village" ∈ TB := tb_in (lwt_2 (List.mem_of_getElem? (i := 21) (by decide +kernel))) rfl
theorem dX4_init_10 : decode cX4_init 10 = .ok (.putfield 11, 3) := by decide +kernel
theorem dX4_init_13 : decode cX4_init 13 = .ok (.aload_n 0, 1) := by decide +kernel
theorem dX4_init_14 : decode cX4_init 14 = .ok (.iconst 0, 1) := by decide +kernel
theorem dX4_init_15 : decode cX4_init 15 = .ok (.putfield 17, 3) := by decide +kernel
theorem dX4_init_18 : decode cX4_init 18 = .ok (.aload_n 0, 1) := by decide +kernel
theorem dX4_init_19 : decode cX4_init 19 = .ok (.iconst 0, 1) := by decide +kernel
theorem dX4_init_20 : decode cX4_init 20 = .ok (.putfield 21, 3) := by decide +kernel
theorem dX4_init_23 : decode cX4_init 23 = .ok (.iconst 0, 1) := by decide +kernel
theorem dX4_init_24 : decode cX4_init 24 = .ok (.istore_n 1, 1) := by decide +kernel
theorem dX4_init_25 : decode cX4_init 25 = .ok (.iload_n 1, 1) := by decide +kernel
theorem dX4_init_26 : decode cX4_init 26 = .ok (.bipush 12, 2) := by decide +kernel
theorem dX4_init_28 : decode cX4_init 28 = .ok (.if_icmp .ge 22, 3) := by decide +kernel
theorem dX4_init_31 : decode cX4_init 31 = .ok (.aload_n 0, 1) := by decide +kernel
theorem dX4_init_32 : decode cX4_init 32 = .ok (.getfield 11, 3) := by decide +kernel
theorem dX4_init_35 : decode cX4_init 35 = .ok (.iload_n 1, 1) := by decide +kernel
theorem dX4_init_36 : decode cX4_init 36 = .ok (.new 9, 3) := by decide +kernel
theorem w_1_66 : Cond.instantiable "LastLoaf$Village" (17 : Nat) ∈ TB := tb_in (lwt_1 (List.mem_of_getElem? (i := 66) (by decide +kernel))) rfl
theorem dX4_init_39 : decode cX4_init 39 = .ok (.dup, 1) := by decide +kernel
theorem dX4_init_40 : decode cX4_init 40 = .ok (.invokespecial 24, 3) := by decide +kernel
theorem w_1_69 : Cond.code ({ cls := "LastLoaf$Village", name := "<init>", desc := "()V" } : MethodName) prog_12_method_1_code (1 : Nat) (Option.none : Option ClassFile.FieldType) ∈ TB := tb_in (lwt_1 (List.mem_of_getElem? (i := 69) (by decide +kernel))) rfl
theorem w_1_68 : Cond.instanceMethod ({ cls := "LastLoaf$Village", name := "<init>", desc := "()V" } : MethodName) ∈ TB := tb_in (lwt_1 (List.mem_of_getElem? (i := 68) (by decide +kernel))) rfl
theorem w_2_23 : Cond.methodLink "LastLoaf$Past" (24 : Nat) ({ cls := "LastLoaf$Village", name := "<init>", desc := "()V" } : MethodName) ∈ TB := tb_in (lwt_2 (List.mem_of_getElem? (i := 23) (by decide +kernel))) rfl
theorem dX4_init_43 : decode cX4_init 43 = .ok (.aastore, 1) := by decide +kernel
theorem dX4_init_44 : decode cX4_init 44 = .ok (.iinc 1 1, 3) := by decide +kernel
theorem dX4_init_47 : decode cX4_init 47 = .ok (.goto (-22), 3) := by decide +kernel
theorem dX4_init_50 : decode cX4_init 50 = .ok (.return_, 1) := by decide +kernel
/-! LastLoaf$Past.<init> -/
def ch4 (w : Wp) (b n : Nat) : List va_E := .inr (4, [.ref (b + (n + 1)), .int 0, .int 0]) :: ((((((((((((([] ++ [.inl (w.2.1.2, 12, .inr (.inr (.inr (.inr (va_up (va_up (va_up (va_up (va_up (va_up (va_up (va_up (va_up (va_up (va_up (va_up (fun _ => none) 0 (some (b + (n + 2)))) 1 (some (b + (n + 12)))) 2 (some (b + (n + 22)))) 3 (some (b + (n + 32)))) 4 (some (b + (n + 42)))) 5 (some (b + (n + 52)))) 6 (some (b + (n + 62)))) 7 (some (b + (n + 72)))) 8 (some (b + (n + 82)))) 9 (some (b + (n + 92)))) 10 (some (b + (n + 102)))) 11 (some (b + (n + 112))))))))]) ++ ch10 w b (n + 2)) ++ ch10 w b (n + 12)) ++ ch10 w b (n + 22)) ++ ch10 w b (n + 32)) ++ ch10 w b (n + 42)) ++ ch10 w b (n + 52)) ++ ch10 w b (n + 62)) ++ ch10 w b (n + 72)) ++ ch10 w b (n + 82)) ++ ch10 w b (n + 92)) ++ ch10 w b (n + 102)) ++ ch10 w b (n + 112))
abbrev rmI4 : Room := { frames := 3, cells := 121, slots := 3972, locals := 80 }
set_option maxHeartbeats 8000000 in
set_option maxRecDepth 100000 in
theorem k4_init {l : Launch} {w : Wp} {b n : Nat} {Q : List va_E} (hQ : Q.length = n) : yM l w yX4_init cX4_init 2 rmI4 [.ref (b + n)] b (Q ++ [.inr (4, [.null, .int 0, .int 0])]) (Q ++ ch4 w b n) 121 3972 := yM_of rfl (Nat.le_of_ble_eq_true rfl) (fun Θ hl0 hw C hnm => by
  subst hw
  refine y_cs (cs' := Q ++ .inr (4, [.null, .int 0, .int 0]) :: []) rfl ?_
  refine y_aload_n C 0 dX4_init_0 rfl rfl ?_
  refine y_objInit C w_2_20 w_1_36 w_1_37 dX4_init_1 ⟨(Nat.le_of_ble_eq_true rfl), (Nat.le_of_ble_eq_true rfl)⟩ ?_
  refine y_aload_n C 0 dX4_init_4 rfl rfl ?_
  refine y_bipush (v := 12) C dX4_init_5 bp_12 ?_
  refine y_newq (N := 12) (n := n + 1) (cs' := Q ++ .inr (4, [.null, .int 0, .int 0]) :: ([] ++ [.inl (Θ.2.2.2.2.2.2.1.2, 12, .inr (.inr (.inr (.inr (fun _ => none)))))])) C w_2_21 (by decide) (by decide) (by decide) (cq_len hQ rfl) cq_app ⟨(Nat.le_of_ble_eq_true rfl), (Nat.le_of_ble_eq_true rfl)⟩ dX4_init_7 ?_
  refine y_put (cs' := Q ++ .inr (4, [.ref (b + (n + 1)), .int 0, .int 0]) :: ([] ++ [.inl (Θ.2.2.2.2.2.2.1.2, 12, .inr (.inr (.inr (.inr (fun _ => none)))))])) C hnm inT4 tyX4_ok nmX4 n (cq_get0 hQ) rfl 0 (by decide) w_2_24 rfl rfl rfl (by decide) (cq_put hQ rfl) dX4_init_10 ?_
  refine y_aload_n C 0 dX4_init_13 rfl rfl ?_
  refine y_iconst (v := 0) C dX4_init_14 ic_0 ?_
  refine y_put (cs' := Q ++ .inr (4, [.ref (b + (n + 1)), .int 0, .int 0]) :: ([] ++ [.inl (Θ.2.2.2.2.2.2.1.2, 12, .inr (.inr (.inr (.inr (fun _ => none)))))])) C hnm inT4 tyX4_ok nmX4 n (cq_get0 hQ) rfl 1 (by decide) w_2_25 rfl rfl rfl (by decide) (cq_put hQ rfl) dX4_init_15 ?_
  refine y_aload_n C 0 dX4_init_18 rfl rfl ?_
  refine y_iconst (v := 0) C dX4_init_19 ic_0 ?_
  refine y_put (cs' := Q ++ .inr (4, [.ref (b + (n + 1)), .int 0, .int 0]) :: ([] ++ [.inl (Θ.2.2.2.2.2.2.1.2, 12, .inr (.inr (.inr (.inr (fun _ => none)))))])) C hnm inT4 tyX4_ok nmX4 n (cq_get0 hQ) rfl 2 (by decide) w_2_27 rfl rfl rfl (by decide) (cq_put hQ rfl) dX4_init_20 ?_
  refine y_iconst (v := 0) C dX4_init_23 ic_0 ?_
  refine y_istore_n (lv' := [(1, .int 0), (0, .ref (b + n))]) C dX4_init_24 rfl (Nat.le_of_ble_eq_true rfl) rfl ?_
  refine y_iload_n C 0 dX4_init_25 rfl rfl ?_
  refine y_bipush (v := 12) C dX4_init_26 bp_12 ?_
  refine y_geF C 50 dX4_init_28 (by decide) (by decide) ?_
  refine y_aload_n C 1 dX4_init_31 rfl rfl ?_
  refine y_get (v := .ref (b + (n + 1))) C inT4 n (cq_get0 hQ) rfl 0 (by decide) w_2_24 rfl dX4_init_32 ?_
  refine y_iload_n C 0 dX4_init_35 rfl rfl ?_
  refine y_new (n := n + 2) (fs := [.null, .null, .null, .null, .null, .null, .null, .null, .int 0, .int 0, .int 0, .int 0, .int 0, .int 0, .int 0, .int 0, .int 0]) C inT10 tyX10_ok w_2_21 w_1_66 w_1_3 rfl (by decide) (cq_len hQ rfl) rfl ⟨(Nat.le_of_ble_eq_true rfl), (Nat.le_of_ble_eq_true rfl)⟩ dX4_init_36 ?_
  refine y_dup C dX4_init_39 rfl ?_
  refine y_callI C (n + 2) [] 0 (k10_init (l := Θ.1.2.1) (w := Θ.2.2.2.2.2) (b := b) (n := n + 2) (Q := Q ++ .inr (4, [.ref (b + (n + 1)), .int 0, .int 0]) :: ([] ++ [.inl (Θ.2.2.2.2.2.2.1.2, 12, .inr (.inr (.inr (.inr (fun _ => none)))))])) (cq_len hQ rfl)) w_1_69 w_2_23 w_1_68 w_1_3 rfl ⟨rfl, rfl, (Nat.le_of_ble_eq_true rfl), (Nat.le_of_ble_eq_true rfl)⟩ (by decide +kernel) rfl rfl (Nat.le_of_ble_eq_true rfl) ⟨(Nat.le_of_ble_eq_true rfl), (Nat.le_of_ble_eq_true rfl)⟩ dX4_init_40 ?_
  refine y_cs (cs' := Q ++ .inr (4, [.ref (b + (n + 1)), .int 0, .int 0]) :: (([] ++ [.inl (Θ.2.2.2.2.2.2.1.2, 12, .inr (.inr (.inr (.inr (fun _ => none)))))]) ++ ch10 Θ.2.2.2.2.2 b (n + 2))) cq_app ?_
  refine y_astq (cs' := Q ++ .inr (4, [.ref (b + (n + 1)), .int 0, .int 0]) :: (([] ++ [.inl (Θ.2.2.2.2.2.2.1.2, 12, .inr (.inr (.inr (.inr (va_up (fun _ => none) 0 (some (b + (n + 2))))))))]) ++ ch10 Θ.2.2.2.2.2 b (n + 2))) C (n + 1) (n + 2) (cq_get hQ rfl) (cq_get hQ rfl) (by decide) (cq_set hQ rfl) dX4_init_43 ?_
  refine y_iinc (v := 1) (lv' := [(1, .int 1), (0, .ref (b + n))]) C 0 dX4_init_44 rfl (by decide) (Nat.le_of_ble_eq_true rfl) rfl ?_
  refine y_goto C 25 dX4_init_47 (by decide) ?_
  refine y_iload_n C 0 dX4_init_25 rfl rfl ?_
  refine y_bipush (v := 12) C dX4_init_26 bp_12 ?_
  refine y_geF C 50 dX4_init_28 (by decide) (by decide) ?_
  refine y_aload_n C 1 dX4_init_31 rfl rfl ?_
  refine y_get (v := .ref (b + (n + 1))) C inT4 n (cq_get0 hQ) rfl 0 (by decide) w_2_24 rfl dX4_init_32 ?_
  refine y_iload_n C 0 dX4_init_35 rfl rfl ?_
  refine y_new (n := n + 12) (fs := [.null, .null, .null, .null, .null, .null, .null, .null, .int 0, .int 0, .int 0, .int 0, .int 0, .int 0, .int 0, .int 0, .int 0]) C inT10 tyX10_ok w_2_21 w_1_66 w_1_3 rfl (by decide) (cq_len hQ rfl) rfl ⟨(Nat.le_of_ble_eq_true rfl), (Nat.le_of_ble_eq_true rfl)⟩ dX4_init_36 ?_
  refine y_dup C dX4_init_39 rfl ?_
  refine y_callI C (n + 12) [] 0 (k10_init (l := Θ.1.2.1) (w := Θ.2.2.2.2.2) (b := b) (n := n + 12) (Q := Q ++ .inr (4, [.ref (b + (n + 1)), .int 0, .int 0]) :: (([] ++ [.inl (Θ.2.2.2.2.2.2.1.2, 12, .inr (.inr (.inr (.inr (va_up (fun _ => none) 0 (some (b + (n + 2))))))))]) ++ ch10 Θ.2.2.2.2.2 b (n + 2))) (cq_len hQ rfl)) w_1_69 w_2_23 w_1_68 w_1_3 rfl ⟨rfl, rfl, (Nat.le_of_ble_eq_true rfl), (Nat.le_of_ble_eq_true rfl)⟩ (by decide +kernel) rfl rfl (Nat.le_of_ble_eq_true rfl) ⟨(Nat.le_of_ble_eq_true rfl), (Nat.le_of_ble_eq_true rfl)⟩ dX4_init_40 ?_
  refine y_cs (cs' := Q ++ .inr (4, [.ref (b + (n + 1)), .int 0, .int 0]) :: ((([] ++ [.inl (Θ.2.2.2.2.2.2.1.2, 12, .inr (.inr (.inr (.inr (va_up (fun _ => none) 0 (some (b + (n + 2))))))))]) ++ ch10 Θ.2.2.2.2.2 b (n + 2)) ++ ch10 Θ.2.2.2.2.2 b (n + 12))) cq_app ?_
  refine y_astq (cs' := Q ++ .inr (4, [.ref (b + (n + 1)), .int 0, .int 0]) :: ((([] ++ [.inl (Θ.2.2.2.2.2.2.1.2, 12, .inr (.inr (.inr (.inr (va_up (va_up (fun _ => none) 0 (some (b + (n + 2)))) 1 (some (b + (n + 12))))))))]) ++ ch10 Θ.2.2.2.2.2 b (n + 2)) ++ ch10 Θ.2.2.2.2.2 b (n + 12))) C (n + 1) (n + 12) (cq_get hQ rfl) (cq_get hQ rfl) (by decide) (cq_set hQ rfl) dX4_init_43 ?_
  refine y_iinc (v := 2) (lv' := [(1, .int 2), (0, .ref (b + n))]) C 0 dX4_init_44 rfl (by decide) (Nat.le_of_ble_eq_true rfl) rfl ?_
  refine y_goto C 25 dX4_init_47 (by decide) ?_
  refine y_iload_n C 0 dX4_init_25 rfl rfl ?_
  refine y_bipush (v := 12) C dX4_init_26 bp_12 ?_
  refine y_geF C 50 dX4_init_28 (by decide) (by decide) ?_
  refine y_aload_n C 1 dX4_init_31 rfl rfl ?_
  refine y_get (v := .ref (b + (n + 1))) C inT4 n (cq_get0 hQ) rfl 0 (by decide) w_2_24 rfl dX4_init_32 ?_
  refine y_iload_n C 0 dX4_init_35 rfl rfl ?_
  refine y_new (n := n + 22) (fs := [.null, .null, .null, .null, .null, .null, .null, .null, .int 0, .int 0, .int 0, .int 0, .int 0, .int 0, .int 0, .int 0, .int 0]) C inT10 tyX10_ok w_2_21 w_1_66 w_1_3 rfl (by decide) (cq_len hQ rfl) rfl ⟨(Nat.le_of_ble_eq_true rfl), (Nat.le_of_ble_eq_true rfl)⟩ dX4_init_36 ?_
  refine y_dup C dX4_init_39 rfl ?_
  refine y_callI C (n + 22) [] 0 (k10_init (l := Θ.1.2.1) (w := Θ.2.2.2.2.2) (b := b) (n := n + 22) (Q := Q ++ .inr (4, [.ref (b + (n + 1)), .int 0, .int 0]) :: ((([] ++ [.inl (Θ.2.2.2.2.2.2.1.2, 12, .inr (.inr (.inr (.inr (va_up (va_up (fun _ => none) 0 (some (b + (n + 2)))) 1 (some (b + (n + 12))))))))]) ++ ch10 Θ.2.2.2.2.2 b (n + 2)) ++ ch10 Θ.2.2.2.2.2 b (n + 12))) (cq_len hQ rfl)) w_1_69 w_2_23 w_1_68 w_1_3 rfl ⟨rfl, rfl, (Nat.le_of_ble_eq_true rfl), (Nat.le_of_ble_eq_true rfl)⟩ (by decide +kernel) rfl rfl (Nat.le_of_ble_eq_true rfl) ⟨(Nat.le_of_ble_eq_true rfl), (Nat.le_of_ble_eq_true rfl)⟩ dX4_init_40 ?_
  refine y_cs (cs' := Q ++ .inr (4, [.ref (b + (n + 1)), .int 0, .int 0]) :: (((([] ++ [.inl (Θ.2.2.2.2.2.2.1.2, 12, .inr (.inr (.inr (.inr (va_up (va_up (fun _ => none) 0 (some (b + (n + 2)))) 1 (some (b + (n + 12))))))))]) ++ ch10 Θ.2.2.2.2.2 b (n + 2)) ++ ch10 Θ.2.2.2.2.2 b (n + 12)) ++ ch10 Θ.2.2.2.2.2 b (n + 22))) cq_app ?_
  refine y_astq (cs' := Q ++ .inr (4, [.ref (b + (n + 1)), .int 0, .int 0]) :: (((([] ++ [.inl (Θ.2.2.2.2.2.2.1.2, 12, .inr (.inr (.inr (.inr (va_up (va_up (va_up (fun _ => none) 0 (some (b + (n + 2)))) 1 (some (b + (n + 12)))) 2 (some (b + (n + 22))))))))]) ++ ch10 Θ.2.2.2.2.2 b (n + 2)) ++ ch10 Θ.2.2.2.2.2 b (n + 12)) ++ ch10 Θ.2.2.2.2.2 b (n + 22))) C (n + 1) (n + 22) (cq_get hQ rfl) (cq_get hQ rfl) (by decide) (cq_set hQ rfl) dX4_init_43 ?_
  refine y_iinc (v := 3) (lv' := [(1, .int 3), (0, .ref (b + n))]) C 0 dX4_init_44 rfl (by decide) (Nat.le_of_ble_eq_true rfl) rfl ?_
  refine y_goto C 25 dX4_init_47 (by decide) ?_
  refine y_iload_n C 0 dX4_init_25 rfl rfl ?_
  refine y_bipush (v := 12) C dX4_init_26 bp_12 ?_
  refine y_geF C 50 dX4_init_28 (by decide) (by decide) ?_
  refine y_aload_n C 1 dX4_init_31 rfl rfl ?_
  refine y_get (v := .ref (b + (n + 1))) C inT4 n (cq_get0 hQ) rfl 0 (by decide) w_2_24 rfl dX4_init_32 ?_
  refine y_iload_n C 0 dX4_init_35 rfl rfl ?_
  refine y_new (n := n + 32) (fs := [.null, .null, .null, .null, .null, .null, .null, .null, .int 0, .int 0, .int 0, .int 0, .int 0, .int 0, .int 0, .int 0, .int 0]) C inT10 tyX10_ok w_2_21 w_1_66 w_1_3 rfl (by decide) (cq_len hQ rfl) rfl ⟨(Nat.le_of_ble_eq_true rfl), (Nat.le_of_ble_eq_true rfl)⟩ dX4_init_36 ?_
  refine y_dup C dX4_init_39 rfl ?_
  refine y_callI C (n + 32) [] 0 (k10_init (l := Θ.1.2.1) (w := Θ.2.2.2.2.2) (b := b) (n := n + 32) (Q := Q ++ .inr (4, [.ref (b + (n + 1)), .int 0, .int 0]) :: (((([] ++ [.inl (Θ.2.2.2.2.2.2.1.2, 12, .inr (.inr (.inr (.inr (va_up (va_up (va_up (fun _ => none) 0 (some (b + (n + 2)))) 1 (some (b + (n + 12)))) 2 (some (b + (n + 22))))))))]) ++ ch10 Θ.2.2.2.2.2 b (n + 2)) ++ ch10 Θ.2.2.2.2.2 b (n + 12)) ++ ch10 Θ.2.2.2.2.2 b (n + 22))) (cq_len hQ rfl)) w_1_69 w_2_23 w_1_68 w_1_3 rfl ⟨rfl, rfl, (Nat.le_of_ble_eq_true rfl), (Nat.le_of_ble_eq_true rfl)⟩ (by decide +kernel) rfl rfl (Nat.le_of_ble_eq_true rfl) ⟨(Nat.le_of_ble_eq_true rfl), (Nat.le_of_ble_eq_true rfl)⟩ dX4_init_40 ?_
  refine y_cs (cs' := Q ++ .inr (4, [.ref (b + (n + 1)), .int 0, .int 0]) :: ((((([] ++ [.inl (Θ.2.2.2.2.2.2.1.2, 12, .inr (.inr (.inr (.inr (va_up (va_up (va_up (fun _ => none) 0 (some (b + (n + 2)))) 1 (some (b + (n + 12)))) 2 (some (b + (n + 22))))))))]) ++ ch10 Θ.2.2.2.2.2 b (n + 2)) ++ ch10 Θ.2.2.2.2.2 b (n + 12)) ++ ch10 Θ.2.2.2.2.2 b (n + 22)) ++ ch10 Θ.2.2.2.2.2 b (n + 32))) cq_app ?_
  refine y_astq (cs' := Q ++ .inr (4, [.ref (b + (n + 1)), .int 0, .int 0]) :: ((((([] ++ [.inl (Θ.2.2.2.2.2.2.1.2, 12, .inr (.inr (.inr (.inr (va_up (va_up (va_up (va_up (fun _ => none) 0 (some (b + (n + 2)))) 1 (some (b + (n + 12)))) 2 (some (b + (n + 22)))) 3 (some (b + (n + 32))))))))]) ++ ch10 Θ.2.2.2.2.2 b (n + 2)) ++ ch10 Θ.2.2.2.2.2 b (n + 12)) ++ ch10 Θ.2.2.2.2.2 b (n + 22)) ++ ch10 Θ.2.2.2.2.2 b (n + 32))) C (n + 1) (n + 32) (cq_get hQ rfl) (cq_get hQ rfl) (by decide) (cq_set hQ rfl) dX4_init_43 ?_
  refine y_iinc (v := 4) (lv' := [(1, .int 4), (0, .ref (b + n))]) C 0 dX4_init_44 rfl (by decide) (Nat.le_of_ble_eq_true rfl) rfl ?_
  refine y_goto C 25 dX4_init_47 (by decide) ?_
  refine y_iload_n C 0 dX4_init_25 rfl rfl ?_
  refine y_bipush (v := 12) C dX4_init_26 bp_12 ?_
  refine y_geF C 50 dX4_init_28 (by decide) (by decide) ?_
  refine y_aload_n C 1 dX4_init_31 rfl rfl ?_
  refine y_get (v := .ref (b + (n + 1))) C inT4 n (cq_get0 hQ) rfl 0 (by decide) w_2_24 rfl dX4_init_32 ?_
  refine y_iload_n C 0 dX4_init_35 rfl rfl ?_
  refine y_new (n := n + 42) (fs := [.null, .null, .null, .null, .null, .null, .null, .null, .int 0, .int 0, .int 0, .int 0, .int 0, .int 0, .int 0, .int 0, .int 0]) C inT10 tyX10_ok w_2_21 w_1_66 w_1_3 rfl (by decide) (cq_len hQ rfl) rfl ⟨(Nat.le_of_ble_eq_true rfl), (Nat.le_of_ble_eq_true rfl)⟩ dX4_init_36 ?_
  refine y_dup C dX4_init_39 rfl ?_
  refine y_callI C (n + 42) [] 0 (k10_init (l := Θ.1.2.1) (w := Θ.2.2.2.2.2) (b := b) (n := n + 42) (Q := Q ++ .inr (4, [.ref (b + (n + 1)), .int 0, .int 0]) :: ((((([] ++ [.inl (Θ.2.2.2.2.2.2.1.2, 12, .inr (.inr (.inr (.inr (va_up (va_up (va_up (va_up (fun _ => none) 0 (some (b + (n + 2)))) 1 (some (b + (n + 12)))) 2 (some (b + (n + 22)))) 3 (some (b + (n + 32))))))))]) ++ ch10 Θ.2.2.2.2.2 b (n + 2)) ++ ch10 Θ.2.2.2.2.2 b (n + 12)) ++ ch10 Θ.2.2.2.2.2 b (n + 22)) ++ ch10 Θ.2.2.2.2.2 b (n + 32))) (cq_len hQ rfl)) w_1_69 w_2_23 w_1_68 w_1_3 rfl ⟨rfl, rfl, (Nat.le_of_ble_eq_true rfl), (Nat.le_of_ble_eq_true rfl)⟩ (by decide +kernel) rfl rfl (Nat.le_of_ble_eq_true rfl) ⟨(Nat.le_of_ble_eq_true rfl), (Nat.le_of_ble_eq_true rfl)⟩ dX4_init_40 ?_
  refine y_cs (cs' := Q ++ .inr (4, [.ref (b + (n + 1)), .int 0, .int 0]) :: (((((([] ++ [.inl (Θ.2.2.2.2.2.2.1.2, 12, .inr (.inr (.inr (.inr (va_up (va_up (va_up (va_up (fun _ => none) 0 (some (b + (n + 2)))) 1 (some (b + (n + 12)))) 2 (some (b + (n + 22)))) 3 (some (b + (n + 32))))))))]) ++ ch10 Θ.2.2.2.2.2 b (n + 2)) ++ ch10 Θ.2.2.2.2.2 b (n + 12)) ++ ch10 Θ.2.2.2.2.2 b (n + 22)) ++ ch10 Θ.2.2.2.2.2 b (n + 32)) ++ ch10 Θ.2.2.2.2.2 b (n + 42))) cq_app ?_
  refine y_astq (cs' := Q ++ .inr (4, [.ref (b + (n + 1)), .int 0, .int 0]) :: (((((([] ++ [.inl (Θ.2.2.2.2.2.2.1.2, 12, .inr (.inr (.inr (.inr (va_up (va_up (va_up (va_up (va_up (fun _ => none) 0 (some (b + (n + 2)))) 1 (some (b + (n + 12)))) 2 (some (b + (n + 22)))) 3 (some (b + (n + 32)))) 4 (some (b + (n + 42))))))))]) ++ ch10 Θ.2.2.2.2.2 b (n + 2)) ++ ch10 Θ.2.2.2.2.2 b (n + 12)) ++ ch10 Θ.2.2.2.2.2 b (n + 22)) ++ ch10 Θ.2.2.2.2.2 b (n + 32)) ++ ch10 Θ.2.2.2.2.2 b (n + 42))) C (n + 1) (n + 42) (cq_get hQ rfl) (cq_get hQ rfl) (by decide) (cq_set hQ rfl) dX4_init_43 ?_
  refine y_iinc (v := 5) (lv' := [(1, .int 5), (0, .ref (b + n))]) C 0 dX4_init_44 rfl (by decide) (Nat.le_of_ble_eq_true rfl) rfl ?_
  refine y_goto C 25 dX4_init_47 (by decide) ?_
  refine y_iload_n C 0 dX4_init_25 rfl rfl ?_
  refine y_bipush (v := 12) C dX4_init_26 bp_12 ?_
  refine y_geF C 50 dX4_init_28 (by decide) (by decide) ?_
  refine y_aload_n C 1 dX4_init_31 rfl rfl ?_
  refine y_get (v := .ref (b + (n + 1))) C inT4 n (cq_get0 hQ) rfl 0 (by decide) w_2_24 rfl dX4_init_32 ?_
  refine y_iload_n C 0 dX4_init_35 rfl rfl ?_
  refine y_new (n := n + 52) (fs := [.null, .null, .null, .null, .null, .null, .null, .null, .int 0, .int 0, .int 0, .int 0, .int 0, .int 0, .int 0, .int 0, .int 0]) C inT10 tyX10_ok w_2_21 w_1_66 w_1_3 rfl (by decide) (cq_len hQ rfl) rfl ⟨(Nat.le_of_ble_eq_true rfl), (Nat.le_of_ble_eq_true rfl)⟩ dX4_init_36 ?_
  refine y_dup C dX4_init_39 rfl ?_
  refine y_callI C (n + 52) [] 0 (k10_init (l := Θ.1.2.1) (w := Θ.2.2.2.2.2) (b := b) (n := n + 52) (Q := Q ++ .inr (4, [.ref (b + (n + 1)), .int 0, .int 0]) :: (((((([] ++ [.inl (Θ.2.2.2.2.2.2.1.2, 12, .inr (.inr (.inr (.inr (va_up (va_up (va_up (va_up (va_up (fun _ => none) 0 (some (b + (n + 2)))) 1 (some (b + (n + 12)))) 2 (some (b + (n + 22)))) 3 (some (b + (n + 32)))) 4 (some (b + (n + 42))))))))]) ++ ch10 Θ.2.2.2.2.2 b (n + 2)) ++ ch10 Θ.2.2.2.2.2 b (n + 12)) ++ ch10 Θ.2.2.2.2.2 b (n + 22)) ++ ch10 Θ.2.2.2.2.2 b (n + 32)) ++ ch10 Θ.2.2.2.2.2 b (n + 42))) (cq_len hQ rfl)) w_1_69 w_2_23 w_1_68 w_1_3 rfl ⟨rfl, rfl, (Nat.le_of_ble_eq_true rfl), (Nat.le_of_ble_eq_true rfl)⟩ (by decide +kernel) rfl rfl (Nat.le_of_ble_eq_true rfl) ⟨(Nat.le_of_ble_eq_true rfl), (Nat.le_of_ble_eq_true rfl)⟩ dX4_init_40 ?_
  refine y_cs (cs' := Q ++ .inr (4, [.ref (b + (n + 1)), .int 0, .int 0]) :: ((((((([] ++ [.inl (Θ.2.2.2.2.2.2.1.2, 12, .inr (.inr (.inr (.inr (va_up (va_up (va_up (va_up (va_up (fun _ => none) 0 (some (b + (n + 2)))) 1 (some (b + (n + 12)))) 2 (some (b + (n + 22)))) 3 (some (b + (n + 32)))) 4 (some (b + (n + 42))))))))]) ++ ch10 Θ.2.2.2.2.2 b (n + 2)) ++ ch10 Θ.2.2.2.2.2 b (n + 12)) ++ ch10 Θ.2.2.2.2.2 b (n + 22)) ++ ch10 Θ.2.2.2.2.2 b (n + 32)) ++ ch10 Θ.2.2.2.2.2 b (n + 42)) ++ ch10 Θ.2.2.2.2.2 b (n + 52))) cq_app ?_
  refine y_astq (cs' := Q ++ .inr (4, [.ref (b + (n + 1)), .int 0, .int 0]) :: ((((((([] ++ [.inl (Θ.2.2.2.2.2.2.1.2, 12, .inr (.inr (.inr (.inr (va_up (va_up (va_up (va_up (va_up (va_up (fun _ => none) 0 (some (b + (n + 2)))) 1 (some (b + (n + 12)))) 2 (some (b + (n + 22)))) 3 (some (b + (n + 32)))) 4 (some (b + (n + 42)))) 5 (some (b + (n + 52))))))))]) ++ ch10 Θ.2.2.2.2.2 b (n + 2)) ++ ch10 Θ.2.2.2.2.2 b (n + 12)) ++ ch10 Θ.2.2.2.2.2 b (n + 22)) ++ ch10 Θ.2.2.2.2.2 b (n + 32)) ++ ch10 Θ.2.2.2.2.2 b (n + 42)) ++ ch10 Θ.2.2.2.2.2 b (n + 52))) C (n + 1) (n + 52) (cq_get hQ rfl) (cq_get hQ rfl) (by decide) (cq_set hQ rfl) dX4_init_43 ?_
  refine y_iinc (v := 6) (lv' := [(1, .int 6), (0, .ref (b + n))]) C 0 dX4_init_44 rfl (by decide) (Nat.le_of_ble_eq_true rfl) rfl ?_
  refine y_goto C 25 dX4_init_47 (by decide) ?_
  refine y_iload_n C 0 dX4_init_25 rfl rfl ?_
  refine y_bipush (v := 12) C dX4_init_26 bp_12 ?_
  refine y_geF C 50 dX4_init_28 (by decide) (by decide) ?_
  refine y_aload_n C 1 dX4_init_31 rfl rfl ?_
  refine y_get (v := .ref (b + (n + 1))) C inT4 n (cq_get0 hQ) rfl 0 (by decide) w_2_24 rfl dX4_init_32 ?_
  refine y_iload_n C 0 dX4_init_35 rfl rfl ?_
  refine y_new (n := n + 62) (fs := [.null, .null, .null, .null, .null, .null, .null, .null, .int 0, .int 0, .int 0, .int 0, .int 0, .int 0, .int 0, .int 0, .int 0]) C inT10 tyX10_ok w_2_21 w_1_66 w_1_3 rfl (by decide) (cq_len hQ rfl) rfl ⟨(Nat.le_of_ble_eq_true rfl), (Nat.le_of_ble_eq_true rfl)⟩ dX4_init_36 ?_
  refine y_dup C dX4_init_39 rfl ?_
  refine y_callI C (n + 62) [] 0 (k10_init (l := Θ.1.2.1) (w := Θ.2.2.2.2.2) (b := b) (n := n + 62) (Q := Q ++ .inr (4, [.ref (b + (n + 1)), .int 0, .int 0]) :: ((((((([] ++ [.inl (Θ.2.2.2.2.2.2.1.2, 12, .inr (.inr (.inr (.inr (va_up (va_up (va_up (va_up (va_up (va_up (fun _ => none) 0 (some (b + (n + 2)))) 1 (some (b + (n + 12)))) 2 (some (b + (n + 22)))) 3 (some (b + (n + 32)))) 4 (some (b + (n + 42)))) 5 (some (b + (n + 52))))))))]) ++ ch10 Θ.2.2.2.2.2 b (n + 2)) ++ ch10 Θ.2.2.2.2.2 b (n + 12)) ++ ch10 Θ.2.2.2.2.2 b (n + 22)) ++ ch10 Θ.2.2.2.2.2 b (n + 32)) ++ ch10 Θ.2.2.2.2.2 b (n + 42)) ++ ch10 Θ.2.2.2.2.2 b (n + 52))) (cq_len hQ rfl)) w_1_69 w_2_23 w_1_68 w_1_3 rfl ⟨rfl, rfl, (Nat.le_of_ble_eq_true rfl), (Nat.le_of_ble_eq_true rfl)⟩ (by decide +kernel) rfl rfl (Nat.le_of_ble_eq_true rfl) ⟨(Nat.le_of_ble_eq_true rfl), (Nat.le_of_ble_eq_true rfl)⟩ dX4_init_40 ?_
  refine y_cs (cs' := Q ++ .inr (4, [.ref (b + (n + 1)), .int 0, .int 0]) :: (((((((([] ++ [.inl (Θ.2.2.2.2.2.2.1.2, 12, .inr (.inr (.inr (.inr (va_up (va_up (va_up (va_up (va_up (va_up (fun _ => none) 0 (some (b + (n + 2)))) 1 (some (b + (n + 12)))) 2 (some (b + (n + 22)))) 3 (some (b + (n + 32)))) 4 (some (b + (n + 42)))) 5 (some (b + (n + 52))))))))]) ++ ch10 Θ.2.2.2.2.2 b (n + 2)) ++ ch10 Θ.2.2.2.2.2 b (n + 12)) ++ ch10 Θ.2.2.2.2.2 b (n + 22)) ++ ch10 Θ.2.2.2.2.2 b (n + 32)) ++ ch10 Θ.2.2.2.2.2 b (n + 42)) ++ ch10 Θ.2.2.2.2.2 b (n + 52)) ++ ch10 Θ.2.2.2.2.2 b (n + 62))) cq_app ?_
  refine y_astq (cs' := Q ++ .inr (4, [.ref (b + (n + 1)), .int 0, .int 0]) :: (((((((([] ++ [.inl (Θ.2.2.2.2.2.2.1.2, 12, .inr (.inr (.inr (.inr (va_up (va_up (va_up (va_up (va_up (va_up (va_up (fun _ => none) 0 (some (b + (n + 2)))) 1 (some (b + (n + 12)))) 2 (some (b + (n + 22)))) 3 (some (b + (n + 32)))) 4 (some (b + (n + 42)))) 5 (some (b + (n + 52)))) 6 (some (b + (n + 62))))))))]) ++ ch10 Θ.2.2.2.2.2 b (n + 2)) ++ ch10 Θ.2.2.2.2.2 b (n + 12)) ++ ch10 Θ.2.2.2.2.2 b (n + 22)) ++ ch10 Θ.2.2.2.2.2 b (n + 32)) ++ ch10 Θ.2.2.2.2.2 b (n + 42)) ++ ch10 Θ.2.2.2.2.2 b (n + 52)) ++ ch10 Θ.2.2.2.2.2 b (n + 62))) C (n + 1) (n + 62) (cq_get hQ rfl) (cq_get hQ rfl) (by decide) (cq_set hQ rfl) dX4_init_43 ?_
  refine y_iinc (v := 7) (lv' := [(1, .int 7), (0, .ref (b + n))]) C 0 dX4_init_44 rfl (by decide) (Nat.le_of_ble_eq_true rfl) rfl ?_
  refine y_goto C 25 dX4_init_47 (by decide) ?_
  refine y_iload_n C 0 dX4_init_25 rfl rfl ?_
  refine y_bipush (v := 12) C dX4_init_26 bp_12 ?_
  refine y_geF C 50 dX4_init_28 (by decide) (by decide) ?_
  refine y_aload_n C 1 dX4_init_31 rfl rfl ?_
  refine y_get (v := .ref (b + (n + 1))) C inT4 n (cq_get0 hQ) rfl 0 (by decide) w_2_24 rfl dX4_init_32 ?_
  refine y_iload_n C 0 dX4_init_35 rfl rfl ?_
  refine y_new (n := n + 72) (fs := [.null, .null, .null, .null, .null, .null, .null, .null, .int 0, .int 0, .int 0, .int 0, .int 0, .int 0, .int 0, .int 0, .int 0]) C inT10 tyX10_ok w_2_21 w_1_66 w_1_3 rfl (by decide) (cq_len hQ rfl) rfl ⟨(Nat.le_of_ble_eq_true rfl), (Nat.le_of_ble_eq_true rfl)⟩ dX4_init_36 ?_
  refine y_dup C dX4_init_39 rfl ?_
  refine y_callI C (n + 72) [] 0 (k10_init (l := Θ.1.2.1) (w := Θ.2.2.2.2.2) (b := b) (n := n + 72) (Q := Q ++ .inr (4, [.ref (b + (n + 1)), .int 0, .int 0]) :: (((((((([] ++ [.inl (Θ.2.2.2.2.2.2.1.2, 12, .inr (.inr (.inr (.inr (va_up (va_up (va_up (va_up (va_up (va_up (va_up (fun _ => none) 0 (some (b + (n + 2)))) 1 (some (b + (n + 12)))) 2 (some (b + (n + 22)))) 3 (some (b + (n + 32)))) 4 (some (b + (n + 42)))) 5 (some (b + (n + 52)))) 6 (some (b + (n + 62))))))))]) ++ ch10 Θ.2.2.2.2.2 b (n + 2)) ++ ch10 Θ.2.2.2.2.2 b (n + 12)) ++ ch10 Θ.2.2.2.2.2 b (n + 22)) ++ ch10 Θ.2.2.2.2.2 b (n + 32)) ++ ch10 Θ.2.2.2.2.2 b (n + 42)) ++ ch10 Θ.2.2.2.2.2 b (n + 52)) ++ ch10 Θ.2.2.2.2.2 b (n + 62))) (cq_len hQ rfl)) w_1_69 w_2_23 w_1_68 w_1_3 rfl ⟨rfl, rfl, (Nat.le_of_ble_eq_true rfl), (Nat.le_of_ble_eq_true rfl)⟩ (by decide +kernel) rfl rfl (Nat.le_of_ble_eq_true rfl) ⟨(Nat.le_of_ble_eq_true rfl), (Nat.le_of_ble_eq_true rfl)⟩ dX4_init_40 ?_
  refine y_cs (cs' := Q ++ .inr (4, [.ref (b + (n + 1)), .int 0, .int 0]) :: ((((((((([] ++ [.inl (Θ.2.2.2.2.2.2.1.2, 12, .inr (.inr (.inr (.inr (va_up (va_up (va_up (va_up (va_up (va_up (va_up (fun _ => none) 0 (some (b + (n + 2)))) 1 (some (b + (n + 12)))) 2 (some (b + (n + 22)))) 3 (some (b + (n + 32)))) 4 (some (b + (n + 42)))) 5 (some (b + (n + 52)))) 6 (some (b + (n + 62))))))))]) ++ ch10 Θ.2.2.2.2.2 b (n + 2)) ++ ch10 Θ.2.2.2.2.2 b (n + 12)) ++ ch10 Θ.2.2.2.2.2 b (n + 22)) ++ ch10 Θ.2.2.2.2.2 b (n + 32)) ++ ch10 Θ.2.2.2.2.2 b (n + 42)) ++ ch10 Θ.2.2.2.2.2 b (n + 52)) ++ ch10 Θ.2.2.2.2.2 b (n + 62)) ++ ch10 Θ.2.2.2.2.2 b (n + 72))) cq_app ?_
  refine y_astq (cs' := Q ++ .inr (4, [.ref (b + (n + 1)), .int 0, .int 0]) :: ((((((((([] ++ [.inl (Θ.2.2.2.2.2.2.1.2, 12, .inr (.inr (.inr (.inr (va_up (va_up (va_up (va_up (va_up (va_up (va_up (va_up (fun _ => none) 0 (some (b + (n + 2)))) 1 (some (b + (n + 12)))) 2 (some (b + (n + 22)))) 3 (some (b + (n + 32)))) 4 (some (b + (n + 42)))) 5 (some (b + (n + 52)))) 6 (some (b + (n + 62)))) 7 (some (b + (n + 72))))))))]) ++ ch10 Θ.2.2.2.2.2 b (n + 2)) ++ ch10 Θ.2.2.2.2.2 b (n + 12)) ++ ch10 Θ.2.2.2.2.2 b (n + 22)) ++ ch10 Θ.2.2.2.2.2 b (n + 32)) ++ ch10 Θ.2.2.2.2.2 b (n + 42)) ++ ch10 Θ.2.2.2.2.2 b (n + 52)) ++ ch10 Θ.2.2.2.2.2 b (n + 62)) ++ ch10 Θ.2.2.2.2.2 b (n + 72))) C (n + 1) (n + 72) (cq_get hQ rfl) (cq_get hQ rfl) (by decide) (cq_set hQ rfl) dX4_init_43 ?_
  refine y_iinc (v := 8) (lv' := [(1, .int 8), (0, .ref (b + n))]) C 0 dX4_init_44 rfl (by decide) (Nat.le_of_ble_eq_true rfl) rfl ?_
  refine y_goto C 25 dX4_init_47 (by decide) ?_
  refine y_iload_n C 0 dX4_init_25 rfl rfl ?_
  refine y_bipush (v := 12) C dX4_init_26 bp_12 ?_
  refine y_geF C 50 dX4_init_28 (by decide) (by decide) ?_
  refine y_aload_n C 1 dX4_init_31 rfl rfl ?_
  refine y_get (v := .ref (b + (n + 1))) C inT4 n (cq_get0 hQ) rfl 0 (by decide) w_2_24 rfl dX4_init_32 ?_
  refine y_iload_n C 0 dX4_init_35 rfl rfl ?_
  refine y_new (n := n + 82) (fs := [.null, .null, .null, .null, .null, .null, .null, .null, .int 0, .int 0, .int 0, .int 0, .int 0, .int 0, .int 0, .int 0, .int 0]) C inT10 tyX10_ok w_2_21 w_1_66 w_1_3 rfl (by decide) (cq_len hQ rfl) rfl ⟨(Nat.le_of_ble_eq_true rfl), (Nat.le_of_ble_eq_true rfl)⟩ dX4_init_36 ?_
  refine y_dup C dX4_init_39 rfl ?_
  refine y_callI C (n + 82) [] 0 (k10_init (l := Θ.1.2.1) (w := Θ.2.2.2.2.2) (b := b) (n := n + 82) (Q := Q ++ .inr (4, [.ref (b + (n + 1)), .int 0, .int 0]) :: ((((((((([] ++ [.inl (Θ.2.2.2.2.2.2.1.2, 12, .inr (.inr (.inr (.inr (va_up (va_up (va_up (va_up (va_up (va_up (va_up (va_up (fun _ => none) 0 (some (b + (n + 2)))) 1 (some (b + (n + 12)))) 2 (some (b + (n + 22)))) 3 (some (b + (n + 32)))) 4 (some (b + (n + 42)))) 5 (some (b + (n + 52)))) 6 (some (b + (n + 62)))) 7 (some (b + (n + 72))))))))]) ++ ch10 Θ.2.2.2.2.2 b (n + 2)) ++ ch10 Θ.2.2.2.2.2 b (n + 12)) ++ ch10 Θ.2.2.2.2.2 b (n + 22)) ++ ch10 Θ.2.2.2.2.2 b (n + 32)) ++ ch10 Θ.2.2.2.2.2 b (n + 42)) ++ ch10 Θ.2.2.2.2.2 b (n + 52)) ++ ch10 Θ.2.2.2.2.2 b (n + 62)) ++ ch10 Θ.2.2.2.2.2 b (n + 72))) (cq_len hQ rfl)) w_1_69 w_2_23 w_1_68 w_1_3 rfl ⟨rfl, rfl, (Nat.le_of_ble_eq_true rfl), (Nat.le_of_ble_eq_true rfl)⟩ (by decide +kernel) rfl rfl (Nat.le_of_ble_eq_true rfl) ⟨(Nat.le_of_ble_eq_true rfl), (Nat.le_of_ble_eq_true rfl)⟩ dX4_init_40 ?_
  refine y_cs (cs' := Q ++ .inr (4, [.ref (b + (n + 1)), .int 0, .int 0]) :: (((((((((([] ++ [.inl (Θ.2.2.2.2.2.2.1.2, 12, .inr (.inr (.inr (.inr (va_up (va_up (va_up (va_up (va_up (va_up (va_up (va_up (fun _ => none) 0 (some (b + (n + 2)))) 1 (some (b + (n + 12)))) 2 (some (b + (n + 22)))) 3 (some (b + (n + 32)))) 4 (some (b + (n + 42)))) 5 (some (b + (n + 52)))) 6 (some (b + (n + 62)))) 7 (some (b + (n + 72))))))))]) ++ ch10 Θ.2.2.2.2.2 b (n + 2)) ++ ch10 Θ.2.2.2.2.2 b (n + 12)) ++ ch10 Θ.2.2.2.2.2 b (n + 22)) ++ ch10 Θ.2.2.2.2.2 b (n + 32)) ++ ch10 Θ.2.2.2.2.2 b (n + 42)) ++ ch10 Θ.2.2.2.2.2 b (n + 52)) ++ ch10 Θ.2.2.2.2.2 b (n + 62)) ++ ch10 Θ.2.2.2.2.2 b (n + 72)) ++ ch10 Θ.2.2.2.2.2 b (n + 82))) cq_app ?_
  refine y_astq (cs' := Q ++ .inr (4, [.ref (b + (n + 1)), .int 0, .int 0]) :: (((((((((([] ++ [.inl (Θ.2.2.2.2.2.2.1.2, 12, .inr (.inr (.inr (.inr (va_up (va_up (va_up (va_up (va_up (va_up (va_up (va_up (va_up (fun _ => none) 0 (some (b + (n + 2)))) 1 (some (b + (n + 12)))) 2 (some (b + (n + 22)))) 3 (some (b + (n + 32)))) 4 (some (b + (n + 42)))) 5 (some (b + (n + 52)))) 6 (some (b + (n + 62)))) 7 (some (b + (n + 72)))) 8 (some (b + (n + 82))))))))]) ++ ch10 Θ.2.2.2.2.2 b (n + 2)) ++ ch10 Θ.2.2.2.2.2 b (n + 12)) ++ ch10 Θ.2.2.2.2.2 b (n + 22)) ++ ch10 Θ.2.2.2.2.2 b (n + 32)) ++ ch10 Θ.2.2.2.2.2 b (n + 42)) ++ ch10 Θ.2.2.2.2.2 b (n + 52)) ++ ch10 Θ.2.2.2.2.2 b (n + 62)) ++ ch10 Θ.2.2.2.2.2 b (n + 72)) ++ ch10 Θ.2.2.2.2.2 b (n + 82))) C (n + 1) (n + 82) (cq_get hQ rfl) (cq_get hQ rfl) (by decide) (cq_set hQ rfl) dX4_init_43 ?_
  refine y_iinc (v := 9) (lv' := [(1, .int 9), (0, .ref (b + n))]) C 0 dX4_init_44 rfl (by decide) (Nat.le_of_ble_eq_true rfl) rfl ?_
  refine y_goto C 25 dX4_init_47 (by decide) ?_
  refine y_iload_n C 0 dX4_init_25 rfl rfl ?_
  refine y_bipush (v := 12) C dX4_init_26 bp_12 ?_
  refine y_geF C 50 dX4_init_28 (by decide) (by decide) ?_
  refine y_aload_n C 1 dX4_init_31 rfl rfl ?_
  refine y_get (v := .ref (b + (n + 1))) C inT4 n (cq_get0 hQ) rfl 0 (by decide) w_2_24 rfl dX4_init_32 ?_
  refine y_iload_n C 0 dX4_init_35 rfl rfl ?_
  refine y_new (n := n + 92) (fs := [.null, .null, .null, .null, .null, .null, .null, .null, .int 0, .int 0, .int 0, .int 0, .int 0, .int 0, .int 0, .int 0, .int 0]) C inT10 tyX10_ok w_2_21 w_1_66 w_1_3 rfl (by decide) (cq_len hQ rfl) rfl ⟨(Nat.le_of_ble_eq_true rfl), (Nat.le_of_ble_eq_true rfl)⟩ dX4_init_36 ?_
  refine y_dup C dX4_init_39 rfl ?_
  refine y_callI C (n + 92) [] 0 (k10_init (l := Θ.1.2.1) (w := Θ.2.2.2.2.2) (b := b) (n := n + 92) (Q := Q ++ .inr (4, [.ref (b + (n + 1)), .int 0, .int 0]) :: (((((((((([] ++ [.inl (Θ.2.2.2.2.2.2.1.2, 12, .inr (.inr (.inr (.inr (va_up (va_up (va_up (va_up (va_up (va_up (va_up (va_up (va_up (fun _ => none) 0 (some (b + (n + 2)))) 1 (some (b + (n + 12)))) 2 (some (b + (n + 22)))) 3 (some (b + (n + 32)))) 4 (some (b + (n + 42)))) 5 (some (b + (n + 52)))) 6 (some (b + (n + 62)))) 7 (some (b + (n + 72)))) 8 (some (b + (n + 82))))))))]) ++ ch10 Θ.2.2.2.2.2 b (n + 2)) ++ ch10 Θ.2.2.2.2.2 b (n + 12)) ++ ch10 Θ.2.2.2.2.2 b (n + 22)) ++ ch10 Θ.2.2.2.2.2 b (n + 32)) ++ ch10 Θ.2.2.2.2.2 b (n + 42)) ++ ch10 Θ.2.2.2.2.2 b (n + 52)) ++ ch10 Θ.2.2.2.2.2 b (n + 62)) ++ ch10 Θ.2.2.2.2.2 b (n + 72)) ++ ch10 Θ.2.2.2.2.2 b (n + 82))) (cq_len hQ rfl)) w_1_69 w_2_23 w_1_68 w_1_3 rfl ⟨rfl, rfl, (Nat.le_of_ble_eq_true rfl), (Nat.le_of_ble_eq_true rfl)⟩ (by decide +kernel) rfl rfl (Nat.le_of_ble_eq_true rfl) ⟨(Nat.le_of_ble_eq_true rfl), (Nat.le_of_ble_eq_true rfl)⟩ dX4_init_40 ?_
  refine y_cs (cs' := Q ++ .inr (4, [.ref (b + (n + 1)), .int 0, .int 0]) :: ((((((((((([] ++ [.inl (Θ.2.2.2.2.2.2.1.2, 12, .inr (.inr (.inr (.inr (va_up (va_up (va_up (va_up (va_up (va_up (va_up (va_up (va_up (fun _ => none) 0 (some (b + (n + 2)))) 1 (some (b + (n + 12)))) 2 (some (b + (n + 22)))) 3 (some (b + (n + 32)))) 4 (some (b + (n + 42)))) 5 (some (b + (n + 52)))) 6 (some (b + (n + 62)))) 7 (some (b + (n + 72)))) 8 (some (b + (n + 82))))))))]) ++ ch10 Θ.2.2.2.2.2 b (n + 2)) ++ ch10 Θ.2.2.2.2.2 b (n + 12)) ++ ch10 Θ.2.2.2.2.2 b (n + 22)) ++ ch10 Θ.2.2.2.2.2 b (n + 32)) ++ ch10 Θ.2.2.2.2.2 b (n + 42)) ++ ch10 Θ.2.2.2.2.2 b (n + 52)) ++ ch10 Θ.2.2.2.2.2 b (n + 62)) ++ ch10 Θ.2.2.2.2.2 b (n + 72)) ++ ch10 Θ.2.2.2.2.2 b (n + 82)) ++ ch10 Θ.2.2.2.2.2 b (n + 92))) cq_app ?_
  refine y_astq (cs' := Q ++ .inr (4, [.ref (b + (n + 1)), .int 0, .int 0]) :: ((((((((((([] ++ [.inl (Θ.2.2.2.2.2.2.1.2, 12, .inr (.inr (.inr (.inr (va_up (va_up (va_up (va_up (va_up (va_up (va_up (va_up (va_up (va_up (fun _ => none) 0 (some (b + (n + 2)))) 1 (some (b + (n + 12)))) 2 (some (b + (n + 22)))) 3 (some (b + (n + 32)))) 4 (some (b + (n + 42)))) 5 (some (b + (n + 52)))) 6 (some (b + (n + 62)))) 7 (some (b + (n + 72)))) 8 (some (b + (n + 82)))) 9 (some (b + (n + 92))))))))]) ++ ch10 Θ.2.2.2.2.2 b (n + 2)) ++ ch10 Θ.2.2.2.2.2 b (n + 12)) ++ ch10 Θ.2.2.2.2.2 b (n + 22)) ++ ch10 Θ.2.2.2.2.2 b (n + 32)) ++ ch10 Θ.2.2.2.2.2 b (n + 42)) ++ ch10 Θ.2.2.2.2.2 b (n + 52)) ++ ch10 Θ.2.2.2.2.2 b (n + 62)) ++ ch10 Θ.2.2.2.2.2 b (n + 72)) ++ ch10 Θ.2.2.2.2.2 b (n + 82)) ++ ch10 Θ.2.2.2.2.2 b (n + 92))) C (n + 1) (n + 92) (cq_get hQ rfl) (cq_get hQ rfl) (by decide) (cq_set hQ rfl) dX4_init_43 ?_
  refine y_iinc (v := 10) (lv' := [(1, .int 10), (0, .ref (b + n))]) C 0 dX4_init_44 rfl (by decide) (Nat.le_of_ble_eq_true rfl) rfl ?_
  refine y_goto C 25 dX4_init_47 (by decide) ?_
  refine y_iload_n C 0 dX4_init_25 rfl rfl ?_
  refine y_bipush (v := 12) C dX4_init_26 bp_12 ?_
  refine y_geF C 50 dX4_init_28 (by decide) (by decide) ?_
  refine y_aload_n C 1 dX4_init_31 rfl rfl ?_
  refine y_get (v := .ref (b + (n + 1))) C inT4 n (cq_get0 hQ) rfl 0 (by decide) w_2_24 rfl dX4_init_32 ?_
  refine y_iload_n C 0 dX4_init_35 rfl rfl ?_
  refine y_new (n := n + 102) (fs := [.null, .null, .null, .null, .null, .null, .null, .null, .int 0, .int 0, .int 0, .int 0, .int 0, .int 0, .int 0, .int 0, .int 0]) C inT10 tyX10_ok w_2_21 w_1_66 w_1_3 rfl (by decide) (cq_len hQ rfl) rfl ⟨(Nat.le_of_ble_eq_true rfl), (Nat.le_of_ble_eq_true rfl)⟩ dX4_init_36 ?_
  refine y_dup C dX4_init_39 rfl ?_
  refine y_callI C (n + 102) [] 0 (k10_init (l := Θ.1.2.1) (w := Θ.2.2.2.2.2) (b := b) (n := n + 102) (Q := Q ++ .inr (4, [.ref (b + (n + 1)), .int 0, .int 0]) :: ((((((((((([] ++ [.inl (Θ.2.2.2.2.2.2.1.2, 12, .inr (.inr (.inr (.inr (va_up (va_up (va_up (va_up (va_up (va_up (va_up (va_up (va_up (va_up (fun _ => none) 0 (some (b + (n + 2)))) 1 (some (b + (n + 12)))) 2 (some (b + (n + 22)))) 3 (some (b + (n + 32)))) 4 (some (b + (n + 42)))) 5 (some (b + (n + 52)))) 6 (some (b + (n + 62)))) 7 (some (b + (n + 72)))) 8 (some (b + (n + 82)))) 9 (some (b + (n + 92))))))))]) ++ ch10 Θ.2.2.2.2.2 b (n + 2)) ++ ch10 Θ.2.2.2.2.2 b (n + 12)) ++ ch10 Θ.2.2.2.2.2 b (n + 22)) ++ ch10 Θ.2.2.2.2.2 b (n + 32)) ++ ch10 Θ.2.2.2.2.2 b (n + 42)) ++ ch10 Θ.2.2.2.2.2 b (n + 52)) ++ ch10 Θ.2.2.2.2.2 b (n + 62)) ++ ch10 Θ.2.2.2.2.2 b (n + 72)) ++ ch10 Θ.2.2.2.2.2 b (n + 82)) ++ ch10 Θ.2.2.2.2.2 b (n + 92))) (cq_len hQ rfl)) w_1_69 w_2_23 w_1_68 w_1_3 rfl ⟨rfl, rfl, (Nat.le_of_ble_eq_true rfl), (Nat.le_of_ble_eq_true rfl)⟩ (by decide +kernel) rfl rfl (Nat.le_of_ble_eq_true rfl) ⟨(Nat.le_of_ble_eq_true rfl), (Nat.le_of_ble_eq_true rfl)⟩ dX4_init_40 ?_
  refine y_cs (cs' := Q ++ .inr (4, [.ref (b + (n + 1)), .int 0, .int 0]) :: (((((((((((([] ++ [.inl (Θ.2.2.2.2.2.2.1.2, 12, .inr (.inr (.inr (.inr (va_up (va_up (va_up (va_up (va_up (va_up (va_up (va_up (va_up (va_up (fun _ => none) 0 (some (b + (n + 2)))) 1 (some (b + (n + 12)))) 2 (some (b + (n + 22)))) 3 (some (b + (n + 32)))) 4 (some (b + (n + 42)))) 5 (some (b + (n + 52)))) 6 (some (b + (n + 62)))) 7 (some (b + (n + 72)))) 8 (some (b + (n + 82)))) 9 (some (b + (n + 92))))))))]) ++ ch10 Θ.2.2.2.2.2 b (n + 2)) ++ ch10 Θ.2.2.2.2.2 b (n + 12)) ++ ch10 Θ.2.2.2.2.2 b (n + 22)) ++ ch10 Θ.2.2.2.2.2 b (n + 32)) ++ ch10 Θ.2.2.2.2.2 b (n + 42)) ++ ch10 Θ.2.2.2.2.2 b (n + 52)) ++ ch10 Θ.2.2.2.2.2 b (n + 62)) ++ ch10 Θ.2.2.2.2.2 b (n + 72)) ++ ch10 Θ.2.2.2.2.2 b (n + 82)) ++ ch10 Θ.2.2.2.2.2 b (n + 92)) ++ ch10 Θ.2.2.2.2.2 b (n + 102))) cq_app ?_
  refine y_astq (cs' := Q ++ .inr (4, [.ref (b + (n + 1)), .int 0, .int 0]) :: (((((((((((([] ++ [.inl (Θ.2.2.2.2.2.2.1.2, 12, .inr (.inr (.inr (.inr (va_up (va_up (va_up (va_up (va_up (va_up (va_up (va_up (va_up (va_up (va_up (fun _ => none) 0 (some (b + (n + 2)))) 1 (some (b + (n + 12)))) 2 (some (b + (n + 22)))) 3 (some (b + (n + 32)))) 4 (some (b + (n + 42)))) 5 (some (b + (n + 52)))) 6 (some (b + (n + 62)))) 7 (some (b + (n + 72)))) 8 (some (b + (n + 82)))) 9 (some (b + (n + 92)))) 10 (some (b + (n + 102))))))))]) ++ ch10 Θ.2.2.2.2.2 b (n + 2)) ++ ch10 Θ.2.2.2.2.2 b (n + 12)) ++ ch10 Θ.2.2.2.2.2 b (n + 22)) ++ ch10 Θ.2.2.2.2.2 b (n + 32)) ++ ch10 Θ.2.2.2.2.2 b (n + 42)) ++ ch10 Θ.2.2.2.2.2 b (n + 52)) ++ ch10 Θ.2.2.2.2.2 b (n + 62)) ++ ch10 Θ.2.2.2.2.2 b (n + 72)) ++ ch10 Θ.2.2.2.2.2 b (n + 82)) ++ ch10 Θ.2.2.2.2.2 b (n + 92)) ++ ch10 Θ.2.2.2.2.2 b (n + 102))) C (n + 1) (n + 102) (cq_get hQ rfl) (cq_get hQ rfl) (by decide) (cq_set hQ rfl) dX4_init_43 ?_
  refine y_iinc (v := 11) (lv' := [(1, .int 11), (0, .ref (b + n))]) C 0 dX4_init_44 rfl (by decide) (Nat.le_of_ble_eq_true rfl) rfl ?_
  refine y_goto C 25 dX4_init_47 (by decide) ?_
  refine y_iload_n C 0 dX4_init_25 rfl rfl ?_
  refine y_bipush (v := 12) C dX4_init_26 bp_12 ?_
  refine y_geF C 50 dX4_init_28 (by decide) (by decide) ?_
  refine y_aload_n C 1 dX4_init_31 rfl rfl ?_
  refine y_get (v := .ref (b + (n + 1))) C inT4 n (cq_get0 hQ) rfl 0 (by decide) w_2_24 rfl dX4_init_32 ?_
  refine y_iload_n C 0 dX4_init_35 rfl rfl ?_
  refine y_new (n := n + 112) (fs := [.null, .null, .null, .null, .null, .null, .null, .null, .int 0, .int 0, .int 0, .int 0, .int 0, .int 0, .int 0, .int 0, .int 0]) C inT10 tyX10_ok w_2_21 w_1_66 w_1_3 rfl (by decide) (cq_len hQ rfl) rfl ⟨(Nat.le_of_ble_eq_true rfl), (Nat.le_of_ble_eq_true rfl)⟩ dX4_init_36 ?_
  refine y_dup C dX4_init_39 rfl ?_
  refine y_callI C (n + 112) [] 0 (k10_init (l := Θ.1.2.1) (w := Θ.2.2.2.2.2) (b := b) (n := n + 112) (Q := Q ++ .inr (4, [.ref (b + (n + 1)), .int 0, .int 0]) :: (((((((((((([] ++ [.inl (Θ.2.2.2.2.2.2.1.2, 12, .inr (.inr (.inr (.inr (va_up (va_up (va_up (va_up (va_up (va_up (va_up (va_up (va_up (va_up (va_up (fun _ => none) 0 (some (b + (n + 2)))) 1 (some (b + (n + 12)))) 2 (some (b + (n + 22)))) 3 (some (b + (n + 32)))) 4 (some (b + (n + 42)))) 5 (some (b + (n + 52)))) 6 (some (b + (n + 62)))) 7 (some (b + (n + 72)))) 8 (some (b + (n + 82)))) 9 (some (b + (n + 92)))) 10 (some (b + (n + 102))))))))]) ++ ch10 Θ.2.2.2.2.2 b (n + 2)) ++ ch10 Θ.2.2.2.2.2 b (n + 12)) ++ ch10 Θ.2.2.2.2.2 b (n + 22)) ++ ch10 Θ.2.2.2.2.2 b (n + 32)) ++ ch10 Θ.2.2.2.2.2 b (n + 42)) ++ ch10 Θ.2.2.2.2.2 b (n + 52)) ++ ch10 Θ.2.2.2.2.2 b (n + 62)) ++ ch10 Θ.2.2.2.2.2 b (n + 72)) ++ ch10 Θ.2.2.2.2.2 b (n + 82)) ++ ch10 Θ.2.2.2.2.2 b (n + 92)) ++ ch10 Θ.2.2.2.2.2 b (n + 102))) (cq_len hQ rfl)) w_1_69 w_2_23 w_1_68 w_1_3 rfl ⟨rfl, rfl, (Nat.le_of_ble_eq_true rfl), (Nat.le_of_ble_eq_true rfl)⟩ (by decide +kernel) rfl rfl (Nat.le_of_ble_eq_true rfl) ⟨(Nat.le_of_ble_eq_true rfl), (Nat.le_of_ble_eq_true rfl)⟩ dX4_init_40 ?_
  refine y_cs (cs' := Q ++ .inr (4, [.ref (b + (n + 1)), .int 0, .int 0]) :: ((((((((((((([] ++ [.inl (Θ.2.2.2.2.2.2.1.2, 12, .inr (.inr (.inr (.inr (va_up (va_up (va_up (va_up (va_up (va_up (va_up (va_up (va_up (va_up (va_up (fun _ => none) 0 (some (b + (n + 2)))) 1 (some (b + (n + 12)))) 2 (some (b + (n + 22)))) 3 (some (b + (n + 32)))) 4 (some (b + (n + 42)))) 5 (some (b + (n + 52)))) 6 (some (b + (n + 62)))) 7 (some (b + (n + 72)))) 8 (some (b + (n + 82)))) 9 (some (b + (n + 92)))) 10 (some (b + (n + 102))))))))]) ++ ch10 Θ.2.2.2.2.2 b (n + 2)) ++ ch10 Θ.2.2.2.2.2 b (n + 12)) ++ ch10 Θ.2.2.2.2.2 b (n + 22)) ++ ch10 Θ.2.2.2.2.2 b (n + 32)) ++ ch10 Θ.2.2.2.2.2 b (n + 42)) ++ ch10 Θ.2.2.2.2.2 b (n + 52)) ++ ch10 Θ.2.2.2.2.2 b (n + 62)) ++ ch10 Θ.2.2.2.2.2 b (n + 72)) ++ ch10 Θ.2.2.2.2.2 b (n + 82)) ++ ch10 Θ.2.2.2.2.2 b (n + 92)) ++ ch10 Θ.2.2.2.2.2 b (n + 102)) ++ ch10 Θ.2.2.2.2.2 b (n + 112))) cq_app ?_
  refine y_astq (cs' := Q ++ .inr (4, [.ref (b + (n + 1)), .int 0, .int 0]) :: ((((((((((((([] ++ [.inl (Θ.2.2.2.2.2.2.1.2, 12, .inr (.inr (.inr (.inr (va_up (va_up (va_up (va_up (va_up (va_up (va_up (va_up (va_up (va_up (va_up (va_up (fun _ => none) 0 (some (b + (n + 2)))) 1 (some (b + (n + 12)))) 2 (some (b + (n + 22)))) 3 (some (b + (n + 32)))) 4 (some (b + (n + 42)))) 5 (some (b + (n + 52)))) 6 (some (b + (n + 62)))) 7 (some (b + (n + 72)))) 8 (some (b + (n + 82)))) 9 (some (b + (n + 92)))) 10 (some (b + (n + 102)))) 11 (some (b + (n + 112))))))))]) ++ ch10 Θ.2.2.2.2.2 b (n + 2)) ++ ch10 Θ.2.2.2.2.2 b (n + 12)) ++ ch10 Θ.2.2.2.2.2 b (n + 22)) ++ ch10 Θ.2.2.2.2.2 b (n + 32)) ++ ch10 Θ.2.2.2.2.2 b (n + 42)) ++ ch10 Θ.2.2.2.2.2 b (n + 52)) ++ ch10 Θ.2.2.2.2.2 b (n + 62)) ++ ch10 Θ.2.2.2.2.2 b (n + 72)) ++ ch10 Θ.2.2.2.2.2 b (n + 82)) ++ ch10 Θ.2.2.2.2.2 b (n + 92)) ++ ch10 Θ.2.2.2.2.2 b (n + 102)) ++ ch10 Θ.2.2.2.2.2 b (n + 112))) C (n + 1) (n + 112) (cq_get hQ rfl) (cq_get hQ rfl) (by decide) (cq_set hQ rfl) dX4_init_43 ?_
  refine y_iinc (v := 12) (lv' := [(1, .int 12), (0, .ref (b + n))]) C 0 dX4_init_44 rfl (by decide) (Nat.le_of_ble_eq_true rfl) rfl ?_
  refine y_goto C 25 dX4_init_47 (by decide) ?_
  refine y_iload_n C 0 dX4_init_25 rfl rfl ?_
  refine y_bipush (v := 12) C dX4_init_26 bp_12 ?_
  refine y_geT C 50 dX4_init_28 (by decide) (by decide) ?_
  exact y_vret C ⟨Nat.le_refl _, Nat.le_refl _⟩ dX4_init_50)
theorem dX5_init_0 : decode cX5_init 0 = .ok (.aload_n 0, 1) := by decide +kernel
theorem dX5_init_1 : decode cX5_init 1 = .ok (.invokespecial 3, 3) := by decide +kernel
theorem w_2_40 : Cond.methodLink "LastLoaf$Poll" (3 : Nat) ({ cls := "java/lang/Object", name := "<init>", desc := "()V" } : MethodName) ∈ TB := tb_in (lwt_2 (List.mem_of_getElem? (i := 40) (by decide +kernel))) rfl
theorem dX5_init_4 : decode cX5_init 4 = .ok (.aload_n 0, 1) := by decide +kernel
theorem dX5_init_5 : decode cX5_init 5 = .ok (.bipush 36, 2) := by decide +kernel
theorem dX5_init_7 : decode cX5_init 7 = .ok (.newarray .int, 2) := by decide +kernel
theorem dX5_init_9 : decode cX5_init 9 = .ok (.putfield 9, 3) := by decide +kernel
theorem dX5_init_12 : decode cX5_init 12 = .ok (.aload_n 0, 1) := by decide +kernel
theorem dX5_init_13 : decode cX5_init 13 = .ok (.bipush 36, 2) := by decide +kernel
theorem dX5_init_15 : decode cX5_init 15 = .ok (.newarray .int, 2) := by decide +kernel
theorem dX5_init_17 : decode cX5_init 17 = .ok (.putfield 15, 3) := by decide +kernel
theorem dX5_init_20 : decode cX5_init 20 = .ok (.aload_n 0, 1) := by decide +kernel
theorem dX5_init_21 : decode cX5_init 21 = .ok (.bipush 6, 2) := by decide +kernel
theorem dX5_init_23 : decode cX5_init 23 = .ok (.newarray .int, 2) := by decide +kernel
theorem dX5_init_25 : decode cX5_init 25 = .ok (.putfield 18, 3) := by decide +kernel
theorem dX5_init_28 : decode cX5_init 28 = .ok (.aload_n 0, 1) := by decide +kernel
theorem dX5_init_29 : decode cX5_init 29 = .ok (.bipush 6, 2) := by decide +kernel
theorem dX5_init_31 : decode cX5_init 31 = .ok (.newarray .int, 2) := by decide +kernel
theorem dX5_init_33 : decode cX5_init 33 = .ok (.putfield 21, 3) := by decide +kernel
theorem dX5_init_36 : decode cX5_init 36 = .ok (.aload_n 0, 1) := by decide +kernel
theorem dX5_init_37 : decode cX5_init 37 = .ok (.bipush 6, 2) := by decide +kernel
theorem dX5_init_39 : decode cX5_init 39 = .ok (.newarray .int, 2) := by decide +kernel
theorem dX5_init_41 : decode cX5_init 41 = .ok (.putfield 24, 3) := by decide +kernel
theorem dX5_init_44 : decode cX5_init 44 = .ok (.aload_n 0, 1) := by decide +kernel
theorem dX5_init_45 : decode cX5_init 45 = .ok (.sipush 384, 3) := by decide +kernel
theorem sp_384 : (Int16.ofInt (384)).toInt32 = 384 := by decide +kernel
theorem dX5_init_48 : decode cX5_init 48 = .ok (.newarray .int, 2) := by decide +kernel
theorem dX5_init_50 : decode cX5_init 50 = .ok (.putfield 27, 3) := by decide +kernel
theorem dX5_init_53 : decode cX5_init 53 = .ok (.aload_n 0, 1) := by decide +kernel
theorem dX5_init_54 : decode cX5_init 54 = .ok (.iconst 0, 1) := by decide +kernel
theorem dX5_init_55 : decode cX5_init 55 = .ok (.putfield 30, 3) := by decide +kernel
theorem dX5_init_58 : decode cX5_init 58 = .ok (.aload_n 0, 1) := by decide +kernel
theorem dX5_init_59 : decode cX5_init 59 = .ok (.iconst 0, 1) := by decide +kernel
theorem dX5_init_60 : decode cX5_init 60 = .ok (.putfield 34, 3) := by decide +kernel
theorem dX5_init_63 : decode cX5_init 63 = .ok (.aload_n 0, 1) := by decide +kernel
theorem dX5_init_64 : decode cX5_init 64 = .ok (.iconst 0, 1) := by decide +kernel
theorem dX5_init_65 : decode cX5_init 65 = .ok (.putfield 37, 3) := by decide +kernel
theorem dX5_init_68 : decode cX5_init 68 = .ok (.aload_n 0, 1) := by decide +kernel
theorem dX5_init_69 : decode cX5_init 69 = .ok (.iconst 0, 1) := by decide +kernel
theorem dX5_init_70 : decode cX5_init 70 = .ok (.putfield 40, 3) := by decide +kernel
theorem dX5_init_73 : decode cX5_init 73 = .ok (.return_, 1) := by decide +kernel
/-! LastLoaf$Poll.<init> -/
def ch5 (w : Wp) (b n : Nat) : List va_E := .inr (5, [.ref (b + (n + 1)), .ref (b + (n + 2)), .ref (b + (n + 3)), .ref (b + (n + 4)), .ref (b + (n + 5)), .ref (b + (n + 6)), .int 0, .int 0, .int 0, .int 0]) :: (((((([] ++ [.inl (w.2.1.1, 36, .inl (fun _ => 0))]) ++ [.inl (w.2.1.1, 36, .inl (fun _ => 0))]) ++ [.inl (w.2.1.1, 6, .inl (fun _ => 0))]) ++ [.inl (w.2.1.1, 6, .inl (fun _ => 0))]) ++ [.inl (w.2.1.1, 6, .inl (fun _ => 0))]) ++ [.inl (w.2.1.1, 384, .inl (fun _ => 0))])
abbrev rmI5 : Room := { frames := 1, cells := 6, slots := 474, locals := 40 }
set_option maxHeartbeats 8000000 in
set_option maxRecDepth 100000 in
theorem k5_init {l : Launch} {w : Wp} {b n : Nat} {Q : List va_E} (hQ : Q.length = n) : yM l w yX5_init cX5_init 1 rmI5 [.ref (b + n)] b (Q ++ [.inr (5, [.null, .null, .null, .null, .null, .null, .int 0, .int 0, .int 0, .int 0])]) (Q ++ ch5 w b n) 6 474 := yM_of rfl (Nat.le_of_ble_eq_true rfl) (fun Θ hl0 hw C hnm => by
  subst hw
  refine y_cs (cs' := Q ++ .inr (5, [.null, .null, .null, .null, .null, .null, .int 0, .int 0, .int 0, .int 0]) :: []) rfl ?_
  refine y_aload_n C 0 dX5_init_0 rfl rfl ?_
  refine y_objInit C w_2_40 w_1_36 w_1_37 dX5_init_1 ⟨(Nat.le_of_ble_eq_true rfl), (Nat.le_of_ble_eq_true rfl)⟩ ?_
  refine y_aload_n C 0 dX5_init_4 rfl rfl ?_
  refine y_bipush (v := 36) C dX5_init_5 bp_36 ?_
  refine y_newa (N := 36) (n := n + 1) (cs' := Q ++ .inr (5, [.null, .null, .null, .null, .null, .null, .int 0, .int 0, .int 0, .int 0]) :: ([] ++ [.inl (Θ.2.2.2.2.2.2.1.1, 36, .inl (fun _ => 0))])) C w_1_64 (by decide) (by decide) (by decide) (cq_len hQ rfl) cq_app ⟨(Nat.le_of_ble_eq_true rfl), (Nat.le_of_ble_eq_true rfl)⟩ dX5_init_7 ?_
  refine y_put (cs' := Q ++ .inr (5, [.ref (b + (n + 1)), .null, .null, .null, .null, .null, .int 0, .int 0, .int 0, .int 0]) :: ([] ++ [.inl (Θ.2.2.2.2.2.2.1.1, 36, .inl (fun _ => 0))])) C hnm inT5 tyX5_ok nmX5 n (cq_get0 hQ) rfl 0 (by decide) w_2_41 rfl rfl rfl (by decide) (cq_put hQ rfl) dX5_init_9 ?_
  refine y_aload_n C 0 dX5_init_12 rfl rfl ?_
  refine y_bipush (v := 36) C dX5_init_13 bp_36 ?_
  refine y_newa (N := 36) (n := n + 2) (cs' := Q ++ .inr (5, [.ref (b + (n + 1)), .null, .null, .null, .null, .null, .int 0, .int 0, .int 0, .int 0]) :: (([] ++ [.inl (Θ.2.2.2.2.2.2.1.1, 36, .inl (fun _ => 0))]) ++ [.inl (Θ.2.2.2.2.2.2.1.1, 36, .inl (fun _ => 0))])) C w_1_64 (by decide) (by decide) (by decide) (cq_len hQ rfl) cq_app ⟨(Nat.le_of_ble_eq_true rfl), (Nat.le_of_ble_eq_true rfl)⟩ dX5_init_15 ?_
  refine y_put (cs' := Q ++ .inr (5, [.ref (b + (n + 1)), .ref (b + (n + 2)), .null, .null, .null, .null, .int 0, .int 0, .int 0, .int 0]) :: (([] ++ [.inl (Θ.2.2.2.2.2.2.1.1, 36, .inl (fun _ => 0))]) ++ [.inl (Θ.2.2.2.2.2.2.1.1, 36, .inl (fun _ => 0))])) C hnm inT5 tyX5_ok nmX5 n (cq_get0 hQ) rfl 1 (by decide) w_2_42 rfl rfl rfl (by decide) (cq_put hQ rfl) dX5_init_17 ?_
  refine y_aload_n C 0 dX5_init_20 rfl rfl ?_
  refine y_bipush (v := 6) C dX5_init_21 bp_6 ?_
  refine y_newa (N := 6) (n := n + 3) (cs' := Q ++ .inr (5, [.ref (b + (n + 1)), .ref (b + (n + 2)), .null, .null, .null, .null, .int 0, .int 0, .int 0, .int 0]) :: ((([] ++ [.inl (Θ.2.2.2.2.2.2.1.1, 36, .inl (fun _ => 0))]) ++ [.inl (Θ.2.2.2.2.2.2.1.1, 36, .inl (fun _ => 0))]) ++ [.inl (Θ.2.2.2.2.2.2.1.1, 6, .inl (fun _ => 0))])) C w_1_64 (by decide) (by decide) (by decide) (cq_len hQ rfl) cq_app ⟨(Nat.le_of_ble_eq_true rfl), (Nat.le_of_ble_eq_true rfl)⟩ dX5_init_23 ?_
  refine y_put (cs' := Q ++ .inr (5, [.ref (b + (n + 1)), .ref (b + (n + 2)), .ref (b + (n + 3)), .null, .null, .null, .int 0, .int 0, .int 0, .int 0]) :: ((([] ++ [.inl (Θ.2.2.2.2.2.2.1.1, 36, .inl (fun _ => 0))]) ++ [.inl (Θ.2.2.2.2.2.2.1.1, 36, .inl (fun _ => 0))]) ++ [.inl (Θ.2.2.2.2.2.2.1.1, 6, .inl (fun _ => 0))])) C hnm inT5 tyX5_ok nmX5 n (cq_get0 hQ) rfl 2 (by decide) w_2_43 rfl rfl rfl (by decide) (cq_put hQ rfl) dX5_init_25 ?_
  refine y_aload_n C 0 dX5_init_28 rfl rfl ?_
  refine y_bipush (v := 6) C dX5_init_29 bp_6 ?_
  refine y_newa (N := 6) (n := n + 4) (cs' := Q ++ .inr (5, [.ref (b + (n + 1)), .ref (b + (n + 2)), .ref (b + (n + 3)), .null, .null, .null, .int 0, .int 0, .int 0, .int 0]) :: (((([] ++ [.inl (Θ.2.2.2.2.2.2.1.1, 36, .inl (fun _ => 0))]) ++ [.inl (Θ.2.2.2.2.2.2.1.1, 36, .inl (fun _ => 0))]) ++ [.inl (Θ.2.2.2.2.2.2.1.1, 6, .inl (fun _ => 0))]) ++ [.inl (Θ.2.2.2.2.2.2.1.1, 6, .inl (fun _ => 0))])) C w_1_64 (by decide) (by decide) (by decide) (cq_len hQ rfl) cq_app ⟨(Nat.le_of_ble_eq_true rfl), (Nat.le_of_ble_eq_true rfl)⟩ dX5_init_31 ?_
  refine y_put (cs' := Q ++ .inr (5, [.ref (b + (n + 1)), .ref (b + (n + 2)), .ref (b + (n + 3)), .ref (b + (n + 4)), .null, .null, .int 0, .int 0, .int 0, .int 0]) :: (((([] ++ [.inl (Θ.2.2.2.2.2.2.1.1, 36, .inl (fun _ => 0))]) ++ [.inl (Θ.2.2.2.2.2.2.1.1, 36, .inl (fun _ => 0))]) ++ [.inl (Θ.2.2.2.2.2.2.1.1, 6, .inl (fun _ => 0))]) ++ [.inl (Θ.2.2.2.2.2.2.1.1, 6, .inl (fun _ => 0))])) C hnm inT5 tyX5_ok nmX5 n (cq_get0 hQ) rfl 3 (by decide) w_2_44 rfl rfl rfl (by decide) (cq_put hQ rfl) dX5_init_33 ?_
  refine y_aload_n C 0 dX5_init_36 rfl rfl ?_
  refine y_bipush (v := 6) C dX5_init_37 bp_6 ?_
  refine y_newa (N := 6) (n := n + 5) (cs' := Q ++ .inr (5, [.ref (b + (n + 1)), .ref (b + (n + 2)), .ref (b + (n + 3)), .ref (b + (n + 4)), .null, .null, .int 0, .int 0, .int 0, .int 0]) :: ((((([] ++ [.inl (Θ.2.2.2.2.2.2.1.1, 36, .inl (fun _ => 0))]) ++ [.inl (Θ.2.2.2.2.2.2.1.1, 36, .inl (fun _ => 0))]) ++ [.inl (Θ.2.2.2.2.2.2.1.1, 6, .inl (fun _ => 0))]) ++ [.inl (Θ.2.2.2.2.2.2.1.1, 6, .inl (fun _ => 0))]) ++ [.inl (Θ.2.2.2.2.2.2.1.1, 6, .inl (fun _ => 0))])) C w_1_64 (by decide) (by decide) (by decide) (cq_len hQ rfl) cq_app ⟨(Nat.le_of_ble_eq_true rfl), (Nat.le_of_ble_eq_true rfl)⟩ dX5_init_39 ?_
  refine y_put (cs' := Q ++ .inr (5, [.ref (b + (n + 1)), .ref (b + (n + 2)), .ref (b + (n + 3)), .ref (b + (n + 4)), .ref (b + (n + 5)), .null, .int 0, .int 0, .int 0, .int 0]) :: ((((([] ++ [.inl (Θ.2.2.2.2.2.2.1.1, 36, .inl (fun _ => 0))]) ++ [.inl (Θ.2.2.2.2.2.2.1.1, 36, .inl (fun _ => 0))]) ++ [.inl (Θ.2.2.2.2.2.2.1.1, 6, .inl (fun _ => 0))]) ++ [.inl (Θ.2.2.2.2.2.2.1.1, 6, .inl (fun _ => 0))]) ++ [.inl (Θ.2.2.2.2.2.2.1.1, 6, .inl (fun _ => 0))])) C hnm inT5 tyX5_ok nmX5 n (cq_get0 hQ) rfl 4 (by decide) w_2_45 rfl rfl rfl (by decide) (cq_put hQ rfl) dX5_init_41 ?_
  refine y_aload_n C 0 dX5_init_44 rfl rfl ?_
  refine y_sipush (v := 384) C dX5_init_45 sp_384 ?_
  refine y_newa (N := 384) (n := n + 6) (cs' := Q ++ .inr (5, [.ref (b + (n + 1)), .ref (b + (n + 2)), .ref (b + (n + 3)), .ref (b + (n + 4)), .ref (b + (n + 5)), .null, .int 0, .int 0, .int 0, .int 0]) :: (((((([] ++ [.inl (Θ.2.2.2.2.2.2.1.1, 36, .inl (fun _ => 0))]) ++ [.inl (Θ.2.2.2.2.2.2.1.1, 36, .inl (fun _ => 0))]) ++ [.inl (Θ.2.2.2.2.2.2.1.1, 6, .inl (fun _ => 0))]) ++ [.inl (Θ.2.2.2.2.2.2.1.1, 6, .inl (fun _ => 0))]) ++ [.inl (Θ.2.2.2.2.2.2.1.1, 6, .inl (fun _ => 0))]) ++ [.inl (Θ.2.2.2.2.2.2.1.1, 384, .inl (fun _ => 0))])) C w_1_64 (by decide) (by decide) (by decide) (cq_len hQ rfl) cq_app ⟨(Nat.le_of_ble_eq_true rfl), (Nat.le_of_ble_eq_true rfl)⟩ dX5_init_48 ?_
  refine y_put (cs' := Q ++ .inr (5, [.ref (b + (n + 1)), .ref (b + (n + 2)), .ref (b + (n + 3)), .ref (b + (n + 4)), .ref (b + (n + 5)), .ref (b + (n + 6)), .int 0, .int 0, .int 0, .int 0]) :: (((((([] ++ [.inl (Θ.2.2.2.2.2.2.1.1, 36, .inl (fun _ => 0))]) ++ [.inl (Θ.2.2.2.2.2.2.1.1, 36, .inl (fun _ => 0))]) ++ [.inl (Θ.2.2.2.2.2.2.1.1, 6, .inl (fun _ => 0))]) ++ [.inl (Θ.2.2.2.2.2.2.1.1, 6, .inl (fun _ => 0))]) ++ [.inl (Θ.2.2.2.2.2.2.1.1, 6, .inl (fun _ => 0))]) ++ [.inl (Θ.2.2.2.2.2.2.1.1, 384, .inl (fun _ => 0))])) C hnm inT5 tyX5_ok nmX5 n (cq_get0 hQ) rfl 5 (by decide) w_2_46 rfl rfl rfl (by decide) (cq_put hQ rfl) dX5_init_50 ?_
  refine y_aload_n C 0 dX5_init_53 rfl rfl ?_
  refine y_iconst (v := 0) C dX5_init_54 ic_0 ?_
  refine y_put (cs' := Q ++ .inr (5, [.ref (b + (n + 1)), .ref (b + (n + 2)), .ref (b + (n + 3)), .ref (b + (n + 4)), .ref (b + (n + 5)), .ref (b + (n + 6)), .int 0, .int 0, .int 0, .int 0]) :: (((((([] ++ [.inl (Θ.2.2.2.2.2.2.1.1, 36, .inl (fun _ => 0))]) ++ [.inl (Θ.2.2.2.2.2.2.1.1, 36, .inl (fun _ => 0))]) ++ [.inl (Θ.2.2.2.2.2.2.1.1, 6, .inl (fun _ => 0))]) ++ [.inl (Θ.2.2.2.2.2.2.1.1, 6, .inl (fun _ => 0))]) ++ [.inl (Θ.2.2.2.2.2.2.1.1, 6, .inl (fun _ => 0))]) ++ [.inl (Θ.2.2.2.2.2.2.1.1, 384, .inl (fun _ => 0))])) C hnm inT5 tyX5_ok nmX5 n (cq_get0 hQ) rfl 6 (by decide) w_2_47 rfl rfl rfl (by decide) (cq_put hQ rfl) dX5_init_55 ?_
  refine y_aload_n C 0 dX5_init_58 rfl rfl ?_
  refine y_iconst (v := 0) C dX5_init_59 ic_0 ?_
  refine y_put (cs' := Q ++ .inr (5, [.ref (b + (n + 1)), .ref (b + (n + 2)), .ref (b + (n + 3)), .ref (b + (n + 4)), .ref (b + (n + 5)), .ref (b + (n + 6)), .int 0, .int 0, .int 0, .int 0]) :: (((((([] ++ [.inl (Θ.2.2.2.2.2.2.1.1, 36, .inl (fun _ => 0))]) ++ [.inl (Θ.2.2.2.2.2.2.1.1, 36, .inl (fun _ => 0))]) ++ [.inl (Θ.2.2.2.2.2.2.1.1, 6, .inl (fun _ => 0))]) ++ [.inl (Θ.2.2.2.2.2.2.1.1, 6, .inl (fun _ => 0))]) ++ [.inl (Θ.2.2.2.2.2.2.1.1, 6, .inl (fun _ => 0))]) ++ [.inl (Θ.2.2.2.2.2.2.1.1, 384, .inl (fun _ => 0))])) C hnm inT5 tyX5_ok nmX5 n (cq_get0 hQ) rfl 7 (by decide) w_2_48 rfl rfl rfl (by decide) (cq_put hQ rfl) dX5_init_60 ?_
  refine y_aload_n C 0 dX5_init_63 rfl rfl ?_
  refine y_iconst (v := 0) C dX5_init_64 ic_0 ?_
  refine y_put (cs' := Q ++ .inr (5, [.ref (b + (n + 1)), .ref (b + (n + 2)), .ref (b + (n + 3)), .ref (b + (n + 4)), .ref (b + (n + 5)), .ref (b + (n + 6)), .int 0, .int 0, .int 0, .int 0]) :: (((((([] ++ [.inl (Θ.2.2.2.2.2.2.1.1, 36, .inl (fun _ => 0))]) ++ [.inl (Θ.2.2.2.2.2.2.1.1, 36, .inl (fun _ => 0))]) ++ [.inl (Θ.2.2.2.2.2.2.1.1, 6, .inl (fun _ => 0))]) ++ [.inl (Θ.2.2.2.2.2.2.1.1, 6, .inl (fun _ => 0))]) ++ [.inl (Θ.2.2.2.2.2.2.1.1, 6, .inl (fun _ => 0))]) ++ [.inl (Θ.2.2.2.2.2.2.1.1, 384, .inl (fun _ => 0))])) C hnm inT5 tyX5_ok nmX5 n (cq_get0 hQ) rfl 8 (by decide) w_2_50 rfl rfl rfl (by decide) (cq_put hQ rfl) dX5_init_65 ?_
  refine y_aload_n C 0 dX5_init_68 rfl rfl ?_
  refine y_iconst (v := 0) C dX5_init_69 ic_0 ?_
  refine y_put (cs' := Q ++ .inr (5, [.ref (b + (n + 1)), .ref (b + (n + 2)), .ref (b + (n + 3)), .ref (b + (n + 4)), .ref (b + (n + 5)), .ref (b + (n + 6)), .int 0, .int 0, .int 0, .int 0]) :: (((((([] ++ [.inl (Θ.2.2.2.2.2.2.1.1, 36, .inl (fun _ => 0))]) ++ [.inl (Θ.2.2.2.2.2.2.1.1, 36, .inl (fun _ => 0))]) ++ [.inl (Θ.2.2.2.2.2.2.1.1, 6, .inl (fun _ => 0))]) ++ [.inl (Θ.2.2.2.2.2.2.1.1, 6, .inl (fun _ => 0))]) ++ [.inl (Θ.2.2.2.2.2.2.1.1, 6, .inl (fun _ => 0))]) ++ [.inl (Θ.2.2.2.2.2.2.1.1, 384, .inl (fun _ => 0))])) C hnm inT5 tyX5_ok nmX5 n (cq_get0 hQ) rfl 9 (by decide) w_2_51 rfl rfl rfl (by decide) (cq_put hQ rfl) dX5_init_70 ?_
  exact y_vret C ⟨Nat.le_refl _, Nat.le_refl _⟩ dX5_init_73)
theorem dX0_init_0 : decode cX0_init 0 = .ok (.aload_n 0, 1) := by decide +kernel
theorem dX0_init_1 : decode cX0_init 1 = .ok (.invokespecial 3, 3) := by decide +kernel
theorem w_2_80 : Cond.methodLink "LastLoaf$Baker" (3 : Nat) ({ cls := "java/lang/Object", name := "<init>", desc := "()V" } : MethodName) ∈ TB := tb_in (lwt_2 (List.mem_of_getElem? (i := 80) (by decide +kernel))) rfl
theorem dX0_init_4 : decode cX0_init 4 = .ok (.aload_n 0, 1) := by decide +kernel
theorem dX0_init_5 : decode cX0_init 5 = .ok (.aload_n 1, 1) := by decide +kernel
theorem dX0_init_6 : decode cX0_init 6 = .ok (.putfield 9, 3) := by decide +kernel
theorem dX0_init_9 : decode cX0_init 9 = .ok (.aload_n 0, 1) := by decide +kernel
theorem dX0_init_10 : decode cX0_init 10 = .ok (.aload_n 2, 1) := by decide +kernel
theorem dX0_init_11 : decode cX0_init 11 = .ok (.putfield 15, 3) := by decide +kernel
theorem dX0_init_14 : decode cX0_init 14 = .ok (.return_, 1) := by decide +kernel
/-! LastLoaf$Baker.<init> -/
def ch0 (w : Wp) (b n : Nat) (p0 : Nat) (p1 : Nat) : List va_E := .inr (0, [.ref p0, .ref p1]) :: []
abbrev rmI0 : Room := { frames := 1, cells := 0, slots := 0, locals := 40 }
set_option maxHeartbeats 8000000 in
set_option maxRecDepth 100000 in
theorem k0_init {l : Launch} {w : Wp} {b n : Nat} {Q : List va_E} {p0 : Nat} {p1 : Nat} (hQ : Q.length = n) : yM l w yX0_init cX0_init 3 rmI0 [.ref (b + n), .ref p0, .ref p1] b (Q ++ [.inr (0, [.null, .null])]) (Q ++ ch0 w b n p0 p1) 0 0 := yM_of rfl (Nat.le_of_ble_eq_true rfl) (fun Θ hl0 hw C hnm => by
  subst hw
  refine y_cs (cs' := Q ++ .inr (0, [.null, .null]) :: []) rfl ?_
  refine y_aload_n C 0 dX0_init_0 rfl rfl ?_
  refine y_objInit C w_2_80 w_1_36 w_1_37 dX0_init_1 ⟨(Nat.le_of_ble_eq_true rfl), (Nat.le_of_ble_eq_true rfl)⟩ ?_
  refine y_aload_n C 0 dX0_init_4 rfl rfl ?_
  refine y_aload_n C 1 dX0_init_5 rfl rfl ?_
  refine y_put (cs' := Q ++ .inr (0, [.ref p0, .null]) :: []) C hnm inT0 tyX0_ok nmX0 n (cq_get0 hQ) rfl 0 (by decide) w_2_81 rfl rfl rfl (by decide) (cq_put hQ rfl) dX0_init_6 ?_
  refine y_aload_n C 0 dX0_init_9 rfl rfl ?_
  refine y_aload_n C 2 dX0_init_10 rfl rfl ?_
  refine y_put (cs' := Q ++ .inr (0, [.ref p0, .ref p1]) :: []) C hnm inT0 tyX0_ok nmX0 n (cq_get0 hQ) rfl 1 (by decide) w_2_82 rfl rfl rfl (by decide) (cq_put hQ rfl) dX0_init_11 ?_
  exact y_vret C ⟨Nat.le_refl _, Nat.le_refl _⟩ dX0_init_14)
theorem dX9_init_0 : decode cX9_init 0 = .ok (.aload_n 0, 1) := by decide +kernel
theorem dX9_init_1 : decode cX9_init 1 = .ok (.invokespecial 3, 3) := by decide +kernel
theorem w_2_93 : Cond.methodLink "LastLoaf$Turns" (3 : Nat) ({ cls := "java/lang/Object", name := "<init>", desc := "()V" } : MethodName) ∈ TB := tb_in (lwt_2 (List.mem_of_getElem? (i := 93) (by decide +kernel))) rfl
theorem dX9_init_4 : decode cX9_init 4 = .ok (.aload_n 0, 1) := by decide +kernel
theorem dX9_init_5 : decode cX9_init 5 = .ok (.bipush 36, 2) := by decide +kernel
theorem dX9_init_7 : decode cX9_init 7 = .ok (.newarray .int, 2) := by decide +kernel
theorem dX9_init_9 : decode cX9_init 9 = .ok (.putfield 9, 3) := by decide +kernel
theorem dX9_init_12 : decode cX9_init 12 = .ok (.aload_n 0, 1) := by decide +kernel
theorem dX9_init_13 : decode cX9_init 13 = .ok (.bipush 6, 2) := by decide +kernel
theorem dX9_init_15 : decode cX9_init 15 = .ok (.newarray .int, 2) := by decide +kernel
theorem dX9_init_17 : decode cX9_init 17 = .ok (.putfield 15, 3) := by decide +kernel
theorem dX9_init_20 : decode cX9_init 20 = .ok (.aload_n 0, 1) := by decide +kernel
theorem dX9_init_21 : decode cX9_init 21 = .ok (.bipush 6, 2) := by decide +kernel
theorem dX9_init_23 : decode cX9_init 23 = .ok (.newarray .int, 2) := by decide +kernel
theorem dX9_init_25 : decode cX9_init 25 = .ok (.putfield 18, 3) := by decide +kernel
theorem dX9_init_28 : decode cX9_init 28 = .ok (.aload_n 0, 1) := by decide +kernel
theorem dX9_init_29 : decode cX9_init 29 = .ok (.iconst 5, 1) := by decide +kernel
theorem dX9_init_30 : decode cX9_init 30 = .ok (.newarray .int, 2) := by decide +kernel
theorem dX9_init_32 : decode cX9_init 32 = .ok (.putfield 21, 3) := by decide +kernel
theorem dX9_init_35 : decode cX9_init 35 = .ok (.aload_n 0, 1) := by decide +kernel
theorem dX9_init_36 : decode cX9_init 36 = .ok (.iconst 5, 1) := by decide +kernel
theorem dX9_init_37 : decode cX9_init 37 = .ok (.newarray .int, 2) := by decide +kernel
theorem dX9_init_39 : decode cX9_init 39 = .ok (.putfield 24, 3) := by decide +kernel
theorem dX9_init_42 : decode cX9_init 42 = .ok (.aload_n 0, 1) := by decide +kernel
theorem dX9_init_43 : decode cX9_init 43 = .ok (.iconst 5, 1) := by decide +kernel
theorem dX9_init_44 : decode cX9_init 44 = .ok (.newarray .int, 2) := by decide +kernel
theorem dX9_init_46 : decode cX9_init 46 = .ok (.putfield 27, 3) := by decide +kernel
theorem dX9_init_49 : decode cX9_init 49 = .ok (.aload_n 0, 1) := by decide +kernel
theorem dX9_init_50 : decode cX9_init 50 = .ok (.iconst 0, 1) := by decide +kernel
theorem dX9_init_51 : decode cX9_init 51 = .ok (.putfield 30, 3) := by decide +kernel
theorem dX9_init_54 : decode cX9_init 54 = .ok (.aload_n 0, 1) := by decide +kernel
theorem dX9_init_55 : decode cX9_init 55 = .ok (.iconst 0, 1) := by decide +kernel
theorem dX9_init_56 : decode cX9_init 56 = .ok (.putfield 34, 3) := by decide +kernel
theorem dX9_init_59 : decode cX9_init 59 = .ok (.aload_n 0, 1) := by decide +kernel
theorem dX9_init_60 : decode cX9_init 60 = .ok (.iconst 0, 1) := by decide +kernel
theorem dX9_init_61 : decode cX9_init 61 = .ok (.putfield 37, 3) := by decide +kernel
theorem dX9_init_64 : decode cX9_init 64 = .ok (.aload_n 0, 1) := by decide +kernel
theorem dX9_init_65 : decode cX9_init 65 = .ok (.iconst 0, 1) := by decide +kernel
theorem dX9_init_66 : decode cX9_init 66 = .ok (.putfield 40, 3) := by decide +kernel
theorem dX9_init_69 : decode cX9_init 69 = .ok (.aload_n 0, 1) := by decide +kernel
theorem dX9_init_70 : decode cX9_init 70 = .ok (.iconst 0, 1) := by decide +kernel
theorem dX9_init_71 : decode cX9_init 71 = .ok (.putfield 43, 3) := by decide +kernel
theorem dX9_init_74 : decode cX9_init 74 = .ok (.return_, 1) := by decide +kernel
/-! LastLoaf$Turns.<init> -/
def ch9 (w : Wp) (b n : Nat) : List va_E := .inr (9, [.ref (b + (n + 1)), .ref (b + (n + 2)), .ref (b + (n + 3)), .ref (b + (n + 4)), .ref (b + (n + 5)), .ref (b + (n + 6)), .int 0, .int 0, .int 0, .int 0, .int 0]) :: (((((([] ++ [.inl (w.2.1.1, 36, .inl (fun _ => 0))]) ++ [.inl (w.2.1.1, 6, .inl (fun _ => 0))]) ++ [.inl (w.2.1.1, 6, .inl (fun _ => 0))]) ++ [.inl (w.2.1.1, 5, .inl (fun _ => 0))]) ++ [.inl (w.2.1.1, 5, .inl (fun _ => 0))]) ++ [.inl (w.2.1.1, 5, .inl (fun _ => 0))])
abbrev rmI9 : Room := { frames := 1, cells := 6, slots := 63, locals := 40 }
set_option maxHeartbeats 8000000 in
set_option maxRecDepth 100000 in
theorem k9_init {l : Launch} {w : Wp} {b n : Nat} {Q : List va_E} (hQ : Q.length = n) : yM l w yX9_init cX9_init 1 rmI9 [.ref (b + n)] b (Q ++ [.inr (9, [.null, .null, .null, .null, .null, .null, .int 0, .int 0, .int 0, .int 0, .int 0])]) (Q ++ ch9 w b n) 6 63 := yM_of rfl (Nat.le_of_ble_eq_true rfl) (fun Θ hl0 hw C hnm => by
  subst hw
  refine y_cs (cs' := Q ++ .inr (9, [.null, .null, .null, .null, .null, .null, .int 0, .int 0, .int 0, .int 0, .int 0]) :: []) rfl ?_
  refine y_aload_n C 0 dX9_init_0 rfl rfl ?_
  refine y_objInit C w_2_93 w_1_36 w_1_37 dX9_init_1 ⟨(Nat.le_of_ble_eq_true rfl), (Nat.le_of_ble_eq_true rfl)⟩ ?_
  refine y_aload_n C 0 dX9_init_4 rfl rfl ?_
  refine y_bipush (v := 36) C dX9_init_5 bp_36 ?_
  refine y_newa (N := 36) (n := n + 1) (cs' := Q ++ .inr (9, [.null, .null, .null, .null, .null, .null, .int 0, .int 0, .int 0, .int 0, .int 0]) :: ([] ++ [.inl (Θ.2.2.2.2.2.2.1.1, 36, .inl (fun _ => 0))])) C w_1_64 (by decide) (by decide) (by decide) (cq_len hQ rfl) cq_app ⟨(Nat.le_of_ble_eq_true rfl), (Nat.le_of_ble_eq_true rfl)⟩ dX9_init_7 ?_
  refine y_put (cs' := Q ++ .inr (9, [.ref (b + (n + 1)), .null, .null, .null, .null, .null, .int 0, .int 0, .int 0, .int 0, .int 0]) :: ([] ++ [.inl (Θ.2.2.2.2.2.2.1.1, 36, .inl (fun _ => 0))])) C hnm inT9 tyX9_ok nmX9 n (cq_get0 hQ) rfl 0 (by decide) w_2_94 rfl rfl rfl (by decide) (cq_put hQ rfl) dX9_init_9 ?_
  refine y_aload_n C 0 dX9_init_12 rfl rfl ?_
  refine y_bipush (v := 6) C dX9_init_13 bp_6 ?_
  refine y_newa (N := 6) (n := n + 2) (cs' := Q ++ .inr (9, [.ref (b + (n + 1)), .null, .null, .null, .null, .null, .int 0, .int 0, .int 0, .int 0, .int 0]) :: (([] ++ [.inl (Θ.2.2.2.2.2.2.1.1, 36, .inl (fun _ => 0))]) ++ [.inl (Θ.2.2.2.2.2.2.1.1, 6, .inl (fun _ => 0))])) C w_1_64 (by decide) (by decide) (by decide) (cq_len hQ rfl) cq_app ⟨(Nat.le_of_ble_eq_true rfl), (Nat.le_of_ble_eq_true rfl)⟩ dX9_init_15 ?_
  refine y_put (cs' := Q ++ .inr (9, [.ref (b + (n + 1)), .ref (b + (n + 2)), .null, .null, .null, .null, .int 0, .int 0, .int 0, .int 0, .int 0]) :: (([] ++ [.inl (Θ.2.2.2.2.2.2.1.1, 36, .inl (fun _ => 0))]) ++ [.inl (Θ.2.2.2.2.2.2.1.1, 6, .inl (fun _ => 0))])) C hnm inT9 tyX9_ok nmX9 n (cq_get0 hQ) rfl 1 (by decide) w_2_95 rfl rfl rfl (by decide) (cq_put hQ rfl) dX9_init_17 ?_
  refine y_aload_n C 0 dX9_init_20 rfl rfl ?_
  refine y_bipush (v := 6) C dX9_init_21 bp_6 ?_
  refine y_newa (N := 6) (n := n + 3) (cs' := Q ++ .inr (9, [.ref (b + (n + 1)), .ref (b + (n + 2)), .null, .null, .null, .null, .int 0, .int 0, .int 0, .int 0, .int 0]) :: ((([] ++ [.inl (Θ.2.2.2.2.2.2.1.1, 36, .inl (fun _ => 0))]) ++ [.inl (Θ.2.2.2.2.2.2.1.1, 6, .inl (fun _ => 0))]) ++ [.inl (Θ.2.2.2.2.2.2.1.1, 6, .inl (fun _ => 0))])) C w_1_64 (by decide) (by decide) (by decide) (cq_len hQ rfl) cq_app ⟨(Nat.le_of_ble_eq_true rfl), (Nat.le_of_ble_eq_true rfl)⟩ dX9_init_23 ?_
  refine y_put (cs' := Q ++ .inr (9, [.ref (b + (n + 1)), .ref (b + (n + 2)), .ref (b + (n + 3)), .null, .null, .null, .int 0, .int 0, .int 0, .int 0, .int 0]) :: ((([] ++ [.inl (Θ.2.2.2.2.2.2.1.1, 36, .inl (fun _ => 0))]) ++ [.inl (Θ.2.2.2.2.2.2.1.1, 6, .inl (fun _ => 0))]) ++ [.inl (Θ.2.2.2.2.2.2.1.1, 6, .inl (fun _ => 0))])) C hnm inT9 tyX9_ok nmX9 n (cq_get0 hQ) rfl 2 (by decide) w_2_96 rfl rfl rfl (by decide) (cq_put hQ rfl) dX9_init_25 ?_
  refine y_aload_n C 0 dX9_init_28 rfl rfl ?_
  refine y_iconst (v := 5) C dX9_init_29 ic_5 ?_
  refine y_newa (N := 5) (n := n + 4) (cs' := Q ++ .inr (9, [.ref (b + (n + 1)), .ref (b + (n + 2)), .ref (b + (n + 3)), .null, .null, .null, .int 0, .int 0, .int 0, .int 0, .int 0]) :: (((([] ++ [.inl (Θ.2.2.2.2.2.2.1.1, 36, .inl (fun _ => 0))]) ++ [.inl (Θ.2.2.2.2.2.2.1.1, 6, .inl (fun _ => 0))]) ++ [.inl (Θ.2.2.2.2.2.2.1.1, 6, .inl (fun _ => 0))]) ++ [.inl (Θ.2.2.2.2.2.2.1.1, 5, .inl (fun _ => 0))])) C w_1_64 (by decide) (by decide) (by decide) (cq_len hQ rfl) cq_app ⟨(Nat.le_of_ble_eq_true rfl), (Nat.le_of_ble_eq_true rfl)⟩ dX9_init_30 ?_
  refine y_put (cs' := Q ++ .inr (9, [.ref (b + (n + 1)), .ref (b + (n + 2)), .ref (b + (n + 3)), .ref (b + (n + 4)), .null, .null, .int 0, .int 0, .int 0, .int 0, .int 0]) :: (((([] ++ [.inl (Θ.2.2.2.2.2.2.1.1, 36, .inl (fun _ => 0))]) ++ [.inl (Θ.2.2.2.2.2.2.1.1, 6, .inl (fun _ => 0))]) ++ [.inl (Θ.2.2.2.2.2.2.1.1, 6, .inl (fun _ => 0))]) ++ [.inl (Θ.2.2.2.2.2.2.1.1, 5, .inl (fun _ => 0))])) C hnm inT9 tyX9_ok nmX9 n (cq_get0 hQ) rfl 3 (by decide) w_2_97 rfl rfl rfl (by decide) (cq_put hQ rfl) dX9_init_32 ?_
  refine y_aload_n C 0 dX9_init_35 rfl rfl ?_
  refine y_iconst (v := 5) C dX9_init_36 ic_5 ?_
  refine y_newa (N := 5) (n := n + 5) (cs' := Q ++ .inr (9, [.ref (b + (n + 1)), .ref (b + (n + 2)), .ref (b + (n + 3)), .ref (b + (n + 4)), .null, .null, .int 0, .int 0, .int 0, .int 0, .int 0]) :: ((((([] ++ [.inl (Θ.2.2.2.2.2.2.1.1, 36, .inl (fun _ => 0))]) ++ [.inl (Θ.2.2.2.2.2.2.1.1, 6, .inl (fun _ => 0))]) ++ [.inl (Θ.2.2.2.2.2.2.1.1, 6, .inl (fun _ => 0))]) ++ [.inl (Θ.2.2.2.2.2.2.1.1, 5, .inl (fun _ => 0))]) ++ [.inl (Θ.2.2.2.2.2.2.1.1, 5, .inl (fun _ => 0))])) C w_1_64 (by decide) (by decide) (by decide) (cq_len hQ rfl) cq_app ⟨(Nat.le_of_ble_eq_true rfl), (Nat.le_of_ble_eq_true rfl)⟩ dX9_init_37 ?_
  refine y_put (cs' := Q ++ .inr (9, [.ref (b + (n + 1)), .ref (b + (n + 2)), .ref (b + (n + 3)), .ref (b + (n + 4)), .ref (b + (n + 5)), .null, .int 0, .int 0, .int 0, .int 0, .int 0]) :: ((((([] ++ [.inl (Θ.2.2.2.2.2.2.1.1, 36, .inl (fun _ => 0))]) ++ [.inl (Θ.2.2.2.2.2.2.1.1, 6, .inl (fun _ => 0))]) ++ [.inl (Θ.2.2.2.2.2.2.1.1, 6, .inl (fun _ => 0))]) ++ [.inl (Θ.2.2.2.2.2.2.1.1, 5, .inl (fun _ => 0))]) ++ [.inl (Θ.2.2.2.2.2.2.1.1, 5, .inl (fun _ => 0))])) C hnm inT9 tyX9_ok nmX9 n (cq_get0 hQ) rfl 4 (by decide) w_2_98 rfl rfl rfl (by decide) (cq_put hQ rfl) dX9_init_39 ?_
  refine y_aload_n C 0 dX9_init_42 rfl rfl ?_
  refine y_iconst (v := 5) C dX9_init_43 ic_5 ?_
  refine y_newa (N := 5) (n := n + 6) (cs' := Q ++ .inr (9, [.ref (b + (n + 1)), .ref (b + (n + 2)), .ref (b + (n + 3)), .ref (b + (n + 4)), .ref (b + (n + 5)), .null, .int 0, .int 0, .int 0, .int 0, .int 0]) :: (((((([] ++ [.inl (Θ.2.2.2.2.2.2.1.1, 36, .inl (fun _ => 0))]) ++ [.inl (Θ.2.2.2.2.2.2.1.1, 6, .inl (fun _ => 0))]) ++ [.inl (Θ.2.2.2.2.2.2.1.1, 6, .inl (fun _ => 0))]) ++ [.inl (Θ.2.2.2.2.2.2.1.1, 5, .inl (fun _ => 0))]) ++ [.inl (Θ.2.2.2.2.2.2.1.1, 5, .inl (fun _ => 0))]) ++ [.inl (Θ.2.2.2.2.2.2.1.1, 5, .inl (fun _ => 0))])) C w_1_64 (by decide) (by decide) (by decide) (cq_len hQ rfl) cq_app ⟨(Nat.le_of_ble_eq_true rfl), (Nat.le_of_ble_eq_true rfl)⟩ dX9_init_44 ?_
  refine y_put (cs' := Q ++ .inr (9, [.ref (b + (n + 1)), .ref (b + (n + 2)), .ref (b + (n + 3)), .ref (b + (n + 4)), .ref (b + (n + 5)), .ref (b + (n + 6)), .int 0, .int 0, .int 0, .int 0, .int 0]) :: (((((([] ++ [.inl (Θ.2.2.2.2.2.2.1.1, 36, .inl (fun _ => 0))]) ++ [.inl (Θ.2.2.2.2.2.2.1.1, 6, .inl (fun _ => 0))]) ++ [.inl (Θ.2.2.2.2.2.2.1.1, 6, .inl (fun _ => 0))]) ++ [.inl (Θ.2.2.2.2.2.2.1.1, 5, .inl (fun _ => 0))]) ++ [.inl (Θ.2.2.2.2.2.2.1.1, 5, .inl (fun _ => 0))]) ++ [.inl (Θ.2.2.2.2.2.2.1.1, 5, .inl (fun _ => 0))])) C hnm inT9 tyX9_ok nmX9 n (cq_get0 hQ) rfl 5 (by decide) w_2_99 rfl rfl rfl (by decide) (cq_put hQ rfl) dX9_init_46 ?_
  refine y_aload_n C 0 dX9_init_49 rfl rfl ?_
  refine y_iconst (v := 0) C dX9_init_50 ic_0 ?_
  refine y_put (cs' := Q ++ .inr (9, [.ref (b + (n + 1)), .ref (b + (n + 2)), .ref (b + (n + 3)), .ref (b + (n + 4)), .ref (b + (n + 5)), .ref (b + (n + 6)), .int 0, .int 0, .int 0, .int 0, .int 0]) :: (((((([] ++ [.inl (Θ.2.2.2.2.2.2.1.1, 36, .inl (fun _ => 0))]) ++ [.inl (Θ.2.2.2.2.2.2.1.1, 6, .inl (fun _ => 0))]) ++ [.inl (Θ.2.2.2.2.2.2.1.1, 6, .inl (fun _ => 0))]) ++ [.inl (Θ.2.2.2.2.2.2.1.1, 5, .inl (fun _ => 0))]) ++ [.inl (Θ.2.2.2.2.2.2.1.1, 5, .inl (fun _ => 0))]) ++ [.inl (Θ.2.2.2.2.2.2.1.1, 5, .inl (fun _ => 0))])) C hnm inT9 tyX9_ok nmX9 n (cq_get0 hQ) rfl 6 (by decide) w_2_101 rfl rfl rfl (by decide) (cq_put hQ rfl) dX9_init_51 ?_
  refine y_aload_n C 0 dX9_init_54 rfl rfl ?_
  refine y_iconst (v := 0) C dX9_init_55 ic_0 ?_
  refine y_put (cs' := Q ++ .inr (9, [.ref (b + (n + 1)), .ref (b + (n + 2)), .ref (b + (n + 3)), .ref (b + (n + 4)), .ref (b + (n + 5)), .ref (b + (n + 6)), .int 0, .int 0, .int 0, .int 0, .int 0]) :: (((((([] ++ [.inl (Θ.2.2.2.2.2.2.1.1, 36, .inl (fun _ => 0))]) ++ [.inl (Θ.2.2.2.2.2.2.1.1, 6, .inl (fun _ => 0))]) ++ [.inl (Θ.2.2.2.2.2.2.1.1, 6, .inl (fun _ => 0))]) ++ [.inl (Θ.2.2.2.2.2.2.1.1, 5, .inl (fun _ => 0))]) ++ [.inl (Θ.2.2.2.2.2.2.1.1, 5, .inl (fun _ => 0))]) ++ [.inl (Θ.2.2.2.2.2.2.1.1, 5, .inl (fun _ => 0))])) C hnm inT9 tyX9_ok nmX9 n (cq_get0 hQ) rfl 7 (by decide) w_2_102 rfl rfl rfl (by decide) (cq_put hQ rfl) dX9_init_56 ?_
  refine y_aload_n C 0 dX9_init_59 rfl rfl ?_
  refine y_iconst (v := 0) C dX9_init_60 ic_0 ?_
  refine y_put (cs' := Q ++ .inr (9, [.ref (b + (n + 1)), .ref (b + (n + 2)), .ref (b + (n + 3)), .ref (b + (n + 4)), .ref (b + (n + 5)), .ref (b + (n + 6)), .int 0, .int 0, .int 0, .int 0, .int 0]) :: (((((([] ++ [.inl (Θ.2.2.2.2.2.2.1.1, 36, .inl (fun _ => 0))]) ++ [.inl (Θ.2.2.2.2.2.2.1.1, 6, .inl (fun _ => 0))]) ++ [.inl (Θ.2.2.2.2.2.2.1.1, 6, .inl (fun _ => 0))]) ++ [.inl (Θ.2.2.2.2.2.2.1.1, 5, .inl (fun _ => 0))]) ++ [.inl (Θ.2.2.2.2.2.2.1.1, 5, .inl (fun _ => 0))]) ++ [.inl (Θ.2.2.2.2.2.2.1.1, 5, .inl (fun _ => 0))])) C hnm inT9 tyX9_ok nmX9 n (cq_get0 hQ) rfl 8 (by decide) w_2_103 rfl rfl rfl (by decide) (cq_put hQ rfl) dX9_init_61 ?_
  refine y_aload_n C 0 dX9_init_64 rfl rfl ?_
  refine y_iconst (v := 0) C dX9_init_65 ic_0 ?_
  refine y_put (cs' := Q ++ .inr (9, [.ref (b + (n + 1)), .ref (b + (n + 2)), .ref (b + (n + 3)), .ref (b + (n + 4)), .ref (b + (n + 5)), .ref (b + (n + 6)), .int 0, .int 0, .int 0, .int 0, .int 0]) :: (((((([] ++ [.inl (Θ.2.2.2.2.2.2.1.1, 36, .inl (fun _ => 0))]) ++ [.inl (Θ.2.2.2.2.2.2.1.1, 6, .inl (fun _ => 0))]) ++ [.inl (Θ.2.2.2.2.2.2.1.1, 6, .inl (fun _ => 0))]) ++ [.inl (Θ.2.2.2.2.2.2.1.1, 5, .inl (fun _ => 0))]) ++ [.inl (Θ.2.2.2.2.2.2.1.1, 5, .inl (fun _ => 0))]) ++ [.inl (Θ.2.2.2.2.2.2.1.1, 5, .inl (fun _ => 0))])) C hnm inT9 tyX9_ok nmX9 n (cq_get0 hQ) rfl 9 (by decide) w_2_104 rfl rfl rfl (by decide) (cq_put hQ rfl) dX9_init_66 ?_
  refine y_aload_n C 0 dX9_init_69 rfl rfl ?_
  refine y_iconst (v := 0) C dX9_init_70 ic_0 ?_
  refine y_put (cs' := Q ++ .inr (9, [.ref (b + (n + 1)), .ref (b + (n + 2)), .ref (b + (n + 3)), .ref (b + (n + 4)), .ref (b + (n + 5)), .ref (b + (n + 6)), .int 0, .int 0, .int 0, .int 0, .int 0]) :: (((((([] ++ [.inl (Θ.2.2.2.2.2.2.1.1, 36, .inl (fun _ => 0))]) ++ [.inl (Θ.2.2.2.2.2.2.1.1, 6, .inl (fun _ => 0))]) ++ [.inl (Θ.2.2.2.2.2.2.1.1, 6, .inl (fun _ => 0))]) ++ [.inl (Θ.2.2.2.2.2.2.1.1, 5, .inl (fun _ => 0))]) ++ [.inl (Θ.2.2.2.2.2.2.1.1, 5, .inl (fun _ => 0))]) ++ [.inl (Θ.2.2.2.2.2.2.1.1, 5, .inl (fun _ => 0))])) C hnm inT9 tyX9_ok nmX9 n (cq_get0 hQ) rfl 10 (by decide) w_2_105 rfl rfl rfl (by decide) (cq_put hQ rfl) dX9_init_71 ?_
  exact y_vret C ⟨Nat.le_refl _, Nat.le_refl _⟩ dX9_init_74)
theorem dX7_init_0 : decode cX7_init 0 = .ok (.aload_n 0, 1) := by decide +kernel
theorem dX7_init_1 : decode cX7_init 1 = .ok (.invokespecial 3, 3) := by decide +kernel
theorem w_2_135 : Cond.methodLink "LastLoaf$SecretBallots" (3 : Nat) ({ cls := "java/lang/Object", name := "<init>", desc := "()V" } : MethodName) ∈ TB := tb_in (lwt_2 (List.mem_of_getElem? (i := 135) (by decide +kernel))) rfl
theorem dX7_init_4 : decode cX7_init 4 = .ok (.aload_n 0, 1) := by decide +kernel
theorem dX7_init_5 : decode cX7_init 5 = .ok (.bipush 6, 2) := by decide +kernel
theorem dX7_init_7 : decode cX7_init 7 = .ok (.newarray .int, 2) := by decide +kernel
theorem dX7_init_9 : decode cX7_init 9 = .ok (.putfield 9, 3) := by decide +kernel
theorem dX7_init_12 : decode cX7_init 12 = .ok (.aload_n 0, 1) := by decide +kernel
theorem dX7_init_13 : decode cX7_init 13 = .ok (.bipush 6, 2) := by decide +kernel
theorem dX7_init_15 : decode cX7_init 15 = .ok (.newarray .int, 2) := by decide +kernel
theorem dX7_init_17 : decode cX7_init 17 = .ok (.putfield 15, 3) := by decide +kernel
theorem dX7_init_20 : decode cX7_init 20 = .ok (.aload_n 0, 1) := by decide +kernel
theorem dX7_init_21 : decode cX7_init 21 = .ok (.bipush 6, 2) := by decide +kernel
theorem dX7_init_23 : decode cX7_init 23 = .ok (.newarray .int, 2) := by decide +kernel
theorem dX7_init_25 : decode cX7_init 25 = .ok (.putfield 18, 3) := by decide +kernel
theorem dX7_init_28 : decode cX7_init 28 = .ok (.aload_n 0, 1) := by decide +kernel
theorem dX7_init_29 : decode cX7_init 29 = .ok (.sipush 448, 3) := by decide +kernel
theorem sp_448 : (Int16.ofInt (448)).toInt32 = 448 := by decide +kernel
theorem dX7_init_32 : decode cX7_init 32 = .ok (.newarray .int, 2) := by decide +kernel
theorem dX7_init_34 : decode cX7_init 34 = .ok (.putfield 21, 3) := by decide +kernel
theorem dX7_init_37 : decode cX7_init 37 = .ok (.aload_n 0, 1) := by decide +kernel
theorem dX7_init_38 : decode cX7_init 38 = .ok (.sipush 448, 3) := by decide +kernel
theorem dX7_init_41 : decode cX7_init 41 = .ok (.newarray .int, 2) := by decide +kernel
theorem dX7_init_43 : decode cX7_init 43 = .ok (.putfield 24, 3) := by decide +kernel
theorem dX7_init_46 : decode cX7_init 46 = .ok (.aload_n 0, 1) := by decide +kernel
theorem dX7_init_47 : decode cX7_init 47 = .ok (.iconst 0, 1) := by decide +kernel
theorem dX7_init_48 : decode cX7_init 48 = .ok (.putfield 27, 3) := by decide +kernel
theorem dX7_init_51 : decode cX7_init 51 = .ok (.aload_n 0, 1) := by decide +kernel
theorem dX7_init_52 : decode cX7_init 52 = .ok (.iconst 0, 1) := by decide +kernel
theorem dX7_init_53 : decode cX7_init 53 = .ok (.putfield 31, 3) := by decide +kernel
theorem dX7_init_56 : decode cX7_init 56 = .ok (.aload_n 0, 1) := by decide +kernel
theorem dX7_init_57 : decode cX7_init 57 = .ok (.iconst 1, 1) := by decide +kernel
theorem dX7_init_58 : decode cX7_init 58 = .ok (.putfield 34, 3) := by decide +kernel
theorem dX7_init_61 : decode cX7_init 61 = .ok (.aload_n 0, 1) := by decide +kernel
theorem dX7_init_62 : decode cX7_init 62 = .ok (.iconst 0, 1) := by decide +kernel
theorem dX7_init_63 : decode cX7_init 63 = .ok (.putfield 37, 3) := by decide +kernel
theorem dX7_init_66 : decode cX7_init 66 = .ok (.return_, 1) := by decide +kernel
/-! LastLoaf$SecretBallots.<init> -/
def ch7 (w : Wp) (b n : Nat) : List va_E := .inr (7, [.ref (b + (n + 1)), .ref (b + (n + 2)), .ref (b + (n + 3)), .ref (b + (n + 4)), .ref (b + (n + 5)), .int 0, .int 0, .int 1, .int 0]) :: ((((([] ++ [.inl (w.2.1.1, 6, .inl (fun _ => 0))]) ++ [.inl (w.2.1.1, 6, .inl (fun _ => 0))]) ++ [.inl (w.2.1.1, 6, .inl (fun _ => 0))]) ++ [.inl (w.2.1.1, 448, .inl (fun _ => 0))]) ++ [.inl (w.2.1.1, 448, .inl (fun _ => 0))])
abbrev rmI7 : Room := { frames := 1, cells := 5, slots := 914, locals := 40 }
set_option maxHeartbeats 8000000 in
set_option maxRecDepth 100000 in
theorem k7_init {l : Launch} {w : Wp} {b n : Nat} {Q : List va_E} (hQ : Q.length = n) : yM l w yX7_init cX7_init 1 rmI7 [.ref (b + n)] b (Q ++ [.inr (7, [.null, .null, .null, .null, .null, .int 0, .int 0, .int 0, .int 0])]) (Q ++ ch7 w b n) 5 914 := yM_of rfl (Nat.le_of_ble_eq_true rfl) (fun Θ hl0 hw C hnm => by
  subst hw
  refine y_cs (cs' := Q ++ .inr (7, [.null, .null, .null, .null, .null, .int 0, .int 0, .int 0, .int 0]) :: []) rfl ?_
  refine y_aload_n C 0 dX7_init_0 rfl rfl ?_
  refine y_objInit C w_2_135 w_1_36 w_1_37 dX7_init_1 ⟨(Nat.le_of_ble_eq_true rfl), (Nat.le_of_ble_eq_true rfl)⟩ ?_
  refine y_aload_n C 0 dX7_init_4 rfl rfl ?_
  refine y_bipush (v := 6) C dX7_init_5 bp_6 ?_
  refine y_newa (N := 6) (n := n + 1) (cs' := Q ++ .inr (7, [.null, .null, .null, .null, .null, .int 0, .int 0, .int 0, .int 0]) :: ([] ++ [.inl (Θ.2.2.2.2.2.2.1.1, 6, .inl (fun _ => 0))])) C w_1_64 (by decide) (by decide) (by decide) (cq_len hQ rfl) cq_app ⟨(Nat.le_of_ble_eq_true rfl), (Nat.le_of_ble_eq_true rfl)⟩ dX7_init_7 ?_
  refine y_put (cs' := Q ++ .inr (7, [.ref (b + (n + 1)), .null, .null, .null, .null, .int 0, .int 0, .int 0, .int 0]) :: ([] ++ [.inl (Θ.2.2.2.2.2.2.1.1, 6, .inl (fun _ => 0))])) C hnm inT7 tyX7_ok nmX7 n (cq_get0 hQ) rfl 0 (by decide) w_2_136 rfl rfl rfl (by decide) (cq_put hQ rfl) dX7_init_9 ?_
  refine y_aload_n C 0 dX7_init_12 rfl rfl ?_
  refine y_bipush (v := 6) C dX7_init_13 bp_6 ?_
  refine y_newa (N := 6) (n := n + 2) (cs' := Q ++ .inr (7, [.ref (b + (n + 1)), .null, .null, .null, .null, .int 0, .int 0, .int 0, .int 0]) :: (([] ++ [.inl (Θ.2.2.2.2.2.2.1.1, 6, .inl (fun _ => 0))]) ++ [.inl (Θ.2.2.2.2.2.2.1.1, 6, .inl (fun _ => 0))])) C w_1_64 (by decide) (by decide) (by decide) (cq_len hQ rfl) cq_app ⟨(Nat.le_of_ble_eq_true rfl), (Nat.le_of_ble_eq_true rfl)⟩ dX7_init_15 ?_
  refine y_put (cs' := Q ++ .inr (7, [.ref (b + (n + 1)), .ref (b + (n + 2)), .null, .null, .null, .int 0, .int 0, .int 0, .int 0]) :: (([] ++ [.inl (Θ.2.2.2.2.2.2.1.1, 6, .inl (fun _ => 0))]) ++ [.inl (Θ.2.2.2.2.2.2.1.1, 6, .inl (fun _ => 0))])) C hnm inT7 tyX7_ok nmX7 n (cq_get0 hQ) rfl 1 (by decide) w_2_137 rfl rfl rfl (by decide) (cq_put hQ rfl) dX7_init_17 ?_
  refine y_aload_n C 0 dX7_init_20 rfl rfl ?_
  refine y_bipush (v := 6) C dX7_init_21 bp_6 ?_
  refine y_newa (N := 6) (n := n + 3) (cs' := Q ++ .inr (7, [.ref (b + (n + 1)), .ref (b + (n + 2)), .null, .null, .null, .int 0, .int 0, .int 0, .int 0]) :: ((([] ++ [.inl (Θ.2.2.2.2.2.2.1.1, 6, .inl (fun _ => 0))]) ++ [.inl (Θ.2.2.2.2.2.2.1.1, 6, .inl (fun _ => 0))]) ++ [.inl (Θ.2.2.2.2.2.2.1.1, 6, .inl (fun _ => 0))])) C w_1_64 (by decide) (by decide) (by decide) (cq_len hQ rfl) cq_app ⟨(Nat.le_of_ble_eq_true rfl), (Nat.le_of_ble_eq_true rfl)⟩ dX7_init_23 ?_
  refine y_put (cs' := Q ++ .inr (7, [.ref (b + (n + 1)), .ref (b + (n + 2)), .ref (b + (n + 3)), .null, .null, .int 0, .int 0, .int 0, .int 0]) :: ((([] ++ [.inl (Θ.2.2.2.2.2.2.1.1, 6, .inl (fun _ => 0))]) ++ [.inl (Θ.2.2.2.2.2.2.1.1, 6, .inl (fun _ => 0))]) ++ [.inl (Θ.2.2.2.2.2.2.1.1, 6, .inl (fun _ => 0))])) C hnm inT7 tyX7_ok nmX7 n (cq_get0 hQ) rfl 2 (by decide) w_2_138 rfl rfl rfl (by decide) (cq_put hQ rfl) dX7_init_25 ?_
  refine y_aload_n C 0 dX7_init_28 rfl rfl ?_
  refine y_sipush (v := 448) C dX7_init_29 sp_448 ?_
  refine y_newa (N := 448) (n := n + 4) (cs' := Q ++ .inr (7, [.ref (b + (n + 1)), .ref (b + (n + 2)), .ref (b + (n + 3)), .null, .null, .int 0, .int 0, .int 0, .int 0]) :: (((([] ++ [.inl (Θ.2.2.2.2.2.2.1.1, 6, .inl (fun _ => 0))]) ++ [.inl (Θ.2.2.2.2.2.2.1.1, 6, .inl (fun _ => 0))]) ++ [.inl (Θ.2.2.2.2.2.2.1.1, 6, .inl (fun _ => 0))]) ++ [.inl (Θ.2.2.2.2.2.2.1.1, 448, .inl (fun _ => 0))])) C w_1_64 (by decide) (by decide) (by decide) (cq_len hQ rfl) cq_app ⟨(Nat.le_of_ble_eq_true rfl), (Nat.le_of_ble_eq_true rfl)⟩ dX7_init_32 ?_
  refine y_put (cs' := Q ++ .inr (7, [.ref (b + (n + 1)), .ref (b + (n + 2)), .ref (b + (n + 3)), .ref (b + (n + 4)), .null, .int 0, .int 0, .int 0, .int 0]) :: (((([] ++ [.inl (Θ.2.2.2.2.2.2.1.1, 6, .inl (fun _ => 0))]) ++ [.inl (Θ.2.2.2.2.2.2.1.1, 6, .inl (fun _ => 0))]) ++ [.inl (Θ.2.2.2.2.2.2.1.1, 6, .inl (fun _ => 0))]) ++ [.inl (Θ.2.2.2.2.2.2.1.1, 448, .inl (fun _ => 0))])) C hnm inT7 tyX7_ok nmX7 n (cq_get0 hQ) rfl 3 (by decide) w_2_139 rfl rfl rfl (by decide) (cq_put hQ rfl) dX7_init_34 ?_
  refine y_aload_n C 0 dX7_init_37 rfl rfl ?_
  refine y_sipush (v := 448) C dX7_init_38 sp_448 ?_
  refine y_newa (N := 448) (n := n + 5) (cs' := Q ++ .inr (7, [.ref (b + (n + 1)), .ref (b + (n + 2)), .ref (b + (n + 3)), .ref (b + (n + 4)), .null, .int 0, .int 0, .int 0, .int 0]) :: ((((([] ++ [.inl (Θ.2.2.2.2.2.2.1.1, 6, .inl (fun _ => 0))]) ++ [.inl (Θ.2.2.2.2.2.2.1.1, 6, .inl (fun _ => 0))]) ++ [.inl (Θ.2.2.2.2.2.2.1.1, 6, .inl (fun _ => 0))]) ++ [.inl (Θ.2.2.2.2.2.2.1.1, 448, .inl (fun _ => 0))]) ++ [.inl (Θ.2.2.2.2.2.2.1.1, 448, .inl (fun _ => 0))])) C w_1_64 (by decide) (by decide) (by decide) (cq_len hQ rfl) cq_app ⟨(Nat.le_of_ble_eq_true rfl), (Nat.le_of_ble_eq_true rfl)⟩ dX7_init_41 ?_
  refine y_put (cs' := Q ++ .inr (7, [.ref (b + (n + 1)), .ref (b + (n + 2)), .ref (b + (n + 3)), .ref (b + (n + 4)), .ref (b + (n + 5)), .int 0, .int 0, .int 0, .int 0]) :: ((((([] ++ [.inl (Θ.2.2.2.2.2.2.1.1, 6, .inl (fun _ => 0))]) ++ [.inl (Θ.2.2.2.2.2.2.1.1, 6, .inl (fun _ => 0))]) ++ [.inl (Θ.2.2.2.2.2.2.1.1, 6, .inl (fun _ => 0))]) ++ [.inl (Θ.2.2.2.2.2.2.1.1, 448, .inl (fun _ => 0))]) ++ [.inl (Θ.2.2.2.2.2.2.1.1, 448, .inl (fun _ => 0))])) C hnm inT7 tyX7_ok nmX7 n (cq_get0 hQ) rfl 4 (by decide) w_2_140 rfl rfl rfl (by decide) (cq_put hQ rfl) dX7_init_43 ?_
  refine y_aload_n C 0 dX7_init_46 rfl rfl ?_
  refine y_iconst (v := 0) C dX7_init_47 ic_0 ?_
  refine y_put (cs' := Q ++ .inr (7, [.ref (b + (n + 1)), .ref (b + (n + 2)), .ref (b + (n + 3)), .ref (b + (n + 4)), .ref (b + (n + 5)), .int 0, .int 0, .int 0, .int 0]) :: ((((([] ++ [.inl (Θ.2.2.2.2.2.2.1.1, 6, .inl (fun _ => 0))]) ++ [.inl (Θ.2.2.2.2.2.2.1.1, 6, .inl (fun _ => 0))]) ++ [.inl (Θ.2.2.2.2.2.2.1.1, 6, .inl (fun _ => 0))]) ++ [.inl (Θ.2.2.2.2.2.2.1.1, 448, .inl (fun _ => 0))]) ++ [.inl (Θ.2.2.2.2.2.2.1.1, 448, .inl (fun _ => 0))])) C hnm inT7 tyX7_ok nmX7 n (cq_get0 hQ) rfl 5 (by decide) w_2_141 rfl rfl rfl (by decide) (cq_put hQ rfl) dX7_init_48 ?_
  refine y_aload_n C 0 dX7_init_51 rfl rfl ?_
  refine y_iconst (v := 0) C dX7_init_52 ic_0 ?_
  refine y_put (cs' := Q ++ .inr (7, [.ref (b + (n + 1)), .ref (b + (n + 2)), .ref (b + (n + 3)), .ref (b + (n + 4)), .ref (b + (n + 5)), .int 0, .int 0, .int 0, .int 0]) :: ((((([] ++ [.inl (Θ.2.2.2.2.2.2.1.1, 6, .inl (fun _ => 0))]) ++ [.inl (Θ.2.2.2.2.2.2.1.1, 6, .inl (fun _ => 0))]) ++ [.inl (Θ.2.2.2.2.2.2.1.1, 6, .inl (fun _ => 0))]) ++ [.inl (Θ.2.2.2.2.2.2.1.1, 448, .inl (fun _ => 0))]) ++ [.inl (Θ.2.2.2.2.2.2.1.1, 448, .inl (fun _ => 0))])) C hnm inT7 tyX7_ok nmX7 n (cq_get0 hQ) rfl 6 (by decide) w_2_142 rfl rfl rfl (by decide) (cq_put hQ rfl) dX7_init_53 ?_
  refine y_aload_n C 0 dX7_init_56 rfl rfl ?_
  refine y_iconst (v := 1) C dX7_init_57 ic_1 ?_
  refine y_put (cs' := Q ++ .inr (7, [.ref (b + (n + 1)), .ref (b + (n + 2)), .ref (b + (n + 3)), .ref (b + (n + 4)), .ref (b + (n + 5)), .int 0, .int 0, .int 1, .int 0]) :: ((((([] ++ [.inl (Θ.2.2.2.2.2.2.1.1, 6, .inl (fun _ => 0))]) ++ [.inl (Θ.2.2.2.2.2.2.1.1, 6, .inl (fun _ => 0))]) ++ [.inl (Θ.2.2.2.2.2.2.1.1, 6, .inl (fun _ => 0))]) ++ [.inl (Θ.2.2.2.2.2.2.1.1, 448, .inl (fun _ => 0))]) ++ [.inl (Θ.2.2.2.2.2.2.1.1, 448, .inl (fun _ => 0))])) C hnm inT7 tyX7_ok nmX7 n (cq_get0 hQ) rfl 7 (by decide) w_2_143 rfl rfl rfl (by decide) (cq_put hQ rfl) dX7_init_58 ?_
  refine y_aload_n C 0 dX7_init_61 rfl rfl ?_
  refine y_iconst (v := 0) C dX7_init_62 ic_0 ?_
  refine y_put (cs' := Q ++ .inr (7, [.ref (b + (n + 1)), .ref (b + (n + 2)), .ref (b + (n + 3)), .ref (b + (n + 4)), .ref (b + (n + 5)), .int 0, .int 0, .int 1, .int 0]) :: ((((([] ++ [.inl (Θ.2.2.2.2.2.2.1.1, 6, .inl (fun _ => 0))]) ++ [.inl (Θ.2.2.2.2.2.2.1.1, 6, .inl (fun _ => 0))]) ++ [.inl (Θ.2.2.2.2.2.2.1.1, 6, .inl (fun _ => 0))]) ++ [.inl (Θ.2.2.2.2.2.2.1.1, 448, .inl (fun _ => 0))]) ++ [.inl (Θ.2.2.2.2.2.2.1.1, 448, .inl (fun _ => 0))])) C hnm inT7 tyX7_ok nmX7 n (cq_get0 hQ) rfl 8 (by decide) w_2_144 rfl rfl rfl (by decide) (cq_put hQ rfl) dX7_init_63 ?_
  exact y_vret C ⟨Nat.le_refl _, Nat.le_refl _⟩ dX7_init_66)
theorem dX1_init_0 : decode cX1_init 0 = .ok (.aload_n 0, 1) := by decide +kernel
theorem dX1_init_1 : decode cX1_init 1 = .ok (.invokespecial 3, 3) := by decide +kernel
theorem w_2_170 : Cond.methodLink "LastLoaf$Friends" (3 : Nat) ({ cls := "java/lang/Object", name := "<init>", desc := "()V" } : MethodName) ∈ TB := tb_in (lwt_2 (List.mem_of_getElem? (i := 170) (by decide +kernel))) rfl
theorem dX1_init_4 : decode cX1_init 4 = .ok (.aload_n 0, 1) := by decide +kernel
theorem dX1_init_5 : decode cX1_init 5 = .ok (.bipush 36, 2) := by decide +kernel
theorem dX1_init_7 : decode cX1_init 7 = .ok (.newarray .int, 2) := by decide +kernel
theorem dX1_init_9 : decode cX1_init 9 = .ok (.putfield 9, 3) := by decide +kernel
theorem dX1_init_12 : decode cX1_init 12 = .ok (.aload_n 0, 1) := by decide +kernel
theorem dX1_init_13 : decode cX1_init 13 = .ok (.bipush 64, 2) := by decide +kernel
theorem dX1_init_15 : decode cX1_init 15 = .ok (.newarray .int, 2) := by decide +kernel
theorem dX1_init_17 : decode cX1_init 17 = .ok (.putfield 15, 3) := by decide +kernel
theorem dX1_init_20 : decode cX1_init 20 = .ok (.aload_n 0, 1) := by decide +kernel
theorem dX1_init_21 : decode cX1_init 21 = .ok (.sipush 384, 3) := by decide +kernel
theorem dX1_init_24 : decode cX1_init 24 = .ok (.newarray .int, 2) := by decide +kernel
theorem dX1_init_26 : decode cX1_init 26 = .ok (.putfield 18, 3) := by decide +kernel
theorem dX1_init_29 : decode cX1_init 29 = .ok (.aload_n 0, 1) := by decide +kernel
theorem dX1_init_30 : decode cX1_init 30 = .ok (.iconst 0, 1) := by decide +kernel
theorem dX1_init_31 : decode cX1_init 31 = .ok (.putfield 21, 3) := by decide +kernel
theorem dX1_init_34 : decode cX1_init 34 = .ok (.aload_n 0, 1) := by decide +kernel
theorem dX1_init_35 : decode cX1_init 35 = .ok (.iconst 0, 1) := by decide +kernel
theorem dX1_init_36 : decode cX1_init 36 = .ok (.putfield 25, 3) := by decide +kernel
theorem dX1_init_39 : decode cX1_init 39 = .ok (.return_, 1) := by decide +kernel
/-! LastLoaf$Friends.<init> -/
def ch1 (w : Wp) (b n : Nat) : List va_E := .inr (1, [.ref (b + (n + 1)), .ref (b + (n + 2)), .ref (b + (n + 3)), .int 0, .int 0]) :: ((([] ++ [.inl (w.2.1.1, 36, .inl (fun _ => 0))]) ++ [.inl (w.2.1.1, 64, .inl (fun _ => 0))]) ++ [.inl (w.2.1.1, 384, .inl (fun _ => 0))])
abbrev rmI1 : Room := { frames := 1, cells := 3, slots := 484, locals := 40 }
set_option maxHeartbeats 8000000 in
set_option maxRecDepth 100000 in
theorem k1_init {l : Launch} {w : Wp} {b n : Nat} {Q : List va_E} (hQ : Q.length = n) : yM l w yX1_init cX1_init 1 rmI1 [.ref (b + n)] b (Q ++ [.inr (1, [.null, .null, .null, .int 0, .int 0])]) (Q ++ ch1 w b n) 3 484 := yM_of rfl (Nat.le_of_ble_eq_true rfl) (fun Θ hl0 hw C hnm => by
  subst hw
  refine y_cs (cs' := Q ++ .inr (1, [.null, .null, .null, .int 0, .int 0]) :: []) rfl ?_
  refine y_aload_n C 0 dX1_init_0 rfl rfl ?_
  refine y_objInit C w_2_170 w_1_36 w_1_37 dX1_init_1 ⟨(Nat.le_of_ble_eq_true rfl), (Nat.le_of_ble_eq_true rfl)⟩ ?_
  refine y_aload_n C 0 dX1_init_4 rfl rfl ?_
  refine y_bipush (v := 36) C dX1_init_5 bp_36 ?_
  refine y_newa (N := 36) (n := n + 1) (cs' := Q ++ .inr (1, [.null, .null, .null, .int 0, .int 0]) :: ([] ++ [.inl (Θ.2.2.2.2.2.2.1.1, 36, .inl (fun _ => 0))])) C w_1_64 (by decide) (by decide) (by decide) (cq_len hQ rfl) cq_app ⟨(Nat.le_of_ble_eq_true rfl), (Nat.le_of_ble_eq_true rfl)⟩ dX1_init_7 ?_
  refine y_put (cs' := Q ++ .inr (1, [.ref (b + (n + 1)), .null, .null, .int 0, .int 0]) :: ([] ++ [.inl (Θ.2.2.2.2.2.2.1.1, 36, .inl (fun _ => 0))])) C hnm inT1 tyX1_ok nmX1 n (cq_get0 hQ) rfl 0 (by decide) w_2_171 rfl rfl rfl (by decide) (cq_put hQ rfl) dX1_init_9 ?_
  refine y_aload_n C 0 dX1_init_12 rfl rfl ?_
  refine y_bipush (v := 64) C dX1_init_13 bp_64 ?_
  refine y_newa (N := 64) (n := n + 2) (cs' := Q ++ .inr (1, [.ref (b + (n + 1)), .null, .null, .int 0, .int 0]) :: (([] ++ [.inl (Θ.2.2.2.2.2.2.1.1, 36, .inl (fun _ => 0))]) ++ [.inl (Θ.2.2.2.2.2.2.1.1, 64, .inl (fun _ => 0))])) C w_1_64 (by decide) (by decide) (by decide) (cq_len hQ rfl) cq_app ⟨(Nat.le_of_ble_eq_true rfl), (Nat.le_of_ble_eq_true rfl)⟩ dX1_init_15 ?_
  refine y_put (cs' := Q ++ .inr (1, [.ref (b + (n + 1)), .ref (b + (n + 2)), .null, .int 0, .int 0]) :: (([] ++ [.inl (Θ.2.2.2.2.2.2.1.1, 36, .inl (fun _ => 0))]) ++ [.inl (Θ.2.2.2.2.2.2.1.1, 64, .inl (fun _ => 0))])) C hnm inT1 tyX1_ok nmX1 n (cq_get0 hQ) rfl 1 (by decide) w_2_172 rfl rfl rfl (by decide) (cq_put hQ rfl) dX1_init_17 ?_
  refine y_aload_n C 0 dX1_init_20 rfl rfl ?_
  refine y_sipush (v := 384) C dX1_init_21 sp_384 ?_
  refine y_newa (N := 384) (n := n + 3) (cs' := Q ++ .inr (1, [.ref (b + (n + 1)), .ref (b + (n + 2)), .null, .int 0, .int 0]) :: ((([] ++ [.inl (Θ.2.2.2.2.2.2.1.1, 36, .inl (fun _ => 0))]) ++ [.inl (Θ.2.2.2.2.2.2.1.1, 64, .inl (fun _ => 0))]) ++ [.inl (Θ.2.2.2.2.2.2.1.1, 384, .inl (fun _ => 0))])) C w_1_64 (by decide) (by decide) (by decide) (cq_len hQ rfl) cq_app ⟨(Nat.le_of_ble_eq_true rfl), (Nat.le_of_ble_eq_true rfl)⟩ dX1_init_24 ?_
  refine y_put (cs' := Q ++ .inr (1, [.ref (b + (n + 1)), .ref (b + (n + 2)), .ref (b + (n + 3)), .int 0, .int 0]) :: ((([] ++ [.inl (Θ.2.2.2.2.2.2.1.1, 36, .inl (fun _ => 0))]) ++ [.inl (Θ.2.2.2.2.2.2.1.1, 64, .inl (fun _ => 0))]) ++ [.inl (Θ.2.2.2.2.2.2.1.1, 384, .inl (fun _ => 0))])) C hnm inT1 tyX1_ok nmX1 n (cq_get0 hQ) rfl 2 (by decide) w_2_173 rfl rfl rfl (by decide) (cq_put hQ rfl) dX1_init_26 ?_
  refine y_aload_n C 0 dX1_init_29 rfl rfl ?_
  refine y_iconst (v := 0) C dX1_init_30 ic_0 ?_
  refine y_put (cs' := Q ++ .inr (1, [.ref (b + (n + 1)), .ref (b + (n + 2)), .ref (b + (n + 3)), .int 0, .int 0]) :: ((([] ++ [.inl (Θ.2.2.2.2.2.2.1.1, 36, .inl (fun _ => 0))]) ++ [.inl (Θ.2.2.2.2.2.2.1.1, 64, .inl (fun _ => 0))]) ++ [.inl (Θ.2.2.2.2.2.2.1.1, 384, .inl (fun _ => 0))])) C hnm inT1 tyX1_ok nmX1 n (cq_get0 hQ) rfl 3 (by decide) w_2_174 rfl rfl rfl (by decide) (cq_put hQ rfl) dX1_init_31 ?_
  refine y_aload_n C 0 dX1_init_34 rfl rfl ?_
  refine y_iconst (v := 0) C dX1_init_35 ic_0 ?_
  refine y_put (cs' := Q ++ .inr (1, [.ref (b + (n + 1)), .ref (b + (n + 2)), .ref (b + (n + 3)), .int 0, .int 0]) :: ((([] ++ [.inl (Θ.2.2.2.2.2.2.1.1, 36, .inl (fun _ => 0))]) ++ [.inl (Θ.2.2.2.2.2.2.1.1, 64, .inl (fun _ => 0))]) ++ [.inl (Θ.2.2.2.2.2.2.1.1, 384, .inl (fun _ => 0))])) C hnm inT1 tyX1_ok nmX1 n (cq_get0 hQ) rfl 4 (by decide) w_2_175 rfl rfl rfl (by decide) (cq_put hQ rfl) dX1_init_36 ?_
  exact y_vret C ⟨Nat.le_refl _, Nat.le_refl _⟩ dX1_init_39)
theorem dX11_init_0 : decode cX11_init 0 = .ok (.aload_n 0, 1) := by decide +kernel
theorem dX11_init_1 : decode cX11_init 1 = .ok (.invokespecial 3, 3) := by decide +kernel
theorem w_1_35 : Cond.methodLink "LastLoaf" (3 : Nat) ({ cls := "java/lang/Object", name := "<init>", desc := "()V" } : MethodName) ∈ TB := tb_in (lwt_1 (List.mem_of_getElem? (i := 35) (by decide +kernel))) rfl
theorem dX11_init_4 : decode cX11_init 4 = .ok (.aload_n 0, 1) := by decide +kernel
theorem dX11_init_5 : decode cX11_init 5 = .ok (.new 9, 3) := by decide +kernel
theorem w_1_38 : Cond.classLink "LastLoaf" (9 : Nat) "LastLoaf$Tape" ∈ TB := tb_in (lwt_1 (List.mem_of_getElem? (i := 38) (by decide +kernel))) rfl
theorem w_1_39 : Cond.instantiable "LastLoaf$Tape" (5 : Nat) ∈ TB := tb_in (lwt_1 (List.mem_of_getElem? (i := 39) (by decide +kernel))) rfl
theorem dX11_init_8 : decode cX11_init 8 = .ok (.dup, 1) := by decide +kernel
theorem dX11_init_9 : decode cX11_init 9 = .ok (.invokespecial 11, 3) := by decide +kernel
theorem w_1_42 : Cond.code ({ cls := "LastLoaf$Tape", name := "<init>", desc := "()V" } : MethodName) prog_10_method_1_code (1 : Nat) (Option.none : Option ClassFile.FieldType) ∈ TB := tb_in (lwt_1 (List.mem_of_getElem? (i := 42) (by decide +kernel))) rfl
theorem w_1_41 : Cond.instanceMethod ({ cls := "LastLoaf$Tape", name := "<init>", desc := "()V" } : MethodName) ∈ TB := tb_in (lwt_1 (List.mem_of_getElem? (i := 41) (by decide +kernel))) rfl
theorem dX11_init_12 : decode cX11_init 12 = .ok (.putfield 12, 3) := by decide +kernel
theorem dX11_init_15 : decode cX11_init 15 = .ok (.aload_n 0, 1) := by decide +kernel
theorem dX11_init_16 : decode cX11_init 16 = .ok (.new 16, 3) := by decide +kernel
theorem w_1_65 : Cond.classLink "LastLoaf" (16 : Nat) "LastLoaf$Village" ∈ TB := tb_in (lwt_1 (List.mem_of_getElem? (i := 65) (by decide +kernel))) rfl
theorem dX11_init_19 : decode cX11_init 19 = .ok (.dup, 1) := by decide +kernel
theorem dX11_init_20 : decode cX11_init 20 = .ok (.invokespecial 18, 3) := by decide +kernel
theorem w_1_67 : Cond.methodLink "LastLoaf" (18 : Nat) ({ cls := "LastLoaf$Village", name := "<init>", desc := "()V" } : MethodName) ∈ TB := tb_in (lwt_1 (List.mem_of_getElem? (i := 67) (by decide +kernel))) rfl
theorem dX11_init_23 : decode cX11_init 23 = .ok (.putfield 19, 3) := by decide +kernel
theorem dX11_init_26 : decode cX11_init 26 = .ok (.aload_n 0, 1) := by decide +kernel
theorem dX11_init_27 : decode cX11_init 27 = .ok (.new 16, 3) := by decide +kernel
theorem dX11_init_30 : decode cX11_init 30 = .ok (.dup, 1) := by decide +kernel
theorem dX11_init_31 : decode cX11_init 31 = .ok (.invokespecial 18, 3) := by decide +kernel
theorem dX11_init_34 : decode cX11_init 34 = .ok (.putfield 23, 3) := by decide +kernel
theorem dX11_init_37 : decode cX11_init 37 = .ok (.aload_n 0, 1) := by decide +kernel
theorem dX11_init_38 : decode cX11_init 38 = .ok (.new 26, 3) := by decide +kernel
theorem w_1_199 : Cond.classLink "LastLoaf" (26 : Nat) "LastLoaf$Law" ∈ TB := tb_in (lwt_1 (List.mem_of_getElem? (i := 199) (by decide +kernel))) rfl
theorem w_1_200 : Cond.instantiable "LastLoaf$Law" (7 : Nat) ∈ TB := tb_in (lwt_1 (List.mem_of_getElem? (i := 200) (by decide +kernel))) rfl
theorem dX11_init_41 : decode cX11_init 41 = .ok (.dup, 1) := by decide +kernel
theorem dX11_init_42 : decode cX11_init 42 = .ok (.invokespecial 28, 3) := by decide +kernel
theorem w_1_203 : Cond.code ({ cls := "LastLoaf$Law", name := "<init>", desc := "()V" } : MethodName) prog_4_method_1_code (1 : Nat) (Option.none : Option ClassFile.FieldType) ∈ TB := tb_in (lwt_1 (List.mem_of_getElem? (i := 203) (by decide +kernel))) rfl
theorem w_1_202 : Cond.instanceMethod ({ cls := "LastLoaf$Law", name := "<init>", desc := "()V" } : MethodName) ∈ TB := tb_in (lwt_1 (List.mem_of_getElem? (i := 202) (by decide +kernel))) rfl
theorem dX11_init_45 : decode cX11_init 45 = .ok (.putfield 29, 3) := by decide +kernel
theorem dX11_init_48 : decode cX11_init 48 = .ok (.aload_n 0, 1) := by decide +kernel
theorem dX11_init_49 : decode cX11_init 49 = .ok (.new 26, 3) := by decide +kernel
theorem dX11_init_52 : decode cX11_init 52 = .ok (.dup, 1) := by decide +kernel
theorem dX11_init_53 : decode cX11_init 53 = .ok (.invokespecial 28, 3) := by decide +kernel
theorem dX11_init_56 : decode cX11_init 56 = .ok (.putfield 33, 3) := by decide +kernel
theorem dX11_init_59 : decode cX11_init 59 = .ok (.aload_n 0, 1) := by decide +kernel
theorem dX11_init_60 : decode cX11_init 60 = .ok (.new 36, 3) := by decide +kernel
theorem w_1_230 : Cond.classLink "LastLoaf" (36 : Nat) "LastLoaf$Reader" ∈ TB := tb_in (lwt_1 (List.mem_of_getElem? (i := 230) (by decide +kernel))) rfl
theorem w_1_231 : Cond.instantiable "LastLoaf$Reader" (6 : Nat) ∈ TB := tb_in (lwt_1 (List.mem_of_getElem? (i := 231) (by decide +kernel))) rfl
theorem dX11_init_63 : decode cX11_init 63 = .ok (.dup, 1) := by decide +kernel
theorem dX11_init_64 : decode cX11_init 64 = .ok (.aload_n 0, 1) := by decide +kernel
theorem dX11_init_65 : decode cX11_init 65 = .ok (.getfield 12, 3) := by decide +kernel
theorem dX11_init_68 : decode cX11_init 68 = .ok (.aload_n 0, 1) := by decide +kernel
theorem dX11_init_69 : decode cX11_init 69 = .ok (.getfield 23, 3) := by decide +kernel
theorem dX11_init_72 : decode cX11_init 72 = .ok (.aload_n 0, 1) := by decide +kernel
theorem dX11_init_73 : decode cX11_init 73 = .ok (.getfield 33, 3) := by decide +kernel
theorem dX11_init_76 : decode cX11_init 76 = .ok (.invokespecial 38, 3) := by decide +kernel
theorem w_1_234 : Cond.code ({ cls := "LastLoaf$Reader", name := "<init>", desc := "(LLastLoaf$Tape;LLastLoaf$Village;LLastLoaf$Law;)V" } : MethodName) prog_8_method_1_code (4 : Nat) (Option.none : Option ClassFile.FieldType) ∈ TB := tb_in (lwt_1 (List.mem_of_getElem? (i := 234) (by decide +kernel))) rfl
theorem w_1_233 : Cond.instanceMethod ({ cls := "LastLoaf$Reader", name := "<init>", desc := "(LLastLoaf$Tape;LLastLoaf$Village;LLastLoaf$Law;)V" } : MethodName) ∈ TB := tb_in (lwt_1 (List.mem_of_getElem? (i := 233) (by decide +kernel))) rfl
theorem w_1_232 : Cond.methodLink "LastLoaf" (38 : Nat) ({ cls := "LastLoaf$Reader", name := "<init>", desc := "(LLastLoaf$Tape;LLastLoaf$Village;LLastLoaf$Law;)V" } : MethodName) ∈ TB := tb_in (lwt_1 (List.mem_of_getElem? (i := 232) (by decide +kernel))) rfl
theorem dX11_init_79 : decode cX11_init 79 = .ok (.putfield 41, 3) := by decide +kernel
theorem dX11_init_82 : decode cX11_init 82 = .ok (.aload_n 0, 1) := by decide +kernel
theorem dX11_init_83 : decode cX11_init 83 = .ok (.new 16, 3) := by decide +kernel
theorem dX11_init_86 : decode cX11_init 86 = .ok (.dup, 1) := by decide +kernel
theorem dX11_init_87 : decode cX11_init 87 = .ok (.invokespecial 18, 3) := by decide +kernel
theorem dX11_init_90 : decode cX11_init 90 = .ok (.putfield 45, 3) := by decide +kernel
theorem dX11_init_93 : decode cX11_init 93 = .ok (.aload_n 0, 1) := by decide +kernel
theorem dX11_init_94 : decode cX11_init 94 = .ok (.new 26, 3) := by decide +kernel
theorem dX11_init_97 : decode cX11_init 97 = .ok (.dup, 1) := by decide +kernel
theorem dX11_init_98 : decode cX11_init 98 = .ok (.invokespecial 28, 3) := by decide +kernel
theorem dX11_init_101 : decode cX11_init 101 = .ok (.putfield 48, 3) := by decide +kernel
theorem dX11_init_104 : decode cX11_init 104 = .ok (.aload_n 0, 1) := by decide +kernel
theorem dX11_init_105 : decode cX11_init 105 = .ok (.new 51, 3) := by decide +kernel
theorem w_2_15 : Cond.classLink "LastLoaf" (51 : Nat) "LastLoaf$Past" ∈ TB := tb_in (lwt_2 (List.mem_of_getElem? (i := 15) (by decide +kernel))) rfl
theorem w_2_16 : Cond.instantiable "LastLoaf$Past" (3 : Nat) ∈ TB := tb_in (lwt_2 (List.mem_of_getElem? (i := 16) (by decide +kernel))) rfl
theorem dX11_init_108 : decode cX11_init 108 = .ok (.dup, 1) := by decide +kernel
theorem dX11_init_109 : decode cX11_init 109 = .ok (.invokespecial 53, 3) := by decide +kernel
theorem w_2_19 : Cond.code ({ cls := "LastLoaf$Past", name := "<init>", desc := "()V" } : MethodName) prog_6_method_1_code (2 : Nat) (Option.none : Option ClassFile.FieldType) ∈ TB := tb_in (lwt_2 (List.mem_of_getElem? (i := 19) (by decide +kernel))) rfl
theorem w_2_18 : Cond.instanceMethod ({ cls := "LastLoaf$Past", name := "<init>", desc := "()V" } : MethodName) ∈ TB := tb_in (lwt_2 (List.mem_of_getElem? (i := 18) (by decide +kernel))) rfl
theorem w_2_17 : Cond.methodLink "LastLoaf" (53 : Nat) ({ cls := "LastLoaf$Past", name := "<init>", desc := "()V" } : MethodName) ∈ TB := tb_in (lwt_2 (List.mem_of_getElem? (i := 17) (by decide +kernel))) rfl
theorem dX11_init_112 : decode cX11_init 112 = .ok (.putfield 54, 3) := by decide +kernel
theorem dX11_init_115 : decode cX11_init 115 = .ok (.aload_n 0, 1) := by decide +kernel
theorem dX11_init_116 : decode cX11_init 116 = .ok (.new 58, 3) := by decide +kernel
theorem w_2_35 : Cond.classLink "LastLoaf" (58 : Nat) "LastLoaf$Poll" ∈ TB := tb_in (lwt_2 (List.mem_of_getElem? (i := 35) (by decide +kernel))) rfl
theorem w_2_36 : Cond.instantiable "LastLoaf$Poll" (10 : Nat) ∈ TB := tb_in (lwt_2 (List.mem_of_getElem? (i := 36) (by decide +kernel))) rfl
theorem dX11_init_119 : decode cX11_init 119 = .ok (.dup, 1) := by decide +kernel
theorem dX11_init_120 : decode cX11_init 120 = .ok (.invokespecial 60, 3) := by decide +kernel
theorem w_2_39 : Cond.code ({ cls := "LastLoaf$Poll", name := "<init>", desc := "()V" } : MethodName) prog_7_method_1_code (1 : Nat) (Option.none : Option ClassFile.FieldType) ∈ TB := tb_in (lwt_2 (List.mem_of_getElem? (i := 39) (by decide +kernel))) rfl
theorem w_2_38 : Cond.instanceMethod ({ cls := "LastLoaf$Poll", name := "<init>", desc := "()V" } : MethodName) ∈ TB := tb_in (lwt_2 (List.mem_of_getElem? (i := 38) (by decide +kernel))) rfl
theorem dX11_init_123 : decode cX11_init 123 = .ok (.putfield 61, 3) := by decide +kernel
theorem dX11_init_126 : decode cX11_init 126 = .ok (.aload_n 0, 1) := by decide +kernel
theorem dX11_init_127 : decode cX11_init 127 = .ok (.new 65, 3) := by decide +kernel
theorem w_2_75 : Cond.classLink "LastLoaf" (65 : Nat) "LastLoaf$Baker" ∈ TB := tb_in (lwt_2 (List.mem_of_getElem? (i := 75) (by decide +kernel))) rfl
theorem w_2_76 : Cond.instantiable "LastLoaf$Baker" (2 : Nat) ∈ TB := tb_in (lwt_2 (List.mem_of_getElem? (i := 76) (by decide +kernel))) rfl
theorem dX11_init_130 : decode cX11_init 130 = .ok (.dup, 1) := by decide +kernel
theorem dX11_init_131 : decode cX11_init 131 = .ok (.aload_n 0, 1) := by decide +kernel
theorem dX11_init_132 : decode cX11_init 132 = .ok (.getfield 61, 3) := by decide +kernel
theorem dX11_init_135 : decode cX11_init 135 = .ok (.aload_n 0, 1) := by decide +kernel
theorem dX11_init_136 : decode cX11_init 136 = .ok (.getfield 29, 3) := by decide +kernel
theorem dX11_init_139 : decode cX11_init 139 = .ok (.invokespecial 67, 3) := by decide +kernel
theorem w_2_79 : Cond.code ({ cls := "LastLoaf$Baker", name := "<init>", desc := "(LLastLoaf$Poll;LLastLoaf$Law;)V" } : MethodName) prog_2_method_1_code (3 : Nat) (Option.none : Option ClassFile.FieldType) ∈ TB := tb_in (lwt_2 (List.mem_of_getElem? (i := 79) (by decide +kernel))) rfl
theorem w_2_78 : Cond.instanceMethod ({ cls := "LastLoaf$Baker", name := "<init>", desc := "(LLastLoaf$Poll;LLastLoaf$Law;)V" } : MethodName) ∈ TB := tb_in (lwt_2 (List.mem_of_getElem? (i := 78) (by decide +kernel))) rfl
theorem w_2_77 : Cond.methodLink "LastLoaf" (67 : Nat) ({ cls := "LastLoaf$Baker", name := "<init>", desc := "(LLastLoaf$Poll;LLastLoaf$Law;)V" } : MethodName) ∈ TB := tb_in (lwt_2 (List.mem_of_getElem? (i := 77) (by decide +kernel))) rfl
theorem dX11_init_142 : decode cX11_init 142 = .ok (.putfield 70, 3) := by decide +kernel
theorem dX11_init_145 : decode cX11_init 145 = .ok (.aload_n 0, 1) := by decide +kernel
theorem dX11_init_146 : decode cX11_init 146 = .ok (.new 74, 3) := by decide +kernel
theorem w_2_88 : Cond.classLink "LastLoaf" (74 : Nat) "LastLoaf$Turns" ∈ TB := tb_in (lwt_2 (List.mem_of_getElem? (i := 88) (by decide +kernel))) rfl
theorem w_2_89 : Cond.instantiable "LastLoaf$Turns" (11 : Nat) ∈ TB := tb_in (lwt_2 (List.mem_of_getElem? (i := 89) (by decide +kernel))) rfl
theorem dX11_init_149 : decode cX11_init 149 = .ok (.dup, 1) := by decide +kernel
theorem dX11_init_150 : decode cX11_init 150 = .ok (.invokespecial 76, 3) := by decide +kernel
theorem w_2_92 : Cond.code ({ cls := "LastLoaf$Turns", name := "<init>", desc := "()V" } : MethodName) prog_11_method_1_code (1 : Nat) (Option.none : Option ClassFile.FieldType) ∈ TB := tb_in (lwt_2 (List.mem_of_getElem? (i := 92) (by decide +kernel))) rfl
theorem w_2_91 : Cond.instanceMethod ({ cls := "LastLoaf$Turns", name := "<init>", desc := "()V" } : MethodName) ∈ TB := tb_in (lwt_2 (List.mem_of_getElem? (i := 91) (by decide +kernel))) rfl
theorem dX11_init_153 : decode cX11_init 153 = .ok (.putfield 77, 3) := by decide +kernel
theorem dX11_init_156 : decode cX11_init 156 = .ok (.aload_n 0, 1) := by decide +kernel
theorem dX11_init_157 : decode cX11_init 157 = .ok (.new 81, 3) := by decide +kernel
theorem w_2_130 : Cond.classLink "LastLoaf" (81 : Nat) "LastLoaf$SecretBallots" ∈ TB := tb_in (lwt_2 (List.mem_of_getElem? (i := 130) (by decide +kernel))) rfl
theorem w_2_131 : Cond.instantiable "LastLoaf$SecretBallots" (9 : Nat) ∈ TB := tb_in (lwt_2 (List.mem_of_getElem? (i := 131) (by decide +kernel))) rfl
theorem dX11_init_160 : decode cX11_init 160 = .ok (.dup, 1) := by decide +kernel
theorem dX11_init_161 : decode cX11_init 161 = .ok (.invokespecial 83, 3) := by decide +kernel
theorem w_2_134 : Cond.code ({ cls := "LastLoaf$SecretBallots", name := "<init>", desc := "()V" } : MethodName) prog_9_method_1_code (1 : Nat) (Option.none : Option ClassFile.FieldType) ∈ TB := tb_in (lwt_2 (List.mem_of_getElem? (i := 134) (by decide +kernel))) rfl
theorem w_2_133 : Cond.instanceMethod ({ cls := "LastLoaf$SecretBallots", name := "<init>", desc := "()V" } : MethodName) ∈ TB := tb_in (lwt_2 (List.mem_of_getElem? (i := 133) (by decide +kernel))) rfl
theorem dX11_init_164 : decode cX11_init 164 = .ok (.putfield 84, 3) := by decide +kernel
theorem dX11_init_167 : decode cX11_init 167 = .ok (.aload_n 0, 1) := by decide +kernel
theorem dX11_init_168 : decode cX11_init 168 = .ok (.new 88, 3) := by decide +kernel
theorem w_2_165 : Cond.classLink "LastLoaf" (88 : Nat) "LastLoaf$Friends" ∈ TB := tb_in (lwt_2 (List.mem_of_getElem? (i := 165) (by decide +kernel))) rfl
theorem w_2_166 : Cond.instantiable "LastLoaf$Friends" (5 : Nat) ∈ TB := tb_in (lwt_2 (List.mem_of_getElem? (i := 166) (by decide +kernel))) rfl
theorem dX11_init_171 : decode cX11_init 171 = .ok (.dup, 1) := by decide +kernel
theorem dX11_init_172 : decode cX11_init 172 = .ok (.invokespecial 90, 3) := by decide +kernel
theorem w_2_169 : Cond.code ({ cls := "LastLoaf$Friends", name := "<init>", desc := "()V" } : MethodName) prog_3_method_1_code (1 : Nat) (Option.none : Option ClassFile.FieldType) ∈ TB := tb_in (lwt_2 (List.mem_of_getElem? (i := 169) (by decide +kernel))) rfl
theorem w_2_168 : Cond.instanceMethod ({ cls := "LastLoaf$Friends", name := "<init>", desc := "()V" } : MethodName) ∈ TB := tb_in (lwt_2 (List.mem_of_getElem? (i := 168) (by decide +kernel))) rfl
theorem dX11_init_175 : decode cX11_init 175 = .ok (.putfield 91, 3) := by decide +kernel
theorem dX11_init_178 : decode cX11_init 178 = .ok (.aload_n 0, 1) := by decide +kernel
theorem dX11_init_179 : decode cX11_init 179 = .ok (.iconst 0, 1) := by decide +kernel
theorem dX11_init_180 : decode cX11_init 180 = .ok (.putfield 95, 3) := by decide +kernel
theorem dX11_init_183 : decode cX11_init 183 = .ok (.aload_n 0, 1) := by decide +kernel
theorem dX11_init_184 : decode cX11_init 184 = .ok (.iconst (-1), 1) := by decide +kernel
theorem dX11_init_185 : decode cX11_init 185 = .ok (.putfield 99, 3) := by decide +kernel
theorem dX11_init_188 : decode cX11_init 188 = .ok (.return_, 1) := by decide +kernel
/-! LastLoaf.<init> -/
def ch11 (w : Wp) (b n : Nat) : List va_E := .inr (11, [.ref (b + (n + 1)), .ref (b + (n + 3)), .ref (b + (n + 13)), .ref (b + (n + 23)), .ref (b + (n + 27)), .ref (b + (n + 31)), .ref (b + (n + 33)), .ref (b + (n + 43)), .ref (b + (n + 47)), .ref (b + (n + 169)), .ref (b + (n + 176)), .ref (b + (n + 177)), .ref (b + (n + 184)), .ref (b + (n + 190)), .int 0, .int (-1)]) :: (((((((((((((([] ++ ch8 w b (n + 1)) ++ ch10 w b (n + 3)) ++ ch10 w b (n + 13)) ++ ch2 w b (n + 23)) ++ ch2 w b (n + 27)) ++ ch6 w b (n + 31) (b + (n + 1)) (b + (n + 13)) (b + (n + 27))) ++ ch10 w b (n + 33)) ++ ch2 w b (n + 43)) ++ ch4 w b (n + 47)) ++ ch5 w b (n + 169)) ++ ch0 w b (n + 176) (b + (n + 169)) (b + (n + 23))) ++ ch9 w b (n + 177)) ++ ch7 w b (n + 184)) ++ ch1 w b (n + 190))
abbrev rmI11 : Room := { frames := 4, cells := 193, slots := 8760, locals := 101 }
set_option maxHeartbeats 8000000 in
set_option maxRecDepth 100000 in
theorem k11_init {l : Launch} {w : Wp} {b n : Nat} {Q : List va_E} (hQ : Q.length = n) : yM l w yX11_init cX11_init 1 rmI11 [.ref (b + n)] b (Q ++ [.inr (11, [.null, .null, .null, .null, .null, .null, .null, .null, .null, .null, .null, .null, .null, .null, .int 0, .int 0])]) (Q ++ ch11 w b n) 193 8760 := yM_of rfl (Nat.le_of_ble_eq_true rfl) (fun Θ hl0 hw C hnm => by
  subst hw
  refine y_cs (cs' := Q ++ .inr (11, [.null, .null, .null, .null, .null, .null, .null, .null, .null, .null, .null, .null, .null, .null, .int 0, .int 0]) :: []) rfl ?_
  refine y_aload_n C 0 dX11_init_0 rfl rfl ?_
  refine y_objInit C w_1_35 w_1_36 w_1_37 dX11_init_1 ⟨(Nat.le_of_ble_eq_true rfl), (Nat.le_of_ble_eq_true rfl)⟩ ?_
  refine y_aload_n C 0 dX11_init_4 rfl rfl ?_
  refine y_new (n := n + 1) (fs := [.null, .int 0, .int 0, .int 0, .int 0]) C inT8 tyX8_ok w_1_38 w_1_39 w_1_2 rfl (by decide) (cq_len hQ rfl) rfl ⟨(Nat.le_of_ble_eq_true rfl), (Nat.le_of_ble_eq_true rfl)⟩ dX11_init_5 ?_
  refine y_dup C dX11_init_8 rfl ?_
  refine y_callIN (host := "LastLoaf") C (n + 1) [] 0 (k8_init (l := Θ.1.2.1) (w := Θ.2.2.2.2.2) (b := b) (n := n + 1) (Q := Q ++ .inr (11, [.null, .null, .null, .null, .null, .null, .null, .null, .null, .null, .null, .null, .null, .null, .int 0, .int 0]) :: []) (cq_len hQ rfl)) w_1_42 (List.mem_of_getElem? (i := 0) rfl) w_1_41 w_1_2 rfl ⟨rfl, rfl, (Nat.le_of_ble_eq_true rfl), (Nat.le_of_ble_eq_true rfl)⟩ (by decide +kernel) rfl rfl (Nat.le_of_ble_eq_true rfl) ⟨(Nat.le_of_ble_eq_true rfl), (Nat.le_of_ble_eq_true rfl)⟩ dX11_init_9 ?_
  refine y_cs (cs' := Q ++ .inr (11, [.null, .null, .null, .null, .null, .null, .null, .null, .null, .null, .null, .null, .null, .null, .int 0, .int 0]) :: ([] ++ ch8 Θ.2.2.2.2.2 b (n + 1))) cq_app ?_
  refine y_put (cs' := Q ++ .inr (11, [.ref (b + (n + 1)), .null, .null, .null, .null, .null, .null, .null, .null, .null, .null, .null, .null, .null, .int 0, .int 0]) :: ([] ++ ch8 Θ.2.2.2.2.2 b (n + 1))) C hnm inT11 tyX11_ok nmX11 n (cq_get0 hQ) rfl 0 (by decide) w_2_187 rfl rfl rfl (by decide) (cq_put hQ rfl) dX11_init_12 ?_
  refine y_aload_n C 0 dX11_init_15 rfl rfl ?_
  refine y_new (n := n + 3) (fs := [.null, .null, .null, .null, .null, .null, .null, .null, .int 0, .int 0, .int 0, .int 0, .int 0, .int 0, .int 0, .int 0, .int 0]) C inT10 tyX10_ok w_1_65 w_1_66 w_1_3 rfl (by decide) (cq_len hQ rfl) rfl ⟨(Nat.le_of_ble_eq_true rfl), (Nat.le_of_ble_eq_true rfl)⟩ dX11_init_16 ?_
  refine y_dup C dX11_init_19 rfl ?_
  refine y_callI C (n + 3) [] 0 (k10_init (l := Θ.1.2.1) (w := Θ.2.2.2.2.2) (b := b) (n := n + 3) (Q := Q ++ .inr (11, [.ref (b + (n + 1)), .null, .null, .null, .null, .null, .null, .null, .null, .null, .null, .null, .null, .null, .int 0, .int 0]) :: ([] ++ ch8 Θ.2.2.2.2.2 b (n + 1))) (cq_len hQ rfl)) w_1_69 w_1_67 w_1_68 w_1_3 rfl ⟨rfl, rfl, (Nat.le_of_ble_eq_true rfl), (Nat.le_of_ble_eq_true rfl)⟩ (by decide +kernel) rfl rfl (Nat.le_of_ble_eq_true rfl) ⟨(Nat.le_of_ble_eq_true rfl), (Nat.le_of_ble_eq_true rfl)⟩ dX11_init_20 ?_
  refine y_cs (cs' := Q ++ .inr (11, [.ref (b + (n + 1)), .null, .null, .null, .null, .null, .null, .null, .null, .null, .null, .null, .null, .null, .int 0, .int 0]) :: (([] ++ ch8 Θ.2.2.2.2.2 b (n + 1)) ++ ch10 Θ.2.2.2.2.2 b (n + 3))) cq_app ?_
  refine y_put (cs' := Q ++ .inr (11, [.ref (b + (n + 1)), .ref (b + (n + 3)), .null, .null, .null, .null, .null, .null, .null, .null, .null, .null, .null, .null, .int 0, .int 0]) :: (([] ++ ch8 Θ.2.2.2.2.2 b (n + 1)) ++ ch10 Θ.2.2.2.2.2 b (n + 3))) C hnm inT11 tyX11_ok nmX11 n (cq_get0 hQ) rfl 1 (by decide) w_2_188 rfl rfl rfl (by decide) (cq_put hQ rfl) dX11_init_23 ?_
  refine y_aload_n C 0 dX11_init_26 rfl rfl ?_
  refine y_new (n := n + 13) (fs := [.null, .null, .null, .null, .null, .null, .null, .null, .int 0, .int 0, .int 0, .int 0, .int 0, .int 0, .int 0, .int 0, .int 0]) C inT10 tyX10_ok w_1_65 w_1_66 w_1_3 rfl (by decide) (cq_len hQ rfl) rfl ⟨(Nat.le_of_ble_eq_true rfl), (Nat.le_of_ble_eq_true rfl)⟩ dX11_init_27 ?_
  refine y_dup C dX11_init_30 rfl ?_
  refine y_callI C (n + 13) [] 0 (k10_init (l := Θ.1.2.1) (w := Θ.2.2.2.2.2) (b := b) (n := n + 13) (Q := Q ++ .inr (11, [.ref (b + (n + 1)), .ref (b + (n + 3)), .null, .null, .null, .null, .null, .null, .null, .null, .null, .null, .null, .null, .int 0, .int 0]) :: (([] ++ ch8 Θ.2.2.2.2.2 b (n + 1)) ++ ch10 Θ.2.2.2.2.2 b (n + 3))) (cq_len hQ rfl)) w_1_69 w_1_67 w_1_68 w_1_3 rfl ⟨rfl, rfl, (Nat.le_of_ble_eq_true rfl), (Nat.le_of_ble_eq_true rfl)⟩ (by decide +kernel) rfl rfl (Nat.le_of_ble_eq_true rfl) ⟨(Nat.le_of_ble_eq_true rfl), (Nat.le_of_ble_eq_true rfl)⟩ dX11_init_31 ?_
  refine y_cs (cs' := Q ++ .inr (11, [.ref (b + (n + 1)), .ref (b + (n + 3)), .null, .null, .null, .null, .null, .null, .null, .null, .null, .null, .null, .null, .int 0, .int 0]) :: ((([] ++ ch8 Θ.2.2.2.2.2 b (n + 1)) ++ ch10 Θ.2.2.2.2.2 b (n + 3)) ++ ch10 Θ.2.2.2.2.2 b (n + 13))) cq_app ?_
  refine y_put (cs' := Q ++ .inr (11, [.ref (b + (n + 1)), .ref (b + (n + 3)), .ref (b + (n + 13)), .null, .null, .null, .null, .null, .null, .null, .null, .null, .null, .null, .int 0, .int 0]) :: ((([] ++ ch8 Θ.2.2.2.2.2 b (n + 1)) ++ ch10 Θ.2.2.2.2.2 b (n + 3)) ++ ch10 Θ.2.2.2.2.2 b (n + 13))) C hnm inT11 tyX11_ok nmX11 n (cq_get0 hQ) rfl 2 (by decide) w_2_189 rfl rfl rfl (by decide) (cq_put hQ rfl) dX11_init_34 ?_
  refine y_aload_n C 0 dX11_init_37 rfl rfl ?_
  refine y_new (n := n + 23) (fs := [.null, .null, .null, .int 0, .int 0, .int 0, .int 0]) C inT2 tyX2_ok w_1_199 w_1_200 w_1_6 rfl (by decide) (cq_len hQ rfl) rfl ⟨(Nat.le_of_ble_eq_true rfl), (Nat.le_of_ble_eq_true rfl)⟩ dX11_init_38 ?_
  refine y_dup C dX11_init_41 rfl ?_
  refine y_callIN (host := "LastLoaf") C (n + 23) [] 0 (k2_init (l := Θ.1.2.1) (w := Θ.2.2.2.2.2) (b := b) (n := n + 23) (Q := Q ++ .inr (11, [.ref (b + (n + 1)), .ref (b + (n + 3)), .ref (b + (n + 13)), .null, .null, .null, .null, .null, .null, .null, .null, .null, .null, .null, .int 0, .int 0]) :: ((([] ++ ch8 Θ.2.2.2.2.2 b (n + 1)) ++ ch10 Θ.2.2.2.2.2 b (n + 3)) ++ ch10 Θ.2.2.2.2.2 b (n + 13))) (cq_len hQ rfl)) w_1_203 (List.mem_of_getElem? (i := 2) rfl) w_1_202 w_1_6 rfl ⟨rfl, rfl, (Nat.le_of_ble_eq_true rfl), (Nat.le_of_ble_eq_true rfl)⟩ (by decide +kernel) rfl rfl (Nat.le_of_ble_eq_true rfl) ⟨(Nat.le_of_ble_eq_true rfl), (Nat.le_of_ble_eq_true rfl)⟩ dX11_init_42 ?_
  refine y_cs (cs' := Q ++ .inr (11, [.ref (b + (n + 1)), .ref (b + (n + 3)), .ref (b + (n + 13)), .null, .null, .null, .null, .null, .null, .null, .null, .null, .null, .null, .int 0, .int 0]) :: (((([] ++ ch8 Θ.2.2.2.2.2 b (n + 1)) ++ ch10 Θ.2.2.2.2.2 b (n + 3)) ++ ch10 Θ.2.2.2.2.2 b (n + 13)) ++ ch2 Θ.2.2.2.2.2 b (n + 23))) cq_app ?_
  refine y_put (cs' := Q ++ .inr (11, [.ref (b + (n + 1)), .ref (b + (n + 3)), .ref (b + (n + 13)), .ref (b + (n + 23)), .null, .null, .null, .null, .null, .null, .null, .null, .null, .null, .int 0, .int 0]) :: (((([] ++ ch8 Θ.2.2.2.2.2 b (n + 1)) ++ ch10 Θ.2.2.2.2.2 b (n + 3)) ++ ch10 Θ.2.2.2.2.2 b (n + 13)) ++ ch2 Θ.2.2.2.2.2 b (n + 23))) C hnm inT11 tyX11_ok nmX11 n (cq_get0 hQ) rfl 3 (by decide) w_2_190 rfl rfl rfl (by decide) (cq_put hQ rfl) dX11_init_45 ?_
  refine y_aload_n C 0 dX11_init_48 rfl rfl ?_
  refine y_new (n := n + 27) (fs := [.null, .null, .null, .int 0, .int 0, .int 0, .int 0]) C inT2 tyX2_ok w_1_199 w_1_200 w_1_6 rfl (by decide) (cq_len hQ rfl) rfl ⟨(Nat.le_of_ble_eq_true rfl), (Nat.le_of_ble_eq_true rfl)⟩ dX11_init_49 ?_
  refine y_dup C dX11_init_52 rfl ?_
  refine y_callIN (host := "LastLoaf") C (n + 27) [] 0 (k2_init (l := Θ.1.2.1) (w := Θ.2.2.2.2.2) (b := b) (n := n + 27) (Q := Q ++ .inr (11, [.ref (b + (n + 1)), .ref (b + (n + 3)), .ref (b + (n + 13)), .ref (b + (n + 23)), .null, .null, .null, .null, .null, .null, .null, .null, .null, .null, .int 0, .int 0]) :: (((([] ++ ch8 Θ.2.2.2.2.2 b (n + 1)) ++ ch10 Θ.2.2.2.2.2 b (n + 3)) ++ ch10 Θ.2.2.2.2.2 b (n + 13)) ++ ch2 Θ.2.2.2.2.2 b (n + 23))) (cq_len hQ rfl)) w_1_203 (List.mem_of_getElem? (i := 2) rfl) w_1_202 w_1_6 rfl ⟨rfl, rfl, (Nat.le_of_ble_eq_true rfl), (Nat.le_of_ble_eq_true rfl)⟩ (by decide +kernel) rfl rfl (Nat.le_of_ble_eq_true rfl) ⟨(Nat.le_of_ble_eq_true rfl), (Nat.le_of_ble_eq_true rfl)⟩ dX11_init_53 ?_
  refine y_cs (cs' := Q ++ .inr (11, [.ref (b + (n + 1)), .ref (b + (n + 3)), .ref (b + (n + 13)), .ref (b + (n + 23)), .null, .null, .null, .null, .null, .null, .null, .null, .null, .null, .int 0, .int 0]) :: ((((([] ++ ch8 Θ.2.2.2.2.2 b (n + 1)) ++ ch10 Θ.2.2.2.2.2 b (n + 3)) ++ ch10 Θ.2.2.2.2.2 b (n + 13)) ++ ch2 Θ.2.2.2.2.2 b (n + 23)) ++ ch2 Θ.2.2.2.2.2 b (n + 27))) cq_app ?_
  refine y_put (cs' := Q ++ .inr (11, [.ref (b + (n + 1)), .ref (b + (n + 3)), .ref (b + (n + 13)), .ref (b + (n + 23)), .ref (b + (n + 27)), .null, .null, .null, .null, .null, .null, .null, .null, .null, .int 0, .int 0]) :: ((((([] ++ ch8 Θ.2.2.2.2.2 b (n + 1)) ++ ch10 Θ.2.2.2.2.2 b (n + 3)) ++ ch10 Θ.2.2.2.2.2 b (n + 13)) ++ ch2 Θ.2.2.2.2.2 b (n + 23)) ++ ch2 Θ.2.2.2.2.2 b (n + 27))) C hnm inT11 tyX11_ok nmX11 n (cq_get0 hQ) rfl 4 (by decide) w_2_191 rfl rfl rfl (by decide) (cq_put hQ rfl) dX11_init_56 ?_
  refine y_aload_n C 0 dX11_init_59 rfl rfl ?_
  refine y_new (n := n + 31) (fs := [.null, .null, .null, .null, .int 0, .int 0]) C inT6 tyX6_ok w_1_230 w_1_231 w_1_7 rfl (by decide) (cq_len hQ rfl) rfl ⟨(Nat.le_of_ble_eq_true rfl), (Nat.le_of_ble_eq_true rfl)⟩ dX11_init_60 ?_
  refine y_dup C dX11_init_63 rfl ?_
  refine y_aload_n C 0 dX11_init_64 rfl rfl ?_
  refine y_get (v := .ref (b + (n + 1))) C inT11 n (cq_get0 hQ) rfl 0 (by decide) w_2_187 rfl dX11_init_65 ?_
  refine y_aload_n C 0 dX11_init_68 rfl rfl ?_
  refine y_get (v := .ref (b + (n + 13))) C inT11 n (cq_get0 hQ) rfl 2 (by decide) w_2_189 rfl dX11_init_69 ?_
  refine y_aload_n C 0 dX11_init_72 rfl rfl ?_
  refine y_get (v := .ref (b + (n + 27))) C inT11 n (cq_get0 hQ) rfl 4 (by decide) w_2_191 rfl dX11_init_73 ?_
  refine y_callI C (n + 31) [.ref (b + (n + 1)), .ref (b + (n + 13)), .ref (b + (n + 27))] 3 (k6_init (l := Θ.1.2.1) (w := Θ.2.2.2.2.2) (b := b) (n := n + 31) (Q := Q ++ .inr (11, [.ref (b + (n + 1)), .ref (b + (n + 3)), .ref (b + (n + 13)), .ref (b + (n + 23)), .ref (b + (n + 27)), .null, .null, .null, .null, .null, .null, .null, .null, .null, .int 0, .int 0]) :: ((((([] ++ ch8 Θ.2.2.2.2.2 b (n + 1)) ++ ch10 Θ.2.2.2.2.2 b (n + 3)) ++ ch10 Θ.2.2.2.2.2 b (n + 13)) ++ ch2 Θ.2.2.2.2.2 b (n + 23)) ++ ch2 Θ.2.2.2.2.2 b (n + 27))) (p0 := b + (n + 1)) (p1 := b + (n + 13)) (p2 := b + (n + 27)) (cq_len hQ rfl)) w_1_234 w_1_232 w_1_233 w_1_7 rfl ⟨rfl, rfl, (Nat.le_of_ble_eq_true rfl), (Nat.le_of_ble_eq_true rfl)⟩ (by decide +kernel) rfl rfl (Nat.le_of_ble_eq_true rfl) ⟨(Nat.le_of_ble_eq_true rfl), (Nat.le_of_ble_eq_true rfl)⟩ dX11_init_76 ?_
  refine y_cs (cs' := Q ++ .inr (11, [.ref (b + (n + 1)), .ref (b + (n + 3)), .ref (b + (n + 13)), .ref (b + (n + 23)), .ref (b + (n + 27)), .null, .null, .null, .null, .null, .null, .null, .null, .null, .int 0, .int 0]) :: (((((([] ++ ch8 Θ.2.2.2.2.2 b (n + 1)) ++ ch10 Θ.2.2.2.2.2 b (n + 3)) ++ ch10 Θ.2.2.2.2.2 b (n + 13)) ++ ch2 Θ.2.2.2.2.2 b (n + 23)) ++ ch2 Θ.2.2.2.2.2 b (n + 27)) ++ ch6 Θ.2.2.2.2.2 b (n + 31) (b + (n + 1)) (b + (n + 13)) (b + (n + 27)))) cq_app ?_
  refine y_put (cs' := Q ++ .inr (11, [.ref (b + (n + 1)), .ref (b + (n + 3)), .ref (b + (n + 13)), .ref (b + (n + 23)), .ref (b + (n + 27)), .ref (b + (n + 31)), .null, .null, .null, .null, .null, .null, .null, .null, .int 0, .int 0]) :: (((((([] ++ ch8 Θ.2.2.2.2.2 b (n + 1)) ++ ch10 Θ.2.2.2.2.2 b (n + 3)) ++ ch10 Θ.2.2.2.2.2 b (n + 13)) ++ ch2 Θ.2.2.2.2.2 b (n + 23)) ++ ch2 Θ.2.2.2.2.2 b (n + 27)) ++ ch6 Θ.2.2.2.2.2 b (n + 31) (b + (n + 1)) (b + (n + 13)) (b + (n + 27)))) C hnm inT11 tyX11_ok nmX11 n (cq_get0 hQ) rfl 5 (by decide) w_2_192 rfl rfl rfl (by decide) (cq_put hQ rfl) dX11_init_79 ?_
  refine y_aload_n C 0 dX11_init_82 rfl rfl ?_
  refine y_new (n := n + 33) (fs := [.null, .null, .null, .null, .null, .null, .null, .null, .int 0, .int 0, .int 0, .int 0, .int 0, .int 0, .int 0, .int 0, .int 0]) C inT10 tyX10_ok w_1_65 w_1_66 w_1_3 rfl (by decide) (cq_len hQ rfl) rfl ⟨(Nat.le_of_ble_eq_true rfl), (Nat.le_of_ble_eq_true rfl)⟩ dX11_init_83 ?_
  refine y_dup C dX11_init_86 rfl ?_
  refine y_callI C (n + 33) [] 0 (k10_init (l := Θ.1.2.1) (w := Θ.2.2.2.2.2) (b := b) (n := n + 33) (Q := Q ++ .inr (11, [.ref (b + (n + 1)), .ref (b + (n + 3)), .ref (b + (n + 13)), .ref (b + (n + 23)), .ref (b + (n + 27)), .ref (b + (n + 31)), .null, .null, .null, .null, .null, .null, .null, .null, .int 0, .int 0]) :: (((((([] ++ ch8 Θ.2.2.2.2.2 b (n + 1)) ++ ch10 Θ.2.2.2.2.2 b (n + 3)) ++ ch10 Θ.2.2.2.2.2 b (n + 13)) ++ ch2 Θ.2.2.2.2.2 b (n + 23)) ++ ch2 Θ.2.2.2.2.2 b (n + 27)) ++ ch6 Θ.2.2.2.2.2 b (n + 31) (b + (n + 1)) (b + (n + 13)) (b + (n + 27)))) (cq_len hQ rfl)) w_1_69 w_1_67 w_1_68 w_1_3 rfl ⟨rfl, rfl, (Nat.le_of_ble_eq_true rfl), (Nat.le_of_ble_eq_true rfl)⟩ (by decide +kernel) rfl rfl (Nat.le_of_ble_eq_true rfl) ⟨(Nat.le_of_ble_eq_true rfl), (Nat.le_of_ble_eq_true rfl)⟩ dX11_init_87 ?_
  refine y_cs (cs' := Q ++ .inr (11, [.ref (b + (n + 1)), .ref (b + (n + 3)), .ref (b + (n + 13)), .ref (b + (n + 23)), .ref (b + (n + 27)), .ref (b + (n + 31)), .null, .null, .null, .null, .null, .null, .null, .null, .int 0, .int 0]) :: ((((((([] ++ ch8 Θ.2.2.2.2.2 b (n + 1)) ++ ch10 Θ.2.2.2.2.2 b (n + 3)) ++ ch10 Θ.2.2.2.2.2 b (n + 13)) ++ ch2 Θ.2.2.2.2.2 b (n + 23)) ++ ch2 Θ.2.2.2.2.2 b (n + 27)) ++ ch6 Θ.2.2.2.2.2 b (n + 31) (b + (n + 1)) (b + (n + 13)) (b + (n + 27))) ++ ch10 Θ.2.2.2.2.2 b (n + 33))) cq_app ?_
  refine y_put (cs' := Q ++ .inr (11, [.ref (b + (n + 1)), .ref (b + (n + 3)), .ref (b + (n + 13)), .ref (b + (n + 23)), .ref (b + (n + 27)), .ref (b + (n + 31)), .ref (b + (n + 33)), .null, .null, .null, .null, .null, .null, .null, .int 0, .int 0]) :: ((((((([] ++ ch8 Θ.2.2.2.2.2 b (n + 1)) ++ ch10 Θ.2.2.2.2.2 b (n + 3)) ++ ch10 Θ.2.2.2.2.2 b (n + 13)) ++ ch2 Θ.2.2.2.2.2 b (n + 23)) ++ ch2 Θ.2.2.2.2.2 b (n + 27)) ++ ch6 Θ.2.2.2.2.2 b (n + 31) (b + (n + 1)) (b + (n + 13)) (b + (n + 27))) ++ ch10 Θ.2.2.2.2.2 b (n + 33))) C hnm inT11 tyX11_ok nmX11 n (cq_get0 hQ) rfl 6 (by decide) w_2_193 rfl rfl rfl (by decide) (cq_put hQ rfl) dX11_init_90 ?_
  refine y_aload_n C 0 dX11_init_93 rfl rfl ?_
  refine y_new (n := n + 43) (fs := [.null, .null, .null, .int 0, .int 0, .int 0, .int 0]) C inT2 tyX2_ok w_1_199 w_1_200 w_1_6 rfl (by decide) (cq_len hQ rfl) rfl ⟨(Nat.le_of_ble_eq_true rfl), (Nat.le_of_ble_eq_true rfl)⟩ dX11_init_94 ?_
  refine y_dup C dX11_init_97 rfl ?_
  refine y_callIN (host := "LastLoaf") C (n + 43) [] 0 (k2_init (l := Θ.1.2.1) (w := Θ.2.2.2.2.2) (b := b) (n := n + 43) (Q := Q ++ .inr (11, [.ref (b + (n + 1)), .ref (b + (n + 3)), .ref (b + (n + 13)), .ref (b + (n + 23)), .ref (b + (n + 27)), .ref (b + (n + 31)), .ref (b + (n + 33)), .null, .null, .null, .null, .null, .null, .null, .int 0, .int 0]) :: ((((((([] ++ ch8 Θ.2.2.2.2.2 b (n + 1)) ++ ch10 Θ.2.2.2.2.2 b (n + 3)) ++ ch10 Θ.2.2.2.2.2 b (n + 13)) ++ ch2 Θ.2.2.2.2.2 b (n + 23)) ++ ch2 Θ.2.2.2.2.2 b (n + 27)) ++ ch6 Θ.2.2.2.2.2 b (n + 31) (b + (n + 1)) (b + (n + 13)) (b + (n + 27))) ++ ch10 Θ.2.2.2.2.2 b (n + 33))) (cq_len hQ rfl)) w_1_203 (List.mem_of_getElem? (i := 2) rfl) w_1_202 w_1_6 rfl ⟨rfl, rfl, (Nat.le_of_ble_eq_true rfl), (Nat.le_of_ble_eq_true rfl)⟩ (by decide +kernel) rfl rfl (Nat.le_of_ble_eq_true rfl) ⟨(Nat.le_of_ble_eq_true rfl), (Nat.le_of_ble_eq_true rfl)⟩ dX11_init_98 ?_
  refine y_cs (cs' := Q ++ .inr (11, [.ref (b + (n + 1)), .ref (b + (n + 3)), .ref (b + (n + 13)), .ref (b + (n + 23)), .ref (b + (n + 27)), .ref (b + (n + 31)), .ref (b + (n + 33)), .null, .null, .null, .null, .null, .null, .null, .int 0, .int 0]) :: (((((((([] ++ ch8 Θ.2.2.2.2.2 b (n + 1)) ++ ch10 Θ.2.2.2.2.2 b (n + 3)) ++ ch10 Θ.2.2.2.2.2 b (n + 13)) ++ ch2 Θ.2.2.2.2.2 b (n + 23)) ++ ch2 Θ.2.2.2.2.2 b (n + 27)) ++ ch6 Θ.2.2.2.2.2 b (n + 31) (b + (n + 1)) (b + (n + 13)) (b + (n + 27))) ++ ch10 Θ.2.2.2.2.2 b (n + 33)) ++ ch2 Θ.2.2.2.2.2 b (n + 43))) cq_app ?_
  refine y_put (cs' := Q ++ .inr (11, [.ref (b + (n + 1)), .ref (b + (n + 3)), .ref (b + (n + 13)), .ref (b + (n + 23)), .ref (b + (n + 27)), .ref (b + (n + 31)), .ref (b + (n + 33)), .ref (b + (n + 43)), .null, .null, .null, .null, .null, .null, .int 0, .int 0]) :: (((((((([] ++ ch8 Θ.2.2.2.2.2 b (n + 1)) ++ ch10 Θ.2.2.2.2.2 b (n + 3)) ++ ch10 Θ.2.2.2.2.2 b (n + 13)) ++ ch2 Θ.2.2.2.2.2 b (n + 23)) ++ ch2 Θ.2.2.2.2.2 b (n + 27)) ++ ch6 Θ.2.2.2.2.2 b (n + 31) (b + (n + 1)) (b + (n + 13)) (b + (n + 27))) ++ ch10 Θ.2.2.2.2.2 b (n + 33)) ++ ch2 Θ.2.2.2.2.2 b (n + 43))) C hnm inT11 tyX11_ok nmX11 n (cq_get0 hQ) rfl 7 (by decide) w_2_194 rfl rfl rfl (by decide) (cq_put hQ rfl) dX11_init_101 ?_
  refine y_aload_n C 0 dX11_init_104 rfl rfl ?_
  refine y_new (n := n + 47) (fs := [.null, .int 0, .int 0]) C inT4 tyX4_ok w_2_15 w_2_16 w_1_8 rfl (by decide) (cq_len hQ rfl) rfl ⟨(Nat.le_of_ble_eq_true rfl), (Nat.le_of_ble_eq_true rfl)⟩ dX11_init_105 ?_
  refine y_dup C dX11_init_108 rfl ?_
  refine y_callI C (n + 47) [] 0 (k4_init (l := Θ.1.2.1) (w := Θ.2.2.2.2.2) (b := b) (n := n + 47) (Q := Q ++ .inr (11, [.ref (b + (n + 1)), .ref (b + (n + 3)), .ref (b + (n + 13)), .ref (b + (n + 23)), .ref (b + (n + 27)), .ref (b + (n + 31)), .ref (b + (n + 33)), .ref (b + (n + 43)), .null, .null, .null, .null, .null, .null, .int 0, .int 0]) :: (((((((([] ++ ch8 Θ.2.2.2.2.2 b (n + 1)) ++ ch10 Θ.2.2.2.2.2 b (n + 3)) ++ ch10 Θ.2.2.2.2.2 b (n + 13)) ++ ch2 Θ.2.2.2.2.2 b (n + 23)) ++ ch2 Θ.2.2.2.2.2 b (n + 27)) ++ ch6 Θ.2.2.2.2.2 b (n + 31) (b + (n + 1)) (b + (n + 13)) (b + (n + 27))) ++ ch10 Θ.2.2.2.2.2 b (n + 33)) ++ ch2 Θ.2.2.2.2.2 b (n + 43))) (cq_len hQ rfl)) w_2_19 w_2_17 w_2_18 w_1_8 rfl ⟨rfl, rfl, (Nat.le_of_ble_eq_true rfl), (Nat.le_of_ble_eq_true rfl)⟩ (by decide +kernel) rfl rfl (Nat.le_of_ble_eq_true rfl) ⟨(Nat.le_of_ble_eq_true rfl), (Nat.le_of_ble_eq_true rfl)⟩ dX11_init_109 ?_
  refine y_cs (cs' := Q ++ .inr (11, [.ref (b + (n + 1)), .ref (b + (n + 3)), .ref (b + (n + 13)), .ref (b + (n + 23)), .ref (b + (n + 27)), .ref (b + (n + 31)), .ref (b + (n + 33)), .ref (b + (n + 43)), .null, .null, .null, .null, .null, .null, .int 0, .int 0]) :: ((((((((([] ++ ch8 Θ.2.2.2.2.2 b (n + 1)) ++ ch10 Θ.2.2.2.2.2 b (n + 3)) ++ ch10 Θ.2.2.2.2.2 b (n + 13)) ++ ch2 Θ.2.2.2.2.2 b (n + 23)) ++ ch2 Θ.2.2.2.2.2 b (n + 27)) ++ ch6 Θ.2.2.2.2.2 b (n + 31) (b + (n + 1)) (b + (n + 13)) (b + (n + 27))) ++ ch10 Θ.2.2.2.2.2 b (n + 33)) ++ ch2 Θ.2.2.2.2.2 b (n + 43)) ++ ch4 Θ.2.2.2.2.2 b (n + 47))) cq_app ?_
  refine y_put (cs' := Q ++ .inr (11, [.ref (b + (n + 1)), .ref (b + (n + 3)), .ref (b + (n + 13)), .ref (b + (n + 23)), .ref (b + (n + 27)), .ref (b + (n + 31)), .ref (b + (n + 33)), .ref (b + (n + 43)), .ref (b + (n + 47)), .null, .null, .null, .null, .null, .int 0, .int 0]) :: ((((((((([] ++ ch8 Θ.2.2.2.2.2 b (n + 1)) ++ ch10 Θ.2.2.2.2.2 b (n + 3)) ++ ch10 Θ.2.2.2.2.2 b (n + 13)) ++ ch2 Θ.2.2.2.2.2 b (n + 23)) ++ ch2 Θ.2.2.2.2.2 b (n + 27)) ++ ch6 Θ.2.2.2.2.2 b (n + 31) (b + (n + 1)) (b + (n + 13)) (b + (n + 27))) ++ ch10 Θ.2.2.2.2.2 b (n + 33)) ++ ch2 Θ.2.2.2.2.2 b (n + 43)) ++ ch4 Θ.2.2.2.2.2 b (n + 47))) C hnm inT11 tyX11_ok nmX11 n (cq_get0 hQ) rfl 8 (by decide) w_2_195 rfl rfl rfl (by decide) (cq_put hQ rfl) dX11_init_112 ?_
  refine y_aload_n C 0 dX11_init_115 rfl rfl ?_
  refine y_new (n := n + 169) (fs := [.null, .null, .null, .null, .null, .null, .int 0, .int 0, .int 0, .int 0]) C inT5 tyX5_ok w_2_35 w_2_36 w_1_9 rfl (by decide) (cq_len hQ rfl) rfl ⟨(Nat.le_of_ble_eq_true rfl), (Nat.le_of_ble_eq_true rfl)⟩ dX11_init_116 ?_
  refine y_dup C dX11_init_119 rfl ?_
  refine y_callIN (host := "LastLoaf") C (n + 169) [] 0 (k5_init (l := Θ.1.2.1) (w := Θ.2.2.2.2.2) (b := b) (n := n + 169) (Q := Q ++ .inr (11, [.ref (b + (n + 1)), .ref (b + (n + 3)), .ref (b + (n + 13)), .ref (b + (n + 23)), .ref (b + (n + 27)), .ref (b + (n + 31)), .ref (b + (n + 33)), .ref (b + (n + 43)), .ref (b + (n + 47)), .null, .null, .null, .null, .null, .int 0, .int 0]) :: ((((((((([] ++ ch8 Θ.2.2.2.2.2 b (n + 1)) ++ ch10 Θ.2.2.2.2.2 b (n + 3)) ++ ch10 Θ.2.2.2.2.2 b (n + 13)) ++ ch2 Θ.2.2.2.2.2 b (n + 23)) ++ ch2 Θ.2.2.2.2.2 b (n + 27)) ++ ch6 Θ.2.2.2.2.2 b (n + 31) (b + (n + 1)) (b + (n + 13)) (b + (n + 27))) ++ ch10 Θ.2.2.2.2.2 b (n + 33)) ++ ch2 Θ.2.2.2.2.2 b (n + 43)) ++ ch4 Θ.2.2.2.2.2 b (n + 47))) (cq_len hQ rfl)) w_2_39 (List.mem_of_getElem? (i := 3) rfl) w_2_38 w_1_9 rfl ⟨rfl, rfl, (Nat.le_of_ble_eq_true rfl), (Nat.le_of_ble_eq_true rfl)⟩ (by decide +kernel) rfl rfl (Nat.le_of_ble_eq_true rfl) ⟨(Nat.le_of_ble_eq_true rfl), (Nat.le_of_ble_eq_true rfl)⟩ dX11_init_120 ?_
  refine y_cs (cs' := Q ++ .inr (11, [.ref (b + (n + 1)), .ref (b + (n + 3)), .ref (b + (n + 13)), .ref (b + (n + 23)), .ref (b + (n + 27)), .ref (b + (n + 31)), .ref (b + (n + 33)), .ref (b + (n + 43)), .ref (b + (n + 47)), .null, .null, .null, .null, .null, .int 0, .int 0]) :: (((((((((([] ++ ch8 Θ.2.2.2.2.2 b (n + 1)) ++ ch10 Θ.2.2.2.2.2 b (n + 3)) ++ ch10 Θ.2.2.2.2.2 b (n + 13)) ++ ch2 Θ.2.2.2.2.2 b (n + 23)) ++ ch2 Θ.2.2.2.2.2 b (n + 27)) ++ ch6 Θ.2.2.2.2.2 b (n + 31) (b + (n + 1)) (b + (n + 13)) (b + (n + 27))) ++ ch10 Θ.2.2.2.2.2 b (n + 33)) ++ ch2 Θ.2.2.2.2.2 b (n + 43)) ++ ch4 Θ.2.2.2.2.2 b (n + 47)) ++ ch5 Θ.2.2.2.2.2 b (n + 169))) cq_app ?_
  refine y_put (cs' := Q ++ .inr (11, [.ref (b + (n + 1)), .ref (b + (n + 3)), .ref (b + (n + 13)), .ref (b + (n + 23)), .ref (b + (n + 27)), .ref (b + (n + 31)), .ref (b + (n + 33)), .ref (b + (n + 43)), .ref (b + (n + 47)), .ref (b + (n + 169)), .null, .null, .null, .null, .int 0, .int 0]) :: (((((((((([] ++ ch8 Θ.2.2.2.2.2 b (n + 1)) ++ ch10 Θ.2.2.2.2.2 b (n + 3)) ++ ch10 Θ.2.2.2.2.2 b (n + 13)) ++ ch2 Θ.2.2.2.2.2 b (n + 23)) ++ ch2 Θ.2.2.2.2.2 b (n + 27)) ++ ch6 Θ.2.2.2.2.2 b (n + 31) (b + (n + 1)) (b + (n + 13)) (b + (n + 27))) ++ ch10 Θ.2.2.2.2.2 b (n + 33)) ++ ch2 Θ.2.2.2.2.2 b (n + 43)) ++ ch4 Θ.2.2.2.2.2 b (n + 47)) ++ ch5 Θ.2.2.2.2.2 b (n + 169))) C hnm inT11 tyX11_ok nmX11 n (cq_get0 hQ) rfl 9 (by decide) w_2_196 rfl rfl rfl (by decide) (cq_put hQ rfl) dX11_init_123 ?_
  refine y_aload_n C 0 dX11_init_126 rfl rfl ?_
  refine y_new (n := n + 176) (fs := [.null, .null]) C inT0 tyX0_ok w_2_75 w_2_76 w_1_10 rfl (by decide) (cq_len hQ rfl) rfl ⟨(Nat.le_of_ble_eq_true rfl), (Nat.le_of_ble_eq_true rfl)⟩ dX11_init_127 ?_
  refine y_dup C dX11_init_130 rfl ?_
  refine y_aload_n C 0 dX11_init_131 rfl rfl ?_
  refine y_get (v := .ref (b + (n + 169))) C inT11 n (cq_get0 hQ) rfl 9 (by decide) w_2_196 rfl dX11_init_132 ?_
  refine y_aload_n C 0 dX11_init_135 rfl rfl ?_
  refine y_get (v := .ref (b + (n + 23))) C inT11 n (cq_get0 hQ) rfl 3 (by decide) w_2_190 rfl dX11_init_136 ?_
  refine y_callI C (n + 176) [.ref (b + (n + 169)), .ref (b + (n + 23))] 2 (k0_init (l := Θ.1.2.1) (w := Θ.2.2.2.2.2) (b := b) (n := n + 176) (Q := Q ++ .inr (11, [.ref (b + (n + 1)), .ref (b + (n + 3)), .ref (b + (n + 13)), .ref (b + (n + 23)), .ref (b + (n + 27)), .ref (b + (n + 31)), .ref (b + (n + 33)), .ref (b + (n + 43)), .ref (b + (n + 47)), .ref (b + (n + 169)), .null, .null, .null, .null, .int 0, .int 0]) :: (((((((((([] ++ ch8 Θ.2.2.2.2.2 b (n + 1)) ++ ch10 Θ.2.2.2.2.2 b (n + 3)) ++ ch10 Θ.2.2.2.2.2 b (n + 13)) ++ ch2 Θ.2.2.2.2.2 b (n + 23)) ++ ch2 Θ.2.2.2.2.2 b (n + 27)) ++ ch6 Θ.2.2.2.2.2 b (n + 31) (b + (n + 1)) (b + (n + 13)) (b + (n + 27))) ++ ch10 Θ.2.2.2.2.2 b (n + 33)) ++ ch2 Θ.2.2.2.2.2 b (n + 43)) ++ ch4 Θ.2.2.2.2.2 b (n + 47)) ++ ch5 Θ.2.2.2.2.2 b (n + 169))) (p0 := b + (n + 169)) (p1 := b + (n + 23)) (cq_len hQ rfl)) w_2_79 w_2_77 w_2_78 w_1_10 rfl ⟨rfl, rfl, (Nat.le_of_ble_eq_true rfl), (Nat.le_of_ble_eq_true rfl)⟩ (by decide +kernel) rfl rfl (Nat.le_of_ble_eq_true rfl) ⟨(Nat.le_of_ble_eq_true rfl), (Nat.le_of_ble_eq_true rfl)⟩ dX11_init_139 ?_
  refine y_cs (cs' := Q ++ .inr (11, [.ref (b + (n + 1)), .ref (b + (n + 3)), .ref (b + (n + 13)), .ref (b + (n + 23)), .ref (b + (n + 27)), .ref (b + (n + 31)), .ref (b + (n + 33)), .ref (b + (n + 43)), .ref (b + (n + 47)), .ref (b + (n + 169)), .null, .null, .null, .null, .int 0, .int 0]) :: ((((((((((([] ++ ch8 Θ.2.2.2.2.2 b (n + 1)) ++ ch10 Θ.2.2.2.2.2 b (n + 3)) ++ ch10 Θ.2.2.2.2.2 b (n + 13)) ++ ch2 Θ.2.2.2.2.2 b (n + 23)) ++ ch2 Θ.2.2.2.2.2 b (n + 27)) ++ ch6 Θ.2.2.2.2.2 b (n + 31) (b + (n + 1)) (b + (n + 13)) (b + (n + 27))) ++ ch10 Θ.2.2.2.2.2 b (n + 33)) ++ ch2 Θ.2.2.2.2.2 b (n + 43)) ++ ch4 Θ.2.2.2.2.2 b (n + 47)) ++ ch5 Θ.2.2.2.2.2 b (n + 169)) ++ ch0 Θ.2.2.2.2.2 b (n + 176) (b + (n + 169)) (b + (n + 23)))) cq_app ?_
  refine y_put (cs' := Q ++ .inr (11, [.ref (b + (n + 1)), .ref (b + (n + 3)), .ref (b + (n + 13)), .ref (b + (n + 23)), .ref (b + (n + 27)), .ref (b + (n + 31)), .ref (b + (n + 33)), .ref (b + (n + 43)), .ref (b + (n + 47)), .ref (b + (n + 169)), .ref (b + (n + 176)), .null, .null, .null, .int 0, .int 0]) :: ((((((((((([] ++ ch8 Θ.2.2.2.2.2 b (n + 1)) ++ ch10 Θ.2.2.2.2.2 b (n + 3)) ++ ch10 Θ.2.2.2.2.2 b (n + 13)) ++ ch2 Θ.2.2.2.2.2 b (n + 23)) ++ ch2 Θ.2.2.2.2.2 b (n + 27)) ++ ch6 Θ.2.2.2.2.2 b (n + 31) (b + (n + 1)) (b + (n + 13)) (b + (n + 27))) ++ ch10 Θ.2.2.2.2.2 b (n + 33)) ++ ch2 Θ.2.2.2.2.2 b (n + 43)) ++ ch4 Θ.2.2.2.2.2 b (n + 47)) ++ ch5 Θ.2.2.2.2.2 b (n + 169)) ++ ch0 Θ.2.2.2.2.2 b (n + 176) (b + (n + 169)) (b + (n + 23)))) C hnm inT11 tyX11_ok nmX11 n (cq_get0 hQ) rfl 10 (by decide) w_2_197 rfl rfl rfl (by decide) (cq_put hQ rfl) dX11_init_142 ?_
  refine y_aload_n C 0 dX11_init_145 rfl rfl ?_
  refine y_new (n := n + 177) (fs := [.null, .null, .null, .null, .null, .null, .int 0, .int 0, .int 0, .int 0, .int 0]) C inT9 tyX9_ok w_2_88 w_2_89 w_1_11 rfl (by decide) (cq_len hQ rfl) rfl ⟨(Nat.le_of_ble_eq_true rfl), (Nat.le_of_ble_eq_true rfl)⟩ dX11_init_146 ?_
  refine y_dup C dX11_init_149 rfl ?_
  refine y_callIN (host := "LastLoaf") C (n + 177) [] 0 (k9_init (l := Θ.1.2.1) (w := Θ.2.2.2.2.2) (b := b) (n := n + 177) (Q := Q ++ .inr (11, [.ref (b + (n + 1)), .ref (b + (n + 3)), .ref (b + (n + 13)), .ref (b + (n + 23)), .ref (b + (n + 27)), .ref (b + (n + 31)), .ref (b + (n + 33)), .ref (b + (n + 43)), .ref (b + (n + 47)), .ref (b + (n + 169)), .ref (b + (n + 176)), .null, .null, .null, .int 0, .int 0]) :: ((((((((((([] ++ ch8 Θ.2.2.2.2.2 b (n + 1)) ++ ch10 Θ.2.2.2.2.2 b (n + 3)) ++ ch10 Θ.2.2.2.2.2 b (n + 13)) ++ ch2 Θ.2.2.2.2.2 b (n + 23)) ++ ch2 Θ.2.2.2.2.2 b (n + 27)) ++ ch6 Θ.2.2.2.2.2 b (n + 31) (b + (n + 1)) (b + (n + 13)) (b + (n + 27))) ++ ch10 Θ.2.2.2.2.2 b (n + 33)) ++ ch2 Θ.2.2.2.2.2 b (n + 43)) ++ ch4 Θ.2.2.2.2.2 b (n + 47)) ++ ch5 Θ.2.2.2.2.2 b (n + 169)) ++ ch0 Θ.2.2.2.2.2 b (n + 176) (b + (n + 169)) (b + (n + 23)))) (cq_len hQ rfl)) w_2_92 (List.mem_of_getElem? (i := 4) rfl) w_2_91 w_1_11 rfl ⟨rfl, rfl, (Nat.le_of_ble_eq_true rfl), (Nat.le_of_ble_eq_true rfl)⟩ (by decide +kernel) rfl rfl (Nat.le_of_ble_eq_true rfl) ⟨(Nat.le_of_ble_eq_true rfl), (Nat.le_of_ble_eq_true rfl)⟩ dX11_init_150 ?_
  refine y_cs (cs' := Q ++ .inr (11, [.ref (b + (n + 1)), .ref (b + (n + 3)), .ref (b + (n + 13)), .ref (b + (n + 23)), .ref (b + (n + 27)), .ref (b + (n + 31)), .ref (b + (n + 33)), .ref (b + (n + 43)), .ref (b + (n + 47)), .ref (b + (n + 169)), .ref (b + (n + 176)), .null, .null, .null, .int 0, .int 0]) :: (((((((((((([] ++ ch8 Θ.2.2.2.2.2 b (n + 1)) ++ ch10 Θ.2.2.2.2.2 b (n + 3)) ++ ch10 Θ.2.2.2.2.2 b (n + 13)) ++ ch2 Θ.2.2.2.2.2 b (n + 23)) ++ ch2 Θ.2.2.2.2.2 b (n + 27)) ++ ch6 Θ.2.2.2.2.2 b (n + 31) (b + (n + 1)) (b + (n + 13)) (b + (n + 27))) ++ ch10 Θ.2.2.2.2.2 b (n + 33)) ++ ch2 Θ.2.2.2.2.2 b (n + 43)) ++ ch4 Θ.2.2.2.2.2 b (n + 47)) ++ ch5 Θ.2.2.2.2.2 b (n + 169)) ++ ch0 Θ.2.2.2.2.2 b (n + 176) (b + (n + 169)) (b + (n + 23))) ++ ch9 Θ.2.2.2.2.2 b (n + 177))) cq_app ?_
  refine y_put (cs' := Q ++ .inr (11, [.ref (b + (n + 1)), .ref (b + (n + 3)), .ref (b + (n + 13)), .ref (b + (n + 23)), .ref (b + (n + 27)), .ref (b + (n + 31)), .ref (b + (n + 33)), .ref (b + (n + 43)), .ref (b + (n + 47)), .ref (b + (n + 169)), .ref (b + (n + 176)), .ref (b + (n + 177)), .null, .null, .int 0, .int 0]) :: (((((((((((([] ++ ch8 Θ.2.2.2.2.2 b (n + 1)) ++ ch10 Θ.2.2.2.2.2 b (n + 3)) ++ ch10 Θ.2.2.2.2.2 b (n + 13)) ++ ch2 Θ.2.2.2.2.2 b (n + 23)) ++ ch2 Θ.2.2.2.2.2 b (n + 27)) ++ ch6 Θ.2.2.2.2.2 b (n + 31) (b + (n + 1)) (b + (n + 13)) (b + (n + 27))) ++ ch10 Θ.2.2.2.2.2 b (n + 33)) ++ ch2 Θ.2.2.2.2.2 b (n + 43)) ++ ch4 Θ.2.2.2.2.2 b (n + 47)) ++ ch5 Θ.2.2.2.2.2 b (n + 169)) ++ ch0 Θ.2.2.2.2.2 b (n + 176) (b + (n + 169)) (b + (n + 23))) ++ ch9 Θ.2.2.2.2.2 b (n + 177))) C hnm inT11 tyX11_ok nmX11 n (cq_get0 hQ) rfl 11 (by decide) w_2_198 rfl rfl rfl (by decide) (cq_put hQ rfl) dX11_init_153 ?_
  refine y_aload_n C 0 dX11_init_156 rfl rfl ?_
  refine y_new (n := n + 184) (fs := [.null, .null, .null, .null, .null, .int 0, .int 0, .int 0, .int 0]) C inT7 tyX7_ok w_2_130 w_2_131 w_1_12 rfl (by decide) (cq_len hQ rfl) rfl ⟨(Nat.le_of_ble_eq_true rfl), (Nat.le_of_ble_eq_true rfl)⟩ dX11_init_157 ?_
  refine y_dup C dX11_init_160 rfl ?_
  refine y_callIN (host := "LastLoaf") C (n + 184) [] 0 (k7_init (l := Θ.1.2.1) (w := Θ.2.2.2.2.2) (b := b) (n := n + 184) (Q := Q ++ .inr (11, [.ref (b + (n + 1)), .ref (b + (n + 3)), .ref (b + (n + 13)), .ref (b + (n + 23)), .ref (b + (n + 27)), .ref (b + (n + 31)), .ref (b + (n + 33)), .ref (b + (n + 43)), .ref (b + (n + 47)), .ref (b + (n + 169)), .ref (b + (n + 176)), .ref (b + (n + 177)), .null, .null, .int 0, .int 0]) :: (((((((((((([] ++ ch8 Θ.2.2.2.2.2 b (n + 1)) ++ ch10 Θ.2.2.2.2.2 b (n + 3)) ++ ch10 Θ.2.2.2.2.2 b (n + 13)) ++ ch2 Θ.2.2.2.2.2 b (n + 23)) ++ ch2 Θ.2.2.2.2.2 b (n + 27)) ++ ch6 Θ.2.2.2.2.2 b (n + 31) (b + (n + 1)) (b + (n + 13)) (b + (n + 27))) ++ ch10 Θ.2.2.2.2.2 b (n + 33)) ++ ch2 Θ.2.2.2.2.2 b (n + 43)) ++ ch4 Θ.2.2.2.2.2 b (n + 47)) ++ ch5 Θ.2.2.2.2.2 b (n + 169)) ++ ch0 Θ.2.2.2.2.2 b (n + 176) (b + (n + 169)) (b + (n + 23))) ++ ch9 Θ.2.2.2.2.2 b (n + 177))) (cq_len hQ rfl)) w_2_134 (List.mem_of_getElem? (i := 5) rfl) w_2_133 w_1_12 rfl ⟨rfl, rfl, (Nat.le_of_ble_eq_true rfl), (Nat.le_of_ble_eq_true rfl)⟩ (by decide +kernel) rfl rfl (Nat.le_of_ble_eq_true rfl) ⟨(Nat.le_of_ble_eq_true rfl), (Nat.le_of_ble_eq_true rfl)⟩ dX11_init_161 ?_
  refine y_cs (cs' := Q ++ .inr (11, [.ref (b + (n + 1)), .ref (b + (n + 3)), .ref (b + (n + 13)), .ref (b + (n + 23)), .ref (b + (n + 27)), .ref (b + (n + 31)), .ref (b + (n + 33)), .ref (b + (n + 43)), .ref (b + (n + 47)), .ref (b + (n + 169)), .ref (b + (n + 176)), .ref (b + (n + 177)), .null, .null, .int 0, .int 0]) :: ((((((((((((([] ++ ch8 Θ.2.2.2.2.2 b (n + 1)) ++ ch10 Θ.2.2.2.2.2 b (n + 3)) ++ ch10 Θ.2.2.2.2.2 b (n + 13)) ++ ch2 Θ.2.2.2.2.2 b (n + 23)) ++ ch2 Θ.2.2.2.2.2 b (n + 27)) ++ ch6 Θ.2.2.2.2.2 b (n + 31) (b + (n + 1)) (b + (n + 13)) (b + (n + 27))) ++ ch10 Θ.2.2.2.2.2 b (n + 33)) ++ ch2 Θ.2.2.2.2.2 b (n + 43)) ++ ch4 Θ.2.2.2.2.2 b (n + 47)) ++ ch5 Θ.2.2.2.2.2 b (n + 169)) ++ ch0 Θ.2.2.2.2.2 b (n + 176) (b + (n + 169)) (b + (n + 23))) ++ ch9 Θ.2.2.2.2.2 b (n + 177)) ++ ch7 Θ.2.2.2.2.2 b (n + 184))) cq_app ?_
  refine y_put (cs' := Q ++ .inr (11, [.ref (b + (n + 1)), .ref (b + (n + 3)), .ref (b + (n + 13)), .ref (b + (n + 23)), .ref (b + (n + 27)), .ref (b + (n + 31)), .ref (b + (n + 33)), .ref (b + (n + 43)), .ref (b + (n + 47)), .ref (b + (n + 169)), .ref (b + (n + 176)), .ref (b + (n + 177)), .ref (b + (n + 184)), .null, .int 0, .int 0]) :: ((((((((((((([] ++ ch8 Θ.2.2.2.2.2 b (n + 1)) ++ ch10 Θ.2.2.2.2.2 b (n + 3)) ++ ch10 Θ.2.2.2.2.2 b (n + 13)) ++ ch2 Θ.2.2.2.2.2 b (n + 23)) ++ ch2 Θ.2.2.2.2.2 b (n + 27)) ++ ch6 Θ.2.2.2.2.2 b (n + 31) (b + (n + 1)) (b + (n + 13)) (b + (n + 27))) ++ ch10 Θ.2.2.2.2.2 b (n + 33)) ++ ch2 Θ.2.2.2.2.2 b (n + 43)) ++ ch4 Θ.2.2.2.2.2 b (n + 47)) ++ ch5 Θ.2.2.2.2.2 b (n + 169)) ++ ch0 Θ.2.2.2.2.2 b (n + 176) (b + (n + 169)) (b + (n + 23))) ++ ch9 Θ.2.2.2.2.2 b (n + 177)) ++ ch7 Θ.2.2.2.2.2 b (n + 184))) C hnm inT11 tyX11_ok nmX11 n (cq_get0 hQ) rfl 12 (by decide) w_2_199 rfl rfl rfl (by decide) (cq_put hQ rfl) dX11_init_164 ?_
  refine y_aload_n C 0 dX11_init_167 rfl rfl ?_
  refine y_new (n := n + 190) (fs := [.null, .null, .null, .int 0, .int 0]) C inT1 tyX1_ok w_2_165 w_2_166 w_1_13 rfl (by decide) (cq_len hQ rfl) rfl ⟨(Nat.le_of_ble_eq_true rfl), (Nat.le_of_ble_eq_true rfl)⟩ dX11_init_168 ?_
  refine y_dup C dX11_init_171 rfl ?_
  refine y_callIN (host := "LastLoaf") C (n + 190) [] 0 (k1_init (l := Θ.1.2.1) (w := Θ.2.2.2.2.2) (b := b) (n := n + 190) (Q := Q ++ .inr (11, [.ref (b + (n + 1)), .ref (b + (n + 3)), .ref (b + (n + 13)), .ref (b + (n + 23)), .ref (b + (n + 27)), .ref (b + (n + 31)), .ref (b + (n + 33)), .ref (b + (n + 43)), .ref (b + (n + 47)), .ref (b + (n + 169)), .ref (b + (n + 176)), .ref (b + (n + 177)), .ref (b + (n + 184)), .null, .int 0, .int 0]) :: ((((((((((((([] ++ ch8 Θ.2.2.2.2.2 b (n + 1)) ++ ch10 Θ.2.2.2.2.2 b (n + 3)) ++ ch10 Θ.2.2.2.2.2 b (n + 13)) ++ ch2 Θ.2.2.2.2.2 b (n + 23)) ++ ch2 Θ.2.2.2.2.2 b (n + 27)) ++ ch6 Θ.2.2.2.2.2 b (n + 31) (b + (n + 1)) (b + (n + 13)) (b + (n + 27))) ++ ch10 Θ.2.2.2.2.2 b (n + 33)) ++ ch2 Θ.2.2.2.2.2 b (n + 43)) ++ ch4 Θ.2.2.2.2.2 b (n + 47)) ++ ch5 Θ.2.2.2.2.2 b (n + 169)) ++ ch0 Θ.2.2.2.2.2 b (n + 176) (b + (n + 169)) (b + (n + 23))) ++ ch9 Θ.2.2.2.2.2 b (n + 177)) ++ ch7 Θ.2.2.2.2.2 b (n + 184))) (cq_len hQ rfl)) w_2_169 (List.mem_of_getElem? (i := 6) rfl) w_2_168 w_1_13 rfl ⟨rfl, rfl, (Nat.le_of_ble_eq_true rfl), (Nat.le_of_ble_eq_true rfl)⟩ (by decide +kernel) rfl rfl (Nat.le_of_ble_eq_true rfl) ⟨(Nat.le_of_ble_eq_true rfl), (Nat.le_of_ble_eq_true rfl)⟩ dX11_init_172 ?_
  refine y_cs (cs' := Q ++ .inr (11, [.ref (b + (n + 1)), .ref (b + (n + 3)), .ref (b + (n + 13)), .ref (b + (n + 23)), .ref (b + (n + 27)), .ref (b + (n + 31)), .ref (b + (n + 33)), .ref (b + (n + 43)), .ref (b + (n + 47)), .ref (b + (n + 169)), .ref (b + (n + 176)), .ref (b + (n + 177)), .ref (b + (n + 184)), .null, .int 0, .int 0]) :: (((((((((((((([] ++ ch8 Θ.2.2.2.2.2 b (n + 1)) ++ ch10 Θ.2.2.2.2.2 b (n + 3)) ++ ch10 Θ.2.2.2.2.2 b (n + 13)) ++ ch2 Θ.2.2.2.2.2 b (n + 23)) ++ ch2 Θ.2.2.2.2.2 b (n + 27)) ++ ch6 Θ.2.2.2.2.2 b (n + 31) (b + (n + 1)) (b + (n + 13)) (b + (n + 27))) ++ ch10 Θ.2.2.2.2.2 b (n + 33)) ++ ch2 Θ.2.2.2.2.2 b (n + 43)) ++ ch4 Θ.2.2.2.2.2 b (n + 47)) ++ ch5 Θ.2.2.2.2.2 b (n + 169)) ++ ch0 Θ.2.2.2.2.2 b (n + 176) (b + (n + 169)) (b + (n + 23))) ++ ch9 Θ.2.2.2.2.2 b (n + 177)) ++ ch7 Θ.2.2.2.2.2 b (n + 184)) ++ ch1 Θ.2.2.2.2.2 b (n + 190))) cq_app ?_
  refine y_put (cs' := Q ++ .inr (11, [.ref (b + (n + 1)), .ref (b + (n + 3)), .ref (b + (n + 13)), .ref (b + (n + 23)), .ref (b + (n + 27)), .ref (b + (n + 31)), .ref (b + (n + 33)), .ref (b + (n + 43)), .ref (b + (n + 47)), .ref (b + (n + 169)), .ref (b + (n + 176)), .ref (b + (n + 177)), .ref (b + (n + 184)), .ref (b + (n + 190)), .int 0, .int 0]) :: (((((((((((((([] ++ ch8 Θ.2.2.2.2.2 b (n + 1)) ++ ch10 Θ.2.2.2.2.2 b (n + 3)) ++ ch10 Θ.2.2.2.2.2 b (n + 13)) ++ ch2 Θ.2.2.2.2.2 b (n + 23)) ++ ch2 Θ.2.2.2.2.2 b (n + 27)) ++ ch6 Θ.2.2.2.2.2 b (n + 31) (b + (n + 1)) (b + (n + 13)) (b + (n + 27))) ++ ch10 Θ.2.2.2.2.2 b (n + 33)) ++ ch2 Θ.2.2.2.2.2 b (n + 43)) ++ ch4 Θ.2.2.2.2.2 b (n + 47)) ++ ch5 Θ.2.2.2.2.2 b (n + 169)) ++ ch0 Θ.2.2.2.2.2 b (n + 176) (b + (n + 169)) (b + (n + 23))) ++ ch9 Θ.2.2.2.2.2 b (n + 177)) ++ ch7 Θ.2.2.2.2.2 b (n + 184)) ++ ch1 Θ.2.2.2.2.2 b (n + 190))) C hnm inT11 tyX11_ok nmX11 n (cq_get0 hQ) rfl 13 (by decide) w_2_200 rfl rfl rfl (by decide) (cq_put hQ rfl) dX11_init_175 ?_
  refine y_aload_n C 0 dX11_init_178 rfl rfl ?_
  refine y_iconst (v := 0) C dX11_init_179 ic_0 ?_
  refine y_put (cs' := Q ++ .inr (11, [.ref (b + (n + 1)), .ref (b + (n + 3)), .ref (b + (n + 13)), .ref (b + (n + 23)), .ref (b + (n + 27)), .ref (b + (n + 31)), .ref (b + (n + 33)), .ref (b + (n + 43)), .ref (b + (n + 47)), .ref (b + (n + 169)), .ref (b + (n + 176)), .ref (b + (n + 177)), .ref (b + (n + 184)), .ref (b + (n + 190)), .int 0, .int 0]) :: (((((((((((((([] ++ ch8 Θ.2.2.2.2.2 b (n + 1)) ++ ch10 Θ.2.2.2.2.2 b (n + 3)) ++ ch10 Θ.2.2.2.2.2 b (n + 13)) ++ ch2 Θ.2.2.2.2.2 b (n + 23)) ++ ch2 Θ.2.2.2.2.2 b (n + 27)) ++ ch6 Θ.2.2.2.2.2 b (n + 31) (b + (n + 1)) (b + (n + 13)) (b + (n + 27))) ++ ch10 Θ.2.2.2.2.2 b (n + 33)) ++ ch2 Θ.2.2.2.2.2 b (n + 43)) ++ ch4 Θ.2.2.2.2.2 b (n + 47)) ++ ch5 Θ.2.2.2.2.2 b (n + 169)) ++ ch0 Θ.2.2.2.2.2 b (n + 176) (b + (n + 169)) (b + (n + 23))) ++ ch9 Θ.2.2.2.2.2 b (n + 177)) ++ ch7 Θ.2.2.2.2.2 b (n + 184)) ++ ch1 Θ.2.2.2.2.2 b (n + 190))) C hnm inT11 tyX11_ok nmX11 n (cq_get0 hQ) rfl 14 (by decide) w_2_201 rfl rfl rfl (by decide) (cq_put hQ rfl) dX11_init_180 ?_
  refine y_aload_n C 0 dX11_init_183 rfl rfl ?_
  refine y_iconst (v := (-1)) C dX11_init_184 ic_m1 ?_
  refine y_put (cs' := Q ++ .inr (11, [.ref (b + (n + 1)), .ref (b + (n + 3)), .ref (b + (n + 13)), .ref (b + (n + 23)), .ref (b + (n + 27)), .ref (b + (n + 31)), .ref (b + (n + 33)), .ref (b + (n + 43)), .ref (b + (n + 47)), .ref (b + (n + 169)), .ref (b + (n + 176)), .ref (b + (n + 177)), .ref (b + (n + 184)), .ref (b + (n + 190)), .int 0, .int (-1)]) :: (((((((((((((([] ++ ch8 Θ.2.2.2.2.2 b (n + 1)) ++ ch10 Θ.2.2.2.2.2 b (n + 3)) ++ ch10 Θ.2.2.2.2.2 b (n + 13)) ++ ch2 Θ.2.2.2.2.2 b (n + 23)) ++ ch2 Θ.2.2.2.2.2 b (n + 27)) ++ ch6 Θ.2.2.2.2.2 b (n + 31) (b + (n + 1)) (b + (n + 13)) (b + (n + 27))) ++ ch10 Θ.2.2.2.2.2 b (n + 33)) ++ ch2 Θ.2.2.2.2.2 b (n + 43)) ++ ch4 Θ.2.2.2.2.2 b (n + 47)) ++ ch5 Θ.2.2.2.2.2 b (n + 169)) ++ ch0 Θ.2.2.2.2.2 b (n + 176) (b + (n + 169)) (b + (n + 23))) ++ ch9 Θ.2.2.2.2.2 b (n + 177)) ++ ch7 Θ.2.2.2.2.2 b (n + 184)) ++ ch1 Θ.2.2.2.2.2 b (n + 190))) C hnm inT11 tyX11_ok nmX11 n (cq_get0 hQ) rfl 15 (by decide) w_2_202 rfl rfl rfl (by decide) (cq_put hQ rfl) dX11_init_185 ?_
  exact y_vret C ⟨Nat.le_refl _, Nat.le_refl _⟩ dX11_init_188)
theorem dX12_init_0 : decode cX12_init 0 = .ok (.aload_n 0, 1) := by decide +kernel
theorem dX12_init_1 : decode cX12_init 1 = .ok (.invokespecial 1, 3) := by decide +kernel
theorem w_8_26 : Cond.methodLink "LastLoafModel" (1 : Nat) ({ cls := "java/lang/Object", name := "<init>", desc := "()V" } : MethodName) ∈ TB := tb_in (lwt_8 (List.mem_of_getElem? (i := 26) (by decide +kernel))) rfl
theorem dX12_init_4 : decode cX12_init 4 = .ok (.aload_n 0, 1) := by decide +kernel
theorem dX12_init_5 : decode cX12_init 5 = .ok (.sipush 752, 3) := by decide +kernel
theorem dX12_init_8 : decode cX12_init 8 = .ok (.newarray .int, 2) := by decide +kernel
theorem dX12_init_10 : decode cX12_init 10 = .ok (.putfield 7, 3) := by decide +kernel
theorem dX12_init_13 : decode cX12_init 13 = .ok (.aload_n 0, 1) := by decide +kernel
theorem dX12_init_14 : decode cX12_init 14 = .ok (.sipush 752, 3) := by decide +kernel
theorem dX12_init_17 : decode cX12_init 17 = .ok (.newarray .int, 2) := by decide +kernel
theorem dX12_init_19 : decode cX12_init 19 = .ok (.putfield 13, 3) := by decide +kernel
theorem dX12_init_22 : decode cX12_init 22 = .ok (.aload_n 0, 1) := by decide +kernel
theorem dX12_init_23 : decode cX12_init 23 = .ok (.sipush 352, 3) := by decide +kernel
theorem dX12_init_26 : decode cX12_init 26 = .ok (.newarray .int, 2) := by decide +kernel
theorem dX12_init_28 : decode cX12_init 28 = .ok (.putfield 16, 3) := by decide +kernel
theorem dX12_init_31 : decode cX12_init 31 = .ok (.aload_n 0, 1) := by decide +kernel
theorem dX12_init_32 : decode cX12_init 32 = .ok (.sipush 4224, 3) := by decide +kernel
theorem sp_4224 : (Int16.ofInt (4224)).toInt32 = 4224 := by decide +kernel
theorem dX12_init_35 : decode cX12_init 35 = .ok (.newarray .int, 2) := by decide +kernel
theorem dX12_init_37 : decode cX12_init 37 = .ok (.putfield 19, 3) := by decide +kernel
theorem dX12_init_40 : decode cX12_init 40 = .ok (.aload_n 0, 1) := by decide +kernel
theorem dX12_init_41 : decode cX12_init 41 = .ok (.sipush 400, 3) := by decide +kernel
theorem dX12_init_44 : decode cX12_init 44 = .ok (.newarray .int, 2) := by decide +kernel
theorem dX12_init_46 : decode cX12_init 46 = .ok (.putfield 22, 3) := by decide +kernel
theorem dX12_init_49 : decode cX12_init 49 = .ok (.aload_n 0, 1) := by decide +kernel
theorem dX12_init_50 : decode cX12_init 50 = .ok (.iconst (-1), 1) := by decide +kernel
theorem dX12_init_51 : decode cX12_init 51 = .ok (.putfield 25, 3) := by decide +kernel
theorem dX12_init_54 : decode cX12_init 54 = .ok (.aload_n 0, 1) := by decide +kernel
theorem dX12_init_55 : decode cX12_init 55 = .ok (.bipush 7, 2) := by decide +kernel
theorem dX12_init_57 : decode cX12_init 57 = .ok (.newarray .int, 2) := by decide +kernel
theorem dX12_init_59 : decode cX12_init 59 = .ok (.putfield 29, 3) := by decide +kernel
theorem dX12_init_62 : decode cX12_init 62 = .ok (.aload_n 0, 1) := by decide +kernel
theorem dX12_init_63 : decode cX12_init 63 = .ok (.bipush 49, 2) := by decide +kernel
theorem dX12_init_65 : decode cX12_init 65 = .ok (.newarray .int, 2) := by decide +kernel
theorem dX12_init_67 : decode cX12_init 67 = .ok (.putfield 32, 3) := by decide +kernel
theorem dX12_init_70 : decode cX12_init 70 = .ok (.aload_n 0, 1) := by decide +kernel
theorem dX12_init_71 : decode cX12_init 71 = .ok (.bipush 7, 2) := by decide +kernel
theorem dX12_init_73 : decode cX12_init 73 = .ok (.newarray .int, 2) := by decide +kernel
theorem dX12_init_75 : decode cX12_init 75 = .ok (.putfield 35, 3) := by decide +kernel
theorem dX12_init_78 : decode cX12_init 78 = .ok (.aload_n 0, 1) := by decide +kernel
theorem dX12_init_79 : decode cX12_init 79 = .ok (.bipush 7, 2) := by decide +kernel
theorem dX12_init_81 : decode cX12_init 81 = .ok (.newarray .int, 2) := by decide +kernel
theorem dX12_init_83 : decode cX12_init 83 = .ok (.putfield 38, 3) := by decide +kernel
theorem dX12_init_86 : decode cX12_init 86 = .ok (.aload_n 0, 1) := by decide +kernel
theorem dX12_init_87 : decode cX12_init 87 = .ok (.bipush 56, 2) := by decide +kernel
theorem bp_56 : (Int8.ofInt (56)).toInt32 = 56 := by decide +kernel
theorem dX12_init_89 : decode cX12_init 89 = .ok (.newarray .int, 2) := by decide +kernel
theorem dX12_init_91 : decode cX12_init 91 = .ok (.putfield 41, 3) := by decide +kernel
theorem dX12_init_94 : decode cX12_init 94 = .ok (.aload_n 0, 1) := by decide +kernel
theorem dX12_init_95 : decode cX12_init 95 = .ok (.bipush 8, 2) := by decide +kernel
theorem dX12_init_97 : decode cX12_init 97 = .ok (.newarray .int, 2) := by decide +kernel
theorem dX12_init_99 : decode cX12_init 99 = .ok (.putfield 44, 3) := by decide +kernel
theorem dX12_init_102 : decode cX12_init 102 = .ok (.aload_n 0, 1) := by decide +kernel
theorem dX12_init_103 : decode cX12_init 103 = .ok (.bipush 8, 2) := by decide +kernel
theorem dX12_init_105 : decode cX12_init 105 = .ok (.newarray .int, 2) := by decide +kernel
theorem dX12_init_107 : decode cX12_init 107 = .ok (.putfield 47, 3) := by decide +kernel
theorem dX12_init_110 : decode cX12_init 110 = .ok (.aload_n 0, 1) := by decide +kernel
theorem dX12_init_111 : decode cX12_init 111 = .ok (.bipush 8, 2) := by decide +kernel
theorem dX12_init_113 : decode cX12_init 113 = .ok (.newarray .int, 2) := by decide +kernel
theorem dX12_init_115 : decode cX12_init 115 = .ok (.putfield 50, 3) := by decide +kernel
theorem dX12_init_118 : decode cX12_init 118 = .ok (.aload_n 0, 1) := by decide +kernel
theorem dX12_init_119 : decode cX12_init 119 = .ok (.bipush 49, 2) := by decide +kernel
theorem dX12_init_121 : decode cX12_init 121 = .ok (.newarray .int, 2) := by decide +kernel
theorem dX12_init_123 : decode cX12_init 123 = .ok (.putfield 53, 3) := by decide +kernel
theorem dX12_init_126 : decode cX12_init 126 = .ok (.aload_n 0, 1) := by decide +kernel
theorem dX12_init_127 : decode cX12_init 127 = .ok (.bipush 7, 2) := by decide +kernel
theorem dX12_init_129 : decode cX12_init 129 = .ok (.newarray .int, 2) := by decide +kernel
theorem dX12_init_131 : decode cX12_init 131 = .ok (.putfield 56, 3) := by decide +kernel
theorem dX12_init_134 : decode cX12_init 134 = .ok (.aload_n 0, 1) := by decide +kernel
theorem dX12_init_135 : decode cX12_init 135 = .ok (.sipush 128, 3) := by decide +kernel
theorem sp_128 : (Int16.ofInt (128)).toInt32 = 128 := by decide +kernel
theorem dX12_init_138 : decode cX12_init 138 = .ok (.newarray .int, 2) := by decide +kernel
theorem dX12_init_140 : decode cX12_init 140 = .ok (.putfield 59, 3) := by decide +kernel
theorem dX12_init_143 : decode cX12_init 143 = .ok (.aload_n 0, 1) := by decide +kernel
theorem dX12_init_144 : decode cX12_init 144 = .ok (.sipush 1024, 3) := by decide +kernel
theorem sp_1024 : (Int16.ofInt (1024)).toInt32 = 1024 := by decide +kernel
theorem dX12_init_147 : decode cX12_init 147 = .ok (.newarray .int, 2) := by decide +kernel
theorem dX12_init_149 : decode cX12_init 149 = .ok (.putfield 62, 3) := by decide +kernel
theorem dX12_init_152 : decode cX12_init 152 = .ok (.aload_n 0, 1) := by decide +kernel
theorem dX12_init_153 : decode cX12_init 153 = .ok (.getfield 7, 3) := by decide +kernel
theorem dX12_init_156 : decode cX12_init 156 = .ok (.iconst 1, 1) := by decide +kernel
theorem dX12_init_157 : decode cX12_init 157 = .ok (.iconst (-1), 1) := by decide +kernel
theorem dX12_init_158 : decode cX12_init 158 = .ok (.iastore, 1) := by decide +kernel
theorem dX12_init_159 : decode cX12_init 159 = .ok (.aload_n 0, 1) := by decide +kernel
theorem dX12_init_160 : decode cX12_init 160 = .ok (.getfield 7, 3) := by decide +kernel
theorem dX12_init_163 : decode cX12_init 163 = .ok (.bipush 9, 2) := by decide +kernel
theorem dX12_init_165 : decode cX12_init 165 = .ok (.iconst 1, 1) := by decide +kernel
theorem dX12_init_166 : decode cX12_init 166 = .ok (.iastore, 1) := by decide +kernel
theorem dX12_init_167 : decode cX12_init 167 = .ok (.iconst 0, 1) := by decide +kernel
theorem dX12_init_168 : decode cX12_init 168 = .ok (.istore_n 1, 1) := by decide +kernel
theorem dX12_init_169 : decode cX12_init 169 = .ok (.iload_n 1, 1) := by decide +kernel
theorem dX12_init_170 : decode cX12_init 170 = .ok (.iconst 4, 1) := by decide +kernel
theorem dX12_init_171 : decode cX12_init 171 = .ok (.if_icmp .ge 19, 3) := by decide +kernel
theorem dX12_init_174 : decode cX12_init 174 = .ok (.aload_n 0, 1) := by decide +kernel
theorem dX12_init_175 : decode cX12_init 175 = .ok (.getfield 7, 3) := by decide +kernel
theorem dX12_init_178 : decode cX12_init 178 = .ok (.bipush 10, 2) := by decide +kernel
theorem dX12_init_180 : decode cX12_init 180 = .ok (.iload_n 1, 1) := by decide +kernel
theorem dX12_init_181 : decode cX12_init 181 = .ok (.iadd, 1) := by decide +kernel
theorem dX12_init_182 : decode cX12_init 182 = .ok (.iconst 5, 1) := by decide +kernel
theorem dX12_init_183 : decode cX12_init 183 = .ok (.iastore, 1) := by decide +kernel
theorem dX12_init_184 : decode cX12_init 184 = .ok (.iinc 1 1, 3) := by decide +kernel
theorem dX12_init_187 : decode cX12_init 187 = .ok (.goto (-18), 3) := by decide +kernel
theorem dX12_init_190 : decode cX12_init 190 = .ok (.return_, 1) := by decide +kernel
/-! LastLoafModel.<init> -/
def ch12 (w : Wp) (b n : Nat) : List va_E := .inr (12, [.int 0, .ref (b + (n + 1)), .ref (b + (n + 2)), .int 0, .ref (b + (n + 3)), .ref (b + (n + 4)), .int 0, .ref (b + (n + 5)), .int 0, .int 0, .int 0, .int 0, .int (-1), .int 0, .ref (b + (n + 6)), .int 0, .int 0, .int 0, .int 0, .ref (b + (n + 7)), .int 0, .int 0, .ref (b + (n + 8)), .ref (b + (n + 9)), .ref (b + (n + 10)), .ref (b + (n + 11)), .ref (b + (n + 12)), .ref (b + (n + 13)), .ref (b + (n + 14)), .ref (b + (n + 15)), .ref (b + (n + 16)), .ref (b + (n + 17)), .int 0]) :: ((((((((((((((((([] ++ [.inl (w.2.1.1, 752, .inl (upd (upd (upd (upd (upd (upd (fun _ => 0) 1 (-1)) 9 1) 10 5) 11 5) 12 5) 13 5))]) ++ [.inl (w.2.1.1, 752, .inl (fun _ => 0))]) ++ [.inl (w.2.1.1, 352, .inl (fun _ => 0))]) ++ [.inl (w.2.1.1, 4224, .inl (fun _ => 0))]) ++ [.inl (w.2.1.1, 400, .inl (fun _ => 0))]) ++ [.inl (w.2.1.1, 7, .inl (fun _ => 0))]) ++ [.inl (w.2.1.1, 49, .inl (fun _ => 0))]) ++ [.inl (w.2.1.1, 7, .inl (fun _ => 0))]) ++ [.inl (w.2.1.1, 7, .inl (fun _ => 0))]) ++ [.inl (w.2.1.1, 56, .inl (fun _ => 0))]) ++ [.inl (w.2.1.1, 8, .inl (fun _ => 0))]) ++ [.inl (w.2.1.1, 8, .inl (fun _ => 0))]) ++ [.inl (w.2.1.1, 8, .inl (fun _ => 0))]) ++ [.inl (w.2.1.1, 49, .inl (fun _ => 0))]) ++ [.inl (w.2.1.1, 7, .inl (fun _ => 0))]) ++ [.inl (w.2.1.1, 128, .inl (fun _ => 0))]) ++ [.inl (w.2.1.1, 1024, .inl (fun _ => 0))])
abbrev rmI12 : Room := { frames := 1, cells := 17, slots := 7838, locals := 40 }
set_option maxHeartbeats 8000000 in
set_option maxRecDepth 100000 in
theorem k12_init {l : Launch} {w : Wp} {b n : Nat} {Q : List va_E} (hQ : Q.length = n) : yM l w yX12_init cX12_init 2 rmI12 [.ref (b + n)] b (Q ++ [.inr (12, [.int 0, .null, .null, .int 0, .null, .null, .int 0, .null, .int 0, .int 0, .int 0, .int 0, .int 0, .int 0, .null, .int 0, .int 0, .int 0, .int 0, .null, .int 0, .int 0, .null, .null, .null, .null, .null, .null, .null, .null, .null, .null, .int 0])]) (Q ++ ch12 w b n) 17 7838 := yM_of rfl (Nat.le_of_ble_eq_true rfl) (fun Θ hl0 hw C hnm => by
  subst hw
  refine y_cs (cs' := Q ++ .inr (12, [.int 0, .null, .null, .int 0, .null, .null, .int 0, .null, .int 0, .int 0, .int 0, .int 0, .int 0, .int 0, .null, .int 0, .int 0, .int 0, .int 0, .null, .int 0, .int 0, .null, .null, .null, .null, .null, .null, .null, .null, .null, .null, .int 0]) :: []) rfl ?_
  refine y_aload_n C 0 dX12_init_0 rfl rfl ?_
  refine y_objInit C w_8_26 w_1_36 w_1_37 dX12_init_1 ⟨(Nat.le_of_ble_eq_true rfl), (Nat.le_of_ble_eq_true rfl)⟩ ?_
  refine y_aload_n C 0 dX12_init_4 rfl rfl ?_
  refine y_sipush (v := 752) C dX12_init_5 sp_752 ?_
  refine y_newa (N := 752) (n := n + 1) (cs' := Q ++ .inr (12, [.int 0, .null, .null, .int 0, .null, .null, .int 0, .null, .int 0, .int 0, .int 0, .int 0, .int 0, .int 0, .null, .int 0, .int 0, .int 0, .int 0, .null, .int 0, .int 0, .null, .null, .null, .null, .null, .null, .null, .null, .null, .null, .int 0]) :: ([] ++ [.inl (Θ.2.2.2.2.2.2.1.1, 752, .inl (fun _ => 0))])) C w_1_64 (by decide) (by decide) (by decide) (cq_len hQ rfl) cq_app ⟨(Nat.le_of_ble_eq_true rfl), (Nat.le_of_ble_eq_true rfl)⟩ dX12_init_8 ?_
  refine y_put (cs' := Q ++ .inr (12, [.int 0, .ref (b + (n + 1)), .null, .int 0, .null, .null, .int 0, .null, .int 0, .int 0, .int 0, .int 0, .int 0, .int 0, .null, .int 0, .int 0, .int 0, .int 0, .null, .int 0, .int 0, .null, .null, .null, .null, .null, .null, .null, .null, .null, .null, .int 0]) :: ([] ++ [.inl (Θ.2.2.2.2.2.2.1.1, 752, .inl (fun _ => 0))])) C hnm inT12 tyX12_ok nmX12 n (cq_get0 hQ) rfl 1 (by decide) w_8_28 rfl rfl rfl (by decide) (cq_put hQ rfl) dX12_init_10 ?_
  refine y_aload_n C 0 dX12_init_13 rfl rfl ?_
  refine y_sipush (v := 752) C dX12_init_14 sp_752 ?_
  refine y_newa (N := 752) (n := n + 2) (cs' := Q ++ .inr (12, [.int 0, .ref (b + (n + 1)), .null, .int 0, .null, .null, .int 0, .null, .int 0, .int 0, .int 0, .int 0, .int 0, .int 0, .null, .int 0, .int 0, .int 0, .int 0, .null, .int 0, .int 0, .null, .null, .null, .null, .null, .null, .null, .null, .null, .null, .int 0]) :: (([] ++ [.inl (Θ.2.2.2.2.2.2.1.1, 752, .inl (fun _ => 0))]) ++ [.inl (Θ.2.2.2.2.2.2.1.1, 752, .inl (fun _ => 0))])) C w_1_64 (by decide) (by decide) (by decide) (cq_len hQ rfl) cq_app ⟨(Nat.le_of_ble_eq_true rfl), (Nat.le_of_ble_eq_true rfl)⟩ dX12_init_17 ?_
  refine y_put (cs' := Q ++ .inr (12, [.int 0, .ref (b + (n + 1)), .ref (b + (n + 2)), .int 0, .null, .null, .int 0, .null, .int 0, .int 0, .int 0, .int 0, .int 0, .int 0, .null, .int 0, .int 0, .int 0, .int 0, .null, .int 0, .int 0, .null, .null, .null, .null, .null, .null, .null, .null, .null, .null, .int 0]) :: (([] ++ [.inl (Θ.2.2.2.2.2.2.1.1, 752, .inl (fun _ => 0))]) ++ [.inl (Θ.2.2.2.2.2.2.1.1, 752, .inl (fun _ => 0))])) C hnm inT12 tyX12_ok nmX12 n (cq_get0 hQ) rfl 2 (by decide) w_8_29 rfl rfl rfl (by decide) (cq_put hQ rfl) dX12_init_19 ?_
  refine y_aload_n C 0 dX12_init_22 rfl rfl ?_
  refine y_sipush (v := 352) C dX12_init_23 sp_352 ?_
  refine y_newa (N := 352) (n := n + 3) (cs' := Q ++ .inr (12, [.int 0, .ref (b + (n + 1)), .ref (b + (n + 2)), .int 0, .null, .null, .int 0, .null, .int 0, .int 0, .int 0, .int 0, .int 0, .int 0, .null, .int 0, .int 0, .int 0, .int 0, .null, .int 0, .int 0, .null, .null, .null, .null, .null, .null, .null, .null, .null, .null, .int 0]) :: ((([] ++ [.inl (Θ.2.2.2.2.2.2.1.1, 752, .inl (fun _ => 0))]) ++ [.inl (Θ.2.2.2.2.2.2.1.1, 752, .inl (fun _ => 0))]) ++ [.inl (Θ.2.2.2.2.2.2.1.1, 352, .inl (fun _ => 0))])) C w_1_64 (by decide) (by decide) (by decide) (cq_len hQ rfl) cq_app ⟨(Nat.le_of_ble_eq_true rfl), (Nat.le_of_ble_eq_true rfl)⟩ dX12_init_26 ?_
  refine y_put (cs' := Q ++ .inr (12, [.int 0, .ref (b + (n + 1)), .ref (b + (n + 2)), .int 0, .ref (b + (n + 3)), .null, .int 0, .null, .int 0, .int 0, .int 0, .int 0, .int 0, .int 0, .null, .int 0, .int 0, .int 0, .int 0, .null, .int 0, .int 0, .null, .null, .null, .null, .null, .null, .null, .null, .null, .null, .int 0]) :: ((([] ++ [.inl (Θ.2.2.2.2.2.2.1.1, 752, .inl (fun _ => 0))]) ++ [.inl (Θ.2.2.2.2.2.2.1.1, 752, .inl (fun _ => 0))]) ++ [.inl (Θ.2.2.2.2.2.2.1.1, 352, .inl (fun _ => 0))])) C hnm inT12 tyX12_ok nmX12 n (cq_get0 hQ) rfl 4 (by decide) w_8_31 rfl rfl rfl (by decide) (cq_put hQ rfl) dX12_init_28 ?_
  refine y_aload_n C 0 dX12_init_31 rfl rfl ?_
  refine y_sipush (v := 4224) C dX12_init_32 sp_4224 ?_
  refine y_newa (N := 4224) (n := n + 4) (cs' := Q ++ .inr (12, [.int 0, .ref (b + (n + 1)), .ref (b + (n + 2)), .int 0, .ref (b + (n + 3)), .null, .int 0, .null, .int 0, .int 0, .int 0, .int 0, .int 0, .int 0, .null, .int 0, .int 0, .int 0, .int 0, .null, .int 0, .int 0, .null, .null, .null, .null, .null, .null, .null, .null, .null, .null, .int 0]) :: (((([] ++ [.inl (Θ.2.2.2.2.2.2.1.1, 752, .inl (fun _ => 0))]) ++ [.inl (Θ.2.2.2.2.2.2.1.1, 752, .inl (fun _ => 0))]) ++ [.inl (Θ.2.2.2.2.2.2.1.1, 352, .inl (fun _ => 0))]) ++ [.inl (Θ.2.2.2.2.2.2.1.1, 4224, .inl (fun _ => 0))])) C w_1_64 (by decide) (by decide) (by decide) (cq_len hQ rfl) cq_app ⟨(Nat.le_of_ble_eq_true rfl), (Nat.le_of_ble_eq_true rfl)⟩ dX12_init_35 ?_
  refine y_put (cs' := Q ++ .inr (12, [.int 0, .ref (b + (n + 1)), .ref (b + (n + 2)), .int 0, .ref (b + (n + 3)), .ref (b + (n + 4)), .int 0, .null, .int 0, .int 0, .int 0, .int 0, .int 0, .int 0, .null, .int 0, .int 0, .int 0, .int 0, .null, .int 0, .int 0, .null, .null, .null, .null, .null, .null, .null, .null, .null, .null, .int 0]) :: (((([] ++ [.inl (Θ.2.2.2.2.2.2.1.1, 752, .inl (fun _ => 0))]) ++ [.inl (Θ.2.2.2.2.2.2.1.1, 752, .inl (fun _ => 0))]) ++ [.inl (Θ.2.2.2.2.2.2.1.1, 352, .inl (fun _ => 0))]) ++ [.inl (Θ.2.2.2.2.2.2.1.1, 4224, .inl (fun _ => 0))])) C hnm inT12 tyX12_ok nmX12 n (cq_get0 hQ) rfl 5 (by decide) w_8_32 rfl rfl rfl (by decide) (cq_put hQ rfl) dX12_init_37 ?_
  refine y_aload_n C 0 dX12_init_40 rfl rfl ?_
  refine y_sipush (v := 400) C dX12_init_41 sp_400 ?_
  refine y_newa (N := 400) (n := n + 5) (cs' := Q ++ .inr (12, [.int 0, .ref (b + (n + 1)), .ref (b + (n + 2)), .int 0, .ref (b + (n + 3)), .ref (b + (n + 4)), .int 0, .null, .int 0, .int 0, .int 0, .int 0, .int 0, .int 0, .null, .int 0, .int 0, .int 0, .int 0, .null, .int 0, .int 0, .null, .null, .null, .null, .null, .null, .null, .null, .null, .null, .int 0]) :: ((((([] ++ [.inl (Θ.2.2.2.2.2.2.1.1, 752, .inl (fun _ => 0))]) ++ [.inl (Θ.2.2.2.2.2.2.1.1, 752, .inl (fun _ => 0))]) ++ [.inl (Θ.2.2.2.2.2.2.1.1, 352, .inl (fun _ => 0))]) ++ [.inl (Θ.2.2.2.2.2.2.1.1, 4224, .inl (fun _ => 0))]) ++ [.inl (Θ.2.2.2.2.2.2.1.1, 400, .inl (fun _ => 0))])) C w_1_64 (by decide) (by decide) (by decide) (cq_len hQ rfl) cq_app ⟨(Nat.le_of_ble_eq_true rfl), (Nat.le_of_ble_eq_true rfl)⟩ dX12_init_44 ?_
  refine y_put (cs' := Q ++ .inr (12, [.int 0, .ref (b + (n + 1)), .ref (b + (n + 2)), .int 0, .ref (b + (n + 3)), .ref (b + (n + 4)), .int 0, .ref (b + (n + 5)), .int 0, .int 0, .int 0, .int 0, .int 0, .int 0, .null, .int 0, .int 0, .int 0, .int 0, .null, .int 0, .int 0, .null, .null, .null, .null, .null, .null, .null, .null, .null, .null, .int 0]) :: ((((([] ++ [.inl (Θ.2.2.2.2.2.2.1.1, 752, .inl (fun _ => 0))]) ++ [.inl (Θ.2.2.2.2.2.2.1.1, 752, .inl (fun _ => 0))]) ++ [.inl (Θ.2.2.2.2.2.2.1.1, 352, .inl (fun _ => 0))]) ++ [.inl (Θ.2.2.2.2.2.2.1.1, 4224, .inl (fun _ => 0))]) ++ [.inl (Θ.2.2.2.2.2.2.1.1, 400, .inl (fun _ => 0))])) C hnm inT12 tyX12_ok nmX12 n (cq_get0 hQ) rfl 7 (by decide) w_8_34 rfl rfl rfl (by decide) (cq_put hQ rfl) dX12_init_46 ?_
  refine y_aload_n C 0 dX12_init_49 rfl rfl ?_
  refine y_iconst (v := (-1)) C dX12_init_50 ic_m1 ?_
  refine y_put (cs' := Q ++ .inr (12, [.int 0, .ref (b + (n + 1)), .ref (b + (n + 2)), .int 0, .ref (b + (n + 3)), .ref (b + (n + 4)), .int 0, .ref (b + (n + 5)), .int 0, .int 0, .int 0, .int 0, .int (-1), .int 0, .null, .int 0, .int 0, .int 0, .int 0, .null, .int 0, .int 0, .null, .null, .null, .null, .null, .null, .null, .null, .null, .null, .int 0]) :: ((((([] ++ [.inl (Θ.2.2.2.2.2.2.1.1, 752, .inl (fun _ => 0))]) ++ [.inl (Θ.2.2.2.2.2.2.1.1, 752, .inl (fun _ => 0))]) ++ [.inl (Θ.2.2.2.2.2.2.1.1, 352, .inl (fun _ => 0))]) ++ [.inl (Θ.2.2.2.2.2.2.1.1, 4224, .inl (fun _ => 0))]) ++ [.inl (Θ.2.2.2.2.2.2.1.1, 400, .inl (fun _ => 0))])) C hnm inT12 tyX12_ok nmX12 n (cq_get0 hQ) rfl 12 (by decide) w_8_39 rfl rfl rfl (by decide) (cq_put hQ rfl) dX12_init_51 ?_
  refine y_aload_n C 0 dX12_init_54 rfl rfl ?_
  refine y_bipush (v := 7) C dX12_init_55 bp_7 ?_
  refine y_newa (N := 7) (n := n + 6) (cs' := Q ++ .inr (12, [.int 0, .ref (b + (n + 1)), .ref (b + (n + 2)), .int 0, .ref (b + (n + 3)), .ref (b + (n + 4)), .int 0, .ref (b + (n + 5)), .int 0, .int 0, .int 0, .int 0, .int (-1), .int 0, .null, .int 0, .int 0, .int 0, .int 0, .null, .int 0, .int 0, .null, .null, .null, .null, .null, .null, .null, .null, .null, .null, .int 0]) :: (((((([] ++ [.inl (Θ.2.2.2.2.2.2.1.1, 752, .inl (fun _ => 0))]) ++ [.inl (Θ.2.2.2.2.2.2.1.1, 752, .inl (fun _ => 0))]) ++ [.inl (Θ.2.2.2.2.2.2.1.1, 352, .inl (fun _ => 0))]) ++ [.inl (Θ.2.2.2.2.2.2.1.1, 4224, .inl (fun _ => 0))]) ++ [.inl (Θ.2.2.2.2.2.2.1.1, 400, .inl (fun _ => 0))]) ++ [.inl (Θ.2.2.2.2.2.2.1.1, 7, .inl (fun _ => 0))])) C w_1_64 (by decide) (by decide) (by decide) (cq_len hQ rfl) cq_app ⟨(Nat.le_of_ble_eq_true rfl), (Nat.le_of_ble_eq_true rfl)⟩ dX12_init_57 ?_
  refine y_put (cs' := Q ++ .inr (12, [.int 0, .ref (b + (n + 1)), .ref (b + (n + 2)), .int 0, .ref (b + (n + 3)), .ref (b + (n + 4)), .int 0, .ref (b + (n + 5)), .int 0, .int 0, .int 0, .int 0, .int (-1), .int 0, .ref (b + (n + 6)), .int 0, .int 0, .int 0, .int 0, .null, .int 0, .int 0, .null, .null, .null, .null, .null, .null, .null, .null, .null, .null, .int 0]) :: (((((([] ++ [.inl (Θ.2.2.2.2.2.2.1.1, 752, .inl (fun _ => 0))]) ++ [.inl (Θ.2.2.2.2.2.2.1.1, 752, .inl (fun _ => 0))]) ++ [.inl (Θ.2.2.2.2.2.2.1.1, 352, .inl (fun _ => 0))]) ++ [.inl (Θ.2.2.2.2.2.2.1.1, 4224, .inl (fun _ => 0))]) ++ [.inl (Θ.2.2.2.2.2.2.1.1, 400, .inl (fun _ => 0))]) ++ [.inl (Θ.2.2.2.2.2.2.1.1, 7, .inl (fun _ => 0))])) C hnm inT12 tyX12_ok nmX12 n (cq_get0 hQ) rfl 14 (by decide) w_8_41 rfl rfl rfl (by decide) (cq_put hQ rfl) dX12_init_59 ?_
  refine y_aload_n C 0 dX12_init_62 rfl rfl ?_
  refine y_bipush (v := 49) C dX12_init_63 bp_49 ?_
  refine y_newa (N := 49) (n := n + 7) (cs' := Q ++ .inr (12, [.int 0, .ref (b + (n + 1)), .ref (b + (n + 2)), .int 0, .ref (b + (n + 3)), .ref (b + (n + 4)), .int 0, .ref (b + (n + 5)), .int 0, .int 0, .int 0, .int 0, .int (-1), .int 0, .ref (b + (n + 6)), .int 0, .int 0, .int 0, .int 0, .null, .int 0, .int 0, .null, .null, .null, .null, .null, .null, .null, .null, .null, .null, .int 0]) :: ((((((([] ++ [.inl (Θ.2.2.2.2.2.2.1.1, 752, .inl (fun _ => 0))]) ++ [.inl (Θ.2.2.2.2.2.2.1.1, 752, .inl (fun _ => 0))]) ++ [.inl (Θ.2.2.2.2.2.2.1.1, 352, .inl (fun _ => 0))]) ++ [.inl (Θ.2.2.2.2.2.2.1.1, 4224, .inl (fun _ => 0))]) ++ [.inl (Θ.2.2.2.2.2.2.1.1, 400, .inl (fun _ => 0))]) ++ [.inl (Θ.2.2.2.2.2.2.1.1, 7, .inl (fun _ => 0))]) ++ [.inl (Θ.2.2.2.2.2.2.1.1, 49, .inl (fun _ => 0))])) C w_1_64 (by decide) (by decide) (by decide) (cq_len hQ rfl) cq_app ⟨(Nat.le_of_ble_eq_true rfl), (Nat.le_of_ble_eq_true rfl)⟩ dX12_init_65 ?_
  refine y_put (cs' := Q ++ .inr (12, [.int 0, .ref (b + (n + 1)), .ref (b + (n + 2)), .int 0, .ref (b + (n + 3)), .ref (b + (n + 4)), .int 0, .ref (b + (n + 5)), .int 0, .int 0, .int 0, .int 0, .int (-1), .int 0, .ref (b + (n + 6)), .int 0, .int 0, .int 0, .int 0, .ref (b + (n + 7)), .int 0, .int 0, .null, .null, .null, .null, .null, .null, .null, .null, .null, .null, .int 0]) :: ((((((([] ++ [.inl (Θ.2.2.2.2.2.2.1.1, 752, .inl (fun _ => 0))]) ++ [.inl (Θ.2.2.2.2.2.2.1.1, 752, .inl (fun _ => 0))]) ++ [.inl (Θ.2.2.2.2.2.2.1.1, 352, .inl (fun _ => 0))]) ++ [.inl (Θ.2.2.2.2.2.2.1.1, 4224, .inl (fun _ => 0))]) ++ [.inl (Θ.2.2.2.2.2.2.1.1, 400, .inl (fun _ => 0))]) ++ [.inl (Θ.2.2.2.2.2.2.1.1, 7, .inl (fun _ => 0))]) ++ [.inl (Θ.2.2.2.2.2.2.1.1, 49, .inl (fun _ => 0))])) C hnm inT12 tyX12_ok nmX12 n (cq_get0 hQ) rfl 19 (by decide) w_8_46 rfl rfl rfl (by decide) (cq_put hQ rfl) dX12_init_67 ?_
  refine y_aload_n C 0 dX12_init_70 rfl rfl ?_
  refine y_bipush (v := 7) C dX12_init_71 bp_7 ?_
  refine y_newa (N := 7) (n := n + 8) (cs' := Q ++ .inr (12, [.int 0, .ref (b + (n + 1)), .ref (b + (n + 2)), .int 0, .ref (b + (n + 3)), .ref (b + (n + 4)), .int 0, .ref (b + (n + 5)), .int 0, .int 0, .int 0, .int 0, .int (-1), .int 0, .ref (b + (n + 6)), .int 0, .int 0, .int 0, .int 0, .ref (b + (n + 7)), .int 0, .int 0, .null, .null, .null, .null, .null, .null, .null, .null, .null, .null, .int 0]) :: (((((((([] ++ [.inl (Θ.2.2.2.2.2.2.1.1, 752, .inl (fun _ => 0))]) ++ [.inl (Θ.2.2.2.2.2.2.1.1, 752, .inl (fun _ => 0))]) ++ [.inl (Θ.2.2.2.2.2.2.1.1, 352, .inl (fun _ => 0))]) ++ [.inl (Θ.2.2.2.2.2.2.1.1, 4224, .inl (fun _ => 0))]) ++ [.inl (Θ.2.2.2.2.2.2.1.1, 400, .inl (fun _ => 0))]) ++ [.inl (Θ.2.2.2.2.2.2.1.1, 7, .inl (fun _ => 0))]) ++ [.inl (Θ.2.2.2.2.2.2.1.1, 49, .inl (fun _ => 0))]) ++ [.inl (Θ.2.2.2.2.2.2.1.1, 7, .inl (fun _ => 0))])) C w_1_64 (by decide) (by decide) (by decide) (cq_len hQ rfl) cq_app ⟨(Nat.le_of_ble_eq_true rfl), (Nat.le_of_ble_eq_true rfl)⟩ dX12_init_73 ?_
  refine y_put (cs' := Q ++ .inr (12, [.int 0, .ref (b + (n + 1)), .ref (b + (n + 2)), .int 0, .ref (b + (n + 3)), .ref (b + (n + 4)), .int 0, .ref (b + (n + 5)), .int 0, .int 0, .int 0, .int 0, .int (-1), .int 0, .ref (b + (n + 6)), .int 0, .int 0, .int 0, .int 0, .ref (b + (n + 7)), .int 0, .int 0, .ref (b + (n + 8)), .null, .null, .null, .null, .null, .null, .null, .null, .null, .int 0]) :: (((((((([] ++ [.inl (Θ.2.2.2.2.2.2.1.1, 752, .inl (fun _ => 0))]) ++ [.inl (Θ.2.2.2.2.2.2.1.1, 752, .inl (fun _ => 0))]) ++ [.inl (Θ.2.2.2.2.2.2.1.1, 352, .inl (fun _ => 0))]) ++ [.inl (Θ.2.2.2.2.2.2.1.1, 4224, .inl (fun _ => 0))]) ++ [.inl (Θ.2.2.2.2.2.2.1.1, 400, .inl (fun _ => 0))]) ++ [.inl (Θ.2.2.2.2.2.2.1.1, 7, .inl (fun _ => 0))]) ++ [.inl (Θ.2.2.2.2.2.2.1.1, 49, .inl (fun _ => 0))]) ++ [.inl (Θ.2.2.2.2.2.2.1.1, 7, .inl (fun _ => 0))])) C hnm inT12 tyX12_ok nmX12 n (cq_get0 hQ) rfl 22 (by decide) w_8_49 rfl rfl rfl (by decide) (cq_put hQ rfl) dX12_init_75 ?_
  refine y_aload_n C 0 dX12_init_78 rfl rfl ?_
  refine y_bipush (v := 7) C dX12_init_79 bp_7 ?_
  refine y_newa (N := 7) (n := n + 9) (cs' := Q ++ .inr (12, [.int 0, .ref (b + (n + 1)), .ref (b + (n + 2)), .int 0, .ref (b + (n + 3)), .ref (b + (n + 4)), .int 0, .ref (b + (n + 5)), .int 0, .int 0, .int 0, .int 0, .int (-1), .int 0, .ref (b + (n + 6)), .int 0, .int 0, .int 0, .int 0, .ref (b + (n + 7)), .int 0, .int 0, .ref (b + (n + 8)), .null, .null, .null, .null, .null, .null, .null, .null, .null, .int 0]) :: ((((((((([] ++ [.inl (Θ.2.2.2.2.2.2.1.1, 752, .inl (fun _ => 0))]) ++ [.inl (Θ.2.2.2.2.2.2.1.1, 752, .inl (fun _ => 0))]) ++ [.inl (Θ.2.2.2.2.2.2.1.1, 352, .inl (fun _ => 0))]) ++ [.inl (Θ.2.2.2.2.2.2.1.1, 4224, .inl (fun _ => 0))]) ++ [.inl (Θ.2.2.2.2.2.2.1.1, 400, .inl (fun _ => 0))]) ++ [.inl (Θ.2.2.2.2.2.2.1.1, 7, .inl (fun _ => 0))]) ++ [.inl (Θ.2.2.2.2.2.2.1.1, 49, .inl (fun _ => 0))]) ++ [.inl (Θ.2.2.2.2.2.2.1.1, 7, .inl (fun _ => 0))]) ++ [.inl (Θ.2.2.2.2.2.2.1.1, 7, .inl (fun _ => 0))])) C w_1_64 (by decide) (by decide) (by decide) (cq_len hQ rfl) cq_app ⟨(Nat.le_of_ble_eq_true rfl), (Nat.le_of_ble_eq_true rfl)⟩ dX12_init_81 ?_
  refine y_put (cs' := Q ++ .inr (12, [.int 0, .ref (b + (n + 1)), .ref (b + (n + 2)), .int 0, .ref (b + (n + 3)), .ref (b + (n + 4)), .int 0, .ref (b + (n + 5)), .int 0, .int 0, .int 0, .int 0, .int (-1), .int 0, .ref (b + (n + 6)), .int 0, .int 0, .int 0, .int 0, .ref (b + (n + 7)), .int 0, .int 0, .ref (b + (n + 8)), .ref (b + (n + 9)), .null, .null, .null, .null, .null, .null, .null, .null, .int 0]) :: ((((((((([] ++ [.inl (Θ.2.2.2.2.2.2.1.1, 752, .inl (fun _ => 0))]) ++ [.inl (Θ.2.2.2.2.2.2.1.1, 752, .inl (fun _ => 0))]) ++ [.inl (Θ.2.2.2.2.2.2.1.1, 352, .inl (fun _ => 0))]) ++ [.inl (Θ.2.2.2.2.2.2.1.1, 4224, .inl (fun _ => 0))]) ++ [.inl (Θ.2.2.2.2.2.2.1.1, 400, .inl (fun _ => 0))]) ++ [.inl (Θ.2.2.2.2.2.2.1.1, 7, .inl (fun _ => 0))]) ++ [.inl (Θ.2.2.2.2.2.2.1.1, 49, .inl (fun _ => 0))]) ++ [.inl (Θ.2.2.2.2.2.2.1.1, 7, .inl (fun _ => 0))]) ++ [.inl (Θ.2.2.2.2.2.2.1.1, 7, .inl (fun _ => 0))])) C hnm inT12 tyX12_ok nmX12 n (cq_get0 hQ) rfl 23 (by decide) w_8_50 rfl rfl rfl (by decide) (cq_put hQ rfl) dX12_init_83 ?_
  refine y_aload_n C 0 dX12_init_86 rfl rfl ?_
  refine y_bipush (v := 56) C dX12_init_87 bp_56 ?_
  refine y_newa (N := 56) (n := n + 10) (cs' := Q ++ .inr (12, [.int 0, .ref (b + (n + 1)), .ref (b + (n + 2)), .int 0, .ref (b + (n + 3)), .ref (b + (n + 4)), .int 0, .ref (b + (n + 5)), .int 0, .int 0, .int 0, .int 0, .int (-1), .int 0, .ref (b + (n + 6)), .int 0, .int 0, .int 0, .int 0, .ref (b + (n + 7)), .int 0, .int 0, .ref (b + (n + 8)), .ref (b + (n + 9)), .null, .null, .null, .null, .null, .null, .null, .null, .int 0]) :: (((((((((([] ++ [.inl (Θ.2.2.2.2.2.2.1.1, 752, .inl (fun _ => 0))]) ++ [.inl (Θ.2.2.2.2.2.2.1.1, 752, .inl (fun _ => 0))]) ++ [.inl (Θ.2.2.2.2.2.2.1.1, 352, .inl (fun _ => 0))]) ++ [.inl (Θ.2.2.2.2.2.2.1.1, 4224, .inl (fun _ => 0))]) ++ [.inl (Θ.2.2.2.2.2.2.1.1, 400, .inl (fun _ => 0))]) ++ [.inl (Θ.2.2.2.2.2.2.1.1, 7, .inl (fun _ => 0))]) ++ [.inl (Θ.2.2.2.2.2.2.1.1, 49, .inl (fun _ => 0))]) ++ [.inl (Θ.2.2.2.2.2.2.1.1, 7, .inl (fun _ => 0))]) ++ [.inl (Θ.2.2.2.2.2.2.1.1, 7, .inl (fun _ => 0))]) ++ [.inl (Θ.2.2.2.2.2.2.1.1, 56, .inl (fun _ => 0))])) C w_1_64 (by decide) (by decide) (by decide) (cq_len hQ rfl) cq_app ⟨(Nat.le_of_ble_eq_true rfl), (Nat.le_of_ble_eq_true rfl)⟩ dX12_init_89 ?_
  refine y_put (cs' := Q ++ .inr (12, [.int 0, .ref (b + (n + 1)), .ref (b + (n + 2)), .int 0, .ref (b + (n + 3)), .ref (b + (n + 4)), .int 0, .ref (b + (n + 5)), .int 0, .int 0, .int 0, .int 0, .int (-1), .int 0, .ref (b + (n + 6)), .int 0, .int 0, .int 0, .int 0, .ref (b + (n + 7)), .int 0, .int 0, .ref (b + (n + 8)), .ref (b + (n + 9)), .ref (b + (n + 10)), .null, .null, .null, .null, .null, .null, .null, .int 0]) :: (((((((((([] ++ [.inl (Θ.2.2.2.2.2.2.1.1, 752, .inl (fun _ => 0))]) ++ [.inl (Θ.2.2.2.2.2.2.1.1, 752, .inl (fun _ => 0))]) ++ [.inl (Θ.2.2.2.2.2.2.1.1, 352, .inl (fun _ => 0))]) ++ [.inl (Θ.2.2.2.2.2.2.1.1, 4224, .inl (fun _ => 0))]) ++ [.inl (Θ.2.2.2.2.2.2.1.1, 400, .inl (fun _ => 0))]) ++ [.inl (Θ.2.2.2.2.2.2.1.1, 7, .inl (fun _ => 0))]) ++ [.inl (Θ.2.2.2.2.2.2.1.1, 49, .inl (fun _ => 0))]) ++ [.inl (Θ.2.2.2.2.2.2.1.1, 7, .inl (fun _ => 0))]) ++ [.inl (Θ.2.2.2.2.2.2.1.1, 7, .inl (fun _ => 0))]) ++ [.inl (Θ.2.2.2.2.2.2.1.1, 56, .inl (fun _ => 0))])) C hnm inT12 tyX12_ok nmX12 n (cq_get0 hQ) rfl 24 (by decide) w_8_51 rfl rfl rfl (by decide) (cq_put hQ rfl) dX12_init_91 ?_
  refine y_aload_n C 0 dX12_init_94 rfl rfl ?_
  refine y_bipush (v := 8) C dX12_init_95 bp_8 ?_
  refine y_newa (N := 8) (n := n + 11) (cs' := Q ++ .inr (12, [.int 0, .ref (b + (n + 1)), .ref (b + (n + 2)), .int 0, .ref (b + (n + 3)), .ref (b + (n + 4)), .int 0, .ref (b + (n + 5)), .int 0, .int 0, .int 0, .int 0, .int (-1), .int 0, .ref (b + (n + 6)), .int 0, .int 0, .int 0, .int 0, .ref (b + (n + 7)), .int 0, .int 0, .ref (b + (n + 8)), .ref (b + (n + 9)), .ref (b + (n + 10)), .null, .null, .null, .null, .null, .null, .null, .int 0]) :: ((((((((((([] ++ [.inl (Θ.2.2.2.2.2.2.1.1, 752, .inl (fun _ => 0))]) ++ [.inl (Θ.2.2.2.2.2.2.1.1, 752, .inl (fun _ => 0))]) ++ [.inl (Θ.2.2.2.2.2.2.1.1, 352, .inl (fun _ => 0))]) ++ [.inl (Θ.2.2.2.2.2.2.1.1, 4224, .inl (fun _ => 0))]) ++ [.inl (Θ.2.2.2.2.2.2.1.1, 400, .inl (fun _ => 0))]) ++ [.inl (Θ.2.2.2.2.2.2.1.1, 7, .inl (fun _ => 0))]) ++ [.inl (Θ.2.2.2.2.2.2.1.1, 49, .inl (fun _ => 0))]) ++ [.inl (Θ.2.2.2.2.2.2.1.1, 7, .inl (fun _ => 0))]) ++ [.inl (Θ.2.2.2.2.2.2.1.1, 7, .inl (fun _ => 0))]) ++ [.inl (Θ.2.2.2.2.2.2.1.1, 56, .inl (fun _ => 0))]) ++ [.inl (Θ.2.2.2.2.2.2.1.1, 8, .inl (fun _ => 0))])) C w_1_64 (by decide) (by decide) (by decide) (cq_len hQ rfl) cq_app ⟨(Nat.le_of_ble_eq_true rfl), (Nat.le_of_ble_eq_true rfl)⟩ dX12_init_97 ?_
  refine y_put (cs' := Q ++ .inr (12, [.int 0, .ref (b + (n + 1)), .ref (b + (n + 2)), .int 0, .ref (b + (n + 3)), .ref (b + (n + 4)), .int 0, .ref (b + (n + 5)), .int 0, .int 0, .int 0, .int 0, .int (-1), .int 0, .ref (b + (n + 6)), .int 0, .int 0, .int 0, .int 0, .ref (b + (n + 7)), .int 0, .int 0, .ref (b + (n + 8)), .ref (b + (n + 9)), .ref (b + (n + 10)), .ref (b + (n + 11)), .null, .null, .null, .null, .null, .null, .int 0]) :: ((((((((((([] ++ [.inl (Θ.2.2.2.2.2.2.1.1, 752, .inl (fun _ => 0))]) ++ [.inl (Θ.2.2.2.2.2.2.1.1, 752, .inl (fun _ => 0))]) ++ [.inl (Θ.2.2.2.2.2.2.1.1, 352, .inl (fun _ => 0))]) ++ [.inl (Θ.2.2.2.2.2.2.1.1, 4224, .inl (fun _ => 0))]) ++ [.inl (Θ.2.2.2.2.2.2.1.1, 400, .inl (fun _ => 0))]) ++ [.inl (Θ.2.2.2.2.2.2.1.1, 7, .inl (fun _ => 0))]) ++ [.inl (Θ.2.2.2.2.2.2.1.1, 49, .inl (fun _ => 0))]) ++ [.inl (Θ.2.2.2.2.2.2.1.1, 7, .inl (fun _ => 0))]) ++ [.inl (Θ.2.2.2.2.2.2.1.1, 7, .inl (fun _ => 0))]) ++ [.inl (Θ.2.2.2.2.2.2.1.1, 56, .inl (fun _ => 0))]) ++ [.inl (Θ.2.2.2.2.2.2.1.1, 8, .inl (fun _ => 0))])) C hnm inT12 tyX12_ok nmX12 n (cq_get0 hQ) rfl 25 (by decide) w_8_52 rfl rfl rfl (by decide) (cq_put hQ rfl) dX12_init_99 ?_
  refine y_aload_n C 0 dX12_init_102 rfl rfl ?_
  refine y_bipush (v := 8) C dX12_init_103 bp_8 ?_
  refine y_newa (N := 8) (n := n + 12) (cs' := Q ++ .inr (12, [.int 0, .ref (b + (n + 1)), .ref (b + (n + 2)), .int 0, .ref (b + (n + 3)), .ref (b + (n + 4)), .int 0, .ref (b + (n + 5)), .int 0, .int 0, .int 0, .int 0, .int (-1), .int 0, .ref (b + (n + 6)), .int 0, .int 0, .int 0, .int 0, .ref (b + (n + 7)), .int 0, .int 0, .ref (b + (n + 8)), .ref (b + (n + 9)), .ref (b + (n + 10)), .ref (b + (n + 11)), .null, .null, .null, .null, .null, .null, .int 0]) :: (((((((((((([] ++ [.inl (Θ.2.2.2.2.2.2.1.1, 752, .inl (fun _ => 0))]) ++ [.inl (Θ.2.2.2.2.2.2.1.1, 752, .inl (fun _ => 0))]) ++ [.inl (Θ.2.2.2.2.2.2.1.1, 352, .inl (fun _ => 0))]) ++ [.inl (Θ.2.2.2.2.2.2.1.1, 4224, .inl (fun _ => 0))]) ++ [.inl (Θ.2.2.2.2.2.2.1.1, 400, .inl (fun _ => 0))]) ++ [.inl (Θ.2.2.2.2.2.2.1.1, 7, .inl (fun _ => 0))]) ++ [.inl (Θ.2.2.2.2.2.2.1.1, 49, .inl (fun _ => 0))]) ++ [.inl (Θ.2.2.2.2.2.2.1.1, 7, .inl (fun _ => 0))]) ++ [.inl (Θ.2.2.2.2.2.2.1.1, 7, .inl (fun _ => 0))]) ++ [.inl (Θ.2.2.2.2.2.2.1.1, 56, .inl (fun _ => 0))]) ++ [.inl (Θ.2.2.2.2.2.2.1.1, 8, .inl (fun _ => 0))]) ++ [.inl (Θ.2.2.2.2.2.2.1.1, 8, .inl (fun _ => 0))])) C w_1_64 (by decide) (by decide) (by decide) (cq_len hQ rfl) cq_app ⟨(Nat.le_of_ble_eq_true rfl), (Nat.le_of_ble_eq_true rfl)⟩ dX12_init_105 ?_
  refine y_put (cs' := Q ++ .inr (12, [.int 0, .ref (b + (n + 1)), .ref (b + (n + 2)), .int 0, .ref (b + (n + 3)), .ref (b + (n + 4)), .int 0, .ref (b + (n + 5)), .int 0, .int 0, .int 0, .int 0, .int (-1), .int 0, .ref (b + (n + 6)), .int 0, .int 0, .int 0, .int 0, .ref (b + (n + 7)), .int 0, .int 0, .ref (b + (n + 8)), .ref (b + (n + 9)), .ref (b + (n + 10)), .ref (b + (n + 11)), .ref (b + (n + 12)), .null, .null, .null, .null, .null, .int 0]) :: (((((((((((([] ++ [.inl (Θ.2.2.2.2.2.2.1.1, 752, .inl (fun _ => 0))]) ++ [.inl (Θ.2.2.2.2.2.2.1.1, 752, .inl (fun _ => 0))]) ++ [.inl (Θ.2.2.2.2.2.2.1.1, 352, .inl (fun _ => 0))]) ++ [.inl (Θ.2.2.2.2.2.2.1.1, 4224, .inl (fun _ => 0))]) ++ [.inl (Θ.2.2.2.2.2.2.1.1, 400, .inl (fun _ => 0))]) ++ [.inl (Θ.2.2.2.2.2.2.1.1, 7, .inl (fun _ => 0))]) ++ [.inl (Θ.2.2.2.2.2.2.1.1, 49, .inl (fun _ => 0))]) ++ [.inl (Θ.2.2.2.2.2.2.1.1, 7, .inl (fun _ => 0))]) ++ [.inl (Θ.2.2.2.2.2.2.1.1, 7, .inl (fun _ => 0))]) ++ [.inl (Θ.2.2.2.2.2.2.1.1, 56, .inl (fun _ => 0))]) ++ [.inl (Θ.2.2.2.2.2.2.1.1, 8, .inl (fun _ => 0))]) ++ [.inl (Θ.2.2.2.2.2.2.1.1, 8, .inl (fun _ => 0))])) C hnm inT12 tyX12_ok nmX12 n (cq_get0 hQ) rfl 26 (by decide) w_8_53 rfl rfl rfl (by decide) (cq_put hQ rfl) dX12_init_107 ?_
  refine y_aload_n C 0 dX12_init_110 rfl rfl ?_
  refine y_bipush (v := 8) C dX12_init_111 bp_8 ?_
  refine y_newa (N := 8) (n := n + 13) (cs' := Q ++ .inr (12, [.int 0, .ref (b + (n + 1)), .ref (b + (n + 2)), .int 0, .ref (b + (n + 3)), .ref (b + (n + 4)), .int 0, .ref (b + (n + 5)), .int 0, .int 0, .int 0, .int 0, .int (-1), .int 0, .ref (b + (n + 6)), .int 0, .int 0, .int 0, .int 0, .ref (b + (n + 7)), .int 0, .int 0, .ref (b + (n + 8)), .ref (b + (n + 9)), .ref (b + (n + 10)), .ref (b + (n + 11)), .ref (b + (n + 12)), .null, .null, .null, .null, .null, .int 0]) :: ((((((((((((([] ++ [.inl (Θ.2.2.2.2.2.2.1.1, 752, .inl (fun _ => 0))]) ++ [.inl (Θ.2.2.2.2.2.2.1.1, 752, .inl (fun _ => 0))]) ++ [.inl (Θ.2.2.2.2.2.2.1.1, 352, .inl (fun _ => 0))]) ++ [.inl (Θ.2.2.2.2.2.2.1.1, 4224, .inl (fun _ => 0))]) ++ [.inl (Θ.2.2.2.2.2.2.1.1, 400, .inl (fun _ => 0))]) ++ [.inl (Θ.2.2.2.2.2.2.1.1, 7, .inl (fun _ => 0))]) ++ [.inl (Θ.2.2.2.2.2.2.1.1, 49, .inl (fun _ => 0))]) ++ [.inl (Θ.2.2.2.2.2.2.1.1, 7, .inl (fun _ => 0))]) ++ [.inl (Θ.2.2.2.2.2.2.1.1, 7, .inl (fun _ => 0))]) ++ [.inl (Θ.2.2.2.2.2.2.1.1, 56, .inl (fun _ => 0))]) ++ [.inl (Θ.2.2.2.2.2.2.1.1, 8, .inl (fun _ => 0))]) ++ [.inl (Θ.2.2.2.2.2.2.1.1, 8, .inl (fun _ => 0))]) ++ [.inl (Θ.2.2.2.2.2.2.1.1, 8, .inl (fun _ => 0))])) C w_1_64 (by decide) (by decide) (by decide) (cq_len hQ rfl) cq_app ⟨(Nat.le_of_ble_eq_true rfl), (Nat.le_of_ble_eq_true rfl)⟩ dX12_init_113 ?_
  refine y_put (cs' := Q ++ .inr (12, [.int 0, .ref (b + (n + 1)), .ref (b + (n + 2)), .int 0, .ref (b + (n + 3)), .ref (b + (n + 4)), .int 0, .ref (b + (n + 5)), .int 0, .int 0, .int 0, .int 0, .int (-1), .int 0, .ref (b + (n + 6)), .int 0, .int 0, .int 0, .int 0, .ref (b + (n + 7)), .int 0, .int 0, .ref (b + (n + 8)), .ref (b + (n + 9)), .ref (b + (n + 10)), .ref (b + (n + 11)), .ref (b + (n + 12)), .ref (b + (n + 13)), .null, .null, .null, .null, .int 0]) :: ((((((((((((([] ++ [.inl (Θ.2.2.2.2.2.2.1.1, 752, .inl (fun _ => 0))]) ++ [.inl (Θ.2.2.2.2.2.2.1.1, 752, .inl (fun _ => 0))]) ++ [.inl (Θ.2.2.2.2.2.2.1.1, 352, .inl (fun _ => 0))]) ++ [.inl (Θ.2.2.2.2.2.2.1.1, 4224, .inl (fun _ => 0))]) ++ [.inl (Θ.2.2.2.2.2.2.1.1, 400, .inl (fun _ => 0))]) ++ [.inl (Θ.2.2.2.2.2.2.1.1, 7, .inl (fun _ => 0))]) ++ [.inl (Θ.2.2.2.2.2.2.1.1, 49, .inl (fun _ => 0))]) ++ [.inl (Θ.2.2.2.2.2.2.1.1, 7, .inl (fun _ => 0))]) ++ [.inl (Θ.2.2.2.2.2.2.1.1, 7, .inl (fun _ => 0))]) ++ [.inl (Θ.2.2.2.2.2.2.1.1, 56, .inl (fun _ => 0))]) ++ [.inl (Θ.2.2.2.2.2.2.1.1, 8, .inl (fun _ => 0))]) ++ [.inl (Θ.2.2.2.2.2.2.1.1, 8, .inl (fun _ => 0))]) ++ [.inl (Θ.2.2.2.2.2.2.1.1, 8, .inl (fun _ => 0))])) C hnm inT12 tyX12_ok nmX12 n (cq_get0 hQ) rfl 27 (by decide) w_8_54 rfl rfl rfl (by decide) (cq_put hQ rfl) dX12_init_115 ?_
  refine y_aload_n C 0 dX12_init_118 rfl rfl ?_
  refine y_bipush (v := 49) C dX12_init_119 bp_49 ?_
  refine y_newa (N := 49) (n := n + 14) (cs' := Q ++ .inr (12, [.int 0, .ref (b + (n + 1)), .ref (b + (n + 2)), .int 0, .ref (b + (n + 3)), .ref (b + (n + 4)), .int 0, .ref (b + (n + 5)), .int 0, .int 0, .int 0, .int 0, .int (-1), .int 0, .ref (b + (n + 6)), .int 0, .int 0, .int 0, .int 0, .ref (b + (n + 7)), .int 0, .int 0, .ref (b + (n + 8)), .ref (b + (n + 9)), .ref (b + (n + 10)), .ref (b + (n + 11)), .ref (b + (n + 12)), .ref (b + (n + 13)), .null, .null, .null, .null, .int 0]) :: (((((((((((((([] ++ [.inl (Θ.2.2.2.2.2.2.1.1, 752, .inl (fun _ => 0))]) ++ [.inl (Θ.2.2.2.2.2.2.1.1, 752, .inl (fun _ => 0))]) ++ [.inl (Θ.2.2.2.2.2.2.1.1, 352, .inl (fun _ => 0))]) ++ [.inl (Θ.2.2.2.2.2.2.1.1, 4224, .inl (fun _ => 0))]) ++ [.inl (Θ.2.2.2.2.2.2.1.1, 400, .inl (fun _ => 0))]) ++ [.inl (Θ.2.2.2.2.2.2.1.1, 7, .inl (fun _ => 0))]) ++ [.inl (Θ.2.2.2.2.2.2.1.1, 49, .inl (fun _ => 0))]) ++ [.inl (Θ.2.2.2.2.2.2.1.1, 7, .inl (fun _ => 0))]) ++ [.inl (Θ.2.2.2.2.2.2.1.1, 7, .inl (fun _ => 0))]) ++ [.inl (Θ.2.2.2.2.2.2.1.1, 56, .inl (fun _ => 0))]) ++ [.inl (Θ.2.2.2.2.2.2.1.1, 8, .inl (fun _ => 0))]) ++ [.inl (Θ.2.2.2.2.2.2.1.1, 8, .inl (fun _ => 0))]) ++ [.inl (Θ.2.2.2.2.2.2.1.1, 8, .inl (fun _ => 0))]) ++ [.inl (Θ.2.2.2.2.2.2.1.1, 49, .inl (fun _ => 0))])) C w_1_64 (by decide) (by decide) (by decide) (cq_len hQ rfl) cq_app ⟨(Nat.le_of_ble_eq_true rfl), (Nat.le_of_ble_eq_true rfl)⟩ dX12_init_121 ?_
  refine y_put (cs' := Q ++ .inr (12, [.int 0, .ref (b + (n + 1)), .ref (b + (n + 2)), .int 0, .ref (b + (n + 3)), .ref (b + (n + 4)), .int 0, .ref (b + (n + 5)), .int 0, .int 0, .int 0, .int 0, .int (-1), .int 0, .ref (b + (n + 6)), .int 0, .int 0, .int 0, .int 0, .ref (b + (n + 7)), .int 0, .int 0, .ref (b + (n + 8)), .ref (b + (n + 9)), .ref (b + (n + 10)), .ref (b + (n + 11)), .ref (b + (n + 12)), .ref (b + (n + 13)), .ref (b + (n + 14)), .null, .null, .null, .int 0]) :: (((((((((((((([] ++ [.inl (Θ.2.2.2.2.2.2.1.1, 752, .inl (fun _ => 0))]) ++ [.inl (Θ.2.2.2.2.2.2.1.1, 752, .inl (fun _ => 0))]) ++ [.inl (Θ.2.2.2.2.2.2.1.1, 352, .inl (fun _ => 0))]) ++ [.inl (Θ.2.2.2.2.2.2.1.1, 4224, .inl (fun _ => 0))]) ++ [.inl (Θ.2.2.2.2.2.2.1.1, 400, .inl (fun _ => 0))]) ++ [.inl (Θ.2.2.2.2.2.2.1.1, 7, .inl (fun _ => 0))]) ++ [.inl (Θ.2.2.2.2.2.2.1.1, 49, .inl (fun _ => 0))]) ++ [.inl (Θ.2.2.2.2.2.2.1.1, 7, .inl (fun _ => 0))]) ++ [.inl (Θ.2.2.2.2.2.2.1.1, 7, .inl (fun _ => 0))]) ++ [.inl (Θ.2.2.2.2.2.2.1.1, 56, .inl (fun _ => 0))]) ++ [.inl (Θ.2.2.2.2.2.2.1.1, 8, .inl (fun _ => 0))]) ++ [.inl (Θ.2.2.2.2.2.2.1.1, 8, .inl (fun _ => 0))]) ++ [.inl (Θ.2.2.2.2.2.2.1.1, 8, .inl (fun _ => 0))]) ++ [.inl (Θ.2.2.2.2.2.2.1.1, 49, .inl (fun _ => 0))])) C hnm inT12 tyX12_ok nmX12 n (cq_get0 hQ) rfl 28 (by decide) w_8_55 rfl rfl rfl (by decide) (cq_put hQ rfl) dX12_init_123 ?_
  refine y_aload_n C 0 dX12_init_126 rfl rfl ?_
  refine y_bipush (v := 7) C dX12_init_127 bp_7 ?_
  refine y_newa (N := 7) (n := n + 15) (cs' := Q ++ .inr (12, [.int 0, .ref (b + (n + 1)), .ref (b + (n + 2)), .int 0, .ref (b + (n + 3)), .ref (b + (n + 4)), .int 0, .ref (b + (n + 5)), .int 0, .int 0, .int 0, .int 0, .int (-1), .int 0, .ref (b + (n + 6)), .int 0, .int 0, .int 0, .int 0, .ref (b + (n + 7)), .int 0, .int 0, .ref (b + (n + 8)), .ref (b + (n + 9)), .ref (b + (n + 10)), .ref (b + (n + 11)), .ref (b + (n + 12)), .ref (b + (n + 13)), .ref (b + (n + 14)), .null, .null, .null, .int 0]) :: ((((((((((((((([] ++ [.inl (Θ.2.2.2.2.2.2.1.1, 752, .inl (fun _ => 0))]) ++ [.inl (Θ.2.2.2.2.2.2.1.1, 752, .inl (fun _ => 0))]) ++ [.inl (Θ.2.2.2.2.2.2.1.1, 352, .inl (fun _ => 0))]) ++ [.inl (Θ.2.2.2.2.2.2.1.1, 4224, .inl (fun _ => 0))]) ++ [.inl (Θ.2.2.2.2.2.2.1.1, 400, .inl (fun _ => 0))]) ++ [.inl (Θ.2.2.2.2.2.2.1.1, 7, .inl (fun _ => 0))]) ++ [.inl (Θ.2.2.2.2.2.2.1.1, 49, .inl (fun _ => 0))]) ++ [.inl (Θ.2.2.2.2.2.2.1.1, 7, .inl (fun _ => 0))]) ++ [.inl (Θ.2.2.2.2.2.2.1.1, 7, .inl (fun _ => 0))]) ++ [.inl (Θ.2.2.2.2.2.2.1.1, 56, .inl (fun _ => 0))]) ++ [.inl (Θ.2.2.2.2.2.2.1.1, 8, .inl (fun _ => 0))]) ++ [.inl (Θ.2.2.2.2.2.2.1.1, 8, .inl (fun _ => 0))]) ++ [.inl (Θ.2.2.2.2.2.2.1.1, 8, .inl (fun _ => 0))]) ++ [.inl (Θ.2.2.2.2.2.2.1.1, 49, .inl (fun _ => 0))]) ++ [.inl (Θ.2.2.2.2.2.2.1.1, 7, .inl (fun _ => 0))])) C w_1_64 (by decide) (by decide) (by decide) (cq_len hQ rfl) cq_app ⟨(Nat.le_of_ble_eq_true rfl), (Nat.le_of_ble_eq_true rfl)⟩ dX12_init_129 ?_
  refine y_put (cs' := Q ++ .inr (12, [.int 0, .ref (b + (n + 1)), .ref (b + (n + 2)), .int 0, .ref (b + (n + 3)), .ref (b + (n + 4)), .int 0, .ref (b + (n + 5)), .int 0, .int 0, .int 0, .int 0, .int (-1), .int 0, .ref (b + (n + 6)), .int 0, .int 0, .int 0, .int 0, .ref (b + (n + 7)), .int 0, .int 0, .ref (b + (n + 8)), .ref (b + (n + 9)), .ref (b + (n + 10)), .ref (b + (n + 11)), .ref (b + (n + 12)), .ref (b + (n + 13)), .ref (b + (n + 14)), .ref (b + (n + 15)), .null, .null, .int 0]) :: ((((((((((((((([] ++ [.inl (Θ.2.2.2.2.2.2.1.1, 752, .inl (fun _ => 0))]) ++ [.inl (Θ.2.2.2.2.2.2.1.1, 752, .inl (fun _ => 0))]) ++ [.inl (Θ.2.2.2.2.2.2.1.1, 352, .inl (fun _ => 0))]) ++ [.inl (Θ.2.2.2.2.2.2.1.1, 4224, .inl (fun _ => 0))]) ++ [.inl (Θ.2.2.2.2.2.2.1.1, 400, .inl (fun _ => 0))]) ++ [.inl (Θ.2.2.2.2.2.2.1.1, 7, .inl (fun _ => 0))]) ++ [.inl (Θ.2.2.2.2.2.2.1.1, 49, .inl (fun _ => 0))]) ++ [.inl (Θ.2.2.2.2.2.2.1.1, 7, .inl (fun _ => 0))]) ++ [.inl (Θ.2.2.2.2.2.2.1.1, 7, .inl (fun _ => 0))]) ++ [.inl (Θ.2.2.2.2.2.2.1.1, 56, .inl (fun _ => 0))]) ++ [.inl (Θ.2.2.2.2.2.2.1.1, 8, .inl (fun _ => 0))]) ++ [.inl (Θ.2.2.2.2.2.2.1.1, 8, .inl (fun _ => 0))]) ++ [.inl (Θ.2.2.2.2.2.2.1.1, 8, .inl (fun _ => 0))]) ++ [.inl (Θ.2.2.2.2.2.2.1.1, 49, .inl (fun _ => 0))]) ++ [.inl (Θ.2.2.2.2.2.2.1.1, 7, .inl (fun _ => 0))])) C hnm inT12 tyX12_ok nmX12 n (cq_get0 hQ) rfl 29 (by decide) w_8_56 rfl rfl rfl (by decide) (cq_put hQ rfl) dX12_init_131 ?_
  refine y_aload_n C 0 dX12_init_134 rfl rfl ?_
  refine y_sipush (v := 128) C dX12_init_135 sp_128 ?_
  refine y_newa (N := 128) (n := n + 16) (cs' := Q ++ .inr (12, [.int 0, .ref (b + (n + 1)), .ref (b + (n + 2)), .int 0, .ref (b + (n + 3)), .ref (b + (n + 4)), .int 0, .ref (b + (n + 5)), .int 0, .int 0, .int 0, .int 0, .int (-1), .int 0, .ref (b + (n + 6)), .int 0, .int 0, .int 0, .int 0, .ref (b + (n + 7)), .int 0, .int 0, .ref (b + (n + 8)), .ref (b + (n + 9)), .ref (b + (n + 10)), .ref (b + (n + 11)), .ref (b + (n + 12)), .ref (b + (n + 13)), .ref (b + (n + 14)), .ref (b + (n + 15)), .null, .null, .int 0]) :: (((((((((((((((([] ++ [.inl (Θ.2.2.2.2.2.2.1.1, 752, .inl (fun _ => 0))]) ++ [.inl (Θ.2.2.2.2.2.2.1.1, 752, .inl (fun _ => 0))]) ++ [.inl (Θ.2.2.2.2.2.2.1.1, 352, .inl (fun _ => 0))]) ++ [.inl (Θ.2.2.2.2.2.2.1.1, 4224, .inl (fun _ => 0))]) ++ [.inl (Θ.2.2.2.2.2.2.1.1, 400, .inl (fun _ => 0))]) ++ [.inl (Θ.2.2.2.2.2.2.1.1, 7, .inl (fun _ => 0))]) ++ [.inl (Θ.2.2.2.2.2.2.1.1, 49, .inl (fun _ => 0))]) ++ [.inl (Θ.2.2.2.2.2.2.1.1, 7, .inl (fun _ => 0))]) ++ [.inl (Θ.2.2.2.2.2.2.1.1, 7, .inl (fun _ => 0))]) ++ [.inl (Θ.2.2.2.2.2.2.1.1, 56, .inl (fun _ => 0))]) ++ [.inl (Θ.2.2.2.2.2.2.1.1, 8, .inl (fun _ => 0))]) ++ [.inl (Θ.2.2.2.2.2.2.1.1, 8, .inl (fun _ => 0))]) ++ [.inl (Θ.2.2.2.2.2.2.1.1, 8, .inl (fun _ => 0))]) ++ [.inl (Θ.2.2.2.2.2.2.1.1, 49, .inl (fun _ => 0))]) ++ [.inl (Θ.2.2.2.2.2.2.1.1, 7, .inl (fun _ => 0))]) ++ [.inl (Θ.2.2.2.2.2.2.1.1, 128, .inl (fun _ => 0))])) C w_1_64 (by decide) (by decide) (by decide) (cq_len hQ rfl) cq_app ⟨(Nat.le_of_ble_eq_true rfl), (Nat.le_of_ble_eq_true rfl)⟩ dX12_init_138 ?_
  refine y_put (cs' := Q ++ .inr (12, [.int 0, .ref (b + (n + 1)), .ref (b + (n + 2)), .int 0, .ref (b + (n + 3)), .ref (b + (n + 4)), .int 0, .ref (b + (n + 5)), .int 0, .int 0, .int 0, .int 0, .int (-1), .int 0, .ref (b + (n + 6)), .int 0, .int 0, .int 0, .int 0, .ref (b + (n + 7)), .int 0, .int 0, .ref (b + (n + 8)), .ref (b + (n + 9)), .ref (b + (n + 10)), .ref (b + (n + 11)), .ref (b + (n + 12)), .ref (b + (n + 13)), .ref (b + (n + 14)), .ref (b + (n + 15)), .ref (b + (n + 16)), .null, .int 0]) :: (((((((((((((((([] ++ [.inl (Θ.2.2.2.2.2.2.1.1, 752, .inl (fun _ => 0))]) ++ [.inl (Θ.2.2.2.2.2.2.1.1, 752, .inl (fun _ => 0))]) ++ [.inl (Θ.2.2.2.2.2.2.1.1, 352, .inl (fun _ => 0))]) ++ [.inl (Θ.2.2.2.2.2.2.1.1, 4224, .inl (fun _ => 0))]) ++ [.inl (Θ.2.2.2.2.2.2.1.1, 400, .inl (fun _ => 0))]) ++ [.inl (Θ.2.2.2.2.2.2.1.1, 7, .inl (fun _ => 0))]) ++ [.inl (Θ.2.2.2.2.2.2.1.1, 49, .inl (fun _ => 0))]) ++ [.inl (Θ.2.2.2.2.2.2.1.1, 7, .inl (fun _ => 0))]) ++ [.inl (Θ.2.2.2.2.2.2.1.1, 7, .inl (fun _ => 0))]) ++ [.inl (Θ.2.2.2.2.2.2.1.1, 56, .inl (fun _ => 0))]) ++ [.inl (Θ.2.2.2.2.2.2.1.1, 8, .inl (fun _ => 0))]) ++ [.inl (Θ.2.2.2.2.2.2.1.1, 8, .inl (fun _ => 0))]) ++ [.inl (Θ.2.2.2.2.2.2.1.1, 8, .inl (fun _ => 0))]) ++ [.inl (Θ.2.2.2.2.2.2.1.1, 49, .inl (fun _ => 0))]) ++ [.inl (Θ.2.2.2.2.2.2.1.1, 7, .inl (fun _ => 0))]) ++ [.inl (Θ.2.2.2.2.2.2.1.1, 128, .inl (fun _ => 0))])) C hnm inT12 tyX12_ok nmX12 n (cq_get0 hQ) rfl 30 (by decide) w_8_57 rfl rfl rfl (by decide) (cq_put hQ rfl) dX12_init_140 ?_
  refine y_aload_n C 0 dX12_init_143 rfl rfl ?_
  refine y_sipush (v := 1024) C dX12_init_144 sp_1024 ?_
  refine y_newa (N := 1024) (n := n + 17) (cs' := Q ++ .inr (12, [.int 0, .ref (b + (n + 1)), .ref (b + (n + 2)), .int 0, .ref (b + (n + 3)), .ref (b + (n + 4)), .int 0, .ref (b + (n + 5)), .int 0, .int 0, .int 0, .int 0, .int (-1), .int 0, .ref (b + (n + 6)), .int 0, .int 0, .int 0, .int 0, .ref (b + (n + 7)), .int 0, .int 0, .ref (b + (n + 8)), .ref (b + (n + 9)), .ref (b + (n + 10)), .ref (b + (n + 11)), .ref (b + (n + 12)), .ref (b + (n + 13)), .ref (b + (n + 14)), .ref (b + (n + 15)), .ref (b + (n + 16)), .null, .int 0]) :: ((((((((((((((((([] ++ [.inl (Θ.2.2.2.2.2.2.1.1, 752, .inl (fun _ => 0))]) ++ [.inl (Θ.2.2.2.2.2.2.1.1, 752, .inl (fun _ => 0))]) ++ [.inl (Θ.2.2.2.2.2.2.1.1, 352, .inl (fun _ => 0))]) ++ [.inl (Θ.2.2.2.2.2.2.1.1, 4224, .inl (fun _ => 0))]) ++ [.inl (Θ.2.2.2.2.2.2.1.1, 400, .inl (fun _ => 0))]) ++ [.inl (Θ.2.2.2.2.2.2.1.1, 7, .inl (fun _ => 0))]) ++ [.inl (Θ.2.2.2.2.2.2.1.1, 49, .inl (fun _ => 0))]) ++ [.inl (Θ.2.2.2.2.2.2.1.1, 7, .inl (fun _ => 0))]) ++ [.inl (Θ.2.2.2.2.2.2.1.1, 7, .inl (fun _ => 0))]) ++ [.inl (Θ.2.2.2.2.2.2.1.1, 56, .inl (fun _ => 0))]) ++ [.inl (Θ.2.2.2.2.2.2.1.1, 8, .inl (fun _ => 0))]) ++ [.inl (Θ.2.2.2.2.2.2.1.1, 8, .inl (fun _ => 0))]) ++ [.inl (Θ.2.2.2.2.2.2.1.1, 8, .inl (fun _ => 0))]) ++ [.inl (Θ.2.2.2.2.2.2.1.1, 49, .inl (fun _ => 0))]) ++ [.inl (Θ.2.2.2.2.2.2.1.1, 7, .inl (fun _ => 0))]) ++ [.inl (Θ.2.2.2.2.2.2.1.1, 128, .inl (fun _ => 0))]) ++ [.inl (Θ.2.2.2.2.2.2.1.1, 1024, .inl (fun _ => 0))])) C w_1_64 (by decide) (by decide) (by decide) (cq_len hQ rfl) cq_app ⟨(Nat.le_of_ble_eq_true rfl), (Nat.le_of_ble_eq_true rfl)⟩ dX12_init_147 ?_
  refine y_put (cs' := Q ++ .inr (12, [.int 0, .ref (b + (n + 1)), .ref (b + (n + 2)), .int 0, .ref (b + (n + 3)), .ref (b + (n + 4)), .int 0, .ref (b + (n + 5)), .int 0, .int 0, .int 0, .int 0, .int (-1), .int 0, .ref (b + (n + 6)), .int 0, .int 0, .int 0, .int 0, .ref (b + (n + 7)), .int 0, .int 0, .ref (b + (n + 8)), .ref (b + (n + 9)), .ref (b + (n + 10)), .ref (b + (n + 11)), .ref (b + (n + 12)), .ref (b + (n + 13)), .ref (b + (n + 14)), .ref (b + (n + 15)), .ref (b + (n + 16)), .ref (b + (n + 17)), .int 0]) :: ((((((((((((((((([] ++ [.inl (Θ.2.2.2.2.2.2.1.1, 752, .inl (fun _ => 0))]) ++ [.inl (Θ.2.2.2.2.2.2.1.1, 752, .inl (fun _ => 0))]) ++ [.inl (Θ.2.2.2.2.2.2.1.1, 352, .inl (fun _ => 0))]) ++ [.inl (Θ.2.2.2.2.2.2.1.1, 4224, .inl (fun _ => 0))]) ++ [.inl (Θ.2.2.2.2.2.2.1.1, 400, .inl (fun _ => 0))]) ++ [.inl (Θ.2.2.2.2.2.2.1.1, 7, .inl (fun _ => 0))]) ++ [.inl (Θ.2.2.2.2.2.2.1.1, 49, .inl (fun _ => 0))]) ++ [.inl (Θ.2.2.2.2.2.2.1.1, 7, .inl (fun _ => 0))]) ++ [.inl (Θ.2.2.2.2.2.2.1.1, 7, .inl (fun _ => 0))]) ++ [.inl (Θ.2.2.2.2.2.2.1.1, 56, .inl (fun _ => 0))]) ++ [.inl (Θ.2.2.2.2.2.2.1.1, 8, .inl (fun _ => 0))]) ++ [.inl (Θ.2.2.2.2.2.2.1.1, 8, .inl (fun _ => 0))]) ++ [.inl (Θ.2.2.2.2.2.2.1.1, 8, .inl (fun _ => 0))]) ++ [.inl (Θ.2.2.2.2.2.2.1.1, 49, .inl (fun _ => 0))]) ++ [.inl (Θ.2.2.2.2.2.2.1.1, 7, .inl (fun _ => 0))]) ++ [.inl (Θ.2.2.2.2.2.2.1.1, 128, .inl (fun _ => 0))]) ++ [.inl (Θ.2.2.2.2.2.2.1.1, 1024, .inl (fun _ => 0))])) C hnm inT12 tyX12_ok nmX12 n (cq_get0 hQ) rfl 31 (by decide) w_8_58 rfl rfl rfl (by decide) (cq_put hQ rfl) dX12_init_149 ?_
  refine y_aload_n C 0 dX12_init_152 rfl rfl ?_
  refine y_get (v := .ref (b + (n + 1))) C inT12 n (cq_get0 hQ) rfl 1 (by decide) w_8_28 rfl dX12_init_153 ?_
  refine y_iconst (v := 1) C dX12_init_156 ic_1 ?_
  refine y_iconst (v := (-1)) C dX12_init_157 ic_m1 ?_
  refine y_ast (cs' := Q ++ .inr (12, [.int 0, .ref (b + (n + 1)), .ref (b + (n + 2)), .int 0, .ref (b + (n + 3)), .ref (b + (n + 4)), .int 0, .ref (b + (n + 5)), .int 0, .int 0, .int 0, .int 0, .int (-1), .int 0, .ref (b + (n + 6)), .int 0, .int 0, .int 0, .int 0, .ref (b + (n + 7)), .int 0, .int 0, .ref (b + (n + 8)), .ref (b + (n + 9)), .ref (b + (n + 10)), .ref (b + (n + 11)), .ref (b + (n + 12)), .ref (b + (n + 13)), .ref (b + (n + 14)), .ref (b + (n + 15)), .ref (b + (n + 16)), .ref (b + (n + 17)), .int 0]) :: ((((((((((((((((([] ++ [.inl (Θ.2.2.2.2.2.2.1.1, 752, .inl (upd (fun _ => 0) 1 (-1)))]) ++ [.inl (Θ.2.2.2.2.2.2.1.1, 752, .inl (fun _ => 0))]) ++ [.inl (Θ.2.2.2.2.2.2.1.1, 352, .inl (fun _ => 0))]) ++ [.inl (Θ.2.2.2.2.2.2.1.1, 4224, .inl (fun _ => 0))]) ++ [.inl (Θ.2.2.2.2.2.2.1.1, 400, .inl (fun _ => 0))]) ++ [.inl (Θ.2.2.2.2.2.2.1.1, 7, .inl (fun _ => 0))]) ++ [.inl (Θ.2.2.2.2.2.2.1.1, 49, .inl (fun _ => 0))]) ++ [.inl (Θ.2.2.2.2.2.2.1.1, 7, .inl (fun _ => 0))]) ++ [.inl (Θ.2.2.2.2.2.2.1.1, 7, .inl (fun _ => 0))]) ++ [.inl (Θ.2.2.2.2.2.2.1.1, 56, .inl (fun _ => 0))]) ++ [.inl (Θ.2.2.2.2.2.2.1.1, 8, .inl (fun _ => 0))]) ++ [.inl (Θ.2.2.2.2.2.2.1.1, 8, .inl (fun _ => 0))]) ++ [.inl (Θ.2.2.2.2.2.2.1.1, 8, .inl (fun _ => 0))]) ++ [.inl (Θ.2.2.2.2.2.2.1.1, 49, .inl (fun _ => 0))]) ++ [.inl (Θ.2.2.2.2.2.2.1.1, 7, .inl (fun _ => 0))]) ++ [.inl (Θ.2.2.2.2.2.2.1.1, 128, .inl (fun _ => 0))]) ++ [.inl (Θ.2.2.2.2.2.2.1.1, 1024, .inl (fun _ => 0))])) C (n + 1) (cq_get hQ rfl) (by decide) (cq_set hQ rfl) dX12_init_158 ?_
  refine y_aload_n C 0 dX12_init_159 rfl rfl ?_
  refine y_get (v := .ref (b + (n + 1))) C inT12 n (cq_get0 hQ) rfl 1 (by decide) w_8_28 rfl dX12_init_160 ?_
  refine y_bipush (v := 9) C dX12_init_163 bp_9 ?_
  refine y_iconst (v := 1) C dX12_init_165 ic_1 ?_
  refine y_ast (cs' := Q ++ .inr (12, [.int 0, .ref (b + (n + 1)), .ref (b + (n + 2)), .int 0, .ref (b + (n + 3)), .ref (b + (n + 4)), .int 0, .ref (b + (n + 5)), .int 0, .int 0, .int 0, .int 0, .int (-1), .int 0, .ref (b + (n + 6)), .int 0, .int 0, .int 0, .int 0, .ref (b + (n + 7)), .int 0, .int 0, .ref (b + (n + 8)), .ref (b + (n + 9)), .ref (b + (n + 10)), .ref (b + (n + 11)), .ref (b + (n + 12)), .ref (b + (n + 13)), .ref (b + (n + 14)), .ref (b + (n + 15)), .ref (b + (n + 16)), .ref (b + (n + 17)), .int 0]) :: ((((((((((((((((([] ++ [.inl (Θ.2.2.2.2.2.2.1.1, 752, .inl (upd (upd (fun _ => 0) 1 (-1)) 9 1))]) ++ [.inl (Θ.2.2.2.2.2.2.1.1, 752, .inl (fun _ => 0))]) ++ [.inl (Θ.2.2.2.2.2.2.1.1, 352, .inl (fun _ => 0))]) ++ [.inl (Θ.2.2.2.2.2.2.1.1, 4224, .inl (fun _ => 0))]) ++ [.inl (Θ.2.2.2.2.2.2.1.1, 400, .inl (fun _ => 0))]) ++ [.inl (Θ.2.2.2.2.2.2.1.1, 7, .inl (fun _ => 0))]) ++ [.inl (Θ.2.2.2.2.2.2.1.1, 49, .inl (fun _ => 0))]) ++ [.inl (Θ.2.2.2.2.2.2.1.1, 7, .inl (fun _ => 0))]) ++ [.inl (Θ.2.2.2.2.2.2.1.1, 7, .inl (fun _ => 0))]) ++ [.inl (Θ.2.2.2.2.2.2.1.1, 56, .inl (fun _ => 0))]) ++ [.inl (Θ.2.2.2.2.2.2.1.1, 8, .inl (fun _ => 0))]) ++ [.inl (Θ.2.2.2.2.2.2.1.1, 8, .inl (fun _ => 0))]) ++ [.inl (Θ.2.2.2.2.2.2.1.1, 8, .inl (fun _ => 0))]) ++ [.inl (Θ.2.2.2.2.2.2.1.1, 49, .inl (fun _ => 0))]) ++ [.inl (Θ.2.2.2.2.2.2.1.1, 7, .inl (fun _ => 0))]) ++ [.inl (Θ.2.2.2.2.2.2.1.1, 128, .inl (fun _ => 0))]) ++ [.inl (Θ.2.2.2.2.2.2.1.1, 1024, .inl (fun _ => 0))])) C (n + 1) (cq_get hQ rfl) (by decide) (cq_set hQ rfl) dX12_init_166 ?_
  refine y_iconst (v := 0) C dX12_init_167 ic_0 ?_
  refine y_istore_n (lv' := [(1, .int 0), (0, .ref (b + n))]) C dX12_init_168 rfl (Nat.le_of_ble_eq_true rfl) rfl ?_
  refine y_iload_n C 0 dX12_init_169 rfl rfl ?_
  refine y_iconst (v := 4) C dX12_init_170 ic_4 ?_
  refine y_geF C 190 dX12_init_171 (by decide) (by decide) ?_
  refine y_aload_n C 1 dX12_init_174 rfl rfl ?_
  refine y_get (v := .ref (b + (n + 1))) C inT12 n (cq_get0 hQ) rfl 1 (by decide) w_8_28 rfl dX12_init_175 ?_
  refine y_bipush (v := 10) C dX12_init_178 bp_10 ?_
  refine y_iload_n C 0 dX12_init_180 rfl rfl ?_
  refine y_iadd (v := 10) C dX12_init_181 (by decide) ?_
  refine y_iconst (v := 5) C dX12_init_182 ic_5 ?_
  refine y_ast (cs' := Q ++ .inr (12, [.int 0, .ref (b + (n + 1)), .ref (b + (n + 2)), .int 0, .ref (b + (n + 3)), .ref (b + (n + 4)), .int 0, .ref (b + (n + 5)), .int 0, .int 0, .int 0, .int 0, .int (-1), .int 0, .ref (b + (n + 6)), .int 0, .int 0, .int 0, .int 0, .ref (b + (n + 7)), .int 0, .int 0, .ref (b + (n + 8)), .ref (b + (n + 9)), .ref (b + (n + 10)), .ref (b + (n + 11)), .ref (b + (n + 12)), .ref (b + (n + 13)), .ref (b + (n + 14)), .ref (b + (n + 15)), .ref (b + (n + 16)), .ref (b + (n + 17)), .int 0]) :: ((((((((((((((((([] ++ [.inl (Θ.2.2.2.2.2.2.1.1, 752, .inl (upd (upd (upd (fun _ => 0) 1 (-1)) 9 1) 10 5))]) ++ [.inl (Θ.2.2.2.2.2.2.1.1, 752, .inl (fun _ => 0))]) ++ [.inl (Θ.2.2.2.2.2.2.1.1, 352, .inl (fun _ => 0))]) ++ [.inl (Θ.2.2.2.2.2.2.1.1, 4224, .inl (fun _ => 0))]) ++ [.inl (Θ.2.2.2.2.2.2.1.1, 400, .inl (fun _ => 0))]) ++ [.inl (Θ.2.2.2.2.2.2.1.1, 7, .inl (fun _ => 0))]) ++ [.inl (Θ.2.2.2.2.2.2.1.1, 49, .inl (fun _ => 0))]) ++ [.inl (Θ.2.2.2.2.2.2.1.1, 7, .inl (fun _ => 0))]) ++ [.inl (Θ.2.2.2.2.2.2.1.1, 7, .inl (fun _ => 0))]) ++ [.inl (Θ.2.2.2.2.2.2.1.1, 56, .inl (fun _ => 0))]) ++ [.inl (Θ.2.2.2.2.2.2.1.1, 8, .inl (fun _ => 0))]) ++ [.inl (Θ.2.2.2.2.2.2.1.1, 8, .inl (fun _ => 0))]) ++ [.inl (Θ.2.2.2.2.2.2.1.1, 8, .inl (fun _ => 0))]) ++ [.inl (Θ.2.2.2.2.2.2.1.1, 49, .inl (fun _ => 0))]) ++ [.inl (Θ.2.2.2.2.2.2.1.1, 7, .inl (fun _ => 0))]) ++ [.inl (Θ.2.2.2.2.2.2.1.1, 128, .inl (fun _ => 0))]) ++ [.inl (Θ.2.2.2.2.2.2.1.1, 1024, .inl (fun _ => 0))])) C (n + 1) (cq_get hQ rfl) (by decide) (cq_set hQ rfl) dX12_init_183 ?_
  refine y_iinc (v := 1) (lv' := [(1, .int 1), (0, .ref (b + n))]) C 0 dX12_init_184 rfl (by decide) (Nat.le_of_ble_eq_true rfl) rfl ?_
  refine y_goto C 169 dX12_init_187 (by decide) ?_
  refine y_iload_n C 0 dX12_init_169 rfl rfl ?_
  refine y_iconst (v := 4) C dX12_init_170 ic_4 ?_
  refine y_geF C 190 dX12_init_171 (by decide) (by decide) ?_
  refine y_aload_n C 1 dX12_init_174 rfl rfl ?_
  refine y_get (v := .ref (b + (n + 1))) C inT12 n (cq_get0 hQ) rfl 1 (by decide) w_8_28 rfl dX12_init_175 ?_
  refine y_bipush (v := 10) C dX12_init_178 bp_10 ?_
  refine y_iload_n C 0 dX12_init_180 rfl rfl ?_
  refine y_iadd (v := 11) C dX12_init_181 (by decide) ?_
  refine y_iconst (v := 5) C dX12_init_182 ic_5 ?_
  refine y_ast (cs' := Q ++ .inr (12, [.int 0, .ref (b + (n + 1)), .ref (b + (n + 2)), .int 0, .ref (b + (n + 3)), .ref (b + (n + 4)), .int 0, .ref (b + (n + 5)), .int 0, .int 0, .int 0, .int 0, .int (-1), .int 0, .ref (b + (n + 6)), .int 0, .int 0, .int 0, .int 0, .ref (b + (n + 7)), .int 0, .int 0, .ref (b + (n + 8)), .ref (b + (n + 9)), .ref (b + (n + 10)), .ref (b + (n + 11)), .ref (b + (n + 12)), .ref (b + (n + 13)), .ref (b + (n + 14)), .ref (b + (n + 15)), .ref (b + (n + 16)), .ref (b + (n + 17)), .int 0]) :: ((((((((((((((((([] ++ [.inl (Θ.2.2.2.2.2.2.1.1, 752, .inl (upd (upd (upd (upd (fun _ => 0) 1 (-1)) 9 1) 10 5) 11 5))]) ++ [.inl (Θ.2.2.2.2.2.2.1.1, 752, .inl (fun _ => 0))]) ++ [.inl (Θ.2.2.2.2.2.2.1.1, 352, .inl (fun _ => 0))]) ++ [.inl (Θ.2.2.2.2.2.2.1.1, 4224, .inl (fun _ => 0))]) ++ [.inl (Θ.2.2.2.2.2.2.1.1, 400, .inl (fun _ => 0))]) ++ [.inl (Θ.2.2.2.2.2.2.1.1, 7, .inl (fun _ => 0))]) ++ [.inl (Θ.2.2.2.2.2.2.1.1, 49, .inl (fun _ => 0))]) ++ [.inl (Θ.2.2.2.2.2.2.1.1, 7, .inl (fun _ => 0))]) ++ [.inl (Θ.2.2.2.2.2.2.1.1, 7, .inl (fun _ => 0))]) ++ [.inl (Θ.2.2.2.2.2.2.1.1, 56, .inl (fun _ => 0))]) ++ [.inl (Θ.2.2.2.2.2.2.1.1, 8, .inl (fun _ => 0))]) ++ [.inl (Θ.2.2.2.2.2.2.1.1, 8, .inl (fun _ => 0))]) ++ [.inl (Θ.2.2.2.2.2.2.1.1, 8, .inl (fun _ => 0))]) ++ [.inl (Θ.2.2.2.2.2.2.1.1, 49, .inl (fun _ => 0))]) ++ [.inl (Θ.2.2.2.2.2.2.1.1, 7, .inl (fun _ => 0))]) ++ [.inl (Θ.2.2.2.2.2.2.1.1, 128, .inl (fun _ => 0))]) ++ [.inl (Θ.2.2.2.2.2.2.1.1, 1024, .inl (fun _ => 0))])) C (n + 1) (cq_get hQ rfl) (by decide) (cq_set hQ rfl) dX12_init_183 ?_
  refine y_iinc (v := 2) (lv' := [(1, .int 2), (0, .ref (b + n))]) C 0 dX12_init_184 rfl (by decide) (Nat.le_of_ble_eq_true rfl) rfl ?_
  refine y_goto C 169 dX12_init_187 (by decide) ?_
  refine y_iload_n C 0 dX12_init_169 rfl rfl ?_
  refine y_iconst (v := 4) C dX12_init_170 ic_4 ?_
  refine y_geF C 190 dX12_init_171 (by decide) (by decide) ?_
  refine y_aload_n C 1 dX12_init_174 rfl rfl ?_
  refine y_get (v := .ref (b + (n + 1))) C inT12 n (cq_get0 hQ) rfl 1 (by decide) w_8_28 rfl dX12_init_175 ?_
  refine y_bipush (v := 10) C dX12_init_178 bp_10 ?_
  refine y_iload_n C 0 dX12_init_180 rfl rfl ?_
  refine y_iadd (v := 12) C dX12_init_181 (by decide) ?_
  refine y_iconst (v := 5) C dX12_init_182 ic_5 ?_
  refine y_ast (cs' := Q ++ .inr (12, [.int 0, .ref (b + (n + 1)), .ref (b + (n + 2)), .int 0, .ref (b + (n + 3)), .ref (b + (n + 4)), .int 0, .ref (b + (n + 5)), .int 0, .int 0, .int 0, .int 0, .int (-1), .int 0, .ref (b + (n + 6)), .int 0, .int 0, .int 0, .int 0, .ref (b + (n + 7)), .int 0, .int 0, .ref (b + (n + 8)), .ref (b + (n + 9)), .ref (b + (n + 10)), .ref (b + (n + 11)), .ref (b + (n + 12)), .ref (b + (n + 13)), .ref (b + (n + 14)), .ref (b + (n + 15)), .ref (b + (n + 16)), .ref (b + (n + 17)), .int 0]) :: ((((((((((((((((([] ++ [.inl (Θ.2.2.2.2.2.2.1.1, 752, .inl (upd (upd (upd (upd (upd (fun _ => 0) 1 (-1)) 9 1) 10 5) 11 5) 12 5))]) ++ [.inl (Θ.2.2.2.2.2.2.1.1, 752, .inl (fun _ => 0))]) ++ [.inl (Θ.2.2.2.2.2.2.1.1, 352, .inl (fun _ => 0))]) ++ [.inl (Θ.2.2.2.2.2.2.1.1, 4224, .inl (fun _ => 0))]) ++ [.inl (Θ.2.2.2.2.2.2.1.1, 400, .inl (fun _ => 0))]) ++ [.inl (Θ.2.2.2.2.2.2.1.1, 7, .inl (fun _ => 0))]) ++ [.inl (Θ.2.2.2.2.2.2.1.1, 49, .inl (fun _ => 0))]) ++ [.inl (Θ.2.2.2.2.2.2.1.1, 7, .inl (fun _ => 0))]) ++ [.inl (Θ.2.2.2.2.2.2.1.1, 7, .inl (fun _ => 0))]) ++ [.inl (Θ.2.2.2.2.2.2.1.1, 56, .inl (fun _ => 0))]) ++ [.inl (Θ.2.2.2.2.2.2.1.1, 8, .inl (fun _ => 0))]) ++ [.inl (Θ.2.2.2.2.2.2.1.1, 8, .inl (fun _ => 0))]) ++ [.inl (Θ.2.2.2.2.2.2.1.1, 8, .inl (fun _ => 0))]) ++ [.inl (Θ.2.2.2.2.2.2.1.1, 49, .inl (fun _ => 0))]) ++ [.inl (Θ.2.2.2.2.2.2.1.1, 7, .inl (fun _ => 0))]) ++ [.inl (Θ.2.2.2.2.2.2.1.1, 128, .inl (fun _ => 0))]) ++ [.inl (Θ.2.2.2.2.2.2.1.1, 1024, .inl (fun _ => 0))])) C (n + 1) (cq_get hQ rfl) (by decide) (cq_set hQ rfl) dX12_init_183 ?_
  refine y_iinc (v := 3) (lv' := [(1, .int 3), (0, .ref (b + n))]) C 0 dX12_init_184 rfl (by decide) (Nat.le_of_ble_eq_true rfl) rfl ?_
  refine y_goto C 169 dX12_init_187 (by decide) ?_
  refine y_iload_n C 0 dX12_init_169 rfl rfl ?_
  refine y_iconst (v := 4) C dX12_init_170 ic_4 ?_
  refine y_geF C 190 dX12_init_171 (by decide) (by decide) ?_
  refine y_aload_n C 1 dX12_init_174 rfl rfl ?_
  refine y_get (v := .ref (b + (n + 1))) C inT12 n (cq_get0 hQ) rfl 1 (by decide) w_8_28 rfl dX12_init_175 ?_
  refine y_bipush (v := 10) C dX12_init_178 bp_10 ?_
  refine y_iload_n C 0 dX12_init_180 rfl rfl ?_
  refine y_iadd (v := 13) C dX12_init_181 (by decide) ?_
  refine y_iconst (v := 5) C dX12_init_182 ic_5 ?_
  refine y_ast (cs' := Q ++ .inr (12, [.int 0, .ref (b + (n + 1)), .ref (b + (n + 2)), .int 0, .ref (b + (n + 3)), .ref (b + (n + 4)), .int 0, .ref (b + (n + 5)), .int 0, .int 0, .int 0, .int 0, .int (-1), .int 0, .ref (b + (n + 6)), .int 0, .int 0, .int 0, .int 0, .ref (b + (n + 7)), .int 0, .int 0, .ref (b + (n + 8)), .ref (b + (n + 9)), .ref (b + (n + 10)), .ref (b + (n + 11)), .ref (b + (n + 12)), .ref (b + (n + 13)), .ref (b + (n + 14)), .ref (b + (n + 15)), .ref (b + (n + 16)), .ref (b + (n + 17)), .int 0]) :: ((((((((((((((((([] ++ [.inl (Θ.2.2.2.2.2.2.1.1, 752, .inl (upd (upd (upd (upd (upd (upd (fun _ => 0) 1 (-1)) 9 1) 10 5) 11 5) 12 5) 13 5))]) ++ [.inl (Θ.2.2.2.2.2.2.1.1, 752, .inl (fun _ => 0))]) ++ [.inl (Θ.2.2.2.2.2.2.1.1, 352, .inl (fun _ => 0))]) ++ [.inl (Θ.2.2.2.2.2.2.1.1, 4224, .inl (fun _ => 0))]) ++ [.inl (Θ.2.2.2.2.2.2.1.1, 400, .inl (fun _ => 0))]) ++ [.inl (Θ.2.2.2.2.2.2.1.1, 7, .inl (fun _ => 0))]) ++ [.inl (Θ.2.2.2.2.2.2.1.1, 49, .inl (fun _ => 0))]) ++ [.inl (Θ.2.2.2.2.2.2.1.1, 7, .inl (fun _ => 0))]) ++ [.inl (Θ.2.2.2.2.2.2.1.1, 7, .inl (fun _ => 0))]) ++ [.inl (Θ.2.2.2.2.2.2.1.1, 56, .inl (fun _ => 0))]) ++ [.inl (Θ.2.2.2.2.2.2.1.1, 8, .inl (fun _ => 0))]) ++ [.inl (Θ.2.2.2.2.2.2.1.1, 8, .inl (fun _ => 0))]) ++ [.inl (Θ.2.2.2.2.2.2.1.1, 8, .inl (fun _ => 0))]) ++ [.inl (Θ.2.2.2.2.2.2.1.1, 49, .inl (fun _ => 0))]) ++ [.inl (Θ.2.2.2.2.2.2.1.1, 7, .inl (fun _ => 0))]) ++ [.inl (Θ.2.2.2.2.2.2.1.1, 128, .inl (fun _ => 0))]) ++ [.inl (Θ.2.2.2.2.2.2.1.1, 1024, .inl (fun _ => 0))])) C (n + 1) (cq_get hQ rfl) (by decide) (cq_set hQ rfl) dX12_init_183 ?_
  refine y_iinc (v := 4) (lv' := [(1, .int 4), (0, .ref (b + n))]) C 0 dX12_init_184 rfl (by decide) (Nat.le_of_ble_eq_true rfl) rfl ?_
  refine y_goto C 169 dX12_init_187 (by decide) ?_
  refine y_iload_n C 0 dX12_init_169 rfl rfl ?_
  refine y_iconst (v := 4) C dX12_init_170 ic_4 ?_
  refine y_geT C 190 dX12_init_171 (by decide) (by decide) ?_
  exact y_vret C ⟨Nat.le_refl _, Nat.le_refl _⟩ dX12_init_190)

theorem dX8_init_0 : decode cX8_init 0 = .ok (.aload_n 0, 1) := by decide +kernel
theorem dX8_init_1 : decode cX8_init 1 = .ok (.invokespecial 3, 3) := by decide +kernel
theorem w_1_43 : Cond.methodLink "LastLoaf$Tape" (3 : Nat) ({ cls := "java/lang/Object", name := "<init>", desc := "()V" } : MethodName) ∈ TB := tb_in (lwt_1 (List.mem_of_getElem? (i := 43) (by decide +kernel))) rfl
theorem w_1_36 : Cond.instanceMethod ({ cls := "java/lang/Object", name := "<init>", desc := "()V" } : MethodName) ∈ TB := tb_in (lwt_1 (List.mem_of_getElem? (i := 36) (by decide +kernel))) rfl
theorem w_1_37 : Cond.code ({ cls := "java/lang/Object", name := "<init>", desc := "()V" } : MethodName) object_method_1_code (1 : Nat) (Option.none : Option ClassFile.FieldType) ∈ TB := tb_in (lwt_1 (List.mem_of_getElem? (i := 37) (by decide +kernel))) rfl
theorem dX8_init_4 : decode cX8_init 4 = .ok (.aload_n 0, 1) := by decide +kernel
theorem dX8_init_5 : decode cX8_init 5 = .ok (.sipush 400, 3) := by decide +kernel
theorem dX8_init_8 : decode cX8_init 8 = .ok (.newarray .int, 2) := by decide +kernel
theorem w_1_64 : Cond.arrayClass ClassFile.FieldType.int ∈ TB := tb_in (lwt_1 (List.mem_of_getElem? (i := 64) (by decide +kernel))) rfl
theorem dX8_init_10 : decode cX8_init 10 = .ok (.putfield 9, 3) := by decide +kernel
theorem dX8_init_13 : decode cX8_init 13 = .ok (.aload_n 0, 1) := by decide +kernel
theorem dX8_init_14 : decode cX8_init 14 = .ok (.iconst 0, 1) := by decide +kernel
theorem dX8_init_15 : decode cX8_init 15 = .ok (.putfield 15, 3) := by decide +kernel
theorem dX8_init_18 : decode cX8_init 18 = .ok (.aload_n 0, 1) := by decide +kernel
theorem dX8_init_19 : decode cX8_init 19 = .ok (.iconst 0, 1) := by decide +kernel
theorem dX8_init_20 : decode cX8_init 20 = .ok (.putfield 19, 3) := by decide +kernel
theorem dX8_init_23 : decode cX8_init 23 = .ok (.aload_n 0, 1) := by decide +kernel
theorem dX8_init_24 : decode cX8_init 24 = .ok (.iconst 0, 1) := by decide +kernel
theorem dX8_init_25 : decode cX8_init 25 = .ok (.putfield 22, 3) := by decide +kernel
theorem dX8_init_28 : decode cX8_init 28 = .ok (.aload_n 0, 1) := by decide +kernel
theorem dX8_init_29 : decode cX8_init 29 = .ok (.iconst 0, 1) := by decide +kernel
theorem dX8_init_30 : decode cX8_init 30 = .ok (.putfield 25, 3) := by decide +kernel
theorem dX8_init_33 : decode cX8_init 33 = .ok (.return_, 1) := by decide +kernel
/-! LastLoaf$Tape.<init> -/
theorem cq_get0A {Q T C : List va_E} {x : va_E} {n : Nat} (hQ : Q.length = n) : ((Q ++ x :: T) ++ C)[n]? = some x := by
  rw [cq_app]
  exact cq_get0 hQ
theorem cq_g2 {x y z : va_E} {A B : List va_E} {k : Nat} (hA : A.length + 2 = k) (hB : B[0]? = some z) : (x :: y :: (A ++ B))[k]? = some z := by
  subst hA
  rw [show A.length + 2 = (A.length + 1) + 1 from rfl, List.getElem?_cons_succ, List.getElem?_cons_succ, List.getElem?_append_right (Nat.le_refl _), Nat.sub_self]
  exact hB
def ch8 (w : Wp) (b n : Nat) : List va_E := .inr (8, [.ref (b + (n + 1)), .int 0, .int 0, .int 0, .int 0]) :: (.inl (w.2.1.1, 400, .inl (fun _ => 0)) :: [])
theorem ch8_len (w : Wp) (b n : Nat) : (ch8 w b n).length = 2 := by
  unfold ch8
  simp only [List.length_cons, List.length_append, List.length_nil]
abbrev rmI8 : Room := { frames := 1, cells := 1, slots := 400, locals := 40 }
set_option maxHeartbeats 8000000 in
set_option maxRecDepth 100000 in
theorem k8_init {l : Launch} {w : Wp} {b n : Nat} {Q : List va_E} (hQ : Q.length = n) : yM l w yX8_init cX8_init 1 rmI8 [.ref (b + n)] b (Q ++ [.inr (8, [.null, .int 0, .int 0, .int 0, .int 0])]) (Q ++ ch8 w b n) 1 400 := yM_of rfl (Nat.le_of_ble_eq_true rfl) (fun Θ hl0 hw C hnm => by
  subst hw
  refine y_cs (cs' := Q ++ .inr (8, [.null, .int 0, .int 0, .int 0, .int 0]) :: []) rfl ?_
  refine y_aload_n C 0 dX8_init_0 rfl rfl ?_
  refine y_objInit C w_1_43 w_1_36 w_1_37 dX8_init_1 ⟨(Nat.le_of_ble_eq_true rfl), (Nat.le_of_ble_eq_true rfl)⟩ ?_
  refine y_aload_n C 0 dX8_init_4 rfl rfl ?_
  refine y_sipush (v := 400) C dX8_init_5 sp_400 ?_
  refine y_newa (N := 400) (n := n + 1) (cs' := Q ++ .inr (8, [.null, .int 0, .int 0, .int 0, .int 0]) :: (.inl (Θ.2.2.2.2.2.2.1.1, 400, .inl (fun _ => 0)) :: [])) C w_1_64 (by decide) (by decide) (by decide) (cq_len hQ (by simp only [List.length_cons, List.length_append, List.length_nil])) cq_app ⟨(Nat.le_of_ble_eq_true rfl), (Nat.le_of_ble_eq_true rfl)⟩ dX8_init_8 ?_
  refine y_put (cs' := Q ++ .inr (8, [.ref (b + (n + 1)), .int 0, .int 0, .int 0, .int 0]) :: (.inl (Θ.2.2.2.2.2.2.1.1, 400, .inl (fun _ => 0)) :: [])) C hnm inT8 tyX8_ok nmX8 n (cq_get0 hQ) rfl 0 (by decide) w_1_44 rfl rfl rfl (Nat.le_of_ble_eq_true rfl) (cq_put hQ rfl) dX8_init_10 ?_
  refine y_aload_n C 0 dX8_init_13 rfl rfl ?_
  refine y_iconst (v := 0) C dX8_init_14 ic_0 ?_
  refine y_put (cs' := Q ++ .inr (8, [.ref (b + (n + 1)), .int 0, .int 0, .int 0, .int 0]) :: (.inl (Θ.2.2.2.2.2.2.1.1, 400, .inl (fun _ => 0)) :: [])) C hnm inT8 tyX8_ok nmX8 n (cq_get0 hQ) rfl 1 (by decide) w_1_46 rfl rfl rfl (Nat.le_of_ble_eq_true rfl) (cq_put hQ rfl) dX8_init_15 ?_
  refine y_aload_n C 0 dX8_init_18 rfl rfl ?_
  refine y_iconst (v := 0) C dX8_init_19 ic_0 ?_
  refine y_put (cs' := Q ++ .inr (8, [.ref (b + (n + 1)), .int 0, .int 0, .int 0, .int 0]) :: (.inl (Θ.2.2.2.2.2.2.1.1, 400, .inl (fun _ => 0)) :: [])) C hnm inT8 tyX8_ok nmX8 n (cq_get0 hQ) rfl 2 (by decide) w_1_49 rfl rfl rfl (Nat.le_of_ble_eq_true rfl) (cq_put hQ rfl) dX8_init_20 ?_
  refine y_aload_n C 0 dX8_init_23 rfl rfl ?_
  refine y_iconst (v := 0) C dX8_init_24 ic_0 ?_
  refine y_put (cs' := Q ++ .inr (8, [.ref (b + (n + 1)), .int 0, .int 0, .int 0, .int 0]) :: (.inl (Θ.2.2.2.2.2.2.1.1, 400, .inl (fun _ => 0)) :: [])) C hnm inT8 tyX8_ok nmX8 n (cq_get0 hQ) rfl 3 (by decide) w_1_51 rfl rfl rfl (Nat.le_of_ble_eq_true rfl) (cq_put hQ rfl) dX8_init_25 ?_
  refine y_aload_n C 0 dX8_init_28 rfl rfl ?_
  refine y_iconst (v := 0) C dX8_init_29 ic_0 ?_
  refine y_put (cs' := Q ++ .inr (8, [.ref (b + (n + 1)), .int 0, .int 0, .int 0, .int 0]) :: (.inl (Θ.2.2.2.2.2.2.1.1, 400, .inl (fun _ => 0)) :: [])) C hnm inT8 tyX8_ok nmX8 n (cq_get0 hQ) rfl 4 (by decide) w_1_52 rfl rfl rfl (Nat.le_of_ble_eq_true rfl) (cq_put hQ rfl) dX8_init_30 ?_
  exact y_vret C ⟨Nat.le_refl _, Nat.le_refl _⟩ dX8_init_33)

theorem dX3_init_0 : decode cX3_init 0 = .ok (.aload_n 0, 1) := by decide +kernel
theorem dX3_init_1 : decode cX3_init 1 = .ok (.invokespecial 3, 3) := by decide +kernel
theorem w_1_76 : Cond.methodLink "LastLoaf$Log" (3 : Nat) ({ cls := "java/lang/Object", name := "<init>", desc := "()V" } : MethodName) ∈ TB := tb_in (lwt_1 (List.mem_of_getElem? (i := 76) (by decide +kernel))) rfl
theorem dX3_init_4 : decode cX3_init 4 = .ok (.aload_n 0, 1) := by decide +kernel
theorem dX3_init_5 : decode cX3_init 5 = .ok (.sipush 240, 3) := by decide +kernel
theorem dX3_init_8 : decode cX3_init 8 = .ok (.newarray .int, 2) := by decide +kernel
theorem dX3_init_10 : decode cX3_init 10 = .ok (.putfield 9, 3) := by decide +kernel
theorem dX3_init_13 : decode cX3_init 13 = .ok (.aload_n 0, 1) := by decide +kernel
theorem dX3_init_14 : decode cX3_init 14 = .ok (.iconst 0, 1) := by decide +kernel
theorem dX3_init_15 : decode cX3_init 15 = .ok (.putfield 15, 3) := by decide +kernel
theorem dX3_init_18 : decode cX3_init 18 = .ok (.aload_n 0, 1) := by decide +kernel
theorem dX3_init_19 : decode cX3_init 19 = .ok (.iconst 0, 1) := by decide +kernel
theorem dX3_init_20 : decode cX3_init 20 = .ok (.putfield 19, 3) := by decide +kernel
theorem dX3_init_23 : decode cX3_init 23 = .ok (.return_, 1) := by decide +kernel
/-! LastLoaf$Log.<init> -/
def ch3 (w : Wp) (b n : Nat) : List va_E := .inr (3, [.ref (b + (n + 1)), .int 0, .int 0]) :: (.inl (w.2.1.1, 240, .inl (fun _ => 0)) :: [])
theorem ch3_len (w : Wp) (b n : Nat) : (ch3 w b n).length = 2 := by
  unfold ch3
  simp only [List.length_cons, List.length_append, List.length_nil, ch8_len]
abbrev rmI3 : Room := { frames := 1, cells := 1, slots := 240, locals := 40 }
set_option maxHeartbeats 8000000 in
set_option maxRecDepth 100000 in
theorem k3_init {l : Launch} {w : Wp} {b n : Nat} {Q : List va_E} (hQ : Q.length = n) : yM l w yX3_init cX3_init 1 rmI3 [.ref (b + n)] b (Q ++ [.inr (3, [.null, .int 0, .int 0])]) (Q ++ ch3 w b n) 1 240 := yM_of rfl (Nat.le_of_ble_eq_true rfl) (fun Θ hl0 hw C hnm => by
  subst hw
  refine y_cs (cs' := Q ++ .inr (3, [.null, .int 0, .int 0]) :: []) rfl ?_
  refine y_aload_n C 0 dX3_init_0 rfl rfl ?_
  refine y_objInit C w_1_76 w_1_36 w_1_37 dX3_init_1 ⟨(Nat.le_of_ble_eq_true rfl), (Nat.le_of_ble_eq_true rfl)⟩ ?_
  refine y_aload_n C 0 dX3_init_4 rfl rfl ?_
  refine y_sipush (v := 240) C dX3_init_5 sp_240 ?_
  refine y_newa (N := 240) (n := n + 1) (cs' := Q ++ .inr (3, [.null, .int 0, .int 0]) :: (.inl (Θ.2.2.2.2.2.2.1.1, 240, .inl (fun _ => 0)) :: [])) C w_1_64 (by decide) (by decide) (by decide) (cq_len hQ (by simp only [List.length_cons, List.length_append, List.length_nil, ch8_len])) cq_app ⟨(Nat.le_of_ble_eq_true rfl), (Nat.le_of_ble_eq_true rfl)⟩ dX3_init_8 ?_
  refine y_put (cs' := Q ++ .inr (3, [.ref (b + (n + 1)), .int 0, .int 0]) :: (.inl (Θ.2.2.2.2.2.2.1.1, 240, .inl (fun _ => 0)) :: [])) C hnm inT3 tyX3_ok nmX3 n (cq_get0 hQ) rfl 0 (by decide) w_1_77 rfl rfl rfl (Nat.le_of_ble_eq_true rfl) (cq_put hQ rfl) dX3_init_10 ?_
  refine y_aload_n C 0 dX3_init_13 rfl rfl ?_
  refine y_iconst (v := 0) C dX3_init_14 ic_0 ?_
  refine y_put (cs' := Q ++ .inr (3, [.ref (b + (n + 1)), .int 0, .int 0]) :: (.inl (Θ.2.2.2.2.2.2.1.1, 240, .inl (fun _ => 0)) :: [])) C hnm inT3 tyX3_ok nmX3 n (cq_get0 hQ) rfl 1 (by decide) w_1_78 rfl rfl rfl (Nat.le_of_ble_eq_true rfl) (cq_put hQ rfl) dX3_init_15 ?_
  refine y_aload_n C 0 dX3_init_18 rfl rfl ?_
  refine y_iconst (v := 0) C dX3_init_19 ic_0 ?_
  refine y_put (cs' := Q ++ .inr (3, [.ref (b + (n + 1)), .int 0, .int 0]) :: (.inl (Θ.2.2.2.2.2.2.1.1, 240, .inl (fun _ => 0)) :: [])) C hnm inT3 tyX3_ok nmX3 n (cq_get0 hQ) rfl 2 (by decide) w_1_80 rfl rfl rfl (Nat.le_of_ble_eq_true rfl) (cq_put hQ rfl) dX3_init_20 ?_
  exact y_vret C ⟨Nat.le_refl _, Nat.le_refl _⟩ dX3_init_23)

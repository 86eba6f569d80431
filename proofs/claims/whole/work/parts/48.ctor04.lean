theorem dX2_init_0 : decode cX2_init 0 = .ok (.aload_n 0, 1) := by decide +kernel
theorem dX2_init_1 : decode cX2_init 1 = .ok (.invokespecial 3, 3) := by decide +kernel
theorem w_1_204 : Cond.methodLink "LastLoaf$Law" (3 : Nat) ({ cls := "java/lang/Object", name := "<init>", desc := "()V" } : MethodName) ∈ TB := tb_in (lwt_1 (List.mem_of_getElem? (i := 204) (by decide +kernel))) rfl
theorem dX2_init_4 : decode cX2_init 4 = .ok (.aload_n 0, 1) := by decide +kernel
theorem dX2_init_5 : decode cX2_init 5 = .ok (.sipush 412, 3) := by decide +kernel
theorem dX2_init_8 : decode cX2_init 8 = .ok (.newarray .int, 2) := by decide +kernel
theorem dX2_init_10 : decode cX2_init 10 = .ok (.putfield 9, 3) := by decide +kernel
theorem dX2_init_13 : decode cX2_init 13 = .ok (.aload_n 0, 1) := by decide +kernel
theorem dX2_init_14 : decode cX2_init 14 = .ok (.bipush 32, 2) := by decide +kernel
theorem dX2_init_16 : decode cX2_init 16 = .ok (.newarray .int, 2) := by decide +kernel
theorem dX2_init_18 : decode cX2_init 18 = .ok (.putfield 15, 3) := by decide +kernel
theorem dX2_init_21 : decode cX2_init 21 = .ok (.aload_n 0, 1) := by decide +kernel
theorem dX2_init_22 : decode cX2_init 22 = .ok (.bipush 9, 2) := by decide +kernel
theorem dX2_init_24 : decode cX2_init 24 = .ok (.newarray .int, 2) := by decide +kernel
theorem dX2_init_26 : decode cX2_init 26 = .ok (.putfield 18, 3) := by decide +kernel
theorem dX2_init_29 : decode cX2_init 29 = .ok (.aload_n 0, 1) := by decide +kernel
theorem dX2_init_30 : decode cX2_init 30 = .ok (.iconst 0, 1) := by decide +kernel
theorem dX2_init_31 : decode cX2_init 31 = .ok (.putfield 21, 3) := by decide +kernel
theorem dX2_init_34 : decode cX2_init 34 = .ok (.aload_n 0, 1) := by decide +kernel
theorem dX2_init_35 : decode cX2_init 35 = .ok (.iconst (-1), 1) := by decide +kernel
theorem dX2_init_36 : decode cX2_init 36 = .ok (.putfield 25, 3) := by decide +kernel
theorem dX2_init_39 : decode cX2_init 39 = .ok (.aload_n 0, 1) := by decide +kernel
theorem dX2_init_40 : decode cX2_init 40 = .ok (.iconst 0, 1) := by decide +kernel
theorem dX2_init_41 : decode cX2_init 41 = .ok (.putfield 28, 3) := by decide +kernel
theorem dX2_init_44 : decode cX2_init 44 = .ok (.aload_n 0, 1) := by decide +kernel
theorem dX2_init_45 : decode cX2_init 45 = .ok (.iconst 0, 1) := by decide +kernel
theorem dX2_init_46 : decode cX2_init 46 = .ok (.putfield 31, 3) := by decide +kernel
theorem dX2_init_49 : decode cX2_init 49 = .ok (.return_, 1) := by decide +kernel
/-! LastLoaf$Law.<init> -/
def ch2 (w : Wp) (b n : Nat) : List va_E := .inr (2, [.ref (b + (n + 1)), .ref (b + (n + 2)), .ref (b + (n + 3)), .int 0, .int (-1), .int 0, .int 0]) :: (.inl (w.2.1.1, 412, .inl (fun _ => 0)) :: (.inl (w.2.1.1, 32, .inl (fun _ => 0)) :: (.inl (w.2.1.1, 9, .inl (fun _ => 0)) :: [])))
theorem ch2_len (w : Wp) (b n : Nat) : (ch2 w b n).length = 4 := by
  unfold ch2
  simp only [List.length_cons, List.length_append, List.length_nil, ch8_len, ch3_len, ch10_len]
abbrev rmI2 : Room := { frames := 1, cells := 3, slots := 453, locals := 40 }
set_option maxHeartbeats 8000000 in
set_option maxRecDepth 100000 in
theorem k2_init {l : Launch} {w : Wp} {b n : Nat} {Q : List va_E} (hQ : Q.length = n) : yM l w yX2_init cX2_init 1 rmI2 [.ref (b + n)] b (Q ++ [.inr (2, [.null, .null, .null, .int 0, .int 0, .int 0, .int 0])]) (Q ++ ch2 w b n) 3 453 := yM_of rfl (Nat.le_of_ble_eq_true rfl) (fun Θ hl0 hw C hnm => by
  subst hw
  refine y_cs (cs' := Q ++ .inr (2, [.null, .null, .null, .int 0, .int 0, .int 0, .int 0]) :: []) rfl ?_
  refine y_aload_n C 0 dX2_init_0 rfl rfl ?_
  refine y_objInit C w_1_204 w_1_36 w_1_37 dX2_init_1 ⟨(Nat.le_of_ble_eq_true rfl), (Nat.le_of_ble_eq_true rfl)⟩ ?_
  refine y_aload_n C 0 dX2_init_4 rfl rfl ?_
  refine y_sipush (v := 412) C dX2_init_5 sp_412 ?_
  refine y_newa (N := 412) (n := n + 1) (cs' := Q ++ .inr (2, [.null, .null, .null, .int 0, .int 0, .int 0, .int 0]) :: (.inl (Θ.2.2.2.2.2.2.1.1, 412, .inl (fun _ => 0)) :: [])) C w_1_64 (by decide) (by decide) (by decide) (cq_len hQ (by simp only [List.length_cons, List.length_append, List.length_nil, ch8_len, ch3_len, ch10_len])) cq_app ⟨(Nat.le_of_ble_eq_true rfl), (Nat.le_of_ble_eq_true rfl)⟩ dX2_init_8 ?_
  refine y_put (cs' := Q ++ .inr (2, [.ref (b + (n + 1)), .null, .null, .int 0, .int 0, .int 0, .int 0]) :: (.inl (Θ.2.2.2.2.2.2.1.1, 412, .inl (fun _ => 0)) :: [])) C hnm inT2 tyX2_ok nmX2 n (cq_get0 hQ) rfl 0 (by decide) w_1_205 rfl rfl rfl (Nat.le_of_ble_eq_true rfl) (cq_put hQ rfl) dX2_init_10 ?_
  refine y_aload_n C 0 dX2_init_13 rfl rfl ?_
  refine y_bipush (v := 32) C dX2_init_14 bp_32 ?_
  refine y_newa (N := 32) (n := n + 2) (cs' := Q ++ .inr (2, [.ref (b + (n + 1)), .null, .null, .int 0, .int 0, .int 0, .int 0]) :: (.inl (Θ.2.2.2.2.2.2.1.1, 412, .inl (fun _ => 0)) :: (.inl (Θ.2.2.2.2.2.2.1.1, 32, .inl (fun _ => 0)) :: []))) C w_1_64 (by decide) (by decide) (by decide) (cq_len hQ (by simp only [List.length_cons, List.length_append, List.length_nil, ch8_len, ch3_len, ch10_len])) cq_app ⟨(Nat.le_of_ble_eq_true rfl), (Nat.le_of_ble_eq_true rfl)⟩ dX2_init_16 ?_
  refine y_put (cs' := Q ++ .inr (2, [.ref (b + (n + 1)), .ref (b + (n + 2)), .null, .int 0, .int 0, .int 0, .int 0]) :: (.inl (Θ.2.2.2.2.2.2.1.1, 412, .inl (fun _ => 0)) :: (.inl (Θ.2.2.2.2.2.2.1.1, 32, .inl (fun _ => 0)) :: []))) C hnm inT2 tyX2_ok nmX2 n (cq_get0 hQ) rfl 1 (by decide) w_1_206 rfl rfl rfl (Nat.le_of_ble_eq_true rfl) (cq_put hQ rfl) dX2_init_18 ?_
  refine y_aload_n C 0 dX2_init_21 rfl rfl ?_
  refine y_bipush (v := 9) C dX2_init_22 bp_9 ?_
  refine y_newa (N := 9) (n := n + 3) (cs' := Q ++ .inr (2, [.ref (b + (n + 1)), .ref (b + (n + 2)), .null, .int 0, .int 0, .int 0, .int 0]) :: (.inl (Θ.2.2.2.2.2.2.1.1, 412, .inl (fun _ => 0)) :: (.inl (Θ.2.2.2.2.2.2.1.1, 32, .inl (fun _ => 0)) :: (.inl (Θ.2.2.2.2.2.2.1.1, 9, .inl (fun _ => 0)) :: [])))) C w_1_64 (by decide) (by decide) (by decide) (cq_len hQ (by simp only [List.length_cons, List.length_append, List.length_nil, ch8_len, ch3_len, ch10_len])) cq_app ⟨(Nat.le_of_ble_eq_true rfl), (Nat.le_of_ble_eq_true rfl)⟩ dX2_init_24 ?_
  refine y_put (cs' := Q ++ .inr (2, [.ref (b + (n + 1)), .ref (b + (n + 2)), .ref (b + (n + 3)), .int 0, .int 0, .int 0, .int 0]) :: (.inl (Θ.2.2.2.2.2.2.1.1, 412, .inl (fun _ => 0)) :: (.inl (Θ.2.2.2.2.2.2.1.1, 32, .inl (fun _ => 0)) :: (.inl (Θ.2.2.2.2.2.2.1.1, 9, .inl (fun _ => 0)) :: [])))) C hnm inT2 tyX2_ok nmX2 n (cq_get0 hQ) rfl 2 (by decide) w_1_207 rfl rfl rfl (Nat.le_of_ble_eq_true rfl) (cq_put hQ rfl) dX2_init_26 ?_
  refine y_aload_n C 0 dX2_init_29 rfl rfl ?_
  refine y_iconst (v := 0) C dX2_init_30 ic_0 ?_
  refine y_put (cs' := Q ++ .inr (2, [.ref (b + (n + 1)), .ref (b + (n + 2)), .ref (b + (n + 3)), .int 0, .int 0, .int 0, .int 0]) :: (.inl (Θ.2.2.2.2.2.2.1.1, 412, .inl (fun _ => 0)) :: (.inl (Θ.2.2.2.2.2.2.1.1, 32, .inl (fun _ => 0)) :: (.inl (Θ.2.2.2.2.2.2.1.1, 9, .inl (fun _ => 0)) :: [])))) C hnm inT2 tyX2_ok nmX2 n (cq_get0 hQ) rfl 3 (by decide) w_1_208 rfl rfl rfl (Nat.le_of_ble_eq_true rfl) (cq_put hQ rfl) dX2_init_31 ?_
  refine y_aload_n C 0 dX2_init_34 rfl rfl ?_
  refine y_iconst (v := (-1)) C dX2_init_35 ic_m1 ?_
  refine y_put (cs' := Q ++ .inr (2, [.ref (b + (n + 1)), .ref (b + (n + 2)), .ref (b + (n + 3)), .int 0, .int (-1), .int 0, .int 0]) :: (.inl (Θ.2.2.2.2.2.2.1.1, 412, .inl (fun _ => 0)) :: (.inl (Θ.2.2.2.2.2.2.1.1, 32, .inl (fun _ => 0)) :: (.inl (Θ.2.2.2.2.2.2.1.1, 9, .inl (fun _ => 0)) :: [])))) C hnm inT2 tyX2_ok nmX2 n (cq_get0 hQ) rfl 4 (by decide) w_1_210 rfl rfl rfl (Nat.le_of_ble_eq_true rfl) (cq_put hQ rfl) dX2_init_36 ?_
  refine y_aload_n C 0 dX2_init_39 rfl rfl ?_
  refine y_iconst (v := 0) C dX2_init_40 ic_0 ?_
  refine y_put (cs' := Q ++ .inr (2, [.ref (b + (n + 1)), .ref (b + (n + 2)), .ref (b + (n + 3)), .int 0, .int (-1), .int 0, .int 0]) :: (.inl (Θ.2.2.2.2.2.2.1.1, 412, .inl (fun _ => 0)) :: (.inl (Θ.2.2.2.2.2.2.1.1, 32, .inl (fun _ => 0)) :: (.inl (Θ.2.2.2.2.2.2.1.1, 9, .inl (fun _ => 0)) :: [])))) C hnm inT2 tyX2_ok nmX2 n (cq_get0 hQ) rfl 5 (by decide) w_1_213 rfl rfl rfl (Nat.le_of_ble_eq_true rfl) (cq_put hQ rfl) dX2_init_41 ?_
  refine y_aload_n C 0 dX2_init_44 rfl rfl ?_
  refine y_iconst (v := 0) C dX2_init_45 ic_0 ?_
  refine y_put (cs' := Q ++ .inr (2, [.ref (b + (n + 1)), .ref (b + (n + 2)), .ref (b + (n + 3)), .int 0, .int (-1), .int 0, .int 0]) :: (.inl (Θ.2.2.2.2.2.2.1.1, 412, .inl (fun _ => 0)) :: (.inl (Θ.2.2.2.2.2.2.1.1, 32, .inl (fun _ => 0)) :: (.inl (Θ.2.2.2.2.2.2.1.1, 9, .inl (fun _ => 0)) :: [])))) C hnm inT2 tyX2_ok nmX2 n (cq_get0 hQ) rfl 6 (by decide) w_1_214 rfl rfl rfl (Nat.le_of_ble_eq_true rfl) (cq_put hQ rfl) dX2_init_46 ?_
  exact y_vret C ⟨Nat.le_refl _, Nat.le_refl _⟩ dX2_init_49)

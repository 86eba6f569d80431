theorem dX5_init_0 : decode cX5_init 0 = .ok (.aload_n 0, 1) := by decide +kernel
theorem dX5_init_1 : decode cX5_init 1 = .ok (.invokespecial 3, 3) := by decide +kernel
theorem w_2_40 : Cond.methodLink "LastLoaf$Poll" (3 : Nat) ({ cls := "java/lang/Object", name := "<init>", desc := "()V" } : MethodName) ∈ TB := tb_in (lwt_2 (List.mem_of_getElem? (i := 40) (by decide +kernel))) rfl
theorem dX5_init_4 : decode cX5_init 4 = .ok (.aload_n 0, 1) := by decide +kernel
theorem dX5_init_5 : decode cX5_init 5 = .ok (.bipush 36, 2) := by decide +kernel
theorem dX5_init_7 : decode cX5_init 7 = .ok (.newarray .int, 2) := by decide +kernel
theorem dX5_init_9 : decode cX5_init 9 = .ok (.putfield 9, 3) := by decide +kernel
theorem dX5_init_12 : decode cX5_init 12 = .ok (.aload_n 0, 1) := by decide +kernel
theorem dX5_init_13 : decode cX5_init 13 = .ok (.bipush 36, 2) := by decide +kernel
theorem dX5_init_15 : decode cX5_init 15 = .ok (.newarray .int, 2) := by decide +kernel
theorem dX5_init_17 : decode cX5_init 17 = .ok (.putfield 15, 3) := by decide +kernel
theorem dX5_init_20 : decode cX5_init 20 = .ok (.aload_n 0, 1) := by decide +kernel
theorem dX5_init_21 : decode cX5_init 21 = .ok (.bipush 6, 2) := by decide +kernel
theorem dX5_init_23 : decode cX5_init 23 = .ok (.newarray .int, 2) := by decide +kernel
theorem dX5_init_25 : decode cX5_init 25 = .ok (.putfield 18, 3) := by decide +kernel
theorem dX5_init_28 : decode cX5_init 28 = .ok (.aload_n 0, 1) := by decide +kernel
theorem dX5_init_29 : decode cX5_init 29 = .ok (.bipush 6, 2) := by decide +kernel
theorem dX5_init_31 : decode cX5_init 31 = .ok (.newarray .int, 2) := by decide +kernel
theorem dX5_init_33 : decode cX5_init 33 = .ok (.putfield 21, 3) := by decide +kernel
theorem dX5_init_36 : decode cX5_init 36 = .ok (.aload_n 0, 1) := by decide +kernel
theorem dX5_init_37 : decode cX5_init 37 = .ok (.bipush 6, 2) := by decide +kernel
theorem dX5_init_39 : decode cX5_init 39 = .ok (.newarray .int, 2) := by decide +kernel
theorem dX5_init_41 : decode cX5_init 41 = .ok (.putfield 24, 3) := by decide +kernel
theorem dX5_init_44 : decode cX5_init 44 = .ok (.aload_n 0, 1) := by decide +kernel
theorem dX5_init_45 : decode cX5_init 45 = .ok (.sipush 384, 3) := by decide +kernel
theorem sp_384 : (Int16.ofInt (384)).toInt32 = 384 := by decide +kernel
theorem dX5_init_48 : decode cX5_init 48 = .ok (.newarray .int, 2) := by decide +kernel
theorem dX5_init_50 : decode cX5_init 50 = .ok (.putfield 27, 3) := by decide +kernel
theorem dX5_init_53 : decode cX5_init 53 = .ok (.aload_n 0, 1) := by decide +kernel
theorem dX5_init_54 : decode cX5_init 54 = .ok (.iconst 0, 1) := by decide +kernel
theorem dX5_init_55 : decode cX5_init 55 = .ok (.putfield 30, 3) := by decide +kernel
theorem dX5_init_58 : decode cX5_init 58 = .ok (.aload_n 0, 1) := by decide +kernel
theorem dX5_init_59 : decode cX5_init 59 = .ok (.iconst 0, 1) := by decide +kernel
theorem dX5_init_60 : decode cX5_init 60 = .ok (.putfield 34, 3) := by decide +kernel
theorem dX5_init_63 : decode cX5_init 63 = .ok (.aload_n 0, 1) := by decide +kernel
theorem dX5_init_64 : decode cX5_init 64 = .ok (.iconst 0, 1) := by decide +kernel
theorem dX5_init_65 : decode cX5_init 65 = .ok (.putfield 37, 3) := by decide +kernel
theorem dX5_init_68 : decode cX5_init 68 = .ok (.aload_n 0, 1) := by decide +kernel
theorem dX5_init_69 : decode cX5_init 69 = .ok (.iconst 0, 1) := by decide +kernel
theorem dX5_init_70 : decode cX5_init 70 = .ok (.putfield 40, 3) := by decide +kernel
theorem dX5_init_73 : decode cX5_init 73 = .ok (.return_, 1) := by decide +kernel
/-! LastLoaf$Poll.<init> -/
def ch5 (w : Wp) (b n : Nat) : List va_E := .inr (5, [.ref (b + (n + 1)), .ref (b + (n + 2)), .ref (b + (n + 3)), .ref (b + (n + 4)), .ref (b + (n + 5)), .ref (b + (n + 6)), .int 0, .int 0, .int 0, .int 0]) :: (.inl (w.2.1.1, 36, .inl (fun _ => 0)) :: (.inl (w.2.1.1, 36, .inl (fun _ => 0)) :: (.inl (w.2.1.1, 6, .inl (fun _ => 0)) :: (.inl (w.2.1.1, 6, .inl (fun _ => 0)) :: (.inl (w.2.1.1, 6, .inl (fun _ => 0)) :: (.inl (w.2.1.1, 384, .inl (fun _ => 0)) :: []))))))
theorem ch5_len (w : Wp) (b n : Nat) : (ch5 w b n).length = 7 := by
  unfold ch5
  simp only [List.length_cons, List.length_append, List.length_nil, ch8_len, ch3_len, ch10_len, ch2_len, ch6_len, ch4_len]
abbrev rmI5 : Room := { frames := 1, cells := 6, slots := 474, locals := 40 }
set_option maxHeartbeats 8000000 in
set_option maxRecDepth 100000 in
theorem k5_init {l : Launch} {w : Wp} {b n : Nat} {Q : List va_E} (hQ : Q.length = n) : yM l w yX5_init cX5_init 1 rmI5 [.ref (b + n)] b (Q ++ [.inr (5, [.null, .null, .null, .null, .null, .null, .int 0, .int 0, .int 0, .int 0])]) (Q ++ ch5 w b n) 6 474 := yM_of rfl (Nat.le_of_ble_eq_true rfl) (fun Θ hl0 hw C hnm => by
  subst hw
  refine y_cs (cs' := Q ++ .inr (5, [.null, .null, .null, .null, .null, .null, .int 0, .int 0, .int 0, .int 0]) :: []) rfl ?_
  refine y_aload_n C 0 dX5_init_0 rfl rfl ?_
  refine y_objInit C w_2_40 w_1_36 w_1_37 dX5_init_1 ⟨(Nat.le_of_ble_eq_true rfl), (Nat.le_of_ble_eq_true rfl)⟩ ?_
  refine y_aload_n C 0 dX5_init_4 rfl rfl ?_
  refine y_bipush (v := 36) C dX5_init_5 bp_36 ?_
  refine y_newa (N := 36) (n := n + 1) (cs' := Q ++ .inr (5, [.null, .null, .null, .null, .null, .null, .int 0, .int 0, .int 0, .int 0]) :: (.inl (Θ.2.2.2.2.2.2.1.1, 36, .inl (fun _ => 0)) :: [])) C w_1_64 (by decide) (by decide) (by decide) (cq_len hQ (by simp only [List.length_cons, List.length_append, List.length_nil, ch8_len, ch3_len, ch10_len, ch2_len, ch6_len, ch4_len])) cq_app ⟨(Nat.le_of_ble_eq_true rfl), (Nat.le_of_ble_eq_true rfl)⟩ dX5_init_7 ?_
  refine y_put (cs' := Q ++ .inr (5, [.ref (b + (n + 1)), .null, .null, .null, .null, .null, .int 0, .int 0, .int 0, .int 0]) :: (.inl (Θ.2.2.2.2.2.2.1.1, 36, .inl (fun _ => 0)) :: [])) C hnm inT5 tyX5_ok nmX5 n (cq_get0 hQ) rfl 0 (by decide) w_2_41 rfl rfl rfl (Nat.le_of_ble_eq_true rfl) (cq_put hQ rfl) dX5_init_9 ?_
  refine y_aload_n C 0 dX5_init_12 rfl rfl ?_
  refine y_bipush (v := 36) C dX5_init_13 bp_36 ?_
  refine y_newa (N := 36) (n := n + 2) (cs' := Q ++ .inr (5, [.ref (b + (n + 1)), .null, .null, .null, .null, .null, .int 0, .int 0, .int 0, .int 0]) :: (.inl (Θ.2.2.2.2.2.2.1.1, 36, .inl (fun _ => 0)) :: (.inl (Θ.2.2.2.2.2.2.1.1, 36, .inl (fun _ => 0)) :: []))) C w_1_64 (by decide) (by decide) (by decide) (cq_len hQ (by simp only [List.length_cons, List.length_append, List.length_nil, ch8_len, ch3_len, ch10_len, ch2_len, ch6_len, ch4_len])) cq_app ⟨(Nat.le_of_ble_eq_true rfl), (Nat.le_of_ble_eq_true rfl)⟩ dX5_init_15 ?_
  refine y_put (cs' := Q ++ .inr (5, [.ref (b + (n + 1)), .ref (b + (n + 2)), .null, .null, .null, .null, .int 0, .int 0, .int 0, .int 0]) :: (.inl (Θ.2.2.2.2.2.2.1.1, 36, .inl (fun _ => 0)) :: (.inl (Θ.2.2.2.2.2.2.1.1, 36, .inl (fun _ => 0)) :: []))) C hnm inT5 tyX5_ok nmX5 n (cq_get0 hQ) rfl 1 (by decide) w_2_42 rfl rfl rfl (Nat.le_of_ble_eq_true rfl) (cq_put hQ rfl) dX5_init_17 ?_
  refine y_aload_n C 0 dX5_init_20 rfl rfl ?_
  refine y_bipush (v := 6) C dX5_init_21 bp_6 ?_
  refine y_newa (N := 6) (n := n + 3) (cs' := Q ++ .inr (5, [.ref (b + (n + 1)), .ref (b + (n + 2)), .null, .null, .null, .null, .int 0, .int 0, .int 0, .int 0]) :: (.inl (Θ.2.2.2.2.2.2.1.1, 36, .inl (fun _ => 0)) :: (.inl (Θ.2.2.2.2.2.2.1.1, 36, .inl (fun _ => 0)) :: (.inl (Θ.2.2.2.2.2.2.1.1, 6, .inl (fun _ => 0)) :: [])))) C w_1_64 (by decide) (by decide) (by decide) (cq_len hQ (by simp only [List.length_cons, List.length_append, List.length_nil, ch8_len, ch3_len, ch10_len, ch2_len, ch6_len, ch4_len])) cq_app ⟨(Nat.le_of_ble_eq_true rfl), (Nat.le_of_ble_eq_true rfl)⟩ dX5_init_23 ?_
  refine y_put (cs' := Q ++ .inr (5, [.ref (b + (n + 1)), .ref (b + (n + 2)), .ref (b + (n + 3)), .null, .null, .null, .int 0, .int 0, .int 0, .int 0]) :: (.inl (Θ.2.2.2.2.2.2.1.1, 36, .inl (fun _ => 0)) :: (.inl (Θ.2.2.2.2.2.2.1.1, 36, .inl (fun _ => 0)) :: (.inl (Θ.2.2.2.2.2.2.1.1, 6, .inl (fun _ => 0)) :: [])))) C hnm inT5 tyX5_ok nmX5 n (cq_get0 hQ) rfl 2 (by decide) w_2_43 rfl rfl rfl (Nat.le_of_ble_eq_true rfl) (cq_put hQ rfl) dX5_init_25 ?_
  refine y_aload_n C 0 dX5_init_28 rfl rfl ?_
  refine y_bipush (v := 6) C dX5_init_29 bp_6 ?_
  refine y_newa (N := 6) (n := n + 4) (cs' := Q ++ .inr (5, [.ref (b + (n + 1)), .ref (b + (n + 2)), .ref (b + (n + 3)), .null, .null, .null, .int 0, .int 0, .int 0, .int 0]) :: (.inl (Θ.2.2.2.2.2.2.1.1, 36, .inl (fun _ => 0)) :: (.inl (Θ.2.2.2.2.2.2.1.1, 36, .inl (fun _ => 0)) :: (.inl (Θ.2.2.2.2.2.2.1.1, 6, .inl (fun _ => 0)) :: (.inl (Θ.2.2.2.2.2.2.1.1, 6, .inl (fun _ => 0)) :: []))))) C w_1_64 (by decide) (by decide) (by decide) (cq_len hQ (by simp only [List.length_cons, List.length_append, List.length_nil, ch8_len, ch3_len, ch10_len, ch2_len, ch6_len, ch4_len])) cq_app ⟨(Nat.le_of_ble_eq_true rfl), (Nat.le_of_ble_eq_true rfl)⟩ dX5_init_31 ?_
  refine y_put (cs' := Q ++ .inr (5, [.ref (b + (n + 1)), .ref (b + (n + 2)), .ref (b + (n + 3)), .ref (b + (n + 4)), .null, .null, .int 0, .int 0, .int 0, .int 0]) :: (.inl (Θ.2.2.2.2.2.2.1.1, 36, .inl (fun _ => 0)) :: (.inl (Θ.2.2.2.2.2.2.1.1, 36, .inl (fun _ => 0)) :: (.inl (Θ.2.2.2.2.2.2.1.1, 6, .inl (fun _ => 0)) :: (.inl (Θ.2.2.2.2.2.2.1.1, 6, .inl (fun _ => 0)) :: []))))) C hnm inT5 tyX5_ok nmX5 n (cq_get0 hQ) rfl 3 (by decide) w_2_44 rfl rfl rfl (Nat.le_of_ble_eq_true rfl) (cq_put hQ rfl) dX5_init_33 ?_
  refine y_aload_n C 0 dX5_init_36 rfl rfl ?_
  refine y_bipush (v := 6) C dX5_init_37 bp_6 ?_
  refine y_newa (N := 6) (n := n + 5) (cs' := Q ++ .inr (5, [.ref (b + (n + 1)), .ref (b + (n + 2)), .ref (b + (n + 3)), .ref (b + (n + 4)), .null, .null, .int 0, .int 0, .int 0, .int 0]) :: (.inl (Θ.2.2.2.2.2.2.1.1, 36, .inl (fun _ => 0)) :: (.inl (Θ.2.2.2.2.2.2.1.1, 36, .inl (fun _ => 0)) :: (.inl (Θ.2.2.2.2.2.2.1.1, 6, .inl (fun _ => 0)) :: (.inl (Θ.2.2.2.2.2.2.1.1, 6, .inl (fun _ => 0)) :: (.inl (Θ.2.2.2.2.2.2.1.1, 6, .inl (fun _ => 0)) :: [])))))) C w_1_64 (by decide) (by decide) (by decide) (cq_len hQ (by simp only [List.length_cons, List.length_append, List.length_nil, ch8_len, ch3_len, ch10_len, ch2_len, ch6_len, ch4_len])) cq_app ⟨(Nat.le_of_ble_eq_true rfl), (Nat.le_of_ble_eq_true rfl)⟩ dX5_init_39 ?_
  refine y_put (cs' := Q ++ .inr (5, [.ref (b + (n + 1)), .ref (b + (n + 2)), .ref (b + (n + 3)), .ref (b + (n + 4)), .ref (b + (n + 5)), .null, .int 0, .int 0, .int 0, .int 0]) :: (.inl (Θ.2.2.2.2.2.2.1.1, 36, .inl (fun _ => 0)) :: (.inl (Θ.2.2.2.2.2.2.1.1, 36, .inl (fun _ => 0)) :: (.inl (Θ.2.2.2.2.2.2.1.1, 6, .inl (fun _ => 0)) :: (.inl (Θ.2.2.2.2.2.2.1.1, 6, .inl (fun _ => 0)) :: (.inl (Θ.2.2.2.2.2.2.1.1, 6, .inl (fun _ => 0)) :: [])))))) C hnm inT5 tyX5_ok nmX5 n (cq_get0 hQ) rfl 4 (by decide) w_2_45 rfl rfl rfl (Nat.le_of_ble_eq_true rfl) (cq_put hQ rfl) dX5_init_41 ?_
  refine y_aload_n C 0 dX5_init_44 rfl rfl ?_
  refine y_sipush (v := 384) C dX5_init_45 sp_384 ?_
  refine y_newa (N := 384) (n := n + 6) (cs' := Q ++ .inr (5, [.ref (b + (n + 1)), .ref (b + (n + 2)), .ref (b + (n + 3)), .ref (b + (n + 4)), .ref (b + (n + 5)), .null, .int 0, .int 0, .int 0, .int 0]) :: (.inl (Θ.2.2.2.2.2.2.1.1, 36, .inl (fun _ => 0)) :: (.inl (Θ.2.2.2.2.2.2.1.1, 36, .inl (fun _ => 0)) :: (.inl (Θ.2.2.2.2.2.2.1.1, 6, .inl (fun _ => 0)) :: (.inl (Θ.2.2.2.2.2.2.1.1, 6, .inl (fun _ => 0)) :: (.inl (Θ.2.2.2.2.2.2.1.1, 6, .inl (fun _ => 0)) :: (.inl (Θ.2.2.2.2.2.2.1.1, 384, .inl (fun _ => 0)) :: []))))))) C w_1_64 (by decide) (by decide) (by decide) (cq_len hQ (by simp only [List.length_cons, List.length_append, List.length_nil, ch8_len, ch3_len, ch10_len, ch2_len, ch6_len, ch4_len])) cq_app ⟨(Nat.le_of_ble_eq_true rfl), (Nat.le_of_ble_eq_true rfl)⟩ dX5_init_48 ?_
  refine y_put (cs' := Q ++ .inr (5, [.ref (b + (n + 1)), .ref (b + (n + 2)), .ref (b + (n + 3)), .ref (b + (n + 4)), .ref (b + (n + 5)), .ref (b + (n + 6)), .int 0, .int 0, .int 0, .int 0]) :: (.inl (Θ.2.2.2.2.2.2.1.1, 36, .inl (fun _ => 0)) :: (.inl (Θ.2.2.2.2.2.2.1.1, 36, .inl (fun _ => 0)) :: (.inl (Θ.2.2.2.2.2.2.1.1, 6, .inl (fun _ => 0)) :: (.inl (Θ.2.2.2.2.2.2.1.1, 6, .inl (fun _ => 0)) :: (.inl (Θ.2.2.2.2.2.2.1.1, 6, .inl (fun _ => 0)) :: (.inl (Θ.2.2.2.2.2.2.1.1, 384, .inl (fun _ => 0)) :: []))))))) C hnm inT5 tyX5_ok nmX5 n (cq_get0 hQ) rfl 5 (by decide) w_2_46 rfl rfl rfl (Nat.le_of_ble_eq_true rfl) (cq_put hQ rfl) dX5_init_50 ?_
  refine y_aload_n C 0 dX5_init_53 rfl rfl ?_
  refine y_iconst (v := 0) C dX5_init_54 ic_0 ?_
  refine y_put (cs' := Q ++ .inr (5, [.ref (b + (n + 1)), .ref (b + (n + 2)), .ref (b + (n + 3)), .ref (b + (n + 4)), .ref (b + (n + 5)), .ref (b + (n + 6)), .int 0, .int 0, .int 0, .int 0]) :: (.inl (Θ.2.2.2.2.2.2.1.1, 36, .inl (fun _ => 0)) :: (.inl (Θ.2.2.2.2.2.2.1.1, 36, .inl (fun _ => 0)) :: (.inl (Θ.2.2.2.2.2.2.1.1, 6, .inl (fun _ => 0)) :: (.inl (Θ.2.2.2.2.2.2.1.1, 6, .inl (fun _ => 0)) :: (.inl (Θ.2.2.2.2.2.2.1.1, 6, .inl (fun _ => 0)) :: (.inl (Θ.2.2.2.2.2.2.1.1, 384, .inl (fun _ => 0)) :: []))))))) C hnm inT5 tyX5_ok nmX5 n (cq_get0 hQ) rfl 6 (by decide) w_2_47 rfl rfl rfl (Nat.le_of_ble_eq_true rfl) (cq_put hQ rfl) dX5_init_55 ?_
  refine y_aload_n C 0 dX5_init_58 rfl rfl ?_
  refine y_iconst (v := 0) C dX5_init_59 ic_0 ?_
  refine y_put (cs' := Q ++ .inr (5, [.ref (b + (n + 1)), .ref (b + (n + 2)), .ref (b + (n + 3)), .ref (b + (n + 4)), .ref (b + (n + 5)), .ref (b + (n + 6)), .int 0, .int 0, .int 0, .int 0]) :: (.inl (Θ.2.2.2.2.2.2.1.1, 36, .inl (fun _ => 0)) :: (.inl (Θ.2.2.2.2.2.2.1.1, 36, .inl (fun _ => 0)) :: (.inl (Θ.2.2.2.2.2.2.1.1, 6, .inl (fun _ => 0)) :: (.inl (Θ.2.2.2.2.2.2.1.1, 6, .inl (fun _ => 0)) :: (.inl (Θ.2.2.2.2.2.2.1.1, 6, .inl (fun _ => 0)) :: (.inl (Θ.2.2.2.2.2.2.1.1, 384, .inl (fun _ => 0)) :: []))))))) C hnm inT5 tyX5_ok nmX5 n (cq_get0 hQ) rfl 7 (by decide) w_2_48 rfl rfl rfl (Nat.le_of_ble_eq_true rfl) (cq_put hQ rfl) dX5_init_60 ?_
  refine y_aload_n C 0 dX5_init_63 rfl rfl ?_
  refine y_iconst (v := 0) C dX5_init_64 ic_0 ?_
  refine y_put (cs' := Q ++ .inr (5, [.ref (b + (n + 1)), .ref (b + (n + 2)), .ref (b + (n + 3)), .ref (b + (n + 4)), .ref (b + (n + 5)), .ref (b + (n + 6)), .int 0, .int 0, .int 0, .int 0]) :: (.inl (Θ.2.2.2.2.2.2.1.1, 36, .inl (fun _ => 0)) :: (.inl (Θ.2.2.2.2.2.2.1.1, 36, .inl (fun _ => 0)) :: (.inl (Θ.2.2.2.2.2.2.1.1, 6, .inl (fun _ => 0)) :: (.inl (Θ.2.2.2.2.2.2.1.1, 6, .inl (fun _ => 0)) :: (.inl (Θ.2.2.2.2.2.2.1.1, 6, .inl (fun _ => 0)) :: (.inl (Θ.2.2.2.2.2.2.1.1, 384, .inl (fun _ => 0)) :: []))))))) C hnm inT5 tyX5_ok nmX5 n (cq_get0 hQ) rfl 8 (by decide) w_2_50 rfl rfl rfl (Nat.le_of_ble_eq_true rfl) (cq_put hQ rfl) dX5_init_65 ?_
  refine y_aload_n C 0 dX5_init_68 rfl rfl ?_
  refine y_iconst (v := 0) C dX5_init_69 ic_0 ?_
  refine y_put (cs' := Q ++ .inr (5, [.ref (b + (n + 1)), .ref (b + (n + 2)), .ref (b + (n + 3)), .ref (b + (n + 4)), .ref (b + (n + 5)), .ref (b + (n + 6)), .int 0, .int 0, .int 0, .int 0]) :: (.inl (Θ.2.2.2.2.2.2.1.1, 36, .inl (fun _ => 0)) :: (.inl (Θ.2.2.2.2.2.2.1.1, 36, .inl (fun _ => 0)) :: (.inl (Θ.2.2.2.2.2.2.1.1, 6, .inl (fun _ => 0)) :: (.inl (Θ.2.2.2.2.2.2.1.1, 6, .inl (fun _ => 0)) :: (.inl (Θ.2.2.2.2.2.2.1.1, 6, .inl (fun _ => 0)) :: (.inl (Θ.2.2.2.2.2.2.1.1, 384, .inl (fun _ => 0)) :: []))))))) C hnm inT5 tyX5_ok nmX5 n (cq_get0 hQ) rfl 9 (by decide) w_2_51 rfl rfl rfl (Nat.le_of_ble_eq_true rfl) (cq_put hQ rfl) dX5_init_70 ?_
  exact y_vret C ⟨Nat.le_refl _, Nat.le_refl _⟩ dX5_init_73)

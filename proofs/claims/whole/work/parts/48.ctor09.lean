theorem dX9_init_0 : decode cX9_init 0 = .ok (.aload_n 0, 1) := by decide +kernel
theorem dX9_init_1 : decode cX9_init 1 = .ok (.invokespecial 3, 3) := by decide +kernel
theorem w_2_93 : Cond.methodLink "LastLoaf$Turns" (3 : Nat) ({ cls := "java/lang/Object", name := "<init>", desc := "()V" } : MethodName) ∈ TB := tb_in (lwt_2 (List.mem_of_getElem? (i := 93) (by decide +kernel))) rfl
theorem dX9_init_4 : decode cX9_init 4 = .ok (.aload_n 0, 1) := by decide +kernel
theorem dX9_init_5 : decode cX9_init 5 = .ok (.bipush 36, 2) := by decide +kernel
theorem dX9_init_7 : decode cX9_init 7 = .ok (.newarray .int, 2) := by decide +kernel
theorem dX9_init_9 : decode cX9_init 9 = .ok (.putfield 9, 3) := by decide +kernel
theorem dX9_init_12 : decode cX9_init 12 = .ok (.aload_n 0, 1) := by decide +kernel
theorem dX9_init_13 : decode cX9_init 13 = .ok (.bipush 6, 2) := by decide +kernel
theorem dX9_init_15 : decode cX9_init 15 = .ok (.newarray .int, 2) := by decide +kernel
theorem dX9_init_17 : decode cX9_init 17 = .ok (.putfield 15, 3) := by decide +kernel
theorem dX9_init_20 : decode cX9_init 20 = .ok (.aload_n 0, 1) := by decide +kernel
theorem dX9_init_21 : decode cX9_init 21 = .ok (.bipush 6, 2) := by decide +kernel
theorem dX9_init_23 : decode cX9_init 23 = .ok (.newarray .int, 2) := by decide +kernel
theorem dX9_init_25 : decode cX9_init 25 = .ok (.putfield 18, 3) := by decide +kernel
theorem dX9_init_28 : decode cX9_init 28 = .ok (.aload_n 0, 1) := by decide +kernel
theorem dX9_init_29 : decode cX9_init 29 = .ok (.iconst 5, 1) := by decide +kernel
theorem dX9_init_30 : decode cX9_init 30 = .ok (.newarray .int, 2) := by decide +kernel
theorem dX9_init_32 : decode cX9_init 32 = .ok (.putfield 21, 3) := by decide +kernel
theorem dX9_init_35 : decode cX9_init 35 = .ok (.aload_n 0, 1) := by decide +kernel
theorem dX9_init_36 : decode cX9_init 36 = .ok (.iconst 5, 1) := by decide +kernel
theorem dX9_init_37 : decode cX9_init 37 = .ok (.newarray .int, 2) := by decide +kernel
theorem dX9_init_39 : decode cX9_init 39 = .ok (.putfield 24, 3) := by decide +kernel
theorem dX9_init_42 : decode cX9_init 42 = .ok (.aload_n 0, 1) := by decide +kernel
theorem dX9_init_43 : decode cX9_init 43 = .ok (.iconst 5, 1) := by decide +kernel
theorem dX9_init_44 : decode cX9_init 44 = .ok (.newarray .int, 2) := by decide +kernel
theorem dX9_init_46 : decode cX9_init 46 = .ok (.putfield 27, 3) := by decide +kernel
theorem dX9_init_49 : decode cX9_init 49 = .ok (.aload_n 0, 1) := by decide +kernel
theorem dX9_init_50 : decode cX9_init 50 = .ok (.iconst 0, 1) := by decide +kernel
theorem dX9_init_51 : decode cX9_init 51 = .ok (.putfield 30, 3) := by decide +kernel
theorem dX9_init_54 : decode cX9_init 54 = .ok (.aload_n 0, 1) := by decide +kernel
theorem dX9_init_55 : decode cX9_init 55 = .ok (.iconst 0, 1) := by decide +kernel
theorem dX9_init_56 : decode cX9_init 56 = .ok (.putfield 34, 3) := by decide +kernel
theorem dX9_init_59 : decode cX9_init 59 = .ok (.aload_n 0, 1) := by decide +kernel
theorem dX9_init_60 : decode cX9_init 60 = .ok (.iconst 0, 1) := by decide +kernel
theorem dX9_init_61 : decode cX9_init 61 = .ok (.putfield 37, 3) := by decide +kernel
theorem dX9_init_64 : decode cX9_init 64 = .ok (.aload_n 0, 1) := by decide +kernel
theorem dX9_init_65 : decode cX9_init 65 = .ok (.iconst 0, 1) := by decide +kernel
theorem dX9_init_66 : decode cX9_init 66 = .ok (.putfield 40, 3) := by decide +kernel
theorem dX9_init_69 : decode cX9_init 69 = .ok (.aload_n 0, 1) := by decide +kernel
theorem dX9_init_70 : decode cX9_init 70 = .ok (.iconst 0, 1) := by decide +kernel
theorem dX9_init_71 : decode cX9_init 71 = .ok (.putfield 43, 3) := by decide +kernel
theorem dX9_init_74 : decode cX9_init 74 = .ok (.return_, 1) := by decide +kernel
/-! LastLoaf$Turns.<init> -/
def ch9 (w : Wp) (b n : Nat) : List va_E := .inr (9, [.ref (b + (n + 1)), .ref (b + (n + 2)), .ref (b + (n + 3)), .ref (b + (n + 4)), .ref (b + (n + 5)), .ref (b + (n + 6)), .int 0, .int 0, .int 0, .int 0, .int 0]) :: (.inl (w.2.1.1, 36, .inl (fun _ => 0)) :: (.inl (w.2.1.1, 6, .inl (fun _ => 0)) :: (.inl (w.2.1.1, 6, .inl (fun _ => 0)) :: (.inl (w.2.1.1, 5, .inl (fun _ => 0)) :: (.inl (w.2.1.1, 5, .inl (fun _ => 0)) :: (.inl (w.2.1.1, 5, .inl (fun _ => 0)) :: []))))))
theorem ch9_len (w : Wp) (b n : Nat) : (ch9 w b n).length = 7 := by
  unfold ch9
  simp only [List.length_cons, List.length_append, List.length_nil, ch8_len, ch3_len, ch10_len, ch2_len, ch6_len, ch4_len, ch5_len, ch0_len]
abbrev rmI9 : Room := { frames := 1, cells := 6, slots := 63, locals := 40 }
set_option maxHeartbeats 8000000 in
set_option maxRecDepth 100000 in
theorem k9_init {l : Launch} {w : Wp} {b n : Nat} {Q : List va_E} (hQ : Q.length = n) : yM l w yX9_init cX9_init 1 rmI9 [.ref (b + n)] b (Q ++ [.inr (9, [.null, .null, .null, .null, .null, .null, .int 0, .int 0, .int 0, .int 0, .int 0])]) (Q ++ ch9 w b n) 6 63 := yM_of rfl (Nat.le_of_ble_eq_true rfl) (fun Θ hl0 hw C hnm => by
  subst hw
  refine y_cs (cs' := Q ++ .inr (9, [.null, .null, .null, .null, .null, .null, .int 0, .int 0, .int 0, .int 0, .int 0]) :: []) rfl ?_
  refine y_aload_n C 0 dX9_init_0 rfl rfl ?_
  refine y_objInit C w_2_93 w_1_36 w_1_37 dX9_init_1 ⟨(Nat.le_of_ble_eq_true rfl), (Nat.le_of_ble_eq_true rfl)⟩ ?_
  refine y_aload_n C 0 dX9_init_4 rfl rfl ?_
  refine y_bipush (v := 36) C dX9_init_5 bp_36 ?_
  refine y_newa (N := 36) (n := n + 1) (cs' := Q ++ .inr (9, [.null, .null, .null, .null, .null, .null, .int 0, .int 0, .int 0, .int 0, .int 0]) :: (.inl (Θ.2.2.2.2.2.2.1.1, 36, .inl (fun _ => 0)) :: [])) C w_1_64 (by decide) (by decide) (by decide) (cq_len hQ (by simp only [List.length_cons, List.length_append, List.length_nil, ch8_len, ch3_len, ch10_len, ch2_len, ch6_len, ch4_len, ch5_len, ch0_len])) cq_app ⟨(Nat.le_of_ble_eq_true rfl), (Nat.le_of_ble_eq_true rfl)⟩ dX9_init_7 ?_
  refine y_put (cs' := Q ++ .inr (9, [.ref (b + (n + 1)), .null, .null, .null, .null, .null, .int 0, .int 0, .int 0, .int 0, .int 0]) :: (.inl (Θ.2.2.2.2.2.2.1.1, 36, .inl (fun _ => 0)) :: [])) C hnm inT9 tyX9_ok nmX9 n (cq_get0 hQ) rfl 0 (by decide) w_2_94 rfl rfl rfl (Nat.le_of_ble_eq_true rfl) (cq_put hQ rfl) dX9_init_9 ?_
  refine y_aload_n C 0 dX9_init_12 rfl rfl ?_
  refine y_bipush (v := 6) C dX9_init_13 bp_6 ?_
  refine y_newa (N := 6) (n := n + 2) (cs' := Q ++ .inr (9, [.ref (b + (n + 1)), .null, .null, .null, .null, .null, .int 0, .int 0, .int 0, .int 0, .int 0]) :: (.inl (Θ.2.2.2.2.2.2.1.1, 36, .inl (fun _ => 0)) :: (.inl (Θ.2.2.2.2.2.2.1.1, 6, .inl (fun _ => 0)) :: []))) C w_1_64 (by decide) (by decide) (by decide) (cq_len hQ (by simp only [List.length_cons, List.length_append, List.length_nil, ch8_len, ch3_len, ch10_len, ch2_len, ch6_len, ch4_len, ch5_len, ch0_len])) cq_app ⟨(Nat.le_of_ble_eq_true rfl), (Nat.le_of_ble_eq_true rfl)⟩ dX9_init_15 ?_
  refine y_put (cs' := Q ++ .inr (9, [.ref (b + (n + 1)), .ref (b + (n + 2)), .null, .null, .null, .null, .int 0, .int 0, .int 0, .int 0, .int 0]) :: (.inl (Θ.2.2.2.2.2.2.1.1, 36, .inl (fun _ => 0)) :: (.inl (Θ.2.2.2.2.2.2.1.1, 6, .inl (fun _ => 0)) :: []))) C hnm inT9 tyX9_ok nmX9 n (cq_get0 hQ) rfl 1 (by decide) w_2_95 rfl rfl rfl (Nat.le_of_ble_eq_true rfl) (cq_put hQ rfl) dX9_init_17 ?_
  refine y_aload_n C 0 dX9_init_20 rfl rfl ?_
  refine y_bipush (v := 6) C dX9_init_21 bp_6 ?_
  refine y_newa (N := 6) (n := n + 3) (cs' := Q ++ .inr (9, [.ref (b + (n + 1)), .ref (b + (n + 2)), .null, .null, .null, .null, .int 0, .int 0, .int 0, .int 0, .int 0]) :: (.inl (Θ.2.2.2.2.2.2.1.1, 36, .inl (fun _ => 0)) :: (.inl (Θ.2.2.2.2.2.2.1.1, 6, .inl (fun _ => 0)) :: (.inl (Θ.2.2.2.2.2.2.1.1, 6, .inl (fun _ => 0)) :: [])))) C w_1_64 (by decide) (by decide) (by decide) (cq_len hQ (by simp only [List.length_cons, List.length_append, List.length_nil, ch8_len, ch3_len, ch10_len, ch2_len, ch6_len, ch4_len, ch5_len, ch0_len])) cq_app ⟨(Nat.le_of_ble_eq_true rfl), (Nat.le_of_ble_eq_true rfl)⟩ dX9_init_23 ?_
  refine y_put (cs' := Q ++ .inr (9, [.ref (b + (n + 1)), .ref (b + (n + 2)), .ref (b + (n + 3)), .null, .null, .null, .int 0, .int 0, .int 0, .int 0, .int 0]) :: (.inl (Θ.2.2.2.2.2.2.1.1, 36, .inl (fun _ => 0)) :: (.inl (Θ.2.2.2.2.2.2.1.1, 6, .inl (fun _ => 0)) :: (.inl (Θ.2.2.2.2.2.2.1.1, 6, .inl (fun _ => 0)) :: [])))) C hnm inT9 tyX9_ok nmX9 n (cq_get0 hQ) rfl 2 (by decide) w_2_96 rfl rfl rfl (Nat.le_of_ble_eq_true rfl) (cq_put hQ rfl) dX9_init_25 ?_
  refine y_aload_n C 0 dX9_init_28 rfl rfl ?_
  refine y_iconst (v := 5) C dX9_init_29 ic_5 ?_
  refine y_newa (N := 5) (n := n + 4) (cs' := Q ++ .inr (9, [.ref (b + (n + 1)), .ref (b + (n + 2)), .ref (b + (n + 3)), .null, .null, .null, .int 0, .int 0, .int 0, .int 0, .int 0]) :: (.inl (Θ.2.2.2.2.2.2.1.1, 36, .inl (fun _ => 0)) :: (.inl (Θ.2.2.2.2.2.2.1.1, 6, .inl (fun _ => 0)) :: (.inl (Θ.2.2.2.2.2.2.1.1, 6, .inl (fun _ => 0)) :: (.inl (Θ.2.2.2.2.2.2.1.1, 5, .inl (fun _ => 0)) :: []))))) C w_1_64 (by decide) (by decide) (by decide) (cq_len hQ (by simp only [List.length_cons, List.length_append, List.length_nil, ch8_len, ch3_len, ch10_len, ch2_len, ch6_len, ch4_len, ch5_len, ch0_len])) cq_app ⟨(Nat.le_of_ble_eq_true rfl), (Nat.le_of_ble_eq_true rfl)⟩ dX9_init_30 ?_
  refine y_put (cs' := Q ++ .inr (9, [.ref (b + (n + 1)), .ref (b + (n + 2)), .ref (b + (n + 3)), .ref (b + (n + 4)), .null, .null, .int 0, .int 0, .int 0, .int 0, .int 0]) :: (.inl (Θ.2.2.2.2.2.2.1.1, 36, .inl (fun _ => 0)) :: (.inl (Θ.2.2.2.2.2.2.1.1, 6, .inl (fun _ => 0)) :: (.inl (Θ.2.2.2.2.2.2.1.1, 6, .inl (fun _ => 0)) :: (.inl (Θ.2.2.2.2.2.2.1.1, 5, .inl (fun _ => 0)) :: []))))) C hnm inT9 tyX9_ok nmX9 n (cq_get0 hQ) rfl 3 (by decide) w_2_97 rfl rfl rfl (Nat.le_of_ble_eq_true rfl) (cq_put hQ rfl) dX9_init_32 ?_
  refine y_aload_n C 0 dX9_init_35 rfl rfl ?_
  refine y_iconst (v := 5) C dX9_init_36 ic_5 ?_
  refine y_newa (N := 5) (n := n + 5) (cs' := Q ++ .inr (9, [.ref (b + (n + 1)), .ref (b + (n + 2)), .ref (b + (n + 3)), .ref (b + (n + 4)), .null, .null, .int 0, .int 0, .int 0, .int 0, .int 0]) :: (.inl (Θ.2.2.2.2.2.2.1.1, 36, .inl (fun _ => 0)) :: (.inl (Θ.2.2.2.2.2.2.1.1, 6, .inl (fun _ => 0)) :: (.inl (Θ.2.2.2.2.2.2.1.1, 6, .inl (fun _ => 0)) :: (.inl (Θ.2.2.2.2.2.2.1.1, 5, .inl (fun _ => 0)) :: (.inl (Θ.2.2.2.2.2.2.1.1, 5, .inl (fun _ => 0)) :: [])))))) C w_1_64 (by decide) (by decide) (by decide) (cq_len hQ (by simp only [List.length_cons, List.length_append, List.length_nil, ch8_len, ch3_len, ch10_len, ch2_len, ch6_len, ch4_len, ch5_len, ch0_len])) cq_app ⟨(Nat.le_of_ble_eq_true rfl), (Nat.le_of_ble_eq_true rfl)⟩ dX9_init_37 ?_
  refine y_put (cs' := Q ++ .inr (9, [.ref (b + (n + 1)), .ref (b + (n + 2)), .ref (b + (n + 3)), .ref (b + (n + 4)), .ref (b + (n + 5)), .null, .int 0, .int 0, .int 0, .int 0, .int 0]) :: (.inl (Θ.2.2.2.2.2.2.1.1, 36, .inl (fun _ => 0)) :: (.inl (Θ.2.2.2.2.2.2.1.1, 6, .inl (fun _ => 0)) :: (.inl (Θ.2.2.2.2.2.2.1.1, 6, .inl (fun _ => 0)) :: (.inl (Θ.2.2.2.2.2.2.1.1, 5, .inl (fun _ => 0)) :: (.inl (Θ.2.2.2.2.2.2.1.1, 5, .inl (fun _ => 0)) :: [])))))) C hnm inT9 tyX9_ok nmX9 n (cq_get0 hQ) rfl 4 (by decide) w_2_98 rfl rfl rfl (Nat.le_of_ble_eq_true rfl) (cq_put hQ rfl) dX9_init_39 ?_
  refine y_aload_n C 0 dX9_init_42 rfl rfl ?_
  refine y_iconst (v := 5) C dX9_init_43 ic_5 ?_
  refine y_newa (N := 5) (n := n + 6) (cs' := Q ++ .inr (9, [.ref (b + (n + 1)), .ref (b + (n + 2)), .ref (b + (n + 3)), .ref (b + (n + 4)), .ref (b + (n + 5)), .null, .int 0, .int 0, .int 0, .int 0, .int 0]) :: (.inl (Θ.2.2.2.2.2.2.1.1, 36, .inl (fun _ => 0)) :: (.inl (Θ.2.2.2.2.2.2.1.1, 6, .inl (fun _ => 0)) :: (.inl (Θ.2.2.2.2.2.2.1.1, 6, .inl (fun _ => 0)) :: (.inl (Θ.2.2.2.2.2.2.1.1, 5, .inl (fun _ => 0)) :: (.inl (Θ.2.2.2.2.2.2.1.1, 5, .inl (fun _ => 0)) :: (.inl (Θ.2.2.2.2.2.2.1.1, 5, .inl (fun _ => 0)) :: []))))))) C w_1_64 (by decide) (by decide) (by decide) (cq_len hQ (by simp only [List.length_cons, List.length_append, List.length_nil, ch8_len, ch3_len, ch10_len, ch2_len, ch6_len, ch4_len, ch5_len, ch0_len])) cq_app ⟨(Nat.le_of_ble_eq_true rfl), (Nat.le_of_ble_eq_true rfl)⟩ dX9_init_44 ?_
  refine y_put (cs' := Q ++ .inr (9, [.ref (b + (n + 1)), .ref (b + (n + 2)), .ref (b + (n + 3)), .ref (b + (n + 4)), .ref (b + (n + 5)), .ref (b + (n + 6)), .int 0, .int 0, .int 0, .int 0, .int 0]) :: (.inl (Θ.2.2.2.2.2.2.1.1, 36, .inl (fun _ => 0)) :: (.inl (Θ.2.2.2.2.2.2.1.1, 6, .inl (fun _ => 0)) :: (.inl (Θ.2.2.2.2.2.2.1.1, 6, .inl (fun _ => 0)) :: (.inl (Θ.2.2.2.2.2.2.1.1, 5, .inl (fun _ => 0)) :: (.inl (Θ.2.2.2.2.2.2.1.1, 5, .inl (fun _ => 0)) :: (.inl (Θ.2.2.2.2.2.2.1.1, 5, .inl (fun _ => 0)) :: []))))))) C hnm inT9 tyX9_ok nmX9 n (cq_get0 hQ) rfl 5 (by decide) w_2_99 rfl rfl rfl (Nat.le_of_ble_eq_true rfl) (cq_put hQ rfl) dX9_init_46 ?_
  refine y_aload_n C 0 dX9_init_49 rfl rfl ?_
  refine y_iconst (v := 0) C dX9_init_50 ic_0 ?_
  refine y_put (cs' := Q ++ .inr (9, [.ref (b + (n + 1)), .ref (b + (n + 2)), .ref (b + (n + 3)), .ref (b + (n + 4)), .ref (b + (n + 5)), .ref (b + (n + 6)), .int 0, .int 0, .int 0, .int 0, .int 0]) :: (.inl (Θ.2.2.2.2.2.2.1.1, 36, .inl (fun _ => 0)) :: (.inl (Θ.2.2.2.2.2.2.1.1, 6, .inl (fun _ => 0)) :: (.inl (Θ.2.2.2.2.2.2.1.1, 6, .inl (fun _ => 0)) :: (.inl (Θ.2.2.2.2.2.2.1.1, 5, .inl (fun _ => 0)) :: (.inl (Θ.2.2.2.2.2.2.1.1, 5, .inl (fun _ => 0)) :: (.inl (Θ.2.2.2.2.2.2.1.1, 5, .inl (fun _ => 0)) :: []))))))) C hnm inT9 tyX9_ok nmX9 n (cq_get0 hQ) rfl 6 (by decide) w_2_101 rfl rfl rfl (Nat.le_of_ble_eq_true rfl) (cq_put hQ rfl) dX9_init_51 ?_
  refine y_aload_n C 0 dX9_init_54 rfl rfl ?_
  refine y_iconst (v := 0) C dX9_init_55 ic_0 ?_
  refine y_put (cs' := Q ++ .inr (9, [.ref (b + (n + 1)), .ref (b + (n + 2)), .ref (b + (n + 3)), .ref (b + (n + 4)), .ref (b + (n + 5)), .ref (b + (n + 6)), .int 0, .int 0, .int 0, .int 0, .int 0]) :: (.inl (Θ.2.2.2.2.2.2.1.1, 36, .inl (fun _ => 0)) :: (.inl (Θ.2.2.2.2.2.2.1.1, 6, .inl (fun _ => 0)) :: (.inl (Θ.2.2.2.2.2.2.1.1, 6, .inl (fun _ => 0)) :: (.inl (Θ.2.2.2.2.2.2.1.1, 5, .inl (fun _ => 0)) :: (.inl (Θ.2.2.2.2.2.2.1.1, 5, .inl (fun _ => 0)) :: (.inl (Θ.2.2.2.2.2.2.1.1, 5, .inl (fun _ => 0)) :: []))))))) C hnm inT9 tyX9_ok nmX9 n (cq_get0 hQ) rfl 7 (by decide) w_2_102 rfl rfl rfl (Nat.le_of_ble_eq_true rfl) (cq_put hQ rfl) dX9_init_56 ?_
  refine y_aload_n C 0 dX9_init_59 rfl rfl ?_
  refine y_iconst (v := 0) C dX9_init_60 ic_0 ?_
  refine y_put (cs' := Q ++ .inr (9, [.ref (b + (n + 1)), .ref (b + (n + 2)), .ref (b + (n + 3)), .ref (b + (n + 4)), .ref (b + (n + 5)), .ref (b + (n + 6)), .int 0, .int 0, .int 0, .int 0, .int 0]) :: (.inl (Θ.2.2.2.2.2.2.1.1, 36, .inl (fun _ => 0)) :: (.inl (Θ.2.2.2.2.2.2.1.1, 6, .inl (fun _ => 0)) :: (.inl (Θ.2.2.2.2.2.2.1.1, 6, .inl (fun _ => 0)) :: (.inl (Θ.2.2.2.2.2.2.1.1, 5, .inl (fun _ => 0)) :: (.inl (Θ.2.2.2.2.2.2.1.1, 5, .inl (fun _ => 0)) :: (.inl (Θ.2.2.2.2.2.2.1.1, 5, .inl (fun _ => 0)) :: []))))))) C hnm inT9 tyX9_ok nmX9 n (cq_get0 hQ) rfl 8 (by decide) w_2_103 rfl rfl rfl (Nat.le_of_ble_eq_true rfl) (cq_put hQ rfl) dX9_init_61 ?_
  refine y_aload_n C 0 dX9_init_64 rfl rfl ?_
  refine y_iconst (v := 0) C dX9_init_65 ic_0 ?_
  refine y_put (cs' := Q ++ .inr (9, [.ref (b + (n + 1)), .ref (b + (n + 2)), .ref (b + (n + 3)), .ref (b + (n + 4)), .ref (b + (n + 5)), .ref (b + (n + 6)), .int 0, .int 0, .int 0, .int 0, .int 0]) :: (.inl (Θ.2.2.2.2.2.2.1.1, 36, .inl (fun _ => 0)) :: (.inl (Θ.2.2.2.2.2.2.1.1, 6, .inl (fun _ => 0)) :: (.inl (Θ.2.2.2.2.2.2.1.1, 6, .inl (fun _ => 0)) :: (.inl (Θ.2.2.2.2.2.2.1.1, 5, .inl (fun _ => 0)) :: (.inl (Θ.2.2.2.2.2.2.1.1, 5, .inl (fun _ => 0)) :: (.inl (Θ.2.2.2.2.2.2.1.1, 5, .inl (fun _ => 0)) :: []))))))) C hnm inT9 tyX9_ok nmX9 n (cq_get0 hQ) rfl 9 (by decide) w_2_104 rfl rfl rfl (Nat.le_of_ble_eq_true rfl) (cq_put hQ rfl) dX9_init_66 ?_
  refine y_aload_n C 0 dX9_init_69 rfl rfl ?_
  refine y_iconst (v := 0) C dX9_init_70 ic_0 ?_
  refine y_put (cs' := Q ++ .inr (9, [.ref (b + (n + 1)), .ref (b + (n + 2)), .ref (b + (n + 3)), .ref (b + (n + 4)), .ref (b + (n + 5)), .ref (b + (n + 6)), .int 0, .int 0, .int 0, .int 0, .int 0]) :: (.inl (Θ.2.2.2.2.2.2.1.1, 36, .inl (fun _ => 0)) :: (.inl (Θ.2.2.2.2.2.2.1.1, 6, .inl (fun _ => 0)) :: (.inl (Θ.2.2.2.2.2.2.1.1, 6, .inl (fun _ => 0)) :: (.inl (Θ.2.2.2.2.2.2.1.1, 5, .inl (fun _ => 0)) :: (.inl (Θ.2.2.2.2.2.2.1.1, 5, .inl (fun _ => 0)) :: (.inl (Θ.2.2.2.2.2.2.1.1, 5, .inl (fun _ => 0)) :: []))))))) C hnm inT9 tyX9_ok nmX9 n (cq_get0 hQ) rfl 10 (by decide) w_2_105 rfl rfl rfl (Nat.le_of_ble_eq_true rfl) (cq_put hQ rfl) dX9_init_71 ?_
  exact y_vret C ⟨Nat.le_refl _, Nat.le_refl _⟩ dX9_init_74)

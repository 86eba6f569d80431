theorem dX7_init_0 : decode cX7_init 0 = .ok (.aload_n 0, 1) := by decide +kernel
theorem dX7_init_1 : decode cX7_init 1 = .ok (.invokespecial 3, 3) := by decide +kernel
theorem w_2_135 : Cond.methodLink "LastLoaf$SecretBallots" (3 : Nat) ({ cls := "java/lang/Object", name := "<init>", desc := "()V" } : MethodName) ∈ TB := tb_in (lwt_2 (List.mem_of_getElem? (i := 135) (by decide +kernel))) rfl
theorem dX7_init_4 : decode cX7_init 4 = .ok (.aload_n 0, 1) := by decide +kernel
theorem dX7_init_5 : decode cX7_init 5 = .ok (.bipush 6, 2) := by decide +kernel
theorem dX7_init_7 : decode cX7_init 7 = .ok (.newarray .int, 2) := by decide +kernel
theorem dX7_init_9 : decode cX7_init 9 = .ok (.putfield 9, 3) := by decide +kernel
theorem dX7_init_12 : decode cX7_init 12 = .ok (.aload_n 0, 1) := by decide +kernel
theorem dX7_init_13 : decode cX7_init 13 = .ok (.bipush 6, 2) := by decide +kernel
theorem dX7_init_15 : decode cX7_init 15 = .ok (.newarray .int, 2) := by decide +kernel
theorem dX7_init_17 : decode cX7_init 17 = .ok (.putfield 15, 3) := by decide +kernel
theorem dX7_init_20 : decode cX7_init 20 = .ok (.aload_n 0, 1) := by decide +kernel
theorem dX7_init_21 : decode cX7_init 21 = .ok (.bipush 6, 2) := by decide +kernel
theorem dX7_init_23 : decode cX7_init 23 = .ok (.newarray .int, 2) := by decide +kernel
theorem dX7_init_25 : decode cX7_init 25 = .ok (.putfield 18, 3) := by decide +kernel
theorem dX7_init_28 : decode cX7_init 28 = .ok (.aload_n 0, 1) := by decide +kernel
theorem dX7_init_29 : decode cX7_init 29 = .ok (.sipush 448, 3) := by decide +kernel
theorem sp_448 : (Int16.ofInt (448)).toInt32 = 448 := by decide +kernel
theorem dX7_init_32 : decode cX7_init 32 = .ok (.newarray .int, 2) := by decide +kernel
theorem dX7_init_34 : decode cX7_init 34 = .ok (.putfield 21, 3) := by decide +kernel
theorem dX7_init_37 : decode cX7_init 37 = .ok (.aload_n 0, 1) := by decide +kernel
theorem dX7_init_38 : decode cX7_init 38 = .ok (.sipush 448, 3) := by decide +kernel
theorem dX7_init_41 : decode cX7_init 41 = .ok (.newarray .int, 2) := by decide +kernel
theorem dX7_init_43 : decode cX7_init 43 = .ok (.putfield 24, 3) := by decide +kernel
theorem dX7_init_46 : decode cX7_init 46 = .ok (.aload_n 0, 1) := by decide +kernel
theorem dX7_init_47 : decode cX7_init 47 = .ok (.iconst 0, 1) := by decide +kernel
theorem dX7_init_48 : decode cX7_init 48 = .ok (.putfield 27, 3) := by decide +kernel
theorem dX7_init_51 : decode cX7_init 51 = .ok (.aload_n 0, 1) := by decide +kernel
theorem dX7_init_52 : decode cX7_init 52 = .ok (.iconst 0, 1) := by decide +kernel
theorem dX7_init_53 : decode cX7_init 53 = .ok (.putfield 31, 3) := by decide +kernel
theorem dX7_init_56 : decode cX7_init 56 = .ok (.aload_n 0, 1) := by decide +kernel
theorem dX7_init_57 : decode cX7_init 57 = .ok (.iconst 1, 1) := by decide +kernel
theorem dX7_init_58 : decode cX7_init 58 = .ok (.putfield 34, 3) := by decide +kernel
theorem dX7_init_61 : decode cX7_init 61 = .ok (.aload_n 0, 1) := by decide +kernel
theorem dX7_init_62 : decode cX7_init 62 = .ok (.iconst 0, 1) := by decide +kernel
theorem dX7_init_63 : decode cX7_init 63 = .ok (.putfield 37, 3) := by decide +kernel
theorem dX7_init_66 : decode cX7_init 66 = .ok (.return_, 1) := by decide +kernel
/-! LastLoaf$SecretBallots.<init> -/
def ch7 (w : Wp) (b n : Nat) : List va_E := .inr (7, [.ref (b + (n + 1)), .ref (b + (n + 2)), .ref (b + (n + 3)), .ref (b + (n + 4)), .ref (b + (n + 5)), .int 0, .int 0, .int 1, .int 0]) :: (.inl (w.2.1.1, 6, .inl (fun _ => 0)) :: (.inl (w.2.1.1, 6, .inl (fun _ => 0)) :: (.inl (w.2.1.1, 6, .inl (fun _ => 0)) :: (.inl (w.2.1.1, 448, .inl (fun _ => 0)) :: (.inl (w.2.1.1, 448, .inl (fun _ => 0)) :: [])))))
theorem ch7_len (w : Wp) (b n : Nat) : (ch7 w b n).length = 6 := by
  unfold ch7
  simp only [List.length_cons, List.length_append, List.length_nil, ch8_len, ch3_len, ch10_len, ch2_len, ch6_len, ch4_len, ch5_len, ch0_len, ch9_len]
abbrev rmI7 : Room := { frames := 1, cells := 5, slots := 914, locals := 40 }
set_option maxHeartbeats 8000000 in
set_option maxRecDepth 100000 in
theorem k7_init {l : Launch} {w : Wp} {b n : Nat} {Q : List va_E} (hQ : Q.length = n) : yM l w yX7_init cX7_init 1 rmI7 [.ref (b + n)] b (Q ++ [.inr (7, [.null, .null, .null, .null, .null, .int 0, .int 0, .int 0, .int 0])]) (Q ++ ch7 w b n) 5 914 := yM_of rfl (Nat.le_of_ble_eq_true rfl) (fun Θ hl0 hw C hnm => by
  subst hw
  refine y_cs (cs' := Q ++ .inr (7, [.null, .null, .null, .null, .null, .int 0, .int 0, .int 0, .int 0]) :: []) rfl ?_
  refine y_aload_n C 0 dX7_init_0 rfl rfl ?_
  refine y_objInit C w_2_135 w_1_36 w_1_37 dX7_init_1 ⟨(Nat.le_of_ble_eq_true rfl), (Nat.le_of_ble_eq_true rfl)⟩ ?_
  refine y_aload_n C 0 dX7_init_4 rfl rfl ?_
  refine y_bipush (v := 6) C dX7_init_5 bp_6 ?_
  refine y_newa (N := 6) (n := n + 1) (cs' := Q ++ .inr (7, [.null, .null, .null, .null, .null, .int 0, .int 0, .int 0, .int 0]) :: (.inl (Θ.2.2.2.2.2.2.1.1, 6, .inl (fun _ => 0)) :: [])) C w_1_64 (by decide) (by decide) (by decide) (cq_len hQ (by simp only [List.length_cons, List.length_append, List.length_nil, ch8_len, ch3_len, ch10_len, ch2_len, ch6_len, ch4_len, ch5_len, ch0_len, ch9_len])) cq_app ⟨(Nat.le_of_ble_eq_true rfl), (Nat.le_of_ble_eq_true rfl)⟩ dX7_init_7 ?_
  refine y_put (cs' := Q ++ .inr (7, [.ref (b + (n + 1)), .null, .null, .null, .null, .int 0, .int 0, .int 0, .int 0]) :: (.inl (Θ.2.2.2.2.2.2.1.1, 6, .inl (fun _ => 0)) :: [])) C hnm inT7 tyX7_ok nmX7 n (cq_get0 hQ) rfl 0 (by decide) w_2_136 rfl rfl rfl (Nat.le_of_ble_eq_true rfl) (cq_put hQ rfl) dX7_init_9 ?_
  refine y_aload_n C 0 dX7_init_12 rfl rfl ?_
  refine y_bipush (v := 6) C dX7_init_13 bp_6 ?_
  refine y_newa (N := 6) (n := n + 2) (cs' := Q ++ .inr (7, [.ref (b + (n + 1)), .null, .null, .null, .null, .int 0, .int 0, .int 0, .int 0]) :: (.inl (Θ.2.2.2.2.2.2.1.1, 6, .inl (fun _ => 0)) :: (.inl (Θ.2.2.2.2.2.2.1.1, 6, .inl (fun _ => 0)) :: []))) C w_1_64 (by decide) (by decide) (by decide) (cq_len hQ (by simp only [List.length_cons, List.length_append, List.length_nil, ch8_len, ch3_len, ch10_len, ch2_len, ch6_len, ch4_len, ch5_len, ch0_len, ch9_len])) cq_app ⟨(Nat.le_of_ble_eq_true rfl), (Nat.le_of_ble_eq_true rfl)⟩ dX7_init_15 ?_
  refine y_put (cs' := Q ++ .inr (7, [.ref (b + (n + 1)), .ref (b + (n + 2)), .null, .null, .null, .int 0, .int 0, .int 0, .int 0]) :: (.inl (Θ.2.2.2.2.2.2.1.1, 6, .inl (fun _ => 0)) :: (.inl (Θ.2.2.2.2.2.2.1.1, 6, .inl (fun _ => 0)) :: []))) C hnm inT7 tyX7_ok nmX7 n (cq_get0 hQ) rfl 1 (by decide) w_2_137 rfl rfl rfl (Nat.le_of_ble_eq_true rfl) (cq_put hQ rfl) dX7_init_17 ?_
  refine y_aload_n C 0 dX7_init_20 rfl rfl ?_
  refine y_bipush (v := 6) C dX7_init_21 bp_6 ?_
  refine y_newa (N := 6) (n := n + 3) (cs' := Q ++ .inr (7, [.ref (b + (n + 1)), .ref (b + (n + 2)), .null, .null, .null, .int 0, .int 0, .int 0, .int 0]) :: (.inl (Θ.2.2.2.2.2.2.1.1, 6, .inl (fun _ => 0)) :: (.inl (Θ.2.2.2.2.2.2.1.1, 6, .inl (fun _ => 0)) :: (.inl (Θ.2.2.2.2.2.2.1.1, 6, .inl (fun _ => 0)) :: [])))) C w_1_64 (by decide) (by decide) (by decide) (cq_len hQ (by simp only [List.length_cons, List.length_append, List.length_nil, ch8_len, ch3_len, ch10_len, ch2_len, ch6_len, ch4_len, ch5_len, ch0_len, ch9_len])) cq_app ⟨(Nat.le_of_ble_eq_true rfl), (Nat.le_of_ble_eq_true rfl)⟩ dX7_init_23 ?_
  refine y_put (cs' := Q ++ .inr (7, [.ref (b + (n + 1)), .ref (b + (n + 2)), .ref (b + (n + 3)), .null, .null, .int 0, .int 0, .int 0, .int 0]) :: (.inl (Θ.2.2.2.2.2.2.1.1, 6, .inl (fun _ => 0)) :: (.inl (Θ.2.2.2.2.2.2.1.1, 6, .inl (fun _ => 0)) :: (.inl (Θ.2.2.2.2.2.2.1.1, 6, .inl (fun _ => 0)) :: [])))) C hnm inT7 tyX7_ok nmX7 n (cq_get0 hQ) rfl 2 (by decide) w_2_138 rfl rfl rfl (Nat.le_of_ble_eq_true rfl) (cq_put hQ rfl) dX7_init_25 ?_
  refine y_aload_n C 0 dX7_init_28 rfl rfl ?_
  refine y_sipush (v := 448) C dX7_init_29 sp_448 ?_
  refine y_newa (N := 448) (n := n + 4) (cs' := Q ++ .inr (7, [.ref (b + (n + 1)), .ref (b + (n + 2)), .ref (b + (n + 3)), .null, .null, .int 0, .int 0, .int 0, .int 0]) :: (.inl (Θ.2.2.2.2.2.2.1.1, 6, .inl (fun _ => 0)) :: (.inl (Θ.2.2.2.2.2.2.1.1, 6, .inl (fun _ => 0)) :: (.inl (Θ.2.2.2.2.2.2.1.1, 6, .inl (fun _ => 0)) :: (.inl (Θ.2.2.2.2.2.2.1.1, 448, .inl (fun _ => 0)) :: []))))) C w_1_64 (by decide) (by decide) (by decide) (cq_len hQ (by simp only [List.length_cons, List.length_append, List.length_nil, ch8_len, ch3_len, ch10_len, ch2_len, ch6_len, ch4_len, ch5_len, ch0_len, ch9_len])) cq_app ⟨(Nat.le_of_ble_eq_true rfl), (Nat.le_of_ble_eq_true rfl)⟩ dX7_init_32 ?_
  refine y_put (cs' := Q ++ .inr (7, [.ref (b + (n + 1)), .ref (b + (n + 2)), .ref (b + (n + 3)), .ref (b + (n + 4)), .null, .int 0, .int 0, .int 0, .int 0]) :: (.inl (Θ.2.2.2.2.2.2.1.1, 6, .inl (fun _ => 0)) :: (.inl (Θ.2.2.2.2.2.2.1.1, 6, .inl (fun _ => 0)) :: (.inl (Θ.2.2.2.2.2.2.1.1, 6, .inl (fun _ => 0)) :: (.inl (Θ.2.2.2.2.2.2.1.1, 448, .inl (fun _ => 0)) :: []))))) C hnm inT7 tyX7_ok nmX7 n (cq_get0 hQ) rfl 3 (by decide) w_2_139 rfl rfl rfl (Nat.le_of_ble_eq_true rfl) (cq_put hQ rfl) dX7_init_34 ?_
  refine y_aload_n C 0 dX7_init_37 rfl rfl ?_
  refine y_sipush (v := 448) C dX7_init_38 sp_448 ?_
  refine y_newa (N := 448) (n := n + 5) (cs' := Q ++ .inr (7, [.ref (b + (n + 1)), .ref (b + (n + 2)), .ref (b + (n + 3)), .ref (b + (n + 4)), .null, .int 0, .int 0, .int 0, .int 0]) :: (.inl (Θ.2.2.2.2.2.2.1.1, 6, .inl (fun _ => 0)) :: (.inl (Θ.2.2.2.2.2.2.1.1, 6, .inl (fun _ => 0)) :: (.inl (Θ.2.2.2.2.2.2.1.1, 6, .inl (fun _ => 0)) :: (.inl (Θ.2.2.2.2.2.2.1.1, 448, .inl (fun _ => 0)) :: (.inl (Θ.2.2.2.2.2.2.1.1, 448, .inl (fun _ => 0)) :: [])))))) C w_1_64 (by decide) (by decide) (by decide) (cq_len hQ (by simp only [List.length_cons, List.length_append, List.length_nil, ch8_len, ch3_len, ch10_len, ch2_len, ch6_len, ch4_len, ch5_len, ch0_len, ch9_len])) cq_app ⟨(Nat.le_of_ble_eq_true rfl), (Nat.le_of_ble_eq_true rfl)⟩ dX7_init_41 ?_
  refine y_put (cs' := Q ++ .inr (7, [.ref (b + (n + 1)), .ref (b + (n + 2)), .ref (b + (n + 3)), .ref (b + (n + 4)), .ref (b + (n + 5)), .int 0, .int 0, .int 0, .int 0]) :: (.inl (Θ.2.2.2.2.2.2.1.1, 6, .inl (fun _ => 0)) :: (.inl (Θ.2.2.2.2.2.2.1.1, 6, .inl (fun _ => 0)) :: (.inl (Θ.2.2.2.2.2.2.1.1, 6, .inl (fun _ => 0)) :: (.inl (Θ.2.2.2.2.2.2.1.1, 448, .inl (fun _ => 0)) :: (.inl (Θ.2.2.2.2.2.2.1.1, 448, .inl (fun _ => 0)) :: [])))))) C hnm inT7 tyX7_ok nmX7 n (cq_get0 hQ) rfl 4 (by decide) w_2_140 rfl rfl rfl (Nat.le_of_ble_eq_true rfl) (cq_put hQ rfl) dX7_init_43 ?_
  refine y_aload_n C 0 dX7_init_46 rfl rfl ?_
  refine y_iconst (v := 0) C dX7_init_47 ic_0 ?_
  refine y_put (cs' := Q ++ .inr (7, [.ref (b + (n + 1)), .ref (b + (n + 2)), .ref (b + (n + 3)), .ref (b + (n + 4)), .ref (b + (n + 5)), .int 0, .int 0, .int 0, .int 0]) :: (.inl (Θ.2.2.2.2.2.2.1.1, 6, .inl (fun _ => 0)) :: (.inl (Θ.2.2.2.2.2.2.1.1, 6, .inl (fun _ => 0)) :: (.inl (Θ.2.2.2.2.2.2.1.1, 6, .inl (fun _ => 0)) :: (.inl (Θ.2.2.2.2.2.2.1.1, 448, .inl (fun _ => 0)) :: (.inl (Θ.2.2.2.2.2.2.1.1, 448, .inl (fun _ => 0)) :: [])))))) C hnm inT7 tyX7_ok nmX7 n (cq_get0 hQ) rfl 5 (by decide) w_2_141 rfl rfl rfl (Nat.le_of_ble_eq_true rfl) (cq_put hQ rfl) dX7_init_48 ?_
  refine y_aload_n C 0 dX7_init_51 rfl rfl ?_
  refine y_iconst (v := 0) C dX7_init_52 ic_0 ?_
  refine y_put (cs' := Q ++ .inr (7, [.ref (b + (n + 1)), .ref (b + (n + 2)), .ref (b + (n + 3)), .ref (b + (n + 4)), .ref (b + (n + 5)), .int 0, .int 0, .int 0, .int 0]) :: (.inl (Θ.2.2.2.2.2.2.1.1, 6, .inl (fun _ => 0)) :: (.inl (Θ.2.2.2.2.2.2.1.1, 6, .inl (fun _ => 0)) :: (.inl (Θ.2.2.2.2.2.2.1.1, 6, .inl (fun _ => 0)) :: (.inl (Θ.2.2.2.2.2.2.1.1, 448, .inl (fun _ => 0)) :: (.inl (Θ.2.2.2.2.2.2.1.1, 448, .inl (fun _ => 0)) :: [])))))) C hnm inT7 tyX7_ok nmX7 n (cq_get0 hQ) rfl 6 (by decide) w_2_142 rfl rfl rfl (Nat.le_of_ble_eq_true rfl) (cq_put hQ rfl) dX7_init_53 ?_
  refine y_aload_n C 0 dX7_init_56 rfl rfl ?_
  refine y_iconst (v := 1) C dX7_init_57 ic_1 ?_
  refine y_put (cs' := Q ++ .inr (7, [.ref (b + (n + 1)), .ref (b + (n + 2)), .ref (b + (n + 3)), .ref (b + (n + 4)), .ref (b + (n + 5)), .int 0, .int 0, .int 1, .int 0]) :: (.inl (Θ.2.2.2.2.2.2.1.1, 6, .inl (fun _ => 0)) :: (.inl (Θ.2.2.2.2.2.2.1.1, 6, .inl (fun _ => 0)) :: (.inl (Θ.2.2.2.2.2.2.1.1, 6, .inl (fun _ => 0)) :: (.inl (Θ.2.2.2.2.2.2.1.1, 448, .inl (fun _ => 0)) :: (.inl (Θ.2.2.2.2.2.2.1.1, 448, .inl (fun _ => 0)) :: [])))))) C hnm inT7 tyX7_ok nmX7 n (cq_get0 hQ) rfl 7 (by decide) w_2_143 rfl rfl rfl (Nat.le_of_ble_eq_true rfl) (cq_put hQ rfl) dX7_init_58 ?_
  refine y_aload_n C 0 dX7_init_61 rfl rfl ?_
  refine y_iconst (v := 0) C dX7_init_62 ic_0 ?_
  refine y_put (cs' := Q ++ .inr (7, [.ref (b + (n + 1)), .ref (b + (n + 2)), .ref (b + (n + 3)), .ref (b + (n + 4)), .ref (b + (n + 5)), .int 0, .int 0, .int 1, .int 0]) :: (.inl (Θ.2.2.2.2.2.2.1.1, 6, .inl (fun _ => 0)) :: (.inl (Θ.2.2.2.2.2.2.1.1, 6, .inl (fun _ => 0)) :: (.inl (Θ.2.2.2.2.2.2.1.1, 6, .inl (fun _ => 0)) :: (.inl (Θ.2.2.2.2.2.2.1.1, 448, .inl (fun _ => 0)) :: (.inl (Θ.2.2.2.2.2.2.1.1, 448, .inl (fun _ => 0)) :: [])))))) C hnm inT7 tyX7_ok nmX7 n (cq_get0 hQ) rfl 8 (by decide) w_2_144 rfl rfl rfl (Nat.le_of_ble_eq_true rfl) (cq_put hQ rfl) dX7_init_63 ?_
  exact y_vret C ⟨Nat.le_refl _, Nat.le_refl _⟩ dX7_init_66)

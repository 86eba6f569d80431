theorem dX1_init_0 : decode cX1_init 0 = .ok (.aload_n 0, 1) := by decide +kernel
theorem dX1_init_1 : decode cX1_init 1 = .ok (.invokespecial 3, 3) := by decide +kernel
theorem w_2_170 : Cond.methodLink "LastLoaf$Friends" (3 : Nat) ({ cls := "java/lang/Object", name := "<init>", desc := "()V" } : MethodName) ∈ TB := tb_in (lwt_2 (List.mem_of_getElem? (i := 170) (by decide +kernel))) rfl
theorem dX1_init_4 : decode cX1_init 4 = .ok (.aload_n 0, 1) := by decide +kernel
theorem dX1_init_5 : decode cX1_init 5 = .ok (.bipush 36, 2) := by decide +kernel
theorem dX1_init_7 : decode cX1_init 7 = .ok (.newarray .int, 2) := by decide +kernel
theorem dX1_init_9 : decode cX1_init 9 = .ok (.putfield 9, 3) := by decide +kernel
theorem dX1_init_12 : decode cX1_init 12 = .ok (.aload_n 0, 1) := by decide +kernel
theorem dX1_init_13 : decode cX1_init 13 = .ok (.bipush 64, 2) := by decide +kernel
theorem dX1_init_15 : decode cX1_init 15 = .ok (.newarray .int, 2) := by decide +kernel
theorem dX1_init_17 : decode cX1_init 17 = .ok (.putfield 15, 3) := by decide +kernel
theorem dX1_init_20 : decode cX1_init 20 = .ok (.aload_n 0, 1) := by decide +kernel
theorem dX1_init_21 : decode cX1_init 21 = .ok (.sipush 384, 3) := by decide +kernel
theorem dX1_init_24 : decode cX1_init 24 = .ok (.newarray .int, 2) := by decide +kernel
theorem dX1_init_26 : decode cX1_init 26 = .ok (.putfield 18, 3) := by decide +kernel
theorem dX1_init_29 : decode cX1_init 29 = .ok (.aload_n 0, 1) := by decide +kernel
theorem dX1_init_30 : decode cX1_init 30 = .ok (.iconst 0, 1) := by decide +kernel
theorem dX1_init_31 : decode cX1_init 31 = .ok (.putfield 21, 3) := by decide +kernel
theorem dX1_init_34 : decode cX1_init 34 = .ok (.aload_n 0, 1) := by decide +kernel
theorem dX1_init_35 : decode cX1_init 35 = .ok (.iconst 0, 1) := by decide +kernel
theorem dX1_init_36 : decode cX1_init 36 = .ok (.putfield 25, 3) := by decide +kernel
theorem dX1_init_39 : decode cX1_init 39 = .ok (.return_, 1) := by decide +kernel
/-! LastLoaf$Friends.<init> -/
def ch1 (w : Wp) (b n : Nat) : List va_E := .inr (1, [.ref (b + (n + 1)), .ref (b + (n + 2)), .ref (b + (n + 3)), .int 0, .int 0]) :: (.inl (w.2.1.1, 36, .inl (fun _ => 0)) :: (.inl (w.2.1.1, 64, .inl (fun _ => 0)) :: (.inl (w.2.1.1, 384, .inl (fun _ => 0)) :: [])))
theorem ch1_len (w : Wp) (b n : Nat) : (ch1 w b n).length = 4 := by
  unfold ch1
  simp only [List.length_cons, List.length_append, List.length_nil, ch8_len, ch3_len, ch10_len, ch2_len, ch6_len, ch4_len, ch5_len, ch0_len, ch9_len, ch7_len]
abbrev rmI1 : Room := { frames := 1, cells := 3, slots := 484, locals := 40 }
set_option maxHeartbeats 8000000 in
set_option maxRecDepth 100000 in
theorem k1_init {l : Launch} {w : Wp} {b n : Nat} {Q : List va_E} (hQ : Q.length = n) : yM l w yX1_init cX1_init 1 rmI1 [.ref (b + n)] b (Q ++ [.inr (1, [.null, .null, .null, .int 0, .int 0])]) (Q ++ ch1 w b n) 3 484 := yM_of rfl (Nat.le_of_ble_eq_true rfl) (fun Θ hl0 hw C hnm => by
  subst hw
  refine y_cs (cs' := Q ++ .inr (1, [.null, .null, .null, .int 0, .int 0]) :: []) rfl ?_
  refine y_aload_n C 0 dX1_init_0 rfl rfl ?_
  refine y_objInit C w_2_170 w_1_36 w_1_37 dX1_init_1 ⟨(Nat.le_of_ble_eq_true rfl), (Nat.le_of_ble_eq_true rfl)⟩ ?_
  refine y_aload_n C 0 dX1_init_4 rfl rfl ?_
  refine y_bipush (v := 36) C dX1_init_5 bp_36 ?_
  refine y_newa (N := 36) (n := n + 1) (cs' := Q ++ .inr (1, [.null, .null, .null, .int 0, .int 0]) :: (.inl (Θ.2.2.2.2.2.2.1.1, 36, .inl (fun _ => 0)) :: [])) C w_1_64 (by decide) (by decide) (by decide) (cq_len hQ (by simp only [List.length_cons, List.length_append, List.length_nil, ch8_len, ch3_len, ch10_len, ch2_len, ch6_len, ch4_len, ch5_len, ch0_len, ch9_len, ch7_len])) cq_app ⟨(Nat.le_of_ble_eq_true rfl), (Nat.le_of_ble_eq_true rfl)⟩ dX1_init_7 ?_
  refine y_put (cs' := Q ++ .inr (1, [.ref (b + (n + 1)), .null, .null, .int 0, .int 0]) :: (.inl (Θ.2.2.2.2.2.2.1.1, 36, .inl (fun _ => 0)) :: [])) C hnm inT1 tyX1_ok nmX1 n (cq_get0 hQ) rfl 0 (by decide) w_2_171 rfl rfl rfl (Nat.le_of_ble_eq_true rfl) (cq_put hQ rfl) dX1_init_9 ?_
  refine y_aload_n C 0 dX1_init_12 rfl rfl ?_
  refine y_bipush (v := 64) C dX1_init_13 bp_64 ?_
  refine y_newa (N := 64) (n := n + 2) (cs' := Q ++ .inr (1, [.ref (b + (n + 1)), .null, .null, .int 0, .int 0]) :: (.inl (Θ.2.2.2.2.2.2.1.1, 36, .inl (fun _ => 0)) :: (.inl (Θ.2.2.2.2.2.2.1.1, 64, .inl (fun _ => 0)) :: []))) C w_1_64 (by decide) (by decide) (by decide) (cq_len hQ (by simp only [List.length_cons, List.length_append, List.length_nil, ch8_len, ch3_len, ch10_len, ch2_len, ch6_len, ch4_len, ch5_len, ch0_len, ch9_len, ch7_len])) cq_app ⟨(Nat.le_of_ble_eq_true rfl), (Nat.le_of_ble_eq_true rfl)⟩ dX1_init_15 ?_
  refine y_put (cs' := Q ++ .inr (1, [.ref (b + (n + 1)), .ref (b + (n + 2)), .null, .int 0, .int 0]) :: (.inl (Θ.2.2.2.2.2.2.1.1, 36, .inl (fun _ => 0)) :: (.inl (Θ.2.2.2.2.2.2.1.1, 64, .inl (fun _ => 0)) :: []))) C hnm inT1 tyX1_ok nmX1 n (cq_get0 hQ) rfl 1 (by decide) w_2_172 rfl rfl rfl (Nat.le_of_ble_eq_true rfl) (cq_put hQ rfl) dX1_init_17 ?_
  refine y_aload_n C 0 dX1_init_20 rfl rfl ?_
  refine y_sipush (v := 384) C dX1_init_21 sp_384 ?_
  refine y_newa (N := 384) (n := n + 3) (cs' := Q ++ .inr (1, [.ref (b + (n + 1)), .ref (b + (n + 2)), .null, .int 0, .int 0]) :: (.inl (Θ.2.2.2.2.2.2.1.1, 36, .inl (fun _ => 0)) :: (.inl (Θ.2.2.2.2.2.2.1.1, 64, .inl (fun _ => 0)) :: (.inl (Θ.2.2.2.2.2.2.1.1, 384, .inl (fun _ => 0)) :: [])))) C w_1_64 (by decide) (by decide) (by decide) (cq_len hQ (by simp only [List.length_cons, List.length_append, List.length_nil, ch8_len, ch3_len, ch10_len, ch2_len, ch6_len, ch4_len, ch5_len, ch0_len, ch9_len, ch7_len])) cq_app ⟨(Nat.le_of_ble_eq_true rfl), (Nat.le_of_ble_eq_true rfl)⟩ dX1_init_24 ?_
  refine y_put (cs' := Q ++ .inr (1, [.ref (b + (n + 1)), .ref (b + (n + 2)), .ref (b + (n + 3)), .int 0, .int 0]) :: (.inl (Θ.2.2.2.2.2.2.1.1, 36, .inl (fun _ => 0)) :: (.inl (Θ.2.2.2.2.2.2.1.1, 64, .inl (fun _ => 0)) :: (.inl (Θ.2.2.2.2.2.2.1.1, 384, .inl (fun _ => 0)) :: [])))) C hnm inT1 tyX1_ok nmX1 n (cq_get0 hQ) rfl 2 (by decide) w_2_173 rfl rfl rfl (Nat.le_of_ble_eq_true rfl) (cq_put hQ rfl) dX1_init_26 ?_
  refine y_aload_n C 0 dX1_init_29 rfl rfl ?_
  refine y_iconst (v := 0) C dX1_init_30 ic_0 ?_
  refine y_put (cs' := Q ++ .inr (1, [.ref (b + (n + 1)), .ref (b + (n + 2)), .ref (b + (n + 3)), .int 0, .int 0]) :: (.inl (Θ.2.2.2.2.2.2.1.1, 36, .inl (fun _ => 0)) :: (.inl (Θ.2.2.2.2.2.2.1.1, 64, .inl (fun _ => 0)) :: (.inl (Θ.2.2.2.2.2.2.1.1, 384, .inl (fun _ => 0)) :: [])))) C hnm inT1 tyX1_ok nmX1 n (cq_get0 hQ) rfl 3 (by decide) w_2_174 rfl rfl rfl (Nat.le_of_ble_eq_true rfl) (cq_put hQ rfl) dX1_init_31 ?_
  refine y_aload_n C 0 dX1_init_34 rfl rfl ?_
  refine y_iconst (v := 0) C dX1_init_35 ic_0 ?_
  refine y_put (cs' := Q ++ .inr (1, [.ref (b + (n + 1)), .ref (b + (n + 2)), .ref (b + (n + 3)), .int 0, .int 0]) :: (.inl (Θ.2.2.2.2.2.2.1.1, 36, .inl (fun _ => 0)) :: (.inl (Θ.2.2.2.2.2.2.1.1, 64, .inl (fun _ => 0)) :: (.inl (Θ.2.2.2.2.2.2.1.1, 384, .inl (fun _ => 0)) :: [])))) C hnm inT1 tyX1_ok nmX1 n (cq_get0 hQ) rfl 4 (by decide) w_2_175 rfl rfl rfl (Nat.le_of_ble_eq_true rfl) (cq_put hQ rfl) dX1_init_36 ?_
  exact y_vret C ⟨Nat.le_refl _, Nat.le_refl _⟩ dX1_init_39)

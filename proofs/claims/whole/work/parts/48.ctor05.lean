theorem dX6_init_0 : decode cX6_init 0 = .ok (.aload_n 0, 1) := by decide +kernel
theorem dX6_init_1 : decode cX6_init 1 = .ok (.invokespecial 3, 3) := by decide +kernel
theorem w_1_235 : Cond.methodLink "LastLoaf$Reader" (3 : Nat) ({ cls := "java/lang/Object", name := "<init>", desc := "()V" } : MethodName) ∈ TB := tb_in (lwt_1 (List.mem_of_getElem? (i := 235) (by decide +kernel))) rfl
theorem dX6_init_4 : decode cX6_init 4 = .ok (.aload_n 0, 1) := by decide +kernel
theorem dX6_init_5 : decode cX6_init 5 = .ok (.bipush 32, 2) := by decide +kernel
theorem dX6_init_7 : decode cX6_init 7 = .ok (.newarray .int, 2) := by decide +kernel
theorem dX6_init_9 : decode cX6_init 9 = .ok (.putfield 9, 3) := by decide +kernel
theorem dX6_init_12 : decode cX6_init 12 = .ok (.aload_n 0, 1) := by decide +kernel
theorem dX6_init_13 : decode cX6_init 13 = .ok (.iconst 0, 1) := by decide +kernel
theorem dX6_init_14 : decode cX6_init 14 = .ok (.putfield 15, 3) := by decide +kernel
theorem dX6_init_17 : decode cX6_init 17 = .ok (.aload_n 0, 1) := by decide +kernel
theorem dX6_init_18 : decode cX6_init 18 = .ok (.iconst 0, 1) := by decide +kernel
theorem dX6_init_19 : decode cX6_init 19 = .ok (.putfield 19, 3) := by decide +kernel
theorem dX6_init_22 : decode cX6_init 22 = .ok (.aload_n 0, 1) := by decide +kernel
theorem dX6_init_23 : decode cX6_init 23 = .ok (.aload_n 1, 1) := by decide +kernel
theorem dX6_init_24 : decode cX6_init 24 = .ok (.putfield 22, 3) := by decide +kernel
theorem dX6_init_27 : decode cX6_init 27 = .ok (.aload_n 0, 1) := by decide +kernel
theorem dX6_init_28 : decode cX6_init 28 = .ok (.aload_n 2, 1) := by decide +kernel
theorem dX6_init_29 : decode cX6_init 29 = .ok (.putfield 26, 3) := by decide +kernel
theorem dX6_init_32 : decode cX6_init 32 = .ok (.aload_n 0, 1) := by decide +kernel
theorem dX6_init_33 : decode cX6_init 33 = .ok (.aload_n 3, 1) := by decide +kernel
theorem dX6_init_34 : decode cX6_init 34 = .ok (.putfield 30, 3) := by decide +kernel
theorem dX6_init_37 : decode cX6_init 37 = .ok (.return_, 1) := by decide +kernel
/-! LastLoaf$Reader.<init> -/
def ch6 (w : Wp) (b n : Nat) (p0 : Nat) (p1 : Nat) (p2 : Nat) : List va_E := .inr (6, [.ref p0, .ref p1, .ref p2, .ref (b + (n + 1)), .int 0, .int 0]) :: (.inl (w.2.1.1, 32, .inl (fun _ => 0)) :: [])
theorem ch6_len (w : Wp) (b n : Nat) (p0 : Nat) (p1 : Nat) (p2 : Nat) : (ch6 w b n p0 p1 p2).length = 2 := by
  unfold ch6
  simp only [List.length_cons, List.length_append, List.length_nil, ch8_len, ch3_len, ch10_len, ch2_len]
abbrev rmI6 : Room := { frames := 1, cells := 1, slots := 32, locals := 40 }
set_option maxHeartbeats 8000000 in
set_option maxRecDepth 100000 in
theorem k6_init {l : Launch} {w : Wp} {b n : Nat} {Q : List va_E} {p0 : Nat} {p1 : Nat} {p2 : Nat} (hQ : Q.length = n) : yM l w yX6_init cX6_init 4 rmI6 [.ref (b + n), .ref p0, .ref p1, .ref p2] b (Q ++ [.inr (6, [.null, .null, .null, .null, .int 0, .int 0])]) (Q ++ ch6 w b n p0 p1 p2) 1 32 := yM_of rfl (Nat.le_of_ble_eq_true rfl) (fun Θ hl0 hw C hnm => by
  subst hw
  refine y_cs (cs' := Q ++ .inr (6, [.null, .null, .null, .null, .int 0, .int 0]) :: []) rfl ?_
  refine y_aload_n C 0 dX6_init_0 rfl rfl ?_
  refine y_objInit C w_1_235 w_1_36 w_1_37 dX6_init_1 ⟨(Nat.le_of_ble_eq_true rfl), (Nat.le_of_ble_eq_true rfl)⟩ ?_
  refine y_aload_n C 0 dX6_init_4 rfl rfl ?_
  refine y_bipush (v := 32) C dX6_init_5 bp_32 ?_
  refine y_newa (N := 32) (n := n + 1) (cs' := Q ++ .inr (6, [.null, .null, .null, .null, .int 0, .int 0]) :: (.inl (Θ.2.2.2.2.2.2.1.1, 32, .inl (fun _ => 0)) :: [])) C w_1_64 (by decide) (by decide) (by decide) (cq_len hQ (by simp only [List.length_cons, List.length_append, List.length_nil, ch8_len, ch3_len, ch10_len, ch2_len])) cq_app ⟨(Nat.le_of_ble_eq_true rfl), (Nat.le_of_ble_eq_true rfl)⟩ dX6_init_7 ?_
  refine y_put (cs' := Q ++ .inr (6, [.null, .null, .null, .ref (b + (n + 1)), .int 0, .int 0]) :: (.inl (Θ.2.2.2.2.2.2.1.1, 32, .inl (fun _ => 0)) :: [])) C hnm inT6 tyX6_ok nmX6 n (cq_get0 hQ) rfl 3 (by decide) w_1_239 rfl rfl rfl (Nat.le_of_ble_eq_true rfl) (cq_put hQ rfl) dX6_init_9 ?_
  refine y_aload_n C 0 dX6_init_12 rfl rfl ?_
  refine y_iconst (v := 0) C dX6_init_13 ic_0 ?_
  refine y_put (cs' := Q ++ .inr (6, [.null, .null, .null, .ref (b + (n + 1)), .int 0, .int 0]) :: (.inl (Θ.2.2.2.2.2.2.1.1, 32, .inl (fun _ => 0)) :: [])) C hnm inT6 tyX6_ok nmX6 n (cq_get0 hQ) rfl 4 (by decide) w_2_0 rfl rfl rfl (Nat.le_of_ble_eq_true rfl) (cq_put hQ rfl) dX6_init_14 ?_
  refine y_aload_n C 0 dX6_init_17 rfl rfl ?_
  refine y_iconst (v := 0) C dX6_init_18 ic_0 ?_
  refine y_put (cs' := Q ++ .inr (6, [.null, .null, .null, .ref (b + (n + 1)), .int 0, .int 0]) :: (.inl (Θ.2.2.2.2.2.2.1.1, 32, .inl (fun _ => 0)) :: [])) C hnm inT6 tyX6_ok nmX6 n (cq_get0 hQ) rfl 5 (by decide) w_2_1 rfl rfl rfl (Nat.le_of_ble_eq_true rfl) (cq_put hQ rfl) dX6_init_19 ?_
  refine y_aload_n C 0 dX6_init_22 rfl rfl ?_
  refine y_aload_n C 1 dX6_init_23 rfl rfl ?_
  refine y_put (cs' := Q ++ .inr (6, [.ref p0, .null, .null, .ref (b + (n + 1)), .int 0, .int 0]) :: (.inl (Θ.2.2.2.2.2.2.1.1, 32, .inl (fun _ => 0)) :: [])) C hnm inT6 tyX6_ok nmX6 n (cq_get0 hQ) rfl 0 (by decide) w_1_236 rfl rfl rfl (Nat.le_of_ble_eq_true rfl) (cq_put hQ rfl) dX6_init_24 ?_
  refine y_aload_n C 0 dX6_init_27 rfl rfl ?_
  refine y_aload_n C 2 dX6_init_28 rfl rfl ?_
  refine y_put (cs' := Q ++ .inr (6, [.ref p0, .ref p1, .null, .ref (b + (n + 1)), .int 0, .int 0]) :: (.inl (Θ.2.2.2.2.2.2.1.1, 32, .inl (fun _ => 0)) :: [])) C hnm inT6 tyX6_ok nmX6 n (cq_get0 hQ) rfl 1 (by decide) w_1_237 rfl rfl rfl (Nat.le_of_ble_eq_true rfl) (cq_put hQ rfl) dX6_init_29 ?_
  refine y_aload_n C 0 dX6_init_32 rfl rfl ?_
  refine y_aload_n C 3 dX6_init_33 rfl rfl ?_
  refine y_put (cs' := Q ++ .inr (6, [.ref p0, .ref p1, .ref p2, .ref (b + (n + 1)), .int 0, .int 0]) :: (.inl (Θ.2.2.2.2.2.2.1.1, 32, .inl (fun _ => 0)) :: [])) C hnm inT6 tyX6_ok nmX6 n (cq_get0 hQ) rfl 2 (by decide) w_1_238 rfl rfl rfl (Nat.le_of_ble_eq_true rfl) (cq_put hQ rfl) dX6_init_34 ?_
  exact y_vret C ⟨Nat.le_refl _, Nat.le_refl _⟩ dX6_init_37)

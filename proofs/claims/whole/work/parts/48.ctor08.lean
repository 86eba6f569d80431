theorem dX0_init_0 : decode cX0_init 0 = .ok (.aload_n 0, 1) := by decide +kernel
theorem dX0_init_1 : decode cX0_init 1 = .ok (.invokespecial 3, 3) := by decide +kernel
theorem w_2_80 : Cond.methodLink "LastLoaf$Baker" (3 : Nat) ({ cls := "java/lang/Object", name := "<init>", desc := "()V" } : MethodName) ∈ TB := tb_in (lwt_2 (List.mem_of_getElem? (i := 80) (by decide +kernel))) rfl
theorem dX0_init_4 : decode cX0_init 4 = .ok (.aload_n 0, 1) := by decide +kernel
theorem dX0_init_5 : decode cX0_init 5 = .ok (.aload_n 1, 1) := by decide +kernel
theorem dX0_init_6 : decode cX0_init 6 = .ok (.putfield 9, 3) := by decide +kernel
theorem dX0_init_9 : decode cX0_init 9 = .ok (.aload_n 0, 1) := by decide +kernel
theorem dX0_init_10 : decode cX0_init 10 = .ok (.aload_n 2, 1) := by decide +kernel
theorem dX0_init_11 : decode cX0_init 11 = .ok (.putfield 15, 3) := by decide +kernel
theorem dX0_init_14 : decode cX0_init 14 = .ok (.return_, 1) := by decide +kernel
/-! LastLoaf$Baker.<init> -/
def ch0 (w : Wp) (b n : Nat) (p0 : Nat) (p1 : Nat) : List va_E := .inr (0, [.ref p0, .ref p1]) :: []
theorem ch0_len (w : Wp) (b n : Nat) (p0 : Nat) (p1 : Nat) : (ch0 w b n p0 p1).length = 1 := by
  unfold ch0
  simp only [List.length_cons, List.length_append, List.length_nil, ch8_len, ch3_len, ch10_len, ch2_len, ch6_len, ch4_len, ch5_len]
abbrev rmI0 : Room := { frames := 1, cells := 0, slots := 0, locals := 40 }
set_option maxHeartbeats 8000000 in
set_option maxRecDepth 100000 in
theorem k0_init {l : Launch} {w : Wp} {b n : Nat} {Q : List va_E} {p0 : Nat} {p1 : Nat} (hQ : Q.length = n) : yM l w yX0_init cX0_init 3 rmI0 [.ref (b + n), .ref p0, .ref p1] b (Q ++ [.inr (0, [.null, .null])]) (Q ++ ch0 w b n p0 p1) 0 0 := yM_of rfl (Nat.le_of_ble_eq_true rfl) (fun Θ hl0 hw C hnm => by
  subst hw
  refine y_cs (cs' := Q ++ .inr (0, [.null, .null]) :: []) rfl ?_
  refine y_aload_n C 0 dX0_init_0 rfl rfl ?_
  refine y_objInit C w_2_80 w_1_36 w_1_37 dX0_init_1 ⟨(Nat.le_of_ble_eq_true rfl), (Nat.le_of_ble_eq_true rfl)⟩ ?_
  refine y_aload_n C 0 dX0_init_4 rfl rfl ?_
  refine y_aload_n C 1 dX0_init_5 rfl rfl ?_
  refine y_put (cs' := Q ++ .inr (0, [.ref p0, .null]) :: []) C hnm inT0 tyX0_ok nmX0 n (cq_get0 hQ) rfl 0 (by decide) w_2_81 rfl rfl rfl (Nat.le_of_ble_eq_true rfl) (cq_put hQ rfl) dX0_init_6 ?_
  refine y_aload_n C 0 dX0_init_9 rfl rfl ?_
  refine y_aload_n C 2 dX0_init_10 rfl rfl ?_
  refine y_put (cs' := Q ++ .inr (0, [.ref p0, .ref p1]) :: []) C hnm inT0 tyX0_ok nmX0 n (cq_get0 hQ) rfl 1 (by decide) w_2_82 rfl rfl rfl (Nat.le_of_ble_eq_true rfl) (cq_put hQ rfl) dX0_init_11 ?_
  exact y_vret C ⟨Nat.le_refl _, Nat.le_refl _⟩ dX0_init_14)

/-! LastLoaf$Tape.put -/
theorem w_1_46 : Cond.fieldLink "LastLoaf$Tape" (15 : Nat) "LastLoaf$Tape" "length" "I" ∈ TB := tb_in (lwt_1 (List.mem_of_getElem? (i := 46) (by decide +kernel))) rfl
theorem fg8_15 {Θ : Tz} {cc : ByteArray} {nL kc ks : Nat} {ret : Option FieldType} {rm : Room} {Q : State → Prop} {σ : St} {pc : Nat} {lv : List (Nat × Value)} {st : List Value} (C : Zc Θ cc nL RX8 ret rm) (hkd : Θ.2.2.2.2.1 = kdC) (hd : decode cc pc = .ok (.getfield 15, 3)) (kk : Z Θ nL kc ks Q σ (pc + 3) lv (.int (σ 1 1) :: st)) : Z Θ nL kc ks Q σ pc lv (.ref (zA Θ 1) :: st) := z_get C inT8 1 (kC_1 hkd) rfl 1 (by decide) w_1_46 rfl hd kk
theorem w_1_44 : Cond.fieldLink "LastLoaf$Tape" (9 : Nat) "LastLoaf$Tape" "bytes" "[I" ∈ TB := tb_in (lwt_1 (List.mem_of_getElem? (i := 44) (by decide +kernel))) rfl
theorem fg8_9 {Θ : Tz} {cc : ByteArray} {nL kc ks : Nat} {ret : Option FieldType} {rm : Room} {Q : State → Prop} {σ : St} {pc : Nat} {lv : List (Nat × Value)} {st : List Value} (C : Zc Θ cc nL RX8 ret rm) (hkd : Θ.2.2.2.2.1 = kdC) (hd : decode cc pc = .ok (.getfield 9, 3)) (kk : Z Θ nL kc ks Q σ (pc + 3) lv (.ref (zA Θ 2) :: st)) : Z Θ nL kc ks Q σ pc lv (.ref (zA Θ 1) :: st) := z_get C inT8 1 (kC_1 hkd) rfl 0 (by decide) w_1_44 rfl hd kk
theorem fp8_15 {Θ : Tz} {cc : ByteArray} {nL kc ks : Nat} {ret : Option FieldType} {rm : Room} {Q : State → Prop} {σ : St} {pc : Nat} {lv : List (Nat × Value)} {st : List Value} (C : Zc Θ cc nL RX8 ret rm) (hkd : Θ.2.2.2.2.1 = kdC) {x : Int32} {σ1 : St} (he : σ1 = up σ 1 1 x) (hd : decode cc pc = .ok (.putfield 15, 3)) (kk : Z Θ nL kc ks Q σ1 (pc + 3) lv st) : Z Θ nL kc ks Q σ pc lv (.int x :: .ref (zA Θ 1) :: st) := by subst he; exact z_put C inT8 tyX8_ok nmX8 1 (kC_1 hkd) rfl 1 (by decide) w_1_46 rfl rfl rfl rfl hd kk
theorem ic_m8 : Int32.ofInt (-8) = (-8) := by decide +kernel
theorem dX8_put_0 : decode cX8_put 0 = .ok (.bipush 24, 2) := by decide +kernel
theorem dX8_put_2 : decode cX8_put 2 = .ok (.istore_n 2, 1) := by decide +kernel
theorem dX8_put_3 : decode cX8_put 3 = .ok (.iload_n 2, 1) := by decide +kernel
theorem dX8_put_4 : decode cX8_put 4 = .ok (.ifCond .lt 45, 3) := by decide +kernel
theorem dX8_put_7 : decode cX8_put 7 = .ok (.aload_n 0, 1) := by decide +kernel
theorem dX8_put_8 : decode cX8_put 8 = .ok (.getfield 15, 3) := by decide +kernel
theorem dX8_put_11 : decode cX8_put 11 = .ok (.sipush 400, 3) := by decide +kernel
theorem dX8_put_14 : decode cX8_put 14 = .ok (.if_icmp .ge 35, 3) := by decide +kernel
theorem dX8_put_17 : decode cX8_put 17 = .ok (.aload_n 0, 1) := by decide +kernel
theorem dX8_put_18 : decode cX8_put 18 = .ok (.getfield 9, 3) := by decide +kernel
theorem dX8_put_21 : decode cX8_put 21 = .ok (.aload_n 0, 1) := by decide +kernel
theorem dX8_put_22 : decode cX8_put 22 = .ok (.getfield 15, 3) := by decide +kernel
theorem dX8_put_25 : decode cX8_put 25 = .ok (.iload_n 1, 1) := by decide +kernel
theorem dX8_put_26 : decode cX8_put 26 = .ok (.iload_n 2, 1) := by decide +kernel
theorem dX8_put_27 : decode cX8_put 27 = .ok (.iushr, 1) := by decide +kernel
theorem dX8_put_28 : decode cX8_put 28 = .ok (.sipush 255, 3) := by decide +kernel
theorem dX8_put_31 : decode cX8_put 31 = .ok (.iand, 1) := by decide +kernel
theorem dX8_put_32 : decode cX8_put 32 = .ok (.iastore, 1) := by decide +kernel
theorem dX8_put_33 : decode cX8_put 33 = .ok (.aload_n 0, 1) := by decide +kernel
theorem dX8_put_34 : decode cX8_put 34 = .ok (.dup, 1) := by decide +kernel
theorem dX8_put_35 : decode cX8_put 35 = .ok (.getfield 15, 3) := by decide +kernel
theorem dX8_put_38 : decode cX8_put 38 = .ok (.iconst 1, 1) := by decide +kernel
theorem dX8_put_39 : decode cX8_put 39 = .ok (.iadd, 1) := by decide +kernel
theorem dX8_put_40 : decode cX8_put 40 = .ok (.putfield 15, 3) := by decide +kernel
theorem dX8_put_43 : decode cX8_put 43 = .ok (.iinc 2 (-8), 3) := by decide +kernel
theorem dX8_put_46 : decode cX8_put 46 = .ok (.goto (-43), 3) := by decide +kernel
theorem dX8_put_49 : decode cX8_put 49 = .ok (.return_, 1) := by decide +kernel
def q8_put (σ : St) (number_a : Int32) : Option St :=
  Option.bind (loop2 (fun rec4_ (shift7_ : Int32) (σ8_ : St) =>
  if (0 ≤ shift7_) ∧ ((σ8_ 1 1) < 400) then
  Option.bind (sa σ8_ 2 400 (σ8_ 1 1) ((ushr number_a shift7_) &&& 255)) fun σ16_ =>
  lt (up σ16_ 1 1 ((σ16_ 1 1) + 1)) fun σ18_ =>
  lt (shift7_ + (-8)) fun shift20_ =>
  rec4_ shift20_ σ18_
  else (some (shift7_, σ8_))) fuelN (24 : Int32) σ) fun y1_ =>
  some y1_.2
abbrev rm8_put : Room := { frames := 0, cells := 0, slots := 0, locals := 0 }
set_option maxHeartbeats 4000000 in
set_option maxRecDepth 100000 in
theorem p8_put {Θ : Tz} {σ : St} {ρ : Option Value × St} (C : Zc Θ cX8_put 3 RX8 none rm8_put) (hkd : Θ.2.2.2.2.1 = kdC) {number_a : Int32} {r : St} (hf : q8_put σ number_a = some r) (hρ : ρ = (none, r)) : Z Θ 3 0 0 (zQ Θ ρ) σ 0 [(0, .ref (zA Θ 1)), (1, .int number_a)] [] := by
  unfold q8_put at hf
  refine z_bipush (v := 24) C dX8_put_0 bp_24 ?_
  refine z_istN C dX8_put_2 rfl rfl (Nat.le_of_ble_eq_true rfl) rfl ?_
  refine Z.sub [1, 2, 0] rfl ?_
  obtain ⟨y1_, h2_, hf⟩ := ob hf
  suffices K3_ : Z Θ 3 0 0 (zQ Θ ρ) y1_.2 49 [(0, .ref (zA Θ 1)), (1, .int number_a), (2, .int y1_.1)] [] by
    refine loop2_Z (P := fun (shift7_ : Int32) (σ8_ : St) => Z Θ 3 0 0 (zQ Θ ρ) σ8_ 3 [(0, .ref (zA Θ 1)), (1, .int number_a), (2, .int shift7_)] []) ?_ fuelN (24 : Int32) σ h2_
    clear h2_
    intro rec4_ shift7_ σ8_ h5_ h6_
    have K11_ : (0 ≤ shift7_) ∧ ((σ8_ 1 1) < 400) → Z Θ 3 0 0 (zQ Θ ρ) σ8_ 17 [(0, .ref (zA Θ 1)), (1, .int number_a), (2, .int shift7_)] [] := by
      intro h15_
      rw [if_pos h15_] at h6_
      refine z_aload_n C 0 dX8_put_17 rfl rfl ?_
      refine fg8_9 C hkd dX8_put_18 ?_
      refine z_aload_n C 0 dX8_put_21 rfl rfl ?_
      refine fg8_15 C hkd dX8_put_22 ?_
      refine z_iload_n C 1 dX8_put_25 rfl rfl ?_
      refine z_iload_n C 2 dX8_put_26 rfl rfl ?_
      refine z_ushr C dX8_put_27 ?_
      refine z_sipush (v := 255) C dX8_put_28 sp_255 ?_
      refine z_iand C dX8_put_31 ?_
      obtain ⟨σ16_, h17_, h6_⟩ := ob h6_
      refine z_sa C h17_ (kC_2 hkd) dX8_put_32 ?_
      refine z_aload_n C 0 dX8_put_33 rfl rfl ?_
      refine z_dup C dX8_put_34 rfl ?_
      refine fg8_15 C hkd dX8_put_35 ?_
      refine z_iconst (v := 1) C dX8_put_38 ic_1 ?_
      refine z_iadd C dX8_put_39 ?_
      obtain ⟨σ18_, h19_, h6_⟩ := lt_ h6_
      refine fp8_15 C hkd h19_ dX8_put_40 ?_
      obtain ⟨shift20_, h21_, h6_⟩ := lt_ h6_
      refine z_inc C 2 dX8_put_43 rfl ic_m8 h21_ (Nat.le_of_ble_eq_true rfl) rfl ?_
      refine z_goto C 3 dX8_put_46 (by decide) ?_
      refine Z.sub [1, 2, 0] rfl ?_
      exact h5_ _ _ h6_
    have K12_ : ¬ ((0 ≤ shift7_) ∧ ((σ8_ 1 1) < 400)) → Z Θ 3 0 0 (zQ Θ ρ) σ8_ 49 [(0, .ref (zA Θ 1)), (1, .int number_a), (2, .int shift7_)] [] := by
      intro h15_
      rw [if_neg h15_] at h6_
      cases h6_
      exact K3_
    refine z_iload_n C 2 dX8_put_3 rfl rfl ?_
    refine c0_ge_f C 49 dX8_put_4 (by decide) (fun h13_ => ?_) (fun h13_ => ?_)
    · refine z_aload_n C 0 dX8_put_7 rfl rfl ?_
      refine fg8_15 C hkd dX8_put_8 ?_
      refine z_sipush (v := 400) C dX8_put_11 sp_400 ?_
      refine c_lt_f C 49 dX8_put_14 (by decide) (fun h14_ => ?_) (fun h14_ => ?_)
      · exact K11_ ⟨h13_, h14_⟩
      · exact K12_ (fun n => h14_ n.2)
    · exact K12_ (fun n => h13_ n.1)
  cases hf
  subst hρ
  exact z_vret C dX8_put_49
theorem c8_put {l : Launch} {kd : List KD} {w : Wp} {σ : St} {number_a : Int32} (hkd : kd = kdC) (hi : zI kd w) {r : St} (hf : q8_put σ number_a = some r) : zM l kd w yX8_put cX8_put 3 none rm8_put [.ref (w.2.2.1 1), .int number_a] σ (none, r) := zM_of rfl hi (Nat.le_of_ble_eq_true rfl) (fun Θ hl hw C => by
  obtain ⟨Θ1, Θ2, Θ3, Θ4, Θ5⟩ := Θ
  cases hw
  exact p8_put C hkd  hf rfl)
/-! LastLoaf.feed -/
theorem w_2_187 : Cond.fieldLink "LastLoaf" (12 : Nat) "LastLoaf" "tape" "LLastLoaf$Tape;" ∈ TB := tb_in (lwt_2 (List.mem_of_getElem? (i := 187) (by decide +kernel))) rfl
theorem fg11_12 {Θ : Tz} {cc : ByteArray} {nL kc ks : Nat} {ret : Option FieldType} {rm : Room} {Q : State → Prop} {σ : St} {pc : Nat} {lv : List (Nat × Value)} {st : List Value} (C : Zc Θ cc nL RX11 ret rm) (hkd : Θ.2.2.2.2.1 = kdC) (hd : decode cc pc = .ok (.getfield 12, 3)) (kk : Z Θ nL kc ks Q σ (pc + 3) lv (.ref (zA Θ 1) :: st)) : Z Θ nL kc ks Q σ pc lv (.ref (zA Θ 0) :: st) := z_get C inT11 0 (kC_0 hkd) rfl 0 (by decide) w_2_187 rfl hd kk
theorem w_1_47 : Cond.fieldLink "LastLoaf" (103 : Nat) "LastLoaf$Tape" "length" "I" ∈ TB := tb_in (lwt_1 (List.mem_of_getElem? (i := 47) (by decide +kernel))) rfl
theorem fg11_103 {Θ : Tz} {cc : ByteArray} {nL kc ks : Nat} {ret : Option FieldType} {rm : Room} {Q : State → Prop} {σ : St} {pc : Nat} {lv : List (Nat × Value)} {st : List Value} (C : Zc Θ cc nL RX11 ret rm) (hkd : Θ.2.2.2.2.1 = kdC) (hd : decode cc pc = .ok (.getfield 103, 3)) (kk : Z Θ nL kc ks Q σ (pc + 3) lv (.int (σ 1 1) :: st)) : Z Θ nL kc ks Q σ pc lv (.ref (zA Θ 1) :: st) := z_get C inT8 1 (kC_1 hkd) rfl 1 (by decide) w_1_47 rfl hd kk
theorem w_3_3 : Cond.code ({ cls := "LastLoaf$Tape", name := "put", desc := "(I)V" } : MethodName) prog_10_method_2_code (3 : Nat) (Option.none : Option ClassFile.FieldType) ∈ TB := tb_in (lwt_3 (List.mem_of_getElem? (i := 3) (by decide +kernel))) rfl
theorem w_1_2 : Cond.initialized "LastLoaf$Tape" ∈ TB := tb_in (lwt_1 (List.mem_of_getElem? (i := 2) (by decide +kernel))) rfl
theorem w_3_0 : Cond.methodLink "LastLoaf" (106 : Nat) ({ cls := "LastLoaf$Tape", name := "put", desc := "(I)V" } : MethodName) ∈ TB := tb_in (lwt_3 (List.mem_of_getElem? (i := 0) (by decide +kernel))) rfl
theorem w_3_1 : Cond.instanceMethod ({ cls := "LastLoaf$Tape", name := "put", desc := "(I)V" } : MethodName) ∈ TB := tb_in (lwt_3 (List.mem_of_getElem? (i := 1) (by decide +kernel))) rfl
theorem w_3_2 : Cond.selects "LastLoaf$Tape" ({ cls := "LastLoaf$Tape", name := "put", desc := "(I)V" } : MethodName) ({ cls := "LastLoaf$Tape", name := "put", desc := "(I)V" } : MethodName) ∈ TB := tb_in (lwt_3 (List.mem_of_getElem? (i := 2) (by decide +kernel))) rfl
theorem cr11_106 {Θ : Tz} {cc : ByteArray} {nL kc ks : Nat} {ret : Option FieldType} {rm : Room} {Q : State → Prop} {σ : St} {pc : Nat} {lv : List (Nat × Value)} {st : List Value} (C : Zc Θ cc nL RX11 ret rm) (hkd : Θ.2.2.2.2.1 = kdC) {number_a : Int32} {r : St} (hx : q8_put σ number_a = some r) (hrm : rm8_put.frames + 1 ≤ rm.frames ∧ 8 + (3 + 11) + rm8_put.locals ≤ rm.locals) (hcat : (st.map fun v => v.category).sum ≤ 8) (hk : kc ≤ rm.cells ∧ ks ≤ rm.slots) (hd : decode cc pc = .ok (.invokevirtual 106, 3)) (kk : Z Θ nL kc ks Q r (pc + 3) lv st) : Z Θ nL kc ks Q σ pc lv (.int number_a :: .ref (zA Θ 1) :: st) := z_callV C 1 [.int number_a] (none, r) 1 (kC_1 hkd) rfl (c8_put (number_a := number_a) hkd (zc_inj C) hx) w_3_3 w_3_0 w_3_1 w_3_2 w_1_2 ⟨rfl, rfl, hrm.1, hrm.2⟩ (by decide +kernel) rfl rfl hcat hk hd kk
theorem dX11_feed_0 : decode cX11_feed 0 = .ok (.aload_n 0, 1) := by decide +kernel
theorem dX11_feed_1 : decode cX11_feed 1 = .ok (.getfield 12, 3) := by decide +kernel
theorem dX11_feed_4 : decode cX11_feed 4 = .ok (.getfield 103, 3) := by decide +kernel
theorem dX11_feed_7 : decode cX11_feed 7 = .ok (.bipush 20, 2) := by decide +kernel
theorem dX11_feed_9 : decode cX11_feed 9 = .ok (.iadd, 1) := by decide +kernel
theorem dX11_feed_10 : decode cX11_feed 10 = .ok (.sipush 400, 3) := by decide +kernel
theorem dX11_feed_13 : decode cX11_feed 13 = .ok (.if_icmp .le 5, 3) := by decide +kernel
theorem dX11_feed_16 : decode cX11_feed 16 = .ok (.iconst (-1), 1) := by decide +kernel
theorem dX11_feed_17 : decode cX11_feed 17 = .ok (.ireturn, 1) := by decide +kernel
theorem dX11_feed_18 : decode cX11_feed 18 = .ok (.aload_n 0, 1) := by decide +kernel
theorem dX11_feed_19 : decode cX11_feed 19 = .ok (.getfield 12, 3) := by decide +kernel
theorem dX11_feed_22 : decode cX11_feed 22 = .ok (.iload_n 1, 1) := by decide +kernel
theorem dX11_feed_23 : decode cX11_feed 23 = .ok (.invokevirtual 106, 3) := by decide +kernel
theorem dX11_feed_26 : decode cX11_feed 26 = .ok (.aload_n 0, 1) := by decide +kernel
theorem dX11_feed_27 : decode cX11_feed 27 = .ok (.getfield 12, 3) := by decide +kernel
theorem dX11_feed_30 : decode cX11_feed 30 = .ok (.iload_n 2, 1) := by decide +kernel
theorem dX11_feed_31 : decode cX11_feed 31 = .ok (.invokevirtual 106, 3) := by decide +kernel
theorem dX11_feed_34 : decode cX11_feed 34 = .ok (.aload_n 0, 1) := by decide +kernel
theorem dX11_feed_35 : decode cX11_feed 35 = .ok (.getfield 12, 3) := by decide +kernel
theorem dX11_feed_38 : decode cX11_feed 38 = .ok (.iload_n 3, 1) := by decide +kernel
theorem dX11_feed_39 : decode cX11_feed 39 = .ok (.invokevirtual 106, 3) := by decide +kernel
theorem dX11_feed_42 : decode cX11_feed 42 = .ok (.aload_n 0, 1) := by decide +kernel
theorem dX11_feed_43 : decode cX11_feed 43 = .ok (.getfield 12, 3) := by decide +kernel
theorem dX11_feed_46 : decode cX11_feed 46 = .ok (.iload 4, 2) := by decide +kernel
theorem dX11_feed_48 : decode cX11_feed 48 = .ok (.invokevirtual 106, 3) := by decide +kernel
theorem dX11_feed_51 : decode cX11_feed 51 = .ok (.aload_n 0, 1) := by decide +kernel
theorem dX11_feed_52 : decode cX11_feed 52 = .ok (.getfield 12, 3) := by decide +kernel
theorem dX11_feed_55 : decode cX11_feed 55 = .ok (.iload 5, 2) := by decide +kernel
theorem dX11_feed_57 : decode cX11_feed 57 = .ok (.invokevirtual 106, 3) := by decide +kernel
theorem dX11_feed_60 : decode cX11_feed 60 = .ok (.aload_n 0, 1) := by decide +kernel
theorem dX11_feed_61 : decode cX11_feed 61 = .ok (.getfield 12, 3) := by decide +kernel
theorem dX11_feed_64 : decode cX11_feed 64 = .ok (.getfield 103, 3) := by decide +kernel
theorem dX11_feed_67 : decode cX11_feed 67 = .ok (.ireturn, 1) := by decide +kernel
def q11_feed (σ : St) (a_a : Int32) (b_a : Int32) (c_a : Int32) (d_a : Int32) (e_a : Int32) : Option (Int32 × St) :=
  if 400 < ((σ 1 1) + 20) then (some ((-1), σ)) else
  Option.bind (q8_put σ a_a) fun x5_ =>
  Option.bind (q8_put x5_ b_a) fun x7_ =>
  Option.bind (q8_put x7_ c_a) fun x9_ =>
  Option.bind (q8_put x9_ d_a) fun x11_ =>
  Option.bind (q8_put x11_ e_a) fun x13_ =>
  some (x13_ 1 1, x13_)
abbrev rm11_feed : Room := { frames := 1, cells := 0, slots := 0, locals := 22 }
set_option maxHeartbeats 4000000 in
set_option maxRecDepth 100000 in
theorem p11_feed {Θ : Tz} {σ : St} {ρ : Option Value × St} (C : Zc Θ cX11_feed 6 RX11 (some .int) rm11_feed) (hkd : Θ.2.2.2.2.1 = kdC) {a_a : Int32} {b_a : Int32} {c_a : Int32} {d_a : Int32} {e_a : Int32} {r : (Int32 × St)} (hf : q11_feed σ a_a b_a c_a d_a e_a = some r) (hρ : ρ = (some (.int r.1), r.2)) : Z Θ 6 0 0 (zQ Θ ρ) σ 0 [(0, .ref (zA Θ 0)), (1, .int a_a), (2, .int b_a), (3, .int c_a), (4, .int d_a), (5, .int e_a)] [] := by
  unfold q11_feed at hf
  have K1_ : 400 < ((σ 1 1) + 20) → Z Θ 6 0 0 (zQ Θ ρ) σ 16 [(0, .ref (zA Θ 0)), (1, .int a_a), (2, .int b_a), (3, .int c_a), (4, .int d_a), (5, .int e_a)] [] := by
    intro h4_
    rw [if_pos h4_] at hf
    refine z_iconst (v := (-1)) C dX11_feed_16 ic_m1 ?_
    cases hf
    subst hρ
    exact z_iret C dX11_feed_17
  suffices K2_ : ¬ (400 < ((σ 1 1) + 20)) → Z Θ 6 0 0 (zQ Θ ρ) σ 18 [(0, .ref (zA Θ 0)), (1, .int a_a), (2, .int b_a), (3, .int c_a), (4, .int d_a), (5, .int e_a)] [] by
    refine z_aload_n C 0 dX11_feed_0 rfl rfl ?_
    refine fg11_12 C hkd dX11_feed_1 ?_
    refine fg11_103 C hkd dX11_feed_4 ?_
    refine z_bipush (v := 20) C dX11_feed_7 bp_20 ?_
    refine z_iadd C dX11_feed_9 ?_
    refine z_sipush (v := 400) C dX11_feed_10 sp_400 ?_
    refine c_gt_f C 18 dX11_feed_13 (by decide) (fun h3_ => ?_) (fun h3_ => ?_)
    · exact K1_ h3_
    · exact K2_ h3_
  intro h4_
  rw [if_neg h4_] at hf
  refine z_aload_n C 0 dX11_feed_18 rfl rfl ?_
  refine fg11_12 C hkd dX11_feed_19 ?_
  refine z_iload_n C 1 dX11_feed_22 rfl rfl ?_
  obtain ⟨x5_, h6_, hf⟩ := ob hf
  refine cr11_106 (number_a := a_a) C hkd  h6_ ⟨(Nat.le_of_ble_eq_true rfl), (Nat.le_of_ble_eq_true rfl)⟩ (Nat.le_of_ble_eq_true rfl) ⟨Nat.zero_le _, Nat.zero_le _⟩ dX11_feed_23 ?_
  refine z_aload_n C 0 dX11_feed_26 rfl rfl ?_
  refine fg11_12 C hkd dX11_feed_27 ?_
  refine z_iload_n C 2 dX11_feed_30 rfl rfl ?_
  obtain ⟨x7_, h8_, hf⟩ := ob hf
  refine cr11_106 (number_a := b_a) C hkd  h8_ ⟨(Nat.le_of_ble_eq_true rfl), (Nat.le_of_ble_eq_true rfl)⟩ (Nat.le_of_ble_eq_true rfl) ⟨Nat.zero_le _, Nat.zero_le _⟩ dX11_feed_31 ?_
  refine z_aload_n C 0 dX11_feed_34 rfl rfl ?_
  refine fg11_12 C hkd dX11_feed_35 ?_
  refine z_iload_n C 3 dX11_feed_38 rfl rfl ?_
  obtain ⟨x9_, h10_, hf⟩ := ob hf
  refine cr11_106 (number_a := c_a) C hkd  h10_ ⟨(Nat.le_of_ble_eq_true rfl), (Nat.le_of_ble_eq_true rfl)⟩ (Nat.le_of_ble_eq_true rfl) ⟨Nat.zero_le _, Nat.zero_le _⟩ dX11_feed_39 ?_
  refine z_aload_n C 0 dX11_feed_42 rfl rfl ?_
  refine fg11_12 C hkd dX11_feed_43 ?_
  refine z_iload C 4 dX11_feed_46 rfl ?_
  obtain ⟨x11_, h12_, hf⟩ := ob hf
  refine cr11_106 (number_a := d_a) C hkd  h12_ ⟨(Nat.le_of_ble_eq_true rfl), (Nat.le_of_ble_eq_true rfl)⟩ (Nat.le_of_ble_eq_true rfl) ⟨Nat.zero_le _, Nat.zero_le _⟩ dX11_feed_48 ?_
  refine z_aload_n C 0 dX11_feed_51 rfl rfl ?_
  refine fg11_12 C hkd dX11_feed_52 ?_
  refine z_iload C 5 dX11_feed_55 rfl ?_
  obtain ⟨x13_, h14_, hf⟩ := ob hf
  refine cr11_106 (number_a := e_a) C hkd  h14_ ⟨(Nat.le_of_ble_eq_true rfl), (Nat.le_of_ble_eq_true rfl)⟩ (Nat.le_of_ble_eq_true rfl) ⟨Nat.zero_le _, Nat.zero_le _⟩ dX11_feed_57 ?_
  refine z_aload_n C 0 dX11_feed_60 rfl rfl ?_
  refine fg11_12 C hkd dX11_feed_61 ?_
  refine fg11_103 C hkd dX11_feed_64 ?_
  cases hf
  subst hρ
  exact z_iret C dX11_feed_67
theorem c11_feed {l : Launch} {kd : List KD} {w : Wp} {σ : St} {a_a : Int32} {b_a : Int32} {c_a : Int32} {d_a : Int32} {e_a : Int32} (hkd : kd = kdC) (hi : zI kd w) {r : (Int32 × St)} (hf : q11_feed σ a_a b_a c_a d_a e_a = some r) : zM l kd w yX11_feed cX11_feed 6 (some .int) rm11_feed [.ref (w.2.2.1 0), .int a_a, .int b_a, .int c_a, .int d_a, .int e_a] σ (some (.int r.1), r.2) := zM_of rfl hi (Nat.le_of_ble_eq_true rfl) (fun Θ hl hw C => by
  obtain ⟨Θ1, Θ2, Θ3, Θ4, Θ5⟩ := Θ
  cases hw
  exact p11_feed C hkd  hf rfl)
/-! LastLoaf.end -/
theorem fp11_103 {Θ : Tz} {cc : ByteArray} {nL kc ks : Nat} {ret : Option FieldType} {rm : Room} {Q : State → Prop} {σ : St} {pc : Nat} {lv : List (Nat × Value)} {st : List Value} (C : Zc Θ cc nL RX11 ret rm) (hkd : Θ.2.2.2.2.1 = kdC) {x : Int32} {σ1 : St} (he : σ1 = up σ 1 1 x) (hd : decode cc pc = .ok (.putfield 103, 3)) (kk : Z Θ nL kc ks Q σ1 (pc + 3) lv st) : Z Θ nL kc ks Q σ pc lv (.int x :: .ref (zA Θ 1) :: st) := by subst he; exact z_put C inT8 tyX8_ok nmX8 1 (kC_1 hkd) rfl 1 (by decide) w_1_47 rfl rfl rfl rfl hd kk
theorem dX11_end_0 : decode cX11_end 0 = .ok (.iload_n 1, 1) := by decide +kernel
theorem dX11_end_1 : decode cX11_end 1 = .ok (.ifCond .lt 14, 3) := by decide +kernel
theorem dX11_end_4 : decode cX11_end 4 = .ok (.iload_n 1, 1) := by decide +kernel
theorem dX11_end_5 : decode cX11_end 5 = .ok (.aload_n 0, 1) := by decide +kernel
theorem dX11_end_6 : decode cX11_end 6 = .ok (.getfield 12, 3) := by decide +kernel
theorem dX11_end_9 : decode cX11_end 9 = .ok (.getfield 103, 3) := by decide +kernel
theorem dX11_end_12 : decode cX11_end 12 = .ok (.if_icmp .le 5, 3) := by decide +kernel
theorem dX11_end_15 : decode cX11_end 15 = .ok (.iconst 0, 1) := by decide +kernel
theorem dX11_end_16 : decode cX11_end 16 = .ok (.ireturn, 1) := by decide +kernel
theorem dX11_end_17 : decode cX11_end 17 = .ok (.aload_n 0, 1) := by decide +kernel
theorem dX11_end_18 : decode cX11_end 18 = .ok (.getfield 12, 3) := by decide +kernel
theorem dX11_end_21 : decode cX11_end 21 = .ok (.iload_n 1, 1) := by decide +kernel
theorem dX11_end_22 : decode cX11_end 22 = .ok (.putfield 103, 3) := by decide +kernel
theorem dX11_end_25 : decode cX11_end 25 = .ok (.iconst 1, 1) := by decide +kernel
theorem dX11_end_26 : decode cX11_end 26 = .ok (.ireturn, 1) := by decide +kernel
def q11_end (σ : St) (n_a : Int32) : Option (Bool × St) :=
  if (n_a < 0) ∨ ((σ 1 1) < n_a) then (some (false, σ)) else
  lt (up σ 1 1 n_a) fun σ6_ =>
  some (true, σ6_)
abbrev rm11_end : Room := { frames := 0, cells := 0, slots := 0, locals := 0 }
set_option maxHeartbeats 4000000 in
set_option maxRecDepth 100000 in
theorem p11_end {Θ : Tz} {σ : St} {ρ : Option Value × St} (C : Zc Θ cX11_end 2 RX11 (some .boolean) rm11_end) (hkd : Θ.2.2.2.2.1 = kdC) {n_a : Int32} {r : (Bool × St)} (hf : q11_end σ n_a = some r) (hρ : ρ = (some (.int (b2i r.1)), r.2)) : Z Θ 2 0 0 (zQ Θ ρ) σ 0 [(0, .ref (zA Θ 0)), (1, .int n_a)] [] := by
  unfold q11_end at hf
  have K1_ : (n_a < 0) ∨ ((σ 1 1) < n_a) → Z Θ 2 0 0 (zQ Θ ρ) σ 15 [(0, .ref (zA Θ 0)), (1, .int n_a)] [] := by
    intro h5_
    rw [if_pos h5_] at hf
    refine z_iconst (v := 0) C dX11_end_15 ic_0 ?_
    cases hf
    subst hρ
    exact z_zret C (b2i_narrow _) dX11_end_16
  suffices K2_ : ¬ ((n_a < 0) ∨ ((σ 1 1) < n_a)) → Z Θ 2 0 0 (zQ Θ ρ) σ 17 [(0, .ref (zA Θ 0)), (1, .int n_a)] [] by
    refine z_iload_n C 1 dX11_end_0 rfl rfl ?_
    refine c0_lt_t C 15 dX11_end_1 (by decide) (fun h3_ => ?_) (fun h3_ => ?_)
    · exact K1_ (Or.inl h3_)
    · refine z_iload_n C 1 dX11_end_4 rfl rfl ?_
      refine z_aload_n C 0 dX11_end_5 rfl rfl ?_
      refine fg11_12 C hkd dX11_end_6 ?_
      refine fg11_103 C hkd dX11_end_9 ?_
      refine c_gt_f C 17 dX11_end_12 (by decide) (fun h4_ => ?_) (fun h4_ => ?_)
      · exact K1_ (Or.inr h4_)
      · exact K2_ (fun n => n.elim h3_ h4_)
  intro h5_
  rw [if_neg h5_] at hf
  refine z_aload_n C 0 dX11_end_17 rfl rfl ?_
  refine fg11_12 C hkd dX11_end_18 ?_
  refine z_iload_n C 1 dX11_end_21 rfl rfl ?_
  obtain ⟨σ6_, h7_, hf⟩ := lt_ hf
  refine fp11_103 C hkd h7_ dX11_end_22 ?_
  refine z_iconst (v := 1) C dX11_end_25 ic_1 ?_
  cases hf
  subst hρ
  exact z_zret C (b2i_narrow _) dX11_end_26
theorem c11_end {l : Launch} {kd : List KD} {w : Wp} {σ : St} {n_a : Int32} (hkd : kd = kdC) (hi : zI kd w) {r : (Bool × St)} (hf : q11_end σ n_a = some r) : zM l kd w yX11_end cX11_end 2 (some .boolean) rm11_end [.ref (w.2.2.1 0), .int n_a] σ (some (.int (b2i r.1)), r.2) := zM_of rfl hi (Nat.le_of_ble_eq_true rfl) (fun Θ hl hw C => by
  obtain ⟨Θ1, Θ2, Θ3, Θ4, Θ5⟩ := Θ
  cases hw
  exact p11_end C hkd  hf rfl)
/-! LastLoaf.closeText -/
theorem w_1_50 : Cond.fieldLink "LastLoaf" (470 : Nat) "LastLoaf$Tape" "begin" "I" ∈ TB := tb_in (lwt_1 (List.mem_of_getElem? (i := 50) (by decide +kernel))) rfl
theorem fg11_470 {Θ : Tz} {cc : ByteArray} {nL kc ks : Nat} {ret : Option FieldType} {rm : Room} {Q : State → Prop} {σ : St} {pc : Nat} {lv : List (Nat × Value)} {st : List Value} (C : Zc Θ cc nL RX11 ret rm) (hkd : Θ.2.2.2.2.1 = kdC) (hd : decode cc pc = .ok (.getfield 470, 3)) (kk : Z Θ nL kc ks Q σ (pc + 3) lv (.int (σ 1 2) :: st)) : Z Θ nL kc ks Q σ pc lv (.ref (zA Θ 1) :: st) := z_get C inT8 1 (kC_1 hkd) rfl 2 (by decide) w_1_50 rfl hd kk
theorem w_2_202 : Cond.fieldLink "LastLoaf" (99 : Nat) "LastLoaf" "faultAt" "I" ∈ TB := tb_in (lwt_2 (List.mem_of_getElem? (i := 202) (by decide +kernel))) rfl
theorem fp11_99 {Θ : Tz} {cc : ByteArray} {nL kc ks : Nat} {ret : Option FieldType} {rm : Room} {Q : State → Prop} {σ : St} {pc : Nat} {lv : List (Nat × Value)} {st : List Value} (C : Zc Θ cc nL RX11 ret rm) (hkd : Θ.2.2.2.2.1 = kdC) {x : Int32} {σ1 : St} (he : σ1 = up σ 0 15 x) (hd : decode cc pc = .ok (.putfield 99, 3)) (kk : Z Θ nL kc ks Q σ1 (pc + 3) lv st) : Z Θ nL kc ks Q σ pc lv (.int x :: .ref (zA Θ 0) :: st) := by subst he; exact z_put C inT11 tyX11_ok nmX11 0 (kC_0 hkd) rfl 15 (by decide) w_2_202 rfl rfl rfl rfl hd kk
theorem dX11_closeText_0 : decode cX11_closeText 0 = .ok (.aload_n 0, 1) := by decide +kernel
theorem dX11_closeText_1 : decode cX11_closeText 1 = .ok (.iload_n 1, 1) := by decide +kernel
theorem dX11_closeText_2 : decode cX11_closeText 2 = .ok (.ifCond .eq 7, 3) := by decide +kernel
theorem dX11_closeText_5 : decode cX11_closeText 5 = .ok (.iconst (-1), 1) := by decide +kernel
theorem dX11_closeText_6 : decode cX11_closeText 6 = .ok (.goto 10, 3) := by decide +kernel
theorem dX11_closeText_9 : decode cX11_closeText 9 = .ok (.aload_n 0, 1) := by decide +kernel
theorem dX11_closeText_10 : decode cX11_closeText 10 = .ok (.getfield 12, 3) := by decide +kernel
theorem dX11_closeText_13 : decode cX11_closeText 13 = .ok (.getfield 470, 3) := by decide +kernel
theorem dX11_closeText_16 : decode cX11_closeText 16 = .ok (.putfield 99, 3) := by decide +kernel
theorem dX11_closeText_19 : decode cX11_closeText 19 = .ok (.aload_n 0, 1) := by decide +kernel
theorem dX11_closeText_20 : decode cX11_closeText 20 = .ok (.getfield 12, 3) := by decide +kernel
theorem dX11_closeText_23 : decode cX11_closeText 23 = .ok (.iconst 0, 1) := by decide +kernel
theorem dX11_closeText_24 : decode cX11_closeText 24 = .ok (.putfield 103, 3) := by decide +kernel
theorem dX11_closeText_27 : decode cX11_closeText 27 = .ok (.return_, 1) := by decide +kernel
def q11_closeText (σ : St) (right_a : Bool) : Option St :=
  lt (up σ 0 15 (if right_a = true then (-1) else σ 1 2)) fun σ6_ =>
  lt (up σ6_ 1 1 0) fun σ8_ =>
  some σ8_
abbrev rm11_closeText : Room := { frames := 0, cells := 0, slots := 0, locals := 0 }
set_option maxHeartbeats 4000000 in
set_option maxRecDepth 100000 in
theorem p11_closeText {Θ : Tz} {σ : St} {ρ : Option Value × St} (C : Zc Θ cX11_closeText 2 RX11 none rm11_closeText) (hkd : Θ.2.2.2.2.1 = kdC) {right_a : Bool} {r : St} (hf : q11_closeText σ right_a = some r) (hρ : ρ = (none, r)) : Z Θ 2 0 0 (zQ Θ ρ) σ 0 [(0, .ref (zA Θ 0)), (1, .int (b2i right_a))] [] := by
  unfold q11_closeText at hf
  refine z_aload_n C 0 dX11_closeText_0 rfl rfl ?_
  suffices K1_ : Z Θ 2 0 0 (zQ Θ ρ) σ 16 [(0, .ref (zA Θ 0)), (1, .int (b2i right_a))] [.int (if right_a = true then (-1) else σ 1 2), .ref (zA Θ 0)] by
    have K2_ : right_a = true → Z Θ 2 0 0 (zQ Θ ρ) σ 5 [(0, .ref (zA Θ 0)), (1, .int (b2i right_a))] [.ref (zA Θ 0)] := by
      intro h5_
      rw [if_pos h5_] at K1_
      refine z_iconst (v := (-1)) C dX11_closeText_5 ic_m1 ?_
      refine z_goto C 16 dX11_closeText_6 (by decide) ?_
      exact K1_
    have K3_ : ¬ (right_a = true) → Z Θ 2 0 0 (zQ Θ ρ) σ 9 [(0, .ref (zA Θ 0)), (1, .int (b2i right_a))] [.ref (zA Θ 0)] := by
      intro h5_
      rw [if_neg h5_] at K1_
      refine z_aload_n C 0 dX11_closeText_9 rfl rfl ?_
      refine fg11_12 C hkd dX11_closeText_10 ?_
      refine fg11_470 C hkd dX11_closeText_13 ?_
      exact K1_
    refine z_iload_n C 1 dX11_closeText_1 rfl rfl ?_
    refine cb_f C 9 dX11_closeText_2 (by decide) (fun h4_ => ?_) (fun h4_ => ?_)
    · exact K2_ h4_
    · exact K3_ h4_
  obtain ⟨σ6_, h7_, hf⟩ := lt_ hf
  refine fp11_99 C hkd h7_ dX11_closeText_16 ?_
  refine z_aload_n C 0 dX11_closeText_19 rfl rfl ?_
  refine fg11_12 C hkd dX11_closeText_20 ?_
  refine z_iconst (v := 0) C dX11_closeText_23 ic_0 ?_
  obtain ⟨σ8_, h9_, hf⟩ := lt_ hf
  refine fp11_103 C hkd h9_ dX11_closeText_24 ?_
  cases hf
  subst hρ
  exact z_vret C dX11_closeText_27
theorem c11_closeText {l : Launch} {kd : List KD} {w : Wp} {σ : St} {right_a : Bool} (hkd : kd = kdC) (hi : zI kd w) {r : St} (hf : q11_closeText σ right_a = some r) : zM l kd w yX11_closeText cX11_closeText 2 none rm11_closeText [.ref (w.2.2.1 0), .int (b2i right_a)] σ (none, r) := zM_of rfl hi (Nat.le_of_ble_eq_true rfl) (fun Θ hl hw C => by
  obtain ⟨Θ1, Θ2, Θ3, Θ4, Θ5⟩ := Θ
  cases hw
  exact p11_closeText C hkd  hf rfl)
/-! LastLoaf$Past.forget -/
theorem w_2_25 : Cond.fieldLink "LastLoaf$Past" (17 : Nat) "LastLoaf$Past" "size" "I" ∈ TB := tb_in (lwt_2 (List.mem_of_getElem? (i := 25) (by decide +kernel))) rfl
theorem fp4_17 {Θ : Tz} {cc : ByteArray} {nL kc ks : Nat} {ret : Option FieldType} {rm : Room} {Q : State → Prop} {σ : St} {pc : Nat} {lv : List (Nat × Value)} {st : List Value} (C : Zc Θ cc nL RX4 ret rm) (hkd : Θ.2.2.2.2.1 = kdC) {x : Int32} {σ1 : St} (he : σ1 = up σ 5 1 x) (hd : decode cc pc = .ok (.putfield 17, 3)) (kk : Z Θ nL kc ks Q σ1 (pc + 3) lv st) : Z Θ nL kc ks Q σ pc lv (.int x :: .ref (zA Θ 5) :: st) := by subst he; exact z_put C inT4 tyX4_ok nmX4 5 (kC_5 hkd) rfl 1 (by decide) w_2_25 rfl rfl rfl rfl hd kk
theorem dX4_forget_0 : decode cX4_forget 0 = .ok (.aload_n 0, 1) := by decide +kernel
theorem dX4_forget_1 : decode cX4_forget 1 = .ok (.iconst 0, 1) := by decide +kernel
theorem dX4_forget_2 : decode cX4_forget 2 = .ok (.putfield 17, 3) := by decide +kernel
theorem dX4_forget_5 : decode cX4_forget 5 = .ok (.return_, 1) := by decide +kernel
def q4_forget (σ : St) : Option St :=
  lt (up σ 5 1 0) fun σ1_ =>
  some σ1_
abbrev rm4_forget : Room := { frames := 0, cells := 0, slots := 0, locals := 0 }
set_option maxHeartbeats 4000000 in
set_option maxRecDepth 100000 in
theorem p4_forget {Θ : Tz} {σ : St} {ρ : Option Value × St} (C : Zc Θ cX4_forget 1 RX4 none rm4_forget) (hkd : Θ.2.2.2.2.1 = kdC) {r : St} (hf : q4_forget σ = some r) (hρ : ρ = (none, r)) : Z Θ 1 0 0 (zQ Θ ρ) σ 0 [(0, .ref (zA Θ 5))] [] := by
  unfold q4_forget at hf
  refine z_aload_n C 0 dX4_forget_0 rfl rfl ?_
  refine z_iconst (v := 0) C dX4_forget_1 ic_0 ?_
  obtain ⟨σ1_, h2_, hf⟩ := lt_ hf
  refine fp4_17 C hkd h2_ dX4_forget_2 ?_
  cases hf
  subst hρ
  exact z_vret C dX4_forget_5
theorem c4_forget {l : Launch} {kd : List KD} {w : Wp} {σ : St} (hkd : kd = kdC) (hi : zI kd w) {r : St} (hf : q4_forget σ = some r) : zM l kd w yX4_forget cX4_forget 1 none rm4_forget [.ref (w.2.2.1 5)] σ (none, r) := zM_of rfl hi (Nat.le_of_ble_eq_true rfl) (fun Θ hl hw C => by
  obtain ⟨Θ1, Θ2, Θ3, Θ4, Θ5⟩ := Θ
  cases hw
  exact p4_forget C hkd  hf rfl)
/-! LastLoaf$Tape.kindOf -/
theorem dX8_kindOf_0 : decode cX8_kindOf 0 = .ok (.iload_n 0, 1) := by decide +kernel
theorem dX8_kindOf_1 : decode cX8_kindOf 1 = .ok (.bipush 97, 2) := by decide +kernel
theorem dX8_kindOf_3 : decode cX8_kindOf 3 = .ok (.if_icmp .lt 11, 3) := by decide +kernel
theorem dX8_kindOf_6 : decode cX8_kindOf 6 = .ok (.iload_n 0, 1) := by decide +kernel
theorem dX8_kindOf_7 : decode cX8_kindOf 7 = .ok (.bipush 122, 2) := by decide +kernel
theorem dX8_kindOf_9 : decode cX8_kindOf 9 = .ok (.if_icmp .gt 5, 3) := by decide +kernel
theorem dX8_kindOf_12 : decode cX8_kindOf 12 = .ok (.iconst 1, 1) := by decide +kernel
theorem dX8_kindOf_13 : decode cX8_kindOf 13 = .ok (.ireturn, 1) := by decide +kernel
theorem dX8_kindOf_14 : decode cX8_kindOf 14 = .ok (.iload_n 0, 1) := by decide +kernel
theorem dX8_kindOf_15 : decode cX8_kindOf 15 = .ok (.bipush 48, 2) := by decide +kernel
theorem dX8_kindOf_17 : decode cX8_kindOf 17 = .ok (.if_icmp .lt 13, 3) := by decide +kernel
theorem dX8_kindOf_20 : decode cX8_kindOf 20 = .ok (.iload_n 0, 1) := by decide +kernel
theorem dX8_kindOf_21 : decode cX8_kindOf 21 = .ok (.bipush 57, 2) := by decide +kernel
theorem dX8_kindOf_23 : decode cX8_kindOf 23 = .ok (.if_icmp .gt 7, 3) := by decide +kernel
theorem dX8_kindOf_26 : decode cX8_kindOf 26 = .ok (.iconst 2, 1) := by decide +kernel
theorem dX8_kindOf_27 : decode cX8_kindOf 27 = .ok (.goto 4, 3) := by decide +kernel
theorem dX8_kindOf_30 : decode cX8_kindOf 30 = .ok (.iconst 3, 1) := by decide +kernel
theorem dX8_kindOf_31 : decode cX8_kindOf 31 = .ok (.ireturn, 1) := by decide +kernel
def q8_kindOf (sign_a : Int32) : Int32 :=
  if (97 ≤ sign_a) ∧ (sign_a ≤ 122) then 1 else
  if (48 ≤ sign_a) ∧ (sign_a ≤ 57) then 2 else 3
abbrev rm8_kindOf : Room := { frames := 0, cells := 0, slots := 0, locals := 0 }
set_option maxHeartbeats 4000000 in
set_option maxRecDepth 100000 in
theorem p8_kindOf {Θ : Tz} {σ : St} {ρ : Option Value × St} (C : Zc Θ cX8_kindOf 1 RX8 (some .int) rm8_kindOf) (hkd : Θ.2.2.2.2.1 = kdC) {sign_a : Int32} {r : Int32} (hf : q8_kindOf sign_a = r) (hρ : ρ = (some (.int r), σ)) : Z Θ 1 0 0 (zQ Θ ρ) σ 0 [(0, .int sign_a)] [] := by
  unfold q8_kindOf at hf
  have K1_ : (97 ≤ sign_a) ∧ (sign_a ≤ 122) → Z Θ 1 0 0 (zQ Θ ρ) σ 12 [(0, .int sign_a)] [] := by
    intro h5_
    rw [if_pos h5_] at hf
    refine z_iconst (v := 1) C dX8_kindOf_12 ic_1 ?_
    subst hf
    subst hρ
    exact z_iret C dX8_kindOf_13
  suffices K2_ : ¬ ((97 ≤ sign_a) ∧ (sign_a ≤ 122)) → Z Θ 1 0 0 (zQ Θ ρ) σ 14 [(0, .int sign_a)] [] by
    refine z_iload_n C 0 dX8_kindOf_0 rfl rfl ?_
    refine z_bipush (v := 97) C dX8_kindOf_1 bp_97 ?_
    refine c_ge_f C 14 dX8_kindOf_3 (by decide) (fun h3_ => ?_) (fun h3_ => ?_)
    · refine z_iload_n C 0 dX8_kindOf_6 rfl rfl ?_
      refine z_bipush (v := 122) C dX8_kindOf_7 bp_122 ?_
      refine c_le_f C 14 dX8_kindOf_9 (by decide) (fun h4_ => ?_) (fun h4_ => ?_)
      · exact K1_ ⟨h3_, h4_⟩
      · exact K2_ (fun n => h4_ n.2)
    · exact K2_ (fun n => h3_ n.1)
  intro h5_
  rw [if_neg h5_] at hf
  suffices K6_ : Z Θ 1 0 0 (zQ Θ ρ) σ 31 [(0, .int sign_a)] [.int (if (48 ≤ sign_a) ∧ (sign_a ≤ 57) then 2 else 3)] by
    have K7_ : (48 ≤ sign_a) ∧ (sign_a ≤ 57) → Z Θ 1 0 0 (zQ Θ ρ) σ 26 [(0, .int sign_a)] [] := by
      intro h11_
      rw [if_pos h11_] at K6_
      refine z_iconst (v := 2) C dX8_kindOf_26 ic_2 ?_
      refine z_goto C 31 dX8_kindOf_27 (by decide) ?_
      exact K6_
    have K8_ : ¬ ((48 ≤ sign_a) ∧ (sign_a ≤ 57)) → Z Θ 1 0 0 (zQ Θ ρ) σ 30 [(0, .int sign_a)] [] := by
      intro h11_
      rw [if_neg h11_] at K6_
      refine z_iconst (v := 3) C dX8_kindOf_30 ic_3 ?_
      exact K6_
    refine z_iload_n C 0 dX8_kindOf_14 rfl rfl ?_
    refine z_bipush (v := 48) C dX8_kindOf_15 bp_48 ?_
    refine c_ge_f C 30 dX8_kindOf_17 (by decide) (fun h9_ => ?_) (fun h9_ => ?_)
    · refine z_iload_n C 0 dX8_kindOf_20 rfl rfl ?_
      refine z_bipush (v := 57) C dX8_kindOf_21 bp_57 ?_
      refine c_le_f C 30 dX8_kindOf_23 (by decide) (fun h10_ => ?_) (fun h10_ => ?_)
      · exact K7_ ⟨h9_, h10_⟩
      · exact K8_ (fun n => h10_ n.2)
    · exact K8_ (fun n => h9_ n.1)
  subst hf
  subst hρ
  exact z_iret C dX8_kindOf_31
theorem c8_kindOf {l : Launch} {kd : List KD} {w : Wp} {σ : St} {sign_a : Int32} (hkd : kd = kdC) (hi : zI kd w) : zM l kd w yX8_kindOf cX8_kindOf 1 (some .int) rm8_kindOf [.int sign_a] σ (some (.int (q8_kindOf sign_a)), σ) := zM_of rfl hi (Nat.le_of_ble_eq_true rfl) (fun Θ hl hw C => by
  obtain ⟨Θ1, Θ2, Θ3, Θ4, Θ5⟩ := Θ
  cases hw
  exact p8_kindOf C hkd  rfl rfl)
/-! LastLoaf$Tape.advance -/
theorem w_1_51 : Cond.fieldLink "LastLoaf$Tape" (22 : Nat) "LastLoaf$Tape" "after" "I" ∈ TB := tb_in (lwt_1 (List.mem_of_getElem? (i := 51) (by decide +kernel))) rfl
theorem fg8_22 {Θ : Tz} {cc : ByteArray} {nL kc ks : Nat} {ret : Option FieldType} {rm : Room} {Q : State → Prop} {σ : St} {pc : Nat} {lv : List (Nat × Value)} {st : List Value} (C : Zc Θ cc nL RX8 ret rm) (hkd : Θ.2.2.2.2.1 = kdC) (hd : decode cc pc = .ok (.getfield 22, 3)) (kk : Z Θ nL kc ks Q σ (pc + 3) lv (.int (σ 1 3) :: st)) : Z Θ nL kc ks Q σ pc lv (.ref (zA Θ 1) :: st) := z_get C inT8 1 (kC_1 hkd) rfl 3 (by decide) w_1_51 rfl hd kk
theorem w_1_49 : Cond.fieldLink "LastLoaf$Tape" (19 : Nat) "LastLoaf$Tape" "begin" "I" ∈ TB := tb_in (lwt_1 (List.mem_of_getElem? (i := 49) (by decide +kernel))) rfl
theorem fp8_19 {Θ : Tz} {cc : ByteArray} {nL kc ks : Nat} {ret : Option FieldType} {rm : Room} {Q : State → Prop} {σ : St} {pc : Nat} {lv : List (Nat × Value)} {st : List Value} (C : Zc Θ cc nL RX8 ret rm) (hkd : Θ.2.2.2.2.1 = kdC) {x : Int32} {σ1 : St} (he : σ1 = up σ 1 2 x) (hd : decode cc pc = .ok (.putfield 19, 3)) (kk : Z Θ nL kc ks Q σ1 (pc + 3) lv st) : Z Θ nL kc ks Q σ pc lv (.int x :: .ref (zA Θ 1) :: st) := by subst he; exact z_put C inT8 tyX8_ok nmX8 1 (kC_1 hkd) rfl 2 (by decide) w_1_49 rfl rfl rfl rfl hd kk
theorem fg8_19 {Θ : Tz} {cc : ByteArray} {nL kc ks : Nat} {ret : Option FieldType} {rm : Room} {Q : State → Prop} {σ : St} {pc : Nat} {lv : List (Nat × Value)} {st : List Value} (C : Zc Θ cc nL RX8 ret rm) (hkd : Θ.2.2.2.2.1 = kdC) (hd : decode cc pc = .ok (.getfield 19, 3)) (kk : Z Θ nL kc ks Q σ (pc + 3) lv (.int (σ 1 2) :: st)) : Z Θ nL kc ks Q σ pc lv (.ref (zA Θ 1) :: st) := z_get C inT8 1 (kC_1 hkd) rfl 2 (by decide) w_1_49 rfl hd kk
theorem fp8_22 {Θ : Tz} {cc : ByteArray} {nL kc ks : Nat} {ret : Option FieldType} {rm : Room} {Q : State → Prop} {σ : St} {pc : Nat} {lv : List (Nat × Value)} {st : List Value} (C : Zc Θ cc nL RX8 ret rm) (hkd : Θ.2.2.2.2.1 = kdC) {x : Int32} {σ1 : St} (he : σ1 = up σ 1 3 x) (hd : decode cc pc = .ok (.putfield 22, 3)) (kk : Z Θ nL kc ks Q σ1 (pc + 3) lv st) : Z Θ nL kc ks Q σ pc lv (.int x :: .ref (zA Θ 1) :: st) := by subst he; exact z_put C inT8 tyX8_ok nmX8 1 (kC_1 hkd) rfl 3 (by decide) w_1_51 rfl rfl rfl rfl hd kk
theorem w_1_52 : Cond.fieldLink "LastLoaf$Tape" (25 : Nat) "LastLoaf$Tape" "kind" "I" ∈ TB := tb_in (lwt_1 (List.mem_of_getElem? (i := 52) (by decide +kernel))) rfl
theorem fp8_25 {Θ : Tz} {cc : ByteArray} {nL kc ks : Nat} {ret : Option FieldType} {rm : Room} {Q : State → Prop} {σ : St} {pc : Nat} {lv : List (Nat × Value)} {st : List Value} (C : Zc Θ cc nL RX8 ret rm) (hkd : Θ.2.2.2.2.1 = kdC) {x : Int32} {σ1 : St} (he : σ1 = up σ 1 4 x) (hd : decode cc pc = .ok (.putfield 25, 3)) (kk : Z Θ nL kc ks Q σ1 (pc + 3) lv st) : Z Θ nL kc ks Q σ pc lv (.int x :: .ref (zA Θ 1) :: st) := by subst he; exact z_put C inT8 tyX8_ok nmX8 1 (kC_1 hkd) rfl 4 (by decide) w_1_52 rfl rfl rfl rfl hd kk
theorem w_4_181 : Cond.code ({ cls := "LastLoaf$Tape", name := "kindOf", desc := "(I)I" } : MethodName) prog_10_method_5_code (1 : Nat) (Option.some ClassFile.FieldType.int) ∈ TB := tb_in (lwt_4 (List.mem_of_getElem? (i := 181) (by decide +kernel))) rfl
theorem w_4_180 : Cond.static ({ cls := "LastLoaf$Tape", name := "kindOf", desc := "(I)I" } : MethodName) ∈ TB := tb_in (lwt_4 (List.mem_of_getElem? (i := 180) (by decide +kernel))) rfl
theorem w_4_179 : Cond.methodLink "LastLoaf$Tape" (31 : Nat) ({ cls := "LastLoaf$Tape", name := "kindOf", desc := "(I)I" } : MethodName) ∈ TB := tb_in (lwt_4 (List.mem_of_getElem? (i := 179) (by decide +kernel))) rfl
theorem cr8_31 {Θ : Tz} {cc : ByteArray} {nL kc ks : Nat} {ret : Option FieldType} {rm : Room} {Q : State → Prop} {σ : St} {pc : Nat} {lv : List (Nat × Value)} {st : List Value} (C : Zc Θ cc nL RX8 ret rm) (hkd : Θ.2.2.2.2.1 = kdC) {sign_a : Int32} (hrm : rm8_kindOf.frames + 1 ≤ rm.frames ∧ 8 + (1 + 11) + rm8_kindOf.locals ≤ rm.locals) (hcat : (st.map fun v => v.category).sum ≤ 8) (hk : kc ≤ rm.cells ∧ ks ≤ rm.slots) (hd : decode cc pc = .ok (.invokestatic 31, 3)) (kk : Z Θ nL kc ks Q σ (pc + 3) lv (.int (q8_kindOf sign_a) :: st)) : Z Θ nL kc ks Q σ pc lv (.int sign_a :: st) := z_callS C [.int sign_a] (some (.int (q8_kindOf sign_a)), σ) 1 (c8_kindOf (sign_a := sign_a) hkd (zc_inj C)) w_4_181 w_4_179 w_4_180 w_1_2 ⟨rfl, rfl, hrm.1, hrm.2⟩ (by decide +kernel) rfl rfl hcat hk hd kk
theorem fg8_25 {Θ : Tz} {cc : ByteArray} {nL kc ks : Nat} {ret : Option FieldType} {rm : Room} {Q : State → Prop} {σ : St} {pc : Nat} {lv : List (Nat × Value)} {st : List Value} (C : Zc Θ cc nL RX8 ret rm) (hkd : Θ.2.2.2.2.1 = kdC) (hd : decode cc pc = .ok (.getfield 25, 3)) (kk : Z Θ nL kc ks Q σ (pc + 3) lv (.int (σ 1 4) :: st)) : Z Θ nL kc ks Q σ pc lv (.ref (zA Θ 1) :: st) := z_get C inT8 1 (kC_1 hkd) rfl 4 (by decide) w_1_52 rfl hd kk
theorem dX8_advance_0 : decode cX8_advance 0 = .ok (.aload_n 0, 1) := by decide +kernel
theorem dX8_advance_1 : decode cX8_advance 1 = .ok (.aload_n 0, 1) := by decide +kernel
theorem dX8_advance_2 : decode cX8_advance 2 = .ok (.getfield 22, 3) := by decide +kernel
theorem dX8_advance_5 : decode cX8_advance 5 = .ok (.putfield 19, 3) := by decide +kernel
theorem dX8_advance_8 : decode cX8_advance 8 = .ok (.aload_n 0, 1) := by decide +kernel
theorem dX8_advance_9 : decode cX8_advance 9 = .ok (.getfield 19, 3) := by decide +kernel
theorem dX8_advance_12 : decode cX8_advance 12 = .ok (.aload_n 0, 1) := by decide +kernel
theorem dX8_advance_13 : decode cX8_advance 13 = .ok (.getfield 15, 3) := by decide +kernel
theorem dX8_advance_16 : decode cX8_advance 16 = .ok (.if_icmp .ge 30, 3) := by decide +kernel
theorem dX8_advance_19 : decode cX8_advance 19 = .ok (.aload_n 0, 1) := by decide +kernel
theorem dX8_advance_20 : decode cX8_advance 20 = .ok (.getfield 9, 3) := by decide +kernel
theorem dX8_advance_23 : decode cX8_advance 23 = .ok (.aload_n 0, 1) := by decide +kernel
theorem dX8_advance_24 : decode cX8_advance 24 = .ok (.getfield 19, 3) := by decide +kernel
theorem dX8_advance_27 : decode cX8_advance 27 = .ok (.iaload, 1) := by decide +kernel
theorem dX8_advance_28 : decode cX8_advance 28 = .ok (.bipush 32, 2) := by decide +kernel
theorem dX8_advance_30 : decode cX8_advance 30 = .ok (.if_icmp .ne 16, 3) := by decide +kernel
theorem dX8_advance_33 : decode cX8_advance 33 = .ok (.aload_n 0, 1) := by decide +kernel
theorem dX8_advance_34 : decode cX8_advance 34 = .ok (.dup, 1) := by decide +kernel
theorem dX8_advance_35 : decode cX8_advance 35 = .ok (.getfield 19, 3) := by decide +kernel
theorem dX8_advance_38 : decode cX8_advance 38 = .ok (.iconst 1, 1) := by decide +kernel
theorem dX8_advance_39 : decode cX8_advance 39 = .ok (.iadd, 1) := by decide +kernel
theorem dX8_advance_40 : decode cX8_advance 40 = .ok (.putfield 19, 3) := by decide +kernel
theorem dX8_advance_43 : decode cX8_advance 43 = .ok (.goto (-35), 3) := by decide +kernel
theorem dX8_advance_46 : decode cX8_advance 46 = .ok (.aload_n 0, 1) := by decide +kernel
theorem dX8_advance_47 : decode cX8_advance 47 = .ok (.aload_n 0, 1) := by decide +kernel
theorem dX8_advance_48 : decode cX8_advance 48 = .ok (.getfield 19, 3) := by decide +kernel
theorem dX8_advance_51 : decode cX8_advance 51 = .ok (.putfield 22, 3) := by decide +kernel
theorem dX8_advance_54 : decode cX8_advance 54 = .ok (.aload_n 0, 1) := by decide +kernel
theorem dX8_advance_55 : decode cX8_advance 55 = .ok (.iconst 0, 1) := by decide +kernel
theorem dX8_advance_56 : decode cX8_advance 56 = .ok (.putfield 25, 3) := by decide +kernel
theorem dX8_advance_59 : decode cX8_advance 59 = .ok (.aload_n 0, 1) := by decide +kernel
theorem dX8_advance_60 : decode cX8_advance 60 = .ok (.getfield 19, 3) := by decide +kernel
theorem dX8_advance_63 : decode cX8_advance 63 = .ok (.aload_n 0, 1) := by decide +kernel
theorem dX8_advance_64 : decode cX8_advance 64 = .ok (.getfield 15, 3) := by decide +kernel
theorem dX8_advance_67 : decode cX8_advance 67 = .ok (.if_icmp .ge 29, 3) := by decide +kernel
theorem dX8_advance_70 : decode cX8_advance 70 = .ok (.aload_n 0, 1) := by decide +kernel
theorem dX8_advance_71 : decode cX8_advance 71 = .ok (.aload_n 0, 1) := by decide +kernel
theorem dX8_advance_72 : decode cX8_advance 72 = .ok (.getfield 9, 3) := by decide +kernel
theorem dX8_advance_75 : decode cX8_advance 75 = .ok (.aload_n 0, 1) := by decide +kernel
theorem dX8_advance_76 : decode cX8_advance 76 = .ok (.getfield 19, 3) := by decide +kernel
theorem dX8_advance_79 : decode cX8_advance 79 = .ok (.iaload, 1) := by decide +kernel
theorem dX8_advance_80 : decode cX8_advance 80 = .ok (.invokestatic 31, 3) := by decide +kernel
theorem dX8_advance_83 : decode cX8_advance 83 = .ok (.putfield 25, 3) := by decide +kernel
theorem dX8_advance_86 : decode cX8_advance 86 = .ok (.aload_n 0, 1) := by decide +kernel
theorem dX8_advance_87 : decode cX8_advance 87 = .ok (.dup, 1) := by decide +kernel
theorem dX8_advance_88 : decode cX8_advance 88 = .ok (.getfield 22, 3) := by decide +kernel
theorem dX8_advance_91 : decode cX8_advance 91 = .ok (.iconst 1, 1) := by decide +kernel
theorem dX8_advance_92 : decode cX8_advance 92 = .ok (.iadd, 1) := by decide +kernel
theorem dX8_advance_93 : decode cX8_advance 93 = .ok (.putfield 22, 3) := by decide +kernel
theorem dX8_advance_96 : decode cX8_advance 96 = .ok (.aload_n 0, 1) := by decide +kernel
theorem dX8_advance_97 : decode cX8_advance 97 = .ok (.getfield 25, 3) := by decide +kernel
theorem dX8_advance_100 : decode cX8_advance 100 = .ok (.iconst 3, 1) := by decide +kernel
theorem dX8_advance_101 : decode cX8_advance 101 = .ok (.if_icmp .eq 46, 3) := by decide +kernel
theorem dX8_advance_104 : decode cX8_advance 104 = .ok (.aload_n 0, 1) := by decide +kernel
theorem dX8_advance_105 : decode cX8_advance 105 = .ok (.getfield 22, 3) := by decide +kernel
theorem dX8_advance_108 : decode cX8_advance 108 = .ok (.aload_n 0, 1) := by decide +kernel
theorem dX8_advance_109 : decode cX8_advance 109 = .ok (.getfield 15, 3) := by decide +kernel
theorem dX8_advance_112 : decode cX8_advance 112 = .ok (.if_icmp .ge 35, 3) := by decide +kernel
theorem dX8_advance_115 : decode cX8_advance 115 = .ok (.aload_n 0, 1) := by decide +kernel
theorem dX8_advance_116 : decode cX8_advance 116 = .ok (.getfield 9, 3) := by decide +kernel
theorem dX8_advance_119 : decode cX8_advance 119 = .ok (.aload_n 0, 1) := by decide +kernel
theorem dX8_advance_120 : decode cX8_advance 120 = .ok (.getfield 22, 3) := by decide +kernel
theorem dX8_advance_123 : decode cX8_advance 123 = .ok (.iaload, 1) := by decide +kernel
theorem dX8_advance_124 : decode cX8_advance 124 = .ok (.invokestatic 31, 3) := by decide +kernel
theorem dX8_advance_127 : decode cX8_advance 127 = .ok (.aload_n 0, 1) := by decide +kernel
theorem dX8_advance_128 : decode cX8_advance 128 = .ok (.getfield 25, 3) := by decide +kernel
theorem dX8_advance_131 : decode cX8_advance 131 = .ok (.if_icmp .ne 16, 3) := by decide +kernel
theorem dX8_advance_134 : decode cX8_advance 134 = .ok (.aload_n 0, 1) := by decide +kernel
theorem dX8_advance_135 : decode cX8_advance 135 = .ok (.dup, 1) := by decide +kernel
theorem dX8_advance_136 : decode cX8_advance 136 = .ok (.getfield 22, 3) := by decide +kernel
theorem dX8_advance_139 : decode cX8_advance 139 = .ok (.iconst 1, 1) := by decide +kernel
theorem dX8_advance_140 : decode cX8_advance 140 = .ok (.iadd, 1) := by decide +kernel
theorem dX8_advance_141 : decode cX8_advance 141 = .ok (.putfield 22, 3) := by decide +kernel
theorem dX8_advance_144 : decode cX8_advance 144 = .ok (.goto (-48), 3) := by decide +kernel
theorem dX8_advance_147 : decode cX8_advance 147 = .ok (.return_, 1) := by decide +kernel
def q8_advance (σ : St) : Option St :=
  lt (up σ 1 2 (σ 1 3)) fun σ1_ =>
  Option.bind (loop1 (fun rec6_ (σ9_ : St) =>
  Option.bind (if (σ9_ 1 2) < (σ9_ 1 1) then (Option.bind (ag σ9_ 2 400 (σ9_ 1 2)) fun x17_ =>
  if x17_ = 32 then (some true) else (some false)) else (some false)) fun t14_ =>
  if t14_ = true then
  lt (up σ9_ 1 2 ((σ9_ 1 2) + 1)) fun σ21_ =>
  rec6_ σ21_
  else (some σ9_)) fuelN σ1_) fun y3_ =>
  lt (up y3_ 1 3 (y3_ 1 2)) fun σ23_ =>
  lt (up σ23_ 1 4 0) fun σ25_ =>
  Option.bind (if (σ25_ 1 2) < (σ25_ 1 1) then (Option.bind (ag σ25_ 2 400 (σ25_ 1 2)) fun x34_ =>
  lt (up σ25_ 1 4 (q8_kindOf x34_)) fun σ36_ =>
  lt (up σ36_ 1 3 ((σ36_ 1 3) + 1)) fun σ38_ =>
  some (σ38_)) else (some (σ25_))) fun y27_ =>
  Option.bind (loop1 (fun rec43_ (σ46_ : St) =>
  Option.bind (if ¬ (σ46_ 1 4) = 3 then (if (σ46_ 1 3) < (σ46_ 1 1) then (Option.bind (ag σ46_ 2 400 (σ46_ 1 3)) fun x55_ =>
  if (q8_kindOf x55_) = (σ46_ 1 4) then (some true) else (some false)) else (some false)) else (some false)) fun t51_ =>
  if t51_ = true then
  lt (up σ46_ 1 3 ((σ46_ 1 3) + 1)) fun σ59_ =>
  rec43_ σ59_
  else (some σ46_)) fuelN y27_) fun y40_ =>
  some y40_
abbrev rm8_advance : Room := { frames := 1, cells := 0, slots := 0, locals := 20 }
set_option maxHeartbeats 4000000 in
set_option maxRecDepth 100000 in
theorem p8_advance {Θ : Tz} {σ : St} {ρ : Option Value × St} (C : Zc Θ cX8_advance 1 RX8 none rm8_advance) (hkd : Θ.2.2.2.2.1 = kdC) {r : St} (hf : q8_advance σ = some r) (hρ : ρ = (none, r)) : Z Θ 1 0 0 (zQ Θ ρ) σ 0 [(0, .ref (zA Θ 1))] [] := by
  unfold q8_advance at hf
  refine z_aload_n C 0 dX8_advance_0 rfl rfl ?_
  refine z_aload_n C 0 dX8_advance_1 rfl rfl ?_
  refine fg8_22 C hkd dX8_advance_2 ?_
  obtain ⟨σ1_, h2_, hf⟩ := lt_ hf
  refine fp8_19 C hkd h2_ dX8_advance_5 ?_
  obtain ⟨y3_, h4_, hf⟩ := ob hf
  suffices K5_ : Z Θ 1 0 0 (zQ Θ ρ) y3_ 46 [(0, .ref (zA Θ 1))] [] by
    refine loop1_Z (P := fun (σ9_ : St) => Z Θ 1 0 0 (zQ Θ ρ) σ9_ 8 [(0, .ref (zA Θ 1))] []) ?_ fuelN σ1_ h4_
    clear h4_
    intro rec6_ σ9_ h7_ h8_
    obtain ⟨t14_, h15_, h8_⟩ := ob h8_
    have K12_ : t14_ = true → Z Θ 1 0 0 (zQ Θ ρ) σ9_ 33 [(0, .ref (zA Θ 1))] [] := by
      intro h20_
      rw [if_pos h20_] at h8_
      refine z_aload_n C 0 dX8_advance_33 rfl rfl ?_
      refine z_dup C dX8_advance_34 rfl ?_
      refine fg8_19 C hkd dX8_advance_35 ?_
      refine z_iconst (v := 1) C dX8_advance_38 ic_1 ?_
      refine z_iadd C dX8_advance_39 ?_
      obtain ⟨σ21_, h22_, h8_⟩ := lt_ h8_
      refine fp8_19 C hkd h22_ dX8_advance_40 ?_
      refine z_goto C 8 dX8_advance_43 (by decide) ?_
      exact h7_ _ h8_
    have K13_ : ¬ (t14_ = true) → Z Θ 1 0 0 (zQ Θ ρ) σ9_ 46 [(0, .ref (zA Θ 1))] [] := by
      intro h20_
      rw [if_neg h20_] at h8_
      cases h8_
      exact K5_
    refine z_aload_n C 0 dX8_advance_8 rfl rfl ?_
    refine fg8_19 C hkd dX8_advance_9 ?_
    refine z_aload_n C 0 dX8_advance_12 rfl rfl ?_
    refine fg8_15 C hkd dX8_advance_13 ?_
    refine c_lt_f C 46 dX8_advance_16 (by decide) (fun h16_ => ?_) (fun h16_ => ?_)
    · rw [if_pos h16_] at h15_
      refine z_aload_n C 0 dX8_advance_19 rfl rfl ?_
      refine fg8_9 C hkd dX8_advance_20 ?_
      refine z_aload_n C 0 dX8_advance_23 rfl rfl ?_
      refine fg8_19 C hkd dX8_advance_24 ?_
      obtain ⟨x17_, h18_, h15_⟩ := ob h15_
      refine z_ag C h18_ (kC_2 hkd) dX8_advance_27 ?_
      refine z_bipush (v := 32) C dX8_advance_28 bp_32 ?_
      refine c_eq_f C 46 dX8_advance_30 (by decide) (fun h19_ => ?_) (fun h19_ => ?_)
      · rw [if_pos h19_] at h15_
        cases h15_
        exact K12_ rfl
      · rw [if_neg h19_] at h15_
        cases h15_
        exact K13_ Bool.false_ne_true
    · rw [if_neg h16_] at h15_
      cases h15_
      exact K13_ Bool.false_ne_true
  refine z_aload_n C 0 dX8_advance_46 rfl rfl ?_
  refine z_aload_n C 0 dX8_advance_47 rfl rfl ?_
  refine fg8_19 C hkd dX8_advance_48 ?_
  obtain ⟨σ23_, h24_, hf⟩ := lt_ hf
  refine fp8_22 C hkd h24_ dX8_advance_51 ?_
  refine z_aload_n C 0 dX8_advance_54 rfl rfl ?_
  refine z_iconst (v := 0) C dX8_advance_55 ic_0 ?_
  obtain ⟨σ25_, h26_, hf⟩ := lt_ hf
  refine fp8_25 C hkd h26_ dX8_advance_56 ?_
  obtain ⟨y27_, h28_, hf⟩ := ob hf
  suffices K29_ : Z Θ 1 0 0 (zQ Θ ρ) y27_ 96 [(0, .ref (zA Θ 1))] [] by
    have K30_ : (σ25_ 1 2) < (σ25_ 1 1) → Z Θ 1 0 0 (zQ Θ ρ) σ25_ 70 [(0, .ref (zA Θ 1))] [] := by
      intro h33_
      rw [if_pos h33_] at h28_
      refine z_aload_n C 0 dX8_advance_70 rfl rfl ?_
      refine z_aload_n C 0 dX8_advance_71 rfl rfl ?_
      refine fg8_9 C hkd dX8_advance_72 ?_
      refine z_aload_n C 0 dX8_advance_75 rfl rfl ?_
      refine fg8_19 C hkd dX8_advance_76 ?_
      obtain ⟨x34_, h35_, h28_⟩ := ob h28_
      refine z_ag C h35_ (kC_2 hkd) dX8_advance_79 ?_
      refine cr8_31 (sign_a := x34_) C hkd  ⟨(Nat.le_of_ble_eq_true rfl), (Nat.le_of_ble_eq_true rfl)⟩ (Nat.le_of_ble_eq_true rfl) ⟨Nat.zero_le _, Nat.zero_le _⟩ dX8_advance_80 ?_
      obtain ⟨σ36_, h37_, h28_⟩ := lt_ h28_
      refine fp8_25 C hkd h37_ dX8_advance_83 ?_
      refine z_aload_n C 0 dX8_advance_86 rfl rfl ?_
      refine z_dup C dX8_advance_87 rfl ?_
      refine fg8_22 C hkd dX8_advance_88 ?_
      refine z_iconst (v := 1) C dX8_advance_91 ic_1 ?_
      refine z_iadd C dX8_advance_92 ?_
      obtain ⟨σ38_, h39_, h28_⟩ := lt_ h28_
      refine fp8_22 C hkd h39_ dX8_advance_93 ?_
      cases h28_
      exact K29_
    have K31_ : ¬ ((σ25_ 1 2) < (σ25_ 1 1)) → Z Θ 1 0 0 (zQ Θ ρ) σ25_ 96 [(0, .ref (zA Θ 1))] [] := by
      intro h33_
      rw [if_neg h33_] at h28_
      cases h28_
      exact K29_
    refine z_aload_n C 0 dX8_advance_59 rfl rfl ?_
    refine fg8_19 C hkd dX8_advance_60 ?_
    refine z_aload_n C 0 dX8_advance_63 rfl rfl ?_
    refine fg8_15 C hkd dX8_advance_64 ?_
    refine c_lt_f C 96 dX8_advance_67 (by decide) (fun h32_ => ?_) (fun h32_ => ?_)
    · exact K30_ h32_
    · exact K31_ h32_
  obtain ⟨y40_, h41_, hf⟩ := ob hf
  suffices K42_ : Z Θ 1 0 0 (zQ Θ ρ) y40_ 147 [(0, .ref (zA Θ 1))] [] by
    refine loop1_Z (P := fun (σ46_ : St) => Z Θ 1 0 0 (zQ Θ ρ) σ46_ 96 [(0, .ref (zA Θ 1))] []) ?_ fuelN y27_ h41_
    clear h41_
    intro rec43_ σ46_ h44_ h45_
    obtain ⟨t51_, h52_, h45_⟩ := ob h45_
    have K49_ : t51_ = true → Z Θ 1 0 0 (zQ Θ ρ) σ46_ 134 [(0, .ref (zA Θ 1))] [] := by
      intro h58_
      rw [if_pos h58_] at h45_
      refine z_aload_n C 0 dX8_advance_134 rfl rfl ?_
      refine z_dup C dX8_advance_135 rfl ?_
      refine fg8_22 C hkd dX8_advance_136 ?_
      refine z_iconst (v := 1) C dX8_advance_139 ic_1 ?_
      refine z_iadd C dX8_advance_140 ?_
      obtain ⟨σ59_, h60_, h45_⟩ := lt_ h45_
      refine fp8_22 C hkd h60_ dX8_advance_141 ?_
      refine z_goto C 96 dX8_advance_144 (by decide) ?_
      exact h44_ _ h45_
    have K50_ : ¬ (t51_ = true) → Z Θ 1 0 0 (zQ Θ ρ) σ46_ 147 [(0, .ref (zA Θ 1))] [] := by
      intro h58_
      rw [if_neg h58_] at h45_
      cases h45_
      exact K42_
    refine z_aload_n C 0 dX8_advance_96 rfl rfl ?_
    refine fg8_25 C hkd dX8_advance_97 ?_
    refine z_iconst (v := 3) C dX8_advance_100 ic_3 ?_
    refine c_ne_f C 147 dX8_advance_101 (by decide) (fun h53_ => ?_) (fun h53_ => ?_)
    · rw [if_pos h53_] at h52_
      refine z_aload_n C 0 dX8_advance_104 rfl rfl ?_
      refine fg8_22 C hkd dX8_advance_105 ?_
      refine z_aload_n C 0 dX8_advance_108 rfl rfl ?_
      refine fg8_15 C hkd dX8_advance_109 ?_
      refine c_lt_f C 147 dX8_advance_112 (by decide) (fun h54_ => ?_) (fun h54_ => ?_)
      · rw [if_pos h54_] at h52_
        refine z_aload_n C 0 dX8_advance_115 rfl rfl ?_
        refine fg8_9 C hkd dX8_advance_116 ?_
        refine z_aload_n C 0 dX8_advance_119 rfl rfl ?_
        refine fg8_22 C hkd dX8_advance_120 ?_
        obtain ⟨x55_, h56_, h52_⟩ := ob h52_
        refine z_ag C h56_ (kC_2 hkd) dX8_advance_123 ?_
        refine cr8_31 (sign_a := x55_) C hkd  ⟨(Nat.le_of_ble_eq_true rfl), (Nat.le_of_ble_eq_true rfl)⟩ (Nat.le_of_ble_eq_true rfl) ⟨Nat.zero_le _, Nat.zero_le _⟩ dX8_advance_124 ?_
        refine z_aload_n C 0 dX8_advance_127 rfl rfl ?_
        refine fg8_25 C hkd dX8_advance_128 ?_
        refine c_eq_f C 147 dX8_advance_131 (by decide) (fun h57_ => ?_) (fun h57_ => ?_)
        · rw [if_pos h57_] at h52_
          cases h52_
          exact K49_ rfl
        · rw [if_neg h57_] at h52_
          cases h52_
          exact K50_ Bool.false_ne_true
      · rw [if_neg h54_] at h52_
        cases h52_
        exact K50_ Bool.false_ne_true
    · rw [if_neg h53_] at h52_
      cases h52_
      exact K50_ Bool.false_ne_true
  cases hf
  subst hρ
  exact z_vret C dX8_advance_147
theorem c8_advance {l : Launch} {kd : List KD} {w : Wp} {σ : St} (hkd : kd = kdC) (hi : zI kd w) {r : St} (hf : q8_advance σ = some r) : zM l kd w yX8_advance cX8_advance 1 none rm8_advance [.ref (w.2.2.1 1)] σ (none, r) := zM_of rfl hi (Nat.le_of_ble_eq_true rfl) (fun Θ hl hw C => by
  obtain ⟨Θ1, Θ2, Θ3, Θ4, Θ5⟩ := Θ
  cases hw
  exact p8_advance C hkd  hf rfl)
/-! LastLoaf$Tape.numberUpTo -/
theorem dX8_numberUpTo_0 : decode cX8_numberUpTo 0 = .ok (.aload_n 0, 1) := by decide +kernel
theorem dX8_numberUpTo_1 : decode cX8_numberUpTo 1 = .ok (.getfield 25, 3) := by decide +kernel
theorem dX8_numberUpTo_4 : decode cX8_numberUpTo 4 = .ok (.iconst 2, 1) := by decide +kernel
theorem dX8_numberUpTo_5 : decode cX8_numberUpTo 5 = .ok (.if_icmp .ne 16, 3) := by decide +kernel
theorem dX8_numberUpTo_8 : decode cX8_numberUpTo 8 = .ok (.aload_n 0, 1) := by decide +kernel
theorem dX8_numberUpTo_9 : decode cX8_numberUpTo 9 = .ok (.getfield 22, 3) := by decide +kernel
theorem dX8_numberUpTo_12 : decode cX8_numberUpTo 12 = .ok (.aload_n 0, 1) := by decide +kernel
theorem dX8_numberUpTo_13 : decode cX8_numberUpTo 13 = .ok (.getfield 19, 3) := by decide +kernel
theorem dX8_numberUpTo_16 : decode cX8_numberUpTo 16 = .ok (.isub, 1) := by decide +kernel
theorem dX8_numberUpTo_17 : decode cX8_numberUpTo 17 = .ok (.iconst 3, 1) := by decide +kernel
theorem dX8_numberUpTo_18 : decode cX8_numberUpTo 18 = .ok (.if_icmp .le 5, 3) := by decide +kernel
theorem dX8_numberUpTo_21 : decode cX8_numberUpTo 21 = .ok (.iconst (-1), 1) := by decide +kernel
theorem dX8_numberUpTo_22 : decode cX8_numberUpTo 22 = .ok (.ireturn, 1) := by decide +kernel
theorem dX8_numberUpTo_23 : decode cX8_numberUpTo 23 = .ok (.iconst 0, 1) := by decide +kernel
theorem dX8_numberUpTo_24 : decode cX8_numberUpTo 24 = .ok (.istore_n 2, 1) := by decide +kernel
theorem dX8_numberUpTo_25 : decode cX8_numberUpTo 25 = .ok (.aload_n 0, 1) := by decide +kernel
theorem dX8_numberUpTo_26 : decode cX8_numberUpTo 26 = .ok (.getfield 19, 3) := by decide +kernel
theorem dX8_numberUpTo_29 : decode cX8_numberUpTo 29 = .ok (.istore_n 3, 1) := by decide +kernel
theorem dX8_numberUpTo_30 : decode cX8_numberUpTo 30 = .ok (.iload_n 3, 1) := by decide +kernel
theorem dX8_numberUpTo_31 : decode cX8_numberUpTo 31 = .ok (.aload_n 0, 1) := by decide +kernel
theorem dX8_numberUpTo_32 : decode cX8_numberUpTo 32 = .ok (.getfield 22, 3) := by decide +kernel
theorem dX8_numberUpTo_35 : decode cX8_numberUpTo 35 = .ok (.if_icmp .ge 24, 3) := by decide +kernel
theorem dX8_numberUpTo_38 : decode cX8_numberUpTo 38 = .ok (.iload_n 2, 1) := by decide +kernel
theorem dX8_numberUpTo_39 : decode cX8_numberUpTo 39 = .ok (.bipush 10, 2) := by decide +kernel
theorem dX8_numberUpTo_41 : decode cX8_numberUpTo 41 = .ok (.imul, 1) := by decide +kernel
theorem dX8_numberUpTo_42 : decode cX8_numberUpTo 42 = .ok (.aload_n 0, 1) := by decide +kernel
theorem dX8_numberUpTo_43 : decode cX8_numberUpTo 43 = .ok (.getfield 9, 3) := by decide +kernel
theorem dX8_numberUpTo_46 : decode cX8_numberUpTo 46 = .ok (.iload_n 3, 1) := by decide +kernel
theorem dX8_numberUpTo_47 : decode cX8_numberUpTo 47 = .ok (.iaload, 1) := by decide +kernel
theorem dX8_numberUpTo_48 : decode cX8_numberUpTo 48 = .ok (.iadd, 1) := by decide +kernel
theorem dX8_numberUpTo_49 : decode cX8_numberUpTo 49 = .ok (.bipush 48, 2) := by decide +kernel
theorem dX8_numberUpTo_51 : decode cX8_numberUpTo 51 = .ok (.isub, 1) := by decide +kernel
theorem dX8_numberUpTo_52 : decode cX8_numberUpTo 52 = .ok (.istore_n 2, 1) := by decide +kernel
theorem dX8_numberUpTo_53 : decode cX8_numberUpTo 53 = .ok (.iinc 3 1, 3) := by decide +kernel
theorem dX8_numberUpTo_56 : decode cX8_numberUpTo 56 = .ok (.goto (-26), 3) := by decide +kernel
theorem dX8_numberUpTo_59 : decode cX8_numberUpTo 59 = .ok (.iload_n 2, 1) := by decide +kernel
theorem dX8_numberUpTo_60 : decode cX8_numberUpTo 60 = .ok (.iload_n 1, 1) := by decide +kernel
theorem dX8_numberUpTo_61 : decode cX8_numberUpTo 61 = .ok (.if_icmp .gt 7, 3) := by decide +kernel
theorem dX8_numberUpTo_64 : decode cX8_numberUpTo 64 = .ok (.iload_n 2, 1) := by decide +kernel
theorem dX8_numberUpTo_65 : decode cX8_numberUpTo 65 = .ok (.goto 4, 3) := by decide +kernel
theorem dX8_numberUpTo_68 : decode cX8_numberUpTo 68 = .ok (.iconst (-1), 1) := by decide +kernel
theorem dX8_numberUpTo_69 : decode cX8_numberUpTo 69 = .ok (.ireturn, 1) := by decide +kernel
def q8_numberUpTo (σ : St) (most_a : Int32) : Option Int32 :=
  if (¬ (σ 1 4) = 2) ∨ (3 < ((σ 1 3) - (σ 1 2))) then (some (-1)) else
  lt (σ 1 2) fun i6_ =>
  Option.bind (loop2 (fun rec11_ (number14_ : Int32) (i15_ : Int32) =>
  if i15_ < (σ 1 3) then
  Option.bind (ag σ 2 400 i15_) fun x22_ =>
  lt (((number14_ * 10) + x22_) - 48) fun number24_ =>
  lt (i15_ + 1) fun i26_ =>
  rec11_ number24_ i26_
  else (some (number14_, i15_))) fuelN (0 : Int32) i6_) fun y8_ =>
  some (if y8_.1 ≤ most_a then y8_.1 else (-1))
abbrev rm8_numberUpTo : Room := { frames := 0, cells := 0, slots := 0, locals := 0 }
set_option maxHeartbeats 4000000 in
set_option maxRecDepth 100000 in
theorem p8_numberUpTo {Θ : Tz} {σ : St} {ρ : Option Value × St} (C : Zc Θ cX8_numberUpTo 4 RX8 (some .int) rm8_numberUpTo) (hkd : Θ.2.2.2.2.1 = kdC) {most_a : Int32} {r : Int32} (hf : q8_numberUpTo σ most_a = some r) (hρ : ρ = (some (.int r), σ)) : Z Θ 4 0 0 (zQ Θ ρ) σ 0 [(0, .ref (zA Θ 1)), (1, .int most_a)] [] := by
  unfold q8_numberUpTo at hf
  have K1_ : (¬ (σ 1 4) = 2) ∨ (3 < ((σ 1 3) - (σ 1 2))) → Z Θ 4 0 0 (zQ Θ ρ) σ 21 [(0, .ref (zA Θ 1)), (1, .int most_a)] [] := by
    intro h5_
    rw [if_pos h5_] at hf
    refine z_iconst (v := (-1)) C dX8_numberUpTo_21 ic_m1 ?_
    cases hf
    subst hρ
    exact z_iret C dX8_numberUpTo_22
  suffices K2_ : ¬ ((¬ (σ 1 4) = 2) ∨ (3 < ((σ 1 3) - (σ 1 2)))) → Z Θ 4 0 0 (zQ Θ ρ) σ 23 [(0, .ref (zA Θ 1)), (1, .int most_a)] [] by
    refine z_aload_n C 0 dX8_numberUpTo_0 rfl rfl ?_
    refine fg8_25 C hkd dX8_numberUpTo_1 ?_
    refine z_iconst (v := 2) C dX8_numberUpTo_4 ic_2 ?_
    refine c_ne_t C 21 dX8_numberUpTo_5 (by decide) (fun h3_ => ?_) (fun h3_ => ?_)
    · exact K1_ (Or.inl h3_)
    · refine z_aload_n C 0 dX8_numberUpTo_8 rfl rfl ?_
      refine fg8_22 C hkd dX8_numberUpTo_9 ?_
      refine z_aload_n C 0 dX8_numberUpTo_12 rfl rfl ?_
      refine fg8_19 C hkd dX8_numberUpTo_13 ?_
      refine z_isub C dX8_numberUpTo_16 ?_
      refine z_iconst (v := 3) C dX8_numberUpTo_17 ic_3 ?_
      refine c_gt_f C 23 dX8_numberUpTo_18 (by decide) (fun h4_ => ?_) (fun h4_ => ?_)
      · exact K1_ (Or.inr h4_)
      · exact K2_ (fun n => n.elim h3_ h4_)
  intro h5_
  rw [if_neg h5_] at hf
  refine z_iconst (v := 0) C dX8_numberUpTo_23 ic_0 ?_
  refine z_istN C dX8_numberUpTo_24 rfl rfl (Nat.le_of_ble_eq_true rfl) rfl ?_
  refine z_aload_n C 1 dX8_numberUpTo_25 rfl rfl ?_
  refine fg8_19 C hkd dX8_numberUpTo_26 ?_
  obtain ⟨i6_, h7_, hf⟩ := lt_ hf
  refine z_istN C dX8_numberUpTo_29 h7_ rfl (Nat.le_of_ble_eq_true rfl) rfl ?_
  refine Z.sub [2, 3, 1, 0] rfl ?_
  obtain ⟨y8_, h9_, hf⟩ := ob hf
  suffices K10_ : Z Θ 4 0 0 (zQ Θ ρ) σ 59 [(0, .ref (zA Θ 1)), (1, .int most_a), (2, .int y8_.1), (3, .int y8_.2)] [] by
    refine loop2_Z (P := fun (number14_ : Int32) (i15_ : Int32) => Z Θ 4 0 0 (zQ Θ ρ) σ 30 [(0, .ref (zA Θ 1)), (1, .int most_a), (2, .int number14_), (3, .int i15_)] []) ?_ fuelN (0 : Int32) i6_ h9_
    clear h9_
    intro rec11_ number14_ i15_ h12_ h13_
    have K18_ : i15_ < (σ 1 3) → Z Θ 4 0 0 (zQ Θ ρ) σ 38 [(0, .ref (zA Θ 1)), (1, .int most_a), (2, .int number14_), (3, .int i15_)] [] := by
      intro h21_
      rw [if_pos h21_] at h13_
      refine z_iload_n C 2 dX8_numberUpTo_38 rfl rfl ?_
      refine z_bipush (v := 10) C dX8_numberUpTo_39 bp_10 ?_
      refine z_imul C dX8_numberUpTo_41 ?_
      refine z_aload_n C 0 dX8_numberUpTo_42 rfl rfl ?_
      refine fg8_9 C hkd dX8_numberUpTo_43 ?_
      refine z_iload_n C 3 dX8_numberUpTo_46 rfl rfl ?_
      obtain ⟨x22_, h23_, h13_⟩ := ob h13_
      refine z_ag C h23_ (kC_2 hkd) dX8_numberUpTo_47 ?_
      refine z_iadd C dX8_numberUpTo_48 ?_
      refine z_bipush (v := 48) C dX8_numberUpTo_49 bp_48 ?_
      refine z_isub C dX8_numberUpTo_51 ?_
      obtain ⟨number24_, h25_, h13_⟩ := lt_ h13_
      refine z_istN C dX8_numberUpTo_52 h25_ rfl (Nat.le_of_ble_eq_true rfl) rfl ?_
      obtain ⟨i26_, h27_, h13_⟩ := lt_ h13_
      refine z_inc C 3 dX8_numberUpTo_53 rfl ic_1 h27_ (Nat.le_of_ble_eq_true rfl) rfl ?_
      refine z_goto C 30 dX8_numberUpTo_56 (by decide) ?_
      refine Z.sub [2, 3, 1, 0] rfl ?_
      exact h12_ _ _ h13_
    have K19_ : ¬ (i15_ < (σ 1 3)) → Z Θ 4 0 0 (zQ Θ ρ) σ 59 [(0, .ref (zA Θ 1)), (1, .int most_a), (2, .int number14_), (3, .int i15_)] [] := by
      intro h21_
      rw [if_neg h21_] at h13_
      cases h13_
      exact K10_
    refine z_iload_n C 3 dX8_numberUpTo_30 rfl rfl ?_
    refine z_aload_n C 0 dX8_numberUpTo_31 rfl rfl ?_
    refine fg8_22 C hkd dX8_numberUpTo_32 ?_
    refine c_lt_f C 59 dX8_numberUpTo_35 (by decide) (fun h20_ => ?_) (fun h20_ => ?_)
    · exact K18_ h20_
    · exact K19_ h20_
  suffices K28_ : Z Θ 4 0 0 (zQ Θ ρ) σ 69 [(0, .ref (zA Θ 1)), (1, .int most_a), (2, .int y8_.1), (3, .int y8_.2)] [.int (if y8_.1 ≤ most_a then y8_.1 else (-1))] by
    have K29_ : y8_.1 ≤ most_a → Z Θ 4 0 0 (zQ Θ ρ) σ 64 [(0, .ref (zA Θ 1)), (1, .int most_a), (2, .int y8_.1), (3, .int y8_.2)] [] := by
      intro h32_
      rw [if_pos h32_] at K28_
      refine z_iload_n C 2 dX8_numberUpTo_64 rfl rfl ?_
      refine z_goto C 69 dX8_numberUpTo_65 (by decide) ?_
      exact K28_
    have K30_ : ¬ (y8_.1 ≤ most_a) → Z Θ 4 0 0 (zQ Θ ρ) σ 68 [(0, .ref (zA Θ 1)), (1, .int most_a), (2, .int y8_.1), (3, .int y8_.2)] [] := by
      intro h32_
      rw [if_neg h32_] at K28_
      refine z_iconst (v := (-1)) C dX8_numberUpTo_68 ic_m1 ?_
      exact K28_
    refine z_iload_n C 2 dX8_numberUpTo_59 rfl rfl ?_
    refine z_iload_n C 1 dX8_numberUpTo_60 rfl rfl ?_
    refine c_le_f C 68 dX8_numberUpTo_61 (by decide) (fun h31_ => ?_) (fun h31_ => ?_)
    · exact K29_ h31_
    · exact K30_ h31_
  cases hf
  subst hρ
  exact z_iret C dX8_numberUpTo_69
theorem c8_numberUpTo {l : Launch} {kd : List KD} {w : Wp} {σ : St} {most_a : Int32} (hkd : kd = kdC) (hi : zI kd w) {r : Int32} (hf : q8_numberUpTo σ most_a = some r) : zM l kd w yX8_numberUpTo cX8_numberUpTo 4 (some .int) rm8_numberUpTo [.ref (w.2.2.1 1), .int most_a] σ (some (.int r), σ) := zM_of rfl hi (Nat.le_of_ble_eq_true rfl) (fun Θ hl hw C => by
  obtain ⟨Θ1, Θ2, Θ3, Θ4, Θ5⟩ := Θ
  cases hw
  exact p8_numberUpTo C hkd  hf rfl)
/-! LastLoaf$Reader.numberFollows -/
theorem w_1_236 : Cond.fieldLink "LastLoaf$Reader" (22 : Nat) "LastLoaf$Reader" "tape" "LLastLoaf$Tape;" ∈ TB := tb_in (lwt_1 (List.mem_of_getElem? (i := 236) (by decide +kernel))) rfl
theorem fg6_22 {Θ : Tz} {cc : ByteArray} {nL kc ks : Nat} {ret : Option FieldType} {rm : Room} {Q : State → Prop} {σ : St} {pc : Nat} {lv : List (Nat × Value)} {st : List Value} (C : Zc Θ cc nL RX6 ret rm) (hkd : Θ.2.2.2.2.1 = kdC) (hd : decode cc pc = .ok (.getfield 22, 3)) (kk : Z Θ nL kc ks Q σ (pc + 3) lv (.ref (zA Θ 1) :: st)) : Z Θ nL kc ks Q σ pc lv (.ref (zA Θ 3) :: st) := z_get C inT6 3 (kC_3 hkd) rfl 0 (by decide) w_1_236 rfl hd kk
theorem w_4_178 : Cond.code ({ cls := "LastLoaf$Tape", name := "advance", desc := "()V" } : MethodName) prog_10_method_4_code (1 : Nat) (Option.none : Option ClassFile.FieldType) ∈ TB := tb_in (lwt_4 (List.mem_of_getElem? (i := 178) (by decide +kernel))) rfl
theorem w_5_7 : Cond.methodLink "LastLoaf$Reader" (50 : Nat) ({ cls := "LastLoaf$Tape", name := "advance", desc := "()V" } : MethodName) ∈ TB := tb_in (lwt_5 (List.mem_of_getElem? (i := 7) (by decide +kernel))) rfl
theorem w_4_176 : Cond.instanceMethod ({ cls := "LastLoaf$Tape", name := "advance", desc := "()V" } : MethodName) ∈ TB := tb_in (lwt_4 (List.mem_of_getElem? (i := 176) (by decide +kernel))) rfl
theorem w_4_177 : Cond.selects "LastLoaf$Tape" ({ cls := "LastLoaf$Tape", name := "advance", desc := "()V" } : MethodName) ({ cls := "LastLoaf$Tape", name := "advance", desc := "()V" } : MethodName) ∈ TB := tb_in (lwt_4 (List.mem_of_getElem? (i := 177) (by decide +kernel))) rfl
theorem cr6_50 {Θ : Tz} {cc : ByteArray} {nL kc ks : Nat} {ret : Option FieldType} {rm : Room} {Q : State → Prop} {σ : St} {pc : Nat} {lv : List (Nat × Value)} {st : List Value} (C : Zc Θ cc nL RX6 ret rm) (hkd : Θ.2.2.2.2.1 = kdC) {r : St} (hx : q8_advance σ = some r) (hrm : rm8_advance.frames + 1 ≤ rm.frames ∧ 8 + (1 + 11) + rm8_advance.locals ≤ rm.locals) (hcat : (st.map fun v => v.category).sum ≤ 8) (hk : kc ≤ rm.cells ∧ ks ≤ rm.slots) (hd : decode cc pc = .ok (.invokevirtual 50, 3)) (kk : Z Θ nL kc ks Q r (pc + 3) lv st) : Z Θ nL kc ks Q σ pc lv (.ref (zA Θ 1) :: st) := z_callV C 1 [] (none, r) 0 (kC_1 hkd) rfl (c8_advance hkd (zc_inj C) hx) w_4_178 w_5_7 w_4_176 w_4_177 w_1_2 ⟨rfl, rfl, hrm.1, hrm.2⟩ (by decide +kernel) rfl rfl hcat hk hd kk
theorem w_5_16 : Cond.code ({ cls := "LastLoaf$Tape", name := "numberUpTo", desc := "(I)I" } : MethodName) prog_10_method_9_code (4 : Nat) (Option.some ClassFile.FieldType.int) ∈ TB := tb_in (lwt_5 (List.mem_of_getElem? (i := 16) (by decide +kernel))) rfl
theorem w_5_13 : Cond.methodLink "LastLoaf$Reader" (94 : Nat) ({ cls := "LastLoaf$Tape", name := "numberUpTo", desc := "(I)I" } : MethodName) ∈ TB := tb_in (lwt_5 (List.mem_of_getElem? (i := 13) (by decide +kernel))) rfl
theorem w_5_14 : Cond.instanceMethod ({ cls := "LastLoaf$Tape", name := "numberUpTo", desc := "(I)I" } : MethodName) ∈ TB := tb_in (lwt_5 (List.mem_of_getElem? (i := 14) (by decide +kernel))) rfl
theorem w_5_15 : Cond.selects "LastLoaf$Tape" ({ cls := "LastLoaf$Tape", name := "numberUpTo", desc := "(I)I" } : MethodName) ({ cls := "LastLoaf$Tape", name := "numberUpTo", desc := "(I)I" } : MethodName) ∈ TB := tb_in (lwt_5 (List.mem_of_getElem? (i := 15) (by decide +kernel))) rfl
theorem cr6_94 {Θ : Tz} {cc : ByteArray} {nL kc ks : Nat} {ret : Option FieldType} {rm : Room} {Q : State → Prop} {σ : St} {pc : Nat} {lv : List (Nat × Value)} {st : List Value} (C : Zc Θ cc nL RX6 ret rm) (hkd : Θ.2.2.2.2.1 = kdC) {most_a : Int32} {r : Int32} (hx : q8_numberUpTo σ most_a = some r) (hrm : rm8_numberUpTo.frames + 1 ≤ rm.frames ∧ 8 + (4 + 11) + rm8_numberUpTo.locals ≤ rm.locals) (hcat : (st.map fun v => v.category).sum ≤ 8) (hk : kc ≤ rm.cells ∧ ks ≤ rm.slots) (hd : decode cc pc = .ok (.invokevirtual 94, 3)) (kk : Z Θ nL kc ks Q σ (pc + 3) lv (.int r :: st)) : Z Θ nL kc ks Q σ pc lv (.int most_a :: .ref (zA Θ 1) :: st) := z_callV C 1 [.int most_a] (some (.int r), σ) 1 (kC_1 hkd) rfl (c8_numberUpTo (most_a := most_a) hkd (zc_inj C) hx) w_5_16 w_5_13 w_5_14 w_5_15 w_1_2 ⟨rfl, rfl, hrm.1, hrm.2⟩ (by decide +kernel) rfl rfl hcat hk hd kk
theorem dX6_numberFollows_0 : decode cX6_numberFollows 0 = .ok (.aload_n 0, 1) := by decide +kernel
theorem dX6_numberFollows_1 : decode cX6_numberFollows 1 = .ok (.getfield 22, 3) := by decide +kernel
theorem dX6_numberFollows_4 : decode cX6_numberFollows 4 = .ok (.invokevirtual 50, 3) := by decide +kernel
theorem dX6_numberFollows_7 : decode cX6_numberFollows 7 = .ok (.aload_n 0, 1) := by decide +kernel
theorem dX6_numberFollows_8 : decode cX6_numberFollows 8 = .ok (.getfield 22, 3) := by decide +kernel
theorem dX6_numberFollows_11 : decode cX6_numberFollows 11 = .ok (.iload_n 1, 1) := by decide +kernel
theorem dX6_numberFollows_12 : decode cX6_numberFollows 12 = .ok (.invokevirtual 94, 3) := by decide +kernel
theorem dX6_numberFollows_15 : decode cX6_numberFollows 15 = .ok (.istore_n 2, 1) := by decide +kernel
theorem dX6_numberFollows_16 : decode cX6_numberFollows 16 = .ok (.iload_n 2, 1) := by decide +kernel
theorem dX6_numberFollows_17 : decode cX6_numberFollows 17 = .ok (.iconst (-1), 1) := by decide +kernel
theorem dX6_numberFollows_18 : decode cX6_numberFollows 18 = .ok (.if_icmp .eq 10, 3) := by decide +kernel
theorem dX6_numberFollows_21 : decode cX6_numberFollows 21 = .ok (.aload_n 0, 1) := by decide +kernel
theorem dX6_numberFollows_22 : decode cX6_numberFollows 22 = .ok (.getfield 22, 3) := by decide +kernel
theorem dX6_numberFollows_25 : decode cX6_numberFollows 25 = .ok (.invokevirtual 50, 3) := by decide +kernel
theorem dX6_numberFollows_28 : decode cX6_numberFollows 28 = .ok (.iload_n 2, 1) := by decide +kernel
theorem dX6_numberFollows_29 : decode cX6_numberFollows 29 = .ok (.ireturn, 1) := by decide +kernel
def q6_numberFollows (σ : St) (most_a : Int32) : Option (Int32 × St) :=
  Option.bind (q8_advance σ) fun x1_ =>
  Option.bind (q8_numberUpTo x1_ most_a) fun x3_ =>
  Option.bind (if ¬ x3_ = (-1) then (Option.bind (q8_advance x1_) fun x12_ =>
  some (x12_)) else (some (x1_))) fun y5_ =>
  some (x3_, y5_)
abbrev rm6_numberFollows : Room := { frames := 2, cells := 0, slots := 0, locals := 40 }
set_option maxHeartbeats 4000000 in
set_option maxRecDepth 100000 in
theorem p6_numberFollows {Θ : Tz} {σ : St} {ρ : Option Value × St} (C : Zc Θ cX6_numberFollows 3 RX6 (some .int) rm6_numberFollows) (hkd : Θ.2.2.2.2.1 = kdC) {most_a : Int32} {r : (Int32 × St)} (hf : q6_numberFollows σ most_a = some r) (hρ : ρ = (some (.int r.1), r.2)) : Z Θ 3 0 0 (zQ Θ ρ) σ 0 [(0, .ref (zA Θ 3)), (1, .int most_a)] [] := by
  unfold q6_numberFollows at hf
  refine z_aload_n C 0 dX6_numberFollows_0 rfl rfl ?_
  refine fg6_22 C hkd dX6_numberFollows_1 ?_
  obtain ⟨x1_, h2_, hf⟩ := ob hf
  refine cr6_50 C hkd  h2_ ⟨(Nat.le_of_ble_eq_true rfl), (Nat.le_of_ble_eq_true rfl)⟩ (Nat.le_of_ble_eq_true rfl) ⟨Nat.zero_le _, Nat.zero_le _⟩ dX6_numberFollows_4 ?_
  refine z_aload_n C 0 dX6_numberFollows_7 rfl rfl ?_
  refine fg6_22 C hkd dX6_numberFollows_8 ?_
  refine z_iload_n C 1 dX6_numberFollows_11 rfl rfl ?_
  obtain ⟨x3_, h4_, hf⟩ := ob hf
  refine cr6_94 (most_a := most_a) C hkd  h4_ ⟨(Nat.le_of_ble_eq_true rfl), (Nat.le_of_ble_eq_true rfl)⟩ (Nat.le_of_ble_eq_true rfl) ⟨Nat.zero_le _, Nat.zero_le _⟩ dX6_numberFollows_12 ?_
  refine z_istN C dX6_numberFollows_15 rfl rfl (Nat.le_of_ble_eq_true rfl) rfl ?_
  obtain ⟨y5_, h6_, hf⟩ := ob hf
  suffices K7_ : Z Θ 3 0 0 (zQ Θ ρ) y5_ 28 [(0, .ref (zA Θ 3)), (1, .int most_a), (2, .int x3_)] [] by
    have K8_ : ¬ x3_ = (-1) → Z Θ 3 0 0 (zQ Θ ρ) x1_ 21 [(2, .int x3_), (0, .ref (zA Θ 3)), (1, .int most_a)] [] := by
      intro h11_
      rw [if_pos h11_] at h6_
      refine z_aload_n C 1 dX6_numberFollows_21 rfl rfl ?_
      refine fg6_22 C hkd dX6_numberFollows_22 ?_
      obtain ⟨x12_, h13_, h6_⟩ := ob h6_
      refine cr6_50 C hkd  h13_ ⟨(Nat.le_of_ble_eq_true rfl), (Nat.le_of_ble_eq_true rfl)⟩ (Nat.le_of_ble_eq_true rfl) ⟨Nat.zero_le _, Nat.zero_le _⟩ dX6_numberFollows_25 ?_
      cases h6_
      refine Z.sub [1, 2, 0] rfl ?_
      exact K7_
    have K9_ : ¬ (¬ x3_ = (-1)) → Z Θ 3 0 0 (zQ Θ ρ) x1_ 28 [(2, .int x3_), (0, .ref (zA Θ 3)), (1, .int most_a)] [] := by
      intro h11_
      rw [if_neg h11_] at h6_
      cases h6_
      refine Z.sub [1, 2, 0] rfl ?_
      exact K7_
    refine z_iload_n C 0 dX6_numberFollows_16 rfl rfl ?_
    refine z_iconst (v := (-1)) C dX6_numberFollows_17 ic_m1 ?_
    refine c_ne_f C 28 dX6_numberFollows_18 (by decide) (fun h10_ => ?_) (fun h10_ => ?_)
    · exact K8_ h10_
    · exact K9_ h10_
  refine z_iload_n C 2 dX6_numberFollows_28 rfl rfl ?_
  cases hf
  subst hρ
  exact z_iret C dX6_numberFollows_29
theorem c6_numberFollows {l : Launch} {kd : List KD} {w : Wp} {σ : St} {most_a : Int32} (hkd : kd = kdC) (hi : zI kd w) {r : (Int32 × St)} (hf : q6_numberFollows σ most_a = some r) : zM l kd w yX6_numberFollows cX6_numberFollows 3 (some .int) rm6_numberFollows [.ref (w.2.2.1 3), .int most_a] σ (some (.int r.1), r.2) := zM_of rfl hi (Nat.le_of_ble_eq_true rfl) (fun Θ hl hw C => by
  obtain ⟨Θ1, Θ2, Θ3, Θ4, Θ5⟩ := Θ
  cases hw
  exact p6_numberFollows C hkd  hf rfl)
/-! LastLoaf$Tape.isWord -/
theorem w_4_195 : Cond.methodLink "LastLoaf$Tape" (35 : Nat) ({ cls := "java/lang/String", name := "length", desc := "()I" } : MethodName) ∈ TB := tb_in (lwt_4 (List.mem_of_getElem? (i := 195) (by decide +kernel))) rfl
theorem w_4_205 : Cond.methodLink "LastLoaf$Tape" (40 : Nat) ({ cls := "java/lang/String", name := "charAt", desc := "(I)C" } : MethodName) ∈ TB := tb_in (lwt_4 (List.mem_of_getElem? (i := 205) (by decide +kernel))) rfl
theorem dX8_isWord_0 : decode cX8_isWord 0 = .ok (.aload_n 0, 1) := by decide +kernel
theorem dX8_isWord_1 : decode cX8_isWord 1 = .ok (.getfield 25, 3) := by decide +kernel
theorem dX8_isWord_4 : decode cX8_isWord 4 = .ok (.iconst 1, 1) := by decide +kernel
theorem dX8_isWord_5 : decode cX8_isWord 5 = .ok (.if_icmp .ne 19, 3) := by decide +kernel
theorem dX8_isWord_8 : decode cX8_isWord 8 = .ok (.aload_n 0, 1) := by decide +kernel
theorem dX8_isWord_9 : decode cX8_isWord 9 = .ok (.getfield 22, 3) := by decide +kernel
theorem dX8_isWord_12 : decode cX8_isWord 12 = .ok (.aload_n 0, 1) := by decide +kernel
theorem dX8_isWord_13 : decode cX8_isWord 13 = .ok (.getfield 19, 3) := by decide +kernel
theorem dX8_isWord_16 : decode cX8_isWord 16 = .ok (.isub, 1) := by decide +kernel
theorem dX8_isWord_17 : decode cX8_isWord 17 = .ok (.aload_n 1, 1) := by decide +kernel
theorem dX8_isWord_18 : decode cX8_isWord 18 = .ok (.invokevirtual 35, 3) := by decide +kernel
theorem dX8_isWord_21 : decode cX8_isWord 21 = .ok (.if_icmp .eq 5, 3) := by decide +kernel
theorem dX8_isWord_24 : decode cX8_isWord 24 = .ok (.iconst 0, 1) := by decide +kernel
theorem dX8_isWord_25 : decode cX8_isWord 25 = .ok (.ireturn, 1) := by decide +kernel
theorem dX8_isWord_26 : decode cX8_isWord 26 = .ok (.iconst 0, 1) := by decide +kernel
theorem dX8_isWord_27 : decode cX8_isWord 27 = .ok (.istore_n 2, 1) := by decide +kernel
theorem dX8_isWord_28 : decode cX8_isWord 28 = .ok (.iload_n 2, 1) := by decide +kernel
theorem dX8_isWord_29 : decode cX8_isWord 29 = .ok (.aload_n 1, 1) := by decide +kernel
theorem dX8_isWord_30 : decode cX8_isWord 30 = .ok (.invokevirtual 35, 3) := by decide +kernel
theorem dX8_isWord_33 : decode cX8_isWord 33 = .ok (.if_icmp .ge 30, 3) := by decide +kernel
theorem dX8_isWord_36 : decode cX8_isWord 36 = .ok (.aload_n 0, 1) := by decide +kernel
theorem dX8_isWord_37 : decode cX8_isWord 37 = .ok (.getfield 9, 3) := by decide +kernel
theorem dX8_isWord_40 : decode cX8_isWord 40 = .ok (.aload_n 0, 1) := by decide +kernel
theorem dX8_isWord_41 : decode cX8_isWord 41 = .ok (.getfield 19, 3) := by decide +kernel
theorem dX8_isWord_44 : decode cX8_isWord 44 = .ok (.iload_n 2, 1) := by decide +kernel
theorem dX8_isWord_45 : decode cX8_isWord 45 = .ok (.iadd, 1) := by decide +kernel
theorem dX8_isWord_46 : decode cX8_isWord 46 = .ok (.iaload, 1) := by decide +kernel
theorem dX8_isWord_47 : decode cX8_isWord 47 = .ok (.aload_n 1, 1) := by decide +kernel
theorem dX8_isWord_48 : decode cX8_isWord 48 = .ok (.iload_n 2, 1) := by decide +kernel
theorem dX8_isWord_49 : decode cX8_isWord 49 = .ok (.invokevirtual 40, 3) := by decide +kernel
theorem dX8_isWord_52 : decode cX8_isWord 52 = .ok (.if_icmp .eq 5, 3) := by decide +kernel
theorem dX8_isWord_55 : decode cX8_isWord 55 = .ok (.iconst 0, 1) := by decide +kernel
theorem dX8_isWord_56 : decode cX8_isWord 56 = .ok (.ireturn, 1) := by decide +kernel
theorem dX8_isWord_57 : decode cX8_isWord 57 = .ok (.iinc 2 1, 3) := by decide +kernel
theorem dX8_isWord_60 : decode cX8_isWord 60 = .ok (.goto (-32), 3) := by decide +kernel
theorem dX8_isWord_63 : decode cX8_isWord 63 = .ok (.iconst 1, 1) := by decide +kernel
theorem dX8_isWord_64 : decode cX8_isWord 64 = .ok (.ireturn, 1) := by decide +kernel
def q8_isWord (σ : St) (word_a : Nat) : Option Bool :=
  Option.bind (if ¬ (σ 1 4) = 1 then (some true) else (if ¬ ((σ 1 3) - (σ 1 2)) = (slen word_a) then (some true) else (some false))) fun t3_ =>
  if t3_ = true then (some false) else
  Option.bind (loop1 (fun rec11_ (i14_ : Int32) =>
  if i14_ < (slen word_a) then
  Option.bind (ag σ 2 400 ((σ 1 2) + i14_)) fun x23_ =>
  Option.bind (schr word_a i14_) fun x25_ =>
  if ¬ x23_ = x25_ then (some (.inl false)) else
  lt (i14_ + 1) fun i29_ =>
  rec11_ i29_
  else (some (.inr i14_))) fuelN (0 : Int32)) fun y8_ =>
  Sum.elim (fun x9 => some x9) (fun y8_r =>
  some true) y8_
abbrev rm8_isWord : Room := { frames := 4, cells := 0, slots := 0, locals := 85 }
set_option maxHeartbeats 4000000 in
set_option maxRecDepth 100000 in
theorem p8_isWord {Θ : Tz} {σ : St} {ρ : Option Value × St} (C : Zc Θ cX8_isWord 3 RX8 (some .boolean) rm8_isWord) (hkd : Θ.2.2.2.2.1 = kdC) {word_a : Nat} (h_word : word_a < 46) {r : Bool} (hf : q8_isWord σ word_a = some r) (hρ : ρ = (some (.int (b2i r)), σ)) : Z Θ 3 0 0 (zQ Θ ρ) σ 0 [(0, .ref (zA Θ 1)), (1, .ref (zK Θ word_a))] [] := by
  unfold q8_isWord at hf
  obtain ⟨t3_, h4_, hf⟩ := ob hf
  have K1_ : t3_ = true → Z Θ 3 0 0 (zQ Θ ρ) σ 24 [(0, .ref (zA Θ 1)), (1, .ref (zK Θ word_a))] [] := by
    intro h7_
    rw [if_pos h7_] at hf
    refine z_iconst (v := 0) C dX8_isWord_24 ic_0 ?_
    cases hf
    subst hρ
    exact z_zret C (b2i_narrow _) dX8_isWord_25
  suffices K2_ : ¬ (t3_ = true) → Z Θ 3 0 0 (zQ Θ ρ) σ 26 [(0, .ref (zA Θ 1)), (1, .ref (zK Θ word_a))] [] by
    refine z_aload_n C 0 dX8_isWord_0 rfl rfl ?_
    refine fg8_25 C hkd dX8_isWord_1 ?_
    refine z_iconst (v := 1) C dX8_isWord_4 ic_1 ?_
    refine c_ne_t C 24 dX8_isWord_5 (by decide) (fun h5_ => ?_) (fun h5_ => ?_)
    · rw [if_pos h5_] at h4_
      cases h4_
      exact K1_ rfl
    · rw [if_neg h5_] at h4_
      refine z_aload_n C 0 dX8_isWord_8 rfl rfl ?_
      refine fg8_22 C hkd dX8_isWord_9 ?_
      refine z_aload_n C 0 dX8_isWord_12 rfl rfl ?_
      refine fg8_19 C hkd dX8_isWord_13 ?_
      refine z_isub C dX8_isWord_16 ?_
      refine z_aload_n C 1 dX8_isWord_17 rfl rfl ?_
      refine z_callK (i := word_a) C h_word rfl [] (some (.int (slen word_a)), σ) 0 (cJ_length (zc_inj C) h_word) w_4_198 w_4_195 w_4_196 w_4_197 w_1_16 ⟨rfl, rfl, (Nat.le_of_ble_eq_true rfl), (Nat.le_of_ble_eq_true rfl)⟩ (by decide +kernel) rfl rfl (Nat.le_of_ble_eq_true rfl) ⟨Nat.zero_le _, Nat.zero_le _⟩ dX8_isWord_18 ?_
      refine c_ne_f C 26 dX8_isWord_21 (by decide) (fun h6_ => ?_) (fun h6_ => ?_)
      · rw [if_pos h6_] at h4_
        cases h4_
        exact K1_ rfl
      · rw [if_neg h6_] at h4_
        cases h4_
        exact K2_ Bool.false_ne_true
  intro h7_
  rw [if_neg h7_] at hf
  refine z_iconst (v := 0) C dX8_isWord_26 ic_0 ?_
  refine z_istN C dX8_isWord_27 rfl rfl (Nat.le_of_ble_eq_true rfl) rfl ?_
  refine Z.sub [1, 2, 0] rfl ?_
  obtain ⟨y8_, h9_, hf⟩ := ob hf
  suffices K10_ : ∀ y8_r, y8_ = .inr y8_r → Z Θ 3 0 0 (zQ Θ ρ) σ 63 [(0, .ref (zA Θ 1)), (1, .ref (zK Θ word_a)), (2, .int y8_r)] [] by
    refine loop1_Z (P := fun (i14_ : Int32) => Z Θ 3 0 0 (zQ Θ ρ) σ 28 [(0, .ref (zA Θ 1)), (1, .ref (zK Θ word_a)), (2, .int i14_)] []) ?_ fuelN (0 : Int32) h9_
    clear h9_
    intro rec11_ i14_ h12_ h13_
    refine z_iload_n C 2 dX8_isWord_28 rfl rfl ?_
    refine z_aload_n C 1 dX8_isWord_29 rfl rfl ?_
    refine z_callK (i := word_a) C h_word rfl [] (some (.int (slen word_a)), σ) 0 (cJ_length (zc_inj C) h_word) w_4_198 w_4_195 w_4_196 w_4_197 w_1_16 ⟨rfl, rfl, (Nat.le_of_ble_eq_true rfl), (Nat.le_of_ble_eq_true rfl)⟩ (by decide +kernel) rfl rfl (Nat.le_of_ble_eq_true rfl) ⟨Nat.zero_le _, Nat.zero_le _⟩ dX8_isWord_30 ?_
    have K17_ : i14_ < (slen word_a) → Z Θ 3 0 0 (zQ Θ ρ) σ 36 [(0, .ref (zA Θ 1)), (1, .ref (zK Θ word_a)), (2, .int i14_)] [] := by
      intro h20_
      rw [if_pos h20_] at h13_
      refine z_aload_n C 0 dX8_isWord_36 rfl rfl ?_
      refine fg8_9 C hkd dX8_isWord_37 ?_
      refine z_aload_n C 0 dX8_isWord_40 rfl rfl ?_
      refine fg8_19 C hkd dX8_isWord_41 ?_
      refine z_iload_n C 2 dX8_isWord_44 rfl rfl ?_
      refine z_iadd C dX8_isWord_45 ?_
      obtain ⟨x23_, h24_, h13_⟩ := ob h13_
      refine z_ag C h24_ (kC_2 hkd) dX8_isWord_46 ?_
      refine z_aload_n C 1 dX8_isWord_47 rfl rfl ?_
      refine z_iload_n C 2 dX8_isWord_48 rfl rfl ?_
      obtain ⟨x25_, h26_, h13_⟩ := ob h13_
      refine z_callK (i := word_a) C h_word rfl [.int i14_] (some (.int x25_), σ) 1 (by obtain ⟨hj, e9⟩ := schr_ h26_; rw [e9]; exact cJ_charAt (zc_inj C) h_word hj) w_4_208 w_4_205 w_4_206 w_4_207 w_1_16 ⟨rfl, rfl, (Nat.le_of_ble_eq_true rfl), (Nat.le_of_ble_eq_true rfl)⟩ (by decide +kernel) rfl rfl (Nat.le_of_ble_eq_true rfl) ⟨Nat.zero_le _, Nat.zero_le _⟩ dX8_isWord_49 ?_
      have K21_ : ¬ x23_ = x25_ → Z Θ 3 0 0 (zQ Θ ρ) σ 55 [(0, .ref (zA Θ 1)), (1, .ref (zK Θ word_a)), (2, .int i14_)] [] := by
        intro h28_
        rw [if_pos h28_] at h13_
        refine z_iconst (v := 0) C dX8_isWord_55 ic_0 ?_
        rw [← Option.some.inj h13_] at hf
        replace hf : some false = some r := hf
        cases hf
        subst hρ
        exact z_zret C (b2i_narrow _) dX8_isWord_56
      suffices K22_ : ¬ (¬ x23_ = x25_) → Z Θ 3 0 0 (zQ Θ ρ) σ 57 [(0, .ref (zA Θ 1)), (1, .ref (zK Θ word_a)), (2, .int i14_)] [] by
        refine c_ne_f C 57 dX8_isWord_52 (by decide) (fun h27_ => ?_) (fun h27_ => ?_)
        · exact K21_ h27_
        · exact K22_ h27_
      intro h28_
      rw [if_neg h28_] at h13_
      obtain ⟨i29_, h30_, h13_⟩ := lt_ h13_
      refine z_inc C 2 dX8_isWord_57 rfl ic_1 h30_ (Nat.le_of_ble_eq_true rfl) rfl ?_
      refine z_goto C 28 dX8_isWord_60 (by decide) ?_
      refine Z.sub [1, 2, 0] rfl ?_
      exact h12_ _ h13_
    have K18_ : ¬ (i14_ < (slen word_a)) → Z Θ 3 0 0 (zQ Θ ρ) σ 63 [(0, .ref (zA Θ 1)), (1, .ref (zK Θ word_a)), (2, .int i14_)] [] := by
      intro h20_
      rw [if_neg h20_] at h13_
      exact K10_ _ (Option.some.inj h13_).symm
    refine c_lt_f C 63 dX8_isWord_33 (by decide) (fun h19_ => ?_) (fun h19_ => ?_)
    · exact K17_ h19_
    · exact K18_ h19_
  intro y8_r e9
  subst e9
  simp only [Sum.elim_inr] at hf
  refine z_iconst (v := 1) C dX8_isWord_63 ic_1 ?_
  cases hf
  subst hρ
  exact z_zret C (b2i_narrow _) dX8_isWord_64
theorem c8_isWord {l : Launch} {kd : List KD} {w : Wp} {σ : St} {word_a : Nat} (hkd : kd = kdC) (hi : zI kd w) (h_word : word_a < 46) {r : Bool} (hf : q8_isWord σ word_a = some r) : zM l kd w yX8_isWord cX8_isWord 3 (some .boolean) rm8_isWord [.ref (w.2.2.1 1), .ref (w.2.2.2.1 word_a)] σ (some (.int (b2i r)), σ) := zM_of rfl hi (Nat.le_of_ble_eq_true rfl) (fun Θ hl hw C => by
  obtain ⟨Θ1, Θ2, Θ3, Θ4, Θ5⟩ := Θ
  cases hw
  exact p8_isWord C hkd h_word hf rfl)
/-! LastLoaf$Reader.seasonHere -/
theorem w_4_194 : Cond.code ({ cls := "LastLoaf$Tape", name := "isWord", desc := "(Ljava/lang/String;)Z" } : MethodName) prog_10_method_8_code (3 : Nat) (Option.some ClassFile.FieldType.boolean) ∈ TB := tb_in (lwt_4 (List.mem_of_getElem? (i := 194) (by decide +kernel))) rfl
theorem w_4_191 : Cond.methodLink "LastLoaf$Reader" (55 : Nat) ({ cls := "LastLoaf$Tape", name := "isWord", desc := "(Ljava/lang/String;)Z" } : MethodName) ∈ TB := tb_in (lwt_4 (List.mem_of_getElem? (i := 191) (by decide +kernel))) rfl
theorem w_4_192 : Cond.instanceMethod ({ cls := "LastLoaf$Tape", name := "isWord", desc := "(Ljava/lang/String;)Z" } : MethodName) ∈ TB := tb_in (lwt_4 (List.mem_of_getElem? (i := 192) (by decide +kernel))) rfl
theorem w_4_193 : Cond.selects "LastLoaf$Tape" ({ cls := "LastLoaf$Tape", name := "isWord", desc := "(Ljava/lang/String;)Z" } : MethodName) ({ cls := "LastLoaf$Tape", name := "isWord", desc := "(Ljava/lang/String;)Z" } : MethodName) ∈ TB := tb_in (lwt_4 (List.mem_of_getElem? (i := 193) (by decide +kernel))) rfl
theorem cr6_55 {Θ : Tz} {cc : ByteArray} {nL kc ks : Nat} {ret : Option FieldType} {rm : Room} {Q : State → Prop} {σ : St} {pc : Nat} {lv : List (Nat × Value)} {st : List Value} (C : Zc Θ cc nL RX6 ret rm) (hkd : Θ.2.2.2.2.1 = kdC) {word_a : Nat} (h_word : word_a < 46) {r : Bool} (hx : q8_isWord σ word_a = some r) (hrm : rm8_isWord.frames + 1 ≤ rm.frames ∧ 8 + (3 + 11) + rm8_isWord.locals ≤ rm.locals) (hcat : (st.map fun v => v.category).sum ≤ 8) (hk : kc ≤ rm.cells ∧ ks ≤ rm.slots) (hd : decode cc pc = .ok (.invokevirtual 55, 3)) (kk : Z Θ nL kc ks Q σ (pc + 3) lv (.int (b2i r) :: st)) : Z Θ nL kc ks Q σ pc lv (.ref (zK Θ word_a) :: .ref (zA Θ 1) :: st) := z_callV C 1 [.ref (zK Θ word_a)] (some (.int (b2i r)), σ) 1 (kC_1 hkd) rfl (c8_isWord (word_a := word_a) hkd (zc_inj C) h_word hx) w_4_194 w_4_191 w_4_192 w_4_193 w_1_2 ⟨rfl, rfl, hrm.1, hrm.2⟩ (by decide +kernel) rfl rfl hcat hk hd kk
theorem dX6_seasonHere_0 : decode cX6_seasonHere 0 = .ok (.aload_n 0, 1) := by decide +kernel
theorem dX6_seasonHere_1 : decode cX6_seasonHere 1 = .ok (.getfield 22, 3) := by decide +kernel
theorem dX6_seasonHere_4 : decode cX6_seasonHere 4 = .ok (.ldc 133, 2) := by decide +kernel
theorem dX6_seasonHere_6 : decode cX6_seasonHere 6 = .ok (.invokevirtual 55, 3) := by decide +kernel
theorem dX6_seasonHere_9 : decode cX6_seasonHere 9 = .ok (.ifCond .eq 5, 3) := by decide +kernel
theorem dX6_seasonHere_12 : decode cX6_seasonHere 12 = .ok (.iconst 0, 1) := by decide +kernel
theorem dX6_seasonHere_13 : decode cX6_seasonHere 13 = .ok (.ireturn, 1) := by decide +kernel
theorem dX6_seasonHere_14 : decode cX6_seasonHere 14 = .ok (.aload_n 0, 1) := by decide +kernel
theorem dX6_seasonHere_15 : decode cX6_seasonHere 15 = .ok (.getfield 22, 3) := by decide +kernel
theorem dX6_seasonHere_18 : decode cX6_seasonHere 18 = .ok (.ldc 135, 2) := by decide +kernel
theorem dX6_seasonHere_20 : decode cX6_seasonHere 20 = .ok (.invokevirtual 55, 3) := by decide +kernel
theorem dX6_seasonHere_23 : decode cX6_seasonHere 23 = .ok (.ifCond .eq 5, 3) := by decide +kernel
theorem dX6_seasonHere_26 : decode cX6_seasonHere 26 = .ok (.iconst 1, 1) := by decide +kernel
theorem dX6_seasonHere_27 : decode cX6_seasonHere 27 = .ok (.ireturn, 1) := by decide +kernel
theorem dX6_seasonHere_28 : decode cX6_seasonHere 28 = .ok (.aload_n 0, 1) := by decide +kernel
theorem dX6_seasonHere_29 : decode cX6_seasonHere 29 = .ok (.getfield 22, 3) := by decide +kernel
theorem dX6_seasonHere_32 : decode cX6_seasonHere 32 = .ok (.ldc 137, 2) := by decide +kernel
theorem dX6_seasonHere_34 : decode cX6_seasonHere 34 = .ok (.invokevirtual 55, 3) := by decide +kernel
theorem dX6_seasonHere_37 : decode cX6_seasonHere 37 = .ok (.ifCond .eq 5, 3) := by decide +kernel
theorem dX6_seasonHere_40 : decode cX6_seasonHere 40 = .ok (.iconst 2, 1) := by decide +kernel
theorem dX6_seasonHere_41 : decode cX6_seasonHere 41 = .ok (.ireturn, 1) := by decide +kernel
theorem dX6_seasonHere_42 : decode cX6_seasonHere 42 = .ok (.aload_n 0, 1) := by decide +kernel
theorem dX6_seasonHere_43 : decode cX6_seasonHere 43 = .ok (.getfield 22, 3) := by decide +kernel
theorem dX6_seasonHere_46 : decode cX6_seasonHere 46 = .ok (.ldc 139, 2) := by decide +kernel
theorem dX6_seasonHere_48 : decode cX6_seasonHere 48 = .ok (.invokevirtual 55, 3) := by decide +kernel
theorem dX6_seasonHere_51 : decode cX6_seasonHere 51 = .ok (.ifCond .eq 7, 3) := by decide +kernel
theorem dX6_seasonHere_54 : decode cX6_seasonHere 54 = .ok (.iconst 3, 1) := by decide +kernel
theorem dX6_seasonHere_55 : decode cX6_seasonHere 55 = .ok (.goto 4, 3) := by decide +kernel
theorem dX6_seasonHere_58 : decode cX6_seasonHere 58 = .ok (.iconst (-1), 1) := by decide +kernel
theorem dX6_seasonHere_59 : decode cX6_seasonHere 59 = .ok (.ireturn, 1) := by decide +kernel
def q6_seasonHere (σ : St) : Option Int32 :=
  Option.bind (q8_isWord σ 9) fun x3_ =>
  if x3_ = true then (some 0) else
  Option.bind (q8_isWord σ 10) fun x9_ =>
  if x9_ = true then (some 1) else
  Option.bind (q8_isWord σ 11) fun x15_ =>
  if x15_ = true then (some 2) else
  Option.bind (Option.bind (q8_isWord σ 12) fun x24_ =>
  if x24_ = true then (some (3 : Int32)) else (some (-1 : Int32))) fun x19_ =>
  some x19_
abbrev rm6_seasonHere : Room := { frames := 5, cells := 0, slots := 0, locals := 107 }
set_option maxHeartbeats 4000000 in
set_option maxRecDepth 100000 in
theorem p6_seasonHere {Θ : Tz} {σ : St} {ρ : Option Value × St} (C : Zc Θ cX6_seasonHere 1 RX6 (some .int) rm6_seasonHere) (hkd : Θ.2.2.2.2.1 = kdC) {r : Int32} (hf : q6_seasonHere σ = some r) (hρ : ρ = (some (.int r), σ)) : Z Θ 1 0 0 (zQ Θ ρ) σ 0 [(0, .ref (zA Θ 3))] [] := by
  unfold q6_seasonHere at hf
  refine z_aload_n C 0 dX6_seasonHere_0 rfl rfl ?_
  refine fg6_22 C hkd dX6_seasonHere_1 ?_
  refine z_ldcs (k := 9) (tx := "spring") C (List.mem_of_getElem? (i := 9) rfl) dX6_seasonHere_4 ?_
  obtain ⟨x3_, h4_, hf⟩ := ob hf
  refine cr6_55 (word_a := 9) C hkd (Nat.le_of_ble_eq_true rfl) h4_ ⟨(Nat.le_of_ble_eq_true rfl), (Nat.le_of_ble_eq_true rfl)⟩ (Nat.le_of_ble_eq_true rfl) ⟨Nat.zero_le _, Nat.zero_le _⟩ dX6_seasonHere_6 ?_
  have K1_ : x3_ = true → Z Θ 1 0 0 (zQ Θ ρ) σ 12 [(0, .ref (zA Θ 3))] [] := by
    intro h6_
    rw [if_pos h6_] at hf
    refine z_iconst (v := 0) C dX6_seasonHere_12 ic_0 ?_
    cases hf
    subst hρ
    exact z_iret C dX6_seasonHere_13
  suffices K2_ : ¬ (x3_ = true) → Z Θ 1 0 0 (zQ Θ ρ) σ 14 [(0, .ref (zA Θ 3))] [] by
    refine cb_f C 14 dX6_seasonHere_9 (by decide) (fun h5_ => ?_) (fun h5_ => ?_)
    · exact K1_ h5_
    · exact K2_ h5_
  intro h6_
  rw [if_neg h6_] at hf
  refine z_aload_n C 0 dX6_seasonHere_14 rfl rfl ?_
  refine fg6_22 C hkd dX6_seasonHere_15 ?_
  refine z_ldcs (k := 10) (tx := "summer") C (List.mem_of_getElem? (i := 10) rfl) dX6_seasonHere_18 ?_
  obtain ⟨x9_, h10_, hf⟩ := ob hf
  refine cr6_55 (word_a := 10) C hkd (Nat.le_of_ble_eq_true rfl) h10_ ⟨(Nat.le_of_ble_eq_true rfl), (Nat.le_of_ble_eq_true rfl)⟩ (Nat.le_of_ble_eq_true rfl) ⟨Nat.zero_le _, Nat.zero_le _⟩ dX6_seasonHere_20 ?_
  have K7_ : x9_ = true → Z Θ 1 0 0 (zQ Θ ρ) σ 26 [(0, .ref (zA Θ 3))] [] := by
    intro h12_
    rw [if_pos h12_] at hf
    refine z_iconst (v := 1) C dX6_seasonHere_26 ic_1 ?_
    cases hf
    subst hρ
    exact z_iret C dX6_seasonHere_27
  suffices K8_ : ¬ (x9_ = true) → Z Θ 1 0 0 (zQ Θ ρ) σ 28 [(0, .ref (zA Θ 3))] [] by
    refine cb_f C 28 dX6_seasonHere_23 (by decide) (fun h11_ => ?_) (fun h11_ => ?_)
    · exact K7_ h11_
    · exact K8_ h11_
  intro h12_
  rw [if_neg h12_] at hf
  refine z_aload_n C 0 dX6_seasonHere_28 rfl rfl ?_
  refine fg6_22 C hkd dX6_seasonHere_29 ?_
  refine z_ldcs (k := 11) (tx := "autumn") C (List.mem_of_getElem? (i := 11) rfl) dX6_seasonHere_32 ?_
  obtain ⟨x15_, h16_, hf⟩ := ob hf
  refine cr6_55 (word_a := 11) C hkd (Nat.le_of_ble_eq_true rfl) h16_ ⟨(Nat.le_of_ble_eq_true rfl), (Nat.le_of_ble_eq_true rfl)⟩ (Nat.le_of_ble_eq_true rfl) ⟨Nat.zero_le _, Nat.zero_le _⟩ dX6_seasonHere_34 ?_
  have K13_ : x15_ = true → Z Θ 1 0 0 (zQ Θ ρ) σ 40 [(0, .ref (zA Θ 3))] [] := by
    intro h18_
    rw [if_pos h18_] at hf
    refine z_iconst (v := 2) C dX6_seasonHere_40 ic_2 ?_
    cases hf
    subst hρ
    exact z_iret C dX6_seasonHere_41
  suffices K14_ : ¬ (x15_ = true) → Z Θ 1 0 0 (zQ Θ ρ) σ 42 [(0, .ref (zA Θ 3))] [] by
    refine cb_f C 42 dX6_seasonHere_37 (by decide) (fun h17_ => ?_) (fun h17_ => ?_)
    · exact K13_ h17_
    · exact K14_ h17_
  intro h18_
  rw [if_neg h18_] at hf
  obtain ⟨x19_, h20_, hf⟩ := ob hf
  suffices K21_ : Z Θ 1 0 0 (zQ Θ ρ) σ 59 [(0, .ref (zA Θ 3))] [.int x19_] by
    refine z_aload_n C 0 dX6_seasonHere_42 rfl rfl ?_
    refine fg6_22 C hkd dX6_seasonHere_43 ?_
    refine z_ldcs (k := 12) (tx := "winter") C (List.mem_of_getElem? (i := 12) rfl) dX6_seasonHere_46 ?_
    obtain ⟨x24_, h25_, h20_⟩ := ob h20_
    refine cr6_55 (word_a := 12) C hkd (Nat.le_of_ble_eq_true rfl) h25_ ⟨(Nat.le_of_ble_eq_true rfl), (Nat.le_of_ble_eq_true rfl)⟩ (Nat.le_of_ble_eq_true rfl) ⟨Nat.zero_le _, Nat.zero_le _⟩ dX6_seasonHere_48 ?_
    have K22_ : x24_ = true → Z Θ 1 0 0 (zQ Θ ρ) σ 54 [(0, .ref (zA Θ 3))] [] := by
      intro h27_
      rw [if_pos h27_] at h20_
      refine z_iconst (v := 3) C dX6_seasonHere_54 ic_3 ?_
      refine z_goto C 59 dX6_seasonHere_55 (by decide) ?_
      cases h20_
      exact K21_
    have K23_ : ¬ (x24_ = true) → Z Θ 1 0 0 (zQ Θ ρ) σ 58 [(0, .ref (zA Θ 3))] [] := by
      intro h27_
      rw [if_neg h27_] at h20_
      refine z_iconst (v := (-1)) C dX6_seasonHere_58 ic_m1 ?_
      cases h20_
      exact K21_
    refine cb_f C 58 dX6_seasonHere_51 (by decide) (fun h26_ => ?_) (fun h26_ => ?_)
    · exact K22_ h26_
    · exact K23_ h26_
  cases hf
  subst hρ
  exact z_iret C dX6_seasonHere_59
theorem c6_seasonHere {l : Launch} {kd : List KD} {w : Wp} {σ : St} (hkd : kd = kdC) (hi : zI kd w) {r : Int32} (hf : q6_seasonHere σ = some r) : zM l kd w yX6_seasonHere cX6_seasonHere 1 (some .int) rm6_seasonHere [.ref (w.2.2.1 3)] σ (some (.int r), σ) := zM_of rfl hi (Nat.le_of_ble_eq_true rfl) (fun Θ hl hw C => by
  obtain ⟨Θ1, Θ2, Θ3, Θ4, Θ5⟩ := Θ
  cases hw
  exact p6_seasonHere C hkd  hf rfl)
/-! LastLoaf$Reader.readGrist -/
theorem w_5_39 : Cond.code ({ cls := "LastLoaf$Reader", name := "seasonHere", desc := "()I" } : MethodName) prog_8_method_9_code (1 : Nat) (Option.some ClassFile.FieldType.int) ∈ TB := tb_in (lwt_5 (List.mem_of_getElem? (i := 39) (by decide +kernel))) rfl
theorem w_1_7 : Cond.initialized "LastLoaf$Reader" ∈ TB := tb_in (lwt_1 (List.mem_of_getElem? (i := 7) (by decide +kernel))) rfl
theorem w_5_36 : Cond.methodLink "LastLoaf$Reader" (127 : Nat) ({ cls := "LastLoaf$Reader", name := "seasonHere", desc := "()I" } : MethodName) ∈ TB := tb_in (lwt_5 (List.mem_of_getElem? (i := 36) (by decide +kernel))) rfl
theorem w_5_37 : Cond.instanceMethod ({ cls := "LastLoaf$Reader", name := "seasonHere", desc := "()I" } : MethodName) ∈ TB := tb_in (lwt_5 (List.mem_of_getElem? (i := 37) (by decide +kernel))) rfl
theorem w_5_38 : Cond.selects "LastLoaf$Reader" ({ cls := "LastLoaf$Reader", name := "seasonHere", desc := "()I" } : MethodName) ({ cls := "LastLoaf$Reader", name := "seasonHere", desc := "()I" } : MethodName) ∈ TB := tb_in (lwt_5 (List.mem_of_getElem? (i := 38) (by decide +kernel))) rfl
theorem cr6_127 {Θ : Tz} {cc : ByteArray} {nL kc ks : Nat} {ret : Option FieldType} {rm : Room} {Q : State → Prop} {σ : St} {pc : Nat} {lv : List (Nat × Value)} {st : List Value} (C : Zc Θ cc nL RX6 ret rm) (hkd : Θ.2.2.2.2.1 = kdC) {r : Int32} (hx : q6_seasonHere σ = some r) (hrm : rm6_seasonHere.frames + 1 ≤ rm.frames ∧ 8 + (1 + 11) + rm6_seasonHere.locals ≤ rm.locals) (hcat : (st.map fun v => v.category).sum ≤ 8) (hk : kc ≤ rm.cells ∧ ks ≤ rm.slots) (hd : decode cc pc = .ok (.invokevirtual 127, 3)) (kk : Z Θ nL kc ks Q σ (pc + 3) lv (.int r :: st)) : Z Θ nL kc ks Q σ pc lv (.ref (zA Θ 3) :: st) := z_callV C 3 [] (some (.int r), σ) 0 (kC_3 hkd) rfl (c6_seasonHere hkd (zc_inj C) hx) w_5_39 w_5_36 w_5_37 w_5_38 w_1_7 ⟨rfl, rfl, hrm.1, hrm.2⟩ (by decide +kernel) rfl rfl hcat hk hd kk
theorem w_1_237 : Cond.fieldLink "LastLoaf$Reader" (26 : Nat) "LastLoaf$Reader" "village" "LLastLoaf$Village;" ∈ TB := tb_in (lwt_1 (List.mem_of_getElem? (i := 237) (by decide +kernel))) rfl
theorem fg6_26 {Θ : Tz} {cc : ByteArray} {nL kc ks : Nat} {ret : Option FieldType} {rm : Room} {Q : State → Prop} {σ : St} {pc : Nat} {lv : List (Nat × Value)} {st : List Value} (C : Zc Θ cc nL RX6 ret rm) (hkd : Θ.2.2.2.2.1 = kdC) (hd : decode cc pc = .ok (.getfield 26, 3)) (kk : Z Θ nL kc ks Q σ (pc + 3) lv (.ref (zA Θ 54) :: st)) : Z Θ nL kc ks Q σ pc lv (.ref (zA Θ 3) :: st) := z_get C inT6 3 (kC_3 hkd) rfl 1 (by decide) w_1_237 rfl hd kk
theorem w_1_118 : Cond.fieldLink "LastLoaf$Reader" (131 : Nat) "LastLoaf$Village" "grist" "[I" ∈ TB := tb_in (lwt_1 (List.mem_of_getElem? (i := 118) (by decide +kernel))) rfl
theorem fg6_131 {Θ : Tz} {cc : ByteArray} {nL kc ks : Nat} {ret : Option FieldType} {rm : Room} {Q : State → Prop} {σ : St} {pc : Nat} {lv : List (Nat × Value)} {st : List Value} (C : Zc Θ cc nL RX6 ret rm) (hkd : Θ.2.2.2.2.1 = kdC) {th : Nat} (hth : isV th) (hd : decode cc pc = .ok (.getfield 131, 3)) (kk : Z Θ nL kc ks Q σ (pc + 3) lv (.ref (zA Θ (th + 7)) :: st)) : Z Θ nL kc ks Q σ pc lv (.ref (zA Θ th) :: st) := z_get C inT10 th (kV_0 hkd hth) rfl 6 (by decide) w_1_118 rfl hd kk
theorem w_5_12 : Cond.code ({ cls := "LastLoaf$Reader", name := "numberFollows", desc := "(I)I" } : MethodName) prog_8_method_4_code (3 : Nat) (Option.some ClassFile.FieldType.int) ∈ TB := tb_in (lwt_5 (List.mem_of_getElem? (i := 12) (by decide +kernel))) rfl
theorem w_5_9 : Cond.methodLink "LastLoaf$Reader" (74 : Nat) ({ cls := "LastLoaf$Reader", name := "numberFollows", desc := "(I)I" } : MethodName) ∈ TB := tb_in (lwt_5 (List.mem_of_getElem? (i := 9) (by decide +kernel))) rfl
theorem w_5_10 : Cond.instanceMethod ({ cls := "LastLoaf$Reader", name := "numberFollows", desc := "(I)I" } : MethodName) ∈ TB := tb_in (lwt_5 (List.mem_of_getElem? (i := 10) (by decide +kernel))) rfl
theorem w_5_11 : Cond.selects "LastLoaf$Reader" ({ cls := "LastLoaf$Reader", name := "numberFollows", desc := "(I)I" } : MethodName) ({ cls := "LastLoaf$Reader", name := "numberFollows", desc := "(I)I" } : MethodName) ∈ TB := tb_in (lwt_5 (List.mem_of_getElem? (i := 11) (by decide +kernel))) rfl
theorem cr6_74 {Θ : Tz} {cc : ByteArray} {nL kc ks : Nat} {ret : Option FieldType} {rm : Room} {Q : State → Prop} {σ : St} {pc : Nat} {lv : List (Nat × Value)} {st : List Value} (C : Zc Θ cc nL RX6 ret rm) (hkd : Θ.2.2.2.2.1 = kdC) {most_a : Int32} {r : Int32 × St} (hx : q6_numberFollows σ most_a = some r) (hrm : rm6_numberFollows.frames + 1 ≤ rm.frames ∧ 8 + (3 + 11) + rm6_numberFollows.locals ≤ rm.locals) (hcat : (st.map fun v => v.category).sum ≤ 8) (hk : kc ≤ rm.cells ∧ ks ≤ rm.slots) (hd : decode cc pc = .ok (.invokevirtual 74, 3)) (kk : Z Θ nL kc ks Q r.2 (pc + 3) lv (.int r.1 :: st)) : Z Θ nL kc ks Q σ pc lv (.int most_a :: .ref (zA Θ 3) :: st) := z_callV C 3 [.int most_a] (some (.int r.1), r.2) 1 (kC_3 hkd) rfl (c6_numberFollows (most_a := most_a) hkd (zc_inj C) hx) w_5_12 w_5_9 w_5_10 w_5_11 w_1_7 ⟨rfl, rfl, hrm.1, hrm.2⟩ (by decide +kernel) rfl rfl hcat hk hd kk
theorem dX6_readGrist_0 : decode cX6_readGrist 0 = .ok (.aload_n 0, 1) := by decide +kernel
theorem dX6_readGrist_1 : decode cX6_readGrist 1 = .ok (.getfield 22, 3) := by decide +kernel
theorem dX6_readGrist_4 : decode cX6_readGrist 4 = .ok (.invokevirtual 50, 3) := by decide +kernel
theorem dX6_readGrist_7 : decode cX6_readGrist 7 = .ok (.aload_n 0, 1) := by decide +kernel
theorem dX6_readGrist_8 : decode cX6_readGrist 8 = .ok (.invokevirtual 127, 3) := by decide +kernel
theorem dX6_readGrist_11 : decode cX6_readGrist 11 = .ok (.istore_n 1, 1) := by decide +kernel
theorem dX6_readGrist_12 : decode cX6_readGrist 12 = .ok (.iload_n 1, 1) := by decide +kernel
theorem dX6_readGrist_13 : decode cX6_readGrist 13 = .ok (.iconst (-1), 1) := by decide +kernel
theorem dX6_readGrist_14 : decode cX6_readGrist 14 = .ok (.if_icmp .ne 5, 3) := by decide +kernel
theorem dX6_readGrist_17 : decode cX6_readGrist 17 = .ok (.iconst 0, 1) := by decide +kernel
theorem dX6_readGrist_18 : decode cX6_readGrist 18 = .ok (.ireturn, 1) := by decide +kernel
theorem dX6_readGrist_19 : decode cX6_readGrist 19 = .ok (.aload_n 0, 1) := by decide +kernel
theorem dX6_readGrist_20 : decode cX6_readGrist 20 = .ok (.getfield 26, 3) := by decide +kernel
theorem dX6_readGrist_23 : decode cX6_readGrist 23 = .ok (.getfield 131, 3) := by decide +kernel
theorem dX6_readGrist_26 : decode cX6_readGrist 26 = .ok (.iload_n 1, 1) := by decide +kernel
theorem dX6_readGrist_27 : decode cX6_readGrist 27 = .ok (.aload_n 0, 1) := by decide +kernel
theorem dX6_readGrist_28 : decode cX6_readGrist 28 = .ok (.bipush 99, 2) := by decide +kernel
theorem dX6_readGrist_30 : decode cX6_readGrist 30 = .ok (.invokevirtual 74, 3) := by decide +kernel
theorem dX6_readGrist_33 : decode cX6_readGrist 33 = .ok (.iastore, 1) := by decide +kernel
theorem dX6_readGrist_34 : decode cX6_readGrist 34 = .ok (.aload_n 0, 1) := by decide +kernel
theorem dX6_readGrist_35 : decode cX6_readGrist 35 = .ok (.getfield 26, 3) := by decide +kernel
theorem dX6_readGrist_38 : decode cX6_readGrist 38 = .ok (.getfield 131, 3) := by decide +kernel
theorem dX6_readGrist_41 : decode cX6_readGrist 41 = .ok (.iload_n 1, 1) := by decide +kernel
theorem dX6_readGrist_42 : decode cX6_readGrist 42 = .ok (.iaload, 1) := by decide +kernel
theorem dX6_readGrist_43 : decode cX6_readGrist 43 = .ok (.iconst (-1), 1) := by decide +kernel
theorem dX6_readGrist_44 : decode cX6_readGrist 44 = .ok (.if_icmp .eq 7, 3) := by decide +kernel
theorem dX6_readGrist_47 : decode cX6_readGrist 47 = .ok (.iconst 1, 1) := by decide +kernel
theorem dX6_readGrist_48 : decode cX6_readGrist 48 = .ok (.goto 4, 3) := by decide +kernel
theorem dX6_readGrist_51 : decode cX6_readGrist 51 = .ok (.iconst 0, 1) := by decide +kernel
theorem dX6_readGrist_52 : decode cX6_readGrist 52 = .ok (.ireturn, 1) := by decide +kernel
def q6_readGrist (σ : St) : Option (Bool × St) :=
  Option.bind (q8_advance σ) fun x1_ =>
  Option.bind (q6_seasonHere x1_) fun x3_ =>
  if x3_ = (-1) then (some (false, x1_)) else
  Option.bind (q6_numberFollows x1_ 99) fun x9_ =>
  Option.bind (sa x9_.2 (54 + 7) 4 x3_ x9_.1) fun σ11_ =>
  Option.bind (Option.bind (ag σ11_ (54 + 7) 4 x3_) fun x18_ =>
  if ¬ x18_ = (-1) then (some true) else (some false)) fun x13_ =>
  some (x13_, σ11_)
abbrev rm6_readGrist : Room := { frames := 6, cells := 0, slots := 0, locals := 127 }
set_option maxHeartbeats 4000000 in
set_option maxRecDepth 100000 in
theorem p6_readGrist {Θ : Tz} {σ : St} {ρ : Option Value × St} (C : Zc Θ cX6_readGrist 2 RX6 (some .boolean) rm6_readGrist) (hkd : Θ.2.2.2.2.1 = kdC) {r : (Bool × St)} (hf : q6_readGrist σ = some r) (hρ : ρ = (some (.int (b2i r.1)), r.2)) : Z Θ 2 0 0 (zQ Θ ρ) σ 0 [(0, .ref (zA Θ 3))] [] := by
  unfold q6_readGrist at hf
  refine z_aload_n C 0 dX6_readGrist_0 rfl rfl ?_
  refine fg6_22 C hkd dX6_readGrist_1 ?_
  obtain ⟨x1_, h2_, hf⟩ := ob hf
  refine cr6_50 C hkd  h2_ ⟨(Nat.le_of_ble_eq_true rfl), (Nat.le_of_ble_eq_true rfl)⟩ (Nat.le_of_ble_eq_true rfl) ⟨Nat.zero_le _, Nat.zero_le _⟩ dX6_readGrist_4 ?_
  refine z_aload_n C 0 dX6_readGrist_7 rfl rfl ?_
  obtain ⟨x3_, h4_, hf⟩ := ob hf
  refine cr6_127 C hkd  h4_ ⟨(Nat.le_of_ble_eq_true rfl), (Nat.le_of_ble_eq_true rfl)⟩ (Nat.le_of_ble_eq_true rfl) ⟨Nat.zero_le _, Nat.zero_le _⟩ dX6_readGrist_8 ?_
  refine z_istN C dX6_readGrist_11 rfl rfl (Nat.le_of_ble_eq_true rfl) rfl ?_
  have K5_ : x3_ = (-1) → Z Θ 2 0 0 (zQ Θ ρ) x1_ 17 [(1, .int x3_), (0, .ref (zA Θ 3))] [] := by
    intro h8_
    rw [if_pos h8_] at hf
    refine z_iconst (v := 0) C dX6_readGrist_17 ic_0 ?_
    cases hf
    subst hρ
    exact z_zret C (b2i_narrow _) dX6_readGrist_18
  suffices K6_ : ¬ (x3_ = (-1)) → Z Θ 2 0 0 (zQ Θ ρ) x1_ 19 [(1, .int x3_), (0, .ref (zA Θ 3))] [] by
    refine z_iload_n C 0 dX6_readGrist_12 rfl rfl ?_
    refine z_iconst (v := (-1)) C dX6_readGrist_13 ic_m1 ?_
    refine c_eq_f C 19 dX6_readGrist_14 (by decide) (fun h7_ => ?_) (fun h7_ => ?_)
    · exact K5_ h7_
    · exact K6_ h7_
  intro h8_
  rw [if_neg h8_] at hf
  refine z_aload_n C 1 dX6_readGrist_19 rfl rfl ?_
  refine fg6_26 C hkd dX6_readGrist_20 ?_
  refine fg6_131 C hkd isV_54 dX6_readGrist_23 ?_
  refine z_iload_n C 0 dX6_readGrist_26 rfl rfl ?_
  refine z_aload_n C 1 dX6_readGrist_27 rfl rfl ?_
  refine z_bipush (v := 99) C dX6_readGrist_28 bp_99 ?_
  obtain ⟨x9_, h10_, hf⟩ := ob hf
  refine cr6_74 (most_a := 99) C hkd  h10_ ⟨(Nat.le_of_ble_eq_true rfl), (Nat.le_of_ble_eq_true rfl)⟩ (Nat.le_of_ble_eq_true rfl) ⟨Nat.zero_le _, Nat.zero_le _⟩ dX6_readGrist_30 ?_
  obtain ⟨σ11_, h12_, hf⟩ := ob hf
  refine z_sa C h12_ (kV_7 hkd isV_54) dX6_readGrist_33 ?_
  obtain ⟨x13_, h14_, hf⟩ := ob hf
  suffices K15_ : Z Θ 2 0 0 (zQ Θ ρ) σ11_ 52 [(1, .int x3_), (0, .ref (zA Θ 3))] [.int (b2i x13_)] by
    refine z_aload_n C 1 dX6_readGrist_34 rfl rfl ?_
    refine fg6_26 C hkd dX6_readGrist_35 ?_
    refine fg6_131 C hkd isV_54 dX6_readGrist_38 ?_
    refine z_iload_n C 0 dX6_readGrist_41 rfl rfl ?_
    obtain ⟨x18_, h19_, h14_⟩ := ob h14_
    refine z_ag C h19_ (kV_7 hkd isV_54) dX6_readGrist_42 ?_
    refine z_iconst (v := (-1)) C dX6_readGrist_43 ic_m1 ?_
    have K16_ : ¬ x18_ = (-1) → Z Θ 2 0 0 (zQ Θ ρ) σ11_ 47 [(1, .int x3_), (0, .ref (zA Θ 3))] [] := by
      intro h21_
      rw [if_pos h21_] at h14_
      refine z_iconst (v := 1) C dX6_readGrist_47 ic_1 ?_
      refine z_goto C 52 dX6_readGrist_48 (by decide) ?_
      cases h14_
      exact K15_
    have K17_ : ¬ (¬ x18_ = (-1)) → Z Θ 2 0 0 (zQ Θ ρ) σ11_ 51 [(1, .int x3_), (0, .ref (zA Θ 3))] [] := by
      intro h21_
      rw [if_neg h21_] at h14_
      refine z_iconst (v := 0) C dX6_readGrist_51 ic_0 ?_
      cases h14_
      exact K15_
    refine c_ne_f C 51 dX6_readGrist_44 (by decide) (fun h20_ => ?_) (fun h20_ => ?_)
    · exact K16_ h20_
    · exact K17_ h20_
  cases hf
  subst hρ
  exact z_zret C (b2i_narrow _) dX6_readGrist_52
theorem c6_readGrist {l : Launch} {kd : List KD} {w : Wp} {σ : St} (hkd : kd = kdC) (hi : zI kd w) {r : (Bool × St)} (hf : q6_readGrist σ = some r) : zM l kd w yX6_readGrist cX6_readGrist 2 (some .boolean) rm6_readGrist [.ref (w.2.2.1 3)] σ (some (.int (b2i r.1)), r.2) := zM_of rfl hi (Nat.le_of_ble_eq_true rfl) (fun Θ hl hw C => by
  obtain ⟨Θ1, Θ2, Θ3, Θ4, Θ5⟩ := Θ
  cases hw
  exact p6_readGrist C hkd  hf rfl)
/-! LastLoaf$Reader.readLikes -/
theorem w_1_129 : Cond.fieldLink "LastLoaf$Reader" (97 : Nat) "LastLoaf$Village" "people" "I" ∈ TB := tb_in (lwt_1 (List.mem_of_getElem? (i := 129) (by decide +kernel))) rfl
theorem fg6_97 {Θ : Tz} {cc : ByteArray} {nL kc ks : Nat} {ret : Option FieldType} {rm : Room} {Q : State → Prop} {σ : St} {pc : Nat} {lv : List (Nat × Value)} {st : List Value} (C : Zc Θ cc nL RX6 ret rm) (hkd : Θ.2.2.2.2.1 = kdC) {th : Nat} (hth : isV th) (hd : decode cc pc = .ok (.getfield 97, 3)) (kk : Z Θ nL kc ks Q σ (pc + 3) lv (.int (σ th 8) :: st)) : Z Θ nL kc ks Q σ pc lv (.ref (zA Θ th) :: st) := z_get C inT10 th (kV_0 hkd hth) rfl 8 (by decide) w_1_129 rfl hd kk
theorem w_1_113 : Cond.fieldLink "LastLoaf$Reader" (125 : Nat) "LastLoaf$Village" "likes" "[I" ∈ TB := tb_in (lwt_1 (List.mem_of_getElem? (i := 113) (by decide +kernel))) rfl
theorem fg6_125 {Θ : Tz} {cc : ByteArray} {nL kc ks : Nat} {ret : Option FieldType} {rm : Room} {Q : State → Prop} {σ : St} {pc : Nat} {lv : List (Nat × Value)} {st : List Value} (C : Zc Θ cc nL RX6 ret rm) (hkd : Θ.2.2.2.2.1 = kdC) {th : Nat} (hth : isV th) (hd : decode cc pc = .ok (.getfield 125, 3)) (kk : Z Θ nL kc ks Q σ (pc + 3) lv (.ref (zA Θ (th + 6)) :: st)) : Z Θ nL kc ks Q σ pc lv (.ref (zA Θ th) :: st) := z_get C inT10 th (kV_0 hkd hth) rfl 5 (by decide) w_1_113 rfl hd kk
theorem dX6_readLikes_0 : decode cX6_readLikes 0 = .ok (.aload_n 0, 1) := by decide +kernel
theorem dX6_readLikes_1 : decode cX6_readLikes 1 = .ok (.aload_n 0, 1) := by decide +kernel
theorem dX6_readLikes_2 : decode cX6_readLikes 2 = .ok (.getfield 26, 3) := by decide +kernel
theorem dX6_readLikes_5 : decode cX6_readLikes 5 = .ok (.getfield 97, 3) := by decide +kernel
theorem dX6_readLikes_8 : decode cX6_readLikes 8 = .ok (.iconst 1, 1) := by decide +kernel
theorem dX6_readLikes_9 : decode cX6_readLikes 9 = .ok (.isub, 1) := by decide +kernel
theorem dX6_readLikes_10 : decode cX6_readLikes 10 = .ok (.invokevirtual 74, 3) := by decide +kernel
theorem dX6_readLikes_13 : decode cX6_readLikes 13 = .ok (.istore_n 1, 1) := by decide +kernel
theorem dX6_readLikes_14 : decode cX6_readLikes 14 = .ok (.aload_n 0, 1) := by decide +kernel
theorem dX6_readLikes_15 : decode cX6_readLikes 15 = .ok (.getfield 22, 3) := by decide +kernel
theorem dX6_readLikes_18 : decode cX6_readLikes 18 = .ok (.aload_n 0, 1) := by decide +kernel
theorem dX6_readLikes_19 : decode cX6_readLikes 19 = .ok (.getfield 26, 3) := by decide +kernel
theorem dX6_readLikes_22 : decode cX6_readLikes 22 = .ok (.getfield 97, 3) := by decide +kernel
theorem dX6_readLikes_25 : decode cX6_readLikes 25 = .ok (.iconst 1, 1) := by decide +kernel
theorem dX6_readLikes_26 : decode cX6_readLikes 26 = .ok (.isub, 1) := by decide +kernel
theorem dX6_readLikes_27 : decode cX6_readLikes 27 = .ok (.invokevirtual 94, 3) := by decide +kernel
theorem dX6_readLikes_30 : decode cX6_readLikes 30 = .ok (.istore_n 2, 1) := by decide +kernel
theorem dX6_readLikes_31 : decode cX6_readLikes 31 = .ok (.iload_n 1, 1) := by decide +kernel
theorem dX6_readLikes_32 : decode cX6_readLikes 32 = .ok (.iconst (-1), 1) := by decide +kernel
theorem dX6_readLikes_33 : decode cX6_readLikes 33 = .ok (.if_icmp .eq 13, 3) := by decide +kernel
theorem dX6_readLikes_36 : decode cX6_readLikes 36 = .ok (.iload_n 2, 1) := by decide +kernel
theorem dX6_readLikes_37 : decode cX6_readLikes 37 = .ok (.iconst (-1), 1) := by decide +kernel
theorem dX6_readLikes_38 : decode cX6_readLikes 38 = .ok (.if_icmp .eq 8, 3) := by decide +kernel
theorem dX6_readLikes_41 : decode cX6_readLikes 41 = .ok (.iload_n 1, 1) := by decide +kernel
theorem dX6_readLikes_42 : decode cX6_readLikes 42 = .ok (.iload_n 2, 1) := by decide +kernel
theorem dX6_readLikes_43 : decode cX6_readLikes 43 = .ok (.if_icmp .ne 5, 3) := by decide +kernel
theorem dX6_readLikes_46 : decode cX6_readLikes 46 = .ok (.iconst 0, 1) := by decide +kernel
theorem dX6_readLikes_47 : decode cX6_readLikes 47 = .ok (.ireturn, 1) := by decide +kernel
theorem dX6_readLikes_48 : decode cX6_readLikes 48 = .ok (.aload_n 0, 1) := by decide +kernel
theorem dX6_readLikes_49 : decode cX6_readLikes 49 = .ok (.bipush 9, 2) := by decide +kernel
theorem dX6_readLikes_51 : decode cX6_readLikes 51 = .ok (.invokevirtual 74, 3) := by decide +kernel
theorem dX6_readLikes_54 : decode cX6_readLikes 54 = .ok (.istore_n 3, 1) := by decide +kernel
theorem dX6_readLikes_55 : decode cX6_readLikes 55 = .ok (.aload_n 0, 1) := by decide +kernel
theorem dX6_readLikes_56 : decode cX6_readLikes 56 = .ok (.getfield 26, 3) := by decide +kernel
theorem dX6_readLikes_59 : decode cX6_readLikes 59 = .ok (.getfield 125, 3) := by decide +kernel
theorem dX6_readLikes_62 : decode cX6_readLikes 62 = .ok (.iload_n 1, 1) := by decide +kernel
theorem dX6_readLikes_63 : decode cX6_readLikes 63 = .ok (.bipush 6, 2) := by decide +kernel
theorem dX6_readLikes_65 : decode cX6_readLikes 65 = .ok (.imul, 1) := by decide +kernel
theorem dX6_readLikes_66 : decode cX6_readLikes 66 = .ok (.iload_n 2, 1) := by decide +kernel
theorem dX6_readLikes_67 : decode cX6_readLikes 67 = .ok (.iadd, 1) := by decide +kernel
theorem dX6_readLikes_68 : decode cX6_readLikes 68 = .ok (.iload_n 3, 1) := by decide +kernel
theorem dX6_readLikes_69 : decode cX6_readLikes 69 = .ok (.iastore, 1) := by decide +kernel
theorem dX6_readLikes_70 : decode cX6_readLikes 70 = .ok (.iload_n 3, 1) := by decide +kernel
theorem dX6_readLikes_71 : decode cX6_readLikes 71 = .ok (.iconst (-1), 1) := by decide +kernel
theorem dX6_readLikes_72 : decode cX6_readLikes 72 = .ok (.if_icmp .eq 7, 3) := by decide +kernel
theorem dX6_readLikes_75 : decode cX6_readLikes 75 = .ok (.iconst 1, 1) := by decide +kernel
theorem dX6_readLikes_76 : decode cX6_readLikes 76 = .ok (.goto 4, 3) := by decide +kernel
theorem dX6_readLikes_79 : decode cX6_readLikes 79 = .ok (.iconst 0, 1) := by decide +kernel
theorem dX6_readLikes_80 : decode cX6_readLikes 80 = .ok (.ireturn, 1) := by decide +kernel
def q6_readLikes (σ : St) : Option (Bool × St) :=
  Option.bind (q6_numberFollows σ ((σ 54 8) - 1)) fun x1_ =>
  Option.bind (q8_numberUpTo x1_.2 ((x1_.2 54 8) - 1)) fun x3_ =>
  if ((x1_.1 = (-1)) ∨ (x3_ = (-1))) ∨ (x1_.1 = x3_) then (some (false, x1_.2)) else
  Option.bind (q6_numberFollows x1_.2 9) fun x11_ =>
  Option.bind (sa x11_.2 (54 + 6) 36 ((x1_.1 * 6) + x3_) x11_.1) fun σ13_ =>
  some (decide (¬ x11_.1 = (-1)), σ13_)
abbrev rm6_readLikes : Room := { frames := 3, cells := 0, slots := 0, locals := 62 }
set_option maxHeartbeats 4000000 in
set_option maxRecDepth 100000 in
theorem p6_readLikes {Θ : Tz} {σ : St} {ρ : Option Value × St} (C : Zc Θ cX6_readLikes 4 RX6 (some .boolean) rm6_readLikes) (hkd : Θ.2.2.2.2.1 = kdC) {r : (Bool × St)} (hf : q6_readLikes σ = some r) (hρ : ρ = (some (.int (b2i r.1)), r.2)) : Z Θ 4 0 0 (zQ Θ ρ) σ 0 [(0, .ref (zA Θ 3))] [] := by
  unfold q6_readLikes at hf
  refine z_aload_n C 0 dX6_readLikes_0 rfl rfl ?_
  refine z_aload_n C 0 dX6_readLikes_1 rfl rfl ?_
  refine fg6_26 C hkd dX6_readLikes_2 ?_
  refine fg6_97 C hkd isV_54 dX6_readLikes_5 ?_
  refine z_iconst (v := 1) C dX6_readLikes_8 ic_1 ?_
  refine z_isub C dX6_readLikes_9 ?_
  obtain ⟨x1_, h2_, hf⟩ := ob hf
  refine cr6_74 (most_a := ((σ 54 8) - 1)) C hkd  h2_ ⟨(Nat.le_of_ble_eq_true rfl), (Nat.le_of_ble_eq_true rfl)⟩ (Nat.le_of_ble_eq_true rfl) ⟨Nat.zero_le _, Nat.zero_le _⟩ dX6_readLikes_10 ?_
  refine z_istN C dX6_readLikes_13 rfl rfl (Nat.le_of_ble_eq_true rfl) rfl ?_
  refine z_aload_n C 1 dX6_readLikes_14 rfl rfl ?_
  refine fg6_22 C hkd dX6_readLikes_15 ?_
  refine z_aload_n C 1 dX6_readLikes_18 rfl rfl ?_
  refine fg6_26 C hkd dX6_readLikes_19 ?_
  refine fg6_97 C hkd isV_54 dX6_readLikes_22 ?_
  refine z_iconst (v := 1) C dX6_readLikes_25 ic_1 ?_
  refine z_isub C dX6_readLikes_26 ?_
  obtain ⟨x3_, h4_, hf⟩ := ob hf
  refine cr6_94 (most_a := ((x1_.2 54 8) - 1)) C hkd  h4_ ⟨(Nat.le_of_ble_eq_true rfl), (Nat.le_of_ble_eq_true rfl)⟩ (Nat.le_of_ble_eq_true rfl) ⟨Nat.zero_le _, Nat.zero_le _⟩ dX6_readLikes_27 ?_
  refine z_istN C dX6_readLikes_30 rfl rfl (Nat.le_of_ble_eq_true rfl) rfl ?_
  have K5_ : ((x1_.1 = (-1)) ∨ (x3_ = (-1))) ∨ (x1_.1 = x3_) → Z Θ 4 0 0 (zQ Θ ρ) x1_.2 46 [(2, .int x3_), (1, .int x1_.1), (0, .ref (zA Θ 3))] [] := by
    intro h10_
    rw [if_pos h10_] at hf
    refine z_iconst (v := 0) C dX6_readLikes_46 ic_0 ?_
    cases hf
    subst hρ
    exact z_zret C (b2i_narrow _) dX6_readLikes_47
  suffices K6_ : ¬ (((x1_.1 = (-1)) ∨ (x3_ = (-1))) ∨ (x1_.1 = x3_)) → Z Θ 4 0 0 (zQ Θ ρ) x1_.2 48 [(2, .int x3_), (1, .int x1_.1), (0, .ref (zA Θ 3))] [] by
    refine z_iload_n C 1 dX6_readLikes_31 rfl rfl ?_
    refine z_iconst (v := (-1)) C dX6_readLikes_32 ic_m1 ?_
    refine c_eq_t C 46 dX6_readLikes_33 (by decide) (fun h7_ => ?_) (fun h7_ => ?_)
    · exact K5_ (Or.inl (Or.inl h7_))
    · refine z_iload_n C 0 dX6_readLikes_36 rfl rfl ?_
      refine z_iconst (v := (-1)) C dX6_readLikes_37 ic_m1 ?_
      refine c_eq_t C 46 dX6_readLikes_38 (by decide) (fun h8_ => ?_) (fun h8_ => ?_)
      · exact K5_ (Or.inl (Or.inr h8_))
      · refine z_iload_n C 1 dX6_readLikes_41 rfl rfl ?_
        refine z_iload_n C 0 dX6_readLikes_42 rfl rfl ?_
        refine c_eq_f C 48 dX6_readLikes_43 (by decide) (fun h9_ => ?_) (fun h9_ => ?_)
        · exact K5_ (Or.inr h9_)
        · exact K6_ (fun n => n.elim (fun n => n.elim h7_ h8_) h9_)
  intro h10_
  rw [if_neg h10_] at hf
  refine z_aload_n C 2 dX6_readLikes_48 rfl rfl ?_
  refine z_bipush (v := 9) C dX6_readLikes_49 bp_9 ?_
  obtain ⟨x11_, h12_, hf⟩ := ob hf
  refine cr6_74 (most_a := 9) C hkd  h12_ ⟨(Nat.le_of_ble_eq_true rfl), (Nat.le_of_ble_eq_true rfl)⟩ (Nat.le_of_ble_eq_true rfl) ⟨Nat.zero_le _, Nat.zero_le _⟩ dX6_readLikes_51 ?_
  refine z_istN C dX6_readLikes_54 rfl rfl (Nat.le_of_ble_eq_true rfl) rfl ?_
  refine z_aload_n C 3 dX6_readLikes_55 rfl rfl ?_
  refine fg6_26 C hkd dX6_readLikes_56 ?_
  refine fg6_125 C hkd isV_54 dX6_readLikes_59 ?_
  refine z_iload_n C 2 dX6_readLikes_62 rfl rfl ?_
  refine z_bipush (v := 6) C dX6_readLikes_63 bp_6 ?_
  refine z_imul C dX6_readLikes_65 ?_
  refine z_iload_n C 1 dX6_readLikes_66 rfl rfl ?_
  refine z_iadd C dX6_readLikes_67 ?_
  refine z_iload_n C 0 dX6_readLikes_68 rfl rfl ?_
  obtain ⟨σ13_, h14_, hf⟩ := ob hf
  refine z_sa C h14_ (kV_6 hkd isV_54) dX6_readLikes_69 ?_
  suffices K15_ : Z Θ 4 0 0 (zQ Θ ρ) σ13_ 80 [(3, .int x11_.1), (2, .int x3_), (1, .int x1_.1), (0, .ref (zA Θ 3))] [.int (b2i (decide (¬ x11_.1 = (-1))))] by
    have K16_ : ¬ x11_.1 = (-1) → Z Θ 4 0 0 (zQ Θ ρ) σ13_ 75 [(3, .int x11_.1), (2, .int x3_), (1, .int x1_.1), (0, .ref (zA Θ 3))] [] := by
      intro h19_
      rw [decide_eq_true h19_] at K15_
      refine z_iconst (v := 1) C dX6_readLikes_75 ic_1 ?_
      refine z_goto C 80 dX6_readLikes_76 (by decide) ?_
      exact K15_
    have K17_ : ¬ (¬ x11_.1 = (-1)) → Z Θ 4 0 0 (zQ Θ ρ) σ13_ 79 [(3, .int x11_.1), (2, .int x3_), (1, .int x1_.1), (0, .ref (zA Θ 3))] [] := by
      intro h19_
      rw [decide_eq_false h19_] at K15_
      refine z_iconst (v := 0) C dX6_readLikes_79 ic_0 ?_
      exact K15_
    refine z_iload_n C 0 dX6_readLikes_70 rfl rfl ?_
    refine z_iconst (v := (-1)) C dX6_readLikes_71 ic_m1 ?_
    refine c_ne_f C 79 dX6_readLikes_72 (by decide) (fun h18_ => ?_) (fun h18_ => ?_)
    · exact K16_ h18_
    · exact K17_ h18_
  cases hf
  subst hρ
  exact z_zret C (b2i_narrow _) dX6_readLikes_80
theorem c6_readLikes {l : Launch} {kd : List KD} {w : Wp} {σ : St} (hkd : kd = kdC) (hi : zI kd w) {r : (Bool × St)} (hf : q6_readLikes σ = some r) : zM l kd w yX6_readLikes cX6_readLikes 4 (some .boolean) rm6_readLikes [.ref (w.2.2.1 3)] σ (some (.int (b2i r.1)), r.2) := zM_of rfl hi (Nat.le_of_ble_eq_true rfl) (fun Θ hl hw C => by
  obtain ⟨Θ1, Θ2, Θ3, Θ4, Θ5⟩ := Θ
  cases hw
  exact p6_readLikes C hkd  hf rfl)
/-! LastLoaf$Reader.readParty -/
theorem w_1_98 : Cond.fieldLink "LastLoaf$Reader" (100 : Nat) "LastLoaf$Village" "party" "[I" ∈ TB := tb_in (lwt_1 (List.mem_of_getElem? (i := 98) (by decide +kernel))) rfl
theorem fg6_100 {Θ : Tz} {cc : ByteArray} {nL kc ks : Nat} {ret : Option FieldType} {rm : Room} {Q : State → Prop} {σ : St} {pc : Nat} {lv : List (Nat × Value)} {st : List Value} (C : Zc Θ cc nL RX6 ret rm) (hkd : Θ.2.2.2.2.1 = kdC) {th : Nat} (hth : isV th) (hd : decode cc pc = .ok (.getfield 100, 3)) (kk : Z Θ nL kc ks Q σ (pc + 3) lv (.ref (zA Θ (th + 2)) :: st)) : Z Θ nL kc ks Q σ pc lv (.ref (zA Θ th) :: st) := z_get C inT10 th (kV_0 hkd hth) rfl 1 (by decide) w_1_98 rfl hd kk
theorem dX6_readParty_0 : decode cX6_readParty 0 = .ok (.aload_n 0, 1) := by decide +kernel
theorem dX6_readParty_1 : decode cX6_readParty 1 = .ok (.getfield 22, 3) := by decide +kernel
theorem dX6_readParty_4 : decode cX6_readParty 4 = .ok (.invokevirtual 50, 3) := by decide +kernel
theorem dX6_readParty_7 : decode cX6_readParty 7 = .ok (.aload_n 0, 1) := by decide +kernel
theorem dX6_readParty_8 : decode cX6_readParty 8 = .ok (.getfield 22, 3) := by decide +kernel
theorem dX6_readParty_11 : decode cX6_readParty 11 = .ok (.ldc 121, 2) := by decide +kernel
theorem dX6_readParty_13 : decode cX6_readParty 13 = .ok (.invokevirtual 55, 3) := by decide +kernel
theorem dX6_readParty_16 : decode cX6_readParty 16 = .ok (.ifCond .ne 17, 3) := by decide +kernel
theorem dX6_readParty_19 : decode cX6_readParty 19 = .ok (.aload_n 0, 1) := by decide +kernel
theorem dX6_readParty_20 : decode cX6_readParty 20 = .ok (.getfield 22, 3) := by decide +kernel
theorem dX6_readParty_23 : decode cX6_readParty 23 = .ok (.ldc 123, 2) := by decide +kernel
theorem dX6_readParty_25 : decode cX6_readParty 25 = .ok (.invokevirtual 55, 3) := by decide +kernel
theorem dX6_readParty_28 : decode cX6_readParty 28 = .ok (.ifCond .ne 5, 3) := by decide +kernel
theorem dX6_readParty_31 : decode cX6_readParty 31 = .ok (.iconst 0, 1) := by decide +kernel
theorem dX6_readParty_32 : decode cX6_readParty 32 = .ok (.ireturn, 1) := by decide +kernel
theorem dX6_readParty_33 : decode cX6_readParty 33 = .ok (.aload_n 0, 1) := by decide +kernel
theorem dX6_readParty_34 : decode cX6_readParty 34 = .ok (.getfield 26, 3) := by decide +kernel
theorem dX6_readParty_37 : decode cX6_readParty 37 = .ok (.getfield 100, 3) := by decide +kernel
theorem dX6_readParty_40 : decode cX6_readParty 40 = .ok (.iload_n 1, 1) := by decide +kernel
theorem dX6_readParty_41 : decode cX6_readParty 41 = .ok (.aload_n 0, 1) := by decide +kernel
theorem dX6_readParty_42 : decode cX6_readParty 42 = .ok (.getfield 22, 3) := by decide +kernel
theorem dX6_readParty_45 : decode cX6_readParty 45 = .ok (.ldc 121, 2) := by decide +kernel
theorem dX6_readParty_47 : decode cX6_readParty 47 = .ok (.invokevirtual 55, 3) := by decide +kernel
theorem dX6_readParty_50 : decode cX6_readParty 50 = .ok (.ifCond .eq 7, 3) := by decide +kernel
theorem dX6_readParty_53 : decode cX6_readParty 53 = .ok (.iconst 0, 1) := by decide +kernel
theorem dX6_readParty_54 : decode cX6_readParty 54 = .ok (.goto 4, 3) := by decide +kernel
theorem dX6_readParty_57 : decode cX6_readParty 57 = .ok (.iconst 1, 1) := by decide +kernel
theorem dX6_readParty_58 : decode cX6_readParty 58 = .ok (.iastore, 1) := by decide +kernel
theorem dX6_readParty_59 : decode cX6_readParty 59 = .ok (.aload_n 0, 1) := by decide +kernel
theorem dX6_readParty_60 : decode cX6_readParty 60 = .ok (.getfield 22, 3) := by decide +kernel
theorem dX6_readParty_63 : decode cX6_readParty 63 = .ok (.invokevirtual 50, 3) := by decide +kernel
theorem dX6_readParty_66 : decode cX6_readParty 66 = .ok (.iconst 1, 1) := by decide +kernel
theorem dX6_readParty_67 : decode cX6_readParty 67 = .ok (.ireturn, 1) := by decide +kernel
def q6_readParty (σ : St) (person_a : Int32) : Option (Bool × St) :=
  Option.bind (q8_advance σ) fun x1_ =>
  Option.bind (Option.bind (q8_isWord x1_ 3) fun x7_ =>
  if x7_ = true then (some false) else (Option.bind (q8_isWord x1_ 4) fun x10_ =>
  if x10_ = true then (some false) else (some true))) fun t5_ =>
  if t5_ = true then (some (false, x1_)) else
  Option.bind (Option.bind (q8_isWord x1_ 3) fun x19_ =>
  if x19_ = true then (some (0 : Int32)) else (some (1 : Int32))) fun x14_ =>
  Option.bind (sa x1_ (54 + 2) 6 person_a x14_) fun σ23_ =>
  Option.bind (q8_advance σ23_) fun x25_ =>
  some (true, x25_)
abbrev rm6_readParty : Room := { frames := 5, cells := 0, slots := 0, locals := 107 }
set_option maxHeartbeats 4000000 in
set_option maxRecDepth 100000 in
theorem p6_readParty {Θ : Tz} {σ : St} {ρ : Option Value × St} (C : Zc Θ cX6_readParty 2 RX6 (some .boolean) rm6_readParty) (hkd : Θ.2.2.2.2.1 = kdC) {person_a : Int32} {r : (Bool × St)} (hf : q6_readParty σ person_a = some r) (hρ : ρ = (some (.int (b2i r.1)), r.2)) : Z Θ 2 0 0 (zQ Θ ρ) σ 0 [(0, .ref (zA Θ 3)), (1, .int person_a)] [] := by
  unfold q6_readParty at hf
  refine z_aload_n C 0 dX6_readParty_0 rfl rfl ?_
  refine fg6_22 C hkd dX6_readParty_1 ?_
  obtain ⟨x1_, h2_, hf⟩ := ob hf
  refine cr6_50 C hkd  h2_ ⟨(Nat.le_of_ble_eq_true rfl), (Nat.le_of_ble_eq_true rfl)⟩ (Nat.le_of_ble_eq_true rfl) ⟨Nat.zero_le _, Nat.zero_le _⟩ dX6_readParty_4 ?_
  obtain ⟨t5_, h6_, hf⟩ := ob hf
  have K3_ : t5_ = true → Z Θ 2 0 0 (zQ Θ ρ) x1_ 31 [(0, .ref (zA Θ 3)), (1, .int person_a)] [] := by
    intro h13_
    rw [if_pos h13_] at hf
    refine z_iconst (v := 0) C dX6_readParty_31 ic_0 ?_
    cases hf
    subst hρ
    exact z_zret C (b2i_narrow _) dX6_readParty_32
  suffices K4_ : ¬ (t5_ = true) → Z Θ 2 0 0 (zQ Θ ρ) x1_ 33 [(0, .ref (zA Θ 3)), (1, .int person_a)] [] by
    refine z_aload_n C 0 dX6_readParty_7 rfl rfl ?_
    refine fg6_22 C hkd dX6_readParty_8 ?_
    refine z_ldcs (k := 3) (tx := "crust") C (List.mem_of_getElem? (i := 3) rfl) dX6_readParty_11 ?_
    obtain ⟨x7_, h8_, h6_⟩ := ob h6_
    refine cr6_55 (word_a := 3) C hkd (Nat.le_of_ble_eq_true rfl) h8_ ⟨(Nat.le_of_ble_eq_true rfl), (Nat.le_of_ble_eq_true rfl)⟩ (Nat.le_of_ble_eq_true rfl) ⟨Nat.zero_le _, Nat.zero_le _⟩ dX6_readParty_13 ?_
    refine cb_t C 33 dX6_readParty_16 (by decide) (fun h9_ => ?_) (fun h9_ => ?_)
    · rw [if_pos h9_] at h6_
      cases h6_
      exact K4_ Bool.false_ne_true
    · rw [if_neg h9_] at h6_
      refine z_aload_n C 0 dX6_readParty_19 rfl rfl ?_
      refine fg6_22 C hkd dX6_readParty_20 ?_
      refine z_ldcs (k := 4) (tx := "crumb") C (List.mem_of_getElem? (i := 4) rfl) dX6_readParty_23 ?_
      obtain ⟨x10_, h11_, h6_⟩ := ob h6_
      refine cr6_55 (word_a := 4) C hkd (Nat.le_of_ble_eq_true rfl) h11_ ⟨(Nat.le_of_ble_eq_true rfl), (Nat.le_of_ble_eq_true rfl)⟩ (Nat.le_of_ble_eq_true rfl) ⟨Nat.zero_le _, Nat.zero_le _⟩ dX6_readParty_25 ?_
      refine cb_t C 33 dX6_readParty_28 (by decide) (fun h12_ => ?_) (fun h12_ => ?_)
      · rw [if_pos h12_] at h6_
        cases h6_
        exact K4_ Bool.false_ne_true
      · rw [if_neg h12_] at h6_
        cases h6_
        exact K3_ rfl
  intro h13_
  rw [if_neg h13_] at hf
  refine z_aload_n C 0 dX6_readParty_33 rfl rfl ?_
  refine fg6_26 C hkd dX6_readParty_34 ?_
  refine fg6_100 C hkd isV_54 dX6_readParty_37 ?_
  refine z_iload_n C 1 dX6_readParty_40 rfl rfl ?_
  obtain ⟨x14_, h15_, hf⟩ := ob hf
  suffices K16_ : Z Θ 2 0 0 (zQ Θ ρ) x1_ 58 [(0, .ref (zA Θ 3)), (1, .int person_a)] [.int x14_, .int person_a, .ref (zA Θ (54 + 2))] by
    refine z_aload_n C 0 dX6_readParty_41 rfl rfl ?_
    refine fg6_22 C hkd dX6_readParty_42 ?_
    refine z_ldcs (k := 3) (tx := "crust") C (List.mem_of_getElem? (i := 3) rfl) dX6_readParty_45 ?_
    obtain ⟨x19_, h20_, h15_⟩ := ob h15_
    refine cr6_55 (word_a := 3) C hkd (Nat.le_of_ble_eq_true rfl) h20_ ⟨(Nat.le_of_ble_eq_true rfl), (Nat.le_of_ble_eq_true rfl)⟩ (Nat.le_of_ble_eq_true rfl) ⟨Nat.zero_le _, Nat.zero_le _⟩ dX6_readParty_47 ?_
    have K17_ : x19_ = true → Z Θ 2 0 0 (zQ Θ ρ) x1_ 53 [(0, .ref (zA Θ 3)), (1, .int person_a)] [.int person_a, .ref (zA Θ (54 + 2))] := by
      intro h22_
      rw [if_pos h22_] at h15_
      refine z_iconst (v := 0) C dX6_readParty_53 ic_0 ?_
      refine z_goto C 58 dX6_readParty_54 (by decide) ?_
      cases h15_
      exact K16_
    have K18_ : ¬ (x19_ = true) → Z Θ 2 0 0 (zQ Θ ρ) x1_ 57 [(0, .ref (zA Θ 3)), (1, .int person_a)] [.int person_a, .ref (zA Θ (54 + 2))] := by
      intro h22_
      rw [if_neg h22_] at h15_
      refine z_iconst (v := 1) C dX6_readParty_57 ic_1 ?_
      cases h15_
      exact K16_
    refine cb_f C 57 dX6_readParty_50 (by decide) (fun h21_ => ?_) (fun h21_ => ?_)
    · exact K17_ h21_
    · exact K18_ h21_
  obtain ⟨σ23_, h24_, hf⟩ := ob hf
  refine z_sa C h24_ (kV_2 hkd isV_54) dX6_readParty_58 ?_
  refine z_aload_n C 0 dX6_readParty_59 rfl rfl ?_
  refine fg6_22 C hkd dX6_readParty_60 ?_
  obtain ⟨x25_, h26_, hf⟩ := ob hf
  refine cr6_50 C hkd  h26_ ⟨(Nat.le_of_ble_eq_true rfl), (Nat.le_of_ble_eq_true rfl)⟩ (Nat.le_of_ble_eq_true rfl) ⟨Nat.zero_le _, Nat.zero_le _⟩ dX6_readParty_63 ?_
  refine z_iconst (v := 1) C dX6_readParty_66 ic_1 ?_
  cases hf
  subst hρ
  exact z_zret C (b2i_narrow _) dX6_readParty_67
theorem c6_readParty {l : Launch} {kd : List KD} {w : Wp} {σ : St} {person_a : Int32} (hkd : kd = kdC) (hi : zI kd w) {r : (Bool × St)} (hf : q6_readParty σ person_a = some r) : zM l kd w yX6_readParty cX6_readParty 2 (some .boolean) rm6_readParty [.ref (w.2.2.1 3), .int person_a] σ (some (.int (b2i r.1)), r.2) := zM_of rfl hi (Nat.le_of_ble_eq_true rfl) (fun Θ hl hw C => by
  obtain ⟨Θ1, Θ2, Θ3, Θ4, Θ5⟩ := Θ
  cases hw
  exact p6_readParty C hkd  hf rfl)
/-! LastLoaf$Reader.readPerson -/
theorem fp6_97 {Θ : Tz} {cc : ByteArray} {nL kc ks : Nat} {ret : Option FieldType} {rm : Room} {Q : State → Prop} {σ : St} {pc : Nat} {lv : List (Nat × Value)} {st : List Value} (C : Zc Θ cc nL RX6 ret rm) (hkd : Θ.2.2.2.2.1 = kdC) {th : Nat} (hth : isV th) {x : Int32} {σ1 : St} (he : σ1 = up σ th 8 x) (hd : decode cc pc = .ok (.putfield 97, 3)) (kk : Z Θ nL kc ks Q σ1 (pc + 3) lv st) : Z Θ nL kc ks Q σ pc lv (.int x :: .ref (zA Θ th) :: st) := by subst he; exact z_put C inT10 tyX10_ok nmX10 th (kV_0 hkd hth) rfl 8 (by decide) w_1_129 rfl rfl rfl rfl hd kk
theorem w_1_94 : Cond.fieldLink "LastLoaf$Reader" (105 : Nat) "LastLoaf$Village" "hunger" "[I" ∈ TB := tb_in (lwt_1 (List.mem_of_getElem? (i := 94) (by decide +kernel))) rfl
theorem fg6_105 {Θ : Tz} {cc : ByteArray} {nL kc ks : Nat} {ret : Option FieldType} {rm : Room} {Q : State → Prop} {σ : St} {pc : Nat} {lv : List (Nat × Value)} {st : List Value} (C : Zc Θ cc nL RX6 ret rm) (hkd : Θ.2.2.2.2.1 = kdC) {th : Nat} (hth : isV th) (hd : decode cc pc = .ok (.getfield 105, 3)) (kk : Z Θ nL kc ks Q σ (pc + 3) lv (.ref (zA Θ (th + 1)) :: st)) : Z Θ nL kc ks Q σ pc lv (.ref (zA Θ th) :: st) := z_get C inT10 th (kV_0 hkd hth) rfl 0 (by decide) w_1_94 rfl hd kk
theorem w_5_21 : Cond.code ({ cls := "LastLoaf$Reader", name := "readParty", desc := "(I)Z" } : MethodName) prog_8_method_6_code (2 : Nat) (Option.some ClassFile.FieldType.boolean) ∈ TB := tb_in (lwt_5 (List.mem_of_getElem? (i := 21) (by decide +kernel))) rfl
theorem w_5_18 : Cond.methodLink "LastLoaf$Reader" (108 : Nat) ({ cls := "LastLoaf$Reader", name := "readParty", desc := "(I)Z" } : MethodName) ∈ TB := tb_in (lwt_5 (List.mem_of_getElem? (i := 18) (by decide +kernel))) rfl
theorem w_5_19 : Cond.instanceMethod ({ cls := "LastLoaf$Reader", name := "readParty", desc := "(I)Z" } : MethodName) ∈ TB := tb_in (lwt_5 (List.mem_of_getElem? (i := 19) (by decide +kernel))) rfl
theorem w_5_20 : Cond.selects "LastLoaf$Reader" ({ cls := "LastLoaf$Reader", name := "readParty", desc := "(I)Z" } : MethodName) ({ cls := "LastLoaf$Reader", name := "readParty", desc := "(I)Z" } : MethodName) ∈ TB := tb_in (lwt_5 (List.mem_of_getElem? (i := 20) (by decide +kernel))) rfl
theorem cr6_108 {Θ : Tz} {cc : ByteArray} {nL kc ks : Nat} {ret : Option FieldType} {rm : Room} {Q : State → Prop} {σ : St} {pc : Nat} {lv : List (Nat × Value)} {st : List Value} (C : Zc Θ cc nL RX6 ret rm) (hkd : Θ.2.2.2.2.1 = kdC) {person_a : Int32} {r : Bool × St} (hx : q6_readParty σ person_a = some r) (hrm : rm6_readParty.frames + 1 ≤ rm.frames ∧ 8 + (2 + 11) + rm6_readParty.locals ≤ rm.locals) (hcat : (st.map fun v => v.category).sum ≤ 8) (hk : kc ≤ rm.cells ∧ ks ≤ rm.slots) (hd : decode cc pc = .ok (.invokevirtual 108, 3)) (kk : Z Θ nL kc ks Q r.2 (pc + 3) lv (.int (b2i r.1) :: st)) : Z Θ nL kc ks Q σ pc lv (.int person_a :: .ref (zA Θ 3) :: st) := z_callV C 3 [.int person_a] (some (.int (b2i r.1)), r.2) 1 (kC_3 hkd) rfl (c6_readParty (person_a := person_a) hkd (zc_inj C) hx) w_5_21 w_5_18 w_5_19 w_5_20 w_1_7 ⟨rfl, rfl, hrm.1, hrm.2⟩ (by decide +kernel) rfl rfl hcat hk hd kk
theorem w_1_101 : Cond.fieldLink "LastLoaf$Reader" (114 : Nat) "LastLoaf$Village" "skin" "[I" ∈ TB := tb_in (lwt_1 (List.mem_of_getElem? (i := 101) (by decide +kernel))) rfl
theorem fg6_114 {Θ : Tz} {cc : ByteArray} {nL kc ks : Nat} {ret : Option FieldType} {rm : Room} {Q : State → Prop} {σ : St} {pc : Nat} {lv : List (Nat × Value)} {st : List Value} (C : Zc Θ cc nL RX6 ret rm) (hkd : Θ.2.2.2.2.1 = kdC) {th : Nat} (hth : isV th) (hd : decode cc pc = .ok (.getfield 114, 3)) (kk : Z Θ nL kc ks Q σ (pc + 3) lv (.ref (zA Θ (th + 3)) :: st)) : Z Θ nL kc ks Q σ pc lv (.ref (zA Θ th) :: st) := z_get C inT10 th (kV_0 hkd hth) rfl 2 (by decide) w_1_101 rfl hd kk
theorem w_1_134 : Cond.fieldLink "LastLoaf$Reader" (118 : Nat) "LastLoaf$Village" "standing" "I" ∈ TB := tb_in (lwt_1 (List.mem_of_getElem? (i := 134) (by decide +kernel))) rfl
theorem fg6_118 {Θ : Tz} {cc : ByteArray} {nL kc ks : Nat} {ret : Option FieldType} {rm : Room} {Q : State → Prop} {σ : St} {pc : Nat} {lv : List (Nat × Value)} {st : List Value} (C : Zc Θ cc nL RX6 ret rm) (hkd : Θ.2.2.2.2.1 = kdC) {th : Nat} (hth : isV th) (hd : decode cc pc = .ok (.getfield 118, 3)) (kk : Z Θ nL kc ks Q σ (pc + 3) lv (.int (σ th 9) :: st)) : Z Θ nL kc ks Q σ pc lv (.ref (zA Θ th) :: st) := z_get C inT10 th (kV_0 hkd hth) rfl 9 (by decide) w_1_134 rfl hd kk
theorem fp6_118 {Θ : Tz} {cc : ByteArray} {nL kc ks : Nat} {ret : Option FieldType} {rm : Room} {Q : State → Prop} {σ : St} {pc : Nat} {lv : List (Nat × Value)} {st : List Value} (C : Zc Θ cc nL RX6 ret rm) (hkd : Θ.2.2.2.2.1 = kdC) {th : Nat} (hth : isV th) {x : Int32} {σ1 : St} (he : σ1 = up σ th 9 x) (hd : decode cc pc = .ok (.putfield 118, 3)) (kk : Z Θ nL kc ks Q σ1 (pc + 3) lv st) : Z Θ nL kc ks Q σ pc lv (.int x :: .ref (zA Θ th) :: st) := by subst he; exact z_put C inT10 tyX10_ok nmX10 th (kV_0 hkd hth) rfl 9 (by decide) w_1_134 rfl rfl rfl rfl hd kk
theorem dX6_readPerson_0 : decode cX6_readPerson 0 = .ok (.aload_n 0, 1) := by decide +kernel
theorem dX6_readPerson_1 : decode cX6_readPerson 1 = .ok (.getfield 26, 3) := by decide +kernel
theorem dX6_readPerson_4 : decode cX6_readPerson 4 = .ok (.getfield 97, 3) := by decide +kernel
theorem dX6_readPerson_7 : decode cX6_readPerson 7 = .ok (.istore_n 1, 1) := by decide +kernel
theorem dX6_readPerson_8 : decode cX6_readPerson 8 = .ok (.iload_n 1, 1) := by decide +kernel
theorem dX6_readPerson_9 : decode cX6_readPerson 9 = .ok (.bipush 6, 2) := by decide +kernel
theorem dX6_readPerson_11 : decode cX6_readPerson 11 = .ok (.if_icmp .lt 5, 3) := by decide +kernel
theorem dX6_readPerson_14 : decode cX6_readPerson 14 = .ok (.iconst 0, 1) := by decide +kernel
theorem dX6_readPerson_15 : decode cX6_readPerson 15 = .ok (.ireturn, 1) := by decide +kernel
theorem dX6_readPerson_16 : decode cX6_readPerson 16 = .ok (.aload_n 0, 1) := by decide +kernel
theorem dX6_readPerson_17 : decode cX6_readPerson 17 = .ok (.getfield 26, 3) := by decide +kernel
theorem dX6_readPerson_20 : decode cX6_readPerson 20 = .ok (.dup, 1) := by decide +kernel
theorem dX6_readPerson_21 : decode cX6_readPerson 21 = .ok (.getfield 97, 3) := by decide +kernel
theorem dX6_readPerson_24 : decode cX6_readPerson 24 = .ok (.iconst 1, 1) := by decide +kernel
theorem dX6_readPerson_25 : decode cX6_readPerson 25 = .ok (.iadd, 1) := by decide +kernel
theorem dX6_readPerson_26 : decode cX6_readPerson 26 = .ok (.putfield 97, 3) := by decide +kernel
theorem dX6_readPerson_29 : decode cX6_readPerson 29 = .ok (.aload_n 0, 1) := by decide +kernel
theorem dX6_readPerson_30 : decode cX6_readPerson 30 = .ok (.getfield 26, 3) := by decide +kernel
theorem dX6_readPerson_33 : decode cX6_readPerson 33 = .ok (.getfield 100, 3) := by decide +kernel
theorem dX6_readPerson_36 : decode cX6_readPerson 36 = .ok (.iload_n 1, 1) := by decide +kernel
theorem dX6_readPerson_37 : decode cX6_readPerson 37 = .ok (.iconst 2, 1) := by decide +kernel
theorem dX6_readPerson_38 : decode cX6_readPerson 38 = .ok (.iastore, 1) := by decide +kernel
theorem dX6_readPerson_39 : decode cX6_readPerson 39 = .ok (.aload_n 0, 1) := by decide +kernel
theorem dX6_readPerson_40 : decode cX6_readPerson 40 = .ok (.getfield 22, 3) := by decide +kernel
theorem dX6_readPerson_43 : decode cX6_readPerson 43 = .ok (.invokevirtual 50, 3) := by decide +kernel
theorem dX6_readPerson_46 : decode cX6_readPerson 46 = .ok (.aload_n 0, 1) := by decide +kernel
theorem dX6_readPerson_47 : decode cX6_readPerson 47 = .ok (.getfield 22, 3) := by decide +kernel
theorem dX6_readPerson_50 : decode cX6_readPerson 50 = .ok (.ldc 103, 2) := by decide +kernel
theorem dX6_readPerson_52 : decode cX6_readPerson 52 = .ok (.invokevirtual 55, 3) := by decide +kernel
theorem dX6_readPerson_55 : decode cX6_readPerson 55 = .ok (.ifCond .ne 5, 3) := by decide +kernel
theorem dX6_readPerson_58 : decode cX6_readPerson 58 = .ok (.iconst 0, 1) := by decide +kernel
theorem dX6_readPerson_59 : decode cX6_readPerson 59 = .ok (.ireturn, 1) := by decide +kernel
theorem dX6_readPerson_60 : decode cX6_readPerson 60 = .ok (.aload_n 0, 1) := by decide +kernel
theorem dX6_readPerson_61 : decode cX6_readPerson 61 = .ok (.getfield 26, 3) := by decide +kernel
theorem dX6_readPerson_64 : decode cX6_readPerson 64 = .ok (.getfield 105, 3) := by decide +kernel
theorem dX6_readPerson_67 : decode cX6_readPerson 67 = .ok (.iload_n 1, 1) := by decide +kernel
theorem dX6_readPerson_68 : decode cX6_readPerson 68 = .ok (.aload_n 0, 1) := by decide +kernel
theorem dX6_readPerson_69 : decode cX6_readPerson 69 = .ok (.bipush 9, 2) := by decide +kernel
theorem dX6_readPerson_71 : decode cX6_readPerson 71 = .ok (.invokevirtual 74, 3) := by decide +kernel
theorem dX6_readPerson_74 : decode cX6_readPerson 74 = .ok (.iastore, 1) := by decide +kernel
theorem dX6_readPerson_75 : decode cX6_readPerson 75 = .ok (.aload_n 0, 1) := by decide +kernel
theorem dX6_readPerson_76 : decode cX6_readPerson 76 = .ok (.getfield 26, 3) := by decide +kernel
theorem dX6_readPerson_79 : decode cX6_readPerson 79 = .ok (.getfield 105, 3) := by decide +kernel
theorem dX6_readPerson_82 : decode cX6_readPerson 82 = .ok (.iload_n 1, 1) := by decide +kernel
theorem dX6_readPerson_83 : decode cX6_readPerson 83 = .ok (.iaload, 1) := by decide +kernel
theorem dX6_readPerson_84 : decode cX6_readPerson 84 = .ok (.iconst (-1), 1) := by decide +kernel
theorem dX6_readPerson_85 : decode cX6_readPerson 85 = .ok (.if_icmp .ne 5, 3) := by decide +kernel
theorem dX6_readPerson_88 : decode cX6_readPerson 88 = .ok (.iconst 0, 1) := by decide +kernel
theorem dX6_readPerson_89 : decode cX6_readPerson 89 = .ok (.ireturn, 1) := by decide +kernel
theorem dX6_readPerson_90 : decode cX6_readPerson 90 = .ok (.aload_n 0, 1) := by decide +kernel
theorem dX6_readPerson_91 : decode cX6_readPerson 91 = .ok (.getfield 22, 3) := by decide +kernel
theorem dX6_readPerson_94 : decode cX6_readPerson 94 = .ok (.ldc 107, 2) := by decide +kernel
theorem dX6_readPerson_96 : decode cX6_readPerson 96 = .ok (.invokevirtual 55, 3) := by decide +kernel
theorem dX6_readPerson_99 : decode cX6_readPerson 99 = .ok (.ifCond .eq 13, 3) := by decide +kernel
theorem dX6_readPerson_102 : decode cX6_readPerson 102 = .ok (.aload_n 0, 1) := by decide +kernel
theorem dX6_readPerson_103 : decode cX6_readPerson 103 = .ok (.iload_n 1, 1) := by decide +kernel
theorem dX6_readPerson_104 : decode cX6_readPerson 104 = .ok (.invokevirtual 108, 3) := by decide +kernel
theorem dX6_readPerson_107 : decode cX6_readPerson 107 = .ok (.ifCond .ne 5, 3) := by decide +kernel
theorem dX6_readPerson_110 : decode cX6_readPerson 110 = .ok (.iconst 0, 1) := by decide +kernel
theorem dX6_readPerson_111 : decode cX6_readPerson 111 = .ok (.ireturn, 1) := by decide +kernel
theorem dX6_readPerson_112 : decode cX6_readPerson 112 = .ok (.aload_n 0, 1) := by decide +kernel
theorem dX6_readPerson_113 : decode cX6_readPerson 113 = .ok (.getfield 22, 3) := by decide +kernel
theorem dX6_readPerson_116 : decode cX6_readPerson 116 = .ok (.ldc 112, 2) := by decide +kernel
theorem dX6_readPerson_118 : decode cX6_readPerson 118 = .ok (.invokevirtual 55, 3) := by decide +kernel
theorem dX6_readPerson_121 : decode cX6_readPerson 121 = .ok (.ifCond .eq 18, 3) := by decide +kernel
theorem dX6_readPerson_124 : decode cX6_readPerson 124 = .ok (.aload_n 0, 1) := by decide +kernel
theorem dX6_readPerson_125 : decode cX6_readPerson 125 = .ok (.getfield 26, 3) := by decide +kernel
theorem dX6_readPerson_128 : decode cX6_readPerson 128 = .ok (.getfield 114, 3) := by decide +kernel
theorem dX6_readPerson_131 : decode cX6_readPerson 131 = .ok (.iload_n 1, 1) := by decide +kernel
theorem dX6_readPerson_132 : decode cX6_readPerson 132 = .ok (.aload_n 0, 1) := by decide +kernel
theorem dX6_readPerson_133 : decode cX6_readPerson 133 = .ok (.bipush 9, 2) := by decide +kernel
theorem dX6_readPerson_135 : decode cX6_readPerson 135 = .ok (.invokevirtual 74, 3) := by decide +kernel
theorem dX6_readPerson_138 : decode cX6_readPerson 138 = .ok (.iastore, 1) := by decide +kernel
theorem dX6_readPerson_139 : decode cX6_readPerson 139 = .ok (.aload_n 0, 1) := by decide +kernel
theorem dX6_readPerson_140 : decode cX6_readPerson 140 = .ok (.getfield 26, 3) := by decide +kernel
theorem dX6_readPerson_143 : decode cX6_readPerson 143 = .ok (.getfield 114, 3) := by decide +kernel
theorem dX6_readPerson_146 : decode cX6_readPerson 146 = .ok (.iload_n 1, 1) := by decide +kernel
theorem dX6_readPerson_147 : decode cX6_readPerson 147 = .ok (.iaload, 1) := by decide +kernel
theorem dX6_readPerson_148 : decode cX6_readPerson 148 = .ok (.iconst (-1), 1) := by decide +kernel
theorem dX6_readPerson_149 : decode cX6_readPerson 149 = .ok (.if_icmp .eq 37, 3) := by decide +kernel
theorem dX6_readPerson_152 : decode cX6_readPerson 152 = .ok (.aload_n 0, 1) := by decide +kernel
theorem dX6_readPerson_153 : decode cX6_readPerson 153 = .ok (.getfield 22, 3) := by decide +kernel
theorem dX6_readPerson_156 : decode cX6_readPerson 156 = .ok (.ldc 116, 2) := by decide +kernel
theorem dX6_readPerson_158 : decode cX6_readPerson 158 = .ok (.invokevirtual 55, 3) := by decide +kernel
theorem dX6_readPerson_161 : decode cX6_readPerson 161 = .ok (.ifCond .eq 25, 3) := by decide +kernel
theorem dX6_readPerson_164 : decode cX6_readPerson 164 = .ok (.aload_n 0, 1) := by decide +kernel
theorem dX6_readPerson_165 : decode cX6_readPerson 165 = .ok (.getfield 26, 3) := by decide +kernel
theorem dX6_readPerson_168 : decode cX6_readPerson 168 = .ok (.dup, 1) := by decide +kernel
theorem dX6_readPerson_169 : decode cX6_readPerson 169 = .ok (.getfield 118, 3) := by decide +kernel
theorem dX6_readPerson_172 : decode cX6_readPerson 172 = .ok (.iconst 1, 1) := by decide +kernel
theorem dX6_readPerson_173 : decode cX6_readPerson 173 = .ok (.iload_n 1, 1) := by decide +kernel
theorem dX6_readPerson_174 : decode cX6_readPerson 174 = .ok (.ishl, 1) := by decide +kernel
theorem dX6_readPerson_175 : decode cX6_readPerson 175 = .ok (.ior, 1) := by decide +kernel
theorem dX6_readPerson_176 : decode cX6_readPerson 176 = .ok (.putfield 118, 3) := by decide +kernel
theorem dX6_readPerson_179 : decode cX6_readPerson 179 = .ok (.aload_n 0, 1) := by decide +kernel
theorem dX6_readPerson_180 : decode cX6_readPerson 180 = .ok (.getfield 22, 3) := by decide +kernel
theorem dX6_readPerson_183 : decode cX6_readPerson 183 = .ok (.invokevirtual 50, 3) := by decide +kernel
theorem dX6_readPerson_186 : decode cX6_readPerson 186 = .ok (.aload_n 0, 1) := by decide +kernel
theorem dX6_readPerson_187 : decode cX6_readPerson 187 = .ok (.getfield 26, 3) := by decide +kernel
theorem dX6_readPerson_190 : decode cX6_readPerson 190 = .ok (.getfield 114, 3) := by decide +kernel
theorem dX6_readPerson_193 : decode cX6_readPerson 193 = .ok (.iload_n 1, 1) := by decide +kernel
theorem dX6_readPerson_194 : decode cX6_readPerson 194 = .ok (.iaload, 1) := by decide +kernel
theorem dX6_readPerson_195 : decode cX6_readPerson 195 = .ok (.iconst (-1), 1) := by decide +kernel
theorem dX6_readPerson_196 : decode cX6_readPerson 196 = .ok (.if_icmp .eq 7, 3) := by decide +kernel
theorem dX6_readPerson_199 : decode cX6_readPerson 199 = .ok (.iconst 1, 1) := by decide +kernel
theorem dX6_readPerson_200 : decode cX6_readPerson 200 = .ok (.goto 4, 3) := by decide +kernel
theorem dX6_readPerson_203 : decode cX6_readPerson 203 = .ok (.iconst 0, 1) := by decide +kernel
theorem dX6_readPerson_204 : decode cX6_readPerson 204 = .ok (.ireturn, 1) := by decide +kernel
def q6_readPerson (σ : St) : Option (Bool × St) :=
  lt (σ 54 8) fun person1_ =>
  if 6 ≤ person1_ then (some (false, σ)) else
  lt (up σ 54 8 ((σ 54 8) + 1)) fun σ7_ =>
  Option.bind (sa σ7_ (54 + 2) 6 person1_ 2) fun σ9_ =>
  Option.bind (q8_advance σ9_) fun x11_ =>
  Option.bind (q8_isWord x11_ 1) fun x15_ =>
  if ¬ (x15_ = true) then (some (false, x11_)) else
  Option.bind (q6_numberFollows x11_ 9) fun x19_ =>
  Option.bind (sa x19_.2 (54 + 1) 6 person1_ x19_.1) fun σ21_ =>
  Option.bind (ag σ21_ (54 + 1) 6 person1_) fun x25_ =>
  if x25_ = (-1) then (some (false, σ21_)) else
  Option.bind (Option.bind (q8_isWord σ21_ 2) fun x33_ =>
  if x33_ = true then (Option.bind (q6_readParty σ21_ person1_) fun x36_ =>
  if x36_.1 = true then (some (false, x36_.2)) else (some (true, x36_.2))) else (some (false, σ21_))) fun t31_ =>
  if t31_.1 = true then (some (false, t31_.2)) else
  Option.bind (Option.bind (q8_isWord t31_.2 5) fun x45_ =>
  if x45_ = true then (Option.bind (q6_numberFollows t31_.2 9) fun x49_ =>
  Option.bind (sa x49_.2 (54 + 3) 6 person1_ x49_.1) fun σ51_ =>
  some (σ51_)) else (some (t31_.2))) fun y40_ =>
  Option.bind (Option.bind (Option.bind (ag y40_ (54 + 3) 6 person1_) fun x60_ =>
  if ¬ x60_ = (-1) then (Option.bind (q8_isWord y40_ 6) fun x63_ =>
  if x63_ = true then (some true) else (some false)) else (some false)) fun t58_ =>
  if t58_ = true then (lt (up y40_ 54 9 ((y40_ 54 9) ||| (shl 1 person1_))) fun σ67_ =>
  Option.bind (q8_advance σ67_) fun x69_ =>
  some (x69_)) else (some (y40_))) fun y53_ =>
  Option.bind (Option.bind (ag y53_ (54 + 3) 6 person1_) fun x76_ =>
  if ¬ x76_ = (-1) then (some true) else (some false)) fun x71_ =>
  some (x71_, y53_)
abbrev rm6_readPerson : Room := { frames := 6, cells := 0, slots := 0, locals := 128 }
set_option maxHeartbeats 4000000 in
set_option maxRecDepth 100000 in
theorem p6_readPerson {Θ : Tz} {σ : St} {ρ : Option Value × St} (C : Zc Θ cX6_readPerson 2 RX6 (some .boolean) rm6_readPerson) (hkd : Θ.2.2.2.2.1 = kdC) {r : (Bool × St)} (hf : q6_readPerson σ = some r) (hρ : ρ = (some (.int (b2i r.1)), r.2)) : Z Θ 2 0 0 (zQ Θ ρ) σ 0 [(0, .ref (zA Θ 3))] [] := by
  unfold q6_readPerson at hf
  refine z_aload_n C 0 dX6_readPerson_0 rfl rfl ?_
  refine fg6_26 C hkd dX6_readPerson_1 ?_
  refine fg6_97 C hkd isV_54 dX6_readPerson_4 ?_
  obtain ⟨person1_, h2_, hf⟩ := lt_ hf
  refine z_istN C dX6_readPerson_7 h2_ rfl (Nat.le_of_ble_eq_true rfl) rfl ?_
  have K3_ : 6 ≤ person1_ → Z Θ 2 0 0 (zQ Θ ρ) σ 14 [(1, .int person1_), (0, .ref (zA Θ 3))] [] := by
    intro h6_
    rw [if_pos h6_] at hf
    refine z_iconst (v := 0) C dX6_readPerson_14 ic_0 ?_
    cases hf
    subst hρ
    exact z_zret C (b2i_narrow _) dX6_readPerson_15
  suffices K4_ : ¬ (6 ≤ person1_) → Z Θ 2 0 0 (zQ Θ ρ) σ 16 [(1, .int person1_), (0, .ref (zA Θ 3))] [] by
    refine z_iload_n C 0 dX6_readPerson_8 rfl rfl ?_
    refine z_bipush (v := 6) C dX6_readPerson_9 bp_6 ?_
    refine c_ge_f C 16 dX6_readPerson_11 (by decide) (fun h5_ => ?_) (fun h5_ => ?_)
    · exact K3_ h5_
    · exact K4_ h5_
  intro h6_
  rw [if_neg h6_] at hf
  refine z_aload_n C 1 dX6_readPerson_16 rfl rfl ?_
  refine fg6_26 C hkd dX6_readPerson_17 ?_
  refine z_dup C dX6_readPerson_20 rfl ?_
  refine fg6_97 C hkd isV_54 dX6_readPerson_21 ?_
  refine z_iconst (v := 1) C dX6_readPerson_24 ic_1 ?_
  refine z_iadd C dX6_readPerson_25 ?_
  obtain ⟨σ7_, h8_, hf⟩ := lt_ hf
  refine fp6_97 C hkd isV_54 h8_ dX6_readPerson_26 ?_
  refine z_aload_n C 1 dX6_readPerson_29 rfl rfl ?_
  refine fg6_26 C hkd dX6_readPerson_30 ?_
  refine fg6_100 C hkd isV_54 dX6_readPerson_33 ?_
  refine z_iload_n C 0 dX6_readPerson_36 rfl rfl ?_
  refine z_iconst (v := 2) C dX6_readPerson_37 ic_2 ?_
  obtain ⟨σ9_, h10_, hf⟩ := ob hf
  refine z_sa C h10_ (kV_2 hkd isV_54) dX6_readPerson_38 ?_
  refine z_aload_n C 1 dX6_readPerson_39 rfl rfl ?_
  refine fg6_22 C hkd dX6_readPerson_40 ?_
  obtain ⟨x11_, h12_, hf⟩ := ob hf
  refine cr6_50 C hkd  h12_ ⟨(Nat.le_of_ble_eq_true rfl), (Nat.le_of_ble_eq_true rfl)⟩ (Nat.le_of_ble_eq_true rfl) ⟨Nat.zero_le _, Nat.zero_le _⟩ dX6_readPerson_43 ?_
  refine z_aload_n C 1 dX6_readPerson_46 rfl rfl ?_
  refine fg6_22 C hkd dX6_readPerson_47 ?_
  refine z_ldcs (k := 1) (tx := "hunger") C (List.mem_of_getElem? (i := 1) rfl) dX6_readPerson_50 ?_
  obtain ⟨x15_, h16_, hf⟩ := ob hf
  refine cr6_55 (word_a := 1) C hkd (Nat.le_of_ble_eq_true rfl) h16_ ⟨(Nat.le_of_ble_eq_true rfl), (Nat.le_of_ble_eq_true rfl)⟩ (Nat.le_of_ble_eq_true rfl) ⟨Nat.zero_le _, Nat.zero_le _⟩ dX6_readPerson_52 ?_
  have K13_ : ¬ (x15_ = true) → Z Θ 2 0 0 (zQ Θ ρ) x11_ 58 [(1, .int person1_), (0, .ref (zA Θ 3))] [] := by
    intro h18_
    rw [if_pos h18_] at hf
    refine z_iconst (v := 0) C dX6_readPerson_58 ic_0 ?_
    cases hf
    subst hρ
    exact z_zret C (b2i_narrow _) dX6_readPerson_59
  suffices K14_ : ¬ (¬ (x15_ = true)) → Z Θ 2 0 0 (zQ Θ ρ) x11_ 60 [(1, .int person1_), (0, .ref (zA Θ 3))] [] by
    refine cb_t C 60 dX6_readPerson_55 (by decide) (fun h17_ => ?_) (fun h17_ => ?_)
    · exact K14_ (fun n => n h17_)
    · exact K13_ h17_
  intro h18_
  rw [if_neg h18_] at hf
  refine z_aload_n C 1 dX6_readPerson_60 rfl rfl ?_
  refine fg6_26 C hkd dX6_readPerson_61 ?_
  refine fg6_105 C hkd isV_54 dX6_readPerson_64 ?_
  refine z_iload_n C 0 dX6_readPerson_67 rfl rfl ?_
  refine z_aload_n C 1 dX6_readPerson_68 rfl rfl ?_
  refine z_bipush (v := 9) C dX6_readPerson_69 bp_9 ?_
  obtain ⟨x19_, h20_, hf⟩ := ob hf
  refine cr6_74 (most_a := 9) C hkd  h20_ ⟨(Nat.le_of_ble_eq_true rfl), (Nat.le_of_ble_eq_true rfl)⟩ (Nat.le_of_ble_eq_true rfl) ⟨Nat.zero_le _, Nat.zero_le _⟩ dX6_readPerson_71 ?_
  obtain ⟨σ21_, h22_, hf⟩ := ob hf
  refine z_sa C h22_ (kV_1 hkd isV_54) dX6_readPerson_74 ?_
  refine z_aload_n C 1 dX6_readPerson_75 rfl rfl ?_
  refine fg6_26 C hkd dX6_readPerson_76 ?_
  refine fg6_105 C hkd isV_54 dX6_readPerson_79 ?_
  refine z_iload_n C 0 dX6_readPerson_82 rfl rfl ?_
  obtain ⟨x25_, h26_, hf⟩ := ob hf
  refine z_ag C h26_ (kV_1 hkd isV_54) dX6_readPerson_83 ?_
  refine z_iconst (v := (-1)) C dX6_readPerson_84 ic_m1 ?_
  have K23_ : x25_ = (-1) → Z Θ 2 0 0 (zQ Θ ρ) σ21_ 88 [(1, .int person1_), (0, .ref (zA Θ 3))] [] := by
    intro h28_
    rw [if_pos h28_] at hf
    refine z_iconst (v := 0) C dX6_readPerson_88 ic_0 ?_
    cases hf
    subst hρ
    exact z_zret C (b2i_narrow _) dX6_readPerson_89
  suffices K24_ : ¬ (x25_ = (-1)) → Z Θ 2 0 0 (zQ Θ ρ) σ21_ 90 [(1, .int person1_), (0, .ref (zA Θ 3))] [] by
    refine c_eq_f C 90 dX6_readPerson_85 (by decide) (fun h27_ => ?_) (fun h27_ => ?_)
    · exact K23_ h27_
    · exact K24_ h27_
  intro h28_
  rw [if_neg h28_] at hf
  obtain ⟨t31_, h32_, hf⟩ := ob hf
  have K29_ : t31_.1 = true → Z Θ 2 0 0 (zQ Θ ρ) t31_.2 110 [(1, .int person1_), (0, .ref (zA Θ 3))] [] := by
    intro h39_
    rw [if_pos h39_] at hf
    refine z_iconst (v := 0) C dX6_readPerson_110 ic_0 ?_
    cases hf
    subst hρ
    exact z_zret C (b2i_narrow _) dX6_readPerson_111
  suffices K30_ : ¬ (t31_.1 = true) → Z Θ 2 0 0 (zQ Θ ρ) t31_.2 112 [(1, .int person1_), (0, .ref (zA Θ 3))] [] by
    refine z_aload_n C 1 dX6_readPerson_90 rfl rfl ?_
    refine fg6_22 C hkd dX6_readPerson_91 ?_
    refine z_ldcs (k := 2) (tx := "party") C (List.mem_of_getElem? (i := 2) rfl) dX6_readPerson_94 ?_
    obtain ⟨x33_, h34_, h32_⟩ := ob h32_
    refine cr6_55 (word_a := 2) C hkd (Nat.le_of_ble_eq_true rfl) h34_ ⟨(Nat.le_of_ble_eq_true rfl), (Nat.le_of_ble_eq_true rfl)⟩ (Nat.le_of_ble_eq_true rfl) ⟨Nat.zero_le _, Nat.zero_le _⟩ dX6_readPerson_96 ?_
    refine cb_f C 112 dX6_readPerson_99 (by decide) (fun h35_ => ?_) (fun h35_ => ?_)
    · rw [if_pos h35_] at h32_
      refine z_aload_n C 1 dX6_readPerson_102 rfl rfl ?_
      refine z_iload_n C 0 dX6_readPerson_103 rfl rfl ?_
      obtain ⟨x36_, h37_, h32_⟩ := ob h32_
      refine cr6_108 (person_a := person1_) C hkd  h37_ ⟨(Nat.le_of_ble_eq_true rfl), (Nat.le_of_ble_eq_true rfl)⟩ (Nat.le_of_ble_eq_true rfl) ⟨Nat.zero_le _, Nat.zero_le _⟩ dX6_readPerson_104 ?_
      refine cb_t C 112 dX6_readPerson_107 (by decide) (fun h38_ => ?_) (fun h38_ => ?_)
      · rw [if_pos h38_] at h32_
        cases h32_
        exact K30_ Bool.false_ne_true
      · rw [if_neg h38_] at h32_
        cases h32_
        exact K29_ rfl
    · rw [if_neg h35_] at h32_
      cases h32_
      exact K30_ Bool.false_ne_true
  intro h39_
  rw [if_neg h39_] at hf
  obtain ⟨y40_, h41_, hf⟩ := ob hf
  suffices K42_ : Z Θ 2 0 0 (zQ Θ ρ) y40_ 139 [(0, .ref (zA Θ 3)), (1, .int person1_)] [] by
    refine z_aload_n C 1 dX6_readPerson_112 rfl rfl ?_
    refine fg6_22 C hkd dX6_readPerson_113 ?_
    refine z_ldcs (k := 5) (tx := "skin") C (List.mem_of_getElem? (i := 5) rfl) dX6_readPerson_116 ?_
    obtain ⟨x45_, h46_, h41_⟩ := ob h41_
    refine cr6_55 (word_a := 5) C hkd (Nat.le_of_ble_eq_true rfl) h46_ ⟨(Nat.le_of_ble_eq_true rfl), (Nat.le_of_ble_eq_true rfl)⟩ (Nat.le_of_ble_eq_true rfl) ⟨Nat.zero_le _, Nat.zero_le _⟩ dX6_readPerson_118 ?_
    have K43_ : x45_ = true → Z Θ 2 0 0 (zQ Θ ρ) t31_.2 124 [(1, .int person1_), (0, .ref (zA Θ 3))] [] := by
      intro h48_
      rw [if_pos h48_] at h41_
      refine z_aload_n C 1 dX6_readPerson_124 rfl rfl ?_
      refine fg6_26 C hkd dX6_readPerson_125 ?_
      refine fg6_114 C hkd isV_54 dX6_readPerson_128 ?_
      refine z_iload_n C 0 dX6_readPerson_131 rfl rfl ?_
      refine z_aload_n C 1 dX6_readPerson_132 rfl rfl ?_
      refine z_bipush (v := 9) C dX6_readPerson_133 bp_9 ?_
      obtain ⟨x49_, h50_, h41_⟩ := ob h41_
      refine cr6_74 (most_a := 9) C hkd  h50_ ⟨(Nat.le_of_ble_eq_true rfl), (Nat.le_of_ble_eq_true rfl)⟩ (Nat.le_of_ble_eq_true rfl) ⟨Nat.zero_le _, Nat.zero_le _⟩ dX6_readPerson_135 ?_
      obtain ⟨σ51_, h52_, h41_⟩ := ob h41_
      refine z_sa C h52_ (kV_3 hkd isV_54) dX6_readPerson_138 ?_
      cases h41_
      refine Z.sub [1, 0] rfl ?_
      exact K42_
    have K44_ : ¬ (x45_ = true) → Z Θ 2 0 0 (zQ Θ ρ) t31_.2 139 [(1, .int person1_), (0, .ref (zA Θ 3))] [] := by
      intro h48_
      rw [if_neg h48_] at h41_
      cases h41_
      refine Z.sub [1, 0] rfl ?_
      exact K42_
    refine cb_f C 139 dX6_readPerson_121 (by decide) (fun h47_ => ?_) (fun h47_ => ?_)
    · exact K43_ h47_
    · exact K44_ h47_
  obtain ⟨y53_, h54_, hf⟩ := ob hf
  suffices K55_ : Z Θ 2 0 0 (zQ Θ ρ) y53_ 186 [(0, .ref (zA Θ 3)), (1, .int person1_)] [] by
    obtain ⟨t58_, h59_, h54_⟩ := ob h54_
    have K56_ : t58_ = true → Z Θ 2 0 0 (zQ Θ ρ) y40_ 164 [(0, .ref (zA Θ 3)), (1, .int person1_)] [] := by
      intro h66_
      rw [if_pos h66_] at h54_
      refine z_aload_n C 0 dX6_readPerson_164 rfl rfl ?_
      refine fg6_26 C hkd dX6_readPerson_165 ?_
      refine z_dup C dX6_readPerson_168 rfl ?_
      refine fg6_118 C hkd isV_54 dX6_readPerson_169 ?_
      refine z_iconst (v := 1) C dX6_readPerson_172 ic_1 ?_
      refine z_iload_n C 1 dX6_readPerson_173 rfl rfl ?_
      refine z_shl C dX6_readPerson_174 ?_
      refine z_ior C dX6_readPerson_175 ?_
      obtain ⟨σ67_, h68_, h54_⟩ := lt_ h54_
      refine fp6_118 C hkd isV_54 h68_ dX6_readPerson_176 ?_
      refine z_aload_n C 0 dX6_readPerson_179 rfl rfl ?_
      refine fg6_22 C hkd dX6_readPerson_180 ?_
      obtain ⟨x69_, h70_, h54_⟩ := ob h54_
      refine cr6_50 C hkd  h70_ ⟨(Nat.le_of_ble_eq_true rfl), (Nat.le_of_ble_eq_true rfl)⟩ (Nat.le_of_ble_eq_true rfl) ⟨Nat.zero_le _, Nat.zero_le _⟩ dX6_readPerson_183 ?_
      cases h54_
      exact K55_
    have K57_ : ¬ (t58_ = true) → Z Θ 2 0 0 (zQ Θ ρ) y40_ 186 [(0, .ref (zA Θ 3)), (1, .int person1_)] [] := by
      intro h66_
      rw [if_neg h66_] at h54_
      cases h54_
      exact K55_
    refine z_aload_n C 0 dX6_readPerson_139 rfl rfl ?_
    refine fg6_26 C hkd dX6_readPerson_140 ?_
    refine fg6_114 C hkd isV_54 dX6_readPerson_143 ?_
    refine z_iload_n C 1 dX6_readPerson_146 rfl rfl ?_
    obtain ⟨x60_, h61_, h59_⟩ := ob h59_
    refine z_ag C h61_ (kV_3 hkd isV_54) dX6_readPerson_147 ?_
    refine z_iconst (v := (-1)) C dX6_readPerson_148 ic_m1 ?_
    refine c_ne_f C 186 dX6_readPerson_149 (by decide) (fun h62_ => ?_) (fun h62_ => ?_)
    · rw [if_pos h62_] at h59_
      refine z_aload_n C 0 dX6_readPerson_152 rfl rfl ?_
      refine fg6_22 C hkd dX6_readPerson_153 ?_
      refine z_ldcs (k := 6) (tx := "stands") C (List.mem_of_getElem? (i := 6) rfl) dX6_readPerson_156 ?_
      obtain ⟨x63_, h64_, h59_⟩ := ob h59_
      refine cr6_55 (word_a := 6) C hkd (Nat.le_of_ble_eq_true rfl) h64_ ⟨(Nat.le_of_ble_eq_true rfl), (Nat.le_of_ble_eq_true rfl)⟩ (Nat.le_of_ble_eq_true rfl) ⟨Nat.zero_le _, Nat.zero_le _⟩ dX6_readPerson_158 ?_
      refine cb_f C 186 dX6_readPerson_161 (by decide) (fun h65_ => ?_) (fun h65_ => ?_)
      · rw [if_pos h65_] at h59_
        cases h59_
        exact K56_ rfl
      · rw [if_neg h65_] at h59_
        cases h59_
        exact K57_ Bool.false_ne_true
    · rw [if_neg h62_] at h59_
      cases h59_
      exact K57_ Bool.false_ne_true
  obtain ⟨x71_, h72_, hf⟩ := ob hf
  suffices K73_ : Z Θ 2 0 0 (zQ Θ ρ) y53_ 204 [(0, .ref (zA Θ 3)), (1, .int person1_)] [.int (b2i x71_)] by
    refine z_aload_n C 0 dX6_readPerson_186 rfl rfl ?_
    refine fg6_26 C hkd dX6_readPerson_187 ?_
    refine fg6_114 C hkd isV_54 dX6_readPerson_190 ?_
    refine z_iload_n C 1 dX6_readPerson_193 rfl rfl ?_
    obtain ⟨x76_, h77_, h72_⟩ := ob h72_
    refine z_ag C h77_ (kV_3 hkd isV_54) dX6_readPerson_194 ?_
    refine z_iconst (v := (-1)) C dX6_readPerson_195 ic_m1 ?_
    have K74_ : ¬ x76_ = (-1) → Z Θ 2 0 0 (zQ Θ ρ) y53_ 199 [(0, .ref (zA Θ 3)), (1, .int person1_)] [] := by
      intro h79_
      rw [if_pos h79_] at h72_
      refine z_iconst (v := 1) C dX6_readPerson_199 ic_1 ?_
      refine z_goto C 204 dX6_readPerson_200 (by decide) ?_
      cases h72_
      exact K73_
    have K75_ : ¬ (¬ x76_ = (-1)) → Z Θ 2 0 0 (zQ Θ ρ) y53_ 203 [(0, .ref (zA Θ 3)), (1, .int person1_)] [] := by
      intro h79_
      rw [if_neg h79_] at h72_
      refine z_iconst (v := 0) C dX6_readPerson_203 ic_0 ?_
      cases h72_
      exact K73_
    refine c_ne_f C 203 dX6_readPerson_196 (by decide) (fun h78_ => ?_) (fun h78_ => ?_)
    · exact K74_ h78_
    · exact K75_ h78_
  cases hf
  subst hρ
  exact z_zret C (b2i_narrow _) dX6_readPerson_204
theorem c6_readPerson {l : Launch} {kd : List KD} {w : Wp} {σ : St} (hkd : kd = kdC) (hi : zI kd w) {r : (Bool × St)} (hf : q6_readPerson σ = some r) : zM l kd w yX6_readPerson cX6_readPerson 2 (some .boolean) rm6_readPerson [.ref (w.2.2.1 3)] σ (some (.int (b2i r.1)), r.2) := zM_of rfl hi (Nat.le_of_ble_eq_true rfl) (fun Θ hl hw C => by
  obtain ⟨Θ1, Θ2, Θ3, Θ4, Θ5⟩ := Θ
  cases hw
  exact p6_readPerson C hkd  hf rfl)

/-! LastLoafModel.thrown -/
theorem w_8_27 : Cond.fieldLink "LastLoafModel" (65 : Nat) "LastLoafModel" "thrown" "I" ∈ TB := tb_in (lwt_8 (List.mem_of_getElem? (i := 27) (by decide +kernel))) rfl
theorem fg12_65 {Θ : Tz} {cc : ByteArray} {nL kc ks : Nat} {ret : Option FieldType} {rm : Room} {Q : State → Prop} {σ : St} {pc : Nat} {lv : List (Nat × Value)} {st : List Value} (C : Zc Θ cc nL RX12 ret rm) (hkd : Θ.2.2.2.2.1 = kdM) (hd : decode cc pc = .ok (.getfield 65, 3)) (kk : Z Θ nL kc ks Q σ (pc + 3) lv (.int (σ 0 0) :: st)) : Z Θ nL kc ks Q σ pc lv (.ref (zA Θ 0) :: st) := z_get C inT12 0 (kM_0 hkd) rfl 0 (by decide) w_8_27 rfl hd kk
theorem dX12_thrown_0 : decode cX12_thrown 0 = .ok (.aload_n 0, 1) := by decide +kernel
theorem dX12_thrown_1 : decode cX12_thrown 1 = .ok (.getfield 65, 3) := by decide +kernel
theorem dX12_thrown_4 : decode cX12_thrown 4 = .ok (.ireturn, 1) := by decide +kernel
def q12_thrown (σ : St) : Int32 :=
  σ 0 0
abbrev rm12_thrown : Room := { frames := 0, cells := 0, slots := 0, locals := 0 }
set_option maxHeartbeats 4000000 in
set_option maxRecDepth 100000 in
theorem p12_thrown {Θ : Tz} {σ : St} {ρ : Option Value × St} (C : Zc Θ cX12_thrown 1 RX12 (some .int) rm12_thrown) (hkd : Θ.2.2.2.2.1 = kdM) {r : Int32} (hf : q12_thrown σ = r) (hρ : ρ = (some (.int r), σ)) : Z Θ 1 0 0 (zQ Θ ρ) σ 0 [(0, .ref (zA Θ 0))] [] := by
  unfold q12_thrown at hf
  refine z_aload_n C 0 dX12_thrown_0 rfl rfl ?_
  refine fg12_65 C hkd dX12_thrown_1 ?_
  subst hf
  subst hρ
  exact z_iret C dX12_thrown_4
theorem c12_thrown {l : Launch} {kd : List KD} {w : Wp} {σ : St} (hkd : kd = kdM) (hi : zI kd w) : zM l kd w yX12_thrown cX12_thrown 1 (some .int) rm12_thrown [.ref (w.2.2.1 0)] σ (some (.int (q12_thrown σ)), σ) := zM_of rfl hi (Nat.le_of_ble_eq_true rfl) (fun Θ hl hw C => by
  obtain ⟨Θ1, Θ2, Θ3, Θ4, Θ5⟩ := Θ
  cases hw
  exact p12_thrown C hkd  rfl rfl)
/-! LastLoafModel.isIn -/
theorem dX12_isIn_0 : decode cX12_isIn 0 = .ok (.iload_n 0, 1) := by decide +kernel
theorem dX12_isIn_1 : decode cX12_isIn 1 = .ok (.iload_n 1, 1) := by decide +kernel
theorem dX12_isIn_2 : decode cX12_isIn 2 = .ok (.if_icmp .lt 12, 3) := by decide +kernel
theorem dX12_isIn_5 : decode cX12_isIn 5 = .ok (.iload_n 0, 1) := by decide +kernel
theorem dX12_isIn_6 : decode cX12_isIn 6 = .ok (.iload_n 2, 1) := by decide +kernel
theorem dX12_isIn_7 : decode cX12_isIn 7 = .ok (.if_icmp .gt 7, 3) := by decide +kernel
theorem dX12_isIn_10 : decode cX12_isIn 10 = .ok (.iconst 1, 1) := by decide +kernel
theorem dX12_isIn_11 : decode cX12_isIn 11 = .ok (.goto 4, 3) := by decide +kernel
theorem dX12_isIn_14 : decode cX12_isIn 14 = .ok (.iconst 0, 1) := by decide +kernel
theorem dX12_isIn_15 : decode cX12_isIn 15 = .ok (.ireturn, 1) := by decide +kernel
def q12_isIn (v_a : Int32) (low_a : Int32) (high_a : Int32) : Bool :=
  decide ((low_a ≤ v_a) ∧ (v_a ≤ high_a))
abbrev rm12_isIn : Room := { frames := 0, cells := 0, slots := 0, locals := 0 }
set_option maxHeartbeats 4000000 in
set_option maxRecDepth 100000 in
theorem p12_isIn {Θ : Tz} {σ : St} {ρ : Option Value × St} (C : Zc Θ cX12_isIn 3 RX12 (some .boolean) rm12_isIn) (hkd : Θ.2.2.2.2.1 = kdM) {v_a : Int32} {low_a : Int32} {high_a : Int32} {r : Bool} (hf : q12_isIn v_a low_a high_a = r) (hρ : ρ = (some (.int (b2i r)), σ)) : Z Θ 3 0 0 (zQ Θ ρ) σ 0 [(0, .int v_a), (1, .int low_a), (2, .int high_a)] [] := by
  unfold q12_isIn at hf
  suffices K1_ : Z Θ 3 0 0 (zQ Θ ρ) σ 15 [(0, .int v_a), (1, .int low_a), (2, .int high_a)] [.int (b2i (decide ((low_a ≤ v_a) ∧ (v_a ≤ high_a))))] by
    have K2_ : (low_a ≤ v_a) ∧ (v_a ≤ high_a) → Z Θ 3 0 0 (zQ Θ ρ) σ 10 [(0, .int v_a), (1, .int low_a), (2, .int high_a)] [] := by
      intro h6_
      rw [decide_eq_true h6_] at K1_
      refine z_iconst (v := 1) C dX12_isIn_10 ic_1 ?_
      refine z_goto C 15 dX12_isIn_11 (by decide) ?_
      exact K1_
    have K3_ : ¬ ((low_a ≤ v_a) ∧ (v_a ≤ high_a)) → Z Θ 3 0 0 (zQ Θ ρ) σ 14 [(0, .int v_a), (1, .int low_a), (2, .int high_a)] [] := by
      intro h6_
      rw [decide_eq_false h6_] at K1_
      refine z_iconst (v := 0) C dX12_isIn_14 ic_0 ?_
      exact K1_
    refine z_iload_n C 0 dX12_isIn_0 rfl rfl ?_
    refine z_iload_n C 1 dX12_isIn_1 rfl rfl ?_
    refine c_ge_f C 14 dX12_isIn_2 (by decide) (fun h4_ => ?_) (fun h4_ => ?_)
    · refine z_iload_n C 0 dX12_isIn_5 rfl rfl ?_
      refine z_iload_n C 2 dX12_isIn_6 rfl rfl ?_
      refine c_le_f C 14 dX12_isIn_7 (by decide) (fun h5_ => ?_) (fun h5_ => ?_)
      · exact K2_ ⟨h4_, h5_⟩
      · exact K3_ (fun n => h5_ n.2)
    · exact K3_ (fun n => h4_ n.1)
  subst hf
  subst hρ
  exact z_zret C (b2i_narrow _) dX12_isIn_15
theorem c12_isIn {l : Launch} {kd : List KD} {w : Wp} {σ : St} {v_a : Int32} {low_a : Int32} {high_a : Int32} (hkd : kd = kdM) (hi : zI kd w) : zM l kd w yX12_isIn cX12_isIn 3 (some .boolean) rm12_isIn [.int v_a, .int low_a, .int high_a] σ (some (.int (b2i (q12_isIn v_a low_a high_a))), σ) := zM_of rfl hi (Nat.le_of_ble_eq_true rfl) (fun Θ hl hw C => by
  obtain ⟨Θ1, Θ2, Θ3, Θ4, Θ5⟩ := Θ
  cases hw
  exact p12_isIn C hkd  rfl rfl)
/-! LastLoafModel.lesser -/
theorem dX12_lesser_0 : decode cX12_lesser 0 = .ok (.iload_n 0, 1) := by decide +kernel
theorem dX12_lesser_1 : decode cX12_lesser 1 = .ok (.iload_n 1, 1) := by decide +kernel
theorem dX12_lesser_2 : decode cX12_lesser 2 = .ok (.if_icmp .ge 7, 3) := by decide +kernel
theorem dX12_lesser_5 : decode cX12_lesser 5 = .ok (.iload_n 0, 1) := by decide +kernel
theorem dX12_lesser_6 : decode cX12_lesser 6 = .ok (.goto 4, 3) := by decide +kernel
theorem dX12_lesser_9 : decode cX12_lesser 9 = .ok (.iload_n 1, 1) := by decide +kernel
theorem dX12_lesser_10 : decode cX12_lesser 10 = .ok (.ireturn, 1) := by decide +kernel
def q12_lesser (a_a : Int32) (b_a : Int32) : Int32 :=
  if a_a < b_a then a_a else b_a
abbrev rm12_lesser : Room := { frames := 0, cells := 0, slots := 0, locals := 0 }
set_option maxHeartbeats 4000000 in
set_option maxRecDepth 100000 in
theorem p12_lesser {Θ : Tz} {σ : St} {ρ : Option Value × St} (C : Zc Θ cX12_lesser 2 RX12 (some .int) rm12_lesser) (hkd : Θ.2.2.2.2.1 = kdM) {a_a : Int32} {b_a : Int32} {r : Int32} (hf : q12_lesser a_a b_a = r) (hρ : ρ = (some (.int r), σ)) : Z Θ 2 0 0 (zQ Θ ρ) σ 0 [(0, .int a_a), (1, .int b_a)] [] := by
  unfold q12_lesser at hf
  suffices K1_ : Z Θ 2 0 0 (zQ Θ ρ) σ 10 [(0, .int a_a), (1, .int b_a)] [.int (if a_a < b_a then a_a else b_a)] by
    have K2_ : a_a < b_a → Z Θ 2 0 0 (zQ Θ ρ) σ 5 [(0, .int a_a), (1, .int b_a)] [] := by
      intro h5_
      rw [if_pos h5_] at K1_
      refine z_iload_n C 0 dX12_lesser_5 rfl rfl ?_
      refine z_goto C 10 dX12_lesser_6 (by decide) ?_
      exact K1_
    have K3_ : ¬ (a_a < b_a) → Z Θ 2 0 0 (zQ Θ ρ) σ 9 [(0, .int a_a), (1, .int b_a)] [] := by
      intro h5_
      rw [if_neg h5_] at K1_
      refine z_iload_n C 1 dX12_lesser_9 rfl rfl ?_
      exact K1_
    refine z_iload_n C 0 dX12_lesser_0 rfl rfl ?_
    refine z_iload_n C 1 dX12_lesser_1 rfl rfl ?_
    refine c_lt_f C 9 dX12_lesser_2 (by decide) (fun h4_ => ?_) (fun h4_ => ?_)
    · exact K2_ h4_
    · exact K3_ h4_
  subst hf
  subst hρ
  exact z_iret C dX12_lesser_10
theorem c12_lesser {l : Launch} {kd : List KD} {w : Wp} {σ : St} {a_a : Int32} {b_a : Int32} (hkd : kd = kdM) (hi : zI kd w) : zM l kd w yX12_lesser cX12_lesser 2 (some .int) rm12_lesser [.int a_a, .int b_a] σ (some (.int (q12_lesser a_a b_a)), σ) := zM_of rfl hi (Nat.le_of_ble_eq_true rfl) (fun Θ hl hw C => by
  obtain ⟨Θ1, Θ2, Θ3, Θ4, Θ5⟩ := Θ
  cases hw
  exact p12_lesser C hkd  rfl rfl)
/-! LastLoafModel.greater -/
theorem dX12_greater_0 : decode cX12_greater 0 = .ok (.iload_n 0, 1) := by decide +kernel
theorem dX12_greater_1 : decode cX12_greater 1 = .ok (.iload_n 1, 1) := by decide +kernel
theorem dX12_greater_2 : decode cX12_greater 2 = .ok (.if_icmp .le 7, 3) := by decide +kernel
theorem dX12_greater_5 : decode cX12_greater 5 = .ok (.iload_n 0, 1) := by decide +kernel
theorem dX12_greater_6 : decode cX12_greater 6 = .ok (.goto 4, 3) := by decide +kernel
theorem dX12_greater_9 : decode cX12_greater 9 = .ok (.iload_n 1, 1) := by decide +kernel
theorem dX12_greater_10 : decode cX12_greater 10 = .ok (.ireturn, 1) := by decide +kernel
def q12_greater (a_a : Int32) (b_a : Int32) : Int32 :=
  if b_a < a_a then a_a else b_a
abbrev rm12_greater : Room := { frames := 0, cells := 0, slots := 0, locals := 0 }
set_option maxHeartbeats 4000000 in
set_option maxRecDepth 100000 in
theorem p12_greater {Θ : Tz} {σ : St} {ρ : Option Value × St} (C : Zc Θ cX12_greater 2 RX12 (some .int) rm12_greater) (hkd : Θ.2.2.2.2.1 = kdM) {a_a : Int32} {b_a : Int32} {r : Int32} (hf : q12_greater a_a b_a = r) (hρ : ρ = (some (.int r), σ)) : Z Θ 2 0 0 (zQ Θ ρ) σ 0 [(0, .int a_a), (1, .int b_a)] [] := by
  unfold q12_greater at hf
  suffices K1_ : Z Θ 2 0 0 (zQ Θ ρ) σ 10 [(0, .int a_a), (1, .int b_a)] [.int (if b_a < a_a then a_a else b_a)] by
    have K2_ : b_a < a_a → Z Θ 2 0 0 (zQ Θ ρ) σ 5 [(0, .int a_a), (1, .int b_a)] [] := by
      intro h5_
      rw [if_pos h5_] at K1_
      refine z_iload_n C 0 dX12_greater_5 rfl rfl ?_
      refine z_goto C 10 dX12_greater_6 (by decide) ?_
      exact K1_
    have K3_ : ¬ (b_a < a_a) → Z Θ 2 0 0 (zQ Θ ρ) σ 9 [(0, .int a_a), (1, .int b_a)] [] := by
      intro h5_
      rw [if_neg h5_] at K1_
      refine z_iload_n C 1 dX12_greater_9 rfl rfl ?_
      exact K1_
    refine z_iload_n C 0 dX12_greater_0 rfl rfl ?_
    refine z_iload_n C 1 dX12_greater_1 rfl rfl ?_
    refine c_gt_f C 9 dX12_greater_2 (by decide) (fun h4_ => ?_) (fun h4_ => ?_)
    · exact K2_ h4_
    · exact K3_ h4_
  subst hf
  subst hρ
  exact z_iret C dX12_greater_10
theorem c12_greater {l : Launch} {kd : List KD} {w : Wp} {σ : St} {a_a : Int32} {b_a : Int32} (hkd : kd = kdM) (hi : zI kd w) : zM l kd w yX12_greater cX12_greater 2 (some .int) rm12_greater [.int a_a, .int b_a] σ (some (.int (q12_greater a_a b_a)), σ) := zM_of rfl hi (Nat.le_of_ble_eq_true rfl) (fun Θ hl hw C => by
  obtain ⟨Θ1, Θ2, Θ3, Θ4, Θ5⟩ := Θ
  cases hw
  exact p12_greater C hkd  rfl rfl)
/-! LastLoafModel.isOf -/
theorem dX12_isOf_0 : decode cX12_isOf 0 = .ok (.iload_n 0, 1) := by decide +kernel
theorem dX12_isOf_1 : decode cX12_isOf 1 = .ok (.iload_n 1, 1) := by decide +kernel
theorem dX12_isOf_2 : decode cX12_isOf 2 = .ok (.ishr, 1) := by decide +kernel
theorem dX12_isOf_3 : decode cX12_isOf 3 = .ok (.iconst 1, 1) := by decide +kernel
theorem dX12_isOf_4 : decode cX12_isOf 4 = .ok (.iand, 1) := by decide +kernel
theorem dX12_isOf_5 : decode cX12_isOf 5 = .ok (.iconst 1, 1) := by decide +kernel
theorem dX12_isOf_6 : decode cX12_isOf 6 = .ok (.if_icmp .ne 7, 3) := by decide +kernel
theorem dX12_isOf_9 : decode cX12_isOf 9 = .ok (.iconst 1, 1) := by decide +kernel
theorem dX12_isOf_10 : decode cX12_isOf 10 = .ok (.goto 4, 3) := by decide +kernel
theorem dX12_isOf_13 : decode cX12_isOf 13 = .ok (.iconst 0, 1) := by decide +kernel
theorem dX12_isOf_14 : decode cX12_isOf 14 = .ok (.ireturn, 1) := by decide +kernel
def q12_isOf (set_a : Int32) (k_a : Int32) : Bool :=
  decide (((shr set_a k_a) &&& 1) = 1)
abbrev rm12_isOf : Room := { frames := 0, cells := 0, slots := 0, locals := 0 }
set_option maxHeartbeats 4000000 in
set_option maxRecDepth 100000 in
theorem p12_isOf {Θ : Tz} {σ : St} {ρ : Option Value × St} (C : Zc Θ cX12_isOf 2 RX12 (some .boolean) rm12_isOf) (hkd : Θ.2.2.2.2.1 = kdM) {set_a : Int32} {k_a : Int32} {r : Bool} (hf : q12_isOf set_a k_a = r) (hρ : ρ = (some (.int (b2i r)), σ)) : Z Θ 2 0 0 (zQ Θ ρ) σ 0 [(0, .int set_a), (1, .int k_a)] [] := by
  unfold q12_isOf at hf
  suffices K1_ : Z Θ 2 0 0 (zQ Θ ρ) σ 14 [(0, .int set_a), (1, .int k_a)] [.int (b2i (decide (((shr set_a k_a) &&& 1) = 1)))] by
    have K2_ : ((shr set_a k_a) &&& 1) = 1 → Z Θ 2 0 0 (zQ Θ ρ) σ 9 [(0, .int set_a), (1, .int k_a)] [] := by
      intro h5_
      rw [decide_eq_true h5_] at K1_
      refine z_iconst (v := 1) C dX12_isOf_9 ic_1 ?_
      refine z_goto C 14 dX12_isOf_10 (by decide) ?_
      exact K1_
    have K3_ : ¬ (((shr set_a k_a) &&& 1) = 1) → Z Θ 2 0 0 (zQ Θ ρ) σ 13 [(0, .int set_a), (1, .int k_a)] [] := by
      intro h5_
      rw [decide_eq_false h5_] at K1_
      refine z_iconst (v := 0) C dX12_isOf_13 ic_0 ?_
      exact K1_
    refine z_iload_n C 0 dX12_isOf_0 rfl rfl ?_
    refine z_iload_n C 1 dX12_isOf_1 rfl rfl ?_
    refine z_shr C dX12_isOf_2 ?_
    refine z_iconst (v := 1) C dX12_isOf_3 ic_1 ?_
    refine z_iand C dX12_isOf_4 ?_
    refine z_iconst (v := 1) C dX12_isOf_5 ic_1 ?_
    refine c_eq_f C 13 dX12_isOf_6 (by decide) (fun h4_ => ?_) (fun h4_ => ?_)
    · exact K2_ h4_
    · exact K3_ h4_
  subst hf
  subst hρ
  exact z_zret C (b2i_narrow _) dX12_isOf_14
theorem c12_isOf {l : Launch} {kd : List KD} {w : Wp} {σ : St} {set_a : Int32} {k_a : Int32} (hkd : kd = kdM) (hi : zI kd w) : zM l kd w yX12_isOf cX12_isOf 2 (some .boolean) rm12_isOf [.int set_a, .int k_a] σ (some (.int (b2i (q12_isOf set_a k_a))), σ) := zM_of rfl hi (Nat.le_of_ble_eq_true rfl) (fun Θ hl hw C => by
  obtain ⟨Θ1, Θ2, Θ3, Θ4, Θ5⟩ := Θ
  cases hw
  exact p12_isOf C hkd  rfl rfl)
/-! LastLoafModel.bits -/
theorem bp_31 : (Int8.ofInt (31)).toInt32 = 31 := by decide +kernel
theorem dX12_bits_0 : decode cX12_bits 0 = .ok (.iconst 0, 1) := by decide +kernel
theorem dX12_bits_1 : decode cX12_bits 1 = .ok (.istore_n 1, 1) := by decide +kernel
theorem dX12_bits_2 : decode cX12_bits 2 = .ok (.iconst 0, 1) := by decide +kernel
theorem dX12_bits_3 : decode cX12_bits 3 = .ok (.istore_n 2, 1) := by decide +kernel
theorem dX12_bits_4 : decode cX12_bits 4 = .ok (.iload_n 2, 1) := by decide +kernel
theorem dX12_bits_5 : decode cX12_bits 5 = .ok (.bipush 31, 2) := by decide +kernel
theorem dX12_bits_7 : decode cX12_bits 7 = .ok (.if_icmp .ge 17, 3) := by decide +kernel
theorem dX12_bits_10 : decode cX12_bits 10 = .ok (.iload_n 1, 1) := by decide +kernel
theorem dX12_bits_11 : decode cX12_bits 11 = .ok (.iload_n 0, 1) := by decide +kernel
theorem dX12_bits_12 : decode cX12_bits 12 = .ok (.iload_n 2, 1) := by decide +kernel
theorem dX12_bits_13 : decode cX12_bits 13 = .ok (.ishr, 1) := by decide +kernel
theorem dX12_bits_14 : decode cX12_bits 14 = .ok (.iconst 1, 1) := by decide +kernel
theorem dX12_bits_15 : decode cX12_bits 15 = .ok (.iand, 1) := by decide +kernel
theorem dX12_bits_16 : decode cX12_bits 16 = .ok (.iadd, 1) := by decide +kernel
theorem dX12_bits_17 : decode cX12_bits 17 = .ok (.istore_n 1, 1) := by decide +kernel
theorem dX12_bits_18 : decode cX12_bits 18 = .ok (.iinc 2 1, 3) := by decide +kernel
theorem dX12_bits_21 : decode cX12_bits 21 = .ok (.goto (-17), 3) := by decide +kernel
theorem dX12_bits_24 : decode cX12_bits 24 = .ok (.iload_n 1, 1) := by decide +kernel
theorem dX12_bits_25 : decode cX12_bits 25 = .ok (.ireturn, 1) := by decide +kernel
def q12_bits (set_a : Int32) : Option Int32 :=
  Option.bind (loop2 (fun rec4_ (n7_ : Int32) (k8_ : Int32) =>
  if k8_ < 31 then
  lt (n7_ + ((shr set_a k8_) &&& 1)) fun n15_ =>
  lt (k8_ + 1) fun k17_ =>
  rec4_ n15_ k17_
  else (some (n7_, k8_))) fuelN (0 : Int32) (0 : Int32)) fun y1_ =>
  some y1_.1
abbrev rm12_bits : Room := { frames := 0, cells := 0, slots := 0, locals := 0 }
set_option maxHeartbeats 4000000 in
set_option maxRecDepth 100000 in
theorem p12_bits {Θ : Tz} {σ : St} {ρ : Option Value × St} (C : Zc Θ cX12_bits 3 RX12 (some .int) rm12_bits) (hkd : Θ.2.2.2.2.1 = kdM) {set_a : Int32} {r : Int32} (hf : q12_bits set_a = some r) (hρ : ρ = (some (.int r), σ)) : Z Θ 3 0 0 (zQ Θ ρ) σ 0 [(0, .int set_a)] [] := by
  unfold q12_bits at hf
  refine z_iconst (v := 0) C dX12_bits_0 ic_0 ?_
  refine z_istN C dX12_bits_1 rfl rfl (Nat.le_of_ble_eq_true rfl) rfl ?_
  refine z_iconst (v := 0) C dX12_bits_2 ic_0 ?_
  refine z_istN C dX12_bits_3 rfl rfl (Nat.le_of_ble_eq_true rfl) rfl ?_
  refine Z.sub [2, 1, 0] rfl ?_
  obtain ⟨y1_, h2_, hf⟩ := ob hf
  suffices K3_ : Z Θ 3 0 0 (zQ Θ ρ) σ 24 [(0, .int set_a), (1, .int y1_.1), (2, .int y1_.2)] [] by
    refine loop2_Z (P := fun (n7_ : Int32) (k8_ : Int32) => Z Θ 3 0 0 (zQ Θ ρ) σ 4 [(0, .int set_a), (1, .int n7_), (2, .int k8_)] []) ?_ fuelN (0 : Int32) (0 : Int32) h2_
    clear h2_
    intro rec4_ n7_ k8_ h5_ h6_
    have K11_ : k8_ < 31 → Z Θ 3 0 0 (zQ Θ ρ) σ 10 [(0, .int set_a), (1, .int n7_), (2, .int k8_)] [] := by
      intro h14_
      rw [if_pos h14_] at h6_
      refine z_iload_n C 1 dX12_bits_10 rfl rfl ?_
      refine z_iload_n C 0 dX12_bits_11 rfl rfl ?_
      refine z_iload_n C 2 dX12_bits_12 rfl rfl ?_
      refine z_shr C dX12_bits_13 ?_
      refine z_iconst (v := 1) C dX12_bits_14 ic_1 ?_
      refine z_iand C dX12_bits_15 ?_
      refine z_iadd C dX12_bits_16 ?_
      obtain ⟨n15_, h16_, h6_⟩ := lt_ h6_
      refine z_istN C dX12_bits_17 h16_ rfl (Nat.le_of_ble_eq_true rfl) rfl ?_
      obtain ⟨k17_, h18_, h6_⟩ := lt_ h6_
      refine z_inc C 2 dX12_bits_18 rfl ic_1 h18_ (Nat.le_of_ble_eq_true rfl) rfl ?_
      refine z_goto C 4 dX12_bits_21 (by decide) ?_
      refine Z.sub [2, 1, 0] rfl ?_
      exact h5_ _ _ h6_
    have K12_ : ¬ (k8_ < 31) → Z Θ 3 0 0 (zQ Θ ρ) σ 24 [(0, .int set_a), (1, .int n7_), (2, .int k8_)] [] := by
      intro h14_
      rw [if_neg h14_] at h6_
      cases h6_
      exact K3_
    refine z_iload_n C 2 dX12_bits_4 rfl rfl ?_
    refine z_bipush (v := 31) C dX12_bits_5 bp_31 ?_
    refine c_lt_f C 24 dX12_bits_7 (by decide) (fun h13_ => ?_) (fun h13_ => ?_)
    · exact K11_ h13_
    · exact K12_ h13_
  refine z_iload_n C 1 dX12_bits_24 rfl rfl ?_
  cases hf
  subst hρ
  exact z_iret C dX12_bits_25
theorem c12_bits {l : Launch} {kd : List KD} {w : Wp} {σ : St} {set_a : Int32} (hkd : kd = kdM) (hi : zI kd w) {r : Int32} (hf : q12_bits set_a = some r) : zM l kd w yX12_bits cX12_bits 3 (some .int) rm12_bits [.int set_a] σ (some (.int r), σ) := zM_of rfl hi (Nat.le_of_ble_eq_true rfl) (fun Θ hl hw C => by
  obtain ⟨Θ1, Θ2, Θ3, Θ4, Θ5⟩ := Θ
  cases hw
  exact p12_bits C hkd  hf rfl)
/-! LastLoafModel.of -/
theorem w_8_28 : Cond.fieldLink "LastLoafModel" (7 : Nat) "LastLoafModel" "m" "[I" ∈ TB := tb_in (lwt_8 (List.mem_of_getElem? (i := 28) (by decide +kernel))) rfl
theorem fg12_7 {Θ : Tz} {cc : ByteArray} {nL kc ks : Nat} {ret : Option FieldType} {rm : Room} {Q : State → Prop} {σ : St} {pc : Nat} {lv : List (Nat × Value)} {st : List Value} (C : Zc Θ cc nL RX12 ret rm) (hkd : Θ.2.2.2.2.1 = kdM) (hd : decode cc pc = .ok (.getfield 7, 3)) (kk : Z Θ nL kc ks Q σ (pc + 3) lv (.ref (zA Θ 1) :: st)) : Z Θ nL kc ks Q σ pc lv (.ref (zA Θ 0) :: st) := z_get C inT12 0 (kM_0 hkd) rfl 1 (by decide) w_8_28 rfl hd kk
theorem bp_14 : (Int8.ofInt (14)).toInt32 = 14 := by decide +kernel
theorem bp_7 : (Int8.ofInt (7)).toInt32 = 7 := by decide +kernel
theorem dX12_of_0 : decode cX12_of 0 = .ok (.aload_n 0, 1) := by decide +kernel
theorem dX12_of_1 : decode cX12_of 1 = .ok (.getfield 7, 3) := by decide +kernel
theorem dX12_of_4 : decode cX12_of 4 = .ok (.bipush 14, 2) := by decide +kernel
theorem dX12_of_6 : decode cX12_of 6 = .ok (.bipush 7, 2) := by decide +kernel
theorem dX12_of_8 : decode cX12_of 8 = .ok (.iload_n 1, 1) := by decide +kernel
theorem dX12_of_9 : decode cX12_of 9 = .ok (.imul, 1) := by decide +kernel
theorem dX12_of_10 : decode cX12_of 10 = .ok (.iadd, 1) := by decide +kernel
theorem dX12_of_11 : decode cX12_of 11 = .ok (.iload_n 2, 1) := by decide +kernel
theorem dX12_of_12 : decode cX12_of 12 = .ok (.iadd, 1) := by decide +kernel
theorem dX12_of_13 : decode cX12_of 13 = .ok (.iaload, 1) := by decide +kernel
theorem dX12_of_14 : decode cX12_of 14 = .ok (.ireturn, 1) := by decide +kernel
def q12_of (σ : St) (p_a : Int32) (what_a : Int32) : Option Int32 :=
  Option.bind (ag σ 1 752 ((14 + (7 * p_a)) + what_a)) fun x1_ =>
  some x1_
abbrev rm12_of : Room := { frames := 0, cells := 0, slots := 0, locals := 0 }
set_option maxHeartbeats 4000000 in
set_option maxRecDepth 100000 in
theorem p12_of {Θ : Tz} {σ : St} {ρ : Option Value × St} (C : Zc Θ cX12_of 3 RX12 (some .int) rm12_of) (hkd : Θ.2.2.2.2.1 = kdM) {p_a : Int32} {what_a : Int32} {r : Int32} (hf : q12_of σ p_a what_a = some r) (hρ : ρ = (some (.int r), σ)) : Z Θ 3 0 0 (zQ Θ ρ) σ 0 [(0, .ref (zA Θ 0)), (1, .int p_a), (2, .int what_a)] [] := by
  unfold q12_of at hf
  refine z_aload_n C 0 dX12_of_0 rfl rfl ?_
  refine fg12_7 C hkd dX12_of_1 ?_
  refine z_bipush (v := 14) C dX12_of_4 bp_14 ?_
  refine z_bipush (v := 7) C dX12_of_6 bp_7 ?_
  refine z_iload_n C 1 dX12_of_8 rfl rfl ?_
  refine z_imul C dX12_of_9 ?_
  refine z_iadd C dX12_of_10 ?_
  refine z_iload_n C 2 dX12_of_11 rfl rfl ?_
  refine z_iadd C dX12_of_12 ?_
  obtain ⟨x1_, h2_, hf⟩ := ob hf
  refine z_ag C h2_ (kM_1 hkd) dX12_of_13 ?_
  cases hf
  subst hρ
  exact z_iret C dX12_of_14
theorem c12_of {l : Launch} {kd : List KD} {w : Wp} {σ : St} {p_a : Int32} {what_a : Int32} (hkd : kd = kdM) (hi : zI kd w) {r : Int32} (hf : q12_of σ p_a what_a = some r) : zM l kd w yX12_of cX12_of 3 (some .int) rm12_of [.ref (w.2.2.1 0), .int p_a, .int what_a] σ (some (.int r), σ) := zM_of rfl hi (Nat.le_of_ble_eq_true rfl) (fun Θ hl hw C => by
  obtain ⟨Θ1, Θ2, Θ3, Θ4, Θ5⟩ := Θ
  cases hw
  exact p12_of C hkd  hf rfl)
/-! LastLoafModel.lays -/
theorem dX12_lays_0 : decode cX12_lays 0 = .ok (.aload_n 0, 1) := by decide +kernel
theorem dX12_lays_1 : decode cX12_lays 1 = .ok (.getfield 7, 3) := by decide +kernel
theorem dX12_lays_4 : decode cX12_lays 4 = .ok (.bipush 14, 2) := by decide +kernel
theorem dX12_lays_6 : decode cX12_lays 6 = .ok (.bipush 7, 2) := by decide +kernel
theorem dX12_lays_8 : decode cX12_lays 8 = .ok (.iload_n 1, 1) := by decide +kernel
theorem dX12_lays_9 : decode cX12_lays 9 = .ok (.imul, 1) := by decide +kernel
theorem dX12_lays_10 : decode cX12_lays 10 = .ok (.iadd, 1) := by decide +kernel
theorem dX12_lays_11 : decode cX12_lays 11 = .ok (.iload_n 2, 1) := by decide +kernel
theorem dX12_lays_12 : decode cX12_lays 12 = .ok (.iadd, 1) := by decide +kernel
theorem dX12_lays_13 : decode cX12_lays 13 = .ok (.iload_n 3, 1) := by decide +kernel
theorem dX12_lays_14 : decode cX12_lays 14 = .ok (.iastore, 1) := by decide +kernel
theorem dX12_lays_15 : decode cX12_lays 15 = .ok (.return_, 1) := by decide +kernel
def q12_lays (σ : St) (p_a : Int32) (what_a : Int32) (v_a : Int32) : Option St :=
  Option.bind (sa σ 1 752 ((14 + (7 * p_a)) + what_a) v_a) fun σ1_ =>
  some σ1_
abbrev rm12_lays : Room := { frames := 0, cells := 0, slots := 0, locals := 0 }
set_option maxHeartbeats 4000000 in
set_option maxRecDepth 100000 in
theorem p12_lays {Θ : Tz} {σ : St} {ρ : Option Value × St} (C : Zc Θ cX12_lays 4 RX12 none rm12_lays) (hkd : Θ.2.2.2.2.1 = kdM) {p_a : Int32} {what_a : Int32} {v_a : Int32} {r : St} (hf : q12_lays σ p_a what_a v_a = some r) (hρ : ρ = (none, r)) : Z Θ 4 0 0 (zQ Θ ρ) σ 0 [(0, .ref (zA Θ 0)), (1, .int p_a), (2, .int what_a), (3, .int v_a)] [] := by
  unfold q12_lays at hf
  refine z_aload_n C 0 dX12_lays_0 rfl rfl ?_
  refine fg12_7 C hkd dX12_lays_1 ?_
  refine z_bipush (v := 14) C dX12_lays_4 bp_14 ?_
  refine z_bipush (v := 7) C dX12_lays_6 bp_7 ?_
  refine z_iload_n C 1 dX12_lays_8 rfl rfl ?_
  refine z_imul C dX12_lays_9 ?_
  refine z_iadd C dX12_lays_10 ?_
  refine z_iload_n C 2 dX12_lays_11 rfl rfl ?_
  refine z_iadd C dX12_lays_12 ?_
  refine z_iload_n C 3 dX12_lays_13 rfl rfl ?_
  obtain ⟨σ1_, h2_, hf⟩ := ob hf
  refine z_sa C h2_ (kM_1 hkd) dX12_lays_14 ?_
  cases hf
  subst hρ
  exact z_vret C dX12_lays_15
theorem c12_lays {l : Launch} {kd : List KD} {w : Wp} {σ : St} {p_a : Int32} {what_a : Int32} {v_a : Int32} (hkd : kd = kdM) (hi : zI kd w) {r : St} (hf : q12_lays σ p_a what_a v_a = some r) : zM l kd w yX12_lays cX12_lays 4 none rm12_lays [.ref (w.2.2.1 0), .int p_a, .int what_a, .int v_a] σ (none, r) := zM_of rfl hi (Nat.le_of_ble_eq_true rfl) (fun Θ hl hw C => by
  obtain ⟨Θ1, Θ2, Θ3, Θ4, Θ5⟩ := Θ
  cases hw
  exact p12_lays C hkd  hf rfl)
/-! LastLoafModel.liking -/
theorem bp_9 : (Int8.ofInt (9)).toInt32 = 9 := by decide +kernel
theorem dX12_liking_0 : decode cX12_liking 0 = .ok (.iload_n 1, 1) := by decide +kernel
theorem dX12_liking_1 : decode cX12_liking 1 = .ok (.iload_n 2, 1) := by decide +kernel
theorem dX12_liking_2 : decode cX12_liking 2 = .ok (.if_icmp .ne 8, 3) := by decide +kernel
theorem dX12_liking_5 : decode cX12_liking 5 = .ok (.bipush 9, 2) := by decide +kernel
theorem dX12_liking_7 : decode cX12_liking 7 = .ok (.goto 17, 3) := by decide +kernel
theorem dX12_liking_10 : decode cX12_liking 10 = .ok (.aload_n 0, 1) := by decide +kernel
theorem dX12_liking_11 : decode cX12_liking 11 = .ok (.getfield 7, 3) := by decide +kernel
theorem dX12_liking_14 : decode cX12_liking 14 = .ok (.bipush 63, 2) := by decide +kernel
theorem dX12_liking_16 : decode cX12_liking 16 = .ok (.bipush 7, 2) := by decide +kernel
theorem dX12_liking_18 : decode cX12_liking 18 = .ok (.iload_n 1, 1) := by decide +kernel
theorem dX12_liking_19 : decode cX12_liking 19 = .ok (.imul, 1) := by decide +kernel
theorem dX12_liking_20 : decode cX12_liking 20 = .ok (.iadd, 1) := by decide +kernel
theorem dX12_liking_21 : decode cX12_liking 21 = .ok (.iload_n 2, 1) := by decide +kernel
theorem dX12_liking_22 : decode cX12_liking 22 = .ok (.iadd, 1) := by decide +kernel
theorem dX12_liking_23 : decode cX12_liking 23 = .ok (.iaload, 1) := by decide +kernel
theorem dX12_liking_24 : decode cX12_liking 24 = .ok (.ireturn, 1) := by decide +kernel
def q12_liking (σ : St) (p_a : Int32) (o_a : Int32) : Option Int32 :=
  Option.bind (if p_a = o_a then (some (9 : Int32)) else (Option.bind (ag σ 1 752 ((63 + (7 * p_a)) + o_a)) fun x7_ =>
  some x7_)) fun x1_ =>
  some x1_
abbrev rm12_liking : Room := { frames := 0, cells := 0, slots := 0, locals := 0 }
set_option maxHeartbeats 4000000 in
set_option maxRecDepth 100000 in
theorem p12_liking {Θ : Tz} {σ : St} {ρ : Option Value × St} (C : Zc Θ cX12_liking 3 RX12 (some .int) rm12_liking) (hkd : Θ.2.2.2.2.1 = kdM) {p_a : Int32} {o_a : Int32} {r : Int32} (hf : q12_liking σ p_a o_a = some r) (hρ : ρ = (some (.int r), σ)) : Z Θ 3 0 0 (zQ Θ ρ) σ 0 [(0, .ref (zA Θ 0)), (1, .int p_a), (2, .int o_a)] [] := by
  unfold q12_liking at hf
  obtain ⟨x1_, h2_, hf⟩ := ob hf
  suffices K3_ : Z Θ 3 0 0 (zQ Θ ρ) σ 24 [(0, .ref (zA Θ 0)), (1, .int p_a), (2, .int o_a)] [.int x1_] by
    have K4_ : p_a = o_a → Z Θ 3 0 0 (zQ Θ ρ) σ 5 [(0, .ref (zA Θ 0)), (1, .int p_a), (2, .int o_a)] [] := by
      intro h9_
      rw [if_pos h9_] at h2_
      refine z_bipush (v := 9) C dX12_liking_5 bp_9 ?_
      refine z_goto C 24 dX12_liking_7 (by decide) ?_
      cases h2_
      exact K3_
    have K5_ : ¬ (p_a = o_a) → Z Θ 3 0 0 (zQ Θ ρ) σ 10 [(0, .ref (zA Θ 0)), (1, .int p_a), (2, .int o_a)] [] := by
      intro h9_
      rw [if_neg h9_] at h2_
      refine z_aload_n C 0 dX12_liking_10 rfl rfl ?_
      refine fg12_7 C hkd dX12_liking_11 ?_
      refine z_bipush (v := 63) C dX12_liking_14 bp_63 ?_
      refine z_bipush (v := 7) C dX12_liking_16 bp_7 ?_
      refine z_iload_n C 1 dX12_liking_18 rfl rfl ?_
      refine z_imul C dX12_liking_19 ?_
      refine z_iadd C dX12_liking_20 ?_
      refine z_iload_n C 2 dX12_liking_21 rfl rfl ?_
      refine z_iadd C dX12_liking_22 ?_
      obtain ⟨x7_, h8_, h2_⟩ := ob h2_
      refine z_ag C h8_ (kM_1 hkd) dX12_liking_23 ?_
      cases h2_
      exact K3_
    refine z_iload_n C 1 dX12_liking_0 rfl rfl ?_
    refine z_iload_n C 2 dX12_liking_1 rfl rfl ?_
    refine c_eq_f C 10 dX12_liking_2 (by decide) (fun h6_ => ?_) (fun h6_ => ?_)
    · exact K4_ h6_
    · exact K5_ h6_
  cases hf
  subst hρ
  exact z_iret C dX12_liking_24
theorem c12_liking {l : Launch} {kd : List KD} {w : Wp} {σ : St} {p_a : Int32} {o_a : Int32} (hkd : kd = kdM) (hi : zI kd w) {r : Int32} (hf : q12_liking σ p_a o_a = some r) : zM l kd w yX12_liking cX12_liking 3 (some .int) rm12_liking [.ref (w.2.2.1 0), .int p_a, .int o_a] σ (some (.int r), σ) := zM_of rfl hi (Nat.le_of_ble_eq_true rfl) (fun Θ hl hw C => by
  obtain ⟨Θ1, Θ2, Θ3, Θ4, Θ5⟩ := Θ
  cases hw
  exact p12_liking C hkd  hf rfl)
/-! LastLoafModel.isOne -/
theorem ic_3 : Int32.ofInt (3) = 3 := by decide +kernel
theorem w_8_141 : Cond.code ({ cls := "LastLoafModel", name := "isIn", desc := "(III)Z" } : MethodName) prog_14_method_3_code (3 : Nat) (Option.some ClassFile.FieldType.boolean) ∈ TB := tb_in (lwt_8 (List.mem_of_getElem? (i := 141) (by decide +kernel))) rfl
theorem w_1_14 : Cond.initialized "LastLoafModel" ∈ TB := tb_in (lwt_1 (List.mem_of_getElem? (i := 14) (by decide +kernel))) rfl
theorem w_8_140 : Cond.static ({ cls := "LastLoafModel", name := "isIn", desc := "(III)Z" } : MethodName) ∈ TB := tb_in (lwt_8 (List.mem_of_getElem? (i := 140) (by decide +kernel))) rfl
theorem w_8_139 : Cond.methodLink "LastLoafModel" (68 : Nat) ({ cls := "LastLoafModel", name := "isIn", desc := "(III)Z" } : MethodName) ∈ TB := tb_in (lwt_8 (List.mem_of_getElem? (i := 139) (by decide +kernel))) rfl
theorem cr12_68 {Θ : Tz} {cc : ByteArray} {nL kc ks : Nat} {ret : Option FieldType} {rm : Room} {Q : State → Prop} {σ : St} {pc : Nat} {lv : List (Nat × Value)} {st : List Value} (C : Zc Θ cc nL RX12 ret rm) (hkd : Θ.2.2.2.2.1 = kdM) {v_a : Int32} {low_a : Int32} {high_a : Int32} (hrm : rm12_isIn.frames + 1 ≤ rm.frames ∧ 8 + (3 + 11) + rm12_isIn.locals ≤ rm.locals) (hcat : (st.map fun v => v.category).sum ≤ 8) (hk : kc ≤ rm.cells ∧ ks ≤ rm.slots) (hd : decode cc pc = .ok (.invokestatic 68, 3)) (kk : Z Θ nL kc ks Q σ (pc + 3) lv (.int (b2i (q12_isIn v_a low_a high_a)) :: st)) : Z Θ nL kc ks Q σ pc lv (.int high_a :: .int low_a :: .int v_a :: st) := z_callS C [.int v_a, .int low_a, .int high_a] (some (.int (b2i (q12_isIn v_a low_a high_a))), σ) 3 (c12_isIn (v_a := v_a) (low_a := low_a) (high_a := high_a) hkd (zc_inj C)) w_8_141 w_8_139 w_8_140 w_1_14 ⟨rfl, rfl, hrm.1, hrm.2⟩ (by decide +kernel) rfl rfl hcat hk hd kk
theorem dX12_isOne_0 : decode cX12_isOne 0 = .ok (.iload_n 1, 1) := by decide +kernel
theorem dX12_isOne_1 : decode cX12_isOne 1 = .ok (.iconst 0, 1) := by decide +kernel
theorem dX12_isOne_2 : decode cX12_isOne 2 = .ok (.aload_n 0, 1) := by decide +kernel
theorem dX12_isOne_3 : decode cX12_isOne 3 = .ok (.getfield 7, 3) := by decide +kernel
theorem dX12_isOne_6 : decode cX12_isOne 6 = .ok (.iconst 3, 1) := by decide +kernel
theorem dX12_isOne_7 : decode cX12_isOne 7 = .ok (.iaload, 1) := by decide +kernel
theorem dX12_isOne_8 : decode cX12_isOne 8 = .ok (.iconst 1, 1) := by decide +kernel
theorem dX12_isOne_9 : decode cX12_isOne 9 = .ok (.isub, 1) := by decide +kernel
theorem dX12_isOne_10 : decode cX12_isOne 10 = .ok (.invokestatic 68, 3) := by decide +kernel
theorem dX12_isOne_13 : decode cX12_isOne 13 = .ok (.ireturn, 1) := by decide +kernel
def q12_isOne (σ : St) (p_a : Int32) : Option Bool :=
  Option.bind (ag σ 1 752 3) fun x1_ =>
  some (q12_isIn p_a 0 (x1_ - 1))
abbrev rm12_isOne : Room := { frames := 1, cells := 0, slots := 0, locals := 22 }
set_option maxHeartbeats 4000000 in
set_option maxRecDepth 100000 in
theorem p12_isOne {Θ : Tz} {σ : St} {ρ : Option Value × St} (C : Zc Θ cX12_isOne 2 RX12 (some .boolean) rm12_isOne) (hkd : Θ.2.2.2.2.1 = kdM) {p_a : Int32} {r : Bool} (hf : q12_isOne σ p_a = some r) (hρ : ρ = (some (.int (b2i r)), σ)) : Z Θ 2 0 0 (zQ Θ ρ) σ 0 [(0, .ref (zA Θ 0)), (1, .int p_a)] [] := by
  unfold q12_isOne at hf
  refine z_iload_n C 1 dX12_isOne_0 rfl rfl ?_
  refine z_iconst (v := 0) C dX12_isOne_1 ic_0 ?_
  refine z_aload_n C 0 dX12_isOne_2 rfl rfl ?_
  refine fg12_7 C hkd dX12_isOne_3 ?_
  refine z_iconst (v := 3) C dX12_isOne_6 ic_3 ?_
  obtain ⟨x1_, h2_, hf⟩ := ob hf
  refine z_ag C h2_ (kM_1 hkd) dX12_isOne_7 ?_
  refine z_iconst (v := 1) C dX12_isOne_8 ic_1 ?_
  refine z_isub C dX12_isOne_9 ?_
  refine cr12_68 (v_a := p_a) (low_a := 0) (high_a := (x1_ - 1)) C hkd  ⟨(Nat.le_of_ble_eq_true rfl), (Nat.le_of_ble_eq_true rfl)⟩ (Nat.le_of_ble_eq_true rfl) ⟨Nat.zero_le _, Nat.zero_le _⟩ dX12_isOne_10 ?_
  cases hf
  subst hρ
  exact z_zret C (b2i_narrow _) dX12_isOne_13
theorem c12_isOne {l : Launch} {kd : List KD} {w : Wp} {σ : St} {p_a : Int32} (hkd : kd = kdM) (hi : zI kd w) {r : Bool} (hf : q12_isOne σ p_a = some r) : zM l kd w yX12_isOne cX12_isOne 2 (some .boolean) rm12_isOne [.ref (w.2.2.1 0), .int p_a] σ (some (.int (b2i r)), σ) := zM_of rfl hi (Nat.le_of_ble_eq_true rfl) (fun Θ hl hw C => by
  obtain ⟨Θ1, Θ2, Θ3, Θ4, Θ5⟩ := Θ
  cases hw
  exact p12_isOne C hkd  hf rfl)
/-! LastLoafModel.all -/
theorem dX12_all_0 : decode cX12_all 0 = .ok (.iconst 1, 1) := by decide +kernel
theorem dX12_all_1 : decode cX12_all 1 = .ok (.aload_n 0, 1) := by decide +kernel
theorem dX12_all_2 : decode cX12_all 2 = .ok (.getfield 7, 3) := by decide +kernel
theorem dX12_all_5 : decode cX12_all 5 = .ok (.iconst 3, 1) := by decide +kernel
theorem dX12_all_6 : decode cX12_all 6 = .ok (.iaload, 1) := by decide +kernel
theorem dX12_all_7 : decode cX12_all 7 = .ok (.ishl, 1) := by decide +kernel
theorem dX12_all_8 : decode cX12_all 8 = .ok (.iconst 1, 1) := by decide +kernel
theorem dX12_all_9 : decode cX12_all 9 = .ok (.isub, 1) := by decide +kernel
theorem dX12_all_10 : decode cX12_all 10 = .ok (.ireturn, 1) := by decide +kernel
def q12_all (σ : St) : Option Int32 :=
  Option.bind (ag σ 1 752 3) fun x1_ =>
  some ((shl 1 x1_) - 1)
abbrev rm12_all : Room := { frames := 0, cells := 0, slots := 0, locals := 0 }
set_option maxHeartbeats 4000000 in
set_option maxRecDepth 100000 in
theorem p12_all {Θ : Tz} {σ : St} {ρ : Option Value × St} (C : Zc Θ cX12_all 1 RX12 (some .int) rm12_all) (hkd : Θ.2.2.2.2.1 = kdM) {r : Int32} (hf : q12_all σ = some r) (hρ : ρ = (some (.int r), σ)) : Z Θ 1 0 0 (zQ Θ ρ) σ 0 [(0, .ref (zA Θ 0))] [] := by
  unfold q12_all at hf
  refine z_iconst (v := 1) C dX12_all_0 ic_1 ?_
  refine z_aload_n C 0 dX12_all_1 rfl rfl ?_
  refine fg12_7 C hkd dX12_all_2 ?_
  refine z_iconst (v := 3) C dX12_all_5 ic_3 ?_
  obtain ⟨x1_, h2_, hf⟩ := ob hf
  refine z_ag C h2_ (kM_1 hkd) dX12_all_6 ?_
  refine z_shl C dX12_all_7 ?_
  refine z_iconst (v := 1) C dX12_all_8 ic_1 ?_
  refine z_isub C dX12_all_9 ?_
  cases hf
  subst hρ
  exact z_iret C dX12_all_10
theorem c12_all {l : Launch} {kd : List KD} {w : Wp} {σ : St} (hkd : kd = kdM) (hi : zI kd w) {r : Int32} (hf : q12_all σ = some r) : zM l kd w yX12_all cX12_all 1 (some .int) rm12_all [.ref (w.2.2.1 0)] σ (some (.int r), σ) := zM_of rfl hi (Nat.le_of_ble_eq_true rfl) (fun Θ hl hw C => by
  obtain ⟨Θ1, Θ2, Θ3, Θ4, Θ5⟩ := Θ
  cases hw
  exact p12_all C hkd  hf rfl)
/-! LastLoafModel.those -/
theorem w_9_57 : Cond.code ({ cls := "LastLoafModel", name := "of", desc := "(II)I" } : MethodName) prog_14_method_8_code (3 : Nat) (Option.some ClassFile.FieldType.int) ∈ TB := tb_in (lwt_9 (List.mem_of_getElem? (i := 57) (by decide +kernel))) rfl
theorem w_9_54 : Cond.methodLink "LastLoafModel" (72 : Nat) ({ cls := "LastLoafModel", name := "of", desc := "(II)I" } : MethodName) ∈ TB := tb_in (lwt_9 (List.mem_of_getElem? (i := 54) (by decide +kernel))) rfl
theorem w_9_56 : Cond.instanceMethod ({ cls := "LastLoafModel", name := "of", desc := "(II)I" } : MethodName) ∈ TB := tb_in (lwt_9 (List.mem_of_getElem? (i := 56) (by decide +kernel))) rfl
theorem ws_LastLoafModel_of_II_I : Cond.selects "LastLoafModel" (⟨"LastLoafModel", "of", "(II)I"⟩ : MethodName) (⟨"LastLoafModel", "of", "(II)I"⟩ : MethodName) ∈ TB := tb_in (List.mem_append_left _ (List.mem_of_getElem? (i := 43) (by decide +kernel))) rfl
theorem cr12_72 {Θ : Tz} {cc : ByteArray} {nL kc ks : Nat} {ret : Option FieldType} {rm : Room} {Q : State → Prop} {σ : St} {pc : Nat} {lv : List (Nat × Value)} {st : List Value} (C : Zc Θ cc nL RX12 ret rm) (hkd : Θ.2.2.2.2.1 = kdM) {p_a : Int32} {what_a : Int32} {r : Int32} (hx : q12_of σ p_a what_a = some r) (hrm : rm12_of.frames + 1 ≤ rm.frames ∧ 8 + (3 + 11) + rm12_of.locals ≤ rm.locals) (hcat : (st.map fun v => v.category).sum ≤ 8) (hk : kc ≤ rm.cells ∧ ks ≤ rm.slots) (hd : decode cc pc = .ok (.invokevirtual 72, 3)) (kk : Z Θ nL kc ks Q σ (pc + 3) lv (.int r :: st)) : Z Θ nL kc ks Q σ pc lv (.int what_a :: .int p_a :: .ref (zA Θ 0) :: st) := z_callV C 0 [.int p_a, .int what_a] (some (.int r), σ) 2 (kM_0 hkd) rfl (c12_of (p_a := p_a) (what_a := what_a) hkd (zc_inj C) hx) w_9_57 w_9_54 w_9_56 ws_LastLoafModel_of_II_I w_1_14 ⟨rfl, rfl, hrm.1, hrm.2⟩ (by decide +kernel) rfl rfl hcat hk hd kk
theorem dX12_those_0 : decode cX12_those 0 = .ok (.iconst 0, 1) := by decide +kernel
theorem dX12_those_1 : decode cX12_those 1 = .ok (.istore_n 2, 1) := by decide +kernel
theorem dX12_those_2 : decode cX12_those 2 = .ok (.iconst 0, 1) := by decide +kernel
theorem dX12_those_3 : decode cX12_those 3 = .ok (.istore_n 3, 1) := by decide +kernel
theorem dX12_those_4 : decode cX12_those 4 = .ok (.iload_n 3, 1) := by decide +kernel
theorem dX12_those_5 : decode cX12_those 5 = .ok (.aload_n 0, 1) := by decide +kernel
theorem dX12_those_6 : decode cX12_those 6 = .ok (.getfield 7, 3) := by decide +kernel
theorem dX12_those_9 : decode cX12_those 9 = .ok (.iconst 3, 1) := by decide +kernel
theorem dX12_those_10 : decode cX12_those 10 = .ok (.iaload, 1) := by decide +kernel
theorem dX12_those_11 : decode cX12_those 11 = .ok (.if_icmp .ge 28, 3) := by decide +kernel
theorem dX12_those_14 : decode cX12_those 14 = .ok (.iload_n 2, 1) := by decide +kernel
theorem dX12_those_15 : decode cX12_those 15 = .ok (.aload_n 0, 1) := by decide +kernel
theorem dX12_those_16 : decode cX12_those 16 = .ok (.iload_n 3, 1) := by decide +kernel
theorem dX12_those_17 : decode cX12_those 17 = .ok (.iload_n 1, 1) := by decide +kernel
theorem dX12_those_18 : decode cX12_those 18 = .ok (.invokevirtual 72, 3) := by decide +kernel
theorem dX12_those_21 : decode cX12_those 21 = .ok (.ifCond .le 9, 3) := by decide +kernel
theorem dX12_those_24 : decode cX12_those 24 = .ok (.iconst 1, 1) := by decide +kernel
theorem dX12_those_25 : decode cX12_those 25 = .ok (.iload_n 3, 1) := by decide +kernel
theorem dX12_those_26 : decode cX12_those 26 = .ok (.ishl, 1) := by decide +kernel
theorem dX12_those_27 : decode cX12_those 27 = .ok (.goto 4, 3) := by decide +kernel
theorem dX12_those_30 : decode cX12_those 30 = .ok (.iconst 0, 1) := by decide +kernel
theorem dX12_those_31 : decode cX12_those 31 = .ok (.ior, 1) := by decide +kernel
theorem dX12_those_32 : decode cX12_those 32 = .ok (.istore_n 2, 1) := by decide +kernel
theorem dX12_those_33 : decode cX12_those 33 = .ok (.iinc 3 1, 3) := by decide +kernel
theorem dX12_those_36 : decode cX12_those 36 = .ok (.goto (-32), 3) := by decide +kernel
theorem dX12_those_39 : decode cX12_those 39 = .ok (.iload_n 2, 1) := by decide +kernel
theorem dX12_those_40 : decode cX12_those 40 = .ok (.ireturn, 1) := by decide +kernel
def q12_those (σ : St) (what_a : Int32) : Option Int32 :=
  Option.bind (loop2 (fun rec4_ (set7_ : Int32) (p8_ : Int32) =>
  Option.bind (ag σ 1 752 3) fun x13_ =>
  if p8_ < x13_ then
  Option.bind (Option.bind (q12_of σ p8_ what_a) fun x22_ =>
  if 0 < x22_ then (some (shl 1 p8_)) else (some (0 : Int32))) fun x17_ =>
  lt (set7_ ||| x17_) fun set26_ =>
  lt (p8_ + 1) fun p28_ =>
  rec4_ set26_ p28_
  else (some (set7_, p8_))) fuelN (0 : Int32) (0 : Int32)) fun y1_ =>
  some y1_.1
abbrev rm12_those : Room := { frames := 1, cells := 0, slots := 0, locals := 22 }
set_option maxHeartbeats 4000000 in
set_option maxRecDepth 100000 in
theorem p12_those {Θ : Tz} {σ : St} {ρ : Option Value × St} (C : Zc Θ cX12_those 4 RX12 (some .int) rm12_those) (hkd : Θ.2.2.2.2.1 = kdM) {what_a : Int32} {r : Int32} (hf : q12_those σ what_a = some r) (hρ : ρ = (some (.int r), σ)) : Z Θ 4 0 0 (zQ Θ ρ) σ 0 [(0, .ref (zA Θ 0)), (1, .int what_a)] [] := by
  unfold q12_those at hf
  refine z_iconst (v := 0) C dX12_those_0 ic_0 ?_
  refine z_istN C dX12_those_1 rfl rfl (Nat.le_of_ble_eq_true rfl) rfl ?_
  refine z_iconst (v := 0) C dX12_those_2 ic_0 ?_
  refine z_istN C dX12_those_3 rfl rfl (Nat.le_of_ble_eq_true rfl) rfl ?_
  refine Z.sub [2, 3, 1, 0] rfl ?_
  obtain ⟨y1_, h2_, hf⟩ := ob hf
  suffices K3_ : Z Θ 4 0 0 (zQ Θ ρ) σ 39 [(0, .ref (zA Θ 0)), (1, .int what_a), (2, .int y1_.1), (3, .int y1_.2)] [] by
    refine loop2_Z (P := fun (set7_ : Int32) (p8_ : Int32) => Z Θ 4 0 0 (zQ Θ ρ) σ 4 [(0, .ref (zA Θ 0)), (1, .int what_a), (2, .int set7_), (3, .int p8_)] []) ?_ fuelN (0 : Int32) (0 : Int32) h2_
    clear h2_
    intro rec4_ set7_ p8_ h5_ h6_
    refine z_iload_n C 3 dX12_those_4 rfl rfl ?_
    refine z_aload_n C 0 dX12_those_5 rfl rfl ?_
    refine fg12_7 C hkd dX12_those_6 ?_
    refine z_iconst (v := 3) C dX12_those_9 ic_3 ?_
    obtain ⟨x13_, h14_, h6_⟩ := ob h6_
    refine z_ag C h14_ (kM_1 hkd) dX12_those_10 ?_
    have K11_ : p8_ < x13_ → Z Θ 4 0 0 (zQ Θ ρ) σ 14 [(0, .ref (zA Θ 0)), (1, .int what_a), (2, .int set7_), (3, .int p8_)] [] := by
      intro h16_
      rw [if_pos h16_] at h6_
      refine z_iload_n C 2 dX12_those_14 rfl rfl ?_
      obtain ⟨x17_, h18_, h6_⟩ := ob h6_
      suffices K19_ : Z Θ 4 0 0 (zQ Θ ρ) σ 31 [(0, .ref (zA Θ 0)), (1, .int what_a), (2, .int set7_), (3, .int p8_)] [.int x17_, .int set7_] by
        refine z_aload_n C 0 dX12_those_15 rfl rfl ?_
        refine z_iload_n C 3 dX12_those_16 rfl rfl ?_
        refine z_iload_n C 1 dX12_those_17 rfl rfl ?_
        obtain ⟨x22_, h23_, h18_⟩ := ob h18_
        refine cr12_72 (p_a := p8_) (what_a := what_a) C hkd  h23_ ⟨(Nat.le_of_ble_eq_true rfl), (Nat.le_of_ble_eq_true rfl)⟩ (Nat.le_of_ble_eq_true rfl) ⟨Nat.zero_le _, Nat.zero_le _⟩ dX12_those_18 ?_
        have K20_ : 0 < x22_ → Z Θ 4 0 0 (zQ Θ ρ) σ 24 [(0, .ref (zA Θ 0)), (1, .int what_a), (2, .int set7_), (3, .int p8_)] [.int set7_] := by
          intro h25_
          rw [if_pos h25_] at h18_
          refine z_iconst (v := 1) C dX12_those_24 ic_1 ?_
          refine z_iload_n C 3 dX12_those_25 rfl rfl ?_
          refine z_shl C dX12_those_26 ?_
          refine z_goto C 31 dX12_those_27 (by decide) ?_
          cases h18_
          exact K19_
        have K21_ : ¬ (0 < x22_) → Z Θ 4 0 0 (zQ Θ ρ) σ 30 [(0, .ref (zA Θ 0)), (1, .int what_a), (2, .int set7_), (3, .int p8_)] [.int set7_] := by
          intro h25_
          rw [if_neg h25_] at h18_
          refine z_iconst (v := 0) C dX12_those_30 ic_0 ?_
          cases h18_
          exact K19_
        refine c0_gt_f C 30 dX12_those_21 (by decide) (fun h24_ => ?_) (fun h24_ => ?_)
        · exact K20_ h24_
        · exact K21_ h24_
      refine z_ior C dX12_those_31 ?_
      obtain ⟨set26_, h27_, h6_⟩ := lt_ h6_
      refine z_istN C dX12_those_32 h27_ rfl (Nat.le_of_ble_eq_true rfl) rfl ?_
      obtain ⟨p28_, h29_, h6_⟩ := lt_ h6_
      refine z_inc C 3 dX12_those_33 rfl ic_1 h29_ (Nat.le_of_ble_eq_true rfl) rfl ?_
      refine z_goto C 4 dX12_those_36 (by decide) ?_
      refine Z.sub [2, 3, 1, 0] rfl ?_
      exact h5_ _ _ h6_
    have K12_ : ¬ (p8_ < x13_) → Z Θ 4 0 0 (zQ Θ ρ) σ 39 [(0, .ref (zA Θ 0)), (1, .int what_a), (2, .int set7_), (3, .int p8_)] [] := by
      intro h16_
      rw [if_neg h16_] at h6_
      cases h6_
      exact K3_
    refine c_lt_f C 39 dX12_those_11 (by decide) (fun h15_ => ?_) (fun h15_ => ?_)
    · exact K11_ h15_
    · exact K12_ h15_
  refine z_iload_n C 2 dX12_those_39 rfl rfl ?_
  cases hf
  subst hρ
  exact z_iret C dX12_those_40
theorem c12_those {l : Launch} {kd : List KD} {w : Wp} {σ : St} {what_a : Int32} (hkd : kd = kdM) (hi : zI kd w) {r : Int32} (hf : q12_those σ what_a = some r) : zM l kd w yX12_those cX12_those 4 (some .int) rm12_those [.ref (w.2.2.1 0), .int what_a] σ (some (.int r), σ) := zM_of rfl hi (Nat.le_of_ble_eq_true rfl) (fun Θ hl hw C => by
  obtain ⟨Θ1, Θ2, Θ3, Θ4, Θ5⟩ := Θ
  cases hw
  exact p12_those C hkd  hf rfl)
/-! LastLoafModel.feed -/
theorem fp12_65 {Θ : Tz} {cc : ByteArray} {nL kc ks : Nat} {ret : Option FieldType} {rm : Room} {Q : State → Prop} {σ : St} {pc : Nat} {lv : List (Nat × Value)} {st : List Value} (C : Zc Θ cc nL RX12 ret rm) (hkd : Θ.2.2.2.2.1 = kdM) {x : Int32} {σ1 : St} (he : σ1 = up σ 0 0 x) (hd : decode cc pc = .ok (.putfield 65, 3)) (kk : Z Θ nL kc ks Q σ1 (pc + 3) lv st) : Z Θ nL kc ks Q σ pc lv (.int x :: .ref (zA Θ 0) :: st) := by subst he; exact z_put C inT12 tyX12_ok nmX12 0 (kM_0 hkd) rfl 0 (by decide) w_8_27 rfl rfl rfl rfl hd kk
theorem w_8_35 : Cond.fieldLink "LastLoafModel" (76 : Nat) "LastLoafModel" "taped" "I" ∈ TB := tb_in (lwt_8 (List.mem_of_getElem? (i := 35) (by decide +kernel))) rfl
theorem fg12_76 {Θ : Tz} {cc : ByteArray} {nL kc ks : Nat} {ret : Option FieldType} {rm : Room} {Q : State → Prop} {σ : St} {pc : Nat} {lv : List (Nat × Value)} {st : List Value} (C : Zc Θ cc nL RX12 ret rm) (hkd : Θ.2.2.2.2.1 = kdM) (hd : decode cc pc = .ok (.getfield 76, 3)) (kk : Z Θ nL kc ks Q σ (pc + 3) lv (.int (σ 0 8) :: st)) : Z Θ nL kc ks Q σ pc lv (.ref (zA Θ 0) :: st) := z_get C inT12 0 (kM_0 hkd) rfl 8 (by decide) w_8_35 rfl hd kk
theorem bp_20 : (Int8.ofInt (20)).toInt32 = 20 := by decide +kernel
theorem sp_400 : (Int16.ofInt (400)).toInt32 = 400 := by decide +kernel
theorem ic_m1 : Int32.ofInt (-1) = (-1) := by decide +kernel
theorem bp_12 : (Int8.ofInt (12)).toInt32 = 12 := by decide +kernel
theorem w_8_34 : Cond.fieldLink "LastLoafModel" (22 : Nat) "LastLoafModel" "tape" "[I" ∈ TB := tb_in (lwt_8 (List.mem_of_getElem? (i := 34) (by decide +kernel))) rfl
theorem fg12_22 {Θ : Tz} {cc : ByteArray} {nL kc ks : Nat} {ret : Option FieldType} {rm : Room} {Q : State → Prop} {σ : St} {pc : Nat} {lv : List (Nat × Value)} {st : List Value} (C : Zc Θ cc nL RX12 ret rm) (hkd : Θ.2.2.2.2.1 = kdM) (hd : decode cc pc = .ok (.getfield 22, 3)) (kk : Z Θ nL kc ks Q σ (pc + 3) lv (.ref (zA Θ 5) :: st)) : Z Θ nL kc ks Q σ pc lv (.ref (zA Θ 0) :: st) := z_get C inT12 0 (kM_0 hkd) rfl 7 (by decide) w_8_34 rfl hd kk
theorem bp_24 : (Int8.ofInt (24)).toInt32 = 24 := by decide +kernel
theorem fp12_76 {Θ : Tz} {cc : ByteArray} {nL kc ks : Nat} {ret : Option FieldType} {rm : Room} {Q : State → Prop} {σ : St} {pc : Nat} {lv : List (Nat × Value)} {st : List Value} (C : Zc Θ cc nL RX12 ret rm) (hkd : Θ.2.2.2.2.1 = kdM) {x : Int32} {σ1 : St} (he : σ1 = up σ 0 8 x) (hd : decode cc pc = .ok (.putfield 76, 3)) (kk : Z Θ nL kc ks Q σ1 (pc + 3) lv st) : Z Θ nL kc ks Q σ pc lv (.int x :: .ref (zA Θ 0) :: st) := by subst he; exact z_put C inT12 tyX12_ok nmX12 0 (kM_0 hkd) rfl 8 (by decide) w_8_35 rfl rfl rfl rfl hd kk
theorem dX12_feed_0 : decode cX12_feed 0 = .ok (.aload_n 0, 1) := by decide +kernel
theorem dX12_feed_1 : decode cX12_feed 1 = .ok (.iconst 0, 1) := by decide +kernel
theorem dX12_feed_2 : decode cX12_feed 2 = .ok (.putfield 65, 3) := by decide +kernel
theorem dX12_feed_5 : decode cX12_feed 5 = .ok (.aload_n 0, 1) := by decide +kernel
theorem dX12_feed_6 : decode cX12_feed 6 = .ok (.getfield 76, 3) := by decide +kernel
theorem dX12_feed_9 : decode cX12_feed 9 = .ok (.bipush 20, 2) := by decide +kernel
theorem dX12_feed_11 : decode cX12_feed 11 = .ok (.iadd, 1) := by decide +kernel
theorem dX12_feed_12 : decode cX12_feed 12 = .ok (.sipush 400, 3) := by decide +kernel
theorem dX12_feed_15 : decode cX12_feed 15 = .ok (.if_icmp .le 5, 3) := by decide +kernel
theorem dX12_feed_18 : decode cX12_feed 18 = .ok (.iconst (-1), 1) := by decide +kernel
theorem dX12_feed_19 : decode cX12_feed 19 = .ok (.ireturn, 1) := by decide +kernel
theorem dX12_feed_20 : decode cX12_feed 20 = .ok (.iconst 0, 1) := by decide +kernel
theorem dX12_feed_21 : decode cX12_feed 21 = .ok (.istore 6, 2) := by decide +kernel
theorem dX12_feed_23 : decode cX12_feed 23 = .ok (.iload 6, 2) := by decide +kernel
theorem dX12_feed_25 : decode cX12_feed 25 = .ok (.bipush 20, 2) := by decide +kernel
theorem dX12_feed_27 : decode cX12_feed 27 = .ok (.if_icmp .ge 93, 3) := by decide +kernel
theorem dX12_feed_30 : decode cX12_feed 30 = .ok (.iload 6, 2) := by decide +kernel
theorem dX12_feed_32 : decode cX12_feed 32 = .ok (.iconst 4, 1) := by decide +kernel
theorem dX12_feed_33 : decode cX12_feed 33 = .ok (.if_icmp .ge 7, 3) := by decide +kernel
theorem dX12_feed_36 : decode cX12_feed 36 = .ok (.iload_n 1, 1) := by decide +kernel
theorem dX12_feed_37 : decode cX12_feed 37 = .ok (.goto 39, 3) := by decide +kernel
theorem dX12_feed_40 : decode cX12_feed 40 = .ok (.iload 6, 2) := by decide +kernel
theorem dX12_feed_42 : decode cX12_feed 42 = .ok (.bipush 8, 2) := by decide +kernel
theorem dX12_feed_44 : decode cX12_feed 44 = .ok (.if_icmp .ge 7, 3) := by decide +kernel
theorem dX12_feed_47 : decode cX12_feed 47 = .ok (.iload_n 2, 1) := by decide +kernel
theorem dX12_feed_48 : decode cX12_feed 48 = .ok (.goto 28, 3) := by decide +kernel
theorem dX12_feed_51 : decode cX12_feed 51 = .ok (.iload 6, 2) := by decide +kernel
theorem dX12_feed_53 : decode cX12_feed 53 = .ok (.bipush 12, 2) := by decide +kernel
theorem dX12_feed_55 : decode cX12_feed 55 = .ok (.if_icmp .ge 7, 3) := by decide +kernel
theorem dX12_feed_58 : decode cX12_feed 58 = .ok (.iload_n 3, 1) := by decide +kernel
theorem dX12_feed_59 : decode cX12_feed 59 = .ok (.goto 17, 3) := by decide +kernel
theorem dX12_feed_62 : decode cX12_feed 62 = .ok (.iload 6, 2) := by decide +kernel
theorem dX12_feed_64 : decode cX12_feed 64 = .ok (.bipush 16, 2) := by decide +kernel
theorem dX12_feed_66 : decode cX12_feed 66 = .ok (.if_icmp .ge 8, 3) := by decide +kernel
theorem dX12_feed_69 : decode cX12_feed 69 = .ok (.iload 4, 2) := by decide +kernel
theorem dX12_feed_71 : decode cX12_feed 71 = .ok (.goto 5, 3) := by decide +kernel
theorem dX12_feed_74 : decode cX12_feed 74 = .ok (.iload 5, 2) := by decide +kernel
theorem dX12_feed_76 : decode cX12_feed 76 = .ok (.istore 7, 2) := by decide +kernel
theorem dX12_feed_78 : decode cX12_feed 78 = .ok (.aload_n 0, 1) := by decide +kernel
theorem dX12_feed_79 : decode cX12_feed 79 = .ok (.getfield 22, 3) := by decide +kernel
theorem dX12_feed_82 : decode cX12_feed 82 = .ok (.aload_n 0, 1) := by decide +kernel
theorem dX12_feed_83 : decode cX12_feed 83 = .ok (.getfield 76, 3) := by decide +kernel
theorem dX12_feed_86 : decode cX12_feed 86 = .ok (.iload 7, 2) := by decide +kernel
theorem dX12_feed_88 : decode cX12_feed 88 = .ok (.bipush 24, 2) := by decide +kernel
theorem dX12_feed_90 : decode cX12_feed 90 = .ok (.bipush 8, 2) := by decide +kernel
theorem dX12_feed_92 : decode cX12_feed 92 = .ok (.iload 6, 2) := by decide +kernel
theorem dX12_feed_94 : decode cX12_feed 94 = .ok (.iconst 4, 1) := by decide +kernel
theorem dX12_feed_95 : decode cX12_feed 95 = .ok (.irem, 1) := by decide +kernel
theorem dX12_feed_96 : decode cX12_feed 96 = .ok (.imul, 1) := by decide +kernel
theorem dX12_feed_97 : decode cX12_feed 97 = .ok (.isub, 1) := by decide +kernel
theorem dX12_feed_98 : decode cX12_feed 98 = .ok (.iushr, 1) := by decide +kernel
theorem dX12_feed_99 : decode cX12_feed 99 = .ok (.sipush 255, 3) := by decide +kernel
theorem dX12_feed_102 : decode cX12_feed 102 = .ok (.iand, 1) := by decide +kernel
theorem dX12_feed_103 : decode cX12_feed 103 = .ok (.iastore, 1) := by decide +kernel
theorem dX12_feed_104 : decode cX12_feed 104 = .ok (.aload_n 0, 1) := by decide +kernel
theorem dX12_feed_105 : decode cX12_feed 105 = .ok (.dup, 1) := by decide +kernel
theorem dX12_feed_106 : decode cX12_feed 106 = .ok (.getfield 76, 3) := by decide +kernel
theorem dX12_feed_109 : decode cX12_feed 109 = .ok (.iconst 1, 1) := by decide +kernel
theorem dX12_feed_110 : decode cX12_feed 110 = .ok (.iadd, 1) := by decide +kernel
theorem dX12_feed_111 : decode cX12_feed 111 = .ok (.putfield 76, 3) := by decide +kernel
theorem dX12_feed_114 : decode cX12_feed 114 = .ok (.iinc 6 1, 3) := by decide +kernel
theorem dX12_feed_117 : decode cX12_feed 117 = .ok (.goto (-94), 3) := by decide +kernel
theorem dX12_feed_120 : decode cX12_feed 120 = .ok (.aload_n 0, 1) := by decide +kernel
theorem dX12_feed_121 : decode cX12_feed 121 = .ok (.getfield 76, 3) := by decide +kernel
theorem dX12_feed_124 : decode cX12_feed 124 = .ok (.ireturn, 1) := by decide +kernel
def q12_feed (σ : St) (a_a : Int32) (b_a : Int32) (c_a : Int32) (d_a : Int32) (e_a : Int32) : Option (Int32 × St) :=
  lt (up σ 0 0 0) fun σ1_ =>
  if 400 < ((σ1_ 0 8) + 20) then (some ((-1), σ1_)) else
  Option.bind (loop2 (fun rec10_ (k13_ : Int32) (σ14_ : St) =>
  if k13_ < 20 then
  lt (if k13_ < 4 then a_a else if k13_ < 8 then b_a else if k13_ < 12 then c_a else if k13_ < 16 then d_a else e_a) fun v41_ =>
  Option.bind (sa σ14_ 5 400 (σ14_ 0 8) ((ushr v41_ (24 - (8 * (irm k13_ 4)))) &&& 255)) fun σ43_ =>
  lt (up σ43_ 0 8 ((σ43_ 0 8) + 1)) fun σ45_ =>
  lt (k13_ + 1) fun k47_ =>
  rec10_ k47_ σ45_
  else (some (k13_, σ14_))) fuelN (0 : Int32) σ1_) fun y7_ =>
  some (y7_.2 0 8, y7_.2)
abbrev rm12_feed : Room := { frames := 0, cells := 0, slots := 0, locals := 0 }
set_option maxHeartbeats 4000000 in
set_option maxRecDepth 100000 in
theorem p12_feed {Θ : Tz} {σ : St} {ρ : Option Value × St} (C : Zc Θ cX12_feed 8 RX12 (some .int) rm12_feed) (hkd : Θ.2.2.2.2.1 = kdM) {a_a : Int32} {b_a : Int32} {c_a : Int32} {d_a : Int32} {e_a : Int32} {r : (Int32 × St)} (hf : q12_feed σ a_a b_a c_a d_a e_a = some r) (hρ : ρ = (some (.int r.1), r.2)) : Z Θ 8 0 0 (zQ Θ ρ) σ 0 [(0, .ref (zA Θ 0)), (1, .int a_a), (2, .int b_a), (3, .int c_a), (4, .int d_a), (5, .int e_a)] [] := by
  unfold q12_feed at hf
  refine z_aload_n C 0 dX12_feed_0 rfl rfl ?_
  refine z_iconst (v := 0) C dX12_feed_1 ic_0 ?_
  obtain ⟨σ1_, h2_, hf⟩ := lt_ hf
  refine fp12_65 C hkd h2_ dX12_feed_2 ?_
  have K3_ : 400 < ((σ1_ 0 8) + 20) → Z Θ 8 0 0 (zQ Θ ρ) σ1_ 18 [(0, .ref (zA Θ 0)), (1, .int a_a), (2, .int b_a), (3, .int c_a), (4, .int d_a), (5, .int e_a)] [] := by
    intro h6_
    rw [if_pos h6_] at hf
    refine z_iconst (v := (-1)) C dX12_feed_18 ic_m1 ?_
    cases hf
    subst hρ
    exact z_iret C dX12_feed_19
  suffices K4_ : ¬ (400 < ((σ1_ 0 8) + 20)) → Z Θ 8 0 0 (zQ Θ ρ) σ1_ 20 [(0, .ref (zA Θ 0)), (1, .int a_a), (2, .int b_a), (3, .int c_a), (4, .int d_a), (5, .int e_a)] [] by
    refine z_aload_n C 0 dX12_feed_5 rfl rfl ?_
    refine fg12_76 C hkd dX12_feed_6 ?_
    refine z_bipush (v := 20) C dX12_feed_9 bp_20 ?_
    refine z_iadd C dX12_feed_11 ?_
    refine z_sipush (v := 400) C dX12_feed_12 sp_400 ?_
    refine c_gt_f C 20 dX12_feed_15 (by decide) (fun h5_ => ?_) (fun h5_ => ?_)
    · exact K3_ h5_
    · exact K4_ h5_
  intro h6_
  rw [if_neg h6_] at hf
  refine z_iconst (v := 0) C dX12_feed_20 ic_0 ?_
  refine z_ist C dX12_feed_21 rfl (Nat.le_of_ble_eq_true rfl) rfl ?_
  refine Z.sub [1, 2, 3, 4, 5, 6, 0] rfl ?_
  obtain ⟨y7_, h8_, hf⟩ := ob hf
  suffices K9_ : Z Θ 8 0 0 (zQ Θ ρ) y7_.2 120 [(0, .ref (zA Θ 0)), (1, .int a_a), (2, .int b_a), (3, .int c_a), (4, .int d_a), (5, .int e_a), (6, .int y7_.1)] [] by
    refine loop2_Z (P := fun (k13_ : Int32) (σ14_ : St) => Z Θ 8 0 0 (zQ Θ ρ) σ14_ 23 [(0, .ref (zA Θ 0)), (1, .int a_a), (2, .int b_a), (3, .int c_a), (4, .int d_a), (5, .int e_a), (6, .int k13_)] []) ?_ fuelN (0 : Int32) σ1_ h8_
    clear h8_
    intro rec10_ k13_ σ14_ h11_ h12_
    have K17_ : k13_ < 20 → Z Θ 8 0 0 (zQ Θ ρ) σ14_ 30 [(0, .ref (zA Θ 0)), (1, .int a_a), (2, .int b_a), (3, .int c_a), (4, .int d_a), (5, .int e_a), (6, .int k13_)] [] := by
      intro h20_
      rw [if_pos h20_] at h12_
      suffices K21_ : Z Θ 8 0 0 (zQ Θ ρ) σ14_ 76 [(0, .ref (zA Θ 0)), (1, .int a_a), (2, .int b_a), (3, .int c_a), (4, .int d_a), (5, .int e_a), (6, .int k13_)] [.int (if k13_ < 4 then a_a else if k13_ < 8 then b_a else if k13_ < 12 then c_a else if k13_ < 16 then d_a else e_a)] by
        have K22_ : k13_ < 4 → Z Θ 8 0 0 (zQ Θ ρ) σ14_ 36 [(0, .ref (zA Θ 0)), (1, .int a_a), (2, .int b_a), (3, .int c_a), (4, .int d_a), (5, .int e_a), (6, .int k13_)] [] := by
          intro h40_
          rw [if_pos h40_] at K21_
          refine z_iload_n C 1 dX12_feed_36 rfl rfl ?_
          refine z_goto C 76 dX12_feed_37 (by decide) ?_
          exact K21_
        have K23_ : ¬ (k13_ < 4) → Z Θ 8 0 0 (zQ Θ ρ) σ14_ 40 [(0, .ref (zA Θ 0)), (1, .int a_a), (2, .int b_a), (3, .int c_a), (4, .int d_a), (5, .int e_a), (6, .int k13_)] [] := by
          intro h40_
          rw [if_neg h40_] at K21_
          suffices K25_ : Z Θ 8 0 0 (zQ Θ ρ) σ14_ 76 [(0, .ref (zA Θ 0)), (1, .int a_a), (2, .int b_a), (3, .int c_a), (4, .int d_a), (5, .int e_a), (6, .int k13_)] [.int (if k13_ < 8 then b_a else if k13_ < 12 then c_a else if k13_ < 16 then d_a else e_a)] by
            have K26_ : k13_ < 8 → Z Θ 8 0 0 (zQ Θ ρ) σ14_ 47 [(0, .ref (zA Θ 0)), (1, .int a_a), (2, .int b_a), (3, .int c_a), (4, .int d_a), (5, .int e_a), (6, .int k13_)] [] := by
              intro h39_
              rw [if_pos h39_] at K25_
              refine z_iload_n C 2 dX12_feed_47 rfl rfl ?_
              refine z_goto C 76 dX12_feed_48 (by decide) ?_
              exact K25_
            have K27_ : ¬ (k13_ < 8) → Z Θ 8 0 0 (zQ Θ ρ) σ14_ 51 [(0, .ref (zA Θ 0)), (1, .int a_a), (2, .int b_a), (3, .int c_a), (4, .int d_a), (5, .int e_a), (6, .int k13_)] [] := by
              intro h39_
              rw [if_neg h39_] at K25_
              suffices K29_ : Z Θ 8 0 0 (zQ Θ ρ) σ14_ 76 [(0, .ref (zA Θ 0)), (1, .int a_a), (2, .int b_a), (3, .int c_a), (4, .int d_a), (5, .int e_a), (6, .int k13_)] [.int (if k13_ < 12 then c_a else if k13_ < 16 then d_a else e_a)] by
                have K30_ : k13_ < 12 → Z Θ 8 0 0 (zQ Θ ρ) σ14_ 58 [(0, .ref (zA Θ 0)), (1, .int a_a), (2, .int b_a), (3, .int c_a), (4, .int d_a), (5, .int e_a), (6, .int k13_)] [] := by
                  intro h38_
                  rw [if_pos h38_] at K29_
                  refine z_iload_n C 3 dX12_feed_58 rfl rfl ?_
                  refine z_goto C 76 dX12_feed_59 (by decide) ?_
                  exact K29_
                have K31_ : ¬ (k13_ < 12) → Z Θ 8 0 0 (zQ Θ ρ) σ14_ 62 [(0, .ref (zA Θ 0)), (1, .int a_a), (2, .int b_a), (3, .int c_a), (4, .int d_a), (5, .int e_a), (6, .int k13_)] [] := by
                  intro h38_
                  rw [if_neg h38_] at K29_
                  suffices K33_ : Z Θ 8 0 0 (zQ Θ ρ) σ14_ 76 [(0, .ref (zA Θ 0)), (1, .int a_a), (2, .int b_a), (3, .int c_a), (4, .int d_a), (5, .int e_a), (6, .int k13_)] [.int (if k13_ < 16 then d_a else e_a)] by
                    have K34_ : k13_ < 16 → Z Θ 8 0 0 (zQ Θ ρ) σ14_ 69 [(0, .ref (zA Θ 0)), (1, .int a_a), (2, .int b_a), (3, .int c_a), (4, .int d_a), (5, .int e_a), (6, .int k13_)] [] := by
                      intro h37_
                      rw [if_pos h37_] at K33_
                      refine z_iload C 4 dX12_feed_69 rfl ?_
                      refine z_goto C 76 dX12_feed_71 (by decide) ?_
                      exact K33_
                    have K35_ : ¬ (k13_ < 16) → Z Θ 8 0 0 (zQ Θ ρ) σ14_ 74 [(0, .ref (zA Θ 0)), (1, .int a_a), (2, .int b_a), (3, .int c_a), (4, .int d_a), (5, .int e_a), (6, .int k13_)] [] := by
                      intro h37_
                      rw [if_neg h37_] at K33_
                      refine z_iload C 5 dX12_feed_74 rfl ?_
                      exact K33_
                    refine z_iload C 6 dX12_feed_62 rfl ?_
                    refine z_bipush (v := 16) C dX12_feed_64 bp_16 ?_
                    refine c_lt_f C 74 dX12_feed_66 (by decide) (fun h36_ => ?_) (fun h36_ => ?_)
                    · exact K34_ h36_
                    · exact K35_ h36_
                  exact K29_
                refine z_iload C 6 dX12_feed_51 rfl ?_
                refine z_bipush (v := 12) C dX12_feed_53 bp_12 ?_
                refine c_lt_f C 62 dX12_feed_55 (by decide) (fun h32_ => ?_) (fun h32_ => ?_)
                · exact K30_ h32_
                · exact K31_ h32_
              exact K25_
            refine z_iload C 6 dX12_feed_40 rfl ?_
            refine z_bipush (v := 8) C dX12_feed_42 bp_8 ?_
            refine c_lt_f C 51 dX12_feed_44 (by decide) (fun h28_ => ?_) (fun h28_ => ?_)
            · exact K26_ h28_
            · exact K27_ h28_
          exact K21_
        refine z_iload C 6 dX12_feed_30 rfl ?_
        refine z_iconst (v := 4) C dX12_feed_32 ic_4 ?_
        refine c_lt_f C 40 dX12_feed_33 (by decide) (fun h24_ => ?_) (fun h24_ => ?_)
        · exact K22_ h24_
        · exact K23_ h24_
      obtain ⟨v41_, h42_, h12_⟩ := lt_ h12_
      refine z_ist C dX12_feed_76 h42_ (Nat.le_of_ble_eq_true rfl) rfl ?_
      refine z_aload_n C 1 dX12_feed_78 rfl rfl ?_
      refine fg12_22 C hkd dX12_feed_79 ?_
      refine z_aload_n C 1 dX12_feed_82 rfl rfl ?_
      refine fg12_76 C hkd dX12_feed_83 ?_
      refine z_iload C 0 dX12_feed_86 rfl ?_
      refine z_bipush (v := 24) C dX12_feed_88 bp_24 ?_
      refine z_bipush (v := 8) C dX12_feed_90 bp_8 ?_
      refine z_iload C 7 dX12_feed_92 rfl ?_
      refine z_iconst (v := 4) C dX12_feed_94 ic_4 ?_
      refine z_irm C (by decide) dX12_feed_95 ?_
      refine z_imul C dX12_feed_96 ?_
      refine z_isub C dX12_feed_97 ?_
      refine z_ushr C dX12_feed_98 ?_
      refine z_sipush (v := 255) C dX12_feed_99 sp_255 ?_
      refine z_iand C dX12_feed_102 ?_
      obtain ⟨σ43_, h44_, h12_⟩ := ob h12_
      refine z_sa C h44_ (kM_5 hkd) dX12_feed_103 ?_
      refine z_aload_n C 1 dX12_feed_104 rfl rfl ?_
      refine z_dup C dX12_feed_105 rfl ?_
      refine fg12_76 C hkd dX12_feed_106 ?_
      refine z_iconst (v := 1) C dX12_feed_109 ic_1 ?_
      refine z_iadd C dX12_feed_110 ?_
      obtain ⟨σ45_, h46_, h12_⟩ := lt_ h12_
      refine fp12_76 C hkd h46_ dX12_feed_111 ?_
      obtain ⟨k47_, h48_, h12_⟩ := lt_ h12_
      refine z_inc C 7 dX12_feed_114 rfl ic_1 h48_ (Nat.le_of_ble_eq_true rfl) rfl ?_
      refine z_goto C 23 dX12_feed_117 (by decide) ?_
      refine Z.sub [2, 3, 4, 5, 6, 7, 0] rfl ?_
      exact h11_ _ _ h12_
    have K18_ : ¬ (k13_ < 20) → Z Θ 8 0 0 (zQ Θ ρ) σ14_ 120 [(0, .ref (zA Θ 0)), (1, .int a_a), (2, .int b_a), (3, .int c_a), (4, .int d_a), (5, .int e_a), (6, .int k13_)] [] := by
      intro h20_
      rw [if_neg h20_] at h12_
      cases h12_
      exact K9_
    refine z_iload C 6 dX12_feed_23 rfl ?_
    refine z_bipush (v := 20) C dX12_feed_25 bp_20 ?_
    refine c_lt_f C 120 dX12_feed_27 (by decide) (fun h19_ => ?_) (fun h19_ => ?_)
    · exact K17_ h19_
    · exact K18_ h19_
  refine z_aload_n C 0 dX12_feed_120 rfl rfl ?_
  refine fg12_76 C hkd dX12_feed_121 ?_
  cases hf
  subst hρ
  exact z_iret C dX12_feed_124
theorem c12_feed {l : Launch} {kd : List KD} {w : Wp} {σ : St} {a_a : Int32} {b_a : Int32} {c_a : Int32} {d_a : Int32} {e_a : Int32} (hkd : kd = kdM) (hi : zI kd w) {r : (Int32 × St)} (hf : q12_feed σ a_a b_a c_a d_a e_a = some r) : zM l kd w yX12_feed cX12_feed 8 (some .int) rm12_feed [.ref (w.2.2.1 0), .int a_a, .int b_a, .int c_a, .int d_a, .int e_a] σ (some (.int r.1), r.2) := zM_of rfl hi (Nat.le_of_ble_eq_true rfl) (fun Θ hl hw C => by
  obtain ⟨Θ1, Θ2, Θ3, Θ4, Θ5⟩ := Θ
  cases hw
  exact p12_feed C hkd  hf rfl)
/-! LastLoafModel.end -/
theorem dX12_end_0 : decode cX12_end 0 = .ok (.aload_n 0, 1) := by decide +kernel
theorem dX12_end_1 : decode cX12_end 1 = .ok (.iconst 0, 1) := by decide +kernel
theorem dX12_end_2 : decode cX12_end 2 = .ok (.putfield 65, 3) := by decide +kernel
theorem dX12_end_5 : decode cX12_end 5 = .ok (.iload_n 1, 1) := by decide +kernel
theorem dX12_end_6 : decode cX12_end 6 = .ok (.iconst 0, 1) := by decide +kernel
theorem dX12_end_7 : decode cX12_end 7 = .ok (.aload_n 0, 1) := by decide +kernel
theorem dX12_end_8 : decode cX12_end 8 = .ok (.getfield 76, 3) := by decide +kernel
theorem dX12_end_11 : decode cX12_end 11 = .ok (.invokestatic 68, 3) := by decide +kernel
theorem dX12_end_14 : decode cX12_end 14 = .ok (.ifCond .ne 5, 3) := by decide +kernel
theorem dX12_end_17 : decode cX12_end 17 = .ok (.iconst 0, 1) := by decide +kernel
theorem dX12_end_18 : decode cX12_end 18 = .ok (.ireturn, 1) := by decide +kernel
theorem dX12_end_19 : decode cX12_end 19 = .ok (.aload_n 0, 1) := by decide +kernel
theorem dX12_end_20 : decode cX12_end 20 = .ok (.iload_n 1, 1) := by decide +kernel
theorem dX12_end_21 : decode cX12_end 21 = .ok (.putfield 76, 3) := by decide +kernel
theorem dX12_end_24 : decode cX12_end 24 = .ok (.iconst 1, 1) := by decide +kernel
theorem dX12_end_25 : decode cX12_end 25 = .ok (.ireturn, 1) := by decide +kernel
def q12_end (σ : St) (n_a : Int32) : Option (Bool × St) :=
  lt (up σ 0 0 0) fun σ1_ =>
  if ¬ (q12_isIn n_a 0 (σ1_ 0 8) = true) then (some (false, σ1_)) else
  lt (up σ1_ 0 8 n_a) fun σ7_ =>
  some (true, σ7_)
abbrev rm12_end : Room := { frames := 1, cells := 0, slots := 0, locals := 22 }
set_option maxHeartbeats 4000000 in
set_option maxRecDepth 100000 in
theorem p12_end {Θ : Tz} {σ : St} {ρ : Option Value × St} (C : Zc Θ cX12_end 2 RX12 (some .boolean) rm12_end) (hkd : Θ.2.2.2.2.1 = kdM) {n_a : Int32} {r : (Bool × St)} (hf : q12_end σ n_a = some r) (hρ : ρ = (some (.int (b2i r.1)), r.2)) : Z Θ 2 0 0 (zQ Θ ρ) σ 0 [(0, .ref (zA Θ 0)), (1, .int n_a)] [] := by
  unfold q12_end at hf
  refine z_aload_n C 0 dX12_end_0 rfl rfl ?_
  refine z_iconst (v := 0) C dX12_end_1 ic_0 ?_
  obtain ⟨σ1_, h2_, hf⟩ := lt_ hf
  refine fp12_65 C hkd h2_ dX12_end_2 ?_
  have K3_ : ¬ (q12_isIn n_a 0 (σ1_ 0 8) = true) → Z Θ 2 0 0 (zQ Θ ρ) σ1_ 17 [(0, .ref (zA Θ 0)), (1, .int n_a)] [] := by
    intro h6_
    rw [if_pos h6_] at hf
    refine z_iconst (v := 0) C dX12_end_17 ic_0 ?_
    cases hf
    subst hρ
    exact z_zret C (b2i_narrow _) dX12_end_18
  suffices K4_ : ¬ (¬ (q12_isIn n_a 0 (σ1_ 0 8) = true)) → Z Θ 2 0 0 (zQ Θ ρ) σ1_ 19 [(0, .ref (zA Θ 0)), (1, .int n_a)] [] by
    refine z_iload_n C 1 dX12_end_5 rfl rfl ?_
    refine z_iconst (v := 0) C dX12_end_6 ic_0 ?_
    refine z_aload_n C 0 dX12_end_7 rfl rfl ?_
    refine fg12_76 C hkd dX12_end_8 ?_
    refine cr12_68 (v_a := n_a) (low_a := 0) (high_a := (σ1_ 0 8)) C hkd  ⟨(Nat.le_of_ble_eq_true rfl), (Nat.le_of_ble_eq_true rfl)⟩ (Nat.le_of_ble_eq_true rfl) ⟨Nat.zero_le _, Nat.zero_le _⟩ dX12_end_11 ?_
    refine cb_t C 19 dX12_end_14 (by decide) (fun h5_ => ?_) (fun h5_ => ?_)
    · exact K4_ (fun n => n h5_)
    · exact K3_ h5_
  intro h6_
  rw [if_neg h6_] at hf
  refine z_aload_n C 0 dX12_end_19 rfl rfl ?_
  refine z_iload_n C 1 dX12_end_20 rfl rfl ?_
  obtain ⟨σ7_, h8_, hf⟩ := lt_ hf
  refine fp12_76 C hkd h8_ dX12_end_21 ?_
  refine z_iconst (v := 1) C dX12_end_24 ic_1 ?_
  cases hf
  subst hρ
  exact z_zret C (b2i_narrow _) dX12_end_25
theorem c12_end {l : Launch} {kd : List KD} {w : Wp} {σ : St} {n_a : Int32} (hkd : kd = kdM) (hi : zI kd w) {r : (Bool × St)} (hf : q12_end σ n_a = some r) : zM l kd w yX12_end cX12_end 2 (some .boolean) rm12_end [.ref (w.2.2.1 0), .int n_a] σ (some (.int (b2i r.1)), r.2) := zM_of rfl hi (Nat.le_of_ble_eq_true rfl) (fun Θ hl hw C => by
  obtain ⟨Θ1, Θ2, Θ3, Θ4, Θ5⟩ := Θ
  cases hw
  exact p12_end C hkd  hf rfl)
/-! LastLoafModel.letter -/
theorem w_8_36 : Cond.fieldLink "LastLoafModel" (79 : Nat) "LastLoafModel" "base" "I" ∈ TB := tb_in (lwt_8 (List.mem_of_getElem? (i := 36) (by decide +kernel))) rfl
theorem fg12_79 {Θ : Tz} {cc : ByteArray} {nL kc ks : Nat} {ret : Option FieldType} {rm : Room} {Q : State → Prop} {σ : St} {pc : Nat} {lv : List (Nat × Value)} {st : List Value} (C : Zc Θ cc nL RX12 ret rm) (hkd : Θ.2.2.2.2.1 = kdM) (hd : decode cc pc = .ok (.getfield 79, 3)) (kk : Z Θ nL kc ks Q σ (pc + 3) lv (.int (σ 0 9) :: st)) : Z Θ nL kc ks Q σ pc lv (.ref (zA Θ 0) :: st) := z_get C inT12 0 (kM_0 hkd) rfl 9 (by decide) w_8_36 rfl hd kk
theorem dX12_letter_0 : decode cX12_letter 0 = .ok (.aload_n 0, 1) := by decide +kernel
theorem dX12_letter_1 : decode cX12_letter 1 = .ok (.getfield 79, 3) := by decide +kernel
theorem dX12_letter_4 : decode cX12_letter 4 = .ok (.iconst (-1), 1) := by decide +kernel
theorem dX12_letter_5 : decode cX12_letter 5 = .ok (.if_icmp .ne 12, 3) := by decide +kernel
theorem dX12_letter_8 : decode cX12_letter 8 = .ok (.aload_n 0, 1) := by decide +kernel
theorem dX12_letter_9 : decode cX12_letter 9 = .ok (.getfield 22, 3) := by decide +kernel
theorem dX12_letter_12 : decode cX12_letter 12 = .ok (.iload_n 1, 1) := by decide +kernel
theorem dX12_letter_13 : decode cX12_letter 13 = .ok (.iaload, 1) := by decide +kernel
theorem dX12_letter_14 : decode cX12_letter 14 = .ok (.goto 14, 3) := by decide +kernel
theorem dX12_letter_17 : decode cX12_letter 17 = .ok (.aload_n 0, 1) := by decide +kernel
theorem dX12_letter_18 : decode cX12_letter 18 = .ok (.getfield 7, 3) := by decide +kernel
theorem dX12_letter_21 : decode cX12_letter 21 = .ok (.aload_n 0, 1) := by decide +kernel
theorem dX12_letter_22 : decode cX12_letter 22 = .ok (.getfield 79, 3) := by decide +kernel
theorem dX12_letter_25 : decode cX12_letter 25 = .ok (.iload_n 1, 1) := by decide +kernel
theorem dX12_letter_26 : decode cX12_letter 26 = .ok (.iadd, 1) := by decide +kernel
theorem dX12_letter_27 : decode cX12_letter 27 = .ok (.iaload, 1) := by decide +kernel
theorem dX12_letter_28 : decode cX12_letter 28 = .ok (.ireturn, 1) := by decide +kernel
def q12_letter (σ : St) (k_a : Int32) : Option Int32 :=
  Option.bind (if (σ 0 9) = (-1) then (Option.bind (ag σ 5 400 k_a) fun x7_ =>
  some x7_) else (Option.bind (ag σ 1 752 ((σ 0 9) + k_a)) fun x9_ =>
  some x9_)) fun x1_ =>
  some x1_
abbrev rm12_letter : Room := { frames := 0, cells := 0, slots := 0, locals := 0 }
set_option maxHeartbeats 4000000 in
set_option maxRecDepth 100000 in
theorem p12_letter {Θ : Tz} {σ : St} {ρ : Option Value × St} (C : Zc Θ cX12_letter 2 RX12 (some .int) rm12_letter) (hkd : Θ.2.2.2.2.1 = kdM) {k_a : Int32} {r : Int32} (hf : q12_letter σ k_a = some r) (hρ : ρ = (some (.int r), σ)) : Z Θ 2 0 0 (zQ Θ ρ) σ 0 [(0, .ref (zA Θ 0)), (1, .int k_a)] [] := by
  unfold q12_letter at hf
  obtain ⟨x1_, h2_, hf⟩ := ob hf
  suffices K3_ : Z Θ 2 0 0 (zQ Θ ρ) σ 28 [(0, .ref (zA Θ 0)), (1, .int k_a)] [.int x1_] by
    have K4_ : (σ 0 9) = (-1) → Z Θ 2 0 0 (zQ Θ ρ) σ 8 [(0, .ref (zA Θ 0)), (1, .int k_a)] [] := by
      intro h11_
      rw [if_pos h11_] at h2_
      refine z_aload_n C 0 dX12_letter_8 rfl rfl ?_
      refine fg12_22 C hkd dX12_letter_9 ?_
      refine z_iload_n C 1 dX12_letter_12 rfl rfl ?_
      obtain ⟨x7_, h8_, h2_⟩ := ob h2_
      refine z_ag C h8_ (kM_5 hkd) dX12_letter_13 ?_
      refine z_goto C 28 dX12_letter_14 (by decide) ?_
      cases h2_
      exact K3_
    have K5_ : ¬ ((σ 0 9) = (-1)) → Z Θ 2 0 0 (zQ Θ ρ) σ 17 [(0, .ref (zA Θ 0)), (1, .int k_a)] [] := by
      intro h11_
      rw [if_neg h11_] at h2_
      refine z_aload_n C 0 dX12_letter_17 rfl rfl ?_
      refine fg12_7 C hkd dX12_letter_18 ?_
      refine z_aload_n C 0 dX12_letter_21 rfl rfl ?_
      refine fg12_79 C hkd dX12_letter_22 ?_
      refine z_iload_n C 1 dX12_letter_25 rfl rfl ?_
      refine z_iadd C dX12_letter_26 ?_
      obtain ⟨x9_, h10_, h2_⟩ := ob h2_
      refine z_ag C h10_ (kM_1 hkd) dX12_letter_27 ?_
      cases h2_
      exact K3_
    refine z_aload_n C 0 dX12_letter_0 rfl rfl ?_
    refine fg12_79 C hkd dX12_letter_1 ?_
    refine z_iconst (v := (-1)) C dX12_letter_4 ic_m1 ?_
    refine c_eq_f C 17 dX12_letter_5 (by decide) (fun h6_ => ?_) (fun h6_ => ?_)
    · exact K4_ h6_
    · exact K5_ h6_
  cases hf
  subst hρ
  exact z_iret C dX12_letter_28
theorem c12_letter {l : Launch} {kd : List KD} {w : Wp} {σ : St} {k_a : Int32} (hkd : kd = kdM) (hi : zI kd w) {r : Int32} (hf : q12_letter σ k_a = some r) : zM l kd w yX12_letter cX12_letter 2 (some .int) rm12_letter [.ref (w.2.2.1 0), .int k_a] σ (some (.int r), σ) := zM_of rfl hi (Nat.le_of_ble_eq_true rfl) (fun Θ hl hw C => by
  obtain ⟨Θ1, Θ2, Θ3, Θ4, Θ5⟩ := Θ
  cases hw
  exact p12_letter C hkd  hf rfl)
/-! LastLoafModel.skip -/
theorem w_8_38 : Cond.fieldLink "LastLoafModel" (82 : Nat) "LastLoafModel" "at" "I" ∈ TB := tb_in (lwt_8 (List.mem_of_getElem? (i := 38) (by decide +kernel))) rfl
theorem fg12_82 {Θ : Tz} {cc : ByteArray} {nL kc ks : Nat} {ret : Option FieldType} {rm : Room} {Q : State → Prop} {σ : St} {pc : Nat} {lv : List (Nat × Value)} {st : List Value} (C : Zc Θ cc nL RX12 ret rm) (hkd : Θ.2.2.2.2.1 = kdM) (hd : decode cc pc = .ok (.getfield 82, 3)) (kk : Z Θ nL kc ks Q σ (pc + 3) lv (.int (σ 0 11) :: st)) : Z Θ nL kc ks Q σ pc lv (.ref (zA Θ 0) :: st) := z_get C inT12 0 (kM_0 hkd) rfl 11 (by decide) w_8_38 rfl hd kk
theorem w_8_37 : Cond.fieldLink "LastLoafModel" (85 : Nat) "LastLoafModel" "end" "I" ∈ TB := tb_in (lwt_8 (List.mem_of_getElem? (i := 37) (by decide +kernel))) rfl
theorem fg12_85 {Θ : Tz} {cc : ByteArray} {nL kc ks : Nat} {ret : Option FieldType} {rm : Room} {Q : State → Prop} {σ : St} {pc : Nat} {lv : List (Nat × Value)} {st : List Value} (C : Zc Θ cc nL RX12 ret rm) (hkd : Θ.2.2.2.2.1 = kdM) (hd : decode cc pc = .ok (.getfield 85, 3)) (kk : Z Θ nL kc ks Q σ (pc + 3) lv (.int (σ 0 10) :: st)) : Z Θ nL kc ks Q σ pc lv (.ref (zA Θ 0) :: st) := z_get C inT12 0 (kM_0 hkd) rfl 10 (by decide) w_8_37 rfl hd kk
theorem w_8_165 : Cond.code ({ cls := "LastLoafModel", name := "letter", desc := "(I)I" } : MethodName) prog_14_method_16_code (2 : Nat) (Option.some ClassFile.FieldType.int) ∈ TB := tb_in (lwt_8 (List.mem_of_getElem? (i := 165) (by decide +kernel))) rfl
theorem w_8_162 : Cond.methodLink "LastLoafModel" (88 : Nat) ({ cls := "LastLoafModel", name := "letter", desc := "(I)I" } : MethodName) ∈ TB := tb_in (lwt_8 (List.mem_of_getElem? (i := 162) (by decide +kernel))) rfl
theorem w_8_164 : Cond.instanceMethod ({ cls := "LastLoafModel", name := "letter", desc := "(I)I" } : MethodName) ∈ TB := tb_in (lwt_8 (List.mem_of_getElem? (i := 164) (by decide +kernel))) rfl
theorem ws_LastLoafModel_letter_I_I : Cond.selects "LastLoafModel" (⟨"LastLoafModel", "letter", "(I)I"⟩ : MethodName) (⟨"LastLoafModel", "letter", "(I)I"⟩ : MethodName) ∈ TB := tb_in (List.mem_append_left _ (List.mem_of_getElem? (i := 21) (by decide +kernel))) rfl
theorem cr12_88 {Θ : Tz} {cc : ByteArray} {nL kc ks : Nat} {ret : Option FieldType} {rm : Room} {Q : State → Prop} {σ : St} {pc : Nat} {lv : List (Nat × Value)} {st : List Value} (C : Zc Θ cc nL RX12 ret rm) (hkd : Θ.2.2.2.2.1 = kdM) {k_a : Int32} {r : Int32} (hx : q12_letter σ k_a = some r) (hrm : rm12_letter.frames + 1 ≤ rm.frames ∧ 8 + (2 + 11) + rm12_letter.locals ≤ rm.locals) (hcat : (st.map fun v => v.category).sum ≤ 8) (hk : kc ≤ rm.cells ∧ ks ≤ rm.slots) (hd : decode cc pc = .ok (.invokevirtual 88, 3)) (kk : Z Θ nL kc ks Q σ (pc + 3) lv (.int r :: st)) : Z Θ nL kc ks Q σ pc lv (.int k_a :: .ref (zA Θ 0) :: st) := z_callV C 0 [.int k_a] (some (.int r), σ) 1 (kM_0 hkd) rfl (c12_letter (k_a := k_a) hkd (zc_inj C) hx) w_8_165 w_8_162 w_8_164 ws_LastLoafModel_letter_I_I w_1_14 ⟨rfl, rfl, hrm.1, hrm.2⟩ (by decide +kernel) rfl rfl hcat hk hd kk
theorem bp_32 : (Int8.ofInt (32)).toInt32 = 32 := by decide +kernel
theorem fp12_82 {Θ : Tz} {cc : ByteArray} {nL kc ks : Nat} {ret : Option FieldType} {rm : Room} {Q : State → Prop} {σ : St} {pc : Nat} {lv : List (Nat × Value)} {st : List Value} (C : Zc Θ cc nL RX12 ret rm) (hkd : Θ.2.2.2.2.1 = kdM) {x : Int32} {σ1 : St} (he : σ1 = up σ 0 11 x) (hd : decode cc pc = .ok (.putfield 82, 3)) (kk : Z Θ nL kc ks Q σ1 (pc + 3) lv st) : Z Θ nL kc ks Q σ pc lv (.int x :: .ref (zA Θ 0) :: st) := by subst he; exact z_put C inT12 tyX12_ok nmX12 0 (kM_0 hkd) rfl 11 (by decide) w_8_38 rfl rfl rfl rfl hd kk
theorem dX12_skip_0 : decode cX12_skip 0 = .ok (.aload_n 0, 1) := by decide +kernel
theorem dX12_skip_1 : decode cX12_skip 1 = .ok (.getfield 82, 3) := by decide +kernel
theorem dX12_skip_4 : decode cX12_skip 4 = .ok (.aload_n 0, 1) := by decide +kernel
theorem dX12_skip_5 : decode cX12_skip 5 = .ok (.getfield 85, 3) := by decide +kernel
theorem dX12_skip_8 : decode cX12_skip 8 = .ok (.if_icmp .ge 29, 3) := by decide +kernel
theorem dX12_skip_11 : decode cX12_skip 11 = .ok (.aload_n 0, 1) := by decide +kernel
theorem dX12_skip_12 : decode cX12_skip 12 = .ok (.aload_n 0, 1) := by decide +kernel
theorem dX12_skip_13 : decode cX12_skip 13 = .ok (.getfield 82, 3) := by decide +kernel
theorem dX12_skip_16 : decode cX12_skip 16 = .ok (.invokevirtual 88, 3) := by decide +kernel
theorem dX12_skip_19 : decode cX12_skip 19 = .ok (.bipush 32, 2) := by decide +kernel
theorem dX12_skip_21 : decode cX12_skip 21 = .ok (.if_icmp .ne 16, 3) := by decide +kernel
theorem dX12_skip_24 : decode cX12_skip 24 = .ok (.aload_n 0, 1) := by decide +kernel
theorem dX12_skip_25 : decode cX12_skip 25 = .ok (.dup, 1) := by decide +kernel
theorem dX12_skip_26 : decode cX12_skip 26 = .ok (.getfield 82, 3) := by decide +kernel
theorem dX12_skip_29 : decode cX12_skip 29 = .ok (.iconst 1, 1) := by decide +kernel
theorem dX12_skip_30 : decode cX12_skip 30 = .ok (.iadd, 1) := by decide +kernel
theorem dX12_skip_31 : decode cX12_skip 31 = .ok (.putfield 82, 3) := by decide +kernel
theorem dX12_skip_34 : decode cX12_skip 34 = .ok (.goto (-34), 3) := by decide +kernel
theorem dX12_skip_37 : decode cX12_skip 37 = .ok (.return_, 1) := by decide +kernel
def q12_skip (σ : St) : Option St :=
  Option.bind (loop1 (fun rec4_ (σ7_ : St) =>
  Option.bind (if (σ7_ 0 11) < (σ7_ 0 10) then (Option.bind (q12_letter σ7_ (σ7_ 0 11)) fun x15_ =>
  if x15_ = 32 then (some true) else (some false)) else (some false)) fun t12_ =>
  if t12_ = true then
  lt (up σ7_ 0 11 ((σ7_ 0 11) + 1)) fun σ19_ =>
  rec4_ σ19_
  else (some σ7_)) fuelN σ) fun y1_ =>
  some y1_
abbrev rm12_skip : Room := { frames := 1, cells := 0, slots := 0, locals := 21 }
set_option maxHeartbeats 4000000 in
set_option maxRecDepth 100000 in
theorem p12_skip {Θ : Tz} {σ : St} {ρ : Option Value × St} (C : Zc Θ cX12_skip 1 RX12 none rm12_skip) (hkd : Θ.2.2.2.2.1 = kdM) {r : St} (hf : q12_skip σ = some r) (hρ : ρ = (none, r)) : Z Θ 1 0 0 (zQ Θ ρ) σ 0 [(0, .ref (zA Θ 0))] [] := by
  unfold q12_skip at hf
  obtain ⟨y1_, h2_, hf⟩ := ob hf
  suffices K3_ : Z Θ 1 0 0 (zQ Θ ρ) y1_ 37 [(0, .ref (zA Θ 0))] [] by
    refine loop1_Z (P := fun (σ7_ : St) => Z Θ 1 0 0 (zQ Θ ρ) σ7_ 0 [(0, .ref (zA Θ 0))] []) ?_ fuelN σ h2_
    clear h2_
    intro rec4_ σ7_ h5_ h6_
    obtain ⟨t12_, h13_, h6_⟩ := ob h6_
    have K10_ : t12_ = true → Z Θ 1 0 0 (zQ Θ ρ) σ7_ 24 [(0, .ref (zA Θ 0))] [] := by
      intro h18_
      rw [if_pos h18_] at h6_
      refine z_aload_n C 0 dX12_skip_24 rfl rfl ?_
      refine z_dup C dX12_skip_25 rfl ?_
      refine fg12_82 C hkd dX12_skip_26 ?_
      refine z_iconst (v := 1) C dX12_skip_29 ic_1 ?_
      refine z_iadd C dX12_skip_30 ?_
      obtain ⟨σ19_, h20_, h6_⟩ := lt_ h6_
      refine fp12_82 C hkd h20_ dX12_skip_31 ?_
      refine z_goto C 0 dX12_skip_34 (by decide) ?_
      exact h5_ _ h6_
    have K11_ : ¬ (t12_ = true) → Z Θ 1 0 0 (zQ Θ ρ) σ7_ 37 [(0, .ref (zA Θ 0))] [] := by
      intro h18_
      rw [if_neg h18_] at h6_
      cases h6_
      exact K3_
    refine z_aload_n C 0 dX12_skip_0 rfl rfl ?_
    refine fg12_82 C hkd dX12_skip_1 ?_
    refine z_aload_n C 0 dX12_skip_4 rfl rfl ?_
    refine fg12_85 C hkd dX12_skip_5 ?_
    refine c_lt_f C 37 dX12_skip_8 (by decide) (fun h14_ => ?_) (fun h14_ => ?_)
    · rw [if_pos h14_] at h13_
      refine z_aload_n C 0 dX12_skip_11 rfl rfl ?_
      refine z_aload_n C 0 dX12_skip_12 rfl rfl ?_
      refine fg12_82 C hkd dX12_skip_13 ?_
      obtain ⟨x15_, h16_, h13_⟩ := ob h13_
      refine cr12_88 (k_a := (σ7_ 0 11)) C hkd  h16_ ⟨(Nat.le_of_ble_eq_true rfl), (Nat.le_of_ble_eq_true rfl)⟩ (Nat.le_of_ble_eq_true rfl) ⟨Nat.zero_le _, Nat.zero_le _⟩ dX12_skip_16 ?_
      refine z_bipush (v := 32) C dX12_skip_19 bp_32 ?_
      refine c_eq_f C 37 dX12_skip_21 (by decide) (fun h17_ => ?_) (fun h17_ => ?_)
      · rw [if_pos h17_] at h13_
        cases h13_
        exact K10_ rfl
      · rw [if_neg h17_] at h13_
        cases h13_
        exact K11_ Bool.false_ne_true
    · rw [if_neg h14_] at h13_
      cases h13_
      exact K11_ Bool.false_ne_true
  cases hf
  subst hρ
  exact z_vret C dX12_skip_37
theorem c12_skip {l : Launch} {kd : List KD} {w : Wp} {σ : St} (hkd : kd = kdM) (hi : zI kd w) {r : St} (hf : q12_skip σ = some r) : zM l kd w yX12_skip cX12_skip 1 none rm12_skip [.ref (w.2.2.1 0)] σ (none, r) := zM_of rfl hi (Nat.le_of_ble_eq_true rfl) (fun Θ hl hw C => by
  obtain ⟨Θ1, Θ2, Θ3, Θ4, Θ5⟩ := Θ
  cases hw
  exact p12_skip C hkd  hf rfl)
/-! LastLoafModel.isSign -/
theorem w_8_161 : Cond.code ({ cls := "LastLoafModel", name := "skip", desc := "()V" } : MethodName) prog_14_method_17_code (1 : Nat) (Option.none : Option ClassFile.FieldType) ∈ TB := tb_in (lwt_8 (List.mem_of_getElem? (i := 161) (by decide +kernel))) rfl
theorem w_8_158 : Cond.methodLink "LastLoafModel" (92 : Nat) ({ cls := "LastLoafModel", name := "skip", desc := "()V" } : MethodName) ∈ TB := tb_in (lwt_8 (List.mem_of_getElem? (i := 158) (by decide +kernel))) rfl
theorem w_8_160 : Cond.instanceMethod ({ cls := "LastLoafModel", name := "skip", desc := "()V" } : MethodName) ∈ TB := tb_in (lwt_8 (List.mem_of_getElem? (i := 160) (by decide +kernel))) rfl
theorem ws_LastLoafModel_skip__V : Cond.selects "LastLoafModel" (⟨"LastLoafModel", "skip", "()V"⟩ : MethodName) (⟨"LastLoafModel", "skip", "()V"⟩ : MethodName) ∈ TB := tb_in (List.mem_append_left _ (List.mem_of_getElem? (i := 20) (by decide +kernel))) rfl
theorem cr12_92 {Θ : Tz} {cc : ByteArray} {nL kc ks : Nat} {ret : Option FieldType} {rm : Room} {Q : State → Prop} {σ : St} {pc : Nat} {lv : List (Nat × Value)} {st : List Value} (C : Zc Θ cc nL RX12 ret rm) (hkd : Θ.2.2.2.2.1 = kdM) {r : St} (hx : q12_skip σ = some r) (hrm : rm12_skip.frames + 1 ≤ rm.frames ∧ 8 + (1 + 11) + rm12_skip.locals ≤ rm.locals) (hcat : (st.map fun v => v.category).sum ≤ 8) (hk : kc ≤ rm.cells ∧ ks ≤ rm.slots) (hd : decode cc pc = .ok (.invokevirtual 92, 3)) (kk : Z Θ nL kc ks Q r (pc + 3) lv st) : Z Θ nL kc ks Q σ pc lv (.ref (zA Θ 0) :: st) := z_callV C 0 [] (none, r) 0 (kM_0 hkd) rfl (c12_skip hkd (zc_inj C) hx) w_8_161 w_8_158 w_8_160 ws_LastLoafModel_skip__V w_1_14 ⟨rfl, rfl, hrm.1, hrm.2⟩ (by decide +kernel) rfl rfl hcat hk hd kk
theorem dX12_isSign_0 : decode cX12_isSign 0 = .ok (.aload_n 0, 1) := by decide +kernel
theorem dX12_isSign_1 : decode cX12_isSign 1 = .ok (.invokevirtual 92, 3) := by decide +kernel
theorem dX12_isSign_4 : decode cX12_isSign 4 = .ok (.aload_n 0, 1) := by decide +kernel
theorem dX12_isSign_5 : decode cX12_isSign 5 = .ok (.getfield 82, 3) := by decide +kernel
theorem dX12_isSign_8 : decode cX12_isSign 8 = .ok (.aload_n 0, 1) := by decide +kernel
theorem dX12_isSign_9 : decode cX12_isSign 9 = .ok (.getfield 85, 3) := by decide +kernel
theorem dX12_isSign_12 : decode cX12_isSign 12 = .ok (.if_icmp .ge 19, 3) := by decide +kernel
theorem dX12_isSign_15 : decode cX12_isSign 15 = .ok (.aload_n 0, 1) := by decide +kernel
theorem dX12_isSign_16 : decode cX12_isSign 16 = .ok (.aload_n 0, 1) := by decide +kernel
theorem dX12_isSign_17 : decode cX12_isSign 17 = .ok (.getfield 82, 3) := by decide +kernel
theorem dX12_isSign_20 : decode cX12_isSign 20 = .ok (.invokevirtual 88, 3) := by decide +kernel
theorem dX12_isSign_23 : decode cX12_isSign 23 = .ok (.iload_n 1, 1) := by decide +kernel
theorem dX12_isSign_24 : decode cX12_isSign 24 = .ok (.if_icmp .ne 7, 3) := by decide +kernel
theorem dX12_isSign_27 : decode cX12_isSign 27 = .ok (.iconst 1, 1) := by decide +kernel
theorem dX12_isSign_28 : decode cX12_isSign 28 = .ok (.goto 4, 3) := by decide +kernel
theorem dX12_isSign_31 : decode cX12_isSign 31 = .ok (.iconst 0, 1) := by decide +kernel
theorem dX12_isSign_32 : decode cX12_isSign 32 = .ok (.ireturn, 1) := by decide +kernel
def q12_isSign (σ : St) (c_a : Int32) : Option (Bool × St) :=
  Option.bind (q12_skip σ) fun x1_ =>
  Option.bind (Option.bind (if (x1_ 0 11) < (x1_ 0 10) then (Option.bind (q12_letter x1_ (x1_ 0 11)) fun x11_ =>
  if x11_ = c_a then (some true) else (some false)) else (some false)) fun t8_ =>
  if t8_ = true then (some true) else (some false)) fun x3_ =>
  some (x3_, x1_)
abbrev rm12_isSign : Room := { frames := 2, cells := 0, slots := 0, locals := 41 }
set_option maxHeartbeats 4000000 in
set_option maxRecDepth 100000 in
theorem p12_isSign {Θ : Tz} {σ : St} {ρ : Option Value × St} (C : Zc Θ cX12_isSign 2 RX12 (some .boolean) rm12_isSign) (hkd : Θ.2.2.2.2.1 = kdM) {c_a : Int32} {r : (Bool × St)} (hf : q12_isSign σ c_a = some r) (hρ : ρ = (some (.int (b2i r.1)), r.2)) : Z Θ 2 0 0 (zQ Θ ρ) σ 0 [(0, .ref (zA Θ 0)), (1, .int c_a)] [] := by
  unfold q12_isSign at hf
  refine z_aload_n C 0 dX12_isSign_0 rfl rfl ?_
  obtain ⟨x1_, h2_, hf⟩ := ob hf
  refine cr12_92 C hkd  h2_ ⟨(Nat.le_of_ble_eq_true rfl), (Nat.le_of_ble_eq_true rfl)⟩ (Nat.le_of_ble_eq_true rfl) ⟨Nat.zero_le _, Nat.zero_le _⟩ dX12_isSign_1 ?_
  obtain ⟨x3_, h4_, hf⟩ := ob hf
  suffices K5_ : Z Θ 2 0 0 (zQ Θ ρ) x1_ 32 [(0, .ref (zA Θ 0)), (1, .int c_a)] [.int (b2i x3_)] by
    obtain ⟨t8_, h9_, h4_⟩ := ob h4_
    have K6_ : t8_ = true → Z Θ 2 0 0 (zQ Θ ρ) x1_ 27 [(0, .ref (zA Θ 0)), (1, .int c_a)] [] := by
      intro h14_
      rw [if_pos h14_] at h4_
      refine z_iconst (v := 1) C dX12_isSign_27 ic_1 ?_
      refine z_goto C 32 dX12_isSign_28 (by decide) ?_
      cases h4_
      exact K5_
    have K7_ : ¬ (t8_ = true) → Z Θ 2 0 0 (zQ Θ ρ) x1_ 31 [(0, .ref (zA Θ 0)), (1, .int c_a)] [] := by
      intro h14_
      rw [if_neg h14_] at h4_
      refine z_iconst (v := 0) C dX12_isSign_31 ic_0 ?_
      cases h4_
      exact K5_
    refine z_aload_n C 0 dX12_isSign_4 rfl rfl ?_
    refine fg12_82 C hkd dX12_isSign_5 ?_
    refine z_aload_n C 0 dX12_isSign_8 rfl rfl ?_
    refine fg12_85 C hkd dX12_isSign_9 ?_
    refine c_lt_f C 31 dX12_isSign_12 (by decide) (fun h10_ => ?_) (fun h10_ => ?_)
    · rw [if_pos h10_] at h9_
      refine z_aload_n C 0 dX12_isSign_15 rfl rfl ?_
      refine z_aload_n C 0 dX12_isSign_16 rfl rfl ?_
      refine fg12_82 C hkd dX12_isSign_17 ?_
      obtain ⟨x11_, h12_, h9_⟩ := ob h9_
      refine cr12_88 (k_a := (x1_ 0 11)) C hkd  h12_ ⟨(Nat.le_of_ble_eq_true rfl), (Nat.le_of_ble_eq_true rfl)⟩ (Nat.le_of_ble_eq_true rfl) ⟨Nat.zero_le _, Nat.zero_le _⟩ dX12_isSign_20 ?_
      refine z_iload_n C 1 dX12_isSign_23 rfl rfl ?_
      refine c_eq_f C 31 dX12_isSign_24 (by decide) (fun h13_ => ?_) (fun h13_ => ?_)
      · rw [if_pos h13_] at h9_
        cases h9_
        exact K6_ rfl
      · rw [if_neg h13_] at h9_
        cases h9_
        exact K7_ Bool.false_ne_true
    · rw [if_neg h10_] at h9_
      cases h9_
      exact K7_ Bool.false_ne_true
  cases hf
  subst hρ
  exact z_zret C (b2i_narrow _) dX12_isSign_32
theorem c12_isSign {l : Launch} {kd : List KD} {w : Wp} {σ : St} {c_a : Int32} (hkd : kd = kdM) (hi : zI kd w) {r : (Bool × St)} (hf : q12_isSign σ c_a = some r) : zM l kd w yX12_isSign cX12_isSign 2 (some .boolean) rm12_isSign [.ref (w.2.2.1 0), .int c_a] σ (some (.int (b2i r.1)), r.2) := zM_of rfl hi (Nat.le_of_ble_eq_true rfl) (fun Θ hl hw C => by
  obtain ⟨Θ1, Θ2, Θ3, Θ4, Θ5⟩ := Θ
  cases hw
  exact p12_isSign C hkd  hf rfl)
/-! LastLoafModel.has -/
theorem bp_97 : (Int8.ofInt (97)).toInt32 = 97 := by decide +kernel
theorem bp_122 : (Int8.ofInt (122)).toInt32 = 122 := by decide +kernel
theorem w_4_198 : Cond.code ({ cls := "java/lang/String", name := "length", desc := "()I" } : MethodName) prog_25_method_54_code (1 : Nat) (Option.some ClassFile.FieldType.int) ∈ TB := tb_in (lwt_4 (List.mem_of_getElem? (i := 198) (by decide +kernel))) rfl
theorem w_8_179 : Cond.methodLink "LastLoafModel" (95 : Nat) ({ cls := "java/lang/String", name := "length", desc := "()I" } : MethodName) ∈ TB := tb_in (lwt_8 (List.mem_of_getElem? (i := 179) (by decide +kernel))) rfl
theorem w_4_196 : Cond.instanceMethod ({ cls := "java/lang/String", name := "length", desc := "()I" } : MethodName) ∈ TB := tb_in (lwt_4 (List.mem_of_getElem? (i := 196) (by decide +kernel))) rfl
theorem w_4_197 : Cond.selects "java/lang/String" ({ cls := "java/lang/String", name := "length", desc := "()I" } : MethodName) ({ cls := "java/lang/String", name := "length", desc := "()I" } : MethodName) ∈ TB := tb_in (lwt_4 (List.mem_of_getElem? (i := 197) (by decide +kernel))) rfl
theorem w_4_208 : Cond.code ({ cls := "java/lang/String", name := "charAt", desc := "(I)C" } : MethodName) prog_25_method_56_code (2 : Nat) (Option.some ClassFile.FieldType.char) ∈ TB := tb_in (lwt_4 (List.mem_of_getElem? (i := 208) (by decide +kernel))) rfl
theorem w_8_180 : Cond.methodLink "LastLoafModel" (101 : Nat) ({ cls := "java/lang/String", name := "charAt", desc := "(I)C" } : MethodName) ∈ TB := tb_in (lwt_8 (List.mem_of_getElem? (i := 180) (by decide +kernel))) rfl
theorem w_4_206 : Cond.instanceMethod ({ cls := "java/lang/String", name := "charAt", desc := "(I)C" } : MethodName) ∈ TB := tb_in (lwt_4 (List.mem_of_getElem? (i := 206) (by decide +kernel))) rfl
theorem w_4_207 : Cond.selects "java/lang/String" ({ cls := "java/lang/String", name := "charAt", desc := "(I)C" } : MethodName) ({ cls := "java/lang/String", name := "charAt", desc := "(I)C" } : MethodName) ∈ TB := tb_in (lwt_4 (List.mem_of_getElem? (i := 207) (by decide +kernel))) rfl
theorem dX12_has_0 : decode cX12_has 0 = .ok (.aload_n 0, 1) := by decide +kernel
theorem dX12_has_1 : decode cX12_has 1 = .ok (.invokevirtual 92, 3) := by decide +kernel
theorem dX12_has_4 : decode cX12_has 4 = .ok (.aload_n 0, 1) := by decide +kernel
theorem dX12_has_5 : decode cX12_has 5 = .ok (.getfield 82, 3) := by decide +kernel
theorem dX12_has_8 : decode cX12_has 8 = .ok (.istore_n 2, 1) := by decide +kernel
theorem dX12_has_9 : decode cX12_has 9 = .ok (.iload_n 2, 1) := by decide +kernel
theorem dX12_has_10 : decode cX12_has 10 = .ok (.aload_n 0, 1) := by decide +kernel
theorem dX12_has_11 : decode cX12_has 11 = .ok (.getfield 85, 3) := by decide +kernel
theorem dX12_has_14 : decode cX12_has 14 = .ok (.if_icmp .ge 24, 3) := by decide +kernel
theorem dX12_has_17 : decode cX12_has 17 = .ok (.aload_n 0, 1) := by decide +kernel
theorem dX12_has_18 : decode cX12_has 18 = .ok (.iload_n 2, 1) := by decide +kernel
theorem dX12_has_19 : decode cX12_has 19 = .ok (.invokevirtual 88, 3) := by decide +kernel
theorem dX12_has_22 : decode cX12_has 22 = .ok (.bipush 97, 2) := by decide +kernel
theorem dX12_has_24 : decode cX12_has 24 = .ok (.bipush 122, 2) := by decide +kernel
theorem dX12_has_26 : decode cX12_has 26 = .ok (.invokestatic 68, 3) := by decide +kernel
theorem dX12_has_29 : decode cX12_has 29 = .ok (.ifCond .eq 9, 3) := by decide +kernel
theorem dX12_has_32 : decode cX12_has 32 = .ok (.iinc 2 1, 3) := by decide +kernel
theorem dX12_has_35 : decode cX12_has 35 = .ok (.goto (-26), 3) := by decide +kernel
theorem dX12_has_38 : decode cX12_has 38 = .ok (.iload_n 2, 1) := by decide +kernel
theorem dX12_has_39 : decode cX12_has 39 = .ok (.aload_n 0, 1) := by decide +kernel
theorem dX12_has_40 : decode cX12_has 40 = .ok (.getfield 82, 3) := by decide +kernel
theorem dX12_has_43 : decode cX12_has 43 = .ok (.isub, 1) := by decide +kernel
theorem dX12_has_44 : decode cX12_has 44 = .ok (.aload_n 1, 1) := by decide +kernel
theorem dX12_has_45 : decode cX12_has 45 = .ok (.invokevirtual 95, 3) := by decide +kernel
theorem dX12_has_48 : decode cX12_has 48 = .ok (.if_icmp .eq 5, 3) := by decide +kernel
theorem dX12_has_51 : decode cX12_has 51 = .ok (.iconst 0, 1) := by decide +kernel
theorem dX12_has_52 : decode cX12_has 52 = .ok (.ireturn, 1) := by decide +kernel
theorem dX12_has_53 : decode cX12_has 53 = .ok (.iconst 0, 1) := by decide +kernel
theorem dX12_has_54 : decode cX12_has 54 = .ok (.istore_n 3, 1) := by decide +kernel
theorem dX12_has_55 : decode cX12_has 55 = .ok (.iload_n 3, 1) := by decide +kernel
theorem dX12_has_56 : decode cX12_has 56 = .ok (.aload_n 1, 1) := by decide +kernel
theorem dX12_has_57 : decode cX12_has 57 = .ok (.invokevirtual 95, 3) := by decide +kernel
theorem dX12_has_60 : decode cX12_has 60 = .ok (.if_icmp .ge 29, 3) := by decide +kernel
theorem dX12_has_63 : decode cX12_has 63 = .ok (.aload_n 0, 1) := by decide +kernel
theorem dX12_has_64 : decode cX12_has 64 = .ok (.aload_n 0, 1) := by decide +kernel
theorem dX12_has_65 : decode cX12_has 65 = .ok (.getfield 82, 3) := by decide +kernel
theorem dX12_has_68 : decode cX12_has 68 = .ok (.iload_n 3, 1) := by decide +kernel
theorem dX12_has_69 : decode cX12_has 69 = .ok (.iadd, 1) := by decide +kernel
theorem dX12_has_70 : decode cX12_has 70 = .ok (.invokevirtual 88, 3) := by decide +kernel
theorem dX12_has_73 : decode cX12_has 73 = .ok (.aload_n 1, 1) := by decide +kernel
theorem dX12_has_74 : decode cX12_has 74 = .ok (.iload_n 3, 1) := by decide +kernel
theorem dX12_has_75 : decode cX12_has 75 = .ok (.invokevirtual 101, 3) := by decide +kernel
theorem dX12_has_78 : decode cX12_has 78 = .ok (.if_icmp .eq 5, 3) := by decide +kernel
theorem dX12_has_81 : decode cX12_has 81 = .ok (.iconst 0, 1) := by decide +kernel
theorem dX12_has_82 : decode cX12_has 82 = .ok (.ireturn, 1) := by decide +kernel
theorem dX12_has_83 : decode cX12_has 83 = .ok (.iinc 3 1, 3) := by decide +kernel
theorem dX12_has_86 : decode cX12_has 86 = .ok (.goto (-31), 3) := by decide +kernel
theorem dX12_has_89 : decode cX12_has 89 = .ok (.aload_n 0, 1) := by decide +kernel
theorem dX12_has_90 : decode cX12_has 90 = .ok (.iload_n 2, 1) := by decide +kernel
theorem dX12_has_91 : decode cX12_has 91 = .ok (.putfield 82, 3) := by decide +kernel
theorem dX12_has_94 : decode cX12_has 94 = .ok (.iconst 1, 1) := by decide +kernel
theorem dX12_has_95 : decode cX12_has 95 = .ok (.ireturn, 1) := by decide +kernel
def q12_has (σ : St) (w_a : Nat) : Option (Bool × St) :=
  Option.bind (q12_skip σ) fun x1_ =>
  lt (x1_ 0 11) fun k3_ =>
  Option.bind (loop1 (fun rec8_ (k11_ : Int32) =>
  Option.bind (if k11_ < (x1_ 0 10) then (Option.bind (q12_letter x1_ k11_) fun x19_ =>
  if q12_isIn x19_ 97 122 = true then (some true) else (some false)) else (some false)) fun t16_ =>
  if t16_ = true then
  lt (k11_ + 1) fun k23_ =>
  rec8_ k23_
  else (some k11_)) fuelN k3_) fun y5_ =>
  if ¬ (y5_ - (x1_ 0 11)) = (slen w_a) then (some (false, x1_)) else
  Option.bind (loop1 (fun rec32_ (i35_ : Int32) =>
  if i35_ < (slen w_a) then
  Option.bind (q12_letter x1_ ((x1_ 0 11) + i35_)) fun x44_ =>
  Option.bind (schr w_a i35_) fun x46_ =>
  if ¬ x44_ = x46_ then (some (.inl (false, x1_))) else
  lt (i35_ + 1) fun i50_ =>
  rec32_ i50_
  else (some (.inr i35_))) fuelN (0 : Int32)) fun y29_ =>
  Sum.elim (fun x9 => some x9) (fun y29_r =>
  lt (up x1_ 0 11 y5_) fun σ52_ =>
  some (true, σ52_)) y29_
abbrev rm12_has : Room := { frames := 4, cells := 0, slots := 0, locals := 85 }
set_option maxHeartbeats 4000000 in
set_option maxRecDepth 100000 in
theorem p12_has {Θ : Tz} {σ : St} {ρ : Option Value × St} (C : Zc Θ cX12_has 4 RX12 (some .boolean) rm12_has) (hkd : Θ.2.2.2.2.1 = kdM) {w_a : Nat} (h_w : w_a < 46) {r : (Bool × St)} (hf : q12_has σ w_a = some r) (hρ : ρ = (some (.int (b2i r.1)), r.2)) : Z Θ 4 0 0 (zQ Θ ρ) σ 0 [(0, .ref (zA Θ 0)), (1, .ref (zK Θ w_a))] [] := by
  unfold q12_has at hf
  refine z_aload_n C 0 dX12_has_0 rfl rfl ?_
  obtain ⟨x1_, h2_, hf⟩ := ob hf
  refine cr12_92 C hkd  h2_ ⟨(Nat.le_of_ble_eq_true rfl), (Nat.le_of_ble_eq_true rfl)⟩ (Nat.le_of_ble_eq_true rfl) ⟨Nat.zero_le _, Nat.zero_le _⟩ dX12_has_1 ?_
  refine z_aload_n C 0 dX12_has_4 rfl rfl ?_
  refine fg12_82 C hkd dX12_has_5 ?_
  obtain ⟨k3_, h4_, hf⟩ := lt_ hf
  refine z_istN C dX12_has_8 h4_ rfl (Nat.le_of_ble_eq_true rfl) rfl ?_
  refine Z.sub [1, 2, 0] rfl ?_
  obtain ⟨y5_, h6_, hf⟩ := ob hf
  suffices K7_ : Z Θ 4 0 0 (zQ Θ ρ) x1_ 38 [(0, .ref (zA Θ 0)), (1, .ref (zK Θ w_a)), (2, .int y5_)] [] by
    refine loop1_Z (P := fun (k11_ : Int32) => Z Θ 4 0 0 (zQ Θ ρ) x1_ 9 [(0, .ref (zA Θ 0)), (1, .ref (zK Θ w_a)), (2, .int k11_)] []) ?_ fuelN k3_ h6_
    clear h6_
    intro rec8_ k11_ h9_ h10_
    obtain ⟨t16_, h17_, h10_⟩ := ob h10_
    have K14_ : t16_ = true → Z Θ 4 0 0 (zQ Θ ρ) x1_ 32 [(0, .ref (zA Θ 0)), (1, .ref (zK Θ w_a)), (2, .int k11_)] [] := by
      intro h22_
      rw [if_pos h22_] at h10_
      obtain ⟨k23_, h24_, h10_⟩ := lt_ h10_
      refine z_inc C 2 dX12_has_32 rfl ic_1 h24_ (Nat.le_of_ble_eq_true rfl) rfl ?_
      refine z_goto C 9 dX12_has_35 (by decide) ?_
      refine Z.sub [1, 2, 0] rfl ?_
      exact h9_ _ h10_
    have K15_ : ¬ (t16_ = true) → Z Θ 4 0 0 (zQ Θ ρ) x1_ 38 [(0, .ref (zA Θ 0)), (1, .ref (zK Θ w_a)), (2, .int k11_)] [] := by
      intro h22_
      rw [if_neg h22_] at h10_
      cases h10_
      exact K7_
    refine z_iload_n C 2 dX12_has_9 rfl rfl ?_
    refine z_aload_n C 0 dX12_has_10 rfl rfl ?_
    refine fg12_85 C hkd dX12_has_11 ?_
    refine c_lt_f C 38 dX12_has_14 (by decide) (fun h18_ => ?_) (fun h18_ => ?_)
    · rw [if_pos h18_] at h17_
      refine z_aload_n C 0 dX12_has_17 rfl rfl ?_
      refine z_iload_n C 2 dX12_has_18 rfl rfl ?_
      obtain ⟨x19_, h20_, h17_⟩ := ob h17_
      refine cr12_88 (k_a := k11_) C hkd  h20_ ⟨(Nat.le_of_ble_eq_true rfl), (Nat.le_of_ble_eq_true rfl)⟩ (Nat.le_of_ble_eq_true rfl) ⟨Nat.zero_le _, Nat.zero_le _⟩ dX12_has_19 ?_
      refine z_bipush (v := 97) C dX12_has_22 bp_97 ?_
      refine z_bipush (v := 122) C dX12_has_24 bp_122 ?_
      refine cr12_68 (v_a := x19_) (low_a := 97) (high_a := 122) C hkd  ⟨(Nat.le_of_ble_eq_true rfl), (Nat.le_of_ble_eq_true rfl)⟩ (Nat.le_of_ble_eq_true rfl) ⟨Nat.zero_le _, Nat.zero_le _⟩ dX12_has_26 ?_
      refine cb_f C 38 dX12_has_29 (by decide) (fun h21_ => ?_) (fun h21_ => ?_)
      · rw [if_pos h21_] at h17_
        cases h17_
        exact K14_ rfl
      · rw [if_neg h21_] at h17_
        cases h17_
        exact K15_ Bool.false_ne_true
    · rw [if_neg h18_] at h17_
      cases h17_
      exact K15_ Bool.false_ne_true
  refine z_iload_n C 2 dX12_has_38 rfl rfl ?_
  refine z_aload_n C 0 dX12_has_39 rfl rfl ?_
  refine fg12_82 C hkd dX12_has_40 ?_
  refine z_isub C dX12_has_43 ?_
  refine z_aload_n C 1 dX12_has_44 rfl rfl ?_
  refine z_callK (i := w_a) C h_w rfl [] (some (.int (slen w_a)), x1_) 0 (cJ_length (zc_inj C) h_w) w_4_198 w_8_179 w_4_196 w_4_197 w_1_16 ⟨rfl, rfl, (Nat.le_of_ble_eq_true rfl), (Nat.le_of_ble_eq_true rfl)⟩ (by decide +kernel) rfl rfl (Nat.le_of_ble_eq_true rfl) ⟨Nat.zero_le _, Nat.zero_le _⟩ dX12_has_45 ?_
  have K25_ : ¬ (y5_ - (x1_ 0 11)) = (slen w_a) → Z Θ 4 0 0 (zQ Θ ρ) x1_ 51 [(0, .ref (zA Θ 0)), (1, .ref (zK Θ w_a)), (2, .int y5_)] [] := by
    intro h28_
    rw [if_pos h28_] at hf
    refine z_iconst (v := 0) C dX12_has_51 ic_0 ?_
    cases hf
    subst hρ
    exact z_zret C (b2i_narrow _) dX12_has_52
  suffices K26_ : ¬ (¬ (y5_ - (x1_ 0 11)) = (slen w_a)) → Z Θ 4 0 0 (zQ Θ ρ) x1_ 53 [(0, .ref (zA Θ 0)), (1, .ref (zK Θ w_a)), (2, .int y5_)] [] by
    refine c_ne_f C 53 dX12_has_48 (by decide) (fun h27_ => ?_) (fun h27_ => ?_)
    · exact K25_ h27_
    · exact K26_ h27_
  intro h28_
  rw [if_neg h28_] at hf
  refine z_iconst (v := 0) C dX12_has_53 ic_0 ?_
  refine z_istN C dX12_has_54 rfl rfl (Nat.le_of_ble_eq_true rfl) rfl ?_
  refine Z.sub [1, 2, 3, 0] rfl ?_
  obtain ⟨y29_, h30_, hf⟩ := ob hf
  suffices K31_ : ∀ y29_r, y29_ = .inr y29_r → Z Θ 4 0 0 (zQ Θ ρ) x1_ 89 [(0, .ref (zA Θ 0)), (1, .ref (zK Θ w_a)), (2, .int y5_), (3, .int y29_r)] [] by
    refine loop1_Z (P := fun (i35_ : Int32) => Z Θ 4 0 0 (zQ Θ ρ) x1_ 55 [(0, .ref (zA Θ 0)), (1, .ref (zK Θ w_a)), (2, .int y5_), (3, .int i35_)] []) ?_ fuelN (0 : Int32) h30_
    clear h30_
    intro rec32_ i35_ h33_ h34_
    refine z_iload_n C 3 dX12_has_55 rfl rfl ?_
    refine z_aload_n C 1 dX12_has_56 rfl rfl ?_
    refine z_callK (i := w_a) C h_w rfl [] (some (.int (slen w_a)), x1_) 0 (cJ_length (zc_inj C) h_w) w_4_198 w_8_179 w_4_196 w_4_197 w_1_16 ⟨rfl, rfl, (Nat.le_of_ble_eq_true rfl), (Nat.le_of_ble_eq_true rfl)⟩ (by decide +kernel) rfl rfl (Nat.le_of_ble_eq_true rfl) ⟨Nat.zero_le _, Nat.zero_le _⟩ dX12_has_57 ?_
    have K38_ : i35_ < (slen w_a) → Z Θ 4 0 0 (zQ Θ ρ) x1_ 63 [(0, .ref (zA Θ 0)), (1, .ref (zK Θ w_a)), (2, .int y5_), (3, .int i35_)] [] := by
      intro h41_
      rw [if_pos h41_] at h34_
      refine z_aload_n C 0 dX12_has_63 rfl rfl ?_
      refine z_aload_n C 0 dX12_has_64 rfl rfl ?_
      refine fg12_82 C hkd dX12_has_65 ?_
      refine z_iload_n C 3 dX12_has_68 rfl rfl ?_
      refine z_iadd C dX12_has_69 ?_
      obtain ⟨x44_, h45_, h34_⟩ := ob h34_
      refine cr12_88 (k_a := ((x1_ 0 11) + i35_)) C hkd  h45_ ⟨(Nat.le_of_ble_eq_true rfl), (Nat.le_of_ble_eq_true rfl)⟩ (Nat.le_of_ble_eq_true rfl) ⟨Nat.zero_le _, Nat.zero_le _⟩ dX12_has_70 ?_
      refine z_aload_n C 1 dX12_has_73 rfl rfl ?_
      refine z_iload_n C 3 dX12_has_74 rfl rfl ?_
      obtain ⟨x46_, h47_, h34_⟩ := ob h34_
      refine z_callK (i := w_a) C h_w rfl [.int i35_] (some (.int x46_), x1_) 1 (by obtain ⟨hj, e9⟩ := schr_ h47_; rw [e9]; exact cJ_charAt (zc_inj C) h_w hj) w_4_208 w_8_180 w_4_206 w_4_207 w_1_16 ⟨rfl, rfl, (Nat.le_of_ble_eq_true rfl), (Nat.le_of_ble_eq_true rfl)⟩ (by decide +kernel) rfl rfl (Nat.le_of_ble_eq_true rfl) ⟨Nat.zero_le _, Nat.zero_le _⟩ dX12_has_75 ?_
      have K42_ : ¬ x44_ = x46_ → Z Θ 4 0 0 (zQ Θ ρ) x1_ 81 [(0, .ref (zA Θ 0)), (1, .ref (zK Θ w_a)), (2, .int y5_), (3, .int i35_)] [] := by
        intro h49_
        rw [if_pos h49_] at h34_
        refine z_iconst (v := 0) C dX12_has_81 ic_0 ?_
        rw [← Option.some.inj h34_] at hf
        replace hf : some (false, x1_) = some r := hf
        cases hf
        subst hρ
        exact z_zret C (b2i_narrow _) dX12_has_82
      suffices K43_ : ¬ (¬ x44_ = x46_) → Z Θ 4 0 0 (zQ Θ ρ) x1_ 83 [(0, .ref (zA Θ 0)), (1, .ref (zK Θ w_a)), (2, .int y5_), (3, .int i35_)] [] by
        refine c_ne_f C 83 dX12_has_78 (by decide) (fun h48_ => ?_) (fun h48_ => ?_)
        · exact K42_ h48_
        · exact K43_ h48_
      intro h49_
      rw [if_neg h49_] at h34_
      obtain ⟨i50_, h51_, h34_⟩ := lt_ h34_
      refine z_inc C 3 dX12_has_83 rfl ic_1 h51_ (Nat.le_of_ble_eq_true rfl) rfl ?_
      refine z_goto C 55 dX12_has_86 (by decide) ?_
      refine Z.sub [1, 2, 3, 0] rfl ?_
      exact h33_ _ h34_
    have K39_ : ¬ (i35_ < (slen w_a)) → Z Θ 4 0 0 (zQ Θ ρ) x1_ 89 [(0, .ref (zA Θ 0)), (1, .ref (zK Θ w_a)), (2, .int y5_), (3, .int i35_)] [] := by
      intro h41_
      rw [if_neg h41_] at h34_
      exact K31_ _ (Option.some.inj h34_).symm
    refine c_lt_f C 89 dX12_has_60 (by decide) (fun h40_ => ?_) (fun h40_ => ?_)
    · exact K38_ h40_
    · exact K39_ h40_
  intro y29_r e9
  subst e9
  simp only [Sum.elim_inr] at hf
  refine z_aload_n C 0 dX12_has_89 rfl rfl ?_
  refine z_iload_n C 2 dX12_has_90 rfl rfl ?_
  obtain ⟨σ52_, h53_, hf⟩ := lt_ hf
  refine fp12_82 C hkd h53_ dX12_has_91 ?_
  refine z_iconst (v := 1) C dX12_has_94 ic_1 ?_
  cases hf
  subst hρ
  exact z_zret C (b2i_narrow _) dX12_has_95
theorem c12_has {l : Launch} {kd : List KD} {w : Wp} {σ : St} {w_a : Nat} (hkd : kd = kdM) (hi : zI kd w) (h_w : w_a < 46) {r : (Bool × St)} (hf : q12_has σ w_a = some r) : zM l kd w yX12_has cX12_has 4 (some .boolean) rm12_has [.ref (w.2.2.1 0), .ref (w.2.2.2.1 w_a)] σ (some (.int (b2i r.1)), r.2) := zM_of rfl hi (Nat.le_of_ble_eq_true rfl) (fun Θ hl hw C => by
  obtain ⟨Θ1, Θ2, Θ3, Θ4, Θ5⟩ := Θ
  cases hw
  exact p12_has C hkd h_w hf rfl)
/-! LastLoafModel.wrong -/
theorem w_8_39 : Cond.fieldLink "LastLoafModel" (25 : Nat) "LastLoafModel" "fault" "I" ∈ TB := tb_in (lwt_8 (List.mem_of_getElem? (i := 39) (by decide +kernel))) rfl
theorem fg12_25 {Θ : Tz} {cc : ByteArray} {nL kc ks : Nat} {ret : Option FieldType} {rm : Room} {Q : State → Prop} {σ : St} {pc : Nat} {lv : List (Nat × Value)} {st : List Value} (C : Zc Θ cc nL RX12 ret rm) (hkd : Θ.2.2.2.2.1 = kdM) (hd : decode cc pc = .ok (.getfield 25, 3)) (kk : Z Θ nL kc ks Q σ (pc + 3) lv (.int (σ 0 12) :: st)) : Z Θ nL kc ks Q σ pc lv (.ref (zA Θ 0) :: st) := z_get C inT12 0 (kM_0 hkd) rfl 12 (by decide) w_8_39 rfl hd kk
theorem fp12_25 {Θ : Tz} {cc : ByteArray} {nL kc ks : Nat} {ret : Option FieldType} {rm : Room} {Q : State → Prop} {σ : St} {pc : Nat} {lv : List (Nat × Value)} {st : List Value} (C : Zc Θ cc nL RX12 ret rm) (hkd : Θ.2.2.2.2.1 = kdM) {x : Int32} {σ1 : St} (he : σ1 = up σ 0 12 x) (hd : decode cc pc = .ok (.putfield 25, 3)) (kk : Z Θ nL kc ks Q σ1 (pc + 3) lv st) : Z Θ nL kc ks Q σ pc lv (.int x :: .ref (zA Θ 0) :: st) := by subst he; exact z_put C inT12 tyX12_ok nmX12 0 (kM_0 hkd) rfl 12 (by decide) w_8_39 rfl rfl rfl rfl hd kk
theorem dX12_wrong_0 : decode cX12_wrong 0 = .ok (.aload_n 0, 1) := by decide +kernel
theorem dX12_wrong_1 : decode cX12_wrong 1 = .ok (.getfield 25, 3) := by decide +kernel
theorem dX12_wrong_4 : decode cX12_wrong 4 = .ok (.iconst (-1), 1) := by decide +kernel
theorem dX12_wrong_5 : decode cX12_wrong 5 = .ok (.if_icmp .ne 8, 3) := by decide +kernel
theorem dX12_wrong_8 : decode cX12_wrong 8 = .ok (.aload_n 0, 1) := by decide +kernel
theorem dX12_wrong_9 : decode cX12_wrong 9 = .ok (.iload_n 1, 1) := by decide +kernel
theorem dX12_wrong_10 : decode cX12_wrong 10 = .ok (.putfield 25, 3) := by decide +kernel
theorem dX12_wrong_13 : decode cX12_wrong 13 = .ok (.return_, 1) := by decide +kernel
def q12_wrong (σ : St) (where_a : Int32) : Option St :=
  lt (if (σ 0 12) = (-1) then (lt (up σ 0 12 where_a) fun σ8_ =>
  σ8_) else σ) fun y1_ =>
  some y1_
abbrev rm12_wrong : Room := { frames := 0, cells := 0, slots := 0, locals := 0 }
set_option maxHeartbeats 4000000 in
set_option maxRecDepth 100000 in
theorem p12_wrong {Θ : Tz} {σ : St} {ρ : Option Value × St} (C : Zc Θ cX12_wrong 2 RX12 none rm12_wrong) (hkd : Θ.2.2.2.2.1 = kdM) {where_a : Int32} {r : St} (hf : q12_wrong σ where_a = some r) (hρ : ρ = (none, r)) : Z Θ 2 0 0 (zQ Θ ρ) σ 0 [(0, .ref (zA Θ 0)), (1, .int where_a)] [] := by
  unfold q12_wrong at hf
  obtain ⟨y1_, h2_, hf⟩ := lt_ hf
  have h2_ := h2_.symm
  suffices K3_ : Z Θ 2 0 0 (zQ Θ ρ) y1_ 13 [(0, .ref (zA Θ 0)), (1, .int where_a)] [] by
    have K4_ : (σ 0 12) = (-1) → Z Θ 2 0 0 (zQ Θ ρ) σ 8 [(0, .ref (zA Θ 0)), (1, .int where_a)] [] := by
      intro h7_
      rw [if_pos h7_] at h2_
      refine z_aload_n C 0 dX12_wrong_8 rfl rfl ?_
      refine z_iload_n C 1 dX12_wrong_9 rfl rfl ?_
      obtain ⟨σ8_, h9_, h2_⟩ := lt_ h2_
      refine fp12_25 C hkd h9_ dX12_wrong_10 ?_
      subst h2_
      exact K3_
    have K5_ : ¬ ((σ 0 12) = (-1)) → Z Θ 2 0 0 (zQ Θ ρ) σ 13 [(0, .ref (zA Θ 0)), (1, .int where_a)] [] := by
      intro h7_
      rw [if_neg h7_] at h2_
      subst h2_
      exact K3_
    refine z_aload_n C 0 dX12_wrong_0 rfl rfl ?_
    refine fg12_25 C hkd dX12_wrong_1 ?_
    refine z_iconst (v := (-1)) C dX12_wrong_4 ic_m1 ?_
    refine c_eq_f C 13 dX12_wrong_5 (by decide) (fun h6_ => ?_) (fun h6_ => ?_)
    · exact K4_ h6_
    · exact K5_ h6_
  cases hf
  subst hρ
  exact z_vret C dX12_wrong_13
theorem c12_wrong {l : Launch} {kd : List KD} {w : Wp} {σ : St} {where_a : Int32} (hkd : kd = kdM) (hi : zI kd w) {r : St} (hf : q12_wrong σ where_a = some r) : zM l kd w yX12_wrong cX12_wrong 2 none rm12_wrong [.ref (w.2.2.1 0), .int where_a] σ (none, r) := zM_of rfl hi (Nat.le_of_ble_eq_true rfl) (fun Θ hl hw C => by
  obtain ⟨Θ1, Θ2, Θ3, Θ4, Θ5⟩ := Θ
  cases hw
  exact p12_wrong C hkd  hf rfl)
/-! LastLoafModel.here -/
theorem dX12_here_0 : decode cX12_here 0 = .ok (.aload_n 0, 1) := by decide +kernel
theorem dX12_here_1 : decode cX12_here 1 = .ok (.invokevirtual 92, 3) := by decide +kernel
theorem dX12_here_4 : decode cX12_here 4 = .ok (.aload_n 0, 1) := by decide +kernel
theorem dX12_here_5 : decode cX12_here 5 = .ok (.getfield 82, 3) := by decide +kernel
theorem dX12_here_8 : decode cX12_here 8 = .ok (.ireturn, 1) := by decide +kernel
def q12_here (σ : St) : Option (Int32 × St) :=
  Option.bind (q12_skip σ) fun x1_ =>
  some (x1_ 0 11, x1_)
abbrev rm12_here : Room := { frames := 2, cells := 0, slots := 0, locals := 41 }
set_option maxHeartbeats 4000000 in
set_option maxRecDepth 100000 in
theorem p12_here {Θ : Tz} {σ : St} {ρ : Option Value × St} (C : Zc Θ cX12_here 1 RX12 (some .int) rm12_here) (hkd : Θ.2.2.2.2.1 = kdM) {r : (Int32 × St)} (hf : q12_here σ = some r) (hρ : ρ = (some (.int r.1), r.2)) : Z Θ 1 0 0 (zQ Θ ρ) σ 0 [(0, .ref (zA Θ 0))] [] := by
  unfold q12_here at hf
  refine z_aload_n C 0 dX12_here_0 rfl rfl ?_
  obtain ⟨x1_, h2_, hf⟩ := ob hf
  refine cr12_92 C hkd  h2_ ⟨(Nat.le_of_ble_eq_true rfl), (Nat.le_of_ble_eq_true rfl)⟩ (Nat.le_of_ble_eq_true rfl) ⟨Nat.zero_le _, Nat.zero_le _⟩ dX12_here_1 ?_
  refine z_aload_n C 0 dX12_here_4 rfl rfl ?_
  refine fg12_82 C hkd dX12_here_5 ?_
  cases hf
  subst hρ
  exact z_iret C dX12_here_8
theorem c12_here {l : Launch} {kd : List KD} {w : Wp} {σ : St} (hkd : kd = kdM) (hi : zI kd w) {r : (Int32 × St)} (hf : q12_here σ = some r) : zM l kd w yX12_here cX12_here 1 (some .int) rm12_here [.ref (w.2.2.1 0)] σ (some (.int r.1), r.2) := zM_of rfl hi (Nat.le_of_ble_eq_true rfl) (fun Θ hl hw C => by
  obtain ⟨Θ1, Θ2, Θ3, Θ4, Θ5⟩ := Θ
  cases hw
  exact p12_here C hkd  hf rfl)
/-! LastLoafModel.figures -/
theorem w_8_190 : Cond.code ({ cls := "LastLoafModel", name := "here", desc := "()I" } : MethodName) prog_14_method_21_code (1 : Nat) (Option.some ClassFile.FieldType.int) ∈ TB := tb_in (lwt_8 (List.mem_of_getElem? (i := 190) (by decide +kernel))) rfl
theorem w_8_187 : Cond.methodLink "LastLoafModel" (105 : Nat) ({ cls := "LastLoafModel", name := "here", desc := "()I" } : MethodName) ∈ TB := tb_in (lwt_8 (List.mem_of_getElem? (i := 187) (by decide +kernel))) rfl
theorem w_8_189 : Cond.instanceMethod ({ cls := "LastLoafModel", name := "here", desc := "()I" } : MethodName) ∈ TB := tb_in (lwt_8 (List.mem_of_getElem? (i := 189) (by decide +kernel))) rfl
theorem ws_LastLoafModel_here__I : Cond.selects "LastLoafModel" (⟨"LastLoafModel", "here", "()I"⟩ : MethodName) (⟨"LastLoafModel", "here", "()I"⟩ : MethodName) ∈ TB := tb_in (List.mem_append_left _ (List.mem_of_getElem? (i := 26) (by decide +kernel))) rfl
theorem cr12_105 {Θ : Tz} {cc : ByteArray} {nL kc ks : Nat} {ret : Option FieldType} {rm : Room} {Q : State → Prop} {σ : St} {pc : Nat} {lv : List (Nat × Value)} {st : List Value} (C : Zc Θ cc nL RX12 ret rm) (hkd : Θ.2.2.2.2.1 = kdM) {r : Int32 × St} (hx : q12_here σ = some r) (hrm : rm12_here.frames + 1 ≤ rm.frames ∧ 8 + (1 + 11) + rm12_here.locals ≤ rm.locals) (hcat : (st.map fun v => v.category).sum ≤ 8) (hk : kc ≤ rm.cells ∧ ks ≤ rm.slots) (hd : decode cc pc = .ok (.invokevirtual 105, 3)) (kk : Z Θ nL kc ks Q r.2 (pc + 3) lv (.int r.1 :: st)) : Z Θ nL kc ks Q σ pc lv (.ref (zA Θ 0) :: st) := z_callV C 0 [] (some (.int r.1), r.2) 0 (kM_0 hkd) rfl (c12_here hkd (zc_inj C) hx) w_8_190 w_8_187 w_8_189 ws_LastLoafModel_here__I w_1_14 ⟨rfl, rfl, hrm.1, hrm.2⟩ (by decide +kernel) rfl rfl hcat hk hd kk
theorem bp_48 : (Int8.ofInt (48)).toInt32 = 48 := by decide +kernel
theorem bp_57 : (Int8.ofInt (57)).toInt32 = 57 := by decide +kernel
theorem bp_10 : (Int8.ofInt (10)).toInt32 = 10 := by decide +kernel
theorem w_8_169 : Cond.code ({ cls := "LastLoafModel", name := "wrong", desc := "(I)V" } : MethodName) prog_14_method_20_code (2 : Nat) (Option.none : Option ClassFile.FieldType) ∈ TB := tb_in (lwt_8 (List.mem_of_getElem? (i := 169) (by decide +kernel))) rfl
theorem w_8_166 : Cond.methodLink "LastLoafModel" (108 : Nat) ({ cls := "LastLoafModel", name := "wrong", desc := "(I)V" } : MethodName) ∈ TB := tb_in (lwt_8 (List.mem_of_getElem? (i := 166) (by decide +kernel))) rfl
theorem w_8_168 : Cond.instanceMethod ({ cls := "LastLoafModel", name := "wrong", desc := "(I)V" } : MethodName) ∈ TB := tb_in (lwt_8 (List.mem_of_getElem? (i := 168) (by decide +kernel))) rfl
theorem ws_LastLoafModel_wrong_I_V : Cond.selects "LastLoafModel" (⟨"LastLoafModel", "wrong", "(I)V"⟩ : MethodName) (⟨"LastLoafModel", "wrong", "(I)V"⟩ : MethodName) ∈ TB := tb_in (List.mem_append_left _ (List.mem_of_getElem? (i := 22) (by decide +kernel))) rfl
theorem cr12_108 {Θ : Tz} {cc : ByteArray} {nL kc ks : Nat} {ret : Option FieldType} {rm : Room} {Q : State → Prop} {σ : St} {pc : Nat} {lv : List (Nat × Value)} {st : List Value} (C : Zc Θ cc nL RX12 ret rm) (hkd : Θ.2.2.2.2.1 = kdM) {where_a : Int32} {r : St} (hx : q12_wrong σ where_a = some r) (hrm : rm12_wrong.frames + 1 ≤ rm.frames ∧ 8 + (2 + 11) + rm12_wrong.locals ≤ rm.locals) (hcat : (st.map fun v => v.category).sum ≤ 8) (hk : kc ≤ rm.cells ∧ ks ≤ rm.slots) (hd : decode cc pc = .ok (.invokevirtual 108, 3)) (kk : Z Θ nL kc ks Q r (pc + 3) lv st) : Z Θ nL kc ks Q σ pc lv (.int where_a :: .ref (zA Θ 0) :: st) := z_callV C 0 [.int where_a] (none, r) 1 (kM_0 hkd) rfl (c12_wrong (where_a := where_a) hkd (zc_inj C) hx) w_8_169 w_8_166 w_8_168 ws_LastLoafModel_wrong_I_V w_1_14 ⟨rfl, rfl, hrm.1, hrm.2⟩ (by decide +kernel) rfl rfl hcat hk hd kk
theorem dX12_figures_0 : decode cX12_figures 0 = .ok (.aload_n 0, 1) := by decide +kernel
theorem dX12_figures_1 : decode cX12_figures 1 = .ok (.getfield 25, 3) := by decide +kernel
theorem dX12_figures_4 : decode cX12_figures 4 = .ok (.iconst (-1), 1) := by decide +kernel
theorem dX12_figures_5 : decode cX12_figures 5 = .ok (.if_icmp .eq 5, 3) := by decide +kernel
theorem dX12_figures_8 : decode cX12_figures 8 = .ok (.iconst 0, 1) := by decide +kernel
theorem dX12_figures_9 : decode cX12_figures 9 = .ok (.ireturn, 1) := by decide +kernel
theorem dX12_figures_10 : decode cX12_figures 10 = .ok (.aload_n 0, 1) := by decide +kernel
theorem dX12_figures_11 : decode cX12_figures 11 = .ok (.invokevirtual 105, 3) := by decide +kernel
theorem dX12_figures_14 : decode cX12_figures 14 = .ok (.istore_n 3, 1) := by decide +kernel
theorem dX12_figures_15 : decode cX12_figures 15 = .ok (.iconst 0, 1) := by decide +kernel
theorem dX12_figures_16 : decode cX12_figures 16 = .ok (.istore 4, 2) := by decide +kernel
theorem dX12_figures_18 : decode cX12_figures 18 = .ok (.aload_n 0, 1) := by decide +kernel
theorem dX12_figures_19 : decode cX12_figures 19 = .ok (.getfield 82, 3) := by decide +kernel
theorem dX12_figures_22 : decode cX12_figures 22 = .ok (.aload_n 0, 1) := by decide +kernel
theorem dX12_figures_23 : decode cX12_figures 23 = .ok (.getfield 85, 3) := by decide +kernel
theorem dX12_figures_26 : decode cX12_figures 26 = .ok (.if_icmp .ge 63, 3) := by decide +kernel
theorem dX12_figures_29 : decode cX12_figures 29 = .ok (.aload_n 0, 1) := by decide +kernel
theorem dX12_figures_30 : decode cX12_figures 30 = .ok (.aload_n 0, 1) := by decide +kernel
theorem dX12_figures_31 : decode cX12_figures 31 = .ok (.getfield 82, 3) := by decide +kernel
theorem dX12_figures_34 : decode cX12_figures 34 = .ok (.invokevirtual 88, 3) := by decide +kernel
theorem dX12_figures_37 : decode cX12_figures 37 = .ok (.bipush 48, 2) := by decide +kernel
theorem dX12_figures_39 : decode cX12_figures 39 = .ok (.bipush 57, 2) := by decide +kernel
theorem dX12_figures_41 : decode cX12_figures 41 = .ok (.invokestatic 68, 3) := by decide +kernel
theorem dX12_figures_44 : decode cX12_figures 44 = .ok (.ifCond .eq 45, 3) := by decide +kernel
theorem dX12_figures_47 : decode cX12_figures 47 = .ok (.aload_n 0, 1) := by decide +kernel
theorem dX12_figures_48 : decode cX12_figures 48 = .ok (.getfield 82, 3) := by decide +kernel
theorem dX12_figures_51 : decode cX12_figures 51 = .ok (.iload_n 3, 1) := by decide +kernel
theorem dX12_figures_52 : decode cX12_figures 52 = .ok (.isub, 1) := by decide +kernel
theorem dX12_figures_53 : decode cX12_figures 53 = .ok (.iconst 3, 1) := by decide +kernel
theorem dX12_figures_54 : decode cX12_figures 54 = .ok (.if_icmp .gt 35, 3) := by decide +kernel
theorem dX12_figures_57 : decode cX12_figures 57 = .ok (.bipush 10, 2) := by decide +kernel
theorem dX12_figures_59 : decode cX12_figures 59 = .ok (.iload 4, 2) := by decide +kernel
theorem dX12_figures_61 : decode cX12_figures 61 = .ok (.imul, 1) := by decide +kernel
theorem dX12_figures_62 : decode cX12_figures 62 = .ok (.aload_n 0, 1) := by decide +kernel
theorem dX12_figures_63 : decode cX12_figures 63 = .ok (.aload_n 0, 1) := by decide +kernel
theorem dX12_figures_64 : decode cX12_figures 64 = .ok (.getfield 82, 3) := by decide +kernel
theorem dX12_figures_67 : decode cX12_figures 67 = .ok (.invokevirtual 88, 3) := by decide +kernel
theorem dX12_figures_70 : decode cX12_figures 70 = .ok (.iadd, 1) := by decide +kernel
theorem dX12_figures_71 : decode cX12_figures 71 = .ok (.bipush 48, 2) := by decide +kernel
theorem dX12_figures_73 : decode cX12_figures 73 = .ok (.isub, 1) := by decide +kernel
theorem dX12_figures_74 : decode cX12_figures 74 = .ok (.istore 4, 2) := by decide +kernel
theorem dX12_figures_76 : decode cX12_figures 76 = .ok (.aload_n 0, 1) := by decide +kernel
theorem dX12_figures_77 : decode cX12_figures 77 = .ok (.dup, 1) := by decide +kernel
theorem dX12_figures_78 : decode cX12_figures 78 = .ok (.getfield 82, 3) := by decide +kernel
theorem dX12_figures_81 : decode cX12_figures 81 = .ok (.iconst 1, 1) := by decide +kernel
theorem dX12_figures_82 : decode cX12_figures 82 = .ok (.iadd, 1) := by decide +kernel
theorem dX12_figures_83 : decode cX12_figures 83 = .ok (.putfield 82, 3) := by decide +kernel
theorem dX12_figures_86 : decode cX12_figures 86 = .ok (.goto (-68), 3) := by decide +kernel
theorem dX12_figures_89 : decode cX12_figures 89 = .ok (.aload_n 0, 1) := by decide +kernel
theorem dX12_figures_90 : decode cX12_figures 90 = .ok (.getfield 82, 3) := by decide +kernel
theorem dX12_figures_93 : decode cX12_figures 93 = .ok (.iload_n 3, 1) := by decide +kernel
theorem dX12_figures_94 : decode cX12_figures 94 = .ok (.if_icmp .eq 25, 3) := by decide +kernel
theorem dX12_figures_97 : decode cX12_figures 97 = .ok (.aload_n 0, 1) := by decide +kernel
theorem dX12_figures_98 : decode cX12_figures 98 = .ok (.getfield 82, 3) := by decide +kernel
theorem dX12_figures_101 : decode cX12_figures 101 = .ok (.iload_n 3, 1) := by decide +kernel
theorem dX12_figures_102 : decode cX12_figures 102 = .ok (.isub, 1) := by decide +kernel
theorem dX12_figures_103 : decode cX12_figures 103 = .ok (.iconst 3, 1) := by decide +kernel
theorem dX12_figures_104 : decode cX12_figures 104 = .ok (.if_icmp .gt 15, 3) := by decide +kernel
theorem dX12_figures_107 : decode cX12_figures 107 = .ok (.iload 4, 2) := by decide +kernel
theorem dX12_figures_109 : decode cX12_figures 109 = .ok (.iload_n 1, 1) := by decide +kernel
theorem dX12_figures_110 : decode cX12_figures 110 = .ok (.if_icmp .lt 9, 3) := by decide +kernel
theorem dX12_figures_113 : decode cX12_figures 113 = .ok (.iload 4, 2) := by decide +kernel
theorem dX12_figures_115 : decode cX12_figures 115 = .ok (.iload_n 2, 1) := by decide +kernel
theorem dX12_figures_116 : decode cX12_figures 116 = .ok (.if_icmp .le 8, 3) := by decide +kernel
theorem dX12_figures_119 : decode cX12_figures 119 = .ok (.aload_n 0, 1) := by decide +kernel
theorem dX12_figures_120 : decode cX12_figures 120 = .ok (.iload_n 3, 1) := by decide +kernel
theorem dX12_figures_121 : decode cX12_figures 121 = .ok (.invokevirtual 108, 3) := by decide +kernel
theorem dX12_figures_124 : decode cX12_figures 124 = .ok (.iload 4, 2) := by decide +kernel
theorem dX12_figures_126 : decode cX12_figures 126 = .ok (.ireturn, 1) := by decide +kernel
def q12_figures (σ : St) (low_a : Int32) (high_a : Int32) : Option (Int32 × St) :=
  if ¬ (σ 0 12) = (-1) then (some (0, σ)) else
  Option.bind (q12_here σ) fun x5_ =>
  Option.bind (loop2 (fun rec10_ (v13_ : Int32) (σ14_ : St) =>
  Option.bind (if (σ14_ 0 11) < (σ14_ 0 10) then (Option.bind (q12_letter σ14_ (σ14_ 0 11)) fun x22_ =>
  if q12_isIn x22_ 48 57 = true then (if ((σ14_ 0 11) - x5_.1) ≤ 3 then (some true) else (some false)) else (some false)) else (some false)) fun t19_ =>
  if t19_ = true then
  Option.bind (q12_letter σ14_ (σ14_ 0 11)) fun x27_ =>
  lt (((10 * v13_) + x27_) - 48) fun v29_ =>
  lt (up σ14_ 0 11 ((σ14_ 0 11) + 1)) fun σ31_ =>
  rec10_ v29_ σ31_
  else (some (v13_, σ14_))) fuelN (0 : Int32) x5_.2) fun y7_ =>
  Option.bind (if ((((y7_.2 0 11) = x5_.1) ∨ (3 < ((y7_.2 0 11) - x5_.1))) ∨ (y7_.1 < low_a)) ∨ (high_a < y7_.1) then (Option.bind (q12_wrong y7_.2 x5_.1) fun x43_ =>
  some (x43_)) else (some (y7_.2))) fun y33_ =>
  some (y7_.1, y33_)
abbrev rm12_figures : Room := { frames := 3, cells := 0, slots := 0, locals := 61 }
set_option maxHeartbeats 4000000 in
set_option maxRecDepth 100000 in
theorem p12_figures {Θ : Tz} {σ : St} {ρ : Option Value × St} (C : Zc Θ cX12_figures 5 RX12 (some .int) rm12_figures) (hkd : Θ.2.2.2.2.1 = kdM) {low_a : Int32} {high_a : Int32} {r : (Int32 × St)} (hf : q12_figures σ low_a high_a = some r) (hρ : ρ = (some (.int r.1), r.2)) : Z Θ 5 0 0 (zQ Θ ρ) σ 0 [(0, .ref (zA Θ 0)), (1, .int low_a), (2, .int high_a)] [] := by
  unfold q12_figures at hf
  have K1_ : ¬ (σ 0 12) = (-1) → Z Θ 5 0 0 (zQ Θ ρ) σ 8 [(0, .ref (zA Θ 0)), (1, .int low_a), (2, .int high_a)] [] := by
    intro h4_
    rw [if_pos h4_] at hf
    refine z_iconst (v := 0) C dX12_figures_8 ic_0 ?_
    cases hf
    subst hρ
    exact z_iret C dX12_figures_9
  suffices K2_ : ¬ (¬ (σ 0 12) = (-1)) → Z Θ 5 0 0 (zQ Θ ρ) σ 10 [(0, .ref (zA Θ 0)), (1, .int low_a), (2, .int high_a)] [] by
    refine z_aload_n C 0 dX12_figures_0 rfl rfl ?_
    refine fg12_25 C hkd dX12_figures_1 ?_
    refine z_iconst (v := (-1)) C dX12_figures_4 ic_m1 ?_
    refine c_ne_f C 10 dX12_figures_5 (by decide) (fun h3_ => ?_) (fun h3_ => ?_)
    · exact K1_ h3_
    · exact K2_ h3_
  intro h4_
  rw [if_neg h4_] at hf
  refine z_aload_n C 0 dX12_figures_10 rfl rfl ?_
  obtain ⟨x5_, h6_, hf⟩ := ob hf
  refine cr12_105 C hkd  h6_ ⟨(Nat.le_of_ble_eq_true rfl), (Nat.le_of_ble_eq_true rfl)⟩ (Nat.le_of_ble_eq_true rfl) ⟨Nat.zero_le _, Nat.zero_le _⟩ dX12_figures_11 ?_
  refine z_istN C dX12_figures_14 rfl rfl (Nat.le_of_ble_eq_true rfl) rfl ?_
  refine z_iconst (v := 0) C dX12_figures_15 ic_0 ?_
  refine z_ist C dX12_figures_16 rfl (Nat.le_of_ble_eq_true rfl) rfl ?_
  refine Z.sub [2, 3, 4, 1, 0] rfl ?_
  obtain ⟨y7_, h8_, hf⟩ := ob hf
  suffices K9_ : Z Θ 5 0 0 (zQ Θ ρ) y7_.2 89 [(0, .ref (zA Θ 0)), (1, .int low_a), (2, .int high_a), (3, .int x5_.1), (4, .int y7_.1)] [] by
    refine loop2_Z (P := fun (v13_ : Int32) (σ14_ : St) => Z Θ 5 0 0 (zQ Θ ρ) σ14_ 18 [(0, .ref (zA Θ 0)), (1, .int low_a), (2, .int high_a), (3, .int x5_.1), (4, .int v13_)] []) ?_ fuelN (0 : Int32) x5_.2 h8_
    clear h8_
    intro rec10_ v13_ σ14_ h11_ h12_
    obtain ⟨t19_, h20_, h12_⟩ := ob h12_
    have K17_ : t19_ = true → Z Θ 5 0 0 (zQ Θ ρ) σ14_ 57 [(0, .ref (zA Θ 0)), (1, .int low_a), (2, .int high_a), (3, .int x5_.1), (4, .int v13_)] [] := by
      intro h26_
      rw [if_pos h26_] at h12_
      refine z_bipush (v := 10) C dX12_figures_57 bp_10 ?_
      refine z_iload C 4 dX12_figures_59 rfl ?_
      refine z_imul C dX12_figures_61 ?_
      refine z_aload_n C 0 dX12_figures_62 rfl rfl ?_
      refine z_aload_n C 0 dX12_figures_63 rfl rfl ?_
      refine fg12_82 C hkd dX12_figures_64 ?_
      obtain ⟨x27_, h28_, h12_⟩ := ob h12_
      refine cr12_88 (k_a := (σ14_ 0 11)) C hkd  h28_ ⟨(Nat.le_of_ble_eq_true rfl), (Nat.le_of_ble_eq_true rfl)⟩ (Nat.le_of_ble_eq_true rfl) ⟨Nat.zero_le _, Nat.zero_le _⟩ dX12_figures_67 ?_
      refine z_iadd C dX12_figures_70 ?_
      refine z_bipush (v := 48) C dX12_figures_71 bp_48 ?_
      refine z_isub C dX12_figures_73 ?_
      obtain ⟨v29_, h30_, h12_⟩ := lt_ h12_
      refine z_ist C dX12_figures_74 h30_ (Nat.le_of_ble_eq_true rfl) rfl ?_
      refine z_aload_n C 1 dX12_figures_76 rfl rfl ?_
      refine z_dup C dX12_figures_77 rfl ?_
      refine fg12_82 C hkd dX12_figures_78 ?_
      refine z_iconst (v := 1) C dX12_figures_81 ic_1 ?_
      refine z_iadd C dX12_figures_82 ?_
      obtain ⟨σ31_, h32_, h12_⟩ := lt_ h12_
      refine fp12_82 C hkd h32_ dX12_figures_83 ?_
      refine z_goto C 18 dX12_figures_86 (by decide) ?_
      refine Z.sub [1, 2, 3, 4, 0] rfl ?_
      exact h11_ _ _ h12_
    have K18_ : ¬ (t19_ = true) → Z Θ 5 0 0 (zQ Θ ρ) σ14_ 89 [(0, .ref (zA Θ 0)), (1, .int low_a), (2, .int high_a), (3, .int x5_.1), (4, .int v13_)] [] := by
      intro h26_
      rw [if_neg h26_] at h12_
      cases h12_
      exact K9_
    refine z_aload_n C 0 dX12_figures_18 rfl rfl ?_
    refine fg12_82 C hkd dX12_figures_19 ?_
    refine z_aload_n C 0 dX12_figures_22 rfl rfl ?_
    refine fg12_85 C hkd dX12_figures_23 ?_
    refine c_lt_f C 89 dX12_figures_26 (by decide) (fun h21_ => ?_) (fun h21_ => ?_)
    · rw [if_pos h21_] at h20_
      refine z_aload_n C 0 dX12_figures_29 rfl rfl ?_
      refine z_aload_n C 0 dX12_figures_30 rfl rfl ?_
      refine fg12_82 C hkd dX12_figures_31 ?_
      obtain ⟨x22_, h23_, h20_⟩ := ob h20_
      refine cr12_88 (k_a := (σ14_ 0 11)) C hkd  h23_ ⟨(Nat.le_of_ble_eq_true rfl), (Nat.le_of_ble_eq_true rfl)⟩ (Nat.le_of_ble_eq_true rfl) ⟨Nat.zero_le _, Nat.zero_le _⟩ dX12_figures_34 ?_
      refine z_bipush (v := 48) C dX12_figures_37 bp_48 ?_
      refine z_bipush (v := 57) C dX12_figures_39 bp_57 ?_
      refine cr12_68 (v_a := x22_) (low_a := 48) (high_a := 57) C hkd  ⟨(Nat.le_of_ble_eq_true rfl), (Nat.le_of_ble_eq_true rfl)⟩ (Nat.le_of_ble_eq_true rfl) ⟨Nat.zero_le _, Nat.zero_le _⟩ dX12_figures_41 ?_
      refine cb_f C 89 dX12_figures_44 (by decide) (fun h24_ => ?_) (fun h24_ => ?_)
      · rw [if_pos h24_] at h20_
        refine z_aload_n C 0 dX12_figures_47 rfl rfl ?_
        refine fg12_82 C hkd dX12_figures_48 ?_
        refine z_iload_n C 3 dX12_figures_51 rfl rfl ?_
        refine z_isub C dX12_figures_52 ?_
        refine z_iconst (v := 3) C dX12_figures_53 ic_3 ?_
        refine c_le_f C 89 dX12_figures_54 (by decide) (fun h25_ => ?_) (fun h25_ => ?_)
        · rw [if_pos h25_] at h20_
          cases h20_
          exact K17_ rfl
        · rw [if_neg h25_] at h20_
          cases h20_
          exact K18_ Bool.false_ne_true
      · rw [if_neg h24_] at h20_
        cases h20_
        exact K18_ Bool.false_ne_true
    · rw [if_neg h21_] at h20_
      cases h20_
      exact K18_ Bool.false_ne_true
  obtain ⟨y33_, h34_, hf⟩ := ob hf
  suffices K35_ : Z Θ 5 0 0 (zQ Θ ρ) y33_ 124 [(0, .ref (zA Θ 0)), (1, .int low_a), (2, .int high_a), (3, .int x5_.1), (4, .int y7_.1)] [] by
    have K36_ : ((((y7_.2 0 11) = x5_.1) ∨ (3 < ((y7_.2 0 11) - x5_.1))) ∨ (y7_.1 < low_a)) ∨ (high_a < y7_.1) → Z Θ 5 0 0 (zQ Θ ρ) y7_.2 119 [(0, .ref (zA Θ 0)), (1, .int low_a), (2, .int high_a), (3, .int x5_.1), (4, .int y7_.1)] [] := by
      intro h42_
      rw [if_pos h42_] at h34_
      refine z_aload_n C 0 dX12_figures_119 rfl rfl ?_
      refine z_iload_n C 3 dX12_figures_120 rfl rfl ?_
      obtain ⟨x43_, h44_, h34_⟩ := ob h34_
      refine cr12_108 (where_a := x5_.1) C hkd  h44_ ⟨(Nat.le_of_ble_eq_true rfl), (Nat.le_of_ble_eq_true rfl)⟩ (Nat.le_of_ble_eq_true rfl) ⟨Nat.zero_le _, Nat.zero_le _⟩ dX12_figures_121 ?_
      cases h34_
      exact K35_
    have K37_ : ¬ (((((y7_.2 0 11) = x5_.1) ∨ (3 < ((y7_.2 0 11) - x5_.1))) ∨ (y7_.1 < low_a)) ∨ (high_a < y7_.1)) → Z Θ 5 0 0 (zQ Θ ρ) y7_.2 124 [(0, .ref (zA Θ 0)), (1, .int low_a), (2, .int high_a), (3, .int x5_.1), (4, .int y7_.1)] [] := by
      intro h42_
      rw [if_neg h42_] at h34_
      cases h34_
      exact K35_
    refine z_aload_n C 0 dX12_figures_89 rfl rfl ?_
    refine fg12_82 C hkd dX12_figures_90 ?_
    refine z_iload_n C 3 dX12_figures_93 rfl rfl ?_
    refine c_eq_t C 119 dX12_figures_94 (by decide) (fun h38_ => ?_) (fun h38_ => ?_)
    · exact K36_ (Or.inl (Or.inl (Or.inl h38_)))
    · refine z_aload_n C 0 dX12_figures_97 rfl rfl ?_
      refine fg12_82 C hkd dX12_figures_98 ?_
      refine z_iload_n C 3 dX12_figures_101 rfl rfl ?_
      refine z_isub C dX12_figures_102 ?_
      refine z_iconst (v := 3) C dX12_figures_103 ic_3 ?_
      refine c_gt_t C 119 dX12_figures_104 (by decide) (fun h39_ => ?_) (fun h39_ => ?_)
      · exact K36_ (Or.inl (Or.inl (Or.inr h39_)))
      · refine z_iload C 4 dX12_figures_107 rfl ?_
        refine z_iload_n C 1 dX12_figures_109 rfl rfl ?_
        refine c_lt_t C 119 dX12_figures_110 (by decide) (fun h40_ => ?_) (fun h40_ => ?_)
        · exact K36_ (Or.inl (Or.inr h40_))
        · refine z_iload C 4 dX12_figures_113 rfl ?_
          refine z_iload_n C 2 dX12_figures_115 rfl rfl ?_
          refine c_gt_f C 124 dX12_figures_116 (by decide) (fun h41_ => ?_) (fun h41_ => ?_)
          · exact K36_ (Or.inr h41_)
          · exact K37_ (fun n => n.elim (fun n => n.elim (fun n => n.elim h38_ h39_) h40_) h41_)
  refine z_iload C 4 dX12_figures_124 rfl ?_
  cases hf
  subst hρ
  exact z_iret C dX12_figures_126
theorem c12_figures {l : Launch} {kd : List KD} {w : Wp} {σ : St} {low_a : Int32} {high_a : Int32} (hkd : kd = kdM) (hi : zI kd w) {r : (Int32 × St)} (hf : q12_figures σ low_a high_a = some r) : zM l kd w yX12_figures cX12_figures 5 (some .int) rm12_figures [.ref (w.2.2.1 0), .int low_a, .int high_a] σ (some (.int r.1), r.2) := zM_of rfl hi (Nat.le_of_ble_eq_true rfl) (fun Θ hl hw C => by
  obtain ⟨Θ1, Θ2, Θ3, Θ4, Θ5⟩ := Θ
  cases hw
  exact p12_figures C hkd  hf rfl)
/-! LastLoafModel.after -/
theorem w_8_178 : Cond.code ({ cls := "LastLoafModel", name := "has", desc := "(Ljava/lang/String;)Z" } : MethodName) prog_14_method_19_code (4 : Nat) (Option.some ClassFile.FieldType.boolean) ∈ TB := tb_in (lwt_8 (List.mem_of_getElem? (i := 178) (by decide +kernel))) rfl
theorem w_8_175 : Cond.methodLink "LastLoafModel" (112 : Nat) ({ cls := "LastLoafModel", name := "has", desc := "(Ljava/lang/String;)Z" } : MethodName) ∈ TB := tb_in (lwt_8 (List.mem_of_getElem? (i := 175) (by decide +kernel))) rfl
theorem w_8_177 : Cond.instanceMethod ({ cls := "LastLoafModel", name := "has", desc := "(Ljava/lang/String;)Z" } : MethodName) ∈ TB := tb_in (lwt_8 (List.mem_of_getElem? (i := 177) (by decide +kernel))) rfl
theorem ws_LastLoafModel_has_Ljava_lang_String__Z : Cond.selects "LastLoafModel" (⟨"LastLoafModel", "has", "(Ljava/lang/String;)Z"⟩ : MethodName) (⟨"LastLoafModel", "has", "(Ljava/lang/String;)Z"⟩ : MethodName) ∈ TB := tb_in (List.mem_append_left _ (List.mem_of_getElem? (i := 24) (by decide +kernel))) rfl
theorem cr12_112 {Θ : Tz} {cc : ByteArray} {nL kc ks : Nat} {ret : Option FieldType} {rm : Room} {Q : State → Prop} {σ : St} {pc : Nat} {lv : List (Nat × Value)} {st : List Value} (C : Zc Θ cc nL RX12 ret rm) (hkd : Θ.2.2.2.2.1 = kdM) {w_a : Nat} (h_w : w_a < 46) {r : Bool × St} (hx : q12_has σ w_a = some r) (hrm : rm12_has.frames + 1 ≤ rm.frames ∧ 8 + (4 + 11) + rm12_has.locals ≤ rm.locals) (hcat : (st.map fun v => v.category).sum ≤ 8) (hk : kc ≤ rm.cells ∧ ks ≤ rm.slots) (hd : decode cc pc = .ok (.invokevirtual 112, 3)) (kk : Z Θ nL kc ks Q r.2 (pc + 3) lv (.int (b2i r.1) :: st)) : Z Θ nL kc ks Q σ pc lv (.ref (zK Θ w_a) :: .ref (zA Θ 0) :: st) := z_callV C 0 [.ref (zK Θ w_a)] (some (.int (b2i r.1)), r.2) 1 (kM_0 hkd) rfl (c12_has (w_a := w_a) hkd (zc_inj C) h_w hx) w_8_178 w_8_175 w_8_177 ws_LastLoafModel_has_Ljava_lang_String__Z w_1_14 ⟨rfl, rfl, hrm.1, hrm.2⟩ (by decide +kernel) rfl rfl hcat hk hd kk
theorem w_8_186 : Cond.code ({ cls := "LastLoafModel", name := "figures", desc := "(II)I" } : MethodName) prog_14_method_22_code (5 : Nat) (Option.some ClassFile.FieldType.int) ∈ TB := tb_in (lwt_8 (List.mem_of_getElem? (i := 186) (by decide +kernel))) rfl
theorem w_8_183 : Cond.methodLink "LastLoafModel" (116 : Nat) ({ cls := "LastLoafModel", name := "figures", desc := "(II)I" } : MethodName) ∈ TB := tb_in (lwt_8 (List.mem_of_getElem? (i := 183) (by decide +kernel))) rfl
theorem w_8_185 : Cond.instanceMethod ({ cls := "LastLoafModel", name := "figures", desc := "(II)I" } : MethodName) ∈ TB := tb_in (lwt_8 (List.mem_of_getElem? (i := 185) (by decide +kernel))) rfl
theorem ws_LastLoafModel_figures_II_I : Cond.selects "LastLoafModel" (⟨"LastLoafModel", "figures", "(II)I"⟩ : MethodName) (⟨"LastLoafModel", "figures", "(II)I"⟩ : MethodName) ∈ TB := tb_in (List.mem_append_left _ (List.mem_of_getElem? (i := 25) (by decide +kernel))) rfl
theorem cr12_116 {Θ : Tz} {cc : ByteArray} {nL kc ks : Nat} {ret : Option FieldType} {rm : Room} {Q : State → Prop} {σ : St} {pc : Nat} {lv : List (Nat × Value)} {st : List Value} (C : Zc Θ cc nL RX12 ret rm) (hkd : Θ.2.2.2.2.1 = kdM) {low_a : Int32} {high_a : Int32} {r : Int32 × St} (hx : q12_figures σ low_a high_a = some r) (hrm : rm12_figures.frames + 1 ≤ rm.frames ∧ 8 + (5 + 11) + rm12_figures.locals ≤ rm.locals) (hcat : (st.map fun v => v.category).sum ≤ 8) (hk : kc ≤ rm.cells ∧ ks ≤ rm.slots) (hd : decode cc pc = .ok (.invokevirtual 116, 3)) (kk : Z Θ nL kc ks Q r.2 (pc + 3) lv (.int r.1 :: st)) : Z Θ nL kc ks Q σ pc lv (.int high_a :: .int low_a :: .ref (zA Θ 0) :: st) := z_callV C 0 [.int low_a, .int high_a] (some (.int r.1), r.2) 2 (kM_0 hkd) rfl (c12_figures (low_a := low_a) (high_a := high_a) hkd (zc_inj C) hx) w_8_186 w_8_183 w_8_185 ws_LastLoafModel_figures_II_I w_1_14 ⟨rfl, rfl, hrm.1, hrm.2⟩ (by decide +kernel) rfl rfl hcat hk hd kk
theorem dX12_after_0 : decode cX12_after 0 = .ok (.aload_n 0, 1) := by decide +kernel
theorem dX12_after_1 : decode cX12_after 1 = .ok (.getfield 25, 3) := by decide +kernel
theorem dX12_after_4 : decode cX12_after 4 = .ok (.iconst (-1), 1) := by decide +kernel
theorem dX12_after_5 : decode cX12_after 5 = .ok (.if_icmp .ne 19, 3) := by decide +kernel
theorem dX12_after_8 : decode cX12_after 8 = .ok (.aload_n 0, 1) := by decide +kernel
theorem dX12_after_9 : decode cX12_after 9 = .ok (.aload_n 1, 1) := by decide +kernel
theorem dX12_after_10 : decode cX12_after 10 = .ok (.invokevirtual 112, 3) := by decide +kernel
theorem dX12_after_13 : decode cX12_after 13 = .ok (.ifCond .ne 11, 3) := by decide +kernel
theorem dX12_after_16 : decode cX12_after 16 = .ok (.aload_n 0, 1) := by decide +kernel
theorem dX12_after_17 : decode cX12_after 17 = .ok (.aload_n 0, 1) := by decide +kernel
theorem dX12_after_18 : decode cX12_after 18 = .ok (.getfield 82, 3) := by decide +kernel
theorem dX12_after_21 : decode cX12_after 21 = .ok (.invokevirtual 108, 3) := by decide +kernel
theorem dX12_after_24 : decode cX12_after 24 = .ok (.aload_n 0, 1) := by decide +kernel
theorem dX12_after_25 : decode cX12_after 25 = .ok (.iload_n 2, 1) := by decide +kernel
theorem dX12_after_26 : decode cX12_after 26 = .ok (.iload_n 3, 1) := by decide +kernel
theorem dX12_after_27 : decode cX12_after 27 = .ok (.invokevirtual 116, 3) := by decide +kernel
theorem dX12_after_30 : decode cX12_after 30 = .ok (.ireturn, 1) := by decide +kernel
def q12_after (σ : St) (w_a : Nat) (low_a : Int32) (high_a : Int32) : Option (Int32 × St) :=
  Option.bind (Option.bind (if (σ 0 12) = (-1) then (Option.bind (q12_has σ w_a) fun x9_ =>
  if x9_.1 = true then (some (false, x9_.2)) else (some (true, x9_.2))) else (some (false, σ))) fun t6_ =>
  if t6_.1 = true then (Option.bind (q12_wrong t6_.2 (t6_.2 0 11)) fun x13_ =>
  some (x13_)) else (some (t6_.2))) fun y1_ =>
  Option.bind (q12_figures y1_ low_a high_a) fun x15_ =>
  some (x15_.1, x15_.2)
abbrev rm12_after : Room := { frames := 5, cells := 0, slots := 0, locals := 108 }
set_option maxHeartbeats 4000000 in
set_option maxRecDepth 100000 in
theorem p12_after {Θ : Tz} {σ : St} {ρ : Option Value × St} (C : Zc Θ cX12_after 4 RX12 (some .int) rm12_after) (hkd : Θ.2.2.2.2.1 = kdM) {w_a : Nat} {low_a : Int32} {high_a : Int32} (h_w : w_a < 46) {r : (Int32 × St)} (hf : q12_after σ w_a low_a high_a = some r) (hρ : ρ = (some (.int r.1), r.2)) : Z Θ 4 0 0 (zQ Θ ρ) σ 0 [(0, .ref (zA Θ 0)), (1, .ref (zK Θ w_a)), (2, .int low_a), (3, .int high_a)] [] := by
  unfold q12_after at hf
  obtain ⟨y1_, h2_, hf⟩ := ob hf
  suffices K3_ : Z Θ 4 0 0 (zQ Θ ρ) y1_ 24 [(0, .ref (zA Θ 0)), (1, .ref (zK Θ w_a)), (2, .int low_a), (3, .int high_a)] [] by
    obtain ⟨t6_, h7_, h2_⟩ := ob h2_
    have K4_ : t6_.1 = true → Z Θ 4 0 0 (zQ Θ ρ) t6_.2 16 [(0, .ref (zA Θ 0)), (1, .ref (zK Θ w_a)), (2, .int low_a), (3, .int high_a)] [] := by
      intro h12_
      rw [if_pos h12_] at h2_
      refine z_aload_n C 0 dX12_after_16 rfl rfl ?_
      refine z_aload_n C 0 dX12_after_17 rfl rfl ?_
      refine fg12_82 C hkd dX12_after_18 ?_
      obtain ⟨x13_, h14_, h2_⟩ := ob h2_
      refine cr12_108 (where_a := (t6_.2 0 11)) C hkd  h14_ ⟨(Nat.le_of_ble_eq_true rfl), (Nat.le_of_ble_eq_true rfl)⟩ (Nat.le_of_ble_eq_true rfl) ⟨Nat.zero_le _, Nat.zero_le _⟩ dX12_after_21 ?_
      cases h2_
      exact K3_
    have K5_ : ¬ (t6_.1 = true) → Z Θ 4 0 0 (zQ Θ ρ) t6_.2 24 [(0, .ref (zA Θ 0)), (1, .ref (zK Θ w_a)), (2, .int low_a), (3, .int high_a)] [] := by
      intro h12_
      rw [if_neg h12_] at h2_
      cases h2_
      exact K3_
    refine z_aload_n C 0 dX12_after_0 rfl rfl ?_
    refine fg12_25 C hkd dX12_after_1 ?_
    refine z_iconst (v := (-1)) C dX12_after_4 ic_m1 ?_
    refine c_eq_f C 24 dX12_after_5 (by decide) (fun h8_ => ?_) (fun h8_ => ?_)
    · rw [if_pos h8_] at h7_
      refine z_aload_n C 0 dX12_after_8 rfl rfl ?_
      refine z_aload_n C 1 dX12_after_9 rfl rfl ?_
      obtain ⟨x9_, h10_, h7_⟩ := ob h7_
      refine cr12_112 (w_a := w_a) C hkd h_w h10_ ⟨(Nat.le_of_ble_eq_true rfl), (Nat.le_of_ble_eq_true rfl)⟩ (Nat.le_of_ble_eq_true rfl) ⟨Nat.zero_le _, Nat.zero_le _⟩ dX12_after_10 ?_
      refine cb_t C 24 dX12_after_13 (by decide) (fun h11_ => ?_) (fun h11_ => ?_)
      · rw [if_pos h11_] at h7_
        cases h7_
        exact K5_ Bool.false_ne_true
      · rw [if_neg h11_] at h7_
        cases h7_
        exact K4_ rfl
    · rw [if_neg h8_] at h7_
      cases h7_
      exact K5_ Bool.false_ne_true
  refine z_aload_n C 0 dX12_after_24 rfl rfl ?_
  refine z_iload_n C 2 dX12_after_25 rfl rfl ?_
  refine z_iload_n C 3 dX12_after_26 rfl rfl ?_
  obtain ⟨x15_, h16_, hf⟩ := ob hf
  refine cr12_116 (low_a := low_a) (high_a := high_a) C hkd  h16_ ⟨(Nat.le_of_ble_eq_true rfl), (Nat.le_of_ble_eq_true rfl)⟩ (Nat.le_of_ble_eq_true rfl) ⟨Nat.zero_le _, Nat.zero_le _⟩ dX12_after_27 ?_
  cases hf
  subst hρ
  exact z_iret C dX12_after_30
theorem c12_after {l : Launch} {kd : List KD} {w : Wp} {σ : St} {w_a : Nat} {low_a : Int32} {high_a : Int32} (hkd : kd = kdM) (hi : zI kd w) (h_w : w_a < 46) {r : (Int32 × St)} (hf : q12_after σ w_a low_a high_a = some r) : zM l kd w yX12_after cX12_after 4 (some .int) rm12_after [.ref (w.2.2.1 0), .ref (w.2.2.2.1 w_a), .int low_a, .int high_a] σ (some (.int r.1), r.2) := zM_of rfl hi (Nat.le_of_ble_eq_true rfl) (fun Θ hl hw C => by
  obtain ⟨Θ1, Θ2, Θ3, Θ4, Θ5⟩ := Θ
  cases hw
  exact p12_after C hkd h_w hf rfl)

theorem ic_1 : Int32.ofInt (1) = 1 := by decide +kernel
theorem ic_0 : Int32.ofInt (0) = 0 := by decide +kernel
theorem dX12_isIn_0 : decode cX12_isIn 0 = .ok (.iload_n 0, 1) := by decide +kernel
theorem dX12_isIn_1 : decode cX12_isIn 1 = .ok (.iload_n 1, 1) := by decide +kernel
theorem dX12_isIn_2 : decode cX12_isIn 2 = .ok (.if_icmp .lt 12, 3) := by decide +kernel
theorem dX12_isIn_5 : decode cX12_isIn 5 = .ok (.iload_n 0, 1) := by decide +kernel
theorem dX12_isIn_6 : decode cX12_isIn 6 = .ok (.iload_n 2, 1) := by decide +kernel
theorem dX12_isIn_7 : decode cX12_isIn 7 = .ok (.if_icmp .gt 7, 3) := by decide +kernel
theorem dX12_isIn_10 : decode cX12_isIn 10 = .ok (.iconst 1, 1) := by decide +kernel
theorem dX12_isIn_11 : decode cX12_isIn 11 = .ok (.goto 4, 3) := by decide +kernel
theorem dX12_isIn_14 : decode cX12_isIn 14 = .ok (.iconst 0, 1) := by decide +kernel
theorem dX12_isIn_15 : decode cX12_isIn 15 = .ok (.ireturn, 1) := by decide +kernel
def q12_isIn (v0 : Int32) (low0 : Int32) (high0 : Int32) : Bool :=
  decide ((low0 ≤ v0) ∧ (v0 ≤ high0))
abbrev rm12_isIn : Room := { frames := 0, cells := 0, slots := 0, locals := 0 }
set_option maxHeartbeats 4000000 in
set_option maxRecDepth 100000 in
theorem p12_isIn {Θ : Tz} {σ : St} {ρ : Option Value × St} (C : Zc Θ cX12_isIn 3 RX12 (some .boolean) rm12_isIn) (hkd : Θ.2.2.2.2.1 = kdM) {v0 : Int32} {low0 : Int32} {high0 : Int32} {r : Bool} (hf : q12_isIn v0 low0 high0 = r) (hρ : ρ = (some (.int (b2i r)), σ)) : Z Θ 3 0 0 (zQ Θ ρ) σ 0 [(0, .int v0), (1, .int low0), (2, .int high0)] [] := by
  unfold q12_isIn at hf
  suffices K1 : Z Θ 3 0 0 (zQ Θ ρ) σ 15 [(0, .int v0), (1, .int low0), (2, .int high0)] [.int (b2i (decide ((low0 ≤ v0) ∧ (v0 ≤ high0))))] by
    have K2 : (low0 ≤ v0) ∧ (v0 ≤ high0) → Z Θ 3 0 0 (zQ Θ ρ) σ 10 [(0, .int v0), (1, .int low0), (2, .int high0)] [] := by
      intro h6
      rw [decide_eq_true h6] at K1
      refine z_iconst (v := 1) C dX12_isIn_10 ic_1 ?_
      refine z_goto C 15 dX12_isIn_11 (by decide) ?_
      exact K1
    have K3 : ¬ ((low0 ≤ v0) ∧ (v0 ≤ high0)) → Z Θ 3 0 0 (zQ Θ ρ) σ 14 [(0, .int v0), (1, .int low0), (2, .int high0)] [] := by
      intro h6
      rw [decide_eq_false h6] at K1
      refine z_iconst (v := 0) C dX12_isIn_14 ic_0 ?_
      exact K1
    refine z_iload_n C 0 dX12_isIn_0 rfl rfl ?_
    refine z_iload_n C 1 dX12_isIn_1 rfl rfl ?_
    refine c_ge_f C 14 dX12_isIn_2 (by decide) (fun h4 => ?_) (fun h4 => ?_)
    · refine z_iload_n C 0 dX12_isIn_5 rfl rfl ?_
      refine z_iload_n C 2 dX12_isIn_6 rfl rfl ?_
      refine c_le_f C 14 dX12_isIn_7 (by decide) (fun h5 => ?_) (fun h5 => ?_)
      · exact K2 ⟨h4, h5⟩
      · exact K3 (fun n => h5 n.2)
    · exact K3 (fun n => h4 n.1)
  subst hf
  subst hρ
  exact z_zret (v := b2i (decide ((low0 ≤ v0) ∧ (v0 ≤ high0)))) C (b2i_narrow _) dX12_isIn_15
theorem c12_isIn {l : Launch} {kd : List KD} {w : Wp} {σ : St} {v0 : Int32} {low0 : Int32} {high0 : Int32} (hkd : kd = kdM) (hi : zI kd w) : zM l kd w yX12_isIn cX12_isIn 3 (some .boolean) rm12_isIn [.int v0, .int low0, .int high0] σ (some (.int (b2i (q12_isIn v0 low0 high0))), σ) := zM_of rfl hi (Nat.le_of_ble_eq_true rfl) (fun Θ _ hw C => by
  obtain ⟨Θ1, Θ2, Θ3, Θ4, Θ5⟩ := Θ
  cases hw
  exact p12_isIn C hkd  rfl rfl)
theorem dX12_lesser_0 : decode cX12_lesser 0 = .ok (.iload_n 0, 1) := by decide +kernel
theorem dX12_lesser_1 : decode cX12_lesser 1 = .ok (.iload_n 1, 1) := by decide +kernel
theorem dX12_lesser_2 : decode cX12_lesser 2 = .ok (.if_icmp .ge 7, 3) := by decide +kernel
theorem dX12_lesser_5 : decode cX12_lesser 5 = .ok (.iload_n 0, 1) := by decide +kernel
theorem dX12_lesser_6 : decode cX12_lesser 6 = .ok (.goto 4, 3) := by decide +kernel
theorem dX12_lesser_9 : decode cX12_lesser 9 = .ok (.iload_n 1, 1) := by decide +kernel
theorem dX12_lesser_10 : decode cX12_lesser 10 = .ok (.ireturn, 1) := by decide +kernel
def q12_lesser (a0 : Int32) (b0 : Int32) : Int32 :=
  if a0 < b0 then a0 else b0
abbrev rm12_lesser : Room := { frames := 0, cells := 0, slots := 0, locals := 0 }
set_option maxHeartbeats 4000000 in
set_option maxRecDepth 100000 in
theorem p12_lesser {Θ : Tz} {σ : St} {ρ : Option Value × St} (C : Zc Θ cX12_lesser 2 RX12 (some .int) rm12_lesser) (hkd : Θ.2.2.2.2.1 = kdM) {a0 : Int32} {b0 : Int32} {r : Int32} (hf : q12_lesser a0 b0 = r) (hρ : ρ = (some (.int r), σ)) : Z Θ 2 0 0 (zQ Θ ρ) σ 0 [(0, .int a0), (1, .int b0)] [] := by
  unfold q12_lesser at hf
  suffices K1 : Z Θ 2 0 0 (zQ Θ ρ) σ 10 [(0, .int a0), (1, .int b0)] [.int (if a0 < b0 then a0 else b0)] by
    have K2 : a0 < b0 → Z Θ 2 0 0 (zQ Θ ρ) σ 5 [(0, .int a0), (1, .int b0)] [] := by
      intro h5
      rw [if_pos h5] at K1
      refine z_iload_n C 0 dX12_lesser_5 rfl rfl ?_
      refine z_goto C 10 dX12_lesser_6 (by decide) ?_
      exact K1
    have K3 : ¬ (a0 < b0) → Z Θ 2 0 0 (zQ Θ ρ) σ 9 [(0, .int a0), (1, .int b0)] [] := by
      intro h5
      rw [if_neg h5] at K1
      refine z_iload_n C 1 dX12_lesser_9 rfl rfl ?_
      exact K1
    refine z_iload_n C 0 dX12_lesser_0 rfl rfl ?_
    refine z_iload_n C 1 dX12_lesser_1 rfl rfl ?_
    refine c_lt_f C 9 dX12_lesser_2 (by decide) (fun h4 => ?_) (fun h4 => ?_)
    · exact K2 h4
    · exact K3 h4
  subst hf
  subst hρ
  exact z_iret C dX12_lesser_10
theorem c12_lesser {l : Launch} {kd : List KD} {w : Wp} {σ : St} {a0 : Int32} {b0 : Int32} (hkd : kd = kdM) (hi : zI kd w) : zM l kd w yX12_lesser cX12_lesser 2 (some .int) rm12_lesser [.int a0, .int b0] σ (some (.int (q12_lesser a0 b0)), σ) := zM_of rfl hi (Nat.le_of_ble_eq_true rfl) (fun Θ _ hw C => by
  obtain ⟨Θ1, Θ2, Θ3, Θ4, Θ5⟩ := Θ
  cases hw
  exact p12_lesser C hkd  rfl rfl)
theorem dX12_greater_0 : decode cX12_greater 0 = .ok (.iload_n 0, 1) := by decide +kernel
theorem dX12_greater_1 : decode cX12_greater 1 = .ok (.iload_n 1, 1) := by decide +kernel
theorem dX12_greater_2 : decode cX12_greater 2 = .ok (.if_icmp .le 7, 3) := by decide +kernel
theorem dX12_greater_5 : decode cX12_greater 5 = .ok (.iload_n 0, 1) := by decide +kernel
theorem dX12_greater_6 : decode cX12_greater 6 = .ok (.goto 4, 3) := by decide +kernel
theorem dX12_greater_9 : decode cX12_greater 9 = .ok (.iload_n 1, 1) := by decide +kernel
theorem dX12_greater_10 : decode cX12_greater 10 = .ok (.ireturn, 1) := by decide +kernel
def q12_greater (a0 : Int32) (b0 : Int32) : Int32 :=
  if b0 < a0 then a0 else b0
abbrev rm12_greater : Room := { frames := 0, cells := 0, slots := 0, locals := 0 }
set_option maxHeartbeats 4000000 in
set_option maxRecDepth 100000 in
theorem p12_greater {Θ : Tz} {σ : St} {ρ : Option Value × St} (C : Zc Θ cX12_greater 2 RX12 (some .int) rm12_greater) (hkd : Θ.2.2.2.2.1 = kdM) {a0 : Int32} {b0 : Int32} {r : Int32} (hf : q12_greater a0 b0 = r) (hρ : ρ = (some (.int r), σ)) : Z Θ 2 0 0 (zQ Θ ρ) σ 0 [(0, .int a0), (1, .int b0)] [] := by
  unfold q12_greater at hf
  suffices K1 : Z Θ 2 0 0 (zQ Θ ρ) σ 10 [(0, .int a0), (1, .int b0)] [.int (if b0 < a0 then a0 else b0)] by
    have K2 : b0 < a0 → Z Θ 2 0 0 (zQ Θ ρ) σ 5 [(0, .int a0), (1, .int b0)] [] := by
      intro h5
      rw [if_pos h5] at K1
      refine z_iload_n C 0 dX12_greater_5 rfl rfl ?_
      refine z_goto C 10 dX12_greater_6 (by decide) ?_
      exact K1
    have K3 : ¬ (b0 < a0) → Z Θ 2 0 0 (zQ Θ ρ) σ 9 [(0, .int a0), (1, .int b0)] [] := by
      intro h5
      rw [if_neg h5] at K1
      refine z_iload_n C 1 dX12_greater_9 rfl rfl ?_
      exact K1
    refine z_iload_n C 0 dX12_greater_0 rfl rfl ?_
    refine z_iload_n C 1 dX12_greater_1 rfl rfl ?_
    refine c_gt_f C 9 dX12_greater_2 (by decide) (fun h4 => ?_) (fun h4 => ?_)
    · exact K2 h4
    · exact K3 h4
  subst hf
  subst hρ
  exact z_iret C dX12_greater_10
theorem c12_greater {l : Launch} {kd : List KD} {w : Wp} {σ : St} {a0 : Int32} {b0 : Int32} (hkd : kd = kdM) (hi : zI kd w) : zM l kd w yX12_greater cX12_greater 2 (some .int) rm12_greater [.int a0, .int b0] σ (some (.int (q12_greater a0 b0)), σ) := zM_of rfl hi (Nat.le_of_ble_eq_true rfl) (fun Θ _ hw C => by
  obtain ⟨Θ1, Θ2, Θ3, Θ4, Θ5⟩ := Θ
  cases hw
  exact p12_greater C hkd  rfl rfl)
theorem dX12_isOf_0 : decode cX12_isOf 0 = .ok (.iload_n 0, 1) := by decide +kernel
theorem dX12_isOf_1 : decode cX12_isOf 1 = .ok (.iload_n 1, 1) := by decide +kernel
theorem dX12_isOf_2 : decode cX12_isOf 2 = .ok (.ishr, 1) := by decide +kernel
theorem dX12_isOf_3 : decode cX12_isOf 3 = .ok (.iconst 1, 1) := by decide +kernel
theorem dX12_isOf_4 : decode cX12_isOf 4 = .ok (.iand, 1) := by decide +kernel
theorem dX12_isOf_5 : decode cX12_isOf 5 = .ok (.iconst 1, 1) := by decide +kernel
theorem dX12_isOf_6 : decode cX12_isOf 6 = .ok (.if_icmp .ne 7, 3) := by decide +kernel
theorem dX12_isOf_9 : decode cX12_isOf 9 = .ok (.iconst 1, 1) := by decide +kernel
theorem dX12_isOf_10 : decode cX12_isOf 10 = .ok (.goto 4, 3) := by decide +kernel
theorem dX12_isOf_13 : decode cX12_isOf 13 = .ok (.iconst 0, 1) := by decide +kernel
theorem dX12_isOf_14 : decode cX12_isOf 14 = .ok (.ireturn, 1) := by decide +kernel
def q12_isOf (set0 : Int32) (k0 : Int32) : Bool :=
  decide (((shr set0 k0) &&& 1) = 1)
abbrev rm12_isOf : Room := { frames := 0, cells := 0, slots := 0, locals := 0 }
set_option maxHeartbeats 4000000 in
set_option maxRecDepth 100000 in
theorem p12_isOf {Θ : Tz} {σ : St} {ρ : Option Value × St} (C : Zc Θ cX12_isOf 2 RX12 (some .boolean) rm12_isOf) (hkd : Θ.2.2.2.2.1 = kdM) {set0 : Int32} {k0 : Int32} {r : Bool} (hf : q12_isOf set0 k0 = r) (hρ : ρ = (some (.int (b2i r)), σ)) : Z Θ 2 0 0 (zQ Θ ρ) σ 0 [(0, .int set0), (1, .int k0)] [] := by
  unfold q12_isOf at hf
  suffices K1 : Z Θ 2 0 0 (zQ Θ ρ) σ 14 [(0, .int set0), (1, .int k0)] [.int (b2i (decide (((shr set0 k0) &&& 1) = 1)))] by
    have K2 : ((shr set0 k0) &&& 1) = 1 → Z Θ 2 0 0 (zQ Θ ρ) σ 9 [(0, .int set0), (1, .int k0)] [] := by
      intro h5
      rw [decide_eq_true h5] at K1
      refine z_iconst (v := 1) C dX12_isOf_9 ic_1 ?_
      refine z_goto C 14 dX12_isOf_10 (by decide) ?_
      exact K1
    have K3 : ¬ (((shr set0 k0) &&& 1) = 1) → Z Θ 2 0 0 (zQ Θ ρ) σ 13 [(0, .int set0), (1, .int k0)] [] := by
      intro h5
      rw [decide_eq_false h5] at K1
      refine z_iconst (v := 0) C dX12_isOf_13 ic_0 ?_
      exact K1
    refine z_iload_n C 0 dX12_isOf_0 rfl rfl ?_
    refine z_iload_n C 1 dX12_isOf_1 rfl rfl ?_
    refine z_shr C dX12_isOf_2 ?_
    refine z_iconst (v := 1) C dX12_isOf_3 ic_1 ?_
    refine z_iand C dX12_isOf_4 ?_
    refine z_iconst (v := 1) C dX12_isOf_5 ic_1 ?_
    refine c_eq_f C 13 dX12_isOf_6 (by decide) (fun h4 => ?_) (fun h4 => ?_)
    · exact K2 h4
    · exact K3 h4
  subst hf
  subst hρ
  exact z_zret (v := b2i (decide (((shr set0 k0) &&& 1) = 1))) C (b2i_narrow _) dX12_isOf_14
theorem c12_isOf {l : Launch} {kd : List KD} {w : Wp} {σ : St} {set0 : Int32} {k0 : Int32} (hkd : kd = kdM) (hi : zI kd w) : zM l kd w yX12_isOf cX12_isOf 2 (some .boolean) rm12_isOf [.int set0, .int k0] σ (some (.int (b2i (q12_isOf set0 k0))), σ) := zM_of rfl hi (Nat.le_of_ble_eq_true rfl) (fun Θ _ hw C => by
  obtain ⟨Θ1, Θ2, Θ3, Θ4, Θ5⟩ := Θ
  cases hw
  exact p12_isOf C hkd  rfl rfl)
theorem bp_31 : (Int8.ofInt (31)).toInt32 = 31 := by decide +kernel
theorem dX12_bits_0 : decode cX12_bits 0 = .ok (.iconst 0, 1) := by decide +kernel
theorem dX12_bits_1 : decode cX12_bits 1 = .ok (.istore_n 1, 1) := by decide +kernel
theorem dX12_bits_2 : decode cX12_bits 2 = .ok (.iconst 0, 1) := by decide +kernel
theorem dX12_bits_3 : decode cX12_bits 3 = .ok (.istore_n 2, 1) := by decide +kernel
theorem dX12_bits_4 : decode cX12_bits 4 = .ok (.iload_n 2, 1) := by decide +kernel
theorem dX12_bits_5 : decode cX12_bits 5 = .ok (.bipush 31, 2) := by decide +kernel
theorem dX12_bits_7 : decode cX12_bits 7 = .ok (.if_icmp .ge 17, 3) := by decide +kernel
theorem dX12_bits_10 : decode cX12_bits 10 = .ok (.iload_n 1, 1) := by decide +kernel
theorem dX12_bits_11 : decode cX12_bits 11 = .ok (.iload_n 0, 1) := by decide +kernel
theorem dX12_bits_12 : decode cX12_bits 12 = .ok (.iload_n 2, 1) := by decide +kernel
theorem dX12_bits_13 : decode cX12_bits 13 = .ok (.ishr, 1) := by decide +kernel
theorem dX12_bits_14 : decode cX12_bits 14 = .ok (.iconst 1, 1) := by decide +kernel
theorem dX12_bits_15 : decode cX12_bits 15 = .ok (.iand, 1) := by decide +kernel
theorem dX12_bits_16 : decode cX12_bits 16 = .ok (.iadd, 1) := by decide +kernel
theorem dX12_bits_17 : decode cX12_bits 17 = .ok (.istore_n 1, 1) := by decide +kernel
theorem dX12_bits_18 : decode cX12_bits 18 = .ok (.iinc 2 1, 3) := by decide +kernel
theorem dX12_bits_21 : decode cX12_bits 21 = .ok (.goto (-17), 3) := by decide +kernel
theorem dX12_bits_24 : decode cX12_bits 24 = .ok (.iload_n 1, 1) := by decide +kernel
theorem dX12_bits_25 : decode cX12_bits 25 = .ok (.ireturn, 1) := by decide +kernel
def q12_bits (set0 : Int32) : Option Int32 :=
  Option.bind (loop2 (fun rec4 (n7 : Int32) (k8 : Int32) =>
  if k8 < 31 then
  lt (n7 + ((shr set0 k8) &&& 1)) fun n15 =>
  lt (k8 + 1) fun k17 =>
  rec4 n15 k17
  else (some (n7, k8))) fuelN 0 0) fun y1 =>
  some y1.1
abbrev rm12_bits : Room := { frames := 0, cells := 0, slots := 0, locals := 0 }
set_option maxHeartbeats 4000000 in
set_option maxRecDepth 100000 in
theorem p12_bits {Θ : Tz} {σ : St} {ρ : Option Value × St} (C : Zc Θ cX12_bits 3 RX12 (some .int) rm12_bits) (hkd : Θ.2.2.2.2.1 = kdM) {set0 : Int32} {r : Int32} (hf : q12_bits set0 = some r) (hρ : ρ = (some (.int r), σ)) : Z Θ 3 0 0 (zQ Θ ρ) σ 0 [(0, .int set0)] [] := by
  unfold q12_bits at hf
  refine z_iconst (v := 0) C dX12_bits_0 ic_0 ?_
  refine z_istN C dX12_bits_1 rfl rfl (Nat.le_of_ble_eq_true rfl) rfl ?_
  refine z_iconst (v := 0) C dX12_bits_2 ic_0 ?_
  refine z_istN C dX12_bits_3 rfl rfl (Nat.le_of_ble_eq_true rfl) rfl ?_
  refine Z.sub [2, 1, 0] rfl ?_
  obtain ⟨y1, h2, hf⟩ := ob hf
  suffices K3 : Z Θ 3 0 0 (zQ Θ ρ) σ 24 [(0, .int set0), (1, .int y1.1), (2, .int y1.2)] [] by
    refine loop2_Z (P := fun (n7 : Int32) (k8 : Int32) => Z Θ 3 0 0 (zQ Θ ρ) σ 4 [(0, .int set0), (1, .int n7), (2, .int k8)] []) ?_ fuelN 0 0 h2
    clear h2
    intro rec4 n7 k8 h5 h6
    have K11 : k8 < 31 → Z Θ 3 0 0 (zQ Θ ρ) σ 10 [(0, .int set0), (1, .int n7), (2, .int k8)] [] := by
      intro h14
      rw [if_pos h14] at h6
      refine z_iload_n C 1 dX12_bits_10 rfl rfl ?_
      refine z_iload_n C 0 dX12_bits_11 rfl rfl ?_
      refine z_iload_n C 2 dX12_bits_12 rfl rfl ?_
      refine z_shr C dX12_bits_13 ?_
      refine z_iconst (v := 1) C dX12_bits_14 ic_1 ?_
      refine z_iand C dX12_bits_15 ?_
      refine z_iadd C dX12_bits_16 ?_
      obtain ⟨n15, h16, h6⟩ := lt_ h6
      refine z_istN C dX12_bits_17 h16 rfl (Nat.le_of_ble_eq_true rfl) rfl ?_
      obtain ⟨k17, h18, h6⟩ := lt_ h6
      refine z_inc C 2 dX12_bits_18 rfl ic_1 h18 (Nat.le_of_ble_eq_true rfl) rfl ?_
      refine z_goto C 4 dX12_bits_21 (by decide) ?_
      refine Z.sub [2, 1, 0] rfl ?_
      exact h5 _ _ h6
    have K12 : ¬ (k8 < 31) → Z Θ 3 0 0 (zQ Θ ρ) σ 24 [(0, .int set0), (1, .int n7), (2, .int k8)] [] := by
      intro h14
      rw [if_neg h14] at h6
      cases h6
      exact K3
    refine z_iload_n C 2 dX12_bits_4 rfl rfl ?_
    refine z_bipush (v := 31) C dX12_bits_5 bp_31 ?_
    refine c_lt_f C 24 dX12_bits_7 (by decide) (fun h13 => ?_) (fun h13 => ?_)
    · exact K11 h13
    · exact K12 h13
  refine z_iload_n C 1 dX12_bits_24 rfl rfl ?_
  cases hf
  subst hρ
  exact z_iret C dX12_bits_25
theorem c12_bits {l : Launch} {kd : List KD} {w : Wp} {σ : St} {set0 : Int32} (hkd : kd = kdM) (hi : zI kd w) {r : Int32} (hf : q12_bits set0 = some r) : zM l kd w yX12_bits cX12_bits 3 (some .int) rm12_bits [.int set0] σ (some (.int r), σ) := zM_of rfl hi (Nat.le_of_ble_eq_true rfl) (fun Θ _ hw C => by
  obtain ⟨Θ1, Θ2, Θ3, Θ4, Θ5⟩ := Θ
  cases hw
  exact p12_bits C hkd  hf rfl)
theorem w_8_28 : Cond.fieldLink "LastLoafModel" (7 : Nat) "LastLoafModel" "m" "[I" ∈ TB := tb_in (lwt_8 (List.mem_of_getElem? (i := 28) (by decide +kernel))) rfl
theorem fg12_7 {Θ : Tz} {cc : ByteArray} {nL kc ks : Nat} {ret : Option FieldType} {rm : Room} {Q : State → Prop} {σ : St} {pc : Nat} {lv : List (Nat × Value)} {st : List Value} (C : Zc Θ cc nL RX12 ret rm) (hkd : Θ.2.2.2.2.1 = kdM) (hd : decode cc pc = .ok (.getfield 7, 3)) (kk : Z Θ nL kc ks Q σ (pc + 3) lv (.ref (zA Θ 1) :: st)) : Z Θ nL kc ks Q σ pc lv (.ref (zA Θ 0) :: st) := z_get C inT12 0 (kM_0 hkd) rfl 1 (by decide) w_8_28 rfl hd kk
theorem bp_14 : (Int8.ofInt (14)).toInt32 = 14 := by decide +kernel
theorem bp_7 : (Int8.ofInt (7)).toInt32 = 7 := by decide +kernel
theorem dX12_of_0 : decode cX12_of 0 = .ok (.aload_n 0, 1) := by decide +kernel
theorem dX12_of_1 : decode cX12_of 1 = .ok (.getfield 7, 3) := by decide +kernel
theorem dX12_of_4 : decode cX12_of 4 = .ok (.bipush 14, 2) := by decide +kernel
theorem dX12_of_6 : decode cX12_of 6 = .ok (.bipush 7, 2) := by decide +kernel
theorem dX12_of_8 : decode cX12_of 8 = .ok (.iload_n 1, 1) := by decide +kernel
theorem dX12_of_9 : decode cX12_of 9 = .ok (.imul, 1) := by decide +kernel
theorem dX12_of_10 : decode cX12_of 10 = .ok (.iadd, 1) := by decide +kernel
theorem dX12_of_11 : decode cX12_of 11 = .ok (.iload_n 2, 1) := by decide +kernel
theorem dX12_of_12 : decode cX12_of 12 = .ok (.iadd, 1) := by decide +kernel
theorem dX12_of_13 : decode cX12_of 13 = .ok (.iaload, 1) := by decide +kernel
theorem dX12_of_14 : decode cX12_of 14 = .ok (.ireturn, 1) := by decide +kernel
def q12_of (σ : St) (p0 : Int32) (what0 : Int32) : Option Int32 :=
  Option.bind (ag σ 1 752 ((14 + (7 * p0)) + what0)) fun x1 =>
  some x1
abbrev rm12_of : Room := { frames := 0, cells := 0, slots := 0, locals := 0 }
set_option maxHeartbeats 4000000 in
set_option maxRecDepth 100000 in
theorem p12_of {Θ : Tz} {σ : St} {ρ : Option Value × St} (C : Zc Θ cX12_of 3 RX12 (some .int) rm12_of) (hkd : Θ.2.2.2.2.1 = kdM) {p0 : Int32} {what0 : Int32} {r : Int32} (hf : q12_of σ p0 what0 = some r) (hρ : ρ = (some (.int r), σ)) : Z Θ 3 0 0 (zQ Θ ρ) σ 0 [(0, .ref (zA Θ 0)), (1, .int p0), (2, .int what0)] [] := by
  unfold q12_of at hf
  refine z_aload_n C 0 dX12_of_0 rfl rfl ?_
  refine fg12_7 C hkd dX12_of_1 ?_
  refine z_bipush (v := 14) C dX12_of_4 bp_14 ?_
  refine z_bipush (v := 7) C dX12_of_6 bp_7 ?_
  refine z_iload_n C 1 dX12_of_8 rfl rfl ?_
  refine z_imul C dX12_of_9 ?_
  refine z_iadd C dX12_of_10 ?_
  refine z_iload_n C 2 dX12_of_11 rfl rfl ?_
  refine z_iadd C dX12_of_12 ?_
  obtain ⟨x1, h2, hf⟩ := ob hf
  refine z_ag C h2 (kM_1 hkd) dX12_of_13 ?_
  cases hf
  subst hρ
  exact z_iret C dX12_of_14
theorem c12_of {l : Launch} {kd : List KD} {w : Wp} {σ : St} {p0 : Int32} {what0 : Int32} (hkd : kd = kdM) (hi : zI kd w) {r : Int32} (hf : q12_of σ p0 what0 = some r) : zM l kd w yX12_of cX12_of 3 (some .int) rm12_of [.ref (w.2.2.1 0), .int p0, .int what0] σ (some (.int r), σ) := zM_of rfl hi (Nat.le_of_ble_eq_true rfl) (fun Θ _ hw C => by
  obtain ⟨Θ1, Θ2, Θ3, Θ4, Θ5⟩ := Θ
  cases hw
  exact p12_of C hkd  hf rfl)
theorem dX12_lays_0 : decode cX12_lays 0 = .ok (.aload_n 0, 1) := by decide +kernel
theorem dX12_lays_1 : decode cX12_lays 1 = .ok (.getfield 7, 3) := by decide +kernel
theorem dX12_lays_4 : decode cX12_lays 4 = .ok (.bipush 14, 2) := by decide +kernel
theorem dX12_lays_6 : decode cX12_lays 6 = .ok (.bipush 7, 2) := by decide +kernel
theorem dX12_lays_8 : decode cX12_lays 8 = .ok (.iload_n 1, 1) := by decide +kernel
theorem dX12_lays_9 : decode cX12_lays 9 = .ok (.imul, 1) := by decide +kernel
theorem dX12_lays_10 : decode cX12_lays 10 = .ok (.iadd, 1) := by decide +kernel
theorem dX12_lays_11 : decode cX12_lays 11 = .ok (.iload_n 2, 1) := by decide +kernel
theorem dX12_lays_12 : decode cX12_lays 12 = .ok (.iadd, 1) := by decide +kernel
theorem dX12_lays_13 : decode cX12_lays 13 = .ok (.iload_n 3, 1) := by decide +kernel
theorem dX12_lays_14 : decode cX12_lays 14 = .ok (.iastore, 1) := by decide +kernel
theorem dX12_lays_15 : decode cX12_lays 15 = .ok (.return_, 1) := by decide +kernel
def q12_lays (σ : St) (p0 : Int32) (what0 : Int32) (v0 : Int32) : Option St :=
  Option.bind (sa σ 1 752 ((14 + (7 * p0)) + what0) v0) fun σ1 =>
  some σ1
abbrev rm12_lays : Room := { frames := 0, cells := 0, slots := 0, locals := 0 }
set_option maxHeartbeats 4000000 in
set_option maxRecDepth 100000 in
theorem p12_lays {Θ : Tz} {σ : St} {ρ : Option Value × St} (C : Zc Θ cX12_lays 4 RX12 none rm12_lays) (hkd : Θ.2.2.2.2.1 = kdM) {p0 : Int32} {what0 : Int32} {v0 : Int32} {r : St} (hf : q12_lays σ p0 what0 v0 = some r) (hρ : ρ = (none, r)) : Z Θ 4 0 0 (zQ Θ ρ) σ 0 [(0, .ref (zA Θ 0)), (1, .int p0), (2, .int what0), (3, .int v0)] [] := by
  unfold q12_lays at hf
  refine z_aload_n C 0 dX12_lays_0 rfl rfl ?_
  refine fg12_7 C hkd dX12_lays_1 ?_
  refine z_bipush (v := 14) C dX12_lays_4 bp_14 ?_
  refine z_bipush (v := 7) C dX12_lays_6 bp_7 ?_
  refine z_iload_n C 1 dX12_lays_8 rfl rfl ?_
  refine z_imul C dX12_lays_9 ?_
  refine z_iadd C dX12_lays_10 ?_
  refine z_iload_n C 2 dX12_lays_11 rfl rfl ?_
  refine z_iadd C dX12_lays_12 ?_
  refine z_iload_n C 3 dX12_lays_13 rfl rfl ?_
  obtain ⟨σ1, h2, hf⟩ := ob hf
  refine z_sa C h2 (kM_1 hkd) dX12_lays_14 ?_
  cases hf
  subst hρ
  exact z_vret C dX12_lays_15
theorem c12_lays {l : Launch} {kd : List KD} {w : Wp} {σ : St} {p0 : Int32} {what0 : Int32} {v0 : Int32} (hkd : kd = kdM) (hi : zI kd w) {r : St} (hf : q12_lays σ p0 what0 v0 = some r) : zM l kd w yX12_lays cX12_lays 4 none rm12_lays [.ref (w.2.2.1 0), .int p0, .int what0, .int v0] σ (none, r) := zM_of rfl hi (Nat.le_of_ble_eq_true rfl) (fun Θ _ hw C => by
  obtain ⟨Θ1, Θ2, Θ3, Θ4, Θ5⟩ := Θ
  cases hw
  exact p12_lays C hkd  hf rfl)
theorem bp_9 : (Int8.ofInt (9)).toInt32 = 9 := by decide +kernel
theorem bp_63 : (Int8.ofInt (63)).toInt32 = 63 := by decide +kernel
theorem dX12_liking_0 : decode cX12_liking 0 = .ok (.iload_n 1, 1) := by decide +kernel
theorem dX12_liking_1 : decode cX12_liking 1 = .ok (.iload_n 2, 1) := by decide +kernel
theorem dX12_liking_2 : decode cX12_liking 2 = .ok (.if_icmp .ne 8, 3) := by decide +kernel
theorem dX12_liking_5 : decode cX12_liking 5 = .ok (.bipush 9, 2) := by decide +kernel
theorem dX12_liking_7 : decode cX12_liking 7 = .ok (.goto 17, 3) := by decide +kernel
theorem dX12_liking_10 : decode cX12_liking 10 = .ok (.aload_n 0, 1) := by decide +kernel
theorem dX12_liking_11 : decode cX12_liking 11 = .ok (.getfield 7, 3) := by decide +kernel
theorem dX12_liking_14 : decode cX12_liking 14 = .ok (.bipush 63, 2) := by decide +kernel
theorem dX12_liking_16 : decode cX12_liking 16 = .ok (.bipush 7, 2) := by decide +kernel
theorem dX12_liking_18 : decode cX12_liking 18 = .ok (.iload_n 1, 1) := by decide +kernel
theorem dX12_liking_19 : decode cX12_liking 19 = .ok (.imul, 1) := by decide +kernel
theorem dX12_liking_20 : decode cX12_liking 20 = .ok (.iadd, 1) := by decide +kernel
theorem dX12_liking_21 : decode cX12_liking 21 = .ok (.iload_n 2, 1) := by decide +kernel
theorem dX12_liking_22 : decode cX12_liking 22 = .ok (.iadd, 1) := by decide +kernel
theorem dX12_liking_23 : decode cX12_liking 23 = .ok (.iaload, 1) := by decide +kernel
theorem dX12_liking_24 : decode cX12_liking 24 = .ok (.ireturn, 1) := by decide +kernel
def q12_liking (σ : St) (p0 : Int32) (o0 : Int32) : Option Int32 :=
  Option.bind (if p0 = o0 then (some 9) else (Option.bind (ag σ 1 752 ((63 + (7 * p0)) + o0)) fun x7 =>
  some x7)) fun x1 =>
  some x1
abbrev rm12_liking : Room := { frames := 0, cells := 0, slots := 0, locals := 0 }
set_option maxHeartbeats 4000000 in
set_option maxRecDepth 100000 in
theorem p12_liking {Θ : Tz} {σ : St} {ρ : Option Value × St} (C : Zc Θ cX12_liking 3 RX12 (some .int) rm12_liking) (hkd : Θ.2.2.2.2.1 = kdM) {p0 : Int32} {o0 : Int32} {r : Int32} (hf : q12_liking σ p0 o0 = some r) (hρ : ρ = (some (.int r), σ)) : Z Θ 3 0 0 (zQ Θ ρ) σ 0 [(0, .ref (zA Θ 0)), (1, .int p0), (2, .int o0)] [] := by
  unfold q12_liking at hf
  obtain ⟨x1, h2, hf⟩ := ob hf
  suffices K3 : Z Θ 3 0 0 (zQ Θ ρ) σ 24 [(0, .ref (zA Θ 0)), (1, .int p0), (2, .int o0)] [.int x1] by
    have K4 : p0 = o0 → Z Θ 3 0 0 (zQ Θ ρ) σ 5 [(0, .ref (zA Θ 0)), (1, .int p0), (2, .int o0)] [] := by
      intro h9
      rw [if_pos h9] at h2
      refine z_bipush (v := 9) C dX12_liking_5 bp_9 ?_
      refine z_goto C 24 dX12_liking_7 (by decide) ?_
      cases h2
      exact K3
    have K5 : ¬ (p0 = o0) → Z Θ 3 0 0 (zQ Θ ρ) σ 10 [(0, .ref (zA Θ 0)), (1, .int p0), (2, .int o0)] [] := by
      intro h9
      rw [if_neg h9] at h2
      refine z_aload_n C 0 dX12_liking_10 rfl rfl ?_
      refine fg12_7 C hkd dX12_liking_11 ?_
      refine z_bipush (v := 63) C dX12_liking_14 bp_63 ?_
      refine z_bipush (v := 7) C dX12_liking_16 bp_7 ?_
      refine z_iload_n C 1 dX12_liking_18 rfl rfl ?_
      refine z_imul C dX12_liking_19 ?_
      refine z_iadd C dX12_liking_20 ?_
      refine z_iload_n C 2 dX12_liking_21 rfl rfl ?_
      refine z_iadd C dX12_liking_22 ?_
      obtain ⟨x7, h8, h2⟩ := ob h2
      refine z_ag C h8 (kM_1 hkd) dX12_liking_23 ?_
      cases h2
      exact K3
    refine z_iload_n C 1 dX12_liking_0 rfl rfl ?_
    refine z_iload_n C 2 dX12_liking_1 rfl rfl ?_
    refine c_eq_f C 10 dX12_liking_2 (by decide) (fun h6 => ?_) (fun h6 => ?_)
    · exact K4 h6
    · exact K5 h6
  cases hf
  subst hρ
  exact z_iret C dX12_liking_24
theorem c12_liking {l : Launch} {kd : List KD} {w : Wp} {σ : St} {p0 : Int32} {o0 : Int32} (hkd : kd = kdM) (hi : zI kd w) {r : Int32} (hf : q12_liking σ p0 o0 = some r) : zM l kd w yX12_liking cX12_liking 3 (some .int) rm12_liking [.ref (w.2.2.1 0), .int p0, .int o0] σ (some (.int r), σ) := zM_of rfl hi (Nat.le_of_ble_eq_true rfl) (fun Θ _ hw C => by
  obtain ⟨Θ1, Θ2, Θ3, Θ4, Θ5⟩ := Θ
  cases hw
  exact p12_liking C hkd  hf rfl)
theorem ic_3 : Int32.ofInt (3) = 3 := by decide +kernel
theorem w_8_141 : Cond.code ({ cls := "LastLoafModel", name := "isIn", desc := "(III)Z" } : MethodName) prog_14_method_3_code (3 : Nat) (Option.some ClassFile.FieldType.boolean) ∈ TB := tb_in (lwt_8 (List.mem_of_getElem? (i := 141) (by decide +kernel))) rfl
theorem w_1_14 : Cond.initialized "LastLoafModel" ∈ TB := tb_in (lwt_1 (List.mem_of_getElem? (i := 14) (by decide +kernel))) rfl
theorem w_8_140 : Cond.static ({ cls := "LastLoafModel", name := "isIn", desc := "(III)Z" } : MethodName) ∈ TB := tb_in (lwt_8 (List.mem_of_getElem? (i := 140) (by decide +kernel))) rfl
theorem w_8_139 : Cond.methodLink "LastLoafModel" (68 : Nat) ({ cls := "LastLoafModel", name := "isIn", desc := "(III)Z" } : MethodName) ∈ TB := tb_in (lwt_8 (List.mem_of_getElem? (i := 139) (by decide +kernel))) rfl
theorem cr12_68 {Θ : Tz} {cc : ByteArray} {nL kc ks : Nat} {ret : Option FieldType} {rm : Room} {Q : State → Prop} {σ : St} {pc : Nat} {lv : List (Nat × Value)} {st : List Value} (C : Zc Θ cc nL RX12 ret rm) (hkd : Θ.2.2.2.2.1 = kdM) {v0 : Int32} {low0 : Int32} {high0 : Int32} (hrm : rm12_isIn.frames + 1 ≤ rm.frames ∧ 8 + (3 + 11) + rm12_isIn.locals ≤ rm.locals) (hcat : (st.map fun v => v.category).sum ≤ 8) (hk : kc ≤ rm.cells ∧ ks ≤ rm.slots) (hd : decode cc pc = .ok (.invokestatic 68, 3)) (kk : Z Θ nL kc ks Q σ (pc + 3) lv (.int (b2i (q12_isIn v0 low0 high0)) :: st)) : Z Θ nL kc ks Q σ pc lv (.int high0 :: .int low0 :: .int v0 :: st) := z_callS C [.int v0, .int low0, .int high0] (some (.int (b2i (q12_isIn v0 low0 high0))), σ) 3 (c12_isIn (v0 := v0) (low0 := low0) (high0 := high0) hkd (zc_inj C)) w_8_141 w_8_139 w_8_140 w_1_14 ⟨rfl, rfl, hrm.1, hrm.2⟩ (by decide +kernel) rfl rfl hcat hk hd kk
theorem dX12_isOne_0 : decode cX12_isOne 0 = .ok (.iload_n 1, 1) := by decide +kernel
theorem dX12_isOne_1 : decode cX12_isOne 1 = .ok (.iconst 0, 1) := by decide +kernel
theorem dX12_isOne_2 : decode cX12_isOne 2 = .ok (.aload_n 0, 1) := by decide +kernel
theorem dX12_isOne_3 : decode cX12_isOne 3 = .ok (.getfield 7, 3) := by decide +kernel
theorem dX12_isOne_6 : decode cX12_isOne 6 = .ok (.iconst 3, 1) := by decide +kernel
theorem dX12_isOne_7 : decode cX12_isOne 7 = .ok (.iaload, 1) := by decide +kernel
theorem dX12_isOne_8 : decode cX12_isOne 8 = .ok (.iconst 1, 1) := by decide +kernel
theorem dX12_isOne_9 : decode cX12_isOne 9 = .ok (.isub, 1) := by decide +kernel
theorem dX12_isOne_10 : decode cX12_isOne 10 = .ok (.invokestatic 68, 3) := by decide +kernel
theorem dX12_isOne_13 : decode cX12_isOne 13 = .ok (.ireturn, 1) := by decide +kernel
def q12_isOne (σ : St) (p0 : Int32) : Option Bool :=
  Option.bind (ag σ 1 752 3) fun x1 =>
  some (q12_isIn p0 0 (x1 - 1))
abbrev rm12_isOne : Room := { frames := 1, cells := 0, slots := 0, locals := 22 }
set_option maxHeartbeats 4000000 in
set_option maxRecDepth 100000 in
theorem p12_isOne {Θ : Tz} {σ : St} {ρ : Option Value × St} (C : Zc Θ cX12_isOne 2 RX12 (some .boolean) rm12_isOne) (hkd : Θ.2.2.2.2.1 = kdM) {p0 : Int32} {r : Bool} (hf : q12_isOne σ p0 = some r) (hρ : ρ = (some (.int (b2i r)), σ)) : Z Θ 2 0 0 (zQ Θ ρ) σ 0 [(0, .ref (zA Θ 0)), (1, .int p0)] [] := by
  unfold q12_isOne at hf
  refine z_iload_n C 1 dX12_isOne_0 rfl rfl ?_
  refine z_iconst (v := 0) C dX12_isOne_1 ic_0 ?_
  refine z_aload_n C 0 dX12_isOne_2 rfl rfl ?_
  refine fg12_7 C hkd dX12_isOne_3 ?_
  refine z_iconst (v := 3) C dX12_isOne_6 ic_3 ?_
  obtain ⟨x1, h2, hf⟩ := ob hf
  refine z_ag C h2 (kM_1 hkd) dX12_isOne_7 ?_
  refine z_iconst (v := 1) C dX12_isOne_8 ic_1 ?_
  refine z_isub C dX12_isOne_9 ?_
  refine cr12_68 (v0 := p0) (low0 := 0) (high0 := (x1 - 1)) C hkd  ⟨(Nat.le_of_ble_eq_true rfl), (Nat.le_of_ble_eq_true rfl)⟩ (Nat.le_of_ble_eq_true rfl) ⟨Nat.zero_le _, Nat.zero_le _⟩ dX12_isOne_10 ?_
  cases hf
  subst hρ
  exact z_zret (v := b2i (q12_isIn p0 0 (x1 - 1))) C (b2i_narrow _) dX12_isOne_13
theorem c12_isOne {l : Launch} {kd : List KD} {w : Wp} {σ : St} {p0 : Int32} (hkd : kd = kdM) (hi : zI kd w) {r : Bool} (hf : q12_isOne σ p0 = some r) : zM l kd w yX12_isOne cX12_isOne 2 (some .boolean) rm12_isOne [.ref (w.2.2.1 0), .int p0] σ (some (.int (b2i r)), σ) := zM_of rfl hi (Nat.le_of_ble_eq_true rfl) (fun Θ _ hw C => by
  obtain ⟨Θ1, Θ2, Θ3, Θ4, Θ5⟩ := Θ
  cases hw
  exact p12_isOne C hkd  hf rfl)
theorem dX12_all_0 : decode cX12_all 0 = .ok (.iconst 1, 1) := by decide +kernel
theorem dX12_all_1 : decode cX12_all 1 = .ok (.aload_n 0, 1) := by decide +kernel
theorem dX12_all_2 : decode cX12_all 2 = .ok (.getfield 7, 3) := by decide +kernel
theorem dX12_all_5 : decode cX12_all 5 = .ok (.iconst 3, 1) := by decide +kernel
theorem dX12_all_6 : decode cX12_all 6 = .ok (.iaload, 1) := by decide +kernel
theorem dX12_all_7 : decode cX12_all 7 = .ok (.ishl, 1) := by decide +kernel
theorem dX12_all_8 : decode cX12_all 8 = .ok (.iconst 1, 1) := by decide +kernel
theorem dX12_all_9 : decode cX12_all 9 = .ok (.isub, 1) := by decide +kernel
theorem dX12_all_10 : decode cX12_all 10 = .ok (.ireturn, 1) := by decide +kernel
def q12_all (σ : St) : Option Int32 :=
  Option.bind (ag σ 1 752 3) fun x1 =>
  some ((shl 1 x1) - 1)
abbrev rm12_all : Room := { frames := 0, cells := 0, slots := 0, locals := 0 }
set_option maxHeartbeats 4000000 in
set_option maxRecDepth 100000 in
theorem p12_all {Θ : Tz} {σ : St} {ρ : Option Value × St} (C : Zc Θ cX12_all 1 RX12 (some .int) rm12_all) (hkd : Θ.2.2.2.2.1 = kdM) {r : Int32} (hf : q12_all σ = some r) (hρ : ρ = (some (.int r), σ)) : Z Θ 1 0 0 (zQ Θ ρ) σ 0 [(0, .ref (zA Θ 0))] [] := by
  unfold q12_all at hf
  refine z_iconst (v := 1) C dX12_all_0 ic_1 ?_
  refine z_aload_n C 0 dX12_all_1 rfl rfl ?_
  refine fg12_7 C hkd dX12_all_2 ?_
  refine z_iconst (v := 3) C dX12_all_5 ic_3 ?_
  obtain ⟨x1, h2, hf⟩ := ob hf
  refine z_ag C h2 (kM_1 hkd) dX12_all_6 ?_
  refine z_shl C dX12_all_7 ?_
  refine z_iconst (v := 1) C dX12_all_8 ic_1 ?_
  refine z_isub C dX12_all_9 ?_
  cases hf
  subst hρ
  exact z_iret C dX12_all_10
theorem c12_all {l : Launch} {kd : List KD} {w : Wp} {σ : St} (hkd : kd = kdM) (hi : zI kd w) {r : Int32} (hf : q12_all σ = some r) : zM l kd w yX12_all cX12_all 1 (some .int) rm12_all [.ref (w.2.2.1 0)] σ (some (.int r), σ) := zM_of rfl hi (Nat.le_of_ble_eq_true rfl) (fun Θ _ hw C => by
  obtain ⟨Θ1, Θ2, Θ3, Θ4, Θ5⟩ := Θ
  cases hw
  exact p12_all C hkd  hf rfl)
theorem w_9_57 : Cond.code ({ cls := "LastLoafModel", name := "of", desc := "(II)I" } : MethodName) prog_14_method_8_code (3 : Nat) (Option.some ClassFile.FieldType.int) ∈ TB := tb_in (lwt_9 (List.mem_of_getElem? (i := 57) (by decide +kernel))) rfl
theorem w_9_54 : Cond.methodLink "LastLoafModel" (72 : Nat) ({ cls := "LastLoafModel", name := "of", desc := "(II)I" } : MethodName) ∈ TB := tb_in (lwt_9 (List.mem_of_getElem? (i := 54) (by decide +kernel))) rfl
theorem w_9_56 : Cond.instanceMethod ({ cls := "LastLoafModel", name := "of", desc := "(II)I" } : MethodName) ∈ TB := tb_in (lwt_9 (List.mem_of_getElem? (i := 56) (by decide +kernel))) rfl
theorem ws_LastLoafModel_of_II_I : Cond.selects "LastLoafModel" (⟨"LastLoafModel", "of", "(II)I"⟩ : MethodName) (⟨"LastLoafModel", "of", "(II)I"⟩ : MethodName) ∈ TB := tb_in (List.mem_append_left _ (List.mem_of_getElem? (i := 43) (by decide +kernel))) rfl
theorem cr12_72 {Θ : Tz} {cc : ByteArray} {nL kc ks : Nat} {ret : Option FieldType} {rm : Room} {Q : State → Prop} {σ : St} {pc : Nat} {lv : List (Nat × Value)} {st : List Value} (C : Zc Θ cc nL RX12 ret rm) (hkd : Θ.2.2.2.2.1 = kdM) {p0 : Int32} {what0 : Int32} {r : Int32} (hx : q12_of σ p0 what0 = some r) (hrm : rm12_of.frames + 1 ≤ rm.frames ∧ 8 + (3 + 11) + rm12_of.locals ≤ rm.locals) (hcat : (st.map fun v => v.category).sum ≤ 8) (hk : kc ≤ rm.cells ∧ ks ≤ rm.slots) (hd : decode cc pc = .ok (.invokevirtual 72, 3)) (kk : Z Θ nL kc ks Q σ (pc + 3) lv (.int r :: st)) : Z Θ nL kc ks Q σ pc lv (.int what0 :: .int p0 :: .ref (zA Θ 0) :: st) := z_callV C 0 [.int p0, .int what0] (some (.int r), σ) 2 (kM_0 hkd) rfl (c12_of (p0 := p0) (what0 := what0) hkd (zc_inj C) hx) w_9_57 w_9_54 w_9_56 ws_LastLoafModel_of_II_I w_1_14 ⟨rfl, rfl, hrm.1, hrm.2⟩ (by decide +kernel) rfl rfl hcat hk hd kk
theorem dX12_those_0 : decode cX12_those 0 = .ok (.iconst 0, 1) := by decide +kernel
theorem dX12_those_1 : decode cX12_those 1 = .ok (.istore_n 2, 1) := by decide +kernel
theorem dX12_those_2 : decode cX12_those 2 = .ok (.iconst 0, 1) := by decide +kernel
theorem dX12_those_3 : decode cX12_those 3 = .ok (.istore_n 3, 1) := by decide +kernel
theorem dX12_those_4 : decode cX12_those 4 = .ok (.iload_n 3, 1) := by decide +kernel
theorem dX12_those_5 : decode cX12_those 5 = .ok (.aload_n 0, 1) := by decide +kernel
theorem dX12_those_6 : decode cX12_those 6 = .ok (.getfield 7, 3) := by decide +kernel
theorem dX12_those_9 : decode cX12_those 9 = .ok (.iconst 3, 1) := by decide +kernel
theorem dX12_those_10 : decode cX12_those 10 = .ok (.iaload, 1) := by decide +kernel
theorem dX12_those_11 : decode cX12_those 11 = .ok (.if_icmp .ge 28, 3) := by decide +kernel
theorem dX12_those_14 : decode cX12_those 14 = .ok (.iload_n 2, 1) := by decide +kernel
theorem dX12_those_15 : decode cX12_those 15 = .ok (.aload_n 0, 1) := by decide +kernel
theorem dX12_those_16 : decode cX12_those 16 = .ok (.iload_n 3, 1) := by decide +kernel
theorem dX12_those_17 : decode cX12_those 17 = .ok (.iload_n 1, 1) := by decide +kernel
theorem dX12_those_18 : decode cX12_those 18 = .ok (.invokevirtual 72, 3) := by decide +kernel
theorem dX12_those_21 : decode cX12_those 21 = .ok (.ifCond .le 9, 3) := by decide +kernel
theorem dX12_those_24 : decode cX12_those 24 = .ok (.iconst 1, 1) := by decide +kernel
theorem dX12_those_25 : decode cX12_those 25 = .ok (.iload_n 3, 1) := by decide +kernel
theorem dX12_those_26 : decode cX12_those 26 = .ok (.ishl, 1) := by decide +kernel
theorem dX12_those_27 : decode cX12_those 27 = .ok (.goto 4, 3) := by decide +kernel
theorem dX12_those_30 : decode cX12_those 30 = .ok (.iconst 0, 1) := by decide +kernel
theorem dX12_those_31 : decode cX12_those 31 = .ok (.ior, 1) := by decide +kernel
theorem dX12_those_32 : decode cX12_those 32 = .ok (.istore_n 2, 1) := by decide +kernel
theorem dX12_those_33 : decode cX12_those 33 = .ok (.iinc 3 1, 3) := by decide +kernel
theorem dX12_those_36 : decode cX12_those 36 = .ok (.goto (-32), 3) := by decide +kernel
theorem dX12_those_39 : decode cX12_those 39 = .ok (.iload_n 2, 1) := by decide +kernel
theorem dX12_those_40 : decode cX12_those 40 = .ok (.ireturn, 1) := by decide +kernel
def q12_those (σ : St) (what0 : Int32) : Option Int32 :=
  Option.bind (loop2 (fun rec4 (set7 : Int32) (p8 : Int32) =>
  Option.bind (ag σ 1 752 3) fun x13 =>
  if p8 < x13 then
  Option.bind (Option.bind (q12_of σ p8 what0) fun x22 =>
  if 0 < x22 then (some (shl 1 p8)) else (some 0)) fun x17 =>
  lt (set7 ||| x17) fun set26 =>
  lt (p8 + 1) fun p28 =>
  rec4 set26 p28
  else (some (set7, p8))) fuelN 0 0) fun y1 =>
  some y1.1
abbrev rm12_those : Room := { frames := 1, cells := 0, slots := 0, locals := 22 }
set_option maxHeartbeats 4000000 in
set_option maxRecDepth 100000 in
theorem p12_those {Θ : Tz} {σ : St} {ρ : Option Value × St} (C : Zc Θ cX12_those 4 RX12 (some .int) rm12_those) (hkd : Θ.2.2.2.2.1 = kdM) {what0 : Int32} {r : Int32} (hf : q12_those σ what0 = some r) (hρ : ρ = (some (.int r), σ)) : Z Θ 4 0 0 (zQ Θ ρ) σ 0 [(0, .ref (zA Θ 0)), (1, .int what0)] [] := by
  unfold q12_those at hf
  refine z_iconst (v := 0) C dX12_those_0 ic_0 ?_
  refine z_istN C dX12_those_1 rfl rfl (Nat.le_of_ble_eq_true rfl) rfl ?_
  refine z_iconst (v := 0) C dX12_those_2 ic_0 ?_
  refine z_istN C dX12_those_3 rfl rfl (Nat.le_of_ble_eq_true rfl) rfl ?_
  refine Z.sub [2, 3, 1, 0] rfl ?_
  obtain ⟨y1, h2, hf⟩ := ob hf
  suffices K3 : Z Θ 4 0 0 (zQ Θ ρ) σ 39 [(0, .ref (zA Θ 0)), (1, .int what0), (2, .int y1.1), (3, .int y1.2)] [] by
    refine loop2_Z (P := fun (set7 : Int32) (p8 : Int32) => Z Θ 4 0 0 (zQ Θ ρ) σ 4 [(0, .ref (zA Θ 0)), (1, .int what0), (2, .int set7), (3, .int p8)] []) ?_ fuelN 0 0 h2
    clear h2
    intro rec4 set7 p8 h5 h6
    refine z_iload_n C 3 dX12_those_4 rfl rfl ?_
    refine z_aload_n C 0 dX12_those_5 rfl rfl ?_
    refine fg12_7 C hkd dX12_those_6 ?_
    refine z_iconst (v := 3) C dX12_those_9 ic_3 ?_
    obtain ⟨x13, h14, h6⟩ := ob h6
    refine z_ag C h14 (kM_1 hkd) dX12_those_10 ?_
    have K11 : p8 < x13 → Z Θ 4 0 0 (zQ Θ ρ) σ 14 [(0, .ref (zA Θ 0)), (1, .int what0), (2, .int set7), (3, .int p8)] [] := by
      intro h16
      rw [if_pos h16] at h6
      refine z_iload_n C 2 dX12_those_14 rfl rfl ?_
      obtain ⟨x17, h18, h6⟩ := ob h6
      suffices K19 : Z Θ 4 0 0 (zQ Θ ρ) σ 31 [(0, .ref (zA Θ 0)), (1, .int what0), (2, .int set7), (3, .int p8)] [.int x17, .int set7] by
        refine z_aload_n C 0 dX12_those_15 rfl rfl ?_
        refine z_iload_n C 3 dX12_those_16 rfl rfl ?_
        refine z_iload_n C 1 dX12_those_17 rfl rfl ?_
        obtain ⟨x22, h23, h18⟩ := ob h18
        refine cr12_72 (p0 := p8) (what0 := what0) C hkd  h23 ⟨(Nat.le_of_ble_eq_true rfl), (Nat.le_of_ble_eq_true rfl)⟩ (Nat.le_of_ble_eq_true rfl) ⟨Nat.zero_le _, Nat.zero_le _⟩ dX12_those_18 ?_
        have K20 : 0 < x22 → Z Θ 4 0 0 (zQ Θ ρ) σ 24 [(0, .ref (zA Θ 0)), (1, .int what0), (2, .int set7), (3, .int p8)] [.int set7] := by
          intro h25
          rw [if_pos h25] at h18
          refine z_iconst (v := 1) C dX12_those_24 ic_1 ?_
          refine z_iload_n C 3 dX12_those_25 rfl rfl ?_
          refine z_shl C dX12_those_26 ?_
          refine z_goto C 31 dX12_those_27 (by decide) ?_
          cases h18
          exact K19
        have K21 : ¬ (0 < x22) → Z Θ 4 0 0 (zQ Θ ρ) σ 30 [(0, .ref (zA Θ 0)), (1, .int what0), (2, .int set7), (3, .int p8)] [.int set7] := by
          intro h25
          rw [if_neg h25] at h18
          refine z_iconst (v := 0) C dX12_those_30 ic_0 ?_
          cases h18
          exact K19
        refine c0_gt_f C 30 dX12_those_21 (by decide) (fun h24 => ?_) (fun h24 => ?_)
        · exact K20 h24
        · exact K21 h24
      refine z_ior C dX12_those_31 ?_
      obtain ⟨set26, h27, h6⟩ := lt_ h6
      refine z_istN C dX12_those_32 h27 rfl (Nat.le_of_ble_eq_true rfl) rfl ?_
      obtain ⟨p28, h29, h6⟩ := lt_ h6
      refine z_inc C 3 dX12_those_33 rfl ic_1 h29 (Nat.le_of_ble_eq_true rfl) rfl ?_
      refine z_goto C 4 dX12_those_36 (by decide) ?_
      refine Z.sub [2, 3, 1, 0] rfl ?_
      exact h5 _ _ h6
    have K12 : ¬ (p8 < x13) → Z Θ 4 0 0 (zQ Θ ρ) σ 39 [(0, .ref (zA Θ 0)), (1, .int what0), (2, .int set7), (3, .int p8)] [] := by
      intro h16
      rw [if_neg h16] at h6
      cases h6
      exact K3
    refine c_lt_f C 39 dX12_those_11 (by decide) (fun h15 => ?_) (fun h15 => ?_)
    · exact K11 h15
    · exact K12 h15
  refine z_iload_n C 2 dX12_those_39 rfl rfl ?_
  cases hf
  subst hρ
  exact z_iret C dX12_those_40
theorem c12_those {l : Launch} {kd : List KD} {w : Wp} {σ : St} {what0 : Int32} (hkd : kd = kdM) (hi : zI kd w) {r : Int32} (hf : q12_those σ what0 = some r) : zM l kd w yX12_those cX12_those 4 (some .int) rm12_those [.ref (w.2.2.1 0), .int what0] σ (some (.int r), σ) := zM_of rfl hi (Nat.le_of_ble_eq_true rfl) (fun Θ _ hw C => by
  obtain ⟨Θ1, Θ2, Θ3, Θ4, Θ5⟩ := Θ
  cases hw
  exact p12_those C hkd  hf rfl)

/-! LastLoafModel.count -/
theorem dX12_count_0 : decode cX12_count 0 = .ok (.aload_n 0, 1) := by decide +kernel
theorem dX12_count_1 : decode cX12_count 1 = .ok (.iconst 0, 1) := by decide +kernel
theorem dX12_count_2 : decode cX12_count 2 = .ok (.putfield 65, 3) := by decide +kernel
theorem dX12_count_5 : decode cX12_count 5 = .ok (.iload_n 1, 1) := by decide +kernel
theorem dX12_count_6 : decode cX12_count 6 = .ok (.ifCond .ne 10, 3) := by decide +kernel
theorem dX12_count_9 : decode cX12_count 9 = .ok (.aload_n 0, 1) := by decide +kernel
theorem dX12_count_10 : decode cX12_count 10 = .ok (.getfield 7, 3) := by decide +kernel
theorem dX12_count_13 : decode cX12_count 13 = .ok (.iconst 3, 1) := by decide +kernel
theorem dX12_count_14 : decode cX12_count 14 = .ok (.iaload, 1) := by decide +kernel
theorem dX12_count_15 : decode cX12_count 15 = .ok (.ireturn, 1) := by decide +kernel
theorem dX12_count_16 : decode cX12_count 16 = .ok (.iload_n 1, 1) := by decide +kernel
theorem dX12_count_17 : decode cX12_count 17 = .ok (.iconst 1, 1) := by decide +kernel
theorem dX12_count_18 : decode cX12_count 18 = .ok (.if_icmp .ne 10, 3) := by decide +kernel
theorem dX12_count_21 : decode cX12_count 21 = .ok (.aload_n 0, 1) := by decide +kernel
theorem dX12_count_22 : decode cX12_count 22 = .ok (.getfield 7, 3) := by decide +kernel
theorem dX12_count_25 : decode cX12_count 25 = .ok (.iconst 0, 1) := by decide +kernel
theorem dX12_count_26 : decode cX12_count 26 = .ok (.iaload, 1) := by decide +kernel
theorem dX12_count_27 : decode cX12_count 27 = .ok (.ireturn, 1) := by decide +kernel
theorem dX12_count_28 : decode cX12_count 28 = .ok (.iload_n 1, 1) := by decide +kernel
theorem dX12_count_29 : decode cX12_count 29 = .ok (.iconst 2, 1) := by decide +kernel
theorem dX12_count_30 : decode cX12_count 30 = .ok (.if_icmp .ne 10, 3) := by decide +kernel
theorem dX12_count_33 : decode cX12_count 33 = .ok (.aload_n 0, 1) := by decide +kernel
theorem dX12_count_34 : decode cX12_count 34 = .ok (.getfield 7, 3) := by decide +kernel
theorem dX12_count_37 : decode cX12_count 37 = .ok (.iconst 1, 1) := by decide +kernel
theorem dX12_count_38 : decode cX12_count 38 = .ok (.iaload, 1) := by decide +kernel
theorem dX12_count_39 : decode cX12_count 39 = .ok (.ireturn, 1) := by decide +kernel
theorem dX12_count_40 : decode cX12_count 40 = .ok (.iload_n 1, 1) := by decide +kernel
theorem dX12_count_41 : decode cX12_count 41 = .ok (.iconst 3, 1) := by decide +kernel
theorem dX12_count_42 : decode cX12_count 42 = .ok (.bipush 6, 2) := by decide +kernel
theorem dX12_count_44 : decode cX12_count 44 = .ok (.invokestatic 68, 3) := by decide +kernel
theorem dX12_count_47 : decode cX12_count 47 = .ok (.ifCond .eq 14, 3) := by decide +kernel
theorem dX12_count_50 : decode cX12_count 50 = .ok (.aload_n 0, 1) := by decide +kernel
theorem dX12_count_51 : decode cX12_count 51 = .ok (.getfield 7, 3) := by decide +kernel
theorem dX12_count_54 : decode cX12_count 54 = .ok (.iconst 4, 1) := by decide +kernel
theorem dX12_count_55 : decode cX12_count 55 = .ok (.iload_n 1, 1) := by decide +kernel
theorem dX12_count_56 : decode cX12_count 56 = .ok (.iadd, 1) := by decide +kernel
theorem dX12_count_57 : decode cX12_count 57 = .ok (.iconst 3, 1) := by decide +kernel
theorem dX12_count_58 : decode cX12_count 58 = .ok (.isub, 1) := by decide +kernel
theorem dX12_count_59 : decode cX12_count 59 = .ok (.iaload, 1) := by decide +kernel
theorem dX12_count_60 : decode cX12_count 60 = .ok (.ireturn, 1) := by decide +kernel
theorem dX12_count_61 : decode cX12_count 61 = .ok (.aload_n 0, 1) := by decide +kernel
theorem dX12_count_62 : decode cX12_count 62 = .ok (.invokevirtual 320, 3) := by decide +kernel
theorem dX12_count_65 : decode cX12_count 65 = .ok (.iload_n 1, 1) := by decide +kernel
theorem dX12_count_66 : decode cX12_count 66 = .ok (.bipush 7, 2) := by decide +kernel
theorem dX12_count_68 : decode cX12_count 68 = .ok (.if_icmp .ne 8, 3) := by decide +kernel
theorem dX12_count_71 : decode cX12_count 71 = .ok (.aload_n 0, 1) := by decide +kernel
theorem dX12_count_72 : decode cX12_count 72 = .ok (.getfield 263, 3) := by decide +kernel
theorem dX12_count_75 : decode cX12_count 75 = .ok (.ireturn, 1) := by decide +kernel
theorem dX12_count_76 : decode cX12_count 76 = .ok (.iload_n 1, 1) := by decide +kernel
theorem dX12_count_77 : decode cX12_count 77 = .ok (.bipush 8, 2) := by decide +kernel
theorem dX12_count_79 : decode cX12_count 79 = .ok (.if_icmp .ne 8, 3) := by decide +kernel
theorem dX12_count_82 : decode cX12_count 82 = .ok (.aload_n 0, 1) := by decide +kernel
theorem dX12_count_83 : decode cX12_count 83 = .ok (.getfield 269, 3) := by decide +kernel
theorem dX12_count_86 : decode cX12_count 86 = .ok (.ireturn, 1) := by decide +kernel
theorem dX12_count_87 : decode cX12_count 87 = .ok (.iload_n 1, 1) := by decide +kernel
theorem dX12_count_88 : decode cX12_count 88 = .ok (.bipush 9, 2) := by decide +kernel
theorem dX12_count_90 : decode cX12_count 90 = .ok (.if_icmp .ne 9, 3) := by decide +kernel
theorem dX12_count_93 : decode cX12_count 93 = .ok (.aload_n 0, 1) := by decide +kernel
theorem dX12_count_94 : decode cX12_count 94 = .ok (.iconst 0, 1) := by decide +kernel
theorem dX12_count_95 : decode cX12_count 95 = .ok (.invokevirtual 359, 3) := by decide +kernel
theorem dX12_count_98 : decode cX12_count 98 = .ok (.ireturn, 1) := by decide +kernel
theorem dX12_count_99 : decode cX12_count 99 = .ok (.iload_n 1, 1) := by decide +kernel
theorem dX12_count_100 : decode cX12_count 100 = .ok (.bipush 10, 2) := by decide +kernel
theorem dX12_count_102 : decode cX12_count 102 = .ok (.if_icmp .ne 9, 3) := by decide +kernel
theorem dX12_count_105 : decode cX12_count 105 = .ok (.aload_n 0, 1) := by decide +kernel
theorem dX12_count_106 : decode cX12_count 106 = .ok (.iconst 5, 1) := by decide +kernel
theorem dX12_count_107 : decode cX12_count 107 = .ok (.invokevirtual 359, 3) := by decide +kernel
theorem dX12_count_110 : decode cX12_count 110 = .ok (.ireturn, 1) := by decide +kernel
theorem dX12_count_111 : decode cX12_count 111 = .ok (.iload_n 1, 1) := by decide +kernel
theorem dX12_count_112 : decode cX12_count 112 = .ok (.bipush 11, 2) := by decide +kernel
theorem dX12_count_114 : decode cX12_count 114 = .ok (.if_icmp .ne 11, 3) := by decide +kernel
theorem dX12_count_117 : decode cX12_count 117 = .ok (.aload_n 0, 1) := by decide +kernel
theorem dX12_count_118 : decode cX12_count 118 = .ok (.getfield 7, 3) := by decide +kernel
theorem dX12_count_121 : decode cX12_count 121 = .ok (.bipush 8, 2) := by decide +kernel
theorem dX12_count_123 : decode cX12_count 123 = .ok (.iaload, 1) := by decide +kernel
theorem dX12_count_124 : decode cX12_count 124 = .ok (.ireturn, 1) := by decide +kernel
theorem dX12_count_125 : decode cX12_count 125 = .ok (.iload_n 1, 1) := by decide +kernel
theorem dX12_count_126 : decode cX12_count 126 = .ok (.bipush 12, 2) := by decide +kernel
theorem dX12_count_128 : decode cX12_count 128 = .ok (.if_icmp .ne 10, 3) := by decide +kernel
theorem dX12_count_131 : decode cX12_count 131 = .ok (.aload_n 0, 1) := by decide +kernel
theorem dX12_count_132 : decode cX12_count 132 = .ok (.getfield 199, 3) := by decide +kernel
theorem dX12_count_135 : decode cX12_count 135 = .ok (.goto 4, 3) := by decide +kernel
theorem dX12_count_138 : decode cX12_count 138 = .ok (.iconst (-1), 1) := by decide +kernel
theorem dX12_count_139 : decode cX12_count 139 = .ok (.ireturn, 1) := by decide +kernel
def q12_count (σ : St) (what_a : Int32) : Option (Int32 × St) :=
  lt (up σ 0 0 0) fun σ1_ =>
  if what_a = 0 then (Option.bind (ag σ1_ 1 752 3) fun x7_ =>
  some (x7_, σ1_)) else
  if what_a = 1 then (Option.bind (ag σ1_ 1 752 0) fun x13_ =>
  some (x13_, σ1_)) else
  if what_a = 2 then (Option.bind (ag σ1_ 1 752 1) fun x19_ =>
  some (x19_, σ1_)) else
  if q12_isIn what_a 3 6 = true then (Option.bind (ag σ1_ 1 752 ((4 + what_a) - 3)) fun x25_ =>
  some (x25_, σ1_)) else
  Option.bind (q12_looks σ1_) fun x27_ =>
  if what_a = 7 then (some (x27_ 0 20, x27_)) else
  if what_a = 8 then (some (x27_ 0 21, x27_)) else
  if what_a = 9 then (Option.bind (q12_sumOf x27_ 0) fun x41_ =>
  some (x41_, x27_)) else
  if what_a = 10 then (Option.bind (q12_sumOf x27_ 5) fun x47_ =>
  some (x47_, x27_)) else
  if what_a = 11 then (Option.bind (ag x27_ 1 752 8) fun x53_ =>
  some (x53_, x27_)) else
  some (if what_a = 12 then x27_ 0 6 else (-1), x27_)
abbrev rm12_count : Room := { frames := 77, cells := 0, slots := 0, locals := 4194 }
set_option maxHeartbeats 4000000 in
set_option maxRecDepth 100000 in
theorem p12_count {Θ : Tz} {σ : St} {ρ : Option Value × St} (C : Zc Θ cX12_count 2 RX12 (some .int) rm12_count) (hkd : Θ.2.2.2.2.1 = kdM) {what_a : Int32} {r : (Int32 × St)} (hf : q12_count σ what_a = some r) (hρ : ρ = (some (.int r.1), r.2)) : Z Θ 2 0 0 (zQ Θ ρ) σ 0 [(0, .ref (zA Θ 0)), (1, .int what_a)] [] := by
  unfold q12_count at hf
  refine z_aload_n C 0 dX12_count_0 rfl rfl ?_
  refine z_iconst (v := 0) C dX12_count_1 ic_0 ?_
  obtain ⟨σ1_, h2_, hf⟩ := lt_ hf
  refine fp12_65 C hkd h2_ dX12_count_2 ?_
  have K3_ : what_a = 0 → Z Θ 2 0 0 (zQ Θ ρ) σ1_ 9 [(0, .ref (zA Θ 0)), (1, .int what_a)] [] := by
    intro h6_
    rw [if_pos h6_] at hf
    refine z_aload_n C 0 dX12_count_9 rfl rfl ?_
    refine fg12_7 C hkd dX12_count_10 ?_
    refine z_iconst (v := 3) C dX12_count_13 ic_3 ?_
    obtain ⟨x7_, h8_, hf⟩ := ob hf
    refine z_ag C h8_ (kM_1 hkd) dX12_count_14 ?_
    cases hf
    subst hρ
    exact z_iret C dX12_count_15
  suffices K4_ : ¬ (what_a = 0) → Z Θ 2 0 0 (zQ Θ ρ) σ1_ 16 [(0, .ref (zA Θ 0)), (1, .int what_a)] [] by
    refine z_iload_n C 1 dX12_count_5 rfl rfl ?_
    refine c0_eq_f C 16 dX12_count_6 (by decide) (fun h5_ => ?_) (fun h5_ => ?_)
    · exact K3_ h5_
    · exact K4_ h5_
  intro h6_
  rw [if_neg h6_] at hf
  have K9_ : what_a = 1 → Z Θ 2 0 0 (zQ Θ ρ) σ1_ 21 [(0, .ref (zA Θ 0)), (1, .int what_a)] [] := by
    intro h12_
    rw [if_pos h12_] at hf
    refine z_aload_n C 0 dX12_count_21 rfl rfl ?_
    refine fg12_7 C hkd dX12_count_22 ?_
    refine z_iconst (v := 0) C dX12_count_25 ic_0 ?_
    obtain ⟨x13_, h14_, hf⟩ := ob hf
    refine z_ag C h14_ (kM_1 hkd) dX12_count_26 ?_
    cases hf
    subst hρ
    exact z_iret C dX12_count_27
  suffices K10_ : ¬ (what_a = 1) → Z Θ 2 0 0 (zQ Θ ρ) σ1_ 28 [(0, .ref (zA Θ 0)), (1, .int what_a)] [] by
    refine z_iload_n C 1 dX12_count_16 rfl rfl ?_
    refine z_iconst (v := 1) C dX12_count_17 ic_1 ?_
    refine c_eq_f C 28 dX12_count_18 (by decide) (fun h11_ => ?_) (fun h11_ => ?_)
    · exact K9_ h11_
    · exact K10_ h11_
  intro h12_
  rw [if_neg h12_] at hf
  have K15_ : what_a = 2 → Z Θ 2 0 0 (zQ Θ ρ) σ1_ 33 [(0, .ref (zA Θ 0)), (1, .int what_a)] [] := by
    intro h18_
    rw [if_pos h18_] at hf
    refine z_aload_n C 0 dX12_count_33 rfl rfl ?_
    refine fg12_7 C hkd dX12_count_34 ?_
    refine z_iconst (v := 1) C dX12_count_37 ic_1 ?_
    obtain ⟨x19_, h20_, hf⟩ := ob hf
    refine z_ag C h20_ (kM_1 hkd) dX12_count_38 ?_
    cases hf
    subst hρ
    exact z_iret C dX12_count_39
  suffices K16_ : ¬ (what_a = 2) → Z Θ 2 0 0 (zQ Θ ρ) σ1_ 40 [(0, .ref (zA Θ 0)), (1, .int what_a)] [] by
    refine z_iload_n C 1 dX12_count_28 rfl rfl ?_
    refine z_iconst (v := 2) C dX12_count_29 ic_2 ?_
    refine c_eq_f C 40 dX12_count_30 (by decide) (fun h17_ => ?_) (fun h17_ => ?_)
    · exact K15_ h17_
    · exact K16_ h17_
  intro h18_
  rw [if_neg h18_] at hf
  have K21_ : q12_isIn what_a 3 6 = true → Z Θ 2 0 0 (zQ Θ ρ) σ1_ 50 [(0, .ref (zA Θ 0)), (1, .int what_a)] [] := by
    intro h24_
    rw [if_pos h24_] at hf
    refine z_aload_n C 0 dX12_count_50 rfl rfl ?_
    refine fg12_7 C hkd dX12_count_51 ?_
    refine z_iconst (v := 4) C dX12_count_54 ic_4 ?_
    refine z_iload_n C 1 dX12_count_55 rfl rfl ?_
    refine z_iadd C dX12_count_56 ?_
    refine z_iconst (v := 3) C dX12_count_57 ic_3 ?_
    refine z_isub C dX12_count_58 ?_
    obtain ⟨x25_, h26_, hf⟩ := ob hf
    refine z_ag C h26_ (kM_1 hkd) dX12_count_59 ?_
    cases hf
    subst hρ
    exact z_iret C dX12_count_60
  suffices K22_ : ¬ (q12_isIn what_a 3 6 = true) → Z Θ 2 0 0 (zQ Θ ρ) σ1_ 61 [(0, .ref (zA Θ 0)), (1, .int what_a)] [] by
    refine z_iload_n C 1 dX12_count_40 rfl rfl ?_
    refine z_iconst (v := 3) C dX12_count_41 ic_3 ?_
    refine z_bipush (v := 6) C dX12_count_42 bp_6 ?_
    refine cr12_68 (v_a := what_a) (low_a := 3) (high_a := 6) C hkd  ⟨(Nat.le_of_ble_eq_true rfl), (Nat.le_of_ble_eq_true rfl)⟩ (Nat.le_of_ble_eq_true rfl) ⟨Nat.zero_le _, Nat.zero_le _⟩ dX12_count_44 ?_
    refine cb_f C 61 dX12_count_47 (by decide) (fun h23_ => ?_) (fun h23_ => ?_)
    · exact K21_ h23_
    · exact K22_ h23_
  intro h24_
  rw [if_neg h24_] at hf
  refine z_aload_n C 0 dX12_count_61 rfl rfl ?_
  obtain ⟨x27_, h28_, hf⟩ := ob hf
  refine cr12_320 C hkd  h28_ ⟨(Nat.le_of_ble_eq_true rfl), (Nat.le_of_ble_eq_true rfl)⟩ (Nat.le_of_ble_eq_true rfl) ⟨Nat.zero_le _, Nat.zero_le _⟩ dX12_count_62 ?_
  have K29_ : what_a = 7 → Z Θ 2 0 0 (zQ Θ ρ) x27_ 71 [(0, .ref (zA Θ 0)), (1, .int what_a)] [] := by
    intro h32_
    rw [if_pos h32_] at hf
    refine z_aload_n C 0 dX12_count_71 rfl rfl ?_
    refine fg12_263 C hkd dX12_count_72 ?_
    cases hf
    subst hρ
    exact z_iret C dX12_count_75
  suffices K30_ : ¬ (what_a = 7) → Z Θ 2 0 0 (zQ Θ ρ) x27_ 76 [(0, .ref (zA Θ 0)), (1, .int what_a)] [] by
    refine z_iload_n C 1 dX12_count_65 rfl rfl ?_
    refine z_bipush (v := 7) C dX12_count_66 bp_7 ?_
    refine c_eq_f C 76 dX12_count_68 (by decide) (fun h31_ => ?_) (fun h31_ => ?_)
    · exact K29_ h31_
    · exact K30_ h31_
  intro h32_
  rw [if_neg h32_] at hf
  have K33_ : what_a = 8 → Z Θ 2 0 0 (zQ Θ ρ) x27_ 82 [(0, .ref (zA Θ 0)), (1, .int what_a)] [] := by
    intro h36_
    rw [if_pos h36_] at hf
    refine z_aload_n C 0 dX12_count_82 rfl rfl ?_
    refine fg12_269 C hkd dX12_count_83 ?_
    cases hf
    subst hρ
    exact z_iret C dX12_count_86
  suffices K34_ : ¬ (what_a = 8) → Z Θ 2 0 0 (zQ Θ ρ) x27_ 87 [(0, .ref (zA Θ 0)), (1, .int what_a)] [] by
    refine z_iload_n C 1 dX12_count_76 rfl rfl ?_
    refine z_bipush (v := 8) C dX12_count_77 bp_8 ?_
    refine c_eq_f C 87 dX12_count_79 (by decide) (fun h35_ => ?_) (fun h35_ => ?_)
    · exact K33_ h35_
    · exact K34_ h35_
  intro h36_
  rw [if_neg h36_] at hf
  have K37_ : what_a = 9 → Z Θ 2 0 0 (zQ Θ ρ) x27_ 93 [(0, .ref (zA Θ 0)), (1, .int what_a)] [] := by
    intro h40_
    rw [if_pos h40_] at hf
    refine z_aload_n C 0 dX12_count_93 rfl rfl ?_
    refine z_iconst (v := 0) C dX12_count_94 ic_0 ?_
    obtain ⟨x41_, h42_, hf⟩ := ob hf
    refine cr12_359 (what_a := 0) C hkd  h42_ ⟨(Nat.le_of_ble_eq_true rfl), (Nat.le_of_ble_eq_true rfl)⟩ (Nat.le_of_ble_eq_true rfl) ⟨Nat.zero_le _, Nat.zero_le _⟩ dX12_count_95 ?_
    cases hf
    subst hρ
    exact z_iret C dX12_count_98
  suffices K38_ : ¬ (what_a = 9) → Z Θ 2 0 0 (zQ Θ ρ) x27_ 99 [(0, .ref (zA Θ 0)), (1, .int what_a)] [] by
    refine z_iload_n C 1 dX12_count_87 rfl rfl ?_
    refine z_bipush (v := 9) C dX12_count_88 bp_9 ?_
    refine c_eq_f C 99 dX12_count_90 (by decide) (fun h39_ => ?_) (fun h39_ => ?_)
    · exact K37_ h39_
    · exact K38_ h39_
  intro h40_
  rw [if_neg h40_] at hf
  have K43_ : what_a = 10 → Z Θ 2 0 0 (zQ Θ ρ) x27_ 105 [(0, .ref (zA Θ 0)), (1, .int what_a)] [] := by
    intro h46_
    rw [if_pos h46_] at hf
    refine z_aload_n C 0 dX12_count_105 rfl rfl ?_
    refine z_iconst (v := 5) C dX12_count_106 ic_5 ?_
    obtain ⟨x47_, h48_, hf⟩ := ob hf
    refine cr12_359 (what_a := 5) C hkd  h48_ ⟨(Nat.le_of_ble_eq_true rfl), (Nat.le_of_ble_eq_true rfl)⟩ (Nat.le_of_ble_eq_true rfl) ⟨Nat.zero_le _, Nat.zero_le _⟩ dX12_count_107 ?_
    cases hf
    subst hρ
    exact z_iret C dX12_count_110
  suffices K44_ : ¬ (what_a = 10) → Z Θ 2 0 0 (zQ Θ ρ) x27_ 111 [(0, .ref (zA Θ 0)), (1, .int what_a)] [] by
    refine z_iload_n C 1 dX12_count_99 rfl rfl ?_
    refine z_bipush (v := 10) C dX12_count_100 bp_10 ?_
    refine c_eq_f C 111 dX12_count_102 (by decide) (fun h45_ => ?_) (fun h45_ => ?_)
    · exact K43_ h45_
    · exact K44_ h45_
  intro h46_
  rw [if_neg h46_] at hf
  have K49_ : what_a = 11 → Z Θ 2 0 0 (zQ Θ ρ) x27_ 117 [(0, .ref (zA Θ 0)), (1, .int what_a)] [] := by
    intro h52_
    rw [if_pos h52_] at hf
    refine z_aload_n C 0 dX12_count_117 rfl rfl ?_
    refine fg12_7 C hkd dX12_count_118 ?_
    refine z_bipush (v := 8) C dX12_count_121 bp_8 ?_
    obtain ⟨x53_, h54_, hf⟩ := ob hf
    refine z_ag C h54_ (kM_1 hkd) dX12_count_123 ?_
    cases hf
    subst hρ
    exact z_iret C dX12_count_124
  suffices K50_ : ¬ (what_a = 11) → Z Θ 2 0 0 (zQ Θ ρ) x27_ 125 [(0, .ref (zA Θ 0)), (1, .int what_a)] [] by
    refine z_iload_n C 1 dX12_count_111 rfl rfl ?_
    refine z_bipush (v := 11) C dX12_count_112 bp_11 ?_
    refine c_eq_f C 125 dX12_count_114 (by decide) (fun h51_ => ?_) (fun h51_ => ?_)
    · exact K49_ h51_
    · exact K50_ h51_
  intro h52_
  rw [if_neg h52_] at hf
  suffices K55_ : Z Θ 2 0 0 (zQ Θ ρ) x27_ 139 [(0, .ref (zA Θ 0)), (1, .int what_a)] [.int (if what_a = 12 then x27_ 0 6 else (-1))] by
    have K56_ : what_a = 12 → Z Θ 2 0 0 (zQ Θ ρ) x27_ 131 [(0, .ref (zA Θ 0)), (1, .int what_a)] [] := by
      intro h59_
      rw [if_pos h59_] at K55_
      refine z_aload_n C 0 dX12_count_131 rfl rfl ?_
      refine fg12_199 C hkd dX12_count_132 ?_
      refine z_goto C 139 dX12_count_135 (by decide) ?_
      exact K55_
    have K57_ : ¬ (what_a = 12) → Z Θ 2 0 0 (zQ Θ ρ) x27_ 138 [(0, .ref (zA Θ 0)), (1, .int what_a)] [] := by
      intro h59_
      rw [if_neg h59_] at K55_
      refine z_iconst (v := (-1)) C dX12_count_138 ic_m1 ?_
      exact K55_
    refine z_iload_n C 1 dX12_count_125 rfl rfl ?_
    refine z_bipush (v := 12) C dX12_count_126 bp_12 ?_
    refine c_eq_f C 138 dX12_count_128 (by decide) (fun h58_ => ?_) (fun h58_ => ?_)
    · exact K56_ h58_
    · exact K57_ h58_
  cases hf
  subst hρ
  exact z_iret C dX12_count_139
theorem c12_count {l : Launch} {kd : List KD} {w : Wp} {σ : St} {what_a : Int32} (hkd : kd = kdM) (hi : zI kd w) {r : (Int32 × St)} (hf : q12_count σ what_a = some r) : zM l kd w yX12_count cX12_count 2 (some .int) rm12_count [.ref (w.2.2.1 0), .int what_a] σ (some (.int r.1), r.2) := zM_of rfl hi (Nat.le_of_ble_eq_true rfl) (fun Θ hl hw C => by
  obtain ⟨Θ1, Θ2, Θ3, Θ4, Θ5⟩ := Θ
  cases hw
  exact p12_count C hkd  hf rfl)

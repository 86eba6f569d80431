/-! LastLoafModel.odds -/
theorem w_10_203 : Cond.constantLong "LastLoafModel" (450 : Nat) (100 : Int64) ∈ TB := tb_in (lwt_10 (List.mem_of_getElem? (i := 203) (by decide +kernel))) rfl
theorem w_10_204 : Cond.constantLong "LastLoafModel" (452 : Nat) (10000 : Int64) ∈ TB := tb_in (lwt_10 (List.mem_of_getElem? (i := 204) (by decide +kernel))) rfl
theorem dX12_odds_0 : decode cX12_odds 0 = .ok (.aload_n 0, 1) := by decide +kernel
theorem dX12_odds_1 : decode cX12_odds 1 = .ok (.iload_n 1, 1) := by decide +kernel
theorem dX12_odds_2 : decode cX12_odds 2 = .ok (.iconst 0, 1) := by decide +kernel
theorem dX12_odds_3 : decode cX12_odds 3 = .ok (.bipush 6, 2) := by decide +kernel
theorem dX12_odds_5 : decode cX12_odds 5 = .ok (.invokestatic 68, 3) := by decide +kernel
theorem dX12_odds_8 : decode cX12_odds 8 = .ok (.ifCond .eq 13, 3) := by decide +kernel
theorem dX12_odds_11 : decode cX12_odds 11 = .ok (.iload_n 2, 1) := by decide +kernel
theorem dX12_odds_12 : decode cX12_odds 12 = .ok (.iconst 0, 1) := by decide +kernel
theorem dX12_odds_13 : decode cX12_odds 13 = .ok (.bipush 6, 2) := by decide +kernel
theorem dX12_odds_15 : decode cX12_odds 15 = .ok (.invokestatic 68, 3) := by decide +kernel
theorem dX12_odds_18 : decode cX12_odds 18 = .ok (.ifCond .ne 7, 3) := by decide +kernel
theorem dX12_odds_21 : decode cX12_odds 21 = .ok (.iconst 1, 1) := by decide +kernel
theorem dX12_odds_22 : decode cX12_odds 22 = .ok (.goto 4, 3) := by decide +kernel
theorem dX12_odds_25 : decode cX12_odds 25 = .ok (.iconst 0, 1) := by decide +kernel
theorem dX12_odds_26 : decode cX12_odds 26 = .ok (.putfield 65, 3) := by decide +kernel
theorem dX12_odds_29 : decode cX12_odds 29 = .ok (.aload_n 0, 1) := by decide +kernel
theorem dX12_odds_30 : decode cX12_odds 30 = .ok (.getfield 65, 3) := by decide +kernel
theorem dX12_odds_33 : decode cX12_odds 33 = .ok (.ifCond .le 5, 3) := by decide +kernel
theorem dX12_odds_36 : decode cX12_odds 36 = .ok (.iconst 0, 1) := by decide +kernel
theorem dX12_odds_37 : decode cX12_odds 37 = .ok (.ireturn, 1) := by decide +kernel
theorem dX12_odds_38 : decode cX12_odds 38 = .ok (.lconst 0, 1) := by decide +kernel
theorem dX12_odds_39 : decode cX12_odds 39 = .ok (.lstore_n 3, 1) := by decide +kernel
theorem dX12_odds_40 : decode cX12_odds 40 = .ok (.lconst 1, 1) := by decide +kernel
theorem dX12_odds_41 : decode cX12_odds 41 = .ok (.lstore 5, 2) := by decide +kernel
theorem dX12_odds_43 : decode cX12_odds 43 = .ok (.iconst 0, 1) := by decide +kernel
theorem dX12_odds_44 : decode cX12_odds 44 = .ok (.istore 7, 2) := by decide +kernel
theorem dX12_odds_46 : decode cX12_odds 46 = .ok (.iload 7, 2) := by decide +kernel
theorem dX12_odds_48 : decode cX12_odds 48 = .ok (.iload_n 1, 1) := by decide +kernel
theorem dX12_odds_49 : decode cX12_odds 49 = .ok (.if_icmp .ge 17, 3) := by decide +kernel
theorem dX12_odds_52 : decode cX12_odds 52 = .ok (.lload 5, 2) := by decide +kernel
theorem dX12_odds_54 : decode cX12_odds 54 = .ok (.ldc2_w 450, 3) := by decide +kernel
theorem dX12_odds_57 : decode cX12_odds 57 = .ok (.lmul, 1) := by decide +kernel
theorem dX12_odds_58 : decode cX12_odds 58 = .ok (.lstore 5, 2) := by decide +kernel
theorem dX12_odds_60 : decode cX12_odds 60 = .ok (.iinc 7 1, 3) := by decide +kernel
theorem dX12_odds_63 : decode cX12_odds 63 = .ok (.goto (-17), 3) := by decide +kernel
theorem dX12_odds_66 : decode cX12_odds 66 = .ok (.iconst 0, 1) := by decide +kernel
theorem dX12_odds_67 : decode cX12_odds 67 = .ok (.istore 7, 2) := by decide +kernel
theorem dX12_odds_69 : decode cX12_odds 69 = .ok (.iload 7, 2) := by decide +kernel
theorem dX12_odds_71 : decode cX12_odds 71 = .ok (.iconst 1, 1) := by decide +kernel
theorem dX12_odds_72 : decode cX12_odds 72 = .ok (.iload_n 1, 1) := by decide +kernel
theorem dX12_odds_73 : decode cX12_odds 73 = .ok (.ishl, 1) := by decide +kernel
theorem dX12_odds_74 : decode cX12_odds 74 = .ok (.if_icmp .ge 82, 3) := by decide +kernel
theorem dX12_odds_77 : decode cX12_odds 77 = .ok (.iload 7, 2) := by decide +kernel
theorem dX12_odds_79 : decode cX12_odds 79 = .ok (.invokestatic 286, 3) := by decide +kernel
theorem dX12_odds_82 : decode cX12_odds 82 = .ok (.iload_n 2, 1) := by decide +kernel
theorem dX12_odds_83 : decode cX12_odds 83 = .ok (.if_icmp .ge 7, 3) := by decide +kernel
theorem dX12_odds_86 : decode cX12_odds 86 = .ok (.lconst 0, 1) := by decide +kernel
theorem dX12_odds_87 : decode cX12_odds 87 = .ok (.goto 4, 3) := by decide +kernel
theorem dX12_odds_90 : decode cX12_odds 90 = .ok (.lconst 1, 1) := by decide +kernel
theorem dX12_odds_91 : decode cX12_odds 91 = .ok (.lstore 8, 2) := by decide +kernel
theorem dX12_odds_93 : decode cX12_odds 93 = .ok (.iconst 0, 1) := by decide +kernel
theorem dX12_odds_94 : decode cX12_odds 94 = .ok (.istore 10, 2) := by decide +kernel
theorem dX12_odds_96 : decode cX12_odds 96 = .ok (.iload 10, 2) := by decide +kernel
theorem dX12_odds_98 : decode cX12_odds 98 = .ok (.iload_n 1, 1) := by decide +kernel
theorem dX12_odds_99 : decode cX12_odds 99 = .ok (.if_icmp .ge 46, 3) := by decide +kernel
theorem dX12_odds_102 : decode cX12_odds 102 = .ok (.lload 8, 2) := by decide +kernel
theorem dX12_odds_104 : decode cX12_odds 104 = .ok (.iload 7, 2) := by decide +kernel
theorem dX12_odds_106 : decode cX12_odds 106 = .ok (.iload 10, 2) := by decide +kernel
theorem dX12_odds_108 : decode cX12_odds 108 = .ok (.invokestatic 275, 3) := by decide +kernel
theorem dX12_odds_111 : decode cX12_odds 111 = .ok (.ifCond .eq 14, 3) := by decide +kernel
theorem dX12_odds_114 : decode cX12_odds 114 = .ok (.aload_n 0, 1) := by decide +kernel
theorem dX12_odds_115 : decode cX12_odds 115 = .ok (.getfield 7, 3) := by decide +kernel
theorem dX12_odds_118 : decode cX12_odds 118 = .ok (.bipush 7, 2) := by decide +kernel
theorem dX12_odds_120 : decode cX12_odds 120 = .ok (.iaload, 1) := by decide +kernel
theorem dX12_odds_121 : decode cX12_odds 121 = .ok (.i2l, 1) := by decide +kernel
theorem dX12_odds_122 : decode cX12_odds 122 = .ok (.goto 14, 3) := by decide +kernel
theorem dX12_odds_125 : decode cX12_odds 125 = .ok (.bipush 100, 2) := by decide +kernel
theorem dX12_odds_127 : decode cX12_odds 127 = .ok (.aload_n 0, 1) := by decide +kernel
theorem dX12_odds_128 : decode cX12_odds 128 = .ok (.getfield 7, 3) := by decide +kernel
theorem dX12_odds_131 : decode cX12_odds 131 = .ok (.bipush 7, 2) := by decide +kernel
theorem dX12_odds_133 : decode cX12_odds 133 = .ok (.iaload, 1) := by decide +kernel
theorem dX12_odds_134 : decode cX12_odds 134 = .ok (.isub, 1) := by decide +kernel
theorem dX12_odds_135 : decode cX12_odds 135 = .ok (.i2l, 1) := by decide +kernel
theorem dX12_odds_136 : decode cX12_odds 136 = .ok (.lmul, 1) := by decide +kernel
theorem dX12_odds_137 : decode cX12_odds 137 = .ok (.lstore 8, 2) := by decide +kernel
theorem dX12_odds_139 : decode cX12_odds 139 = .ok (.iinc 10 1, 3) := by decide +kernel
theorem dX12_odds_142 : decode cX12_odds 142 = .ok (.goto (-46), 3) := by decide +kernel
theorem dX12_odds_145 : decode cX12_odds 145 = .ok (.lload_n 3, 1) := by decide +kernel
theorem dX12_odds_146 : decode cX12_odds 146 = .ok (.lload 8, 2) := by decide +kernel
theorem dX12_odds_148 : decode cX12_odds 148 = .ok (.ladd, 1) := by decide +kernel
theorem dX12_odds_149 : decode cX12_odds 149 = .ok (.lstore_n 3, 1) := by decide +kernel
theorem dX12_odds_150 : decode cX12_odds 150 = .ok (.iinc 7 1, 3) := by decide +kernel
theorem dX12_odds_153 : decode cX12_odds 153 = .ok (.goto (-84), 3) := by decide +kernel
theorem dX12_odds_156 : decode cX12_odds 156 = .ok (.ldc2_w 452, 3) := by decide +kernel
theorem dX12_odds_159 : decode cX12_odds 159 = .ok (.lload_n 3, 1) := by decide +kernel
theorem dX12_odds_160 : decode cX12_odds 160 = .ok (.lmul, 1) := by decide +kernel
theorem dX12_odds_161 : decode cX12_odds 161 = .ok (.lload 5, 2) := by decide +kernel
theorem dX12_odds_163 : decode cX12_odds 163 = .ok (.ldiv, 1) := by decide +kernel
theorem dX12_odds_164 : decode cX12_odds 164 = .ok (.l2i, 1) := by decide +kernel
theorem dX12_odds_165 : decode cX12_odds 165 = .ok (.ireturn, 1) := by decide +kernel
def q12_odds (σ : St) (n_a : Int32) (k_a : Int32) : Option (Int32 × St) :=
  lt (up σ 0 0 (if (¬ (q12_isIn n_a 0 6 = true)) ∨ (¬ (q12_isIn k_a 0 6 = true)) then 1 else 0)) fun σ7_ =>
  if 0 < (σ7_ 0 0) then (some (0, σ7_)) else
  Option.bind (loop2 (fun rec16_ (whole19_ : Int64) (i20_ : Int32) =>
  if i20_ < n_a then
  lt (whole19_ * 100) fun whole27_ =>
  lt (i20_ + 1) fun i29_ =>
  rec16_ whole27_ i29_
  else (some (whole19_, i20_))) fuelN (1 : Int64) (0 : Int32)) fun y13_ =>
  Option.bind (loop2 (fun rec34_ (some37_ : Int64) (set38_ : Int32) =>
  if set38_ < (shl 1 n_a) then
  Option.bind (Option.bind (q12_bits set38_) fun x50_ =>
  if x50_ < k_a then (some (0 : Int64)) else (some (1 : Int64))) fun x45_ =>
  Option.bind (loop2 (fun rec57_ (odds60_ : Int64) (i61_ : Int32) =>
  if i61_ < n_a then
  Option.bind (if q12_isOf set38_ i61_ = true then (Option.bind (ag σ7_ 1 752 7) fun x74_ =>
  some x74_.toInt64) else (Option.bind (ag σ7_ 1 752 7) fun x76_ =>
  some ((100 - x76_).toInt64))) fun x68_ =>
  lt (odds60_ * x68_) fun odds79_ =>
  lt (i61_ + 1) fun i81_ =>
  rec57_ odds79_ i81_
  else (some (odds60_, i61_))) fuelN x45_ (0 : Int32)) fun y54_ =>
  lt (some37_ + y54_.1) fun some83_ =>
  lt (set38_ + 1) fun set85_ =>
  rec34_ some83_ set85_
  else (some (some37_, set38_))) fuelN (0 : Int64) (0 : Int32)) fun y31_ =>
  Option.bind (dvl (10000 * y31_.1) y13_.1) fun x87_ =>
  some (x87_.toInt32, σ7_)
abbrev rm12_odds : Room := { frames := 1, cells := 0, slots := 0, locals := 22 }
set_option maxHeartbeats 4000000 in
set_option maxRecDepth 100000 in
theorem p12_odds {Θ : Tz} {σ : St} {ρ : Option Value × St} (C : Zc Θ cX12_odds 11 RX12 (some .int) rm12_odds) (hkd : Θ.2.2.2.2.1 = kdM) {n_a : Int32} {k_a : Int32} {r : (Int32 × St)} (hf : q12_odds σ n_a k_a = some r) (hρ : ρ = (some (.int r.1), r.2)) : Z Θ 11 0 0 (zQ Θ ρ) σ 0 [(0, .ref (zA Θ 0)), (1, .int n_a), (2, .int k_a)] [] := by
  unfold q12_odds at hf
  refine z_aload_n C 0 dX12_odds_0 rfl rfl ?_
  suffices K1_ : Z Θ 11 0 0 (zQ Θ ρ) σ 26 [(0, .ref (zA Θ 0)), (1, .int n_a), (2, .int k_a)] [.int (if (¬ (q12_isIn n_a 0 6 = true)) ∨ (¬ (q12_isIn k_a 0 6 = true)) then 1 else 0), .ref (zA Θ 0)] by
    have K2_ : (¬ (q12_isIn n_a 0 6 = true)) ∨ (¬ (q12_isIn k_a 0 6 = true)) → Z Θ 11 0 0 (zQ Θ ρ) σ 21 [(0, .ref (zA Θ 0)), (1, .int n_a), (2, .int k_a)] [.ref (zA Θ 0)] := by
      intro h6_
      rw [if_pos h6_] at K1_
      refine z_iconst (v := 1) C dX12_odds_21 ic_1 ?_
      refine z_goto C 26 dX12_odds_22 (by decide) ?_
      exact K1_
    have K3_ : ¬ ((¬ (q12_isIn n_a 0 6 = true)) ∨ (¬ (q12_isIn k_a 0 6 = true))) → Z Θ 11 0 0 (zQ Θ ρ) σ 25 [(0, .ref (zA Θ 0)), (1, .int n_a), (2, .int k_a)] [.ref (zA Θ 0)] := by
      intro h6_
      rw [if_neg h6_] at K1_
      refine z_iconst (v := 0) C dX12_odds_25 ic_0 ?_
      exact K1_
    refine z_iload_n C 1 dX12_odds_1 rfl rfl ?_
    refine z_iconst (v := 0) C dX12_odds_2 ic_0 ?_
    refine z_bipush (v := 6) C dX12_odds_3 bp_6 ?_
    refine cr12_68 (v_a := n_a) (low_a := 0) (high_a := 6) C hkd  ⟨(Nat.le_of_ble_eq_true rfl), (Nat.le_of_ble_eq_true rfl)⟩ (Nat.le_of_ble_eq_true rfl) ⟨Nat.zero_le _, Nat.zero_le _⟩ dX12_odds_5 ?_
    refine cb_f C 21 dX12_odds_8 (by decide) (fun h4_ => ?_) (fun h4_ => ?_)
    · refine z_iload_n C 2 dX12_odds_11 rfl rfl ?_
      refine z_iconst (v := 0) C dX12_odds_12 ic_0 ?_
      refine z_bipush (v := 6) C dX12_odds_13 bp_6 ?_
      refine cr12_68 (v_a := k_a) (low_a := 0) (high_a := 6) C hkd  ⟨(Nat.le_of_ble_eq_true rfl), (Nat.le_of_ble_eq_true rfl)⟩ (Nat.le_of_ble_eq_true rfl) ⟨Nat.zero_le _, Nat.zero_le _⟩ dX12_odds_15 ?_
      refine cb_t C 25 dX12_odds_18 (by decide) (fun h5_ => ?_) (fun h5_ => ?_)
      · exact K3_ (fun n => n.elim (fun n => n h4_) (fun n => n h5_))
      · exact K2_ (Or.inr h5_)
    · exact K2_ (Or.inl h4_)
  obtain ⟨σ7_, h8_, hf⟩ := lt_ hf
  refine fp12_65 C hkd h8_ dX12_odds_26 ?_
  have K9_ : 0 < (σ7_ 0 0) → Z Θ 11 0 0 (zQ Θ ρ) σ7_ 36 [(0, .ref (zA Θ 0)), (1, .int n_a), (2, .int k_a)] [] := by
    intro h12_
    rw [if_pos h12_] at hf
    refine z_iconst (v := 0) C dX12_odds_36 ic_0 ?_
    cases hf
    subst hρ
    exact z_iret C dX12_odds_37
  suffices K10_ : ¬ (0 < (σ7_ 0 0)) → Z Θ 11 0 0 (zQ Θ ρ) σ7_ 38 [(0, .ref (zA Θ 0)), (1, .int n_a), (2, .int k_a)] [] by
    refine z_aload_n C 0 dX12_odds_29 rfl rfl ?_
    refine fg12_65 C hkd dX12_odds_30 ?_
    refine c0_gt_f C 38 dX12_odds_33 (by decide) (fun h11_ => ?_) (fun h11_ => ?_)
    · exact K9_ h11_
    · exact K10_ h11_
  intro h12_
  rw [if_neg h12_] at hf
  refine z_lconst (v := 0) C dX12_odds_38 (by decide +kernel) ?_
  refine z_lstN C dX12_odds_39 rfl rfl (Nat.le_of_ble_eq_true rfl) rfl ?_
  refine z_lconst (v := 1) C dX12_odds_40 (by decide +kernel) ?_
  refine z_lst C dX12_odds_41 rfl (Nat.le_of_ble_eq_true rfl) rfl ?_
  refine z_iconst (v := 0) C dX12_odds_43 ic_0 ?_
  refine z_ist C dX12_odds_44 rfl (Nat.le_of_ble_eq_true rfl) rfl ?_
  refine Z.sub [3, 4, 5, 2, 1, 0] rfl ?_
  obtain ⟨y13_, h14_, hf⟩ := ob hf
  suffices K15_ : Z Θ 11 0 0 (zQ Θ ρ) σ7_ 66 [(0, .ref (zA Θ 0)), (1, .int n_a), (2, .int k_a), (3, .long 0), (5, .long y13_.1), (7, .int y13_.2)] [] by
    refine loop2_Z (P := fun (whole19_ : Int64) (i20_ : Int32) => Z Θ 11 0 0 (zQ Θ ρ) σ7_ 46 [(0, .ref (zA Θ 0)), (1, .int n_a), (2, .int k_a), (3, .long 0), (5, .long whole19_), (7, .int i20_)] []) ?_ fuelN (1 : Int64) (0 : Int32) h14_
    clear h14_
    intro rec16_ whole19_ i20_ h17_ h18_
    have K23_ : i20_ < n_a → Z Θ 11 0 0 (zQ Θ ρ) σ7_ 52 [(0, .ref (zA Θ 0)), (1, .int n_a), (2, .int k_a), (3, .long 0), (5, .long whole19_), (7, .int i20_)] [] := by
      intro h26_
      rw [if_pos h26_] at h18_
      refine z_lload C 4 dX12_odds_52 rfl ?_
      refine z_ldc2 (v := 100) C w_10_203 dX12_odds_54 ?_
      refine z_lmul C dX12_odds_57 ?_
      obtain ⟨whole27_, h28_, h18_⟩ := lt_ h18_
      refine z_lst C dX12_odds_58 h28_ (Nat.le_of_ble_eq_true rfl) rfl ?_
      obtain ⟨i29_, h30_, h18_⟩ := lt_ h18_
      refine z_inc C 5 dX12_odds_60 rfl ic_1 h30_ (Nat.le_of_ble_eq_true rfl) rfl ?_
      refine z_goto C 46 dX12_odds_63 (by decide) ?_
      refine Z.sub [2, 3, 4, 5, 1, 0] rfl ?_
      exact h17_ _ _ h18_
    have K24_ : ¬ (i20_ < n_a) → Z Θ 11 0 0 (zQ Θ ρ) σ7_ 66 [(0, .ref (zA Θ 0)), (1, .int n_a), (2, .int k_a), (3, .long 0), (5, .long whole19_), (7, .int i20_)] [] := by
      intro h26_
      rw [if_neg h26_] at h18_
      cases h18_
      exact K15_
    refine z_iload C 5 dX12_odds_46 rfl ?_
    refine z_iload_n C 1 dX12_odds_48 rfl rfl ?_
    refine c_lt_f C 66 dX12_odds_49 (by decide) (fun h25_ => ?_) (fun h25_ => ?_)
    · exact K23_ h25_
    · exact K24_ h25_
  refine z_iconst (v := 0) C dX12_odds_66 ic_0 ?_
  refine z_ist C dX12_odds_67 rfl (Nat.le_of_ble_eq_true rfl) rfl ?_
  refine Z.sub [1, 2, 3, 4, 5, 0] rfl ?_
  obtain ⟨y31_, h32_, hf⟩ := ob hf
  suffices K33_ : Z Θ 11 0 0 (zQ Θ ρ) σ7_ 156 [(0, .ref (zA Θ 0)), (1, .int n_a), (2, .int k_a), (3, .long y31_.1), (5, .long y13_.1), (7, .int y31_.2)] [] by
    refine loop2_Z (P := fun (some37_ : Int64) (set38_ : Int32) => Z Θ 11 0 0 (zQ Θ ρ) σ7_ 69 [(0, .ref (zA Θ 0)), (1, .int n_a), (2, .int k_a), (3, .long some37_), (5, .long y13_.1), (7, .int set38_)] []) ?_ fuelN (0 : Int64) (0 : Int32) h32_
    clear h32_
    intro rec34_ some37_ set38_ h35_ h36_
    have K41_ : set38_ < (shl 1 n_a) → Z Θ 11 0 0 (zQ Θ ρ) σ7_ 77 [(0, .ref (zA Θ 0)), (1, .int n_a), (2, .int k_a), (3, .long some37_), (5, .long y13_.1), (7, .int set38_)] [] := by
      intro h44_
      rw [if_pos h44_] at h36_
      obtain ⟨x45_, h46_, h36_⟩ := ob h36_
      suffices K47_ : Z Θ 11 0 0 (zQ Θ ρ) σ7_ 91 [(0, .ref (zA Θ 0)), (1, .int n_a), (2, .int k_a), (3, .long some37_), (5, .long y13_.1), (7, .int set38_)] [.long x45_] by
        refine z_iload C 5 dX12_odds_77 rfl ?_
        obtain ⟨x50_, h51_, h46_⟩ := ob h46_
        refine cr12_286 (set_a := set38_) C hkd  h51_ ⟨(Nat.le_of_ble_eq_true rfl), (Nat.le_of_ble_eq_true rfl)⟩ (Nat.le_of_ble_eq_true rfl) ⟨Nat.zero_le _, Nat.zero_le _⟩ dX12_odds_79 ?_
        refine z_iload_n C 2 dX12_odds_82 rfl rfl ?_
        have K48_ : x50_ < k_a → Z Θ 11 0 0 (zQ Θ ρ) σ7_ 86 [(0, .ref (zA Θ 0)), (1, .int n_a), (2, .int k_a), (3, .long some37_), (5, .long y13_.1), (7, .int set38_)] [] := by
          intro h53_
          rw [if_pos h53_] at h46_
          refine z_lconst (v := 0) C dX12_odds_86 (by decide +kernel) ?_
          refine z_goto C 91 dX12_odds_87 (by decide) ?_
          cases h46_
          exact K47_
        have K49_ : ¬ (x50_ < k_a) → Z Θ 11 0 0 (zQ Θ ρ) σ7_ 90 [(0, .ref (zA Θ 0)), (1, .int n_a), (2, .int k_a), (3, .long some37_), (5, .long y13_.1), (7, .int set38_)] [] := by
          intro h53_
          rw [if_neg h53_] at h46_
          refine z_lconst (v := 1) C dX12_odds_90 (by decide +kernel) ?_
          cases h46_
          exact K47_
        refine c_lt_f C 90 dX12_odds_83 (by decide) (fun h52_ => ?_) (fun h52_ => ?_)
        · exact K48_ h52_
        · exact K49_ h52_
      refine z_lst C dX12_odds_91 rfl (Nat.le_of_ble_eq_true rfl) rfl ?_
      refine z_iconst (v := 0) C dX12_odds_93 ic_0 ?_
      refine z_ist C dX12_odds_94 rfl (Nat.le_of_ble_eq_true rfl) rfl ?_
      refine Z.sub [2, 3, 4, 5, 6, 7, 1, 0] rfl ?_
      obtain ⟨y54_, h55_, h36_⟩ := ob h36_
      suffices K56_ : Z Θ 11 0 0 (zQ Θ ρ) σ7_ 145 [(0, .ref (zA Θ 0)), (1, .int n_a), (2, .int k_a), (3, .long some37_), (5, .long y13_.1), (7, .int set38_), (8, .long y54_.1), (10, .int y54_.2)] [] by
        refine loop2_Z (P := fun (odds60_ : Int64) (i61_ : Int32) => Z Θ 11 0 0 (zQ Θ ρ) σ7_ 96 [(0, .ref (zA Θ 0)), (1, .int n_a), (2, .int k_a), (3, .long some37_), (5, .long y13_.1), (7, .int set38_), (8, .long odds60_), (10, .int i61_)] []) ?_ fuelN x45_ (0 : Int32) h55_
        clear h55_
        intro rec57_ odds60_ i61_ h58_ h59_
        have K64_ : i61_ < n_a → Z Θ 11 0 0 (zQ Θ ρ) σ7_ 102 [(0, .ref (zA Θ 0)), (1, .int n_a), (2, .int k_a), (3, .long some37_), (5, .long y13_.1), (7, .int set38_), (8, .long odds60_), (10, .int i61_)] [] := by
          intro h67_
          rw [if_pos h67_] at h59_
          refine z_lload C 6 dX12_odds_102 rfl ?_
          obtain ⟨x68_, h69_, h59_⟩ := ob h59_
          suffices K70_ : Z Θ 11 0 0 (zQ Θ ρ) σ7_ 136 [(0, .ref (zA Θ 0)), (1, .int n_a), (2, .int k_a), (3, .long some37_), (5, .long y13_.1), (7, .int set38_), (8, .long odds60_), (10, .int i61_)] [.long x68_, .long odds60_] by
            have K71_ : q12_isOf set38_ i61_ = true → Z Θ 11 0 0 (zQ Θ ρ) σ7_ 114 [(0, .ref (zA Θ 0)), (1, .int n_a), (2, .int k_a), (3, .long some37_), (5, .long y13_.1), (7, .int set38_), (8, .long odds60_), (10, .int i61_)] [.long odds60_] := by
              intro h78_
              rw [if_pos h78_] at h69_
              refine z_aload_n C 0 dX12_odds_114 rfl rfl ?_
              refine fg12_7 C hkd dX12_odds_115 ?_
              refine z_bipush (v := 7) C dX12_odds_118 bp_7 ?_
              obtain ⟨x74_, h75_, h69_⟩ := ob h69_
              refine z_ag C h75_ (kM_1 hkd) dX12_odds_120 ?_
              refine z_i2l C dX12_odds_121 ?_
              refine z_goto C 136 dX12_odds_122 (by decide) ?_
              cases h69_
              exact K70_
            have K72_ : ¬ (q12_isOf set38_ i61_ = true) → Z Θ 11 0 0 (zQ Θ ρ) σ7_ 125 [(0, .ref (zA Θ 0)), (1, .int n_a), (2, .int k_a), (3, .long some37_), (5, .long y13_.1), (7, .int set38_), (8, .long odds60_), (10, .int i61_)] [.long odds60_] := by
              intro h78_
              rw [if_neg h78_] at h69_
              refine z_bipush (v := 100) C dX12_odds_125 bp_100 ?_
              refine z_aload_n C 0 dX12_odds_127 rfl rfl ?_
              refine fg12_7 C hkd dX12_odds_128 ?_
              refine z_bipush (v := 7) C dX12_odds_131 bp_7 ?_
              obtain ⟨x76_, h77_, h69_⟩ := ob h69_
              refine z_ag C h77_ (kM_1 hkd) dX12_odds_133 ?_
              refine z_isub C dX12_odds_134 ?_
              refine z_i2l C dX12_odds_135 ?_
              cases h69_
              exact K70_
            refine z_iload C 5 dX12_odds_104 rfl ?_
            refine z_iload C 7 dX12_odds_106 rfl ?_
            refine cr12_275 (set_a := set38_) (k_a := i61_) C hkd  ⟨(Nat.le_of_ble_eq_true rfl), (Nat.le_of_ble_eq_true rfl)⟩ (Nat.le_of_ble_eq_true rfl) ⟨Nat.zero_le _, Nat.zero_le _⟩ dX12_odds_108 ?_
            refine cb_f C 125 dX12_odds_111 (by decide) (fun h73_ => ?_) (fun h73_ => ?_)
            · exact K71_ h73_
            · exact K72_ h73_
          refine z_lmul C dX12_odds_136 ?_
          obtain ⟨odds79_, h80_, h59_⟩ := lt_ h59_
          refine z_lst C dX12_odds_137 h80_ (Nat.le_of_ble_eq_true rfl) rfl ?_
          obtain ⟨i81_, h82_, h59_⟩ := lt_ h59_
          refine z_inc C 7 dX12_odds_139 rfl ic_1 h82_ (Nat.le_of_ble_eq_true rfl) rfl ?_
          refine z_goto C 96 dX12_odds_142 (by decide) ?_
          refine Z.sub [2, 3, 4, 5, 6, 7, 1, 0] rfl ?_
          exact h58_ _ _ h59_
        have K65_ : ¬ (i61_ < n_a) → Z Θ 11 0 0 (zQ Θ ρ) σ7_ 145 [(0, .ref (zA Θ 0)), (1, .int n_a), (2, .int k_a), (3, .long some37_), (5, .long y13_.1), (7, .int set38_), (8, .long odds60_), (10, .int i61_)] [] := by
          intro h67_
          rw [if_neg h67_] at h59_
          cases h59_
          exact K56_
        refine z_iload C 7 dX12_odds_96 rfl ?_
        refine z_iload_n C 1 dX12_odds_98 rfl rfl ?_
        refine c_lt_f C 145 dX12_odds_99 (by decide) (fun h66_ => ?_) (fun h66_ => ?_)
        · exact K64_ h66_
        · exact K65_ h66_
      refine z_lload_n C 3 dX12_odds_145 rfl rfl ?_
      refine z_lload C 6 dX12_odds_146 rfl ?_
      refine z_ladd C dX12_odds_148 ?_
      obtain ⟨some83_, h84_, h36_⟩ := lt_ h36_
      refine z_lstN C dX12_odds_149 h84_ rfl (Nat.le_of_ble_eq_true rfl) rfl ?_
      obtain ⟨set85_, h86_, h36_⟩ := lt_ h36_
      refine z_inc C 5 dX12_odds_150 rfl ic_1 h86_ (Nat.le_of_ble_eq_true rfl) rfl ?_
      refine z_goto C 69 dX12_odds_153 (by decide) ?_
      refine Z.sub [2, 3, 4, 1, 5, 0] rfl ?_
      exact h35_ _ _ h36_
    have K42_ : ¬ (set38_ < (shl 1 n_a)) → Z Θ 11 0 0 (zQ Θ ρ) σ7_ 156 [(0, .ref (zA Θ 0)), (1, .int n_a), (2, .int k_a), (3, .long some37_), (5, .long y13_.1), (7, .int set38_)] [] := by
      intro h44_
      rw [if_neg h44_] at h36_
      cases h36_
      exact K33_
    refine z_iload C 5 dX12_odds_69 rfl ?_
    refine z_iconst (v := 1) C dX12_odds_71 ic_1 ?_
    refine z_iload_n C 1 dX12_odds_72 rfl rfl ?_
    refine z_shl C dX12_odds_73 ?_
    refine c_lt_f C 156 dX12_odds_74 (by decide) (fun h43_ => ?_) (fun h43_ => ?_)
    · exact K41_ h43_
    · exact K42_ h43_
  refine z_ldc2 (v := 10000) C w_10_204 dX12_odds_156 ?_
  refine z_lload_n C 3 dX12_odds_159 rfl rfl ?_
  refine z_lmul C dX12_odds_160 ?_
  refine z_lload C 4 dX12_odds_161 rfl ?_
  obtain ⟨x87_, h88_, hf⟩ := ob hf
  refine z_dvl C h88_ dX12_odds_163 ?_
  refine z_l2i C dX12_odds_164 ?_
  cases hf
  subst hρ
  exact z_iret C dX12_odds_165
theorem c12_odds {l : Launch} {kd : List KD} {w : Wp} {σ : St} {n_a : Int32} {k_a : Int32} (hkd : kd = kdM) (hi : zI kd w) {r : (Int32 × St)} (hf : q12_odds σ n_a k_a = some r) : zM l kd w yX12_odds cX12_odds 11 (some .int) rm12_odds [.ref (w.2.2.1 0), .int n_a, .int k_a] σ (some (.int r.1), r.2) := zM_of rfl hi (Nat.le_of_ble_eq_true rfl) (fun Θ hl hw C => by
  obtain ⟨Θ1, Θ2, Θ3, Θ4, Θ5⟩ := Θ
  cases hw
  exact p12_odds C hkd  hf rfl)
/-! LastLoafModel.hungriest -/
theorem dX12_hungriest_0 : decode cX12_hungriest 0 = .ok (.aload_n 0, 1) := by decide +kernel
theorem dX12_hungriest_1 : decode cX12_hungriest 1 = .ok (.iconst 0, 1) := by decide +kernel
theorem dX12_hungriest_2 : decode cX12_hungriest 2 = .ok (.putfield 65, 3) := by decide +kernel
theorem dX12_hungriest_5 : decode cX12_hungriest 5 = .ok (.iconst (-1), 1) := by decide +kernel
theorem dX12_hungriest_6 : decode cX12_hungriest 6 = .ok (.istore_n 1, 1) := by decide +kernel
theorem dX12_hungriest_7 : decode cX12_hungriest 7 = .ok (.iconst 0, 1) := by decide +kernel
theorem dX12_hungriest_8 : decode cX12_hungriest 8 = .ok (.istore_n 2, 1) := by decide +kernel
theorem dX12_hungriest_9 : decode cX12_hungriest 9 = .ok (.iload_n 2, 1) := by decide +kernel
theorem dX12_hungriest_10 : decode cX12_hungriest 10 = .ok (.aload_n 0, 1) := by decide +kernel
theorem dX12_hungriest_11 : decode cX12_hungriest 11 = .ok (.getfield 7, 3) := by decide +kernel
theorem dX12_hungriest_14 : decode cX12_hungriest 14 = .ok (.iconst 3, 1) := by decide +kernel
theorem dX12_hungriest_15 : decode cX12_hungriest 15 = .ok (.iaload, 1) := by decide +kernel
theorem dX12_hungriest_16 : decode cX12_hungriest 16 = .ok (.if_icmp .ge 40, 3) := by decide +kernel
theorem dX12_hungriest_19 : decode cX12_hungriest 19 = .ok (.aload_n 0, 1) := by decide +kernel
theorem dX12_hungriest_20 : decode cX12_hungriest 20 = .ok (.iload_n 2, 1) := by decide +kernel
theorem dX12_hungriest_21 : decode cX12_hungriest 21 = .ok (.iconst 4, 1) := by decide +kernel
theorem dX12_hungriest_22 : decode cX12_hungriest 22 = .ok (.invokevirtual 72, 3) := by decide +kernel
theorem dX12_hungriest_25 : decode cX12_hungriest 25 = .ok (.ifCond .ne 25, 3) := by decide +kernel
theorem dX12_hungriest_28 : decode cX12_hungriest 28 = .ok (.iload_n 1, 1) := by decide +kernel
theorem dX12_hungriest_29 : decode cX12_hungriest 29 = .ok (.iconst (-1), 1) := by decide +kernel
theorem dX12_hungriest_30 : decode cX12_hungriest 30 = .ok (.if_icmp .eq 18, 3) := by decide +kernel
theorem dX12_hungriest_33 : decode cX12_hungriest 33 = .ok (.aload_n 0, 1) := by decide +kernel
theorem dX12_hungriest_34 : decode cX12_hungriest 34 = .ok (.iload_n 2, 1) := by decide +kernel
theorem dX12_hungriest_35 : decode cX12_hungriest 35 = .ok (.iconst 0, 1) := by decide +kernel
theorem dX12_hungriest_36 : decode cX12_hungriest 36 = .ok (.invokevirtual 72, 3) := by decide +kernel
theorem dX12_hungriest_39 : decode cX12_hungriest 39 = .ok (.aload_n 0, 1) := by decide +kernel
theorem dX12_hungriest_40 : decode cX12_hungriest 40 = .ok (.iload_n 1, 1) := by decide +kernel
theorem dX12_hungriest_41 : decode cX12_hungriest 41 = .ok (.iconst 0, 1) := by decide +kernel
theorem dX12_hungriest_42 : decode cX12_hungriest 42 = .ok (.invokevirtual 72, 3) := by decide +kernel
theorem dX12_hungriest_45 : decode cX12_hungriest 45 = .ok (.if_icmp .le 5, 3) := by decide +kernel
theorem dX12_hungriest_48 : decode cX12_hungriest 48 = .ok (.iload_n 2, 1) := by decide +kernel
theorem dX12_hungriest_49 : decode cX12_hungriest 49 = .ok (.istore_n 1, 1) := by decide +kernel
theorem dX12_hungriest_50 : decode cX12_hungriest 50 = .ok (.iinc 2 1, 3) := by decide +kernel
theorem dX12_hungriest_53 : decode cX12_hungriest 53 = .ok (.goto (-44), 3) := by decide +kernel
theorem dX12_hungriest_56 : decode cX12_hungriest 56 = .ok (.iload_n 1, 1) := by decide +kernel
theorem dX12_hungriest_57 : decode cX12_hungriest 57 = .ok (.ireturn, 1) := by decide +kernel
def q12_hungriest (σ : St) : Option (Int32 × St) :=
  lt (up σ 0 0 0) fun σ1_ =>
  Option.bind (loop2 (fun rec6_ (found9_ : Int32) (p10_ : Int32) =>
  Option.bind (ag σ1_ 1 752 3) fun x15_ =>
  if p10_ < x15_ then
  Option.bind (Option.bind (Option.bind (q12_of σ1_ p10_ 4) fun x26_ =>
  if x26_ = 0 then (if found9_ = (-1) then (some true) else (Option.bind (q12_of σ1_ p10_ 0) fun x30_ =>
  Option.bind (q12_of σ1_ found9_ 0) fun x32_ =>
  if x32_ < x30_ then (some true) else (some false))) else (some false)) fun t24_ =>
  if t24_ = true then (some (p10_)) else (some (found9_))) fun y19_ =>
  lt (p10_ + 1) fun p36_ =>
  rec6_ y19_ p36_
  else (some (found9_, p10_))) fuelN (-1 : Int32) (0 : Int32)) fun y3_ =>
  some (y3_.1, σ1_)
abbrev rm12_hungriest : Room := { frames := 1, cells := 0, slots := 0, locals := 22 }
set_option maxHeartbeats 4000000 in
set_option maxRecDepth 100000 in
theorem p12_hungriest {Θ : Tz} {σ : St} {ρ : Option Value × St} (C : Zc Θ cX12_hungriest 3 RX12 (some .int) rm12_hungriest) (hkd : Θ.2.2.2.2.1 = kdM) {r : (Int32 × St)} (hf : q12_hungriest σ = some r) (hρ : ρ = (some (.int r.1), r.2)) : Z Θ 3 0 0 (zQ Θ ρ) σ 0 [(0, .ref (zA Θ 0))] [] := by
  unfold q12_hungriest at hf
  refine z_aload_n C 0 dX12_hungriest_0 rfl rfl ?_
  refine z_iconst (v := 0) C dX12_hungriest_1 ic_0 ?_
  obtain ⟨σ1_, h2_, hf⟩ := lt_ hf
  refine fp12_65 C hkd h2_ dX12_hungriest_2 ?_
  refine z_iconst (v := (-1)) C dX12_hungriest_5 ic_m1 ?_
  refine z_istN C dX12_hungriest_6 rfl rfl (Nat.le_of_ble_eq_true rfl) rfl ?_
  refine z_iconst (v := 0) C dX12_hungriest_7 ic_0 ?_
  refine z_istN C dX12_hungriest_8 rfl rfl (Nat.le_of_ble_eq_true rfl) rfl ?_
  refine Z.sub [2, 1, 0] rfl ?_
  obtain ⟨y3_, h4_, hf⟩ := ob hf
  suffices K5_ : Z Θ 3 0 0 (zQ Θ ρ) σ1_ 56 [(0, .ref (zA Θ 0)), (1, .int y3_.1), (2, .int y3_.2)] [] by
    refine loop2_Z (P := fun (found9_ : Int32) (p10_ : Int32) => Z Θ 3 0 0 (zQ Θ ρ) σ1_ 9 [(0, .ref (zA Θ 0)), (1, .int found9_), (2, .int p10_)] []) ?_ fuelN (-1 : Int32) (0 : Int32) h4_
    clear h4_
    intro rec6_ found9_ p10_ h7_ h8_
    refine z_iload_n C 2 dX12_hungriest_9 rfl rfl ?_
    refine z_aload_n C 0 dX12_hungriest_10 rfl rfl ?_
    refine fg12_7 C hkd dX12_hungriest_11 ?_
    refine z_iconst (v := 3) C dX12_hungriest_14 ic_3 ?_
    obtain ⟨x15_, h16_, h8_⟩ := ob h8_
    refine z_ag C h16_ (kM_1 hkd) dX12_hungriest_15 ?_
    have K13_ : p10_ < x15_ → Z Θ 3 0 0 (zQ Θ ρ) σ1_ 19 [(0, .ref (zA Θ 0)), (1, .int found9_), (2, .int p10_)] [] := by
      intro h18_
      rw [if_pos h18_] at h8_
      obtain ⟨y19_, h20_, h8_⟩ := ob h8_
      suffices K21_ : Z Θ 3 0 0 (zQ Θ ρ) σ1_ 50 [(0, .ref (zA Θ 0)), (1, .int y19_), (2, .int p10_)] [] by
        obtain ⟨t24_, h25_, h20_⟩ := ob h20_
        have K22_ : t24_ = true → Z Θ 3 0 0 (zQ Θ ρ) σ1_ 48 [(0, .ref (zA Θ 0)), (1, .int found9_), (2, .int p10_)] [] := by
          intro h35_
          rw [if_pos h35_] at h20_
          refine z_iload_n C 2 dX12_hungriest_48 rfl rfl ?_
          refine z_istN C dX12_hungriest_49 rfl rfl (Nat.le_of_ble_eq_true rfl) rfl ?_
          cases h20_
          refine Z.sub [1, 0, 2] rfl ?_
          exact K21_
        have K23_ : ¬ (t24_ = true) → Z Θ 3 0 0 (zQ Θ ρ) σ1_ 50 [(0, .ref (zA Θ 0)), (1, .int found9_), (2, .int p10_)] [] := by
          intro h35_
          rw [if_neg h35_] at h20_
          cases h20_
          exact K21_
        refine z_aload_n C 0 dX12_hungriest_19 rfl rfl ?_
        refine z_iload_n C 2 dX12_hungriest_20 rfl rfl ?_
        refine z_iconst (v := 4) C dX12_hungriest_21 ic_4 ?_
        obtain ⟨x26_, h27_, h25_⟩ := ob h25_
        refine cr12_72 (p_a := p10_) (what_a := 4) C hkd  h27_ ⟨(Nat.le_of_ble_eq_true rfl), (Nat.le_of_ble_eq_true rfl)⟩ (Nat.le_of_ble_eq_true rfl) ⟨Nat.zero_le _, Nat.zero_le _⟩ dX12_hungriest_22 ?_
        refine c0_eq_f C 50 dX12_hungriest_25 (by decide) (fun h28_ => ?_) (fun h28_ => ?_)
        · rw [if_pos h28_] at h25_
          refine z_iload_n C 1 dX12_hungriest_28 rfl rfl ?_
          refine z_iconst (v := (-1)) C dX12_hungriest_29 ic_m1 ?_
          refine c_eq_t C 48 dX12_hungriest_30 (by decide) (fun h29_ => ?_) (fun h29_ => ?_)
          · rw [if_pos h29_] at h25_
            cases h25_
            exact K22_ rfl
          · rw [if_neg h29_] at h25_
            refine z_aload_n C 0 dX12_hungriest_33 rfl rfl ?_
            refine z_iload_n C 2 dX12_hungriest_34 rfl rfl ?_
            refine z_iconst (v := 0) C dX12_hungriest_35 ic_0 ?_
            obtain ⟨x30_, h31_, h25_⟩ := ob h25_
            refine cr12_72 (p_a := p10_) (what_a := 0) C hkd  h31_ ⟨(Nat.le_of_ble_eq_true rfl), (Nat.le_of_ble_eq_true rfl)⟩ (Nat.le_of_ble_eq_true rfl) ⟨Nat.zero_le _, Nat.zero_le _⟩ dX12_hungriest_36 ?_
            refine z_aload_n C 0 dX12_hungriest_39 rfl rfl ?_
            refine z_iload_n C 1 dX12_hungriest_40 rfl rfl ?_
            refine z_iconst (v := 0) C dX12_hungriest_41 ic_0 ?_
            obtain ⟨x32_, h33_, h25_⟩ := ob h25_
            refine cr12_72 (p_a := found9_) (what_a := 0) C hkd  h33_ ⟨(Nat.le_of_ble_eq_true rfl), (Nat.le_of_ble_eq_true rfl)⟩ (Nat.le_of_ble_eq_true rfl) ⟨Nat.zero_le _, Nat.zero_le _⟩ dX12_hungriest_42 ?_
            refine c_gt_f C 50 dX12_hungriest_45 (by decide) (fun h34_ => ?_) (fun h34_ => ?_)
            · rw [if_pos h34_] at h25_
              cases h25_
              exact K22_ rfl
            · rw [if_neg h34_] at h25_
              cases h25_
              exact K23_ Bool.false_ne_true
        · rw [if_neg h28_] at h25_
          cases h25_
          exact K23_ Bool.false_ne_true
      obtain ⟨p36_, h37_, h8_⟩ := lt_ h8_
      refine z_inc C 2 dX12_hungriest_50 rfl ic_1 h37_ (Nat.le_of_ble_eq_true rfl) rfl ?_
      refine z_goto C 9 dX12_hungriest_53 (by decide) ?_
      refine Z.sub [1, 2, 0] rfl ?_
      exact h7_ _ _ h8_
    have K14_ : ¬ (p10_ < x15_) → Z Θ 3 0 0 (zQ Θ ρ) σ1_ 56 [(0, .ref (zA Θ 0)), (1, .int found9_), (2, .int p10_)] [] := by
      intro h18_
      rw [if_neg h18_] at h8_
      cases h8_
      exact K5_
    refine c_lt_f C 56 dX12_hungriest_16 (by decide) (fun h17_ => ?_) (fun h17_ => ?_)
    · exact K13_ h17_
    · exact K14_ h17_
  refine z_iload_n C 1 dX12_hungriest_56 rfl rfl ?_
  cases hf
  subst hρ
  exact z_iret C dX12_hungriest_57
theorem c12_hungriest {l : Launch} {kd : List KD} {w : Wp} {σ : St} (hkd : kd = kdM) (hi : zI kd w) {r : (Int32 × St)} (hf : q12_hungriest σ = some r) : zM l kd w yX12_hungriest cX12_hungriest 3 (some .int) rm12_hungriest [.ref (w.2.2.1 0)] σ (some (.int r.1), r.2) := zM_of rfl hi (Nat.le_of_ble_eq_true rfl) (fun Θ hl hw C => by
  obtain ⟨Θ1, Θ2, Θ3, Θ4, Θ5⟩ := Θ
  cases hw
  exact p12_hungriest C hkd  hf rfl)
/-! LastLoafModel.lovesOf -/
theorem dX12_lovesOf_0 : decode cX12_lovesOf 0 = .ok (.iconst 0, 1) := by decide +kernel
theorem dX12_lovesOf_1 : decode cX12_lovesOf 1 = .ok (.istore_n 2, 1) := by decide +kernel
theorem dX12_lovesOf_2 : decode cX12_lovesOf 2 = .ok (.iconst 0, 1) := by decide +kernel
theorem dX12_lovesOf_3 : decode cX12_lovesOf 3 = .ok (.istore_n 3, 1) := by decide +kernel
theorem dX12_lovesOf_4 : decode cX12_lovesOf 4 = .ok (.iload_n 3, 1) := by decide +kernel
theorem dX12_lovesOf_5 : decode cX12_lovesOf 5 = .ok (.aload_n 0, 1) := by decide +kernel
theorem dX12_lovesOf_6 : decode cX12_lovesOf 6 = .ok (.getfield 7, 3) := by decide +kernel
theorem dX12_lovesOf_9 : decode cX12_lovesOf 9 = .ok (.iconst 3, 1) := by decide +kernel
theorem dX12_lovesOf_10 : decode cX12_lovesOf 10 = .ok (.iaload, 1) := by decide +kernel
theorem dX12_lovesOf_11 : decode cX12_lovesOf 11 = .ok (.if_icmp .ge 27, 3) := by decide +kernel
theorem dX12_lovesOf_14 : decode cX12_lovesOf 14 = .ok (.iload_n 2, 1) := by decide +kernel
theorem dX12_lovesOf_15 : decode cX12_lovesOf 15 = .ok (.iload_n 3, 1) := by decide +kernel
theorem dX12_lovesOf_16 : decode cX12_lovesOf 16 = .ok (.iload_n 1, 1) := by decide +kernel
theorem dX12_lovesOf_17 : decode cX12_lovesOf 17 = .ok (.if_icmp .ne 7, 3) := by decide +kernel
theorem dX12_lovesOf_20 : decode cX12_lovesOf 20 = .ok (.iconst 0, 1) := by decide +kernel
theorem dX12_lovesOf_21 : decode cX12_lovesOf 21 = .ok (.goto 9, 3) := by decide +kernel
theorem dX12_lovesOf_24 : decode cX12_lovesOf 24 = .ok (.aload_n 0, 1) := by decide +kernel
theorem dX12_lovesOf_25 : decode cX12_lovesOf 25 = .ok (.iload_n 3, 1) := by decide +kernel
theorem dX12_lovesOf_26 : decode cX12_lovesOf 26 = .ok (.iload_n 1, 1) := by decide +kernel
theorem dX12_lovesOf_27 : decode cX12_lovesOf 27 = .ok (.invokevirtual 260, 3) := by decide +kernel
theorem dX12_lovesOf_30 : decode cX12_lovesOf 30 = .ok (.iadd, 1) := by decide +kernel
theorem dX12_lovesOf_31 : decode cX12_lovesOf 31 = .ok (.istore_n 2, 1) := by decide +kernel
theorem dX12_lovesOf_32 : decode cX12_lovesOf 32 = .ok (.iinc 3 1, 3) := by decide +kernel
theorem dX12_lovesOf_35 : decode cX12_lovesOf 35 = .ok (.goto (-31), 3) := by decide +kernel
theorem dX12_lovesOf_38 : decode cX12_lovesOf 38 = .ok (.iload_n 2, 1) := by decide +kernel
theorem dX12_lovesOf_39 : decode cX12_lovesOf 39 = .ok (.ireturn, 1) := by decide +kernel
def q12_lovesOf (σ : St) (o_a : Int32) : Option Int32 :=
  Option.bind (loop2 (fun rec4_ (n7_ : Int32) (p8_ : Int32) =>
  Option.bind (ag σ 1 752 3) fun x13_ =>
  if p8_ < x13_ then
  Option.bind (if p8_ = o_a then (some (0 : Int32)) else (Option.bind (q12_liking σ p8_ o_a) fun x23_ =>
  some x23_)) fun x17_ =>
  lt (n7_ + x17_) fun n26_ =>
  lt (p8_ + 1) fun p28_ =>
  rec4_ n26_ p28_
  else (some (n7_, p8_))) fuelN (0 : Int32) (0 : Int32)) fun y1_ =>
  some y1_.1
abbrev rm12_lovesOf : Room := { frames := 1, cells := 0, slots := 0, locals := 22 }
set_option maxHeartbeats 4000000 in
set_option maxRecDepth 100000 in
theorem p12_lovesOf {Θ : Tz} {σ : St} {ρ : Option Value × St} (C : Zc Θ cX12_lovesOf 4 RX12 (some .int) rm12_lovesOf) (hkd : Θ.2.2.2.2.1 = kdM) {o_a : Int32} {r : Int32} (hf : q12_lovesOf σ o_a = some r) (hρ : ρ = (some (.int r), σ)) : Z Θ 4 0 0 (zQ Θ ρ) σ 0 [(0, .ref (zA Θ 0)), (1, .int o_a)] [] := by
  unfold q12_lovesOf at hf
  refine z_iconst (v := 0) C dX12_lovesOf_0 ic_0 ?_
  refine z_istN C dX12_lovesOf_1 rfl rfl (Nat.le_of_ble_eq_true rfl) rfl ?_
  refine z_iconst (v := 0) C dX12_lovesOf_2 ic_0 ?_
  refine z_istN C dX12_lovesOf_3 rfl rfl (Nat.le_of_ble_eq_true rfl) rfl ?_
  refine Z.sub [2, 3, 1, 0] rfl ?_
  obtain ⟨y1_, h2_, hf⟩ := ob hf
  suffices K3_ : Z Θ 4 0 0 (zQ Θ ρ) σ 38 [(0, .ref (zA Θ 0)), (1, .int o_a), (2, .int y1_.1), (3, .int y1_.2)] [] by
    refine loop2_Z (P := fun (n7_ : Int32) (p8_ : Int32) => Z Θ 4 0 0 (zQ Θ ρ) σ 4 [(0, .ref (zA Θ 0)), (1, .int o_a), (2, .int n7_), (3, .int p8_)] []) ?_ fuelN (0 : Int32) (0 : Int32) h2_
    clear h2_
    intro rec4_ n7_ p8_ h5_ h6_
    refine z_iload_n C 3 dX12_lovesOf_4 rfl rfl ?_
    refine z_aload_n C 0 dX12_lovesOf_5 rfl rfl ?_
    refine fg12_7 C hkd dX12_lovesOf_6 ?_
    refine z_iconst (v := 3) C dX12_lovesOf_9 ic_3 ?_
    obtain ⟨x13_, h14_, h6_⟩ := ob h6_
    refine z_ag C h14_ (kM_1 hkd) dX12_lovesOf_10 ?_
    have K11_ : p8_ < x13_ → Z Θ 4 0 0 (zQ Θ ρ) σ 14 [(0, .ref (zA Θ 0)), (1, .int o_a), (2, .int n7_), (3, .int p8_)] [] := by
      intro h16_
      rw [if_pos h16_] at h6_
      refine z_iload_n C 2 dX12_lovesOf_14 rfl rfl ?_
      obtain ⟨x17_, h18_, h6_⟩ := ob h6_
      suffices K19_ : Z Θ 4 0 0 (zQ Θ ρ) σ 30 [(0, .ref (zA Θ 0)), (1, .int o_a), (2, .int n7_), (3, .int p8_)] [.int x17_, .int n7_] by
        have K20_ : p8_ = o_a → Z Θ 4 0 0 (zQ Θ ρ) σ 20 [(0, .ref (zA Θ 0)), (1, .int o_a), (2, .int n7_), (3, .int p8_)] [.int n7_] := by
          intro h25_
          rw [if_pos h25_] at h18_
          refine z_iconst (v := 0) C dX12_lovesOf_20 ic_0 ?_
          refine z_goto C 30 dX12_lovesOf_21 (by decide) ?_
          cases h18_
          exact K19_
        have K21_ : ¬ (p8_ = o_a) → Z Θ 4 0 0 (zQ Θ ρ) σ 24 [(0, .ref (zA Θ 0)), (1, .int o_a), (2, .int n7_), (3, .int p8_)] [.int n7_] := by
          intro h25_
          rw [if_neg h25_] at h18_
          refine z_aload_n C 0 dX12_lovesOf_24 rfl rfl ?_
          refine z_iload_n C 3 dX12_lovesOf_25 rfl rfl ?_
          refine z_iload_n C 1 dX12_lovesOf_26 rfl rfl ?_
          obtain ⟨x23_, h24_, h18_⟩ := ob h18_
          refine cr12_260 (p_a := p8_) (o_a := o_a) C hkd  h24_ ⟨(Nat.le_of_ble_eq_true rfl), (Nat.le_of_ble_eq_true rfl)⟩ (Nat.le_of_ble_eq_true rfl) ⟨Nat.zero_le _, Nat.zero_le _⟩ dX12_lovesOf_27 ?_
          cases h18_
          exact K19_
        refine z_iload_n C 3 dX12_lovesOf_15 rfl rfl ?_
        refine z_iload_n C 1 dX12_lovesOf_16 rfl rfl ?_
        refine c_eq_f C 24 dX12_lovesOf_17 (by decide) (fun h22_ => ?_) (fun h22_ => ?_)
        · exact K20_ h22_
        · exact K21_ h22_
      refine z_iadd C dX12_lovesOf_30 ?_
      obtain ⟨n26_, h27_, h6_⟩ := lt_ h6_
      refine z_istN C dX12_lovesOf_31 h27_ rfl (Nat.le_of_ble_eq_true rfl) rfl ?_
      obtain ⟨p28_, h29_, h6_⟩ := lt_ h6_
      refine z_inc C 3 dX12_lovesOf_32 rfl ic_1 h29_ (Nat.le_of_ble_eq_true rfl) rfl ?_
      refine z_goto C 4 dX12_lovesOf_35 (by decide) ?_
      refine Z.sub [2, 3, 1, 0] rfl ?_
      exact h5_ _ _ h6_
    have K12_ : ¬ (p8_ < x13_) → Z Θ 4 0 0 (zQ Θ ρ) σ 38 [(0, .ref (zA Θ 0)), (1, .int o_a), (2, .int n7_), (3, .int p8_)] [] := by
      intro h16_
      rw [if_neg h16_] at h6_
      cases h6_
      exact K3_
    refine c_lt_f C 38 dX12_lovesOf_11 (by decide) (fun h15_ => ?_) (fun h15_ => ?_)
    · exact K11_ h15_
    · exact K12_ h15_
  refine z_iload_n C 2 dX12_lovesOf_38 rfl rfl ?_
  cases hf
  subst hρ
  exact z_iret C dX12_lovesOf_39
theorem c12_lovesOf {l : Launch} {kd : List KD} {w : Wp} {σ : St} {o_a : Int32} (hkd : kd = kdM) (hi : zI kd w) {r : Int32} (hf : q12_lovesOf σ o_a = some r) : zM l kd w yX12_lovesOf cX12_lovesOf 4 (some .int) rm12_lovesOf [.ref (w.2.2.1 0), .int o_a] σ (some (.int r), σ) := zM_of rfl hi (Nat.le_of_ble_eq_true rfl) (fun Θ hl hw C => by
  obtain ⟨Θ1, Θ2, Θ3, Θ4, Θ5⟩ := Θ
  cases hw
  exact p12_lovesOf C hkd  hf rfl)
/-! LastLoafModel.loved -/
theorem w_10_216 : Cond.code ({ cls := "LastLoafModel", name := "lovesOf", desc := "(I)I" } : MethodName) prog_14_method_135_code (4 : Nat) (Option.some ClassFile.FieldType.int) ∈ TB := tb_in (lwt_10 (List.mem_of_getElem? (i := 216) (by decide +kernel))) rfl
theorem w_10_213 : Cond.methodLink "LastLoafModel" (454 : Nat) ({ cls := "LastLoafModel", name := "lovesOf", desc := "(I)I" } : MethodName) ∈ TB := tb_in (lwt_10 (List.mem_of_getElem? (i := 213) (by decide +kernel))) rfl
theorem w_10_215 : Cond.instanceMethod ({ cls := "LastLoafModel", name := "lovesOf", desc := "(I)I" } : MethodName) ∈ TB := tb_in (lwt_10 (List.mem_of_getElem? (i := 215) (by decide +kernel))) rfl
theorem ws_LastLoafModel_lovesOf_I_I : Cond.selects "LastLoafModel" (⟨"LastLoafModel", "lovesOf", "(I)I"⟩ : MethodName) (⟨"LastLoafModel", "lovesOf", "(I)I"⟩ : MethodName) ∈ TB := tb_in (List.mem_append_left _ (List.mem_of_getElem? (i := 96) (by decide +kernel))) rfl
theorem cr12_454 {Θ : Tz} {cc : ByteArray} {nL kc ks : Nat} {ret : Option FieldType} {rm : Room} {Q : State → Prop} {σ : St} {pc : Nat} {lv : List (Nat × Value)} {st : List Value} (C : Zc Θ cc nL RX12 ret rm) (hkd : Θ.2.2.2.2.1 = kdM) {o_a : Int32} {r : Int32} (hx : q12_lovesOf σ o_a = some r) (hrm : rm12_lovesOf.frames + 1 ≤ rm.frames ∧ 8 + (4 + 11) + rm12_lovesOf.locals ≤ rm.locals) (hcat : (st.map fun v => v.category).sum ≤ 8) (hk : kc ≤ rm.cells ∧ ks ≤ rm.slots) (hd : decode cc pc = .ok (.invokevirtual 454, 3)) (kk : Z Θ nL kc ks Q σ (pc + 3) lv (.int r :: st)) : Z Θ nL kc ks Q σ pc lv (.int o_a :: .ref (zA Θ 0) :: st) := z_callV C 0 [.int o_a] (some (.int r), σ) 1 (kM_0 hkd) rfl (c12_lovesOf (o_a := o_a) hkd (zc_inj C) hx) w_10_216 w_10_213 w_10_215 ws_LastLoafModel_lovesOf_I_I w_1_14 ⟨rfl, rfl, hrm.1, hrm.2⟩ (by decide +kernel) rfl rfl hcat hk hd kk
theorem dX12_loved_0 : decode cX12_loved 0 = .ok (.aload_n 0, 1) := by decide +kernel
theorem dX12_loved_1 : decode cX12_loved 1 = .ok (.iconst 0, 1) := by decide +kernel
theorem dX12_loved_2 : decode cX12_loved 2 = .ok (.putfield 65, 3) := by decide +kernel
theorem dX12_loved_5 : decode cX12_loved 5 = .ok (.iconst (-1), 1) := by decide +kernel
theorem dX12_loved_6 : decode cX12_loved 6 = .ok (.istore_n 1, 1) := by decide +kernel
theorem dX12_loved_7 : decode cX12_loved 7 = .ok (.iconst 0, 1) := by decide +kernel
theorem dX12_loved_8 : decode cX12_loved 8 = .ok (.istore_n 2, 1) := by decide +kernel
theorem dX12_loved_9 : decode cX12_loved 9 = .ok (.iload_n 2, 1) := by decide +kernel
theorem dX12_loved_10 : decode cX12_loved 10 = .ok (.aload_n 0, 1) := by decide +kernel
theorem dX12_loved_11 : decode cX12_loved 11 = .ok (.getfield 7, 3) := by decide +kernel
theorem dX12_loved_14 : decode cX12_loved 14 = .ok (.iconst 3, 1) := by decide +kernel
theorem dX12_loved_15 : decode cX12_loved 15 = .ok (.iaload, 1) := by decide +kernel
theorem dX12_loved_16 : decode cX12_loved 16 = .ok (.if_icmp .ge 29, 3) := by decide +kernel
theorem dX12_loved_19 : decode cX12_loved 19 = .ok (.iload_n 1, 1) := by decide +kernel
theorem dX12_loved_20 : decode cX12_loved 20 = .ok (.iconst (-1), 1) := by decide +kernel
theorem dX12_loved_21 : decode cX12_loved 21 = .ok (.if_icmp .eq 16, 3) := by decide +kernel
theorem dX12_loved_24 : decode cX12_loved 24 = .ok (.aload_n 0, 1) := by decide +kernel
theorem dX12_loved_25 : decode cX12_loved 25 = .ok (.iload_n 2, 1) := by decide +kernel
theorem dX12_loved_26 : decode cX12_loved 26 = .ok (.invokevirtual 454, 3) := by decide +kernel
theorem dX12_loved_29 : decode cX12_loved 29 = .ok (.aload_n 0, 1) := by decide +kernel
theorem dX12_loved_30 : decode cX12_loved 30 = .ok (.iload_n 1, 1) := by decide +kernel
theorem dX12_loved_31 : decode cX12_loved 31 = .ok (.invokevirtual 454, 3) := by decide +kernel
theorem dX12_loved_34 : decode cX12_loved 34 = .ok (.if_icmp .le 5, 3) := by decide +kernel
theorem dX12_loved_37 : decode cX12_loved 37 = .ok (.iload_n 2, 1) := by decide +kernel
theorem dX12_loved_38 : decode cX12_loved 38 = .ok (.istore_n 1, 1) := by decide +kernel
theorem dX12_loved_39 : decode cX12_loved 39 = .ok (.iinc 2 1, 3) := by decide +kernel
theorem dX12_loved_42 : decode cX12_loved 42 = .ok (.goto (-33), 3) := by decide +kernel
theorem dX12_loved_45 : decode cX12_loved 45 = .ok (.iload_n 1, 1) := by decide +kernel
theorem dX12_loved_46 : decode cX12_loved 46 = .ok (.ireturn, 1) := by decide +kernel
def q12_loved (σ : St) : Option (Int32 × St) :=
  lt (up σ 0 0 0) fun σ1_ =>
  Option.bind (loop2 (fun rec6_ (found9_ : Int32) (p10_ : Int32) =>
  Option.bind (ag σ1_ 1 752 3) fun x15_ =>
  if p10_ < x15_ then
  Option.bind (Option.bind (if found9_ = (-1) then (some true) else (Option.bind (q12_lovesOf σ1_ p10_) fun x27_ =>
  Option.bind (q12_lovesOf σ1_ found9_) fun x29_ =>
  if x29_ < x27_ then (some true) else (some false))) fun t24_ =>
  if t24_ = true then (some (p10_)) else (some (found9_))) fun y19_ =>
  lt (p10_ + 1) fun p33_ =>
  rec6_ y19_ p33_
  else (some (found9_, p10_))) fuelN (-1 : Int32) (0 : Int32)) fun y3_ =>
  some (y3_.1, σ1_)
abbrev rm12_loved : Room := { frames := 2, cells := 0, slots := 0, locals := 45 }
set_option maxHeartbeats 4000000 in
set_option maxRecDepth 100000 in
theorem p12_loved {Θ : Tz} {σ : St} {ρ : Option Value × St} (C : Zc Θ cX12_loved 3 RX12 (some .int) rm12_loved) (hkd : Θ.2.2.2.2.1 = kdM) {r : (Int32 × St)} (hf : q12_loved σ = some r) (hρ : ρ = (some (.int r.1), r.2)) : Z Θ 3 0 0 (zQ Θ ρ) σ 0 [(0, .ref (zA Θ 0))] [] := by
  unfold q12_loved at hf
  refine z_aload_n C 0 dX12_loved_0 rfl rfl ?_
  refine z_iconst (v := 0) C dX12_loved_1 ic_0 ?_
  obtain ⟨σ1_, h2_, hf⟩ := lt_ hf
  refine fp12_65 C hkd h2_ dX12_loved_2 ?_
  refine z_iconst (v := (-1)) C dX12_loved_5 ic_m1 ?_
  refine z_istN C dX12_loved_6 rfl rfl (Nat.le_of_ble_eq_true rfl) rfl ?_
  refine z_iconst (v := 0) C dX12_loved_7 ic_0 ?_
  refine z_istN C dX12_loved_8 rfl rfl (Nat.le_of_ble_eq_true rfl) rfl ?_
  refine Z.sub [2, 1, 0] rfl ?_
  obtain ⟨y3_, h4_, hf⟩ := ob hf
  suffices K5_ : Z Θ 3 0 0 (zQ Θ ρ) σ1_ 45 [(0, .ref (zA Θ 0)), (1, .int y3_.1), (2, .int y3_.2)] [] by
    refine loop2_Z (P := fun (found9_ : Int32) (p10_ : Int32) => Z Θ 3 0 0 (zQ Θ ρ) σ1_ 9 [(0, .ref (zA Θ 0)), (1, .int found9_), (2, .int p10_)] []) ?_ fuelN (-1 : Int32) (0 : Int32) h4_
    clear h4_
    intro rec6_ found9_ p10_ h7_ h8_
    refine z_iload_n C 2 dX12_loved_9 rfl rfl ?_
    refine z_aload_n C 0 dX12_loved_10 rfl rfl ?_
    refine fg12_7 C hkd dX12_loved_11 ?_
    refine z_iconst (v := 3) C dX12_loved_14 ic_3 ?_
    obtain ⟨x15_, h16_, h8_⟩ := ob h8_
    refine z_ag C h16_ (kM_1 hkd) dX12_loved_15 ?_
    have K13_ : p10_ < x15_ → Z Θ 3 0 0 (zQ Θ ρ) σ1_ 19 [(0, .ref (zA Θ 0)), (1, .int found9_), (2, .int p10_)] [] := by
      intro h18_
      rw [if_pos h18_] at h8_
      obtain ⟨y19_, h20_, h8_⟩ := ob h8_
      suffices K21_ : Z Θ 3 0 0 (zQ Θ ρ) σ1_ 39 [(0, .ref (zA Θ 0)), (1, .int y19_), (2, .int p10_)] [] by
        obtain ⟨t24_, h25_, h20_⟩ := ob h20_
        have K22_ : t24_ = true → Z Θ 3 0 0 (zQ Θ ρ) σ1_ 37 [(0, .ref (zA Θ 0)), (1, .int found9_), (2, .int p10_)] [] := by
          intro h32_
          rw [if_pos h32_] at h20_
          refine z_iload_n C 2 dX12_loved_37 rfl rfl ?_
          refine z_istN C dX12_loved_38 rfl rfl (Nat.le_of_ble_eq_true rfl) rfl ?_
          cases h20_
          refine Z.sub [1, 0, 2] rfl ?_
          exact K21_
        have K23_ : ¬ (t24_ = true) → Z Θ 3 0 0 (zQ Θ ρ) σ1_ 39 [(0, .ref (zA Θ 0)), (1, .int found9_), (2, .int p10_)] [] := by
          intro h32_
          rw [if_neg h32_] at h20_
          cases h20_
          exact K21_
        refine z_iload_n C 1 dX12_loved_19 rfl rfl ?_
        refine z_iconst (v := (-1)) C dX12_loved_20 ic_m1 ?_
        refine c_eq_t C 37 dX12_loved_21 (by decide) (fun h26_ => ?_) (fun h26_ => ?_)
        · rw [if_pos h26_] at h25_
          cases h25_
          exact K22_ rfl
        · rw [if_neg h26_] at h25_
          refine z_aload_n C 0 dX12_loved_24 rfl rfl ?_
          refine z_iload_n C 2 dX12_loved_25 rfl rfl ?_
          obtain ⟨x27_, h28_, h25_⟩ := ob h25_
          refine cr12_454 (o_a := p10_) C hkd  h28_ ⟨(Nat.le_of_ble_eq_true rfl), (Nat.le_of_ble_eq_true rfl)⟩ (Nat.le_of_ble_eq_true rfl) ⟨Nat.zero_le _, Nat.zero_le _⟩ dX12_loved_26 ?_
          refine z_aload_n C 0 dX12_loved_29 rfl rfl ?_
          refine z_iload_n C 1 dX12_loved_30 rfl rfl ?_
          obtain ⟨x29_, h30_, h25_⟩ := ob h25_
          refine cr12_454 (o_a := found9_) C hkd  h30_ ⟨(Nat.le_of_ble_eq_true rfl), (Nat.le_of_ble_eq_true rfl)⟩ (Nat.le_of_ble_eq_true rfl) ⟨Nat.zero_le _, Nat.zero_le _⟩ dX12_loved_31 ?_
          refine c_gt_f C 39 dX12_loved_34 (by decide) (fun h31_ => ?_) (fun h31_ => ?_)
          · rw [if_pos h31_] at h25_
            cases h25_
            exact K22_ rfl
          · rw [if_neg h31_] at h25_
            cases h25_
            exact K23_ Bool.false_ne_true
      obtain ⟨p33_, h34_, h8_⟩ := lt_ h8_
      refine z_inc C 2 dX12_loved_39 rfl ic_1 h34_ (Nat.le_of_ble_eq_true rfl) rfl ?_
      refine z_goto C 9 dX12_loved_42 (by decide) ?_
      refine Z.sub [1, 2, 0] rfl ?_
      exact h7_ _ _ h8_
    have K14_ : ¬ (p10_ < x15_) → Z Θ 3 0 0 (zQ Θ ρ) σ1_ 45 [(0, .ref (zA Θ 0)), (1, .int found9_), (2, .int p10_)] [] := by
      intro h18_
      rw [if_neg h18_] at h8_
      cases h8_
      exact K5_
    refine c_lt_f C 45 dX12_loved_16 (by decide) (fun h17_ => ?_) (fun h17_ => ?_)
    · exact K13_ h17_
    · exact K14_ h17_
  refine z_iload_n C 1 dX12_loved_45 rfl rfl ?_
  cases hf
  subst hρ
  exact z_iret C dX12_loved_46
theorem c12_loved {l : Launch} {kd : List KD} {w : Wp} {σ : St} (hkd : kd = kdM) (hi : zI kd w) {r : (Int32 × St)} (hf : q12_loved σ = some r) : zM l kd w yX12_loved cX12_loved 3 (some .int) rm12_loved [.ref (w.2.2.1 0)] σ (some (.int r.1), r.2) := zM_of rfl hi (Nat.le_of_ble_eq_true rfl) (fun Θ hl hw C => by
  obtain ⟨Θ1, Θ2, Θ3, Θ4, Θ5⟩ := Θ
  cases hw
  exact p12_loved C hkd  hf rfl)
/-! LastLoafModel.thick -/
theorem dX12_thick_0 : decode cX12_thick 0 = .ok (.aload_n 0, 1) := by decide +kernel
theorem dX12_thick_1 : decode cX12_thick 1 = .ok (.iconst 0, 1) := by decide +kernel
theorem dX12_thick_2 : decode cX12_thick 2 = .ok (.putfield 65, 3) := by decide +kernel
theorem dX12_thick_5 : decode cX12_thick 5 = .ok (.iconst 0, 1) := by decide +kernel
theorem dX12_thick_6 : decode cX12_thick 6 = .ok (.istore_n 1, 1) := by decide +kernel
theorem dX12_thick_7 : decode cX12_thick 7 = .ok (.iconst 0, 1) := by decide +kernel
theorem dX12_thick_8 : decode cX12_thick 8 = .ok (.istore_n 2, 1) := by decide +kernel
theorem dX12_thick_9 : decode cX12_thick 9 = .ok (.iload_n 2, 1) := by decide +kernel
theorem dX12_thick_10 : decode cX12_thick 10 = .ok (.aload_n 0, 1) := by decide +kernel
theorem dX12_thick_11 : decode cX12_thick 11 = .ok (.getfield 7, 3) := by decide +kernel
theorem dX12_thick_14 : decode cX12_thick 14 = .ok (.iconst 3, 1) := by decide +kernel
theorem dX12_thick_15 : decode cX12_thick 15 = .ok (.iaload, 1) := by decide +kernel
theorem dX12_thick_16 : decode cX12_thick 16 = .ok (.if_icmp .ge 39, 3) := by decide +kernel
theorem dX12_thick_19 : decode cX12_thick 19 = .ok (.iload_n 1, 1) := by decide +kernel
theorem dX12_thick_20 : decode cX12_thick 20 = .ok (.aload_n 0, 1) := by decide +kernel
theorem dX12_thick_21 : decode cX12_thick 21 = .ok (.iload_n 2, 1) := by decide +kernel
theorem dX12_thick_22 : decode cX12_thick 22 = .ok (.bipush 6, 2) := by decide +kernel
theorem dX12_thick_24 : decode cX12_thick 24 = .ok (.invokevirtual 72, 3) := by decide +kernel
theorem dX12_thick_27 : decode cX12_thick 27 = .ok (.iconst 2, 1) := by decide +kernel
theorem dX12_thick_28 : decode cX12_thick 28 = .ok (.if_icmp .lt 18, 3) := by decide +kernel
theorem dX12_thick_31 : decode cX12_thick 31 = .ok (.aload_n 0, 1) := by decide +kernel
theorem dX12_thick_32 : decode cX12_thick 32 = .ok (.iload_n 2, 1) := by decide +kernel
theorem dX12_thick_33 : decode cX12_thick 33 = .ok (.iconst 2, 1) := by decide +kernel
theorem dX12_thick_34 : decode cX12_thick 34 = .ok (.invokevirtual 72, 3) := by decide +kernel
theorem dX12_thick_37 : decode cX12_thick 37 = .ok (.ifCond .ne 9, 3) := by decide +kernel
theorem dX12_thick_40 : decode cX12_thick 40 = .ok (.iconst 1, 1) := by decide +kernel
theorem dX12_thick_41 : decode cX12_thick 41 = .ok (.iload_n 2, 1) := by decide +kernel
theorem dX12_thick_42 : decode cX12_thick 42 = .ok (.ishl, 1) := by decide +kernel
theorem dX12_thick_43 : decode cX12_thick 43 = .ok (.goto 4, 3) := by decide +kernel
theorem dX12_thick_46 : decode cX12_thick 46 = .ok (.iconst 0, 1) := by decide +kernel
theorem dX12_thick_47 : decode cX12_thick 47 = .ok (.ior, 1) := by decide +kernel
theorem dX12_thick_48 : decode cX12_thick 48 = .ok (.istore_n 1, 1) := by decide +kernel
theorem dX12_thick_49 : decode cX12_thick 49 = .ok (.iinc 2 1, 3) := by decide +kernel
theorem dX12_thick_52 : decode cX12_thick 52 = .ok (.goto (-43), 3) := by decide +kernel
theorem dX12_thick_55 : decode cX12_thick 55 = .ok (.iload_n 1, 1) := by decide +kernel
theorem dX12_thick_56 : decode cX12_thick 56 = .ok (.ireturn, 1) := by decide +kernel
def q12_thick (σ : St) : Option (Int32 × St) :=
  lt (up σ 0 0 0) fun σ1_ =>
  Option.bind (loop2 (fun rec6_ (set9_ : Int32) (p10_ : Int32) =>
  Option.bind (ag σ1_ 1 752 3) fun x15_ =>
  if p10_ < x15_ then
  Option.bind (Option.bind (Option.bind (q12_of σ1_ p10_ 6) fun x26_ =>
  if 2 ≤ x26_ then (Option.bind (q12_of σ1_ p10_ 2) fun x29_ =>
  if x29_ = 0 then (some true) else (some false)) else (some false)) fun t24_ =>
  if t24_ = true then (some (shl 1 p10_)) else (some (0 : Int32))) fun x19_ =>
  lt (set9_ ||| x19_) fun set33_ =>
  lt (p10_ + 1) fun p35_ =>
  rec6_ set33_ p35_
  else (some (set9_, p10_))) fuelN (0 : Int32) (0 : Int32)) fun y3_ =>
  some (y3_.1, σ1_)
abbrev rm12_thick : Room := { frames := 1, cells := 0, slots := 0, locals := 22 }
set_option maxHeartbeats 4000000 in
set_option maxRecDepth 100000 in
theorem p12_thick {Θ : Tz} {σ : St} {ρ : Option Value × St} (C : Zc Θ cX12_thick 3 RX12 (some .int) rm12_thick) (hkd : Θ.2.2.2.2.1 = kdM) {r : (Int32 × St)} (hf : q12_thick σ = some r) (hρ : ρ = (some (.int r.1), r.2)) : Z Θ 3 0 0 (zQ Θ ρ) σ 0 [(0, .ref (zA Θ 0))] [] := by
  unfold q12_thick at hf
  refine z_aload_n C 0 dX12_thick_0 rfl rfl ?_
  refine z_iconst (v := 0) C dX12_thick_1 ic_0 ?_
  obtain ⟨σ1_, h2_, hf⟩ := lt_ hf
  refine fp12_65 C hkd h2_ dX12_thick_2 ?_
  refine z_iconst (v := 0) C dX12_thick_5 ic_0 ?_
  refine z_istN C dX12_thick_6 rfl rfl (Nat.le_of_ble_eq_true rfl) rfl ?_
  refine z_iconst (v := 0) C dX12_thick_7 ic_0 ?_
  refine z_istN C dX12_thick_8 rfl rfl (Nat.le_of_ble_eq_true rfl) rfl ?_
  refine Z.sub [2, 1, 0] rfl ?_
  obtain ⟨y3_, h4_, hf⟩ := ob hf
  suffices K5_ : Z Θ 3 0 0 (zQ Θ ρ) σ1_ 55 [(0, .ref (zA Θ 0)), (1, .int y3_.1), (2, .int y3_.2)] [] by
    refine loop2_Z (P := fun (set9_ : Int32) (p10_ : Int32) => Z Θ 3 0 0 (zQ Θ ρ) σ1_ 9 [(0, .ref (zA Θ 0)), (1, .int set9_), (2, .int p10_)] []) ?_ fuelN (0 : Int32) (0 : Int32) h4_
    clear h4_
    intro rec6_ set9_ p10_ h7_ h8_
    refine z_iload_n C 2 dX12_thick_9 rfl rfl ?_
    refine z_aload_n C 0 dX12_thick_10 rfl rfl ?_
    refine fg12_7 C hkd dX12_thick_11 ?_
    refine z_iconst (v := 3) C dX12_thick_14 ic_3 ?_
    obtain ⟨x15_, h16_, h8_⟩ := ob h8_
    refine z_ag C h16_ (kM_1 hkd) dX12_thick_15 ?_
    have K13_ : p10_ < x15_ → Z Θ 3 0 0 (zQ Θ ρ) σ1_ 19 [(0, .ref (zA Θ 0)), (1, .int set9_), (2, .int p10_)] [] := by
      intro h18_
      rw [if_pos h18_] at h8_
      refine z_iload_n C 1 dX12_thick_19 rfl rfl ?_
      obtain ⟨x19_, h20_, h8_⟩ := ob h8_
      suffices K21_ : Z Θ 3 0 0 (zQ Θ ρ) σ1_ 47 [(0, .ref (zA Θ 0)), (1, .int set9_), (2, .int p10_)] [.int x19_, .int set9_] by
        obtain ⟨t24_, h25_, h20_⟩ := ob h20_
        have K22_ : t24_ = true → Z Θ 3 0 0 (zQ Θ ρ) σ1_ 40 [(0, .ref (zA Θ 0)), (1, .int set9_), (2, .int p10_)] [.int set9_] := by
          intro h32_
          rw [if_pos h32_] at h20_
          refine z_iconst (v := 1) C dX12_thick_40 ic_1 ?_
          refine z_iload_n C 2 dX12_thick_41 rfl rfl ?_
          refine z_shl C dX12_thick_42 ?_
          refine z_goto C 47 dX12_thick_43 (by decide) ?_
          cases h20_
          exact K21_
        have K23_ : ¬ (t24_ = true) → Z Θ 3 0 0 (zQ Θ ρ) σ1_ 46 [(0, .ref (zA Θ 0)), (1, .int set9_), (2, .int p10_)] [.int set9_] := by
          intro h32_
          rw [if_neg h32_] at h20_
          refine z_iconst (v := 0) C dX12_thick_46 ic_0 ?_
          cases h20_
          exact K21_
        refine z_aload_n C 0 dX12_thick_20 rfl rfl ?_
        refine z_iload_n C 2 dX12_thick_21 rfl rfl ?_
        refine z_bipush (v := 6) C dX12_thick_22 bp_6 ?_
        obtain ⟨x26_, h27_, h25_⟩ := ob h25_
        refine cr12_72 (p_a := p10_) (what_a := 6) C hkd  h27_ ⟨(Nat.le_of_ble_eq_true rfl), (Nat.le_of_ble_eq_true rfl)⟩ (Nat.le_of_ble_eq_true rfl) ⟨Nat.zero_le _, Nat.zero_le _⟩ dX12_thick_24 ?_
        refine z_iconst (v := 2) C dX12_thick_27 ic_2 ?_
        refine c_ge_f C 46 dX12_thick_28 (by decide) (fun h28_ => ?_) (fun h28_ => ?_)
        · rw [if_pos h28_] at h25_
          refine z_aload_n C 0 dX12_thick_31 rfl rfl ?_
          refine z_iload_n C 2 dX12_thick_32 rfl rfl ?_
          refine z_iconst (v := 2) C dX12_thick_33 ic_2 ?_
          obtain ⟨x29_, h30_, h25_⟩ := ob h25_
          refine cr12_72 (p_a := p10_) (what_a := 2) C hkd  h30_ ⟨(Nat.le_of_ble_eq_true rfl), (Nat.le_of_ble_eq_true rfl)⟩ (Nat.le_of_ble_eq_true rfl) ⟨Nat.zero_le _, Nat.zero_le _⟩ dX12_thick_34 ?_
          refine c0_eq_f C 46 dX12_thick_37 (by decide) (fun h31_ => ?_) (fun h31_ => ?_)
          · rw [if_pos h31_] at h25_
            cases h25_
            exact K22_ rfl
          · rw [if_neg h31_] at h25_
            cases h25_
            exact K23_ Bool.false_ne_true
        · rw [if_neg h28_] at h25_
          cases h25_
          exact K23_ Bool.false_ne_true
      refine z_ior C dX12_thick_47 ?_
      obtain ⟨set33_, h34_, h8_⟩ := lt_ h8_
      refine z_istN C dX12_thick_48 h34_ rfl (Nat.le_of_ble_eq_true rfl) rfl ?_
      obtain ⟨p35_, h36_, h8_⟩ := lt_ h8_
      refine z_inc C 2 dX12_thick_49 rfl ic_1 h36_ (Nat.le_of_ble_eq_true rfl) rfl ?_
      refine z_goto C 9 dX12_thick_52 (by decide) ?_
      refine Z.sub [2, 1, 0] rfl ?_
      exact h7_ _ _ h8_
    have K14_ : ¬ (p10_ < x15_) → Z Θ 3 0 0 (zQ Θ ρ) σ1_ 55 [(0, .ref (zA Θ 0)), (1, .int set9_), (2, .int p10_)] [] := by
      intro h18_
      rw [if_neg h18_] at h8_
      cases h8_
      exact K5_
    refine c_lt_f C 55 dX12_thick_16 (by decide) (fun h17_ => ?_) (fun h17_ => ?_)
    · exact K13_ h17_
    · exact K14_ h17_
  refine z_iload_n C 1 dX12_thick_55 rfl rfl ?_
  cases hf
  subst hρ
  exact z_iret C dX12_thick_56
theorem c12_thick {l : Launch} {kd : List KD} {w : Wp} {σ : St} (hkd : kd = kdM) (hi : zI kd w) {r : (Int32 × St)} (hf : q12_thick σ = some r) : zM l kd w yX12_thick cX12_thick 3 (some .int) rm12_thick [.ref (w.2.2.1 0)] σ (some (.int r.1), r.2) := zM_of rfl hi (Nat.le_of_ble_eq_true rfl) (fun Θ hl hw C => by
  obtain ⟨Θ1, Θ2, Θ3, Θ4, Θ5⟩ := Θ
  cases hw
  exact p12_thick C hkd  hf rfl)
/-! LastLoafModel.bench -/
theorem dX12_bench_0 : decode cX12_bench 0 = .ok (.aload_n 0, 1) := by decide +kernel
theorem dX12_bench_1 : decode cX12_bench 1 = .ok (.iconst 0, 1) := by decide +kernel
theorem dX12_bench_2 : decode cX12_bench 2 = .ok (.putfield 65, 3) := by decide +kernel
theorem dX12_bench_5 : decode cX12_bench 5 = .ok (.aload_n 0, 1) := by decide +kernel
theorem dX12_bench_6 : decode cX12_bench 6 = .ok (.iconst 4, 1) := by decide +kernel
theorem dX12_bench_7 : decode cX12_bench 7 = .ok (.invokevirtual 266, 3) := by decide +kernel
theorem dX12_bench_10 : decode cX12_bench 10 = .ok (.ireturn, 1) := by decide +kernel
def q12_bench (σ : St) : Option (Int32 × St) :=
  lt (up σ 0 0 0) fun σ1_ =>
  Option.bind (q12_those σ1_ 4) fun x3_ =>
  some (x3_, σ1_)
abbrev rm12_bench : Room := { frames := 2, cells := 0, slots := 0, locals := 45 }
set_option maxHeartbeats 4000000 in
set_option maxRecDepth 100000 in
theorem p12_bench {Θ : Tz} {σ : St} {ρ : Option Value × St} (C : Zc Θ cX12_bench 1 RX12 (some .int) rm12_bench) (hkd : Θ.2.2.2.2.1 = kdM) {r : (Int32 × St)} (hf : q12_bench σ = some r) (hρ : ρ = (some (.int r.1), r.2)) : Z Θ 1 0 0 (zQ Θ ρ) σ 0 [(0, .ref (zA Θ 0))] [] := by
  unfold q12_bench at hf
  refine z_aload_n C 0 dX12_bench_0 rfl rfl ?_
  refine z_iconst (v := 0) C dX12_bench_1 ic_0 ?_
  obtain ⟨σ1_, h2_, hf⟩ := lt_ hf
  refine fp12_65 C hkd h2_ dX12_bench_2 ?_
  refine z_aload_n C 0 dX12_bench_5 rfl rfl ?_
  refine z_iconst (v := 4) C dX12_bench_6 ic_4 ?_
  obtain ⟨x3_, h4_, hf⟩ := ob hf
  refine cr12_266 (what_a := 4) C hkd  h4_ ⟨(Nat.le_of_ble_eq_true rfl), (Nat.le_of_ble_eq_true rfl)⟩ (Nat.le_of_ble_eq_true rfl) ⟨Nat.zero_le _, Nat.zero_le _⟩ dX12_bench_7 ?_
  cases hf
  subst hρ
  exact z_iret C dX12_bench_10
theorem c12_bench {l : Launch} {kd : List KD} {w : Wp} {σ : St} (hkd : kd = kdM) (hi : zI kd w) {r : (Int32 × St)} (hf : q12_bench σ = some r) : zM l kd w yX12_bench cX12_bench 1 (some .int) rm12_bench [.ref (w.2.2.1 0)] σ (some (.int r.1), r.2) := zM_of rfl hi (Nat.le_of_ble_eq_true rfl) (fun Θ hl hw C => by
  obtain ⟨Θ1, Θ2, Θ3, Θ4, Θ5⟩ := Θ
  cases hw
  exact p12_bench C hkd  hf rfl)
/-! LastLoafModel.crowd -/
theorem dX12_crowd_0 : decode cX12_crowd 0 = .ok (.aload_n 0, 1) := by decide +kernel
theorem dX12_crowd_1 : decode cX12_crowd 1 = .ok (.iconst 0, 1) := by decide +kernel
theorem dX12_crowd_2 : decode cX12_crowd 2 = .ok (.putfield 65, 3) := by decide +kernel
theorem dX12_crowd_5 : decode cX12_crowd 5 = .ok (.aload_n 0, 1) := by decide +kernel
theorem dX12_crowd_6 : decode cX12_crowd 6 = .ok (.iconst 3, 1) := by decide +kernel
theorem dX12_crowd_7 : decode cX12_crowd 7 = .ok (.invokevirtual 266, 3) := by decide +kernel
theorem dX12_crowd_10 : decode cX12_crowd 10 = .ok (.ireturn, 1) := by decide +kernel
def q12_crowd (σ : St) : Option (Int32 × St) :=
  lt (up σ 0 0 0) fun σ1_ =>
  Option.bind (q12_those σ1_ 3) fun x3_ =>
  some (x3_, σ1_)
abbrev rm12_crowd : Room := { frames := 2, cells := 0, slots := 0, locals := 45 }
set_option maxHeartbeats 4000000 in
set_option maxRecDepth 100000 in
theorem p12_crowd {Θ : Tz} {σ : St} {ρ : Option Value × St} (C : Zc Θ cX12_crowd 1 RX12 (some .int) rm12_crowd) (hkd : Θ.2.2.2.2.1 = kdM) {r : (Int32 × St)} (hf : q12_crowd σ = some r) (hρ : ρ = (some (.int r.1), r.2)) : Z Θ 1 0 0 (zQ Θ ρ) σ 0 [(0, .ref (zA Θ 0))] [] := by
  unfold q12_crowd at hf
  refine z_aload_n C 0 dX12_crowd_0 rfl rfl ?_
  refine z_iconst (v := 0) C dX12_crowd_1 ic_0 ?_
  obtain ⟨σ1_, h2_, hf⟩ := lt_ hf
  refine fp12_65 C hkd h2_ dX12_crowd_2 ?_
  refine z_aload_n C 0 dX12_crowd_5 rfl rfl ?_
  refine z_iconst (v := 3) C dX12_crowd_6 ic_3 ?_
  obtain ⟨x3_, h4_, hf⟩ := ob hf
  refine cr12_266 (what_a := 3) C hkd  h4_ ⟨(Nat.le_of_ble_eq_true rfl), (Nat.le_of_ble_eq_true rfl)⟩ (Nat.le_of_ble_eq_true rfl) ⟨Nat.zero_le _, Nat.zero_le _⟩ dX12_crowd_7 ?_
  cases hf
  subst hρ
  exact z_iret C dX12_crowd_10
theorem c12_crowd {l : Launch} {kd : List KD} {w : Wp} {σ : St} (hkd : kd = kdM) (hi : zI kd w) {r : (Int32 × St)} (hf : q12_crowd σ = some r) : zM l kd w yX12_crowd cX12_crowd 1 (some .int) rm12_crowd [.ref (w.2.2.1 0)] σ (some (.int r.1), r.2) := zM_of rfl hi (Nat.le_of_ble_eq_true rfl) (fun Θ hl hw C => by
  obtain ⟨Θ1, Θ2, Θ3, Θ4, Θ5⟩ := Θ
  cases hw
  exact p12_crowd C hkd  hf rfl)
/-! LastLoafModel.never -/
theorem dX12_never_0 : decode cX12_never 0 = .ok (.aload_n 0, 1) := by decide +kernel
theorem dX12_never_1 : decode cX12_never 1 = .ok (.iconst 0, 1) := by decide +kernel
theorem dX12_never_2 : decode cX12_never 2 = .ok (.putfield 65, 3) := by decide +kernel
theorem dX12_never_5 : decode cX12_never 5 = .ok (.aload_n 0, 1) := by decide +kernel
theorem dX12_never_6 : decode cX12_never 6 = .ok (.invokevirtual 422, 3) := by decide +kernel
theorem dX12_never_9 : decode cX12_never 9 = .ok (.aload_n 0, 1) := by decide +kernel
theorem dX12_never_10 : decode cX12_never 10 = .ok (.iconst 5, 1) := by decide +kernel
theorem dX12_never_11 : decode cX12_never 11 = .ok (.invokevirtual 266, 3) := by decide +kernel
theorem dX12_never_14 : decode cX12_never 14 = .ok (.iconst (-1), 1) := by decide +kernel
theorem dX12_never_15 : decode cX12_never 15 = .ok (.ixor, 1) := by decide +kernel
theorem dX12_never_16 : decode cX12_never 16 = .ok (.iand, 1) := by decide +kernel
theorem dX12_never_17 : decode cX12_never 17 = .ok (.ireturn, 1) := by decide +kernel
def q12_never (σ : St) : Option (Int32 × St) :=
  lt (up σ 0 0 0) fun σ1_ =>
  Option.bind (q12_all σ1_) fun x3_ =>
  Option.bind (q12_those σ1_ 5) fun x5_ =>
  some (x3_ &&& (x5_ ^^^ (-1)), σ1_)
abbrev rm12_never : Room := { frames := 2, cells := 0, slots := 0, locals := 45 }
set_option maxHeartbeats 4000000 in
set_option maxRecDepth 100000 in
theorem p12_never {Θ : Tz} {σ : St} {ρ : Option Value × St} (C : Zc Θ cX12_never 1 RX12 (some .int) rm12_never) (hkd : Θ.2.2.2.2.1 = kdM) {r : (Int32 × St)} (hf : q12_never σ = some r) (hρ : ρ = (some (.int r.1), r.2)) : Z Θ 1 0 0 (zQ Θ ρ) σ 0 [(0, .ref (zA Θ 0))] [] := by
  unfold q12_never at hf
  refine z_aload_n C 0 dX12_never_0 rfl rfl ?_
  refine z_iconst (v := 0) C dX12_never_1 ic_0 ?_
  obtain ⟨σ1_, h2_, hf⟩ := lt_ hf
  refine fp12_65 C hkd h2_ dX12_never_2 ?_
  refine z_aload_n C 0 dX12_never_5 rfl rfl ?_
  obtain ⟨x3_, h4_, hf⟩ := ob hf
  refine cr12_422 C hkd  h4_ ⟨(Nat.le_of_ble_eq_true rfl), (Nat.le_of_ble_eq_true rfl)⟩ (Nat.le_of_ble_eq_true rfl) ⟨Nat.zero_le _, Nat.zero_le _⟩ dX12_never_6 ?_
  refine z_aload_n C 0 dX12_never_9 rfl rfl ?_
  refine z_iconst (v := 5) C dX12_never_10 ic_5 ?_
  obtain ⟨x5_, h6_, hf⟩ := ob hf
  refine cr12_266 (what_a := 5) C hkd  h6_ ⟨(Nat.le_of_ble_eq_true rfl), (Nat.le_of_ble_eq_true rfl)⟩ (Nat.le_of_ble_eq_true rfl) ⟨Nat.zero_le _, Nat.zero_le _⟩ dX12_never_11 ?_
  refine z_iconst (v := (-1)) C dX12_never_14 ic_m1 ?_
  refine z_ixor C dX12_never_15 ?_
  refine z_iand C dX12_never_16 ?_
  cases hf
  subst hρ
  exact z_iret C dX12_never_17
theorem c12_never {l : Launch} {kd : List KD} {w : Wp} {σ : St} (hkd : kd = kdM) (hi : zI kd w) {r : (Int32 × St)} (hf : q12_never σ = some r) : zM l kd w yX12_never cX12_never 1 (some .int) rm12_never [.ref (w.2.2.1 0)] σ (some (.int r.1), r.2) := zM_of rfl hi (Nat.le_of_ble_eq_true rfl) (fun Θ hl hw C => by
  obtain ⟨Θ1, Θ2, Θ3, Θ4, Θ5⟩ := Θ
  cases hw
  exact p12_never C hkd  hf rfl)
/-! LastLoafModel.alike -/
theorem dX12_alike_0 : decode cX12_alike 0 = .ok (.aload_n 0, 1) := by decide +kernel
theorem dX12_alike_1 : decode cX12_alike 1 = .ok (.iconst 0, 1) := by decide +kernel
theorem dX12_alike_2 : decode cX12_alike 2 = .ok (.putfield 65, 3) := by decide +kernel
theorem dX12_alike_5 : decode cX12_alike 5 = .ok (.iconst 0, 1) := by decide +kernel
theorem dX12_alike_6 : decode cX12_alike 6 = .ok (.istore_n 1, 1) := by decide +kernel
theorem dX12_alike_7 : decode cX12_alike 7 = .ok (.iconst 0, 1) := by decide +kernel
theorem dX12_alike_8 : decode cX12_alike 8 = .ok (.istore_n 2, 1) := by decide +kernel
theorem dX12_alike_9 : decode cX12_alike 9 = .ok (.iload_n 2, 1) := by decide +kernel
theorem dX12_alike_10 : decode cX12_alike 10 = .ok (.aload_n 0, 1) := by decide +kernel
theorem dX12_alike_11 : decode cX12_alike 11 = .ok (.getfield 7, 3) := by decide +kernel
theorem dX12_alike_14 : decode cX12_alike 14 = .ok (.iconst 3, 1) := by decide +kernel
theorem dX12_alike_15 : decode cX12_alike 15 = .ok (.iaload, 1) := by decide +kernel
theorem dX12_alike_16 : decode cX12_alike 16 = .ok (.if_icmp .ge 67, 3) := by decide +kernel
theorem dX12_alike_19 : decode cX12_alike 19 = .ok (.iload_n 2, 1) := by decide +kernel
theorem dX12_alike_20 : decode cX12_alike 20 = .ok (.iconst 1, 1) := by decide +kernel
theorem dX12_alike_21 : decode cX12_alike 21 = .ok (.iadd, 1) := by decide +kernel
theorem dX12_alike_22 : decode cX12_alike 22 = .ok (.istore_n 3, 1) := by decide +kernel
theorem dX12_alike_23 : decode cX12_alike 23 = .ok (.iload_n 3, 1) := by decide +kernel
theorem dX12_alike_24 : decode cX12_alike 24 = .ok (.aload_n 0, 1) := by decide +kernel
theorem dX12_alike_25 : decode cX12_alike 25 = .ok (.getfield 7, 3) := by decide +kernel
theorem dX12_alike_28 : decode cX12_alike 28 = .ok (.iconst 3, 1) := by decide +kernel
theorem dX12_alike_29 : decode cX12_alike 29 = .ok (.iaload, 1) := by decide +kernel
theorem dX12_alike_30 : decode cX12_alike 30 = .ok (.if_icmp .ge 47, 3) := by decide +kernel
theorem dX12_alike_33 : decode cX12_alike 33 = .ok (.iload_n 1, 1) := by decide +kernel
theorem dX12_alike_34 : decode cX12_alike 34 = .ok (.aload_n 0, 1) := by decide +kernel
theorem dX12_alike_35 : decode cX12_alike 35 = .ok (.iload_n 2, 1) := by decide +kernel
theorem dX12_alike_36 : decode cX12_alike 36 = .ok (.iconst 1, 1) := by decide +kernel
theorem dX12_alike_37 : decode cX12_alike 37 = .ok (.invokevirtual 72, 3) := by decide +kernel
theorem dX12_alike_40 : decode cX12_alike 40 = .ok (.aload_n 0, 1) := by decide +kernel
theorem dX12_alike_41 : decode cX12_alike 41 = .ok (.iload_n 3, 1) := by decide +kernel
theorem dX12_alike_42 : decode cX12_alike 42 = .ok (.iconst 1, 1) := by decide +kernel
theorem dX12_alike_43 : decode cX12_alike 43 = .ok (.invokevirtual 72, 3) := by decide +kernel
theorem dX12_alike_46 : decode cX12_alike 46 = .ok (.if_icmp .ne 22, 3) := by decide +kernel
theorem dX12_alike_49 : decode cX12_alike 49 = .ok (.aload_n 0, 1) := by decide +kernel
theorem dX12_alike_50 : decode cX12_alike 50 = .ok (.iload_n 2, 1) := by decide +kernel
theorem dX12_alike_51 : decode cX12_alike 51 = .ok (.iconst 2, 1) := by decide +kernel
theorem dX12_alike_52 : decode cX12_alike 52 = .ok (.invokevirtual 72, 3) := by decide +kernel
theorem dX12_alike_55 : decode cX12_alike 55 = .ok (.aload_n 0, 1) := by decide +kernel
theorem dX12_alike_56 : decode cX12_alike 56 = .ok (.iload_n 3, 1) := by decide +kernel
theorem dX12_alike_57 : decode cX12_alike 57 = .ok (.iconst 2, 1) := by decide +kernel
theorem dX12_alike_58 : decode cX12_alike 58 = .ok (.invokevirtual 72, 3) := by decide +kernel
theorem dX12_alike_61 : decode cX12_alike 61 = .ok (.if_icmp .ne 7, 3) := by decide +kernel
theorem dX12_alike_64 : decode cX12_alike 64 = .ok (.iconst 1, 1) := by decide +kernel
theorem dX12_alike_65 : decode cX12_alike 65 = .ok (.goto 4, 3) := by decide +kernel
theorem dX12_alike_68 : decode cX12_alike 68 = .ok (.iconst 0, 1) := by decide +kernel
theorem dX12_alike_69 : decode cX12_alike 69 = .ok (.iadd, 1) := by decide +kernel
theorem dX12_alike_70 : decode cX12_alike 70 = .ok (.istore_n 1, 1) := by decide +kernel
theorem dX12_alike_71 : decode cX12_alike 71 = .ok (.iinc 3 1, 3) := by decide +kernel
theorem dX12_alike_74 : decode cX12_alike 74 = .ok (.goto (-51), 3) := by decide +kernel
theorem dX12_alike_77 : decode cX12_alike 77 = .ok (.iinc 2 1, 3) := by decide +kernel
theorem dX12_alike_80 : decode cX12_alike 80 = .ok (.goto (-71), 3) := by decide +kernel
theorem dX12_alike_83 : decode cX12_alike 83 = .ok (.iload_n 1, 1) := by decide +kernel
theorem dX12_alike_84 : decode cX12_alike 84 = .ok (.ireturn, 1) := by decide +kernel
def q12_alike (σ : St) : Option (Int32 × St) :=
  lt (up σ 0 0 0) fun σ1_ =>
  Option.bind (loop2 (fun rec6_ (n9_ : Int32) (a10_ : Int32) =>
  Option.bind (ag σ1_ 1 752 3) fun x15_ =>
  if a10_ < x15_ then
  lt (a10_ + 1) fun b19_ =>
  Option.bind (loop2 (fun rec24_ (n27_ : Int32) (b28_ : Int32) =>
  Option.bind (ag σ1_ 1 752 3) fun x33_ =>
  if b28_ < x33_ then
  Option.bind (Option.bind (Option.bind (q12_of σ1_ a10_ 1) fun x44_ =>
  Option.bind (q12_of σ1_ b28_ 1) fun x46_ =>
  if x44_ = x46_ then (Option.bind (q12_of σ1_ a10_ 2) fun x49_ =>
  Option.bind (q12_of σ1_ b28_ 2) fun x51_ =>
  if x49_ = x51_ then (some true) else (some false)) else (some false)) fun t42_ =>
  if t42_ = true then (some (1 : Int32)) else (some (0 : Int32))) fun x37_ =>
  lt (n27_ + x37_) fun n55_ =>
  lt (b28_ + 1) fun b57_ =>
  rec24_ n55_ b57_
  else (some (n27_, b28_))) fuelN n9_ b19_) fun y21_ =>
  lt (a10_ + 1) fun a59_ =>
  rec6_ y21_.1 a59_
  else (some (n9_, a10_))) fuelN (0 : Int32) (0 : Int32)) fun y3_ =>
  some (y3_.1, σ1_)
abbrev rm12_alike : Room := { frames := 1, cells := 0, slots := 0, locals := 22 }
set_option maxHeartbeats 4000000 in
set_option maxRecDepth 100000 in
theorem p12_alike {Θ : Tz} {σ : St} {ρ : Option Value × St} (C : Zc Θ cX12_alike 4 RX12 (some .int) rm12_alike) (hkd : Θ.2.2.2.2.1 = kdM) {r : (Int32 × St)} (hf : q12_alike σ = some r) (hρ : ρ = (some (.int r.1), r.2)) : Z Θ 4 0 0 (zQ Θ ρ) σ 0 [(0, .ref (zA Θ 0))] [] := by
  unfold q12_alike at hf
  refine z_aload_n C 0 dX12_alike_0 rfl rfl ?_
  refine z_iconst (v := 0) C dX12_alike_1 ic_0 ?_
  obtain ⟨σ1_, h2_, hf⟩ := lt_ hf
  refine fp12_65 C hkd h2_ dX12_alike_2 ?_
  refine z_iconst (v := 0) C dX12_alike_5 ic_0 ?_
  refine z_istN C dX12_alike_6 rfl rfl (Nat.le_of_ble_eq_true rfl) rfl ?_
  refine z_iconst (v := 0) C dX12_alike_7 ic_0 ?_
  refine z_istN C dX12_alike_8 rfl rfl (Nat.le_of_ble_eq_true rfl) rfl ?_
  refine Z.sub [2, 1, 0] rfl ?_
  obtain ⟨y3_, h4_, hf⟩ := ob hf
  suffices K5_ : Z Θ 4 0 0 (zQ Θ ρ) σ1_ 83 [(0, .ref (zA Θ 0)), (1, .int y3_.1), (2, .int y3_.2)] [] by
    refine loop2_Z (P := fun (n9_ : Int32) (a10_ : Int32) => Z Θ 4 0 0 (zQ Θ ρ) σ1_ 9 [(0, .ref (zA Θ 0)), (1, .int n9_), (2, .int a10_)] []) ?_ fuelN (0 : Int32) (0 : Int32) h4_
    clear h4_
    intro rec6_ n9_ a10_ h7_ h8_
    refine z_iload_n C 2 dX12_alike_9 rfl rfl ?_
    refine z_aload_n C 0 dX12_alike_10 rfl rfl ?_
    refine fg12_7 C hkd dX12_alike_11 ?_
    refine z_iconst (v := 3) C dX12_alike_14 ic_3 ?_
    obtain ⟨x15_, h16_, h8_⟩ := ob h8_
    refine z_ag C h16_ (kM_1 hkd) dX12_alike_15 ?_
    have K13_ : a10_ < x15_ → Z Θ 4 0 0 (zQ Θ ρ) σ1_ 19 [(0, .ref (zA Θ 0)), (1, .int n9_), (2, .int a10_)] [] := by
      intro h18_
      rw [if_pos h18_] at h8_
      refine z_iload_n C 2 dX12_alike_19 rfl rfl ?_
      refine z_iconst (v := 1) C dX12_alike_20 ic_1 ?_
      refine z_iadd C dX12_alike_21 ?_
      obtain ⟨b19_, h20_, h8_⟩ := lt_ h8_
      refine z_istN C dX12_alike_22 h20_ rfl (Nat.le_of_ble_eq_true rfl) rfl ?_
      refine Z.sub [1, 2, 3, 0] rfl ?_
      obtain ⟨y21_, h22_, h8_⟩ := ob h8_
      suffices K23_ : Z Θ 4 0 0 (zQ Θ ρ) σ1_ 77 [(0, .ref (zA Θ 0)), (1, .int y21_.1), (2, .int a10_), (3, .int y21_.2)] [] by
        refine loop2_Z (P := fun (n27_ : Int32) (b28_ : Int32) => Z Θ 4 0 0 (zQ Θ ρ) σ1_ 23 [(0, .ref (zA Θ 0)), (1, .int n27_), (2, .int a10_), (3, .int b28_)] []) ?_ fuelN n9_ b19_ h22_
        clear h22_
        intro rec24_ n27_ b28_ h25_ h26_
        refine z_iload_n C 3 dX12_alike_23 rfl rfl ?_
        refine z_aload_n C 0 dX12_alike_24 rfl rfl ?_
        refine fg12_7 C hkd dX12_alike_25 ?_
        refine z_iconst (v := 3) C dX12_alike_28 ic_3 ?_
        obtain ⟨x33_, h34_, h26_⟩ := ob h26_
        refine z_ag C h34_ (kM_1 hkd) dX12_alike_29 ?_
        have K31_ : b28_ < x33_ → Z Θ 4 0 0 (zQ Θ ρ) σ1_ 33 [(0, .ref (zA Θ 0)), (1, .int n27_), (2, .int a10_), (3, .int b28_)] [] := by
          intro h36_
          rw [if_pos h36_] at h26_
          refine z_iload_n C 1 dX12_alike_33 rfl rfl ?_
          obtain ⟨x37_, h38_, h26_⟩ := ob h26_
          suffices K39_ : Z Θ 4 0 0 (zQ Θ ρ) σ1_ 69 [(0, .ref (zA Θ 0)), (1, .int n27_), (2, .int a10_), (3, .int b28_)] [.int x37_, .int n27_] by
            obtain ⟨t42_, h43_, h38_⟩ := ob h38_
            have K40_ : t42_ = true → Z Θ 4 0 0 (zQ Θ ρ) σ1_ 64 [(0, .ref (zA Θ 0)), (1, .int n27_), (2, .int a10_), (3, .int b28_)] [.int n27_] := by
              intro h54_
              rw [if_pos h54_] at h38_
              refine z_iconst (v := 1) C dX12_alike_64 ic_1 ?_
              refine z_goto C 69 dX12_alike_65 (by decide) ?_
              cases h38_
              exact K39_
            have K41_ : ¬ (t42_ = true) → Z Θ 4 0 0 (zQ Θ ρ) σ1_ 68 [(0, .ref (zA Θ 0)), (1, .int n27_), (2, .int a10_), (3, .int b28_)] [.int n27_] := by
              intro h54_
              rw [if_neg h54_] at h38_
              refine z_iconst (v := 0) C dX12_alike_68 ic_0 ?_
              cases h38_
              exact K39_
            refine z_aload_n C 0 dX12_alike_34 rfl rfl ?_
            refine z_iload_n C 2 dX12_alike_35 rfl rfl ?_
            refine z_iconst (v := 1) C dX12_alike_36 ic_1 ?_
            obtain ⟨x44_, h45_, h43_⟩ := ob h43_
            refine cr12_72 (p_a := a10_) (what_a := 1) C hkd  h45_ ⟨(Nat.le_of_ble_eq_true rfl), (Nat.le_of_ble_eq_true rfl)⟩ (Nat.le_of_ble_eq_true rfl) ⟨Nat.zero_le _, Nat.zero_le _⟩ dX12_alike_37 ?_
            refine z_aload_n C 0 dX12_alike_40 rfl rfl ?_
            refine z_iload_n C 3 dX12_alike_41 rfl rfl ?_
            refine z_iconst (v := 1) C dX12_alike_42 ic_1 ?_
            obtain ⟨x46_, h47_, h43_⟩ := ob h43_
            refine cr12_72 (p_a := b28_) (what_a := 1) C hkd  h47_ ⟨(Nat.le_of_ble_eq_true rfl), (Nat.le_of_ble_eq_true rfl)⟩ (Nat.le_of_ble_eq_true rfl) ⟨Nat.zero_le _, Nat.zero_le _⟩ dX12_alike_43 ?_
            refine c_eq_f C 68 dX12_alike_46 (by decide) (fun h48_ => ?_) (fun h48_ => ?_)
            · rw [if_pos h48_] at h43_
              refine z_aload_n C 0 dX12_alike_49 rfl rfl ?_
              refine z_iload_n C 2 dX12_alike_50 rfl rfl ?_
              refine z_iconst (v := 2) C dX12_alike_51 ic_2 ?_
              obtain ⟨x49_, h50_, h43_⟩ := ob h43_
              refine cr12_72 (p_a := a10_) (what_a := 2) C hkd  h50_ ⟨(Nat.le_of_ble_eq_true rfl), (Nat.le_of_ble_eq_true rfl)⟩ (Nat.le_of_ble_eq_true rfl) ⟨Nat.zero_le _, Nat.zero_le _⟩ dX12_alike_52 ?_
              refine z_aload_n C 0 dX12_alike_55 rfl rfl ?_
              refine z_iload_n C 3 dX12_alike_56 rfl rfl ?_
              refine z_iconst (v := 2) C dX12_alike_57 ic_2 ?_
              obtain ⟨x51_, h52_, h43_⟩ := ob h43_
              refine cr12_72 (p_a := b28_) (what_a := 2) C hkd  h52_ ⟨(Nat.le_of_ble_eq_true rfl), (Nat.le_of_ble_eq_true rfl)⟩ (Nat.le_of_ble_eq_true rfl) ⟨Nat.zero_le _, Nat.zero_le _⟩ dX12_alike_58 ?_
              refine c_eq_f C 68 dX12_alike_61 (by decide) (fun h53_ => ?_) (fun h53_ => ?_)
              · rw [if_pos h53_] at h43_
                cases h43_
                exact K40_ rfl
              · rw [if_neg h53_] at h43_
                cases h43_
                exact K41_ Bool.false_ne_true
            · rw [if_neg h48_] at h43_
              cases h43_
              exact K41_ Bool.false_ne_true
          refine z_iadd C dX12_alike_69 ?_
          obtain ⟨n55_, h56_, h26_⟩ := lt_ h26_
          refine z_istN C dX12_alike_70 h56_ rfl (Nat.le_of_ble_eq_true rfl) rfl ?_
          obtain ⟨b57_, h58_, h26_⟩ := lt_ h26_
          refine z_inc C 3 dX12_alike_71 rfl ic_1 h58_ (Nat.le_of_ble_eq_true rfl) rfl ?_
          refine z_goto C 23 dX12_alike_74 (by decide) ?_
          refine Z.sub [2, 1, 3, 0] rfl ?_
          exact h25_ _ _ h26_
        have K32_ : ¬ (b28_ < x33_) → Z Θ 4 0 0 (zQ Θ ρ) σ1_ 77 [(0, .ref (zA Θ 0)), (1, .int n27_), (2, .int a10_), (3, .int b28_)] [] := by
          intro h36_
          rw [if_neg h36_] at h26_
          cases h26_
          exact K23_
        refine c_lt_f C 77 dX12_alike_30 (by decide) (fun h35_ => ?_) (fun h35_ => ?_)
        · exact K31_ h35_
        · exact K32_ h35_
      obtain ⟨a59_, h60_, h8_⟩ := lt_ h8_
      refine z_inc C 2 dX12_alike_77 rfl ic_1 h60_ (Nat.le_of_ble_eq_true rfl) rfl ?_
      refine z_goto C 9 dX12_alike_80 (by decide) ?_
      refine Z.sub [1, 2, 0] rfl ?_
      exact h7_ _ _ h8_
    have K14_ : ¬ (a10_ < x15_) → Z Θ 4 0 0 (zQ Θ ρ) σ1_ 83 [(0, .ref (zA Θ 0)), (1, .int n9_), (2, .int a10_)] [] := by
      intro h18_
      rw [if_neg h18_] at h8_
      cases h8_
      exact K5_
    refine c_lt_f C 83 dX12_alike_16 (by decide) (fun h17_ => ?_) (fun h17_ => ?_)
    · exact K13_ h17_
    · exact K14_ h17_
  refine z_iload_n C 1 dX12_alike_83 rfl rfl ?_
  cases hf
  subst hρ
  exact z_iret C dX12_alike_84
theorem c12_alike {l : Launch} {kd : List KD} {w : Wp} {σ : St} (hkd : kd = kdM) (hi : zI kd w) {r : (Int32 × St)} (hf : q12_alike σ = some r) : zM l kd w yX12_alike cX12_alike 4 (some .int) rm12_alike [.ref (w.2.2.1 0)] σ (some (.int r.1), r.2) := zM_of rfl hi (Nat.le_of_ble_eq_true rfl) (fun Θ hl hw C => by
  obtain ⟨Θ1, Θ2, Θ3, Θ4, Θ5⟩ := Θ
  cases hw
  exact p12_alike C hkd  hf rfl)
/-! LastLoafModel.ahead -/
theorem dX12_ahead_0 : decode cX12_ahead 0 = .ok (.aload_n 0, 1) := by decide +kernel
theorem dX12_ahead_1 : decode cX12_ahead 1 = .ok (.aload_n 0, 1) := by decide +kernel
theorem dX12_ahead_2 : decode cX12_ahead 2 = .ok (.iload_n 1, 1) := by decide +kernel
theorem dX12_ahead_3 : decode cX12_ahead 3 = .ok (.invokevirtual 347, 3) := by decide +kernel
theorem dX12_ahead_6 : decode cX12_ahead 6 = .ok (.ifCond .ne 7, 3) := by decide +kernel
theorem dX12_ahead_9 : decode cX12_ahead 9 = .ok (.iconst 1, 1) := by decide +kernel
theorem dX12_ahead_10 : decode cX12_ahead 10 = .ok (.goto 31, 3) := by decide +kernel
theorem dX12_ahead_13 : decode cX12_ahead 13 = .ok (.iload_n 2, 1) := by decide +kernel
theorem dX12_ahead_14 : decode cX12_ahead 14 = .ok (.iconst 0, 1) := by decide +kernel
theorem dX12_ahead_15 : decode cX12_ahead 15 = .ok (.bipush 60, 2) := by decide +kernel
theorem dX12_ahead_17 : decode cX12_ahead 17 = .ok (.invokestatic 68, 3) := by decide +kernel
theorem dX12_ahead_20 : decode cX12_ahead 20 = .ok (.ifCond .ne 7, 3) := by decide +kernel
theorem dX12_ahead_23 : decode cX12_ahead 23 = .ok (.iconst 2, 1) := by decide +kernel
theorem dX12_ahead_24 : decode cX12_ahead 24 = .ok (.goto 17, 3) := by decide +kernel
theorem dX12_ahead_27 : decode cX12_ahead 27 = .ok (.iload_n 3, 1) := by decide +kernel
theorem dX12_ahead_28 : decode cX12_ahead 28 = .ok (.iconst 0, 1) := by decide +kernel
theorem dX12_ahead_29 : decode cX12_ahead 29 = .ok (.iconst 2, 1) := by decide +kernel
theorem dX12_ahead_30 : decode cX12_ahead 30 = .ok (.invokestatic 68, 3) := by decide +kernel
theorem dX12_ahead_33 : decode cX12_ahead 33 = .ok (.ifCond .ne 7, 3) := by decide +kernel
theorem dX12_ahead_36 : decode cX12_ahead 36 = .ok (.iconst 3, 1) := by decide +kernel
theorem dX12_ahead_37 : decode cX12_ahead 37 = .ok (.goto 4, 3) := by decide +kernel
theorem dX12_ahead_40 : decode cX12_ahead 40 = .ok (.iconst 0, 1) := by decide +kernel
theorem dX12_ahead_41 : decode cX12_ahead 41 = .ok (.putfield 65, 3) := by decide +kernel
theorem dX12_ahead_44 : decode cX12_ahead 44 = .ok (.aload_n 0, 1) := by decide +kernel
theorem dX12_ahead_45 : decode cX12_ahead 45 = .ok (.getfield 65, 3) := by decide +kernel
theorem dX12_ahead_48 : decode cX12_ahead 48 = .ok (.ifCond .le 5, 3) := by decide +kernel
theorem dX12_ahead_51 : decode cX12_ahead 51 = .ok (.iconst 0, 1) := by decide +kernel
theorem dX12_ahead_52 : decode cX12_ahead 52 = .ok (.ireturn, 1) := by decide +kernel
theorem dX12_ahead_53 : decode cX12_ahead 53 = .ok (.aload_n 0, 1) := by decide +kernel
theorem dX12_ahead_54 : decode cX12_ahead 54 = .ok (.invokevirtual 186, 3) := by decide +kernel
theorem dX12_ahead_57 : decode cX12_ahead 57 = .ok (.aload_n 0, 1) := by decide +kernel
theorem dX12_ahead_58 : decode cX12_ahead 58 = .ok (.iload_n 2, 1) := by decide +kernel
theorem dX12_ahead_59 : decode cX12_ahead 59 = .ok (.iconst 0, 1) := by decide +kernel
theorem dX12_ahead_60 : decode cX12_ahead 60 = .ok (.invokevirtual 369, 3) := by decide +kernel
theorem dX12_ahead_63 : decode cX12_ahead 63 = .ok (.istore 4, 2) := by decide +kernel
theorem dX12_ahead_65 : decode cX12_ahead 65 = .ok (.aload_n 0, 1) := by decide +kernel
theorem dX12_ahead_66 : decode cX12_ahead 66 = .ok (.iload_n 1, 1) := by decide +kernel
theorem dX12_ahead_67 : decode cX12_ahead 67 = .ok (.iload_n 3, 1) := by decide +kernel
theorem dX12_ahead_68 : decode cX12_ahead 68 = .ok (.ifCond .ne 7, 3) := by decide +kernel
theorem dX12_ahead_71 : decode cX12_ahead 71 = .ok (.iconst 0, 1) := by decide +kernel
theorem dX12_ahead_72 : decode cX12_ahead 72 = .ok (.goto 13, 3) := by decide +kernel
theorem dX12_ahead_75 : decode cX12_ahead 75 = .ok (.iload_n 3, 1) := by decide +kernel
theorem dX12_ahead_76 : decode cX12_ahead 76 = .ok (.iconst 1, 1) := by decide +kernel
theorem dX12_ahead_77 : decode cX12_ahead 77 = .ok (.if_icmp .ne 7, 3) := by decide +kernel
theorem dX12_ahead_80 : decode cX12_ahead 80 = .ok (.iconst 5, 1) := by decide +kernel
theorem dX12_ahead_81 : decode cX12_ahead 81 = .ok (.goto 4, 3) := by decide +kernel
theorem dX12_ahead_84 : decode cX12_ahead 84 = .ok (.iconst 4, 1) := by decide +kernel
theorem dX12_ahead_85 : decode cX12_ahead 85 = .ok (.invokevirtual 72, 3) := by decide +kernel
theorem dX12_ahead_88 : decode cX12_ahead 88 = .ok (.istore 5, 2) := by decide +kernel
theorem dX12_ahead_90 : decode cX12_ahead 90 = .ok (.aload_n 0, 1) := by decide +kernel
theorem dX12_ahead_91 : decode cX12_ahead 91 = .ok (.invokevirtual 196, 3) := by decide +kernel
theorem dX12_ahead_94 : decode cX12_ahead 94 = .ok (.iload 5, 2) := by decide +kernel
theorem dX12_ahead_96 : decode cX12_ahead 96 = .ok (.ireturn, 1) := by decide +kernel
def q12_ahead (σ : St) (p_a : Int32) (n_a : Int32) (what_a : Int32) : Option (Int32 × St) :=
  Option.bind (Option.bind (q12_isOne σ p_a) fun x6_ =>
  if ¬ (x6_ = true) then (some (1 : Int32)) else (some (if ¬ (q12_isIn n_a 0 60 = true) then 2 else if ¬ (q12_isIn what_a 0 2 = true) then 3 else 0))) fun x1_ =>
  lt (up σ 0 0 x1_) fun σ20_ =>
  if 0 < (σ20_ 0 0) then (some (0, σ20_)) else
  Option.bind (q12_putsAside σ20_) fun x26_ =>
  Option.bind (q12_goes x26_ n_a false) fun x28_ =>
  Option.bind (q12_of x28_.2 p_a (if what_a = 0 then 0 else if what_a = 1 then 5 else 4)) fun x40_ =>
  Option.bind (q12_comesBack x28_.2) fun x42_ =>
  some (x40_, x42_)
abbrev rm12_ahead : Room := { frames := 80, cells := 0, slots := 0, locals := 4263 }
set_option maxHeartbeats 4000000 in
set_option maxRecDepth 100000 in
theorem p12_ahead {Θ : Tz} {σ : St} {ρ : Option Value × St} (C : Zc Θ cX12_ahead 6 RX12 (some .int) rm12_ahead) (hkd : Θ.2.2.2.2.1 = kdM) {p_a : Int32} {n_a : Int32} {what_a : Int32} {r : (Int32 × St)} (hf : q12_ahead σ p_a n_a what_a = some r) (hρ : ρ = (some (.int r.1), r.2)) : Z Θ 6 0 0 (zQ Θ ρ) σ 0 [(0, .ref (zA Θ 0)), (1, .int p_a), (2, .int n_a), (3, .int what_a)] [] := by
  unfold q12_ahead at hf
  refine z_aload_n C 0 dX12_ahead_0 rfl rfl ?_
  obtain ⟨x1_, h2_, hf⟩ := ob hf
  suffices K3_ : Z Θ 6 0 0 (zQ Θ ρ) σ 41 [(0, .ref (zA Θ 0)), (1, .int p_a), (2, .int n_a), (3, .int what_a)] [.int x1_, .ref (zA Θ 0)] by
    refine z_aload_n C 0 dX12_ahead_1 rfl rfl ?_
    refine z_iload_n C 1 dX12_ahead_2 rfl rfl ?_
    obtain ⟨x6_, h7_, h2_⟩ := ob h2_
    refine cr12_347 (p_a := p_a) C hkd  h7_ ⟨(Nat.le_of_ble_eq_true rfl), (Nat.le_of_ble_eq_true rfl)⟩ (Nat.le_of_ble_eq_true rfl) ⟨Nat.zero_le _, Nat.zero_le _⟩ dX12_ahead_3 ?_
    have K4_ : ¬ (x6_ = true) → Z Θ 6 0 0 (zQ Θ ρ) σ 9 [(0, .ref (zA Θ 0)), (1, .int p_a), (2, .int n_a), (3, .int what_a)] [.ref (zA Θ 0)] := by
      intro h19_
      rw [if_pos h19_] at h2_
      refine z_iconst (v := 1) C dX12_ahead_9 ic_1 ?_
      refine z_goto C 41 dX12_ahead_10 (by decide) ?_
      cases h2_
      exact K3_
    have K5_ : ¬ (¬ (x6_ = true)) → Z Θ 6 0 0 (zQ Θ ρ) σ 13 [(0, .ref (zA Θ 0)), (1, .int p_a), (2, .int n_a), (3, .int what_a)] [.ref (zA Θ 0)] := by
      intro h19_
      rw [if_neg h19_] at h2_
      suffices K9_ : Z Θ 6 0 0 (zQ Θ ρ) σ 41 [(0, .ref (zA Θ 0)), (1, .int p_a), (2, .int n_a), (3, .int what_a)] [.int (if ¬ (q12_isIn n_a 0 60 = true) then 2 else if ¬ (q12_isIn what_a 0 2 = true) then 3 else 0), .ref (zA Θ 0)] by
        have K10_ : ¬ (q12_isIn n_a 0 60 = true) → Z Θ 6 0 0 (zQ Θ ρ) σ 23 [(0, .ref (zA Θ 0)), (1, .int p_a), (2, .int n_a), (3, .int what_a)] [.ref (zA Θ 0)] := by
          intro h18_
          rw [if_pos h18_] at K9_
          refine z_iconst (v := 2) C dX12_ahead_23 ic_2 ?_
          refine z_goto C 41 dX12_ahead_24 (by decide) ?_
          exact K9_
        have K11_ : ¬ (¬ (q12_isIn n_a 0 60 = true)) → Z Θ 6 0 0 (zQ Θ ρ) σ 27 [(0, .ref (zA Θ 0)), (1, .int p_a), (2, .int n_a), (3, .int what_a)] [.ref (zA Θ 0)] := by
          intro h18_
          rw [if_neg h18_] at K9_
          suffices K13_ : Z Θ 6 0 0 (zQ Θ ρ) σ 41 [(0, .ref (zA Θ 0)), (1, .int p_a), (2, .int n_a), (3, .int what_a)] [.int (if ¬ (q12_isIn what_a 0 2 = true) then 3 else 0), .ref (zA Θ 0)] by
            have K14_ : ¬ (q12_isIn what_a 0 2 = true) → Z Θ 6 0 0 (zQ Θ ρ) σ 36 [(0, .ref (zA Θ 0)), (1, .int p_a), (2, .int n_a), (3, .int what_a)] [.ref (zA Θ 0)] := by
              intro h17_
              rw [if_pos h17_] at K13_
              refine z_iconst (v := 3) C dX12_ahead_36 ic_3 ?_
              refine z_goto C 41 dX12_ahead_37 (by decide) ?_
              exact K13_
            have K15_ : ¬ (¬ (q12_isIn what_a 0 2 = true)) → Z Θ 6 0 0 (zQ Θ ρ) σ 40 [(0, .ref (zA Θ 0)), (1, .int p_a), (2, .int n_a), (3, .int what_a)] [.ref (zA Θ 0)] := by
              intro h17_
              rw [if_neg h17_] at K13_
              refine z_iconst (v := 0) C dX12_ahead_40 ic_0 ?_
              exact K13_
            refine z_iload_n C 3 dX12_ahead_27 rfl rfl ?_
            refine z_iconst (v := 0) C dX12_ahead_28 ic_0 ?_
            refine z_iconst (v := 2) C dX12_ahead_29 ic_2 ?_
            refine cr12_68 (v_a := what_a) (low_a := 0) (high_a := 2) C hkd  ⟨(Nat.le_of_ble_eq_true rfl), (Nat.le_of_ble_eq_true rfl)⟩ (Nat.le_of_ble_eq_true rfl) ⟨Nat.zero_le _, Nat.zero_le _⟩ dX12_ahead_30 ?_
            refine cb_t C 40 dX12_ahead_33 (by decide) (fun h16_ => ?_) (fun h16_ => ?_)
            · exact K15_ (fun n => n h16_)
            · exact K14_ h16_
          exact K9_
        refine z_iload_n C 2 dX12_ahead_13 rfl rfl ?_
        refine z_iconst (v := 0) C dX12_ahead_14 ic_0 ?_
        refine z_bipush (v := 60) C dX12_ahead_15 bp_60 ?_
        refine cr12_68 (v_a := n_a) (low_a := 0) (high_a := 60) C hkd  ⟨(Nat.le_of_ble_eq_true rfl), (Nat.le_of_ble_eq_true rfl)⟩ (Nat.le_of_ble_eq_true rfl) ⟨Nat.zero_le _, Nat.zero_le _⟩ dX12_ahead_17 ?_
        refine cb_t C 27 dX12_ahead_20 (by decide) (fun h12_ => ?_) (fun h12_ => ?_)
        · exact K11_ (fun n => n h12_)
        · exact K10_ h12_
      cases h2_
      exact K3_
    refine cb_t C 13 dX12_ahead_6 (by decide) (fun h8_ => ?_) (fun h8_ => ?_)
    · exact K5_ (fun n => n h8_)
    · exact K4_ h8_
  obtain ⟨σ20_, h21_, hf⟩ := lt_ hf
  refine fp12_65 C hkd h21_ dX12_ahead_41 ?_
  have K22_ : 0 < (σ20_ 0 0) → Z Θ 6 0 0 (zQ Θ ρ) σ20_ 51 [(0, .ref (zA Θ 0)), (1, .int p_a), (2, .int n_a), (3, .int what_a)] [] := by
    intro h25_
    rw [if_pos h25_] at hf
    refine z_iconst (v := 0) C dX12_ahead_51 ic_0 ?_
    cases hf
    subst hρ
    exact z_iret C dX12_ahead_52
  suffices K23_ : ¬ (0 < (σ20_ 0 0)) → Z Θ 6 0 0 (zQ Θ ρ) σ20_ 53 [(0, .ref (zA Θ 0)), (1, .int p_a), (2, .int n_a), (3, .int what_a)] [] by
    refine z_aload_n C 0 dX12_ahead_44 rfl rfl ?_
    refine fg12_65 C hkd dX12_ahead_45 ?_
    refine c0_gt_f C 53 dX12_ahead_48 (by decide) (fun h24_ => ?_) (fun h24_ => ?_)
    · exact K22_ h24_
    · exact K23_ h24_
  intro h25_
  rw [if_neg h25_] at hf
  refine z_aload_n C 0 dX12_ahead_53 rfl rfl ?_
  obtain ⟨x26_, h27_, hf⟩ := ob hf
  refine cr12_186 C hkd  h27_ ⟨(Nat.le_of_ble_eq_true rfl), (Nat.le_of_ble_eq_true rfl)⟩ (Nat.le_of_ble_eq_true rfl) ⟨Nat.zero_le _, Nat.zero_le _⟩ dX12_ahead_54 ?_
  refine z_aload_n C 0 dX12_ahead_57 rfl rfl ?_
  refine z_iload_n C 2 dX12_ahead_58 rfl rfl ?_
  refine z_iconst (v := 0) C dX12_ahead_59 ic_0 ?_
  obtain ⟨x28_, h29_, hf⟩ := ob hf
  refine cr12_369 (n_a := n_a) (draws_a := false) C hkd  h29_ ⟨(Nat.le_of_ble_eq_true rfl), (Nat.le_of_ble_eq_true rfl)⟩ (Nat.le_of_ble_eq_true rfl) ⟨Nat.zero_le _, Nat.zero_le _⟩ dX12_ahead_60 ?_
  refine z_ist C dX12_ahead_63 rfl (Nat.le_of_ble_eq_true rfl) rfl ?_
  refine z_aload_n C 1 dX12_ahead_65 rfl rfl ?_
  refine z_iload_n C 2 dX12_ahead_66 rfl rfl ?_
  suffices K30_ : Z Θ 6 0 0 (zQ Θ ρ) x28_.2 85 [(4, .int x28_.1), (0, .ref (zA Θ 0)), (1, .int p_a), (2, .int n_a), (3, .int what_a)] [.int (if what_a = 0 then 0 else if what_a = 1 then 5 else 4), .int p_a, .ref (zA Θ 0)] by
    have K31_ : what_a = 0 → Z Θ 6 0 0 (zQ Θ ρ) x28_.2 71 [(4, .int x28_.1), (0, .ref (zA Θ 0)), (1, .int p_a), (2, .int n_a), (3, .int what_a)] [.int p_a, .ref (zA Θ 0)] := by
      intro h39_
      rw [if_pos h39_] at K30_
      refine z_iconst (v := 0) C dX12_ahead_71 ic_0 ?_
      refine z_goto C 85 dX12_ahead_72 (by decide) ?_
      exact K30_
    have K32_ : ¬ (what_a = 0) → Z Θ 6 0 0 (zQ Θ ρ) x28_.2 75 [(4, .int x28_.1), (0, .ref (zA Θ 0)), (1, .int p_a), (2, .int n_a), (3, .int what_a)] [.int p_a, .ref (zA Θ 0)] := by
      intro h39_
      rw [if_neg h39_] at K30_
      suffices K34_ : Z Θ 6 0 0 (zQ Θ ρ) x28_.2 85 [(4, .int x28_.1), (0, .ref (zA Θ 0)), (1, .int p_a), (2, .int n_a), (3, .int what_a)] [.int (if what_a = 1 then 5 else 4), .int p_a, .ref (zA Θ 0)] by
        have K35_ : what_a = 1 → Z Θ 6 0 0 (zQ Θ ρ) x28_.2 80 [(4, .int x28_.1), (0, .ref (zA Θ 0)), (1, .int p_a), (2, .int n_a), (3, .int what_a)] [.int p_a, .ref (zA Θ 0)] := by
          intro h38_
          rw [if_pos h38_] at K34_
          refine z_iconst (v := 5) C dX12_ahead_80 ic_5 ?_
          refine z_goto C 85 dX12_ahead_81 (by decide) ?_
          exact K34_
        have K36_ : ¬ (what_a = 1) → Z Θ 6 0 0 (zQ Θ ρ) x28_.2 84 [(4, .int x28_.1), (0, .ref (zA Θ 0)), (1, .int p_a), (2, .int n_a), (3, .int what_a)] [.int p_a, .ref (zA Θ 0)] := by
          intro h38_
          rw [if_neg h38_] at K34_
          refine z_iconst (v := 4) C dX12_ahead_84 ic_4 ?_
          exact K34_
        refine z_iload_n C 4 dX12_ahead_75 rfl rfl ?_
        refine z_iconst (v := 1) C dX12_ahead_76 ic_1 ?_
        refine c_eq_f C 84 dX12_ahead_77 (by decide) (fun h37_ => ?_) (fun h37_ => ?_)
        · exact K35_ h37_
        · exact K36_ h37_
      exact K30_
    refine z_iload_n C 4 dX12_ahead_67 rfl rfl ?_
    refine c0_eq_f C 75 dX12_ahead_68 (by decide) (fun h33_ => ?_) (fun h33_ => ?_)
    · exact K31_ h33_
    · exact K32_ h33_
  obtain ⟨x40_, h41_, hf⟩ := ob hf
  refine cr12_72 (p_a := p_a) (what_a := (if what_a = 0 then 0 else if what_a = 1 then 5 else 4)) C hkd  h41_ ⟨(Nat.le_of_ble_eq_true rfl), (Nat.le_of_ble_eq_true rfl)⟩ (Nat.le_of_ble_eq_true rfl) ⟨Nat.zero_le _, Nat.zero_le _⟩ dX12_ahead_85 ?_
  refine z_ist C dX12_ahead_88 rfl (Nat.le_of_ble_eq_true rfl) rfl ?_
  refine z_aload_n C 2 dX12_ahead_90 rfl rfl ?_
  obtain ⟨x42_, h43_, hf⟩ := ob hf
  refine cr12_196 C hkd  h43_ ⟨(Nat.le_of_ble_eq_true rfl), (Nat.le_of_ble_eq_true rfl)⟩ (Nat.le_of_ble_eq_true rfl) ⟨Nat.zero_le _, Nat.zero_le _⟩ dX12_ahead_91 ?_
  refine z_iload C 0 dX12_ahead_94 rfl ?_
  cases hf
  subst hρ
  exact z_iret C dX12_ahead_96
theorem c12_ahead {l : Launch} {kd : List KD} {w : Wp} {σ : St} {p_a : Int32} {n_a : Int32} {what_a : Int32} (hkd : kd = kdM) (hi : zI kd w) {r : (Int32 × St)} (hf : q12_ahead σ p_a n_a what_a = some r) : zM l kd w yX12_ahead cX12_ahead 6 (some .int) rm12_ahead [.ref (w.2.2.1 0), .int p_a, .int n_a, .int what_a] σ (some (.int r.1), r.2) := zM_of rfl hi (Nat.le_of_ble_eq_true rfl) (fun Θ hl hw C => by
  obtain ⟨Θ1, Θ2, Θ3, Θ4, Θ5⟩ := Θ
  cases hw
  exact p12_ahead C hkd  hf rfl)
/-! LastLoafModel.trial -/
theorem dX12_trial_0 : decode cX12_trial 0 = .ok (.aload_n 0, 1) := by decide +kernel
theorem dX12_trial_1 : decode cX12_trial 1 = .ok (.iload_n 1, 1) := by decide +kernel
theorem dX12_trial_2 : decode cX12_trial 2 = .ok (.iconst 0, 1) := by decide +kernel
theorem dX12_trial_3 : decode cX12_trial 3 = .ok (.bipush 60, 2) := by decide +kernel
theorem dX12_trial_5 : decode cX12_trial 5 = .ok (.invokestatic 68, 3) := by decide +kernel
theorem dX12_trial_8 : decode cX12_trial 8 = .ok (.ifCond .ne 7, 3) := by decide +kernel
theorem dX12_trial_11 : decode cX12_trial 11 = .ok (.iconst 1, 1) := by decide +kernel
theorem dX12_trial_12 : decode cX12_trial 12 = .ok (.goto 4, 3) := by decide +kernel
theorem dX12_trial_15 : decode cX12_trial 15 = .ok (.iconst 0, 1) := by decide +kernel
theorem dX12_trial_16 : decode cX12_trial 16 = .ok (.putfield 65, 3) := by decide +kernel
theorem dX12_trial_19 : decode cX12_trial 19 = .ok (.aload_n 0, 1) := by decide +kernel
theorem dX12_trial_20 : decode cX12_trial 20 = .ok (.getfield 65, 3) := by decide +kernel
theorem dX12_trial_23 : decode cX12_trial 23 = .ok (.ifCond .le 5, 3) := by decide +kernel
theorem dX12_trial_26 : decode cX12_trial 26 = .ok (.iconst 0, 1) := by decide +kernel
theorem dX12_trial_27 : decode cX12_trial 27 = .ok (.ireturn, 1) := by decide +kernel
theorem dX12_trial_28 : decode cX12_trial 28 = .ok (.aload_n 0, 1) := by decide +kernel
theorem dX12_trial_29 : decode cX12_trial 29 = .ok (.invokevirtual 186, 3) := by decide +kernel
theorem dX12_trial_32 : decode cX12_trial 32 = .ok (.aload_n 0, 1) := by decide +kernel
theorem dX12_trial_33 : decode cX12_trial 33 = .ok (.iload_n 1, 1) := by decide +kernel
theorem dX12_trial_34 : decode cX12_trial 34 = .ok (.iconst 1, 1) := by decide +kernel
theorem dX12_trial_35 : decode cX12_trial 35 = .ok (.invokevirtual 369, 3) := by decide +kernel
theorem dX12_trial_38 : decode cX12_trial 38 = .ok (.istore_n 3, 1) := by decide +kernel
theorem dX12_trial_39 : decode cX12_trial 39 = .ok (.iload_n 2, 1) := by decide +kernel
theorem dX12_trial_40 : decode cX12_trial 40 = .ok (.ifCond .eq 11, 3) := by decide +kernel
theorem dX12_trial_43 : decode cX12_trial 43 = .ok (.aload_n 0, 1) := by decide +kernel
theorem dX12_trial_44 : decode cX12_trial 44 = .ok (.iconst 0, 1) := by decide +kernel
theorem dX12_trial_45 : decode cX12_trial 45 = .ok (.invokevirtual 359, 3) := by decide +kernel
theorem dX12_trial_48 : decode cX12_trial 48 = .ok (.goto 8, 3) := by decide +kernel
theorem dX12_trial_51 : decode cX12_trial 51 = .ok (.aload_n 0, 1) := by decide +kernel
theorem dX12_trial_52 : decode cX12_trial 52 = .ok (.iconst 4, 1) := by decide +kernel
theorem dX12_trial_53 : decode cX12_trial 53 = .ok (.invokevirtual 266, 3) := by decide +kernel
theorem dX12_trial_56 : decode cX12_trial 56 = .ok (.istore 4, 2) := by decide +kernel
theorem dX12_trial_58 : decode cX12_trial 58 = .ok (.aload_n 0, 1) := by decide +kernel
theorem dX12_trial_59 : decode cX12_trial 59 = .ok (.invokevirtual 196, 3) := by decide +kernel
theorem dX12_trial_62 : decode cX12_trial 62 = .ok (.iload 4, 2) := by decide +kernel
theorem dX12_trial_64 : decode cX12_trial 64 = .ok (.ireturn, 1) := by decide +kernel
def q12_trial (σ : St) (n_a : Int32) (hunger_a : Bool) : Option (Int32 × St) :=
  lt (up σ 0 0 (if ¬ (q12_isIn n_a 0 60 = true) then 1 else 0)) fun σ6_ =>
  if 0 < (σ6_ 0 0) then (some (0, σ6_)) else
  Option.bind (q12_putsAside σ6_) fun x12_ =>
  Option.bind (q12_goes x12_ n_a true) fun x14_ =>
  Option.bind (if hunger_a = true then (Option.bind (q12_sumOf x14_.2 0) fun x22_ =>
  some x22_) else (Option.bind (q12_those x14_.2 4) fun x24_ =>
  some x24_)) fun x16_ =>
  Option.bind (q12_comesBack x14_.2) fun x27_ =>
  some (x16_, x27_)
abbrev rm12_trial : Room := { frames := 80, cells := 0, slots := 0, locals := 4263 }
set_option maxHeartbeats 4000000 in
set_option maxRecDepth 100000 in
theorem p12_trial {Θ : Tz} {σ : St} {ρ : Option Value × St} (C : Zc Θ cX12_trial 5 RX12 (some .int) rm12_trial) (hkd : Θ.2.2.2.2.1 = kdM) {n_a : Int32} {hunger_a : Bool} {r : (Int32 × St)} (hf : q12_trial σ n_a hunger_a = some r) (hρ : ρ = (some (.int r.1), r.2)) : Z Θ 5 0 0 (zQ Θ ρ) σ 0 [(0, .ref (zA Θ 0)), (1, .int n_a), (2, .int (b2i hunger_a))] [] := by
  unfold q12_trial at hf
  refine z_aload_n C 0 dX12_trial_0 rfl rfl ?_
  suffices K1_ : Z Θ 5 0 0 (zQ Θ ρ) σ 16 [(0, .ref (zA Θ 0)), (1, .int n_a), (2, .int (b2i hunger_a))] [.int (if ¬ (q12_isIn n_a 0 60 = true) then 1 else 0), .ref (zA Θ 0)] by
    have K2_ : ¬ (q12_isIn n_a 0 60 = true) → Z Θ 5 0 0 (zQ Θ ρ) σ 11 [(0, .ref (zA Θ 0)), (1, .int n_a), (2, .int (b2i hunger_a))] [.ref (zA Θ 0)] := by
      intro h5_
      rw [if_pos h5_] at K1_
      refine z_iconst (v := 1) C dX12_trial_11 ic_1 ?_
      refine z_goto C 16 dX12_trial_12 (by decide) ?_
      exact K1_
    have K3_ : ¬ (¬ (q12_isIn n_a 0 60 = true)) → Z Θ 5 0 0 (zQ Θ ρ) σ 15 [(0, .ref (zA Θ 0)), (1, .int n_a), (2, .int (b2i hunger_a))] [.ref (zA Θ 0)] := by
      intro h5_
      rw [if_neg h5_] at K1_
      refine z_iconst (v := 0) C dX12_trial_15 ic_0 ?_
      exact K1_
    refine z_iload_n C 1 dX12_trial_1 rfl rfl ?_
    refine z_iconst (v := 0) C dX12_trial_2 ic_0 ?_
    refine z_bipush (v := 60) C dX12_trial_3 bp_60 ?_
    refine cr12_68 (v_a := n_a) (low_a := 0) (high_a := 60) C hkd  ⟨(Nat.le_of_ble_eq_true rfl), (Nat.le_of_ble_eq_true rfl)⟩ (Nat.le_of_ble_eq_true rfl) ⟨Nat.zero_le _, Nat.zero_le _⟩ dX12_trial_5 ?_
    refine cb_t C 15 dX12_trial_8 (by decide) (fun h4_ => ?_) (fun h4_ => ?_)
    · exact K3_ (fun n => n h4_)
    · exact K2_ h4_
  obtain ⟨σ6_, h7_, hf⟩ := lt_ hf
  refine fp12_65 C hkd h7_ dX12_trial_16 ?_
  have K8_ : 0 < (σ6_ 0 0) → Z Θ 5 0 0 (zQ Θ ρ) σ6_ 26 [(0, .ref (zA Θ 0)), (1, .int n_a), (2, .int (b2i hunger_a))] [] := by
    intro h11_
    rw [if_pos h11_] at hf
    refine z_iconst (v := 0) C dX12_trial_26 ic_0 ?_
    cases hf
    subst hρ
    exact z_iret C dX12_trial_27
  suffices K9_ : ¬ (0 < (σ6_ 0 0)) → Z Θ 5 0 0 (zQ Θ ρ) σ6_ 28 [(0, .ref (zA Θ 0)), (1, .int n_a), (2, .int (b2i hunger_a))] [] by
    refine z_aload_n C 0 dX12_trial_19 rfl rfl ?_
    refine fg12_65 C hkd dX12_trial_20 ?_
    refine c0_gt_f C 28 dX12_trial_23 (by decide) (fun h10_ => ?_) (fun h10_ => ?_)
    · exact K8_ h10_
    · exact K9_ h10_
  intro h11_
  rw [if_neg h11_] at hf
  refine z_aload_n C 0 dX12_trial_28 rfl rfl ?_
  obtain ⟨x12_, h13_, hf⟩ := ob hf
  refine cr12_186 C hkd  h13_ ⟨(Nat.le_of_ble_eq_true rfl), (Nat.le_of_ble_eq_true rfl)⟩ (Nat.le_of_ble_eq_true rfl) ⟨Nat.zero_le _, Nat.zero_le _⟩ dX12_trial_29 ?_
  refine z_aload_n C 0 dX12_trial_32 rfl rfl ?_
  refine z_iload_n C 1 dX12_trial_33 rfl rfl ?_
  refine z_iconst (v := 1) C dX12_trial_34 ic_1 ?_
  obtain ⟨x14_, h15_, hf⟩ := ob hf
  refine cr12_369 (n_a := n_a) (draws_a := true) C hkd  h15_ ⟨(Nat.le_of_ble_eq_true rfl), (Nat.le_of_ble_eq_true rfl)⟩ (Nat.le_of_ble_eq_true rfl) ⟨Nat.zero_le _, Nat.zero_le _⟩ dX12_trial_35 ?_
  refine z_istN C dX12_trial_38 rfl rfl (Nat.le_of_ble_eq_true rfl) rfl ?_
  obtain ⟨x16_, h17_, hf⟩ := ob hf
  suffices K18_ : Z Θ 5 0 0 (zQ Θ ρ) x14_.2 56 [(3, .int x14_.1), (0, .ref (zA Θ 0)), (1, .int n_a), (2, .int (b2i hunger_a))] [.int x16_] by
    have K19_ : hunger_a = true → Z Θ 5 0 0 (zQ Θ ρ) x14_.2 43 [(3, .int x14_.1), (0, .ref (zA Θ 0)), (1, .int n_a), (2, .int (b2i hunger_a))] [] := by
      intro h26_
      rw [if_pos h26_] at h17_
      refine z_aload_n C 1 dX12_trial_43 rfl rfl ?_
      refine z_iconst (v := 0) C dX12_trial_44 ic_0 ?_
      obtain ⟨x22_, h23_, h17_⟩ := ob h17_
      refine cr12_359 (what_a := 0) C hkd  h23_ ⟨(Nat.le_of_ble_eq_true rfl), (Nat.le_of_ble_eq_true rfl)⟩ (Nat.le_of_ble_eq_true rfl) ⟨Nat.zero_le _, Nat.zero_le _⟩ dX12_trial_45 ?_
      refine z_goto C 56 dX12_trial_48 (by decide) ?_
      cases h17_
      exact K18_
    have K20_ : ¬ (hunger_a = true) → Z Θ 5 0 0 (zQ Θ ρ) x14_.2 51 [(3, .int x14_.1), (0, .ref (zA Θ 0)), (1, .int n_a), (2, .int (b2i hunger_a))] [] := by
      intro h26_
      rw [if_neg h26_] at h17_
      refine z_aload_n C 1 dX12_trial_51 rfl rfl ?_
      refine z_iconst (v := 4) C dX12_trial_52 ic_4 ?_
      obtain ⟨x24_, h25_, h17_⟩ := ob h17_
      refine cr12_266 (what_a := 4) C hkd  h25_ ⟨(Nat.le_of_ble_eq_true rfl), (Nat.le_of_ble_eq_true rfl)⟩ (Nat.le_of_ble_eq_true rfl) ⟨Nat.zero_le _, Nat.zero_le _⟩ dX12_trial_53 ?_
      cases h17_
      exact K18_
    refine z_iload_n C 3 dX12_trial_39 rfl rfl ?_
    refine cb_f C 51 dX12_trial_40 (by decide) (fun h21_ => ?_) (fun h21_ => ?_)
    · exact K19_ h21_
    · exact K20_ h21_
  refine z_ist C dX12_trial_56 rfl (Nat.le_of_ble_eq_true rfl) rfl ?_
  refine z_aload_n C 2 dX12_trial_58 rfl rfl ?_
  obtain ⟨x27_, h28_, hf⟩ := ob hf
  refine cr12_196 C hkd  h28_ ⟨(Nat.le_of_ble_eq_true rfl), (Nat.le_of_ble_eq_true rfl)⟩ (Nat.le_of_ble_eq_true rfl) ⟨Nat.zero_le _, Nat.zero_le _⟩ dX12_trial_59 ?_
  refine z_iload C 0 dX12_trial_62 rfl ?_
  cases hf
  subst hρ
  exact z_iret C dX12_trial_64
theorem c12_trial {l : Launch} {kd : List KD} {w : Wp} {σ : St} {n_a : Int32} {hunger_a : Bool} (hkd : kd = kdM) (hi : zI kd w) {r : (Int32 × St)} (hf : q12_trial σ n_a hunger_a = some r) : zM l kd w yX12_trial cX12_trial 5 (some .int) rm12_trial [.ref (w.2.2.1 0), .int n_a, .int (b2i hunger_a)] σ (some (.int r.1), r.2) := zM_of rfl hi (Nat.le_of_ble_eq_true rfl) (fun Θ hl hw C => by
  obtain ⟨Θ1, Θ2, Θ3, Θ4, Θ5⟩ := Θ
  cases hw
  exact p12_trial C hkd  hf rfl)
/-! LastLoafModel.span -/
theorem dX12_span_0 : decode cX12_span 0 = .ok (.aload_n 0, 1) := by decide +kernel
theorem dX12_span_1 : decode cX12_span 1 = .ok (.iload_n 1, 1) := by decide +kernel
theorem dX12_span_2 : decode cX12_span 2 = .ok (.iconst 0, 1) := by decide +kernel
theorem dX12_span_3 : decode cX12_span 3 = .ok (.bipush 60, 2) := by decide +kernel
theorem dX12_span_5 : decode cX12_span 5 = .ok (.invokestatic 68, 3) := by decide +kernel
theorem dX12_span_8 : decode cX12_span 8 = .ok (.ifCond .ne 7, 3) := by decide +kernel
theorem dX12_span_11 : decode cX12_span 11 = .ok (.iconst 1, 1) := by decide +kernel
theorem dX12_span_12 : decode cX12_span 12 = .ok (.goto 4, 3) := by decide +kernel
theorem dX12_span_15 : decode cX12_span 15 = .ok (.iconst 0, 1) := by decide +kernel
theorem dX12_span_16 : decode cX12_span 16 = .ok (.putfield 65, 3) := by decide +kernel
theorem dX12_span_19 : decode cX12_span 19 = .ok (.aload_n 0, 1) := by decide +kernel
theorem dX12_span_20 : decode cX12_span 20 = .ok (.getfield 65, 3) := by decide +kernel
theorem dX12_span_23 : decode cX12_span 23 = .ok (.ifCond .le 5, 3) := by decide +kernel
theorem dX12_span_26 : decode cX12_span 26 = .ok (.iconst 0, 1) := by decide +kernel
theorem dX12_span_27 : decode cX12_span 27 = .ok (.ireturn, 1) := by decide +kernel
theorem dX12_span_28 : decode cX12_span 28 = .ok (.aload_n 0, 1) := by decide +kernel
theorem dX12_span_29 : decode cX12_span 29 = .ok (.invokevirtual 186, 3) := by decide +kernel
theorem dX12_span_32 : decode cX12_span 32 = .ok (.iconst (-1), 1) := by decide +kernel
theorem dX12_span_33 : decode cX12_span 33 = .ok (.istore_n 3, 1) := by decide +kernel
theorem dX12_span_34 : decode cX12_span 34 = .ok (.iconst 1, 1) := by decide +kernel
theorem dX12_span_35 : decode cX12_span 35 = .ok (.istore 4, 2) := by decide +kernel
theorem dX12_span_37 : decode cX12_span 37 = .ok (.iload 4, 2) := by decide +kernel
theorem dX12_span_39 : decode cX12_span 39 = .ok (.bipush 6, 2) := by decide +kernel
theorem dX12_span_41 : decode cX12_span 41 = .ok (.if_icmp .gt 70, 3) := by decide +kernel
theorem dX12_span_44 : decode cX12_span 44 = .ok (.aload_n 0, 1) := by decide +kernel
theorem dX12_span_45 : decode cX12_span 45 = .ok (.getfield 7, 3) := by decide +kernel
theorem dX12_span_48 : decode cX12_span 48 = .ok (.bipush 9, 2) := by decide +kernel
theorem dX12_span_50 : decode cX12_span 50 = .ok (.iload 4, 2) := by decide +kernel
theorem dX12_span_52 : decode cX12_span 52 = .ok (.iastore, 1) := by decide +kernel
theorem dX12_span_53 : decode cX12_span 53 = .ok (.aload_n 0, 1) := by decide +kernel
theorem dX12_span_54 : decode cX12_span 54 = .ok (.iload_n 1, 1) := by decide +kernel
theorem dX12_span_55 : decode cX12_span 55 = .ok (.iconst 1, 1) := by decide +kernel
theorem dX12_span_56 : decode cX12_span 56 = .ok (.invokevirtual 369, 3) := by decide +kernel
theorem dX12_span_59 : decode cX12_span 59 = .ok (.istore 5, 2) := by decide +kernel
theorem dX12_span_61 : decode cX12_span 61 = .ok (.aload_n 0, 1) := by decide +kernel
theorem dX12_span_62 : decode cX12_span 62 = .ok (.iconst 4, 1) := by decide +kernel
theorem dX12_span_63 : decode cX12_span 63 = .ok (.invokevirtual 266, 3) := by decide +kernel
theorem dX12_span_66 : decode cX12_span 66 = .ok (.invokestatic 286, 3) := by decide +kernel
theorem dX12_span_69 : decode cX12_span 69 = .ok (.istore 6, 2) := by decide +kernel
theorem dX12_span_71 : decode cX12_span 71 = .ok (.aload_n 0, 1) := by decide +kernel
theorem dX12_span_72 : decode cX12_span 72 = .ok (.invokevirtual 196, 3) := by decide +kernel
theorem dX12_span_75 : decode cX12_span 75 = .ok (.iload_n 3, 1) := by decide +kernel
theorem dX12_span_76 : decode cX12_span 76 = .ok (.iconst (-1), 1) := by decide +kernel
theorem dX12_span_77 : decode cX12_span 77 = .ok (.if_icmp .ne 8, 3) := by decide +kernel
theorem dX12_span_80 : decode cX12_span 80 = .ok (.iload 6, 2) := by decide +kernel
theorem dX12_span_82 : decode cX12_span 82 = .ok (.goto 22, 3) := by decide +kernel
theorem dX12_span_85 : decode cX12_span 85 = .ok (.iload_n 2, 1) := by decide +kernel
theorem dX12_span_86 : decode cX12_span 86 = .ok (.ifCond .eq 12, 3) := by decide +kernel
theorem dX12_span_89 : decode cX12_span 89 = .ok (.iload_n 3, 1) := by decide +kernel
theorem dX12_span_90 : decode cX12_span 90 = .ok (.iload 6, 2) := by decide +kernel
theorem dX12_span_92 : decode cX12_span 92 = .ok (.invokestatic 392, 3) := by decide +kernel
theorem dX12_span_95 : decode cX12_span 95 = .ok (.goto 9, 3) := by decide +kernel
theorem dX12_span_98 : decode cX12_span 98 = .ok (.iload_n 3, 1) := by decide +kernel
theorem dX12_span_99 : decode cX12_span 99 = .ok (.iload 6, 2) := by decide +kernel
theorem dX12_span_101 : decode cX12_span 101 = .ok (.invokestatic 313, 3) := by decide +kernel
theorem dX12_span_104 : decode cX12_span 104 = .ok (.istore_n 3, 1) := by decide +kernel
theorem dX12_span_105 : decode cX12_span 105 = .ok (.iinc 4 1, 3) := by decide +kernel
theorem dX12_span_108 : decode cX12_span 108 = .ok (.goto (-71), 3) := by decide +kernel
theorem dX12_span_111 : decode cX12_span 111 = .ok (.iload_n 3, 1) := by decide +kernel
theorem dX12_span_112 : decode cX12_span 112 = .ok (.ireturn, 1) := by decide +kernel
def q12_span (σ : St) (n_a : Int32) (most_a : Bool) : Option (Int32 × St) :=
  lt (up σ 0 0 (if ¬ (q12_isIn n_a 0 60 = true) then 1 else 0)) fun σ6_ =>
  if 0 < (σ6_ 0 0) then (some (0, σ6_)) else
  Option.bind (q12_putsAside σ6_) fun x12_ =>
  Option.bind (loop3 (fun rec17_ (found20_ : Int32) (s21_ : Int32) (σ22_ : St) =>
  if s21_ ≤ 6 then
  Option.bind (sa σ22_ 1 752 9 s21_) fun σ29_ =>
  Option.bind (q12_goes σ29_ n_a true) fun x31_ =>
  Option.bind (q12_those x31_.2 4) fun x33_ =>
  Option.bind (q12_bits x33_) fun x35_ =>
  Option.bind (q12_comesBack x31_.2) fun x37_ =>
  lt (if found20_ = (-1) then x35_ else if most_a = true then q12_greater found20_ x35_ else q12_lesser found20_ x35_) fun found49_ =>
  lt (s21_ + 1) fun s51_ =>
  rec17_ found49_ s51_ x37_
  else (some (found20_, s21_, σ22_))) fuelN (-1 : Int32) (1 : Int32) x12_) fun y14_ =>
  some (y14_.1, y14_.2.2)
abbrev rm12_span : Room := { frames := 80, cells := 0, slots := 0, locals := 4263 }
set_option maxHeartbeats 4000000 in
set_option maxRecDepth 100000 in
theorem p12_span {Θ : Tz} {σ : St} {ρ : Option Value × St} (C : Zc Θ cX12_span 7 RX12 (some .int) rm12_span) (hkd : Θ.2.2.2.2.1 = kdM) {n_a : Int32} {most_a : Bool} {r : (Int32 × St)} (hf : q12_span σ n_a most_a = some r) (hρ : ρ = (some (.int r.1), r.2)) : Z Θ 7 0 0 (zQ Θ ρ) σ 0 [(0, .ref (zA Θ 0)), (1, .int n_a), (2, .int (b2i most_a))] [] := by
  unfold q12_span at hf
  refine z_aload_n C 0 dX12_span_0 rfl rfl ?_
  suffices K1_ : Z Θ 7 0 0 (zQ Θ ρ) σ 16 [(0, .ref (zA Θ 0)), (1, .int n_a), (2, .int (b2i most_a))] [.int (if ¬ (q12_isIn n_a 0 60 = true) then 1 else 0), .ref (zA Θ 0)] by
    have K2_ : ¬ (q12_isIn n_a 0 60 = true) → Z Θ 7 0 0 (zQ Θ ρ) σ 11 [(0, .ref (zA Θ 0)), (1, .int n_a), (2, .int (b2i most_a))] [.ref (zA Θ 0)] := by
      intro h5_
      rw [if_pos h5_] at K1_
      refine z_iconst (v := 1) C dX12_span_11 ic_1 ?_
      refine z_goto C 16 dX12_span_12 (by decide) ?_
      exact K1_
    have K3_ : ¬ (¬ (q12_isIn n_a 0 60 = true)) → Z Θ 7 0 0 (zQ Θ ρ) σ 15 [(0, .ref (zA Θ 0)), (1, .int n_a), (2, .int (b2i most_a))] [.ref (zA Θ 0)] := by
      intro h5_
      rw [if_neg h5_] at K1_
      refine z_iconst (v := 0) C dX12_span_15 ic_0 ?_
      exact K1_
    refine z_iload_n C 1 dX12_span_1 rfl rfl ?_
    refine z_iconst (v := 0) C dX12_span_2 ic_0 ?_
    refine z_bipush (v := 60) C dX12_span_3 bp_60 ?_
    refine cr12_68 (v_a := n_a) (low_a := 0) (high_a := 60) C hkd  ⟨(Nat.le_of_ble_eq_true rfl), (Nat.le_of_ble_eq_true rfl)⟩ (Nat.le_of_ble_eq_true rfl) ⟨Nat.zero_le _, Nat.zero_le _⟩ dX12_span_5 ?_
    refine cb_t C 15 dX12_span_8 (by decide) (fun h4_ => ?_) (fun h4_ => ?_)
    · exact K3_ (fun n => n h4_)
    · exact K2_ h4_
  obtain ⟨σ6_, h7_, hf⟩ := lt_ hf
  refine fp12_65 C hkd h7_ dX12_span_16 ?_
  have K8_ : 0 < (σ6_ 0 0) → Z Θ 7 0 0 (zQ Θ ρ) σ6_ 26 [(0, .ref (zA Θ 0)), (1, .int n_a), (2, .int (b2i most_a))] [] := by
    intro h11_
    rw [if_pos h11_] at hf
    refine z_iconst (v := 0) C dX12_span_26 ic_0 ?_
    cases hf
    subst hρ
    exact z_iret C dX12_span_27
  suffices K9_ : ¬ (0 < (σ6_ 0 0)) → Z Θ 7 0 0 (zQ Θ ρ) σ6_ 28 [(0, .ref (zA Θ 0)), (1, .int n_a), (2, .int (b2i most_a))] [] by
    refine z_aload_n C 0 dX12_span_19 rfl rfl ?_
    refine fg12_65 C hkd dX12_span_20 ?_
    refine c0_gt_f C 28 dX12_span_23 (by decide) (fun h10_ => ?_) (fun h10_ => ?_)
    · exact K8_ h10_
    · exact K9_ h10_
  intro h11_
  rw [if_neg h11_] at hf
  refine z_aload_n C 0 dX12_span_28 rfl rfl ?_
  obtain ⟨x12_, h13_, hf⟩ := ob hf
  refine cr12_186 C hkd  h13_ ⟨(Nat.le_of_ble_eq_true rfl), (Nat.le_of_ble_eq_true rfl)⟩ (Nat.le_of_ble_eq_true rfl) ⟨Nat.zero_le _, Nat.zero_le _⟩ dX12_span_29 ?_
  refine z_iconst (v := (-1)) C dX12_span_32 ic_m1 ?_
  refine z_istN C dX12_span_33 rfl rfl (Nat.le_of_ble_eq_true rfl) rfl ?_
  refine z_iconst (v := 1) C dX12_span_34 ic_1 ?_
  refine z_ist C dX12_span_35 rfl (Nat.le_of_ble_eq_true rfl) rfl ?_
  refine Z.sub [2, 3, 4, 1, 0] rfl ?_
  obtain ⟨y14_, h15_, hf⟩ := ob hf
  suffices K16_ : Z Θ 7 0 0 (zQ Θ ρ) y14_.2.2 111 [(0, .ref (zA Θ 0)), (1, .int n_a), (2, .int (b2i most_a)), (3, .int y14_.1), (4, .int y14_.2.1)] [] by
    refine loop3_Z (P := fun (found20_ : Int32) (s21_ : Int32) (σ22_ : St) => Z Θ 7 0 0 (zQ Θ ρ) σ22_ 37 [(0, .ref (zA Θ 0)), (1, .int n_a), (2, .int (b2i most_a)), (3, .int found20_), (4, .int s21_)] []) ?_ fuelN (-1 : Int32) (1 : Int32) x12_ h15_
    clear h15_
    intro rec17_ found20_ s21_ σ22_ h18_ h19_
    have K25_ : s21_ ≤ 6 → Z Θ 7 0 0 (zQ Θ ρ) σ22_ 44 [(0, .ref (zA Θ 0)), (1, .int n_a), (2, .int (b2i most_a)), (3, .int found20_), (4, .int s21_)] [] := by
      intro h28_
      rw [if_pos h28_] at h19_
      refine z_aload_n C 0 dX12_span_44 rfl rfl ?_
      refine fg12_7 C hkd dX12_span_45 ?_
      refine z_bipush (v := 9) C dX12_span_48 bp_9 ?_
      refine z_iload C 4 dX12_span_50 rfl ?_
      obtain ⟨σ29_, h30_, h19_⟩ := ob h19_
      refine z_sa C h30_ (kM_1 hkd) dX12_span_52 ?_
      refine z_aload_n C 0 dX12_span_53 rfl rfl ?_
      refine z_iload_n C 1 dX12_span_54 rfl rfl ?_
      refine z_iconst (v := 1) C dX12_span_55 ic_1 ?_
      obtain ⟨x31_, h32_, h19_⟩ := ob h19_
      refine cr12_369 (n_a := n_a) (draws_a := true) C hkd  h32_ ⟨(Nat.le_of_ble_eq_true rfl), (Nat.le_of_ble_eq_true rfl)⟩ (Nat.le_of_ble_eq_true rfl) ⟨Nat.zero_le _, Nat.zero_le _⟩ dX12_span_56 ?_
      refine z_ist C dX12_span_59 rfl (Nat.le_of_ble_eq_true rfl) rfl ?_
      refine z_aload_n C 1 dX12_span_61 rfl rfl ?_
      refine z_iconst (v := 4) C dX12_span_62 ic_4 ?_
      obtain ⟨x33_, h34_, h19_⟩ := ob h19_
      refine cr12_266 (what_a := 4) C hkd  h34_ ⟨(Nat.le_of_ble_eq_true rfl), (Nat.le_of_ble_eq_true rfl)⟩ (Nat.le_of_ble_eq_true rfl) ⟨Nat.zero_le _, Nat.zero_le _⟩ dX12_span_63 ?_
      obtain ⟨x35_, h36_, h19_⟩ := ob h19_
      refine cr12_286 (set_a := x33_) C hkd  h36_ ⟨(Nat.le_of_ble_eq_true rfl), (Nat.le_of_ble_eq_true rfl)⟩ (Nat.le_of_ble_eq_true rfl) ⟨Nat.zero_le _, Nat.zero_le _⟩ dX12_span_66 ?_
      refine z_ist C dX12_span_69 rfl (Nat.le_of_ble_eq_true rfl) rfl ?_
      refine z_aload_n C 2 dX12_span_71 rfl rfl ?_
      obtain ⟨x37_, h38_, h19_⟩ := ob h19_
      refine cr12_196 C hkd  h38_ ⟨(Nat.le_of_ble_eq_true rfl), (Nat.le_of_ble_eq_true rfl)⟩ (Nat.le_of_ble_eq_true rfl) ⟨Nat.zero_le _, Nat.zero_le _⟩ dX12_span_72 ?_
      suffices K39_ : Z Θ 7 0 0 (zQ Θ ρ) x37_ 104 [(6, .int x35_), (5, .int x31_.1), (0, .ref (zA Θ 0)), (1, .int n_a), (2, .int (b2i most_a)), (3, .int found20_), (4, .int s21_)] [.int (if found20_ = (-1) then x35_ else if most_a = true then q12_greater found20_ x35_ else q12_lesser found20_ x35_)] by
        have K40_ : found20_ = (-1) → Z Θ 7 0 0 (zQ Θ ρ) x37_ 80 [(6, .int x35_), (5, .int x31_.1), (0, .ref (zA Θ 0)), (1, .int n_a), (2, .int (b2i most_a)), (3, .int found20_), (4, .int s21_)] [] := by
          intro h48_
          rw [if_pos h48_] at K39_
          refine z_iload C 0 dX12_span_80 rfl ?_
          refine z_goto C 104 dX12_span_82 (by decide) ?_
          exact K39_
        have K41_ : ¬ (found20_ = (-1)) → Z Θ 7 0 0 (zQ Θ ρ) x37_ 85 [(6, .int x35_), (5, .int x31_.1), (0, .ref (zA Θ 0)), (1, .int n_a), (2, .int (b2i most_a)), (3, .int found20_), (4, .int s21_)] [] := by
          intro h48_
          rw [if_neg h48_] at K39_
          suffices K43_ : Z Θ 7 0 0 (zQ Θ ρ) x37_ 104 [(6, .int x35_), (5, .int x31_.1), (0, .ref (zA Θ 0)), (1, .int n_a), (2, .int (b2i most_a)), (3, .int found20_), (4, .int s21_)] [.int (if most_a = true then q12_greater found20_ x35_ else q12_lesser found20_ x35_)] by
            have K44_ : most_a = true → Z Θ 7 0 0 (zQ Θ ρ) x37_ 89 [(6, .int x35_), (5, .int x31_.1), (0, .ref (zA Θ 0)), (1, .int n_a), (2, .int (b2i most_a)), (3, .int found20_), (4, .int s21_)] [] := by
              intro h47_
              rw [if_pos h47_] at K43_
              refine z_iload_n C 5 dX12_span_89 rfl rfl ?_
              refine z_iload C 0 dX12_span_90 rfl ?_
              refine cr12_392 (a_a := found20_) (b_a := x35_) C hkd  ⟨(Nat.le_of_ble_eq_true rfl), (Nat.le_of_ble_eq_true rfl)⟩ (Nat.le_of_ble_eq_true rfl) ⟨Nat.zero_le _, Nat.zero_le _⟩ dX12_span_92 ?_
              refine z_goto C 104 dX12_span_95 (by decide) ?_
              exact K43_
            have K45_ : ¬ (most_a = true) → Z Θ 7 0 0 (zQ Θ ρ) x37_ 98 [(6, .int x35_), (5, .int x31_.1), (0, .ref (zA Θ 0)), (1, .int n_a), (2, .int (b2i most_a)), (3, .int found20_), (4, .int s21_)] [] := by
              intro h47_
              rw [if_neg h47_] at K43_
              refine z_iload_n C 5 dX12_span_98 rfl rfl ?_
              refine z_iload C 0 dX12_span_99 rfl ?_
              refine cr12_313 (a_a := found20_) (b_a := x35_) C hkd  ⟨(Nat.le_of_ble_eq_true rfl), (Nat.le_of_ble_eq_true rfl)⟩ (Nat.le_of_ble_eq_true rfl) ⟨Nat.zero_le _, Nat.zero_le _⟩ dX12_span_101 ?_
              exact K43_
            refine z_iload_n C 4 dX12_span_85 rfl rfl ?_
            refine cb_f C 98 dX12_span_86 (by decide) (fun h46_ => ?_) (fun h46_ => ?_)
            · exact K44_ h46_
            · exact K45_ h46_
          exact K39_
        refine z_iload_n C 5 dX12_span_75 rfl rfl ?_
        refine z_iconst (v := (-1)) C dX12_span_76 ic_m1 ?_
        refine c_eq_f C 85 dX12_span_77 (by decide) (fun h42_ => ?_) (fun h42_ => ?_)
        · exact K40_ h42_
        · exact K41_ h42_
      obtain ⟨found49_, h50_, h19_⟩ := lt_ h19_
      refine z_istN C dX12_span_104 h50_ rfl (Nat.le_of_ble_eq_true rfl) rfl ?_
      obtain ⟨s51_, h52_, h19_⟩ := lt_ h19_
      refine z_inc C 6 dX12_span_105 rfl ic_1 h52_ (Nat.le_of_ble_eq_true rfl) rfl ?_
      refine z_goto C 37 dX12_span_108 (by decide) ?_
      refine Z.sub [4, 5, 6, 1, 0] rfl ?_
      exact h18_ _ _ _ h19_
    have K26_ : ¬ (s21_ ≤ 6) → Z Θ 7 0 0 (zQ Θ ρ) σ22_ 111 [(0, .ref (zA Θ 0)), (1, .int n_a), (2, .int (b2i most_a)), (3, .int found20_), (4, .int s21_)] [] := by
      intro h28_
      rw [if_neg h28_] at h19_
      cases h19_
      exact K16_
    refine z_iload C 4 dX12_span_37 rfl ?_
    refine z_bipush (v := 6) C dX12_span_39 bp_6 ?_
    refine c_le_f C 111 dX12_span_41 (by decide) (fun h27_ => ?_) (fun h27_ => ?_)
    · exact K25_ h27_
    · exact K26_ h27_
  refine z_iload_n C 3 dX12_span_111 rfl rfl ?_
  cases hf
  subst hρ
  exact z_iret C dX12_span_112
theorem c12_span {l : Launch} {kd : List KD} {w : Wp} {σ : St} {n_a : Int32} {most_a : Bool} (hkd : kd = kdM) (hi : zI kd w) {r : (Int32 × St)} (hf : q12_span σ n_a most_a = some r) : zM l kd w yX12_span cX12_span 7 (some .int) rm12_span [.ref (w.2.2.1 0), .int n_a, .int (b2i most_a)] σ (some (.int r.1), r.2) := zM_of rfl hi (Nat.le_of_ble_eq_true rfl) (fun Θ hl hw C => by
  obtain ⟨Θ1, Θ2, Θ3, Θ4, Θ5⟩ := Θ
  cases hw
  exact p12_span C hkd  hf rfl)
/-! LastLoafModel.logged -/
theorem dX12_logged_0 : decode cX12_logged 0 = .ok (.aload_n 0, 1) := by decide +kernel
theorem dX12_logged_1 : decode cX12_logged 1 = .ok (.getfield 7, 3) := by decide +kernel
theorem dX12_logged_4 : decode cX12_logged 4 = .ok (.bipush 112, 2) := by decide +kernel
theorem dX12_logged_6 : decode cX12_logged 6 = .ok (.iconst 4, 1) := by decide +kernel
theorem dX12_logged_7 : decode cX12_logged 7 = .ok (.iload_n 1, 1) := by decide +kernel
theorem dX12_logged_8 : decode cX12_logged 8 = .ok (.imul, 1) := by decide +kernel
theorem dX12_logged_9 : decode cX12_logged 9 = .ok (.iadd, 1) := by decide +kernel
theorem dX12_logged_10 : decode cX12_logged 10 = .ok (.iload_n 2, 1) := by decide +kernel
theorem dX12_logged_11 : decode cX12_logged 11 = .ok (.iadd, 1) := by decide +kernel
theorem dX12_logged_12 : decode cX12_logged 12 = .ok (.iaload, 1) := by decide +kernel
theorem dX12_logged_13 : decode cX12_logged 13 = .ok (.ireturn, 1) := by decide +kernel
def q12_logged (σ : St) (ago_a : Int32) (what_a : Int32) : Option Int32 :=
  Option.bind (ag σ 1 752 ((112 + (4 * ago_a)) + what_a)) fun x1_ =>
  some x1_
abbrev rm12_logged : Room := { frames := 0, cells := 0, slots := 0, locals := 0 }
set_option maxHeartbeats 4000000 in
set_option maxRecDepth 100000 in
theorem p12_logged {Θ : Tz} {σ : St} {ρ : Option Value × St} (C : Zc Θ cX12_logged 3 RX12 (some .int) rm12_logged) (hkd : Θ.2.2.2.2.1 = kdM) {ago_a : Int32} {what_a : Int32} {r : Int32} (hf : q12_logged σ ago_a what_a = some r) (hρ : ρ = (some (.int r), σ)) : Z Θ 3 0 0 (zQ Θ ρ) σ 0 [(0, .ref (zA Θ 0)), (1, .int ago_a), (2, .int what_a)] [] := by
  unfold q12_logged at hf
  refine z_aload_n C 0 dX12_logged_0 rfl rfl ?_
  refine fg12_7 C hkd dX12_logged_1 ?_
  refine z_bipush (v := 112) C dX12_logged_4 bp_112 ?_
  refine z_iconst (v := 4) C dX12_logged_6 ic_4 ?_
  refine z_iload_n C 1 dX12_logged_7 rfl rfl ?_
  refine z_imul C dX12_logged_8 ?_
  refine z_iadd C dX12_logged_9 ?_
  refine z_iload_n C 2 dX12_logged_10 rfl rfl ?_
  refine z_iadd C dX12_logged_11 ?_
  obtain ⟨x1_, h2_, hf⟩ := ob hf
  refine z_ag C h2_ (kM_1 hkd) dX12_logged_12 ?_
  cases hf
  subst hρ
  exact z_iret C dX12_logged_13
theorem c12_logged {l : Launch} {kd : List KD} {w : Wp} {σ : St} {ago_a : Int32} {what_a : Int32} (hkd : kd = kdM) (hi : zI kd w) {r : Int32} (hf : q12_logged σ ago_a what_a = some r) : zM l kd w yX12_logged cX12_logged 3 (some .int) rm12_logged [.ref (w.2.2.1 0), .int ago_a, .int what_a] σ (some (.int r), σ) := zM_of rfl hi (Nat.le_of_ble_eq_true rfl) (fun Θ hl hw C => by
  obtain ⟨Θ1, Θ2, Θ3, Θ4, Θ5⟩ := Θ
  cases hw
  exact p12_logged C hkd  hf rfl)
/-! LastLoafModel.led -/
theorem w_11_16 : Cond.code ({ cls := "LastLoafModel", name := "logged", desc := "(II)I" } : MethodName) prog_14_method_145_code (3 : Nat) (Option.some ClassFile.FieldType.int) ∈ TB := tb_in (lwt_11 (List.mem_of_getElem? (i := 16) (by decide +kernel))) rfl
theorem w_11_13 : Cond.methodLink "LastLoafModel" (457 : Nat) ({ cls := "LastLoafModel", name := "logged", desc := "(II)I" } : MethodName) ∈ TB := tb_in (lwt_11 (List.mem_of_getElem? (i := 13) (by decide +kernel))) rfl
theorem w_11_15 : Cond.instanceMethod ({ cls := "LastLoafModel", name := "logged", desc := "(II)I" } : MethodName) ∈ TB := tb_in (lwt_11 (List.mem_of_getElem? (i := 15) (by decide +kernel))) rfl
theorem ws_LastLoafModel_logged_II_I : Cond.selects "LastLoafModel" (⟨"LastLoafModel", "logged", "(II)I"⟩ : MethodName) (⟨"LastLoafModel", "logged", "(II)I"⟩ : MethodName) ∈ TB := tb_in (List.mem_append_left _ (List.mem_of_getElem? (i := 97) (by decide +kernel))) rfl
theorem cr12_457 {Θ : Tz} {cc : ByteArray} {nL kc ks : Nat} {ret : Option FieldType} {rm : Room} {Q : State → Prop} {σ : St} {pc : Nat} {lv : List (Nat × Value)} {st : List Value} (C : Zc Θ cc nL RX12 ret rm) (hkd : Θ.2.2.2.2.1 = kdM) {ago_a : Int32} {what_a : Int32} {r : Int32} (hx : q12_logged σ ago_a what_a = some r) (hrm : rm12_logged.frames + 1 ≤ rm.frames ∧ 8 + (3 + 11) + rm12_logged.locals ≤ rm.locals) (hcat : (st.map fun v => v.category).sum ≤ 8) (hk : kc ≤ rm.cells ∧ ks ≤ rm.slots) (hd : decode cc pc = .ok (.invokevirtual 457, 3)) (kk : Z Θ nL kc ks Q σ (pc + 3) lv (.int r :: st)) : Z Θ nL kc ks Q σ pc lv (.int what_a :: .int ago_a :: .ref (zA Θ 0) :: st) := z_callV C 0 [.int ago_a, .int what_a] (some (.int r), σ) 2 (kM_0 hkd) rfl (c12_logged (ago_a := ago_a) (what_a := what_a) hkd (zc_inj C) hx) w_11_16 w_11_13 w_11_15 ws_LastLoafModel_logged_II_I w_1_14 ⟨rfl, rfl, hrm.1, hrm.2⟩ (by decide +kernel) rfl rfl hcat hk hd kk
theorem dX12_led_0 : decode cX12_led 0 = .ok (.aload_n 0, 1) := by decide +kernel
theorem dX12_led_1 : decode cX12_led 1 = .ok (.aload_n 0, 1) := by decide +kernel
theorem dX12_led_2 : decode cX12_led 2 = .ok (.iload_n 1, 1) := by decide +kernel
theorem dX12_led_3 : decode cX12_led 3 = .ok (.invokevirtual 347, 3) := by decide +kernel
theorem dX12_led_6 : decode cX12_led 6 = .ok (.ifCond .ne 7, 3) := by decide +kernel
theorem dX12_led_9 : decode cX12_led 9 = .ok (.iconst 1, 1) := by decide +kernel
theorem dX12_led_10 : decode cX12_led 10 = .ok (.goto 4, 3) := by decide +kernel
theorem dX12_led_13 : decode cX12_led 13 = .ok (.iconst 0, 1) := by decide +kernel
theorem dX12_led_14 : decode cX12_led 14 = .ok (.putfield 65, 3) := by decide +kernel
theorem dX12_led_17 : decode cX12_led 17 = .ok (.aload_n 0, 1) := by decide +kernel
theorem dX12_led_18 : decode cX12_led 18 = .ok (.getfield 65, 3) := by decide +kernel
theorem dX12_led_21 : decode cX12_led 21 = .ok (.ifCond .le 5, 3) := by decide +kernel
theorem dX12_led_24 : decode cX12_led 24 = .ok (.iconst 0, 1) := by decide +kernel
theorem dX12_led_25 : decode cX12_led 25 = .ok (.ireturn, 1) := by decide +kernel
theorem dX12_led_26 : decode cX12_led 26 = .ok (.iconst 0, 1) := by decide +kernel
theorem dX12_led_27 : decode cX12_led 27 = .ok (.istore_n 3, 1) := by decide +kernel
theorem dX12_led_28 : decode cX12_led 28 = .ok (.iconst (-1), 1) := by decide +kernel
theorem dX12_led_29 : decode cX12_led 29 = .ok (.istore 4, 2) := by decide +kernel
theorem dX12_led_31 : decode cX12_led 31 = .ok (.aload_n 0, 1) := by decide +kernel
theorem dX12_led_32 : decode cX12_led 32 = .ok (.getfield 7, 3) := by decide +kernel
theorem dX12_led_35 : decode cX12_led 35 = .ok (.bipush 8, 2) := by decide +kernel
theorem dX12_led_37 : decode cX12_led 37 = .ok (.iaload, 1) := by decide +kernel
theorem dX12_led_38 : decode cX12_led 38 = .ok (.iconst 1, 1) := by decide +kernel
theorem dX12_led_39 : decode cX12_led 39 = .ok (.isub, 1) := by decide +kernel
theorem dX12_led_40 : decode cX12_led 40 = .ok (.istore 5, 2) := by decide +kernel
theorem dX12_led_42 : decode cX12_led 42 = .ok (.iload 5, 2) := by decide +kernel
theorem dX12_led_44 : decode cX12_led 44 = .ok (.ifCond .lt 35, 3) := by decide +kernel
theorem dX12_led_47 : decode cX12_led 47 = .ok (.aload_n 0, 1) := by decide +kernel
theorem dX12_led_48 : decode cX12_led 48 = .ok (.iload 5, 2) := by decide +kernel
theorem dX12_led_50 : decode cX12_led 50 = .ok (.iconst 2, 1) := by decide +kernel
theorem dX12_led_51 : decode cX12_led 51 = .ok (.invokevirtual 457, 3) := by decide +kernel
theorem dX12_led_54 : decode cX12_led 54 = .ok (.iload_n 1, 1) := by decide +kernel
theorem dX12_led_55 : decode cX12_led 55 = .ok (.if_icmp .eq 6, 3) := by decide +kernel
theorem dX12_led_58 : decode cX12_led 58 = .ok (.goto 15, 3) := by decide +kernel
theorem dX12_led_61 : decode cX12_led 61 = .ok (.iinc 3 1, 3) := by decide +kernel
theorem dX12_led_64 : decode cX12_led 64 = .ok (.aload_n 0, 1) := by decide +kernel
theorem dX12_led_65 : decode cX12_led 65 = .ok (.iload 5, 2) := by decide +kernel
theorem dX12_led_67 : decode cX12_led 67 = .ok (.iconst 0, 1) := by decide +kernel
theorem dX12_led_68 : decode cX12_led 68 = .ok (.invokevirtual 457, 3) := by decide +kernel
theorem dX12_led_71 : decode cX12_led 71 = .ok (.istore 4, 2) := by decide +kernel
theorem dX12_led_73 : decode cX12_led 73 = .ok (.iinc 5 (-1), 3) := by decide +kernel
theorem dX12_led_76 : decode cX12_led 76 = .ok (.goto (-34), 3) := by decide +kernel
theorem dX12_led_79 : decode cX12_led 79 = .ok (.iload_n 2, 1) := by decide +kernel
theorem dX12_led_80 : decode cX12_led 80 = .ok (.ifCond .eq 8, 3) := by decide +kernel
theorem dX12_led_83 : decode cX12_led 83 = .ok (.iload 4, 2) := by decide +kernel
theorem dX12_led_85 : decode cX12_led 85 = .ok (.goto 4, 3) := by decide +kernel
theorem dX12_led_88 : decode cX12_led 88 = .ok (.iload_n 3, 1) := by decide +kernel
theorem dX12_led_89 : decode cX12_led 89 = .ok (.ireturn, 1) := by decide +kernel
def q12_led (σ : St) (p_a : Int32) (week_a : Bool) : Option (Int32 × St) :=
  Option.bind (Option.bind (q12_isOne σ p_a) fun x6_ =>
  if ¬ (x6_ = true) then (some (1 : Int32)) else (some (0 : Int32))) fun x1_ =>
  lt (up σ 0 0 x1_) fun σ10_ =>
  if 0 < (σ10_ 0 0) then (some (0, σ10_)) else
  Option.bind (ag σ10_ 1 752 8) fun x16_ =>
  lt (x16_ - 1) fun ago18_ =>
  Option.bind (loop3 (fun rec23_ (n26_ : Int32) (found27_ : Int32) (ago28_ : Int32) =>
  if 0 ≤ ago28_ then
  lt (fun (n45_ : Int32) (found46_ : Int32) (ago47_ : Int32) =>
  lt (ago47_ + (-1)) fun ago49_ =>
  rec23_ n45_ found46_ ago49_) fun k30_ =>
  Option.bind (q12_logged σ10_ ago28_ 2) fun x37_ =>
  if ¬ x37_ = p_a then (k30_ n26_ found27_ ago28_) else
  lt (n26_ + 1) fun n41_ =>
  Option.bind (q12_logged σ10_ ago28_ 0) fun x43_ =>
  k30_ n41_ x43_ ago28_
  else (some (n26_, found27_, ago28_))) fuelN (0 : Int32) (-1 : Int32) ago18_) fun y20_ =>
  some (if week_a = true then y20_.2.1 else y20_.1, σ10_)
abbrev rm12_led : Room := { frames := 2, cells := 0, slots := 0, locals := 43 }
set_option maxHeartbeats 4000000 in
set_option maxRecDepth 100000 in
theorem p12_led {Θ : Tz} {σ : St} {ρ : Option Value × St} (C : Zc Θ cX12_led 6 RX12 (some .int) rm12_led) (hkd : Θ.2.2.2.2.1 = kdM) {p_a : Int32} {week_a : Bool} {r : (Int32 × St)} (hf : q12_led σ p_a week_a = some r) (hρ : ρ = (some (.int r.1), r.2)) : Z Θ 6 0 0 (zQ Θ ρ) σ 0 [(0, .ref (zA Θ 0)), (1, .int p_a), (2, .int (b2i week_a))] [] := by
  unfold q12_led at hf
  refine z_aload_n C 0 dX12_led_0 rfl rfl ?_
  obtain ⟨x1_, h2_, hf⟩ := ob hf
  suffices K3_ : Z Θ 6 0 0 (zQ Θ ρ) σ 14 [(0, .ref (zA Θ 0)), (1, .int p_a), (2, .int (b2i week_a))] [.int x1_, .ref (zA Θ 0)] by
    refine z_aload_n C 0 dX12_led_1 rfl rfl ?_
    refine z_iload_n C 1 dX12_led_2 rfl rfl ?_
    obtain ⟨x6_, h7_, h2_⟩ := ob h2_
    refine cr12_347 (p_a := p_a) C hkd  h7_ ⟨(Nat.le_of_ble_eq_true rfl), (Nat.le_of_ble_eq_true rfl)⟩ (Nat.le_of_ble_eq_true rfl) ⟨Nat.zero_le _, Nat.zero_le _⟩ dX12_led_3 ?_
    have K4_ : ¬ (x6_ = true) → Z Θ 6 0 0 (zQ Θ ρ) σ 9 [(0, .ref (zA Θ 0)), (1, .int p_a), (2, .int (b2i week_a))] [.ref (zA Θ 0)] := by
      intro h9_
      rw [if_pos h9_] at h2_
      refine z_iconst (v := 1) C dX12_led_9 ic_1 ?_
      refine z_goto C 14 dX12_led_10 (by decide) ?_
      cases h2_
      exact K3_
    have K5_ : ¬ (¬ (x6_ = true)) → Z Θ 6 0 0 (zQ Θ ρ) σ 13 [(0, .ref (zA Θ 0)), (1, .int p_a), (2, .int (b2i week_a))] [.ref (zA Θ 0)] := by
      intro h9_
      rw [if_neg h9_] at h2_
      refine z_iconst (v := 0) C dX12_led_13 ic_0 ?_
      cases h2_
      exact K3_
    refine cb_t C 13 dX12_led_6 (by decide) (fun h8_ => ?_) (fun h8_ => ?_)
    · exact K5_ (fun n => n h8_)
    · exact K4_ h8_
  obtain ⟨σ10_, h11_, hf⟩ := lt_ hf
  refine fp12_65 C hkd h11_ dX12_led_14 ?_
  have K12_ : 0 < (σ10_ 0 0) → Z Θ 6 0 0 (zQ Θ ρ) σ10_ 24 [(0, .ref (zA Θ 0)), (1, .int p_a), (2, .int (b2i week_a))] [] := by
    intro h15_
    rw [if_pos h15_] at hf
    refine z_iconst (v := 0) C dX12_led_24 ic_0 ?_
    cases hf
    subst hρ
    exact z_iret C dX12_led_25
  suffices K13_ : ¬ (0 < (σ10_ 0 0)) → Z Θ 6 0 0 (zQ Θ ρ) σ10_ 26 [(0, .ref (zA Θ 0)), (1, .int p_a), (2, .int (b2i week_a))] [] by
    refine z_aload_n C 0 dX12_led_17 rfl rfl ?_
    refine fg12_65 C hkd dX12_led_18 ?_
    refine c0_gt_f C 26 dX12_led_21 (by decide) (fun h14_ => ?_) (fun h14_ => ?_)
    · exact K12_ h14_
    · exact K13_ h14_
  intro h15_
  rw [if_neg h15_] at hf
  refine z_iconst (v := 0) C dX12_led_26 ic_0 ?_
  refine z_istN C dX12_led_27 rfl rfl (Nat.le_of_ble_eq_true rfl) rfl ?_
  refine z_iconst (v := (-1)) C dX12_led_28 ic_m1 ?_
  refine z_ist C dX12_led_29 rfl (Nat.le_of_ble_eq_true rfl) rfl ?_
  refine z_aload_n C 2 dX12_led_31 rfl rfl ?_
  refine fg12_7 C hkd dX12_led_32 ?_
  refine z_bipush (v := 8) C dX12_led_35 bp_8 ?_
  obtain ⟨x16_, h17_, hf⟩ := ob hf
  refine z_ag C h17_ (kM_1 hkd) dX12_led_37 ?_
  refine z_iconst (v := 1) C dX12_led_38 ic_1 ?_
  refine z_isub C dX12_led_39 ?_
  obtain ⟨ago18_, h19_, hf⟩ := lt_ hf
  refine z_ist C dX12_led_40 h19_ (Nat.le_of_ble_eq_true rfl) rfl ?_
  refine Z.sub [3, 4, 5, 2, 1, 0] rfl ?_
  obtain ⟨y20_, h21_, hf⟩ := ob hf
  suffices K22_ : Z Θ 6 0 0 (zQ Θ ρ) σ10_ 79 [(0, .ref (zA Θ 0)), (1, .int p_a), (2, .int (b2i week_a)), (3, .int y20_.1), (4, .int y20_.2.1), (5, .int y20_.2.2)] [] by
    refine loop3_Z (P := fun (n26_ : Int32) (found27_ : Int32) (ago28_ : Int32) => Z Θ 6 0 0 (zQ Θ ρ) σ10_ 42 [(0, .ref (zA Θ 0)), (1, .int p_a), (2, .int (b2i week_a)), (3, .int n26_), (4, .int found27_), (5, .int ago28_)] []) ?_ fuelN (0 : Int32) (-1 : Int32) ago18_ h21_
    clear h21_
    intro rec23_ n26_ found27_ ago28_ h24_ h25_
    have K31_ : 0 ≤ ago28_ → Z Θ 6 0 0 (zQ Θ ρ) σ10_ 47 [(0, .ref (zA Θ 0)), (1, .int p_a), (2, .int (b2i week_a)), (3, .int n26_), (4, .int found27_), (5, .int ago28_)] [] := by
      intro h34_
      rw [if_pos h34_] at h25_
      obtain ⟨k30_, h48_, h25_⟩ := lt_ h25_
      have K29_ : ∀ (n45_ : Int32) (found46_ : Int32) (ago47_ : Int32), k30_ n45_ found46_ ago47_ = some y20_ → Z Θ 6 0 0 (zQ Θ ρ) σ10_ 73 [(0, .ref (zA Θ 0)), (1, .int p_a), (2, .int (b2i week_a)), (3, .int n45_), (4, .int found46_), (5, .int ago47_)] [] := by
        intro n45_ found46_ ago47_ h25_
        subst h48_
        dsimp only at h25_
        obtain ⟨ago49_, h50_, h25_⟩ := lt_ h25_
        refine z_inc C 5 dX12_led_73 rfl ic_m1 h50_ (Nat.le_of_ble_eq_true rfl) rfl ?_
        refine z_goto C 42 dX12_led_76 (by decide) ?_
        refine Z.sub [1, 2, 3, 4, 5, 0] rfl ?_
        exact h24_ _ _ _ h25_
      refine z_aload_n C 0 dX12_led_47 rfl rfl ?_
      refine z_iload C 5 dX12_led_48 rfl ?_
      refine z_iconst (v := 2) C dX12_led_50 ic_2 ?_
      obtain ⟨x37_, h38_, h25_⟩ := ob h25_
      refine cr12_457 (ago_a := ago28_) (what_a := 2) C hkd  h38_ ⟨(Nat.le_of_ble_eq_true rfl), (Nat.le_of_ble_eq_true rfl)⟩ (Nat.le_of_ble_eq_true rfl) ⟨Nat.zero_le _, Nat.zero_le _⟩ dX12_led_51 ?_
      refine z_iload_n C 1 dX12_led_54 rfl rfl ?_
      have K35_ : ¬ x37_ = p_a → Z Θ 6 0 0 (zQ Θ ρ) σ10_ 58 [(0, .ref (zA Θ 0)), (1, .int p_a), (2, .int (b2i week_a)), (3, .int n26_), (4, .int found27_), (5, .int ago28_)] [] := by
        intro h40_
        rw [if_pos h40_] at h25_
        refine z_goto C 73 dX12_led_58 (by decide) ?_
        exact K29_ _ _ _ h25_
      suffices K36_ : ¬ (¬ x37_ = p_a) → Z Θ 6 0 0 (zQ Θ ρ) σ10_ 61 [(0, .ref (zA Θ 0)), (1, .int p_a), (2, .int (b2i week_a)), (3, .int n26_), (4, .int found27_), (5, .int ago28_)] [] by
        refine c_ne_f C 61 dX12_led_55 (by decide) (fun h39_ => ?_) (fun h39_ => ?_)
        · exact K35_ h39_
        · exact K36_ h39_
      intro h40_
      rw [if_neg h40_] at h25_
      obtain ⟨n41_, h42_, h25_⟩ := lt_ h25_
      refine z_inc C 3 dX12_led_61 rfl ic_1 h42_ (Nat.le_of_ble_eq_true rfl) rfl ?_
      refine z_aload_n C 1 dX12_led_64 rfl rfl ?_
      refine z_iload C 5 dX12_led_65 rfl ?_
      refine z_iconst (v := 0) C dX12_led_67 ic_0 ?_
      obtain ⟨x43_, h44_, h25_⟩ := ob h25_
      refine cr12_457 (ago_a := ago28_) (what_a := 0) C hkd  h44_ ⟨(Nat.le_of_ble_eq_true rfl), (Nat.le_of_ble_eq_true rfl)⟩ (Nat.le_of_ble_eq_true rfl) ⟨Nat.zero_le _, Nat.zero_le _⟩ dX12_led_68 ?_
      refine z_ist C dX12_led_71 rfl (Nat.le_of_ble_eq_true rfl) rfl ?_
      refine Z.sub [2, 3, 4, 1, 0, 5] rfl ?_
      exact K29_ _ _ _ h25_
    have K32_ : ¬ (0 ≤ ago28_) → Z Θ 6 0 0 (zQ Θ ρ) σ10_ 79 [(0, .ref (zA Θ 0)), (1, .int p_a), (2, .int (b2i week_a)), (3, .int n26_), (4, .int found27_), (5, .int ago28_)] [] := by
      intro h34_
      rw [if_neg h34_] at h25_
      cases h25_
      exact K22_
    refine z_iload C 5 dX12_led_42 rfl ?_
    refine c0_ge_f C 79 dX12_led_44 (by decide) (fun h33_ => ?_) (fun h33_ => ?_)
    · exact K31_ h33_
    · exact K32_ h33_
  suffices K51_ : Z Θ 6 0 0 (zQ Θ ρ) σ10_ 89 [(0, .ref (zA Θ 0)), (1, .int p_a), (2, .int (b2i week_a)), (3, .int y20_.1), (4, .int y20_.2.1), (5, .int y20_.2.2)] [.int (if week_a = true then y20_.2.1 else y20_.1)] by
    have K52_ : week_a = true → Z Θ 6 0 0 (zQ Θ ρ) σ10_ 83 [(0, .ref (zA Θ 0)), (1, .int p_a), (2, .int (b2i week_a)), (3, .int y20_.1), (4, .int y20_.2.1), (5, .int y20_.2.2)] [] := by
      intro h55_
      rw [if_pos h55_] at K51_
      refine z_iload C 4 dX12_led_83 rfl ?_
      refine z_goto C 89 dX12_led_85 (by decide) ?_
      exact K51_
    have K53_ : ¬ (week_a = true) → Z Θ 6 0 0 (zQ Θ ρ) σ10_ 88 [(0, .ref (zA Θ 0)), (1, .int p_a), (2, .int (b2i week_a)), (3, .int y20_.1), (4, .int y20_.2.1), (5, .int y20_.2.2)] [] := by
      intro h55_
      rw [if_neg h55_] at K51_
      refine z_iload_n C 3 dX12_led_88 rfl rfl ?_
      exact K51_
    refine z_iload_n C 2 dX12_led_79 rfl rfl ?_
    refine cb_f C 88 dX12_led_80 (by decide) (fun h54_ => ?_) (fun h54_ => ?_)
    · exact K52_ h54_
    · exact K53_ h54_
  cases hf
  subst hρ
  exact z_iret C dX12_led_89
theorem c12_led {l : Launch} {kd : List KD} {w : Wp} {σ : St} {p_a : Int32} {week_a : Bool} (hkd : kd = kdM) (hi : zI kd w) {r : (Int32 × St)} (hf : q12_led σ p_a week_a = some r) : zM l kd w yX12_led cX12_led 6 (some .int) rm12_led [.ref (w.2.2.1 0), .int p_a, .int (b2i week_a)] σ (some (.int r.1), r.2) := zM_of rfl hi (Nat.le_of_ble_eq_true rfl) (fun Θ hl hw C => by
  obtain ⟨Θ1, Θ2, Θ3, Θ4, Θ5⟩ := Θ
  cases hw
  exact p12_led C hkd  hf rfl)
/-! LastLoafModel.log -/
theorem dX12_log_0 : decode cX12_log 0 = .ok (.aload_n 0, 1) := by decide +kernel
theorem dX12_log_1 : decode cX12_log 1 = .ok (.iload_n 2, 1) := by decide +kernel
theorem dX12_log_2 : decode cX12_log 2 = .ok (.iconst 0, 1) := by decide +kernel
theorem dX12_log_3 : decode cX12_log 3 = .ok (.iconst 3, 1) := by decide +kernel
theorem dX12_log_4 : decode cX12_log 4 = .ok (.invokestatic 68, 3) := by decide +kernel
theorem dX12_log_7 : decode cX12_log 7 = .ok (.ifCond .ne 7, 3) := by decide +kernel
theorem dX12_log_10 : decode cX12_log 10 = .ok (.iconst 1, 1) := by decide +kernel
theorem dX12_log_11 : decode cX12_log 11 = .ok (.goto 4, 3) := by decide +kernel
theorem dX12_log_14 : decode cX12_log 14 = .ok (.iconst 0, 1) := by decide +kernel
theorem dX12_log_15 : decode cX12_log 15 = .ok (.putfield 65, 3) := by decide +kernel
theorem dX12_log_18 : decode cX12_log 18 = .ok (.aload_n 0, 1) := by decide +kernel
theorem dX12_log_19 : decode cX12_log 19 = .ok (.getfield 65, 3) := by decide +kernel
theorem dX12_log_22 : decode cX12_log 22 = .ok (.ifCond .le 5, 3) := by decide +kernel
theorem dX12_log_25 : decode cX12_log 25 = .ok (.iconst 0, 1) := by decide +kernel
theorem dX12_log_26 : decode cX12_log 26 = .ok (.ireturn, 1) := by decide +kernel
theorem dX12_log_27 : decode cX12_log 27 = .ok (.iload_n 1, 1) := by decide +kernel
theorem dX12_log_28 : decode cX12_log 28 = .ok (.iconst 0, 1) := by decide +kernel
theorem dX12_log_29 : decode cX12_log 29 = .ok (.aload_n 0, 1) := by decide +kernel
theorem dX12_log_30 : decode cX12_log 30 = .ok (.getfield 7, 3) := by decide +kernel
theorem dX12_log_33 : decode cX12_log 33 = .ok (.bipush 8, 2) := by decide +kernel
theorem dX12_log_35 : decode cX12_log 35 = .ok (.iaload, 1) := by decide +kernel
theorem dX12_log_36 : decode cX12_log 36 = .ok (.iconst 1, 1) := by decide +kernel
theorem dX12_log_37 : decode cX12_log 37 = .ok (.isub, 1) := by decide +kernel
theorem dX12_log_38 : decode cX12_log 38 = .ok (.invokestatic 68, 3) := by decide +kernel
theorem dX12_log_41 : decode cX12_log 41 = .ok (.ifCond .eq 12, 3) := by decide +kernel
theorem dX12_log_44 : decode cX12_log 44 = .ok (.aload_n 0, 1) := by decide +kernel
theorem dX12_log_45 : decode cX12_log 45 = .ok (.iload_n 1, 1) := by decide +kernel
theorem dX12_log_46 : decode cX12_log 46 = .ok (.iload_n 2, 1) := by decide +kernel
theorem dX12_log_47 : decode cX12_log 47 = .ok (.invokevirtual 457, 3) := by decide +kernel
theorem dX12_log_50 : decode cX12_log 50 = .ok (.goto 4, 3) := by decide +kernel
theorem dX12_log_53 : decode cX12_log 53 = .ok (.iconst (-1), 1) := by decide +kernel
theorem dX12_log_54 : decode cX12_log 54 = .ok (.ireturn, 1) := by decide +kernel
def q12_log (σ : St) (ago_a : Int32) (what_a : Int32) : Option (Int32 × St) :=
  lt (up σ 0 0 (if ¬ (q12_isIn what_a 0 3 = true) then 1 else 0)) fun σ6_ =>
  if 0 < (σ6_ 0 0) then (some (0, σ6_)) else
  Option.bind (Option.bind (ag σ6_ 1 752 8) fun x17_ =>
  if q12_isIn ago_a 0 (x17_ - 1) = true then (Option.bind (q12_logged σ6_ ago_a what_a) fun x20_ =>
  some x20_) else (some (-1 : Int32))) fun x12_ =>
  some (x12_, σ6_)
abbrev rm12_log : Room := { frames := 1, cells := 0, slots := 0, locals := 22 }
set_option maxHeartbeats 4000000 in
set_option maxRecDepth 100000 in
theorem p12_log {Θ : Tz} {σ : St} {ρ : Option Value × St} (C : Zc Θ cX12_log 3 RX12 (some .int) rm12_log) (hkd : Θ.2.2.2.2.1 = kdM) {ago_a : Int32} {what_a : Int32} {r : (Int32 × St)} (hf : q12_log σ ago_a what_a = some r) (hρ : ρ = (some (.int r.1), r.2)) : Z Θ 3 0 0 (zQ Θ ρ) σ 0 [(0, .ref (zA Θ 0)), (1, .int ago_a), (2, .int what_a)] [] := by
  unfold q12_log at hf
  refine z_aload_n C 0 dX12_log_0 rfl rfl ?_
  suffices K1_ : Z Θ 3 0 0 (zQ Θ ρ) σ 15 [(0, .ref (zA Θ 0)), (1, .int ago_a), (2, .int what_a)] [.int (if ¬ (q12_isIn what_a 0 3 = true) then 1 else 0), .ref (zA Θ 0)] by
    have K2_ : ¬ (q12_isIn what_a 0 3 = true) → Z Θ 3 0 0 (zQ Θ ρ) σ 10 [(0, .ref (zA Θ 0)), (1, .int ago_a), (2, .int what_a)] [.ref (zA Θ 0)] := by
      intro h5_
      rw [if_pos h5_] at K1_
      refine z_iconst (v := 1) C dX12_log_10 ic_1 ?_
      refine z_goto C 15 dX12_log_11 (by decide) ?_
      exact K1_
    have K3_ : ¬ (¬ (q12_isIn what_a 0 3 = true)) → Z Θ 3 0 0 (zQ Θ ρ) σ 14 [(0, .ref (zA Θ 0)), (1, .int ago_a), (2, .int what_a)] [.ref (zA Θ 0)] := by
      intro h5_
      rw [if_neg h5_] at K1_
      refine z_iconst (v := 0) C dX12_log_14 ic_0 ?_
      exact K1_
    refine z_iload_n C 2 dX12_log_1 rfl rfl ?_
    refine z_iconst (v := 0) C dX12_log_2 ic_0 ?_
    refine z_iconst (v := 3) C dX12_log_3 ic_3 ?_
    refine cr12_68 (v_a := what_a) (low_a := 0) (high_a := 3) C hkd  ⟨(Nat.le_of_ble_eq_true rfl), (Nat.le_of_ble_eq_true rfl)⟩ (Nat.le_of_ble_eq_true rfl) ⟨Nat.zero_le _, Nat.zero_le _⟩ dX12_log_4 ?_
    refine cb_t C 14 dX12_log_7 (by decide) (fun h4_ => ?_) (fun h4_ => ?_)
    · exact K3_ (fun n => n h4_)
    · exact K2_ h4_
  obtain ⟨σ6_, h7_, hf⟩ := lt_ hf
  refine fp12_65 C hkd h7_ dX12_log_15 ?_
  have K8_ : 0 < (σ6_ 0 0) → Z Θ 3 0 0 (zQ Θ ρ) σ6_ 25 [(0, .ref (zA Θ 0)), (1, .int ago_a), (2, .int what_a)] [] := by
    intro h11_
    rw [if_pos h11_] at hf
    refine z_iconst (v := 0) C dX12_log_25 ic_0 ?_
    cases hf
    subst hρ
    exact z_iret C dX12_log_26
  suffices K9_ : ¬ (0 < (σ6_ 0 0)) → Z Θ 3 0 0 (zQ Θ ρ) σ6_ 27 [(0, .ref (zA Θ 0)), (1, .int ago_a), (2, .int what_a)] [] by
    refine z_aload_n C 0 dX12_log_18 rfl rfl ?_
    refine fg12_65 C hkd dX12_log_19 ?_
    refine c0_gt_f C 27 dX12_log_22 (by decide) (fun h10_ => ?_) (fun h10_ => ?_)
    · exact K8_ h10_
    · exact K9_ h10_
  intro h11_
  rw [if_neg h11_] at hf
  obtain ⟨x12_, h13_, hf⟩ := ob hf
  suffices K14_ : Z Θ 3 0 0 (zQ Θ ρ) σ6_ 54 [(0, .ref (zA Θ 0)), (1, .int ago_a), (2, .int what_a)] [.int x12_] by
    refine z_iload_n C 1 dX12_log_27 rfl rfl ?_
    refine z_iconst (v := 0) C dX12_log_28 ic_0 ?_
    refine z_aload_n C 0 dX12_log_29 rfl rfl ?_
    refine fg12_7 C hkd dX12_log_30 ?_
    refine z_bipush (v := 8) C dX12_log_33 bp_8 ?_
    obtain ⟨x17_, h18_, h13_⟩ := ob h13_
    refine z_ag C h18_ (kM_1 hkd) dX12_log_35 ?_
    refine z_iconst (v := 1) C dX12_log_36 ic_1 ?_
    refine z_isub C dX12_log_37 ?_
    refine cr12_68 (v_a := ago_a) (low_a := 0) (high_a := (x17_ - 1)) C hkd  ⟨(Nat.le_of_ble_eq_true rfl), (Nat.le_of_ble_eq_true rfl)⟩ (Nat.le_of_ble_eq_true rfl) ⟨Nat.zero_le _, Nat.zero_le _⟩ dX12_log_38 ?_
    have K15_ : q12_isIn ago_a 0 (x17_ - 1) = true → Z Θ 3 0 0 (zQ Θ ρ) σ6_ 44 [(0, .ref (zA Θ 0)), (1, .int ago_a), (2, .int what_a)] [] := by
      intro h22_
      rw [if_pos h22_] at h13_
      refine z_aload_n C 0 dX12_log_44 rfl rfl ?_
      refine z_iload_n C 1 dX12_log_45 rfl rfl ?_
      refine z_iload_n C 2 dX12_log_46 rfl rfl ?_
      obtain ⟨x20_, h21_, h13_⟩ := ob h13_
      refine cr12_457 (ago_a := ago_a) (what_a := what_a) C hkd  h21_ ⟨(Nat.le_of_ble_eq_true rfl), (Nat.le_of_ble_eq_true rfl)⟩ (Nat.le_of_ble_eq_true rfl) ⟨Nat.zero_le _, Nat.zero_le _⟩ dX12_log_47 ?_
      refine z_goto C 54 dX12_log_50 (by decide) ?_
      cases h13_
      exact K14_
    have K16_ : ¬ (q12_isIn ago_a 0 (x17_ - 1) = true) → Z Θ 3 0 0 (zQ Θ ρ) σ6_ 53 [(0, .ref (zA Θ 0)), (1, .int ago_a), (2, .int what_a)] [] := by
      intro h22_
      rw [if_neg h22_] at h13_
      refine z_iconst (v := (-1)) C dX12_log_53 ic_m1 ?_
      cases h13_
      exact K14_
    refine cb_f C 53 dX12_log_41 (by decide) (fun h19_ => ?_) (fun h19_ => ?_)
    · exact K15_ h19_
    · exact K16_ h19_
  cases hf
  subst hρ
  exact z_iret C dX12_log_54
theorem c12_log {l : Launch} {kd : List KD} {w : Wp} {σ : St} {ago_a : Int32} {what_a : Int32} (hkd : kd = kdM) (hi : zI kd w) {r : (Int32 × St)} (hf : q12_log σ ago_a what_a = some r) : zM l kd w yX12_log cX12_log 3 (some .int) rm12_log [.ref (w.2.2.1 0), .int ago_a, .int what_a] σ (some (.int r.1), r.2) := zM_of rfl hi (Nat.le_of_ble_eq_true rfl) (fun Θ hl hw C => by
  obtain ⟨Θ1, Θ2, Θ3, Θ4, Θ5⟩ := Θ
  cases hw
  exact p12_log C hkd  hf rfl)
/-! LastLoafModel.seed -/
theorem dX12_seed_0 : decode cX12_seed 0 = .ok (.aload_n 0, 1) := by decide +kernel
theorem dX12_seed_1 : decode cX12_seed 1 = .ok (.iconst 0, 1) := by decide +kernel
theorem dX12_seed_2 : decode cX12_seed 2 = .ok (.putfield 65, 3) := by decide +kernel
theorem dX12_seed_5 : decode cX12_seed 5 = .ok (.aload_n 0, 1) := by decide +kernel
theorem dX12_seed_6 : decode cX12_seed 6 = .ok (.getfield 7, 3) := by decide +kernel
theorem dX12_seed_9 : decode cX12_seed 9 = .ok (.bipush 9, 2) := by decide +kernel
theorem dX12_seed_11 : decode cX12_seed 11 = .ok (.iaload, 1) := by decide +kernel
theorem dX12_seed_12 : decode cX12_seed 12 = .ok (.istore_n 2, 1) := by decide +kernel
theorem dX12_seed_13 : decode cX12_seed 13 = .ok (.aload_n 0, 1) := by decide +kernel
theorem dX12_seed_14 : decode cX12_seed 14 = .ok (.getfield 7, 3) := by decide +kernel
theorem dX12_seed_17 : decode cX12_seed 17 = .ok (.bipush 9, 2) := by decide +kernel
theorem dX12_seed_19 : decode cX12_seed 19 = .ok (.iload_n 1, 1) := by decide +kernel
theorem dX12_seed_20 : decode cX12_seed 20 = .ok (.iastore, 1) := by decide +kernel
theorem dX12_seed_21 : decode cX12_seed 21 = .ok (.iload_n 2, 1) := by decide +kernel
theorem dX12_seed_22 : decode cX12_seed 22 = .ok (.ireturn, 1) := by decide +kernel
def q12_seed (σ : St) (n_a : Int32) : Option (Int32 × St) :=
  lt (up σ 0 0 0) fun σ1_ =>
  Option.bind (ag σ1_ 1 752 9) fun x3_ =>
  Option.bind (sa σ1_ 1 752 9 n_a) fun σ5_ =>
  some (x3_, σ5_)
abbrev rm12_seed : Room := { frames := 0, cells := 0, slots := 0, locals := 0 }
set_option maxHeartbeats 4000000 in
set_option maxRecDepth 100000 in
theorem p12_seed {Θ : Tz} {σ : St} {ρ : Option Value × St} (C : Zc Θ cX12_seed 3 RX12 (some .int) rm12_seed) (hkd : Θ.2.2.2.2.1 = kdM) {n_a : Int32} {r : (Int32 × St)} (hf : q12_seed σ n_a = some r) (hρ : ρ = (some (.int r.1), r.2)) : Z Θ 3 0 0 (zQ Θ ρ) σ 0 [(0, .ref (zA Θ 0)), (1, .int n_a)] [] := by
  unfold q12_seed at hf
  refine z_aload_n C 0 dX12_seed_0 rfl rfl ?_
  refine z_iconst (v := 0) C dX12_seed_1 ic_0 ?_
  obtain ⟨σ1_, h2_, hf⟩ := lt_ hf
  refine fp12_65 C hkd h2_ dX12_seed_2 ?_
  refine z_aload_n C 0 dX12_seed_5 rfl rfl ?_
  refine fg12_7 C hkd dX12_seed_6 ?_
  refine z_bipush (v := 9) C dX12_seed_9 bp_9 ?_
  obtain ⟨x3_, h4_, hf⟩ := ob hf
  refine z_ag C h4_ (kM_1 hkd) dX12_seed_11 ?_
  refine z_istN C dX12_seed_12 rfl rfl (Nat.le_of_ble_eq_true rfl) rfl ?_
  refine z_aload_n C 1 dX12_seed_13 rfl rfl ?_
  refine fg12_7 C hkd dX12_seed_14 ?_
  refine z_bipush (v := 9) C dX12_seed_17 bp_9 ?_
  refine z_iload_n C 2 dX12_seed_19 rfl rfl ?_
  obtain ⟨σ5_, h6_, hf⟩ := ob hf
  refine z_sa C h6_ (kM_1 hkd) dX12_seed_20 ?_
  refine z_iload_n C 0 dX12_seed_21 rfl rfl ?_
  cases hf
  subst hρ
  exact z_iret C dX12_seed_22
theorem c12_seed {l : Launch} {kd : List KD} {w : Wp} {σ : St} {n_a : Int32} (hkd : kd = kdM) (hi : zI kd w) {r : (Int32 × St)} (hf : q12_seed σ n_a = some r) : zM l kd w yX12_seed cX12_seed 3 (some .int) rm12_seed [.ref (w.2.2.1 0), .int n_a] σ (some (.int r.1), r.2) := zM_of rfl hi (Nat.le_of_ble_eq_true rfl) (fun Θ hl hw C => by
  obtain ⟨Θ1, Θ2, Θ3, Θ4, Θ5⟩ := Θ
  cases hw
  exact p12_seed C hkd  hf rfl)
/-! LastLoafModel.undo -/
theorem dX12_undo_0 : decode cX12_undo 0 = .ok (.aload_n 0, 1) := by decide +kernel
theorem dX12_undo_1 : decode cX12_undo 1 = .ok (.iconst 0, 1) := by decide +kernel
theorem dX12_undo_2 : decode cX12_undo 2 = .ok (.putfield 65, 3) := by decide +kernel
theorem dX12_undo_5 : decode cX12_undo 5 = .ok (.aload_n 0, 1) := by decide +kernel
theorem dX12_undo_6 : decode cX12_undo 6 = .ok (.getfield 199, 3) := by decide +kernel
theorem dX12_undo_9 : decode cX12_undo 9 = .ok (.ifCond .ne 5, 3) := by decide +kernel
theorem dX12_undo_12 : decode cX12_undo 12 = .ok (.iconst 0, 1) := by decide +kernel
theorem dX12_undo_13 : decode cX12_undo 13 = .ok (.ireturn, 1) := by decide +kernel
theorem dX12_undo_14 : decode cX12_undo 14 = .ok (.aload_n 0, 1) := by decide +kernel
theorem dX12_undo_15 : decode cX12_undo 15 = .ok (.dup, 1) := by decide +kernel
theorem dX12_undo_16 : decode cX12_undo 16 = .ok (.getfield 199, 3) := by decide +kernel
theorem dX12_undo_19 : decode cX12_undo 19 = .ok (.iconst 1, 1) := by decide +kernel
theorem dX12_undo_20 : decode cX12_undo 20 = .ok (.isub, 1) := by decide +kernel
theorem dX12_undo_21 : decode cX12_undo 21 = .ok (.putfield 199, 3) := by decide +kernel
theorem dX12_undo_24 : decode cX12_undo 24 = .ok (.iconst 0, 1) := by decide +kernel
theorem dX12_undo_25 : decode cX12_undo 25 = .ok (.istore_n 1, 1) := by decide +kernel
theorem dX12_undo_26 : decode cX12_undo 26 = .ok (.iload_n 1, 1) := by decide +kernel
theorem dX12_undo_27 : decode cX12_undo 27 = .ok (.sipush 352, 3) := by decide +kernel
theorem dX12_undo_30 : decode cX12_undo 30 = .ok (.if_icmp .ge 30, 3) := by decide +kernel
theorem dX12_undo_33 : decode cX12_undo 33 = .ok (.aload_n 0, 1) := by decide +kernel
theorem dX12_undo_34 : decode cX12_undo 34 = .ok (.getfield 7, 3) := by decide +kernel
theorem dX12_undo_37 : decode cX12_undo 37 = .ok (.iload_n 1, 1) := by decide +kernel
theorem dX12_undo_38 : decode cX12_undo 38 = .ok (.aload_n 0, 1) := by decide +kernel
theorem dX12_undo_39 : decode cX12_undo 39 = .ok (.getfield 19, 3) := by decide +kernel
theorem dX12_undo_42 : decode cX12_undo 42 = .ok (.sipush 352, 3) := by decide +kernel
theorem dX12_undo_45 : decode cX12_undo 45 = .ok (.aload_n 0, 1) := by decide +kernel
theorem dX12_undo_46 : decode cX12_undo 46 = .ok (.getfield 199, 3) := by decide +kernel
theorem dX12_undo_49 : decode cX12_undo 49 = .ok (.imul, 1) := by decide +kernel
theorem dX12_undo_50 : decode cX12_undo 50 = .ok (.iload_n 1, 1) := by decide +kernel
theorem dX12_undo_51 : decode cX12_undo 51 = .ok (.iadd, 1) := by decide +kernel
theorem dX12_undo_52 : decode cX12_undo 52 = .ok (.iaload, 1) := by decide +kernel
theorem dX12_undo_53 : decode cX12_undo 53 = .ok (.iastore, 1) := by decide +kernel
theorem dX12_undo_54 : decode cX12_undo 54 = .ok (.iinc 1 1, 3) := by decide +kernel
theorem dX12_undo_57 : decode cX12_undo 57 = .ok (.goto (-31), 3) := by decide +kernel
theorem dX12_undo_60 : decode cX12_undo 60 = .ok (.iconst 1, 1) := by decide +kernel
theorem dX12_undo_61 : decode cX12_undo 61 = .ok (.ireturn, 1) := by decide +kernel
def q12_undo (σ : St) : Option (Bool × St) :=
  lt (up σ 0 0 0) fun σ1_ =>
  if (σ1_ 0 6) = 0 then (some (false, σ1_)) else
  lt (up σ1_ 0 6 ((σ1_ 0 6) - 1)) fun σ7_ =>
  Option.bind (loop2 (fun rec12_ (k15_ : Int32) (σ16_ : St) =>
  if k15_ < 352 then
  Option.bind (ag σ16_ 4 4224 ((352 * (σ16_ 0 6)) + k15_)) fun x23_ =>
  Option.bind (sa σ16_ 1 752 k15_ x23_) fun σ25_ =>
  lt (k15_ + 1) fun k27_ =>
  rec12_ k27_ σ25_
  else (some (k15_, σ16_))) fuelN (0 : Int32) σ7_) fun y9_ =>
  some (true, y9_.2)
abbrev rm12_undo : Room := { frames := 0, cells := 0, slots := 0, locals := 0 }
set_option maxHeartbeats 4000000 in
set_option maxRecDepth 100000 in
theorem p12_undo {Θ : Tz} {σ : St} {ρ : Option Value × St} (C : Zc Θ cX12_undo 2 RX12 (some .boolean) rm12_undo) (hkd : Θ.2.2.2.2.1 = kdM) {r : (Bool × St)} (hf : q12_undo σ = some r) (hρ : ρ = (some (.int (b2i r.1)), r.2)) : Z Θ 2 0 0 (zQ Θ ρ) σ 0 [(0, .ref (zA Θ 0))] [] := by
  unfold q12_undo at hf
  refine z_aload_n C 0 dX12_undo_0 rfl rfl ?_
  refine z_iconst (v := 0) C dX12_undo_1 ic_0 ?_
  obtain ⟨σ1_, h2_, hf⟩ := lt_ hf
  refine fp12_65 C hkd h2_ dX12_undo_2 ?_
  have K3_ : (σ1_ 0 6) = 0 → Z Θ 2 0 0 (zQ Θ ρ) σ1_ 12 [(0, .ref (zA Θ 0))] [] := by
    intro h6_
    rw [if_pos h6_] at hf
    refine z_iconst (v := 0) C dX12_undo_12 ic_0 ?_
    cases hf
    subst hρ
    exact z_zret C (b2i_narrow _) dX12_undo_13
  suffices K4_ : ¬ ((σ1_ 0 6) = 0) → Z Θ 2 0 0 (zQ Θ ρ) σ1_ 14 [(0, .ref (zA Θ 0))] [] by
    refine z_aload_n C 0 dX12_undo_5 rfl rfl ?_
    refine fg12_199 C hkd dX12_undo_6 ?_
    refine c0_eq_f C 14 dX12_undo_9 (by decide) (fun h5_ => ?_) (fun h5_ => ?_)
    · exact K3_ h5_
    · exact K4_ h5_
  intro h6_
  rw [if_neg h6_] at hf
  refine z_aload_n C 0 dX12_undo_14 rfl rfl ?_
  refine z_dup C dX12_undo_15 rfl ?_
  refine fg12_199 C hkd dX12_undo_16 ?_
  refine z_iconst (v := 1) C dX12_undo_19 ic_1 ?_
  refine z_isub C dX12_undo_20 ?_
  obtain ⟨σ7_, h8_, hf⟩ := lt_ hf
  refine fp12_199 C hkd h8_ dX12_undo_21 ?_
  refine z_iconst (v := 0) C dX12_undo_24 ic_0 ?_
  refine z_istN C dX12_undo_25 rfl rfl (Nat.le_of_ble_eq_true rfl) rfl ?_
  refine Z.sub [1, 0] rfl ?_
  obtain ⟨y9_, h10_, hf⟩ := ob hf
  suffices K11_ : Z Θ 2 0 0 (zQ Θ ρ) y9_.2 60 [(0, .ref (zA Θ 0)), (1, .int y9_.1)] [] by
    refine loop2_Z (P := fun (k15_ : Int32) (σ16_ : St) => Z Θ 2 0 0 (zQ Θ ρ) σ16_ 26 [(0, .ref (zA Θ 0)), (1, .int k15_)] []) ?_ fuelN (0 : Int32) σ7_ h10_
    clear h10_
    intro rec12_ k15_ σ16_ h13_ h14_
    have K19_ : k15_ < 352 → Z Θ 2 0 0 (zQ Θ ρ) σ16_ 33 [(0, .ref (zA Θ 0)), (1, .int k15_)] [] := by
      intro h22_
      rw [if_pos h22_] at h14_
      refine z_aload_n C 0 dX12_undo_33 rfl rfl ?_
      refine fg12_7 C hkd dX12_undo_34 ?_
      refine z_iload_n C 1 dX12_undo_37 rfl rfl ?_
      refine z_aload_n C 0 dX12_undo_38 rfl rfl ?_
      refine fg12_19 C hkd dX12_undo_39 ?_
      refine z_sipush (v := 352) C dX12_undo_42 sp_352 ?_
      refine z_aload_n C 0 dX12_undo_45 rfl rfl ?_
      refine fg12_199 C hkd dX12_undo_46 ?_
      refine z_imul C dX12_undo_49 ?_
      refine z_iload_n C 1 dX12_undo_50 rfl rfl ?_
      refine z_iadd C dX12_undo_51 ?_
      obtain ⟨x23_, h24_, h14_⟩ := ob h14_
      refine z_ag C h24_ (kM_4 hkd) dX12_undo_52 ?_
      obtain ⟨σ25_, h26_, h14_⟩ := ob h14_
      refine z_sa C h26_ (kM_1 hkd) dX12_undo_53 ?_
      obtain ⟨k27_, h28_, h14_⟩ := lt_ h14_
      refine z_inc C 1 dX12_undo_54 rfl ic_1 h28_ (Nat.le_of_ble_eq_true rfl) rfl ?_
      refine z_goto C 26 dX12_undo_57 (by decide) ?_
      refine Z.sub [1, 0] rfl ?_
      exact h13_ _ _ h14_
    have K20_ : ¬ (k15_ < 352) → Z Θ 2 0 0 (zQ Θ ρ) σ16_ 60 [(0, .ref (zA Θ 0)), (1, .int k15_)] [] := by
      intro h22_
      rw [if_neg h22_] at h14_
      cases h14_
      exact K11_
    refine z_iload_n C 1 dX12_undo_26 rfl rfl ?_
    refine z_sipush (v := 352) C dX12_undo_27 sp_352 ?_
    refine c_lt_f C 60 dX12_undo_30 (by decide) (fun h21_ => ?_) (fun h21_ => ?_)
    · exact K19_ h21_
    · exact K20_ h21_
  refine z_iconst (v := 1) C dX12_undo_60 ic_1 ?_
  cases hf
  subst hρ
  exact z_zret C (b2i_narrow _) dX12_undo_61
theorem c12_undo {l : Launch} {kd : List KD} {w : Wp} {σ : St} (hkd : kd = kdM) (hi : zI kd w) {r : (Bool × St)} (hf : q12_undo σ = some r) : zM l kd w yX12_undo cX12_undo 2 (some .boolean) rm12_undo [.ref (w.2.2.1 0)] σ (some (.int (b2i r.1)), r.2) := zM_of rfl hi (Nat.le_of_ble_eq_true rfl) (fun Θ hl hw C => by
  obtain ⟨Θ1, Θ2, Θ3, Θ4, Θ5⟩ := Θ
  cases hw
  exact p12_undo C hkd  hf rfl)
/-! LastLoafModel.image -/
theorem sp_752 : (Int16.ofInt (752)).toInt32 = 752 := by decide +kernel
theorem w_8_29 : Cond.fieldLink "LastLoafModel" (13 : Nat) "LastLoafModel" "kept" "[I" ∈ TB := tb_in (lwt_8 (List.mem_of_getElem? (i := 29) (by decide +kernel))) rfl
theorem fg12_13 {Θ : Tz} {cc : ByteArray} {nL kc ks : Nat} {ret : Option FieldType} {rm : Room} {Q : State → Prop} {σ : St} {pc : Nat} {lv : List (Nat × Value)} {st : List Value} (C : Zc Θ cc nL RX12 ret rm) (hkd : Θ.2.2.2.2.1 = kdM) (hd : decode cc pc = .ok (.getfield 13, 3)) (kk : Z Θ nL kc ks Q σ (pc + 3) lv (.ref (zA Θ 2) :: st)) : Z Θ nL kc ks Q σ pc lv (.ref (zA Θ 0) :: st) := z_get C inT12 0 (kM_0 hkd) rfl 2 (by decide) w_8_29 rfl hd kk
theorem w_8_30 : Cond.fieldLink "LastLoafModel" (460 : Nat) "LastLoafModel" "hasImage" "Z" ∈ TB := tb_in (lwt_8 (List.mem_of_getElem? (i := 30) (by decide +kernel))) rfl
theorem fp12_460 {Θ : Tz} {cc : ByteArray} {nL kc ks : Nat} {ret : Option FieldType} {rm : Room} {Q : State → Prop} {σ : St} {pc : Nat} {lv : List (Nat × Value)} {st : List Value} (C : Zc Θ cc nL RX12 ret rm) (hkd : Θ.2.2.2.2.1 = kdM) {b : Bool} {σ1 : St} (he : σ1 = up σ 0 3 (b2i b)) (hd : decode cc pc = .ok (.putfield 460, 3)) (kk : Z Θ nL kc ks Q σ1 (pc + 3) lv st) : Z Θ nL kc ks Q σ pc lv (.int (b2i b) :: .ref (zA Θ 0) :: st) := by subst he; exact z_put C inT12 tyX12_ok nmX12 0 (kM_0 hkd) rfl 3 (by decide) w_8_30 rfl rfl (b2i_narrow b) (b2i_fits b) hd kk
theorem dX12_image_0 : decode cX12_image 0 = .ok (.aload_n 0, 1) := by decide +kernel
theorem dX12_image_1 : decode cX12_image 1 = .ok (.iconst 0, 1) := by decide +kernel
theorem dX12_image_2 : decode cX12_image 2 = .ok (.putfield 65, 3) := by decide +kernel
theorem dX12_image_5 : decode cX12_image 5 = .ok (.iconst 0, 1) := by decide +kernel
theorem dX12_image_6 : decode cX12_image 6 = .ok (.istore_n 1, 1) := by decide +kernel
theorem dX12_image_7 : decode cX12_image 7 = .ok (.iload_n 1, 1) := by decide +kernel
theorem dX12_image_8 : decode cX12_image 8 = .ok (.sipush 752, 3) := by decide +kernel
theorem dX12_image_11 : decode cX12_image 11 = .ok (.if_icmp .ge 21, 3) := by decide +kernel
theorem dX12_image_14 : decode cX12_image 14 = .ok (.aload_n 0, 1) := by decide +kernel
theorem dX12_image_15 : decode cX12_image 15 = .ok (.getfield 13, 3) := by decide +kernel
theorem dX12_image_18 : decode cX12_image 18 = .ok (.iload_n 1, 1) := by decide +kernel
theorem dX12_image_19 : decode cX12_image 19 = .ok (.aload_n 0, 1) := by decide +kernel
theorem dX12_image_20 : decode cX12_image 20 = .ok (.getfield 7, 3) := by decide +kernel
theorem dX12_image_23 : decode cX12_image 23 = .ok (.iload_n 1, 1) := by decide +kernel
theorem dX12_image_24 : decode cX12_image 24 = .ok (.iaload, 1) := by decide +kernel
theorem dX12_image_25 : decode cX12_image 25 = .ok (.iastore, 1) := by decide +kernel
theorem dX12_image_26 : decode cX12_image 26 = .ok (.iinc 1 1, 3) := by decide +kernel
theorem dX12_image_29 : decode cX12_image 29 = .ok (.goto (-22), 3) := by decide +kernel
theorem dX12_image_32 : decode cX12_image 32 = .ok (.aload_n 0, 1) := by decide +kernel
theorem dX12_image_33 : decode cX12_image 33 = .ok (.iconst 1, 1) := by decide +kernel
theorem dX12_image_34 : decode cX12_image 34 = .ok (.putfield 460, 3) := by decide +kernel
theorem dX12_image_37 : decode cX12_image 37 = .ok (.return_, 1) := by decide +kernel
def q12_image (σ : St) : Option St :=
  lt (up σ 0 0 0) fun σ1_ =>
  Option.bind (loop2 (fun rec6_ (k9_ : Int32) (σ10_ : St) =>
  if k9_ < 752 then
  Option.bind (ag σ10_ 1 752 k9_) fun x17_ =>
  Option.bind (sa σ10_ 2 752 k9_ x17_) fun σ19_ =>
  lt (k9_ + 1) fun k21_ =>
  rec6_ k21_ σ19_
  else (some (k9_, σ10_))) fuelN (0 : Int32) σ1_) fun y3_ =>
  lt (up y3_.2 0 3 (b2i true)) fun σ23_ =>
  some σ23_
abbrev rm12_image : Room := { frames := 0, cells := 0, slots := 0, locals := 0 }
set_option maxHeartbeats 4000000 in
set_option maxRecDepth 100000 in
theorem p12_image {Θ : Tz} {σ : St} {ρ : Option Value × St} (C : Zc Θ cX12_image 2 RX12 none rm12_image) (hkd : Θ.2.2.2.2.1 = kdM) {r : St} (hf : q12_image σ = some r) (hρ : ρ = (none, r)) : Z Θ 2 0 0 (zQ Θ ρ) σ 0 [(0, .ref (zA Θ 0))] [] := by
  unfold q12_image at hf
  refine z_aload_n C 0 dX12_image_0 rfl rfl ?_
  refine z_iconst (v := 0) C dX12_image_1 ic_0 ?_
  obtain ⟨σ1_, h2_, hf⟩ := lt_ hf
  refine fp12_65 C hkd h2_ dX12_image_2 ?_
  refine z_iconst (v := 0) C dX12_image_5 ic_0 ?_
  refine z_istN C dX12_image_6 rfl rfl (Nat.le_of_ble_eq_true rfl) rfl ?_
  refine Z.sub [1, 0] rfl ?_
  obtain ⟨y3_, h4_, hf⟩ := ob hf
  suffices K5_ : Z Θ 2 0 0 (zQ Θ ρ) y3_.2 32 [(0, .ref (zA Θ 0)), (1, .int y3_.1)] [] by
    refine loop2_Z (P := fun (k9_ : Int32) (σ10_ : St) => Z Θ 2 0 0 (zQ Θ ρ) σ10_ 7 [(0, .ref (zA Θ 0)), (1, .int k9_)] []) ?_ fuelN (0 : Int32) σ1_ h4_
    clear h4_
    intro rec6_ k9_ σ10_ h7_ h8_
    have K13_ : k9_ < 752 → Z Θ 2 0 0 (zQ Θ ρ) σ10_ 14 [(0, .ref (zA Θ 0)), (1, .int k9_)] [] := by
      intro h16_
      rw [if_pos h16_] at h8_
      refine z_aload_n C 0 dX12_image_14 rfl rfl ?_
      refine fg12_13 C hkd dX12_image_15 ?_
      refine z_iload_n C 1 dX12_image_18 rfl rfl ?_
      refine z_aload_n C 0 dX12_image_19 rfl rfl ?_
      refine fg12_7 C hkd dX12_image_20 ?_
      refine z_iload_n C 1 dX12_image_23 rfl rfl ?_
      obtain ⟨x17_, h18_, h8_⟩ := ob h8_
      refine z_ag C h18_ (kM_1 hkd) dX12_image_24 ?_
      obtain ⟨σ19_, h20_, h8_⟩ := ob h8_
      refine z_sa C h20_ (kM_2 hkd) dX12_image_25 ?_
      obtain ⟨k21_, h22_, h8_⟩ := lt_ h8_
      refine z_inc C 1 dX12_image_26 rfl ic_1 h22_ (Nat.le_of_ble_eq_true rfl) rfl ?_
      refine z_goto C 7 dX12_image_29 (by decide) ?_
      refine Z.sub [1, 0] rfl ?_
      exact h7_ _ _ h8_
    have K14_ : ¬ (k9_ < 752) → Z Θ 2 0 0 (zQ Θ ρ) σ10_ 32 [(0, .ref (zA Θ 0)), (1, .int k9_)] [] := by
      intro h16_
      rw [if_neg h16_] at h8_
      cases h8_
      exact K5_
    refine z_iload_n C 1 dX12_image_7 rfl rfl ?_
    refine z_sipush (v := 752) C dX12_image_8 sp_752 ?_
    refine c_lt_f C 32 dX12_image_11 (by decide) (fun h15_ => ?_) (fun h15_ => ?_)
    · exact K13_ h15_
    · exact K14_ h15_
  refine z_aload_n C 0 dX12_image_32 rfl rfl ?_
  refine z_iconst (v := 1) C dX12_image_33 ic_1 ?_
  obtain ⟨σ23_, h24_, hf⟩ := lt_ hf
  refine fp12_460 (b := true) C hkd h24_ dX12_image_34 ?_
  cases hf
  subst hρ
  exact z_vret C dX12_image_37
theorem c12_image {l : Launch} {kd : List KD} {w : Wp} {σ : St} (hkd : kd = kdM) (hi : zI kd w) {r : St} (hf : q12_image σ = some r) : zM l kd w yX12_image cX12_image 2 none rm12_image [.ref (w.2.2.1 0)] σ (none, r) := zM_of rfl hi (Nat.le_of_ble_eq_true rfl) (fun Θ hl hw C => by
  obtain ⟨Θ1, Θ2, Θ3, Θ4, Θ5⟩ := Θ
  cases hw
  exact p12_image C hkd  hf rfl)
/-! LastLoafModel.back -/
theorem fg12_460 {Θ : Tz} {cc : ByteArray} {nL kc ks : Nat} {ret : Option FieldType} {rm : Room} {Q : State → Prop} {σ : St} {pc : Nat} {lv : List (Nat × Value)} {st : List Value} (C : Zc Θ cc nL RX12 ret rm) (hkd : Θ.2.2.2.2.1 = kdM) (hd : decode cc pc = .ok (.getfield 460, 3)) (kk : Z Θ nL kc ks Q σ (pc + 3) lv (.int (σ 0 3) :: st)) : Z Θ nL kc ks Q σ pc lv (.ref (zA Θ 0) :: st) := z_get C inT12 0 (kM_0 hkd) rfl 3 (by decide) w_8_30 rfl hd kk
theorem dX12_back_0 : decode cX12_back 0 = .ok (.aload_n 0, 1) := by decide +kernel
theorem dX12_back_1 : decode cX12_back 1 = .ok (.iconst 0, 1) := by decide +kernel
theorem dX12_back_2 : decode cX12_back 2 = .ok (.putfield 65, 3) := by decide +kernel
theorem dX12_back_5 : decode cX12_back 5 = .ok (.aload_n 0, 1) := by decide +kernel
theorem dX12_back_6 : decode cX12_back 6 = .ok (.getfield 460, 3) := by decide +kernel
theorem dX12_back_9 : decode cX12_back 9 = .ok (.ifCond .ne 5, 3) := by decide +kernel
theorem dX12_back_12 : decode cX12_back 12 = .ok (.iconst 0, 1) := by decide +kernel
theorem dX12_back_13 : decode cX12_back 13 = .ok (.ireturn, 1) := by decide +kernel
theorem dX12_back_14 : decode cX12_back 14 = .ok (.iconst 0, 1) := by decide +kernel
theorem dX12_back_15 : decode cX12_back 15 = .ok (.istore_n 1, 1) := by decide +kernel
theorem dX12_back_16 : decode cX12_back 16 = .ok (.iload_n 1, 1) := by decide +kernel
theorem dX12_back_17 : decode cX12_back 17 = .ok (.sipush 752, 3) := by decide +kernel
theorem dX12_back_20 : decode cX12_back 20 = .ok (.if_icmp .ge 21, 3) := by decide +kernel
theorem dX12_back_23 : decode cX12_back 23 = .ok (.aload_n 0, 1) := by decide +kernel
theorem dX12_back_24 : decode cX12_back 24 = .ok (.getfield 7, 3) := by decide +kernel
theorem dX12_back_27 : decode cX12_back 27 = .ok (.iload_n 1, 1) := by decide +kernel
theorem dX12_back_28 : decode cX12_back 28 = .ok (.aload_n 0, 1) := by decide +kernel
theorem dX12_back_29 : decode cX12_back 29 = .ok (.getfield 13, 3) := by decide +kernel
theorem dX12_back_32 : decode cX12_back 32 = .ok (.iload_n 1, 1) := by decide +kernel
theorem dX12_back_33 : decode cX12_back 33 = .ok (.iaload, 1) := by decide +kernel
theorem dX12_back_34 : decode cX12_back 34 = .ok (.iastore, 1) := by decide +kernel
theorem dX12_back_35 : decode cX12_back 35 = .ok (.iinc 1 1, 3) := by decide +kernel
theorem dX12_back_38 : decode cX12_back 38 = .ok (.goto (-22), 3) := by decide +kernel
theorem dX12_back_41 : decode cX12_back 41 = .ok (.aload_n 0, 1) := by decide +kernel
theorem dX12_back_42 : decode cX12_back 42 = .ok (.iconst 0, 1) := by decide +kernel
theorem dX12_back_43 : decode cX12_back 43 = .ok (.putfield 199, 3) := by decide +kernel
theorem dX12_back_46 : decode cX12_back 46 = .ok (.iconst 1, 1) := by decide +kernel
theorem dX12_back_47 : decode cX12_back 47 = .ok (.ireturn, 1) := by decide +kernel
def q12_back (σ : St) : Option (Bool × St) :=
  lt (up σ 0 0 0) fun σ1_ =>
  if ¬ (¬ (σ1_ 0 3) = 0) then (some (false, σ1_)) else
  Option.bind (loop2 (fun rec10_ (k13_ : Int32) (σ14_ : St) =>
  if k13_ < 752 then
  Option.bind (ag σ14_ 2 752 k13_) fun x21_ =>
  Option.bind (sa σ14_ 1 752 k13_ x21_) fun σ23_ =>
  lt (k13_ + 1) fun k25_ =>
  rec10_ k25_ σ23_
  else (some (k13_, σ14_))) fuelN (0 : Int32) σ1_) fun y7_ =>
  lt (up y7_.2 0 6 0) fun σ27_ =>
  some (true, σ27_)
abbrev rm12_back : Room := { frames := 0, cells := 0, slots := 0, locals := 0 }
set_option maxHeartbeats 4000000 in
set_option maxRecDepth 100000 in
theorem p12_back {Θ : Tz} {σ : St} {ρ : Option Value × St} (C : Zc Θ cX12_back 2 RX12 (some .boolean) rm12_back) (hkd : Θ.2.2.2.2.1 = kdM) {r : (Bool × St)} (hf : q12_back σ = some r) (hρ : ρ = (some (.int (b2i r.1)), r.2)) : Z Θ 2 0 0 (zQ Θ ρ) σ 0 [(0, .ref (zA Θ 0))] [] := by
  unfold q12_back at hf
  refine z_aload_n C 0 dX12_back_0 rfl rfl ?_
  refine z_iconst (v := 0) C dX12_back_1 ic_0 ?_
  obtain ⟨σ1_, h2_, hf⟩ := lt_ hf
  refine fp12_65 C hkd h2_ dX12_back_2 ?_
  have K3_ : ¬ (¬ (σ1_ 0 3) = 0) → Z Θ 2 0 0 (zQ Θ ρ) σ1_ 12 [(0, .ref (zA Θ 0))] [] := by
    intro h6_
    rw [if_pos h6_] at hf
    refine z_iconst (v := 0) C dX12_back_12 ic_0 ?_
    cases hf
    subst hρ
    exact z_zret C (b2i_narrow _) dX12_back_13
  suffices K4_ : ¬ (¬ (¬ (σ1_ 0 3) = 0)) → Z Θ 2 0 0 (zQ Θ ρ) σ1_ 14 [(0, .ref (zA Θ 0))] [] by
    refine z_aload_n C 0 dX12_back_5 rfl rfl ?_
    refine fg12_460 C hkd dX12_back_6 ?_
    refine c0_ne_t C 14 dX12_back_9 (by decide) (fun h5_ => ?_) (fun h5_ => ?_)
    · exact K4_ (fun n => n h5_)
    · exact K3_ h5_
  intro h6_
  rw [if_neg h6_] at hf
  refine z_iconst (v := 0) C dX12_back_14 ic_0 ?_
  refine z_istN C dX12_back_15 rfl rfl (Nat.le_of_ble_eq_true rfl) rfl ?_
  refine Z.sub [1, 0] rfl ?_
  obtain ⟨y7_, h8_, hf⟩ := ob hf
  suffices K9_ : Z Θ 2 0 0 (zQ Θ ρ) y7_.2 41 [(0, .ref (zA Θ 0)), (1, .int y7_.1)] [] by
    refine loop2_Z (P := fun (k13_ : Int32) (σ14_ : St) => Z Θ 2 0 0 (zQ Θ ρ) σ14_ 16 [(0, .ref (zA Θ 0)), (1, .int k13_)] []) ?_ fuelN (0 : Int32) σ1_ h8_
    clear h8_
    intro rec10_ k13_ σ14_ h11_ h12_
    have K17_ : k13_ < 752 → Z Θ 2 0 0 (zQ Θ ρ) σ14_ 23 [(0, .ref (zA Θ 0)), (1, .int k13_)] [] := by
      intro h20_
      rw [if_pos h20_] at h12_
      refine z_aload_n C 0 dX12_back_23 rfl rfl ?_
      refine fg12_7 C hkd dX12_back_24 ?_
      refine z_iload_n C 1 dX12_back_27 rfl rfl ?_
      refine z_aload_n C 0 dX12_back_28 rfl rfl ?_
      refine fg12_13 C hkd dX12_back_29 ?_
      refine z_iload_n C 1 dX12_back_32 rfl rfl ?_
      obtain ⟨x21_, h22_, h12_⟩ := ob h12_
      refine z_ag C h22_ (kM_2 hkd) dX12_back_33 ?_
      obtain ⟨σ23_, h24_, h12_⟩ := ob h12_
      refine z_sa C h24_ (kM_1 hkd) dX12_back_34 ?_
      obtain ⟨k25_, h26_, h12_⟩ := lt_ h12_
      refine z_inc C 1 dX12_back_35 rfl ic_1 h26_ (Nat.le_of_ble_eq_true rfl) rfl ?_
      refine z_goto C 16 dX12_back_38 (by decide) ?_
      refine Z.sub [1, 0] rfl ?_
      exact h11_ _ _ h12_
    have K18_ : ¬ (k13_ < 752) → Z Θ 2 0 0 (zQ Θ ρ) σ14_ 41 [(0, .ref (zA Θ 0)), (1, .int k13_)] [] := by
      intro h20_
      rw [if_neg h20_] at h12_
      cases h12_
      exact K9_
    refine z_iload_n C 1 dX12_back_16 rfl rfl ?_
    refine z_sipush (v := 752) C dX12_back_17 sp_752 ?_
    refine c_lt_f C 41 dX12_back_20 (by decide) (fun h19_ => ?_) (fun h19_ => ?_)
    · exact K17_ h19_
    · exact K18_ h19_
  refine z_aload_n C 0 dX12_back_41 rfl rfl ?_
  refine z_iconst (v := 0) C dX12_back_42 ic_0 ?_
  obtain ⟨σ27_, h28_, hf⟩ := lt_ hf
  refine fp12_199 C hkd h28_ dX12_back_43 ?_
  refine z_iconst (v := 1) C dX12_back_46 ic_1 ?_
  cases hf
  subst hρ
  exact z_zret C (b2i_narrow _) dX12_back_47
theorem c12_back {l : Launch} {kd : List KD} {w : Wp} {σ : St} (hkd : kd = kdM) (hi : zI kd w) {r : (Bool × St)} (hf : q12_back σ = some r) : zM l kd w yX12_back cX12_back 2 (some .boolean) rm12_back [.ref (w.2.2.1 0)] σ (some (.int (b2i r.1)), r.2) := zM_of rfl hi (Nat.le_of_ble_eq_true rfl) (fun Θ hl hw C => by
  obtain ⟨Θ1, Θ2, Θ3, Θ4, Θ5⟩ := Θ
  cases hw
  exact p12_back C hkd  hf rfl)

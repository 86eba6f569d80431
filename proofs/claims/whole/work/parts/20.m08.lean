/-! LastLoafModel.mayGive -/
theorem w_10_70 : Cond.code ({ cls := "LastLoafModel", name := "greater", desc := "(II)I" } : MethodName) prog_14_method_5_code (2 : Nat) (Option.some ClassFile.FieldType.int) ∈ TB := tb_in (lwt_10 (List.mem_of_getElem? (i := 70) (by decide +kernel))) rfl
theorem w_10_69 : Cond.static ({ cls := "LastLoafModel", name := "greater", desc := "(II)I" } : MethodName) ∈ TB := tb_in (lwt_10 (List.mem_of_getElem? (i := 69) (by decide +kernel))) rfl
theorem w_10_68 : Cond.methodLink "LastLoafModel" (392 : Nat) ({ cls := "LastLoafModel", name := "greater", desc := "(II)I" } : MethodName) ∈ TB := tb_in (lwt_10 (List.mem_of_getElem? (i := 68) (by decide +kernel))) rfl
theorem cr12_392 {Θ : Tz} {cc : ByteArray} {nL kc ks : Nat} {ret : Option FieldType} {rm : Room} {Q : State → Prop} {σ : St} {pc : Nat} {lv : List (Nat × Value)} {st : List Value} (C : Zc Θ cc nL RX12 ret rm) (hkd : Θ.2.2.2.2.1 = kdM) {a_a : Int32} {b_a : Int32} (hrm : rm12_greater.frames + 1 ≤ rm.frames ∧ 8 + (2 + 11) + rm12_greater.locals ≤ rm.locals) (hcat : (st.map fun v => v.category).sum ≤ 8) (hk : kc ≤ rm.cells ∧ ks ≤ rm.slots) (hd : decode cc pc = .ok (.invokestatic 392, 3)) (kk : Z Θ nL kc ks Q σ (pc + 3) lv (.int (q12_greater a_a b_a) :: st)) : Z Θ nL kc ks Q σ pc lv (.int b_a :: .int a_a :: st) := z_callS C [.int a_a, .int b_a] (some (.int (q12_greater a_a b_a)), σ) 2 (c12_greater (a_a := a_a) (b_a := b_a) hkd (zc_inj C)) w_10_70 w_10_68 w_10_69 w_1_14 ⟨rfl, rfl, hrm.1, hrm.2⟩ (by decide +kernel) rfl rfl hcat hk hd kk
theorem dX12_mayGive_0 : decode cX12_mayGive 0 = .ok (.iload_n 2, 1) := by decide +kernel
theorem dX12_mayGive_1 : decode cX12_mayGive 1 = .ok (.iconst (-1), 1) := by decide +kernel
theorem dX12_mayGive_2 : decode cX12_mayGive 2 = .ok (.if_icmp .ne 5, 3) := by decide +kernel
theorem dX12_mayGive_5 : decode cX12_mayGive 5 = .ok (.iconst 1, 1) := by decide +kernel
theorem dX12_mayGive_6 : decode cX12_mayGive 6 = .ok (.ireturn, 1) := by decide +kernel
theorem dX12_mayGive_7 : decode cX12_mayGive 7 = .ok (.aload_n 0, 1) := by decide +kernel
theorem dX12_mayGive_8 : decode cX12_mayGive 8 = .ok (.getfield 269, 3) := by decide +kernel
theorem dX12_mayGive_11 : decode cX12_mayGive 11 = .ok (.iload_n 2, 1) := by decide +kernel
theorem dX12_mayGive_12 : decode cX12_mayGive 12 = .ok (.invokestatic 275, 3) := by decide +kernel
theorem dX12_mayGive_15 : decode cX12_mayGive 15 = .ok (.ifCond .eq 16, 3) := by decide +kernel
theorem dX12_mayGive_18 : decode cX12_mayGive 18 = .ok (.aload_n 0, 1) := by decide +kernel
theorem dX12_mayGive_19 : decode cX12_mayGive 19 = .ok (.getfield 44, 3) := by decide +kernel
theorem dX12_mayGive_22 : decode cX12_mayGive 22 = .ok (.iload_n 1, 1) := by decide +kernel
theorem dX12_mayGive_23 : decode cX12_mayGive 23 = .ok (.iaload, 1) := by decide +kernel
theorem dX12_mayGive_24 : decode cX12_mayGive 24 = .ok (.iload_n 2, 1) := by decide +kernel
theorem dX12_mayGive_25 : decode cX12_mayGive 25 = .ok (.invokestatic 275, 3) := by decide +kernel
theorem dX12_mayGive_28 : decode cX12_mayGive 28 = .ok (.ifCond .eq 5, 3) := by decide +kernel
theorem dX12_mayGive_31 : decode cX12_mayGive 31 = .ok (.iconst 0, 1) := by decide +kernel
theorem dX12_mayGive_32 : decode cX12_mayGive 32 = .ok (.ireturn, 1) := by decide +kernel
theorem dX12_mayGive_33 : decode cX12_mayGive 33 = .ok (.sipush 9999, 3) := by decide +kernel
theorem dX12_mayGive_36 : decode cX12_mayGive 36 = .ok (.aload_n 0, 1) := by decide +kernel
theorem dX12_mayGive_37 : decode cX12_mayGive 37 = .ok (.getfield 47, 3) := by decide +kernel
theorem dX12_mayGive_40 : decode cX12_mayGive 40 = .ok (.iload_n 1, 1) := by decide +kernel
theorem dX12_mayGive_41 : decode cX12_mayGive 41 = .ok (.iaload, 1) := by decide +kernel
theorem dX12_mayGive_42 : decode cX12_mayGive 42 = .ok (.aload_n 0, 1) := by decide +kernel
theorem dX12_mayGive_43 : decode cX12_mayGive 43 = .ok (.getfield 7, 3) := by decide +kernel
theorem dX12_mayGive_46 : decode cX12_mayGive 46 = .ok (.bipush 10, 2) := by decide +kernel
theorem dX12_mayGive_48 : decode cX12_mayGive 48 = .ok (.sipush 9999, 3) := by decide +kernel
theorem dX12_mayGive_51 : decode cX12_mayGive 51 = .ok (.aload_n 0, 1) := by decide +kernel
theorem dX12_mayGive_52 : decode cX12_mayGive 52 = .ok (.getfield 7, 3) := by decide +kernel
theorem dX12_mayGive_55 : decode cX12_mayGive 55 = .ok (.iconst 4, 1) := by decide +kernel
theorem dX12_mayGive_56 : decode cX12_mayGive 56 = .ok (.iaload, 1) := by decide +kernel
theorem dX12_mayGive_57 : decode cX12_mayGive 57 = .ok (.iload_n 1, 1) := by decide +kernel
theorem dX12_mayGive_58 : decode cX12_mayGive 58 = .ok (.iadd, 1) := by decide +kernel
theorem dX12_mayGive_59 : decode cX12_mayGive 59 = .ok (.invokestatic 313, 3) := by decide +kernel
theorem dX12_mayGive_62 : decode cX12_mayGive 62 = .ok (.iconst 4, 1) := by decide +kernel
theorem dX12_mayGive_63 : decode cX12_mayGive 63 = .ok (.irem, 1) := by decide +kernel
theorem dX12_mayGive_64 : decode cX12_mayGive 64 = .ok (.iadd, 1) := by decide +kernel
theorem dX12_mayGive_65 : decode cX12_mayGive 65 = .ok (.iaload, 1) := by decide +kernel
theorem dX12_mayGive_66 : decode cX12_mayGive 66 = .ok (.iadd, 1) := by decide +kernel
theorem dX12_mayGive_67 : decode cX12_mayGive 67 = .ok (.invokestatic 313, 3) := by decide +kernel
theorem dX12_mayGive_70 : decode cX12_mayGive 70 = .ok (.istore_n 3, 1) := by decide +kernel
theorem dX12_mayGive_71 : decode cX12_mayGive 71 = .ok (.iconst 0, 1) := by decide +kernel
theorem dX12_mayGive_72 : decode cX12_mayGive 72 = .ok (.istore 4, 2) := by decide +kernel
theorem dX12_mayGive_74 : decode cX12_mayGive 74 = .ok (.iload 4, 2) := by decide +kernel
theorem dX12_mayGive_76 : decode cX12_mayGive 76 = .ok (.aload_n 0, 1) := by decide +kernel
theorem dX12_mayGive_77 : decode cX12_mayGive 77 = .ok (.getfield 7, 3) := by decide +kernel
theorem dX12_mayGive_80 : decode cX12_mayGive 80 = .ok (.iconst 3, 1) := by decide +kernel
theorem dX12_mayGive_81 : decode cX12_mayGive 81 = .ok (.iaload, 1) := by decide +kernel
theorem dX12_mayGive_82 : decode cX12_mayGive 82 = .ok (.if_icmp .ge 41, 3) := by decide +kernel
theorem dX12_mayGive_85 : decode cX12_mayGive 85 = .ok (.aload_n 0, 1) := by decide +kernel
theorem dX12_mayGive_86 : decode cX12_mayGive 86 = .ok (.getfield 44, 3) := by decide +kernel
theorem dX12_mayGive_89 : decode cX12_mayGive 89 = .ok (.iload_n 1, 1) := by decide +kernel
theorem dX12_mayGive_90 : decode cX12_mayGive 90 = .ok (.iaload, 1) := by decide +kernel
theorem dX12_mayGive_91 : decode cX12_mayGive 91 = .ok (.iload 4, 2) := by decide +kernel
theorem dX12_mayGive_93 : decode cX12_mayGive 93 = .ok (.invokestatic 275, 3) := by decide +kernel
theorem dX12_mayGive_96 : decode cX12_mayGive 96 = .ok (.ifCond .ne 21, 3) := by decide +kernel
theorem dX12_mayGive_99 : decode cX12_mayGive 99 = .ok (.aload_n 0, 1) := by decide +kernel
theorem dX12_mayGive_100 : decode cX12_mayGive 100 = .ok (.iload 4, 2) := by decide +kernel
theorem dX12_mayGive_102 : decode cX12_mayGive 102 = .ok (.iconst 3, 1) := by decide +kernel
theorem dX12_mayGive_103 : decode cX12_mayGive 103 = .ok (.invokevirtual 72, 3) := by decide +kernel
theorem dX12_mayGive_106 : decode cX12_mayGive 106 = .ok (.ifCond .ne 11, 3) := by decide +kernel
theorem dX12_mayGive_109 : decode cX12_mayGive 109 = .ok (.iconst 0, 1) := by decide +kernel
theorem dX12_mayGive_110 : decode cX12_mayGive 110 = .ok (.iload_n 3, 1) := by decide +kernel
theorem dX12_mayGive_111 : decode cX12_mayGive 111 = .ok (.iconst 1, 1) := by decide +kernel
theorem dX12_mayGive_112 : decode cX12_mayGive 112 = .ok (.isub, 1) := by decide +kernel
theorem dX12_mayGive_113 : decode cX12_mayGive 113 = .ok (.invokestatic 392, 3) := by decide +kernel
theorem dX12_mayGive_116 : decode cX12_mayGive 116 = .ok (.istore_n 3, 1) := by decide +kernel
theorem dX12_mayGive_117 : decode cX12_mayGive 117 = .ok (.iinc 4 1, 3) := by decide +kernel
theorem dX12_mayGive_120 : decode cX12_mayGive 120 = .ok (.goto (-46), 3) := by decide +kernel
theorem dX12_mayGive_123 : decode cX12_mayGive 123 = .ok (.iload_n 3, 1) := by decide +kernel
theorem dX12_mayGive_124 : decode cX12_mayGive 124 = .ok (.ifCond .le 7, 3) := by decide +kernel
theorem dX12_mayGive_127 : decode cX12_mayGive 127 = .ok (.iconst 1, 1) := by decide +kernel
theorem dX12_mayGive_128 : decode cX12_mayGive 128 = .ok (.goto 4, 3) := by decide +kernel
theorem dX12_mayGive_131 : decode cX12_mayGive 131 = .ok (.iconst 0, 1) := by decide +kernel
theorem dX12_mayGive_132 : decode cX12_mayGive 132 = .ok (.ireturn, 1) := by decide +kernel
def q12_mayGive (σ : St) (level_a : Int32) (whom_a : Int32) : Option Bool :=
  if whom_a = (-1) then (some true) else
  Option.bind (if q12_isOf (σ 0 21) whom_a = true then (Option.bind (ag σ 11 8 level_a) fun x10_ =>
  if q12_isOf x10_ whom_a = true then (some true) else (some false)) else (some true)) fun t7_ =>
  if t7_ = true then (some false) else
  Option.bind (ag σ 12 8 level_a) fun x14_ =>
  Option.bind (ag σ 1 752 4) fun x16_ =>
  Option.bind (ag σ 1 752 (10 + (irm (q12_lesser 9999 (x16_ + level_a)) 4))) fun x18_ =>
  lt (q12_lesser 9999 (x14_ + x18_)) fun flour20_ =>
  Option.bind (loop2 (fun rec25_ (flour28_ : Int32) (p29_ : Int32) =>
  Option.bind (ag σ 1 752 3) fun x34_ =>
  if p29_ < x34_ then
  Option.bind (Option.bind (Option.bind (ag σ 11 8 level_a) fun x45_ =>
  if q12_isOf x45_ p29_ = true then (some false) else (Option.bind (q12_of σ p29_ 3) fun x48_ =>
  if x48_ = 0 then (some true) else (some false))) fun t43_ =>
  if t43_ = true then (lt (q12_greater 0 (flour28_ - 1)) fun flour52_ =>
  some (flour52_)) else (some (flour28_))) fun y38_ =>
  lt (p29_ + 1) fun p54_ =>
  rec25_ y38_ p54_
  else (some (flour28_, p29_))) fuelN flour20_ (0 : Int32)) fun y22_ =>
  some (decide (0 < y22_.1))
abbrev rm12_mayGive : Room := { frames := 1, cells := 0, slots := 0, locals := 22 }
set_option maxHeartbeats 4000000 in
set_option maxRecDepth 100000 in
theorem p12_mayGive {Θ : Tz} {σ : St} {ρ : Option Value × St} (C : Zc Θ cX12_mayGive 5 RX12 (some .boolean) rm12_mayGive) (hkd : Θ.2.2.2.2.1 = kdM) {level_a : Int32} {whom_a : Int32} {r : Bool} (hf : q12_mayGive σ level_a whom_a = some r) (hρ : ρ = (some (.int (b2i r)), σ)) : Z Θ 5 0 0 (zQ Θ ρ) σ 0 [(0, .ref (zA Θ 0)), (1, .int level_a), (2, .int whom_a)] [] := by
  unfold q12_mayGive at hf
  have K1_ : whom_a = (-1) → Z Θ 5 0 0 (zQ Θ ρ) σ 5 [(0, .ref (zA Θ 0)), (1, .int level_a), (2, .int whom_a)] [] := by
    intro h4_
    rw [if_pos h4_] at hf
    refine z_iconst (v := 1) C dX12_mayGive_5 ic_1 ?_
    cases hf
    subst hρ
    exact z_zret C (b2i_narrow _) dX12_mayGive_6
  suffices K2_ : ¬ (whom_a = (-1)) → Z Θ 5 0 0 (zQ Θ ρ) σ 7 [(0, .ref (zA Θ 0)), (1, .int level_a), (2, .int whom_a)] [] by
    refine z_iload_n C 2 dX12_mayGive_0 rfl rfl ?_
    refine z_iconst (v := (-1)) C dX12_mayGive_1 ic_m1 ?_
    refine c_eq_f C 7 dX12_mayGive_2 (by decide) (fun h3_ => ?_) (fun h3_ => ?_)
    · exact K1_ h3_
    · exact K2_ h3_
  intro h4_
  rw [if_neg h4_] at hf
  obtain ⟨t7_, h8_, hf⟩ := ob hf
  have K5_ : t7_ = true → Z Θ 5 0 0 (zQ Θ ρ) σ 31 [(0, .ref (zA Θ 0)), (1, .int level_a), (2, .int whom_a)] [] := by
    intro h13_
    rw [if_pos h13_] at hf
    refine z_iconst (v := 0) C dX12_mayGive_31 ic_0 ?_
    cases hf
    subst hρ
    exact z_zret C (b2i_narrow _) dX12_mayGive_32
  suffices K6_ : ¬ (t7_ = true) → Z Θ 5 0 0 (zQ Θ ρ) σ 33 [(0, .ref (zA Θ 0)), (1, .int level_a), (2, .int whom_a)] [] by
    refine z_aload_n C 0 dX12_mayGive_7 rfl rfl ?_
    refine fg12_269 C hkd dX12_mayGive_8 ?_
    refine z_iload_n C 2 dX12_mayGive_11 rfl rfl ?_
    refine cr12_275 (set_a := (σ 0 21)) (k_a := whom_a) C hkd  ⟨(Nat.le_of_ble_eq_true rfl), (Nat.le_of_ble_eq_true rfl)⟩ (Nat.le_of_ble_eq_true rfl) ⟨Nat.zero_le _, Nat.zero_le _⟩ dX12_mayGive_12 ?_
    refine cb_f C 31 dX12_mayGive_15 (by decide) (fun h9_ => ?_) (fun h9_ => ?_)
    · rw [if_pos h9_] at h8_
      refine z_aload_n C 0 dX12_mayGive_18 rfl rfl ?_
      refine fg12_44 C hkd dX12_mayGive_19 ?_
      refine z_iload_n C 1 dX12_mayGive_22 rfl rfl ?_
      obtain ⟨x10_, h11_, h8_⟩ := ob h8_
      refine z_ag C h11_ (kM_11 hkd) dX12_mayGive_23 ?_
      refine z_iload_n C 2 dX12_mayGive_24 rfl rfl ?_
      refine cr12_275 (set_a := x10_) (k_a := whom_a) C hkd  ⟨(Nat.le_of_ble_eq_true rfl), (Nat.le_of_ble_eq_true rfl)⟩ (Nat.le_of_ble_eq_true rfl) ⟨Nat.zero_le _, Nat.zero_le _⟩ dX12_mayGive_25 ?_
      refine cb_f C 33 dX12_mayGive_28 (by decide) (fun h12_ => ?_) (fun h12_ => ?_)
      · rw [if_pos h12_] at h8_
        cases h8_
        exact K5_ rfl
      · rw [if_neg h12_] at h8_
        cases h8_
        exact K6_ Bool.false_ne_true
    · rw [if_neg h9_] at h8_
      cases h8_
      exact K5_ rfl
  intro h13_
  rw [if_neg h13_] at hf
  refine z_sipush (v := 9999) C dX12_mayGive_33 sp_9999 ?_
  refine z_aload_n C 0 dX12_mayGive_36 rfl rfl ?_
  refine fg12_47 C hkd dX12_mayGive_37 ?_
  refine z_iload_n C 1 dX12_mayGive_40 rfl rfl ?_
  obtain ⟨x14_, h15_, hf⟩ := ob hf
  refine z_ag C h15_ (kM_12 hkd) dX12_mayGive_41 ?_
  refine z_aload_n C 0 dX12_mayGive_42 rfl rfl ?_
  refine fg12_7 C hkd dX12_mayGive_43 ?_
  refine z_bipush (v := 10) C dX12_mayGive_46 bp_10 ?_
  refine z_sipush (v := 9999) C dX12_mayGive_48 sp_9999 ?_
  refine z_aload_n C 0 dX12_mayGive_51 rfl rfl ?_
  refine fg12_7 C hkd dX12_mayGive_52 ?_
  refine z_iconst (v := 4) C dX12_mayGive_55 ic_4 ?_
  obtain ⟨x16_, h17_, hf⟩ := ob hf
  refine z_ag C h17_ (kM_1 hkd) dX12_mayGive_56 ?_
  refine z_iload_n C 1 dX12_mayGive_57 rfl rfl ?_
  refine z_iadd C dX12_mayGive_58 ?_
  refine cr12_313 (a_a := 9999) (b_a := (x16_ + level_a)) C hkd  ⟨(Nat.le_of_ble_eq_true rfl), (Nat.le_of_ble_eq_true rfl)⟩ (Nat.le_of_ble_eq_true rfl) ⟨Nat.zero_le _, Nat.zero_le _⟩ dX12_mayGive_59 ?_
  refine z_iconst (v := 4) C dX12_mayGive_62 ic_4 ?_
  refine z_irm C (by decide) dX12_mayGive_63 ?_
  refine z_iadd C dX12_mayGive_64 ?_
  obtain ⟨x18_, h19_, hf⟩ := ob hf
  refine z_ag C h19_ (kM_1 hkd) dX12_mayGive_65 ?_
  refine z_iadd C dX12_mayGive_66 ?_
  refine cr12_313 (a_a := 9999) (b_a := (x14_ + x18_)) C hkd  ⟨(Nat.le_of_ble_eq_true rfl), (Nat.le_of_ble_eq_true rfl)⟩ (Nat.le_of_ble_eq_true rfl) ⟨Nat.zero_le _, Nat.zero_le _⟩ dX12_mayGive_67 ?_
  obtain ⟨flour20_, h21_, hf⟩ := lt_ hf
  refine z_istN C dX12_mayGive_70 h21_ rfl (Nat.le_of_ble_eq_true rfl) rfl ?_
  refine z_iconst (v := 0) C dX12_mayGive_71 ic_0 ?_
  refine z_ist C dX12_mayGive_72 rfl (Nat.le_of_ble_eq_true rfl) rfl ?_
  refine Z.sub [2, 3, 4, 1, 0] rfl ?_
  obtain ⟨y22_, h23_, hf⟩ := ob hf
  suffices K24_ : Z Θ 5 0 0 (zQ Θ ρ) σ 123 [(0, .ref (zA Θ 0)), (1, .int level_a), (2, .int whom_a), (3, .int y22_.1), (4, .int y22_.2)] [] by
    refine loop2_Z (P := fun (flour28_ : Int32) (p29_ : Int32) => Z Θ 5 0 0 (zQ Θ ρ) σ 74 [(0, .ref (zA Θ 0)), (1, .int level_a), (2, .int whom_a), (3, .int flour28_), (4, .int p29_)] []) ?_ fuelN flour20_ (0 : Int32) h23_
    clear h23_
    intro rec25_ flour28_ p29_ h26_ h27_
    refine z_iload C 4 dX12_mayGive_74 rfl ?_
    refine z_aload_n C 0 dX12_mayGive_76 rfl rfl ?_
    refine fg12_7 C hkd dX12_mayGive_77 ?_
    refine z_iconst (v := 3) C dX12_mayGive_80 ic_3 ?_
    obtain ⟨x34_, h35_, h27_⟩ := ob h27_
    refine z_ag C h35_ (kM_1 hkd) dX12_mayGive_81 ?_
    have K32_ : p29_ < x34_ → Z Θ 5 0 0 (zQ Θ ρ) σ 85 [(0, .ref (zA Θ 0)), (1, .int level_a), (2, .int whom_a), (3, .int flour28_), (4, .int p29_)] [] := by
      intro h37_
      rw [if_pos h37_] at h27_
      obtain ⟨y38_, h39_, h27_⟩ := ob h27_
      suffices K40_ : Z Θ 5 0 0 (zQ Θ ρ) σ 117 [(0, .ref (zA Θ 0)), (1, .int level_a), (2, .int whom_a), (3, .int y38_), (4, .int p29_)] [] by
        obtain ⟨t43_, h44_, h39_⟩ := ob h39_
        have K41_ : t43_ = true → Z Θ 5 0 0 (zQ Θ ρ) σ 109 [(0, .ref (zA Θ 0)), (1, .int level_a), (2, .int whom_a), (3, .int flour28_), (4, .int p29_)] [] := by
          intro h51_
          rw [if_pos h51_] at h39_
          refine z_iconst (v := 0) C dX12_mayGive_109 ic_0 ?_
          refine z_iload_n C 3 dX12_mayGive_110 rfl rfl ?_
          refine z_iconst (v := 1) C dX12_mayGive_111 ic_1 ?_
          refine z_isub C dX12_mayGive_112 ?_
          refine cr12_392 (a_a := 0) (b_a := (flour28_ - 1)) C hkd  ⟨(Nat.le_of_ble_eq_true rfl), (Nat.le_of_ble_eq_true rfl)⟩ (Nat.le_of_ble_eq_true rfl) ⟨Nat.zero_le _, Nat.zero_le _⟩ dX12_mayGive_113 ?_
          obtain ⟨flour52_, h53_, h39_⟩ := lt_ h39_
          refine z_istN C dX12_mayGive_116 h53_ rfl (Nat.le_of_ble_eq_true rfl) rfl ?_
          cases h39_
          refine Z.sub [1, 2, 3, 0, 4] rfl ?_
          exact K40_
        have K42_ : ¬ (t43_ = true) → Z Θ 5 0 0 (zQ Θ ρ) σ 117 [(0, .ref (zA Θ 0)), (1, .int level_a), (2, .int whom_a), (3, .int flour28_), (4, .int p29_)] [] := by
          intro h51_
          rw [if_neg h51_] at h39_
          cases h39_
          exact K40_
        refine z_aload_n C 0 dX12_mayGive_85 rfl rfl ?_
        refine fg12_44 C hkd dX12_mayGive_86 ?_
        refine z_iload_n C 1 dX12_mayGive_89 rfl rfl ?_
        obtain ⟨x45_, h46_, h44_⟩ := ob h44_
        refine z_ag C h46_ (kM_11 hkd) dX12_mayGive_90 ?_
        refine z_iload C 4 dX12_mayGive_91 rfl ?_
        refine cr12_275 (set_a := x45_) (k_a := p29_) C hkd  ⟨(Nat.le_of_ble_eq_true rfl), (Nat.le_of_ble_eq_true rfl)⟩ (Nat.le_of_ble_eq_true rfl) ⟨Nat.zero_le _, Nat.zero_le _⟩ dX12_mayGive_93 ?_
        refine cb_t C 117 dX12_mayGive_96 (by decide) (fun h47_ => ?_) (fun h47_ => ?_)
        · rw [if_pos h47_] at h44_
          cases h44_
          exact K42_ Bool.false_ne_true
        · rw [if_neg h47_] at h44_
          refine z_aload_n C 0 dX12_mayGive_99 rfl rfl ?_
          refine z_iload C 4 dX12_mayGive_100 rfl ?_
          refine z_iconst (v := 3) C dX12_mayGive_102 ic_3 ?_
          obtain ⟨x48_, h49_, h44_⟩ := ob h44_
          refine cr12_72 (p_a := p29_) (what_a := 3) C hkd  h49_ ⟨(Nat.le_of_ble_eq_true rfl), (Nat.le_of_ble_eq_true rfl)⟩ (Nat.le_of_ble_eq_true rfl) ⟨Nat.zero_le _, Nat.zero_le _⟩ dX12_mayGive_103 ?_
          refine c0_eq_f C 117 dX12_mayGive_106 (by decide) (fun h50_ => ?_) (fun h50_ => ?_)
          · rw [if_pos h50_] at h44_
            cases h44_
            exact K41_ rfl
          · rw [if_neg h50_] at h44_
            cases h44_
            exact K42_ Bool.false_ne_true
      obtain ⟨p54_, h55_, h27_⟩ := lt_ h27_
      refine z_inc C 4 dX12_mayGive_117 rfl ic_1 h55_ (Nat.le_of_ble_eq_true rfl) rfl ?_
      refine z_goto C 74 dX12_mayGive_120 (by decide) ?_
      refine Z.sub [1, 2, 3, 4, 0] rfl ?_
      exact h26_ _ _ h27_
    have K33_ : ¬ (p29_ < x34_) → Z Θ 5 0 0 (zQ Θ ρ) σ 123 [(0, .ref (zA Θ 0)), (1, .int level_a), (2, .int whom_a), (3, .int flour28_), (4, .int p29_)] [] := by
      intro h37_
      rw [if_neg h37_] at h27_
      cases h27_
      exact K24_
    refine c_lt_f C 123 dX12_mayGive_82 (by decide) (fun h36_ => ?_) (fun h36_ => ?_)
    · exact K32_ h36_
    · exact K33_ h36_
  suffices K56_ : Z Θ 5 0 0 (zQ Θ ρ) σ 132 [(0, .ref (zA Θ 0)), (1, .int level_a), (2, .int whom_a), (3, .int y22_.1), (4, .int y22_.2)] [.int (b2i (decide (0 < y22_.1)))] by
    have K57_ : 0 < y22_.1 → Z Θ 5 0 0 (zQ Θ ρ) σ 127 [(0, .ref (zA Θ 0)), (1, .int level_a), (2, .int whom_a), (3, .int y22_.1), (4, .int y22_.2)] [] := by
      intro h60_
      rw [decide_eq_true h60_] at K56_
      refine z_iconst (v := 1) C dX12_mayGive_127 ic_1 ?_
      refine z_goto C 132 dX12_mayGive_128 (by decide) ?_
      exact K56_
    have K58_ : ¬ (0 < y22_.1) → Z Θ 5 0 0 (zQ Θ ρ) σ 131 [(0, .ref (zA Θ 0)), (1, .int level_a), (2, .int whom_a), (3, .int y22_.1), (4, .int y22_.2)] [] := by
      intro h60_
      rw [decide_eq_false h60_] at K56_
      refine z_iconst (v := 0) C dX12_mayGive_131 ic_0 ?_
      exact K56_
    refine z_iload_n C 3 dX12_mayGive_123 rfl rfl ?_
    refine c0_gt_f C 131 dX12_mayGive_124 (by decide) (fun h59_ => ?_) (fun h59_ => ?_)
    · exact K57_ h59_
    · exact K58_ h59_
  cases hf
  subst hρ
  exact z_zret C (b2i_narrow _) dX12_mayGive_132
theorem c12_mayGive {l : Launch} {kd : List KD} {w : Wp} {σ : St} {level_a : Int32} {whom_a : Int32} (hkd : kd = kdM) (hi : zI kd w) {r : Bool} (hf : q12_mayGive σ level_a whom_a = some r) : zM l kd w yX12_mayGive cX12_mayGive 5 (some .boolean) rm12_mayGive [.ref (w.2.2.1 0), .int level_a, .int whom_a] σ (some (.int (b2i r)), σ) := zM_of rfl hi (Nat.le_of_ble_eq_true rfl) (fun Θ hl hw C => by
  obtain ⟨Θ1, Θ2, Θ3, Θ4, Θ5⟩ := Θ
  cases hw
  exact p12_mayGive C hkd  hf rfl)
/-! LastLoafModel.fewestBy -/
theorem w_8_54 : Cond.fieldLink "LastLoafModel" (50 : Nat) "LastLoafModel" "choice" "[I" ∈ TB := tb_in (lwt_8 (List.mem_of_getElem? (i := 54) (by decide +kernel))) rfl
theorem fg12_50 {Θ : Tz} {cc : ByteArray} {nL kc ks : Nat} {ret : Option FieldType} {rm : Room} {Q : State → Prop} {σ : St} {pc : Nat} {lv : List (Nat × Value)} {st : List Value} (C : Zc Θ cc nL RX12 ret rm) (hkd : Θ.2.2.2.2.1 = kdM) (hd : decode cc pc = .ok (.getfield 50, 3)) (kk : Z Θ nL kc ks Q σ (pc + 3) lv (.ref (zA Θ 13) :: st)) : Z Θ nL kc ks Q σ pc lv (.ref (zA Θ 0) :: st) := z_get C inT12 0 (kM_0 hkd) rfl 27 (by decide) w_8_54 rfl hd kk
theorem bp_m2 : (Int8.ofInt (-2)).toInt32 = (-2) := by decide +kernel
theorem w_8_50 : Cond.fieldLink "LastLoafModel" (38 : Nat) "LastLoafModel" "firsts" "[I" ∈ TB := tb_in (lwt_8 (List.mem_of_getElem? (i := 50) (by decide +kernel))) rfl
theorem fg12_38 {Θ : Tz} {cc : ByteArray} {nL kc ks : Nat} {ret : Option FieldType} {rm : Room} {Q : State → Prop} {σ : St} {pc : Nat} {lv : List (Nat × Value)} {st : List Value} (C : Zc Θ cc nL RX12 ret rm) (hkd : Θ.2.2.2.2.1 = kdM) (hd : decode cc pc = .ok (.getfield 38, 3)) (kk : Z Θ nL kc ks Q σ (pc + 3) lv (.ref (zA Θ 9) :: st)) : Z Θ nL kc ks Q σ pc lv (.ref (zA Θ 0) :: st) := z_get C inT12 0 (kM_0 hkd) rfl 23 (by decide) w_8_50 rfl hd kk
theorem w_10_67 : Cond.code ({ cls := "LastLoafModel", name := "mayGive", desc := "(II)Z" } : MethodName) prog_14_method_99_code (5 : Nat) (Option.some ClassFile.FieldType.boolean) ∈ TB := tb_in (lwt_10 (List.mem_of_getElem? (i := 67) (by decide +kernel))) rfl
theorem w_10_64 : Cond.methodLink "LastLoafModel" (395 : Nat) ({ cls := "LastLoafModel", name := "mayGive", desc := "(II)Z" } : MethodName) ∈ TB := tb_in (lwt_10 (List.mem_of_getElem? (i := 64) (by decide +kernel))) rfl
theorem w_10_66 : Cond.instanceMethod ({ cls := "LastLoafModel", name := "mayGive", desc := "(II)Z" } : MethodName) ∈ TB := tb_in (lwt_10 (List.mem_of_getElem? (i := 66) (by decide +kernel))) rfl
theorem ws_LastLoafModel_mayGive_II_Z : Cond.selects "LastLoafModel" (⟨"LastLoafModel", "mayGive", "(II)Z"⟩ : MethodName) (⟨"LastLoafModel", "mayGive", "(II)Z"⟩ : MethodName) ∈ TB := tb_in (List.mem_append_left _ (List.mem_of_getElem? (i := 80) (by decide +kernel))) rfl
theorem cr12_395 {Θ : Tz} {cc : ByteArray} {nL kc ks : Nat} {ret : Option FieldType} {rm : Room} {Q : State → Prop} {σ : St} {pc : Nat} {lv : List (Nat × Value)} {st : List Value} (C : Zc Θ cc nL RX12 ret rm) (hkd : Θ.2.2.2.2.1 = kdM) {level_a : Int32} {whom_a : Int32} {r : Bool} (hx : q12_mayGive σ level_a whom_a = some r) (hrm : rm12_mayGive.frames + 1 ≤ rm.frames ∧ 8 + (5 + 11) + rm12_mayGive.locals ≤ rm.locals) (hcat : (st.map fun v => v.category).sum ≤ 8) (hk : kc ≤ rm.cells ∧ ks ≤ rm.slots) (hd : decode cc pc = .ok (.invokevirtual 395, 3)) (kk : Z Θ nL kc ks Q σ (pc + 3) lv (.int (b2i r) :: st)) : Z Θ nL kc ks Q σ pc lv (.int whom_a :: .int level_a :: .ref (zA Θ 0) :: st) := z_callV C 0 [.int level_a, .int whom_a] (some (.int (b2i r)), σ) 2 (kM_0 hkd) rfl (c12_mayGive (level_a := level_a) (whom_a := whom_a) hkd (zc_inj C) hx) w_10_67 w_10_64 w_10_66 ws_LastLoafModel_mayGive_II_Z w_1_14 ⟨rfl, rfl, hrm.1, hrm.2⟩ (by decide +kernel) rfl rfl hcat hk hd kk
theorem w_10_74 : Cond.code ({ cls := "LastLoafModel", name := "turns", desc := "(II)V" } : MethodName) prog_14_method_98_code (7 : Nat) (Option.none : Option ClassFile.FieldType) ∈ TB := tb_in (lwt_10 (List.mem_of_getElem? (i := 74) (by decide +kernel))) rfl
theorem w_10_71 : Cond.methodLink "LastLoafModel" (398 : Nat) ({ cls := "LastLoafModel", name := "turns", desc := "(II)V" } : MethodName) ∈ TB := tb_in (lwt_10 (List.mem_of_getElem? (i := 71) (by decide +kernel))) rfl
theorem w_10_73 : Cond.instanceMethod ({ cls := "LastLoafModel", name := "turns", desc := "(II)V" } : MethodName) ∈ TB := tb_in (lwt_10 (List.mem_of_getElem? (i := 73) (by decide +kernel))) rfl
theorem ws_LastLoafModel_turns_II_V : Cond.selects "LastLoafModel" (⟨"LastLoafModel", "turns", "(II)V"⟩ : MethodName) (⟨"LastLoafModel", "turns", "(II)V"⟩ : MethodName) ∈ TB := tb_in (List.mem_append_left _ (List.mem_of_getElem? (i := 81) (by decide +kernel))) rfl
theorem cr12_398 {Θ : Tz} {cc : ByteArray} {nL kc ks : Nat} {ret : Option FieldType} {rm : Room} {Q : State → Prop} {σ : St} {pc : Nat} {lv : List (Nat × Value)} {st : List Value} (C : Zc Θ cc nL RX12 ret rm) (hkd : Θ.2.2.2.2.1 = kdM) {level_a : Int32} {whom_a : Int32} {r : St} (hx : q12_turns σ level_a whom_a = some r) (hrm : rm12_turns.frames + 1 ≤ rm.frames ∧ 8 + (7 + 11) + rm12_turns.locals ≤ rm.locals) (hcat : (st.map fun v => v.category).sum ≤ 8) (hk : kc ≤ rm.cells ∧ ks ≤ rm.slots) (hd : decode cc pc = .ok (.invokevirtual 398, 3)) (kk : Z Θ nL kc ks Q r (pc + 3) lv st) : Z Θ nL kc ks Q σ pc lv (.int whom_a :: .int level_a :: .ref (zA Θ 0) :: st) := z_callV C 0 [.int level_a, .int whom_a] (none, r) 2 (kM_0 hkd) rfl (c12_turns (level_a := level_a) (whom_a := whom_a) hkd (zc_inj C) hx) w_10_74 w_10_71 w_10_73 ws_LastLoafModel_turns_II_V w_1_14 ⟨rfl, rfl, hrm.1, hrm.2⟩ (by decide +kernel) rfl rfl hcat hk hd kk
theorem dX12_fewestBy_0 : decode cX12_fewestBy 0 = .ok (.iconst 0, 1) := by decide +kernel
theorem dX12_fewestBy_1 : decode cX12_fewestBy 1 = .ok (.istore_n 2, 1) := by decide +kernel
theorem dX12_fewestBy_2 : decode cX12_fewestBy 2 = .ok (.iload_n 2, 1) := by decide +kernel
theorem dX12_fewestBy_3 : decode cX12_fewestBy 3 = .ok (.aload_n 0, 1) := by decide +kernel
theorem dX12_fewestBy_4 : decode cX12_fewestBy 4 = .ok (.getfield 7, 3) := by decide +kernel
theorem dX12_fewestBy_7 : decode cX12_fewestBy 7 = .ok (.iconst 3, 1) := by decide +kernel
theorem dX12_fewestBy_8 : decode cX12_fewestBy 8 = .ok (.iaload, 1) := by decide +kernel
theorem dX12_fewestBy_9 : decode cX12_fewestBy 9 = .ok (.if_icmp .ge 21, 3) := by decide +kernel
theorem dX12_fewestBy_12 : decode cX12_fewestBy 12 = .ok (.aload_n 0, 1) := by decide +kernel
theorem dX12_fewestBy_13 : decode cX12_fewestBy 13 = .ok (.getfield 41, 3) := by decide +kernel
theorem dX12_fewestBy_16 : decode cX12_fewestBy 16 = .ok (.iload_n 2, 1) := by decide +kernel
theorem dX12_fewestBy_17 : decode cX12_fewestBy 17 = .ok (.aload_n 0, 1) := by decide +kernel
theorem dX12_fewestBy_18 : decode cX12_fewestBy 18 = .ok (.iload_n 2, 1) := by decide +kernel
theorem dX12_fewestBy_19 : decode cX12_fewestBy 19 = .ok (.iconst 0, 1) := by decide +kernel
theorem dX12_fewestBy_20 : decode cX12_fewestBy 20 = .ok (.invokevirtual 72, 3) := by decide +kernel
theorem dX12_fewestBy_23 : decode cX12_fewestBy 23 = .ok (.iastore, 1) := by decide +kernel
theorem dX12_fewestBy_24 : decode cX12_fewestBy 24 = .ok (.iinc 2 1, 3) := by decide +kernel
theorem dX12_fewestBy_27 : decode cX12_fewestBy 27 = .ok (.goto (-25), 3) := by decide +kernel
theorem dX12_fewestBy_30 : decode cX12_fewestBy 30 = .ok (.aload_n 0, 1) := by decide +kernel
theorem dX12_fewestBy_31 : decode cX12_fewestBy 31 = .ok (.getfield 44, 3) := by decide +kernel
theorem dX12_fewestBy_34 : decode cX12_fewestBy 34 = .ok (.iconst 0, 1) := by decide +kernel
theorem dX12_fewestBy_35 : decode cX12_fewestBy 35 = .ok (.aload_n 0, 1) := by decide +kernel
theorem dX12_fewestBy_36 : decode cX12_fewestBy 36 = .ok (.iconst 4, 1) := by decide +kernel
theorem dX12_fewestBy_37 : decode cX12_fewestBy 37 = .ok (.invokevirtual 266, 3) := by decide +kernel
theorem dX12_fewestBy_40 : decode cX12_fewestBy 40 = .ok (.iastore, 1) := by decide +kernel
theorem dX12_fewestBy_41 : decode cX12_fewestBy 41 = .ok (.aload_n 0, 1) := by decide +kernel
theorem dX12_fewestBy_42 : decode cX12_fewestBy 42 = .ok (.getfield 47, 3) := by decide +kernel
theorem dX12_fewestBy_45 : decode cX12_fewestBy 45 = .ok (.iconst 0, 1) := by decide +kernel
theorem dX12_fewestBy_46 : decode cX12_fewestBy 46 = .ok (.aload_n 0, 1) := by decide +kernel
theorem dX12_fewestBy_47 : decode cX12_fewestBy 47 = .ok (.getfield 7, 3) := by decide +kernel
theorem dX12_fewestBy_50 : decode cX12_fewestBy 50 = .ok (.iconst 5, 1) := by decide +kernel
theorem dX12_fewestBy_51 : decode cX12_fewestBy 51 = .ok (.iaload, 1) := by decide +kernel
theorem dX12_fewestBy_52 : decode cX12_fewestBy 52 = .ok (.iastore, 1) := by decide +kernel
theorem dX12_fewestBy_53 : decode cX12_fewestBy 53 = .ok (.ldc_w 379, 3) := by decide +kernel
theorem dX12_fewestBy_56 : decode cX12_fewestBy 56 = .ok (.istore_n 2, 1) := by decide +kernel
theorem dX12_fewestBy_57 : decode cX12_fewestBy 57 = .ok (.iconst 0, 1) := by decide +kernel
theorem dX12_fewestBy_58 : decode cX12_fewestBy 58 = .ok (.istore_n 3, 1) := by decide +kernel
theorem dX12_fewestBy_59 : decode cX12_fewestBy 59 = .ok (.aload_n 0, 1) := by decide +kernel
theorem dX12_fewestBy_60 : decode cX12_fewestBy 60 = .ok (.getfield 50, 3) := by decide +kernel
theorem dX12_fewestBy_63 : decode cX12_fewestBy 63 = .ok (.iconst 0, 1) := by decide +kernel
theorem dX12_fewestBy_64 : decode cX12_fewestBy 64 = .ok (.bipush (-2), 2) := by decide +kernel
theorem dX12_fewestBy_66 : decode cX12_fewestBy 66 = .ok (.iastore, 1) := by decide +kernel
theorem dX12_fewestBy_67 : decode cX12_fewestBy 67 = .ok (.iload_n 3, 1) := by decide +kernel
theorem dX12_fewestBy_68 : decode cX12_fewestBy 68 = .ok (.ifCond .lt 180, 3) := by decide +kernel
theorem dX12_fewestBy_71 : decode cX12_fewestBy 71 = .ok (.iload_n 3, 1) := by decide +kernel
theorem dX12_fewestBy_72 : decode cX12_fewestBy 72 = .ok (.iload_n 1, 1) := by decide +kernel
theorem dX12_fewestBy_73 : decode cX12_fewestBy 73 = .ok (.if_icmp .ne 61, 3) := by decide +kernel
theorem dX12_fewestBy_76 : decode cX12_fewestBy 76 = .ok (.aload_n 0, 1) := by decide +kernel
theorem dX12_fewestBy_77 : decode cX12_fewestBy 77 = .ok (.getfield 44, 3) := by decide +kernel
theorem dX12_fewestBy_80 : decode cX12_fewestBy 80 = .ok (.iload_n 1, 1) := by decide +kernel
theorem dX12_fewestBy_81 : decode cX12_fewestBy 81 = .ok (.iaload, 1) := by decide +kernel
theorem dX12_fewestBy_82 : decode cX12_fewestBy 82 = .ok (.invokestatic 286, 3) := by decide +kernel
theorem dX12_fewestBy_85 : decode cX12_fewestBy 85 = .ok (.iload_n 2, 1) := by decide +kernel
theorem dX12_fewestBy_86 : decode cX12_fewestBy 86 = .ok (.if_icmp .ge 42, 3) := by decide +kernel
theorem dX12_fewestBy_89 : decode cX12_fewestBy 89 = .ok (.aload_n 0, 1) := by decide +kernel
theorem dX12_fewestBy_90 : decode cX12_fewestBy 90 = .ok (.getfield 44, 3) := by decide +kernel
theorem dX12_fewestBy_93 : decode cX12_fewestBy 93 = .ok (.iload_n 1, 1) := by decide +kernel
theorem dX12_fewestBy_94 : decode cX12_fewestBy 94 = .ok (.iaload, 1) := by decide +kernel
theorem dX12_fewestBy_95 : decode cX12_fewestBy 95 = .ok (.invokestatic 286, 3) := by decide +kernel
theorem dX12_fewestBy_98 : decode cX12_fewestBy 98 = .ok (.istore_n 2, 1) := by decide +kernel
theorem dX12_fewestBy_99 : decode cX12_fewestBy 99 = .ok (.iconst 0, 1) := by decide +kernel
theorem dX12_fewestBy_100 : decode cX12_fewestBy 100 = .ok (.istore 4, 2) := by decide +kernel
theorem dX12_fewestBy_102 : decode cX12_fewestBy 102 = .ok (.iload 4, 2) := by decide +kernel
theorem dX12_fewestBy_104 : decode cX12_fewestBy 104 = .ok (.iload_n 1, 1) := by decide +kernel
theorem dX12_fewestBy_105 : decode cX12_fewestBy 105 = .ok (.if_icmp .ge 23, 3) := by decide +kernel
theorem dX12_fewestBy_108 : decode cX12_fewestBy 108 = .ok (.aload_n 0, 1) := by decide +kernel
theorem dX12_fewestBy_109 : decode cX12_fewestBy 109 = .ok (.getfield 38, 3) := by decide +kernel
theorem dX12_fewestBy_112 : decode cX12_fewestBy 112 = .ok (.iload 4, 2) := by decide +kernel
theorem dX12_fewestBy_114 : decode cX12_fewestBy 114 = .ok (.aload_n 0, 1) := by decide +kernel
theorem dX12_fewestBy_115 : decode cX12_fewestBy 115 = .ok (.getfield 50, 3) := by decide +kernel
theorem dX12_fewestBy_118 : decode cX12_fewestBy 118 = .ok (.iload 4, 2) := by decide +kernel
theorem dX12_fewestBy_120 : decode cX12_fewestBy 120 = .ok (.iaload, 1) := by decide +kernel
theorem dX12_fewestBy_121 : decode cX12_fewestBy 121 = .ok (.iastore, 1) := by decide +kernel
theorem dX12_fewestBy_122 : decode cX12_fewestBy 122 = .ok (.iinc 4 1, 3) := by decide +kernel
theorem dX12_fewestBy_125 : decode cX12_fewestBy 125 = .ok (.goto (-23), 3) := by decide +kernel
theorem dX12_fewestBy_128 : decode cX12_fewestBy 128 = .ok (.iinc 3 (-1), 3) := by decide +kernel
theorem dX12_fewestBy_131 : decode cX12_fewestBy 131 = .ok (.goto (-64), 3) := by decide +kernel
theorem dX12_fewestBy_134 : decode cX12_fewestBy 134 = .ok (.aload_n 0, 1) := by decide +kernel
theorem dX12_fewestBy_135 : decode cX12_fewestBy 135 = .ok (.getfield 50, 3) := by decide +kernel
theorem dX12_fewestBy_138 : decode cX12_fewestBy 138 = .ok (.iload_n 3, 1) := by decide +kernel
theorem dX12_fewestBy_139 : decode cX12_fewestBy 139 = .ok (.dup2, 1) := by decide +kernel
theorem dX12_fewestBy_140 : decode cX12_fewestBy 140 = .ok (.iaload, 1) := by decide +kernel
theorem dX12_fewestBy_141 : decode cX12_fewestBy 141 = .ok (.iconst 1, 1) := by decide +kernel
theorem dX12_fewestBy_142 : decode cX12_fewestBy 142 = .ok (.iadd, 1) := by decide +kernel
theorem dX12_fewestBy_143 : decode cX12_fewestBy 143 = .ok (.iastore, 1) := by decide +kernel
theorem dX12_fewestBy_144 : decode cX12_fewestBy 144 = .ok (.aload_n 0, 1) := by decide +kernel
theorem dX12_fewestBy_145 : decode cX12_fewestBy 145 = .ok (.getfield 50, 3) := by decide +kernel
theorem dX12_fewestBy_148 : decode cX12_fewestBy 148 = .ok (.iload_n 3, 1) := by decide +kernel
theorem dX12_fewestBy_149 : decode cX12_fewestBy 149 = .ok (.iaload, 1) := by decide +kernel
theorem dX12_fewestBy_150 : decode cX12_fewestBy 150 = .ok (.aload_n 0, 1) := by decide +kernel
theorem dX12_fewestBy_151 : decode cX12_fewestBy 151 = .ok (.getfield 7, 3) := by decide +kernel
theorem dX12_fewestBy_154 : decode cX12_fewestBy 154 = .ok (.iconst 3, 1) := by decide +kernel
theorem dX12_fewestBy_155 : decode cX12_fewestBy 155 = .ok (.iaload, 1) := by decide +kernel
theorem dX12_fewestBy_156 : decode cX12_fewestBy 156 = .ok (.if_icmp .ge 30, 3) := by decide +kernel
theorem dX12_fewestBy_159 : decode cX12_fewestBy 159 = .ok (.aload_n 0, 1) := by decide +kernel
theorem dX12_fewestBy_160 : decode cX12_fewestBy 160 = .ok (.iload_n 3, 1) := by decide +kernel
theorem dX12_fewestBy_161 : decode cX12_fewestBy 161 = .ok (.aload_n 0, 1) := by decide +kernel
theorem dX12_fewestBy_162 : decode cX12_fewestBy 162 = .ok (.getfield 50, 3) := by decide +kernel
theorem dX12_fewestBy_165 : decode cX12_fewestBy 165 = .ok (.iload_n 3, 1) := by decide +kernel
theorem dX12_fewestBy_166 : decode cX12_fewestBy 166 = .ok (.iaload, 1) := by decide +kernel
theorem dX12_fewestBy_167 : decode cX12_fewestBy 167 = .ok (.invokevirtual 395, 3) := by decide +kernel
theorem dX12_fewestBy_170 : decode cX12_fewestBy 170 = .ok (.ifCond .ne 16, 3) := by decide +kernel
theorem dX12_fewestBy_173 : decode cX12_fewestBy 173 = .ok (.aload_n 0, 1) := by decide +kernel
theorem dX12_fewestBy_174 : decode cX12_fewestBy 174 = .ok (.getfield 50, 3) := by decide +kernel
theorem dX12_fewestBy_177 : decode cX12_fewestBy 177 = .ok (.iload_n 3, 1) := by decide +kernel
theorem dX12_fewestBy_178 : decode cX12_fewestBy 178 = .ok (.dup2, 1) := by decide +kernel
theorem dX12_fewestBy_179 : decode cX12_fewestBy 179 = .ok (.iaload, 1) := by decide +kernel
theorem dX12_fewestBy_180 : decode cX12_fewestBy 180 = .ok (.iconst 1, 1) := by decide +kernel
theorem dX12_fewestBy_181 : decode cX12_fewestBy 181 = .ok (.iadd, 1) := by decide +kernel
theorem dX12_fewestBy_182 : decode cX12_fewestBy 182 = .ok (.iastore, 1) := by decide +kernel
theorem dX12_fewestBy_183 : decode cX12_fewestBy 183 = .ok (.goto (-39), 3) := by decide +kernel
theorem dX12_fewestBy_186 : decode cX12_fewestBy 186 = .ok (.aload_n 0, 1) := by decide +kernel
theorem dX12_fewestBy_187 : decode cX12_fewestBy 187 = .ok (.getfield 50, 3) := by decide +kernel
theorem dX12_fewestBy_190 : decode cX12_fewestBy 190 = .ok (.iload_n 3, 1) := by decide +kernel
theorem dX12_fewestBy_191 : decode cX12_fewestBy 191 = .ok (.iaload, 1) := by decide +kernel
theorem dX12_fewestBy_192 : decode cX12_fewestBy 192 = .ok (.aload_n 0, 1) := by decide +kernel
theorem dX12_fewestBy_193 : decode cX12_fewestBy 193 = .ok (.getfield 7, 3) := by decide +kernel
theorem dX12_fewestBy_196 : decode cX12_fewestBy 196 = .ok (.iconst 3, 1) := by decide +kernel
theorem dX12_fewestBy_197 : decode cX12_fewestBy 197 = .ok (.iaload, 1) := by decide +kernel
theorem dX12_fewestBy_198 : decode cX12_fewestBy 198 = .ok (.if_icmp .lt 19, 3) := by decide +kernel
theorem dX12_fewestBy_201 : decode cX12_fewestBy 201 = .ok (.aload_n 0, 1) := by decide +kernel
theorem dX12_fewestBy_202 : decode cX12_fewestBy 202 = .ok (.getfield 50, 3) := by decide +kernel
theorem dX12_fewestBy_205 : decode cX12_fewestBy 205 = .ok (.iload_n 3, 1) := by decide +kernel
theorem dX12_fewestBy_206 : decode cX12_fewestBy 206 = .ok (.iaload, 1) := by decide +kernel
theorem dX12_fewestBy_207 : decode cX12_fewestBy 207 = .ok (.iconst (-1), 1) := by decide +kernel
theorem dX12_fewestBy_208 : decode cX12_fewestBy 208 = .ok (.if_icmp .eq 9, 3) := by decide +kernel
theorem dX12_fewestBy_211 : decode cX12_fewestBy 211 = .ok (.iinc 3 (-1), 3) := by decide +kernel
theorem dX12_fewestBy_214 : decode cX12_fewestBy 214 = .ok (.goto (-147), 3) := by decide +kernel
theorem dX12_fewestBy_217 : decode cX12_fewestBy 217 = .ok (.aload_n 0, 1) := by decide +kernel
theorem dX12_fewestBy_218 : decode cX12_fewestBy 218 = .ok (.iload_n 3, 1) := by decide +kernel
theorem dX12_fewestBy_219 : decode cX12_fewestBy 219 = .ok (.aload_n 0, 1) := by decide +kernel
theorem dX12_fewestBy_220 : decode cX12_fewestBy 220 = .ok (.getfield 50, 3) := by decide +kernel
theorem dX12_fewestBy_223 : decode cX12_fewestBy 223 = .ok (.iload_n 3, 1) := by decide +kernel
theorem dX12_fewestBy_224 : decode cX12_fewestBy 224 = .ok (.iaload, 1) := by decide +kernel
theorem dX12_fewestBy_225 : decode cX12_fewestBy 225 = .ok (.invokevirtual 398, 3) := by decide +kernel
theorem dX12_fewestBy_228 : decode cX12_fewestBy 228 = .ok (.iinc 3 1, 3) := by decide +kernel
theorem dX12_fewestBy_231 : decode cX12_fewestBy 231 = .ok (.iload_n 3, 1) := by decide +kernel
theorem dX12_fewestBy_232 : decode cX12_fewestBy 232 = .ok (.bipush 8, 2) := by decide +kernel
theorem dX12_fewestBy_234 : decode cX12_fewestBy 234 = .ok (.if_icmp .ge (-167), 3) := by decide +kernel
theorem dX12_fewestBy_237 : decode cX12_fewestBy 237 = .ok (.aload_n 0, 1) := by decide +kernel
theorem dX12_fewestBy_238 : decode cX12_fewestBy 238 = .ok (.getfield 50, 3) := by decide +kernel
theorem dX12_fewestBy_241 : decode cX12_fewestBy 241 = .ok (.iload_n 3, 1) := by decide +kernel
theorem dX12_fewestBy_242 : decode cX12_fewestBy 242 = .ok (.bipush (-2), 2) := by decide +kernel
theorem dX12_fewestBy_244 : decode cX12_fewestBy 244 = .ok (.iastore, 1) := by decide +kernel
theorem dX12_fewestBy_245 : decode cX12_fewestBy 245 = .ok (.goto (-178), 3) := by decide +kernel
theorem dX12_fewestBy_248 : decode cX12_fewestBy 248 = .ok (.iload_n 2, 1) := by decide +kernel
theorem dX12_fewestBy_249 : decode cX12_fewestBy 249 = .ok (.ireturn, 1) := by decide +kernel
def q12_fewestBy (σ : St) (n_a : Int32) : Option (Int32 × St) :=
  Option.bind (loop2 (fun rec4_ (p7_ : Int32) (σ8_ : St) =>
  Option.bind (ag σ8_ 1 752 3) fun x13_ =>
  if p7_ < x13_ then
  Option.bind (q12_of σ8_ p7_ 0) fun x17_ =>
  Option.bind (sa σ8_ 10 56 p7_ x17_) fun σ19_ =>
  lt (p7_ + 1) fun p21_ =>
  rec4_ p21_ σ19_
  else (some (p7_, σ8_))) fuelN (0 : Int32) σ) fun y1_ =>
  Option.bind (q12_those y1_.2 4) fun x23_ =>
  Option.bind (sa y1_.2 11 8 0 x23_) fun σ25_ =>
  Option.bind (ag σ25_ 1 752 5) fun x27_ =>
  Option.bind (sa σ25_ 12 8 0 x27_) fun σ29_ =>
  Option.bind (sa σ29_ 13 8 0 (-2)) fun σ31_ =>
  Option.bind (loop3 (fun rec36_ (least39_ : Int32) (level40_ : Int32) (σ41_ : St) =>
  if 0 ≤ level40_ then
  if level40_ = n_a then (Option.bind (Option.bind (ag σ41_ 11 8 n_a) fun x57_ =>
  Option.bind (q12_bits x57_) fun x59_ =>
  if x59_ < least39_ then (Option.bind (ag σ41_ 11 8 n_a) fun x63_ =>
  Option.bind (q12_bits x63_) fun x65_ =>
  Option.bind (loop2 (fun rec70_ (i73_ : Int32) (σ74_ : St) =>
  if i73_ < n_a then
  Option.bind (ag σ74_ 13 8 i73_) fun x81_ =>
  Option.bind (sa σ74_ 9 7 i73_ x81_) fun σ83_ =>
  lt (i73_ + 1) fun i85_ =>
  rec70_ i85_ σ83_
  else (some (i73_, σ74_))) fuelN (0 : Int32) σ41_) fun y67_ =>
  some (x65_, y67_.2)) else (some (least39_, σ41_))) fun y52_ =>
  lt (level40_ + (-1)) fun level87_ =>
  rec36_ y52_.1 level87_ y52_.2) else
  Option.bind (ag σ41_ 13 8 level40_) fun x89_ =>
  Option.bind (sa σ41_ 13 8 level40_ (x89_ + 1)) fun σ91_ =>
  Option.bind (loop1 (fun rec96_ (σ99_ : St) =>
  Option.bind (Option.bind (ag σ99_ 13 8 level40_) fun x106_ =>
  Option.bind (ag σ99_ 1 752 3) fun x108_ =>
  if x106_ < x108_ then (Option.bind (ag σ99_ 13 8 level40_) fun x111_ =>
  Option.bind (q12_mayGive σ99_ level40_ x111_) fun x113_ =>
  if x113_ = true then (some false) else (some true)) else (some false)) fun t104_ =>
  if t104_ = true then
  Option.bind (ag σ99_ 13 8 level40_) fun x117_ =>
  Option.bind (sa σ99_ 13 8 level40_ (x117_ + 1)) fun σ119_ =>
  rec96_ σ119_
  else (some σ99_)) fuelN σ91_) fun y93_ =>
  Option.bind (Option.bind (ag y93_ 13 8 level40_) fun x125_ =>
  Option.bind (ag y93_ 1 752 3) fun x127_ =>
  if x127_ ≤ x125_ then (Option.bind (ag y93_ 13 8 level40_) fun x130_ =>
  if ¬ x130_ = (-1) then (some true) else (some false)) else (some false)) fun t123_ =>
  if t123_ = true then (lt (level40_ + (-1)) fun level134_ =>
  rec36_ least39_ level134_ y93_) else
  Option.bind (ag y93_ 13 8 level40_) fun x136_ =>
  Option.bind (q12_turns y93_ level40_ x136_) fun x138_ =>
  lt (level40_ + 1) fun level140_ =>
  Option.bind (if level140_ < 8 then (Option.bind (sa x138_ 13 8 level140_ (-2)) fun σ149_ =>
  some (σ149_)) else (some (x138_))) fun y142_ =>
  rec36_ least39_ level140_ y142_
  else (some (least39_, level40_, σ41_))) fuelN (2000000000 : Int32) (0 : Int32) σ31_) fun y33_ =>
  some (y33_.1, y33_.2.2)
abbrev rm12_fewestBy : Room := { frames := 2, cells := 0, slots := 0, locals := 48 }
set_option maxHeartbeats 4000000 in
set_option maxRecDepth 100000 in
theorem p12_fewestBy {Θ : Tz} {σ : St} {ρ : Option Value × St} (C : Zc Θ cX12_fewestBy 5 RX12 (some .int) rm12_fewestBy) (hkd : Θ.2.2.2.2.1 = kdM) {n_a : Int32} {r : (Int32 × St)} (hf : q12_fewestBy σ n_a = some r) (hρ : ρ = (some (.int r.1), r.2)) : Z Θ 5 0 0 (zQ Θ ρ) σ 0 [(0, .ref (zA Θ 0)), (1, .int n_a)] [] := by
  unfold q12_fewestBy at hf
  refine z_iconst (v := 0) C dX12_fewestBy_0 ic_0 ?_
  refine z_istN C dX12_fewestBy_1 rfl rfl (Nat.le_of_ble_eq_true rfl) rfl ?_
  refine Z.sub [1, 2, 0] rfl ?_
  obtain ⟨y1_, h2_, hf⟩ := ob hf
  suffices K3_ : Z Θ 5 0 0 (zQ Θ ρ) y1_.2 30 [(0, .ref (zA Θ 0)), (1, .int n_a), (2, .int y1_.1)] [] by
    refine loop2_Z (P := fun (p7_ : Int32) (σ8_ : St) => Z Θ 5 0 0 (zQ Θ ρ) σ8_ 2 [(0, .ref (zA Θ 0)), (1, .int n_a), (2, .int p7_)] []) ?_ fuelN (0 : Int32) σ h2_
    clear h2_
    intro rec4_ p7_ σ8_ h5_ h6_
    refine z_iload_n C 2 dX12_fewestBy_2 rfl rfl ?_
    refine z_aload_n C 0 dX12_fewestBy_3 rfl rfl ?_
    refine fg12_7 C hkd dX12_fewestBy_4 ?_
    refine z_iconst (v := 3) C dX12_fewestBy_7 ic_3 ?_
    obtain ⟨x13_, h14_, h6_⟩ := ob h6_
    refine z_ag C h14_ (kM_1 hkd) dX12_fewestBy_8 ?_
    have K11_ : p7_ < x13_ → Z Θ 5 0 0 (zQ Θ ρ) σ8_ 12 [(0, .ref (zA Θ 0)), (1, .int n_a), (2, .int p7_)] [] := by
      intro h16_
      rw [if_pos h16_] at h6_
      refine z_aload_n C 0 dX12_fewestBy_12 rfl rfl ?_
      refine fg12_41 C hkd dX12_fewestBy_13 ?_
      refine z_iload_n C 2 dX12_fewestBy_16 rfl rfl ?_
      refine z_aload_n C 0 dX12_fewestBy_17 rfl rfl ?_
      refine z_iload_n C 2 dX12_fewestBy_18 rfl rfl ?_
      refine z_iconst (v := 0) C dX12_fewestBy_19 ic_0 ?_
      obtain ⟨x17_, h18_, h6_⟩ := ob h6_
      refine cr12_72 (p_a := p7_) (what_a := 0) C hkd  h18_ ⟨(Nat.le_of_ble_eq_true rfl), (Nat.le_of_ble_eq_true rfl)⟩ (Nat.le_of_ble_eq_true rfl) ⟨Nat.zero_le _, Nat.zero_le _⟩ dX12_fewestBy_20 ?_
      obtain ⟨σ19_, h20_, h6_⟩ := ob h6_
      refine z_sa C h20_ (kM_10 hkd) dX12_fewestBy_23 ?_
      obtain ⟨p21_, h22_, h6_⟩ := lt_ h6_
      refine z_inc C 2 dX12_fewestBy_24 rfl ic_1 h22_ (Nat.le_of_ble_eq_true rfl) rfl ?_
      refine z_goto C 2 dX12_fewestBy_27 (by decide) ?_
      refine Z.sub [1, 2, 0] rfl ?_
      exact h5_ _ _ h6_
    have K12_ : ¬ (p7_ < x13_) → Z Θ 5 0 0 (zQ Θ ρ) σ8_ 30 [(0, .ref (zA Θ 0)), (1, .int n_a), (2, .int p7_)] [] := by
      intro h16_
      rw [if_neg h16_] at h6_
      cases h6_
      exact K3_
    refine c_lt_f C 30 dX12_fewestBy_9 (by decide) (fun h15_ => ?_) (fun h15_ => ?_)
    · exact K11_ h15_
    · exact K12_ h15_
  refine z_aload_n C 0 dX12_fewestBy_30 rfl rfl ?_
  refine fg12_44 C hkd dX12_fewestBy_31 ?_
  refine z_iconst (v := 0) C dX12_fewestBy_34 ic_0 ?_
  refine z_aload_n C 0 dX12_fewestBy_35 rfl rfl ?_
  refine z_iconst (v := 4) C dX12_fewestBy_36 ic_4 ?_
  obtain ⟨x23_, h24_, hf⟩ := ob hf
  refine cr12_266 (what_a := 4) C hkd  h24_ ⟨(Nat.le_of_ble_eq_true rfl), (Nat.le_of_ble_eq_true rfl)⟩ (Nat.le_of_ble_eq_true rfl) ⟨Nat.zero_le _, Nat.zero_le _⟩ dX12_fewestBy_37 ?_
  obtain ⟨σ25_, h26_, hf⟩ := ob hf
  refine z_sa C h26_ (kM_11 hkd) dX12_fewestBy_40 ?_
  refine z_aload_n C 0 dX12_fewestBy_41 rfl rfl ?_
  refine fg12_47 C hkd dX12_fewestBy_42 ?_
  refine z_iconst (v := 0) C dX12_fewestBy_45 ic_0 ?_
  refine z_aload_n C 0 dX12_fewestBy_46 rfl rfl ?_
  refine fg12_7 C hkd dX12_fewestBy_47 ?_
  refine z_iconst (v := 5) C dX12_fewestBy_50 ic_5 ?_
  obtain ⟨x27_, h28_, hf⟩ := ob hf
  refine z_ag C h28_ (kM_1 hkd) dX12_fewestBy_51 ?_
  obtain ⟨σ29_, h30_, hf⟩ := ob hf
  refine z_sa C h30_ (kM_12 hkd) dX12_fewestBy_52 ?_
  refine z_ldcw (v := 2000000000) C w_10_27 dX12_fewestBy_53 ?_
  refine z_istN C dX12_fewestBy_56 rfl rfl (Nat.le_of_ble_eq_true rfl) rfl ?_
  refine z_iconst (v := 0) C dX12_fewestBy_57 ic_0 ?_
  refine z_istN C dX12_fewestBy_58 rfl rfl (Nat.le_of_ble_eq_true rfl) rfl ?_
  refine z_aload_n C 2 dX12_fewestBy_59 rfl rfl ?_
  refine fg12_50 C hkd dX12_fewestBy_60 ?_
  refine z_iconst (v := 0) C dX12_fewestBy_63 ic_0 ?_
  refine z_bipush (v := (-2)) C dX12_fewestBy_64 bp_m2 ?_
  obtain ⟨σ31_, h32_, hf⟩ := ob hf
  refine z_sa C h32_ (kM_13 hkd) dX12_fewestBy_66 ?_
  refine Z.sub [2, 3, 1, 0] rfl ?_
  obtain ⟨y33_, h34_, hf⟩ := ob hf
  suffices K35_ : Z Θ 5 0 0 (zQ Θ ρ) y33_.2.2 248 [(0, .ref (zA Θ 0)), (1, .int n_a), (2, .int y33_.1), (3, .int y33_.2.1)] [] by
    refine loop3_Z (P := fun (least39_ : Int32) (level40_ : Int32) (σ41_ : St) => Z Θ 5 0 0 (zQ Θ ρ) σ41_ 67 [(0, .ref (zA Θ 0)), (1, .int n_a), (2, .int least39_), (3, .int level40_)] []) ?_ fuelN (2000000000 : Int32) (0 : Int32) σ31_ h34_
    clear h34_
    intro rec36_ least39_ level40_ σ41_ h37_ h38_
    have K44_ : 0 ≤ level40_ → Z Θ 5 0 0 (zQ Θ ρ) σ41_ 71 [(0, .ref (zA Θ 0)), (1, .int n_a), (2, .int least39_), (3, .int level40_)] [] := by
      intro h47_
      rw [if_pos h47_] at h38_
      have K48_ : level40_ = n_a → Z Θ 5 0 0 (zQ Θ ρ) σ41_ 76 [(0, .ref (zA Θ 0)), (1, .int n_a), (2, .int least39_), (3, .int level40_)] [] := by
        intro h51_
        rw [if_pos h51_] at h38_
        obtain ⟨y52_, h53_, h38_⟩ := ob h38_
        suffices K54_ : Z Θ 5 0 0 (zQ Θ ρ) y52_.2 128 [(0, .ref (zA Θ 0)), (1, .int n_a), (2, .int y52_.1), (3, .int level40_)] [] by
          refine z_aload_n C 0 dX12_fewestBy_76 rfl rfl ?_
          refine fg12_44 C hkd dX12_fewestBy_77 ?_
          refine z_iload_n C 1 dX12_fewestBy_80 rfl rfl ?_
          obtain ⟨x57_, h58_, h53_⟩ := ob h53_
          refine z_ag C h58_ (kM_11 hkd) dX12_fewestBy_81 ?_
          obtain ⟨x59_, h60_, h53_⟩ := ob h53_
          refine cr12_286 (set_a := x57_) C hkd  h60_ ⟨(Nat.le_of_ble_eq_true rfl), (Nat.le_of_ble_eq_true rfl)⟩ (Nat.le_of_ble_eq_true rfl) ⟨Nat.zero_le _, Nat.zero_le _⟩ dX12_fewestBy_82 ?_
          refine z_iload_n C 2 dX12_fewestBy_85 rfl rfl ?_
          have K55_ : x59_ < least39_ → Z Θ 5 0 0 (zQ Θ ρ) σ41_ 89 [(0, .ref (zA Θ 0)), (1, .int n_a), (2, .int least39_), (3, .int level40_)] [] := by
            intro h62_
            rw [if_pos h62_] at h53_
            refine z_aload_n C 0 dX12_fewestBy_89 rfl rfl ?_
            refine fg12_44 C hkd dX12_fewestBy_90 ?_
            refine z_iload_n C 1 dX12_fewestBy_93 rfl rfl ?_
            obtain ⟨x63_, h64_, h53_⟩ := ob h53_
            refine z_ag C h64_ (kM_11 hkd) dX12_fewestBy_94 ?_
            obtain ⟨x65_, h66_, h53_⟩ := ob h53_
            refine cr12_286 (set_a := x63_) C hkd  h66_ ⟨(Nat.le_of_ble_eq_true rfl), (Nat.le_of_ble_eq_true rfl)⟩ (Nat.le_of_ble_eq_true rfl) ⟨Nat.zero_le _, Nat.zero_le _⟩ dX12_fewestBy_95 ?_
            refine z_istN C dX12_fewestBy_98 rfl rfl (Nat.le_of_ble_eq_true rfl) rfl ?_
            refine z_iconst (v := 0) C dX12_fewestBy_99 ic_0 ?_
            refine z_ist C dX12_fewestBy_100 rfl (Nat.le_of_ble_eq_true rfl) rfl ?_
            refine Z.sub [2, 3, 1, 4, 0] rfl ?_
            obtain ⟨y67_, h68_, h53_⟩ := ob h53_
            suffices K69_ : Z Θ 5 0 0 (zQ Θ ρ) y67_.2 128 [(0, .ref (zA Θ 0)), (1, .int n_a), (2, .int x65_), (3, .int level40_), (4, .int y67_.1)] [] by
              refine loop2_Z (P := fun (i73_ : Int32) (σ74_ : St) => Z Θ 5 0 0 (zQ Θ ρ) σ74_ 102 [(0, .ref (zA Θ 0)), (1, .int n_a), (2, .int x65_), (3, .int level40_), (4, .int i73_)] []) ?_ fuelN (0 : Int32) σ41_ h68_
              clear h68_
              intro rec70_ i73_ σ74_ h71_ h72_
              have K77_ : i73_ < n_a → Z Θ 5 0 0 (zQ Θ ρ) σ74_ 108 [(0, .ref (zA Θ 0)), (1, .int n_a), (2, .int x65_), (3, .int level40_), (4, .int i73_)] [] := by
                intro h80_
                rw [if_pos h80_] at h72_
                refine z_aload_n C 0 dX12_fewestBy_108 rfl rfl ?_
                refine fg12_38 C hkd dX12_fewestBy_109 ?_
                refine z_iload C 4 dX12_fewestBy_112 rfl ?_
                refine z_aload_n C 0 dX12_fewestBy_114 rfl rfl ?_
                refine fg12_50 C hkd dX12_fewestBy_115 ?_
                refine z_iload C 4 dX12_fewestBy_118 rfl ?_
                obtain ⟨x81_, h82_, h72_⟩ := ob h72_
                refine z_ag C h82_ (kM_13 hkd) dX12_fewestBy_120 ?_
                obtain ⟨σ83_, h84_, h72_⟩ := ob h72_
                refine z_sa C h84_ (kM_9 hkd) dX12_fewestBy_121 ?_
                obtain ⟨i85_, h86_, h72_⟩ := lt_ h72_
                refine z_inc C 4 dX12_fewestBy_122 rfl ic_1 h86_ (Nat.le_of_ble_eq_true rfl) rfl ?_
                refine z_goto C 102 dX12_fewestBy_125 (by decide) ?_
                refine Z.sub [1, 2, 3, 4, 0] rfl ?_
                exact h71_ _ _ h72_
              have K78_ : ¬ (i73_ < n_a) → Z Θ 5 0 0 (zQ Θ ρ) σ74_ 128 [(0, .ref (zA Θ 0)), (1, .int n_a), (2, .int x65_), (3, .int level40_), (4, .int i73_)] [] := by
                intro h80_
                rw [if_neg h80_] at h72_
                cases h72_
                exact K69_
              refine z_iload C 4 dX12_fewestBy_102 rfl ?_
              refine z_iload_n C 1 dX12_fewestBy_104 rfl rfl ?_
              refine c_lt_f C 128 dX12_fewestBy_105 (by decide) (fun h79_ => ?_) (fun h79_ => ?_)
              · exact K77_ h79_
              · exact K78_ h79_
            cases h53_
            refine Z.sub [0, 1, 2, 3] rfl ?_
            exact K54_
          have K56_ : ¬ (x59_ < least39_) → Z Θ 5 0 0 (zQ Θ ρ) σ41_ 128 [(0, .ref (zA Θ 0)), (1, .int n_a), (2, .int least39_), (3, .int level40_)] [] := by
            intro h62_
            rw [if_neg h62_] at h53_
            cases h53_
            exact K54_
          refine c_lt_f C 128 dX12_fewestBy_86 (by decide) (fun h61_ => ?_) (fun h61_ => ?_)
          · exact K55_ h61_
          · exact K56_ h61_
        obtain ⟨level87_, h88_, h38_⟩ := lt_ h38_
        refine z_inc C 3 dX12_fewestBy_128 rfl ic_m1 h88_ (Nat.le_of_ble_eq_true rfl) rfl ?_
        refine z_goto C 67 dX12_fewestBy_131 (by decide) ?_
        refine Z.sub [1, 2, 3, 0] rfl ?_
        exact h37_ _ _ _ h38_
      suffices K49_ : ¬ (level40_ = n_a) → Z Θ 5 0 0 (zQ Θ ρ) σ41_ 134 [(0, .ref (zA Θ 0)), (1, .int n_a), (2, .int least39_), (3, .int level40_)] [] by
        refine z_iload_n C 3 dX12_fewestBy_71 rfl rfl ?_
        refine z_iload_n C 1 dX12_fewestBy_72 rfl rfl ?_
        refine c_eq_f C 134 dX12_fewestBy_73 (by decide) (fun h50_ => ?_) (fun h50_ => ?_)
        · exact K48_ h50_
        · exact K49_ h50_
      intro h51_
      rw [if_neg h51_] at h38_
      refine z_aload_n C 0 dX12_fewestBy_134 rfl rfl ?_
      refine fg12_50 C hkd dX12_fewestBy_135 ?_
      refine z_iload_n C 3 dX12_fewestBy_138 rfl rfl ?_
      refine z_dup2 C dX12_fewestBy_139 rfl rfl ?_
      obtain ⟨x89_, h90_, h38_⟩ := ob h38_
      refine z_ag C h90_ (kM_13 hkd) dX12_fewestBy_140 ?_
      refine z_iconst (v := 1) C dX12_fewestBy_141 ic_1 ?_
      refine z_iadd C dX12_fewestBy_142 ?_
      obtain ⟨σ91_, h92_, h38_⟩ := ob h38_
      refine z_sa C h92_ (kM_13 hkd) dX12_fewestBy_143 ?_
      obtain ⟨y93_, h94_, h38_⟩ := ob h38_
      suffices K95_ : Z Θ 5 0 0 (zQ Θ ρ) y93_ 186 [(0, .ref (zA Θ 0)), (1, .int n_a), (2, .int least39_), (3, .int level40_)] [] by
        refine loop1_Z (P := fun (σ99_ : St) => Z Θ 5 0 0 (zQ Θ ρ) σ99_ 144 [(0, .ref (zA Θ 0)), (1, .int n_a), (2, .int least39_), (3, .int level40_)] []) ?_ fuelN σ91_ h94_
        clear h94_
        intro rec96_ σ99_ h97_ h98_
        obtain ⟨t104_, h105_, h98_⟩ := ob h98_
        have K102_ : t104_ = true → Z Θ 5 0 0 (zQ Θ ρ) σ99_ 173 [(0, .ref (zA Θ 0)), (1, .int n_a), (2, .int least39_), (3, .int level40_)] [] := by
          intro h116_
          rw [if_pos h116_] at h98_
          refine z_aload_n C 0 dX12_fewestBy_173 rfl rfl ?_
          refine fg12_50 C hkd dX12_fewestBy_174 ?_
          refine z_iload_n C 3 dX12_fewestBy_177 rfl rfl ?_
          refine z_dup2 C dX12_fewestBy_178 rfl rfl ?_
          obtain ⟨x117_, h118_, h98_⟩ := ob h98_
          refine z_ag C h118_ (kM_13 hkd) dX12_fewestBy_179 ?_
          refine z_iconst (v := 1) C dX12_fewestBy_180 ic_1 ?_
          refine z_iadd C dX12_fewestBy_181 ?_
          obtain ⟨σ119_, h120_, h98_⟩ := ob h98_
          refine z_sa C h120_ (kM_13 hkd) dX12_fewestBy_182 ?_
          refine z_goto C 144 dX12_fewestBy_183 (by decide) ?_
          exact h97_ _ h98_
        have K103_ : ¬ (t104_ = true) → Z Θ 5 0 0 (zQ Θ ρ) σ99_ 186 [(0, .ref (zA Θ 0)), (1, .int n_a), (2, .int least39_), (3, .int level40_)] [] := by
          intro h116_
          rw [if_neg h116_] at h98_
          cases h98_
          exact K95_
        refine z_aload_n C 0 dX12_fewestBy_144 rfl rfl ?_
        refine fg12_50 C hkd dX12_fewestBy_145 ?_
        refine z_iload_n C 3 dX12_fewestBy_148 rfl rfl ?_
        obtain ⟨x106_, h107_, h105_⟩ := ob h105_
        refine z_ag C h107_ (kM_13 hkd) dX12_fewestBy_149 ?_
        refine z_aload_n C 0 dX12_fewestBy_150 rfl rfl ?_
        refine fg12_7 C hkd dX12_fewestBy_151 ?_
        refine z_iconst (v := 3) C dX12_fewestBy_154 ic_3 ?_
        obtain ⟨x108_, h109_, h105_⟩ := ob h105_
        refine z_ag C h109_ (kM_1 hkd) dX12_fewestBy_155 ?_
        refine c_lt_f C 186 dX12_fewestBy_156 (by decide) (fun h110_ => ?_) (fun h110_ => ?_)
        · rw [if_pos h110_] at h105_
          refine z_aload_n C 0 dX12_fewestBy_159 rfl rfl ?_
          refine z_iload_n C 3 dX12_fewestBy_160 rfl rfl ?_
          refine z_aload_n C 0 dX12_fewestBy_161 rfl rfl ?_
          refine fg12_50 C hkd dX12_fewestBy_162 ?_
          refine z_iload_n C 3 dX12_fewestBy_165 rfl rfl ?_
          obtain ⟨x111_, h112_, h105_⟩ := ob h105_
          refine z_ag C h112_ (kM_13 hkd) dX12_fewestBy_166 ?_
          obtain ⟨x113_, h114_, h105_⟩ := ob h105_
          refine cr12_395 (level_a := level40_) (whom_a := x111_) C hkd  h114_ ⟨(Nat.le_of_ble_eq_true rfl), (Nat.le_of_ble_eq_true rfl)⟩ (Nat.le_of_ble_eq_true rfl) ⟨Nat.zero_le _, Nat.zero_le _⟩ dX12_fewestBy_167 ?_
          refine cb_t C 186 dX12_fewestBy_170 (by decide) (fun h115_ => ?_) (fun h115_ => ?_)
          · rw [if_pos h115_] at h105_
            cases h105_
            exact K103_ Bool.false_ne_true
          · rw [if_neg h115_] at h105_
            cases h105_
            exact K102_ rfl
        · rw [if_neg h110_] at h105_
          cases h105_
          exact K103_ Bool.false_ne_true
      obtain ⟨t123_, h124_, h38_⟩ := ob h38_
      have K121_ : t123_ = true → Z Θ 5 0 0 (zQ Θ ρ) y93_ 211 [(0, .ref (zA Θ 0)), (1, .int n_a), (2, .int least39_), (3, .int level40_)] [] := by
        intro h133_
        rw [if_pos h133_] at h38_
        obtain ⟨level134_, h135_, h38_⟩ := lt_ h38_
        refine z_inc C 3 dX12_fewestBy_211 rfl ic_m1 h135_ (Nat.le_of_ble_eq_true rfl) rfl ?_
        refine z_goto C 67 dX12_fewestBy_214 (by decide) ?_
        refine Z.sub [1, 2, 3, 0] rfl ?_
        exact h37_ _ _ _ h38_
      suffices K122_ : ¬ (t123_ = true) → Z Θ 5 0 0 (zQ Θ ρ) y93_ 217 [(0, .ref (zA Θ 0)), (1, .int n_a), (2, .int least39_), (3, .int level40_)] [] by
        refine z_aload_n C 0 dX12_fewestBy_186 rfl rfl ?_
        refine fg12_50 C hkd dX12_fewestBy_187 ?_
        refine z_iload_n C 3 dX12_fewestBy_190 rfl rfl ?_
        obtain ⟨x125_, h126_, h124_⟩ := ob h124_
        refine z_ag C h126_ (kM_13 hkd) dX12_fewestBy_191 ?_
        refine z_aload_n C 0 dX12_fewestBy_192 rfl rfl ?_
        refine fg12_7 C hkd dX12_fewestBy_193 ?_
        refine z_iconst (v := 3) C dX12_fewestBy_196 ic_3 ?_
        obtain ⟨x127_, h128_, h124_⟩ := ob h124_
        refine z_ag C h128_ (kM_1 hkd) dX12_fewestBy_197 ?_
        refine c_ge_f C 217 dX12_fewestBy_198 (by decide) (fun h129_ => ?_) (fun h129_ => ?_)
        · rw [if_pos h129_] at h124_
          refine z_aload_n C 0 dX12_fewestBy_201 rfl rfl ?_
          refine fg12_50 C hkd dX12_fewestBy_202 ?_
          refine z_iload_n C 3 dX12_fewestBy_205 rfl rfl ?_
          obtain ⟨x130_, h131_, h124_⟩ := ob h124_
          refine z_ag C h131_ (kM_13 hkd) dX12_fewestBy_206 ?_
          refine z_iconst (v := (-1)) C dX12_fewestBy_207 ic_m1 ?_
          refine c_ne_f C 217 dX12_fewestBy_208 (by decide) (fun h132_ => ?_) (fun h132_ => ?_)
          · rw [if_pos h132_] at h124_
            cases h124_
            exact K121_ rfl
          · rw [if_neg h132_] at h124_
            cases h124_
            exact K122_ Bool.false_ne_true
        · rw [if_neg h129_] at h124_
          cases h124_
          exact K122_ Bool.false_ne_true
      intro h133_
      rw [if_neg h133_] at h38_
      refine z_aload_n C 0 dX12_fewestBy_217 rfl rfl ?_
      refine z_iload_n C 3 dX12_fewestBy_218 rfl rfl ?_
      refine z_aload_n C 0 dX12_fewestBy_219 rfl rfl ?_
      refine fg12_50 C hkd dX12_fewestBy_220 ?_
      refine z_iload_n C 3 dX12_fewestBy_223 rfl rfl ?_
      obtain ⟨x136_, h137_, h38_⟩ := ob h38_
      refine z_ag C h137_ (kM_13 hkd) dX12_fewestBy_224 ?_
      obtain ⟨x138_, h139_, h38_⟩ := ob h38_
      refine cr12_398 (level_a := level40_) (whom_a := x136_) C hkd  h139_ ⟨(Nat.le_of_ble_eq_true rfl), (Nat.le_of_ble_eq_true rfl)⟩ (Nat.le_of_ble_eq_true rfl) ⟨Nat.zero_le _, Nat.zero_le _⟩ dX12_fewestBy_225 ?_
      obtain ⟨level140_, h141_, h38_⟩ := lt_ h38_
      refine z_inc C 3 dX12_fewestBy_228 rfl ic_1 h141_ (Nat.le_of_ble_eq_true rfl) rfl ?_
      obtain ⟨y142_, h143_, h38_⟩ := ob h38_
      suffices K144_ : Z Θ 5 0 0 (zQ Θ ρ) y142_ 67 [(0, .ref (zA Θ 0)), (1, .int n_a), (2, .int least39_), (3, .int level140_)] [] by
        have K145_ : level140_ < 8 → Z Θ 5 0 0 (zQ Θ ρ) x138_ 237 [(3, .int level140_), (0, .ref (zA Θ 0)), (1, .int n_a), (2, .int least39_)] [] := by
          intro h148_
          rw [if_pos h148_] at h143_
          refine z_aload_n C 1 dX12_fewestBy_237 rfl rfl ?_
          refine fg12_50 C hkd dX12_fewestBy_238 ?_
          refine z_iload_n C 0 dX12_fewestBy_241 rfl rfl ?_
          refine z_bipush (v := (-2)) C dX12_fewestBy_242 bp_m2 ?_
          obtain ⟨σ149_, h150_, h143_⟩ := ob h143_
          refine z_sa C h150_ (kM_13 hkd) dX12_fewestBy_244 ?_
          refine z_goto C 67 dX12_fewestBy_245 (by decide) ?_
          cases h143_
          refine Z.sub [1, 2, 3, 0] rfl ?_
          exact K144_
        have K146_ : ¬ (level140_ < 8) → Z Θ 5 0 0 (zQ Θ ρ) x138_ 67 [(3, .int level140_), (0, .ref (zA Θ 0)), (1, .int n_a), (2, .int least39_)] [] := by
          intro h148_
          rw [if_neg h148_] at h143_
          cases h143_
          refine Z.sub [1, 2, 3, 0] rfl ?_
          exact K144_
        refine z_iload_n C 0 dX12_fewestBy_231 rfl rfl ?_
        refine z_bipush (v := 8) C dX12_fewestBy_232 bp_8 ?_
        refine c_lt_f C 67 dX12_fewestBy_234 (by decide) (fun h147_ => ?_) (fun h147_ => ?_)
        · exact K145_ h147_
        · exact K146_ h147_
      exact h37_ _ _ _ h38_
    have K45_ : ¬ (0 ≤ level40_) → Z Θ 5 0 0 (zQ Θ ρ) σ41_ 248 [(0, .ref (zA Θ 0)), (1, .int n_a), (2, .int least39_), (3, .int level40_)] [] := by
      intro h47_
      rw [if_neg h47_] at h38_
      cases h38_
      exact K35_
    refine z_iload_n C 3 dX12_fewestBy_67 rfl rfl ?_
    refine c0_ge_f C 248 dX12_fewestBy_68 (by decide) (fun h46_ => ?_) (fun h46_ => ?_)
    · exact K44_ h46_
    · exact K45_ h46_
  refine z_iload_n C 2 dX12_fewestBy_248 rfl rfl ?_
  cases hf
  subst hρ
  exact z_iret C dX12_fewestBy_249
theorem c12_fewestBy {l : Launch} {kd : List KD} {w : Wp} {σ : St} {n_a : Int32} (hkd : kd = kdM) (hi : zI kd w) {r : (Int32 × St)} (hf : q12_fewestBy σ n_a = some r) : zM l kd w yX12_fewestBy cX12_fewestBy 5 (some .int) rm12_fewestBy [.ref (w.2.2.1 0), .int n_a] σ (some (.int r.1), r.2) := zM_of rfl hi (Nat.le_of_ble_eq_true rfl) (fun Θ hl hw C => by
  obtain ⟨Θ1, Θ2, Θ3, Θ4, Θ5⟩ := Θ
  cases hw
  exact p12_fewestBy C hkd  hf rfl)
/-! LastLoafModel.rota -/
theorem w_10_63 : Cond.code ({ cls := "LastLoafModel", name := "fewestBy", desc := "(I)I" } : MethodName) prog_14_method_100_code (5 : Nat) (Option.some ClassFile.FieldType.int) ∈ TB := tb_in (lwt_10 (List.mem_of_getElem? (i := 63) (by decide +kernel))) rfl
theorem w_10_60 : Cond.methodLink "LastLoafModel" (401 : Nat) ({ cls := "LastLoafModel", name := "fewestBy", desc := "(I)I" } : MethodName) ∈ TB := tb_in (lwt_10 (List.mem_of_getElem? (i := 60) (by decide +kernel))) rfl
theorem w_10_62 : Cond.instanceMethod ({ cls := "LastLoafModel", name := "fewestBy", desc := "(I)I" } : MethodName) ∈ TB := tb_in (lwt_10 (List.mem_of_getElem? (i := 62) (by decide +kernel))) rfl
theorem ws_LastLoafModel_fewestBy_I_I : Cond.selects "LastLoafModel" (⟨"LastLoafModel", "fewestBy", "(I)I"⟩ : MethodName) (⟨"LastLoafModel", "fewestBy", "(I)I"⟩ : MethodName) ∈ TB := tb_in (List.mem_append_left _ (List.mem_of_getElem? (i := 79) (by decide +kernel))) rfl
theorem cr12_401 {Θ : Tz} {cc : ByteArray} {nL kc ks : Nat} {ret : Option FieldType} {rm : Room} {Q : State → Prop} {σ : St} {pc : Nat} {lv : List (Nat × Value)} {st : List Value} (C : Zc Θ cc nL RX12 ret rm) (hkd : Θ.2.2.2.2.1 = kdM) {n_a : Int32} {r : Int32 × St} (hx : q12_fewestBy σ n_a = some r) (hrm : rm12_fewestBy.frames + 1 ≤ rm.frames ∧ 8 + (5 + 11) + rm12_fewestBy.locals ≤ rm.locals) (hcat : (st.map fun v => v.category).sum ≤ 8) (hk : kc ≤ rm.cells ∧ ks ≤ rm.slots) (hd : decode cc pc = .ok (.invokevirtual 401, 3)) (kk : Z Θ nL kc ks Q r.2 (pc + 3) lv (.int r.1 :: st)) : Z Θ nL kc ks Q σ pc lv (.int n_a :: .ref (zA Θ 0) :: st) := z_callV C 0 [.int n_a] (some (.int r.1), r.2) 1 (kM_0 hkd) rfl (c12_fewestBy (n_a := n_a) hkd (zc_inj C) hx) w_10_63 w_10_60 w_10_62 ws_LastLoafModel_fewestBy_I_I w_1_14 ⟨rfl, rfl, hrm.1, hrm.2⟩ (by decide +kernel) rfl rfl hcat hk hd kk
theorem dX12_rota_0 : decode cX12_rota 0 = .ok (.aload_n 0, 1) := by decide +kernel
theorem dX12_rota_1 : decode cX12_rota 1 = .ok (.iload_n 1, 1) := by decide +kernel
theorem dX12_rota_2 : decode cX12_rota 2 = .ok (.iconst 0, 1) := by decide +kernel
theorem dX12_rota_3 : decode cX12_rota 3 = .ok (.iconst 5, 1) := by decide +kernel
theorem dX12_rota_4 : decode cX12_rota 4 = .ok (.invokestatic 68, 3) := by decide +kernel
theorem dX12_rota_7 : decode cX12_rota 7 = .ok (.ifCond .ne 7, 3) := by decide +kernel
theorem dX12_rota_10 : decode cX12_rota 10 = .ok (.iconst 1, 1) := by decide +kernel
theorem dX12_rota_11 : decode cX12_rota 11 = .ok (.goto 4, 3) := by decide +kernel
theorem dX12_rota_14 : decode cX12_rota 14 = .ok (.iconst 0, 1) := by decide +kernel
theorem dX12_rota_15 : decode cX12_rota 15 = .ok (.putfield 65, 3) := by decide +kernel
theorem dX12_rota_18 : decode cX12_rota 18 = .ok (.aload_n 0, 1) := by decide +kernel
theorem dX12_rota_19 : decode cX12_rota 19 = .ok (.getfield 65, 3) := by decide +kernel
theorem dX12_rota_22 : decode cX12_rota 22 = .ok (.ifCond .le 5, 3) := by decide +kernel
theorem dX12_rota_25 : decode cX12_rota 25 = .ok (.iconst 0, 1) := by decide +kernel
theorem dX12_rota_26 : decode cX12_rota 26 = .ok (.ireturn, 1) := by decide +kernel
theorem dX12_rota_27 : decode cX12_rota 27 = .ok (.aload_n 0, 1) := by decide +kernel
theorem dX12_rota_28 : decode cX12_rota 28 = .ok (.aload_n 0, 1) := by decide +kernel
theorem dX12_rota_29 : decode cX12_rota 29 = .ok (.iconst 3, 1) := by decide +kernel
theorem dX12_rota_30 : decode cX12_rota 30 = .ok (.invokevirtual 266, 3) := by decide +kernel
theorem dX12_rota_33 : decode cX12_rota 33 = .ok (.aload_n 0, 1) := by decide +kernel
theorem dX12_rota_34 : decode cX12_rota 34 = .ok (.iconst 4, 1) := by decide +kernel
theorem dX12_rota_35 : decode cX12_rota 35 = .ok (.invokevirtual 266, 3) := by decide +kernel
theorem dX12_rota_38 : decode cX12_rota 38 = .ok (.iconst (-1), 1) := by decide +kernel
theorem dX12_rota_39 : decode cX12_rota 39 = .ok (.ixor, 1) := by decide +kernel
theorem dX12_rota_40 : decode cX12_rota 40 = .ok (.iand, 1) := by decide +kernel
theorem dX12_rota_41 : decode cX12_rota 41 = .ok (.putfield 269, 3) := by decide +kernel
theorem dX12_rota_44 : decode cX12_rota 44 = .ok (.aload_n 0, 1) := by decide +kernel
theorem dX12_rota_45 : decode cX12_rota 45 = .ok (.iload_n 1, 1) := by decide +kernel
theorem dX12_rota_46 : decode cX12_rota 46 = .ok (.invokevirtual 401, 3) := by decide +kernel
theorem dX12_rota_49 : decode cX12_rota 49 = .ok (.istore_n 3, 1) := by decide +kernel
theorem dX12_rota_50 : decode cX12_rota 50 = .ok (.iload_n 2, 1) := by decide +kernel
theorem dX12_rota_51 : decode cX12_rota 51 = .ok (.iconst (-1), 1) := by decide +kernel
theorem dX12_rota_52 : decode cX12_rota 52 = .ok (.if_icmp .ne 5, 3) := by decide +kernel
theorem dX12_rota_55 : decode cX12_rota 55 = .ok (.iload_n 3, 1) := by decide +kernel
theorem dX12_rota_56 : decode cX12_rota 56 = .ok (.ireturn, 1) := by decide +kernel
theorem dX12_rota_57 : decode cX12_rota 57 = .ok (.iload_n 2, 1) := by decide +kernel
theorem dX12_rota_58 : decode cX12_rota 58 = .ok (.iconst 0, 1) := by decide +kernel
theorem dX12_rota_59 : decode cX12_rota 59 = .ok (.iload_n 1, 1) := by decide +kernel
theorem dX12_rota_60 : decode cX12_rota 60 = .ok (.iconst 1, 1) := by decide +kernel
theorem dX12_rota_61 : decode cX12_rota 61 = .ok (.isub, 1) := by decide +kernel
theorem dX12_rota_62 : decode cX12_rota 62 = .ok (.invokestatic 68, 3) := by decide +kernel
theorem dX12_rota_65 : decode cX12_rota 65 = .ok (.ifCond .eq 12, 3) := by decide +kernel
theorem dX12_rota_68 : decode cX12_rota 68 = .ok (.aload_n 0, 1) := by decide +kernel
theorem dX12_rota_69 : decode cX12_rota 69 = .ok (.getfield 38, 3) := by decide +kernel
theorem dX12_rota_72 : decode cX12_rota 72 = .ok (.iload_n 2, 1) := by decide +kernel
theorem dX12_rota_73 : decode cX12_rota 73 = .ok (.iaload, 1) := by decide +kernel
theorem dX12_rota_74 : decode cX12_rota 74 = .ok (.goto 4, 3) := by decide +kernel
theorem dX12_rota_77 : decode cX12_rota 77 = .ok (.iconst (-1), 1) := by decide +kernel
theorem dX12_rota_78 : decode cX12_rota 78 = .ok (.ireturn, 1) := by decide +kernel
def q12_rota (σ : St) (n_a : Int32) (k_a : Int32) : Option (Int32 × St) :=
  lt (up σ 0 0 (if ¬ (q12_isIn n_a 0 5 = true) then 1 else 0)) fun σ6_ =>
  if 0 < (σ6_ 0 0) then (some (0, σ6_)) else
  Option.bind (q12_those σ6_ 3) fun x12_ =>
  Option.bind (q12_those σ6_ 4) fun x14_ =>
  lt (up σ6_ 0 21 (x12_ &&& (x14_ ^^^ (-1)))) fun σ16_ =>
  Option.bind (q12_fewestBy σ16_ n_a) fun x18_ =>
  if k_a = (-1) then (some (x18_.1, x18_.2)) else
  Option.bind (if q12_isIn k_a 0 (n_a - 1) = true then (Option.bind (ag x18_.2 9 7 k_a) fun x30_ =>
  some x30_) else (some (-1 : Int32))) fun x24_ =>
  some (x24_, x18_.2)
abbrev rm12_rota : Room := { frames := 3, cells := 0, slots := 0, locals := 72 }
set_option maxHeartbeats 4000000 in
set_option maxRecDepth 100000 in
theorem p12_rota {Θ : Tz} {σ : St} {ρ : Option Value × St} (C : Zc Θ cX12_rota 4 RX12 (some .int) rm12_rota) (hkd : Θ.2.2.2.2.1 = kdM) {n_a : Int32} {k_a : Int32} {r : (Int32 × St)} (hf : q12_rota σ n_a k_a = some r) (hρ : ρ = (some (.int r.1), r.2)) : Z Θ 4 0 0 (zQ Θ ρ) σ 0 [(0, .ref (zA Θ 0)), (1, .int n_a), (2, .int k_a)] [] := by
  unfold q12_rota at hf
  refine z_aload_n C 0 dX12_rota_0 rfl rfl ?_
  suffices K1_ : Z Θ 4 0 0 (zQ Θ ρ) σ 15 [(0, .ref (zA Θ 0)), (1, .int n_a), (2, .int k_a)] [.int (if ¬ (q12_isIn n_a 0 5 = true) then 1 else 0), .ref (zA Θ 0)] by
    have K2_ : ¬ (q12_isIn n_a 0 5 = true) → Z Θ 4 0 0 (zQ Θ ρ) σ 10 [(0, .ref (zA Θ 0)), (1, .int n_a), (2, .int k_a)] [.ref (zA Θ 0)] := by
      intro h5_
      rw [if_pos h5_] at K1_
      refine z_iconst (v := 1) C dX12_rota_10 ic_1 ?_
      refine z_goto C 15 dX12_rota_11 (by decide) ?_
      exact K1_
    have K3_ : ¬ (¬ (q12_isIn n_a 0 5 = true)) → Z Θ 4 0 0 (zQ Θ ρ) σ 14 [(0, .ref (zA Θ 0)), (1, .int n_a), (2, .int k_a)] [.ref (zA Θ 0)] := by
      intro h5_
      rw [if_neg h5_] at K1_
      refine z_iconst (v := 0) C dX12_rota_14 ic_0 ?_
      exact K1_
    refine z_iload_n C 1 dX12_rota_1 rfl rfl ?_
    refine z_iconst (v := 0) C dX12_rota_2 ic_0 ?_
    refine z_iconst (v := 5) C dX12_rota_3 ic_5 ?_
    refine cr12_68 (v_a := n_a) (low_a := 0) (high_a := 5) C hkd  ⟨(Nat.le_of_ble_eq_true rfl), (Nat.le_of_ble_eq_true rfl)⟩ (Nat.le_of_ble_eq_true rfl) ⟨Nat.zero_le _, Nat.zero_le _⟩ dX12_rota_4 ?_
    refine cb_t C 14 dX12_rota_7 (by decide) (fun h4_ => ?_) (fun h4_ => ?_)
    · exact K3_ (fun n => n h4_)
    · exact K2_ h4_
  obtain ⟨σ6_, h7_, hf⟩ := lt_ hf
  refine fp12_65 C hkd h7_ dX12_rota_15 ?_
  have K8_ : 0 < (σ6_ 0 0) → Z Θ 4 0 0 (zQ Θ ρ) σ6_ 25 [(0, .ref (zA Θ 0)), (1, .int n_a), (2, .int k_a)] [] := by
    intro h11_
    rw [if_pos h11_] at hf
    refine z_iconst (v := 0) C dX12_rota_25 ic_0 ?_
    cases hf
    subst hρ
    exact z_iret C dX12_rota_26
  suffices K9_ : ¬ (0 < (σ6_ 0 0)) → Z Θ 4 0 0 (zQ Θ ρ) σ6_ 27 [(0, .ref (zA Θ 0)), (1, .int n_a), (2, .int k_a)] [] by
    refine z_aload_n C 0 dX12_rota_18 rfl rfl ?_
    refine fg12_65 C hkd dX12_rota_19 ?_
    refine c0_gt_f C 27 dX12_rota_22 (by decide) (fun h10_ => ?_) (fun h10_ => ?_)
    · exact K8_ h10_
    · exact K9_ h10_
  intro h11_
  rw [if_neg h11_] at hf
  refine z_aload_n C 0 dX12_rota_27 rfl rfl ?_
  refine z_aload_n C 0 dX12_rota_28 rfl rfl ?_
  refine z_iconst (v := 3) C dX12_rota_29 ic_3 ?_
  obtain ⟨x12_, h13_, hf⟩ := ob hf
  refine cr12_266 (what_a := 3) C hkd  h13_ ⟨(Nat.le_of_ble_eq_true rfl), (Nat.le_of_ble_eq_true rfl)⟩ (Nat.le_of_ble_eq_true rfl) ⟨Nat.zero_le _, Nat.zero_le _⟩ dX12_rota_30 ?_
  refine z_aload_n C 0 dX12_rota_33 rfl rfl ?_
  refine z_iconst (v := 4) C dX12_rota_34 ic_4 ?_
  obtain ⟨x14_, h15_, hf⟩ := ob hf
  refine cr12_266 (what_a := 4) C hkd  h15_ ⟨(Nat.le_of_ble_eq_true rfl), (Nat.le_of_ble_eq_true rfl)⟩ (Nat.le_of_ble_eq_true rfl) ⟨Nat.zero_le _, Nat.zero_le _⟩ dX12_rota_35 ?_
  refine z_iconst (v := (-1)) C dX12_rota_38 ic_m1 ?_
  refine z_ixor C dX12_rota_39 ?_
  refine z_iand C dX12_rota_40 ?_
  obtain ⟨σ16_, h17_, hf⟩ := lt_ hf
  refine fp12_269 C hkd h17_ dX12_rota_41 ?_
  refine z_aload_n C 0 dX12_rota_44 rfl rfl ?_
  refine z_iload_n C 1 dX12_rota_45 rfl rfl ?_
  obtain ⟨x18_, h19_, hf⟩ := ob hf
  refine cr12_401 (n_a := n_a) C hkd  h19_ ⟨(Nat.le_of_ble_eq_true rfl), (Nat.le_of_ble_eq_true rfl)⟩ (Nat.le_of_ble_eq_true rfl) ⟨Nat.zero_le _, Nat.zero_le _⟩ dX12_rota_46 ?_
  refine z_istN C dX12_rota_49 rfl rfl (Nat.le_of_ble_eq_true rfl) rfl ?_
  have K20_ : k_a = (-1) → Z Θ 4 0 0 (zQ Θ ρ) x18_.2 55 [(3, .int x18_.1), (0, .ref (zA Θ 0)), (1, .int n_a), (2, .int k_a)] [] := by
    intro h23_
    rw [if_pos h23_] at hf
    refine z_iload_n C 0 dX12_rota_55 rfl rfl ?_
    cases hf
    subst hρ
    exact z_iret C dX12_rota_56
  suffices K21_ : ¬ (k_a = (-1)) → Z Θ 4 0 0 (zQ Θ ρ) x18_.2 57 [(3, .int x18_.1), (0, .ref (zA Θ 0)), (1, .int n_a), (2, .int k_a)] [] by
    refine z_iload_n C 3 dX12_rota_50 rfl rfl ?_
    refine z_iconst (v := (-1)) C dX12_rota_51 ic_m1 ?_
    refine c_eq_f C 57 dX12_rota_52 (by decide) (fun h22_ => ?_) (fun h22_ => ?_)
    · exact K20_ h22_
    · exact K21_ h22_
  intro h23_
  rw [if_neg h23_] at hf
  obtain ⟨x24_, h25_, hf⟩ := ob hf
  suffices K26_ : Z Θ 4 0 0 (zQ Θ ρ) x18_.2 78 [(3, .int x18_.1), (0, .ref (zA Θ 0)), (1, .int n_a), (2, .int k_a)] [.int x24_] by
    have K27_ : q12_isIn k_a 0 (n_a - 1) = true → Z Θ 4 0 0 (zQ Θ ρ) x18_.2 68 [(3, .int x18_.1), (0, .ref (zA Θ 0)), (1, .int n_a), (2, .int k_a)] [] := by
      intro h32_
      rw [if_pos h32_] at h25_
      refine z_aload_n C 1 dX12_rota_68 rfl rfl ?_
      refine fg12_38 C hkd dX12_rota_69 ?_
      refine z_iload_n C 3 dX12_rota_72 rfl rfl ?_
      obtain ⟨x30_, h31_, h25_⟩ := ob h25_
      refine z_ag C h31_ (kM_9 hkd) dX12_rota_73 ?_
      refine z_goto C 78 dX12_rota_74 (by decide) ?_
      cases h25_
      exact K26_
    have K28_ : ¬ (q12_isIn k_a 0 (n_a - 1) = true) → Z Θ 4 0 0 (zQ Θ ρ) x18_.2 77 [(3, .int x18_.1), (0, .ref (zA Θ 0)), (1, .int n_a), (2, .int k_a)] [] := by
      intro h32_
      rw [if_neg h32_] at h25_
      refine z_iconst (v := (-1)) C dX12_rota_77 ic_m1 ?_
      cases h25_
      exact K26_
    refine z_iload_n C 3 dX12_rota_57 rfl rfl ?_
    refine z_iconst (v := 0) C dX12_rota_58 ic_0 ?_
    refine z_iload_n C 2 dX12_rota_59 rfl rfl ?_
    refine z_iconst (v := 1) C dX12_rota_60 ic_1 ?_
    refine z_isub C dX12_rota_61 ?_
    refine cr12_68 (v_a := k_a) (low_a := 0) (high_a := (n_a - 1)) C hkd  ⟨(Nat.le_of_ble_eq_true rfl), (Nat.le_of_ble_eq_true rfl)⟩ (Nat.le_of_ble_eq_true rfl) ⟨Nat.zero_le _, Nat.zero_le _⟩ dX12_rota_62 ?_
    refine cb_f C 77 dX12_rota_65 (by decide) (fun h29_ => ?_) (fun h29_ => ?_)
    · exact K27_ h29_
    · exact K28_ h29_
  cases hf
  subst hρ
  exact z_iret C dX12_rota_78
theorem c12_rota {l : Launch} {kd : List KD} {w : Wp} {σ : St} {n_a : Int32} {k_a : Int32} (hkd : kd = kdM) (hi : zI kd w) {r : (Int32 × St)} (hf : q12_rota σ n_a k_a = some r) : zM l kd w yX12_rota cX12_rota 4 (some .int) rm12_rota [.ref (w.2.2.1 0), .int n_a, .int k_a] σ (some (.int r.1), r.2) := zM_of rfl hi (Nat.le_of_ble_eq_true rfl) (fun Θ hl hw C => by
  obtain ⟨Θ1, Θ2, Θ3, Θ4, Θ5⟩ := Θ
  cases hw
  exact p12_rota C hkd  hf rfl)
/-! LastLoafModel.lasts -/
theorem dX12_lasts_0 : decode cX12_lasts 0 = .ok (.aload_n 0, 1) := by decide +kernel
theorem dX12_lasts_1 : decode cX12_lasts 1 = .ok (.iconst 0, 1) := by decide +kernel
theorem dX12_lasts_2 : decode cX12_lasts 2 = .ok (.putfield 65, 3) := by decide +kernel
theorem dX12_lasts_5 : decode cX12_lasts 5 = .ok (.aload_n 0, 1) := by decide +kernel
theorem dX12_lasts_6 : decode cX12_lasts 6 = .ok (.invokevirtual 186, 3) := by decide +kernel
theorem dX12_lasts_9 : decode cX12_lasts 9 = .ok (.iconst (-1), 1) := by decide +kernel
theorem dX12_lasts_10 : decode cX12_lasts 10 = .ok (.istore_n 1, 1) := by decide +kernel
theorem dX12_lasts_11 : decode cX12_lasts 11 = .ok (.iconst 0, 1) := by decide +kernel
theorem dX12_lasts_12 : decode cX12_lasts 12 = .ok (.istore_n 2, 1) := by decide +kernel
theorem dX12_lasts_13 : decode cX12_lasts 13 = .ok (.iload_n 2, 1) := by decide +kernel
theorem dX12_lasts_14 : decode cX12_lasts 14 = .ok (.bipush 60, 2) := by decide +kernel
theorem dX12_lasts_16 : decode cX12_lasts 16 = .ok (.if_icmp .gt 31, 3) := by decide +kernel
theorem dX12_lasts_19 : decode cX12_lasts 19 = .ok (.iload_n 1, 1) := by decide +kernel
theorem dX12_lasts_20 : decode cX12_lasts 20 = .ok (.iconst (-1), 1) := by decide +kernel
theorem dX12_lasts_21 : decode cX12_lasts 21 = .ok (.if_icmp .ne 26, 3) := by decide +kernel
theorem dX12_lasts_24 : decode cX12_lasts 24 = .ok (.aload_n 0, 1) := by decide +kernel
theorem dX12_lasts_25 : decode cX12_lasts 25 = .ok (.getfield 7, 3) := by decide +kernel
theorem dX12_lasts_28 : decode cX12_lasts 28 = .ok (.iconst 5, 1) := by decide +kernel
theorem dX12_lasts_29 : decode cX12_lasts 29 = .ok (.iaload, 1) := by decide +kernel
theorem dX12_lasts_30 : decode cX12_lasts 30 = .ok (.ifCond .ne 5, 3) := by decide +kernel
theorem dX12_lasts_33 : decode cX12_lasts 33 = .ok (.iload_n 2, 1) := by decide +kernel
theorem dX12_lasts_34 : decode cX12_lasts 34 = .ok (.istore_n 1, 1) := by decide +kernel
theorem dX12_lasts_35 : decode cX12_lasts 35 = .ok (.aload_n 0, 1) := by decide +kernel
theorem dX12_lasts_36 : decode cX12_lasts 36 = .ok (.iconst 0, 1) := by decide +kernel
theorem dX12_lasts_37 : decode cX12_lasts 37 = .ok (.invokevirtual 341, 3) := by decide +kernel
theorem dX12_lasts_40 : decode cX12_lasts 40 = .ok (.istore_n 3, 1) := by decide +kernel
theorem dX12_lasts_41 : decode cX12_lasts 41 = .ok (.iinc 2 1, 3) := by decide +kernel
theorem dX12_lasts_44 : decode cX12_lasts 44 = .ok (.goto (-31), 3) := by decide +kernel
theorem dX12_lasts_47 : decode cX12_lasts 47 = .ok (.aload_n 0, 1) := by decide +kernel
theorem dX12_lasts_48 : decode cX12_lasts 48 = .ok (.invokevirtual 196, 3) := by decide +kernel
theorem dX12_lasts_51 : decode cX12_lasts 51 = .ok (.iload_n 1, 1) := by decide +kernel
theorem dX12_lasts_52 : decode cX12_lasts 52 = .ok (.ireturn, 1) := by decide +kernel
def q12_lasts (σ : St) : Option (Int32 × St) :=
  lt (up σ 0 0 0) fun σ1_ =>
  Option.bind (q12_putsAside σ1_) fun x3_ =>
  Option.bind (loop3 (fun rec8_ (found11_ : Int32) (n12_ : Int32) (σ13_ : St) =>
  if (n12_ ≤ 60) ∧ (found11_ = (-1)) then
  Option.bind (Option.bind (ag σ13_ 1 752 5) fun x26_ =>
  if x26_ = 0 then (some (n12_)) else (some (found11_))) fun y21_ =>
  Option.bind (q12_passes σ13_ false) fun x30_ =>
  lt (n12_ + 1) fun n32_ =>
  rec8_ y21_ n32_ x30_.2
  else (some (found11_, n12_, σ13_))) fuelN (-1 : Int32) (0 : Int32) x3_) fun y5_ =>
  Option.bind (q12_comesBack y5_.2.2) fun x34_ =>
  some (y5_.1, x34_)
abbrev rm12_lasts : Room := { frames := 79, cells := 0, slots := 0, locals := 4239 }
set_option maxHeartbeats 4000000 in
set_option maxRecDepth 100000 in
theorem p12_lasts {Θ : Tz} {σ : St} {ρ : Option Value × St} (C : Zc Θ cX12_lasts 4 RX12 (some .int) rm12_lasts) (hkd : Θ.2.2.2.2.1 = kdM) {r : (Int32 × St)} (hf : q12_lasts σ = some r) (hρ : ρ = (some (.int r.1), r.2)) : Z Θ 4 0 0 (zQ Θ ρ) σ 0 [(0, .ref (zA Θ 0))] [] := by
  unfold q12_lasts at hf
  refine z_aload_n C 0 dX12_lasts_0 rfl rfl ?_
  refine z_iconst (v := 0) C dX12_lasts_1 ic_0 ?_
  obtain ⟨σ1_, h2_, hf⟩ := lt_ hf
  refine fp12_65 C hkd h2_ dX12_lasts_2 ?_
  refine z_aload_n C 0 dX12_lasts_5 rfl rfl ?_
  obtain ⟨x3_, h4_, hf⟩ := ob hf
  refine cr12_186 C hkd  h4_ ⟨(Nat.le_of_ble_eq_true rfl), (Nat.le_of_ble_eq_true rfl)⟩ (Nat.le_of_ble_eq_true rfl) ⟨Nat.zero_le _, Nat.zero_le _⟩ dX12_lasts_6 ?_
  refine z_iconst (v := (-1)) C dX12_lasts_9 ic_m1 ?_
  refine z_istN C dX12_lasts_10 rfl rfl (Nat.le_of_ble_eq_true rfl) rfl ?_
  refine z_iconst (v := 0) C dX12_lasts_11 ic_0 ?_
  refine z_istN C dX12_lasts_12 rfl rfl (Nat.le_of_ble_eq_true rfl) rfl ?_
  refine Z.sub [2, 1, 0] rfl ?_
  obtain ⟨y5_, h6_, hf⟩ := ob hf
  suffices K7_ : Z Θ 4 0 0 (zQ Θ ρ) y5_.2.2 47 [(0, .ref (zA Θ 0)), (1, .int y5_.1), (2, .int y5_.2.1)] [] by
    refine loop3_Z (P := fun (found11_ : Int32) (n12_ : Int32) (σ13_ : St) => Z Θ 4 0 0 (zQ Θ ρ) σ13_ 13 [(0, .ref (zA Θ 0)), (1, .int found11_), (2, .int n12_)] []) ?_ fuelN (-1 : Int32) (0 : Int32) x3_ h6_
    clear h6_
    intro rec8_ found11_ n12_ σ13_ h9_ h10_
    have K16_ : (n12_ ≤ 60) ∧ (found11_ = (-1)) → Z Θ 4 0 0 (zQ Θ ρ) σ13_ 24 [(0, .ref (zA Θ 0)), (1, .int found11_), (2, .int n12_)] [] := by
      intro h20_
      rw [if_pos h20_] at h10_
      obtain ⟨y21_, h22_, h10_⟩ := ob h10_
      suffices K23_ : Z Θ 4 0 0 (zQ Θ ρ) σ13_ 35 [(0, .ref (zA Θ 0)), (1, .int y21_), (2, .int n12_)] [] by
        refine z_aload_n C 0 dX12_lasts_24 rfl rfl ?_
        refine fg12_7 C hkd dX12_lasts_25 ?_
        refine z_iconst (v := 5) C dX12_lasts_28 ic_5 ?_
        obtain ⟨x26_, h27_, h22_⟩ := ob h22_
        refine z_ag C h27_ (kM_1 hkd) dX12_lasts_29 ?_
        have K24_ : x26_ = 0 → Z Θ 4 0 0 (zQ Θ ρ) σ13_ 33 [(0, .ref (zA Θ 0)), (1, .int found11_), (2, .int n12_)] [] := by
          intro h29_
          rw [if_pos h29_] at h22_
          refine z_iload_n C 2 dX12_lasts_33 rfl rfl ?_
          refine z_istN C dX12_lasts_34 rfl rfl (Nat.le_of_ble_eq_true rfl) rfl ?_
          cases h22_
          refine Z.sub [1, 0, 2] rfl ?_
          exact K23_
        have K25_ : ¬ (x26_ = 0) → Z Θ 4 0 0 (zQ Θ ρ) σ13_ 35 [(0, .ref (zA Θ 0)), (1, .int found11_), (2, .int n12_)] [] := by
          intro h29_
          rw [if_neg h29_] at h22_
          cases h22_
          exact K23_
        refine c0_eq_f C 35 dX12_lasts_30 (by decide) (fun h28_ => ?_) (fun h28_ => ?_)
        · exact K24_ h28_
        · exact K25_ h28_
      refine z_aload_n C 0 dX12_lasts_35 rfl rfl ?_
      refine z_iconst (v := 0) C dX12_lasts_36 ic_0 ?_
      obtain ⟨x30_, h31_, h10_⟩ := ob h10_
      refine cr12_341 (draws_a := false) C hkd  h31_ ⟨(Nat.le_of_ble_eq_true rfl), (Nat.le_of_ble_eq_true rfl)⟩ (Nat.le_of_ble_eq_true rfl) ⟨Nat.zero_le _, Nat.zero_le _⟩ dX12_lasts_37 ?_
      refine z_istN C dX12_lasts_40 rfl rfl (Nat.le_of_ble_eq_true rfl) rfl ?_
      obtain ⟨n32_, h33_, h10_⟩ := lt_ h10_
      refine z_inc C 3 dX12_lasts_41 rfl ic_1 h33_ (Nat.le_of_ble_eq_true rfl) rfl ?_
      refine z_goto C 13 dX12_lasts_44 (by decide) ?_
      refine Z.sub [2, 3, 0] rfl ?_
      exact h9_ _ _ _ h10_
    have K17_ : ¬ ((n12_ ≤ 60) ∧ (found11_ = (-1))) → Z Θ 4 0 0 (zQ Θ ρ) σ13_ 47 [(0, .ref (zA Θ 0)), (1, .int found11_), (2, .int n12_)] [] := by
      intro h20_
      rw [if_neg h20_] at h10_
      cases h10_
      exact K7_
    refine z_iload_n C 2 dX12_lasts_13 rfl rfl ?_
    refine z_bipush (v := 60) C dX12_lasts_14 bp_60 ?_
    refine c_le_f C 47 dX12_lasts_16 (by decide) (fun h18_ => ?_) (fun h18_ => ?_)
    · refine z_iload_n C 1 dX12_lasts_19 rfl rfl ?_
      refine z_iconst (v := (-1)) C dX12_lasts_20 ic_m1 ?_
      refine c_eq_f C 47 dX12_lasts_21 (by decide) (fun h19_ => ?_) (fun h19_ => ?_)
      · exact K16_ ⟨h18_, h19_⟩
      · exact K17_ (fun n => h19_ n.2)
    · exact K17_ (fun n => h18_ n.1)
  refine z_aload_n C 0 dX12_lasts_47 rfl rfl ?_
  obtain ⟨x34_, h35_, hf⟩ := ob hf
  refine cr12_196 C hkd  h35_ ⟨(Nat.le_of_ble_eq_true rfl), (Nat.le_of_ble_eq_true rfl)⟩ (Nat.le_of_ble_eq_true rfl) ⟨Nat.zero_le _, Nat.zero_le _⟩ dX12_lasts_48 ?_
  refine z_iload_n C 1 dX12_lasts_51 rfl rfl ?_
  cases hf
  subst hρ
  exact z_iret C dX12_lasts_52
theorem c12_lasts {l : Launch} {kd : List KD} {w : Wp} {σ : St} (hkd : kd = kdM) (hi : zI kd w) {r : (Int32 × St)} (hf : q12_lasts σ = some r) : zM l kd w yX12_lasts cX12_lasts 4 (some .int) rm12_lasts [.ref (w.2.2.1 0)] σ (some (.int r.1), r.2) := zM_of rfl hi (Nat.le_of_ble_eq_true rfl) (fun Θ hl hw C => by
  obtain ⟨Θ1, Θ2, Θ3, Θ4, Θ5⟩ := Θ
  cases hw
  exact p12_lasts C hkd  hf rfl)
/-! LastLoafModel.mill -/
theorem dX12_mill_0 : decode cX12_mill 0 = .ok (.aload_n 0, 1) := by decide +kernel
theorem dX12_mill_1 : decode cX12_mill 1 = .ok (.iload_n 1, 1) := by decide +kernel
theorem dX12_mill_2 : decode cX12_mill 2 = .ok (.iconst 1, 1) := by decide +kernel
theorem dX12_mill_3 : decode cX12_mill 3 = .ok (.bipush 60, 2) := by decide +kernel
theorem dX12_mill_5 : decode cX12_mill 5 = .ok (.invokestatic 68, 3) := by decide +kernel
theorem dX12_mill_8 : decode cX12_mill 8 = .ok (.ifCond .ne 7, 3) := by decide +kernel
theorem dX12_mill_11 : decode cX12_mill 11 = .ok (.iconst 1, 1) := by decide +kernel
theorem dX12_mill_12 : decode cX12_mill 12 = .ok (.goto 4, 3) := by decide +kernel
theorem dX12_mill_15 : decode cX12_mill 15 = .ok (.iconst 0, 1) := by decide +kernel
theorem dX12_mill_16 : decode cX12_mill 16 = .ok (.putfield 65, 3) := by decide +kernel
theorem dX12_mill_19 : decode cX12_mill 19 = .ok (.aload_n 0, 1) := by decide +kernel
theorem dX12_mill_20 : decode cX12_mill 20 = .ok (.getfield 65, 3) := by decide +kernel
theorem dX12_mill_23 : decode cX12_mill 23 = .ok (.ifCond .le 5, 3) := by decide +kernel
theorem dX12_mill_26 : decode cX12_mill 26 = .ok (.iconst 0, 1) := by decide +kernel
theorem dX12_mill_27 : decode cX12_mill 27 = .ok (.ireturn, 1) := by decide +kernel
theorem dX12_mill_28 : decode cX12_mill 28 = .ok (.aload_n 0, 1) := by decide +kernel
theorem dX12_mill_29 : decode cX12_mill 29 = .ok (.invokevirtual 186, 3) := by decide +kernel
theorem dX12_mill_32 : decode cX12_mill 32 = .ok (.iconst (-1), 1) := by decide +kernel
theorem dX12_mill_33 : decode cX12_mill 33 = .ok (.istore_n 2, 1) := by decide +kernel
theorem dX12_mill_34 : decode cX12_mill 34 = .ok (.iconst 0, 1) := by decide +kernel
theorem dX12_mill_35 : decode cX12_mill 35 = .ok (.istore_n 3, 1) := by decide +kernel
theorem dX12_mill_36 : decode cX12_mill 36 = .ok (.iload_n 3, 1) := by decide +kernel
theorem dX12_mill_37 : decode cX12_mill 37 = .ok (.bipush 99, 2) := by decide +kernel
theorem dX12_mill_39 : decode cX12_mill 39 = .ok (.if_icmp .gt 84, 3) := by decide +kernel
theorem dX12_mill_42 : decode cX12_mill 42 = .ok (.iload_n 2, 1) := by decide +kernel
theorem dX12_mill_43 : decode cX12_mill 43 = .ok (.iconst (-1), 1) := by decide +kernel
theorem dX12_mill_44 : decode cX12_mill 44 = .ok (.if_icmp .ne 79, 3) := by decide +kernel
theorem dX12_mill_47 : decode cX12_mill 47 = .ok (.iconst 0, 1) := by decide +kernel
theorem dX12_mill_48 : decode cX12_mill 48 = .ok (.istore 4, 2) := by decide +kernel
theorem dX12_mill_50 : decode cX12_mill 50 = .ok (.iload 4, 2) := by decide +kernel
theorem dX12_mill_52 : decode cX12_mill 52 = .ok (.iconst 4, 1) := by decide +kernel
theorem dX12_mill_53 : decode cX12_mill 53 = .ok (.if_icmp .ge 20, 3) := by decide +kernel
theorem dX12_mill_56 : decode cX12_mill 56 = .ok (.aload_n 0, 1) := by decide +kernel
theorem dX12_mill_57 : decode cX12_mill 57 = .ok (.getfield 7, 3) := by decide +kernel
theorem dX12_mill_60 : decode cX12_mill 60 = .ok (.bipush 10, 2) := by decide +kernel
theorem dX12_mill_62 : decode cX12_mill 62 = .ok (.iload 4, 2) := by decide +kernel
theorem dX12_mill_64 : decode cX12_mill 64 = .ok (.iadd, 1) := by decide +kernel
theorem dX12_mill_65 : decode cX12_mill 65 = .ok (.iload_n 3, 1) := by decide +kernel
theorem dX12_mill_66 : decode cX12_mill 66 = .ok (.iastore, 1) := by decide +kernel
theorem dX12_mill_67 : decode cX12_mill 67 = .ok (.iinc 4 1, 3) := by decide +kernel
theorem dX12_mill_70 : decode cX12_mill 70 = .ok (.goto (-20), 3) := by decide +kernel
theorem dX12_mill_73 : decode cX12_mill 73 = .ok (.iconst 0, 1) := by decide +kernel
theorem dX12_mill_74 : decode cX12_mill 74 = .ok (.istore 4, 2) := by decide +kernel
theorem dX12_mill_76 : decode cX12_mill 76 = .ok (.iconst 0, 1) := by decide +kernel
theorem dX12_mill_77 : decode cX12_mill 77 = .ok (.istore 5, 2) := by decide +kernel
theorem dX12_mill_79 : decode cX12_mill 79 = .ok (.iload 5, 2) := by decide +kernel
theorem dX12_mill_81 : decode cX12_mill 81 = .ok (.iload_n 1, 1) := by decide +kernel
theorem dX12_mill_82 : decode cX12_mill 82 = .ok (.if_icmp .ge 24, 3) := by decide +kernel
theorem dX12_mill_85 : decode cX12_mill 85 = .ok (.iload 4, 2) := by decide +kernel
theorem dX12_mill_87 : decode cX12_mill 87 = .ok (.ifCond .ne 19, 3) := by decide +kernel
theorem dX12_mill_90 : decode cX12_mill 90 = .ok (.iload 4, 2) := by decide +kernel
theorem dX12_mill_92 : decode cX12_mill 92 = .ok (.aload_n 0, 1) := by decide +kernel
theorem dX12_mill_93 : decode cX12_mill 93 = .ok (.iconst 0, 1) := by decide +kernel
theorem dX12_mill_94 : decode cX12_mill 94 = .ok (.invokevirtual 341, 3) := by decide +kernel
theorem dX12_mill_97 : decode cX12_mill 97 = .ok (.iadd, 1) := by decide +kernel
theorem dX12_mill_98 : decode cX12_mill 98 = .ok (.istore 4, 2) := by decide +kernel
theorem dX12_mill_100 : decode cX12_mill 100 = .ok (.iinc 5 1, 3) := by decide +kernel
theorem dX12_mill_103 : decode cX12_mill 103 = .ok (.goto (-24), 3) := by decide +kernel
theorem dX12_mill_106 : decode cX12_mill 106 = .ok (.iload 4, 2) := by decide +kernel
theorem dX12_mill_108 : decode cX12_mill 108 = .ok (.ifCond .ne 5, 3) := by decide +kernel
theorem dX12_mill_111 : decode cX12_mill 111 = .ok (.iload_n 3, 1) := by decide +kernel
theorem dX12_mill_112 : decode cX12_mill 112 = .ok (.istore_n 2, 1) := by decide +kernel
theorem dX12_mill_113 : decode cX12_mill 113 = .ok (.aload_n 0, 1) := by decide +kernel
theorem dX12_mill_114 : decode cX12_mill 114 = .ok (.invokevirtual 196, 3) := by decide +kernel
theorem dX12_mill_117 : decode cX12_mill 117 = .ok (.iinc 3 1, 3) := by decide +kernel
theorem dX12_mill_120 : decode cX12_mill 120 = .ok (.goto (-84), 3) := by decide +kernel
theorem dX12_mill_123 : decode cX12_mill 123 = .ok (.iload_n 2, 1) := by decide +kernel
theorem dX12_mill_124 : decode cX12_mill 124 = .ok (.ireturn, 1) := by decide +kernel
def q12_mill (σ : St) (n_a : Int32) : Option (Int32 × St) :=
  lt (up σ 0 0 (if ¬ (q12_isIn n_a 1 60 = true) then 1 else 0)) fun σ6_ =>
  if 0 < (σ6_ 0 0) then (some (0, σ6_)) else
  Option.bind (q12_putsAside σ6_) fun x12_ =>
  Option.bind (loop3 (fun rec17_ (found20_ : Int32) (g21_ : Int32) (σ22_ : St) =>
  if (g21_ ≤ 99) ∧ (found20_ = (-1)) then
  Option.bind (loop2 (fun rec33_ (q36_ : Int32) (σ37_ : St) =>
  if q36_ < 4 then
  Option.bind (sa σ37_ 1 752 (10 + q36_) g21_) fun σ44_ =>
  lt (q36_ + 1) fun q46_ =>
  rec33_ q46_ σ44_
  else (some (q36_, σ37_))) fuelN (0 : Int32) σ22_) fun y30_ =>
  Option.bind (loop3 (fun rec51_ (more54_ : Int32) (k55_ : Int32) (σ56_ : St) =>
  if (k55_ < n_a) ∧ (more54_ = 0) then
  Option.bind (q12_passes σ56_ false) fun x64_ =>
  lt (more54_ + x64_.1) fun more66_ =>
  lt (k55_ + 1) fun k68_ =>
  rec51_ more66_ k68_ x64_.2
  else (some (more54_, k55_, σ56_))) fuelN (0 : Int32) (0 : Int32) y30_.2) fun y48_ =>
  lt (if y48_.1 = 0 then g21_ else found20_) fun y70_ =>
  Option.bind (q12_comesBack y48_.2.2) fun x77_ =>
  lt (g21_ + 1) fun g79_ =>
  rec17_ y70_ g79_ x77_
  else (some (found20_, g21_, σ22_))) fuelN (-1 : Int32) (0 : Int32) x12_) fun y14_ =>
  some (y14_.1, y14_.2.2)
abbrev rm12_mill : Room := { frames := 79, cells := 0, slots := 0, locals := 4239 }
set_option maxHeartbeats 4000000 in
set_option maxRecDepth 100000 in
theorem p12_mill {Θ : Tz} {σ : St} {ρ : Option Value × St} (C : Zc Θ cX12_mill 6 RX12 (some .int) rm12_mill) (hkd : Θ.2.2.2.2.1 = kdM) {n_a : Int32} {r : (Int32 × St)} (hf : q12_mill σ n_a = some r) (hρ : ρ = (some (.int r.1), r.2)) : Z Θ 6 0 0 (zQ Θ ρ) σ 0 [(0, .ref (zA Θ 0)), (1, .int n_a)] [] := by
  unfold q12_mill at hf
  refine z_aload_n C 0 dX12_mill_0 rfl rfl ?_
  suffices K1_ : Z Θ 6 0 0 (zQ Θ ρ) σ 16 [(0, .ref (zA Θ 0)), (1, .int n_a)] [.int (if ¬ (q12_isIn n_a 1 60 = true) then 1 else 0), .ref (zA Θ 0)] by
    have K2_ : ¬ (q12_isIn n_a 1 60 = true) → Z Θ 6 0 0 (zQ Θ ρ) σ 11 [(0, .ref (zA Θ 0)), (1, .int n_a)] [.ref (zA Θ 0)] := by
      intro h5_
      rw [if_pos h5_] at K1_
      refine z_iconst (v := 1) C dX12_mill_11 ic_1 ?_
      refine z_goto C 16 dX12_mill_12 (by decide) ?_
      exact K1_
    have K3_ : ¬ (¬ (q12_isIn n_a 1 60 = true)) → Z Θ 6 0 0 (zQ Θ ρ) σ 15 [(0, .ref (zA Θ 0)), (1, .int n_a)] [.ref (zA Θ 0)] := by
      intro h5_
      rw [if_neg h5_] at K1_
      refine z_iconst (v := 0) C dX12_mill_15 ic_0 ?_
      exact K1_
    refine z_iload_n C 1 dX12_mill_1 rfl rfl ?_
    refine z_iconst (v := 1) C dX12_mill_2 ic_1 ?_
    refine z_bipush (v := 60) C dX12_mill_3 bp_60 ?_
    refine cr12_68 (v_a := n_a) (low_a := 1) (high_a := 60) C hkd  ⟨(Nat.le_of_ble_eq_true rfl), (Nat.le_of_ble_eq_true rfl)⟩ (Nat.le_of_ble_eq_true rfl) ⟨Nat.zero_le _, Nat.zero_le _⟩ dX12_mill_5 ?_
    refine cb_t C 15 dX12_mill_8 (by decide) (fun h4_ => ?_) (fun h4_ => ?_)
    · exact K3_ (fun n => n h4_)
    · exact K2_ h4_
  obtain ⟨σ6_, h7_, hf⟩ := lt_ hf
  refine fp12_65 C hkd h7_ dX12_mill_16 ?_
  have K8_ : 0 < (σ6_ 0 0) → Z Θ 6 0 0 (zQ Θ ρ) σ6_ 26 [(0, .ref (zA Θ 0)), (1, .int n_a)] [] := by
    intro h11_
    rw [if_pos h11_] at hf
    refine z_iconst (v := 0) C dX12_mill_26 ic_0 ?_
    cases hf
    subst hρ
    exact z_iret C dX12_mill_27
  suffices K9_ : ¬ (0 < (σ6_ 0 0)) → Z Θ 6 0 0 (zQ Θ ρ) σ6_ 28 [(0, .ref (zA Θ 0)), (1, .int n_a)] [] by
    refine z_aload_n C 0 dX12_mill_19 rfl rfl ?_
    refine fg12_65 C hkd dX12_mill_20 ?_
    refine c0_gt_f C 28 dX12_mill_23 (by decide) (fun h10_ => ?_) (fun h10_ => ?_)
    · exact K8_ h10_
    · exact K9_ h10_
  intro h11_
  rw [if_neg h11_] at hf
  refine z_aload_n C 0 dX12_mill_28 rfl rfl ?_
  obtain ⟨x12_, h13_, hf⟩ := ob hf
  refine cr12_186 C hkd  h13_ ⟨(Nat.le_of_ble_eq_true rfl), (Nat.le_of_ble_eq_true rfl)⟩ (Nat.le_of_ble_eq_true rfl) ⟨Nat.zero_le _, Nat.zero_le _⟩ dX12_mill_29 ?_
  refine z_iconst (v := (-1)) C dX12_mill_32 ic_m1 ?_
  refine z_istN C dX12_mill_33 rfl rfl (Nat.le_of_ble_eq_true rfl) rfl ?_
  refine z_iconst (v := 0) C dX12_mill_34 ic_0 ?_
  refine z_istN C dX12_mill_35 rfl rfl (Nat.le_of_ble_eq_true rfl) rfl ?_
  refine Z.sub [2, 3, 1, 0] rfl ?_
  obtain ⟨y14_, h15_, hf⟩ := ob hf
  suffices K16_ : Z Θ 6 0 0 (zQ Θ ρ) y14_.2.2 123 [(0, .ref (zA Θ 0)), (1, .int n_a), (2, .int y14_.1), (3, .int y14_.2.1)] [] by
    refine loop3_Z (P := fun (found20_ : Int32) (g21_ : Int32) (σ22_ : St) => Z Θ 6 0 0 (zQ Θ ρ) σ22_ 36 [(0, .ref (zA Θ 0)), (1, .int n_a), (2, .int found20_), (3, .int g21_)] []) ?_ fuelN (-1 : Int32) (0 : Int32) x12_ h15_
    clear h15_
    intro rec17_ found20_ g21_ σ22_ h18_ h19_
    have K25_ : (g21_ ≤ 99) ∧ (found20_ = (-1)) → Z Θ 6 0 0 (zQ Θ ρ) σ22_ 47 [(0, .ref (zA Θ 0)), (1, .int n_a), (2, .int found20_), (3, .int g21_)] [] := by
      intro h29_
      rw [if_pos h29_] at h19_
      refine z_iconst (v := 0) C dX12_mill_47 ic_0 ?_
      refine z_ist C dX12_mill_48 rfl (Nat.le_of_ble_eq_true rfl) rfl ?_
      refine Z.sub [1, 2, 3, 4, 0] rfl ?_
      obtain ⟨y30_, h31_, h19_⟩ := ob h19_
      suffices K32_ : Z Θ 6 0 0 (zQ Θ ρ) y30_.2 73 [(0, .ref (zA Θ 0)), (1, .int n_a), (2, .int found20_), (3, .int g21_), (4, .int y30_.1)] [] by
        refine loop2_Z (P := fun (q36_ : Int32) (σ37_ : St) => Z Θ 6 0 0 (zQ Θ ρ) σ37_ 50 [(0, .ref (zA Θ 0)), (1, .int n_a), (2, .int found20_), (3, .int g21_), (4, .int q36_)] []) ?_ fuelN (0 : Int32) σ22_ h31_
        clear h31_
        intro rec33_ q36_ σ37_ h34_ h35_
        have K40_ : q36_ < 4 → Z Θ 6 0 0 (zQ Θ ρ) σ37_ 56 [(0, .ref (zA Θ 0)), (1, .int n_a), (2, .int found20_), (3, .int g21_), (4, .int q36_)] [] := by
          intro h43_
          rw [if_pos h43_] at h35_
          refine z_aload_n C 0 dX12_mill_56 rfl rfl ?_
          refine fg12_7 C hkd dX12_mill_57 ?_
          refine z_bipush (v := 10) C dX12_mill_60 bp_10 ?_
          refine z_iload C 4 dX12_mill_62 rfl ?_
          refine z_iadd C dX12_mill_64 ?_
          refine z_iload_n C 3 dX12_mill_65 rfl rfl ?_
          obtain ⟨σ44_, h45_, h35_⟩ := ob h35_
          refine z_sa C h45_ (kM_1 hkd) dX12_mill_66 ?_
          obtain ⟨q46_, h47_, h35_⟩ := lt_ h35_
          refine z_inc C 4 dX12_mill_67 rfl ic_1 h47_ (Nat.le_of_ble_eq_true rfl) rfl ?_
          refine z_goto C 50 dX12_mill_70 (by decide) ?_
          refine Z.sub [1, 2, 3, 4, 0] rfl ?_
          exact h34_ _ _ h35_
        have K41_ : ¬ (q36_ < 4) → Z Θ 6 0 0 (zQ Θ ρ) σ37_ 73 [(0, .ref (zA Θ 0)), (1, .int n_a), (2, .int found20_), (3, .int g21_), (4, .int q36_)] [] := by
          intro h43_
          rw [if_neg h43_] at h35_
          cases h35_
          exact K32_
        refine z_iload C 4 dX12_mill_50 rfl ?_
        refine z_iconst (v := 4) C dX12_mill_52 ic_4 ?_
        refine c_lt_f C 73 dX12_mill_53 (by decide) (fun h42_ => ?_) (fun h42_ => ?_)
        · exact K40_ h42_
        · exact K41_ h42_
      refine z_iconst (v := 0) C dX12_mill_73 ic_0 ?_
      refine z_ist C dX12_mill_74 rfl (Nat.le_of_ble_eq_true rfl) rfl ?_
      refine z_iconst (v := 0) C dX12_mill_76 ic_0 ?_
      refine z_ist C dX12_mill_77 rfl (Nat.le_of_ble_eq_true rfl) rfl ?_
      refine Z.sub [2, 3, 4, 5, 1, 0] rfl ?_
      obtain ⟨y48_, h49_, h19_⟩ := ob h19_
      suffices K50_ : Z Θ 6 0 0 (zQ Θ ρ) y48_.2.2 106 [(0, .ref (zA Θ 0)), (1, .int n_a), (2, .int found20_), (3, .int g21_), (4, .int y48_.1), (5, .int y48_.2.1)] [] by
        refine loop3_Z (P := fun (more54_ : Int32) (k55_ : Int32) (σ56_ : St) => Z Θ 6 0 0 (zQ Θ ρ) σ56_ 79 [(0, .ref (zA Θ 0)), (1, .int n_a), (2, .int found20_), (3, .int g21_), (4, .int more54_), (5, .int k55_)] []) ?_ fuelN (0 : Int32) (0 : Int32) y30_.2 h49_
        clear h49_
        intro rec51_ more54_ k55_ σ56_ h52_ h53_
        have K59_ : (k55_ < n_a) ∧ (more54_ = 0) → Z Θ 6 0 0 (zQ Θ ρ) σ56_ 90 [(0, .ref (zA Θ 0)), (1, .int n_a), (2, .int found20_), (3, .int g21_), (4, .int more54_), (5, .int k55_)] [] := by
          intro h63_
          rw [if_pos h63_] at h53_
          refine z_iload C 4 dX12_mill_90 rfl ?_
          refine z_aload_n C 0 dX12_mill_92 rfl rfl ?_
          refine z_iconst (v := 0) C dX12_mill_93 ic_0 ?_
          obtain ⟨x64_, h65_, h53_⟩ := ob h53_
          refine cr12_341 (draws_a := false) C hkd  h65_ ⟨(Nat.le_of_ble_eq_true rfl), (Nat.le_of_ble_eq_true rfl)⟩ (Nat.le_of_ble_eq_true rfl) ⟨Nat.zero_le _, Nat.zero_le _⟩ dX12_mill_94 ?_
          refine z_iadd C dX12_mill_97 ?_
          obtain ⟨more66_, h67_, h53_⟩ := lt_ h53_
          refine z_ist C dX12_mill_98 h67_ (Nat.le_of_ble_eq_true rfl) rfl ?_
          obtain ⟨k68_, h69_, h53_⟩ := lt_ h53_
          refine z_inc C 5 dX12_mill_100 rfl ic_1 h69_ (Nat.le_of_ble_eq_true rfl) rfl ?_
          refine z_goto C 79 dX12_mill_103 (by decide) ?_
          refine Z.sub [2, 3, 4, 5, 1, 0] rfl ?_
          exact h52_ _ _ _ h53_
        have K60_ : ¬ ((k55_ < n_a) ∧ (more54_ = 0)) → Z Θ 6 0 0 (zQ Θ ρ) σ56_ 106 [(0, .ref (zA Θ 0)), (1, .int n_a), (2, .int found20_), (3, .int g21_), (4, .int more54_), (5, .int k55_)] [] := by
          intro h63_
          rw [if_neg h63_] at h53_
          cases h53_
          exact K50_
        refine z_iload C 5 dX12_mill_79 rfl ?_
        refine z_iload_n C 1 dX12_mill_81 rfl rfl ?_
        refine c_lt_f C 106 dX12_mill_82 (by decide) (fun h61_ => ?_) (fun h61_ => ?_)
        · refine z_iload C 4 dX12_mill_85 rfl ?_
          refine c0_eq_f C 106 dX12_mill_87 (by decide) (fun h62_ => ?_) (fun h62_ => ?_)
          · exact K59_ ⟨h61_, h62_⟩
          · exact K60_ (fun n => h62_ n.2)
        · exact K60_ (fun n => h61_ n.1)
      obtain ⟨y70_, h71_, h19_⟩ := lt_ h19_
      have h71_ := h71_.symm
      suffices K72_ : Z Θ 6 0 0 (zQ Θ ρ) y48_.2.2 113 [(0, .ref (zA Θ 0)), (1, .int n_a), (2, .int y70_), (3, .int g21_), (4, .int y48_.1)] [] by
        have K73_ : y48_.1 = 0 → Z Θ 6 0 0 (zQ Θ ρ) y48_.2.2 111 [(0, .ref (zA Θ 0)), (1, .int n_a), (2, .int found20_), (3, .int g21_), (4, .int y48_.1), (5, .int y48_.2.1)] [] := by
          intro h76_
          rw [if_pos h76_] at h71_
          refine z_iload_n C 3 dX12_mill_111 rfl rfl ?_
          refine z_istN C dX12_mill_112 rfl rfl (Nat.le_of_ble_eq_true rfl) rfl ?_
          subst h71_
          refine Z.sub [1, 2, 0, 3, 4] rfl ?_
          exact K72_
        have K74_ : ¬ (y48_.1 = 0) → Z Θ 6 0 0 (zQ Θ ρ) y48_.2.2 113 [(0, .ref (zA Θ 0)), (1, .int n_a), (2, .int found20_), (3, .int g21_), (4, .int y48_.1), (5, .int y48_.2.1)] [] := by
          intro h76_
          rw [if_neg h76_] at h71_
          subst h71_
          refine Z.sub [0, 1, 2, 3, 4] rfl ?_
          exact K72_
        refine z_iload C 4 dX12_mill_106 rfl ?_
        refine c0_eq_f C 113 dX12_mill_108 (by decide) (fun h75_ => ?_) (fun h75_ => ?_)
        · exact K73_ h75_
        · exact K74_ h75_
      refine z_aload_n C 0 dX12_mill_113 rfl rfl ?_
      obtain ⟨x77_, h78_, h19_⟩ := ob h19_
      refine cr12_196 C hkd  h78_ ⟨(Nat.le_of_ble_eq_true rfl), (Nat.le_of_ble_eq_true rfl)⟩ (Nat.le_of_ble_eq_true rfl) ⟨Nat.zero_le _, Nat.zero_le _⟩ dX12_mill_114 ?_
      obtain ⟨g79_, h80_, h19_⟩ := lt_ h19_
      refine z_inc C 3 dX12_mill_117 rfl ic_1 h80_ (Nat.le_of_ble_eq_true rfl) rfl ?_
      refine z_goto C 36 dX12_mill_120 (by decide) ?_
      refine Z.sub [1, 2, 3, 0] rfl ?_
      exact h18_ _ _ _ h19_
    have K26_ : ¬ ((g21_ ≤ 99) ∧ (found20_ = (-1))) → Z Θ 6 0 0 (zQ Θ ρ) σ22_ 123 [(0, .ref (zA Θ 0)), (1, .int n_a), (2, .int found20_), (3, .int g21_)] [] := by
      intro h29_
      rw [if_neg h29_] at h19_
      cases h19_
      exact K16_
    refine z_iload_n C 3 dX12_mill_36 rfl rfl ?_
    refine z_bipush (v := 99) C dX12_mill_37 bp_99 ?_
    refine c_le_f C 123 dX12_mill_39 (by decide) (fun h27_ => ?_) (fun h27_ => ?_)
    · refine z_iload_n C 2 dX12_mill_42 rfl rfl ?_
      refine z_iconst (v := (-1)) C dX12_mill_43 ic_m1 ?_
      refine c_eq_f C 123 dX12_mill_44 (by decide) (fun h28_ => ?_) (fun h28_ => ?_)
      · exact K25_ ⟨h27_, h28_⟩
      · exact K26_ (fun n => h28_ n.2)
    · exact K26_ (fun n => h27_ n.1)
  refine z_iload_n C 2 dX12_mill_123 rfl rfl ?_
  cases hf
  subst hρ
  exact z_iret C dX12_mill_124
theorem c12_mill {l : Launch} {kd : List KD} {w : Wp} {σ : St} {n_a : Int32} (hkd : kd = kdM) (hi : zI kd w) {r : (Int32 × St)} (hf : q12_mill σ n_a = some r) : zM l kd w yX12_mill cX12_mill 6 (some .int) rm12_mill [.ref (w.2.2.1 0), .int n_a] σ (some (.int r.1), r.2) := zM_of rfl hi (Nat.le_of_ble_eq_true rfl) (fun Θ hl hw C => by
  obtain ⟨Θ1, Θ2, Θ3, Θ4, Θ5⟩ := Θ
  cases hw
  exact p12_mill C hkd  hf rfl)
/-! LastLoafModel.starves -/
theorem dX12_starves_0 : decode cX12_starves 0 = .ok (.aload_n 0, 1) := by decide +kernel
theorem dX12_starves_1 : decode cX12_starves 1 = .ok (.iconst 0, 1) := by decide +kernel
theorem dX12_starves_2 : decode cX12_starves 2 = .ok (.putfield 65, 3) := by decide +kernel
theorem dX12_starves_5 : decode cX12_starves 5 = .ok (.aload_n 0, 1) := by decide +kernel
theorem dX12_starves_6 : decode cX12_starves 6 = .ok (.iconst 4, 1) := by decide +kernel
theorem dX12_starves_7 : decode cX12_starves 7 = .ok (.invokevirtual 266, 3) := by decide +kernel
theorem dX12_starves_10 : decode cX12_starves 10 = .ok (.istore_n 2, 1) := by decide +kernel
theorem dX12_starves_11 : decode cX12_starves 11 = .ok (.aload_n 0, 1) := by decide +kernel
theorem dX12_starves_12 : decode cX12_starves 12 = .ok (.invokevirtual 186, 3) := by decide +kernel
theorem dX12_starves_15 : decode cX12_starves 15 = .ok (.iconst (-1), 1) := by decide +kernel
theorem dX12_starves_16 : decode cX12_starves 16 = .ok (.istore_n 3, 1) := by decide +kernel
theorem dX12_starves_17 : decode cX12_starves 17 = .ok (.iconst 1, 1) := by decide +kernel
theorem dX12_starves_18 : decode cX12_starves 18 = .ok (.istore 4, 2) := by decide +kernel
theorem dX12_starves_20 : decode cX12_starves 20 = .ok (.iload 4, 2) := by decide +kernel
theorem dX12_starves_22 : decode cX12_starves 22 = .ok (.bipush 60, 2) := by decide +kernel
theorem dX12_starves_24 : decode cX12_starves 24 = .ok (.if_icmp .gt 48, 3) := by decide +kernel
theorem dX12_starves_27 : decode cX12_starves 27 = .ok (.iload_n 3, 1) := by decide +kernel
theorem dX12_starves_28 : decode cX12_starves 28 = .ok (.iconst (-1), 1) := by decide +kernel
theorem dX12_starves_29 : decode cX12_starves 29 = .ok (.if_icmp .ne 43, 3) := by decide +kernel
theorem dX12_starves_32 : decode cX12_starves 32 = .ok (.aload_n 0, 1) := by decide +kernel
theorem dX12_starves_33 : decode cX12_starves 33 = .ok (.iconst 0, 1) := by decide +kernel
theorem dX12_starves_34 : decode cX12_starves 34 = .ok (.invokevirtual 341, 3) := by decide +kernel
theorem dX12_starves_37 : decode cX12_starves 37 = .ok (.istore 5, 2) := by decide +kernel
theorem dX12_starves_39 : decode cX12_starves 39 = .ok (.iload 5, 2) := by decide +kernel
theorem dX12_starves_41 : decode cX12_starves 41 = .ok (.ifCond .le 25, 3) := by decide +kernel
theorem dX12_starves_44 : decode cX12_starves 44 = .ok (.iload_n 1, 1) := by decide +kernel
theorem dX12_starves_45 : decode cX12_starves 45 = .ok (.ifCond .eq 18, 3) := by decide +kernel
theorem dX12_starves_48 : decode cX12_starves 48 = .ok (.aload_n 0, 1) := by decide +kernel
theorem dX12_starves_49 : decode cX12_starves 49 = .ok (.iconst 4, 1) := by decide +kernel
theorem dX12_starves_50 : decode cX12_starves 50 = .ok (.invokevirtual 266, 3) := by decide +kernel
theorem dX12_starves_53 : decode cX12_starves 53 = .ok (.iload_n 2, 1) := by decide +kernel
theorem dX12_starves_54 : decode cX12_starves 54 = .ok (.iconst (-1), 1) := by decide +kernel
theorem dX12_starves_55 : decode cX12_starves 55 = .ok (.ixor, 1) := by decide +kernel
theorem dX12_starves_56 : decode cX12_starves 56 = .ok (.iand, 1) := by decide +kernel
theorem dX12_starves_57 : decode cX12_starves 57 = .ok (.invokestatic 304, 3) := by decide +kernel
theorem dX12_starves_60 : decode cX12_starves 60 = .ok (.goto 5, 3) := by decide +kernel
theorem dX12_starves_63 : decode cX12_starves 63 = .ok (.iload 4, 2) := by decide +kernel
theorem dX12_starves_65 : decode cX12_starves 65 = .ok (.istore_n 3, 1) := by decide +kernel
theorem dX12_starves_66 : decode cX12_starves 66 = .ok (.iinc 4 1, 3) := by decide +kernel
theorem dX12_starves_69 : decode cX12_starves 69 = .ok (.goto (-49), 3) := by decide +kernel
theorem dX12_starves_72 : decode cX12_starves 72 = .ok (.aload_n 0, 1) := by decide +kernel
theorem dX12_starves_73 : decode cX12_starves 73 = .ok (.invokevirtual 196, 3) := by decide +kernel
theorem dX12_starves_76 : decode cX12_starves 76 = .ok (.iload_n 3, 1) := by decide +kernel
theorem dX12_starves_77 : decode cX12_starves 77 = .ok (.ireturn, 1) := by decide +kernel
def q12_starves (σ : St) (who_a : Bool) : Option (Int32 × St) :=
  lt (up σ 0 0 0) fun σ1_ =>
  Option.bind (q12_those σ1_ 4) fun x3_ =>
  Option.bind (q12_putsAside σ1_) fun x5_ =>
  Option.bind (loop3 (fun rec10_ (found13_ : Int32) (n14_ : Int32) (σ15_ : St) =>
  if (n14_ ≤ 60) ∧ (found13_ = (-1)) then
  Option.bind (q12_passes σ15_ false) fun x23_ =>
  Option.bind (if 0 < x23_.1 then (Option.bind (if who_a = true then (Option.bind (q12_those x23_.2 4) fun x38_ =>
  Option.bind (q12_lowest (x38_ &&& (x3_ ^^^ (-1)))) fun x40_ =>
  some x40_) else (some n14_)) fun x32_ =>
  some (x32_)) else (some (found13_))) fun y25_ =>
  lt (n14_ + 1) fun n43_ =>
  rec10_ y25_ n43_ x23_.2
  else (some (found13_, n14_, σ15_))) fuelN (-1 : Int32) (1 : Int32) x5_) fun y7_ =>
  Option.bind (q12_comesBack y7_.2.2) fun x45_ =>
  some (y7_.1, x45_)
abbrev rm12_starves : Room := { frames := 79, cells := 0, slots := 0, locals := 4239 }
set_option maxHeartbeats 4000000 in
set_option maxRecDepth 100000 in
theorem p12_starves {Θ : Tz} {σ : St} {ρ : Option Value × St} (C : Zc Θ cX12_starves 6 RX12 (some .int) rm12_starves) (hkd : Θ.2.2.2.2.1 = kdM) {who_a : Bool} {r : (Int32 × St)} (hf : q12_starves σ who_a = some r) (hρ : ρ = (some (.int r.1), r.2)) : Z Θ 6 0 0 (zQ Θ ρ) σ 0 [(0, .ref (zA Θ 0)), (1, .int (b2i who_a))] [] := by
  unfold q12_starves at hf
  refine z_aload_n C 0 dX12_starves_0 rfl rfl ?_
  refine z_iconst (v := 0) C dX12_starves_1 ic_0 ?_
  obtain ⟨σ1_, h2_, hf⟩ := lt_ hf
  refine fp12_65 C hkd h2_ dX12_starves_2 ?_
  refine z_aload_n C 0 dX12_starves_5 rfl rfl ?_
  refine z_iconst (v := 4) C dX12_starves_6 ic_4 ?_
  obtain ⟨x3_, h4_, hf⟩ := ob hf
  refine cr12_266 (what_a := 4) C hkd  h4_ ⟨(Nat.le_of_ble_eq_true rfl), (Nat.le_of_ble_eq_true rfl)⟩ (Nat.le_of_ble_eq_true rfl) ⟨Nat.zero_le _, Nat.zero_le _⟩ dX12_starves_7 ?_
  refine z_istN C dX12_starves_10 rfl rfl (Nat.le_of_ble_eq_true rfl) rfl ?_
  refine z_aload_n C 1 dX12_starves_11 rfl rfl ?_
  obtain ⟨x5_, h6_, hf⟩ := ob hf
  refine cr12_186 C hkd  h6_ ⟨(Nat.le_of_ble_eq_true rfl), (Nat.le_of_ble_eq_true rfl)⟩ (Nat.le_of_ble_eq_true rfl) ⟨Nat.zero_le _, Nat.zero_le _⟩ dX12_starves_12 ?_
  refine z_iconst (v := (-1)) C dX12_starves_15 ic_m1 ?_
  refine z_istN C dX12_starves_16 rfl rfl (Nat.le_of_ble_eq_true rfl) rfl ?_
  refine z_iconst (v := 1) C dX12_starves_17 ic_1 ?_
  refine z_ist C dX12_starves_18 rfl (Nat.le_of_ble_eq_true rfl) rfl ?_
  refine Z.sub [3, 4, 2, 1, 0] rfl ?_
  obtain ⟨y7_, h8_, hf⟩ := ob hf
  suffices K9_ : Z Θ 6 0 0 (zQ Θ ρ) y7_.2.2 72 [(0, .ref (zA Θ 0)), (1, .int (b2i who_a)), (2, .int x3_), (3, .int y7_.1), (4, .int y7_.2.1)] [] by
    refine loop3_Z (P := fun (found13_ : Int32) (n14_ : Int32) (σ15_ : St) => Z Θ 6 0 0 (zQ Θ ρ) σ15_ 20 [(0, .ref (zA Θ 0)), (1, .int (b2i who_a)), (2, .int x3_), (3, .int found13_), (4, .int n14_)] []) ?_ fuelN (-1 : Int32) (1 : Int32) x5_ h8_
    clear h8_
    intro rec10_ found13_ n14_ σ15_ h11_ h12_
    have K18_ : (n14_ ≤ 60) ∧ (found13_ = (-1)) → Z Θ 6 0 0 (zQ Θ ρ) σ15_ 32 [(0, .ref (zA Θ 0)), (1, .int (b2i who_a)), (2, .int x3_), (3, .int found13_), (4, .int n14_)] [] := by
      intro h22_
      rw [if_pos h22_] at h12_
      refine z_aload_n C 0 dX12_starves_32 rfl rfl ?_
      refine z_iconst (v := 0) C dX12_starves_33 ic_0 ?_
      obtain ⟨x23_, h24_, h12_⟩ := ob h12_
      refine cr12_341 (draws_a := false) C hkd  h24_ ⟨(Nat.le_of_ble_eq_true rfl), (Nat.le_of_ble_eq_true rfl)⟩ (Nat.le_of_ble_eq_true rfl) ⟨Nat.zero_le _, Nat.zero_le _⟩ dX12_starves_34 ?_
      refine z_ist C dX12_starves_37 rfl (Nat.le_of_ble_eq_true rfl) rfl ?_
      obtain ⟨y25_, h26_, h12_⟩ := ob h12_
      suffices K27_ : Z Θ 6 0 0 (zQ Θ ρ) x23_.2 66 [(0, .ref (zA Θ 0)), (1, .int (b2i who_a)), (2, .int x3_), (3, .int y25_), (4, .int n14_), (5, .int x23_.1)] [] by
        have K28_ : 0 < x23_.1 → Z Θ 6 0 0 (zQ Θ ρ) x23_.2 44 [(5, .int x23_.1), (0, .ref (zA Θ 0)), (1, .int (b2i who_a)), (2, .int x3_), (3, .int found13_), (4, .int n14_)] [] := by
          intro h31_
          rw [if_pos h31_] at h26_
          obtain ⟨x32_, h33_, h26_⟩ := ob h26_
          suffices K34_ : Z Θ 6 0 0 (zQ Θ ρ) x23_.2 65 [(5, .int x23_.1), (0, .ref (zA Θ 0)), (1, .int (b2i who_a)), (2, .int x3_), (3, .int found13_), (4, .int n14_)] [.int x32_] by
            have K35_ : who_a = true → Z Θ 6 0 0 (zQ Θ ρ) x23_.2 48 [(5, .int x23_.1), (0, .ref (zA Θ 0)), (1, .int (b2i who_a)), (2, .int x3_), (3, .int found13_), (4, .int n14_)] [] := by
              intro h42_
              rw [if_pos h42_] at h33_
              refine z_aload_n C 1 dX12_starves_48 rfl rfl ?_
              refine z_iconst (v := 4) C dX12_starves_49 ic_4 ?_
              obtain ⟨x38_, h39_, h33_⟩ := ob h33_
              refine cr12_266 (what_a := 4) C hkd  h39_ ⟨(Nat.le_of_ble_eq_true rfl), (Nat.le_of_ble_eq_true rfl)⟩ (Nat.le_of_ble_eq_true rfl) ⟨Nat.zero_le _, Nat.zero_le _⟩ dX12_starves_50 ?_
              refine z_iload_n C 3 dX12_starves_53 rfl rfl ?_
              refine z_iconst (v := (-1)) C dX12_starves_54 ic_m1 ?_
              refine z_ixor C dX12_starves_55 ?_
              refine z_iand C dX12_starves_56 ?_
              obtain ⟨x40_, h41_, h33_⟩ := ob h33_
              refine cr12_304 (set_a := (x38_ &&& (x3_ ^^^ (-1)))) C hkd  h41_ ⟨(Nat.le_of_ble_eq_true rfl), (Nat.le_of_ble_eq_true rfl)⟩ (Nat.le_of_ble_eq_true rfl) ⟨Nat.zero_le _, Nat.zero_le _⟩ dX12_starves_57 ?_
              refine z_goto C 65 dX12_starves_60 (by decide) ?_
              cases h33_
              exact K34_
            have K36_ : ¬ (who_a = true) → Z Θ 6 0 0 (zQ Θ ρ) x23_.2 63 [(5, .int x23_.1), (0, .ref (zA Θ 0)), (1, .int (b2i who_a)), (2, .int x3_), (3, .int found13_), (4, .int n14_)] [] := by
              intro h42_
              rw [if_neg h42_] at h33_
              refine z_iload C 5 dX12_starves_63 rfl ?_
              cases h33_
              exact K34_
            refine z_iload_n C 2 dX12_starves_44 rfl rfl ?_
            refine cb_f C 63 dX12_starves_45 (by decide) (fun h37_ => ?_) (fun h37_ => ?_)
            · exact K35_ h37_
            · exact K36_ h37_
          refine z_istN C dX12_starves_65 rfl rfl (Nat.le_of_ble_eq_true rfl) rfl ?_
          cases h26_
          refine Z.sub [2, 3, 4, 0, 5, 1] rfl ?_
          exact K27_
        have K29_ : ¬ (0 < x23_.1) → Z Θ 6 0 0 (zQ Θ ρ) x23_.2 66 [(5, .int x23_.1), (0, .ref (zA Θ 0)), (1, .int (b2i who_a)), (2, .int x3_), (3, .int found13_), (4, .int n14_)] [] := by
          intro h31_
          rw [if_neg h31_] at h26_
          cases h26_
          refine Z.sub [1, 2, 3, 4, 5, 0] rfl ?_
          exact K27_
        refine z_iload C 0 dX12_starves_39 rfl ?_
        refine c0_gt_f C 66 dX12_starves_41 (by decide) (fun h30_ => ?_) (fun h30_ => ?_)
        · exact K28_ h30_
        · exact K29_ h30_
      obtain ⟨n43_, h44_, h12_⟩ := lt_ h12_
      refine z_inc C 4 dX12_starves_66 rfl ic_1 h44_ (Nat.le_of_ble_eq_true rfl) rfl ?_
      refine z_goto C 20 dX12_starves_69 (by decide) ?_
      refine Z.sub [1, 2, 3, 4, 0] rfl ?_
      exact h11_ _ _ _ h12_
    have K19_ : ¬ ((n14_ ≤ 60) ∧ (found13_ = (-1))) → Z Θ 6 0 0 (zQ Θ ρ) σ15_ 72 [(0, .ref (zA Θ 0)), (1, .int (b2i who_a)), (2, .int x3_), (3, .int found13_), (4, .int n14_)] [] := by
      intro h22_
      rw [if_neg h22_] at h12_
      cases h12_
      exact K9_
    refine z_iload C 4 dX12_starves_20 rfl ?_
    refine z_bipush (v := 60) C dX12_starves_22 bp_60 ?_
    refine c_le_f C 72 dX12_starves_24 (by decide) (fun h20_ => ?_) (fun h20_ => ?_)
    · refine z_iload_n C 3 dX12_starves_27 rfl rfl ?_
      refine z_iconst (v := (-1)) C dX12_starves_28 ic_m1 ?_
      refine c_eq_f C 72 dX12_starves_29 (by decide) (fun h21_ => ?_) (fun h21_ => ?_)
      · exact K18_ ⟨h20_, h21_⟩
      · exact K19_ (fun n => h21_ n.2)
    · exact K19_ (fun n => h20_ n.1)
  refine z_aload_n C 0 dX12_starves_72 rfl rfl ?_
  obtain ⟨x45_, h46_, hf⟩ := ob hf
  refine cr12_196 C hkd  h46_ ⟨(Nat.le_of_ble_eq_true rfl), (Nat.le_of_ble_eq_true rfl)⟩ (Nat.le_of_ble_eq_true rfl) ⟨Nat.zero_le _, Nat.zero_le _⟩ dX12_starves_73 ?_
  refine z_iload_n C 3 dX12_starves_76 rfl rfl ?_
  cases hf
  subst hρ
  exact z_iret C dX12_starves_77
theorem c12_starves {l : Launch} {kd : List KD} {w : Wp} {σ : St} {who_a : Bool} (hkd : kd = kdM) (hi : zI kd w) {r : (Int32 × St)} (hf : q12_starves σ who_a = some r) : zM l kd w yX12_starves cX12_starves 6 (some .int) rm12_starves [.ref (w.2.2.1 0), .int (b2i who_a)] σ (some (.int r.1), r.2) := zM_of rfl hi (Nat.le_of_ble_eq_true rfl) (fun Θ hl hw C => by
  obtain ⟨Θ1, Θ2, Θ3, Θ4, Θ5⟩ := Θ
  cases hw
  exact p12_starves C hkd  hf rfl)
/-! LastLoafModel.mayVote -/
theorem dX12_mayVote_0 : decode cX12_mayVote 0 = .ok (.aload_n 0, 1) := by decide +kernel
theorem dX12_mayVote_1 : decode cX12_mayVote 1 = .ok (.getfield 269, 3) := by decide +kernel
theorem dX12_mayVote_4 : decode cX12_mayVote 4 = .ok (.iload_n 2, 1) := by decide +kernel
theorem dX12_mayVote_5 : decode cX12_mayVote 5 = .ok (.invokestatic 275, 3) := by decide +kernel
theorem dX12_mayVote_8 : decode cX12_mayVote 8 = .ok (.ifCond .eq 22, 3) := by decide +kernel
theorem dX12_mayVote_11 : decode cX12_mayVote 11 = .ok (.iload_n 1, 1) := by decide +kernel
theorem dX12_mayVote_12 : decode cX12_mayVote 12 = .ok (.iload_n 2, 1) := by decide +kernel
theorem dX12_mayVote_13 : decode cX12_mayVote 13 = .ok (.if_icmp .eq 13, 3) := by decide +kernel
theorem dX12_mayVote_16 : decode cX12_mayVote 16 = .ok (.aload_n 0, 1) := by decide +kernel
theorem dX12_mayVote_17 : decode cX12_mayVote 17 = .ok (.iload_n 1, 1) := by decide +kernel
theorem dX12_mayVote_18 : decode cX12_mayVote 18 = .ok (.iload_n 2, 1) := by decide +kernel
theorem dX12_mayVote_19 : decode cX12_mayVote 19 = .ok (.invokevirtual 260, 3) := by decide +kernel
theorem dX12_mayVote_22 : decode cX12_mayVote 22 = .ok (.iconst 4, 1) := by decide +kernel
theorem dX12_mayVote_23 : decode cX12_mayVote 23 = .ok (.if_icmp .lt 7, 3) := by decide +kernel
theorem dX12_mayVote_26 : decode cX12_mayVote 26 = .ok (.iconst 1, 1) := by decide +kernel
theorem dX12_mayVote_27 : decode cX12_mayVote 27 = .ok (.goto 4, 3) := by decide +kernel
theorem dX12_mayVote_30 : decode cX12_mayVote 30 = .ok (.iconst 0, 1) := by decide +kernel
theorem dX12_mayVote_31 : decode cX12_mayVote 31 = .ok (.ireturn, 1) := by decide +kernel
def q12_mayVote (σ : St) (p_a : Int32) (o_a : Int32) : Option Bool :=
  Option.bind (Option.bind (if q12_isOf (σ 0 21) o_a = true then (if p_a = o_a then (some true) else (Option.bind (q12_liking σ p_a o_a) fun x10_ =>
  if 4 ≤ x10_ then (some true) else (some false))) else (some false)) fun t6_ =>
  if t6_ = true then (some true) else (some false)) fun x1_ =>
  some x1_
abbrev rm12_mayVote : Room := { frames := 1, cells := 0, slots := 0, locals := 22 }
set_option maxHeartbeats 4000000 in
set_option maxRecDepth 100000 in
theorem p12_mayVote {Θ : Tz} {σ : St} {ρ : Option Value × St} (C : Zc Θ cX12_mayVote 3 RX12 (some .boolean) rm12_mayVote) (hkd : Θ.2.2.2.2.1 = kdM) {p_a : Int32} {o_a : Int32} {r : Bool} (hf : q12_mayVote σ p_a o_a = some r) (hρ : ρ = (some (.int (b2i r)), σ)) : Z Θ 3 0 0 (zQ Θ ρ) σ 0 [(0, .ref (zA Θ 0)), (1, .int p_a), (2, .int o_a)] [] := by
  unfold q12_mayVote at hf
  obtain ⟨x1_, h2_, hf⟩ := ob hf
  suffices K3_ : Z Θ 3 0 0 (zQ Θ ρ) σ 31 [(0, .ref (zA Θ 0)), (1, .int p_a), (2, .int o_a)] [.int (b2i x1_)] by
    obtain ⟨t6_, h7_, h2_⟩ := ob h2_
    have K4_ : t6_ = true → Z Θ 3 0 0 (zQ Θ ρ) σ 26 [(0, .ref (zA Θ 0)), (1, .int p_a), (2, .int o_a)] [] := by
      intro h13_
      rw [if_pos h13_] at h2_
      refine z_iconst (v := 1) C dX12_mayVote_26 ic_1 ?_
      refine z_goto C 31 dX12_mayVote_27 (by decide) ?_
      cases h2_
      exact K3_
    have K5_ : ¬ (t6_ = true) → Z Θ 3 0 0 (zQ Θ ρ) σ 30 [(0, .ref (zA Θ 0)), (1, .int p_a), (2, .int o_a)] [] := by
      intro h13_
      rw [if_neg h13_] at h2_
      refine z_iconst (v := 0) C dX12_mayVote_30 ic_0 ?_
      cases h2_
      exact K3_
    refine z_aload_n C 0 dX12_mayVote_0 rfl rfl ?_
    refine fg12_269 C hkd dX12_mayVote_1 ?_
    refine z_iload_n C 2 dX12_mayVote_4 rfl rfl ?_
    refine cr12_275 (set_a := (σ 0 21)) (k_a := o_a) C hkd  ⟨(Nat.le_of_ble_eq_true rfl), (Nat.le_of_ble_eq_true rfl)⟩ (Nat.le_of_ble_eq_true rfl) ⟨Nat.zero_le _, Nat.zero_le _⟩ dX12_mayVote_5 ?_
    refine cb_f C 30 dX12_mayVote_8 (by decide) (fun h8_ => ?_) (fun h8_ => ?_)
    · rw [if_pos h8_] at h7_
      refine z_iload_n C 1 dX12_mayVote_11 rfl rfl ?_
      refine z_iload_n C 2 dX12_mayVote_12 rfl rfl ?_
      refine c_eq_t C 26 dX12_mayVote_13 (by decide) (fun h9_ => ?_) (fun h9_ => ?_)
      · rw [if_pos h9_] at h7_
        cases h7_
        exact K4_ rfl
      · rw [if_neg h9_] at h7_
        refine z_aload_n C 0 dX12_mayVote_16 rfl rfl ?_
        refine z_iload_n C 1 dX12_mayVote_17 rfl rfl ?_
        refine z_iload_n C 2 dX12_mayVote_18 rfl rfl ?_
        obtain ⟨x10_, h11_, h7_⟩ := ob h7_
        refine cr12_260 (p_a := p_a) (o_a := o_a) C hkd  h11_ ⟨(Nat.le_of_ble_eq_true rfl), (Nat.le_of_ble_eq_true rfl)⟩ (Nat.le_of_ble_eq_true rfl) ⟨Nat.zero_le _, Nat.zero_le _⟩ dX12_mayVote_19 ?_
        refine z_iconst (v := 4) C dX12_mayVote_22 ic_4 ?_
        refine c_ge_f C 30 dX12_mayVote_23 (by decide) (fun h12_ => ?_) (fun h12_ => ?_)
        · rw [if_pos h12_] at h7_
          cases h7_
          exact K4_ rfl
        · rw [if_neg h12_] at h7_
          cases h7_
          exact K5_ Bool.false_ne_true
    · rw [if_neg h8_] at h7_
      cases h7_
      exact K5_ Bool.false_ne_true
  cases hf
  subst hρ
  exact z_zret C (b2i_narrow _) dX12_mayVote_31
theorem c12_mayVote {l : Launch} {kd : List KD} {w : Wp} {σ : St} {p_a : Int32} {o_a : Int32} (hkd : kd = kdM) (hi : zI kd w) {r : Bool} (hf : q12_mayVote σ p_a o_a = some r) : zM l kd w yX12_mayVote cX12_mayVote 3 (some .boolean) rm12_mayVote [.ref (w.2.2.1 0), .int p_a, .int o_a] σ (some (.int (b2i r)), σ) := zM_of rfl hi (Nat.le_of_ble_eq_true rfl) (fun Θ hl hw C => by
  obtain ⟨Θ1, Θ2, Θ3, Θ4, Θ5⟩ := Θ
  cases hw
  exact p12_mayVote C hkd  hf rfl)
/-! LastLoafModel.adds -/
theorem w_8_59 : Cond.fieldLink "LastLoafModel" (407 : Nat) "LastLoafModel" "ways" "I" ∈ TB := tb_in (lwt_8 (List.mem_of_getElem? (i := 59) (by decide +kernel))) rfl
theorem fg12_407 {Θ : Tz} {cc : ByteArray} {nL kc ks : Nat} {ret : Option FieldType} {rm : Room} {Q : State → Prop} {σ : St} {pc : Nat} {lv : List (Nat × Value)} {st : List Value} (C : Zc Θ cc nL RX12 ret rm) (hkd : Θ.2.2.2.2.1 = kdM) (hd : decode cc pc = .ok (.getfield 407, 3)) (kk : Z Θ nL kc ks Q σ (pc + 3) lv (.int (σ 0 32) :: st)) : Z Θ nL kc ks Q σ pc lv (.ref (zA Θ 0) :: st) := z_get C inT12 0 (kM_0 hkd) rfl 32 (by decide) w_8_59 rfl hd kk
theorem fp12_407 {Θ : Tz} {cc : ByteArray} {nL kc ks : Nat} {ret : Option FieldType} {rm : Room} {Q : State → Prop} {σ : St} {pc : Nat} {lv : List (Nat × Value)} {st : List Value} (C : Zc Θ cc nL RX12 ret rm) (hkd : Θ.2.2.2.2.1 = kdM) {x : Int32} {σ1 : St} (he : σ1 = up σ 0 32 x) (hd : decode cc pc = .ok (.putfield 407, 3)) (kk : Z Θ nL kc ks Q σ1 (pc + 3) lv st) : Z Θ nL kc ks Q σ pc lv (.int x :: .ref (zA Θ 0) :: st) := by subst he; exact z_put C inT12 tyX12_ok nmX12 0 (kM_0 hkd) rfl 32 (by decide) w_8_59 rfl rfl rfl rfl hd kk
theorem w_8_55 : Cond.fieldLink "LastLoafModel" (53 : Nat) "LastLoafModel" "voted" "[I" ∈ TB := tb_in (lwt_8 (List.mem_of_getElem? (i := 55) (by decide +kernel))) rfl
theorem fg12_53 {Θ : Tz} {cc : ByteArray} {nL kc ks : Nat} {ret : Option FieldType} {rm : Room} {Q : State → Prop} {σ : St} {pc : Nat} {lv : List (Nat × Value)} {st : List Value} (C : Zc Θ cc nL RX12 ret rm) (hkd : Θ.2.2.2.2.1 = kdM) (hd : decode cc pc = .ok (.getfield 53, 3)) (kk : Z Θ nL kc ks Q σ (pc + 3) lv (.ref (zA Θ 14) :: st)) : Z Θ nL kc ks Q σ pc lv (.ref (zA Θ 0) :: st) := z_get C inT12 0 (kM_0 hkd) rfl 28 (by decide) w_8_55 rfl hd kk
theorem dX12_adds_0 : decode cX12_adds 0 = .ok (.aload_n 0, 1) := by decide +kernel
theorem dX12_adds_1 : decode cX12_adds 1 = .ok (.dup, 1) := by decide +kernel
theorem dX12_adds_2 : decode cX12_adds 2 = .ok (.getfield 407, 3) := by decide +kernel
theorem dX12_adds_5 : decode cX12_adds 5 = .ok (.iconst 1, 1) := by decide +kernel
theorem dX12_adds_6 : decode cX12_adds 6 = .ok (.iadd, 1) := by decide +kernel
theorem dX12_adds_7 : decode cX12_adds 7 = .ok (.putfield 407, 3) := by decide +kernel
theorem dX12_adds_10 : decode cX12_adds 10 = .ok (.iconst 0, 1) := by decide +kernel
theorem dX12_adds_11 : decode cX12_adds 11 = .ok (.istore_n 1, 1) := by decide +kernel
theorem dX12_adds_12 : decode cX12_adds 12 = .ok (.iload_n 1, 1) := by decide +kernel
theorem dX12_adds_13 : decode cX12_adds 13 = .ok (.aload_n 0, 1) := by decide +kernel
theorem dX12_adds_14 : decode cX12_adds 14 = .ok (.getfield 7, 3) := by decide +kernel
theorem dX12_adds_17 : decode cX12_adds 17 = .ok (.iconst 3, 1) := by decide +kernel
theorem dX12_adds_18 : decode cX12_adds 18 = .ok (.iaload, 1) := by decide +kernel
theorem dX12_adds_19 : decode cX12_adds 19 = .ok (.if_icmp .ge 40, 3) := by decide +kernel
theorem dX12_adds_22 : decode cX12_adds 22 = .ok (.aload_n 0, 1) := by decide +kernel
theorem dX12_adds_23 : decode cX12_adds 23 = .ok (.getfield 263, 3) := by decide +kernel
theorem dX12_adds_26 : decode cX12_adds 26 = .ok (.iload_n 1, 1) := by decide +kernel
theorem dX12_adds_27 : decode cX12_adds 27 = .ok (.invokestatic 275, 3) := by decide +kernel
theorem dX12_adds_30 : decode cX12_adds 30 = .ok (.ifCond .eq 23, 3) := by decide +kernel
theorem dX12_adds_33 : decode cX12_adds 33 = .ok (.aload_n 0, 1) := by decide +kernel
theorem dX12_adds_34 : decode cX12_adds 34 = .ok (.getfield 53, 3) := by decide +kernel
theorem dX12_adds_37 : decode cX12_adds 37 = .ok (.bipush 7, 2) := by decide +kernel
theorem dX12_adds_39 : decode cX12_adds 39 = .ok (.iload_n 1, 1) := by decide +kernel
theorem dX12_adds_40 : decode cX12_adds 40 = .ok (.imul, 1) := by decide +kernel
theorem dX12_adds_41 : decode cX12_adds 41 = .ok (.aload_n 0, 1) := by decide +kernel
theorem dX12_adds_42 : decode cX12_adds 42 = .ok (.getfield 35, 3) := by decide +kernel
theorem dX12_adds_45 : decode cX12_adds 45 = .ok (.iload_n 1, 1) := by decide +kernel
theorem dX12_adds_46 : decode cX12_adds 46 = .ok (.iaload, 1) := by decide +kernel
theorem dX12_adds_47 : decode cX12_adds 47 = .ok (.iadd, 1) := by decide +kernel
theorem dX12_adds_48 : decode cX12_adds 48 = .ok (.dup2, 1) := by decide +kernel
theorem dX12_adds_49 : decode cX12_adds 49 = .ok (.iaload, 1) := by decide +kernel
theorem dX12_adds_50 : decode cX12_adds 50 = .ok (.iconst 1, 1) := by decide +kernel
theorem dX12_adds_51 : decode cX12_adds 51 = .ok (.iadd, 1) := by decide +kernel
theorem dX12_adds_52 : decode cX12_adds 52 = .ok (.iastore, 1) := by decide +kernel
theorem dX12_adds_53 : decode cX12_adds 53 = .ok (.iinc 1 1, 3) := by decide +kernel
theorem dX12_adds_56 : decode cX12_adds 56 = .ok (.goto (-44), 3) := by decide +kernel
theorem dX12_adds_59 : decode cX12_adds 59 = .ok (.return_, 1) := by decide +kernel
def q12_adds (σ : St) : Option St :=
  lt (up σ 0 32 ((σ 0 32) + 1)) fun σ1_ =>
  Option.bind (loop2 (fun rec6_ (p9_ : Int32) (σ10_ : St) =>
  Option.bind (ag σ10_ 1 752 3) fun x15_ =>
  if p9_ < x15_ then
  Option.bind (if q12_isOf (σ10_ 0 20) p9_ = true then (Option.bind (ag σ10_ 8 7 p9_) fun x26_ =>
  Option.bind (ag σ10_ 14 49 ((7 * p9_) + x26_)) fun x28_ =>
  Option.bind (sa σ10_ 14 49 ((7 * p9_) + x26_) (x28_ + 1)) fun σ30_ =>
  some (σ30_)) else (some (σ10_))) fun y19_ =>
  lt (p9_ + 1) fun p32_ =>
  rec6_ p32_ y19_
  else (some (p9_, σ10_))) fuelN (0 : Int32) σ1_) fun y3_ =>
  some y3_.2
abbrev rm12_adds : Room := { frames := 1, cells := 0, slots := 0, locals := 21 }
set_option maxHeartbeats 4000000 in
set_option maxRecDepth 100000 in
theorem p12_adds {Θ : Tz} {σ : St} {ρ : Option Value × St} (C : Zc Θ cX12_adds 2 RX12 none rm12_adds) (hkd : Θ.2.2.2.2.1 = kdM) {r : St} (hf : q12_adds σ = some r) (hρ : ρ = (none, r)) : Z Θ 2 0 0 (zQ Θ ρ) σ 0 [(0, .ref (zA Θ 0))] [] := by
  unfold q12_adds at hf
  refine z_aload_n C 0 dX12_adds_0 rfl rfl ?_
  refine z_dup C dX12_adds_1 rfl ?_
  refine fg12_407 C hkd dX12_adds_2 ?_
  refine z_iconst (v := 1) C dX12_adds_5 ic_1 ?_
  refine z_iadd C dX12_adds_6 ?_
  obtain ⟨σ1_, h2_, hf⟩ := lt_ hf
  refine fp12_407 C hkd h2_ dX12_adds_7 ?_
  refine z_iconst (v := 0) C dX12_adds_10 ic_0 ?_
  refine z_istN C dX12_adds_11 rfl rfl (Nat.le_of_ble_eq_true rfl) rfl ?_
  refine Z.sub [1, 0] rfl ?_
  obtain ⟨y3_, h4_, hf⟩ := ob hf
  suffices K5_ : Z Θ 2 0 0 (zQ Θ ρ) y3_.2 59 [(0, .ref (zA Θ 0)), (1, .int y3_.1)] [] by
    refine loop2_Z (P := fun (p9_ : Int32) (σ10_ : St) => Z Θ 2 0 0 (zQ Θ ρ) σ10_ 12 [(0, .ref (zA Θ 0)), (1, .int p9_)] []) ?_ fuelN (0 : Int32) σ1_ h4_
    clear h4_
    intro rec6_ p9_ σ10_ h7_ h8_
    refine z_iload_n C 1 dX12_adds_12 rfl rfl ?_
    refine z_aload_n C 0 dX12_adds_13 rfl rfl ?_
    refine fg12_7 C hkd dX12_adds_14 ?_
    refine z_iconst (v := 3) C dX12_adds_17 ic_3 ?_
    obtain ⟨x15_, h16_, h8_⟩ := ob h8_
    refine z_ag C h16_ (kM_1 hkd) dX12_adds_18 ?_
    have K13_ : p9_ < x15_ → Z Θ 2 0 0 (zQ Θ ρ) σ10_ 22 [(0, .ref (zA Θ 0)), (1, .int p9_)] [] := by
      intro h18_
      rw [if_pos h18_] at h8_
      obtain ⟨y19_, h20_, h8_⟩ := ob h8_
      suffices K21_ : Z Θ 2 0 0 (zQ Θ ρ) y19_ 53 [(0, .ref (zA Θ 0)), (1, .int p9_)] [] by
        have K22_ : q12_isOf (σ10_ 0 20) p9_ = true → Z Θ 2 0 0 (zQ Θ ρ) σ10_ 33 [(0, .ref (zA Θ 0)), (1, .int p9_)] [] := by
          intro h25_
          rw [if_pos h25_] at h20_
          refine z_aload_n C 0 dX12_adds_33 rfl rfl ?_
          refine fg12_53 C hkd dX12_adds_34 ?_
          refine z_bipush (v := 7) C dX12_adds_37 bp_7 ?_
          refine z_iload_n C 1 dX12_adds_39 rfl rfl ?_
          refine z_imul C dX12_adds_40 ?_
          refine z_aload_n C 0 dX12_adds_41 rfl rfl ?_
          refine fg12_35 C hkd dX12_adds_42 ?_
          refine z_iload_n C 1 dX12_adds_45 rfl rfl ?_
          obtain ⟨x26_, h27_, h20_⟩ := ob h20_
          refine z_ag C h27_ (kM_8 hkd) dX12_adds_46 ?_
          refine z_iadd C dX12_adds_47 ?_
          refine z_dup2 C dX12_adds_48 rfl rfl ?_
          obtain ⟨x28_, h29_, h20_⟩ := ob h20_
          refine z_ag C h29_ (kM_14 hkd) dX12_adds_49 ?_
          refine z_iconst (v := 1) C dX12_adds_50 ic_1 ?_
          refine z_iadd C dX12_adds_51 ?_
          obtain ⟨σ30_, h31_, h20_⟩ := ob h20_
          refine z_sa C h31_ (kM_14 hkd) dX12_adds_52 ?_
          cases h20_
          exact K21_
        have K23_ : ¬ (q12_isOf (σ10_ 0 20) p9_ = true) → Z Θ 2 0 0 (zQ Θ ρ) σ10_ 53 [(0, .ref (zA Θ 0)), (1, .int p9_)] [] := by
          intro h25_
          rw [if_neg h25_] at h20_
          cases h20_
          exact K21_
        refine z_aload_n C 0 dX12_adds_22 rfl rfl ?_
        refine fg12_263 C hkd dX12_adds_23 ?_
        refine z_iload_n C 1 dX12_adds_26 rfl rfl ?_
        refine cr12_275 (set_a := (σ10_ 0 20)) (k_a := p9_) C hkd  ⟨(Nat.le_of_ble_eq_true rfl), (Nat.le_of_ble_eq_true rfl)⟩ (Nat.le_of_ble_eq_true rfl) ⟨Nat.zero_le _, Nat.zero_le _⟩ dX12_adds_27 ?_
        refine cb_f C 53 dX12_adds_30 (by decide) (fun h24_ => ?_) (fun h24_ => ?_)
        · exact K22_ h24_
        · exact K23_ h24_
      obtain ⟨p32_, h33_, h8_⟩ := lt_ h8_
      refine z_inc C 1 dX12_adds_53 rfl ic_1 h33_ (Nat.le_of_ble_eq_true rfl) rfl ?_
      refine z_goto C 12 dX12_adds_56 (by decide) ?_
      refine Z.sub [1, 0] rfl ?_
      exact h7_ _ _ h8_
    have K14_ : ¬ (p9_ < x15_) → Z Θ 2 0 0 (zQ Θ ρ) σ10_ 59 [(0, .ref (zA Θ 0)), (1, .int p9_)] [] := by
      intro h18_
      rw [if_neg h18_] at h8_
      cases h8_
      exact K5_
    refine c_lt_f C 59 dX12_adds_19 (by decide) (fun h17_ => ?_) (fun h17_ => ?_)
    · exact K13_ h17_
    · exact K14_ h17_
  cases hf
  subst hρ
  exact z_vret C dX12_adds_59
theorem c12_adds {l : Launch} {kd : List KD} {w : Wp} {σ : St} (hkd : kd = kdM) (hi : zI kd w) {r : St} (hf : q12_adds σ = some r) : zM l kd w yX12_adds cX12_adds 2 none rm12_adds [.ref (w.2.2.1 0)] σ (none, r) := zM_of rfl hi (Nat.le_of_ble_eq_true rfl) (fun Θ hl hw C => by
  obtain ⟨Θ1, Θ2, Θ3, Θ4, Θ5⟩ := Θ
  cases hw
  exact p12_adds C hkd  hf rfl)
/-! LastLoafModel.fitsBallot -/
theorem w_8_56 : Cond.fieldLink "LastLoafModel" (56 : Nat) "LastLoafModel" "told" "[I" ∈ TB := tb_in (lwt_8 (List.mem_of_getElem? (i := 56) (by decide +kernel))) rfl
theorem fg12_56 {Θ : Tz} {cc : ByteArray} {nL kc ks : Nat} {ret : Option FieldType} {rm : Room} {Q : State → Prop} {σ : St} {pc : Nat} {lv : List (Nat × Value)} {st : List Value} (C : Zc Θ cc nL RX12 ret rm) (hkd : Θ.2.2.2.2.1 = kdM) (hd : decode cc pc = .ok (.getfield 56, 3)) (kk : Z Θ nL kc ks Q σ (pc + 3) lv (.ref (zA Θ 15) :: st)) : Z Θ nL kc ks Q σ pc lv (.ref (zA Θ 0) :: st) := z_get C inT12 0 (kM_0 hkd) rfl 29 (by decide) w_8_56 rfl hd kk
theorem w_10_106 : Cond.code ({ cls := "LastLoafModel", name := "mayVote", desc := "(II)Z" } : MethodName) prog_14_method_105_code (3 : Nat) (Option.some ClassFile.FieldType.boolean) ∈ TB := tb_in (lwt_10 (List.mem_of_getElem? (i := 106) (by decide +kernel))) rfl
theorem w_10_103 : Cond.methodLink "LastLoafModel" (416 : Nat) ({ cls := "LastLoafModel", name := "mayVote", desc := "(II)Z" } : MethodName) ∈ TB := tb_in (lwt_10 (List.mem_of_getElem? (i := 103) (by decide +kernel))) rfl
theorem w_10_105 : Cond.instanceMethod ({ cls := "LastLoafModel", name := "mayVote", desc := "(II)Z" } : MethodName) ∈ TB := tb_in (lwt_10 (List.mem_of_getElem? (i := 105) (by decide +kernel))) rfl
theorem ws_LastLoafModel_mayVote_II_Z : Cond.selects "LastLoafModel" (⟨"LastLoafModel", "mayVote", "(II)Z"⟩ : MethodName) (⟨"LastLoafModel", "mayVote", "(II)Z"⟩ : MethodName) ∈ TB := tb_in (List.mem_append_left _ (List.mem_of_getElem? (i := 85) (by decide +kernel))) rfl
theorem cr12_416 {Θ : Tz} {cc : ByteArray} {nL kc ks : Nat} {ret : Option FieldType} {rm : Room} {Q : State → Prop} {σ : St} {pc : Nat} {lv : List (Nat × Value)} {st : List Value} (C : Zc Θ cc nL RX12 ret rm) (hkd : Θ.2.2.2.2.1 = kdM) {p_a : Int32} {o_a : Int32} {r : Bool} (hx : q12_mayVote σ p_a o_a = some r) (hrm : rm12_mayVote.frames + 1 ≤ rm.frames ∧ 8 + (3 + 11) + rm12_mayVote.locals ≤ rm.locals) (hcat : (st.map fun v => v.category).sum ≤ 8) (hk : kc ≤ rm.cells ∧ ks ≤ rm.slots) (hd : decode cc pc = .ok (.invokevirtual 416, 3)) (kk : Z Θ nL kc ks Q σ (pc + 3) lv (.int (b2i r) :: st)) : Z Θ nL kc ks Q σ pc lv (.int o_a :: .int p_a :: .ref (zA Θ 0) :: st) := z_callV C 0 [.int p_a, .int o_a] (some (.int (b2i r)), σ) 2 (kM_0 hkd) rfl (c12_mayVote (p_a := p_a) (o_a := o_a) hkd (zc_inj C) hx) w_10_106 w_10_103 w_10_105 ws_LastLoafModel_mayVote_II_Z w_1_14 ⟨rfl, rfl, hrm.1, hrm.2⟩ (by decide +kernel) rfl rfl hcat hk hd kk
theorem dX12_fitsBallot_0 : decode cX12_fitsBallot 0 = .ok (.iload_n 1, 1) := by decide +kernel
theorem dX12_fitsBallot_1 : decode cX12_fitsBallot 1 = .ok (.istore_n 3, 1) := by decide +kernel
theorem dX12_fitsBallot_2 : decode cX12_fitsBallot 2 = .ok (.iconst 1, 1) := by decide +kernel
theorem dX12_fitsBallot_3 : decode cX12_fitsBallot 3 = .ok (.istore 4, 2) := by decide +kernel
theorem dX12_fitsBallot_5 : decode cX12_fitsBallot 5 = .ok (.iconst 0, 1) := by decide +kernel
theorem dX12_fitsBallot_6 : decode cX12_fitsBallot 6 = .ok (.istore 5, 2) := by decide +kernel
theorem dX12_fitsBallot_8 : decode cX12_fitsBallot 8 = .ok (.iload 5, 2) := by decide +kernel
theorem dX12_fitsBallot_10 : decode cX12_fitsBallot 10 = .ok (.bipush 7, 2) := by decide +kernel
theorem dX12_fitsBallot_12 : decode cX12_fitsBallot 12 = .ok (.if_icmp .ge 17, 3) := by decide +kernel
theorem dX12_fitsBallot_15 : decode cX12_fitsBallot 15 = .ok (.aload_n 0, 1) := by decide +kernel
theorem dX12_fitsBallot_16 : decode cX12_fitsBallot 16 = .ok (.getfield 56, 3) := by decide +kernel
theorem dX12_fitsBallot_19 : decode cX12_fitsBallot 19 = .ok (.iload 5, 2) := by decide +kernel
theorem dX12_fitsBallot_21 : decode cX12_fitsBallot 21 = .ok (.iconst 0, 1) := by decide +kernel
theorem dX12_fitsBallot_22 : decode cX12_fitsBallot 22 = .ok (.iastore, 1) := by decide +kernel
theorem dX12_fitsBallot_23 : decode cX12_fitsBallot 23 = .ok (.iinc 5 1, 3) := by decide +kernel
theorem dX12_fitsBallot_26 : decode cX12_fitsBallot 26 = .ok (.goto (-18), 3) := by decide +kernel
theorem dX12_fitsBallot_29 : decode cX12_fitsBallot 29 = .ok (.iconst 0, 1) := by decide +kernel
theorem dX12_fitsBallot_30 : decode cX12_fitsBallot 30 = .ok (.istore 5, 2) := by decide +kernel
theorem dX12_fitsBallot_32 : decode cX12_fitsBallot 32 = .ok (.iload 5, 2) := by decide +kernel
theorem dX12_fitsBallot_34 : decode cX12_fitsBallot 34 = .ok (.aload_n 0, 1) := by decide +kernel
theorem dX12_fitsBallot_35 : decode cX12_fitsBallot 35 = .ok (.getfield 7, 3) := by decide +kernel
theorem dX12_fitsBallot_38 : decode cX12_fitsBallot 38 = .ok (.iconst 3, 1) := by decide +kernel
theorem dX12_fitsBallot_39 : decode cX12_fitsBallot 39 = .ok (.iaload, 1) := by decide +kernel
theorem dX12_fitsBallot_40 : decode cX12_fitsBallot 40 = .ok (.if_icmp .ge 84, 3) := by decide +kernel
theorem dX12_fitsBallot_43 : decode cX12_fitsBallot 43 = .ok (.iload 4, 2) := by decide +kernel
theorem dX12_fitsBallot_45 : decode cX12_fitsBallot 45 = .ok (.ifCond .eq 79, 3) := by decide +kernel
theorem dX12_fitsBallot_48 : decode cX12_fitsBallot 48 = .ok (.aload_n 0, 1) := by decide +kernel
theorem dX12_fitsBallot_49 : decode cX12_fitsBallot 49 = .ok (.getfield 263, 3) := by decide +kernel
theorem dX12_fitsBallot_52 : decode cX12_fitsBallot 52 = .ok (.iload 5, 2) := by decide +kernel
theorem dX12_fitsBallot_54 : decode cX12_fitsBallot 54 = .ok (.invokestatic 275, 3) := by decide +kernel
theorem dX12_fitsBallot_57 : decode cX12_fitsBallot 57 = .ok (.ifCond .ne 6, 3) := by decide +kernel
theorem dX12_fitsBallot_60 : decode cX12_fitsBallot 60 = .ok (.goto 58, 3) := by decide +kernel
theorem dX12_fitsBallot_63 : decode cX12_fitsBallot 63 = .ok (.aload_n 0, 1) := by decide +kernel
theorem dX12_fitsBallot_64 : decode cX12_fitsBallot 64 = .ok (.getfield 35, 3) := by decide +kernel
theorem dX12_fitsBallot_67 : decode cX12_fitsBallot 67 = .ok (.iload 5, 2) := by decide +kernel
theorem dX12_fitsBallot_69 : decode cX12_fitsBallot 69 = .ok (.iload_n 3, 1) := by decide +kernel
theorem dX12_fitsBallot_70 : decode cX12_fitsBallot 70 = .ok (.aload_n 0, 1) := by decide +kernel
theorem dX12_fitsBallot_71 : decode cX12_fitsBallot 71 = .ok (.getfield 7, 3) := by decide +kernel
theorem dX12_fitsBallot_74 : decode cX12_fitsBallot 74 = .ok (.iconst 3, 1) := by decide +kernel
theorem dX12_fitsBallot_75 : decode cX12_fitsBallot 75 = .ok (.iaload, 1) := by decide +kernel
theorem dX12_fitsBallot_76 : decode cX12_fitsBallot 76 = .ok (.irem, 1) := by decide +kernel
theorem dX12_fitsBallot_77 : decode cX12_fitsBallot 77 = .ok (.iastore, 1) := by decide +kernel
theorem dX12_fitsBallot_78 : decode cX12_fitsBallot 78 = .ok (.iload_n 3, 1) := by decide +kernel
theorem dX12_fitsBallot_79 : decode cX12_fitsBallot 79 = .ok (.aload_n 0, 1) := by decide +kernel
theorem dX12_fitsBallot_80 : decode cX12_fitsBallot 80 = .ok (.getfield 7, 3) := by decide +kernel
theorem dX12_fitsBallot_83 : decode cX12_fitsBallot 83 = .ok (.iconst 3, 1) := by decide +kernel
theorem dX12_fitsBallot_84 : decode cX12_fitsBallot 84 = .ok (.iaload, 1) := by decide +kernel
theorem dX12_fitsBallot_85 : decode cX12_fitsBallot 85 = .ok (.idiv, 1) := by decide +kernel
theorem dX12_fitsBallot_86 : decode cX12_fitsBallot 86 = .ok (.istore_n 3, 1) := by decide +kernel
theorem dX12_fitsBallot_87 : decode cX12_fitsBallot 87 = .ok (.aload_n 0, 1) := by decide +kernel
theorem dX12_fitsBallot_88 : decode cX12_fitsBallot 88 = .ok (.iload 5, 2) := by decide +kernel
theorem dX12_fitsBallot_90 : decode cX12_fitsBallot 90 = .ok (.aload_n 0, 1) := by decide +kernel
theorem dX12_fitsBallot_91 : decode cX12_fitsBallot 91 = .ok (.getfield 35, 3) := by decide +kernel
theorem dX12_fitsBallot_94 : decode cX12_fitsBallot 94 = .ok (.iload 5, 2) := by decide +kernel
theorem dX12_fitsBallot_96 : decode cX12_fitsBallot 96 = .ok (.iaload, 1) := by decide +kernel
theorem dX12_fitsBallot_97 : decode cX12_fitsBallot 97 = .ok (.invokevirtual 416, 3) := by decide +kernel
theorem dX12_fitsBallot_100 : decode cX12_fitsBallot 100 = .ok (.istore 4, 2) := by decide +kernel
theorem dX12_fitsBallot_102 : decode cX12_fitsBallot 102 = .ok (.aload_n 0, 1) := by decide +kernel
theorem dX12_fitsBallot_103 : decode cX12_fitsBallot 103 = .ok (.getfield 56, 3) := by decide +kernel
theorem dX12_fitsBallot_106 : decode cX12_fitsBallot 106 = .ok (.aload_n 0, 1) := by decide +kernel
theorem dX12_fitsBallot_107 : decode cX12_fitsBallot 107 = .ok (.getfield 35, 3) := by decide +kernel
theorem dX12_fitsBallot_110 : decode cX12_fitsBallot 110 = .ok (.iload 5, 2) := by decide +kernel
theorem dX12_fitsBallot_112 : decode cX12_fitsBallot 112 = .ok (.iaload, 1) := by decide +kernel
theorem dX12_fitsBallot_113 : decode cX12_fitsBallot 113 = .ok (.dup2, 1) := by decide +kernel
theorem dX12_fitsBallot_114 : decode cX12_fitsBallot 114 = .ok (.iaload, 1) := by decide +kernel
theorem dX12_fitsBallot_115 : decode cX12_fitsBallot 115 = .ok (.iconst 1, 1) := by decide +kernel
theorem dX12_fitsBallot_116 : decode cX12_fitsBallot 116 = .ok (.iadd, 1) := by decide +kernel
theorem dX12_fitsBallot_117 : decode cX12_fitsBallot 117 = .ok (.iastore, 1) := by decide +kernel
theorem dX12_fitsBallot_118 : decode cX12_fitsBallot 118 = .ok (.iinc 5 1, 3) := by decide +kernel
theorem dX12_fitsBallot_121 : decode cX12_fitsBallot 121 = .ok (.goto (-89), 3) := by decide +kernel
theorem dX12_fitsBallot_124 : decode cX12_fitsBallot 124 = .ok (.iconst 0, 1) := by decide +kernel
theorem dX12_fitsBallot_125 : decode cX12_fitsBallot 125 = .ok (.istore 5, 2) := by decide +kernel
theorem dX12_fitsBallot_127 : decode cX12_fitsBallot 127 = .ok (.iload 5, 2) := by decide +kernel
theorem dX12_fitsBallot_129 : decode cX12_fitsBallot 129 = .ok (.iload_n 2, 1) := by decide +kernel
theorem dX12_fitsBallot_130 : decode cX12_fitsBallot 130 = .ok (.if_icmp .ge 45, 3) := by decide +kernel
theorem dX12_fitsBallot_133 : decode cX12_fitsBallot 133 = .ok (.iload 4, 2) := by decide +kernel
theorem dX12_fitsBallot_135 : decode cX12_fitsBallot 135 = .ok (.ifCond .eq 40, 3) := by decide +kernel
theorem dX12_fitsBallot_138 : decode cX12_fitsBallot 138 = .ok (.aload_n 0, 1) := by decide +kernel
theorem dX12_fitsBallot_139 : decode cX12_fitsBallot 139 = .ok (.getfield 56, 3) := by decide +kernel
theorem dX12_fitsBallot_142 : decode cX12_fitsBallot 142 = .ok (.aload_n 0, 1) := by decide +kernel
theorem dX12_fitsBallot_143 : decode cX12_fitsBallot 143 = .ok (.getfield 22, 3) := by decide +kernel
theorem dX12_fitsBallot_146 : decode cX12_fitsBallot 146 = .ok (.iload 5, 2) := by decide +kernel
theorem dX12_fitsBallot_148 : decode cX12_fitsBallot 148 = .ok (.iaload, 1) := by decide +kernel
theorem dX12_fitsBallot_149 : decode cX12_fitsBallot 149 = .ok (.iaload, 1) := by decide +kernel
theorem dX12_fitsBallot_150 : decode cX12_fitsBallot 150 = .ok (.aload_n 0, 1) := by decide +kernel
theorem dX12_fitsBallot_151 : decode cX12_fitsBallot 151 = .ok (.getfield 22, 3) := by decide +kernel
theorem dX12_fitsBallot_154 : decode cX12_fitsBallot 154 = .ok (.iload 5, 2) := by decide +kernel
theorem dX12_fitsBallot_156 : decode cX12_fitsBallot 156 = .ok (.iconst 1, 1) := by decide +kernel
theorem dX12_fitsBallot_157 : decode cX12_fitsBallot 157 = .ok (.iadd, 1) := by decide +kernel
theorem dX12_fitsBallot_158 : decode cX12_fitsBallot 158 = .ok (.iaload, 1) := by decide +kernel
theorem dX12_fitsBallot_159 : decode cX12_fitsBallot 159 = .ok (.if_icmp .ne 7, 3) := by decide +kernel
theorem dX12_fitsBallot_162 : decode cX12_fitsBallot 162 = .ok (.iconst 1, 1) := by decide +kernel
theorem dX12_fitsBallot_163 : decode cX12_fitsBallot 163 = .ok (.goto 4, 3) := by decide +kernel
theorem dX12_fitsBallot_166 : decode cX12_fitsBallot 166 = .ok (.iconst 0, 1) := by decide +kernel
theorem dX12_fitsBallot_167 : decode cX12_fitsBallot 167 = .ok (.istore 4, 2) := by decide +kernel
theorem dX12_fitsBallot_169 : decode cX12_fitsBallot 169 = .ok (.iinc 5 2, 3) := by decide +kernel
theorem dX12_fitsBallot_172 : decode cX12_fitsBallot 172 = .ok (.goto (-45), 3) := by decide +kernel
theorem dX12_fitsBallot_175 : decode cX12_fitsBallot 175 = .ok (.iload 4, 2) := by decide +kernel
theorem dX12_fitsBallot_177 : decode cX12_fitsBallot 177 = .ok (.ireturn, 1) := by decide +kernel
def q12_fitsBallot (σ : St) (code_a : Int32) (n_a : Int32) : Option (Bool × St) :=
  Option.bind (loop2 (fun rec4_ (k7_ : Int32) (σ8_ : St) =>
  if k7_ < 7 then
  Option.bind (sa σ8_ 15 7 k7_ 0) fun σ15_ =>
  lt (k7_ + 1) fun k17_ =>
  rec4_ k17_ σ15_
  else (some (k7_, σ8_))) fuelN (0 : Int32) σ) fun y1_ =>
  Option.bind (loop4 (fun rec22_ (v25_ : Int32) (fits26_ : Bool) (p27_ : Int32) (σ28_ : St) =>
  Option.bind (ag σ28_ 1 752 3) fun x33_ =>
  if (p27_ < x33_) ∧ (fits26_ = true) then
  lt (fun (v62_ : Int32) (fits63_ : Bool) (p64_ : Int32) (σ65_ : St) =>
  lt (p64_ + 1) fun p67_ =>
  rec22_ v62_ fits63_ p67_ σ65_) fun k30_ =>
  if ¬ (q12_isOf (σ28_ 0 20) p27_ = true) then (k30_ v25_ fits26_ p27_ σ28_) else
  Option.bind (ag σ28_ 1 752 3) fun x42_ =>
  Option.bind (rmd v25_ x42_) fun x44_ =>
  Option.bind (sa σ28_ 8 7 p27_ x44_) fun σ46_ =>
  Option.bind (ag σ46_ 1 752 3) fun x48_ =>
  Option.bind (dv v25_ x48_) fun x50_ =>
  Option.bind (ag σ46_ 8 7 p27_) fun x52_ =>
  Option.bind (q12_mayVote σ46_ p27_ x52_) fun x54_ =>
  Option.bind (ag σ46_ 8 7 p27_) fun x56_ =>
  Option.bind (ag σ46_ 15 7 x56_) fun x58_ =>
  Option.bind (sa σ46_ 15 7 x56_ (x58_ + 1)) fun σ60_ =>
  k30_ x50_ x54_ p27_ σ60_
  else (some (v25_, fits26_, p27_, σ28_))) fuelN code_a true (0 : Int32) y1_.2) fun y19_ =>
  Option.bind (loop2 (fun rec72_ (fits75_ : Bool) (k76_ : Int32) =>
  if (k76_ < n_a) ∧ (fits75_ = true) then
  Option.bind (Option.bind (ag y19_.2.2.2 5 400 k76_) fun x89_ =>
  Option.bind (ag y19_.2.2.2 15 7 x89_) fun x91_ =>
  Option.bind (ag y19_.2.2.2 5 400 (k76_ + 1)) fun x93_ =>
  if x91_ = x93_ then (some true) else (some false)) fun x84_ =>
  lt (k76_ + 2) fun k97_ =>
  rec72_ x84_ k97_
  else (some (fits75_, k76_))) fuelN y19_.2.1 (0 : Int32)) fun y69_ =>
  some (y69_.1, y19_.2.2.2)
abbrev rm12_fitsBallot : Room := { frames := 2, cells := 0, slots := 0, locals := 44 }
set_option maxHeartbeats 4000000 in
set_option maxRecDepth 100000 in
theorem p12_fitsBallot {Θ : Tz} {σ : St} {ρ : Option Value × St} (C : Zc Θ cX12_fitsBallot 6 RX12 (some .boolean) rm12_fitsBallot) (hkd : Θ.2.2.2.2.1 = kdM) {code_a : Int32} {n_a : Int32} {r : (Bool × St)} (hf : q12_fitsBallot σ code_a n_a = some r) (hρ : ρ = (some (.int (b2i r.1)), r.2)) : Z Θ 6 0 0 (zQ Θ ρ) σ 0 [(0, .ref (zA Θ 0)), (1, .int code_a), (2, .int n_a)] [] := by
  unfold q12_fitsBallot at hf
  refine z_iload_n C 1 dX12_fitsBallot_0 rfl rfl ?_
  refine z_istN C dX12_fitsBallot_1 rfl rfl (Nat.le_of_ble_eq_true rfl) rfl ?_
  refine z_iconst (v := 1) C dX12_fitsBallot_2 ic_1 ?_
  refine z_ist C dX12_fitsBallot_3 rfl (Nat.le_of_ble_eq_true rfl) rfl ?_
  refine z_iconst (v := 0) C dX12_fitsBallot_5 ic_0 ?_
  refine z_ist C dX12_fitsBallot_6 rfl (Nat.le_of_ble_eq_true rfl) rfl ?_
  refine Z.sub [3, 4, 5, 2, 1, 0] rfl ?_
  obtain ⟨y1_, h2_, hf⟩ := ob hf
  suffices K3_ : Z Θ 6 0 0 (zQ Θ ρ) y1_.2 29 [(0, .ref (zA Θ 0)), (1, .int code_a), (2, .int n_a), (3, .int code_a), (4, .int (b2i true)), (5, .int y1_.1)] [] by
    refine loop2_Z (P := fun (k7_ : Int32) (σ8_ : St) => Z Θ 6 0 0 (zQ Θ ρ) σ8_ 8 [(0, .ref (zA Θ 0)), (1, .int code_a), (2, .int n_a), (3, .int code_a), (4, .int (b2i true)), (5, .int k7_)] []) ?_ fuelN (0 : Int32) σ h2_
    clear h2_
    intro rec4_ k7_ σ8_ h5_ h6_
    have K11_ : k7_ < 7 → Z Θ 6 0 0 (zQ Θ ρ) σ8_ 15 [(0, .ref (zA Θ 0)), (1, .int code_a), (2, .int n_a), (3, .int code_a), (4, .int (b2i true)), (5, .int k7_)] [] := by
      intro h14_
      rw [if_pos h14_] at h6_
      refine z_aload_n C 0 dX12_fitsBallot_15 rfl rfl ?_
      refine fg12_56 C hkd dX12_fitsBallot_16 ?_
      refine z_iload C 5 dX12_fitsBallot_19 rfl ?_
      refine z_iconst (v := 0) C dX12_fitsBallot_21 ic_0 ?_
      obtain ⟨σ15_, h16_, h6_⟩ := ob h6_
      refine z_sa C h16_ (kM_15 hkd) dX12_fitsBallot_22 ?_
      obtain ⟨k17_, h18_, h6_⟩ := lt_ h6_
      refine z_inc C 5 dX12_fitsBallot_23 rfl ic_1 h18_ (Nat.le_of_ble_eq_true rfl) rfl ?_
      refine z_goto C 8 dX12_fitsBallot_26 (by decide) ?_
      refine Z.sub [1, 2, 3, 4, 5, 0] rfl ?_
      exact h5_ _ _ h6_
    have K12_ : ¬ (k7_ < 7) → Z Θ 6 0 0 (zQ Θ ρ) σ8_ 29 [(0, .ref (zA Θ 0)), (1, .int code_a), (2, .int n_a), (3, .int code_a), (4, .int (b2i true)), (5, .int k7_)] [] := by
      intro h14_
      rw [if_neg h14_] at h6_
      cases h6_
      exact K3_
    refine z_iload C 5 dX12_fitsBallot_8 rfl ?_
    refine z_bipush (v := 7) C dX12_fitsBallot_10 bp_7 ?_
    refine c_lt_f C 29 dX12_fitsBallot_12 (by decide) (fun h13_ => ?_) (fun h13_ => ?_)
    · exact K11_ h13_
    · exact K12_ h13_
  refine z_iconst (v := 0) C dX12_fitsBallot_29 ic_0 ?_
  refine z_ist C dX12_fitsBallot_30 rfl (Nat.le_of_ble_eq_true rfl) rfl ?_
  refine Z.sub [1, 2, 3, 4, 5, 0] rfl ?_
  obtain ⟨y19_, h20_, hf⟩ := ob hf
  suffices K21_ : Z Θ 6 0 0 (zQ Θ ρ) y19_.2.2.2 124 [(0, .ref (zA Θ 0)), (1, .int code_a), (2, .int n_a), (3, .int y19_.1), (4, .int (b2i y19_.2.1)), (5, .int y19_.2.2.1)] [] by
    refine loop4_Z (P := fun (v25_ : Int32) (fits26_ : Bool) (p27_ : Int32) (σ28_ : St) => Z Θ 6 0 0 (zQ Θ ρ) σ28_ 32 [(0, .ref (zA Θ 0)), (1, .int code_a), (2, .int n_a), (3, .int v25_), (4, .int (b2i fits26_)), (5, .int p27_)] []) ?_ fuelN code_a true (0 : Int32) y1_.2 h20_
    clear h20_
    intro rec22_ v25_ fits26_ p27_ σ28_ h23_ h24_
    refine z_iload C 5 dX12_fitsBallot_32 rfl ?_
    refine z_aload_n C 0 dX12_fitsBallot_34 rfl rfl ?_
    refine fg12_7 C hkd dX12_fitsBallot_35 ?_
    refine z_iconst (v := 3) C dX12_fitsBallot_38 ic_3 ?_
    obtain ⟨x33_, h34_, h24_⟩ := ob h24_
    refine z_ag C h34_ (kM_1 hkd) dX12_fitsBallot_39 ?_
    have K31_ : (p27_ < x33_) ∧ (fits26_ = true) → Z Θ 6 0 0 (zQ Θ ρ) σ28_ 48 [(0, .ref (zA Θ 0)), (1, .int code_a), (2, .int n_a), (3, .int v25_), (4, .int (b2i fits26_)), (5, .int p27_)] [] := by
      intro h37_
      rw [if_pos h37_] at h24_
      obtain ⟨k30_, h66_, h24_⟩ := lt_ h24_
      have K29_ : ∀ (v62_ : Int32) (fits63_ : Bool) (p64_ : Int32) (σ65_ : St), k30_ v62_ fits63_ p64_ σ65_ = some y19_ → Z Θ 6 0 0 (zQ Θ ρ) σ65_ 118 [(0, .ref (zA Θ 0)), (1, .int code_a), (2, .int n_a), (3, .int v62_), (4, .int (b2i fits63_)), (5, .int p64_)] [] := by
        intro v62_ fits63_ p64_ σ65_ h24_
        subst h66_
        dsimp only at h24_
        obtain ⟨p67_, h68_, h24_⟩ := lt_ h24_
        refine z_inc C 5 dX12_fitsBallot_118 rfl ic_1 h68_ (Nat.le_of_ble_eq_true rfl) rfl ?_
        refine z_goto C 32 dX12_fitsBallot_121 (by decide) ?_
        refine Z.sub [1, 2, 3, 4, 5, 0] rfl ?_
        exact h23_ _ _ _ _ h24_
      have K38_ : ¬ (q12_isOf (σ28_ 0 20) p27_ = true) → Z Θ 6 0 0 (zQ Θ ρ) σ28_ 60 [(0, .ref (zA Θ 0)), (1, .int code_a), (2, .int n_a), (3, .int v25_), (4, .int (b2i fits26_)), (5, .int p27_)] [] := by
        intro h41_
        rw [if_pos h41_] at h24_
        refine z_goto C 118 dX12_fitsBallot_60 (by decide) ?_
        exact K29_ _ _ _ _ h24_
      suffices K39_ : ¬ (¬ (q12_isOf (σ28_ 0 20) p27_ = true)) → Z Θ 6 0 0 (zQ Θ ρ) σ28_ 63 [(0, .ref (zA Θ 0)), (1, .int code_a), (2, .int n_a), (3, .int v25_), (4, .int (b2i fits26_)), (5, .int p27_)] [] by
        refine z_aload_n C 0 dX12_fitsBallot_48 rfl rfl ?_
        refine fg12_263 C hkd dX12_fitsBallot_49 ?_
        refine z_iload C 5 dX12_fitsBallot_52 rfl ?_
        refine cr12_275 (set_a := (σ28_ 0 20)) (k_a := p27_) C hkd  ⟨(Nat.le_of_ble_eq_true rfl), (Nat.le_of_ble_eq_true rfl)⟩ (Nat.le_of_ble_eq_true rfl) ⟨Nat.zero_le _, Nat.zero_le _⟩ dX12_fitsBallot_54 ?_
        refine cb_t C 63 dX12_fitsBallot_57 (by decide) (fun h40_ => ?_) (fun h40_ => ?_)
        · exact K39_ (fun n => n h40_)
        · exact K38_ h40_
      intro h41_
      rw [if_neg h41_] at h24_
      refine z_aload_n C 0 dX12_fitsBallot_63 rfl rfl ?_
      refine fg12_35 C hkd dX12_fitsBallot_64 ?_
      refine z_iload C 5 dX12_fitsBallot_67 rfl ?_
      refine z_iload_n C 3 dX12_fitsBallot_69 rfl rfl ?_
      refine z_aload_n C 0 dX12_fitsBallot_70 rfl rfl ?_
      refine fg12_7 C hkd dX12_fitsBallot_71 ?_
      refine z_iconst (v := 3) C dX12_fitsBallot_74 ic_3 ?_
      obtain ⟨x42_, h43_, h24_⟩ := ob h24_
      refine z_ag C h43_ (kM_1 hkd) dX12_fitsBallot_75 ?_
      obtain ⟨x44_, h45_, h24_⟩ := ob h24_
      refine z_rmd C h45_ dX12_fitsBallot_76 ?_
      obtain ⟨σ46_, h47_, h24_⟩ := ob h24_
      refine z_sa C h47_ (kM_8 hkd) dX12_fitsBallot_77 ?_
      refine z_iload_n C 3 dX12_fitsBallot_78 rfl rfl ?_
      refine z_aload_n C 0 dX12_fitsBallot_79 rfl rfl ?_
      refine fg12_7 C hkd dX12_fitsBallot_80 ?_
      refine z_iconst (v := 3) C dX12_fitsBallot_83 ic_3 ?_
      obtain ⟨x48_, h49_, h24_⟩ := ob h24_
      refine z_ag C h49_ (kM_1 hkd) dX12_fitsBallot_84 ?_
      obtain ⟨x50_, h51_, h24_⟩ := ob h24_
      refine z_dv C h51_ dX12_fitsBallot_85 ?_
      refine z_istN C dX12_fitsBallot_86 rfl rfl (Nat.le_of_ble_eq_true rfl) rfl ?_
      refine z_aload_n C 1 dX12_fitsBallot_87 rfl rfl ?_
      refine z_iload C 5 dX12_fitsBallot_88 rfl ?_
      refine z_aload_n C 1 dX12_fitsBallot_90 rfl rfl ?_
      refine fg12_35 C hkd dX12_fitsBallot_91 ?_
      refine z_iload C 5 dX12_fitsBallot_94 rfl ?_
      obtain ⟨x52_, h53_, h24_⟩ := ob h24_
      refine z_ag C h53_ (kM_8 hkd) dX12_fitsBallot_96 ?_
      obtain ⟨x54_, h55_, h24_⟩ := ob h24_
      refine cr12_416 (p_a := p27_) (o_a := x52_) C hkd  h55_ ⟨(Nat.le_of_ble_eq_true rfl), (Nat.le_of_ble_eq_true rfl)⟩ (Nat.le_of_ble_eq_true rfl) ⟨Nat.zero_le _, Nat.zero_le _⟩ dX12_fitsBallot_97 ?_
      refine z_ist C dX12_fitsBallot_100 rfl (Nat.le_of_ble_eq_true rfl) rfl ?_
      refine z_aload_n C 2 dX12_fitsBallot_102 rfl rfl ?_
      refine fg12_56 C hkd dX12_fitsBallot_103 ?_
      refine z_aload_n C 2 dX12_fitsBallot_106 rfl rfl ?_
      refine fg12_35 C hkd dX12_fitsBallot_107 ?_
      refine z_iload C 5 dX12_fitsBallot_110 rfl ?_
      obtain ⟨x56_, h57_, h24_⟩ := ob h24_
      refine z_ag C h57_ (kM_8 hkd) dX12_fitsBallot_112 ?_
      refine z_dup2 C dX12_fitsBallot_113 rfl rfl ?_
      obtain ⟨x58_, h59_, h24_⟩ := ob h24_
      refine z_ag C h59_ (kM_15 hkd) dX12_fitsBallot_114 ?_
      refine z_iconst (v := 1) C dX12_fitsBallot_115 ic_1 ?_
      refine z_iadd C dX12_fitsBallot_116 ?_
      obtain ⟨σ60_, h61_, h24_⟩ := ob h24_
      refine z_sa C h61_ (kM_15 hkd) dX12_fitsBallot_117 ?_
      refine Z.sub [2, 3, 4, 1, 0, 5] rfl ?_
      exact K29_ _ _ _ _ h24_
    have K32_ : ¬ ((p27_ < x33_) ∧ (fits26_ = true)) → Z Θ 6 0 0 (zQ Θ ρ) σ28_ 124 [(0, .ref (zA Θ 0)), (1, .int code_a), (2, .int n_a), (3, .int v25_), (4, .int (b2i fits26_)), (5, .int p27_)] [] := by
      intro h37_
      rw [if_neg h37_] at h24_
      cases h24_
      exact K21_
    refine c_lt_f C 124 dX12_fitsBallot_40 (by decide) (fun h35_ => ?_) (fun h35_ => ?_)
    · refine z_iload C 4 dX12_fitsBallot_43 rfl ?_
      refine cb_f C 124 dX12_fitsBallot_45 (by decide) (fun h36_ => ?_) (fun h36_ => ?_)
      · exact K31_ ⟨h35_, h36_⟩
      · exact K32_ (fun n => h36_ n.2)
    · exact K32_ (fun n => h35_ n.1)
  refine z_iconst (v := 0) C dX12_fitsBallot_124 ic_0 ?_
  refine z_ist C dX12_fitsBallot_125 rfl (Nat.le_of_ble_eq_true rfl) rfl ?_
  refine Z.sub [1, 2, 3, 4, 5, 0] rfl ?_
  obtain ⟨y69_, h70_, hf⟩ := ob hf
  suffices K71_ : Z Θ 6 0 0 (zQ Θ ρ) y19_.2.2.2 175 [(0, .ref (zA Θ 0)), (1, .int code_a), (2, .int n_a), (3, .int y19_.1), (4, .int (b2i y69_.1)), (5, .int y69_.2)] [] by
    refine loop2_Z (P := fun (fits75_ : Bool) (k76_ : Int32) => Z Θ 6 0 0 (zQ Θ ρ) y19_.2.2.2 127 [(0, .ref (zA Θ 0)), (1, .int code_a), (2, .int n_a), (3, .int y19_.1), (4, .int (b2i fits75_)), (5, .int k76_)] []) ?_ fuelN y19_.2.1 (0 : Int32) h70_
    clear h70_
    intro rec72_ fits75_ k76_ h73_ h74_
    have K79_ : (k76_ < n_a) ∧ (fits75_ = true) → Z Θ 6 0 0 (zQ Θ ρ) y19_.2.2.2 138 [(0, .ref (zA Θ 0)), (1, .int code_a), (2, .int n_a), (3, .int y19_.1), (4, .int (b2i fits75_)), (5, .int k76_)] [] := by
      intro h83_
      rw [if_pos h83_] at h74_
      obtain ⟨x84_, h85_, h74_⟩ := ob h74_
      suffices K86_ : Z Θ 6 0 0 (zQ Θ ρ) y19_.2.2.2 167 [(0, .ref (zA Θ 0)), (1, .int code_a), (2, .int n_a), (3, .int y19_.1), (4, .int (b2i fits75_)), (5, .int k76_)] [.int (b2i x84_)] by
        refine z_aload_n C 0 dX12_fitsBallot_138 rfl rfl ?_
        refine fg12_56 C hkd dX12_fitsBallot_139 ?_
        refine z_aload_n C 0 dX12_fitsBallot_142 rfl rfl ?_
        refine fg12_22 C hkd dX12_fitsBallot_143 ?_
        refine z_iload C 5 dX12_fitsBallot_146 rfl ?_
        obtain ⟨x89_, h90_, h85_⟩ := ob h85_
        refine z_ag C h90_ (kM_5 hkd) dX12_fitsBallot_148 ?_
        obtain ⟨x91_, h92_, h85_⟩ := ob h85_
        refine z_ag C h92_ (kM_15 hkd) dX12_fitsBallot_149 ?_
        refine z_aload_n C 0 dX12_fitsBallot_150 rfl rfl ?_
        refine fg12_22 C hkd dX12_fitsBallot_151 ?_
        refine z_iload C 5 dX12_fitsBallot_154 rfl ?_
        refine z_iconst (v := 1) C dX12_fitsBallot_156 ic_1 ?_
        refine z_iadd C dX12_fitsBallot_157 ?_
        obtain ⟨x93_, h94_, h85_⟩ := ob h85_
        refine z_ag C h94_ (kM_5 hkd) dX12_fitsBallot_158 ?_
        have K87_ : x91_ = x93_ → Z Θ 6 0 0 (zQ Θ ρ) y19_.2.2.2 162 [(0, .ref (zA Θ 0)), (1, .int code_a), (2, .int n_a), (3, .int y19_.1), (4, .int (b2i fits75_)), (5, .int k76_)] [] := by
          intro h96_
          rw [if_pos h96_] at h85_
          refine z_iconst (v := 1) C dX12_fitsBallot_162 ic_1 ?_
          refine z_goto C 167 dX12_fitsBallot_163 (by decide) ?_
          cases h85_
          exact K86_
        have K88_ : ¬ (x91_ = x93_) → Z Θ 6 0 0 (zQ Θ ρ) y19_.2.2.2 166 [(0, .ref (zA Θ 0)), (1, .int code_a), (2, .int n_a), (3, .int y19_.1), (4, .int (b2i fits75_)), (5, .int k76_)] [] := by
          intro h96_
          rw [if_neg h96_] at h85_
          refine z_iconst (v := 0) C dX12_fitsBallot_166 ic_0 ?_
          cases h85_
          exact K86_
        refine c_eq_f C 166 dX12_fitsBallot_159 (by decide) (fun h95_ => ?_) (fun h95_ => ?_)
        · exact K87_ h95_
        · exact K88_ h95_
      refine z_ist C dX12_fitsBallot_167 rfl (Nat.le_of_ble_eq_true rfl) rfl ?_
      obtain ⟨k97_, h98_, h74_⟩ := lt_ h74_
      refine z_inc C 5 dX12_fitsBallot_169 rfl ic_2 h98_ (Nat.le_of_ble_eq_true rfl) rfl ?_
      refine z_goto C 127 dX12_fitsBallot_172 (by decide) ?_
      refine Z.sub [2, 3, 4, 5, 1, 0] rfl ?_
      exact h73_ _ _ h74_
    have K80_ : ¬ ((k76_ < n_a) ∧ (fits75_ = true)) → Z Θ 6 0 0 (zQ Θ ρ) y19_.2.2.2 175 [(0, .ref (zA Θ 0)), (1, .int code_a), (2, .int n_a), (3, .int y19_.1), (4, .int (b2i fits75_)), (5, .int k76_)] [] := by
      intro h83_
      rw [if_neg h83_] at h74_
      cases h74_
      exact K71_
    refine z_iload C 5 dX12_fitsBallot_127 rfl ?_
    refine z_iload_n C 2 dX12_fitsBallot_129 rfl rfl ?_
    refine c_lt_f C 175 dX12_fitsBallot_130 (by decide) (fun h81_ => ?_) (fun h81_ => ?_)
    · refine z_iload C 4 dX12_fitsBallot_133 rfl ?_
      refine cb_f C 175 dX12_fitsBallot_135 (by decide) (fun h82_ => ?_) (fun h82_ => ?_)
      · exact K79_ ⟨h81_, h82_⟩
      · exact K80_ (fun n => h82_ n.2)
    · exact K80_ (fun n => h81_ n.1)
  refine z_iload C 4 dX12_fitsBallot_175 rfl ?_
  cases hf
  subst hρ
  exact z_zret C (b2i_narrow _) dX12_fitsBallot_177
theorem c12_fitsBallot {l : Launch} {kd : List KD} {w : Wp} {σ : St} {code_a : Int32} {n_a : Int32} (hkd : kd = kdM) (hi : zI kd w) {r : (Bool × St)} (hf : q12_fitsBallot σ code_a n_a = some r) : zM l kd w yX12_fitsBallot cX12_fitsBallot 6 (some .boolean) rm12_fitsBallot [.ref (w.2.2.1 0), .int code_a, .int n_a] σ (some (.int (b2i r.1)), r.2) := zM_of rfl hi (Nat.le_of_ble_eq_true rfl) (fun Θ hl hw C => by
  obtain ⟨Θ1, Θ2, Θ3, Θ4, Θ5⟩ := Θ
  cases hw
  exact p12_fitsBallot C hkd  hf rfl)
/-! LastLoafModel.counts -/
theorem bp_49 : (Int8.ofInt (49)).toInt32 = 49 := by decide +kernel
theorem w_10_102 : Cond.code ({ cls := "LastLoafModel", name := "fitsBallot", desc := "(II)Z" } : MethodName) prog_14_method_108_code (6 : Nat) (Option.some ClassFile.FieldType.boolean) ∈ TB := tb_in (lwt_10 (List.mem_of_getElem? (i := 102) (by decide +kernel))) rfl
theorem w_10_99 : Cond.methodLink "LastLoafModel" (410 : Nat) ({ cls := "LastLoafModel", name := "fitsBallot", desc := "(II)Z" } : MethodName) ∈ TB := tb_in (lwt_10 (List.mem_of_getElem? (i := 99) (by decide +kernel))) rfl
theorem w_10_101 : Cond.instanceMethod ({ cls := "LastLoafModel", name := "fitsBallot", desc := "(II)Z" } : MethodName) ∈ TB := tb_in (lwt_10 (List.mem_of_getElem? (i := 101) (by decide +kernel))) rfl
theorem ws_LastLoafModel_fitsBallot_II_Z : Cond.selects "LastLoafModel" (⟨"LastLoafModel", "fitsBallot", "(II)Z"⟩ : MethodName) (⟨"LastLoafModel", "fitsBallot", "(II)Z"⟩ : MethodName) ∈ TB := tb_in (List.mem_append_left _ (List.mem_of_getElem? (i := 84) (by decide +kernel))) rfl
theorem cr12_410 {Θ : Tz} {cc : ByteArray} {nL kc ks : Nat} {ret : Option FieldType} {rm : Room} {Q : State → Prop} {σ : St} {pc : Nat} {lv : List (Nat × Value)} {st : List Value} (C : Zc Θ cc nL RX12 ret rm) (hkd : Θ.2.2.2.2.1 = kdM) {code_a : Int32} {n_a : Int32} {r : Bool × St} (hx : q12_fitsBallot σ code_a n_a = some r) (hrm : rm12_fitsBallot.frames + 1 ≤ rm.frames ∧ 8 + (6 + 11) + rm12_fitsBallot.locals ≤ rm.locals) (hcat : (st.map fun v => v.category).sum ≤ 8) (hk : kc ≤ rm.cells ∧ ks ≤ rm.slots) (hd : decode cc pc = .ok (.invokevirtual 410, 3)) (kk : Z Θ nL kc ks Q r.2 (pc + 3) lv (.int (b2i r.1) :: st)) : Z Θ nL kc ks Q σ pc lv (.int n_a :: .int code_a :: .ref (zA Θ 0) :: st) := z_callV C 0 [.int code_a, .int n_a] (some (.int (b2i r.1)), r.2) 2 (kM_0 hkd) rfl (c12_fitsBallot (code_a := code_a) (n_a := n_a) hkd (zc_inj C) hx) w_10_102 w_10_99 w_10_101 ws_LastLoafModel_fitsBallot_II_Z w_1_14 ⟨rfl, rfl, hrm.1, hrm.2⟩ (by decide +kernel) rfl rfl hcat hk hd kk
theorem w_10_110 : Cond.code ({ cls := "LastLoafModel", name := "adds", desc := "()V" } : MethodName) prog_14_method_109_code (2 : Nat) (Option.none : Option ClassFile.FieldType) ∈ TB := tb_in (lwt_10 (List.mem_of_getElem? (i := 110) (by decide +kernel))) rfl
theorem w_10_107 : Cond.methodLink "LastLoafModel" (413 : Nat) ({ cls := "LastLoafModel", name := "adds", desc := "()V" } : MethodName) ∈ TB := tb_in (lwt_10 (List.mem_of_getElem? (i := 107) (by decide +kernel))) rfl
theorem w_10_109 : Cond.instanceMethod ({ cls := "LastLoafModel", name := "adds", desc := "()V" } : MethodName) ∈ TB := tb_in (lwt_10 (List.mem_of_getElem? (i := 109) (by decide +kernel))) rfl
theorem ws_LastLoafModel_adds__V : Cond.selects "LastLoafModel" (⟨"LastLoafModel", "adds", "()V"⟩ : MethodName) (⟨"LastLoafModel", "adds", "()V"⟩ : MethodName) ∈ TB := tb_in (List.mem_append_left _ (List.mem_of_getElem? (i := 86) (by decide +kernel))) rfl
theorem cr12_413 {Θ : Tz} {cc : ByteArray} {nL kc ks : Nat} {ret : Option FieldType} {rm : Room} {Q : State → Prop} {σ : St} {pc : Nat} {lv : List (Nat × Value)} {st : List Value} (C : Zc Θ cc nL RX12 ret rm) (hkd : Θ.2.2.2.2.1 = kdM) {r : St} (hx : q12_adds σ = some r) (hrm : rm12_adds.frames + 1 ≤ rm.frames ∧ 8 + (2 + 11) + rm12_adds.locals ≤ rm.locals) (hcat : (st.map fun v => v.category).sum ≤ 8) (hk : kc ≤ rm.cells ∧ ks ≤ rm.slots) (hd : decode cc pc = .ok (.invokevirtual 413, 3)) (kk : Z Θ nL kc ks Q r (pc + 3) lv st) : Z Θ nL kc ks Q σ pc lv (.ref (zA Θ 0) :: st) := z_callV C 0 [] (none, r) 0 (kM_0 hkd) rfl (c12_adds hkd (zc_inj C) hx) w_10_110 w_10_107 w_10_109 ws_LastLoafModel_adds__V w_1_14 ⟨rfl, rfl, hrm.1, hrm.2⟩ (by decide +kernel) rfl rfl hcat hk hd kk
theorem dX12_counts_0 : decode cX12_counts 0 = .ok (.aload_n 0, 1) := by decide +kernel
theorem dX12_counts_1 : decode cX12_counts 1 = .ok (.iconst 0, 1) := by decide +kernel
theorem dX12_counts_2 : decode cX12_counts 2 = .ok (.putfield 407, 3) := by decide +kernel
theorem dX12_counts_5 : decode cX12_counts 5 = .ok (.iconst 0, 1) := by decide +kernel
theorem dX12_counts_6 : decode cX12_counts 6 = .ok (.istore_n 2, 1) := by decide +kernel
theorem dX12_counts_7 : decode cX12_counts 7 = .ok (.iload_n 2, 1) := by decide +kernel
theorem dX12_counts_8 : decode cX12_counts 8 = .ok (.bipush 49, 2) := by decide +kernel
theorem dX12_counts_10 : decode cX12_counts 10 = .ok (.if_icmp .ge 16, 3) := by decide +kernel
theorem dX12_counts_13 : decode cX12_counts 13 = .ok (.aload_n 0, 1) := by decide +kernel
theorem dX12_counts_14 : decode cX12_counts 14 = .ok (.getfield 53, 3) := by decide +kernel
theorem dX12_counts_17 : decode cX12_counts 17 = .ok (.iload_n 2, 1) := by decide +kernel
theorem dX12_counts_18 : decode cX12_counts 18 = .ok (.iconst 0, 1) := by decide +kernel
theorem dX12_counts_19 : decode cX12_counts 19 = .ok (.iastore, 1) := by decide +kernel
theorem dX12_counts_20 : decode cX12_counts 20 = .ok (.iinc 2 1, 3) := by decide +kernel
theorem dX12_counts_23 : decode cX12_counts 23 = .ok (.goto (-16), 3) := by decide +kernel
theorem dX12_counts_26 : decode cX12_counts 26 = .ok (.iconst 1, 1) := by decide +kernel
theorem dX12_counts_27 : decode cX12_counts 27 = .ok (.istore_n 2, 1) := by decide +kernel
theorem dX12_counts_28 : decode cX12_counts 28 = .ok (.iconst 0, 1) := by decide +kernel
theorem dX12_counts_29 : decode cX12_counts 29 = .ok (.istore_n 3, 1) := by decide +kernel
theorem dX12_counts_30 : decode cX12_counts 30 = .ok (.iload_n 3, 1) := by decide +kernel
theorem dX12_counts_31 : decode cX12_counts 31 = .ok (.aload_n 0, 1) := by decide +kernel
theorem dX12_counts_32 : decode cX12_counts 32 = .ok (.getfield 7, 3) := by decide +kernel
theorem dX12_counts_35 : decode cX12_counts 35 = .ok (.iconst 3, 1) := by decide +kernel
theorem dX12_counts_36 : decode cX12_counts 36 = .ok (.iaload, 1) := by decide +kernel
theorem dX12_counts_37 : decode cX12_counts 37 = .ok (.if_icmp .ge 37, 3) := by decide +kernel
theorem dX12_counts_40 : decode cX12_counts 40 = .ok (.iload_n 2, 1) := by decide +kernel
theorem dX12_counts_41 : decode cX12_counts 41 = .ok (.aload_n 0, 1) := by decide +kernel
theorem dX12_counts_42 : decode cX12_counts 42 = .ok (.getfield 263, 3) := by decide +kernel
theorem dX12_counts_45 : decode cX12_counts 45 = .ok (.iload_n 3, 1) := by decide +kernel
theorem dX12_counts_46 : decode cX12_counts 46 = .ok (.invokestatic 275, 3) := by decide +kernel
theorem dX12_counts_49 : decode cX12_counts 49 = .ok (.ifCond .eq 16, 3) := by decide +kernel
theorem dX12_counts_52 : decode cX12_counts 52 = .ok (.iconst 1, 1) := by decide +kernel
theorem dX12_counts_53 : decode cX12_counts 53 = .ok (.aload_n 0, 1) := by decide +kernel
theorem dX12_counts_54 : decode cX12_counts 54 = .ok (.getfield 7, 3) := by decide +kernel
theorem dX12_counts_57 : decode cX12_counts 57 = .ok (.iconst 3, 1) := by decide +kernel
theorem dX12_counts_58 : decode cX12_counts 58 = .ok (.iaload, 1) := by decide +kernel
theorem dX12_counts_59 : decode cX12_counts 59 = .ok (.invokestatic 392, 3) := by decide +kernel
theorem dX12_counts_62 : decode cX12_counts 62 = .ok (.goto 4, 3) := by decide +kernel
theorem dX12_counts_65 : decode cX12_counts 65 = .ok (.iconst 1, 1) := by decide +kernel
theorem dX12_counts_66 : decode cX12_counts 66 = .ok (.imul, 1) := by decide +kernel
theorem dX12_counts_67 : decode cX12_counts 67 = .ok (.istore_n 2, 1) := by decide +kernel
theorem dX12_counts_68 : decode cX12_counts 68 = .ok (.iinc 3 1, 3) := by decide +kernel
theorem dX12_counts_71 : decode cX12_counts 71 = .ok (.goto (-41), 3) := by decide +kernel
theorem dX12_counts_74 : decode cX12_counts 74 = .ok (.iconst 0, 1) := by decide +kernel
theorem dX12_counts_75 : decode cX12_counts 75 = .ok (.istore_n 3, 1) := by decide +kernel
theorem dX12_counts_76 : decode cX12_counts 76 = .ok (.iload_n 3, 1) := by decide +kernel
theorem dX12_counts_77 : decode cX12_counts 77 = .ok (.iload_n 2, 1) := by decide +kernel
theorem dX12_counts_78 : decode cX12_counts 78 = .ok (.if_icmp .ge 22, 3) := by decide +kernel
theorem dX12_counts_81 : decode cX12_counts 81 = .ok (.aload_n 0, 1) := by decide +kernel
theorem dX12_counts_82 : decode cX12_counts 82 = .ok (.iload_n 3, 1) := by decide +kernel
theorem dX12_counts_83 : decode cX12_counts 83 = .ok (.iload_n 1, 1) := by decide +kernel
theorem dX12_counts_84 : decode cX12_counts 84 = .ok (.invokevirtual 410, 3) := by decide +kernel
theorem dX12_counts_87 : decode cX12_counts 87 = .ok (.ifCond .eq 7, 3) := by decide +kernel
theorem dX12_counts_90 : decode cX12_counts 90 = .ok (.aload_n 0, 1) := by decide +kernel
theorem dX12_counts_91 : decode cX12_counts 91 = .ok (.invokevirtual 413, 3) := by decide +kernel
theorem dX12_counts_94 : decode cX12_counts 94 = .ok (.iinc 3 1, 3) := by decide +kernel
theorem dX12_counts_97 : decode cX12_counts 97 = .ok (.goto (-21), 3) := by decide +kernel
theorem dX12_counts_100 : decode cX12_counts 100 = .ok (.return_, 1) := by decide +kernel
def q12_counts (σ : St) (n_a : Int32) : Option St :=
  lt (up σ 0 32 0) fun σ1_ =>
  Option.bind (loop2 (fun rec6_ (k9_ : Int32) (σ10_ : St) =>
  if k9_ < 49 then
  Option.bind (sa σ10_ 14 49 k9_ 0) fun σ17_ =>
  lt (k9_ + 1) fun k19_ =>
  rec6_ k19_ σ17_
  else (some (k9_, σ10_))) fuelN (0 : Int32) σ1_) fun y3_ =>
  Option.bind (loop2 (fun rec24_ (all27_ : Int32) (p28_ : Int32) =>
  Option.bind (ag y3_.2 1 752 3) fun x33_ =>
  if p28_ < x33_ then
  Option.bind (if q12_isOf (y3_.2 0 20) p28_ = true then (Option.bind (ag y3_.2 1 752 3) fun x43_ =>
  some (q12_greater 1 x43_)) else (some (1 : Int32))) fun x37_ =>
  lt (all27_ * x37_) fun all46_ =>
  lt (p28_ + 1) fun p48_ =>
  rec24_ all46_ p48_
  else (some (all27_, p28_))) fuelN (1 : Int32) (0 : Int32)) fun y21_ =>
  Option.bind (loop2 (fun rec53_ (code56_ : Int32) (σ57_ : St) =>
  if code56_ < y21_.1 then
  Option.bind (Option.bind (q12_fitsBallot σ57_ code56_ n_a) fun x69_ =>
  if x69_.1 = true then (Option.bind (q12_adds x69_.2) fun x73_ =>
  some (x73_)) else (some (x69_.2))) fun y64_ =>
  lt (code56_ + 1) fun code75_ =>
  rec53_ code75_ y64_
  else (some (code56_, σ57_))) fuelN (0 : Int32) y3_.2) fun y50_ =>
  some y50_.2
abbrev rm12_counts : Room := { frames := 3, cells := 0, slots := 0, locals := 69 }
set_option maxHeartbeats 4000000 in
set_option maxRecDepth 100000 in
theorem p12_counts {Θ : Tz} {σ : St} {ρ : Option Value × St} (C : Zc Θ cX12_counts 4 RX12 none rm12_counts) (hkd : Θ.2.2.2.2.1 = kdM) {n_a : Int32} {r : St} (hf : q12_counts σ n_a = some r) (hρ : ρ = (none, r)) : Z Θ 4 0 0 (zQ Θ ρ) σ 0 [(0, .ref (zA Θ 0)), (1, .int n_a)] [] := by
  unfold q12_counts at hf
  refine z_aload_n C 0 dX12_counts_0 rfl rfl ?_
  refine z_iconst (v := 0) C dX12_counts_1 ic_0 ?_
  obtain ⟨σ1_, h2_, hf⟩ := lt_ hf
  refine fp12_407 C hkd h2_ dX12_counts_2 ?_
  refine z_iconst (v := 0) C dX12_counts_5 ic_0 ?_
  refine z_istN C dX12_counts_6 rfl rfl (Nat.le_of_ble_eq_true rfl) rfl ?_
  refine Z.sub [1, 2, 0] rfl ?_
  obtain ⟨y3_, h4_, hf⟩ := ob hf
  suffices K5_ : Z Θ 4 0 0 (zQ Θ ρ) y3_.2 26 [(0, .ref (zA Θ 0)), (1, .int n_a), (2, .int y3_.1)] [] by
    refine loop2_Z (P := fun (k9_ : Int32) (σ10_ : St) => Z Θ 4 0 0 (zQ Θ ρ) σ10_ 7 [(0, .ref (zA Θ 0)), (1, .int n_a), (2, .int k9_)] []) ?_ fuelN (0 : Int32) σ1_ h4_
    clear h4_
    intro rec6_ k9_ σ10_ h7_ h8_
    have K13_ : k9_ < 49 → Z Θ 4 0 0 (zQ Θ ρ) σ10_ 13 [(0, .ref (zA Θ 0)), (1, .int n_a), (2, .int k9_)] [] := by
      intro h16_
      rw [if_pos h16_] at h8_
      refine z_aload_n C 0 dX12_counts_13 rfl rfl ?_
      refine fg12_53 C hkd dX12_counts_14 ?_
      refine z_iload_n C 2 dX12_counts_17 rfl rfl ?_
      refine z_iconst (v := 0) C dX12_counts_18 ic_0 ?_
      obtain ⟨σ17_, h18_, h8_⟩ := ob h8_
      refine z_sa C h18_ (kM_14 hkd) dX12_counts_19 ?_
      obtain ⟨k19_, h20_, h8_⟩ := lt_ h8_
      refine z_inc C 2 dX12_counts_20 rfl ic_1 h20_ (Nat.le_of_ble_eq_true rfl) rfl ?_
      refine z_goto C 7 dX12_counts_23 (by decide) ?_
      refine Z.sub [1, 2, 0] rfl ?_
      exact h7_ _ _ h8_
    have K14_ : ¬ (k9_ < 49) → Z Θ 4 0 0 (zQ Θ ρ) σ10_ 26 [(0, .ref (zA Θ 0)), (1, .int n_a), (2, .int k9_)] [] := by
      intro h16_
      rw [if_neg h16_] at h8_
      cases h8_
      exact K5_
    refine z_iload_n C 2 dX12_counts_7 rfl rfl ?_
    refine z_bipush (v := 49) C dX12_counts_8 bp_49 ?_
    refine c_lt_f C 26 dX12_counts_10 (by decide) (fun h15_ => ?_) (fun h15_ => ?_)
    · exact K13_ h15_
    · exact K14_ h15_
  refine z_iconst (v := 1) C dX12_counts_26 ic_1 ?_
  refine z_istN C dX12_counts_27 rfl rfl (Nat.le_of_ble_eq_true rfl) rfl ?_
  refine z_iconst (v := 0) C dX12_counts_28 ic_0 ?_
  refine z_istN C dX12_counts_29 rfl rfl (Nat.le_of_ble_eq_true rfl) rfl ?_
  refine Z.sub [2, 3, 1, 0] rfl ?_
  obtain ⟨y21_, h22_, hf⟩ := ob hf
  suffices K23_ : Z Θ 4 0 0 (zQ Θ ρ) y3_.2 74 [(0, .ref (zA Θ 0)), (1, .int n_a), (2, .int y21_.1), (3, .int y21_.2)] [] by
    refine loop2_Z (P := fun (all27_ : Int32) (p28_ : Int32) => Z Θ 4 0 0 (zQ Θ ρ) y3_.2 30 [(0, .ref (zA Θ 0)), (1, .int n_a), (2, .int all27_), (3, .int p28_)] []) ?_ fuelN (1 : Int32) (0 : Int32) h22_
    clear h22_
    intro rec24_ all27_ p28_ h25_ h26_
    refine z_iload_n C 3 dX12_counts_30 rfl rfl ?_
    refine z_aload_n C 0 dX12_counts_31 rfl rfl ?_
    refine fg12_7 C hkd dX12_counts_32 ?_
    refine z_iconst (v := 3) C dX12_counts_35 ic_3 ?_
    obtain ⟨x33_, h34_, h26_⟩ := ob h26_
    refine z_ag C h34_ (kM_1 hkd) dX12_counts_36 ?_
    have K31_ : p28_ < x33_ → Z Θ 4 0 0 (zQ Θ ρ) y3_.2 40 [(0, .ref (zA Θ 0)), (1, .int n_a), (2, .int all27_), (3, .int p28_)] [] := by
      intro h36_
      rw [if_pos h36_] at h26_
      refine z_iload_n C 2 dX12_counts_40 rfl rfl ?_
      obtain ⟨x37_, h38_, h26_⟩ := ob h26_
      suffices K39_ : Z Θ 4 0 0 (zQ Θ ρ) y3_.2 66 [(0, .ref (zA Θ 0)), (1, .int n_a), (2, .int all27_), (3, .int p28_)] [.int x37_, .int all27_] by
        have K40_ : q12_isOf (y3_.2 0 20) p28_ = true → Z Θ 4 0 0 (zQ Θ ρ) y3_.2 52 [(0, .ref (zA Θ 0)), (1, .int n_a), (2, .int all27_), (3, .int p28_)] [.int all27_] := by
          intro h45_
          rw [if_pos h45_] at h38_
          refine z_iconst (v := 1) C dX12_counts_52 ic_1 ?_
          refine z_aload_n C 0 dX12_counts_53 rfl rfl ?_
          refine fg12_7 C hkd dX12_counts_54 ?_
          refine z_iconst (v := 3) C dX12_counts_57 ic_3 ?_
          obtain ⟨x43_, h44_, h38_⟩ := ob h38_
          refine z_ag C h44_ (kM_1 hkd) dX12_counts_58 ?_
          refine cr12_392 (a_a := 1) (b_a := x43_) C hkd  ⟨(Nat.le_of_ble_eq_true rfl), (Nat.le_of_ble_eq_true rfl)⟩ (Nat.le_of_ble_eq_true rfl) ⟨Nat.zero_le _, Nat.zero_le _⟩ dX12_counts_59 ?_
          refine z_goto C 66 dX12_counts_62 (by decide) ?_
          cases h38_
          exact K39_
        have K41_ : ¬ (q12_isOf (y3_.2 0 20) p28_ = true) → Z Θ 4 0 0 (zQ Θ ρ) y3_.2 65 [(0, .ref (zA Θ 0)), (1, .int n_a), (2, .int all27_), (3, .int p28_)] [.int all27_] := by
          intro h45_
          rw [if_neg h45_] at h38_
          refine z_iconst (v := 1) C dX12_counts_65 ic_1 ?_
          cases h38_
          exact K39_
        refine z_aload_n C 0 dX12_counts_41 rfl rfl ?_
        refine fg12_263 C hkd dX12_counts_42 ?_
        refine z_iload_n C 3 dX12_counts_45 rfl rfl ?_
        refine cr12_275 (set_a := (y3_.2 0 20)) (k_a := p28_) C hkd  ⟨(Nat.le_of_ble_eq_true rfl), (Nat.le_of_ble_eq_true rfl)⟩ (Nat.le_of_ble_eq_true rfl) ⟨Nat.zero_le _, Nat.zero_le _⟩ dX12_counts_46 ?_
        refine cb_f C 65 dX12_counts_49 (by decide) (fun h42_ => ?_) (fun h42_ => ?_)
        · exact K40_ h42_
        · exact K41_ h42_
      refine z_imul C dX12_counts_66 ?_
      obtain ⟨all46_, h47_, h26_⟩ := lt_ h26_
      refine z_istN C dX12_counts_67 h47_ rfl (Nat.le_of_ble_eq_true rfl) rfl ?_
      obtain ⟨p48_, h49_, h26_⟩ := lt_ h26_
      refine z_inc C 3 dX12_counts_68 rfl ic_1 h49_ (Nat.le_of_ble_eq_true rfl) rfl ?_
      refine z_goto C 30 dX12_counts_71 (by decide) ?_
      refine Z.sub [2, 3, 1, 0] rfl ?_
      exact h25_ _ _ h26_
    have K32_ : ¬ (p28_ < x33_) → Z Θ 4 0 0 (zQ Θ ρ) y3_.2 74 [(0, .ref (zA Θ 0)), (1, .int n_a), (2, .int all27_), (3, .int p28_)] [] := by
      intro h36_
      rw [if_neg h36_] at h26_
      cases h26_
      exact K23_
    refine c_lt_f C 74 dX12_counts_37 (by decide) (fun h35_ => ?_) (fun h35_ => ?_)
    · exact K31_ h35_
    · exact K32_ h35_
  refine z_iconst (v := 0) C dX12_counts_74 ic_0 ?_
  refine z_istN C dX12_counts_75 rfl rfl (Nat.le_of_ble_eq_true rfl) rfl ?_
  refine Z.sub [1, 2, 3, 0] rfl ?_
  obtain ⟨y50_, h51_, hf⟩ := ob hf
  suffices K52_ : Z Θ 4 0 0 (zQ Θ ρ) y50_.2 100 [(0, .ref (zA Θ 0)), (1, .int n_a), (2, .int y21_.1), (3, .int y50_.1)] [] by
    refine loop2_Z (P := fun (code56_ : Int32) (σ57_ : St) => Z Θ 4 0 0 (zQ Θ ρ) σ57_ 76 [(0, .ref (zA Θ 0)), (1, .int n_a), (2, .int y21_.1), (3, .int code56_)] []) ?_ fuelN (0 : Int32) y3_.2 h51_
    clear h51_
    intro rec53_ code56_ σ57_ h54_ h55_
    have K60_ : code56_ < y21_.1 → Z Θ 4 0 0 (zQ Θ ρ) σ57_ 81 [(0, .ref (zA Θ 0)), (1, .int n_a), (2, .int y21_.1), (3, .int code56_)] [] := by
      intro h63_
      rw [if_pos h63_] at h55_
      obtain ⟨y64_, h65_, h55_⟩ := ob h55_
      suffices K66_ : Z Θ 4 0 0 (zQ Θ ρ) y64_ 94 [(0, .ref (zA Θ 0)), (1, .int n_a), (2, .int y21_.1), (3, .int code56_)] [] by
        refine z_aload_n C 0 dX12_counts_81 rfl rfl ?_
        refine z_iload_n C 3 dX12_counts_82 rfl rfl ?_
        refine z_iload_n C 1 dX12_counts_83 rfl rfl ?_
        obtain ⟨x69_, h70_, h65_⟩ := ob h65_
        refine cr12_410 (code_a := code56_) (n_a := n_a) C hkd  h70_ ⟨(Nat.le_of_ble_eq_true rfl), (Nat.le_of_ble_eq_true rfl)⟩ (Nat.le_of_ble_eq_true rfl) ⟨Nat.zero_le _, Nat.zero_le _⟩ dX12_counts_84 ?_
        have K67_ : x69_.1 = true → Z Θ 4 0 0 (zQ Θ ρ) x69_.2 90 [(0, .ref (zA Θ 0)), (1, .int n_a), (2, .int y21_.1), (3, .int code56_)] [] := by
          intro h72_
          rw [if_pos h72_] at h65_
          refine z_aload_n C 0 dX12_counts_90 rfl rfl ?_
          obtain ⟨x73_, h74_, h65_⟩ := ob h65_
          refine cr12_413 C hkd  h74_ ⟨(Nat.le_of_ble_eq_true rfl), (Nat.le_of_ble_eq_true rfl)⟩ (Nat.le_of_ble_eq_true rfl) ⟨Nat.zero_le _, Nat.zero_le _⟩ dX12_counts_91 ?_
          cases h65_
          exact K66_
        have K68_ : ¬ (x69_.1 = true) → Z Θ 4 0 0 (zQ Θ ρ) x69_.2 94 [(0, .ref (zA Θ 0)), (1, .int n_a), (2, .int y21_.1), (3, .int code56_)] [] := by
          intro h72_
          rw [if_neg h72_] at h65_
          cases h65_
          exact K66_
        refine cb_f C 94 dX12_counts_87 (by decide) (fun h71_ => ?_) (fun h71_ => ?_)
        · exact K67_ h71_
        · exact K68_ h71_
      obtain ⟨code75_, h76_, h55_⟩ := lt_ h55_
      refine z_inc C 3 dX12_counts_94 rfl ic_1 h76_ (Nat.le_of_ble_eq_true rfl) rfl ?_
      refine z_goto C 76 dX12_counts_97 (by decide) ?_
      refine Z.sub [1, 2, 3, 0] rfl ?_
      exact h54_ _ _ h55_
    have K61_ : ¬ (code56_ < y21_.1) → Z Θ 4 0 0 (zQ Θ ρ) σ57_ 100 [(0, .ref (zA Θ 0)), (1, .int n_a), (2, .int y21_.1), (3, .int code56_)] [] := by
      intro h63_
      rw [if_neg h63_] at h55_
      cases h55_
      exact K52_
    refine z_iload_n C 3 dX12_counts_76 rfl rfl ?_
    refine z_iload_n C 2 dX12_counts_77 rfl rfl ?_
    refine c_lt_f C 100 dX12_counts_78 (by decide) (fun h62_ => ?_) (fun h62_ => ?_)
    · exact K60_ h62_
    · exact K61_ h62_
  cases hf
  subst hρ
  exact z_vret C dX12_counts_100
theorem c12_counts {l : Launch} {kd : List KD} {w : Wp} {σ : St} {n_a : Int32} (hkd : kd = kdM) (hi : zI kd w) {r : St} (hf : q12_counts σ n_a = some r) : zM l kd w yX12_counts cX12_counts 4 none rm12_counts [.ref (w.2.2.1 0), .int n_a] σ (none, r) := zM_of rfl hi (Nat.le_of_ble_eq_true rfl) (fun Θ hl hw C => by
  obtain ⟨Θ1, Θ2, Θ3, Θ4, Θ5⟩ := Θ
  cases hw
  exact p12_counts C hkd  hf rfl)

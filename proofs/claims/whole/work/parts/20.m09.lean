/-! LastLoafModel.heard -/
theorem w_10_98 : Cond.code ({ cls := "LastLoafModel", name := "counts", desc := "(I)V" } : MethodName) prog_14_method_107_code (4 : Nat) (Option.none : Option ClassFile.FieldType) ∈ TB := tb_in (lwt_10 (List.mem_of_getElem? (i := 98) (by decide +kernel))) rfl
theorem w_10_95 : Cond.methodLink "LastLoafModel" (404 : Nat) ({ cls := "LastLoafModel", name := "counts", desc := "(I)V" } : MethodName) ∈ TB := tb_in (lwt_10 (List.mem_of_getElem? (i := 95) (by decide +kernel))) rfl
theorem w_10_97 : Cond.instanceMethod ({ cls := "LastLoafModel", name := "counts", desc := "(I)V" } : MethodName) ∈ TB := tb_in (lwt_10 (List.mem_of_getElem? (i := 97) (by decide +kernel))) rfl
theorem ws_LastLoafModel_counts_I_V : Cond.selects "LastLoafModel" (⟨"LastLoafModel", "counts", "(I)V"⟩ : MethodName) (⟨"LastLoafModel", "counts", "(I)V"⟩ : MethodName) ∈ TB := tb_in (List.mem_append_left _ (List.mem_of_getElem? (i := 83) (by decide +kernel))) rfl
theorem cr12_404 {Θ : Tz} {cc : ByteArray} {nL kc ks : Nat} {ret : Option FieldType} {rm : Room} {Q : State → Prop} {σ : St} {pc : Nat} {lv : List (Nat × Value)} {st : List Value} (C : Zc Θ cc nL RX12 ret rm) (hkd : Θ.2.2.2.2.1 = kdM) {n_a : Int32} {r : St} (hx : q12_counts σ n_a = some r) (hrm : rm12_counts.frames + 1 ≤ rm.frames ∧ 8 + (4 + 11) + rm12_counts.locals ≤ rm.locals) (hcat : (st.map fun v => v.category).sum ≤ 8) (hk : kc ≤ rm.cells ∧ ks ≤ rm.slots) (hd : decode cc pc = .ok (.invokevirtual 404, 3)) (kk : Z Θ nL kc ks Q r (pc + 3) lv st) : Z Θ nL kc ks Q σ pc lv (.int n_a :: .ref (zA Θ 0) :: st) := z_callV C 0 [.int n_a] (none, r) 1 (kM_0 hkd) rfl (c12_counts (n_a := n_a) hkd (zc_inj C) hx) w_10_98 w_10_95 w_10_97 ws_LastLoafModel_counts_I_V w_1_14 ⟨rfl, rfl, hrm.1, hrm.2⟩ (by decide +kernel) rfl rfl hcat hk hd kk
theorem dX12_heard_0 : decode cX12_heard 0 = .ok (.aload_n 0, 1) := by decide +kernel
theorem dX12_heard_1 : decode cX12_heard 1 = .ok (.getfield 76, 3) := by decide +kernel
theorem dX12_heard_4 : decode cX12_heard 4 = .ok (.istore_n 1, 1) := by decide +kernel
theorem dX12_heard_5 : decode cX12_heard 5 = .ok (.aload_n 0, 1) := by decide +kernel
theorem dX12_heard_6 : decode cX12_heard 6 = .ok (.iconst 0, 1) := by decide +kernel
theorem dX12_heard_7 : decode cX12_heard 7 = .ok (.putfield 76, 3) := by decide +kernel
theorem dX12_heard_10 : decode cX12_heard 10 = .ok (.aload_n 0, 1) := by decide +kernel
theorem dX12_heard_11 : decode cX12_heard 11 = .ok (.invokevirtual 320, 3) := by decide +kernel
theorem dX12_heard_14 : decode cX12_heard 14 = .ok (.iload_n 1, 1) := by decide +kernel
theorem dX12_heard_15 : decode cX12_heard 15 = .ok (.iconst 2, 1) := by decide +kernel
theorem dX12_heard_16 : decode cX12_heard 16 = .ok (.irem, 1) := by decide +kernel
theorem dX12_heard_17 : decode cX12_heard 17 = .ok (.ifCond .ne 13, 3) := by decide +kernel
theorem dX12_heard_20 : decode cX12_heard 20 = .ok (.iload_n 1, 1) := by decide +kernel
theorem dX12_heard_21 : decode cX12_heard 21 = .ok (.bipush 40, 2) := by decide +kernel
theorem dX12_heard_23 : decode cX12_heard 23 = .ok (.if_icmp .gt 7, 3) := by decide +kernel
theorem dX12_heard_26 : decode cX12_heard 26 = .ok (.iconst 1, 1) := by decide +kernel
theorem dX12_heard_27 : decode cX12_heard 27 = .ok (.goto 4, 3) := by decide +kernel
theorem dX12_heard_30 : decode cX12_heard 30 = .ok (.iconst 0, 1) := by decide +kernel
theorem dX12_heard_31 : decode cX12_heard 31 = .ok (.istore_n 2, 1) := by decide +kernel
theorem dX12_heard_32 : decode cX12_heard 32 = .ok (.iconst 0, 1) := by decide +kernel
theorem dX12_heard_33 : decode cX12_heard 33 = .ok (.istore_n 3, 1) := by decide +kernel
theorem dX12_heard_34 : decode cX12_heard 34 = .ok (.iload_n 3, 1) := by decide +kernel
theorem dX12_heard_35 : decode cX12_heard 35 = .ok (.iload_n 1, 1) := by decide +kernel
theorem dX12_heard_36 : decode cX12_heard 36 = .ok (.if_icmp .ge 63, 3) := by decide +kernel
theorem dX12_heard_39 : decode cX12_heard 39 = .ok (.iload_n 2, 1) := by decide +kernel
theorem dX12_heard_40 : decode cX12_heard 40 = .ok (.ifCond .eq 59, 3) := by decide +kernel
theorem dX12_heard_43 : decode cX12_heard 43 = .ok (.aload_n 0, 1) := by decide +kernel
theorem dX12_heard_44 : decode cX12_heard 44 = .ok (.getfield 22, 3) := by decide +kernel
theorem dX12_heard_47 : decode cX12_heard 47 = .ok (.iload_n 3, 1) := by decide +kernel
theorem dX12_heard_48 : decode cX12_heard 48 = .ok (.iaload, 1) := by decide +kernel
theorem dX12_heard_49 : decode cX12_heard 49 = .ok (.aload_n 0, 1) := by decide +kernel
theorem dX12_heard_50 : decode cX12_heard 50 = .ok (.getfield 7, 3) := by decide +kernel
theorem dX12_heard_53 : decode cX12_heard 53 = .ok (.iconst 3, 1) := by decide +kernel
theorem dX12_heard_54 : decode cX12_heard 54 = .ok (.iaload, 1) := by decide +kernel
theorem dX12_heard_55 : decode cX12_heard 55 = .ok (.if_icmp .ge 36, 3) := by decide +kernel
theorem dX12_heard_58 : decode cX12_heard 58 = .ok (.aload_n 0, 1) := by decide +kernel
theorem dX12_heard_59 : decode cX12_heard 59 = .ok (.getfield 269, 3) := by decide +kernel
theorem dX12_heard_62 : decode cX12_heard 62 = .ok (.aload_n 0, 1) := by decide +kernel
theorem dX12_heard_63 : decode cX12_heard 63 = .ok (.getfield 22, 3) := by decide +kernel
theorem dX12_heard_66 : decode cX12_heard 66 = .ok (.iload_n 3, 1) := by decide +kernel
theorem dX12_heard_67 : decode cX12_heard 67 = .ok (.iaload, 1) := by decide +kernel
theorem dX12_heard_68 : decode cX12_heard 68 = .ok (.invokestatic 275, 3) := by decide +kernel
theorem dX12_heard_71 : decode cX12_heard 71 = .ok (.ifCond .eq 20, 3) := by decide +kernel
theorem dX12_heard_74 : decode cX12_heard 74 = .ok (.aload_n 0, 1) := by decide +kernel
theorem dX12_heard_75 : decode cX12_heard 75 = .ok (.getfield 22, 3) := by decide +kernel
theorem dX12_heard_78 : decode cX12_heard 78 = .ok (.iload_n 3, 1) := by decide +kernel
theorem dX12_heard_79 : decode cX12_heard 79 = .ok (.iconst 1, 1) := by decide +kernel
theorem dX12_heard_80 : decode cX12_heard 80 = .ok (.iadd, 1) := by decide +kernel
theorem dX12_heard_81 : decode cX12_heard 81 = .ok (.iaload, 1) := by decide +kernel
theorem dX12_heard_82 : decode cX12_heard 82 = .ok (.bipush 6, 2) := by decide +kernel
theorem dX12_heard_84 : decode cX12_heard 84 = .ok (.if_icmp .gt 7, 3) := by decide +kernel
theorem dX12_heard_87 : decode cX12_heard 87 = .ok (.iconst 1, 1) := by decide +kernel
theorem dX12_heard_88 : decode cX12_heard 88 = .ok (.goto 4, 3) := by decide +kernel
theorem dX12_heard_91 : decode cX12_heard 91 = .ok (.iconst 0, 1) := by decide +kernel
theorem dX12_heard_92 : decode cX12_heard 92 = .ok (.istore_n 2, 1) := by decide +kernel
theorem dX12_heard_93 : decode cX12_heard 93 = .ok (.iinc 3 2, 3) := by decide +kernel
theorem dX12_heard_96 : decode cX12_heard 96 = .ok (.goto (-62), 3) := by decide +kernel
theorem dX12_heard_99 : decode cX12_heard 99 = .ok (.iload_n 2, 1) := by decide +kernel
theorem dX12_heard_100 : decode cX12_heard 100 = .ok (.ifCond .eq 8, 3) := by decide +kernel
theorem dX12_heard_103 : decode cX12_heard 103 = .ok (.aload_n 0, 1) := by decide +kernel
theorem dX12_heard_104 : decode cX12_heard 104 = .ok (.iload_n 1, 1) := by decide +kernel
theorem dX12_heard_105 : decode cX12_heard 105 = .ok (.invokevirtual 404, 3) := by decide +kernel
theorem dX12_heard_108 : decode cX12_heard 108 = .ok (.iload_n 2, 1) := by decide +kernel
theorem dX12_heard_109 : decode cX12_heard 109 = .ok (.ireturn, 1) := by decide +kernel
def q12_heard (σ : St) : Option (Bool × St) :=
  lt (σ 0 8) fun n1_ =>
  lt (up σ 0 8 0) fun σ3_ =>
  Option.bind (q12_looks σ3_) fun x5_ =>
  lt (decide (((irm n1_ 2) = 0) ∧ (n1_ ≤ 40))) fun good13_ =>
  Option.bind (loop2 (fun rec18_ (good21_ : Bool) (k22_ : Int32) =>
  if (k22_ < n1_) ∧ (good21_ = true) then
  Option.bind (Option.bind (Option.bind (ag x5_ 5 400 k22_) fun x37_ =>
  Option.bind (ag x5_ 1 752 3) fun x39_ =>
  if x37_ < x39_ then (Option.bind (ag x5_ 5 400 k22_) fun x42_ =>
  if q12_isOf (x5_ 0 21) x42_ = true then (Option.bind (ag x5_ 5 400 (k22_ + 1)) fun x45_ =>
  if x45_ ≤ 6 then (some true) else (some false)) else (some false)) else (some false)) fun t35_ =>
  if t35_ = true then (some true) else (some false)) fun x30_ =>
  lt (k22_ + 2) fun k49_ =>
  rec18_ x30_ k49_
  else (some (good21_, k22_))) fuelN good13_ (0 : Int32)) fun y15_ =>
  Option.bind (if y15_.1 = true then (Option.bind (q12_counts x5_ n1_) fun x58_ =>
  some (x58_)) else (some (x5_))) fun y51_ =>
  some (y15_.1, y51_)
abbrev rm12_heard : Room := { frames := 77, cells := 0, slots := 0, locals := 4194 }
set_option maxHeartbeats 4000000 in
set_option maxRecDepth 100000 in
theorem p12_heard {Θ : Tz} {σ : St} {ρ : Option Value × St} (C : Zc Θ cX12_heard 4 RX12 (some .boolean) rm12_heard) (hkd : Θ.2.2.2.2.1 = kdM) {r : (Bool × St)} (hf : q12_heard σ = some r) (hρ : ρ = (some (.int (b2i r.1)), r.2)) : Z Θ 4 0 0 (zQ Θ ρ) σ 0 [(0, .ref (zA Θ 0))] [] := by
  unfold q12_heard at hf
  refine z_aload_n C 0 dX12_heard_0 rfl rfl ?_
  refine fg12_76 C hkd dX12_heard_1 ?_
  obtain ⟨n1_, h2_, hf⟩ := lt_ hf
  refine z_istN C dX12_heard_4 h2_ rfl (Nat.le_of_ble_eq_true rfl) rfl ?_
  refine z_aload_n C 1 dX12_heard_5 rfl rfl ?_
  refine z_iconst (v := 0) C dX12_heard_6 ic_0 ?_
  obtain ⟨σ3_, h4_, hf⟩ := lt_ hf
  refine fp12_76 C hkd h4_ dX12_heard_7 ?_
  refine z_aload_n C 1 dX12_heard_10 rfl rfl ?_
  obtain ⟨x5_, h6_, hf⟩ := ob hf
  refine cr12_320 C hkd  h6_ ⟨(Nat.le_of_ble_eq_true rfl), (Nat.le_of_ble_eq_true rfl)⟩ (Nat.le_of_ble_eq_true rfl) ⟨Nat.zero_le _, Nat.zero_le _⟩ dX12_heard_11 ?_
  suffices K7_ : Z Θ 4 0 0 (zQ Θ ρ) x5_ 31 [(1, .int n1_), (0, .ref (zA Θ 0))] [.int (b2i (decide (((irm n1_ 2) = 0) ∧ (n1_ ≤ 40))))] by
    have K8_ : ((irm n1_ 2) = 0) ∧ (n1_ ≤ 40) → Z Θ 4 0 0 (zQ Θ ρ) x5_ 26 [(1, .int n1_), (0, .ref (zA Θ 0))] [] := by
      intro h12_
      rw [decide_eq_true h12_] at K7_
      refine z_iconst (v := 1) C dX12_heard_26 ic_1 ?_
      refine z_goto C 31 dX12_heard_27 (by decide) ?_
      exact K7_
    have K9_ : ¬ (((irm n1_ 2) = 0) ∧ (n1_ ≤ 40)) → Z Θ 4 0 0 (zQ Θ ρ) x5_ 30 [(1, .int n1_), (0, .ref (zA Θ 0))] [] := by
      intro h12_
      rw [decide_eq_false h12_] at K7_
      refine z_iconst (v := 0) C dX12_heard_30 ic_0 ?_
      exact K7_
    refine z_iload_n C 0 dX12_heard_14 rfl rfl ?_
    refine z_iconst (v := 2) C dX12_heard_15 ic_2 ?_
    refine z_irm C (by decide) dX12_heard_16 ?_
    refine c0_eq_f C 30 dX12_heard_17 (by decide) (fun h10_ => ?_) (fun h10_ => ?_)
    · refine z_iload_n C 0 dX12_heard_20 rfl rfl ?_
      refine z_bipush (v := 40) C dX12_heard_21 bp_40 ?_
      refine c_le_f C 30 dX12_heard_23 (by decide) (fun h11_ => ?_) (fun h11_ => ?_)
      · exact K8_ ⟨h10_, h11_⟩
      · exact K9_ (fun n => h11_ n.2)
    · exact K9_ (fun n => h10_ n.1)
  obtain ⟨good13_, h14_, hf⟩ := lt_ hf
  refine z_istN C dX12_heard_31 (congrArg b2i h14_) rfl (Nat.le_of_ble_eq_true rfl) rfl ?_
  refine z_iconst (v := 0) C dX12_heard_32 ic_0 ?_
  refine z_istN C dX12_heard_33 rfl rfl (Nat.le_of_ble_eq_true rfl) rfl ?_
  refine Z.sub [3, 2, 1, 0] rfl ?_
  obtain ⟨y15_, h16_, hf⟩ := ob hf
  suffices K17_ : Z Θ 4 0 0 (zQ Θ ρ) x5_ 99 [(0, .ref (zA Θ 0)), (1, .int n1_), (2, .int (b2i y15_.1)), (3, .int y15_.2)] [] by
    refine loop2_Z (P := fun (good21_ : Bool) (k22_ : Int32) => Z Θ 4 0 0 (zQ Θ ρ) x5_ 34 [(0, .ref (zA Θ 0)), (1, .int n1_), (2, .int (b2i good21_)), (3, .int k22_)] []) ?_ fuelN good13_ (0 : Int32) h16_
    clear h16_
    intro rec18_ good21_ k22_ h19_ h20_
    have K25_ : (k22_ < n1_) ∧ (good21_ = true) → Z Θ 4 0 0 (zQ Θ ρ) x5_ 43 [(0, .ref (zA Θ 0)), (1, .int n1_), (2, .int (b2i good21_)), (3, .int k22_)] [] := by
      intro h29_
      rw [if_pos h29_] at h20_
      obtain ⟨x30_, h31_, h20_⟩ := ob h20_
      suffices K32_ : Z Θ 4 0 0 (zQ Θ ρ) x5_ 92 [(0, .ref (zA Θ 0)), (1, .int n1_), (2, .int (b2i good21_)), (3, .int k22_)] [.int (b2i x30_)] by
        obtain ⟨t35_, h36_, h31_⟩ := ob h31_
        have K33_ : t35_ = true → Z Θ 4 0 0 (zQ Θ ρ) x5_ 87 [(0, .ref (zA Θ 0)), (1, .int n1_), (2, .int (b2i good21_)), (3, .int k22_)] [] := by
          intro h48_
          rw [if_pos h48_] at h31_
          refine z_iconst (v := 1) C dX12_heard_87 ic_1 ?_
          refine z_goto C 92 dX12_heard_88 (by decide) ?_
          cases h31_
          exact K32_
        have K34_ : ¬ (t35_ = true) → Z Θ 4 0 0 (zQ Θ ρ) x5_ 91 [(0, .ref (zA Θ 0)), (1, .int n1_), (2, .int (b2i good21_)), (3, .int k22_)] [] := by
          intro h48_
          rw [if_neg h48_] at h31_
          refine z_iconst (v := 0) C dX12_heard_91 ic_0 ?_
          cases h31_
          exact K32_
        refine z_aload_n C 0 dX12_heard_43 rfl rfl ?_
        refine fg12_22 C hkd dX12_heard_44 ?_
        refine z_iload_n C 3 dX12_heard_47 rfl rfl ?_
        obtain ⟨x37_, h38_, h36_⟩ := ob h36_
        refine z_ag C h38_ (kM_5 hkd) dX12_heard_48 ?_
        refine z_aload_n C 0 dX12_heard_49 rfl rfl ?_
        refine fg12_7 C hkd dX12_heard_50 ?_
        refine z_iconst (v := 3) C dX12_heard_53 ic_3 ?_
        obtain ⟨x39_, h40_, h36_⟩ := ob h36_
        refine z_ag C h40_ (kM_1 hkd) dX12_heard_54 ?_
        refine c_lt_f C 91 dX12_heard_55 (by decide) (fun h41_ => ?_) (fun h41_ => ?_)
        · rw [if_pos h41_] at h36_
          refine z_aload_n C 0 dX12_heard_58 rfl rfl ?_
          refine fg12_269 C hkd dX12_heard_59 ?_
          refine z_aload_n C 0 dX12_heard_62 rfl rfl ?_
          refine fg12_22 C hkd dX12_heard_63 ?_
          refine z_iload_n C 3 dX12_heard_66 rfl rfl ?_
          obtain ⟨x42_, h43_, h36_⟩ := ob h36_
          refine z_ag C h43_ (kM_5 hkd) dX12_heard_67 ?_
          refine cr12_275 (set_a := (x5_ 0 21)) (k_a := x42_) C hkd  ⟨(Nat.le_of_ble_eq_true rfl), (Nat.le_of_ble_eq_true rfl)⟩ (Nat.le_of_ble_eq_true rfl) ⟨Nat.zero_le _, Nat.zero_le _⟩ dX12_heard_68 ?_
          refine cb_f C 91 dX12_heard_71 (by decide) (fun h44_ => ?_) (fun h44_ => ?_)
          · rw [if_pos h44_] at h36_
            refine z_aload_n C 0 dX12_heard_74 rfl rfl ?_
            refine fg12_22 C hkd dX12_heard_75 ?_
            refine z_iload_n C 3 dX12_heard_78 rfl rfl ?_
            refine z_iconst (v := 1) C dX12_heard_79 ic_1 ?_
            refine z_iadd C dX12_heard_80 ?_
            obtain ⟨x45_, h46_, h36_⟩ := ob h36_
            refine z_ag C h46_ (kM_5 hkd) dX12_heard_81 ?_
            refine z_bipush (v := 6) C dX12_heard_82 bp_6 ?_
            refine c_le_f C 91 dX12_heard_84 (by decide) (fun h47_ => ?_) (fun h47_ => ?_)
            · rw [if_pos h47_] at h36_
              cases h36_
              exact K33_ rfl
            · rw [if_neg h47_] at h36_
              cases h36_
              exact K34_ Bool.false_ne_true
          · rw [if_neg h44_] at h36_
            cases h36_
            exact K34_ Bool.false_ne_true
        · rw [if_neg h41_] at h36_
          cases h36_
          exact K34_ Bool.false_ne_true
      refine z_istN C dX12_heard_92 rfl rfl (Nat.le_of_ble_eq_true rfl) rfl ?_
      obtain ⟨k49_, h50_, h20_⟩ := lt_ h20_
      refine z_inc C 3 dX12_heard_93 rfl ic_2 h50_ (Nat.le_of_ble_eq_true rfl) rfl ?_
      refine z_goto C 34 dX12_heard_96 (by decide) ?_
      refine Z.sub [2, 3, 1, 0] rfl ?_
      exact h19_ _ _ h20_
    have K26_ : ¬ ((k22_ < n1_) ∧ (good21_ = true)) → Z Θ 4 0 0 (zQ Θ ρ) x5_ 99 [(0, .ref (zA Θ 0)), (1, .int n1_), (2, .int (b2i good21_)), (3, .int k22_)] [] := by
      intro h29_
      rw [if_neg h29_] at h20_
      cases h20_
      exact K17_
    refine z_iload_n C 3 dX12_heard_34 rfl rfl ?_
    refine z_iload_n C 1 dX12_heard_35 rfl rfl ?_
    refine c_lt_f C 99 dX12_heard_36 (by decide) (fun h27_ => ?_) (fun h27_ => ?_)
    · refine z_iload_n C 2 dX12_heard_39 rfl rfl ?_
      refine cb_f C 99 dX12_heard_40 (by decide) (fun h28_ => ?_) (fun h28_ => ?_)
      · exact K25_ ⟨h27_, h28_⟩
      · exact K26_ (fun n => h28_ n.2)
    · exact K26_ (fun n => h27_ n.1)
  obtain ⟨y51_, h52_, hf⟩ := ob hf
  suffices K53_ : Z Θ 4 0 0 (zQ Θ ρ) y51_ 108 [(0, .ref (zA Θ 0)), (1, .int n1_), (2, .int (b2i y15_.1))] [] by
    have K54_ : y15_.1 = true → Z Θ 4 0 0 (zQ Θ ρ) x5_ 103 [(0, .ref (zA Θ 0)), (1, .int n1_), (2, .int (b2i y15_.1)), (3, .int y15_.2)] [] := by
      intro h57_
      rw [if_pos h57_] at h52_
      refine z_aload_n C 0 dX12_heard_103 rfl rfl ?_
      refine z_iload_n C 1 dX12_heard_104 rfl rfl ?_
      obtain ⟨x58_, h59_, h52_⟩ := ob h52_
      refine cr12_404 (n_a := n1_) C hkd  h59_ ⟨(Nat.le_of_ble_eq_true rfl), (Nat.le_of_ble_eq_true rfl)⟩ (Nat.le_of_ble_eq_true rfl) ⟨Nat.zero_le _, Nat.zero_le _⟩ dX12_heard_105 ?_
      cases h52_
      refine Z.sub [0, 1, 2] rfl ?_
      exact K53_
    have K55_ : ¬ (y15_.1 = true) → Z Θ 4 0 0 (zQ Θ ρ) x5_ 108 [(0, .ref (zA Θ 0)), (1, .int n1_), (2, .int (b2i y15_.1)), (3, .int y15_.2)] [] := by
      intro h57_
      rw [if_neg h57_] at h52_
      cases h52_
      refine Z.sub [0, 1, 2] rfl ?_
      exact K53_
    refine z_iload_n C 2 dX12_heard_99 rfl rfl ?_
    refine cb_f C 108 dX12_heard_100 (by decide) (fun h56_ => ?_) (fun h56_ => ?_)
    · exact K54_ h56_
    · exact K55_ h56_
  refine z_iload_n C 2 dX12_heard_108 rfl rfl ?_
  cases hf
  subst hρ
  exact z_zret C (b2i_narrow _) dX12_heard_109
theorem c12_heard {l : Launch} {kd : List KD} {w : Wp} {σ : St} (hkd : kd = kdM) (hi : zI kd w) {r : (Bool × St)} (hf : q12_heard σ = some r) : zM l kd w yX12_heard cX12_heard 4 (some .boolean) rm12_heard [.ref (w.2.2.1 0)] σ (some (.int (b2i r.1)), r.2) := zM_of rfl hi (Nat.le_of_ble_eq_true rfl) (fun Θ hl hw C => by
  obtain ⟨Θ1, Θ2, Θ3, Θ4, Θ5⟩ := Θ
  cases hw
  exact p12_heard C hkd  hf rfl)
/-! LastLoafModel.ballots -/
theorem w_10_94 : Cond.code ({ cls := "LastLoafModel", name := "heard", desc := "()Z" } : MethodName) prog_14_method_106_code (4 : Nat) (Option.some ClassFile.FieldType.boolean) ∈ TB := tb_in (lwt_10 (List.mem_of_getElem? (i := 94) (by decide +kernel))) rfl
theorem w_10_91 : Cond.methodLink "LastLoafModel" (419 : Nat) ({ cls := "LastLoafModel", name := "heard", desc := "()Z" } : MethodName) ∈ TB := tb_in (lwt_10 (List.mem_of_getElem? (i := 91) (by decide +kernel))) rfl
theorem w_10_93 : Cond.instanceMethod ({ cls := "LastLoafModel", name := "heard", desc := "()Z" } : MethodName) ∈ TB := tb_in (lwt_10 (List.mem_of_getElem? (i := 93) (by decide +kernel))) rfl
theorem ws_LastLoafModel_heard__Z : Cond.selects "LastLoafModel" (⟨"LastLoafModel", "heard", "()Z"⟩ : MethodName) (⟨"LastLoafModel", "heard", "()Z"⟩ : MethodName) ∈ TB := tb_in (List.mem_append_left _ (List.mem_of_getElem? (i := 82) (by decide +kernel))) rfl
theorem cr12_419 {Θ : Tz} {cc : ByteArray} {nL kc ks : Nat} {ret : Option FieldType} {rm : Room} {Q : State → Prop} {σ : St} {pc : Nat} {lv : List (Nat × Value)} {st : List Value} (C : Zc Θ cc nL RX12 ret rm) (hkd : Θ.2.2.2.2.1 = kdM) {r : Bool × St} (hx : q12_heard σ = some r) (hrm : rm12_heard.frames + 1 ≤ rm.frames ∧ 8 + (4 + 11) + rm12_heard.locals ≤ rm.locals) (hcat : (st.map fun v => v.category).sum ≤ 8) (hk : kc ≤ rm.cells ∧ ks ≤ rm.slots) (hd : decode cc pc = .ok (.invokevirtual 419, 3)) (kk : Z Θ nL kc ks Q r.2 (pc + 3) lv (.int (b2i r.1) :: st)) : Z Θ nL kc ks Q σ pc lv (.ref (zA Θ 0) :: st) := z_callV C 0 [] (some (.int (b2i r.1)), r.2) 0 (kM_0 hkd) rfl (c12_heard hkd (zc_inj C) hx) w_10_94 w_10_91 w_10_93 ws_LastLoafModel_heard__Z w_1_14 ⟨rfl, rfl, hrm.1, hrm.2⟩ (by decide +kernel) rfl rfl hcat hk hd kk
theorem dX12_ballots_0 : decode cX12_ballots 0 = .ok (.aload_n 0, 1) := by decide +kernel
theorem dX12_ballots_1 : decode cX12_ballots 1 = .ok (.aload_n 0, 1) := by decide +kernel
theorem dX12_ballots_2 : decode cX12_ballots 2 = .ok (.invokevirtual 419, 3) := by decide +kernel
theorem dX12_ballots_5 : decode cX12_ballots 5 = .ok (.ifCond .eq 7, 3) := by decide +kernel
theorem dX12_ballots_8 : decode cX12_ballots 8 = .ok (.iconst 0, 1) := by decide +kernel
theorem dX12_ballots_9 : decode cX12_ballots 9 = .ok (.goto 4, 3) := by decide +kernel
theorem dX12_ballots_12 : decode cX12_ballots 12 = .ok (.iconst 1, 1) := by decide +kernel
theorem dX12_ballots_13 : decode cX12_ballots 13 = .ok (.putfield 65, 3) := by decide +kernel
theorem dX12_ballots_16 : decode cX12_ballots 16 = .ok (.aload_n 0, 1) := by decide +kernel
theorem dX12_ballots_17 : decode cX12_ballots 17 = .ok (.getfield 65, 3) := by decide +kernel
theorem dX12_ballots_20 : decode cX12_ballots 20 = .ok (.ifCond .le 7, 3) := by decide +kernel
theorem dX12_ballots_23 : decode cX12_ballots 23 = .ok (.iconst 0, 1) := by decide +kernel
theorem dX12_ballots_24 : decode cX12_ballots 24 = .ok (.goto 13, 3) := by decide +kernel
theorem dX12_ballots_27 : decode cX12_ballots 27 = .ok (.sipush 9999, 3) := by decide +kernel
theorem dX12_ballots_30 : decode cX12_ballots 30 = .ok (.aload_n 0, 1) := by decide +kernel
theorem dX12_ballots_31 : decode cX12_ballots 31 = .ok (.getfield 407, 3) := by decide +kernel
theorem dX12_ballots_34 : decode cX12_ballots 34 = .ok (.invokestatic 313, 3) := by decide +kernel
theorem dX12_ballots_37 : decode cX12_ballots 37 = .ok (.ireturn, 1) := by decide +kernel
def q12_ballots (σ : St) : Option (Int32 × St) :=
  Option.bind (Option.bind (q12_heard σ) fun x6_ =>
  if x6_.1 = true then (some ((0 : Int32), x6_.2)) else (some ((1 : Int32), x6_.2))) fun x1_ =>
  lt (up x1_.2 0 0 x1_.1) fun σ10_ =>
  some (if 0 < (σ10_ 0 0) then 0 else q12_lesser 9999 (σ10_ 0 32), σ10_)
abbrev rm12_ballots : Room := { frames := 78, cells := 0, slots := 0, locals := 4217 }
set_option maxHeartbeats 4000000 in
set_option maxRecDepth 100000 in
theorem p12_ballots {Θ : Tz} {σ : St} {ρ : Option Value × St} (C : Zc Θ cX12_ballots 1 RX12 (some .int) rm12_ballots) (hkd : Θ.2.2.2.2.1 = kdM) {r : (Int32 × St)} (hf : q12_ballots σ = some r) (hρ : ρ = (some (.int r.1), r.2)) : Z Θ 1 0 0 (zQ Θ ρ) σ 0 [(0, .ref (zA Θ 0))] [] := by
  unfold q12_ballots at hf
  refine z_aload_n C 0 dX12_ballots_0 rfl rfl ?_
  obtain ⟨x1_, h2_, hf⟩ := ob hf
  suffices K3_ : Z Θ 1 0 0 (zQ Θ ρ) x1_.2 13 [(0, .ref (zA Θ 0))] [.int x1_.1, .ref (zA Θ 0)] by
    refine z_aload_n C 0 dX12_ballots_1 rfl rfl ?_
    obtain ⟨x6_, h7_, h2_⟩ := ob h2_
    refine cr12_419 C hkd  h7_ ⟨(Nat.le_of_ble_eq_true rfl), (Nat.le_of_ble_eq_true rfl)⟩ (Nat.le_of_ble_eq_true rfl) ⟨Nat.zero_le _, Nat.zero_le _⟩ dX12_ballots_2 ?_
    have K4_ : x6_.1 = true → Z Θ 1 0 0 (zQ Θ ρ) x6_.2 8 [(0, .ref (zA Θ 0))] [.ref (zA Θ 0)] := by
      intro h9_
      rw [if_pos h9_] at h2_
      refine z_iconst (v := 0) C dX12_ballots_8 ic_0 ?_
      refine z_goto C 13 dX12_ballots_9 (by decide) ?_
      cases h2_
      exact K3_
    have K5_ : ¬ (x6_.1 = true) → Z Θ 1 0 0 (zQ Θ ρ) x6_.2 12 [(0, .ref (zA Θ 0))] [.ref (zA Θ 0)] := by
      intro h9_
      rw [if_neg h9_] at h2_
      refine z_iconst (v := 1) C dX12_ballots_12 ic_1 ?_
      cases h2_
      exact K3_
    refine cb_f C 12 dX12_ballots_5 (by decide) (fun h8_ => ?_) (fun h8_ => ?_)
    · exact K4_ h8_
    · exact K5_ h8_
  obtain ⟨σ10_, h11_, hf⟩ := lt_ hf
  refine fp12_65 C hkd h11_ dX12_ballots_13 ?_
  suffices K12_ : Z Θ 1 0 0 (zQ Θ ρ) σ10_ 37 [(0, .ref (zA Θ 0))] [.int (if 0 < (σ10_ 0 0) then 0 else q12_lesser 9999 (σ10_ 0 32))] by
    have K13_ : 0 < (σ10_ 0 0) → Z Θ 1 0 0 (zQ Θ ρ) σ10_ 23 [(0, .ref (zA Θ 0))] [] := by
      intro h16_
      rw [if_pos h16_] at K12_
      refine z_iconst (v := 0) C dX12_ballots_23 ic_0 ?_
      refine z_goto C 37 dX12_ballots_24 (by decide) ?_
      exact K12_
    have K14_ : ¬ (0 < (σ10_ 0 0)) → Z Θ 1 0 0 (zQ Θ ρ) σ10_ 27 [(0, .ref (zA Θ 0))] [] := by
      intro h16_
      rw [if_neg h16_] at K12_
      refine z_sipush (v := 9999) C dX12_ballots_27 sp_9999 ?_
      refine z_aload_n C 0 dX12_ballots_30 rfl rfl ?_
      refine fg12_407 C hkd dX12_ballots_31 ?_
      refine cr12_313 (a_a := 9999) (b_a := (σ10_ 0 32)) C hkd  ⟨(Nat.le_of_ble_eq_true rfl), (Nat.le_of_ble_eq_true rfl)⟩ (Nat.le_of_ble_eq_true rfl) ⟨Nat.zero_le _, Nat.zero_le _⟩ dX12_ballots_34 ?_
      exact K12_
    refine z_aload_n C 0 dX12_ballots_16 rfl rfl ?_
    refine fg12_65 C hkd dX12_ballots_17 ?_
    refine c0_gt_f C 27 dX12_ballots_20 (by decide) (fun h15_ => ?_) (fun h15_ => ?_)
    · exact K13_ h15_
    · exact K14_ h15_
  cases hf
  subst hρ
  exact z_iret C dX12_ballots_37
theorem c12_ballots {l : Launch} {kd : List KD} {w : Wp} {σ : St} (hkd : kd = kdM) (hi : zI kd w) {r : (Int32 × St)} (hf : q12_ballots σ = some r) : zM l kd w yX12_ballots cX12_ballots 1 (some .int) rm12_ballots [.ref (w.2.2.1 0)] σ (some (.int r.1), r.2) := zM_of rfl hi (Nat.le_of_ble_eq_true rfl) (fun Θ hl hw C => by
  obtain ⟨Θ1, Θ2, Θ3, Θ4, Θ5⟩ := Θ
  cases hw
  exact p12_ballots C hkd  hf rfl)
/-! LastLoafModel.sure -/
theorem dX12_sure_0 : decode cX12_sure 0 = .ok (.aload_n 0, 1) := by decide +kernel
theorem dX12_sure_1 : decode cX12_sure 1 = .ok (.iload_n 1, 1) := by decide +kernel
theorem dX12_sure_2 : decode cX12_sure 2 = .ok (.invokevirtual 347, 3) := by decide +kernel
theorem dX12_sure_5 : decode cX12_sure 5 = .ok (.ifCond .ne 15, 3) := by decide +kernel
theorem dX12_sure_8 : decode cX12_sure 8 = .ok (.aload_n 0, 1) := by decide +kernel
theorem dX12_sure_9 : decode cX12_sure 9 = .ok (.iconst 0, 1) := by decide +kernel
theorem dX12_sure_10 : decode cX12_sure 10 = .ok (.putfield 76, 3) := by decide +kernel
theorem dX12_sure_13 : decode cX12_sure 13 = .ok (.aload_n 0, 1) := by decide +kernel
theorem dX12_sure_14 : decode cX12_sure 14 = .ok (.iconst 1, 1) := by decide +kernel
theorem dX12_sure_15 : decode cX12_sure 15 = .ok (.putfield 65, 3) := by decide +kernel
theorem dX12_sure_18 : decode cX12_sure 18 = .ok (.iconst 0, 1) := by decide +kernel
theorem dX12_sure_19 : decode cX12_sure 19 = .ok (.ireturn, 1) := by decide +kernel
theorem dX12_sure_20 : decode cX12_sure 20 = .ok (.aload_n 0, 1) := by decide +kernel
theorem dX12_sure_21 : decode cX12_sure 21 = .ok (.aload_n 0, 1) := by decide +kernel
theorem dX12_sure_22 : decode cX12_sure 22 = .ok (.invokevirtual 419, 3) := by decide +kernel
theorem dX12_sure_25 : decode cX12_sure 25 = .ok (.ifCond .eq 7, 3) := by decide +kernel
theorem dX12_sure_28 : decode cX12_sure 28 = .ok (.iconst 0, 1) := by decide +kernel
theorem dX12_sure_29 : decode cX12_sure 29 = .ok (.goto 4, 3) := by decide +kernel
theorem dX12_sure_32 : decode cX12_sure 32 = .ok (.iconst 2, 1) := by decide +kernel
theorem dX12_sure_33 : decode cX12_sure 33 = .ok (.putfield 65, 3) := by decide +kernel
theorem dX12_sure_36 : decode cX12_sure 36 = .ok (.aload_n 0, 1) := by decide +kernel
theorem dX12_sure_37 : decode cX12_sure 37 = .ok (.getfield 65, 3) := by decide +kernel
theorem dX12_sure_40 : decode cX12_sure 40 = .ok (.ifCond .gt 21, 3) := by decide +kernel
theorem dX12_sure_43 : decode cX12_sure 43 = .ok (.aload_n 0, 1) := by decide +kernel
theorem dX12_sure_44 : decode cX12_sure 44 = .ok (.getfield 407, 3) := by decide +kernel
theorem dX12_sure_47 : decode cX12_sure 47 = .ok (.ifCond .eq 14, 3) := by decide +kernel
theorem dX12_sure_50 : decode cX12_sure 50 = .ok (.aload_n 0, 1) := by decide +kernel
theorem dX12_sure_51 : decode cX12_sure 51 = .ok (.getfield 263, 3) := by decide +kernel
theorem dX12_sure_54 : decode cX12_sure 54 = .ok (.iload_n 1, 1) := by decide +kernel
theorem dX12_sure_55 : decode cX12_sure 55 = .ok (.invokestatic 275, 3) := by decide +kernel
theorem dX12_sure_58 : decode cX12_sure 58 = .ok (.ifCond .ne 16, 3) := by decide +kernel
theorem dX12_sure_61 : decode cX12_sure 61 = .ok (.aload_n 0, 1) := by decide +kernel
theorem dX12_sure_62 : decode cX12_sure 62 = .ok (.getfield 65, 3) := by decide +kernel
theorem dX12_sure_65 : decode cX12_sure 65 = .ok (.ifCond .le 7, 3) := by decide +kernel
theorem dX12_sure_68 : decode cX12_sure 68 = .ok (.iconst 0, 1) := by decide +kernel
theorem dX12_sure_69 : decode cX12_sure 69 = .ok (.goto 4, 3) := by decide +kernel
theorem dX12_sure_72 : decode cX12_sure 72 = .ok (.iconst (-1), 1) := by decide +kernel
theorem dX12_sure_73 : decode cX12_sure 73 = .ok (.ireturn, 1) := by decide +kernel
theorem dX12_sure_74 : decode cX12_sure 74 = .ok (.iconst (-1), 1) := by decide +kernel
theorem dX12_sure_75 : decode cX12_sure 75 = .ok (.istore_n 2, 1) := by decide +kernel
theorem dX12_sure_76 : decode cX12_sure 76 = .ok (.iconst 0, 1) := by decide +kernel
theorem dX12_sure_77 : decode cX12_sure 77 = .ok (.istore_n 3, 1) := by decide +kernel
theorem dX12_sure_78 : decode cX12_sure 78 = .ok (.iload_n 3, 1) := by decide +kernel
theorem dX12_sure_79 : decode cX12_sure 79 = .ok (.aload_n 0, 1) := by decide +kernel
theorem dX12_sure_80 : decode cX12_sure 80 = .ok (.getfield 7, 3) := by decide +kernel
theorem dX12_sure_83 : decode cX12_sure 83 = .ok (.iconst 3, 1) := by decide +kernel
theorem dX12_sure_84 : decode cX12_sure 84 = .ok (.iaload, 1) := by decide +kernel
theorem dX12_sure_85 : decode cX12_sure 85 = .ok (.if_icmp .ge 29, 3) := by decide +kernel
theorem dX12_sure_88 : decode cX12_sure 88 = .ok (.aload_n 0, 1) := by decide +kernel
theorem dX12_sure_89 : decode cX12_sure 89 = .ok (.getfield 53, 3) := by decide +kernel
theorem dX12_sure_92 : decode cX12_sure 92 = .ok (.bipush 7, 2) := by decide +kernel
theorem dX12_sure_94 : decode cX12_sure 94 = .ok (.iload_n 1, 1) := by decide +kernel
theorem dX12_sure_95 : decode cX12_sure 95 = .ok (.imul, 1) := by decide +kernel
theorem dX12_sure_96 : decode cX12_sure 96 = .ok (.iload_n 3, 1) := by decide +kernel
theorem dX12_sure_97 : decode cX12_sure 97 = .ok (.iadd, 1) := by decide +kernel
theorem dX12_sure_98 : decode cX12_sure 98 = .ok (.iaload, 1) := by decide +kernel
theorem dX12_sure_99 : decode cX12_sure 99 = .ok (.aload_n 0, 1) := by decide +kernel
theorem dX12_sure_100 : decode cX12_sure 100 = .ok (.getfield 407, 3) := by decide +kernel
theorem dX12_sure_103 : decode cX12_sure 103 = .ok (.if_icmp .ne 5, 3) := by decide +kernel
theorem dX12_sure_106 : decode cX12_sure 106 = .ok (.iload_n 3, 1) := by decide +kernel
theorem dX12_sure_107 : decode cX12_sure 107 = .ok (.istore_n 2, 1) := by decide +kernel
theorem dX12_sure_108 : decode cX12_sure 108 = .ok (.iinc 3 1, 3) := by decide +kernel
theorem dX12_sure_111 : decode cX12_sure 111 = .ok (.goto (-33), 3) := by decide +kernel
theorem dX12_sure_114 : decode cX12_sure 114 = .ok (.iload_n 2, 1) := by decide +kernel
theorem dX12_sure_115 : decode cX12_sure 115 = .ok (.ireturn, 1) := by decide +kernel
def q12_sure (σ : St) (p_a : Int32) : Option (Int32 × St) :=
  Option.bind (q12_isOne σ p_a) fun x3_ =>
  if ¬ (x3_ = true) then (lt (up σ 0 8 0) fun σ7_ =>
  lt (up σ7_ 0 0 1) fun σ9_ =>
  some (0, σ9_)) else
  Option.bind (Option.bind (q12_heard σ) fun x16_ =>
  if x16_.1 = true then (some ((0 : Int32), x16_.2)) else (some ((2 : Int32), x16_.2))) fun x11_ =>
  lt (up x11_.2 0 0 x11_.1) fun σ20_ =>
  if ((0 < (σ20_ 0 0)) ∨ ((σ20_ 0 32) = 0)) ∨ (¬ (q12_isOf (σ20_ 0 20) p_a = true)) then (some (if 0 < (σ20_ 0 0) then 0 else (-1), σ20_)) else
  Option.bind (loop2 (fun rec36_ (found39_ : Int32) (o40_ : Int32) =>
  Option.bind (ag σ20_ 1 752 3) fun x45_ =>
  if o40_ < x45_ then
  Option.bind (Option.bind (ag σ20_ 14 49 ((7 * p_a) + o40_)) fun x54_ =>
  if x54_ = (σ20_ 0 32) then (some (o40_)) else (some (found39_))) fun y49_ =>
  lt (o40_ + 1) fun o58_ =>
  rec36_ y49_ o58_
  else (some (found39_, o40_))) fuelN (-1 : Int32) (0 : Int32)) fun y33_ =>
  some (y33_.1, σ20_)
abbrev rm12_sure : Room := { frames := 78, cells := 0, slots := 0, locals := 4217 }
set_option maxHeartbeats 4000000 in
set_option maxRecDepth 100000 in
theorem p12_sure {Θ : Tz} {σ : St} {ρ : Option Value × St} (C : Zc Θ cX12_sure 4 RX12 (some .int) rm12_sure) (hkd : Θ.2.2.2.2.1 = kdM) {p_a : Int32} {r : (Int32 × St)} (hf : q12_sure σ p_a = some r) (hρ : ρ = (some (.int r.1), r.2)) : Z Θ 4 0 0 (zQ Θ ρ) σ 0 [(0, .ref (zA Θ 0)), (1, .int p_a)] [] := by
  unfold q12_sure at hf
  refine z_aload_n C 0 dX12_sure_0 rfl rfl ?_
  refine z_iload_n C 1 dX12_sure_1 rfl rfl ?_
  obtain ⟨x3_, h4_, hf⟩ := ob hf
  refine cr12_347 (p_a := p_a) C hkd  h4_ ⟨(Nat.le_of_ble_eq_true rfl), (Nat.le_of_ble_eq_true rfl)⟩ (Nat.le_of_ble_eq_true rfl) ⟨Nat.zero_le _, Nat.zero_le _⟩ dX12_sure_2 ?_
  have K1_ : ¬ (x3_ = true) → Z Θ 4 0 0 (zQ Θ ρ) σ 8 [(0, .ref (zA Θ 0)), (1, .int p_a)] [] := by
    intro h6_
    rw [if_pos h6_] at hf
    refine z_aload_n C 0 dX12_sure_8 rfl rfl ?_
    refine z_iconst (v := 0) C dX12_sure_9 ic_0 ?_
    obtain ⟨σ7_, h8_, hf⟩ := lt_ hf
    refine fp12_76 C hkd h8_ dX12_sure_10 ?_
    refine z_aload_n C 0 dX12_sure_13 rfl rfl ?_
    refine z_iconst (v := 1) C dX12_sure_14 ic_1 ?_
    obtain ⟨σ9_, h10_, hf⟩ := lt_ hf
    refine fp12_65 C hkd h10_ dX12_sure_15 ?_
    refine z_iconst (v := 0) C dX12_sure_18 ic_0 ?_
    cases hf
    subst hρ
    exact z_iret C dX12_sure_19
  suffices K2_ : ¬ (¬ (x3_ = true)) → Z Θ 4 0 0 (zQ Θ ρ) σ 20 [(0, .ref (zA Θ 0)), (1, .int p_a)] [] by
    refine cb_t C 20 dX12_sure_5 (by decide) (fun h5_ => ?_) (fun h5_ => ?_)
    · exact K2_ (fun n => n h5_)
    · exact K1_ h5_
  intro h6_
  rw [if_neg h6_] at hf
  refine z_aload_n C 0 dX12_sure_20 rfl rfl ?_
  obtain ⟨x11_, h12_, hf⟩ := ob hf
  suffices K13_ : Z Θ 4 0 0 (zQ Θ ρ) x11_.2 33 [(0, .ref (zA Θ 0)), (1, .int p_a)] [.int x11_.1, .ref (zA Θ 0)] by
    refine z_aload_n C 0 dX12_sure_21 rfl rfl ?_
    obtain ⟨x16_, h17_, h12_⟩ := ob h12_
    refine cr12_419 C hkd  h17_ ⟨(Nat.le_of_ble_eq_true rfl), (Nat.le_of_ble_eq_true rfl)⟩ (Nat.le_of_ble_eq_true rfl) ⟨Nat.zero_le _, Nat.zero_le _⟩ dX12_sure_22 ?_
    have K14_ : x16_.1 = true → Z Θ 4 0 0 (zQ Θ ρ) x16_.2 28 [(0, .ref (zA Θ 0)), (1, .int p_a)] [.ref (zA Θ 0)] := by
      intro h19_
      rw [if_pos h19_] at h12_
      refine z_iconst (v := 0) C dX12_sure_28 ic_0 ?_
      refine z_goto C 33 dX12_sure_29 (by decide) ?_
      cases h12_
      exact K13_
    have K15_ : ¬ (x16_.1 = true) → Z Θ 4 0 0 (zQ Θ ρ) x16_.2 32 [(0, .ref (zA Θ 0)), (1, .int p_a)] [.ref (zA Θ 0)] := by
      intro h19_
      rw [if_neg h19_] at h12_
      refine z_iconst (v := 2) C dX12_sure_32 ic_2 ?_
      cases h12_
      exact K13_
    refine cb_f C 32 dX12_sure_25 (by decide) (fun h18_ => ?_) (fun h18_ => ?_)
    · exact K14_ h18_
    · exact K15_ h18_
  obtain ⟨σ20_, h21_, hf⟩ := lt_ hf
  refine fp12_65 C hkd h21_ dX12_sure_33 ?_
  have K22_ : ((0 < (σ20_ 0 0)) ∨ ((σ20_ 0 32) = 0)) ∨ (¬ (q12_isOf (σ20_ 0 20) p_a = true)) → Z Θ 4 0 0 (zQ Θ ρ) σ20_ 61 [(0, .ref (zA Θ 0)), (1, .int p_a)] [] := by
    intro h27_
    rw [if_pos h27_] at hf
    suffices K28_ : Z Θ 4 0 0 (zQ Θ ρ) σ20_ 73 [(0, .ref (zA Θ 0)), (1, .int p_a)] [.int (if 0 < (σ20_ 0 0) then 0 else (-1))] by
      have K29_ : 0 < (σ20_ 0 0) → Z Θ 4 0 0 (zQ Θ ρ) σ20_ 68 [(0, .ref (zA Θ 0)), (1, .int p_a)] [] := by
        intro h32_
        rw [if_pos h32_] at K28_
        refine z_iconst (v := 0) C dX12_sure_68 ic_0 ?_
        refine z_goto C 73 dX12_sure_69 (by decide) ?_
        exact K28_
      have K30_ : ¬ (0 < (σ20_ 0 0)) → Z Θ 4 0 0 (zQ Θ ρ) σ20_ 72 [(0, .ref (zA Θ 0)), (1, .int p_a)] [] := by
        intro h32_
        rw [if_neg h32_] at K28_
        refine z_iconst (v := (-1)) C dX12_sure_72 ic_m1 ?_
        exact K28_
      refine z_aload_n C 0 dX12_sure_61 rfl rfl ?_
      refine fg12_65 C hkd dX12_sure_62 ?_
      refine c0_gt_f C 72 dX12_sure_65 (by decide) (fun h31_ => ?_) (fun h31_ => ?_)
      · exact K29_ h31_
      · exact K30_ h31_
    cases hf
    subst hρ
    exact z_iret C dX12_sure_73
  suffices K23_ : ¬ (((0 < (σ20_ 0 0)) ∨ ((σ20_ 0 32) = 0)) ∨ (¬ (q12_isOf (σ20_ 0 20) p_a = true))) → Z Θ 4 0 0 (zQ Θ ρ) σ20_ 74 [(0, .ref (zA Θ 0)), (1, .int p_a)] [] by
    refine z_aload_n C 0 dX12_sure_36 rfl rfl ?_
    refine fg12_65 C hkd dX12_sure_37 ?_
    refine c0_gt_t C 61 dX12_sure_40 (by decide) (fun h24_ => ?_) (fun h24_ => ?_)
    · exact K22_ (Or.inl (Or.inl h24_))
    · refine z_aload_n C 0 dX12_sure_43 rfl rfl ?_
      refine fg12_407 C hkd dX12_sure_44 ?_
      refine c0_eq_t C 61 dX12_sure_47 (by decide) (fun h25_ => ?_) (fun h25_ => ?_)
      · exact K22_ (Or.inl (Or.inr h25_))
      · refine z_aload_n C 0 dX12_sure_50 rfl rfl ?_
        refine fg12_263 C hkd dX12_sure_51 ?_
        refine z_iload_n C 1 dX12_sure_54 rfl rfl ?_
        refine cr12_275 (set_a := (σ20_ 0 20)) (k_a := p_a) C hkd  ⟨(Nat.le_of_ble_eq_true rfl), (Nat.le_of_ble_eq_true rfl)⟩ (Nat.le_of_ble_eq_true rfl) ⟨Nat.zero_le _, Nat.zero_le _⟩ dX12_sure_55 ?_
        refine cb_t C 74 dX12_sure_58 (by decide) (fun h26_ => ?_) (fun h26_ => ?_)
        · exact K23_ (fun n => n.elim (fun n => n.elim h24_ h25_) (fun n => n h26_))
        · exact K22_ (Or.inr h26_)
  intro h27_
  rw [if_neg h27_] at hf
  refine z_iconst (v := (-1)) C dX12_sure_74 ic_m1 ?_
  refine z_istN C dX12_sure_75 rfl rfl (Nat.le_of_ble_eq_true rfl) rfl ?_
  refine z_iconst (v := 0) C dX12_sure_76 ic_0 ?_
  refine z_istN C dX12_sure_77 rfl rfl (Nat.le_of_ble_eq_true rfl) rfl ?_
  refine Z.sub [2, 3, 1, 0] rfl ?_
  obtain ⟨y33_, h34_, hf⟩ := ob hf
  suffices K35_ : Z Θ 4 0 0 (zQ Θ ρ) σ20_ 114 [(0, .ref (zA Θ 0)), (1, .int p_a), (2, .int y33_.1), (3, .int y33_.2)] [] by
    refine loop2_Z (P := fun (found39_ : Int32) (o40_ : Int32) => Z Θ 4 0 0 (zQ Θ ρ) σ20_ 78 [(0, .ref (zA Θ 0)), (1, .int p_a), (2, .int found39_), (3, .int o40_)] []) ?_ fuelN (-1 : Int32) (0 : Int32) h34_
    clear h34_
    intro rec36_ found39_ o40_ h37_ h38_
    refine z_iload_n C 3 dX12_sure_78 rfl rfl ?_
    refine z_aload_n C 0 dX12_sure_79 rfl rfl ?_
    refine fg12_7 C hkd dX12_sure_80 ?_
    refine z_iconst (v := 3) C dX12_sure_83 ic_3 ?_
    obtain ⟨x45_, h46_, h38_⟩ := ob h38_
    refine z_ag C h46_ (kM_1 hkd) dX12_sure_84 ?_
    have K43_ : o40_ < x45_ → Z Θ 4 0 0 (zQ Θ ρ) σ20_ 88 [(0, .ref (zA Θ 0)), (1, .int p_a), (2, .int found39_), (3, .int o40_)] [] := by
      intro h48_
      rw [if_pos h48_] at h38_
      obtain ⟨y49_, h50_, h38_⟩ := ob h38_
      suffices K51_ : Z Θ 4 0 0 (zQ Θ ρ) σ20_ 108 [(0, .ref (zA Θ 0)), (1, .int p_a), (2, .int y49_), (3, .int o40_)] [] by
        refine z_aload_n C 0 dX12_sure_88 rfl rfl ?_
        refine fg12_53 C hkd dX12_sure_89 ?_
        refine z_bipush (v := 7) C dX12_sure_92 bp_7 ?_
        refine z_iload_n C 1 dX12_sure_94 rfl rfl ?_
        refine z_imul C dX12_sure_95 ?_
        refine z_iload_n C 3 dX12_sure_96 rfl rfl ?_
        refine z_iadd C dX12_sure_97 ?_
        obtain ⟨x54_, h55_, h50_⟩ := ob h50_
        refine z_ag C h55_ (kM_14 hkd) dX12_sure_98 ?_
        refine z_aload_n C 0 dX12_sure_99 rfl rfl ?_
        refine fg12_407 C hkd dX12_sure_100 ?_
        have K52_ : x54_ = (σ20_ 0 32) → Z Θ 4 0 0 (zQ Θ ρ) σ20_ 106 [(0, .ref (zA Θ 0)), (1, .int p_a), (2, .int found39_), (3, .int o40_)] [] := by
          intro h57_
          rw [if_pos h57_] at h50_
          refine z_iload_n C 3 dX12_sure_106 rfl rfl ?_
          refine z_istN C dX12_sure_107 rfl rfl (Nat.le_of_ble_eq_true rfl) rfl ?_
          cases h50_
          refine Z.sub [1, 2, 0, 3] rfl ?_
          exact K51_
        have K53_ : ¬ (x54_ = (σ20_ 0 32)) → Z Θ 4 0 0 (zQ Θ ρ) σ20_ 108 [(0, .ref (zA Θ 0)), (1, .int p_a), (2, .int found39_), (3, .int o40_)] [] := by
          intro h57_
          rw [if_neg h57_] at h50_
          cases h50_
          exact K51_
        refine c_eq_f C 108 dX12_sure_103 (by decide) (fun h56_ => ?_) (fun h56_ => ?_)
        · exact K52_ h56_
        · exact K53_ h56_
      obtain ⟨o58_, h59_, h38_⟩ := lt_ h38_
      refine z_inc C 3 dX12_sure_108 rfl ic_1 h59_ (Nat.le_of_ble_eq_true rfl) rfl ?_
      refine z_goto C 78 dX12_sure_111 (by decide) ?_
      refine Z.sub [1, 2, 3, 0] rfl ?_
      exact h37_ _ _ h38_
    have K44_ : ¬ (o40_ < x45_) → Z Θ 4 0 0 (zQ Θ ρ) σ20_ 114 [(0, .ref (zA Θ 0)), (1, .int p_a), (2, .int found39_), (3, .int o40_)] [] := by
      intro h48_
      rw [if_neg h48_] at h38_
      cases h38_
      exact K35_
    refine c_lt_f C 114 dX12_sure_85 (by decide) (fun h47_ => ?_) (fun h47_ => ?_)
    · exact K43_ h47_
    · exact K44_ h47_
  refine z_iload_n C 2 dX12_sure_114 rfl rfl ?_
  cases hf
  subst hρ
  exact z_iret C dX12_sure_115
theorem c12_sure {l : Launch} {kd : List KD} {w : Wp} {σ : St} {p_a : Int32} (hkd : kd = kdM) (hi : zI kd w) {r : (Int32 × St)} (hf : q12_sure σ p_a = some r) : zM l kd w yX12_sure cX12_sure 4 (some .int) rm12_sure [.ref (w.2.2.1 0), .int p_a] σ (some (.int r.1), r.2) := zM_of rfl hi (Nat.le_of_ble_eq_true rfl) (fun Θ hl hw C => by
  obtain ⟨Θ1, Θ2, Θ3, Θ4, Θ5⟩ := Θ
  cases hw
  exact p12_sure C hkd  hf rfl)
/-! LastLoafModel.ask -/
theorem dX12_ask_0 : decode cX12_ask 0 = .ok (.aload_n 0, 1) := by decide +kernel
theorem dX12_ask_1 : decode cX12_ask 1 = .ok (.aload_n 0, 1) := by decide +kernel
theorem dX12_ask_2 : decode cX12_ask 2 = .ok (.invokevirtual 419, 3) := by decide +kernel
theorem dX12_ask_5 : decode cX12_ask 5 = .ok (.ifCond .eq 7, 3) := by decide +kernel
theorem dX12_ask_8 : decode cX12_ask 8 = .ok (.iconst 0, 1) := by decide +kernel
theorem dX12_ask_9 : decode cX12_ask 9 = .ok (.goto 4, 3) := by decide +kernel
theorem dX12_ask_12 : decode cX12_ask 12 = .ok (.iconst 1, 1) := by decide +kernel
theorem dX12_ask_13 : decode cX12_ask 13 = .ok (.putfield 65, 3) := by decide +kernel
theorem dX12_ask_16 : decode cX12_ask 16 = .ok (.aload_n 0, 1) := by decide +kernel
theorem dX12_ask_17 : decode cX12_ask 17 = .ok (.getfield 65, 3) := by decide +kernel
theorem dX12_ask_20 : decode cX12_ask 20 = .ok (.ifCond .le 5, 3) := by decide +kernel
theorem dX12_ask_23 : decode cX12_ask 23 = .ok (.iconst 0, 1) := by decide +kernel
theorem dX12_ask_24 : decode cX12_ask 24 = .ok (.ireturn, 1) := by decide +kernel
theorem dX12_ask_25 : decode cX12_ask 25 = .ok (.iconst (-1), 1) := by decide +kernel
theorem dX12_ask_26 : decode cX12_ask 26 = .ok (.istore_n 1, 1) := by decide +kernel
theorem dX12_ask_27 : decode cX12_ask 27 = .ok (.ldc_w 379, 3) := by decide +kernel
theorem dX12_ask_30 : decode cX12_ask 30 = .ok (.istore_n 2, 1) := by decide +kernel
theorem dX12_ask_31 : decode cX12_ask 31 = .ok (.iconst 0, 1) := by decide +kernel
theorem dX12_ask_32 : decode cX12_ask 32 = .ok (.istore_n 3, 1) := by decide +kernel
theorem dX12_ask_33 : decode cX12_ask 33 = .ok (.iload_n 3, 1) := by decide +kernel
theorem dX12_ask_34 : decode cX12_ask 34 = .ok (.aload_n 0, 1) := by decide +kernel
theorem dX12_ask_35 : decode cX12_ask 35 = .ok (.getfield 7, 3) := by decide +kernel
theorem dX12_ask_38 : decode cX12_ask 38 = .ok (.iconst 3, 1) := by decide +kernel
theorem dX12_ask_39 : decode cX12_ask 39 = .ok (.iaload, 1) := by decide +kernel
theorem dX12_ask_40 : decode cX12_ask 40 = .ok (.if_icmp .ge 90, 3) := by decide +kernel
theorem dX12_ask_43 : decode cX12_ask 43 = .ok (.aload_n 0, 1) := by decide +kernel
theorem dX12_ask_44 : decode cX12_ask 44 = .ok (.getfield 407, 3) := by decide +kernel
theorem dX12_ask_47 : decode cX12_ask 47 = .ok (.iconst 1, 1) := by decide +kernel
theorem dX12_ask_48 : decode cX12_ask 48 = .ok (.if_icmp .le 82, 3) := by decide +kernel
theorem dX12_ask_51 : decode cX12_ask 51 = .ok (.aload_n 0, 1) := by decide +kernel
theorem dX12_ask_52 : decode cX12_ask 52 = .ok (.getfield 263, 3) := by decide +kernel
theorem dX12_ask_55 : decode cX12_ask 55 = .ok (.iload_n 3, 1) := by decide +kernel
theorem dX12_ask_56 : decode cX12_ask 56 = .ok (.invokestatic 275, 3) := by decide +kernel
theorem dX12_ask_59 : decode cX12_ask 59 = .ok (.ifCond .eq 7, 3) := by decide +kernel
theorem dX12_ask_62 : decode cX12_ask 62 = .ok (.iconst 0, 1) := by decide +kernel
theorem dX12_ask_63 : decode cX12_ask 63 = .ok (.goto 6, 3) := by decide +kernel
theorem dX12_ask_66 : decode cX12_ask 66 = .ok (.ldc_w 379, 3) := by decide +kernel
theorem dX12_ask_69 : decode cX12_ask 69 = .ok (.istore 4, 2) := by decide +kernel
theorem dX12_ask_71 : decode cX12_ask 71 = .ok (.iconst 0, 1) := by decide +kernel
theorem dX12_ask_72 : decode cX12_ask 72 = .ok (.istore 5, 2) := by decide +kernel
theorem dX12_ask_74 : decode cX12_ask 74 = .ok (.iload 5, 2) := by decide +kernel
theorem dX12_ask_76 : decode cX12_ask 76 = .ok (.aload_n 0, 1) := by decide +kernel
theorem dX12_ask_77 : decode cX12_ask 77 = .ok (.getfield 7, 3) := by decide +kernel
theorem dX12_ask_80 : decode cX12_ask 80 = .ok (.iconst 3, 1) := by decide +kernel
theorem dX12_ask_81 : decode cX12_ask 81 = .ok (.iaload, 1) := by decide +kernel
theorem dX12_ask_82 : decode cX12_ask 82 = .ok (.if_icmp .ge 28, 3) := by decide +kernel
theorem dX12_ask_85 : decode cX12_ask 85 = .ok (.iload 4, 2) := by decide +kernel
theorem dX12_ask_87 : decode cX12_ask 87 = .ok (.aload_n 0, 1) := by decide +kernel
theorem dX12_ask_88 : decode cX12_ask 88 = .ok (.getfield 53, 3) := by decide +kernel
theorem dX12_ask_91 : decode cX12_ask 91 = .ok (.bipush 7, 2) := by decide +kernel
theorem dX12_ask_93 : decode cX12_ask 93 = .ok (.iload_n 3, 1) := by decide +kernel
theorem dX12_ask_94 : decode cX12_ask 94 = .ok (.imul, 1) := by decide +kernel
theorem dX12_ask_95 : decode cX12_ask 95 = .ok (.iload 5, 2) := by decide +kernel
theorem dX12_ask_97 : decode cX12_ask 97 = .ok (.iadd, 1) := by decide +kernel
theorem dX12_ask_98 : decode cX12_ask 98 = .ok (.iaload, 1) := by decide +kernel
theorem dX12_ask_99 : decode cX12_ask 99 = .ok (.invokestatic 392, 3) := by decide +kernel
theorem dX12_ask_102 : decode cX12_ask 102 = .ok (.istore 4, 2) := by decide +kernel
theorem dX12_ask_104 : decode cX12_ask 104 = .ok (.iinc 5 1, 3) := by decide +kernel
theorem dX12_ask_107 : decode cX12_ask 107 = .ok (.goto (-33), 3) := by decide +kernel
theorem dX12_ask_110 : decode cX12_ask 110 = .ok (.iload 4, 2) := by decide +kernel
theorem dX12_ask_112 : decode cX12_ask 112 = .ok (.iload_n 2, 1) := by decide +kernel
theorem dX12_ask_113 : decode cX12_ask 113 = .ok (.if_icmp .lt 6, 3) := by decide +kernel
theorem dX12_ask_116 : decode cX12_ask 116 = .ok (.goto 8, 3) := by decide +kernel
theorem dX12_ask_119 : decode cX12_ask 119 = .ok (.iload 4, 2) := by decide +kernel
theorem dX12_ask_121 : decode cX12_ask 121 = .ok (.istore_n 2, 1) := by decide +kernel
theorem dX12_ask_122 : decode cX12_ask 122 = .ok (.iload_n 3, 1) := by decide +kernel
theorem dX12_ask_123 : decode cX12_ask 123 = .ok (.istore_n 1, 1) := by decide +kernel
theorem dX12_ask_124 : decode cX12_ask 124 = .ok (.iinc 3 1, 3) := by decide +kernel
theorem dX12_ask_127 : decode cX12_ask 127 = .ok (.goto (-94), 3) := by decide +kernel
theorem dX12_ask_130 : decode cX12_ask 130 = .ok (.iload_n 1, 1) := by decide +kernel
theorem dX12_ask_131 : decode cX12_ask 131 = .ok (.ireturn, 1) := by decide +kernel
def q12_ask (σ : St) : Option (Int32 × St) :=
  Option.bind (Option.bind (q12_heard σ) fun x6_ =>
  if x6_.1 = true then (some ((0 : Int32), x6_.2)) else (some ((1 : Int32), x6_.2))) fun x1_ =>
  lt (up x1_.2 0 0 x1_.1) fun σ10_ =>
  if 0 < (σ10_ 0 0) then (some (0, σ10_)) else
  Option.bind (loop3 (fun rec19_ (found22_ : Int32) (least23_ : Int32) (p24_ : Int32) =>
  Option.bind (ag σ10_ 1 752 3) fun x29_ =>
  if (p24_ < x29_) ∧ (1 < (σ10_ 0 32)) then
  lt (fun (found67_ : Int32) (least68_ : Int32) (p69_ : Int32) =>
  lt (p69_ + 1) fun p71_ =>
  rec19_ found67_ least68_ p71_) fun k26_ =>
  lt (if q12_isOf (σ10_ 0 20) p24_ = true then 0 else 2000000000) fun most39_ =>
  Option.bind (loop2 (fun rec44_ (most47_ : Int32) (o48_ : Int32) =>
  Option.bind (ag σ10_ 1 752 3) fun x53_ =>
  if o48_ < x53_ then
  Option.bind (ag σ10_ 14 49 ((7 * p24_) + o48_)) fun x57_ =>
  lt (q12_greater most47_ x57_) fun most59_ =>
  lt (o48_ + 1) fun o61_ =>
  rec44_ most59_ o61_
  else (some (most47_, o48_))) fuelN most39_ (0 : Int32)) fun y41_ =>
  if least23_ ≤ y41_.1 then (k26_ found22_ least23_ p24_) else
  k26_ p24_ y41_.1 p24_
  else (some (found22_, least23_, p24_))) fuelN (-1 : Int32) (2000000000 : Int32) (0 : Int32)) fun y16_ =>
  some (y16_.1, σ10_)
abbrev rm12_ask : Room := { frames := 78, cells := 0, slots := 0, locals := 4217 }
set_option maxHeartbeats 4000000 in
set_option maxRecDepth 100000 in
theorem p12_ask {Θ : Tz} {σ : St} {ρ : Option Value × St} (C : Zc Θ cX12_ask 6 RX12 (some .int) rm12_ask) (hkd : Θ.2.2.2.2.1 = kdM) {r : (Int32 × St)} (hf : q12_ask σ = some r) (hρ : ρ = (some (.int r.1), r.2)) : Z Θ 6 0 0 (zQ Θ ρ) σ 0 [(0, .ref (zA Θ 0))] [] := by
  unfold q12_ask at hf
  refine z_aload_n C 0 dX12_ask_0 rfl rfl ?_
  obtain ⟨x1_, h2_, hf⟩ := ob hf
  suffices K3_ : Z Θ 6 0 0 (zQ Θ ρ) x1_.2 13 [(0, .ref (zA Θ 0))] [.int x1_.1, .ref (zA Θ 0)] by
    refine z_aload_n C 0 dX12_ask_1 rfl rfl ?_
    obtain ⟨x6_, h7_, h2_⟩ := ob h2_
    refine cr12_419 C hkd  h7_ ⟨(Nat.le_of_ble_eq_true rfl), (Nat.le_of_ble_eq_true rfl)⟩ (Nat.le_of_ble_eq_true rfl) ⟨Nat.zero_le _, Nat.zero_le _⟩ dX12_ask_2 ?_
    have K4_ : x6_.1 = true → Z Θ 6 0 0 (zQ Θ ρ) x6_.2 8 [(0, .ref (zA Θ 0))] [.ref (zA Θ 0)] := by
      intro h9_
      rw [if_pos h9_] at h2_
      refine z_iconst (v := 0) C dX12_ask_8 ic_0 ?_
      refine z_goto C 13 dX12_ask_9 (by decide) ?_
      cases h2_
      exact K3_
    have K5_ : ¬ (x6_.1 = true) → Z Θ 6 0 0 (zQ Θ ρ) x6_.2 12 [(0, .ref (zA Θ 0))] [.ref (zA Θ 0)] := by
      intro h9_
      rw [if_neg h9_] at h2_
      refine z_iconst (v := 1) C dX12_ask_12 ic_1 ?_
      cases h2_
      exact K3_
    refine cb_f C 12 dX12_ask_5 (by decide) (fun h8_ => ?_) (fun h8_ => ?_)
    · exact K4_ h8_
    · exact K5_ h8_
  obtain ⟨σ10_, h11_, hf⟩ := lt_ hf
  refine fp12_65 C hkd h11_ dX12_ask_13 ?_
  have K12_ : 0 < (σ10_ 0 0) → Z Θ 6 0 0 (zQ Θ ρ) σ10_ 23 [(0, .ref (zA Θ 0))] [] := by
    intro h15_
    rw [if_pos h15_] at hf
    refine z_iconst (v := 0) C dX12_ask_23 ic_0 ?_
    cases hf
    subst hρ
    exact z_iret C dX12_ask_24
  suffices K13_ : ¬ (0 < (σ10_ 0 0)) → Z Θ 6 0 0 (zQ Θ ρ) σ10_ 25 [(0, .ref (zA Θ 0))] [] by
    refine z_aload_n C 0 dX12_ask_16 rfl rfl ?_
    refine fg12_65 C hkd dX12_ask_17 ?_
    refine c0_gt_f C 25 dX12_ask_20 (by decide) (fun h14_ => ?_) (fun h14_ => ?_)
    · exact K12_ h14_
    · exact K13_ h14_
  intro h15_
  rw [if_neg h15_] at hf
  refine z_iconst (v := (-1)) C dX12_ask_25 ic_m1 ?_
  refine z_istN C dX12_ask_26 rfl rfl (Nat.le_of_ble_eq_true rfl) rfl ?_
  refine z_ldcw (v := 2000000000) C w_10_27 dX12_ask_27 ?_
  refine z_istN C dX12_ask_30 rfl rfl (Nat.le_of_ble_eq_true rfl) rfl ?_
  refine z_iconst (v := 0) C dX12_ask_31 ic_0 ?_
  refine z_istN C dX12_ask_32 rfl rfl (Nat.le_of_ble_eq_true rfl) rfl ?_
  refine Z.sub [3, 2, 1, 0] rfl ?_
  obtain ⟨y16_, h17_, hf⟩ := ob hf
  suffices K18_ : Z Θ 6 0 0 (zQ Θ ρ) σ10_ 130 [(0, .ref (zA Θ 0)), (1, .int y16_.1), (2, .int y16_.2.1), (3, .int y16_.2.2)] [] by
    refine loop3_Z (P := fun (found22_ : Int32) (least23_ : Int32) (p24_ : Int32) => Z Θ 6 0 0 (zQ Θ ρ) σ10_ 33 [(0, .ref (zA Θ 0)), (1, .int found22_), (2, .int least23_), (3, .int p24_)] []) ?_ fuelN (-1 : Int32) (2000000000 : Int32) (0 : Int32) h17_
    clear h17_
    intro rec19_ found22_ least23_ p24_ h20_ h21_
    refine z_iload_n C 3 dX12_ask_33 rfl rfl ?_
    refine z_aload_n C 0 dX12_ask_34 rfl rfl ?_
    refine fg12_7 C hkd dX12_ask_35 ?_
    refine z_iconst (v := 3) C dX12_ask_38 ic_3 ?_
    obtain ⟨x29_, h30_, h21_⟩ := ob h21_
    refine z_ag C h30_ (kM_1 hkd) dX12_ask_39 ?_
    have K27_ : (p24_ < x29_) ∧ (1 < (σ10_ 0 32)) → Z Θ 6 0 0 (zQ Θ ρ) σ10_ 51 [(0, .ref (zA Θ 0)), (1, .int found22_), (2, .int least23_), (3, .int p24_)] [] := by
      intro h33_
      rw [if_pos h33_] at h21_
      obtain ⟨k26_, h70_, h21_⟩ := lt_ h21_
      have K25_ : ∀ (found67_ : Int32) (least68_ : Int32) (p69_ : Int32), k26_ found67_ least68_ p69_ = some y16_ → Z Θ 6 0 0 (zQ Θ ρ) σ10_ 124 [(0, .ref (zA Θ 0)), (1, .int found67_), (2, .int least68_), (3, .int p69_)] [] := by
        intro found67_ least68_ p69_ h21_
        subst h70_
        dsimp only at h21_
        obtain ⟨p71_, h72_, h21_⟩ := lt_ h21_
        refine z_inc C 3 dX12_ask_124 rfl ic_1 h72_ (Nat.le_of_ble_eq_true rfl) rfl ?_
        refine z_goto C 33 dX12_ask_127 (by decide) ?_
        refine Z.sub [1, 2, 3, 0] rfl ?_
        exact h20_ _ _ _ h21_
      suffices K34_ : Z Θ 6 0 0 (zQ Θ ρ) σ10_ 69 [(0, .ref (zA Θ 0)), (1, .int found22_), (2, .int least23_), (3, .int p24_)] [.int (if q12_isOf (σ10_ 0 20) p24_ = true then 0 else 2000000000)] by
        have K35_ : q12_isOf (σ10_ 0 20) p24_ = true → Z Θ 6 0 0 (zQ Θ ρ) σ10_ 62 [(0, .ref (zA Θ 0)), (1, .int found22_), (2, .int least23_), (3, .int p24_)] [] := by
          intro h38_
          rw [if_pos h38_] at K34_
          refine z_iconst (v := 0) C dX12_ask_62 ic_0 ?_
          refine z_goto C 69 dX12_ask_63 (by decide) ?_
          exact K34_
        have K36_ : ¬ (q12_isOf (σ10_ 0 20) p24_ = true) → Z Θ 6 0 0 (zQ Θ ρ) σ10_ 66 [(0, .ref (zA Θ 0)), (1, .int found22_), (2, .int least23_), (3, .int p24_)] [] := by
          intro h38_
          rw [if_neg h38_] at K34_
          refine z_ldcw (v := 2000000000) C w_10_27 dX12_ask_66 ?_
          exact K34_
        refine z_aload_n C 0 dX12_ask_51 rfl rfl ?_
        refine fg12_263 C hkd dX12_ask_52 ?_
        refine z_iload_n C 3 dX12_ask_55 rfl rfl ?_
        refine cr12_275 (set_a := (σ10_ 0 20)) (k_a := p24_) C hkd  ⟨(Nat.le_of_ble_eq_true rfl), (Nat.le_of_ble_eq_true rfl)⟩ (Nat.le_of_ble_eq_true rfl) ⟨Nat.zero_le _, Nat.zero_le _⟩ dX12_ask_56 ?_
        refine cb_f C 66 dX12_ask_59 (by decide) (fun h37_ => ?_) (fun h37_ => ?_)
        · exact K35_ h37_
        · exact K36_ h37_
      obtain ⟨most39_, h40_, h21_⟩ := lt_ h21_
      refine z_ist C dX12_ask_69 h40_ (Nat.le_of_ble_eq_true rfl) rfl ?_
      refine z_iconst (v := 0) C dX12_ask_71 ic_0 ?_
      refine z_ist C dX12_ask_72 rfl (Nat.le_of_ble_eq_true rfl) rfl ?_
      refine Z.sub [2, 3, 4, 5, 1, 0] rfl ?_
      obtain ⟨y41_, h42_, h21_⟩ := ob h21_
      suffices K43_ : Z Θ 6 0 0 (zQ Θ ρ) σ10_ 110 [(0, .ref (zA Θ 0)), (1, .int found22_), (2, .int least23_), (3, .int p24_), (4, .int y41_.1), (5, .int y41_.2)] [] by
        refine loop2_Z (P := fun (most47_ : Int32) (o48_ : Int32) => Z Θ 6 0 0 (zQ Θ ρ) σ10_ 74 [(0, .ref (zA Θ 0)), (1, .int found22_), (2, .int least23_), (3, .int p24_), (4, .int most47_), (5, .int o48_)] []) ?_ fuelN most39_ (0 : Int32) h42_
        clear h42_
        intro rec44_ most47_ o48_ h45_ h46_
        refine z_iload C 5 dX12_ask_74 rfl ?_
        refine z_aload_n C 0 dX12_ask_76 rfl rfl ?_
        refine fg12_7 C hkd dX12_ask_77 ?_
        refine z_iconst (v := 3) C dX12_ask_80 ic_3 ?_
        obtain ⟨x53_, h54_, h46_⟩ := ob h46_
        refine z_ag C h54_ (kM_1 hkd) dX12_ask_81 ?_
        have K51_ : o48_ < x53_ → Z Θ 6 0 0 (zQ Θ ρ) σ10_ 85 [(0, .ref (zA Θ 0)), (1, .int found22_), (2, .int least23_), (3, .int p24_), (4, .int most47_), (5, .int o48_)] [] := by
          intro h56_
          rw [if_pos h56_] at h46_
          refine z_iload C 4 dX12_ask_85 rfl ?_
          refine z_aload_n C 0 dX12_ask_87 rfl rfl ?_
          refine fg12_53 C hkd dX12_ask_88 ?_
          refine z_bipush (v := 7) C dX12_ask_91 bp_7 ?_
          refine z_iload_n C 3 dX12_ask_93 rfl rfl ?_
          refine z_imul C dX12_ask_94 ?_
          refine z_iload C 5 dX12_ask_95 rfl ?_
          refine z_iadd C dX12_ask_97 ?_
          obtain ⟨x57_, h58_, h46_⟩ := ob h46_
          refine z_ag C h58_ (kM_14 hkd) dX12_ask_98 ?_
          refine cr12_392 (a_a := most47_) (b_a := x57_) C hkd  ⟨(Nat.le_of_ble_eq_true rfl), (Nat.le_of_ble_eq_true rfl)⟩ (Nat.le_of_ble_eq_true rfl) ⟨Nat.zero_le _, Nat.zero_le _⟩ dX12_ask_99 ?_
          obtain ⟨most59_, h60_, h46_⟩ := lt_ h46_
          refine z_ist C dX12_ask_102 h60_ (Nat.le_of_ble_eq_true rfl) rfl ?_
          obtain ⟨o61_, h62_, h46_⟩ := lt_ h46_
          refine z_inc C 5 dX12_ask_104 rfl ic_1 h62_ (Nat.le_of_ble_eq_true rfl) rfl ?_
          refine z_goto C 74 dX12_ask_107 (by decide) ?_
          refine Z.sub [2, 3, 4, 5, 1, 0] rfl ?_
          exact h45_ _ _ h46_
        have K52_ : ¬ (o48_ < x53_) → Z Θ 6 0 0 (zQ Θ ρ) σ10_ 110 [(0, .ref (zA Θ 0)), (1, .int found22_), (2, .int least23_), (3, .int p24_), (4, .int most47_), (5, .int o48_)] [] := by
          intro h56_
          rw [if_neg h56_] at h46_
          cases h46_
          exact K43_
        refine c_lt_f C 110 dX12_ask_82 (by decide) (fun h55_ => ?_) (fun h55_ => ?_)
        · exact K51_ h55_
        · exact K52_ h55_
      have K63_ : least23_ ≤ y41_.1 → Z Θ 6 0 0 (zQ Θ ρ) σ10_ 116 [(0, .ref (zA Θ 0)), (1, .int found22_), (2, .int least23_), (3, .int p24_), (4, .int y41_.1), (5, .int y41_.2)] [] := by
        intro h66_
        rw [if_pos h66_] at h21_
        refine z_goto C 124 dX12_ask_116 (by decide) ?_
        refine Z.sub [0, 1, 2, 3] rfl ?_
        exact K25_ _ _ _ h21_
      suffices K64_ : ¬ (least23_ ≤ y41_.1) → Z Θ 6 0 0 (zQ Θ ρ) σ10_ 119 [(0, .ref (zA Θ 0)), (1, .int found22_), (2, .int least23_), (3, .int p24_), (4, .int y41_.1), (5, .int y41_.2)] [] by
        refine z_iload C 4 dX12_ask_110 rfl ?_
        refine z_iload_n C 2 dX12_ask_112 rfl rfl ?_
        refine c_ge_f C 119 dX12_ask_113 (by decide) (fun h65_ => ?_) (fun h65_ => ?_)
        · exact K63_ h65_
        · exact K64_ h65_
      intro h66_
      rw [if_neg h66_] at h21_
      refine z_iload C 4 dX12_ask_119 rfl ?_
      refine z_istN C dX12_ask_121 rfl rfl (Nat.le_of_ble_eq_true rfl) rfl ?_
      refine z_iload_n C 3 dX12_ask_122 rfl rfl ?_
      refine z_istN C dX12_ask_123 rfl rfl (Nat.le_of_ble_eq_true rfl) rfl ?_
      refine Z.sub [2, 0, 1, 3] rfl ?_
      exact K25_ _ _ _ h21_
    have K28_ : ¬ ((p24_ < x29_) ∧ (1 < (σ10_ 0 32))) → Z Θ 6 0 0 (zQ Θ ρ) σ10_ 130 [(0, .ref (zA Θ 0)), (1, .int found22_), (2, .int least23_), (3, .int p24_)] [] := by
      intro h33_
      rw [if_neg h33_] at h21_
      cases h21_
      exact K18_
    refine c_lt_f C 130 dX12_ask_40 (by decide) (fun h31_ => ?_) (fun h31_ => ?_)
    · refine z_aload_n C 0 dX12_ask_43 rfl rfl ?_
      refine fg12_407 C hkd dX12_ask_44 ?_
      refine z_iconst (v := 1) C dX12_ask_47 ic_1 ?_
      refine c_gt_f C 130 dX12_ask_48 (by decide) (fun h32_ => ?_) (fun h32_ => ?_)
      · exact K27_ ⟨h31_, h32_⟩
      · exact K28_ (fun n => h32_ n.2)
    · exact K28_ (fun n => h31_ n.1)
  refine z_iload_n C 1 dX12_ask_130 rfl rfl ?_
  cases hf
  subst hρ
  exact z_iret C dX12_ask_131
theorem c12_ask {l : Launch} {kd : List KD} {w : Wp} {σ : St} (hkd : kd = kdM) (hi : zI kd w) {r : (Int32 × St)} (hf : q12_ask σ = some r) : zM l kd w yX12_ask cX12_ask 6 (some .int) rm12_ask [.ref (w.2.2.1 0)] σ (some (.int r.1), r.2) := zM_of rfl hi (Nat.le_of_ble_eq_true rfl) (fun Θ hl hw C => by
  obtain ⟨Θ1, Θ2, Θ3, Θ4, Θ5⟩ := Θ
  cases hw
  exact p12_ask C hkd  hf rfl)
/-! LastLoafModel.countsOf -/
theorem dX12_countsOf_0 : decode cX12_countsOf 0 = .ok (.iconst 0, 1) := by decide +kernel
theorem dX12_countsOf_1 : decode cX12_countsOf 1 = .ok (.istore_n 2, 1) := by decide +kernel
theorem dX12_countsOf_2 : decode cX12_countsOf 2 = .ok (.aload_n 0, 1) := by decide +kernel
theorem dX12_countsOf_3 : decode cX12_countsOf 3 = .ok (.iconst 4, 1) := by decide +kernel
theorem dX12_countsOf_4 : decode cX12_countsOf 4 = .ok (.invokevirtual 266, 3) := by decide +kernel
theorem dX12_countsOf_7 : decode cX12_countsOf 7 = .ok (.istore_n 3, 1) := by decide +kernel
theorem dX12_countsOf_8 : decode cX12_countsOf 8 = .ok (.iconst 0, 1) := by decide +kernel
theorem dX12_countsOf_9 : decode cX12_countsOf 9 = .ok (.istore 4, 2) := by decide +kernel
theorem dX12_countsOf_11 : decode cX12_countsOf 11 = .ok (.iload 4, 2) := by decide +kernel
theorem dX12_countsOf_13 : decode cX12_countsOf 13 = .ok (.aload_n 0, 1) := by decide +kernel
theorem dX12_countsOf_14 : decode cX12_countsOf 14 = .ok (.getfield 7, 3) := by decide +kernel
theorem dX12_countsOf_17 : decode cX12_countsOf 17 = .ok (.iconst 3, 1) := by decide +kernel
theorem dX12_countsOf_18 : decode cX12_countsOf 18 = .ok (.iaload, 1) := by decide +kernel
theorem dX12_countsOf_19 : decode cX12_countsOf 19 = .ok (.if_icmp .ge 44, 3) := by decide +kernel
theorem dX12_countsOf_22 : decode cX12_countsOf 22 = .ok (.iload_n 2, 1) := by decide +kernel
theorem dX12_countsOf_23 : decode cX12_countsOf 23 = .ok (.iload_n 1, 1) := by decide +kernel
theorem dX12_countsOf_24 : decode cX12_countsOf 24 = .ok (.iload_n 3, 1) := by decide +kernel
theorem dX12_countsOf_25 : decode cX12_countsOf 25 = .ok (.iconst (-1), 1) := by decide +kernel
theorem dX12_countsOf_26 : decode cX12_countsOf 26 = .ok (.ixor, 1) := by decide +kernel
theorem dX12_countsOf_27 : decode cX12_countsOf 27 = .ok (.iand, 1) := by decide +kernel
theorem dX12_countsOf_28 : decode cX12_countsOf 28 = .ok (.iload 4, 2) := by decide +kernel
theorem dX12_countsOf_30 : decode cX12_countsOf 30 = .ok (.invokestatic 275, 3) := by decide +kernel
theorem dX12_countsOf_33 : decode cX12_countsOf 33 = .ok (.ifCond .eq 21, 3) := by decide +kernel
theorem dX12_countsOf_36 : decode cX12_countsOf 36 = .ok (.aload_n 0, 1) := by decide +kernel
theorem dX12_countsOf_37 : decode cX12_countsOf 37 = .ok (.iload 4, 2) := by decide +kernel
theorem dX12_countsOf_39 : decode cX12_countsOf 39 = .ok (.iconst 5, 1) := by decide +kernel
theorem dX12_countsOf_40 : decode cX12_countsOf 40 = .ok (.invokevirtual 72, 3) := by decide +kernel
theorem dX12_countsOf_43 : decode cX12_countsOf 43 = .ok (.ifCond .le 7, 3) := by decide +kernel
theorem dX12_countsOf_46 : decode cX12_countsOf 46 = .ok (.iconst 2, 1) := by decide +kernel
theorem dX12_countsOf_47 : decode cX12_countsOf 47 = .ok (.goto 8, 3) := by decide +kernel
theorem dX12_countsOf_50 : decode cX12_countsOf 50 = .ok (.iconst 1, 1) := by decide +kernel
theorem dX12_countsOf_51 : decode cX12_countsOf 51 = .ok (.goto 4, 3) := by decide +kernel
theorem dX12_countsOf_54 : decode cX12_countsOf 54 = .ok (.iconst 0, 1) := by decide +kernel
theorem dX12_countsOf_55 : decode cX12_countsOf 55 = .ok (.iadd, 1) := by decide +kernel
theorem dX12_countsOf_56 : decode cX12_countsOf 56 = .ok (.istore_n 2, 1) := by decide +kernel
theorem dX12_countsOf_57 : decode cX12_countsOf 57 = .ok (.iinc 4 1, 3) := by decide +kernel
theorem dX12_countsOf_60 : decode cX12_countsOf 60 = .ok (.goto (-49), 3) := by decide +kernel
theorem dX12_countsOf_63 : decode cX12_countsOf 63 = .ok (.iload_n 2, 1) := by decide +kernel
theorem dX12_countsOf_64 : decode cX12_countsOf 64 = .ok (.ireturn, 1) := by decide +kernel
def q12_countsOf (σ : St) (set_a : Int32) : Option Int32 :=
  Option.bind (q12_those σ 4) fun x1_ =>
  Option.bind (loop2 (fun rec6_ (n9_ : Int32) (p10_ : Int32) =>
  Option.bind (ag σ 1 752 3) fun x15_ =>
  if p10_ < x15_ then
  Option.bind (if q12_isOf (set_a &&& (x1_ ^^^ (-1))) p10_ = true then (Option.bind (Option.bind (q12_of σ p10_ 5) fun x30_ =>
  if 0 < x30_ then (some (2 : Int32)) else (some (1 : Int32))) fun x25_ =>
  some x25_) else (some (0 : Int32))) fun x19_ =>
  lt (n9_ + x19_) fun n35_ =>
  lt (p10_ + 1) fun p37_ =>
  rec6_ n35_ p37_
  else (some (n9_, p10_))) fuelN (0 : Int32) (0 : Int32)) fun y3_ =>
  some y3_.1
abbrev rm12_countsOf : Room := { frames := 2, cells := 0, slots := 0, locals := 45 }
set_option maxHeartbeats 4000000 in
set_option maxRecDepth 100000 in
theorem p12_countsOf {Θ : Tz} {σ : St} {ρ : Option Value × St} (C : Zc Θ cX12_countsOf 5 RX12 (some .int) rm12_countsOf) (hkd : Θ.2.2.2.2.1 = kdM) {set_a : Int32} {r : Int32} (hf : q12_countsOf σ set_a = some r) (hρ : ρ = (some (.int r), σ)) : Z Θ 5 0 0 (zQ Θ ρ) σ 0 [(0, .ref (zA Θ 0)), (1, .int set_a)] [] := by
  unfold q12_countsOf at hf
  refine z_iconst (v := 0) C dX12_countsOf_0 ic_0 ?_
  refine z_istN C dX12_countsOf_1 rfl rfl (Nat.le_of_ble_eq_true rfl) rfl ?_
  refine z_aload_n C 1 dX12_countsOf_2 rfl rfl ?_
  refine z_iconst (v := 4) C dX12_countsOf_3 ic_4 ?_
  obtain ⟨x1_, h2_, hf⟩ := ob hf
  refine cr12_266 (what_a := 4) C hkd  h2_ ⟨(Nat.le_of_ble_eq_true rfl), (Nat.le_of_ble_eq_true rfl)⟩ (Nat.le_of_ble_eq_true rfl) ⟨Nat.zero_le _, Nat.zero_le _⟩ dX12_countsOf_4 ?_
  refine z_istN C dX12_countsOf_7 rfl rfl (Nat.le_of_ble_eq_true rfl) rfl ?_
  refine z_iconst (v := 0) C dX12_countsOf_8 ic_0 ?_
  refine z_ist C dX12_countsOf_9 rfl (Nat.le_of_ble_eq_true rfl) rfl ?_
  refine Z.sub [3, 4, 2, 1, 0] rfl ?_
  obtain ⟨y3_, h4_, hf⟩ := ob hf
  suffices K5_ : Z Θ 5 0 0 (zQ Θ ρ) σ 63 [(0, .ref (zA Θ 0)), (1, .int set_a), (2, .int y3_.1), (3, .int x1_), (4, .int y3_.2)] [] by
    refine loop2_Z (P := fun (n9_ : Int32) (p10_ : Int32) => Z Θ 5 0 0 (zQ Θ ρ) σ 11 [(0, .ref (zA Θ 0)), (1, .int set_a), (2, .int n9_), (3, .int x1_), (4, .int p10_)] []) ?_ fuelN (0 : Int32) (0 : Int32) h4_
    clear h4_
    intro rec6_ n9_ p10_ h7_ h8_
    refine z_iload C 4 dX12_countsOf_11 rfl ?_
    refine z_aload_n C 0 dX12_countsOf_13 rfl rfl ?_
    refine fg12_7 C hkd dX12_countsOf_14 ?_
    refine z_iconst (v := 3) C dX12_countsOf_17 ic_3 ?_
    obtain ⟨x15_, h16_, h8_⟩ := ob h8_
    refine z_ag C h16_ (kM_1 hkd) dX12_countsOf_18 ?_
    have K13_ : p10_ < x15_ → Z Θ 5 0 0 (zQ Θ ρ) σ 22 [(0, .ref (zA Θ 0)), (1, .int set_a), (2, .int n9_), (3, .int x1_), (4, .int p10_)] [] := by
      intro h18_
      rw [if_pos h18_] at h8_
      refine z_iload_n C 2 dX12_countsOf_22 rfl rfl ?_
      obtain ⟨x19_, h20_, h8_⟩ := ob h8_
      suffices K21_ : Z Θ 5 0 0 (zQ Θ ρ) σ 55 [(0, .ref (zA Θ 0)), (1, .int set_a), (2, .int n9_), (3, .int x1_), (4, .int p10_)] [.int x19_, .int n9_] by
        have K22_ : q12_isOf (set_a &&& (x1_ ^^^ (-1))) p10_ = true → Z Θ 5 0 0 (zQ Θ ρ) σ 36 [(0, .ref (zA Θ 0)), (1, .int set_a), (2, .int n9_), (3, .int x1_), (4, .int p10_)] [.int n9_] := by
          intro h34_
          rw [if_pos h34_] at h20_
          obtain ⟨x25_, h26_, h20_⟩ := ob h20_
          suffices K27_ : Z Θ 5 0 0 (zQ Θ ρ) σ 55 [(0, .ref (zA Θ 0)), (1, .int set_a), (2, .int n9_), (3, .int x1_), (4, .int p10_)] [.int x25_, .int n9_] by
            refine z_aload_n C 0 dX12_countsOf_36 rfl rfl ?_
            refine z_iload C 4 dX12_countsOf_37 rfl ?_
            refine z_iconst (v := 5) C dX12_countsOf_39 ic_5 ?_
            obtain ⟨x30_, h31_, h26_⟩ := ob h26_
            refine cr12_72 (p_a := p10_) (what_a := 5) C hkd  h31_ ⟨(Nat.le_of_ble_eq_true rfl), (Nat.le_of_ble_eq_true rfl)⟩ (Nat.le_of_ble_eq_true rfl) ⟨Nat.zero_le _, Nat.zero_le _⟩ dX12_countsOf_40 ?_
            have K28_ : 0 < x30_ → Z Θ 5 0 0 (zQ Θ ρ) σ 46 [(0, .ref (zA Θ 0)), (1, .int set_a), (2, .int n9_), (3, .int x1_), (4, .int p10_)] [.int n9_] := by
              intro h33_
              rw [if_pos h33_] at h26_
              refine z_iconst (v := 2) C dX12_countsOf_46 ic_2 ?_
              refine z_goto C 55 dX12_countsOf_47 (by decide) ?_
              cases h26_
              exact K27_
            have K29_ : ¬ (0 < x30_) → Z Θ 5 0 0 (zQ Θ ρ) σ 50 [(0, .ref (zA Θ 0)), (1, .int set_a), (2, .int n9_), (3, .int x1_), (4, .int p10_)] [.int n9_] := by
              intro h33_
              rw [if_neg h33_] at h26_
              refine z_iconst (v := 1) C dX12_countsOf_50 ic_1 ?_
              refine z_goto C 55 dX12_countsOf_51 (by decide) ?_
              cases h26_
              exact K27_
            refine c0_gt_f C 50 dX12_countsOf_43 (by decide) (fun h32_ => ?_) (fun h32_ => ?_)
            · exact K28_ h32_
            · exact K29_ h32_
          cases h20_
          exact K21_
        have K23_ : ¬ (q12_isOf (set_a &&& (x1_ ^^^ (-1))) p10_ = true) → Z Θ 5 0 0 (zQ Θ ρ) σ 54 [(0, .ref (zA Θ 0)), (1, .int set_a), (2, .int n9_), (3, .int x1_), (4, .int p10_)] [.int n9_] := by
          intro h34_
          rw [if_neg h34_] at h20_
          refine z_iconst (v := 0) C dX12_countsOf_54 ic_0 ?_
          cases h20_
          exact K21_
        refine z_iload_n C 1 dX12_countsOf_23 rfl rfl ?_
        refine z_iload_n C 3 dX12_countsOf_24 rfl rfl ?_
        refine z_iconst (v := (-1)) C dX12_countsOf_25 ic_m1 ?_
        refine z_ixor C dX12_countsOf_26 ?_
        refine z_iand C dX12_countsOf_27 ?_
        refine z_iload C 4 dX12_countsOf_28 rfl ?_
        refine cr12_275 (set_a := (set_a &&& (x1_ ^^^ (-1)))) (k_a := p10_) C hkd  ⟨(Nat.le_of_ble_eq_true rfl), (Nat.le_of_ble_eq_true rfl)⟩ (Nat.le_of_ble_eq_true rfl) ⟨Nat.zero_le _, Nat.zero_le _⟩ dX12_countsOf_30 ?_
        refine cb_f C 54 dX12_countsOf_33 (by decide) (fun h24_ => ?_) (fun h24_ => ?_)
        · exact K22_ h24_
        · exact K23_ h24_
      refine z_iadd C dX12_countsOf_55 ?_
      obtain ⟨n35_, h36_, h8_⟩ := lt_ h8_
      refine z_istN C dX12_countsOf_56 h36_ rfl (Nat.le_of_ble_eq_true rfl) rfl ?_
      obtain ⟨p37_, h38_, h8_⟩ := lt_ h8_
      refine z_inc C 4 dX12_countsOf_57 rfl ic_1 h38_ (Nat.le_of_ble_eq_true rfl) rfl ?_
      refine z_goto C 11 dX12_countsOf_60 (by decide) ?_
      refine Z.sub [2, 3, 1, 4, 0] rfl ?_
      exact h7_ _ _ h8_
    have K14_ : ¬ (p10_ < x15_) → Z Θ 5 0 0 (zQ Θ ρ) σ 63 [(0, .ref (zA Θ 0)), (1, .int set_a), (2, .int n9_), (3, .int x1_), (4, .int p10_)] [] := by
      intro h18_
      rw [if_neg h18_] at h8_
      cases h8_
      exact K5_
    refine c_lt_f C 63 dX12_countsOf_19 (by decide) (fun h17_ => ?_) (fun h17_ => ?_)
    · exact K13_ h17_
    · exact K14_ h17_
  refine z_iload_n C 2 dX12_countsOf_63 rfl rfl ?_
  cases hf
  subst hρ
  exact z_iret C dX12_countsOf_64
theorem c12_countsOf {l : Launch} {kd : List KD} {w : Wp} {σ : St} {set_a : Int32} (hkd : kd = kdM) (hi : zI kd w) {r : Int32} (hf : q12_countsOf σ set_a = some r) : zM l kd w yX12_countsOf cX12_countsOf 5 (some .int) rm12_countsOf [.ref (w.2.2.1 0), .int set_a] σ (some (.int r), σ) := zM_of rfl hi (Nat.le_of_ble_eq_true rfl) (fun Θ hl hw C => by
  obtain ⟨Θ1, Θ2, Θ3, Θ4, Θ5⟩ := Θ
  cases hw
  exact p12_countsOf C hkd  hf rfl)
/-! LastLoafModel.doesCarry -/
theorem w_10_130 : Cond.code ({ cls := "LastLoafModel", name := "all", desc := "()I" } : MethodName) prog_14_method_12_code (1 : Nat) (Option.some ClassFile.FieldType.int) ∈ TB := tb_in (lwt_10 (List.mem_of_getElem? (i := 130) (by decide +kernel))) rfl
theorem w_10_127 : Cond.methodLink "LastLoafModel" (422 : Nat) ({ cls := "LastLoafModel", name := "all", desc := "()I" } : MethodName) ∈ TB := tb_in (lwt_10 (List.mem_of_getElem? (i := 127) (by decide +kernel))) rfl
theorem w_10_129 : Cond.instanceMethod ({ cls := "LastLoafModel", name := "all", desc := "()I" } : MethodName) ∈ TB := tb_in (lwt_10 (List.mem_of_getElem? (i := 129) (by decide +kernel))) rfl
theorem ws_LastLoafModel_all__I : Cond.selects "LastLoafModel" (⟨"LastLoafModel", "all", "()I"⟩ : MethodName) (⟨"LastLoafModel", "all", "()I"⟩ : MethodName) ∈ TB := tb_in (List.mem_append_left _ (List.mem_of_getElem? (i := 88) (by decide +kernel))) rfl
theorem cr12_422 {Θ : Tz} {cc : ByteArray} {nL kc ks : Nat} {ret : Option FieldType} {rm : Room} {Q : State → Prop} {σ : St} {pc : Nat} {lv : List (Nat × Value)} {st : List Value} (C : Zc Θ cc nL RX12 ret rm) (hkd : Θ.2.2.2.2.1 = kdM) {r : Int32} (hx : q12_all σ = some r) (hrm : rm12_all.frames + 1 ≤ rm.frames ∧ 8 + (1 + 11) + rm12_all.locals ≤ rm.locals) (hcat : (st.map fun v => v.category).sum ≤ 8) (hk : kc ≤ rm.cells ∧ ks ≤ rm.slots) (hd : decode cc pc = .ok (.invokevirtual 422, 3)) (kk : Z Θ nL kc ks Q σ (pc + 3) lv (.int r :: st)) : Z Θ nL kc ks Q σ pc lv (.ref (zA Θ 0) :: st) := z_callV C 0 [] (some (.int r), σ) 0 (kM_0 hkd) rfl (c12_all hkd (zc_inj C) hx) w_10_130 w_10_127 w_10_129 ws_LastLoafModel_all__I w_1_14 ⟨rfl, rfl, hrm.1, hrm.2⟩ (by decide +kernel) rfl rfl hcat hk hd kk
theorem w_10_134 : Cond.code ({ cls := "LastLoafModel", name := "countsOf", desc := "(I)I" } : MethodName) prog_14_method_113_code (5 : Nat) (Option.some ClassFile.FieldType.int) ∈ TB := tb_in (lwt_10 (List.mem_of_getElem? (i := 134) (by decide +kernel))) rfl
theorem w_10_131 : Cond.methodLink "LastLoafModel" (425 : Nat) ({ cls := "LastLoafModel", name := "countsOf", desc := "(I)I" } : MethodName) ∈ TB := tb_in (lwt_10 (List.mem_of_getElem? (i := 131) (by decide +kernel))) rfl
theorem w_10_133 : Cond.instanceMethod ({ cls := "LastLoafModel", name := "countsOf", desc := "(I)I" } : MethodName) ∈ TB := tb_in (lwt_10 (List.mem_of_getElem? (i := 133) (by decide +kernel))) rfl
theorem ws_LastLoafModel_countsOf_I_I : Cond.selects "LastLoafModel" (⟨"LastLoafModel", "countsOf", "(I)I"⟩ : MethodName) (⟨"LastLoafModel", "countsOf", "(I)I"⟩ : MethodName) ∈ TB := tb_in (List.mem_append_left _ (List.mem_of_getElem? (i := 89) (by decide +kernel))) rfl
theorem cr12_425 {Θ : Tz} {cc : ByteArray} {nL kc ks : Nat} {ret : Option FieldType} {rm : Room} {Q : State → Prop} {σ : St} {pc : Nat} {lv : List (Nat × Value)} {st : List Value} (C : Zc Θ cc nL RX12 ret rm) (hkd : Θ.2.2.2.2.1 = kdM) {set_a : Int32} {r : Int32} (hx : q12_countsOf σ set_a = some r) (hrm : rm12_countsOf.frames + 1 ≤ rm.frames ∧ 8 + (5 + 11) + rm12_countsOf.locals ≤ rm.locals) (hcat : (st.map fun v => v.category).sum ≤ 8) (hk : kc ≤ rm.cells ∧ ks ≤ rm.slots) (hd : decode cc pc = .ok (.invokevirtual 425, 3)) (kk : Z Θ nL kc ks Q σ (pc + 3) lv (.int r :: st)) : Z Θ nL kc ks Q σ pc lv (.int set_a :: .ref (zA Θ 0) :: st) := z_callV C 0 [.int set_a] (some (.int r), σ) 1 (kM_0 hkd) rfl (c12_countsOf (set_a := set_a) hkd (zc_inj C) hx) w_10_134 w_10_131 w_10_133 ws_LastLoafModel_countsOf_I_I w_1_14 ⟨rfl, rfl, hrm.1, hrm.2⟩ (by decide +kernel) rfl rfl hcat hk hd kk
theorem dX12_doesCarry_0 : decode cX12_doesCarry 0 = .ok (.iconst 2, 1) := by decide +kernel
theorem dX12_doesCarry_1 : decode cX12_doesCarry 1 = .ok (.aload_n 0, 1) := by decide +kernel
theorem dX12_doesCarry_2 : decode cX12_doesCarry 2 = .ok (.iload_n 1, 1) := by decide +kernel
theorem dX12_doesCarry_3 : decode cX12_doesCarry 3 = .ok (.aload_n 0, 1) := by decide +kernel
theorem dX12_doesCarry_4 : decode cX12_doesCarry 4 = .ok (.invokevirtual 422, 3) := by decide +kernel
theorem dX12_doesCarry_7 : decode cX12_doesCarry 7 = .ok (.iand, 1) := by decide +kernel
theorem dX12_doesCarry_8 : decode cX12_doesCarry 8 = .ok (.invokevirtual 425, 3) := by decide +kernel
theorem dX12_doesCarry_11 : decode cX12_doesCarry 11 = .ok (.imul, 1) := by decide +kernel
theorem dX12_doesCarry_12 : decode cX12_doesCarry 12 = .ok (.aload_n 0, 1) := by decide +kernel
theorem dX12_doesCarry_13 : decode cX12_doesCarry 13 = .ok (.aload_n 0, 1) := by decide +kernel
theorem dX12_doesCarry_14 : decode cX12_doesCarry 14 = .ok (.invokevirtual 422, 3) := by decide +kernel
theorem dX12_doesCarry_17 : decode cX12_doesCarry 17 = .ok (.invokevirtual 425, 3) := by decide +kernel
theorem dX12_doesCarry_20 : decode cX12_doesCarry 20 = .ok (.if_icmp .le 7, 3) := by decide +kernel
theorem dX12_doesCarry_23 : decode cX12_doesCarry 23 = .ok (.iconst 1, 1) := by decide +kernel
theorem dX12_doesCarry_24 : decode cX12_doesCarry 24 = .ok (.goto 4, 3) := by decide +kernel
theorem dX12_doesCarry_27 : decode cX12_doesCarry 27 = .ok (.iconst 0, 1) := by decide +kernel
theorem dX12_doesCarry_28 : decode cX12_doesCarry 28 = .ok (.ireturn, 1) := by decide +kernel
def q12_doesCarry (σ : St) (set_a : Int32) : Option Bool :=
  Option.bind (Option.bind (q12_all σ) fun x6_ =>
  Option.bind (q12_countsOf σ (set_a &&& x6_)) fun x8_ =>
  Option.bind (q12_all σ) fun x10_ =>
  Option.bind (q12_countsOf σ x10_) fun x12_ =>
  if x12_ < (2 * x8_) then (some true) else (some false)) fun x1_ =>
  some x1_
abbrev rm12_doesCarry : Room := { frames := 3, cells := 0, slots := 0, locals := 69 }
set_option maxHeartbeats 4000000 in
set_option maxRecDepth 100000 in
theorem p12_doesCarry {Θ : Tz} {σ : St} {ρ : Option Value × St} (C : Zc Θ cX12_doesCarry 2 RX12 (some .boolean) rm12_doesCarry) (hkd : Θ.2.2.2.2.1 = kdM) {set_a : Int32} {r : Bool} (hf : q12_doesCarry σ set_a = some r) (hρ : ρ = (some (.int (b2i r)), σ)) : Z Θ 2 0 0 (zQ Θ ρ) σ 0 [(0, .ref (zA Θ 0)), (1, .int set_a)] [] := by
  unfold q12_doesCarry at hf
  obtain ⟨x1_, h2_, hf⟩ := ob hf
  suffices K3_ : Z Θ 2 0 0 (zQ Θ ρ) σ 28 [(0, .ref (zA Θ 0)), (1, .int set_a)] [.int (b2i x1_)] by
    refine z_iconst (v := 2) C dX12_doesCarry_0 ic_2 ?_
    refine z_aload_n C 0 dX12_doesCarry_1 rfl rfl ?_
    refine z_iload_n C 1 dX12_doesCarry_2 rfl rfl ?_
    refine z_aload_n C 0 dX12_doesCarry_3 rfl rfl ?_
    obtain ⟨x6_, h7_, h2_⟩ := ob h2_
    refine cr12_422 C hkd  h7_ ⟨(Nat.le_of_ble_eq_true rfl), (Nat.le_of_ble_eq_true rfl)⟩ (Nat.le_of_ble_eq_true rfl) ⟨Nat.zero_le _, Nat.zero_le _⟩ dX12_doesCarry_4 ?_
    refine z_iand C dX12_doesCarry_7 ?_
    obtain ⟨x8_, h9_, h2_⟩ := ob h2_
    refine cr12_425 (set_a := (set_a &&& x6_)) C hkd  h9_ ⟨(Nat.le_of_ble_eq_true rfl), (Nat.le_of_ble_eq_true rfl)⟩ (Nat.le_of_ble_eq_true rfl) ⟨Nat.zero_le _, Nat.zero_le _⟩ dX12_doesCarry_8 ?_
    refine z_imul C dX12_doesCarry_11 ?_
    refine z_aload_n C 0 dX12_doesCarry_12 rfl rfl ?_
    refine z_aload_n C 0 dX12_doesCarry_13 rfl rfl ?_
    obtain ⟨x10_, h11_, h2_⟩ := ob h2_
    refine cr12_422 C hkd  h11_ ⟨(Nat.le_of_ble_eq_true rfl), (Nat.le_of_ble_eq_true rfl)⟩ (Nat.le_of_ble_eq_true rfl) ⟨Nat.zero_le _, Nat.zero_le _⟩ dX12_doesCarry_14 ?_
    obtain ⟨x12_, h13_, h2_⟩ := ob h2_
    refine cr12_425 (set_a := x10_) C hkd  h13_ ⟨(Nat.le_of_ble_eq_true rfl), (Nat.le_of_ble_eq_true rfl)⟩ (Nat.le_of_ble_eq_true rfl) ⟨Nat.zero_le _, Nat.zero_le _⟩ dX12_doesCarry_17 ?_
    have K4_ : x12_ < (2 * x8_) → Z Θ 2 0 0 (zQ Θ ρ) σ 23 [(0, .ref (zA Θ 0)), (1, .int set_a)] [] := by
      intro h15_
      rw [if_pos h15_] at h2_
      refine z_iconst (v := 1) C dX12_doesCarry_23 ic_1 ?_
      refine z_goto C 28 dX12_doesCarry_24 (by decide) ?_
      cases h2_
      exact K3_
    have K5_ : ¬ (x12_ < (2 * x8_)) → Z Θ 2 0 0 (zQ Θ ρ) σ 27 [(0, .ref (zA Θ 0)), (1, .int set_a)] [] := by
      intro h15_
      rw [if_neg h15_] at h2_
      refine z_iconst (v := 0) C dX12_doesCarry_27 ic_0 ?_
      cases h2_
      exact K3_
    refine c_gt_f C 27 dX12_doesCarry_20 (by decide) (fun h14_ => ?_) (fun h14_ => ?_)
    · exact K4_ h14_
    · exact K5_ h14_
  cases hf
  subst hρ
  exact z_zret C (b2i_narrow _) dX12_doesCarry_28
theorem c12_doesCarry {l : Launch} {kd : List KD} {w : Wp} {σ : St} {set_a : Int32} (hkd : kd = kdM) (hi : zI kd w) {r : Bool} (hf : q12_doesCarry σ set_a = some r) : zM l kd w yX12_doesCarry cX12_doesCarry 2 (some .boolean) rm12_doesCarry [.ref (w.2.2.1 0), .int set_a] σ (some (.int (b2i r)), σ) := zM_of rfl hi (Nat.le_of_ble_eq_true rfl) (fun Θ hl hw C => by
  obtain ⟨Θ1, Θ2, Θ3, Θ4, Θ5⟩ := Θ
  cases hw
  exact p12_doesCarry C hkd  hf rfl)
/-! LastLoafModel.carries -/
theorem w_10_126 : Cond.code ({ cls := "LastLoafModel", name := "doesCarry", desc := "(I)Z" } : MethodName) prog_14_method_114_code (2 : Nat) (Option.some ClassFile.FieldType.boolean) ∈ TB := tb_in (lwt_10 (List.mem_of_getElem? (i := 126) (by decide +kernel))) rfl
theorem w_10_123 : Cond.methodLink "LastLoafModel" (428 : Nat) ({ cls := "LastLoafModel", name := "doesCarry", desc := "(I)Z" } : MethodName) ∈ TB := tb_in (lwt_10 (List.mem_of_getElem? (i := 123) (by decide +kernel))) rfl
theorem w_10_125 : Cond.instanceMethod ({ cls := "LastLoafModel", name := "doesCarry", desc := "(I)Z" } : MethodName) ∈ TB := tb_in (lwt_10 (List.mem_of_getElem? (i := 125) (by decide +kernel))) rfl
theorem ws_LastLoafModel_doesCarry_I_Z : Cond.selects "LastLoafModel" (⟨"LastLoafModel", "doesCarry", "(I)Z"⟩ : MethodName) (⟨"LastLoafModel", "doesCarry", "(I)Z"⟩ : MethodName) ∈ TB := tb_in (List.mem_append_left _ (List.mem_of_getElem? (i := 87) (by decide +kernel))) rfl
theorem cr12_428 {Θ : Tz} {cc : ByteArray} {nL kc ks : Nat} {ret : Option FieldType} {rm : Room} {Q : State → Prop} {σ : St} {pc : Nat} {lv : List (Nat × Value)} {st : List Value} (C : Zc Θ cc nL RX12 ret rm) (hkd : Θ.2.2.2.2.1 = kdM) {set_a : Int32} {r : Bool} (hx : q12_doesCarry σ set_a = some r) (hrm : rm12_doesCarry.frames + 1 ≤ rm.frames ∧ 8 + (2 + 11) + rm12_doesCarry.locals ≤ rm.locals) (hcat : (st.map fun v => v.category).sum ≤ 8) (hk : kc ≤ rm.cells ∧ ks ≤ rm.slots) (hd : decode cc pc = .ok (.invokevirtual 428, 3)) (kk : Z Θ nL kc ks Q σ (pc + 3) lv (.int (b2i r) :: st)) : Z Θ nL kc ks Q σ pc lv (.int set_a :: .ref (zA Θ 0) :: st) := z_callV C 0 [.int set_a] (some (.int (b2i r)), σ) 1 (kM_0 hkd) rfl (c12_doesCarry (set_a := set_a) hkd (zc_inj C) hx) w_10_126 w_10_123 w_10_125 ws_LastLoafModel_doesCarry_I_Z w_1_14 ⟨rfl, rfl, hrm.1, hrm.2⟩ (by decide +kernel) rfl rfl hcat hk hd kk
theorem dX12_carries_0 : decode cX12_carries 0 = .ok (.aload_n 0, 1) := by decide +kernel
theorem dX12_carries_1 : decode cX12_carries 1 = .ok (.iconst 0, 1) := by decide +kernel
theorem dX12_carries_2 : decode cX12_carries 2 = .ok (.putfield 65, 3) := by decide +kernel
theorem dX12_carries_5 : decode cX12_carries 5 = .ok (.aload_n 0, 1) := by decide +kernel
theorem dX12_carries_6 : decode cX12_carries 6 = .ok (.iload_n 1, 1) := by decide +kernel
theorem dX12_carries_7 : decode cX12_carries 7 = .ok (.invokevirtual 428, 3) := by decide +kernel
theorem dX12_carries_10 : decode cX12_carries 10 = .ok (.ireturn, 1) := by decide +kernel
def q12_carries (σ : St) (set_a : Int32) : Option (Bool × St) :=
  lt (up σ 0 0 0) fun σ1_ =>
  Option.bind (q12_doesCarry σ1_ set_a) fun x3_ =>
  some (x3_, σ1_)
abbrev rm12_carries : Room := { frames := 4, cells := 0, slots := 0, locals := 90 }
set_option maxHeartbeats 4000000 in
set_option maxRecDepth 100000 in
theorem p12_carries {Θ : Tz} {σ : St} {ρ : Option Value × St} (C : Zc Θ cX12_carries 2 RX12 (some .boolean) rm12_carries) (hkd : Θ.2.2.2.2.1 = kdM) {set_a : Int32} {r : (Bool × St)} (hf : q12_carries σ set_a = some r) (hρ : ρ = (some (.int (b2i r.1)), r.2)) : Z Θ 2 0 0 (zQ Θ ρ) σ 0 [(0, .ref (zA Θ 0)), (1, .int set_a)] [] := by
  unfold q12_carries at hf
  refine z_aload_n C 0 dX12_carries_0 rfl rfl ?_
  refine z_iconst (v := 0) C dX12_carries_1 ic_0 ?_
  obtain ⟨σ1_, h2_, hf⟩ := lt_ hf
  refine fp12_65 C hkd h2_ dX12_carries_2 ?_
  refine z_aload_n C 0 dX12_carries_5 rfl rfl ?_
  refine z_iload_n C 1 dX12_carries_6 rfl rfl ?_
  obtain ⟨x3_, h4_, hf⟩ := ob hf
  refine cr12_428 (set_a := set_a) C hkd  h4_ ⟨(Nat.le_of_ble_eq_true rfl), (Nat.le_of_ble_eq_true rfl)⟩ (Nat.le_of_ble_eq_true rfl) ⟨Nat.zero_le _, Nat.zero_le _⟩ dX12_carries_7 ?_
  cases hf
  subst hρ
  exact z_zret C (b2i_narrow _) dX12_carries_10
theorem c12_carries {l : Launch} {kd : List KD} {w : Wp} {σ : St} {set_a : Int32} (hkd : kd = kdM) (hi : zI kd w) {r : (Bool × St)} (hf : q12_carries σ set_a = some r) : zM l kd w yX12_carries cX12_carries 2 (some .boolean) rm12_carries [.ref (w.2.2.1 0), .int set_a] σ (some (.int (b2i r.1)), r.2) := zM_of rfl hi (Nat.le_of_ble_eq_true rfl) (fun Θ hl hw C => by
  obtain ⟨Θ1, Θ2, Θ3, Θ4, Θ5⟩ := Θ
  cases hw
  exact p12_carries C hkd  hf rfl)
/-! LastLoafModel.swingsOf -/
theorem dX12_swingsOf_0 : decode cX12_swingsOf 0 = .ok (.iconst 0, 1) := by decide +kernel
theorem dX12_swingsOf_1 : decode cX12_swingsOf 1 = .ok (.istore_n 2, 1) := by decide +kernel
theorem dX12_swingsOf_2 : decode cX12_swingsOf 2 = .ok (.aload_n 0, 1) := by decide +kernel
theorem dX12_swingsOf_3 : decode cX12_swingsOf 3 = .ok (.iconst 4, 1) := by decide +kernel
theorem dX12_swingsOf_4 : decode cX12_swingsOf 4 = .ok (.invokevirtual 266, 3) := by decide +kernel
theorem dX12_swingsOf_7 : decode cX12_swingsOf 7 = .ok (.istore_n 3, 1) := by decide +kernel
theorem dX12_swingsOf_8 : decode cX12_swingsOf 8 = .ok (.iconst 0, 1) := by decide +kernel
theorem dX12_swingsOf_9 : decode cX12_swingsOf 9 = .ok (.istore 4, 2) := by decide +kernel
theorem dX12_swingsOf_11 : decode cX12_swingsOf 11 = .ok (.iload 4, 2) := by decide +kernel
theorem dX12_swingsOf_13 : decode cX12_swingsOf 13 = .ok (.aload_n 0, 1) := by decide +kernel
theorem dX12_swingsOf_14 : decode cX12_swingsOf 14 = .ok (.invokevirtual 422, 3) := by decide +kernel
theorem dX12_swingsOf_17 : decode cX12_swingsOf 17 = .ok (.if_icmp .gt 57, 3) := by decide +kernel
theorem dX12_swingsOf_20 : decode cX12_swingsOf 20 = .ok (.iload_n 2, 1) := by decide +kernel
theorem dX12_swingsOf_21 : decode cX12_swingsOf 21 = .ok (.iload 4, 2) := by decide +kernel
theorem dX12_swingsOf_23 : decode cX12_swingsOf 23 = .ok (.iload_n 3, 1) := by decide +kernel
theorem dX12_swingsOf_24 : decode cX12_swingsOf 24 = .ok (.iand, 1) := by decide +kernel
theorem dX12_swingsOf_25 : decode cX12_swingsOf 25 = .ok (.ifCond .ne 40, 3) := by decide +kernel
theorem dX12_swingsOf_28 : decode cX12_swingsOf 28 = .ok (.iload 4, 2) := by decide +kernel
theorem dX12_swingsOf_30 : decode cX12_swingsOf 30 = .ok (.iload_n 1, 1) := by decide +kernel
theorem dX12_swingsOf_31 : decode cX12_swingsOf 31 = .ok (.invokestatic 275, 3) := by decide +kernel
theorem dX12_swingsOf_34 : decode cX12_swingsOf 34 = .ok (.ifCond .eq 31, 3) := by decide +kernel
theorem dX12_swingsOf_37 : decode cX12_swingsOf 37 = .ok (.aload_n 0, 1) := by decide +kernel
theorem dX12_swingsOf_38 : decode cX12_swingsOf 38 = .ok (.iload 4, 2) := by decide +kernel
theorem dX12_swingsOf_40 : decode cX12_swingsOf 40 = .ok (.invokevirtual 428, 3) := by decide +kernel
theorem dX12_swingsOf_43 : decode cX12_swingsOf 43 = .ok (.ifCond .eq 22, 3) := by decide +kernel
theorem dX12_swingsOf_46 : decode cX12_swingsOf 46 = .ok (.aload_n 0, 1) := by decide +kernel
theorem dX12_swingsOf_47 : decode cX12_swingsOf 47 = .ok (.iload 4, 2) := by decide +kernel
theorem dX12_swingsOf_49 : decode cX12_swingsOf 49 = .ok (.iconst 1, 1) := by decide +kernel
theorem dX12_swingsOf_50 : decode cX12_swingsOf 50 = .ok (.iload_n 1, 1) := by decide +kernel
theorem dX12_swingsOf_51 : decode cX12_swingsOf 51 = .ok (.ishl, 1) := by decide +kernel
theorem dX12_swingsOf_52 : decode cX12_swingsOf 52 = .ok (.iconst (-1), 1) := by decide +kernel
theorem dX12_swingsOf_53 : decode cX12_swingsOf 53 = .ok (.ixor, 1) := by decide +kernel
theorem dX12_swingsOf_54 : decode cX12_swingsOf 54 = .ok (.iand, 1) := by decide +kernel
theorem dX12_swingsOf_55 : decode cX12_swingsOf 55 = .ok (.invokevirtual 428, 3) := by decide +kernel
theorem dX12_swingsOf_58 : decode cX12_swingsOf 58 = .ok (.ifCond .ne 7, 3) := by decide +kernel
theorem dX12_swingsOf_61 : decode cX12_swingsOf 61 = .ok (.iconst 1, 1) := by decide +kernel
theorem dX12_swingsOf_62 : decode cX12_swingsOf 62 = .ok (.goto 4, 3) := by decide +kernel
theorem dX12_swingsOf_65 : decode cX12_swingsOf 65 = .ok (.iconst 0, 1) := by decide +kernel
theorem dX12_swingsOf_66 : decode cX12_swingsOf 66 = .ok (.iadd, 1) := by decide +kernel
theorem dX12_swingsOf_67 : decode cX12_swingsOf 67 = .ok (.istore_n 2, 1) := by decide +kernel
theorem dX12_swingsOf_68 : decode cX12_swingsOf 68 = .ok (.iinc 4 1, 3) := by decide +kernel
theorem dX12_swingsOf_71 : decode cX12_swingsOf 71 = .ok (.goto (-60), 3) := by decide +kernel
theorem dX12_swingsOf_74 : decode cX12_swingsOf 74 = .ok (.iload_n 2, 1) := by decide +kernel
theorem dX12_swingsOf_75 : decode cX12_swingsOf 75 = .ok (.ireturn, 1) := by decide +kernel
def q12_swingsOf (σ : St) (p_a : Int32) : Option Int32 :=
  Option.bind (q12_those σ 4) fun x1_ =>
  Option.bind (loop2 (fun rec6_ (n9_ : Int32) (set10_ : Int32) =>
  Option.bind (q12_all σ) fun x15_ =>
  if set10_ ≤ x15_ then
  Option.bind (Option.bind (if (set10_ &&& x1_) = 0 then (if q12_isOf set10_ p_a = true then (Option.bind (q12_doesCarry σ set10_) fun x28_ =>
  if x28_ = true then (Option.bind (q12_doesCarry σ (set10_ &&& ((shl 1 p_a) ^^^ (-1)))) fun x31_ =>
  if x31_ = true then (some false) else (some true)) else (some false)) else (some false)) else (some false)) fun t24_ =>
  if t24_ = true then (some (1 : Int32)) else (some (0 : Int32))) fun x19_ =>
  lt (n9_ + x19_) fun n35_ =>
  lt (set10_ + 1) fun set37_ =>
  rec6_ n35_ set37_
  else (some (n9_, set10_))) fuelN (0 : Int32) (0 : Int32)) fun y3_ =>
  some y3_.1
abbrev rm12_swingsOf : Room := { frames := 4, cells := 0, slots := 0, locals := 90 }
set_option maxHeartbeats 4000000 in
set_option maxRecDepth 100000 in
theorem p12_swingsOf {Θ : Tz} {σ : St} {ρ : Option Value × St} (C : Zc Θ cX12_swingsOf 5 RX12 (some .int) rm12_swingsOf) (hkd : Θ.2.2.2.2.1 = kdM) {p_a : Int32} {r : Int32} (hf : q12_swingsOf σ p_a = some r) (hρ : ρ = (some (.int r), σ)) : Z Θ 5 0 0 (zQ Θ ρ) σ 0 [(0, .ref (zA Θ 0)), (1, .int p_a)] [] := by
  unfold q12_swingsOf at hf
  refine z_iconst (v := 0) C dX12_swingsOf_0 ic_0 ?_
  refine z_istN C dX12_swingsOf_1 rfl rfl (Nat.le_of_ble_eq_true rfl) rfl ?_
  refine z_aload_n C 1 dX12_swingsOf_2 rfl rfl ?_
  refine z_iconst (v := 4) C dX12_swingsOf_3 ic_4 ?_
  obtain ⟨x1_, h2_, hf⟩ := ob hf
  refine cr12_266 (what_a := 4) C hkd  h2_ ⟨(Nat.le_of_ble_eq_true rfl), (Nat.le_of_ble_eq_true rfl)⟩ (Nat.le_of_ble_eq_true rfl) ⟨Nat.zero_le _, Nat.zero_le _⟩ dX12_swingsOf_4 ?_
  refine z_istN C dX12_swingsOf_7 rfl rfl (Nat.le_of_ble_eq_true rfl) rfl ?_
  refine z_iconst (v := 0) C dX12_swingsOf_8 ic_0 ?_
  refine z_ist C dX12_swingsOf_9 rfl (Nat.le_of_ble_eq_true rfl) rfl ?_
  refine Z.sub [3, 4, 2, 1, 0] rfl ?_
  obtain ⟨y3_, h4_, hf⟩ := ob hf
  suffices K5_ : Z Θ 5 0 0 (zQ Θ ρ) σ 74 [(0, .ref (zA Θ 0)), (1, .int p_a), (2, .int y3_.1), (3, .int x1_), (4, .int y3_.2)] [] by
    refine loop2_Z (P := fun (n9_ : Int32) (set10_ : Int32) => Z Θ 5 0 0 (zQ Θ ρ) σ 11 [(0, .ref (zA Θ 0)), (1, .int p_a), (2, .int n9_), (3, .int x1_), (4, .int set10_)] []) ?_ fuelN (0 : Int32) (0 : Int32) h4_
    clear h4_
    intro rec6_ n9_ set10_ h7_ h8_
    refine z_iload C 4 dX12_swingsOf_11 rfl ?_
    refine z_aload_n C 0 dX12_swingsOf_13 rfl rfl ?_
    obtain ⟨x15_, h16_, h8_⟩ := ob h8_
    refine cr12_422 C hkd  h16_ ⟨(Nat.le_of_ble_eq_true rfl), (Nat.le_of_ble_eq_true rfl)⟩ (Nat.le_of_ble_eq_true rfl) ⟨Nat.zero_le _, Nat.zero_le _⟩ dX12_swingsOf_14 ?_
    have K13_ : set10_ ≤ x15_ → Z Θ 5 0 0 (zQ Θ ρ) σ 20 [(0, .ref (zA Θ 0)), (1, .int p_a), (2, .int n9_), (3, .int x1_), (4, .int set10_)] [] := by
      intro h18_
      rw [if_pos h18_] at h8_
      refine z_iload_n C 2 dX12_swingsOf_20 rfl rfl ?_
      obtain ⟨x19_, h20_, h8_⟩ := ob h8_
      suffices K21_ : Z Θ 5 0 0 (zQ Θ ρ) σ 66 [(0, .ref (zA Θ 0)), (1, .int p_a), (2, .int n9_), (3, .int x1_), (4, .int set10_)] [.int x19_, .int n9_] by
        obtain ⟨t24_, h25_, h20_⟩ := ob h20_
        have K22_ : t24_ = true → Z Θ 5 0 0 (zQ Θ ρ) σ 61 [(0, .ref (zA Θ 0)), (1, .int p_a), (2, .int n9_), (3, .int x1_), (4, .int set10_)] [.int n9_] := by
          intro h34_
          rw [if_pos h34_] at h20_
          refine z_iconst (v := 1) C dX12_swingsOf_61 ic_1 ?_
          refine z_goto C 66 dX12_swingsOf_62 (by decide) ?_
          cases h20_
          exact K21_
        have K23_ : ¬ (t24_ = true) → Z Θ 5 0 0 (zQ Θ ρ) σ 65 [(0, .ref (zA Θ 0)), (1, .int p_a), (2, .int n9_), (3, .int x1_), (4, .int set10_)] [.int n9_] := by
          intro h34_
          rw [if_neg h34_] at h20_
          refine z_iconst (v := 0) C dX12_swingsOf_65 ic_0 ?_
          cases h20_
          exact K21_
        refine z_iload C 4 dX12_swingsOf_21 rfl ?_
        refine z_iload_n C 3 dX12_swingsOf_23 rfl rfl ?_
        refine z_iand C dX12_swingsOf_24 ?_
        refine c0_eq_f C 65 dX12_swingsOf_25 (by decide) (fun h26_ => ?_) (fun h26_ => ?_)
        · rw [if_pos h26_] at h25_
          refine z_iload C 4 dX12_swingsOf_28 rfl ?_
          refine z_iload_n C 1 dX12_swingsOf_30 rfl rfl ?_
          refine cr12_275 (set_a := set10_) (k_a := p_a) C hkd  ⟨(Nat.le_of_ble_eq_true rfl), (Nat.le_of_ble_eq_true rfl)⟩ (Nat.le_of_ble_eq_true rfl) ⟨Nat.zero_le _, Nat.zero_le _⟩ dX12_swingsOf_31 ?_
          refine cb_f C 65 dX12_swingsOf_34 (by decide) (fun h27_ => ?_) (fun h27_ => ?_)
          · rw [if_pos h27_] at h25_
            refine z_aload_n C 0 dX12_swingsOf_37 rfl rfl ?_
            refine z_iload C 4 dX12_swingsOf_38 rfl ?_
            obtain ⟨x28_, h29_, h25_⟩ := ob h25_
            refine cr12_428 (set_a := set10_) C hkd  h29_ ⟨(Nat.le_of_ble_eq_true rfl), (Nat.le_of_ble_eq_true rfl)⟩ (Nat.le_of_ble_eq_true rfl) ⟨Nat.zero_le _, Nat.zero_le _⟩ dX12_swingsOf_40 ?_
            refine cb_f C 65 dX12_swingsOf_43 (by decide) (fun h30_ => ?_) (fun h30_ => ?_)
            · rw [if_pos h30_] at h25_
              refine z_aload_n C 0 dX12_swingsOf_46 rfl rfl ?_
              refine z_iload C 4 dX12_swingsOf_47 rfl ?_
              refine z_iconst (v := 1) C dX12_swingsOf_49 ic_1 ?_
              refine z_iload_n C 1 dX12_swingsOf_50 rfl rfl ?_
              refine z_shl C dX12_swingsOf_51 ?_
              refine z_iconst (v := (-1)) C dX12_swingsOf_52 ic_m1 ?_
              refine z_ixor C dX12_swingsOf_53 ?_
              refine z_iand C dX12_swingsOf_54 ?_
              obtain ⟨x31_, h32_, h25_⟩ := ob h25_
              refine cr12_428 (set_a := (set10_ &&& ((shl 1 p_a) ^^^ (-1)))) C hkd  h32_ ⟨(Nat.le_of_ble_eq_true rfl), (Nat.le_of_ble_eq_true rfl)⟩ (Nat.le_of_ble_eq_true rfl) ⟨Nat.zero_le _, Nat.zero_le _⟩ dX12_swingsOf_55 ?_
              refine cb_t C 65 dX12_swingsOf_58 (by decide) (fun h33_ => ?_) (fun h33_ => ?_)
              · rw [if_pos h33_] at h25_
                cases h25_
                exact K23_ Bool.false_ne_true
              · rw [if_neg h33_] at h25_
                cases h25_
                exact K22_ rfl
            · rw [if_neg h30_] at h25_
              cases h25_
              exact K23_ Bool.false_ne_true
          · rw [if_neg h27_] at h25_
            cases h25_
            exact K23_ Bool.false_ne_true
        · rw [if_neg h26_] at h25_
          cases h25_
          exact K23_ Bool.false_ne_true
      refine z_iadd C dX12_swingsOf_66 ?_
      obtain ⟨n35_, h36_, h8_⟩ := lt_ h8_
      refine z_istN C dX12_swingsOf_67 h36_ rfl (Nat.le_of_ble_eq_true rfl) rfl ?_
      obtain ⟨set37_, h38_, h8_⟩ := lt_ h8_
      refine z_inc C 4 dX12_swingsOf_68 rfl ic_1 h38_ (Nat.le_of_ble_eq_true rfl) rfl ?_
      refine z_goto C 11 dX12_swingsOf_71 (by decide) ?_
      refine Z.sub [2, 3, 1, 4, 0] rfl ?_
      exact h7_ _ _ h8_
    have K14_ : ¬ (set10_ ≤ x15_) → Z Θ 5 0 0 (zQ Θ ρ) σ 74 [(0, .ref (zA Θ 0)), (1, .int p_a), (2, .int n9_), (3, .int x1_), (4, .int set10_)] [] := by
      intro h18_
      rw [if_neg h18_] at h8_
      cases h8_
      exact K5_
    refine c_le_f C 74 dX12_swingsOf_17 (by decide) (fun h17_ => ?_) (fun h17_ => ?_)
    · exact K13_ h17_
    · exact K14_ h17_
  refine z_iload_n C 2 dX12_swingsOf_74 rfl rfl ?_
  cases hf
  subst hρ
  exact z_iret C dX12_swingsOf_75
theorem c12_swingsOf {l : Launch} {kd : List KD} {w : Wp} {σ : St} {p_a : Int32} (hkd : kd = kdM) (hi : zI kd w) {r : Int32} (hf : q12_swingsOf σ p_a = some r) : zM l kd w yX12_swingsOf cX12_swingsOf 5 (some .int) rm12_swingsOf [.ref (w.2.2.1 0), .int p_a] σ (some (.int r), σ) := zM_of rfl hi (Nat.le_of_ble_eq_true rfl) (fun Θ hl hw C => by
  obtain ⟨Θ1, Θ2, Θ3, Θ4, Θ5⟩ := Θ
  cases hw
  exact p12_swingsOf C hkd  hf rfl)
/-! LastLoafModel.swings -/
theorem w_10_142 : Cond.code ({ cls := "LastLoafModel", name := "swingsOf", desc := "(I)I" } : MethodName) prog_14_method_116_code (5 : Nat) (Option.some ClassFile.FieldType.int) ∈ TB := tb_in (lwt_10 (List.mem_of_getElem? (i := 142) (by decide +kernel))) rfl
theorem w_10_139 : Cond.methodLink "LastLoafModel" (431 : Nat) ({ cls := "LastLoafModel", name := "swingsOf", desc := "(I)I" } : MethodName) ∈ TB := tb_in (lwt_10 (List.mem_of_getElem? (i := 139) (by decide +kernel))) rfl
theorem w_10_141 : Cond.instanceMethod ({ cls := "LastLoafModel", name := "swingsOf", desc := "(I)I" } : MethodName) ∈ TB := tb_in (lwt_10 (List.mem_of_getElem? (i := 141) (by decide +kernel))) rfl
theorem ws_LastLoafModel_swingsOf_I_I : Cond.selects "LastLoafModel" (⟨"LastLoafModel", "swingsOf", "(I)I"⟩ : MethodName) (⟨"LastLoafModel", "swingsOf", "(I)I"⟩ : MethodName) ∈ TB := tb_in (List.mem_append_left _ (List.mem_of_getElem? (i := 90) (by decide +kernel))) rfl
theorem cr12_431 {Θ : Tz} {cc : ByteArray} {nL kc ks : Nat} {ret : Option FieldType} {rm : Room} {Q : State → Prop} {σ : St} {pc : Nat} {lv : List (Nat × Value)} {st : List Value} (C : Zc Θ cc nL RX12 ret rm) (hkd : Θ.2.2.2.2.1 = kdM) {p_a : Int32} {r : Int32} (hx : q12_swingsOf σ p_a = some r) (hrm : rm12_swingsOf.frames + 1 ≤ rm.frames ∧ 8 + (5 + 11) + rm12_swingsOf.locals ≤ rm.locals) (hcat : (st.map fun v => v.category).sum ≤ 8) (hk : kc ≤ rm.cells ∧ ks ≤ rm.slots) (hd : decode cc pc = .ok (.invokevirtual 431, 3)) (kk : Z Θ nL kc ks Q σ (pc + 3) lv (.int r :: st)) : Z Θ nL kc ks Q σ pc lv (.int p_a :: .ref (zA Θ 0) :: st) := z_callV C 0 [.int p_a] (some (.int r), σ) 1 (kM_0 hkd) rfl (c12_swingsOf (p_a := p_a) hkd (zc_inj C) hx) w_10_142 w_10_139 w_10_141 ws_LastLoafModel_swingsOf_I_I w_1_14 ⟨rfl, rfl, hrm.1, hrm.2⟩ (by decide +kernel) rfl rfl hcat hk hd kk
theorem dX12_swings_0 : decode cX12_swings 0 = .ok (.aload_n 0, 1) := by decide +kernel
theorem dX12_swings_1 : decode cX12_swings 1 = .ok (.aload_n 0, 1) := by decide +kernel
theorem dX12_swings_2 : decode cX12_swings 2 = .ok (.iload_n 1, 1) := by decide +kernel
theorem dX12_swings_3 : decode cX12_swings 3 = .ok (.invokevirtual 347, 3) := by decide +kernel
theorem dX12_swings_6 : decode cX12_swings 6 = .ok (.ifCond .ne 7, 3) := by decide +kernel
theorem dX12_swings_9 : decode cX12_swings 9 = .ok (.iconst 1, 1) := by decide +kernel
theorem dX12_swings_10 : decode cX12_swings 10 = .ok (.goto 4, 3) := by decide +kernel
theorem dX12_swings_13 : decode cX12_swings 13 = .ok (.iconst 0, 1) := by decide +kernel
theorem dX12_swings_14 : decode cX12_swings 14 = .ok (.putfield 65, 3) := by decide +kernel
theorem dX12_swings_17 : decode cX12_swings 17 = .ok (.aload_n 0, 1) := by decide +kernel
theorem dX12_swings_18 : decode cX12_swings 18 = .ok (.getfield 65, 3) := by decide +kernel
theorem dX12_swings_21 : decode cX12_swings 21 = .ok (.ifCond .le 7, 3) := by decide +kernel
theorem dX12_swings_24 : decode cX12_swings 24 = .ok (.iconst 0, 1) := by decide +kernel
theorem dX12_swings_25 : decode cX12_swings 25 = .ok (.goto 8, 3) := by decide +kernel
theorem dX12_swings_28 : decode cX12_swings 28 = .ok (.aload_n 0, 1) := by decide +kernel
theorem dX12_swings_29 : decode cX12_swings 29 = .ok (.iload_n 1, 1) := by decide +kernel
theorem dX12_swings_30 : decode cX12_swings 30 = .ok (.invokevirtual 431, 3) := by decide +kernel
theorem dX12_swings_33 : decode cX12_swings 33 = .ok (.ireturn, 1) := by decide +kernel
def q12_swings (σ : St) (p_a : Int32) : Option (Int32 × St) :=
  Option.bind (Option.bind (q12_isOne σ p_a) fun x6_ =>
  if ¬ (x6_ = true) then (some (1 : Int32)) else (some (0 : Int32))) fun x1_ =>
  lt (up σ 0 0 x1_) fun σ10_ =>
  Option.bind (if 0 < (σ10_ 0 0) then (some (0 : Int32)) else (Option.bind (q12_swingsOf σ10_ p_a) fun x18_ =>
  some x18_)) fun x12_ =>
  some (x12_, σ10_)
abbrev rm12_swings : Room := { frames := 5, cells := 0, slots := 0, locals := 114 }
set_option maxHeartbeats 4000000 in
set_option maxRecDepth 100000 in
theorem p12_swings {Θ : Tz} {σ : St} {ρ : Option Value × St} (C : Zc Θ cX12_swings 2 RX12 (some .int) rm12_swings) (hkd : Θ.2.2.2.2.1 = kdM) {p_a : Int32} {r : (Int32 × St)} (hf : q12_swings σ p_a = some r) (hρ : ρ = (some (.int r.1), r.2)) : Z Θ 2 0 0 (zQ Θ ρ) σ 0 [(0, .ref (zA Θ 0)), (1, .int p_a)] [] := by
  unfold q12_swings at hf
  refine z_aload_n C 0 dX12_swings_0 rfl rfl ?_
  obtain ⟨x1_, h2_, hf⟩ := ob hf
  suffices K3_ : Z Θ 2 0 0 (zQ Θ ρ) σ 14 [(0, .ref (zA Θ 0)), (1, .int p_a)] [.int x1_, .ref (zA Θ 0)] by
    refine z_aload_n C 0 dX12_swings_1 rfl rfl ?_
    refine z_iload_n C 1 dX12_swings_2 rfl rfl ?_
    obtain ⟨x6_, h7_, h2_⟩ := ob h2_
    refine cr12_347 (p_a := p_a) C hkd  h7_ ⟨(Nat.le_of_ble_eq_true rfl), (Nat.le_of_ble_eq_true rfl)⟩ (Nat.le_of_ble_eq_true rfl) ⟨Nat.zero_le _, Nat.zero_le _⟩ dX12_swings_3 ?_
    have K4_ : ¬ (x6_ = true) → Z Θ 2 0 0 (zQ Θ ρ) σ 9 [(0, .ref (zA Θ 0)), (1, .int p_a)] [.ref (zA Θ 0)] := by
      intro h9_
      rw [if_pos h9_] at h2_
      refine z_iconst (v := 1) C dX12_swings_9 ic_1 ?_
      refine z_goto C 14 dX12_swings_10 (by decide) ?_
      cases h2_
      exact K3_
    have K5_ : ¬ (¬ (x6_ = true)) → Z Θ 2 0 0 (zQ Θ ρ) σ 13 [(0, .ref (zA Θ 0)), (1, .int p_a)] [.ref (zA Θ 0)] := by
      intro h9_
      rw [if_neg h9_] at h2_
      refine z_iconst (v := 0) C dX12_swings_13 ic_0 ?_
      cases h2_
      exact K3_
    refine cb_t C 13 dX12_swings_6 (by decide) (fun h8_ => ?_) (fun h8_ => ?_)
    · exact K5_ (fun n => n h8_)
    · exact K4_ h8_
  obtain ⟨σ10_, h11_, hf⟩ := lt_ hf
  refine fp12_65 C hkd h11_ dX12_swings_14 ?_
  obtain ⟨x12_, h13_, hf⟩ := ob hf
  suffices K14_ : Z Θ 2 0 0 (zQ Θ ρ) σ10_ 33 [(0, .ref (zA Θ 0)), (1, .int p_a)] [.int x12_] by
    have K15_ : 0 < (σ10_ 0 0) → Z Θ 2 0 0 (zQ Θ ρ) σ10_ 24 [(0, .ref (zA Θ 0)), (1, .int p_a)] [] := by
      intro h20_
      rw [if_pos h20_] at h13_
      refine z_iconst (v := 0) C dX12_swings_24 ic_0 ?_
      refine z_goto C 33 dX12_swings_25 (by decide) ?_
      cases h13_
      exact K14_
    have K16_ : ¬ (0 < (σ10_ 0 0)) → Z Θ 2 0 0 (zQ Θ ρ) σ10_ 28 [(0, .ref (zA Θ 0)), (1, .int p_a)] [] := by
      intro h20_
      rw [if_neg h20_] at h13_
      refine z_aload_n C 0 dX12_swings_28 rfl rfl ?_
      refine z_iload_n C 1 dX12_swings_29 rfl rfl ?_
      obtain ⟨x18_, h19_, h13_⟩ := ob h13_
      refine cr12_431 (p_a := p_a) C hkd  h19_ ⟨(Nat.le_of_ble_eq_true rfl), (Nat.le_of_ble_eq_true rfl)⟩ (Nat.le_of_ble_eq_true rfl) ⟨Nat.zero_le _, Nat.zero_le _⟩ dX12_swings_30 ?_
      cases h13_
      exact K14_
    refine z_aload_n C 0 dX12_swings_17 rfl rfl ?_
    refine fg12_65 C hkd dX12_swings_18 ?_
    refine c0_gt_f C 28 dX12_swings_21 (by decide) (fun h17_ => ?_) (fun h17_ => ?_)
    · exact K15_ h17_
    · exact K16_ h17_
  cases hf
  subst hρ
  exact z_iret C dX12_swings_33
theorem c12_swings {l : Launch} {kd : List KD} {w : Wp} {σ : St} {p_a : Int32} (hkd : kd = kdM) (hi : zI kd w) {r : (Int32 × St)} (hf : q12_swings σ p_a = some r) : zM l kd w yX12_swings cX12_swings 2 (some .int) rm12_swings [.ref (w.2.2.1 0), .int p_a] σ (some (.int r.1), r.2) := zM_of rfl hi (Nat.le_of_ble_eq_true rfl) (fun Θ hl hw C => by
  obtain ⟨Θ1, Θ2, Θ3, Θ4, Θ5⟩ := Θ
  cases hw
  exact p12_swings C hkd  hf rfl)
/-! LastLoafModel.smallest -/
theorem dX12_smallest_0 : decode cX12_smallest 0 = .ok (.aload_n 0, 1) := by decide +kernel
theorem dX12_smallest_1 : decode cX12_smallest 1 = .ok (.iconst 0, 1) := by decide +kernel
theorem dX12_smallest_2 : decode cX12_smallest 2 = .ok (.putfield 65, 3) := by decide +kernel
theorem dX12_smallest_5 : decode cX12_smallest 5 = .ok (.iconst (-1), 1) := by decide +kernel
theorem dX12_smallest_6 : decode cX12_smallest 6 = .ok (.istore_n 1, 1) := by decide +kernel
theorem dX12_smallest_7 : decode cX12_smallest 7 = .ok (.aload_n 0, 1) := by decide +kernel
theorem dX12_smallest_8 : decode cX12_smallest 8 = .ok (.iconst 4, 1) := by decide +kernel
theorem dX12_smallest_9 : decode cX12_smallest 9 = .ok (.invokevirtual 266, 3) := by decide +kernel
theorem dX12_smallest_12 : decode cX12_smallest 12 = .ok (.istore_n 2, 1) := by decide +kernel
theorem dX12_smallest_13 : decode cX12_smallest 13 = .ok (.iconst 0, 1) := by decide +kernel
theorem dX12_smallest_14 : decode cX12_smallest 14 = .ok (.istore_n 3, 1) := by decide +kernel
theorem dX12_smallest_15 : decode cX12_smallest 15 = .ok (.iload_n 3, 1) := by decide +kernel
theorem dX12_smallest_16 : decode cX12_smallest 16 = .ok (.aload_n 0, 1) := by decide +kernel
theorem dX12_smallest_17 : decode cX12_smallest 17 = .ok (.invokevirtual 422, 3) := by decide +kernel
theorem dX12_smallest_20 : decode cX12_smallest 20 = .ok (.if_icmp .gt 41, 3) := by decide +kernel
theorem dX12_smallest_23 : decode cX12_smallest 23 = .ok (.iload_n 3, 1) := by decide +kernel
theorem dX12_smallest_24 : decode cX12_smallest 24 = .ok (.iload_n 2, 1) := by decide +kernel
theorem dX12_smallest_25 : decode cX12_smallest 25 = .ok (.iand, 1) := by decide +kernel
theorem dX12_smallest_26 : decode cX12_smallest 26 = .ok (.ifCond .ne 29, 3) := by decide +kernel
theorem dX12_smallest_29 : decode cX12_smallest 29 = .ok (.aload_n 0, 1) := by decide +kernel
theorem dX12_smallest_30 : decode cX12_smallest 30 = .ok (.iload_n 3, 1) := by decide +kernel
theorem dX12_smallest_31 : decode cX12_smallest 31 = .ok (.invokevirtual 428, 3) := by decide +kernel
theorem dX12_smallest_34 : decode cX12_smallest 34 = .ok (.ifCond .eq 21, 3) := by decide +kernel
theorem dX12_smallest_37 : decode cX12_smallest 37 = .ok (.iload_n 1, 1) := by decide +kernel
theorem dX12_smallest_38 : decode cX12_smallest 38 = .ok (.iconst (-1), 1) := by decide +kernel
theorem dX12_smallest_39 : decode cX12_smallest 39 = .ok (.if_icmp .eq 14, 3) := by decide +kernel
theorem dX12_smallest_42 : decode cX12_smallest 42 = .ok (.iload_n 3, 1) := by decide +kernel
theorem dX12_smallest_43 : decode cX12_smallest 43 = .ok (.invokestatic 286, 3) := by decide +kernel
theorem dX12_smallest_46 : decode cX12_smallest 46 = .ok (.iload_n 1, 1) := by decide +kernel
theorem dX12_smallest_47 : decode cX12_smallest 47 = .ok (.invokestatic 286, 3) := by decide +kernel
theorem dX12_smallest_50 : decode cX12_smallest 50 = .ok (.if_icmp .ge 5, 3) := by decide +kernel
theorem dX12_smallest_53 : decode cX12_smallest 53 = .ok (.iload_n 3, 1) := by decide +kernel
theorem dX12_smallest_54 : decode cX12_smallest 54 = .ok (.istore_n 1, 1) := by decide +kernel
theorem dX12_smallest_55 : decode cX12_smallest 55 = .ok (.iinc 3 1, 3) := by decide +kernel
theorem dX12_smallest_58 : decode cX12_smallest 58 = .ok (.goto (-43), 3) := by decide +kernel
theorem dX12_smallest_61 : decode cX12_smallest 61 = .ok (.iload_n 1, 1) := by decide +kernel
theorem dX12_smallest_62 : decode cX12_smallest 62 = .ok (.ireturn, 1) := by decide +kernel
def q12_smallest (σ : St) : Option (Int32 × St) :=
  lt (up σ 0 0 0) fun σ1_ =>
  Option.bind (q12_those σ1_ 4) fun x3_ =>
  Option.bind (loop2 (fun rec8_ (found11_ : Int32) (set12_ : Int32) =>
  Option.bind (q12_all σ1_) fun x17_ =>
  if set12_ ≤ x17_ then
  Option.bind (Option.bind (if (set12_ &&& x3_) = 0 then (Option.bind (q12_doesCarry σ1_ set12_) fun x29_ =>
  if x29_ = true then (if found11_ = (-1) then (some true) else (Option.bind (q12_bits set12_) fun x33_ =>
  Option.bind (q12_bits found11_) fun x35_ =>
  if x33_ < x35_ then (some true) else (some false))) else (some false)) else (some false)) fun t26_ =>
  if t26_ = true then (some (set12_)) else (some (found11_))) fun y21_ =>
  lt (set12_ + 1) fun set39_ =>
  rec8_ y21_ set39_
  else (some (found11_, set12_))) fuelN (-1 : Int32) (0 : Int32)) fun y5_ =>
  some (y5_.1, σ1_)
abbrev rm12_smallest : Room := { frames := 4, cells := 0, slots := 0, locals := 90 }
set_option maxHeartbeats 4000000 in
set_option maxRecDepth 100000 in
theorem p12_smallest {Θ : Tz} {σ : St} {ρ : Option Value × St} (C : Zc Θ cX12_smallest 4 RX12 (some .int) rm12_smallest) (hkd : Θ.2.2.2.2.1 = kdM) {r : (Int32 × St)} (hf : q12_smallest σ = some r) (hρ : ρ = (some (.int r.1), r.2)) : Z Θ 4 0 0 (zQ Θ ρ) σ 0 [(0, .ref (zA Θ 0))] [] := by
  unfold q12_smallest at hf
  refine z_aload_n C 0 dX12_smallest_0 rfl rfl ?_
  refine z_iconst (v := 0) C dX12_smallest_1 ic_0 ?_
  obtain ⟨σ1_, h2_, hf⟩ := lt_ hf
  refine fp12_65 C hkd h2_ dX12_smallest_2 ?_
  refine z_iconst (v := (-1)) C dX12_smallest_5 ic_m1 ?_
  refine z_istN C dX12_smallest_6 rfl rfl (Nat.le_of_ble_eq_true rfl) rfl ?_
  refine z_aload_n C 1 dX12_smallest_7 rfl rfl ?_
  refine z_iconst (v := 4) C dX12_smallest_8 ic_4 ?_
  obtain ⟨x3_, h4_, hf⟩ := ob hf
  refine cr12_266 (what_a := 4) C hkd  h4_ ⟨(Nat.le_of_ble_eq_true rfl), (Nat.le_of_ble_eq_true rfl)⟩ (Nat.le_of_ble_eq_true rfl) ⟨Nat.zero_le _, Nat.zero_le _⟩ dX12_smallest_9 ?_
  refine z_istN C dX12_smallest_12 rfl rfl (Nat.le_of_ble_eq_true rfl) rfl ?_
  refine z_iconst (v := 0) C dX12_smallest_13 ic_0 ?_
  refine z_istN C dX12_smallest_14 rfl rfl (Nat.le_of_ble_eq_true rfl) rfl ?_
  refine Z.sub [3, 2, 1, 0] rfl ?_
  obtain ⟨y5_, h6_, hf⟩ := ob hf
  suffices K7_ : Z Θ 4 0 0 (zQ Θ ρ) σ1_ 61 [(0, .ref (zA Θ 0)), (1, .int y5_.1), (2, .int x3_), (3, .int y5_.2)] [] by
    refine loop2_Z (P := fun (found11_ : Int32) (set12_ : Int32) => Z Θ 4 0 0 (zQ Θ ρ) σ1_ 15 [(0, .ref (zA Θ 0)), (1, .int found11_), (2, .int x3_), (3, .int set12_)] []) ?_ fuelN (-1 : Int32) (0 : Int32) h6_
    clear h6_
    intro rec8_ found11_ set12_ h9_ h10_
    refine z_iload_n C 3 dX12_smallest_15 rfl rfl ?_
    refine z_aload_n C 0 dX12_smallest_16 rfl rfl ?_
    obtain ⟨x17_, h18_, h10_⟩ := ob h10_
    refine cr12_422 C hkd  h18_ ⟨(Nat.le_of_ble_eq_true rfl), (Nat.le_of_ble_eq_true rfl)⟩ (Nat.le_of_ble_eq_true rfl) ⟨Nat.zero_le _, Nat.zero_le _⟩ dX12_smallest_17 ?_
    have K15_ : set12_ ≤ x17_ → Z Θ 4 0 0 (zQ Θ ρ) σ1_ 23 [(0, .ref (zA Θ 0)), (1, .int found11_), (2, .int x3_), (3, .int set12_)] [] := by
      intro h20_
      rw [if_pos h20_] at h10_
      obtain ⟨y21_, h22_, h10_⟩ := ob h10_
      suffices K23_ : Z Θ 4 0 0 (zQ Θ ρ) σ1_ 55 [(0, .ref (zA Θ 0)), (1, .int y21_), (2, .int x3_), (3, .int set12_)] [] by
        obtain ⟨t26_, h27_, h22_⟩ := ob h22_
        have K24_ : t26_ = true → Z Θ 4 0 0 (zQ Θ ρ) σ1_ 53 [(0, .ref (zA Θ 0)), (1, .int found11_), (2, .int x3_), (3, .int set12_)] [] := by
          intro h38_
          rw [if_pos h38_] at h22_
          refine z_iload_n C 3 dX12_smallest_53 rfl rfl ?_
          refine z_istN C dX12_smallest_54 rfl rfl (Nat.le_of_ble_eq_true rfl) rfl ?_
          cases h22_
          refine Z.sub [1, 0, 2, 3] rfl ?_
          exact K23_
        have K25_ : ¬ (t26_ = true) → Z Θ 4 0 0 (zQ Θ ρ) σ1_ 55 [(0, .ref (zA Θ 0)), (1, .int found11_), (2, .int x3_), (3, .int set12_)] [] := by
          intro h38_
          rw [if_neg h38_] at h22_
          cases h22_
          exact K23_
        refine z_iload_n C 3 dX12_smallest_23 rfl rfl ?_
        refine z_iload_n C 2 dX12_smallest_24 rfl rfl ?_
        refine z_iand C dX12_smallest_25 ?_
        refine c0_eq_f C 55 dX12_smallest_26 (by decide) (fun h28_ => ?_) (fun h28_ => ?_)
        · rw [if_pos h28_] at h27_
          refine z_aload_n C 0 dX12_smallest_29 rfl rfl ?_
          refine z_iload_n C 3 dX12_smallest_30 rfl rfl ?_
          obtain ⟨x29_, h30_, h27_⟩ := ob h27_
          refine cr12_428 (set_a := set12_) C hkd  h30_ ⟨(Nat.le_of_ble_eq_true rfl), (Nat.le_of_ble_eq_true rfl)⟩ (Nat.le_of_ble_eq_true rfl) ⟨Nat.zero_le _, Nat.zero_le _⟩ dX12_smallest_31 ?_
          refine cb_f C 55 dX12_smallest_34 (by decide) (fun h31_ => ?_) (fun h31_ => ?_)
          · rw [if_pos h31_] at h27_
            refine z_iload_n C 1 dX12_smallest_37 rfl rfl ?_
            refine z_iconst (v := (-1)) C dX12_smallest_38 ic_m1 ?_
            refine c_eq_t C 53 dX12_smallest_39 (by decide) (fun h32_ => ?_) (fun h32_ => ?_)
            · rw [if_pos h32_] at h27_
              cases h27_
              exact K24_ rfl
            · rw [if_neg h32_] at h27_
              refine z_iload_n C 3 dX12_smallest_42 rfl rfl ?_
              obtain ⟨x33_, h34_, h27_⟩ := ob h27_
              refine cr12_286 (set_a := set12_) C hkd  h34_ ⟨(Nat.le_of_ble_eq_true rfl), (Nat.le_of_ble_eq_true rfl)⟩ (Nat.le_of_ble_eq_true rfl) ⟨Nat.zero_le _, Nat.zero_le _⟩ dX12_smallest_43 ?_
              refine z_iload_n C 1 dX12_smallest_46 rfl rfl ?_
              obtain ⟨x35_, h36_, h27_⟩ := ob h27_
              refine cr12_286 (set_a := found11_) C hkd  h36_ ⟨(Nat.le_of_ble_eq_true rfl), (Nat.le_of_ble_eq_true rfl)⟩ (Nat.le_of_ble_eq_true rfl) ⟨Nat.zero_le _, Nat.zero_le _⟩ dX12_smallest_47 ?_
              refine c_lt_f C 55 dX12_smallest_50 (by decide) (fun h37_ => ?_) (fun h37_ => ?_)
              · rw [if_pos h37_] at h27_
                cases h27_
                exact K24_ rfl
              · rw [if_neg h37_] at h27_
                cases h27_
                exact K25_ Bool.false_ne_true
          · rw [if_neg h31_] at h27_
            cases h27_
            exact K25_ Bool.false_ne_true
        · rw [if_neg h28_] at h27_
          cases h27_
          exact K25_ Bool.false_ne_true
      obtain ⟨set39_, h40_, h10_⟩ := lt_ h10_
      refine z_inc C 3 dX12_smallest_55 rfl ic_1 h40_ (Nat.le_of_ble_eq_true rfl) rfl ?_
      refine z_goto C 15 dX12_smallest_58 (by decide) ?_
      refine Z.sub [1, 2, 3, 0] rfl ?_
      exact h9_ _ _ h10_
    have K16_ : ¬ (set12_ ≤ x17_) → Z Θ 4 0 0 (zQ Θ ρ) σ1_ 61 [(0, .ref (zA Θ 0)), (1, .int found11_), (2, .int x3_), (3, .int set12_)] [] := by
      intro h20_
      rw [if_neg h20_] at h10_
      cases h10_
      exact K7_
    refine c_le_f C 61 dX12_smallest_20 (by decide) (fun h19_ => ?_) (fun h19_ => ?_)
    · exact K15_ h19_
    · exact K16_ h19_
  refine z_iload_n C 1 dX12_smallest_61 rfl rfl ?_
  cases hf
  subst hρ
  exact z_iret C dX12_smallest_62
theorem c12_smallest {l : Launch} {kd : List KD} {w : Wp} {σ : St} (hkd : kd = kdM) (hi : zI kd w) {r : (Int32 × St)} (hf : q12_smallest σ = some r) : zM l kd w yX12_smallest cX12_smallest 4 (some .int) rm12_smallest [.ref (w.2.2.1 0)] σ (some (.int r.1), r.2) := zM_of rfl hi (Nat.le_of_ble_eq_true rfl) (fun Θ hl hw C => by
  obtain ⟨Θ1, Θ2, Θ3, Θ4, Θ5⟩ := Θ
  cases hw
  exact p12_smallest C hkd  hf rfl)
/-! LastLoafModel.bloc -/
theorem dX12_bloc_0 : decode cX12_bloc 0 = .ok (.aload_n 0, 1) := by decide +kernel
theorem dX12_bloc_1 : decode cX12_bloc 1 = .ok (.iload_n 1, 1) := by decide +kernel
theorem dX12_bloc_2 : decode cX12_bloc 2 = .ok (.iconst 0, 1) := by decide +kernel
theorem dX12_bloc_3 : decode cX12_bloc 3 = .ok (.iconst 2, 1) := by decide +kernel
theorem dX12_bloc_4 : decode cX12_bloc 4 = .ok (.invokestatic 68, 3) := by decide +kernel
theorem dX12_bloc_7 : decode cX12_bloc 7 = .ok (.ifCond .ne 7, 3) := by decide +kernel
theorem dX12_bloc_10 : decode cX12_bloc 10 = .ok (.iconst 1, 1) := by decide +kernel
theorem dX12_bloc_11 : decode cX12_bloc 11 = .ok (.goto 4, 3) := by decide +kernel
theorem dX12_bloc_14 : decode cX12_bloc 14 = .ok (.iconst 0, 1) := by decide +kernel
theorem dX12_bloc_15 : decode cX12_bloc 15 = .ok (.putfield 65, 3) := by decide +kernel
theorem dX12_bloc_18 : decode cX12_bloc 18 = .ok (.aload_n 0, 1) := by decide +kernel
theorem dX12_bloc_19 : decode cX12_bloc 19 = .ok (.getfield 65, 3) := by decide +kernel
theorem dX12_bloc_22 : decode cX12_bloc 22 = .ok (.ifCond .le 5, 3) := by decide +kernel
theorem dX12_bloc_25 : decode cX12_bloc 25 = .ok (.iconst 0, 1) := by decide +kernel
theorem dX12_bloc_26 : decode cX12_bloc 26 = .ok (.ireturn, 1) := by decide +kernel
theorem dX12_bloc_27 : decode cX12_bloc 27 = .ok (.iconst 0, 1) := by decide +kernel
theorem dX12_bloc_28 : decode cX12_bloc 28 = .ok (.istore_n 2, 1) := by decide +kernel
theorem dX12_bloc_29 : decode cX12_bloc 29 = .ok (.iconst 0, 1) := by decide +kernel
theorem dX12_bloc_30 : decode cX12_bloc 30 = .ok (.istore_n 3, 1) := by decide +kernel
theorem dX12_bloc_31 : decode cX12_bloc 31 = .ok (.iload_n 3, 1) := by decide +kernel
theorem dX12_bloc_32 : decode cX12_bloc 32 = .ok (.aload_n 0, 1) := by decide +kernel
theorem dX12_bloc_33 : decode cX12_bloc 33 = .ok (.getfield 7, 3) := by decide +kernel
theorem dX12_bloc_36 : decode cX12_bloc 36 = .ok (.iconst 3, 1) := by decide +kernel
theorem dX12_bloc_37 : decode cX12_bloc 37 = .ok (.iaload, 1) := by decide +kernel
theorem dX12_bloc_38 : decode cX12_bloc 38 = .ok (.if_icmp .ge 29, 3) := by decide +kernel
theorem dX12_bloc_41 : decode cX12_bloc 41 = .ok (.iload_n 2, 1) := by decide +kernel
theorem dX12_bloc_42 : decode cX12_bloc 42 = .ok (.aload_n 0, 1) := by decide +kernel
theorem dX12_bloc_43 : decode cX12_bloc 43 = .ok (.iload_n 3, 1) := by decide +kernel
theorem dX12_bloc_44 : decode cX12_bloc 44 = .ok (.iconst 1, 1) := by decide +kernel
theorem dX12_bloc_45 : decode cX12_bloc 45 = .ok (.invokevirtual 72, 3) := by decide +kernel
theorem dX12_bloc_48 : decode cX12_bloc 48 = .ok (.iload_n 1, 1) := by decide +kernel
theorem dX12_bloc_49 : decode cX12_bloc 49 = .ok (.if_icmp .ne 9, 3) := by decide +kernel
theorem dX12_bloc_52 : decode cX12_bloc 52 = .ok (.iconst 1, 1) := by decide +kernel
theorem dX12_bloc_53 : decode cX12_bloc 53 = .ok (.iload_n 3, 1) := by decide +kernel
theorem dX12_bloc_54 : decode cX12_bloc 54 = .ok (.ishl, 1) := by decide +kernel
theorem dX12_bloc_55 : decode cX12_bloc 55 = .ok (.goto 4, 3) := by decide +kernel
theorem dX12_bloc_58 : decode cX12_bloc 58 = .ok (.iconst 0, 1) := by decide +kernel
theorem dX12_bloc_59 : decode cX12_bloc 59 = .ok (.ior, 1) := by decide +kernel
theorem dX12_bloc_60 : decode cX12_bloc 60 = .ok (.istore_n 2, 1) := by decide +kernel
theorem dX12_bloc_61 : decode cX12_bloc 61 = .ok (.iinc 3 1, 3) := by decide +kernel
theorem dX12_bloc_64 : decode cX12_bloc 64 = .ok (.goto (-33), 3) := by decide +kernel
theorem dX12_bloc_67 : decode cX12_bloc 67 = .ok (.aload_n 0, 1) := by decide +kernel
theorem dX12_bloc_68 : decode cX12_bloc 68 = .ok (.iload_n 2, 1) := by decide +kernel
theorem dX12_bloc_69 : decode cX12_bloc 69 = .ok (.invokevirtual 425, 3) := by decide +kernel
theorem dX12_bloc_72 : decode cX12_bloc 72 = .ok (.ireturn, 1) := by decide +kernel
def q12_bloc (σ : St) (party_a : Int32) : Option (Int32 × St) :=
  lt (up σ 0 0 (if ¬ (q12_isIn party_a 0 2 = true) then 1 else 0)) fun σ6_ =>
  if 0 < (σ6_ 0 0) then (some (0, σ6_)) else
  Option.bind (loop2 (fun rec15_ (set18_ : Int32) (p19_ : Int32) =>
  Option.bind (ag σ6_ 1 752 3) fun x24_ =>
  if p19_ < x24_ then
  Option.bind (Option.bind (q12_of σ6_ p19_ 1) fun x33_ =>
  if x33_ = party_a then (some (shl 1 p19_)) else (some (0 : Int32))) fun x28_ =>
  lt (set18_ ||| x28_) fun set37_ =>
  lt (p19_ + 1) fun p39_ =>
  rec15_ set37_ p39_
  else (some (set18_, p19_))) fuelN (0 : Int32) (0 : Int32)) fun y12_ =>
  Option.bind (q12_countsOf σ6_ y12_.1) fun x41_ =>
  some (x41_, σ6_)
abbrev rm12_bloc : Room := { frames := 3, cells := 0, slots := 0, locals := 69 }
set_option maxHeartbeats 4000000 in
set_option maxRecDepth 100000 in
theorem p12_bloc {Θ : Tz} {σ : St} {ρ : Option Value × St} (C : Zc Θ cX12_bloc 4 RX12 (some .int) rm12_bloc) (hkd : Θ.2.2.2.2.1 = kdM) {party_a : Int32} {r : (Int32 × St)} (hf : q12_bloc σ party_a = some r) (hρ : ρ = (some (.int r.1), r.2)) : Z Θ 4 0 0 (zQ Θ ρ) σ 0 [(0, .ref (zA Θ 0)), (1, .int party_a)] [] := by
  unfold q12_bloc at hf
  refine z_aload_n C 0 dX12_bloc_0 rfl rfl ?_
  suffices K1_ : Z Θ 4 0 0 (zQ Θ ρ) σ 15 [(0, .ref (zA Θ 0)), (1, .int party_a)] [.int (if ¬ (q12_isIn party_a 0 2 = true) then 1 else 0), .ref (zA Θ 0)] by
    have K2_ : ¬ (q12_isIn party_a 0 2 = true) → Z Θ 4 0 0 (zQ Θ ρ) σ 10 [(0, .ref (zA Θ 0)), (1, .int party_a)] [.ref (zA Θ 0)] := by
      intro h5_
      rw [if_pos h5_] at K1_
      refine z_iconst (v := 1) C dX12_bloc_10 ic_1 ?_
      refine z_goto C 15 dX12_bloc_11 (by decide) ?_
      exact K1_
    have K3_ : ¬ (¬ (q12_isIn party_a 0 2 = true)) → Z Θ 4 0 0 (zQ Θ ρ) σ 14 [(0, .ref (zA Θ 0)), (1, .int party_a)] [.ref (zA Θ 0)] := by
      intro h5_
      rw [if_neg h5_] at K1_
      refine z_iconst (v := 0) C dX12_bloc_14 ic_0 ?_
      exact K1_
    refine z_iload_n C 1 dX12_bloc_1 rfl rfl ?_
    refine z_iconst (v := 0) C dX12_bloc_2 ic_0 ?_
    refine z_iconst (v := 2) C dX12_bloc_3 ic_2 ?_
    refine cr12_68 (v_a := party_a) (low_a := 0) (high_a := 2) C hkd  ⟨(Nat.le_of_ble_eq_true rfl), (Nat.le_of_ble_eq_true rfl)⟩ (Nat.le_of_ble_eq_true rfl) ⟨Nat.zero_le _, Nat.zero_le _⟩ dX12_bloc_4 ?_
    refine cb_t C 14 dX12_bloc_7 (by decide) (fun h4_ => ?_) (fun h4_ => ?_)
    · exact K3_ (fun n => n h4_)
    · exact K2_ h4_
  obtain ⟨σ6_, h7_, hf⟩ := lt_ hf
  refine fp12_65 C hkd h7_ dX12_bloc_15 ?_
  have K8_ : 0 < (σ6_ 0 0) → Z Θ 4 0 0 (zQ Θ ρ) σ6_ 25 [(0, .ref (zA Θ 0)), (1, .int party_a)] [] := by
    intro h11_
    rw [if_pos h11_] at hf
    refine z_iconst (v := 0) C dX12_bloc_25 ic_0 ?_
    cases hf
    subst hρ
    exact z_iret C dX12_bloc_26
  suffices K9_ : ¬ (0 < (σ6_ 0 0)) → Z Θ 4 0 0 (zQ Θ ρ) σ6_ 27 [(0, .ref (zA Θ 0)), (1, .int party_a)] [] by
    refine z_aload_n C 0 dX12_bloc_18 rfl rfl ?_
    refine fg12_65 C hkd dX12_bloc_19 ?_
    refine c0_gt_f C 27 dX12_bloc_22 (by decide) (fun h10_ => ?_) (fun h10_ => ?_)
    · exact K8_ h10_
    · exact K9_ h10_
  intro h11_
  rw [if_neg h11_] at hf
  refine z_iconst (v := 0) C dX12_bloc_27 ic_0 ?_
  refine z_istN C dX12_bloc_28 rfl rfl (Nat.le_of_ble_eq_true rfl) rfl ?_
  refine z_iconst (v := 0) C dX12_bloc_29 ic_0 ?_
  refine z_istN C dX12_bloc_30 rfl rfl (Nat.le_of_ble_eq_true rfl) rfl ?_
  refine Z.sub [2, 3, 1, 0] rfl ?_
  obtain ⟨y12_, h13_, hf⟩ := ob hf
  suffices K14_ : Z Θ 4 0 0 (zQ Θ ρ) σ6_ 67 [(0, .ref (zA Θ 0)), (1, .int party_a), (2, .int y12_.1), (3, .int y12_.2)] [] by
    refine loop2_Z (P := fun (set18_ : Int32) (p19_ : Int32) => Z Θ 4 0 0 (zQ Θ ρ) σ6_ 31 [(0, .ref (zA Θ 0)), (1, .int party_a), (2, .int set18_), (3, .int p19_)] []) ?_ fuelN (0 : Int32) (0 : Int32) h13_
    clear h13_
    intro rec15_ set18_ p19_ h16_ h17_
    refine z_iload_n C 3 dX12_bloc_31 rfl rfl ?_
    refine z_aload_n C 0 dX12_bloc_32 rfl rfl ?_
    refine fg12_7 C hkd dX12_bloc_33 ?_
    refine z_iconst (v := 3) C dX12_bloc_36 ic_3 ?_
    obtain ⟨x24_, h25_, h17_⟩ := ob h17_
    refine z_ag C h25_ (kM_1 hkd) dX12_bloc_37 ?_
    have K22_ : p19_ < x24_ → Z Θ 4 0 0 (zQ Θ ρ) σ6_ 41 [(0, .ref (zA Θ 0)), (1, .int party_a), (2, .int set18_), (3, .int p19_)] [] := by
      intro h27_
      rw [if_pos h27_] at h17_
      refine z_iload_n C 2 dX12_bloc_41 rfl rfl ?_
      obtain ⟨x28_, h29_, h17_⟩ := ob h17_
      suffices K30_ : Z Θ 4 0 0 (zQ Θ ρ) σ6_ 59 [(0, .ref (zA Θ 0)), (1, .int party_a), (2, .int set18_), (3, .int p19_)] [.int x28_, .int set18_] by
        refine z_aload_n C 0 dX12_bloc_42 rfl rfl ?_
        refine z_iload_n C 3 dX12_bloc_43 rfl rfl ?_
        refine z_iconst (v := 1) C dX12_bloc_44 ic_1 ?_
        obtain ⟨x33_, h34_, h29_⟩ := ob h29_
        refine cr12_72 (p_a := p19_) (what_a := 1) C hkd  h34_ ⟨(Nat.le_of_ble_eq_true rfl), (Nat.le_of_ble_eq_true rfl)⟩ (Nat.le_of_ble_eq_true rfl) ⟨Nat.zero_le _, Nat.zero_le _⟩ dX12_bloc_45 ?_
        refine z_iload_n C 1 dX12_bloc_48 rfl rfl ?_
        have K31_ : x33_ = party_a → Z Θ 4 0 0 (zQ Θ ρ) σ6_ 52 [(0, .ref (zA Θ 0)), (1, .int party_a), (2, .int set18_), (3, .int p19_)] [.int set18_] := by
          intro h36_
          rw [if_pos h36_] at h29_
          refine z_iconst (v := 1) C dX12_bloc_52 ic_1 ?_
          refine z_iload_n C 3 dX12_bloc_53 rfl rfl ?_
          refine z_shl C dX12_bloc_54 ?_
          refine z_goto C 59 dX12_bloc_55 (by decide) ?_
          cases h29_
          exact K30_
        have K32_ : ¬ (x33_ = party_a) → Z Θ 4 0 0 (zQ Θ ρ) σ6_ 58 [(0, .ref (zA Θ 0)), (1, .int party_a), (2, .int set18_), (3, .int p19_)] [.int set18_] := by
          intro h36_
          rw [if_neg h36_] at h29_
          refine z_iconst (v := 0) C dX12_bloc_58 ic_0 ?_
          cases h29_
          exact K30_
        refine c_eq_f C 58 dX12_bloc_49 (by decide) (fun h35_ => ?_) (fun h35_ => ?_)
        · exact K31_ h35_
        · exact K32_ h35_
      refine z_ior C dX12_bloc_59 ?_
      obtain ⟨set37_, h38_, h17_⟩ := lt_ h17_
      refine z_istN C dX12_bloc_60 h38_ rfl (Nat.le_of_ble_eq_true rfl) rfl ?_
      obtain ⟨p39_, h40_, h17_⟩ := lt_ h17_
      refine z_inc C 3 dX12_bloc_61 rfl ic_1 h40_ (Nat.le_of_ble_eq_true rfl) rfl ?_
      refine z_goto C 31 dX12_bloc_64 (by decide) ?_
      refine Z.sub [2, 3, 1, 0] rfl ?_
      exact h16_ _ _ h17_
    have K23_ : ¬ (p19_ < x24_) → Z Θ 4 0 0 (zQ Θ ρ) σ6_ 67 [(0, .ref (zA Θ 0)), (1, .int party_a), (2, .int set18_), (3, .int p19_)] [] := by
      intro h27_
      rw [if_neg h27_] at h17_
      cases h17_
      exact K14_
    refine c_lt_f C 67 dX12_bloc_38 (by decide) (fun h26_ => ?_) (fun h26_ => ?_)
    · exact K22_ h26_
    · exact K23_ h26_
  refine z_aload_n C 0 dX12_bloc_67 rfl rfl ?_
  refine z_iload_n C 2 dX12_bloc_68 rfl rfl ?_
  obtain ⟨x41_, h42_, hf⟩ := ob hf
  refine cr12_425 (set_a := y12_.1) C hkd  h42_ ⟨(Nat.le_of_ble_eq_true rfl), (Nat.le_of_ble_eq_true rfl)⟩ (Nat.le_of_ble_eq_true rfl) ⟨Nat.zero_le _, Nat.zero_le _⟩ dX12_bloc_69 ?_
  cases hf
  subst hρ
  exact z_iret C dX12_bloc_72
theorem c12_bloc {l : Launch} {kd : List KD} {w : Wp} {σ : St} {party_a : Int32} (hkd : kd = kdM) (hi : zI kd w) {r : (Int32 × St)} (hf : q12_bloc σ party_a = some r) : zM l kd w yX12_bloc cX12_bloc 4 (some .int) rm12_bloc [.ref (w.2.2.1 0), .int party_a] σ (some (.int r.1), r.2) := zM_of rfl hi (Nat.le_of_ble_eq_true rfl) (fun Θ hl hw C => by
  obtain ⟨Θ1, Θ2, Θ3, Θ4, Θ5⟩ := Θ
  cases hw
  exact p12_bloc C hkd  hf rfl)
/-! LastLoafModel.kingmaker -/
theorem dX12_kingmaker_0 : decode cX12_kingmaker 0 = .ok (.aload_n 0, 1) := by decide +kernel
theorem dX12_kingmaker_1 : decode cX12_kingmaker 1 = .ok (.iconst 0, 1) := by decide +kernel
theorem dX12_kingmaker_2 : decode cX12_kingmaker 2 = .ok (.putfield 65, 3) := by decide +kernel
theorem dX12_kingmaker_5 : decode cX12_kingmaker 5 = .ok (.iconst (-1), 1) := by decide +kernel
theorem dX12_kingmaker_6 : decode cX12_kingmaker 6 = .ok (.istore_n 1, 1) := by decide +kernel
theorem dX12_kingmaker_7 : decode cX12_kingmaker 7 = .ok (.iconst 0, 1) := by decide +kernel
theorem dX12_kingmaker_8 : decode cX12_kingmaker 8 = .ok (.istore_n 2, 1) := by decide +kernel
theorem dX12_kingmaker_9 : decode cX12_kingmaker 9 = .ok (.iconst 0, 1) := by decide +kernel
theorem dX12_kingmaker_10 : decode cX12_kingmaker 10 = .ok (.istore_n 3, 1) := by decide +kernel
theorem dX12_kingmaker_11 : decode cX12_kingmaker 11 = .ok (.iload_n 3, 1) := by decide +kernel
theorem dX12_kingmaker_12 : decode cX12_kingmaker 12 = .ok (.aload_n 0, 1) := by decide +kernel
theorem dX12_kingmaker_13 : decode cX12_kingmaker 13 = .ok (.getfield 7, 3) := by decide +kernel
theorem dX12_kingmaker_16 : decode cX12_kingmaker 16 = .ok (.iconst 3, 1) := by decide +kernel
theorem dX12_kingmaker_17 : decode cX12_kingmaker 17 = .ok (.iaload, 1) := by decide +kernel
theorem dX12_kingmaker_18 : decode cX12_kingmaker 18 = .ok (.if_icmp .ge 30, 3) := by decide +kernel
theorem dX12_kingmaker_21 : decode cX12_kingmaker 21 = .ok (.aload_n 0, 1) := by decide +kernel
theorem dX12_kingmaker_22 : decode cX12_kingmaker 22 = .ok (.iload_n 3, 1) := by decide +kernel
theorem dX12_kingmaker_23 : decode cX12_kingmaker 23 = .ok (.invokevirtual 431, 3) := by decide +kernel
theorem dX12_kingmaker_26 : decode cX12_kingmaker 26 = .ok (.istore 4, 2) := by decide +kernel
theorem dX12_kingmaker_28 : decode cX12_kingmaker 28 = .ok (.iload 4, 2) := by decide +kernel
theorem dX12_kingmaker_30 : decode cX12_kingmaker 30 = .ok (.iload_n 2, 1) := by decide +kernel
theorem dX12_kingmaker_31 : decode cX12_kingmaker 31 = .ok (.if_icmp .gt 6, 3) := by decide +kernel
theorem dX12_kingmaker_34 : decode cX12_kingmaker 34 = .ok (.goto 8, 3) := by decide +kernel
theorem dX12_kingmaker_37 : decode cX12_kingmaker 37 = .ok (.iload 4, 2) := by decide +kernel
theorem dX12_kingmaker_39 : decode cX12_kingmaker 39 = .ok (.istore_n 2, 1) := by decide +kernel
theorem dX12_kingmaker_40 : decode cX12_kingmaker 40 = .ok (.iload_n 3, 1) := by decide +kernel
theorem dX12_kingmaker_41 : decode cX12_kingmaker 41 = .ok (.istore_n 1, 1) := by decide +kernel
theorem dX12_kingmaker_42 : decode cX12_kingmaker 42 = .ok (.iinc 3 1, 3) := by decide +kernel
theorem dX12_kingmaker_45 : decode cX12_kingmaker 45 = .ok (.goto (-34), 3) := by decide +kernel
theorem dX12_kingmaker_48 : decode cX12_kingmaker 48 = .ok (.iload_n 1, 1) := by decide +kernel
theorem dX12_kingmaker_49 : decode cX12_kingmaker 49 = .ok (.ireturn, 1) := by decide +kernel
def q12_kingmaker (σ : St) : Option (Int32 × St) :=
  lt (up σ 0 0 0) fun σ1_ =>
  Option.bind (loop3 (fun rec6_ (found9_ : Int32) (most10_ : Int32) (p11_ : Int32) =>
  Option.bind (ag σ1_ 1 752 3) fun x16_ =>
  if p11_ < x16_ then
  lt (fun (found26_ : Int32) (most27_ : Int32) (p28_ : Int32) =>
  lt (p28_ + 1) fun p30_ =>
  rec6_ found26_ most27_ p30_) fun k13_ =>
  Option.bind (q12_swingsOf σ1_ p11_) fun x20_ =>
  if x20_ ≤ most10_ then (k13_ found9_ most10_ p11_) else
  k13_ p11_ x20_ p11_
  else (some (found9_, most10_, p11_))) fuelN (-1 : Int32) (0 : Int32) (0 : Int32)) fun y3_ =>
  some (y3_.1, σ1_)
abbrev rm12_kingmaker : Room := { frames := 5, cells := 0, slots := 0, locals := 114 }
set_option maxHeartbeats 4000000 in
set_option maxRecDepth 100000 in
theorem p12_kingmaker {Θ : Tz} {σ : St} {ρ : Option Value × St} (C : Zc Θ cX12_kingmaker 5 RX12 (some .int) rm12_kingmaker) (hkd : Θ.2.2.2.2.1 = kdM) {r : (Int32 × St)} (hf : q12_kingmaker σ = some r) (hρ : ρ = (some (.int r.1), r.2)) : Z Θ 5 0 0 (zQ Θ ρ) σ 0 [(0, .ref (zA Θ 0))] [] := by
  unfold q12_kingmaker at hf
  refine z_aload_n C 0 dX12_kingmaker_0 rfl rfl ?_
  refine z_iconst (v := 0) C dX12_kingmaker_1 ic_0 ?_
  obtain ⟨σ1_, h2_, hf⟩ := lt_ hf
  refine fp12_65 C hkd h2_ dX12_kingmaker_2 ?_
  refine z_iconst (v := (-1)) C dX12_kingmaker_5 ic_m1 ?_
  refine z_istN C dX12_kingmaker_6 rfl rfl (Nat.le_of_ble_eq_true rfl) rfl ?_
  refine z_iconst (v := 0) C dX12_kingmaker_7 ic_0 ?_
  refine z_istN C dX12_kingmaker_8 rfl rfl (Nat.le_of_ble_eq_true rfl) rfl ?_
  refine z_iconst (v := 0) C dX12_kingmaker_9 ic_0 ?_
  refine z_istN C dX12_kingmaker_10 rfl rfl (Nat.le_of_ble_eq_true rfl) rfl ?_
  refine Z.sub [3, 2, 1, 0] rfl ?_
  obtain ⟨y3_, h4_, hf⟩ := ob hf
  suffices K5_ : Z Θ 5 0 0 (zQ Θ ρ) σ1_ 48 [(0, .ref (zA Θ 0)), (1, .int y3_.1), (2, .int y3_.2.1), (3, .int y3_.2.2)] [] by
    refine loop3_Z (P := fun (found9_ : Int32) (most10_ : Int32) (p11_ : Int32) => Z Θ 5 0 0 (zQ Θ ρ) σ1_ 11 [(0, .ref (zA Θ 0)), (1, .int found9_), (2, .int most10_), (3, .int p11_)] []) ?_ fuelN (-1 : Int32) (0 : Int32) (0 : Int32) h4_
    clear h4_
    intro rec6_ found9_ most10_ p11_ h7_ h8_
    refine z_iload_n C 3 dX12_kingmaker_11 rfl rfl ?_
    refine z_aload_n C 0 dX12_kingmaker_12 rfl rfl ?_
    refine fg12_7 C hkd dX12_kingmaker_13 ?_
    refine z_iconst (v := 3) C dX12_kingmaker_16 ic_3 ?_
    obtain ⟨x16_, h17_, h8_⟩ := ob h8_
    refine z_ag C h17_ (kM_1 hkd) dX12_kingmaker_17 ?_
    have K14_ : p11_ < x16_ → Z Θ 5 0 0 (zQ Θ ρ) σ1_ 21 [(0, .ref (zA Θ 0)), (1, .int found9_), (2, .int most10_), (3, .int p11_)] [] := by
      intro h19_
      rw [if_pos h19_] at h8_
      obtain ⟨k13_, h29_, h8_⟩ := lt_ h8_
      have K12_ : ∀ (found26_ : Int32) (most27_ : Int32) (p28_ : Int32), k13_ found26_ most27_ p28_ = some y3_ → Z Θ 5 0 0 (zQ Θ ρ) σ1_ 42 [(0, .ref (zA Θ 0)), (1, .int found26_), (2, .int most27_), (3, .int p28_)] [] := by
        intro found26_ most27_ p28_ h8_
        subst h29_
        dsimp only at h8_
        obtain ⟨p30_, h31_, h8_⟩ := lt_ h8_
        refine z_inc C 3 dX12_kingmaker_42 rfl ic_1 h31_ (Nat.le_of_ble_eq_true rfl) rfl ?_
        refine z_goto C 11 dX12_kingmaker_45 (by decide) ?_
        refine Z.sub [1, 2, 3, 0] rfl ?_
        exact h7_ _ _ _ h8_
      refine z_aload_n C 0 dX12_kingmaker_21 rfl rfl ?_
      refine z_iload_n C 3 dX12_kingmaker_22 rfl rfl ?_
      obtain ⟨x20_, h21_, h8_⟩ := ob h8_
      refine cr12_431 (p_a := p11_) C hkd  h21_ ⟨(Nat.le_of_ble_eq_true rfl), (Nat.le_of_ble_eq_true rfl)⟩ (Nat.le_of_ble_eq_true rfl) ⟨Nat.zero_le _, Nat.zero_le _⟩ dX12_kingmaker_23 ?_
      refine z_ist C dX12_kingmaker_26 rfl (Nat.le_of_ble_eq_true rfl) rfl ?_
      have K22_ : x20_ ≤ most10_ → Z Θ 5 0 0 (zQ Θ ρ) σ1_ 34 [(4, .int x20_), (0, .ref (zA Θ 0)), (1, .int found9_), (2, .int most10_), (3, .int p11_)] [] := by
        intro h25_
        rw [if_pos h25_] at h8_
        refine z_goto C 42 dX12_kingmaker_34 (by decide) ?_
        refine Z.sub [1, 2, 3, 4] rfl ?_
        exact K12_ _ _ _ h8_
      suffices K23_ : ¬ (x20_ ≤ most10_) → Z Θ 5 0 0 (zQ Θ ρ) σ1_ 37 [(4, .int x20_), (0, .ref (zA Θ 0)), (1, .int found9_), (2, .int most10_), (3, .int p11_)] [] by
        refine z_iload C 0 dX12_kingmaker_28 rfl ?_
        refine z_iload_n C 3 dX12_kingmaker_30 rfl rfl ?_
        refine c_le_f C 37 dX12_kingmaker_31 (by decide) (fun h24_ => ?_) (fun h24_ => ?_)
        · exact K22_ h24_
        · exact K23_ h24_
      intro h25_
      rw [if_neg h25_] at h8_
      refine z_iload C 0 dX12_kingmaker_37 rfl ?_
      refine z_istN C dX12_kingmaker_39 rfl rfl (Nat.le_of_ble_eq_true rfl) rfl ?_
      refine z_iload_n C 4 dX12_kingmaker_40 rfl rfl ?_
      refine z_istN C dX12_kingmaker_41 rfl rfl (Nat.le_of_ble_eq_true rfl) rfl ?_
      refine Z.sub [3, 0, 1, 4] rfl ?_
      exact K12_ _ _ _ h8_
    have K15_ : ¬ (p11_ < x16_) → Z Θ 5 0 0 (zQ Θ ρ) σ1_ 48 [(0, .ref (zA Θ 0)), (1, .int found9_), (2, .int most10_), (3, .int p11_)] [] := by
      intro h19_
      rw [if_neg h19_] at h8_
      cases h8_
      exact K5_
    refine c_lt_f C 48 dX12_kingmaker_18 (by decide) (fun h18_ => ?_) (fun h18_ => ?_)
    · exact K14_ h18_
    · exact K15_ h18_
  refine z_iload_n C 1 dX12_kingmaker_48 rfl rfl ?_
  cases hf
  subst hρ
  exact z_iret C dX12_kingmaker_49
theorem c12_kingmaker {l : Launch} {kd : List KD} {w : Wp} {σ : St} (hkd : kd = kdM) (hi : zI kd w) {r : (Int32 × St)} (hf : q12_kingmaker σ = some r) : zM l kd w yX12_kingmaker cX12_kingmaker 5 (some .int) rm12_kingmaker [.ref (w.2.2.1 0)] σ (some (.int r.1), r.2) := zM_of rfl hi (Nat.le_of_ble_eq_true rfl) (fun Θ hl hw C => by
  obtain ⟨Θ1, Θ2, Θ3, Θ4, Θ5⟩ := Θ
  cases hw
  exact p12_kingmaker C hkd  hf rfl)
/-! LastLoafModel.friends -/
theorem dX12_friends_0 : decode cX12_friends 0 = .ok (.aload_n 0, 1) := by decide +kernel
theorem dX12_friends_1 : decode cX12_friends 1 = .ok (.iload_n 1, 1) := by decide +kernel
theorem dX12_friends_2 : decode cX12_friends 2 = .ok (.iload_n 2, 1) := by decide +kernel
theorem dX12_friends_3 : decode cX12_friends 3 = .ok (.invokevirtual 260, 3) := by decide +kernel
theorem dX12_friends_6 : decode cX12_friends 6 = .ok (.aload_n 0, 1) := by decide +kernel
theorem dX12_friends_7 : decode cX12_friends 7 = .ok (.iload_n 2, 1) := by decide +kernel
theorem dX12_friends_8 : decode cX12_friends 8 = .ok (.iload_n 1, 1) := by decide +kernel
theorem dX12_friends_9 : decode cX12_friends 9 = .ok (.invokevirtual 260, 3) := by decide +kernel
theorem dX12_friends_12 : decode cX12_friends 12 = .ok (.iadd, 1) := by decide +kernel
theorem dX12_friends_13 : decode cX12_friends 13 = .ok (.ireturn, 1) := by decide +kernel
def q12_friends (σ : St) (p_a : Int32) (o_a : Int32) : Option Int32 :=
  Option.bind (q12_liking σ p_a o_a) fun x1_ =>
  Option.bind (q12_liking σ o_a p_a) fun x3_ =>
  some (x1_ + x3_)
abbrev rm12_friends : Room := { frames := 1, cells := 0, slots := 0, locals := 22 }
set_option maxHeartbeats 4000000 in
set_option maxRecDepth 100000 in
theorem p12_friends {Θ : Tz} {σ : St} {ρ : Option Value × St} (C : Zc Θ cX12_friends 3 RX12 (some .int) rm12_friends) (hkd : Θ.2.2.2.2.1 = kdM) {p_a : Int32} {o_a : Int32} {r : Int32} (hf : q12_friends σ p_a o_a = some r) (hρ : ρ = (some (.int r), σ)) : Z Θ 3 0 0 (zQ Θ ρ) σ 0 [(0, .ref (zA Θ 0)), (1, .int p_a), (2, .int o_a)] [] := by
  unfold q12_friends at hf
  refine z_aload_n C 0 dX12_friends_0 rfl rfl ?_
  refine z_iload_n C 1 dX12_friends_1 rfl rfl ?_
  refine z_iload_n C 2 dX12_friends_2 rfl rfl ?_
  obtain ⟨x1_, h2_, hf⟩ := ob hf
  refine cr12_260 (p_a := p_a) (o_a := o_a) C hkd  h2_ ⟨(Nat.le_of_ble_eq_true rfl), (Nat.le_of_ble_eq_true rfl)⟩ (Nat.le_of_ble_eq_true rfl) ⟨Nat.zero_le _, Nat.zero_le _⟩ dX12_friends_3 ?_
  refine z_aload_n C 0 dX12_friends_6 rfl rfl ?_
  refine z_iload_n C 2 dX12_friends_7 rfl rfl ?_
  refine z_iload_n C 1 dX12_friends_8 rfl rfl ?_
  obtain ⟨x3_, h4_, hf⟩ := ob hf
  refine cr12_260 (p_a := o_a) (o_a := p_a) C hkd  h4_ ⟨(Nat.le_of_ble_eq_true rfl), (Nat.le_of_ble_eq_true rfl)⟩ (Nat.le_of_ble_eq_true rfl) ⟨Nat.zero_le _, Nat.zero_le _⟩ dX12_friends_9 ?_
  refine z_iadd C dX12_friends_12 ?_
  cases hf
  subst hρ
  exact z_iret C dX12_friends_13
theorem c12_friends {l : Launch} {kd : List KD} {w : Wp} {σ : St} {p_a : Int32} {o_a : Int32} (hkd : kd = kdM) (hi : zI kd w) {r : Int32} (hf : q12_friends σ p_a o_a = some r) : zM l kd w yX12_friends cX12_friends 3 (some .int) rm12_friends [.ref (w.2.2.1 0), .int p_a, .int o_a] σ (some (.int r), σ) := zM_of rfl hi (Nat.le_of_ble_eq_true rfl) (fun Θ hl hw C => by
  obtain ⟨Θ1, Θ2, Θ3, Θ4, Θ5⟩ := Θ
  cases hw
  exact p12_friends C hkd  hf rfl)
/-! LastLoafModel.allBest -/
theorem w_8_57 : Cond.fieldLink "LastLoafModel" (59 : Nat) "LastLoafModel" "best" "[I" ∈ TB := tb_in (lwt_8 (List.mem_of_getElem? (i := 57) (by decide +kernel))) rfl
theorem fg12_59 {Θ : Tz} {cc : ByteArray} {nL kc ks : Nat} {ret : Option FieldType} {rm : Room} {Q : State → Prop} {σ : St} {pc : Nat} {lv : List (Nat × Value)} {st : List Value} (C : Zc Θ cc nL RX12 ret rm) (hkd : Θ.2.2.2.2.1 = kdM) (hd : decode cc pc = .ok (.getfield 59, 3)) (kk : Z Θ nL kc ks Q σ (pc + 3) lv (.ref (zA Θ 16) :: st)) : Z Θ nL kc ks Q σ pc lv (.ref (zA Θ 0) :: st) := z_get C inT12 0 (kM_0 hkd) rfl 30 (by decide) w_8_57 rfl hd kk
theorem w_10_166 : Cond.code ({ cls := "LastLoafModel", name := "friends", desc := "(II)I" } : MethodName) prog_14_method_121_code (3 : Nat) (Option.some ClassFile.FieldType.int) ∈ TB := tb_in (lwt_10 (List.mem_of_getElem? (i := 166) (by decide +kernel))) rfl
theorem w_10_163 : Cond.methodLink "LastLoafModel" (434 : Nat) ({ cls := "LastLoafModel", name := "friends", desc := "(II)I" } : MethodName) ∈ TB := tb_in (lwt_10 (List.mem_of_getElem? (i := 163) (by decide +kernel))) rfl
theorem w_10_165 : Cond.instanceMethod ({ cls := "LastLoafModel", name := "friends", desc := "(II)I" } : MethodName) ∈ TB := tb_in (lwt_10 (List.mem_of_getElem? (i := 165) (by decide +kernel))) rfl
theorem ws_LastLoafModel_friends_II_I : Cond.selects "LastLoafModel" (⟨"LastLoafModel", "friends", "(II)I"⟩ : MethodName) (⟨"LastLoafModel", "friends", "(II)I"⟩ : MethodName) ∈ TB := tb_in (List.mem_append_left _ (List.mem_of_getElem? (i := 92) (by decide +kernel))) rfl
theorem cr12_434 {Θ : Tz} {cc : ByteArray} {nL kc ks : Nat} {ret : Option FieldType} {rm : Room} {Q : State → Prop} {σ : St} {pc : Nat} {lv : List (Nat × Value)} {st : List Value} (C : Zc Θ cc nL RX12 ret rm) (hkd : Θ.2.2.2.2.1 = kdM) {p_a : Int32} {o_a : Int32} {r : Int32} (hx : q12_friends σ p_a o_a = some r) (hrm : rm12_friends.frames + 1 ≤ rm.frames ∧ 8 + (3 + 11) + rm12_friends.locals ≤ rm.locals) (hcat : (st.map fun v => v.category).sum ≤ 8) (hk : kc ≤ rm.cells ∧ ks ≤ rm.slots) (hd : decode cc pc = .ok (.invokevirtual 434, 3)) (kk : Z Θ nL kc ks Q σ (pc + 3) lv (.int r :: st)) : Z Θ nL kc ks Q σ pc lv (.int o_a :: .int p_a :: .ref (zA Θ 0) :: st) := z_callV C 0 [.int p_a, .int o_a] (some (.int r), σ) 2 (kM_0 hkd) rfl (c12_friends (p_a := p_a) (o_a := o_a) hkd (zc_inj C) hx) w_10_166 w_10_163 w_10_165 ws_LastLoafModel_friends_II_I w_1_14 ⟨rfl, rfl, hrm.1, hrm.2⟩ (by decide +kernel) rfl rfl hcat hk hd kk
theorem dX12_allBest_0 : decode cX12_allBest 0 = .ok (.aload_n 0, 1) := by decide +kernel
theorem dX12_allBest_1 : decode cX12_allBest 1 = .ok (.getfield 59, 3) := by decide +kernel
theorem dX12_allBest_4 : decode cX12_allBest 4 = .ok (.iconst 0, 1) := by decide +kernel
theorem dX12_allBest_5 : decode cX12_allBest 5 = .ok (.iconst 0, 1) := by decide +kernel
theorem dX12_allBest_6 : decode cX12_allBest 6 = .ok (.iastore, 1) := by decide +kernel
theorem dX12_allBest_7 : decode cX12_allBest 7 = .ok (.iconst 1, 1) := by decide +kernel
theorem dX12_allBest_8 : decode cX12_allBest 8 = .ok (.istore_n 1, 1) := by decide +kernel
theorem dX12_allBest_9 : decode cX12_allBest 9 = .ok (.iload_n 1, 1) := by decide +kernel
theorem dX12_allBest_10 : decode cX12_allBest 10 = .ok (.aload_n 0, 1) := by decide +kernel
theorem dX12_allBest_11 : decode cX12_allBest 11 = .ok (.invokevirtual 422, 3) := by decide +kernel
theorem dX12_allBest_14 : decode cX12_allBest 14 = .ok (.if_icmp .gt 101, 3) := by decide +kernel
theorem dX12_allBest_17 : decode cX12_allBest 17 = .ok (.iload_n 1, 1) := by decide +kernel
theorem dX12_allBest_18 : decode cX12_allBest 18 = .ok (.invokestatic 304, 3) := by decide +kernel
theorem dX12_allBest_21 : decode cX12_allBest 21 = .ok (.istore_n 2, 1) := by decide +kernel
theorem dX12_allBest_22 : decode cX12_allBest 22 = .ok (.iload_n 1, 1) := by decide +kernel
theorem dX12_allBest_23 : decode cX12_allBest 23 = .ok (.iconst 1, 1) := by decide +kernel
theorem dX12_allBest_24 : decode cX12_allBest 24 = .ok (.iload_n 2, 1) := by decide +kernel
theorem dX12_allBest_25 : decode cX12_allBest 25 = .ok (.ishl, 1) := by decide +kernel
theorem dX12_allBest_26 : decode cX12_allBest 26 = .ok (.iconst (-1), 1) := by decide +kernel
theorem dX12_allBest_27 : decode cX12_allBest 27 = .ok (.ixor, 1) := by decide +kernel
theorem dX12_allBest_28 : decode cX12_allBest 28 = .ok (.iand, 1) := by decide +kernel
theorem dX12_allBest_29 : decode cX12_allBest 29 = .ok (.istore_n 3, 1) := by decide +kernel
theorem dX12_allBest_30 : decode cX12_allBest 30 = .ok (.aload_n 0, 1) := by decide +kernel
theorem dX12_allBest_31 : decode cX12_allBest 31 = .ok (.getfield 59, 3) := by decide +kernel
theorem dX12_allBest_34 : decode cX12_allBest 34 = .ok (.iload_n 1, 1) := by decide +kernel
theorem dX12_allBest_35 : decode cX12_allBest 35 = .ok (.aload_n 0, 1) := by decide +kernel
theorem dX12_allBest_36 : decode cX12_allBest 36 = .ok (.getfield 59, 3) := by decide +kernel
theorem dX12_allBest_39 : decode cX12_allBest 39 = .ok (.iload_n 3, 1) := by decide +kernel
theorem dX12_allBest_40 : decode cX12_allBest 40 = .ok (.iaload, 1) := by decide +kernel
theorem dX12_allBest_41 : decode cX12_allBest 41 = .ok (.iastore, 1) := by decide +kernel
theorem dX12_allBest_42 : decode cX12_allBest 42 = .ok (.iload_n 2, 1) := by decide +kernel
theorem dX12_allBest_43 : decode cX12_allBest 43 = .ok (.iconst 1, 1) := by decide +kernel
theorem dX12_allBest_44 : decode cX12_allBest 44 = .ok (.iadd, 1) := by decide +kernel
theorem dX12_allBest_45 : decode cX12_allBest 45 = .ok (.istore 4, 2) := by decide +kernel
theorem dX12_allBest_47 : decode cX12_allBest 47 = .ok (.iload 4, 2) := by decide +kernel
theorem dX12_allBest_49 : decode cX12_allBest 49 = .ok (.aload_n 0, 1) := by decide +kernel
theorem dX12_allBest_50 : decode cX12_allBest 50 = .ok (.getfield 7, 3) := by decide +kernel
theorem dX12_allBest_53 : decode cX12_allBest 53 = .ok (.iconst 3, 1) := by decide +kernel
theorem dX12_allBest_54 : decode cX12_allBest 54 = .ok (.iaload, 1) := by decide +kernel
theorem dX12_allBest_55 : decode cX12_allBest 55 = .ok (.if_icmp .ge 54, 3) := by decide +kernel
theorem dX12_allBest_58 : decode cX12_allBest 58 = .ok (.iload_n 3, 1) := by decide +kernel
theorem dX12_allBest_59 : decode cX12_allBest 59 = .ok (.iload 4, 2) := by decide +kernel
theorem dX12_allBest_61 : decode cX12_allBest 61 = .ok (.invokestatic 275, 3) := by decide +kernel
theorem dX12_allBest_64 : decode cX12_allBest 64 = .ok (.ifCond .eq 39, 3) := by decide +kernel
theorem dX12_allBest_67 : decode cX12_allBest 67 = .ok (.aload_n 0, 1) := by decide +kernel
theorem dX12_allBest_68 : decode cX12_allBest 68 = .ok (.getfield 59, 3) := by decide +kernel
theorem dX12_allBest_71 : decode cX12_allBest 71 = .ok (.iload_n 1, 1) := by decide +kernel
theorem dX12_allBest_72 : decode cX12_allBest 72 = .ok (.aload_n 0, 1) := by decide +kernel
theorem dX12_allBest_73 : decode cX12_allBest 73 = .ok (.getfield 59, 3) := by decide +kernel
theorem dX12_allBest_76 : decode cX12_allBest 76 = .ok (.iload_n 1, 1) := by decide +kernel
theorem dX12_allBest_77 : decode cX12_allBest 77 = .ok (.iaload, 1) := by decide +kernel
theorem dX12_allBest_78 : decode cX12_allBest 78 = .ok (.aload_n 0, 1) := by decide +kernel
theorem dX12_allBest_79 : decode cX12_allBest 79 = .ok (.iload_n 2, 1) := by decide +kernel
theorem dX12_allBest_80 : decode cX12_allBest 80 = .ok (.iload 4, 2) := by decide +kernel
theorem dX12_allBest_82 : decode cX12_allBest 82 = .ok (.invokevirtual 434, 3) := by decide +kernel
theorem dX12_allBest_85 : decode cX12_allBest 85 = .ok (.aload_n 0, 1) := by decide +kernel
theorem dX12_allBest_86 : decode cX12_allBest 86 = .ok (.getfield 59, 3) := by decide +kernel
theorem dX12_allBest_89 : decode cX12_allBest 89 = .ok (.iload_n 3, 1) := by decide +kernel
theorem dX12_allBest_90 : decode cX12_allBest 90 = .ok (.iconst 1, 1) := by decide +kernel
theorem dX12_allBest_91 : decode cX12_allBest 91 = .ok (.iload 4, 2) := by decide +kernel
theorem dX12_allBest_93 : decode cX12_allBest 93 = .ok (.ishl, 1) := by decide +kernel
theorem dX12_allBest_94 : decode cX12_allBest 94 = .ok (.iconst (-1), 1) := by decide +kernel
theorem dX12_allBest_95 : decode cX12_allBest 95 = .ok (.ixor, 1) := by decide +kernel
theorem dX12_allBest_96 : decode cX12_allBest 96 = .ok (.iand, 1) := by decide +kernel
theorem dX12_allBest_97 : decode cX12_allBest 97 = .ok (.iaload, 1) := by decide +kernel
theorem dX12_allBest_98 : decode cX12_allBest 98 = .ok (.iadd, 1) := by decide +kernel
theorem dX12_allBest_99 : decode cX12_allBest 99 = .ok (.invokestatic 392, 3) := by decide +kernel
theorem dX12_allBest_102 : decode cX12_allBest 102 = .ok (.iastore, 1) := by decide +kernel
theorem dX12_allBest_103 : decode cX12_allBest 103 = .ok (.iinc 4 1, 3) := by decide +kernel
theorem dX12_allBest_106 : decode cX12_allBest 106 = .ok (.goto (-59), 3) := by decide +kernel
theorem dX12_allBest_109 : decode cX12_allBest 109 = .ok (.iinc 1 1, 3) := by decide +kernel
theorem dX12_allBest_112 : decode cX12_allBest 112 = .ok (.goto (-103), 3) := by decide +kernel
theorem dX12_allBest_115 : decode cX12_allBest 115 = .ok (.return_, 1) := by decide +kernel
def q12_allBest (σ : St) : Option St :=
  Option.bind (sa σ 16 128 0 0) fun σ1_ =>
  Option.bind (loop2 (fun rec6_ (set9_ : Int32) (σ10_ : St) =>
  Option.bind (q12_all σ10_) fun x15_ =>
  if set9_ ≤ x15_ then
  Option.bind (q12_lowest set9_) fun x19_ =>
  lt (set9_ &&& ((shl 1 x19_) ^^^ (-1))) fun rest21_ =>
  Option.bind (ag σ10_ 16 128 rest21_) fun x23_ =>
  Option.bind (sa σ10_ 16 128 set9_ x23_) fun σ25_ =>
  lt (x19_ + 1) fun o27_ =>
  Option.bind (loop2 (fun rec32_ (o35_ : Int32) (σ36_ : St) =>
  Option.bind (ag σ36_ 1 752 3) fun x41_ =>
  if o35_ < x41_ then
  Option.bind (if q12_isOf rest21_ o35_ = true then (Option.bind (ag σ36_ 16 128 set9_) fun x52_ =>
  Option.bind (q12_friends σ36_ x19_ o35_) fun x54_ =>
  Option.bind (ag σ36_ 16 128 (rest21_ &&& ((shl 1 o35_) ^^^ (-1)))) fun x56_ =>
  Option.bind (sa σ36_ 16 128 set9_ (q12_greater x52_ (x54_ + x56_))) fun σ58_ =>
  some (σ58_)) else (some (σ36_))) fun y45_ =>
  lt (o35_ + 1) fun o60_ =>
  rec32_ o60_ y45_
  else (some (o35_, σ36_))) fuelN o27_ σ25_) fun y29_ =>
  lt (set9_ + 1) fun set62_ =>
  rec6_ set62_ y29_.2
  else (some (set9_, σ10_))) fuelN (1 : Int32) σ1_) fun y3_ =>
  some y3_.2
abbrev rm12_allBest : Room := { frames := 2, cells := 0, slots := 0, locals := 44 }
set_option maxHeartbeats 4000000 in
set_option maxRecDepth 100000 in
theorem p12_allBest {Θ : Tz} {σ : St} {ρ : Option Value × St} (C : Zc Θ cX12_allBest 5 RX12 none rm12_allBest) (hkd : Θ.2.2.2.2.1 = kdM) {r : St} (hf : q12_allBest σ = some r) (hρ : ρ = (none, r)) : Z Θ 5 0 0 (zQ Θ ρ) σ 0 [(0, .ref (zA Θ 0))] [] := by
  unfold q12_allBest at hf
  refine z_aload_n C 0 dX12_allBest_0 rfl rfl ?_
  refine fg12_59 C hkd dX12_allBest_1 ?_
  refine z_iconst (v := 0) C dX12_allBest_4 ic_0 ?_
  refine z_iconst (v := 0) C dX12_allBest_5 ic_0 ?_
  obtain ⟨σ1_, h2_, hf⟩ := ob hf
  refine z_sa C h2_ (kM_16 hkd) dX12_allBest_6 ?_
  refine z_iconst (v := 1) C dX12_allBest_7 ic_1 ?_
  refine z_istN C dX12_allBest_8 rfl rfl (Nat.le_of_ble_eq_true rfl) rfl ?_
  refine Z.sub [1, 0] rfl ?_
  obtain ⟨y3_, h4_, hf⟩ := ob hf
  suffices K5_ : Z Θ 5 0 0 (zQ Θ ρ) y3_.2 115 [(0, .ref (zA Θ 0)), (1, .int y3_.1)] [] by
    refine loop2_Z (P := fun (set9_ : Int32) (σ10_ : St) => Z Θ 5 0 0 (zQ Θ ρ) σ10_ 9 [(0, .ref (zA Θ 0)), (1, .int set9_)] []) ?_ fuelN (1 : Int32) σ1_ h4_
    clear h4_
    intro rec6_ set9_ σ10_ h7_ h8_
    refine z_iload_n C 1 dX12_allBest_9 rfl rfl ?_
    refine z_aload_n C 0 dX12_allBest_10 rfl rfl ?_
    obtain ⟨x15_, h16_, h8_⟩ := ob h8_
    refine cr12_422 C hkd  h16_ ⟨(Nat.le_of_ble_eq_true rfl), (Nat.le_of_ble_eq_true rfl)⟩ (Nat.le_of_ble_eq_true rfl) ⟨Nat.zero_le _, Nat.zero_le _⟩ dX12_allBest_11 ?_
    have K13_ : set9_ ≤ x15_ → Z Θ 5 0 0 (zQ Θ ρ) σ10_ 17 [(0, .ref (zA Θ 0)), (1, .int set9_)] [] := by
      intro h18_
      rw [if_pos h18_] at h8_
      refine z_iload_n C 1 dX12_allBest_17 rfl rfl ?_
      obtain ⟨x19_, h20_, h8_⟩ := ob h8_
      refine cr12_304 (set_a := set9_) C hkd  h20_ ⟨(Nat.le_of_ble_eq_true rfl), (Nat.le_of_ble_eq_true rfl)⟩ (Nat.le_of_ble_eq_true rfl) ⟨Nat.zero_le _, Nat.zero_le _⟩ dX12_allBest_18 ?_
      refine z_istN C dX12_allBest_21 rfl rfl (Nat.le_of_ble_eq_true rfl) rfl ?_
      refine z_iload_n C 2 dX12_allBest_22 rfl rfl ?_
      refine z_iconst (v := 1) C dX12_allBest_23 ic_1 ?_
      refine z_iload_n C 0 dX12_allBest_24 rfl rfl ?_
      refine z_shl C dX12_allBest_25 ?_
      refine z_iconst (v := (-1)) C dX12_allBest_26 ic_m1 ?_
      refine z_ixor C dX12_allBest_27 ?_
      refine z_iand C dX12_allBest_28 ?_
      obtain ⟨rest21_, h22_, h8_⟩ := lt_ h8_
      refine z_istN C dX12_allBest_29 h22_ rfl (Nat.le_of_ble_eq_true rfl) rfl ?_
      refine z_aload_n C 2 dX12_allBest_30 rfl rfl ?_
      refine fg12_59 C hkd dX12_allBest_31 ?_
      refine z_iload_n C 3 dX12_allBest_34 rfl rfl ?_
      refine z_aload_n C 2 dX12_allBest_35 rfl rfl ?_
      refine fg12_59 C hkd dX12_allBest_36 ?_
      refine z_iload_n C 0 dX12_allBest_39 rfl rfl ?_
      obtain ⟨x23_, h24_, h8_⟩ := ob h8_
      refine z_ag C h24_ (kM_16 hkd) dX12_allBest_40 ?_
      obtain ⟨σ25_, h26_, h8_⟩ := ob h8_
      refine z_sa C h26_ (kM_16 hkd) dX12_allBest_41 ?_
      refine z_iload_n C 1 dX12_allBest_42 rfl rfl ?_
      refine z_iconst (v := 1) C dX12_allBest_43 ic_1 ?_
      refine z_iadd C dX12_allBest_44 ?_
      obtain ⟨o27_, h28_, h8_⟩ := lt_ h8_
      refine z_ist C dX12_allBest_45 h28_ (Nat.le_of_ble_eq_true rfl) rfl ?_
      refine Z.sub [3, 4, 2, 1, 0] rfl ?_
      obtain ⟨y29_, h30_, h8_⟩ := ob h8_
      suffices K31_ : Z Θ 5 0 0 (zQ Θ ρ) y29_.2 109 [(0, .ref (zA Θ 0)), (1, .int set9_), (2, .int x19_), (3, .int rest21_), (4, .int y29_.1)] [] by
        refine loop2_Z (P := fun (o35_ : Int32) (σ36_ : St) => Z Θ 5 0 0 (zQ Θ ρ) σ36_ 47 [(0, .ref (zA Θ 0)), (1, .int set9_), (2, .int x19_), (3, .int rest21_), (4, .int o35_)] []) ?_ fuelN o27_ σ25_ h30_
        clear h30_
        intro rec32_ o35_ σ36_ h33_ h34_
        refine z_iload C 4 dX12_allBest_47 rfl ?_
        refine z_aload_n C 0 dX12_allBest_49 rfl rfl ?_
        refine fg12_7 C hkd dX12_allBest_50 ?_
        refine z_iconst (v := 3) C dX12_allBest_53 ic_3 ?_
        obtain ⟨x41_, h42_, h34_⟩ := ob h34_
        refine z_ag C h42_ (kM_1 hkd) dX12_allBest_54 ?_
        have K39_ : o35_ < x41_ → Z Θ 5 0 0 (zQ Θ ρ) σ36_ 58 [(0, .ref (zA Θ 0)), (1, .int set9_), (2, .int x19_), (3, .int rest21_), (4, .int o35_)] [] := by
          intro h44_
          rw [if_pos h44_] at h34_
          obtain ⟨y45_, h46_, h34_⟩ := ob h34_
          suffices K47_ : Z Θ 5 0 0 (zQ Θ ρ) y45_ 103 [(0, .ref (zA Θ 0)), (1, .int set9_), (2, .int x19_), (3, .int rest21_), (4, .int o35_)] [] by
            have K48_ : q12_isOf rest21_ o35_ = true → Z Θ 5 0 0 (zQ Θ ρ) σ36_ 67 [(0, .ref (zA Θ 0)), (1, .int set9_), (2, .int x19_), (3, .int rest21_), (4, .int o35_)] [] := by
              intro h51_
              rw [if_pos h51_] at h46_
              refine z_aload_n C 0 dX12_allBest_67 rfl rfl ?_
              refine fg12_59 C hkd dX12_allBest_68 ?_
              refine z_iload_n C 1 dX12_allBest_71 rfl rfl ?_
              refine z_aload_n C 0 dX12_allBest_72 rfl rfl ?_
              refine fg12_59 C hkd dX12_allBest_73 ?_
              refine z_iload_n C 1 dX12_allBest_76 rfl rfl ?_
              obtain ⟨x52_, h53_, h46_⟩ := ob h46_
              refine z_ag C h53_ (kM_16 hkd) dX12_allBest_77 ?_
              refine z_aload_n C 0 dX12_allBest_78 rfl rfl ?_
              refine z_iload_n C 2 dX12_allBest_79 rfl rfl ?_
              refine z_iload C 4 dX12_allBest_80 rfl ?_
              obtain ⟨x54_, h55_, h46_⟩ := ob h46_
              refine cr12_434 (p_a := x19_) (o_a := o35_) C hkd  h55_ ⟨(Nat.le_of_ble_eq_true rfl), (Nat.le_of_ble_eq_true rfl)⟩ (Nat.le_of_ble_eq_true rfl) ⟨Nat.zero_le _, Nat.zero_le _⟩ dX12_allBest_82 ?_
              refine z_aload_n C 0 dX12_allBest_85 rfl rfl ?_
              refine fg12_59 C hkd dX12_allBest_86 ?_
              refine z_iload_n C 3 dX12_allBest_89 rfl rfl ?_
              refine z_iconst (v := 1) C dX12_allBest_90 ic_1 ?_
              refine z_iload C 4 dX12_allBest_91 rfl ?_
              refine z_shl C dX12_allBest_93 ?_
              refine z_iconst (v := (-1)) C dX12_allBest_94 ic_m1 ?_
              refine z_ixor C dX12_allBest_95 ?_
              refine z_iand C dX12_allBest_96 ?_
              obtain ⟨x56_, h57_, h46_⟩ := ob h46_
              refine z_ag C h57_ (kM_16 hkd) dX12_allBest_97 ?_
              refine z_iadd C dX12_allBest_98 ?_
              refine cr12_392 (a_a := x52_) (b_a := (x54_ + x56_)) C hkd  ⟨(Nat.le_of_ble_eq_true rfl), (Nat.le_of_ble_eq_true rfl)⟩ (Nat.le_of_ble_eq_true rfl) ⟨Nat.zero_le _, Nat.zero_le _⟩ dX12_allBest_99 ?_
              obtain ⟨σ58_, h59_, h46_⟩ := ob h46_
              refine z_sa C h59_ (kM_16 hkd) dX12_allBest_102 ?_
              cases h46_
              exact K47_
            have K49_ : ¬ (q12_isOf rest21_ o35_ = true) → Z Θ 5 0 0 (zQ Θ ρ) σ36_ 103 [(0, .ref (zA Θ 0)), (1, .int set9_), (2, .int x19_), (3, .int rest21_), (4, .int o35_)] [] := by
              intro h51_
              rw [if_neg h51_] at h46_
              cases h46_
              exact K47_
            refine z_iload_n C 3 dX12_allBest_58 rfl rfl ?_
            refine z_iload C 4 dX12_allBest_59 rfl ?_
            refine cr12_275 (set_a := rest21_) (k_a := o35_) C hkd  ⟨(Nat.le_of_ble_eq_true rfl), (Nat.le_of_ble_eq_true rfl)⟩ (Nat.le_of_ble_eq_true rfl) ⟨Nat.zero_le _, Nat.zero_le _⟩ dX12_allBest_61 ?_
            refine cb_f C 103 dX12_allBest_64 (by decide) (fun h50_ => ?_) (fun h50_ => ?_)
            · exact K48_ h50_
            · exact K49_ h50_
          obtain ⟨o60_, h61_, h34_⟩ := lt_ h34_
          refine z_inc C 4 dX12_allBest_103 rfl ic_1 h61_ (Nat.le_of_ble_eq_true rfl) rfl ?_
          refine z_goto C 47 dX12_allBest_106 (by decide) ?_
          refine Z.sub [1, 2, 3, 4, 0] rfl ?_
          exact h33_ _ _ h34_
        have K40_ : ¬ (o35_ < x41_) → Z Θ 5 0 0 (zQ Θ ρ) σ36_ 109 [(0, .ref (zA Θ 0)), (1, .int set9_), (2, .int x19_), (3, .int rest21_), (4, .int o35_)] [] := by
          intro h44_
          rw [if_neg h44_] at h34_
          cases h34_
          exact K31_
        refine c_lt_f C 109 dX12_allBest_55 (by decide) (fun h43_ => ?_) (fun h43_ => ?_)
        · exact K39_ h43_
        · exact K40_ h43_
      obtain ⟨set62_, h63_, h8_⟩ := lt_ h8_
      refine z_inc C 1 dX12_allBest_109 rfl ic_1 h63_ (Nat.le_of_ble_eq_true rfl) rfl ?_
      refine z_goto C 9 dX12_allBest_112 (by decide) ?_
      refine Z.sub [1, 0] rfl ?_
      exact h7_ _ _ h8_
    have K14_ : ¬ (set9_ ≤ x15_) → Z Θ 5 0 0 (zQ Θ ρ) σ10_ 115 [(0, .ref (zA Θ 0)), (1, .int set9_)] [] := by
      intro h18_
      rw [if_neg h18_] at h8_
      cases h8_
      exact K5_
    refine c_le_f C 115 dX12_allBest_14 (by decide) (fun h17_ => ?_) (fun h17_ => ?_)
    · exact K13_ h17_
    · exact K14_ h17_
  cases hf
  subst hρ
  exact z_vret C dX12_allBest_115
theorem c12_allBest {l : Launch} {kd : List KD} {w : Wp} {σ : St} (hkd : kd = kdM) (hi : zI kd w) {r : St} (hf : q12_allBest σ = some r) : zM l kd w yX12_allBest cX12_allBest 5 none rm12_allBest [.ref (w.2.2.1 0)] σ (none, r) := zM_of rfl hi (Nat.le_of_ble_eq_true rfl) (fun Θ hl hw C => by
  obtain ⟨Θ1, Θ2, Θ3, Θ4, Θ5⟩ := Θ
  cases hw
  exact p12_allBest C hkd  hf rfl)

/-! LastLoafModel.feeds -/
theorem sp_9999 : (Int16.ofInt (9999)).toInt32 = 9999 := by decide +kernel
theorem w_9_170 : Cond.code ({ cls := "LastLoafModel", name := "isHungrier", desc := "(I)V" } : MethodName) prog_14_method_59_code (2 : Nat) (Option.none : Option ClassFile.FieldType) ∈ TB := tb_in (lwt_9 (List.mem_of_getElem? (i := 170) (by decide +kernel))) rfl
theorem w_9_167 : Cond.methodLink "LastLoafModel" (317 : Nat) ({ cls := "LastLoafModel", name := "isHungrier", desc := "(I)V" } : MethodName) ∈ TB := tb_in (lwt_9 (List.mem_of_getElem? (i := 167) (by decide +kernel))) rfl
theorem w_9_169 : Cond.instanceMethod ({ cls := "LastLoafModel", name := "isHungrier", desc := "(I)V" } : MethodName) ∈ TB := tb_in (lwt_9 (List.mem_of_getElem? (i := 169) (by decide +kernel))) rfl
theorem ws_LastLoafModel_isHungrier_I_V : Cond.selects "LastLoafModel" (⟨"LastLoafModel", "isHungrier", "(I)V"⟩ : MethodName) (⟨"LastLoafModel", "isHungrier", "(I)V"⟩ : MethodName) ∈ TB := tb_in (List.mem_append_left _ (List.mem_of_getElem? (i := 65) (by decide +kernel))) rfl
theorem cr12_317 {Θ : Tz} {cc : ByteArray} {nL kc ks : Nat} {ret : Option FieldType} {rm : Room} {Q : State → Prop} {σ : St} {pc : Nat} {lv : List (Nat × Value)} {st : List Value} (C : Zc Θ cc nL RX12 ret rm) (hkd : Θ.2.2.2.2.1 = kdM) {p_a : Int32} {r : St} (hx : q12_isHungrier σ p_a = some r) (hrm : rm12_isHungrier.frames + 1 ≤ rm.frames ∧ 8 + (2 + 11) + rm12_isHungrier.locals ≤ rm.locals) (hcat : (st.map fun v => v.category).sum ≤ 8) (hk : kc ≤ rm.cells ∧ ks ≤ rm.slots) (hd : decode cc pc = .ok (.invokevirtual 317, 3)) (kk : Z Θ nL kc ks Q r (pc + 3) lv st) : Z Θ nL kc ks Q σ pc lv (.int p_a :: .ref (zA Θ 0) :: st) := z_callV C 0 [.int p_a] (none, r) 1 (kM_0 hkd) rfl (c12_isHungrier (p_a := p_a) hkd (zc_inj C) hx) w_9_170 w_9_167 w_9_169 ws_LastLoafModel_isHungrier_I_V w_1_14 ⟨rfl, rfl, hrm.1, hrm.2⟩ (by decide +kernel) rfl rfl hcat hk hd kk
theorem dX12_feeds_0 : decode cX12_feeds 0 = .ok (.aload_n 0, 1) := by decide +kernel
theorem dX12_feeds_1 : decode cX12_feeds 1 = .ok (.getfield 7, 3) := by decide +kernel
theorem dX12_feeds_4 : decode cX12_feeds 4 = .ok (.iconst 5, 1) := by decide +kernel
theorem dX12_feeds_5 : decode cX12_feeds 5 = .ok (.sipush 9999, 3) := by decide +kernel
theorem dX12_feeds_8 : decode cX12_feeds 8 = .ok (.aload_n 0, 1) := by decide +kernel
theorem dX12_feeds_9 : decode cX12_feeds 9 = .ok (.getfield 7, 3) := by decide +kernel
theorem dX12_feeds_12 : decode cX12_feeds 12 = .ok (.iconst 5, 1) := by decide +kernel
theorem dX12_feeds_13 : decode cX12_feeds 13 = .ok (.iaload, 1) := by decide +kernel
theorem dX12_feeds_14 : decode cX12_feeds 14 = .ok (.aload_n 0, 1) := by decide +kernel
theorem dX12_feeds_15 : decode cX12_feeds 15 = .ok (.getfield 7, 3) := by decide +kernel
theorem dX12_feeds_18 : decode cX12_feeds 18 = .ok (.bipush 10, 2) := by decide +kernel
theorem dX12_feeds_20 : decode cX12_feeds 20 = .ok (.aload_n 0, 1) := by decide +kernel
theorem dX12_feeds_21 : decode cX12_feeds 21 = .ok (.getfield 7, 3) := by decide +kernel
theorem dX12_feeds_24 : decode cX12_feeds 24 = .ok (.iconst 4, 1) := by decide +kernel
theorem dX12_feeds_25 : decode cX12_feeds 25 = .ok (.iaload, 1) := by decide +kernel
theorem dX12_feeds_26 : decode cX12_feeds 26 = .ok (.iconst 4, 1) := by decide +kernel
theorem dX12_feeds_27 : decode cX12_feeds 27 = .ok (.irem, 1) := by decide +kernel
theorem dX12_feeds_28 : decode cX12_feeds 28 = .ok (.iadd, 1) := by decide +kernel
theorem dX12_feeds_29 : decode cX12_feeds 29 = .ok (.iaload, 1) := by decide +kernel
theorem dX12_feeds_30 : decode cX12_feeds 30 = .ok (.iadd, 1) := by decide +kernel
theorem dX12_feeds_31 : decode cX12_feeds 31 = .ok (.invokestatic 313, 3) := by decide +kernel
theorem dX12_feeds_34 : decode cX12_feeds 34 = .ok (.iastore, 1) := by decide +kernel
theorem dX12_feeds_35 : decode cX12_feeds 35 = .ok (.iconst 0, 1) := by decide +kernel
theorem dX12_feeds_36 : decode cX12_feeds 36 = .ok (.istore_n 1, 1) := by decide +kernel
theorem dX12_feeds_37 : decode cX12_feeds 37 = .ok (.iload_n 1, 1) := by decide +kernel
theorem dX12_feeds_38 : decode cX12_feeds 38 = .ok (.aload_n 0, 1) := by decide +kernel
theorem dX12_feeds_39 : decode cX12_feeds 39 = .ok (.getfield 7, 3) := by decide +kernel
theorem dX12_feeds_42 : decode cX12_feeds 42 = .ok (.iconst 3, 1) := by decide +kernel
theorem dX12_feeds_43 : decode cX12_feeds 43 = .ok (.iaload, 1) := by decide +kernel
theorem dX12_feeds_44 : decode cX12_feeds 44 = .ok (.if_icmp .ge 66, 3) := by decide +kernel
theorem dX12_feeds_47 : decode cX12_feeds 47 = .ok (.aload_n 0, 1) := by decide +kernel
theorem dX12_feeds_48 : decode cX12_feeds 48 = .ok (.iload_n 1, 1) := by decide +kernel
theorem dX12_feeds_49 : decode cX12_feeds 49 = .ok (.iconst 3, 1) := by decide +kernel
theorem dX12_feeds_50 : decode cX12_feeds 50 = .ok (.invokevirtual 72, 3) := by decide +kernel
theorem dX12_feeds_53 : decode cX12_feeds 53 = .ok (.iconst 1, 1) := by decide +kernel
theorem dX12_feeds_54 : decode cX12_feeds 54 = .ok (.if_icmp .eq 50, 3) := by decide +kernel
theorem dX12_feeds_57 : decode cX12_feeds 57 = .ok (.aload_n 0, 1) := by decide +kernel
theorem dX12_feeds_58 : decode cX12_feeds 58 = .ok (.iload_n 1, 1) := by decide +kernel
theorem dX12_feeds_59 : decode cX12_feeds 59 = .ok (.iconst 4, 1) := by decide +kernel
theorem dX12_feeds_60 : decode cX12_feeds 60 = .ok (.invokevirtual 72, 3) := by decide +kernel
theorem dX12_feeds_63 : decode cX12_feeds 63 = .ok (.iconst 1, 1) := by decide +kernel
theorem dX12_feeds_64 : decode cX12_feeds 64 = .ok (.if_icmp .ne 6, 3) := by decide +kernel
theorem dX12_feeds_67 : decode cX12_feeds 67 = .ok (.goto 37, 3) := by decide +kernel
theorem dX12_feeds_70 : decode cX12_feeds 70 = .ok (.aload_n 0, 1) := by decide +kernel
theorem dX12_feeds_71 : decode cX12_feeds 71 = .ok (.getfield 7, 3) := by decide +kernel
theorem dX12_feeds_74 : decode cX12_feeds 74 = .ok (.iconst 5, 1) := by decide +kernel
theorem dX12_feeds_75 : decode cX12_feeds 75 = .ok (.iaload, 1) := by decide +kernel
theorem dX12_feeds_76 : decode cX12_feeds 76 = .ok (.ifCond .ne 11, 3) := by decide +kernel
theorem dX12_feeds_79 : decode cX12_feeds 79 = .ok (.aload_n 0, 1) := by decide +kernel
theorem dX12_feeds_80 : decode cX12_feeds 80 = .ok (.iload_n 1, 1) := by decide +kernel
theorem dX12_feeds_81 : decode cX12_feeds 81 = .ok (.invokevirtual 317, 3) := by decide +kernel
theorem dX12_feeds_84 : decode cX12_feeds 84 = .ok (.goto 20, 3) := by decide +kernel
theorem dX12_feeds_87 : decode cX12_feeds 87 = .ok (.aload_n 0, 1) := by decide +kernel
theorem dX12_feeds_88 : decode cX12_feeds 88 = .ok (.getfield 7, 3) := by decide +kernel
theorem dX12_feeds_91 : decode cX12_feeds 91 = .ok (.iconst 5, 1) := by decide +kernel
theorem dX12_feeds_92 : decode cX12_feeds 92 = .ok (.dup2, 1) := by decide +kernel
theorem dX12_feeds_93 : decode cX12_feeds 93 = .ok (.iaload, 1) := by decide +kernel
theorem dX12_feeds_94 : decode cX12_feeds 94 = .ok (.iconst 1, 1) := by decide +kernel
theorem dX12_feeds_95 : decode cX12_feeds 95 = .ok (.isub, 1) := by decide +kernel
theorem dX12_feeds_96 : decode cX12_feeds 96 = .ok (.iastore, 1) := by decide +kernel
theorem dX12_feeds_97 : decode cX12_feeds 97 = .ok (.aload_n 0, 1) := by decide +kernel
theorem dX12_feeds_98 : decode cX12_feeds 98 = .ok (.iload_n 1, 1) := by decide +kernel
theorem dX12_feeds_99 : decode cX12_feeds 99 = .ok (.iconst 0, 1) := by decide +kernel
theorem dX12_feeds_100 : decode cX12_feeds 100 = .ok (.iconst 0, 1) := by decide +kernel
theorem dX12_feeds_101 : decode cX12_feeds 101 = .ok (.invokevirtual 135, 3) := by decide +kernel
theorem dX12_feeds_104 : decode cX12_feeds 104 = .ok (.iinc 1 1, 3) := by decide +kernel
theorem dX12_feeds_107 : decode cX12_feeds 107 = .ok (.goto (-70), 3) := by decide +kernel
theorem dX12_feeds_110 : decode cX12_feeds 110 = .ok (.return_, 1) := by decide +kernel
def q12_feeds (σ : St) : Option St :=
  Option.bind (ag σ 1 752 5) fun x1_ =>
  Option.bind (ag σ 1 752 4) fun x3_ =>
  Option.bind (ag σ 1 752 (10 + (irm x3_ 4))) fun x5_ =>
  Option.bind (sa σ 1 752 5 (q12_lesser 9999 (x1_ + x5_))) fun σ7_ =>
  Option.bind (loop2 (fun rec12_ (p15_ : Int32) (σ16_ : St) =>
  Option.bind (ag σ16_ 1 752 3) fun x21_ =>
  if p15_ < x21_ then
  lt (fun (p53_ : Int32) (σ54_ : St) =>
  lt (p53_ + 1) fun p56_ =>
  rec12_ p56_ σ54_) fun k18_ =>
  Option.bind (Option.bind (q12_of σ16_ p15_ 3) fun x29_ =>
  if x29_ = 1 then (some true) else (Option.bind (q12_of σ16_ p15_ 4) fun x32_ =>
  if x32_ = 1 then (some true) else (some false))) fun t27_ =>
  if t27_ = true then (k18_ p15_ σ16_) else
  Option.bind (Option.bind (ag σ16_ 1 752 5) fun x41_ =>
  if x41_ = 0 then (Option.bind (q12_isHungrier σ16_ p15_) fun x45_ =>
  some (x45_)) else (Option.bind (ag σ16_ 1 752 5) fun x47_ =>
  Option.bind (sa σ16_ 1 752 5 (x47_ - 1)) fun σ49_ =>
  Option.bind (q12_lays σ49_ p15_ 0 0) fun x51_ =>
  some (x51_))) fun y36_ =>
  k18_ p15_ y36_
  else (some (p15_, σ16_))) fuelN 0 σ7_) fun y9_ =>
  some y9_.2
abbrev rm12_feeds : Room := { frames := 2, cells := 0, slots := 0, locals := 44 }
set_option maxHeartbeats 4000000 in
set_option maxRecDepth 100000 in
theorem p12_feeds {Θ : Tz} {σ : St} {ρ : Option Value × St} (C : Zc Θ cX12_feeds 2 RX12 none rm12_feeds) (hkd : Θ.2.2.2.2.1 = kdM) {r : St} (hf : q12_feeds σ = some r) (hρ : ρ = (none, r)) : Z Θ 2 0 0 (zQ Θ ρ) σ 0 [(0, .ref (zA Θ 0))] [] := by
  unfold q12_feeds at hf
  refine z_aload_n C 0 dX12_feeds_0 rfl rfl ?_
  refine fg12_7 C hkd dX12_feeds_1 ?_
  refine z_iconst (v := 5) C dX12_feeds_4 ic_5 ?_
  refine z_sipush (v := 9999) C dX12_feeds_5 sp_9999 ?_
  refine z_aload_n C 0 dX12_feeds_8 rfl rfl ?_
  refine fg12_7 C hkd dX12_feeds_9 ?_
  refine z_iconst (v := 5) C dX12_feeds_12 ic_5 ?_
  obtain ⟨x1_, h2_, hf⟩ := ob hf
  refine z_ag C h2_ (kM_1 hkd) dX12_feeds_13 ?_
  refine z_aload_n C 0 dX12_feeds_14 rfl rfl ?_
  refine fg12_7 C hkd dX12_feeds_15 ?_
  refine z_bipush (v := 10) C dX12_feeds_18 bp_10 ?_
  refine z_aload_n C 0 dX12_feeds_20 rfl rfl ?_
  refine fg12_7 C hkd dX12_feeds_21 ?_
  refine z_iconst (v := 4) C dX12_feeds_24 ic_4 ?_
  obtain ⟨x3_, h4_, hf⟩ := ob hf
  refine z_ag C h4_ (kM_1 hkd) dX12_feeds_25 ?_
  refine z_iconst (v := 4) C dX12_feeds_26 ic_4 ?_
  refine z_irm C (by decide) dX12_feeds_27 ?_
  refine z_iadd C dX12_feeds_28 ?_
  obtain ⟨x5_, h6_, hf⟩ := ob hf
  refine z_ag C h6_ (kM_1 hkd) dX12_feeds_29 ?_
  refine z_iadd C dX12_feeds_30 ?_
  refine cr12_313 (a_a := 9999) (b_a := (x1_ + x5_)) C hkd  ⟨(Nat.le_of_ble_eq_true rfl), (Nat.le_of_ble_eq_true rfl)⟩ (Nat.le_of_ble_eq_true rfl) ⟨Nat.zero_le _, Nat.zero_le _⟩ dX12_feeds_31 ?_
  obtain ⟨σ7_, h8_, hf⟩ := ob hf
  refine z_sa C h8_ (kM_1 hkd) dX12_feeds_34 ?_
  refine z_iconst (v := 0) C dX12_feeds_35 ic_0 ?_
  refine z_istN C dX12_feeds_36 rfl rfl (Nat.le_of_ble_eq_true rfl) rfl ?_
  refine Z.sub [1, 0] rfl ?_
  obtain ⟨y9_, h10_, hf⟩ := ob hf
  suffices K11_ : Z Θ 2 0 0 (zQ Θ ρ) y9_.2 110 [(0, .ref (zA Θ 0)), (1, .int y9_.1)] [] by
    refine loop2_Z (P := fun (p15_ : Int32) (σ16_ : St) => Z Θ 2 0 0 (zQ Θ ρ) σ16_ 37 [(0, .ref (zA Θ 0)), (1, .int p15_)] []) ?_ fuelN 0 σ7_ h10_
    clear h10_
    intro rec12_ p15_ σ16_ h13_ h14_
    refine z_iload_n C 1 dX12_feeds_37 rfl rfl ?_
    refine z_aload_n C 0 dX12_feeds_38 rfl rfl ?_
    refine fg12_7 C hkd dX12_feeds_39 ?_
    refine z_iconst (v := 3) C dX12_feeds_42 ic_3 ?_
    obtain ⟨x21_, h22_, h14_⟩ := ob h14_
    refine z_ag C h22_ (kM_1 hkd) dX12_feeds_43 ?_
    have K19_ : p15_ < x21_ → Z Θ 2 0 0 (zQ Θ ρ) σ16_ 47 [(0, .ref (zA Θ 0)), (1, .int p15_)] [] := by
      intro h24_
      rw [if_pos h24_] at h14_
      obtain ⟨k18_, h55_, h14_⟩ := lt_ h14_
      have K17_ : ∀ (p53_ : Int32) (σ54_ : St), k18_ p53_ σ54_ = some y9_ → Z Θ 2 0 0 (zQ Θ ρ) σ54_ 104 [(0, .ref (zA Θ 0)), (1, .int p53_)] [] := by
        intro p53_ σ54_ h14_
        subst h55_
        dsimp only at h14_
        obtain ⟨p56_, h57_, h14_⟩ := lt_ h14_
        refine z_inc C 1 dX12_feeds_104 rfl ic_1 h57_ (Nat.le_of_ble_eq_true rfl) rfl ?_
        refine z_goto C 37 dX12_feeds_107 (by decide) ?_
        refine Z.sub [1, 0] rfl ?_
        exact h13_ _ _ h14_
      obtain ⟨t27_, h28_, h14_⟩ := ob h14_
      have K25_j : t27_ = true → Z Θ 2 0 0 (zQ Θ ρ) σ16_ 104 [(0, .ref (zA Θ 0)), (1, .int p15_)] [] := by
        intro h35_
        rw [if_pos h35_] at h14_
        exact K17_ _ _ h14_
      have K25_ : t27_ = true → Z Θ 2 0 0 (zQ Θ ρ) σ16_ 67 [(0, .ref (zA Θ 0)), (1, .int p15_)] [] := by
        intro h35_
        refine z_goto C 104 dX12_feeds_67 (by decide) ?_
        exact K25_j h35_
      suffices K26_ : ¬ (t27_ = true) → Z Θ 2 0 0 (zQ Θ ρ) σ16_ 70 [(0, .ref (zA Θ 0)), (1, .int p15_)] [] by
        refine z_aload_n C 0 dX12_feeds_47 rfl rfl ?_
        refine z_iload_n C 1 dX12_feeds_48 rfl rfl ?_
        refine z_iconst (v := 3) C dX12_feeds_49 ic_3 ?_
        obtain ⟨x29_, h30_, h28_⟩ := ob h28_
        refine cr12_72 (p_a := p15_) (what_a := 3) C hkd  h30_ ⟨(Nat.le_of_ble_eq_true rfl), (Nat.le_of_ble_eq_true rfl)⟩ (Nat.le_of_ble_eq_true rfl) ⟨Nat.zero_le _, Nat.zero_le _⟩ dX12_feeds_50 ?_
        refine z_iconst (v := 1) C dX12_feeds_53 ic_1 ?_
        refine c_eq_t C 104 dX12_feeds_54 (by decide) (fun h31_ => ?_) (fun h31_ => ?_)
        · rw [if_pos h31_] at h28_
          cases h28_
          exact K25_j rfl
        · rw [if_neg h31_] at h28_
          refine z_aload_n C 0 dX12_feeds_57 rfl rfl ?_
          refine z_iload_n C 1 dX12_feeds_58 rfl rfl ?_
          refine z_iconst (v := 4) C dX12_feeds_59 ic_4 ?_
          obtain ⟨x32_, h33_, h28_⟩ := ob h28_
          refine cr12_72 (p_a := p15_) (what_a := 4) C hkd  h33_ ⟨(Nat.le_of_ble_eq_true rfl), (Nat.le_of_ble_eq_true rfl)⟩ (Nat.le_of_ble_eq_true rfl) ⟨Nat.zero_le _, Nat.zero_le _⟩ dX12_feeds_60 ?_
          refine z_iconst (v := 1) C dX12_feeds_63 ic_1 ?_
          refine c_eq_f C 70 dX12_feeds_64 (by decide) (fun h34_ => ?_) (fun h34_ => ?_)
          · rw [if_pos h34_] at h28_
            cases h28_
            exact K25_ rfl
          · rw [if_neg h34_] at h28_
            cases h28_
            exact K26_ Bool.false_ne_true
      intro h35_
      rw [if_neg h35_] at h14_
      obtain ⟨y36_, h37_, h14_⟩ := ob h14_
      suffices K38_ : Z Θ 2 0 0 (zQ Θ ρ) y36_ 104 [(0, .ref (zA Θ 0)), (1, .int p15_)] [] by
        refine z_aload_n C 0 dX12_feeds_70 rfl rfl ?_
        refine fg12_7 C hkd dX12_feeds_71 ?_
        refine z_iconst (v := 5) C dX12_feeds_74 ic_5 ?_
        obtain ⟨x41_, h42_, h37_⟩ := ob h37_
        refine z_ag C h42_ (kM_1 hkd) dX12_feeds_75 ?_
        have K39_ : x41_ = 0 → Z Θ 2 0 0 (zQ Θ ρ) σ16_ 79 [(0, .ref (zA Θ 0)), (1, .int p15_)] [] := by
          intro h44_
          rw [if_pos h44_] at h37_
          refine z_aload_n C 0 dX12_feeds_79 rfl rfl ?_
          refine z_iload_n C 1 dX12_feeds_80 rfl rfl ?_
          obtain ⟨x45_, h46_, h37_⟩ := ob h37_
          refine cr12_317 (p_a := p15_) C hkd  h46_ ⟨(Nat.le_of_ble_eq_true rfl), (Nat.le_of_ble_eq_true rfl)⟩ (Nat.le_of_ble_eq_true rfl) ⟨Nat.zero_le _, Nat.zero_le _⟩ dX12_feeds_81 ?_
          refine z_goto C 104 dX12_feeds_84 (by decide) ?_
          cases h37_
          exact K38_
        have K40_ : ¬ (x41_ = 0) → Z Θ 2 0 0 (zQ Θ ρ) σ16_ 87 [(0, .ref (zA Θ 0)), (1, .int p15_)] [] := by
          intro h44_
          rw [if_neg h44_] at h37_
          refine z_aload_n C 0 dX12_feeds_87 rfl rfl ?_
          refine fg12_7 C hkd dX12_feeds_88 ?_
          refine z_iconst (v := 5) C dX12_feeds_91 ic_5 ?_
          refine z_dup2 C dX12_feeds_92 rfl rfl ?_
          obtain ⟨x47_, h48_, h37_⟩ := ob h37_
          refine z_ag C h48_ (kM_1 hkd) dX12_feeds_93 ?_
          refine z_iconst (v := 1) C dX12_feeds_94 ic_1 ?_
          refine z_isub C dX12_feeds_95 ?_
          obtain ⟨σ49_, h50_, h37_⟩ := ob h37_
          refine z_sa C h50_ (kM_1 hkd) dX12_feeds_96 ?_
          refine z_aload_n C 0 dX12_feeds_97 rfl rfl ?_
          refine z_iload_n C 1 dX12_feeds_98 rfl rfl ?_
          refine z_iconst (v := 0) C dX12_feeds_99 ic_0 ?_
          refine z_iconst (v := 0) C dX12_feeds_100 ic_0 ?_
          obtain ⟨x51_, h52_, h37_⟩ := ob h37_
          refine cr12_135 (p_a := p15_) (what_a := 0) (v_a := 0) C hkd  h52_ ⟨(Nat.le_of_ble_eq_true rfl), (Nat.le_of_ble_eq_true rfl)⟩ (Nat.le_of_ble_eq_true rfl) ⟨Nat.zero_le _, Nat.zero_le _⟩ dX12_feeds_101 ?_
          cases h37_
          exact K38_
        refine c0_eq_f C 87 dX12_feeds_76 (by decide) (fun h43_ => ?_) (fun h43_ => ?_)
        · exact K39_ h43_
        · exact K40_ h43_
      exact K17_ _ _ h14_
    have K20_ : ¬ (p15_ < x21_) → Z Θ 2 0 0 (zQ Θ ρ) σ16_ 110 [(0, .ref (zA Θ 0)), (1, .int p15_)] [] := by
      intro h24_
      rw [if_neg h24_] at h14_
      cases h14_
      exact K11_
    refine c_lt_f C 110 dX12_feeds_44 (by decide) (fun h23_ => ?_) (fun h23_ => ?_)
    · exact K19_ h23_
    · exact K20_ h23_
  cases hf
  subst hρ
  exact z_vret C dX12_feeds_110
theorem c12_feeds {l : Launch} {kd : List KD} {w : Wp} {σ : St} (hkd : kd = kdM) (hi : zI kd w) {r : St} (hf : q12_feeds σ = some r) : zM l kd w yX12_feeds cX12_feeds 2 none rm12_feeds [.ref (w.2.2.1 0)] σ (none, r) := zM_of rfl hi (Nat.le_of_ble_eq_true rfl) (fun Θ _ hw C => by
  obtain ⟨Θ1, Θ2, Θ3, Θ4, Θ5⟩ := Θ
  cases hw
  exact p12_feeds C hkd  hf rfl)
/-! LastLoafModel.speaks -/
theorem w_9_65 : Cond.code ({ cls := "LastLoafModel", name := "those", desc := "(I)I" } : MethodName) prog_14_method_13_code (4 : Nat) (Option.some ClassFile.FieldType.int) ∈ TB := tb_in (lwt_9 (List.mem_of_getElem? (i := 65) (by decide +kernel))) rfl
theorem w_9_62 : Cond.methodLink "LastLoafModel" (266 : Nat) ({ cls := "LastLoafModel", name := "those", desc := "(I)I" } : MethodName) ∈ TB := tb_in (lwt_9 (List.mem_of_getElem? (i := 62) (by decide +kernel))) rfl
theorem w_9_64 : Cond.instanceMethod ({ cls := "LastLoafModel", name := "those", desc := "(I)I" } : MethodName) ∈ TB := tb_in (lwt_9 (List.mem_of_getElem? (i := 64) (by decide +kernel))) rfl
theorem ws_LastLoafModel_those_I_I : Cond.selects "LastLoafModel" (⟨"LastLoafModel", "those", "(I)I"⟩ : MethodName) (⟨"LastLoafModel", "those", "(I)I"⟩ : MethodName) ∈ TB := tb_in (List.mem_append_left _ (List.mem_of_getElem? (i := 45) (by decide +kernel))) rfl
theorem cr12_266 {Θ : Tz} {cc : ByteArray} {nL kc ks : Nat} {ret : Option FieldType} {rm : Room} {Q : State → Prop} {σ : St} {pc : Nat} {lv : List (Nat × Value)} {st : List Value} (C : Zc Θ cc nL RX12 ret rm) (hkd : Θ.2.2.2.2.1 = kdM) {what_a : Int32} {r : Int32} (hx : q12_those σ what_a = some r) (hrm : rm12_those.frames + 1 ≤ rm.frames ∧ 8 + (4 + 11) + rm12_those.locals ≤ rm.locals) (hcat : (st.map fun v => v.category).sum ≤ 8) (hk : kc ≤ rm.cells ∧ ks ≤ rm.slots) (hd : decode cc pc = .ok (.invokevirtual 266, 3)) (kk : Z Θ nL kc ks Q σ (pc + 3) lv (.int r :: st)) : Z Θ nL kc ks Q σ pc lv (.int what_a :: .ref (zA Θ 0) :: st) := z_callV C 0 [.int what_a] (some (.int r), σ) 1 (kM_0 hkd) rfl (c12_those (what_a := what_a) hkd (zc_inj C) hx) w_9_65 w_9_62 w_9_64 ws_LastLoafModel_those_I_I w_1_14 ⟨rfl, rfl, hrm.1, hrm.2⟩ (by decide +kernel) rfl rfl hcat hk hd kk
theorem w_9_205 : Cond.code ({ cls := "LastLoafModel", name := "draw", desc := "(I)I" } : MethodName) prog_14_method_57_code (2 : Nat) (Option.some ClassFile.FieldType.int) ∈ TB := tb_in (lwt_9 (List.mem_of_getElem? (i := 205) (by decide +kernel))) rfl
theorem w_9_202 : Cond.methodLink "LastLoafModel" (329 : Nat) ({ cls := "LastLoafModel", name := "draw", desc := "(I)I" } : MethodName) ∈ TB := tb_in (lwt_9 (List.mem_of_getElem? (i := 202) (by decide +kernel))) rfl
theorem w_9_204 : Cond.instanceMethod ({ cls := "LastLoafModel", name := "draw", desc := "(I)I" } : MethodName) ∈ TB := tb_in (lwt_9 (List.mem_of_getElem? (i := 204) (by decide +kernel))) rfl
theorem ws_LastLoafModel_draw_I_I : Cond.selects "LastLoafModel" (⟨"LastLoafModel", "draw", "(I)I"⟩ : MethodName) (⟨"LastLoafModel", "draw", "(I)I"⟩ : MethodName) ∈ TB := tb_in (List.mem_append_left _ (List.mem_of_getElem? (i := 73) (by decide +kernel))) rfl
theorem cr12_329 {Θ : Tz} {cc : ByteArray} {nL kc ks : Nat} {ret : Option FieldType} {rm : Room} {Q : State → Prop} {σ : St} {pc : Nat} {lv : List (Nat × Value)} {st : List Value} (C : Zc Θ cc nL RX12 ret rm) (hkd : Θ.2.2.2.2.1 = kdM) {n_a : Int32} {r : Int32 × St} (hx : q12_draw σ n_a = some r) (hrm : rm12_draw.frames + 1 ≤ rm.frames ∧ 8 + (2 + 11) + rm12_draw.locals ≤ rm.locals) (hcat : (st.map fun v => v.category).sum ≤ 8) (hk : kc ≤ rm.cells ∧ ks ≤ rm.slots) (hd : decode cc pc = .ok (.invokevirtual 329, 3)) (kk : Z Θ nL kc ks Q r.2 (pc + 3) lv (.int r.1 :: st)) : Z Θ nL kc ks Q σ pc lv (.int n_a :: .ref (zA Θ 0) :: st) := z_callV C 0 [.int n_a] (some (.int r.1), r.2) 1 (kM_0 hkd) rfl (c12_draw (n_a := n_a) hkd (zc_inj C) hx) w_9_205 w_9_202 w_9_204 ws_LastLoafModel_draw_I_I w_1_14 ⟨rfl, rfl, hrm.1, hrm.2⟩ (by decide +kernel) rfl rfl hcat hk hd kk
theorem dX12_speaks_0 : decode cX12_speaks 0 = .ok (.aload_n 0, 1) := by decide +kernel
theorem dX12_speaks_1 : decode cX12_speaks 1 = .ok (.iconst 3, 1) := by decide +kernel
theorem dX12_speaks_2 : decode cX12_speaks 2 = .ok (.invokevirtual 266, 3) := by decide +kernel
theorem dX12_speaks_5 : decode cX12_speaks 5 = .ok (.aload_n 0, 1) := by decide +kernel
theorem dX12_speaks_6 : decode cX12_speaks 6 = .ok (.iconst 4, 1) := by decide +kernel
theorem dX12_speaks_7 : decode cX12_speaks 7 = .ok (.invokevirtual 266, 3) := by decide +kernel
theorem dX12_speaks_10 : decode cX12_speaks 10 = .ok (.iconst (-1), 1) := by decide +kernel
theorem dX12_speaks_11 : decode cX12_speaks 11 = .ok (.ixor, 1) := by decide +kernel
theorem dX12_speaks_12 : decode cX12_speaks 12 = .ok (.iand, 1) := by decide +kernel
theorem dX12_speaks_13 : decode cX12_speaks 13 = .ok (.istore_n 1, 1) := by decide +kernel
theorem dX12_speaks_14 : decode cX12_speaks 14 = .ok (.aload_n 0, 1) := by decide +kernel
theorem dX12_speaks_15 : decode cX12_speaks 15 = .ok (.bipush 100, 2) := by decide +kernel
theorem dX12_speaks_17 : decode cX12_speaks 17 = .ok (.invokevirtual 329, 3) := by decide +kernel
theorem dX12_speaks_20 : decode cX12_speaks 20 = .ok (.aload_n 0, 1) := by decide +kernel
theorem dX12_speaks_21 : decode cX12_speaks 21 = .ok (.getfield 7, 3) := by decide +kernel
theorem dX12_speaks_24 : decode cX12_speaks 24 = .ok (.bipush 7, 2) := by decide +kernel
theorem dX12_speaks_26 : decode cX12_speaks 26 = .ok (.iaload, 1) := by decide +kernel
theorem dX12_speaks_27 : decode cX12_speaks 27 = .ok (.if_icmp .ge 7, 3) := by decide +kernel
theorem dX12_speaks_30 : decode cX12_speaks 30 = .ok (.iload_n 1, 1) := by decide +kernel
theorem dX12_speaks_31 : decode cX12_speaks 31 = .ok (.ifCond .ne 4, 3) := by decide +kernel
theorem dX12_speaks_34 : decode cX12_speaks 34 = .ok (.return_, 1) := by decide +kernel
theorem dX12_speaks_35 : decode cX12_speaks 35 = .ok (.aload_n 0, 1) := by decide +kernel
theorem dX12_speaks_36 : decode cX12_speaks 36 = .ok (.iload_n 1, 1) := by decide +kernel
theorem dX12_speaks_37 : decode cX12_speaks 37 = .ok (.invokestatic 286, 3) := by decide +kernel
theorem dX12_speaks_40 : decode cX12_speaks 40 = .ok (.invokevirtual 329, 3) := by decide +kernel
theorem dX12_speaks_43 : decode cX12_speaks 43 = .ok (.istore_n 2, 1) := by decide +kernel
theorem dX12_speaks_44 : decode cX12_speaks 44 = .ok (.iconst (-1), 1) := by decide +kernel
theorem dX12_speaks_45 : decode cX12_speaks 45 = .ok (.istore_n 3, 1) := by decide +kernel
theorem dX12_speaks_46 : decode cX12_speaks 46 = .ok (.aload_n 0, 1) := by decide +kernel
theorem dX12_speaks_47 : decode cX12_speaks 47 = .ok (.getfield 7, 3) := by decide +kernel
theorem dX12_speaks_50 : decode cX12_speaks 50 = .ok (.iconst 3, 1) := by decide +kernel
theorem dX12_speaks_51 : decode cX12_speaks 51 = .ok (.iaload, 1) := by decide +kernel
theorem dX12_speaks_52 : decode cX12_speaks 52 = .ok (.iconst 1, 1) := by decide +kernel
theorem dX12_speaks_53 : decode cX12_speaks 53 = .ok (.isub, 1) := by decide +kernel
theorem dX12_speaks_54 : decode cX12_speaks 54 = .ok (.istore 4, 2) := by decide +kernel
theorem dX12_speaks_56 : decode cX12_speaks 56 = .ok (.iload 4, 2) := by decide +kernel
theorem dX12_speaks_58 : decode cX12_speaks 58 = .ok (.ifCond .lt 36, 3) := by decide +kernel
theorem dX12_speaks_61 : decode cX12_speaks 61 = .ok (.iload_n 1, 1) := by decide +kernel
theorem dX12_speaks_62 : decode cX12_speaks 62 = .ok (.iload 4, 2) := by decide +kernel
theorem dX12_speaks_64 : decode cX12_speaks 64 = .ok (.invokestatic 275, 3) := by decide +kernel
theorem dX12_speaks_67 : decode cX12_speaks 67 = .ok (.ifCond .eq 21, 3) := by decide +kernel
theorem dX12_speaks_70 : decode cX12_speaks 70 = .ok (.iload_n 1, 1) := by decide +kernel
theorem dX12_speaks_71 : decode cX12_speaks 71 = .ok (.iconst 1, 1) := by decide +kernel
theorem dX12_speaks_72 : decode cX12_speaks 72 = .ok (.iload 4, 2) := by decide +kernel
theorem dX12_speaks_74 : decode cX12_speaks 74 = .ok (.ishl, 1) := by decide +kernel
theorem dX12_speaks_75 : decode cX12_speaks 75 = .ok (.iconst 1, 1) := by decide +kernel
theorem dX12_speaks_76 : decode cX12_speaks 76 = .ok (.isub, 1) := by decide +kernel
theorem dX12_speaks_77 : decode cX12_speaks 77 = .ok (.iand, 1) := by decide +kernel
theorem dX12_speaks_78 : decode cX12_speaks 78 = .ok (.invokestatic 286, 3) := by decide +kernel
theorem dX12_speaks_81 : decode cX12_speaks 81 = .ok (.iload_n 2, 1) := by decide +kernel
theorem dX12_speaks_82 : decode cX12_speaks 82 = .ok (.if_icmp .ne 6, 3) := by decide +kernel
theorem dX12_speaks_85 : decode cX12_speaks 85 = .ok (.iload 4, 2) := by decide +kernel
theorem dX12_speaks_87 : decode cX12_speaks 87 = .ok (.istore_n 3, 1) := by decide +kernel
theorem dX12_speaks_88 : decode cX12_speaks 88 = .ok (.iinc 4 (-1), 3) := by decide +kernel
theorem dX12_speaks_91 : decode cX12_speaks 91 = .ok (.goto (-35), 3) := by decide +kernel
theorem dX12_speaks_94 : decode cX12_speaks 94 = .ok (.iconst 0, 1) := by decide +kernel
theorem dX12_speaks_95 : decode cX12_speaks 95 = .ok (.istore 4, 2) := by decide +kernel
theorem dX12_speaks_97 : decode cX12_speaks 97 = .ok (.iload 4, 2) := by decide +kernel
theorem dX12_speaks_99 : decode cX12_speaks 99 = .ok (.aload_n 0, 1) := by decide +kernel
theorem dX12_speaks_100 : decode cX12_speaks 100 = .ok (.getfield 7, 3) := by decide +kernel
theorem dX12_speaks_103 : decode cX12_speaks 103 = .ok (.iconst 3, 1) := by decide +kernel
theorem dX12_speaks_104 : decode cX12_speaks 104 = .ok (.iaload, 1) := by decide +kernel
theorem dX12_speaks_105 : decode cX12_speaks 105 = .ok (.if_icmp .ge 52, 3) := by decide +kernel
theorem dX12_speaks_108 : decode cX12_speaks 108 = .ok (.iload 4, 2) := by decide +kernel
theorem dX12_speaks_110 : decode cX12_speaks 110 = .ok (.iload_n 3, 1) := by decide +kernel
theorem dX12_speaks_111 : decode cX12_speaks 111 = .ok (.if_icmp .eq 40, 3) := by decide +kernel
theorem dX12_speaks_114 : decode cX12_speaks 114 = .ok (.aload_n 0, 1) := by decide +kernel
theorem dX12_speaks_115 : decode cX12_speaks 115 = .ok (.getfield 7, 3) := by decide +kernel
theorem dX12_speaks_118 : decode cX12_speaks 118 = .ok (.bipush 63, 2) := by decide +kernel
theorem dX12_speaks_120 : decode cX12_speaks 120 = .ok (.bipush 7, 2) := by decide +kernel
theorem dX12_speaks_122 : decode cX12_speaks 122 = .ok (.iload 4, 2) := by decide +kernel
theorem dX12_speaks_124 : decode cX12_speaks 124 = .ok (.imul, 1) := by decide +kernel
theorem dX12_speaks_125 : decode cX12_speaks 125 = .ok (.iadd, 1) := by decide +kernel
theorem dX12_speaks_126 : decode cX12_speaks 126 = .ok (.iload_n 3, 1) := by decide +kernel
theorem dX12_speaks_127 : decode cX12_speaks 127 = .ok (.iadd, 1) := by decide +kernel
theorem dX12_speaks_128 : decode cX12_speaks 128 = .ok (.bipush 9, 2) := by decide +kernel
theorem dX12_speaks_130 : decode cX12_speaks 130 = .ok (.aload_n 0, 1) := by decide +kernel
theorem dX12_speaks_131 : decode cX12_speaks 131 = .ok (.getfield 7, 3) := by decide +kernel
theorem dX12_speaks_134 : decode cX12_speaks 134 = .ok (.bipush 63, 2) := by decide +kernel
theorem dX12_speaks_136 : decode cX12_speaks 136 = .ok (.bipush 7, 2) := by decide +kernel
theorem dX12_speaks_138 : decode cX12_speaks 138 = .ok (.iload 4, 2) := by decide +kernel
theorem dX12_speaks_140 : decode cX12_speaks 140 = .ok (.imul, 1) := by decide +kernel
theorem dX12_speaks_141 : decode cX12_speaks 141 = .ok (.iadd, 1) := by decide +kernel
theorem dX12_speaks_142 : decode cX12_speaks 142 = .ok (.iload_n 3, 1) := by decide +kernel
theorem dX12_speaks_143 : decode cX12_speaks 143 = .ok (.iadd, 1) := by decide +kernel
theorem dX12_speaks_144 : decode cX12_speaks 144 = .ok (.iaload, 1) := by decide +kernel
theorem dX12_speaks_145 : decode cX12_speaks 145 = .ok (.iconst 1, 1) := by decide +kernel
theorem dX12_speaks_146 : decode cX12_speaks 146 = .ok (.iadd, 1) := by decide +kernel
theorem dX12_speaks_147 : decode cX12_speaks 147 = .ok (.invokestatic 313, 3) := by decide +kernel
theorem dX12_speaks_150 : decode cX12_speaks 150 = .ok (.iastore, 1) := by decide +kernel
theorem dX12_speaks_151 : decode cX12_speaks 151 = .ok (.iinc 4 1, 3) := by decide +kernel
theorem dX12_speaks_154 : decode cX12_speaks 154 = .ok (.goto (-57), 3) := by decide +kernel
theorem dX12_speaks_157 : decode cX12_speaks 157 = .ok (.return_, 1) := by decide +kernel
def q12_speaks (σ : St) : Option St :=
  Option.bind (q12_those σ 3) fun x1_ =>
  Option.bind (q12_those σ 4) fun x3_ =>
  lt (x1_ &&& (x3_ ^^^ (-1))) fun set5_ =>
  Option.bind (q12_draw σ 100) fun x9_ =>
  Option.bind (ag x9_.2 1 752 7) fun x11_ =>
  if (x11_ ≤ x9_.1) ∨ (set5_ = 0) then (some x9_.2) else
  Option.bind (q12_bits set5_) fun x16_ =>
  Option.bind (q12_draw x9_.2 x16_) fun x18_ =>
  Option.bind (ag x18_.2 1 752 3) fun x20_ =>
  lt (x20_ - 1) fun p22_ =>
  Option.bind (loop2 (fun rec27_ (who30_ : Int32) (p31_ : Int32) =>
  if 0 ≤ p31_ then
  Option.bind (Option.bind (if q12_isOf set5_ p31_ = true then (Option.bind (q12_bits (set5_ &&& ((shl 1 p31_) - 1))) fun x46_ =>
  if x46_ = x18_.1 then (some true) else (some false)) else (some false)) fun t43_ =>
  if t43_ = true then (some (p31_)) else (some (who30_))) fun y38_ =>
  lt (p31_ + (-1)) fun p50_ =>
  rec27_ y38_ p50_
  else (some (who30_, p31_))) fuelN (-1) p22_) fun y24_ =>
  Option.bind (loop2 (fun rec55_ (p58_ : Int32) (σ59_ : St) =>
  Option.bind (ag σ59_ 1 752 3) fun x64_ =>
  if p58_ < x64_ then
  Option.bind (if ¬ p58_ = y24_.1 then (Option.bind (ag σ59_ 1 752 ((63 + (7 * p58_)) + y24_.1)) fun x75_ =>
  Option.bind (sa σ59_ 1 752 ((63 + (7 * p58_)) + y24_.1) (q12_lesser 9 (x75_ + 1))) fun σ77_ =>
  some (σ77_)) else (some (σ59_))) fun y68_ =>
  lt (p58_ + 1) fun p79_ =>
  rec55_ p79_ y68_
  else (some (p58_, σ59_))) fuelN 0 x18_.2) fun y52_ =>
  some y52_.2
abbrev rm12_speaks : Room := { frames := 2, cells := 0, slots := 0, locals := 45 }
set_option maxHeartbeats 4000000 in
set_option maxRecDepth 100000 in
theorem p12_speaks {Θ : Tz} {σ : St} {ρ : Option Value × St} (C : Zc Θ cX12_speaks 5 RX12 none rm12_speaks) (hkd : Θ.2.2.2.2.1 = kdM) {r : St} (hf : q12_speaks σ = some r) (hρ : ρ = (none, r)) : Z Θ 5 0 0 (zQ Θ ρ) σ 0 [(0, .ref (zA Θ 0))] [] := by
  unfold q12_speaks at hf
  refine z_aload_n C 0 dX12_speaks_0 rfl rfl ?_
  refine z_iconst (v := 3) C dX12_speaks_1 ic_3 ?_
  obtain ⟨x1_, h2_, hf⟩ := ob hf
  refine cr12_266 (what_a := 3) C hkd  h2_ ⟨(Nat.le_of_ble_eq_true rfl), (Nat.le_of_ble_eq_true rfl)⟩ (Nat.le_of_ble_eq_true rfl) ⟨Nat.zero_le _, Nat.zero_le _⟩ dX12_speaks_2 ?_
  refine z_aload_n C 0 dX12_speaks_5 rfl rfl ?_
  refine z_iconst (v := 4) C dX12_speaks_6 ic_4 ?_
  obtain ⟨x3_, h4_, hf⟩ := ob hf
  refine cr12_266 (what_a := 4) C hkd  h4_ ⟨(Nat.le_of_ble_eq_true rfl), (Nat.le_of_ble_eq_true rfl)⟩ (Nat.le_of_ble_eq_true rfl) ⟨Nat.zero_le _, Nat.zero_le _⟩ dX12_speaks_7 ?_
  refine z_iconst (v := (-1)) C dX12_speaks_10 ic_m1 ?_
  refine z_ixor C dX12_speaks_11 ?_
  refine z_iand C dX12_speaks_12 ?_
  obtain ⟨set5_, h6_, hf⟩ := lt_ hf
  refine z_istN C dX12_speaks_13 h6_ rfl (Nat.le_of_ble_eq_true rfl) rfl ?_
  refine z_aload_n C 1 dX12_speaks_14 rfl rfl ?_
  refine z_bipush (v := 100) C dX12_speaks_15 bp_100 ?_
  obtain ⟨x9_, h10_, hf⟩ := ob hf
  refine cr12_329 (n_a := 100) C hkd  h10_ ⟨(Nat.le_of_ble_eq_true rfl), (Nat.le_of_ble_eq_true rfl)⟩ (Nat.le_of_ble_eq_true rfl) ⟨Nat.zero_le _, Nat.zero_le _⟩ dX12_speaks_17 ?_
  refine z_aload_n C 1 dX12_speaks_20 rfl rfl ?_
  refine fg12_7 C hkd dX12_speaks_21 ?_
  refine z_bipush (v := 7) C dX12_speaks_24 bp_7 ?_
  obtain ⟨x11_, h12_, hf⟩ := ob hf
  refine z_ag C h12_ (kM_1 hkd) dX12_speaks_26 ?_
  have K7_ : (x11_ ≤ x9_.1) ∨ (set5_ = 0) → Z Θ 5 0 0 (zQ Θ ρ) x9_.2 34 [(1, .int set5_), (0, .ref (zA Θ 0))] [] := by
    intro h15_
    rw [if_pos h15_] at hf
    cases hf
    subst hρ
    exact z_vret C dX12_speaks_34
  suffices K8_ : ¬ ((x11_ ≤ x9_.1) ∨ (set5_ = 0)) → Z Θ 5 0 0 (zQ Θ ρ) x9_.2 35 [(1, .int set5_), (0, .ref (zA Θ 0))] [] by
    refine c_ge_t C 34 dX12_speaks_27 (by decide) (fun h13_ => ?_) (fun h13_ => ?_)
    · exact K7_ (Or.inl h13_)
    · refine z_iload_n C 0 dX12_speaks_30 rfl rfl ?_
      refine c0_eq_f C 35 dX12_speaks_31 (by decide) (fun h14_ => ?_) (fun h14_ => ?_)
      · exact K7_ (Or.inr h14_)
      · exact K8_ (fun n => n.elim h13_ h14_)
  intro h15_
  rw [if_neg h15_] at hf
  refine z_aload_n C 1 dX12_speaks_35 rfl rfl ?_
  refine z_iload_n C 0 dX12_speaks_36 rfl rfl ?_
  obtain ⟨x16_, h17_, hf⟩ := ob hf
  refine cr12_286 (set_a := set5_) C hkd  h17_ ⟨(Nat.le_of_ble_eq_true rfl), (Nat.le_of_ble_eq_true rfl)⟩ (Nat.le_of_ble_eq_true rfl) ⟨Nat.zero_le _, Nat.zero_le _⟩ dX12_speaks_37 ?_
  obtain ⟨x18_, h19_, hf⟩ := ob hf
  refine cr12_329 (n_a := x16_) C hkd  h19_ ⟨(Nat.le_of_ble_eq_true rfl), (Nat.le_of_ble_eq_true rfl)⟩ (Nat.le_of_ble_eq_true rfl) ⟨Nat.zero_le _, Nat.zero_le _⟩ dX12_speaks_40 ?_
  refine z_istN C dX12_speaks_43 rfl rfl (Nat.le_of_ble_eq_true rfl) rfl ?_
  refine z_iconst (v := (-1)) C dX12_speaks_44 ic_m1 ?_
  refine z_istN C dX12_speaks_45 rfl rfl (Nat.le_of_ble_eq_true rfl) rfl ?_
  refine z_aload_n C 3 dX12_speaks_46 rfl rfl ?_
  refine fg12_7 C hkd dX12_speaks_47 ?_
  refine z_iconst (v := 3) C dX12_speaks_50 ic_3 ?_
  obtain ⟨x20_, h21_, hf⟩ := ob hf
  refine z_ag C h21_ (kM_1 hkd) dX12_speaks_51 ?_
  refine z_iconst (v := 1) C dX12_speaks_52 ic_1 ?_
  refine z_isub C dX12_speaks_53 ?_
  obtain ⟨p22_, h23_, hf⟩ := lt_ hf
  refine z_ist C dX12_speaks_54 h23_ (Nat.le_of_ble_eq_true rfl) rfl ?_
  refine Z.sub [4, 3, 2, 1, 0] rfl ?_
  obtain ⟨y24_, h25_, hf⟩ := ob hf
  suffices K26_ : Z Θ 5 0 0 (zQ Θ ρ) x18_.2 94 [(0, .ref (zA Θ 0)), (1, .int set5_), (2, .int x18_.1), (3, .int y24_.1), (4, .int y24_.2)] [] by
    refine loop2_Z (P := fun (who30_ : Int32) (p31_ : Int32) => Z Θ 5 0 0 (zQ Θ ρ) x18_.2 56 [(0, .ref (zA Θ 0)), (1, .int set5_), (2, .int x18_.1), (3, .int who30_), (4, .int p31_)] []) ?_ fuelN (-1) p22_ h25_
    clear h25_
    intro rec27_ who30_ p31_ h28_ h29_
    have K34_ : 0 ≤ p31_ → Z Θ 5 0 0 (zQ Θ ρ) x18_.2 61 [(0, .ref (zA Θ 0)), (1, .int set5_), (2, .int x18_.1), (3, .int who30_), (4, .int p31_)] [] := by
      intro h37_
      rw [if_pos h37_] at h29_
      obtain ⟨y38_, h39_, h29_⟩ := ob h29_
      suffices K40_ : Z Θ 5 0 0 (zQ Θ ρ) x18_.2 88 [(0, .ref (zA Θ 0)), (1, .int set5_), (2, .int x18_.1), (3, .int y38_), (4, .int p31_)] [] by
        obtain ⟨t43_, h44_, h39_⟩ := ob h39_
        have K41_ : t43_ = true → Z Θ 5 0 0 (zQ Θ ρ) x18_.2 85 [(0, .ref (zA Θ 0)), (1, .int set5_), (2, .int x18_.1), (3, .int who30_), (4, .int p31_)] [] := by
          intro h49_
          rw [if_pos h49_] at h39_
          refine z_iload C 4 dX12_speaks_85 rfl ?_
          refine z_istN C dX12_speaks_87 rfl rfl (Nat.le_of_ble_eq_true rfl) rfl ?_
          cases h39_
          refine Z.sub [1, 2, 3, 0, 4] rfl ?_
          exact K40_
        have K42_ : ¬ (t43_ = true) → Z Θ 5 0 0 (zQ Θ ρ) x18_.2 88 [(0, .ref (zA Θ 0)), (1, .int set5_), (2, .int x18_.1), (3, .int who30_), (4, .int p31_)] [] := by
          intro h49_
          rw [if_neg h49_] at h39_
          cases h39_
          exact K40_
        refine z_iload_n C 1 dX12_speaks_61 rfl rfl ?_
        refine z_iload C 4 dX12_speaks_62 rfl ?_
        refine cr12_275 (set_a := set5_) (k_a := p31_) C hkd  ⟨(Nat.le_of_ble_eq_true rfl), (Nat.le_of_ble_eq_true rfl)⟩ (Nat.le_of_ble_eq_true rfl) ⟨Nat.zero_le _, Nat.zero_le _⟩ dX12_speaks_64 ?_
        refine cb_f C 88 dX12_speaks_67 (by decide) (fun h45_ => ?_) (fun h45_ => ?_)
        · rw [if_pos h45_] at h44_
          refine z_iload_n C 1 dX12_speaks_70 rfl rfl ?_
          refine z_iconst (v := 1) C dX12_speaks_71 ic_1 ?_
          refine z_iload C 4 dX12_speaks_72 rfl ?_
          refine z_shl C dX12_speaks_74 ?_
          refine z_iconst (v := 1) C dX12_speaks_75 ic_1 ?_
          refine z_isub C dX12_speaks_76 ?_
          refine z_iand C dX12_speaks_77 ?_
          obtain ⟨x46_, h47_, h44_⟩ := ob h44_
          refine cr12_286 (set_a := (set5_ &&& ((shl 1 p31_) - 1))) C hkd  h47_ ⟨(Nat.le_of_ble_eq_true rfl), (Nat.le_of_ble_eq_true rfl)⟩ (Nat.le_of_ble_eq_true rfl) ⟨Nat.zero_le _, Nat.zero_le _⟩ dX12_speaks_78 ?_
          refine z_iload_n C 2 dX12_speaks_81 rfl rfl ?_
          refine c_eq_f C 88 dX12_speaks_82 (by decide) (fun h48_ => ?_) (fun h48_ => ?_)
          · rw [if_pos h48_] at h44_
            cases h44_
            exact K41_ rfl
          · rw [if_neg h48_] at h44_
            cases h44_
            exact K42_ Bool.false_ne_true
        · rw [if_neg h45_] at h44_
          cases h44_
          exact K42_ Bool.false_ne_true
      obtain ⟨p50_, h51_, h29_⟩ := lt_ h29_
      refine z_inc C 4 dX12_speaks_88 rfl ic_m1 h51_ (Nat.le_of_ble_eq_true rfl) rfl ?_
      refine z_goto C 56 dX12_speaks_91 (by decide) ?_
      refine Z.sub [1, 2, 3, 4, 0] rfl ?_
      exact h28_ _ _ h29_
    have K35_ : ¬ (0 ≤ p31_) → Z Θ 5 0 0 (zQ Θ ρ) x18_.2 94 [(0, .ref (zA Θ 0)), (1, .int set5_), (2, .int x18_.1), (3, .int who30_), (4, .int p31_)] [] := by
      intro h37_
      rw [if_neg h37_] at h29_
      cases h29_
      exact K26_
    refine z_iload C 4 dX12_speaks_56 rfl ?_
    refine c0_ge_f C 94 dX12_speaks_58 (by decide) (fun h36_ => ?_) (fun h36_ => ?_)
    · exact K34_ h36_
    · exact K35_ h36_
  refine z_iconst (v := 0) C dX12_speaks_94 ic_0 ?_
  refine z_ist C dX12_speaks_95 rfl (Nat.le_of_ble_eq_true rfl) rfl ?_
  refine Z.sub [1, 2, 3, 4, 0] rfl ?_
  obtain ⟨y52_, h53_, hf⟩ := ob hf
  suffices K54_ : Z Θ 5 0 0 (zQ Θ ρ) y52_.2 157 [(0, .ref (zA Θ 0)), (1, .int set5_), (2, .int x18_.1), (3, .int y24_.1), (4, .int y52_.1)] [] by
    refine loop2_Z (P := fun (p58_ : Int32) (σ59_ : St) => Z Θ 5 0 0 (zQ Θ ρ) σ59_ 97 [(0, .ref (zA Θ 0)), (1, .int set5_), (2, .int x18_.1), (3, .int y24_.1), (4, .int p58_)] []) ?_ fuelN 0 x18_.2 h53_
    clear h53_
    intro rec55_ p58_ σ59_ h56_ h57_
    refine z_iload C 4 dX12_speaks_97 rfl ?_
    refine z_aload_n C 0 dX12_speaks_99 rfl rfl ?_
    refine fg12_7 C hkd dX12_speaks_100 ?_
    refine z_iconst (v := 3) C dX12_speaks_103 ic_3 ?_
    obtain ⟨x64_, h65_, h57_⟩ := ob h57_
    refine z_ag C h65_ (kM_1 hkd) dX12_speaks_104 ?_
    have K62_ : p58_ < x64_ → Z Θ 5 0 0 (zQ Θ ρ) σ59_ 108 [(0, .ref (zA Θ 0)), (1, .int set5_), (2, .int x18_.1), (3, .int y24_.1), (4, .int p58_)] [] := by
      intro h67_
      rw [if_pos h67_] at h57_
      obtain ⟨y68_, h69_, h57_⟩ := ob h57_
      suffices K70_ : Z Θ 5 0 0 (zQ Θ ρ) y68_ 151 [(0, .ref (zA Θ 0)), (1, .int set5_), (2, .int x18_.1), (3, .int y24_.1), (4, .int p58_)] [] by
        have K71_ : ¬ p58_ = y24_.1 → Z Θ 5 0 0 (zQ Θ ρ) σ59_ 114 [(0, .ref (zA Θ 0)), (1, .int set5_), (2, .int x18_.1), (3, .int y24_.1), (4, .int p58_)] [] := by
          intro h74_
          rw [if_pos h74_] at h69_
          refine z_aload_n C 0 dX12_speaks_114 rfl rfl ?_
          refine fg12_7 C hkd dX12_speaks_115 ?_
          refine z_bipush (v := 63) C dX12_speaks_118 bp_63 ?_
          refine z_bipush (v := 7) C dX12_speaks_120 bp_7 ?_
          refine z_iload C 4 dX12_speaks_122 rfl ?_
          refine z_imul C dX12_speaks_124 ?_
          refine z_iadd C dX12_speaks_125 ?_
          refine z_iload_n C 3 dX12_speaks_126 rfl rfl ?_
          refine z_iadd C dX12_speaks_127 ?_
          refine z_bipush (v := 9) C dX12_speaks_128 bp_9 ?_
          refine z_aload_n C 0 dX12_speaks_130 rfl rfl ?_
          refine fg12_7 C hkd dX12_speaks_131 ?_
          refine z_bipush (v := 63) C dX12_speaks_134 bp_63 ?_
          refine z_bipush (v := 7) C dX12_speaks_136 bp_7 ?_
          refine z_iload C 4 dX12_speaks_138 rfl ?_
          refine z_imul C dX12_speaks_140 ?_
          refine z_iadd C dX12_speaks_141 ?_
          refine z_iload_n C 3 dX12_speaks_142 rfl rfl ?_
          refine z_iadd C dX12_speaks_143 ?_
          obtain ⟨x75_, h76_, h69_⟩ := ob h69_
          refine z_ag C h76_ (kM_1 hkd) dX12_speaks_144 ?_
          refine z_iconst (v := 1) C dX12_speaks_145 ic_1 ?_
          refine z_iadd C dX12_speaks_146 ?_
          refine cr12_313 (a_a := 9) (b_a := (x75_ + 1)) C hkd  ⟨(Nat.le_of_ble_eq_true rfl), (Nat.le_of_ble_eq_true rfl)⟩ (Nat.le_of_ble_eq_true rfl) ⟨Nat.zero_le _, Nat.zero_le _⟩ dX12_speaks_147 ?_
          obtain ⟨σ77_, h78_, h69_⟩ := ob h69_
          refine z_sa C h78_ (kM_1 hkd) dX12_speaks_150 ?_
          cases h69_
          exact K70_
        have K72_ : ¬ (¬ p58_ = y24_.1) → Z Θ 5 0 0 (zQ Θ ρ) σ59_ 151 [(0, .ref (zA Θ 0)), (1, .int set5_), (2, .int x18_.1), (3, .int y24_.1), (4, .int p58_)] [] := by
          intro h74_
          rw [if_neg h74_] at h69_
          cases h69_
          exact K70_
        refine z_iload C 4 dX12_speaks_108 rfl ?_
        refine z_iload_n C 3 dX12_speaks_110 rfl rfl ?_
        refine c_ne_f C 151 dX12_speaks_111 (by decide) (fun h73_ => ?_) (fun h73_ => ?_)
        · exact K71_ h73_
        · exact K72_ h73_
      obtain ⟨p79_, h80_, h57_⟩ := lt_ h57_
      refine z_inc C 4 dX12_speaks_151 rfl ic_1 h80_ (Nat.le_of_ble_eq_true rfl) rfl ?_
      refine z_goto C 97 dX12_speaks_154 (by decide) ?_
      refine Z.sub [1, 2, 3, 4, 0] rfl ?_
      exact h56_ _ _ h57_
    have K63_ : ¬ (p58_ < x64_) → Z Θ 5 0 0 (zQ Θ ρ) σ59_ 157 [(0, .ref (zA Θ 0)), (1, .int set5_), (2, .int x18_.1), (3, .int y24_.1), (4, .int p58_)] [] := by
      intro h67_
      rw [if_neg h67_] at h57_
      cases h57_
      exact K54_
    refine c_lt_f C 157 dX12_speaks_105 (by decide) (fun h66_ => ?_) (fun h66_ => ?_)
    · exact K62_ h66_
    · exact K63_ h66_
  cases hf
  subst hρ
  exact z_vret C dX12_speaks_157
theorem c12_speaks {l : Launch} {kd : List KD} {w : Wp} {σ : St} (hkd : kd = kdM) (hi : zI kd w) {r : St} (hf : q12_speaks σ = some r) : zM l kd w yX12_speaks cX12_speaks 5 none rm12_speaks [.ref (w.2.2.1 0)] σ (none, r) := zM_of rfl hi (Nat.le_of_ble_eq_true rfl) (fun Θ _ hw C => by
  obtain ⟨Θ1, Θ2, Θ3, Θ4, Θ5⟩ := Θ
  cases hw
  exact p12_speaks C hkd  hf rfl)
/-! LastLoafModel.sumOf -/
theorem dX12_sumOf_0 : decode cX12_sumOf 0 = .ok (.iconst 0, 1) := by decide +kernel
theorem dX12_sumOf_1 : decode cX12_sumOf 1 = .ok (.istore_n 2, 1) := by decide +kernel
theorem dX12_sumOf_2 : decode cX12_sumOf 2 = .ok (.iconst 0, 1) := by decide +kernel
theorem dX12_sumOf_3 : decode cX12_sumOf 3 = .ok (.istore_n 3, 1) := by decide +kernel
theorem dX12_sumOf_4 : decode cX12_sumOf 4 = .ok (.iload_n 3, 1) := by decide +kernel
theorem dX12_sumOf_5 : decode cX12_sumOf 5 = .ok (.aload_n 0, 1) := by decide +kernel
theorem dX12_sumOf_6 : decode cX12_sumOf 6 = .ok (.getfield 7, 3) := by decide +kernel
theorem dX12_sumOf_9 : decode cX12_sumOf 9 = .ok (.iconst 3, 1) := by decide +kernel
theorem dX12_sumOf_10 : decode cX12_sumOf 10 = .ok (.iaload, 1) := by decide +kernel
theorem dX12_sumOf_11 : decode cX12_sumOf 11 = .ok (.if_icmp .ge 18, 3) := by decide +kernel
theorem dX12_sumOf_14 : decode cX12_sumOf 14 = .ok (.iload_n 2, 1) := by decide +kernel
theorem dX12_sumOf_15 : decode cX12_sumOf 15 = .ok (.aload_n 0, 1) := by decide +kernel
theorem dX12_sumOf_16 : decode cX12_sumOf 16 = .ok (.iload_n 3, 1) := by decide +kernel
theorem dX12_sumOf_17 : decode cX12_sumOf 17 = .ok (.iload_n 1, 1) := by decide +kernel
theorem dX12_sumOf_18 : decode cX12_sumOf 18 = .ok (.invokevirtual 72, 3) := by decide +kernel
theorem dX12_sumOf_21 : decode cX12_sumOf 21 = .ok (.iadd, 1) := by decide +kernel
theorem dX12_sumOf_22 : decode cX12_sumOf 22 = .ok (.istore_n 2, 1) := by decide +kernel
theorem dX12_sumOf_23 : decode cX12_sumOf 23 = .ok (.iinc 3 1, 3) := by decide +kernel
theorem dX12_sumOf_26 : decode cX12_sumOf 26 = .ok (.goto (-22), 3) := by decide +kernel
theorem dX12_sumOf_29 : decode cX12_sumOf 29 = .ok (.iload_n 2, 1) := by decide +kernel
theorem dX12_sumOf_30 : decode cX12_sumOf 30 = .ok (.ireturn, 1) := by decide +kernel
def q12_sumOf (σ : St) (what_a : Int32) : Option Int32 :=
  Option.bind (loop2 (fun rec4_ (n7_ : Int32) (p8_ : Int32) =>
  Option.bind (ag σ 1 752 3) fun x13_ =>
  if p8_ < x13_ then
  Option.bind (q12_of σ p8_ what_a) fun x17_ =>
  lt (n7_ + x17_) fun n19_ =>
  lt (p8_ + 1) fun p21_ =>
  rec4_ n19_ p21_
  else (some (n7_, p8_))) fuelN 0 0) fun y1_ =>
  some y1_.1
abbrev rm12_sumOf : Room := { frames := 1, cells := 0, slots := 0, locals := 22 }
set_option maxHeartbeats 4000000 in
set_option maxRecDepth 100000 in
theorem p12_sumOf {Θ : Tz} {σ : St} {ρ : Option Value × St} (C : Zc Θ cX12_sumOf 4 RX12 (some .int) rm12_sumOf) (hkd : Θ.2.2.2.2.1 = kdM) {what_a : Int32} {r : Int32} (hf : q12_sumOf σ what_a = some r) (hρ : ρ = (some (.int r), σ)) : Z Θ 4 0 0 (zQ Θ ρ) σ 0 [(0, .ref (zA Θ 0)), (1, .int what_a)] [] := by
  unfold q12_sumOf at hf
  refine z_iconst (v := 0) C dX12_sumOf_0 ic_0 ?_
  refine z_istN C dX12_sumOf_1 rfl rfl (Nat.le_of_ble_eq_true rfl) rfl ?_
  refine z_iconst (v := 0) C dX12_sumOf_2 ic_0 ?_
  refine z_istN C dX12_sumOf_3 rfl rfl (Nat.le_of_ble_eq_true rfl) rfl ?_
  refine Z.sub [2, 3, 1, 0] rfl ?_
  obtain ⟨y1_, h2_, hf⟩ := ob hf
  suffices K3_ : Z Θ 4 0 0 (zQ Θ ρ) σ 29 [(0, .ref (zA Θ 0)), (1, .int what_a), (2, .int y1_.1), (3, .int y1_.2)] [] by
    refine loop2_Z (P := fun (n7_ : Int32) (p8_ : Int32) => Z Θ 4 0 0 (zQ Θ ρ) σ 4 [(0, .ref (zA Θ 0)), (1, .int what_a), (2, .int n7_), (3, .int p8_)] []) ?_ fuelN 0 0 h2_
    clear h2_
    intro rec4_ n7_ p8_ h5_ h6_
    refine z_iload_n C 3 dX12_sumOf_4 rfl rfl ?_
    refine z_aload_n C 0 dX12_sumOf_5 rfl rfl ?_
    refine fg12_7 C hkd dX12_sumOf_6 ?_
    refine z_iconst (v := 3) C dX12_sumOf_9 ic_3 ?_
    obtain ⟨x13_, h14_, h6_⟩ := ob h6_
    refine z_ag C h14_ (kM_1 hkd) dX12_sumOf_10 ?_
    have K11_ : p8_ < x13_ → Z Θ 4 0 0 (zQ Θ ρ) σ 14 [(0, .ref (zA Θ 0)), (1, .int what_a), (2, .int n7_), (3, .int p8_)] [] := by
      intro h16_
      rw [if_pos h16_] at h6_
      refine z_iload_n C 2 dX12_sumOf_14 rfl rfl ?_
      refine z_aload_n C 0 dX12_sumOf_15 rfl rfl ?_
      refine z_iload_n C 3 dX12_sumOf_16 rfl rfl ?_
      refine z_iload_n C 1 dX12_sumOf_17 rfl rfl ?_
      obtain ⟨x17_, h18_, h6_⟩ := ob h6_
      refine cr12_72 (p_a := p8_) (what_a := what_a) C hkd  h18_ ⟨(Nat.le_of_ble_eq_true rfl), (Nat.le_of_ble_eq_true rfl)⟩ (Nat.le_of_ble_eq_true rfl) ⟨Nat.zero_le _, Nat.zero_le _⟩ dX12_sumOf_18 ?_
      refine z_iadd C dX12_sumOf_21 ?_
      obtain ⟨n19_, h20_, h6_⟩ := lt_ h6_
      refine z_istN C dX12_sumOf_22 h20_ rfl (Nat.le_of_ble_eq_true rfl) rfl ?_
      obtain ⟨p21_, h22_, h6_⟩ := lt_ h6_
      refine z_inc C 3 dX12_sumOf_23 rfl ic_1 h22_ (Nat.le_of_ble_eq_true rfl) rfl ?_
      refine z_goto C 4 dX12_sumOf_26 (by decide) ?_
      refine Z.sub [2, 3, 1, 0] rfl ?_
      exact h5_ _ _ h6_
    have K12_ : ¬ (p8_ < x13_) → Z Θ 4 0 0 (zQ Θ ρ) σ 29 [(0, .ref (zA Θ 0)), (1, .int what_a), (2, .int n7_), (3, .int p8_)] [] := by
      intro h16_
      rw [if_neg h16_] at h6_
      cases h6_
      exact K3_
    refine c_lt_f C 29 dX12_sumOf_11 (by decide) (fun h15_ => ?_) (fun h15_ => ?_)
    · exact K11_ h15_
    · exact K12_ h15_
  refine z_iload_n C 2 dX12_sumOf_29 rfl rfl ?_
  cases hf
  subst hρ
  exact z_iret C dX12_sumOf_30
theorem c12_sumOf {l : Launch} {kd : List KD} {w : Wp} {σ : St} {what_a : Int32} (hkd : kd = kdM) (hi : zI kd w) {r : Int32} (hf : q12_sumOf σ what_a = some r) : zM l kd w yX12_sumOf cX12_sumOf 4 (some .int) rm12_sumOf [.ref (w.2.2.1 0), .int what_a] σ (some (.int r), σ) := zM_of rfl hi (Nat.le_of_ble_eq_true rfl) (fun Θ _ hw C => by
  obtain ⟨Θ1, Θ2, Θ3, Θ4, Θ5⟩ := Θ
  cases hw
  exact p12_sumOf C hkd  hf rfl)
/-! LastLoafModel.voteOf -/
theorem w_9_84 : Cond.code ({ cls := "LastLoafModel", name := "inRank", desc := "(III)I" } : MethodName) prog_14_method_47_code (6 : Nat) (Option.some ClassFile.FieldType.int) ∈ TB := tb_in (lwt_9 (List.mem_of_getElem? (i := 84) (by decide +kernel))) rfl
theorem w_9_81 : Cond.methodLink "LastLoafModel" (344 : Nat) ({ cls := "LastLoafModel", name := "inRank", desc := "(III)I" } : MethodName) ∈ TB := tb_in (lwt_9 (List.mem_of_getElem? (i := 81) (by decide +kernel))) rfl
theorem w_9_83 : Cond.instanceMethod ({ cls := "LastLoafModel", name := "inRank", desc := "(III)I" } : MethodName) ∈ TB := tb_in (lwt_9 (List.mem_of_getElem? (i := 83) (by decide +kernel))) rfl
theorem ws_LastLoafModel_inRank_III_I : Cond.selects "LastLoafModel" (⟨"LastLoafModel", "inRank", "(III)I"⟩ : MethodName) (⟨"LastLoafModel", "inRank", "(III)I"⟩ : MethodName) ∈ TB := tb_in (List.mem_append_left _ (List.mem_of_getElem? (i := 49) (by decide +kernel))) rfl
theorem cr12_344 {Θ : Tz} {cc : ByteArray} {nL kc ks : Nat} {ret : Option FieldType} {rm : Room} {Q : State → Prop} {σ : St} {pc : Nat} {lv : List (Nat × Value)} {st : List Value} (C : Zc Θ cc nL RX12 ret rm) (hkd : Θ.2.2.2.2.1 = kdM) {p_a : Int32} {k_a : Int32} {set_a : Int32} {r : Int32} (hx : q12_inRank σ p_a k_a set_a = some r) (hrm : rm12_inRank.frames + 1 ≤ rm.frames ∧ 8 + (6 + 11) + rm12_inRank.locals ≤ rm.locals) (hcat : (st.map fun v => v.category).sum ≤ 8) (hk : kc ≤ rm.cells ∧ ks ≤ rm.slots) (hd : decode cc pc = .ok (.invokevirtual 344, 3)) (kk : Z Θ nL kc ks Q σ (pc + 3) lv (.int r :: st)) : Z Θ nL kc ks Q σ pc lv (.int set_a :: .int k_a :: .int p_a :: .ref (zA Θ 0) :: st) := z_callV C 0 [.int p_a, .int k_a, .int set_a] (some (.int r), σ) 3 (kM_0 hkd) rfl (c12_inRank (p_a := p_a) (k_a := k_a) (set_a := set_a) hkd (zc_inj C) hx) w_9_84 w_9_81 w_9_83 ws_LastLoafModel_inRank_III_I w_1_14 ⟨rfl, rfl, hrm.1, hrm.2⟩ (by decide +kernel) rfl rfl hcat hk hd kk
theorem dX12_voteOf_0 : decode cX12_voteOf 0 = .ok (.aload_n 0, 1) := by decide +kernel
theorem dX12_voteOf_1 : decode cX12_voteOf 1 = .ok (.getfield 263, 3) := by decide +kernel
theorem dX12_voteOf_4 : decode cX12_voteOf 4 = .ok (.iload_n 1, 1) := by decide +kernel
theorem dX12_voteOf_5 : decode cX12_voteOf 5 = .ok (.invokestatic 275, 3) := by decide +kernel
theorem dX12_voteOf_8 : decode cX12_voteOf 8 = .ok (.ifCond .eq 16, 3) := by decide +kernel
theorem dX12_voteOf_11 : decode cX12_voteOf 11 = .ok (.aload_n 0, 1) := by decide +kernel
theorem dX12_voteOf_12 : decode cX12_voteOf 12 = .ok (.iload_n 1, 1) := by decide +kernel
theorem dX12_voteOf_13 : decode cX12_voteOf 13 = .ok (.iconst 0, 1) := by decide +kernel
theorem dX12_voteOf_14 : decode cX12_voteOf 14 = .ok (.aload_n 0, 1) := by decide +kernel
theorem dX12_voteOf_15 : decode cX12_voteOf 15 = .ok (.getfield 269, 3) := by decide +kernel
theorem dX12_voteOf_18 : decode cX12_voteOf 18 = .ok (.invokevirtual 344, 3) := by decide +kernel
theorem dX12_voteOf_21 : decode cX12_voteOf 21 = .ok (.goto 4, 3) := by decide +kernel
theorem dX12_voteOf_24 : decode cX12_voteOf 24 = .ok (.iconst (-1), 1) := by decide +kernel
theorem dX12_voteOf_25 : decode cX12_voteOf 25 = .ok (.ireturn, 1) := by decide +kernel
def q12_voteOf (σ : St) (p_a : Int32) : Option Int32 :=
  Option.bind (if q12_isOf (σ 0 20) p_a = true then (Option.bind (q12_inRank σ p_a 0 (σ 0 21)) fun x7_ =>
  some x7_) else (some (-1))) fun x1_ =>
  some x1_
abbrev rm12_voteOf : Room := { frames := 3, cells := 0, slots := 0, locals := 74 }
set_option maxHeartbeats 4000000 in
set_option maxRecDepth 100000 in
theorem p12_voteOf {Θ : Tz} {σ : St} {ρ : Option Value × St} (C : Zc Θ cX12_voteOf 2 RX12 (some .int) rm12_voteOf) (hkd : Θ.2.2.2.2.1 = kdM) {p_a : Int32} {r : Int32} (hf : q12_voteOf σ p_a = some r) (hρ : ρ = (some (.int r), σ)) : Z Θ 2 0 0 (zQ Θ ρ) σ 0 [(0, .ref (zA Θ 0)), (1, .int p_a)] [] := by
  unfold q12_voteOf at hf
  obtain ⟨x1_, h2_, hf⟩ := ob hf
  suffices K3_ : Z Θ 2 0 0 (zQ Θ ρ) σ 25 [(0, .ref (zA Θ 0)), (1, .int p_a)] [.int x1_] by
    have K4_ : q12_isOf (σ 0 20) p_a = true → Z Θ 2 0 0 (zQ Θ ρ) σ 11 [(0, .ref (zA Θ 0)), (1, .int p_a)] [] := by
      intro h9_
      rw [if_pos h9_] at h2_
      refine z_aload_n C 0 dX12_voteOf_11 rfl rfl ?_
      refine z_iload_n C 1 dX12_voteOf_12 rfl rfl ?_
      refine z_iconst (v := 0) C dX12_voteOf_13 ic_0 ?_
      refine z_aload_n C 0 dX12_voteOf_14 rfl rfl ?_
      refine fg12_269 C hkd dX12_voteOf_15 ?_
      obtain ⟨x7_, h8_, h2_⟩ := ob h2_
      refine cr12_344 (p_a := p_a) (k_a := 0) (set_a := (σ 0 21)) C hkd  h8_ ⟨(Nat.le_of_ble_eq_true rfl), (Nat.le_of_ble_eq_true rfl)⟩ (Nat.le_of_ble_eq_true rfl) ⟨Nat.zero_le _, Nat.zero_le _⟩ dX12_voteOf_18 ?_
      refine z_goto C 25 dX12_voteOf_21 (by decide) ?_
      cases h2_
      exact K3_
    have K5_ : ¬ (q12_isOf (σ 0 20) p_a = true) → Z Θ 2 0 0 (zQ Θ ρ) σ 24 [(0, .ref (zA Θ 0)), (1, .int p_a)] [] := by
      intro h9_
      rw [if_neg h9_] at h2_
      refine z_iconst (v := (-1)) C dX12_voteOf_24 ic_m1 ?_
      cases h2_
      exact K3_
    refine z_aload_n C 0 dX12_voteOf_0 rfl rfl ?_
    refine fg12_263 C hkd dX12_voteOf_1 ?_
    refine z_iload_n C 1 dX12_voteOf_4 rfl rfl ?_
    refine cr12_275 (set_a := (σ 0 20)) (k_a := p_a) C hkd  ⟨(Nat.le_of_ble_eq_true rfl), (Nat.le_of_ble_eq_true rfl)⟩ (Nat.le_of_ble_eq_true rfl) ⟨Nat.zero_le _, Nat.zero_le _⟩ dX12_voteOf_5 ?_
    refine cb_f C 24 dX12_voteOf_8 (by decide) (fun h6_ => ?_) (fun h6_ => ?_)
    · exact K4_ h6_
    · exact K5_ h6_
  cases hf
  subst hρ
  exact z_iret C dX12_voteOf_25
theorem c12_voteOf {l : Launch} {kd : List KD} {w : Wp} {σ : St} {p_a : Int32} (hkd : kd = kdM) (hi : zI kd w) {r : Int32} (hf : q12_voteOf σ p_a = some r) : zM l kd w yX12_voteOf cX12_voteOf 2 (some .int) rm12_voteOf [.ref (w.2.2.1 0), .int p_a] σ (some (.int r), σ) := zM_of rfl hi (Nat.le_of_ble_eq_true rfl) (fun Θ _ hw C => by
  obtain ⟨Θ1, Θ2, Θ3, Θ4, Θ5⟩ := Θ
  cases hw
  exact p12_voteOf C hkd  hf rfl)
/-! LastLoafModel.passesTo -/
theorem w_9_73 : Cond.code ({ cls := "LastLoafModel", name := "liking", desc := "(II)I" } : MethodName) prog_14_method_10_code (3 : Nat) (Option.some ClassFile.FieldType.int) ∈ TB := tb_in (lwt_9 (List.mem_of_getElem? (i := 73) (by decide +kernel))) rfl
theorem w_9_70 : Cond.methodLink "LastLoafModel" (260 : Nat) ({ cls := "LastLoafModel", name := "liking", desc := "(II)I" } : MethodName) ∈ TB := tb_in (lwt_9 (List.mem_of_getElem? (i := 70) (by decide +kernel))) rfl
theorem w_9_72 : Cond.instanceMethod ({ cls := "LastLoafModel", name := "liking", desc := "(II)I" } : MethodName) ∈ TB := tb_in (lwt_9 (List.mem_of_getElem? (i := 72) (by decide +kernel))) rfl
theorem ws_LastLoafModel_liking_II_I : Cond.selects "LastLoafModel" (⟨"LastLoafModel", "liking", "(II)I"⟩ : MethodName) (⟨"LastLoafModel", "liking", "(II)I"⟩ : MethodName) ∈ TB := tb_in (List.mem_append_left _ (List.mem_of_getElem? (i := 47) (by decide +kernel))) rfl
theorem cr12_260 {Θ : Tz} {cc : ByteArray} {nL kc ks : Nat} {ret : Option FieldType} {rm : Room} {Q : State → Prop} {σ : St} {pc : Nat} {lv : List (Nat × Value)} {st : List Value} (C : Zc Θ cc nL RX12 ret rm) (hkd : Θ.2.2.2.2.1 = kdM) {p_a : Int32} {o_a : Int32} {r : Int32} (hx : q12_liking σ p_a o_a = some r) (hrm : rm12_liking.frames + 1 ≤ rm.frames ∧ 8 + (3 + 11) + rm12_liking.locals ≤ rm.locals) (hcat : (st.map fun v => v.category).sum ≤ 8) (hk : kc ≤ rm.cells ∧ ks ≤ rm.slots) (hd : decode cc pc = .ok (.invokevirtual 260, 3)) (kk : Z Θ nL kc ks Q σ (pc + 3) lv (.int r :: st)) : Z Θ nL kc ks Q σ pc lv (.int o_a :: .int p_a :: .ref (zA Θ 0) :: st) := z_callV C 0 [.int p_a, .int o_a] (some (.int r), σ) 2 (kM_0 hkd) rfl (c12_liking (p_a := p_a) (o_a := o_a) hkd (zc_inj C) hx) w_9_73 w_9_70 w_9_72 ws_LastLoafModel_liking_II_I w_1_14 ⟨rfl, rfl, hrm.1, hrm.2⟩ (by decide +kernel) rfl rfl hcat hk hd kk
theorem dX12_passesTo_0 : decode cX12_passesTo 0 = .ok (.iconst (-1), 1) := by decide +kernel
theorem dX12_passesTo_1 : decode cX12_passesTo 1 = .ok (.istore_n 2, 1) := by decide +kernel
theorem dX12_passesTo_2 : decode cX12_passesTo 2 = .ok (.iconst 0, 1) := by decide +kernel
theorem dX12_passesTo_3 : decode cX12_passesTo 3 = .ok (.istore_n 3, 1) := by decide +kernel
theorem dX12_passesTo_4 : decode cX12_passesTo 4 = .ok (.iload_n 3, 1) := by decide +kernel
theorem dX12_passesTo_5 : decode cX12_passesTo 5 = .ok (.aload_n 0, 1) := by decide +kernel
theorem dX12_passesTo_6 : decode cX12_passesTo 6 = .ok (.getfield 7, 3) := by decide +kernel
theorem dX12_passesTo_9 : decode cX12_passesTo 9 = .ok (.iconst 3, 1) := by decide +kernel
theorem dX12_passesTo_10 : decode cX12_passesTo 10 = .ok (.iaload, 1) := by decide +kernel
theorem dX12_passesTo_11 : decode cX12_passesTo 11 = .ok (.if_icmp .ge 63, 3) := by decide +kernel
theorem dX12_passesTo_14 : decode cX12_passesTo 14 = .ok (.iload_n 3, 1) := by decide +kernel
theorem dX12_passesTo_15 : decode cX12_passesTo 15 = .ok (.iload_n 1, 1) := by decide +kernel
theorem dX12_passesTo_16 : decode cX12_passesTo 16 = .ok (.if_icmp .eq 52, 3) := by decide +kernel
theorem dX12_passesTo_19 : decode cX12_passesTo 19 = .ok (.aload_n 0, 1) := by decide +kernel
theorem dX12_passesTo_20 : decode cX12_passesTo 20 = .ok (.iload_n 3, 1) := by decide +kernel
theorem dX12_passesTo_21 : decode cX12_passesTo 21 = .ok (.iconst 4, 1) := by decide +kernel
theorem dX12_passesTo_22 : decode cX12_passesTo 22 = .ok (.invokevirtual 72, 3) := by decide +kernel
theorem dX12_passesTo_25 : decode cX12_passesTo 25 = .ok (.iconst 1, 1) := by decide +kernel
theorem dX12_passesTo_26 : decode cX12_passesTo 26 = .ok (.if_icmp .ne 6, 3) := by decide +kernel
theorem dX12_passesTo_29 : decode cX12_passesTo 29 = .ok (.goto 39, 3) := by decide +kernel
theorem dX12_passesTo_32 : decode cX12_passesTo 32 = .ok (.iload_n 2, 1) := by decide +kernel
theorem dX12_passesTo_33 : decode cX12_passesTo 33 = .ok (.iconst (-1), 1) := by decide +kernel
theorem dX12_passesTo_34 : decode cX12_passesTo 34 = .ok (.if_icmp .eq 32, 3) := by decide +kernel
theorem dX12_passesTo_37 : decode cX12_passesTo 37 = .ok (.aload_n 0, 1) := by decide +kernel
theorem dX12_passesTo_38 : decode cX12_passesTo 38 = .ok (.iload_n 1, 1) := by decide +kernel
theorem dX12_passesTo_39 : decode cX12_passesTo 39 = .ok (.iload_n 3, 1) := by decide +kernel
theorem dX12_passesTo_40 : decode cX12_passesTo 40 = .ok (.invokevirtual 260, 3) := by decide +kernel
theorem dX12_passesTo_43 : decode cX12_passesTo 43 = .ok (.aload_n 0, 1) := by decide +kernel
theorem dX12_passesTo_44 : decode cX12_passesTo 44 = .ok (.iload_n 3, 1) := by decide +kernel
theorem dX12_passesTo_45 : decode cX12_passesTo 45 = .ok (.iconst 0, 1) := by decide +kernel
theorem dX12_passesTo_46 : decode cX12_passesTo 46 = .ok (.invokevirtual 72, 3) := by decide +kernel
theorem dX12_passesTo_49 : decode cX12_passesTo 49 = .ok (.iadd, 1) := by decide +kernel
theorem dX12_passesTo_50 : decode cX12_passesTo 50 = .ok (.aload_n 0, 1) := by decide +kernel
theorem dX12_passesTo_51 : decode cX12_passesTo 51 = .ok (.iload_n 1, 1) := by decide +kernel
theorem dX12_passesTo_52 : decode cX12_passesTo 52 = .ok (.iload_n 2, 1) := by decide +kernel
theorem dX12_passesTo_53 : decode cX12_passesTo 53 = .ok (.invokevirtual 260, 3) := by decide +kernel
theorem dX12_passesTo_56 : decode cX12_passesTo 56 = .ok (.aload_n 0, 1) := by decide +kernel
theorem dX12_passesTo_57 : decode cX12_passesTo 57 = .ok (.iload_n 2, 1) := by decide +kernel
theorem dX12_passesTo_58 : decode cX12_passesTo 58 = .ok (.iconst 0, 1) := by decide +kernel
theorem dX12_passesTo_59 : decode cX12_passesTo 59 = .ok (.invokevirtual 72, 3) := by decide +kernel
theorem dX12_passesTo_62 : decode cX12_passesTo 62 = .ok (.iadd, 1) := by decide +kernel
theorem dX12_passesTo_63 : decode cX12_passesTo 63 = .ok (.if_icmp .le 5, 3) := by decide +kernel
theorem dX12_passesTo_66 : decode cX12_passesTo 66 = .ok (.iload_n 3, 1) := by decide +kernel
theorem dX12_passesTo_67 : decode cX12_passesTo 67 = .ok (.istore_n 2, 1) := by decide +kernel
theorem dX12_passesTo_68 : decode cX12_passesTo 68 = .ok (.iinc 3 1, 3) := by decide +kernel
theorem dX12_passesTo_71 : decode cX12_passesTo 71 = .ok (.goto (-67), 3) := by decide +kernel
theorem dX12_passesTo_74 : decode cX12_passesTo 74 = .ok (.iload_n 2, 1) := by decide +kernel
theorem dX12_passesTo_75 : decode cX12_passesTo 75 = .ok (.ireturn, 1) := by decide +kernel
def q12_passesTo (σ : St) (p_a : Int32) : Option Int32 :=
  Option.bind (loop2 (fun rec4_ (found7_ : Int32) (o8_ : Int32) =>
  Option.bind (ag σ 1 752 3) fun x13_ =>
  if o8_ < x13_ then
  lt (fun (found44_ : Int32) (o45_ : Int32) =>
  lt (o45_ + 1) fun o47_ =>
  rec4_ found44_ o47_) fun k10_ =>
  Option.bind (if o8_ = p_a then (some true) else (Option.bind (q12_of σ o8_ 4) fun x22_ =>
  if x22_ = 1 then (some true) else (some false))) fun t19_ =>
  if t19_ = true then (k10_ found7_ o8_) else
  Option.bind (Option.bind (if found7_ = (-1) then (some true) else (Option.bind (q12_liking σ p_a o8_) fun x34_ =>
  Option.bind (q12_of σ o8_ 0) fun x36_ =>
  Option.bind (q12_liking σ p_a found7_) fun x38_ =>
  Option.bind (q12_of σ found7_ 0) fun x40_ =>
  if (x38_ + x40_) < (x34_ + x36_) then (some true) else (some false))) fun t31_ =>
  if t31_ = true then (some (o8_)) else (some (found7_))) fun y26_ =>
  k10_ y26_ o8_
  else (some (found7_, o8_))) fuelN (-1) 0) fun y1_ =>
  some y1_.1
abbrev rm12_passesTo : Room := { frames := 1, cells := 0, slots := 0, locals := 22 }
set_option maxHeartbeats 4000000 in
set_option maxRecDepth 100000 in
theorem p12_passesTo {Θ : Tz} {σ : St} {ρ : Option Value × St} (C : Zc Θ cX12_passesTo 4 RX12 (some .int) rm12_passesTo) (hkd : Θ.2.2.2.2.1 = kdM) {p_a : Int32} {r : Int32} (hf : q12_passesTo σ p_a = some r) (hρ : ρ = (some (.int r), σ)) : Z Θ 4 0 0 (zQ Θ ρ) σ 0 [(0, .ref (zA Θ 0)), (1, .int p_a)] [] := by
  unfold q12_passesTo at hf
  refine z_iconst (v := (-1)) C dX12_passesTo_0 ic_m1 ?_
  refine z_istN C dX12_passesTo_1 rfl rfl (Nat.le_of_ble_eq_true rfl) rfl ?_
  refine z_iconst (v := 0) C dX12_passesTo_2 ic_0 ?_
  refine z_istN C dX12_passesTo_3 rfl rfl (Nat.le_of_ble_eq_true rfl) rfl ?_
  refine Z.sub [2, 3, 1, 0] rfl ?_
  obtain ⟨y1_, h2_, hf⟩ := ob hf
  suffices K3_ : Z Θ 4 0 0 (zQ Θ ρ) σ 74 [(0, .ref (zA Θ 0)), (1, .int p_a), (2, .int y1_.1), (3, .int y1_.2)] [] by
    refine loop2_Z (P := fun (found7_ : Int32) (o8_ : Int32) => Z Θ 4 0 0 (zQ Θ ρ) σ 4 [(0, .ref (zA Θ 0)), (1, .int p_a), (2, .int found7_), (3, .int o8_)] []) ?_ fuelN (-1) 0 h2_
    clear h2_
    intro rec4_ found7_ o8_ h5_ h6_
    refine z_iload_n C 3 dX12_passesTo_4 rfl rfl ?_
    refine z_aload_n C 0 dX12_passesTo_5 rfl rfl ?_
    refine fg12_7 C hkd dX12_passesTo_6 ?_
    refine z_iconst (v := 3) C dX12_passesTo_9 ic_3 ?_
    obtain ⟨x13_, h14_, h6_⟩ := ob h6_
    refine z_ag C h14_ (kM_1 hkd) dX12_passesTo_10 ?_
    have K11_ : o8_ < x13_ → Z Θ 4 0 0 (zQ Θ ρ) σ 14 [(0, .ref (zA Θ 0)), (1, .int p_a), (2, .int found7_), (3, .int o8_)] [] := by
      intro h16_
      rw [if_pos h16_] at h6_
      obtain ⟨k10_, h46_, h6_⟩ := lt_ h6_
      have K9_ : ∀ (found44_ : Int32) (o45_ : Int32), k10_ found44_ o45_ = some y1_ → Z Θ 4 0 0 (zQ Θ ρ) σ 68 [(0, .ref (zA Θ 0)), (1, .int p_a), (2, .int found44_), (3, .int o45_)] [] := by
        intro found44_ o45_ h6_
        subst h46_
        dsimp only at h6_
        obtain ⟨o47_, h48_, h6_⟩ := lt_ h6_
        refine z_inc C 3 dX12_passesTo_68 rfl ic_1 h48_ (Nat.le_of_ble_eq_true rfl) rfl ?_
        refine z_goto C 4 dX12_passesTo_71 (by decide) ?_
        refine Z.sub [1, 2, 3, 0] rfl ?_
        exact h5_ _ _ h6_
      obtain ⟨t19_, h20_, h6_⟩ := ob h6_
      have K17_j : t19_ = true → Z Θ 4 0 0 (zQ Θ ρ) σ 68 [(0, .ref (zA Θ 0)), (1, .int p_a), (2, .int found7_), (3, .int o8_)] [] := by
        intro h25_
        rw [if_pos h25_] at h6_
        exact K9_ _ _ h6_
      have K17_ : t19_ = true → Z Θ 4 0 0 (zQ Θ ρ) σ 29 [(0, .ref (zA Θ 0)), (1, .int p_a), (2, .int found7_), (3, .int o8_)] [] := by
        intro h25_
        refine z_goto C 68 dX12_passesTo_29 (by decide) ?_
        exact K17_j h25_
      suffices K18_ : ¬ (t19_ = true) → Z Θ 4 0 0 (zQ Θ ρ) σ 32 [(0, .ref (zA Θ 0)), (1, .int p_a), (2, .int found7_), (3, .int o8_)] [] by
        refine z_iload_n C 3 dX12_passesTo_14 rfl rfl ?_
        refine z_iload_n C 1 dX12_passesTo_15 rfl rfl ?_
        refine c_eq_t C 68 dX12_passesTo_16 (by decide) (fun h21_ => ?_) (fun h21_ => ?_)
        · rw [if_pos h21_] at h20_
          cases h20_
          exact K17_j rfl
        · rw [if_neg h21_] at h20_
          refine z_aload_n C 0 dX12_passesTo_19 rfl rfl ?_
          refine z_iload_n C 3 dX12_passesTo_20 rfl rfl ?_
          refine z_iconst (v := 4) C dX12_passesTo_21 ic_4 ?_
          obtain ⟨x22_, h23_, h20_⟩ := ob h20_
          refine cr12_72 (p_a := o8_) (what_a := 4) C hkd  h23_ ⟨(Nat.le_of_ble_eq_true rfl), (Nat.le_of_ble_eq_true rfl)⟩ (Nat.le_of_ble_eq_true rfl) ⟨Nat.zero_le _, Nat.zero_le _⟩ dX12_passesTo_22 ?_
          refine z_iconst (v := 1) C dX12_passesTo_25 ic_1 ?_
          refine c_eq_f C 32 dX12_passesTo_26 (by decide) (fun h24_ => ?_) (fun h24_ => ?_)
          · rw [if_pos h24_] at h20_
            cases h20_
            exact K17_ rfl
          · rw [if_neg h24_] at h20_
            cases h20_
            exact K18_ Bool.false_ne_true
      intro h25_
      rw [if_neg h25_] at h6_
      obtain ⟨y26_, h27_, h6_⟩ := ob h6_
      suffices K28_ : Z Θ 4 0 0 (zQ Θ ρ) σ 68 [(0, .ref (zA Θ 0)), (1, .int p_a), (2, .int y26_), (3, .int o8_)] [] by
        obtain ⟨t31_, h32_, h27_⟩ := ob h27_
        have K29_ : t31_ = true → Z Θ 4 0 0 (zQ Θ ρ) σ 66 [(0, .ref (zA Θ 0)), (1, .int p_a), (2, .int found7_), (3, .int o8_)] [] := by
          intro h43_
          rw [if_pos h43_] at h27_
          refine z_iload_n C 3 dX12_passesTo_66 rfl rfl ?_
          refine z_istN C dX12_passesTo_67 rfl rfl (Nat.le_of_ble_eq_true rfl) rfl ?_
          cases h27_
          refine Z.sub [1, 2, 0, 3] rfl ?_
          exact K28_
        have K30_ : ¬ (t31_ = true) → Z Θ 4 0 0 (zQ Θ ρ) σ 68 [(0, .ref (zA Θ 0)), (1, .int p_a), (2, .int found7_), (3, .int o8_)] [] := by
          intro h43_
          rw [if_neg h43_] at h27_
          cases h27_
          exact K28_
        refine z_iload_n C 2 dX12_passesTo_32 rfl rfl ?_
        refine z_iconst (v := (-1)) C dX12_passesTo_33 ic_m1 ?_
        refine c_eq_t C 66 dX12_passesTo_34 (by decide) (fun h33_ => ?_) (fun h33_ => ?_)
        · rw [if_pos h33_] at h32_
          cases h32_
          exact K29_ rfl
        · rw [if_neg h33_] at h32_
          refine z_aload_n C 0 dX12_passesTo_37 rfl rfl ?_
          refine z_iload_n C 1 dX12_passesTo_38 rfl rfl ?_
          refine z_iload_n C 3 dX12_passesTo_39 rfl rfl ?_
          obtain ⟨x34_, h35_, h32_⟩ := ob h32_
          refine cr12_260 (p_a := p_a) (o_a := o8_) C hkd  h35_ ⟨(Nat.le_of_ble_eq_true rfl), (Nat.le_of_ble_eq_true rfl)⟩ (Nat.le_of_ble_eq_true rfl) ⟨Nat.zero_le _, Nat.zero_le _⟩ dX12_passesTo_40 ?_
          refine z_aload_n C 0 dX12_passesTo_43 rfl rfl ?_
          refine z_iload_n C 3 dX12_passesTo_44 rfl rfl ?_
          refine z_iconst (v := 0) C dX12_passesTo_45 ic_0 ?_
          obtain ⟨x36_, h37_, h32_⟩ := ob h32_
          refine cr12_72 (p_a := o8_) (what_a := 0) C hkd  h37_ ⟨(Nat.le_of_ble_eq_true rfl), (Nat.le_of_ble_eq_true rfl)⟩ (Nat.le_of_ble_eq_true rfl) ⟨Nat.zero_le _, Nat.zero_le _⟩ dX12_passesTo_46 ?_
          refine z_iadd C dX12_passesTo_49 ?_
          refine z_aload_n C 0 dX12_passesTo_50 rfl rfl ?_
          refine z_iload_n C 1 dX12_passesTo_51 rfl rfl ?_
          refine z_iload_n C 2 dX12_passesTo_52 rfl rfl ?_
          obtain ⟨x38_, h39_, h32_⟩ := ob h32_
          refine cr12_260 (p_a := p_a) (o_a := found7_) C hkd  h39_ ⟨(Nat.le_of_ble_eq_true rfl), (Nat.le_of_ble_eq_true rfl)⟩ (Nat.le_of_ble_eq_true rfl) ⟨Nat.zero_le _, Nat.zero_le _⟩ dX12_passesTo_53 ?_
          refine z_aload_n C 0 dX12_passesTo_56 rfl rfl ?_
          refine z_iload_n C 2 dX12_passesTo_57 rfl rfl ?_
          refine z_iconst (v := 0) C dX12_passesTo_58 ic_0 ?_
          obtain ⟨x40_, h41_, h32_⟩ := ob h32_
          refine cr12_72 (p_a := found7_) (what_a := 0) C hkd  h41_ ⟨(Nat.le_of_ble_eq_true rfl), (Nat.le_of_ble_eq_true rfl)⟩ (Nat.le_of_ble_eq_true rfl) ⟨Nat.zero_le _, Nat.zero_le _⟩ dX12_passesTo_59 ?_
          refine z_iadd C dX12_passesTo_62 ?_
          refine c_gt_f C 68 dX12_passesTo_63 (by decide) (fun h42_ => ?_) (fun h42_ => ?_)
          · rw [if_pos h42_] at h32_
            cases h32_
            exact K29_ rfl
          · rw [if_neg h42_] at h32_
            cases h32_
            exact K30_ Bool.false_ne_true
      exact K9_ _ _ h6_
    have K12_ : ¬ (o8_ < x13_) → Z Θ 4 0 0 (zQ Θ ρ) σ 74 [(0, .ref (zA Θ 0)), (1, .int p_a), (2, .int found7_), (3, .int o8_)] [] := by
      intro h16_
      rw [if_neg h16_] at h6_
      cases h6_
      exact K3_
    refine c_lt_f C 74 dX12_passesTo_11 (by decide) (fun h15_ => ?_) (fun h15_ => ?_)
    · exact K11_ h15_
    · exact K12_ h15_
  refine z_iload_n C 2 dX12_passesTo_74 rfl rfl ?_
  cases hf
  subst hρ
  exact z_iret C dX12_passesTo_75
theorem c12_passesTo {l : Launch} {kd : List KD} {w : Wp} {σ : St} {p_a : Int32} (hkd : kd = kdM) (hi : zI kd w) {r : Int32} (hf : q12_passesTo σ p_a = some r) : zM l kd w yX12_passesTo cX12_passesTo 4 (some .int) rm12_passesTo [.ref (w.2.2.1 0), .int p_a] σ (some (.int r), σ) := zM_of rfl hi (Nat.le_of_ble_eq_true rfl) (fun Θ _ hw C => by
  obtain ⟨Θ1, Θ2, Θ3, Θ4, Θ5⟩ := Θ
  cases hw
  exact p12_passesTo C hkd  hf rfl)
/-! LastLoafModel.isWooed -/
theorem w_9_77 : Cond.code ({ cls := "LastLoafModel", name := "voteOf", desc := "(I)I" } : MethodName) prog_14_method_66_code (2 : Nat) (Option.some ClassFile.FieldType.int) ∈ TB := tb_in (lwt_9 (List.mem_of_getElem? (i := 77) (by decide +kernel))) rfl
theorem w_9_74 : Cond.methodLink "LastLoafModel" (350 : Nat) ({ cls := "LastLoafModel", name := "voteOf", desc := "(I)I" } : MethodName) ∈ TB := tb_in (lwt_9 (List.mem_of_getElem? (i := 74) (by decide +kernel))) rfl
theorem w_9_76 : Cond.instanceMethod ({ cls := "LastLoafModel", name := "voteOf", desc := "(I)I" } : MethodName) ∈ TB := tb_in (lwt_9 (List.mem_of_getElem? (i := 76) (by decide +kernel))) rfl
theorem ws_LastLoafModel_voteOf_I_I : Cond.selects "LastLoafModel" (⟨"LastLoafModel", "voteOf", "(I)I"⟩ : MethodName) (⟨"LastLoafModel", "voteOf", "(I)I"⟩ : MethodName) ∈ TB := tb_in (List.mem_append_left _ (List.mem_of_getElem? (i := 48) (by decide +kernel))) rfl
theorem cr12_350 {Θ : Tz} {cc : ByteArray} {nL kc ks : Nat} {ret : Option FieldType} {rm : Room} {Q : State → Prop} {σ : St} {pc : Nat} {lv : List (Nat × Value)} {st : List Value} (C : Zc Θ cc nL RX12 ret rm) (hkd : Θ.2.2.2.2.1 = kdM) {p_a : Int32} {r : Int32} (hx : q12_voteOf σ p_a = some r) (hrm : rm12_voteOf.frames + 1 ≤ rm.frames ∧ 8 + (2 + 11) + rm12_voteOf.locals ≤ rm.locals) (hcat : (st.map fun v => v.category).sum ≤ 8) (hk : kc ≤ rm.cells ∧ ks ≤ rm.slots) (hd : decode cc pc = .ok (.invokevirtual 350, 3)) (kk : Z Θ nL kc ks Q σ (pc + 3) lv (.int r :: st)) : Z Θ nL kc ks Q σ pc lv (.int p_a :: .ref (zA Θ 0) :: st) := z_callV C 0 [.int p_a] (some (.int r), σ) 1 (kM_0 hkd) rfl (c12_voteOf (p_a := p_a) hkd (zc_inj C) hx) w_9_77 w_9_74 w_9_76 ws_LastLoafModel_voteOf_I_I w_1_14 ⟨rfl, rfl, hrm.1, hrm.2⟩ (by decide +kernel) rfl rfl hcat hk hd kk
theorem dX12_isWooed_0 : decode cX12_isWooed 0 = .ok (.aload_n 0, 1) := by decide +kernel
theorem dX12_isWooed_1 : decode cX12_isWooed 1 = .ok (.iload_n 1, 1) := by decide +kernel
theorem dX12_isWooed_2 : decode cX12_isWooed 2 = .ok (.iconst 0, 1) := by decide +kernel
theorem dX12_isWooed_3 : decode cX12_isWooed 3 = .ok (.aload_n 0, 1) := by decide +kernel
theorem dX12_isWooed_4 : decode cX12_isWooed 4 = .ok (.getfield 269, 3) := by decide +kernel
theorem dX12_isWooed_7 : decode cX12_isWooed 7 = .ok (.invokevirtual 292, 3) := by decide +kernel
theorem dX12_isWooed_10 : decode cX12_isWooed 10 = .ok (.istore_n 3, 1) := by decide +kernel
theorem dX12_isWooed_11 : decode cX12_isWooed 11 = .ok (.iconst 0, 1) := by decide +kernel
theorem dX12_isWooed_12 : decode cX12_isWooed 12 = .ok (.istore 4, 2) := by decide +kernel
theorem dX12_isWooed_14 : decode cX12_isWooed 14 = .ok (.iload 4, 2) := by decide +kernel
theorem dX12_isWooed_16 : decode cX12_isWooed 16 = .ok (.aload_n 0, 1) := by decide +kernel
theorem dX12_isWooed_17 : decode cX12_isWooed 17 = .ok (.getfield 7, 3) := by decide +kernel
theorem dX12_isWooed_20 : decode cX12_isWooed 20 = .ok (.iconst 3, 1) := by decide +kernel
theorem dX12_isWooed_21 : decode cX12_isWooed 21 = .ok (.iaload, 1) := by decide +kernel
theorem dX12_isWooed_22 : decode cX12_isWooed 22 = .ok (.if_icmp .ge 36, 3) := by decide +kernel
theorem dX12_isWooed_25 : decode cX12_isWooed 25 = .ok (.iload_n 3, 1) := by decide +kernel
theorem dX12_isWooed_26 : decode cX12_isWooed 26 = .ok (.iload_n 2, 1) := by decide +kernel
theorem dX12_isWooed_27 : decode cX12_isWooed 27 = .ok (.iload 4, 2) := by decide +kernel
theorem dX12_isWooed_29 : decode cX12_isWooed 29 = .ok (.invokestatic 275, 3) := by decide +kernel
theorem dX12_isWooed_32 : decode cX12_isWooed 32 = .ok (.ifCond .eq 17, 3) := by decide +kernel
theorem dX12_isWooed_35 : decode cX12_isWooed 35 = .ok (.aload_n 0, 1) := by decide +kernel
theorem dX12_isWooed_36 : decode cX12_isWooed 36 = .ok (.iload 4, 2) := by decide +kernel
theorem dX12_isWooed_38 : decode cX12_isWooed 38 = .ok (.invokevirtual 350, 3) := by decide +kernel
theorem dX12_isWooed_41 : decode cX12_isWooed 41 = .ok (.iload_n 1, 1) := by decide +kernel
theorem dX12_isWooed_42 : decode cX12_isWooed 42 = .ok (.if_icmp .eq 7, 3) := by decide +kernel
theorem dX12_isWooed_45 : decode cX12_isWooed 45 = .ok (.iconst 1, 1) := by decide +kernel
theorem dX12_isWooed_46 : decode cX12_isWooed 46 = .ok (.goto 4, 3) := by decide +kernel
theorem dX12_isWooed_49 : decode cX12_isWooed 49 = .ok (.iconst 0, 1) := by decide +kernel
theorem dX12_isWooed_50 : decode cX12_isWooed 50 = .ok (.iadd, 1) := by decide +kernel
theorem dX12_isWooed_51 : decode cX12_isWooed 51 = .ok (.istore_n 3, 1) := by decide +kernel
theorem dX12_isWooed_52 : decode cX12_isWooed 52 = .ok (.iinc 4 1, 3) := by decide +kernel
theorem dX12_isWooed_55 : decode cX12_isWooed 55 = .ok (.goto (-41), 3) := by decide +kernel
theorem dX12_isWooed_58 : decode cX12_isWooed 58 = .ok (.iconst 1, 1) := by decide +kernel
theorem dX12_isWooed_59 : decode cX12_isWooed 59 = .ok (.istore 4, 2) := by decide +kernel
theorem dX12_isWooed_61 : decode cX12_isWooed 61 = .ok (.iconst 0, 1) := by decide +kernel
theorem dX12_isWooed_62 : decode cX12_isWooed 62 = .ok (.istore 5, 2) := by decide +kernel
theorem dX12_isWooed_64 : decode cX12_isWooed 64 = .ok (.iload 5, 2) := by decide +kernel
theorem dX12_isWooed_66 : decode cX12_isWooed 66 = .ok (.aload_n 0, 1) := by decide +kernel
theorem dX12_isWooed_67 : decode cX12_isWooed 67 = .ok (.getfield 7, 3) := by decide +kernel
theorem dX12_isWooed_70 : decode cX12_isWooed 70 = .ok (.iconst 3, 1) := by decide +kernel
theorem dX12_isWooed_71 : decode cX12_isWooed 71 = .ok (.iaload, 1) := by decide +kernel
theorem dX12_isWooed_72 : decode cX12_isWooed 72 = .ok (.if_icmp .ge 123, 3) := by decide +kernel
theorem dX12_isWooed_75 : decode cX12_isWooed 75 = .ok (.iload 4, 2) := by decide +kernel
theorem dX12_isWooed_77 : decode cX12_isWooed 77 = .ok (.ifCond .eq 118, 3) := by decide +kernel
theorem dX12_isWooed_80 : decode cX12_isWooed 80 = .ok (.iload 5, 2) := by decide +kernel
theorem dX12_isWooed_82 : decode cX12_isWooed 82 = .ok (.iload_n 1, 1) := by decide +kernel
theorem dX12_isWooed_83 : decode cX12_isWooed 83 = .ok (.if_icmp .eq 106, 3) := by decide +kernel
theorem dX12_isWooed_86 : decode cX12_isWooed 86 = .ok (.aload_n 0, 1) := by decide +kernel
theorem dX12_isWooed_87 : decode cX12_isWooed 87 = .ok (.getfield 269, 3) := by decide +kernel
theorem dX12_isWooed_90 : decode cX12_isWooed 90 = .ok (.iload 5, 2) := by decide +kernel
theorem dX12_isWooed_92 : decode cX12_isWooed 92 = .ok (.invokestatic 275, 3) := by decide +kernel
theorem dX12_isWooed_95 : decode cX12_isWooed 95 = .ok (.ifCond .ne 6, 3) := by decide +kernel
theorem dX12_isWooed_98 : decode cX12_isWooed 98 = .ok (.goto 91, 3) := by decide +kernel
theorem dX12_isWooed_101 : decode cX12_isWooed 101 = .ok (.aload_n 0, 1) := by decide +kernel
theorem dX12_isWooed_102 : decode cX12_isWooed 102 = .ok (.iload 5, 2) := by decide +kernel
theorem dX12_isWooed_104 : decode cX12_isWooed 104 = .ok (.iconst 0, 1) := by decide +kernel
theorem dX12_isWooed_105 : decode cX12_isWooed 105 = .ok (.aload_n 0, 1) := by decide +kernel
theorem dX12_isWooed_106 : decode cX12_isWooed 106 = .ok (.getfield 269, 3) := by decide +kernel
theorem dX12_isWooed_109 : decode cX12_isWooed 109 = .ok (.invokevirtual 292, 3) := by decide +kernel
theorem dX12_isWooed_112 : decode cX12_isWooed 112 = .ok (.istore 6, 2) := by decide +kernel
theorem dX12_isWooed_114 : decode cX12_isWooed 114 = .ok (.iconst 0, 1) := by decide +kernel
theorem dX12_isWooed_115 : decode cX12_isWooed 115 = .ok (.istore 7, 2) := by decide +kernel
theorem dX12_isWooed_117 : decode cX12_isWooed 117 = .ok (.iload 7, 2) := by decide +kernel
theorem dX12_isWooed_119 : decode cX12_isWooed 119 = .ok (.aload_n 0, 1) := by decide +kernel
theorem dX12_isWooed_120 : decode cX12_isWooed 120 = .ok (.getfield 7, 3) := by decide +kernel
theorem dX12_isWooed_123 : decode cX12_isWooed 123 = .ok (.iconst 3, 1) := by decide +kernel
theorem dX12_isWooed_124 : decode cX12_isWooed 124 = .ok (.iaload, 1) := by decide +kernel
theorem dX12_isWooed_125 : decode cX12_isWooed 125 = .ok (.if_icmp .ge 39, 3) := by decide +kernel
theorem dX12_isWooed_128 : decode cX12_isWooed 128 = .ok (.iload 6, 2) := by decide +kernel
theorem dX12_isWooed_130 : decode cX12_isWooed 130 = .ok (.iload_n 2, 1) := by decide +kernel
theorem dX12_isWooed_131 : decode cX12_isWooed 131 = .ok (.iload 7, 2) := by decide +kernel
theorem dX12_isWooed_133 : decode cX12_isWooed 133 = .ok (.invokestatic 275, 3) := by decide +kernel
theorem dX12_isWooed_136 : decode cX12_isWooed 136 = .ok (.ifCond .eq 18, 3) := by decide +kernel
theorem dX12_isWooed_139 : decode cX12_isWooed 139 = .ok (.aload_n 0, 1) := by decide +kernel
theorem dX12_isWooed_140 : decode cX12_isWooed 140 = .ok (.iload 7, 2) := by decide +kernel
theorem dX12_isWooed_142 : decode cX12_isWooed 142 = .ok (.invokevirtual 350, 3) := by decide +kernel
theorem dX12_isWooed_145 : decode cX12_isWooed 145 = .ok (.iload 5, 2) := by decide +kernel
theorem dX12_isWooed_147 : decode cX12_isWooed 147 = .ok (.if_icmp .ne 7, 3) := by decide +kernel
theorem dX12_isWooed_150 : decode cX12_isWooed 150 = .ok (.iconst 1, 1) := by decide +kernel
theorem dX12_isWooed_151 : decode cX12_isWooed 151 = .ok (.goto 4, 3) := by decide +kernel
theorem dX12_isWooed_154 : decode cX12_isWooed 154 = .ok (.iconst 0, 1) := by decide +kernel
theorem dX12_isWooed_155 : decode cX12_isWooed 155 = .ok (.isub, 1) := by decide +kernel
theorem dX12_isWooed_156 : decode cX12_isWooed 156 = .ok (.istore 6, 2) := by decide +kernel
theorem dX12_isWooed_158 : decode cX12_isWooed 158 = .ok (.iinc 7 1, 3) := by decide +kernel
theorem dX12_isWooed_161 : decode cX12_isWooed 161 = .ok (.goto (-44), 3) := by decide +kernel
theorem dX12_isWooed_164 : decode cX12_isWooed 164 = .ok (.iload_n 3, 1) := by decide +kernel
theorem dX12_isWooed_165 : decode cX12_isWooed 165 = .ok (.iload 6, 2) := by decide +kernel
theorem dX12_isWooed_167 : decode cX12_isWooed 167 = .ok (.if_icmp .gt 15, 3) := by decide +kernel
theorem dX12_isWooed_170 : decode cX12_isWooed 170 = .ok (.iload_n 3, 1) := by decide +kernel
theorem dX12_isWooed_171 : decode cX12_isWooed 171 = .ok (.iload 6, 2) := by decide +kernel
theorem dX12_isWooed_173 : decode cX12_isWooed 173 = .ok (.if_icmp .ne 13, 3) := by decide +kernel
theorem dX12_isWooed_176 : decode cX12_isWooed 176 = .ok (.iload_n 1, 1) := by decide +kernel
theorem dX12_isWooed_177 : decode cX12_isWooed 177 = .ok (.iload 5, 2) := by decide +kernel
theorem dX12_isWooed_179 : decode cX12_isWooed 179 = .ok (.if_icmp .ge 7, 3) := by decide +kernel
theorem dX12_isWooed_182 : decode cX12_isWooed 182 = .ok (.iconst 1, 1) := by decide +kernel
theorem dX12_isWooed_183 : decode cX12_isWooed 183 = .ok (.goto 4, 3) := by decide +kernel
theorem dX12_isWooed_186 : decode cX12_isWooed 186 = .ok (.iconst 0, 1) := by decide +kernel
theorem dX12_isWooed_187 : decode cX12_isWooed 187 = .ok (.istore 4, 2) := by decide +kernel
theorem dX12_isWooed_189 : decode cX12_isWooed 189 = .ok (.iinc 5 1, 3) := by decide +kernel
theorem dX12_isWooed_192 : decode cX12_isWooed 192 = .ok (.goto (-128), 3) := by decide +kernel
theorem dX12_isWooed_195 : decode cX12_isWooed 195 = .ok (.iload 4, 2) := by decide +kernel
theorem dX12_isWooed_197 : decode cX12_isWooed 197 = .ok (.ireturn, 1) := by decide +kernel
def q12_isWooed (σ : St) (one_a : Int32) (set_a : Int32) : Option Bool :=
  Option.bind (q12_votesAt σ one_a 0 (σ 0 21)) fun x1_ =>
  Option.bind (loop2 (fun rec6_ (mine9_ : Int32) (p10_ : Int32) =>
  Option.bind (ag σ 1 752 3) fun x15_ =>
  if p10_ < x15_ then
  Option.bind (Option.bind (if q12_isOf set_a p10_ = true then (Option.bind (q12_voteOf σ p10_) fun x27_ =>
  if ¬ x27_ = one_a then (some true) else (some false)) else (some false)) fun t24_ =>
  if t24_ = true then (some 1) else (some 0)) fun x19_ =>
  lt (mine9_ + x19_) fun mine31_ =>
  lt (p10_ + 1) fun p33_ =>
  rec6_ mine31_ p33_
  else (some (mine9_, p10_))) fuelN x1_ 0) fun y3_ =>
  Option.bind (loop2 (fun rec38_ (is41_ : Bool) (o42_ : Int32) =>
  Option.bind (ag σ 1 752 3) fun x47_ =>
  if (o42_ < x47_) ∧ (is41_ = true) then
  lt (fun (is100_ : Bool) (o101_ : Int32) =>
  lt (o101_ + 1) fun o103_ =>
  rec38_ is100_ o103_) fun k44_ =>
  if (o42_ = one_a) ∨ (¬ (q12_isOf (σ 0 21) o42_ = true)) then (k44_ is41_ o42_) else
  Option.bind (q12_votesAt σ o42_ 0 (σ 0 21)) fun x57_ =>
  Option.bind (loop2 (fun rec62_ (its65_ : Int32) (p66_ : Int32) =>
  Option.bind (ag σ 1 752 3) fun x71_ =>
  if p66_ < x71_ then
  Option.bind (Option.bind (if q12_isOf set_a p66_ = true then (Option.bind (q12_voteOf σ p66_) fun x83_ =>
  if x83_ = o42_ then (some true) else (some false)) else (some false)) fun t80_ =>
  if t80_ = true then (some 1) else (some 0)) fun x75_ =>
  lt (its65_ - x75_) fun its87_ =>
  lt (p66_ + 1) fun p89_ =>
  rec62_ its87_ p89_
  else (some (its65_, p66_))) fuelN x57_ 0) fun y59_ =>
  lt (decide ((y59_.1 < y3_.1) ∨ ((y3_.1 = y59_.1) ∧ (one_a < o42_)))) fun is98_ =>
  k44_ is98_ o42_
  else (some (is41_, o42_))) fuelN true 0) fun y35_ =>
  some y35_.1
abbrev rm12_isWooed : Room := { frames := 4, cells := 0, slots := 0, locals := 95 }
set_option maxHeartbeats 4000000 in
set_option maxRecDepth 100000 in
theorem p12_isWooed {Θ : Tz} {σ : St} {ρ : Option Value × St} (C : Zc Θ cX12_isWooed 8 RX12 (some .boolean) rm12_isWooed) (hkd : Θ.2.2.2.2.1 = kdM) {one_a : Int32} {set_a : Int32} {r : Bool} (hf : q12_isWooed σ one_a set_a = some r) (hρ : ρ = (some (.int (b2i r)), σ)) : Z Θ 8 0 0 (zQ Θ ρ) σ 0 [(0, .ref (zA Θ 0)), (1, .int one_a), (2, .int set_a)] [] := by
  unfold q12_isWooed at hf
  refine z_aload_n C 0 dX12_isWooed_0 rfl rfl ?_
  refine z_iload_n C 1 dX12_isWooed_1 rfl rfl ?_
  refine z_iconst (v := 0) C dX12_isWooed_2 ic_0 ?_
  refine z_aload_n C 0 dX12_isWooed_3 rfl rfl ?_
  refine fg12_269 C hkd dX12_isWooed_4 ?_
  obtain ⟨x1_, h2_, hf⟩ := ob hf
  refine cr12_292 (o_a := one_a) (k_a := 0) (set_a := (σ 0 21)) C hkd  h2_ ⟨(Nat.le_of_ble_eq_true rfl), (Nat.le_of_ble_eq_true rfl)⟩ (Nat.le_of_ble_eq_true rfl) ⟨Nat.zero_le _, Nat.zero_le _⟩ dX12_isWooed_7 ?_
  refine z_istN C dX12_isWooed_10 rfl rfl (Nat.le_of_ble_eq_true rfl) rfl ?_
  refine z_iconst (v := 0) C dX12_isWooed_11 ic_0 ?_
  refine z_ist C dX12_isWooed_12 rfl (Nat.le_of_ble_eq_true rfl) rfl ?_
  refine Z.sub [2, 3, 4, 1, 0] rfl ?_
  obtain ⟨y3_, h4_, hf⟩ := ob hf
  suffices K5_ : Z Θ 8 0 0 (zQ Θ ρ) σ 58 [(0, .ref (zA Θ 0)), (1, .int one_a), (2, .int set_a), (3, .int y3_.1), (4, .int y3_.2)] [] by
    refine loop2_Z (P := fun (mine9_ : Int32) (p10_ : Int32) => Z Θ 8 0 0 (zQ Θ ρ) σ 14 [(0, .ref (zA Θ 0)), (1, .int one_a), (2, .int set_a), (3, .int mine9_), (4, .int p10_)] []) ?_ fuelN x1_ 0 h4_
    clear h4_
    intro rec6_ mine9_ p10_ h7_ h8_
    refine z_iload C 4 dX12_isWooed_14 rfl ?_
    refine z_aload_n C 0 dX12_isWooed_16 rfl rfl ?_
    refine fg12_7 C hkd dX12_isWooed_17 ?_
    refine z_iconst (v := 3) C dX12_isWooed_20 ic_3 ?_
    obtain ⟨x15_, h16_, h8_⟩ := ob h8_
    refine z_ag C h16_ (kM_1 hkd) dX12_isWooed_21 ?_
    have K13_ : p10_ < x15_ → Z Θ 8 0 0 (zQ Θ ρ) σ 25 [(0, .ref (zA Θ 0)), (1, .int one_a), (2, .int set_a), (3, .int mine9_), (4, .int p10_)] [] := by
      intro h18_
      rw [if_pos h18_] at h8_
      refine z_iload_n C 3 dX12_isWooed_25 rfl rfl ?_
      obtain ⟨x19_, h20_, h8_⟩ := ob h8_
      suffices K21_ : Z Θ 8 0 0 (zQ Θ ρ) σ 50 [(0, .ref (zA Θ 0)), (1, .int one_a), (2, .int set_a), (3, .int mine9_), (4, .int p10_)] [.int x19_, .int mine9_] by
        obtain ⟨t24_, h25_, h20_⟩ := ob h20_
        have K22_ : t24_ = true → Z Θ 8 0 0 (zQ Θ ρ) σ 45 [(0, .ref (zA Θ 0)), (1, .int one_a), (2, .int set_a), (3, .int mine9_), (4, .int p10_)] [.int mine9_] := by
          intro h30_
          rw [if_pos h30_] at h20_
          refine z_iconst (v := 1) C dX12_isWooed_45 ic_1 ?_
          refine z_goto C 50 dX12_isWooed_46 (by decide) ?_
          cases h20_
          exact K21_
        have K23_ : ¬ (t24_ = true) → Z Θ 8 0 0 (zQ Θ ρ) σ 49 [(0, .ref (zA Θ 0)), (1, .int one_a), (2, .int set_a), (3, .int mine9_), (4, .int p10_)] [.int mine9_] := by
          intro h30_
          rw [if_neg h30_] at h20_
          refine z_iconst (v := 0) C dX12_isWooed_49 ic_0 ?_
          cases h20_
          exact K21_
        refine z_iload_n C 2 dX12_isWooed_26 rfl rfl ?_
        refine z_iload C 4 dX12_isWooed_27 rfl ?_
        refine cr12_275 (set_a := set_a) (k_a := p10_) C hkd  ⟨(Nat.le_of_ble_eq_true rfl), (Nat.le_of_ble_eq_true rfl)⟩ (Nat.le_of_ble_eq_true rfl) ⟨Nat.zero_le _, Nat.zero_le _⟩ dX12_isWooed_29 ?_
        refine cb_f C 49 dX12_isWooed_32 (by decide) (fun h26_ => ?_) (fun h26_ => ?_)
        · rw [if_pos h26_] at h25_
          refine z_aload_n C 0 dX12_isWooed_35 rfl rfl ?_
          refine z_iload C 4 dX12_isWooed_36 rfl ?_
          obtain ⟨x27_, h28_, h25_⟩ := ob h25_
          refine cr12_350 (p_a := p10_) C hkd  h28_ ⟨(Nat.le_of_ble_eq_true rfl), (Nat.le_of_ble_eq_true rfl)⟩ (Nat.le_of_ble_eq_true rfl) ⟨Nat.zero_le _, Nat.zero_le _⟩ dX12_isWooed_38 ?_
          refine z_iload_n C 1 dX12_isWooed_41 rfl rfl ?_
          refine c_ne_f C 49 dX12_isWooed_42 (by decide) (fun h29_ => ?_) (fun h29_ => ?_)
          · rw [if_pos h29_] at h25_
            cases h25_
            exact K22_ rfl
          · rw [if_neg h29_] at h25_
            cases h25_
            exact K23_ Bool.false_ne_true
        · rw [if_neg h26_] at h25_
          cases h25_
          exact K23_ Bool.false_ne_true
      refine z_iadd C dX12_isWooed_50 ?_
      obtain ⟨mine31_, h32_, h8_⟩ := lt_ h8_
      refine z_istN C dX12_isWooed_51 h32_ rfl (Nat.le_of_ble_eq_true rfl) rfl ?_
      obtain ⟨p33_, h34_, h8_⟩ := lt_ h8_
      refine z_inc C 4 dX12_isWooed_52 rfl ic_1 h34_ (Nat.le_of_ble_eq_true rfl) rfl ?_
      refine z_goto C 14 dX12_isWooed_55 (by decide) ?_
      refine Z.sub [2, 3, 4, 1, 0] rfl ?_
      exact h7_ _ _ h8_
    have K14_ : ¬ (p10_ < x15_) → Z Θ 8 0 0 (zQ Θ ρ) σ 58 [(0, .ref (zA Θ 0)), (1, .int one_a), (2, .int set_a), (3, .int mine9_), (4, .int p10_)] [] := by
      intro h18_
      rw [if_neg h18_] at h8_
      cases h8_
      exact K5_
    refine c_lt_f C 58 dX12_isWooed_22 (by decide) (fun h17_ => ?_) (fun h17_ => ?_)
    · exact K13_ h17_
    · exact K14_ h17_
  refine z_iconst (v := 1) C dX12_isWooed_58 ic_1 ?_
  refine z_ist C dX12_isWooed_59 rfl (Nat.le_of_ble_eq_true rfl) rfl ?_
  refine z_iconst (v := 0) C dX12_isWooed_61 ic_0 ?_
  refine z_ist C dX12_isWooed_62 rfl (Nat.le_of_ble_eq_true rfl) rfl ?_
  refine Z.sub [2, 3, 4, 5, 1, 0] rfl ?_
  obtain ⟨y35_, h36_, hf⟩ := ob hf
  suffices K37_ : Z Θ 8 0 0 (zQ Θ ρ) σ 195 [(0, .ref (zA Θ 0)), (1, .int one_a), (2, .int set_a), (3, .int y3_.1), (4, .int (b2i y35_.1)), (5, .int y35_.2)] [] by
    refine loop2_Z (P := fun (is41_ : Bool) (o42_ : Int32) => Z Θ 8 0 0 (zQ Θ ρ) σ 64 [(0, .ref (zA Θ 0)), (1, .int one_a), (2, .int set_a), (3, .int y3_.1), (4, .int (b2i is41_)), (5, .int o42_)] []) ?_ fuelN true 0 h36_
    clear h36_
    intro rec38_ is41_ o42_ h39_ h40_
    refine z_iload C 5 dX12_isWooed_64 rfl ?_
    refine z_aload_n C 0 dX12_isWooed_66 rfl rfl ?_
    refine fg12_7 C hkd dX12_isWooed_67 ?_
    refine z_iconst (v := 3) C dX12_isWooed_70 ic_3 ?_
    obtain ⟨x47_, h48_, h40_⟩ := ob h40_
    refine z_ag C h48_ (kM_1 hkd) dX12_isWooed_71 ?_
    have K45_ : (o42_ < x47_) ∧ (is41_ = true) → Z Θ 8 0 0 (zQ Θ ρ) σ 80 [(0, .ref (zA Θ 0)), (1, .int one_a), (2, .int set_a), (3, .int y3_.1), (4, .int (b2i is41_)), (5, .int o42_)] [] := by
      intro h51_
      rw [if_pos h51_] at h40_
      obtain ⟨k44_, h102_, h40_⟩ := lt_ h40_
      have K43_ : ∀ (is100_ : Bool) (o101_ : Int32), k44_ is100_ o101_ = some y35_ → Z Θ 8 0 0 (zQ Θ ρ) σ 189 [(0, .ref (zA Θ 0)), (1, .int one_a), (2, .int set_a), (3, .int y3_.1), (4, .int (b2i is100_)), (5, .int o101_)] [] := by
        intro is100_ o101_ h40_
        subst h102_
        dsimp only at h40_
        obtain ⟨o103_, h104_, h40_⟩ := lt_ h40_
        refine z_inc C 5 dX12_isWooed_189 rfl ic_1 h104_ (Nat.le_of_ble_eq_true rfl) rfl ?_
        refine z_goto C 64 dX12_isWooed_192 (by decide) ?_
        refine Z.sub [1, 2, 3, 4, 5, 0] rfl ?_
        exact h39_ _ _ h40_
      have K52_j : (o42_ = one_a) ∨ (¬ (q12_isOf (σ 0 21) o42_ = true)) → Z Θ 8 0 0 (zQ Θ ρ) σ 189 [(0, .ref (zA Θ 0)), (1, .int one_a), (2, .int set_a), (3, .int y3_.1), (4, .int (b2i is41_)), (5, .int o42_)] [] := by
        intro h56_
        rw [if_pos h56_] at h40_
        exact K43_ _ _ h40_
      have K52_ : (o42_ = one_a) ∨ (¬ (q12_isOf (σ 0 21) o42_ = true)) → Z Θ 8 0 0 (zQ Θ ρ) σ 98 [(0, .ref (zA Θ 0)), (1, .int one_a), (2, .int set_a), (3, .int y3_.1), (4, .int (b2i is41_)), (5, .int o42_)] [] := by
        intro h56_
        refine z_goto C 189 dX12_isWooed_98 (by decide) ?_
        exact K52_j h56_
      suffices K53_ : ¬ ((o42_ = one_a) ∨ (¬ (q12_isOf (σ 0 21) o42_ = true))) → Z Θ 8 0 0 (zQ Θ ρ) σ 101 [(0, .ref (zA Θ 0)), (1, .int one_a), (2, .int set_a), (3, .int y3_.1), (4, .int (b2i is41_)), (5, .int o42_)] [] by
        refine z_iload C 5 dX12_isWooed_80 rfl ?_
        refine z_iload_n C 1 dX12_isWooed_82 rfl rfl ?_
        refine c_eq_t C 189 dX12_isWooed_83 (by decide) (fun h54_ => ?_) (fun h54_ => ?_)
        · exact K52_j (Or.inl h54_)
        · refine z_aload_n C 0 dX12_isWooed_86 rfl rfl ?_
          refine fg12_269 C hkd dX12_isWooed_87 ?_
          refine z_iload C 5 dX12_isWooed_90 rfl ?_
          refine cr12_275 (set_a := (σ 0 21)) (k_a := o42_) C hkd  ⟨(Nat.le_of_ble_eq_true rfl), (Nat.le_of_ble_eq_true rfl)⟩ (Nat.le_of_ble_eq_true rfl) ⟨Nat.zero_le _, Nat.zero_le _⟩ dX12_isWooed_92 ?_
          refine cb_t C 101 dX12_isWooed_95 (by decide) (fun h55_ => ?_) (fun h55_ => ?_)
          · exact K53_ (fun n => n.elim h54_ (fun n => n h55_))
          · exact K52_ (Or.inr h55_)
      intro h56_
      rw [if_neg h56_] at h40_
      refine z_aload_n C 0 dX12_isWooed_101 rfl rfl ?_
      refine z_iload C 5 dX12_isWooed_102 rfl ?_
      refine z_iconst (v := 0) C dX12_isWooed_104 ic_0 ?_
      refine z_aload_n C 0 dX12_isWooed_105 rfl rfl ?_
      refine fg12_269 C hkd dX12_isWooed_106 ?_
      obtain ⟨x57_, h58_, h40_⟩ := ob h40_
      refine cr12_292 (o_a := o42_) (k_a := 0) (set_a := (σ 0 21)) C hkd  h58_ ⟨(Nat.le_of_ble_eq_true rfl), (Nat.le_of_ble_eq_true rfl)⟩ (Nat.le_of_ble_eq_true rfl) ⟨Nat.zero_le _, Nat.zero_le _⟩ dX12_isWooed_109 ?_
      refine z_ist C dX12_isWooed_112 rfl (Nat.le_of_ble_eq_true rfl) rfl ?_
      refine z_iconst (v := 0) C dX12_isWooed_114 ic_0 ?_
      refine z_ist C dX12_isWooed_115 rfl (Nat.le_of_ble_eq_true rfl) rfl ?_
      refine Z.sub [2, 3, 4, 5, 6, 7, 1, 0] rfl ?_
      obtain ⟨y59_, h60_, h40_⟩ := ob h40_
      suffices K61_ : Z Θ 8 0 0 (zQ Θ ρ) σ 164 [(0, .ref (zA Θ 0)), (1, .int one_a), (2, .int set_a), (3, .int y3_.1), (4, .int (b2i is41_)), (5, .int o42_), (6, .int y59_.1), (7, .int y59_.2)] [] by
        refine loop2_Z (P := fun (its65_ : Int32) (p66_ : Int32) => Z Θ 8 0 0 (zQ Θ ρ) σ 117 [(0, .ref (zA Θ 0)), (1, .int one_a), (2, .int set_a), (3, .int y3_.1), (4, .int (b2i is41_)), (5, .int o42_), (6, .int its65_), (7, .int p66_)] []) ?_ fuelN x57_ 0 h60_
        clear h60_
        intro rec62_ its65_ p66_ h63_ h64_
        refine z_iload C 7 dX12_isWooed_117 rfl ?_
        refine z_aload_n C 0 dX12_isWooed_119 rfl rfl ?_
        refine fg12_7 C hkd dX12_isWooed_120 ?_
        refine z_iconst (v := 3) C dX12_isWooed_123 ic_3 ?_
        obtain ⟨x71_, h72_, h64_⟩ := ob h64_
        refine z_ag C h72_ (kM_1 hkd) dX12_isWooed_124 ?_
        have K69_ : p66_ < x71_ → Z Θ 8 0 0 (zQ Θ ρ) σ 128 [(0, .ref (zA Θ 0)), (1, .int one_a), (2, .int set_a), (3, .int y3_.1), (4, .int (b2i is41_)), (5, .int o42_), (6, .int its65_), (7, .int p66_)] [] := by
          intro h74_
          rw [if_pos h74_] at h64_
          refine z_iload C 6 dX12_isWooed_128 rfl ?_
          obtain ⟨x75_, h76_, h64_⟩ := ob h64_
          suffices K77_ : Z Θ 8 0 0 (zQ Θ ρ) σ 155 [(0, .ref (zA Θ 0)), (1, .int one_a), (2, .int set_a), (3, .int y3_.1), (4, .int (b2i is41_)), (5, .int o42_), (6, .int its65_), (7, .int p66_)] [.int x75_, .int its65_] by
            obtain ⟨t80_, h81_, h76_⟩ := ob h76_
            have K78_ : t80_ = true → Z Θ 8 0 0 (zQ Θ ρ) σ 150 [(0, .ref (zA Θ 0)), (1, .int one_a), (2, .int set_a), (3, .int y3_.1), (4, .int (b2i is41_)), (5, .int o42_), (6, .int its65_), (7, .int p66_)] [.int its65_] := by
              intro h86_
              rw [if_pos h86_] at h76_
              refine z_iconst (v := 1) C dX12_isWooed_150 ic_1 ?_
              refine z_goto C 155 dX12_isWooed_151 (by decide) ?_
              cases h76_
              exact K77_
            have K79_ : ¬ (t80_ = true) → Z Θ 8 0 0 (zQ Θ ρ) σ 154 [(0, .ref (zA Θ 0)), (1, .int one_a), (2, .int set_a), (3, .int y3_.1), (4, .int (b2i is41_)), (5, .int o42_), (6, .int its65_), (7, .int p66_)] [.int its65_] := by
              intro h86_
              rw [if_neg h86_] at h76_
              refine z_iconst (v := 0) C dX12_isWooed_154 ic_0 ?_
              cases h76_
              exact K77_
            refine z_iload_n C 2 dX12_isWooed_130 rfl rfl ?_
            refine z_iload C 7 dX12_isWooed_131 rfl ?_
            refine cr12_275 (set_a := set_a) (k_a := p66_) C hkd  ⟨(Nat.le_of_ble_eq_true rfl), (Nat.le_of_ble_eq_true rfl)⟩ (Nat.le_of_ble_eq_true rfl) ⟨Nat.zero_le _, Nat.zero_le _⟩ dX12_isWooed_133 ?_
            refine cb_f C 154 dX12_isWooed_136 (by decide) (fun h82_ => ?_) (fun h82_ => ?_)
            · rw [if_pos h82_] at h81_
              refine z_aload_n C 0 dX12_isWooed_139 rfl rfl ?_
              refine z_iload C 7 dX12_isWooed_140 rfl ?_
              obtain ⟨x83_, h84_, h81_⟩ := ob h81_
              refine cr12_350 (p_a := p66_) C hkd  h84_ ⟨(Nat.le_of_ble_eq_true rfl), (Nat.le_of_ble_eq_true rfl)⟩ (Nat.le_of_ble_eq_true rfl) ⟨Nat.zero_le _, Nat.zero_le _⟩ dX12_isWooed_142 ?_
              refine z_iload C 5 dX12_isWooed_145 rfl ?_
              refine c_eq_f C 154 dX12_isWooed_147 (by decide) (fun h85_ => ?_) (fun h85_ => ?_)
              · rw [if_pos h85_] at h81_
                cases h81_
                exact K78_ rfl
              · rw [if_neg h85_] at h81_
                cases h81_
                exact K79_ Bool.false_ne_true
            · rw [if_neg h82_] at h81_
              cases h81_
              exact K79_ Bool.false_ne_true
          refine z_isub C dX12_isWooed_155 ?_
          obtain ⟨its87_, h88_, h64_⟩ := lt_ h64_
          refine z_ist C dX12_isWooed_156 h88_ (Nat.le_of_ble_eq_true rfl) rfl ?_
          obtain ⟨p89_, h90_, h64_⟩ := lt_ h64_
          refine z_inc C 7 dX12_isWooed_158 rfl ic_1 h90_ (Nat.le_of_ble_eq_true rfl) rfl ?_
          refine z_goto C 117 dX12_isWooed_161 (by decide) ?_
          refine Z.sub [2, 3, 4, 5, 6, 7, 1, 0] rfl ?_
          exact h63_ _ _ h64_
        have K70_ : ¬ (p66_ < x71_) → Z Θ 8 0 0 (zQ Θ ρ) σ 164 [(0, .ref (zA Θ 0)), (1, .int one_a), (2, .int set_a), (3, .int y3_.1), (4, .int (b2i is41_)), (5, .int o42_), (6, .int its65_), (7, .int p66_)] [] := by
          intro h74_
          rw [if_neg h74_] at h64_
          cases h64_
          exact K61_
        refine c_lt_f C 164 dX12_isWooed_125 (by decide) (fun h73_ => ?_) (fun h73_ => ?_)
        · exact K69_ h73_
        · exact K70_ h73_
      suffices K91_ : Z Θ 8 0 0 (zQ Θ ρ) σ 187 [(0, .ref (zA Θ 0)), (1, .int one_a), (2, .int set_a), (3, .int y3_.1), (4, .int (b2i is41_)), (5, .int o42_), (6, .int y59_.1), (7, .int y59_.2)] [.int (b2i (decide ((y59_.1 < y3_.1) ∨ ((y3_.1 = y59_.1) ∧ (one_a < o42_)))))] by
        have K92_ : (y59_.1 < y3_.1) ∨ ((y3_.1 = y59_.1) ∧ (one_a < o42_)) → Z Θ 8 0 0 (zQ Θ ρ) σ 182 [(0, .ref (zA Θ 0)), (1, .int one_a), (2, .int set_a), (3, .int y3_.1), (4, .int (b2i is41_)), (5, .int o42_), (6, .int y59_.1), (7, .int y59_.2)] [] := by
          intro h97_
          rw [decide_eq_true h97_] at K91_
          refine z_iconst (v := 1) C dX12_isWooed_182 ic_1 ?_
          refine z_goto C 187 dX12_isWooed_183 (by decide) ?_
          exact K91_
        have K93_ : ¬ ((y59_.1 < y3_.1) ∨ ((y3_.1 = y59_.1) ∧ (one_a < o42_))) → Z Θ 8 0 0 (zQ Θ ρ) σ 186 [(0, .ref (zA Θ 0)), (1, .int one_a), (2, .int set_a), (3, .int y3_.1), (4, .int (b2i is41_)), (5, .int o42_), (6, .int y59_.1), (7, .int y59_.2)] [] := by
          intro h97_
          rw [decide_eq_false h97_] at K91_
          refine z_iconst (v := 0) C dX12_isWooed_186 ic_0 ?_
          exact K91_
        refine z_iload_n C 3 dX12_isWooed_164 rfl rfl ?_
        refine z_iload C 6 dX12_isWooed_165 rfl ?_
        refine c_gt_t C 182 dX12_isWooed_167 (by decide) (fun h94_ => ?_) (fun h94_ => ?_)
        · exact K92_ (Or.inl h94_)
        · refine z_iload_n C 3 dX12_isWooed_170 rfl rfl ?_
          refine z_iload C 6 dX12_isWooed_171 rfl ?_
          refine c_eq_f C 186 dX12_isWooed_173 (by decide) (fun h95_ => ?_) (fun h95_ => ?_)
          · refine z_iload_n C 1 dX12_isWooed_176 rfl rfl ?_
            refine z_iload C 5 dX12_isWooed_177 rfl ?_
            refine c_lt_f C 186 dX12_isWooed_179 (by decide) (fun h96_ => ?_) (fun h96_ => ?_)
            · exact K92_ (Or.inr ⟨h95_, h96_⟩)
            · exact K93_ (fun n => n.elim h94_ (fun n => h96_ n.2))
          · exact K93_ (fun n => n.elim h94_ (fun n => h95_ n.1))
      obtain ⟨is98_, h99_, h40_⟩ := lt_ h40_
      refine z_ist C dX12_isWooed_187 (congrArg b2i h99_) (Nat.le_of_ble_eq_true rfl) rfl ?_
      refine Z.sub [1, 2, 3, 4, 0, 5] rfl ?_
      exact K43_ _ _ h40_
    have K46_ : ¬ ((o42_ < x47_) ∧ (is41_ = true)) → Z Θ 8 0 0 (zQ Θ ρ) σ 195 [(0, .ref (zA Θ 0)), (1, .int one_a), (2, .int set_a), (3, .int y3_.1), (4, .int (b2i is41_)), (5, .int o42_)] [] := by
      intro h51_
      rw [if_neg h51_] at h40_
      cases h40_
      exact K37_
    refine c_lt_f C 195 dX12_isWooed_72 (by decide) (fun h49_ => ?_) (fun h49_ => ?_)
    · refine z_iload C 4 dX12_isWooed_75 rfl ?_
      refine cb_f C 195 dX12_isWooed_77 (by decide) (fun h50_ => ?_) (fun h50_ => ?_)
      · exact K45_ ⟨h49_, h50_⟩
      · exact K46_ (fun n => h50_ n.2)
    · exact K46_ (fun n => h49_ n.1)
  refine z_iload C 4 dX12_isWooed_195 rfl ?_
  cases hf
  subst hρ
  exact z_zret C (b2i_narrow _) dX12_isWooed_197
theorem c12_isWooed {l : Launch} {kd : List KD} {w : Wp} {σ : St} {one_a : Int32} {set_a : Int32} (hkd : kd = kdM) (hi : zI kd w) {r : Bool} (hf : q12_isWooed σ one_a set_a = some r) : zM l kd w yX12_isWooed cX12_isWooed 8 (some .boolean) rm12_isWooed [.ref (w.2.2.1 0), .int one_a, .int set_a] σ (some (.int (b2i r)), σ) := zM_of rfl hi (Nat.le_of_ble_eq_true rfl) (fun Θ _ hw C => by
  obtain ⟨Θ1, Θ2, Θ3, Θ4, Θ5⟩ := Θ
  cases hw
  exact p12_isWooed C hkd  hf rfl)
/-! LastLoafModel.wooed -/
theorem w_9_119 : Cond.code ({ cls := "LastLoafModel", name := "isWooed", desc := "(II)Z" } : MethodName) prog_14_method_90_code (8 : Nat) (Option.some ClassFile.FieldType.boolean) ∈ TB := tb_in (lwt_9 (List.mem_of_getElem? (i := 119) (by decide +kernel))) rfl
theorem w_9_116 : Cond.methodLink "LastLoafModel" (380 : Nat) ({ cls := "LastLoafModel", name := "isWooed", desc := "(II)Z" } : MethodName) ∈ TB := tb_in (lwt_9 (List.mem_of_getElem? (i := 116) (by decide +kernel))) rfl
theorem w_9_118 : Cond.instanceMethod ({ cls := "LastLoafModel", name := "isWooed", desc := "(II)Z" } : MethodName) ∈ TB := tb_in (lwt_9 (List.mem_of_getElem? (i := 118) (by decide +kernel))) rfl
theorem ws_LastLoafModel_isWooed_II_Z : Cond.selects "LastLoafModel" (⟨"LastLoafModel", "isWooed", "(II)Z"⟩ : MethodName) (⟨"LastLoafModel", "isWooed", "(II)Z"⟩ : MethodName) ∈ TB := tb_in (List.mem_append_left _ (List.mem_of_getElem? (i := 57) (by decide +kernel))) rfl
theorem cr12_380 {Θ : Tz} {cc : ByteArray} {nL kc ks : Nat} {ret : Option FieldType} {rm : Room} {Q : State → Prop} {σ : St} {pc : Nat} {lv : List (Nat × Value)} {st : List Value} (C : Zc Θ cc nL RX12 ret rm) (hkd : Θ.2.2.2.2.1 = kdM) {one_a : Int32} {set_a : Int32} {r : Bool} (hx : q12_isWooed σ one_a set_a = some r) (hrm : rm12_isWooed.frames + 1 ≤ rm.frames ∧ 8 + (8 + 11) + rm12_isWooed.locals ≤ rm.locals) (hcat : (st.map fun v => v.category).sum ≤ 8) (hk : kc ≤ rm.cells ∧ ks ≤ rm.slots) (hd : decode cc pc = .ok (.invokevirtual 380, 3)) (kk : Z Θ nL kc ks Q σ (pc + 3) lv (.int (b2i r) :: st)) : Z Θ nL kc ks Q σ pc lv (.int set_a :: .int one_a :: .ref (zA Θ 0) :: st) := z_callV C 0 [.int one_a, .int set_a] (some (.int (b2i r)), σ) 2 (kM_0 hkd) rfl (c12_isWooed (one_a := one_a) (set_a := set_a) hkd (zc_inj C) hx) w_9_119 w_9_116 w_9_118 ws_LastLoafModel_isWooed_II_Z w_1_14 ⟨rfl, rfl, hrm.1, hrm.2⟩ (by decide +kernel) rfl rfl hcat hk hd kk
theorem dX12_wooed_0 : decode cX12_wooed 0 = .ok (.iconst (-1), 1) := by decide +kernel
theorem dX12_wooed_1 : decode cX12_wooed 1 = .ok (.istore_n 2, 1) := by decide +kernel
theorem dX12_wooed_2 : decode cX12_wooed 2 = .ok (.iconst 0, 1) := by decide +kernel
theorem dX12_wooed_3 : decode cX12_wooed 3 = .ok (.istore_n 3, 1) := by decide +kernel
theorem dX12_wooed_4 : decode cX12_wooed 4 = .ok (.iload_n 3, 1) := by decide +kernel
theorem dX12_wooed_5 : decode cX12_wooed 5 = .ok (.aload_n 0, 1) := by decide +kernel
theorem dX12_wooed_6 : decode cX12_wooed 6 = .ok (.getfield 263, 3) := by decide +kernel
theorem dX12_wooed_9 : decode cX12_wooed 9 = .ok (.if_icmp .gt 47, 3) := by decide +kernel
theorem dX12_wooed_12 : decode cX12_wooed 12 = .ok (.iload_n 3, 1) := by decide +kernel
theorem dX12_wooed_13 : decode cX12_wooed 13 = .ok (.aload_n 0, 1) := by decide +kernel
theorem dX12_wooed_14 : decode cX12_wooed 14 = .ok (.getfield 263, 3) := by decide +kernel
theorem dX12_wooed_17 : decode cX12_wooed 17 = .ok (.iconst (-1), 1) := by decide +kernel
theorem dX12_wooed_18 : decode cX12_wooed 18 = .ok (.ixor, 1) := by decide +kernel
theorem dX12_wooed_19 : decode cX12_wooed 19 = .ok (.iand, 1) := by decide +kernel
theorem dX12_wooed_20 : decode cX12_wooed 20 = .ok (.ifCond .ne 30, 3) := by decide +kernel
theorem dX12_wooed_23 : decode cX12_wooed 23 = .ok (.iload_n 2, 1) := by decide +kernel
theorem dX12_wooed_24 : decode cX12_wooed 24 = .ok (.iconst (-1), 1) := by decide +kernel
theorem dX12_wooed_25 : decode cX12_wooed 25 = .ok (.if_icmp .eq 14, 3) := by decide +kernel
theorem dX12_wooed_28 : decode cX12_wooed 28 = .ok (.iload_n 3, 1) := by decide +kernel
theorem dX12_wooed_29 : decode cX12_wooed 29 = .ok (.invokestatic 286, 3) := by decide +kernel
theorem dX12_wooed_32 : decode cX12_wooed 32 = .ok (.iload_n 2, 1) := by decide +kernel
theorem dX12_wooed_33 : decode cX12_wooed 33 = .ok (.invokestatic 286, 3) := by decide +kernel
theorem dX12_wooed_36 : decode cX12_wooed 36 = .ok (.if_icmp .ge 14, 3) := by decide +kernel
theorem dX12_wooed_39 : decode cX12_wooed 39 = .ok (.aload_n 0, 1) := by decide +kernel
theorem dX12_wooed_40 : decode cX12_wooed 40 = .ok (.iload_n 1, 1) := by decide +kernel
theorem dX12_wooed_41 : decode cX12_wooed 41 = .ok (.iload_n 3, 1) := by decide +kernel
theorem dX12_wooed_42 : decode cX12_wooed 42 = .ok (.invokevirtual 380, 3) := by decide +kernel
theorem dX12_wooed_45 : decode cX12_wooed 45 = .ok (.ifCond .eq 5, 3) := by decide +kernel
theorem dX12_wooed_48 : decode cX12_wooed 48 = .ok (.iload_n 3, 1) := by decide +kernel
theorem dX12_wooed_49 : decode cX12_wooed 49 = .ok (.istore_n 2, 1) := by decide +kernel
theorem dX12_wooed_50 : decode cX12_wooed 50 = .ok (.iinc 3 1, 3) := by decide +kernel
theorem dX12_wooed_53 : decode cX12_wooed 53 = .ok (.goto (-49), 3) := by decide +kernel
theorem dX12_wooed_56 : decode cX12_wooed 56 = .ok (.iload_n 2, 1) := by decide +kernel
theorem dX12_wooed_57 : decode cX12_wooed 57 = .ok (.ireturn, 1) := by decide +kernel
def q12_wooed (σ : St) (one_a : Int32) : Option Int32 :=
  Option.bind (loop2 (fun rec4_ (found7_ : Int32) (set8_ : Int32) =>
  if set8_ ≤ (σ 0 20) then
  Option.bind (Option.bind (Option.bind (if (set8_ &&& ((σ 0 20) ^^^ (-1))) = 0 then (if found7_ = (-1) then (some true) else (Option.bind (q12_bits set8_) fun x28_ =>
  Option.bind (q12_bits found7_) fun x30_ =>
  if x28_ < x30_ then (some true) else (some false))) else (some false)) fun t24_ =>
  if t24_ = true then (Option.bind (q12_isWooed σ one_a set8_) fun x34_ =>
  if x34_ = true then (some true) else (some false)) else (some false)) fun t20_ =>
  if t20_ = true then (some (set8_)) else (some (found7_))) fun y15_ =>
  lt (set8_ + 1) fun set38_ =>
  rec4_ y15_ set38_
  else (some (found7_, set8_))) fuelN (-1) 0) fun y1_ =>
  some y1_.1
abbrev rm12_wooed : Room := { frames := 5, cells := 0, slots := 0, locals := 122 }
set_option maxHeartbeats 4000000 in
set_option maxRecDepth 100000 in
theorem p12_wooed {Θ : Tz} {σ : St} {ρ : Option Value × St} (C : Zc Θ cX12_wooed 4 RX12 (some .int) rm12_wooed) (hkd : Θ.2.2.2.2.1 = kdM) {one_a : Int32} {r : Int32} (hf : q12_wooed σ one_a = some r) (hρ : ρ = (some (.int r), σ)) : Z Θ 4 0 0 (zQ Θ ρ) σ 0 [(0, .ref (zA Θ 0)), (1, .int one_a)] [] := by
  unfold q12_wooed at hf
  refine z_iconst (v := (-1)) C dX12_wooed_0 ic_m1 ?_
  refine z_istN C dX12_wooed_1 rfl rfl (Nat.le_of_ble_eq_true rfl) rfl ?_
  refine z_iconst (v := 0) C dX12_wooed_2 ic_0 ?_
  refine z_istN C dX12_wooed_3 rfl rfl (Nat.le_of_ble_eq_true rfl) rfl ?_
  refine Z.sub [2, 3, 1, 0] rfl ?_
  obtain ⟨y1_, h2_, hf⟩ := ob hf
  suffices K3_ : Z Θ 4 0 0 (zQ Θ ρ) σ 56 [(0, .ref (zA Θ 0)), (1, .int one_a), (2, .int y1_.1), (3, .int y1_.2)] [] by
    refine loop2_Z (P := fun (found7_ : Int32) (set8_ : Int32) => Z Θ 4 0 0 (zQ Θ ρ) σ 4 [(0, .ref (zA Θ 0)), (1, .int one_a), (2, .int found7_), (3, .int set8_)] []) ?_ fuelN (-1) 0 h2_
    clear h2_
    intro rec4_ found7_ set8_ h5_ h6_
    have K11_ : set8_ ≤ (σ 0 20) → Z Θ 4 0 0 (zQ Θ ρ) σ 12 [(0, .ref (zA Θ 0)), (1, .int one_a), (2, .int found7_), (3, .int set8_)] [] := by
      intro h14_
      rw [if_pos h14_] at h6_
      obtain ⟨y15_, h16_, h6_⟩ := ob h6_
      suffices K17_ : Z Θ 4 0 0 (zQ Θ ρ) σ 50 [(0, .ref (zA Θ 0)), (1, .int one_a), (2, .int y15_), (3, .int set8_)] [] by
        obtain ⟨t20_, h21_, h16_⟩ := ob h16_
        have K18_ : t20_ = true → Z Θ 4 0 0 (zQ Θ ρ) σ 48 [(0, .ref (zA Θ 0)), (1, .int one_a), (2, .int found7_), (3, .int set8_)] [] := by
          intro h37_
          rw [if_pos h37_] at h16_
          refine z_iload_n C 3 dX12_wooed_48 rfl rfl ?_
          refine z_istN C dX12_wooed_49 rfl rfl (Nat.le_of_ble_eq_true rfl) rfl ?_
          cases h16_
          refine Z.sub [1, 2, 0, 3] rfl ?_
          exact K17_
        have K19_ : ¬ (t20_ = true) → Z Θ 4 0 0 (zQ Θ ρ) σ 50 [(0, .ref (zA Θ 0)), (1, .int one_a), (2, .int found7_), (3, .int set8_)] [] := by
          intro h37_
          rw [if_neg h37_] at h16_
          cases h16_
          exact K17_
        obtain ⟨t24_, h25_, h21_⟩ := ob h21_
        have K22_ : t24_ = true → Z Θ 4 0 0 (zQ Θ ρ) σ 39 [(0, .ref (zA Θ 0)), (1, .int one_a), (2, .int found7_), (3, .int set8_)] [] := by
          intro h33_
          rw [if_pos h33_] at h21_
          refine z_aload_n C 0 dX12_wooed_39 rfl rfl ?_
          refine z_iload_n C 1 dX12_wooed_40 rfl rfl ?_
          refine z_iload_n C 3 dX12_wooed_41 rfl rfl ?_
          obtain ⟨x34_, h35_, h21_⟩ := ob h21_
          refine cr12_380 (one_a := one_a) (set_a := set8_) C hkd  h35_ ⟨(Nat.le_of_ble_eq_true rfl), (Nat.le_of_ble_eq_true rfl)⟩ (Nat.le_of_ble_eq_true rfl) ⟨Nat.zero_le _, Nat.zero_le _⟩ dX12_wooed_42 ?_
          refine cb_f C 50 dX12_wooed_45 (by decide) (fun h36_ => ?_) (fun h36_ => ?_)
          · rw [if_pos h36_] at h21_
            cases h21_
            exact K18_ rfl
          · rw [if_neg h36_] at h21_
            cases h21_
            exact K19_ Bool.false_ne_true
        have K23_ : ¬ (t24_ = true) → Z Θ 4 0 0 (zQ Θ ρ) σ 50 [(0, .ref (zA Θ 0)), (1, .int one_a), (2, .int found7_), (3, .int set8_)] [] := by
          intro h33_
          rw [if_neg h33_] at h21_
          cases h21_
          exact K19_ Bool.false_ne_true
        refine z_iload_n C 3 dX12_wooed_12 rfl rfl ?_
        refine z_aload_n C 0 dX12_wooed_13 rfl rfl ?_
        refine fg12_263 C hkd dX12_wooed_14 ?_
        refine z_iconst (v := (-1)) C dX12_wooed_17 ic_m1 ?_
        refine z_ixor C dX12_wooed_18 ?_
        refine z_iand C dX12_wooed_19 ?_
        refine c0_eq_f C 50 dX12_wooed_20 (by decide) (fun h26_ => ?_) (fun h26_ => ?_)
        · rw [if_pos h26_] at h25_
          refine z_iload_n C 2 dX12_wooed_23 rfl rfl ?_
          refine z_iconst (v := (-1)) C dX12_wooed_24 ic_m1 ?_
          refine c_eq_t C 39 dX12_wooed_25 (by decide) (fun h27_ => ?_) (fun h27_ => ?_)
          · rw [if_pos h27_] at h25_
            cases h25_
            exact K22_ rfl
          · rw [if_neg h27_] at h25_
            refine z_iload_n C 3 dX12_wooed_28 rfl rfl ?_
            obtain ⟨x28_, h29_, h25_⟩ := ob h25_
            refine cr12_286 (set_a := set8_) C hkd  h29_ ⟨(Nat.le_of_ble_eq_true rfl), (Nat.le_of_ble_eq_true rfl)⟩ (Nat.le_of_ble_eq_true rfl) ⟨Nat.zero_le _, Nat.zero_le _⟩ dX12_wooed_29 ?_
            refine z_iload_n C 2 dX12_wooed_32 rfl rfl ?_
            obtain ⟨x30_, h31_, h25_⟩ := ob h25_
            refine cr12_286 (set_a := found7_) C hkd  h31_ ⟨(Nat.le_of_ble_eq_true rfl), (Nat.le_of_ble_eq_true rfl)⟩ (Nat.le_of_ble_eq_true rfl) ⟨Nat.zero_le _, Nat.zero_le _⟩ dX12_wooed_33 ?_
            refine c_lt_f C 50 dX12_wooed_36 (by decide) (fun h32_ => ?_) (fun h32_ => ?_)
            · rw [if_pos h32_] at h25_
              cases h25_
              exact K22_ rfl
            · rw [if_neg h32_] at h25_
              cases h25_
              exact K23_ Bool.false_ne_true
        · rw [if_neg h26_] at h25_
          cases h25_
          exact K23_ Bool.false_ne_true
      obtain ⟨set38_, h39_, h6_⟩ := lt_ h6_
      refine z_inc C 3 dX12_wooed_50 rfl ic_1 h39_ (Nat.le_of_ble_eq_true rfl) rfl ?_
      refine z_goto C 4 dX12_wooed_53 (by decide) ?_
      refine Z.sub [1, 2, 3, 0] rfl ?_
      exact h5_ _ _ h6_
    have K12_ : ¬ (set8_ ≤ (σ 0 20)) → Z Θ 4 0 0 (zQ Θ ρ) σ 56 [(0, .ref (zA Θ 0)), (1, .int one_a), (2, .int found7_), (3, .int set8_)] [] := by
      intro h14_
      rw [if_neg h14_] at h6_
      cases h6_
      exact K3_
    refine z_iload_n C 3 dX12_wooed_4 rfl rfl ?_
    refine z_aload_n C 0 dX12_wooed_5 rfl rfl ?_
    refine fg12_263 C hkd dX12_wooed_6 ?_
    refine c_le_f C 56 dX12_wooed_9 (by decide) (fun h13_ => ?_) (fun h13_ => ?_)
    · exact K11_ h13_
    · exact K12_ h13_
  refine z_iload_n C 2 dX12_wooed_56 rfl rfl ?_
  cases hf
  subst hρ
  exact z_iret C dX12_wooed_57
theorem c12_wooed {l : Launch} {kd : List KD} {w : Wp} {σ : St} {one_a : Int32} (hkd : kd = kdM) (hi : zI kd w) {r : Int32} (hf : q12_wooed σ one_a = some r) : zM l kd w yX12_wooed cX12_wooed 4 (some .int) rm12_wooed [.ref (w.2.2.1 0), .int one_a] σ (some (.int r), σ) := zM_of rfl hi (Nat.le_of_ble_eq_true rfl) (fun Θ _ hw C => by
  obtain ⟨Θ1, Θ2, Θ3, Θ4, Θ5⟩ := Θ
  cases hw
  exact p12_wooed C hkd  hf rfl)
/-! LastLoafModel.areTwo -/
theorem w_9_53 : Cond.code ({ cls := "LastLoafModel", name := "isOne", desc := "(I)Z" } : MethodName) prog_14_method_11_code (2 : Nat) (Option.some ClassFile.FieldType.boolean) ∈ TB := tb_in (lwt_9 (List.mem_of_getElem? (i := 53) (by decide +kernel))) rfl
theorem w_9_50 : Cond.methodLink "LastLoafModel" (347 : Nat) ({ cls := "LastLoafModel", name := "isOne", desc := "(I)Z" } : MethodName) ∈ TB := tb_in (lwt_9 (List.mem_of_getElem? (i := 50) (by decide +kernel))) rfl
theorem w_9_52 : Cond.instanceMethod ({ cls := "LastLoafModel", name := "isOne", desc := "(I)Z" } : MethodName) ∈ TB := tb_in (lwt_9 (List.mem_of_getElem? (i := 52) (by decide +kernel))) rfl
theorem ws_LastLoafModel_isOne_I_Z : Cond.selects "LastLoafModel" (⟨"LastLoafModel", "isOne", "(I)Z"⟩ : MethodName) (⟨"LastLoafModel", "isOne", "(I)Z"⟩ : MethodName) ∈ TB := tb_in (List.mem_append_left _ (List.mem_of_getElem? (i := 42) (by decide +kernel))) rfl
theorem cr12_347 {Θ : Tz} {cc : ByteArray} {nL kc ks : Nat} {ret : Option FieldType} {rm : Room} {Q : State → Prop} {σ : St} {pc : Nat} {lv : List (Nat × Value)} {st : List Value} (C : Zc Θ cc nL RX12 ret rm) (hkd : Θ.2.2.2.2.1 = kdM) {p_a : Int32} {r : Bool} (hx : q12_isOne σ p_a = some r) (hrm : rm12_isOne.frames + 1 ≤ rm.frames ∧ 8 + (2 + 11) + rm12_isOne.locals ≤ rm.locals) (hcat : (st.map fun v => v.category).sum ≤ 8) (hk : kc ≤ rm.cells ∧ ks ≤ rm.slots) (hd : decode cc pc = .ok (.invokevirtual 347, 3)) (kk : Z Θ nL kc ks Q σ (pc + 3) lv (.int (b2i r) :: st)) : Z Θ nL kc ks Q σ pc lv (.int p_a :: .ref (zA Θ 0) :: st) := z_callV C 0 [.int p_a] (some (.int (b2i r)), σ) 1 (kM_0 hkd) rfl (c12_isOne (p_a := p_a) hkd (zc_inj C) hx) w_9_53 w_9_50 w_9_52 ws_LastLoafModel_isOne_I_Z w_1_14 ⟨rfl, rfl, hrm.1, hrm.2⟩ (by decide +kernel) rfl rfl hcat hk hd kk
theorem dX12_areTwo_0 : decode cX12_areTwo 0 = .ok (.aload_n 0, 1) := by decide +kernel
theorem dX12_areTwo_1 : decode cX12_areTwo 1 = .ok (.aload_n 0, 1) := by decide +kernel
theorem dX12_areTwo_2 : decode cX12_areTwo 2 = .ok (.iload_n 1, 1) := by decide +kernel
theorem dX12_areTwo_3 : decode cX12_areTwo 3 = .ok (.invokevirtual 347, 3) := by decide +kernel
theorem dX12_areTwo_6 : decode cX12_areTwo 6 = .ok (.ifCond .eq 11, 3) := by decide +kernel
theorem dX12_areTwo_9 : decode cX12_areTwo 9 = .ok (.aload_n 0, 1) := by decide +kernel
theorem dX12_areTwo_10 : decode cX12_areTwo 10 = .ok (.iload_n 2, 1) := by decide +kernel
theorem dX12_areTwo_11 : decode cX12_areTwo 11 = .ok (.invokevirtual 347, 3) := by decide +kernel
theorem dX12_areTwo_14 : decode cX12_areTwo 14 = .ok (.ifCond .ne 7, 3) := by decide +kernel
theorem dX12_areTwo_17 : decode cX12_areTwo 17 = .ok (.iconst 1, 1) := by decide +kernel
theorem dX12_areTwo_18 : decode cX12_areTwo 18 = .ok (.goto 13, 3) := by decide +kernel
theorem dX12_areTwo_21 : decode cX12_areTwo 21 = .ok (.iload_n 1, 1) := by decide +kernel
theorem dX12_areTwo_22 : decode cX12_areTwo 22 = .ok (.iload_n 2, 1) := by decide +kernel
theorem dX12_areTwo_23 : decode cX12_areTwo 23 = .ok (.if_icmp .ne 7, 3) := by decide +kernel
theorem dX12_areTwo_26 : decode cX12_areTwo 26 = .ok (.iconst 2, 1) := by decide +kernel
theorem dX12_areTwo_27 : decode cX12_areTwo 27 = .ok (.goto 4, 3) := by decide +kernel
theorem dX12_areTwo_30 : decode cX12_areTwo 30 = .ok (.iconst 0, 1) := by decide +kernel
theorem dX12_areTwo_31 : decode cX12_areTwo 31 = .ok (.putfield 65, 3) := by decide +kernel
theorem dX12_areTwo_34 : decode cX12_areTwo 34 = .ok (.return_, 1) := by decide +kernel
def q12_areTwo (σ : St) (p_a : Int32) (o_a : Int32) : Option St :=
  Option.bind (Option.bind (Option.bind (q12_isOne σ p_a) fun x8_ =>
  if x8_ = true then (Option.bind (q12_isOne σ o_a) fun x11_ =>
  if x11_ = true then (some false) else (some true)) else (some true)) fun t6_ =>
  if t6_ = true then (some 1) else (some (if p_a = o_a then 2 else 0))) fun x1_ =>
  lt (up σ 0 0 x1_) fun σ20_ =>
  some σ20_
abbrev rm12_areTwo : Room := { frames := 2, cells := 0, slots := 0, locals := 43 }
set_option maxHeartbeats 4000000 in
set_option maxRecDepth 100000 in
theorem p12_areTwo {Θ : Tz} {σ : St} {ρ : Option Value × St} (C : Zc Θ cX12_areTwo 3 RX12 none rm12_areTwo) (hkd : Θ.2.2.2.2.1 = kdM) {p_a : Int32} {o_a : Int32} {r : St} (hf : q12_areTwo σ p_a o_a = some r) (hρ : ρ = (none, r)) : Z Θ 3 0 0 (zQ Θ ρ) σ 0 [(0, .ref (zA Θ 0)), (1, .int p_a), (2, .int o_a)] [] := by
  unfold q12_areTwo at hf
  refine z_aload_n C 0 dX12_areTwo_0 rfl rfl ?_
  obtain ⟨x1_, h2_, hf⟩ := ob hf
  suffices K3_ : Z Θ 3 0 0 (zQ Θ ρ) σ 31 [(0, .ref (zA Θ 0)), (1, .int p_a), (2, .int o_a)] [.int x1_, .ref (zA Θ 0)] by
    obtain ⟨t6_, h7_, h2_⟩ := ob h2_
    have K4_ : t6_ = true → Z Θ 3 0 0 (zQ Θ ρ) σ 17 [(0, .ref (zA Θ 0)), (1, .int p_a), (2, .int o_a)] [.ref (zA Θ 0)] := by
      intro h19_
      rw [if_pos h19_] at h2_
      refine z_iconst (v := 1) C dX12_areTwo_17 ic_1 ?_
      refine z_goto C 31 dX12_areTwo_18 (by decide) ?_
      cases h2_
      exact K3_
    have K5_ : ¬ (t6_ = true) → Z Θ 3 0 0 (zQ Θ ρ) σ 21 [(0, .ref (zA Θ 0)), (1, .int p_a), (2, .int o_a)] [.ref (zA Θ 0)] := by
      intro h19_
      rw [if_neg h19_] at h2_
      suffices K14_ : Z Θ 3 0 0 (zQ Θ ρ) σ 31 [(0, .ref (zA Θ 0)), (1, .int p_a), (2, .int o_a)] [.int (if p_a = o_a then 2 else 0), .ref (zA Θ 0)] by
        have K15_ : p_a = o_a → Z Θ 3 0 0 (zQ Θ ρ) σ 26 [(0, .ref (zA Θ 0)), (1, .int p_a), (2, .int o_a)] [.ref (zA Θ 0)] := by
          intro h18_
          rw [if_pos h18_] at K14_
          refine z_iconst (v := 2) C dX12_areTwo_26 ic_2 ?_
          refine z_goto C 31 dX12_areTwo_27 (by decide) ?_
          exact K14_
        have K16_ : ¬ (p_a = o_a) → Z Θ 3 0 0 (zQ Θ ρ) σ 30 [(0, .ref (zA Θ 0)), (1, .int p_a), (2, .int o_a)] [.ref (zA Θ 0)] := by
          intro h18_
          rw [if_neg h18_] at K14_
          refine z_iconst (v := 0) C dX12_areTwo_30 ic_0 ?_
          exact K14_
        refine z_iload_n C 1 dX12_areTwo_21 rfl rfl ?_
        refine z_iload_n C 2 dX12_areTwo_22 rfl rfl ?_
        refine c_eq_f C 30 dX12_areTwo_23 (by decide) (fun h17_ => ?_) (fun h17_ => ?_)
        · exact K15_ h17_
        · exact K16_ h17_
      cases h2_
      exact K3_
    refine z_aload_n C 0 dX12_areTwo_1 rfl rfl ?_
    refine z_iload_n C 1 dX12_areTwo_2 rfl rfl ?_
    obtain ⟨x8_, h9_, h7_⟩ := ob h7_
    refine cr12_347 (p_a := p_a) C hkd  h9_ ⟨(Nat.le_of_ble_eq_true rfl), (Nat.le_of_ble_eq_true rfl)⟩ (Nat.le_of_ble_eq_true rfl) ⟨Nat.zero_le _, Nat.zero_le _⟩ dX12_areTwo_3 ?_
    refine cb_f C 17 dX12_areTwo_6 (by decide) (fun h10_ => ?_) (fun h10_ => ?_)
    · rw [if_pos h10_] at h7_
      refine z_aload_n C 0 dX12_areTwo_9 rfl rfl ?_
      refine z_iload_n C 2 dX12_areTwo_10 rfl rfl ?_
      obtain ⟨x11_, h12_, h7_⟩ := ob h7_
      refine cr12_347 (p_a := o_a) C hkd  h12_ ⟨(Nat.le_of_ble_eq_true rfl), (Nat.le_of_ble_eq_true rfl)⟩ (Nat.le_of_ble_eq_true rfl) ⟨Nat.zero_le _, Nat.zero_le _⟩ dX12_areTwo_11 ?_
      refine cb_t C 21 dX12_areTwo_14 (by decide) (fun h13_ => ?_) (fun h13_ => ?_)
      · rw [if_pos h13_] at h7_
        cases h7_
        exact K5_ Bool.false_ne_true
      · rw [if_neg h13_] at h7_
        cases h7_
        exact K4_ rfl
    · rw [if_neg h10_] at h7_
      cases h7_
      exact K4_ rfl
  obtain ⟨σ20_, h21_, hf⟩ := lt_ hf
  refine fp12_65 C hkd h21_ dX12_areTwo_31 ?_
  cases hf
  subst hρ
  exact z_vret C dX12_areTwo_34
theorem c12_areTwo {l : Launch} {kd : List KD} {w : Wp} {σ : St} {p_a : Int32} {o_a : Int32} (hkd : kd = kdM) (hi : zI kd w) {r : St} (hf : q12_areTwo σ p_a o_a = some r) : zM l kd w yX12_areTwo cX12_areTwo 3 none rm12_areTwo [.ref (w.2.2.1 0), .int p_a, .int o_a] σ (none, r) := zM_of rfl hi (Nat.le_of_ble_eq_true rfl) (fun Θ _ hw C => by
  obtain ⟨Θ1, Θ2, Θ3, Θ4, Θ5⟩ := Θ
  cases hw
  exact p12_areTwo C hkd  hf rfl)
/-! LastLoafModel.likes -/
theorem w_9_135 : Cond.code ({ cls := "LastLoafModel", name := "areTwo", desc := "(II)V" } : MethodName) prog_14_method_68_code (3 : Nat) (Option.none : Option ClassFile.FieldType) ∈ TB := tb_in (lwt_9 (List.mem_of_getElem? (i := 135) (by decide +kernel))) rfl
theorem w_9_132 : Cond.methodLink "LastLoafModel" (362 : Nat) ({ cls := "LastLoafModel", name := "areTwo", desc := "(II)V" } : MethodName) ∈ TB := tb_in (lwt_9 (List.mem_of_getElem? (i := 132) (by decide +kernel))) rfl
theorem w_9_134 : Cond.instanceMethod ({ cls := "LastLoafModel", name := "areTwo", desc := "(II)V" } : MethodName) ∈ TB := tb_in (lwt_9 (List.mem_of_getElem? (i := 134) (by decide +kernel))) rfl
theorem ws_LastLoafModel_areTwo_II_V : Cond.selects "LastLoafModel" (⟨"LastLoafModel", "areTwo", "(II)V"⟩ : MethodName) (⟨"LastLoafModel", "areTwo", "(II)V"⟩ : MethodName) ∈ TB := tb_in (List.mem_append_left _ (List.mem_of_getElem? (i := 60) (by decide +kernel))) rfl
theorem cr12_362 {Θ : Tz} {cc : ByteArray} {nL kc ks : Nat} {ret : Option FieldType} {rm : Room} {Q : State → Prop} {σ : St} {pc : Nat} {lv : List (Nat × Value)} {st : List Value} (C : Zc Θ cc nL RX12 ret rm) (hkd : Θ.2.2.2.2.1 = kdM) {p_a : Int32} {o_a : Int32} {r : St} (hx : q12_areTwo σ p_a o_a = some r) (hrm : rm12_areTwo.frames + 1 ≤ rm.frames ∧ 8 + (3 + 11) + rm12_areTwo.locals ≤ rm.locals) (hcat : (st.map fun v => v.category).sum ≤ 8) (hk : kc ≤ rm.cells ∧ ks ≤ rm.slots) (hd : decode cc pc = .ok (.invokevirtual 362, 3)) (kk : Z Θ nL kc ks Q r (pc + 3) lv st) : Z Θ nL kc ks Q σ pc lv (.int o_a :: .int p_a :: .ref (zA Θ 0) :: st) := z_callV C 0 [.int p_a, .int o_a] (none, r) 2 (kM_0 hkd) rfl (c12_areTwo (p_a := p_a) (o_a := o_a) hkd (zc_inj C) hx) w_9_135 w_9_132 w_9_134 ws_LastLoafModel_areTwo_II_V w_1_14 ⟨rfl, rfl, hrm.1, hrm.2⟩ (by decide +kernel) rfl rfl hcat hk hd kk
theorem dX12_likes_0 : decode cX12_likes 0 = .ok (.aload_n 0, 1) := by decide +kernel
theorem dX12_likes_1 : decode cX12_likes 1 = .ok (.iload_n 1, 1) := by decide +kernel
theorem dX12_likes_2 : decode cX12_likes 2 = .ok (.iload_n 2, 1) := by decide +kernel
theorem dX12_likes_3 : decode cX12_likes 3 = .ok (.invokevirtual 362, 3) := by decide +kernel
theorem dX12_likes_6 : decode cX12_likes 6 = .ok (.aload_n 0, 1) := by decide +kernel
theorem dX12_likes_7 : decode cX12_likes 7 = .ok (.getfield 65, 3) := by decide +kernel
theorem dX12_likes_10 : decode cX12_likes 10 = .ok (.ifCond .le 7, 3) := by decide +kernel
theorem dX12_likes_13 : decode cX12_likes 13 = .ok (.iconst 0, 1) := by decide +kernel
theorem dX12_likes_14 : decode cX12_likes 14 = .ok (.goto 9, 3) := by decide +kernel
theorem dX12_likes_17 : decode cX12_likes 17 = .ok (.aload_n 0, 1) := by decide +kernel
theorem dX12_likes_18 : decode cX12_likes 18 = .ok (.iload_n 1, 1) := by decide +kernel
theorem dX12_likes_19 : decode cX12_likes 19 = .ok (.iload_n 2, 1) := by decide +kernel
theorem dX12_likes_20 : decode cX12_likes 20 = .ok (.invokevirtual 260, 3) := by decide +kernel
theorem dX12_likes_23 : decode cX12_likes 23 = .ok (.ireturn, 1) := by decide +kernel
def q12_likes (σ : St) (p_a : Int32) (o_a : Int32) : Option (Int32 × St) :=
  Option.bind (q12_areTwo σ p_a o_a) fun x1_ =>
  Option.bind (if 0 < (x1_ 0 0) then (some 0) else (Option.bind (q12_liking x1_ p_a o_a) fun x9_ =>
  some x9_)) fun x3_ =>
  some (x3_, x1_)
abbrev rm12_likes : Room := { frames := 3, cells := 0, slots := 0, locals := 65 }
set_option maxHeartbeats 4000000 in
set_option maxRecDepth 100000 in
theorem p12_likes {Θ : Tz} {σ : St} {ρ : Option Value × St} (C : Zc Θ cX12_likes 3 RX12 (some .int) rm12_likes) (hkd : Θ.2.2.2.2.1 = kdM) {p_a : Int32} {o_a : Int32} {r : (Int32 × St)} (hf : q12_likes σ p_a o_a = some r) (hρ : ρ = (some (.int r.1), r.2)) : Z Θ 3 0 0 (zQ Θ ρ) σ 0 [(0, .ref (zA Θ 0)), (1, .int p_a), (2, .int o_a)] [] := by
  unfold q12_likes at hf
  refine z_aload_n C 0 dX12_likes_0 rfl rfl ?_
  refine z_iload_n C 1 dX12_likes_1 rfl rfl ?_
  refine z_iload_n C 2 dX12_likes_2 rfl rfl ?_
  obtain ⟨x1_, h2_, hf⟩ := ob hf
  refine cr12_362 (p_a := p_a) (o_a := o_a) C hkd  h2_ ⟨(Nat.le_of_ble_eq_true rfl), (Nat.le_of_ble_eq_true rfl)⟩ (Nat.le_of_ble_eq_true rfl) ⟨Nat.zero_le _, Nat.zero_le _⟩ dX12_likes_3 ?_
  obtain ⟨x3_, h4_, hf⟩ := ob hf
  suffices K5_ : Z Θ 3 0 0 (zQ Θ ρ) x1_ 23 [(0, .ref (zA Θ 0)), (1, .int p_a), (2, .int o_a)] [.int x3_] by
    have K6_ : 0 < (x1_ 0 0) → Z Θ 3 0 0 (zQ Θ ρ) x1_ 13 [(0, .ref (zA Θ 0)), (1, .int p_a), (2, .int o_a)] [] := by
      intro h11_
      rw [if_pos h11_] at h4_
      refine z_iconst (v := 0) C dX12_likes_13 ic_0 ?_
      refine z_goto C 23 dX12_likes_14 (by decide) ?_
      cases h4_
      exact K5_
    have K7_ : ¬ (0 < (x1_ 0 0)) → Z Θ 3 0 0 (zQ Θ ρ) x1_ 17 [(0, .ref (zA Θ 0)), (1, .int p_a), (2, .int o_a)] [] := by
      intro h11_
      rw [if_neg h11_] at h4_
      refine z_aload_n C 0 dX12_likes_17 rfl rfl ?_
      refine z_iload_n C 1 dX12_likes_18 rfl rfl ?_
      refine z_iload_n C 2 dX12_likes_19 rfl rfl ?_
      obtain ⟨x9_, h10_, h4_⟩ := ob h4_
      refine cr12_260 (p_a := p_a) (o_a := o_a) C hkd  h10_ ⟨(Nat.le_of_ble_eq_true rfl), (Nat.le_of_ble_eq_true rfl)⟩ (Nat.le_of_ble_eq_true rfl) ⟨Nat.zero_le _, Nat.zero_le _⟩ dX12_likes_20 ?_
      cases h4_
      exact K5_
    refine z_aload_n C 0 dX12_likes_6 rfl rfl ?_
    refine fg12_65 C hkd dX12_likes_7 ?_
    refine c0_gt_f C 17 dX12_likes_10 (by decide) (fun h8_ => ?_) (fun h8_ => ?_)
    · exact K6_ h8_
    · exact K7_ h8_
  cases hf
  subst hρ
  exact z_iret C dX12_likes_23
theorem c12_likes {l : Launch} {kd : List KD} {w : Wp} {σ : St} {p_a : Int32} {o_a : Int32} (hkd : kd = kdM) (hi : zI kd w) {r : (Int32 × St)} (hf : q12_likes σ p_a o_a = some r) : zM l kd w yX12_likes cX12_likes 3 (some .int) rm12_likes [.ref (w.2.2.1 0), .int p_a, .int o_a] σ (some (.int r.1), r.2) := zM_of rfl hi (Nat.le_of_ble_eq_true rfl) (fun Θ _ hw C => by
  obtain ⟨Θ1, Θ2, Θ3, Θ4, Θ5⟩ := Θ
  cases hw
  exact p12_likes C hkd  hf rfl)
/-! LastLoafModel.grist -/
theorem dX12_grist_0 : decode cX12_grist 0 = .ok (.aload_n 0, 1) := by decide +kernel
theorem dX12_grist_1 : decode cX12_grist 1 = .ok (.iload_n 1, 1) := by decide +kernel
theorem dX12_grist_2 : decode cX12_grist 2 = .ok (.iconst 0, 1) := by decide +kernel
theorem dX12_grist_3 : decode cX12_grist 3 = .ok (.iconst 3, 1) := by decide +kernel
theorem dX12_grist_4 : decode cX12_grist 4 = .ok (.invokestatic 68, 3) := by decide +kernel
theorem dX12_grist_7 : decode cX12_grist 7 = .ok (.ifCond .ne 7, 3) := by decide +kernel
theorem dX12_grist_10 : decode cX12_grist 10 = .ok (.iconst 1, 1) := by decide +kernel
theorem dX12_grist_11 : decode cX12_grist 11 = .ok (.goto 4, 3) := by decide +kernel
theorem dX12_grist_14 : decode cX12_grist 14 = .ok (.iconst 0, 1) := by decide +kernel
theorem dX12_grist_15 : decode cX12_grist 15 = .ok (.putfield 65, 3) := by decide +kernel
theorem dX12_grist_18 : decode cX12_grist 18 = .ok (.aload_n 0, 1) := by decide +kernel
theorem dX12_grist_19 : decode cX12_grist 19 = .ok (.getfield 65, 3) := by decide +kernel
theorem dX12_grist_22 : decode cX12_grist 22 = .ok (.ifCond .le 7, 3) := by decide +kernel
theorem dX12_grist_25 : decode cX12_grist 25 = .ok (.iconst 0, 1) := by decide +kernel
theorem dX12_grist_26 : decode cX12_grist 26 = .ok (.goto 12, 3) := by decide +kernel
theorem dX12_grist_29 : decode cX12_grist 29 = .ok (.aload_n 0, 1) := by decide +kernel
theorem dX12_grist_30 : decode cX12_grist 30 = .ok (.getfield 7, 3) := by decide +kernel
theorem dX12_grist_33 : decode cX12_grist 33 = .ok (.bipush 10, 2) := by decide +kernel
theorem dX12_grist_35 : decode cX12_grist 35 = .ok (.iload_n 1, 1) := by decide +kernel
theorem dX12_grist_36 : decode cX12_grist 36 = .ok (.iadd, 1) := by decide +kernel
theorem dX12_grist_37 : decode cX12_grist 37 = .ok (.iaload, 1) := by decide +kernel
theorem dX12_grist_38 : decode cX12_grist 38 = .ok (.ireturn, 1) := by decide +kernel
def q12_grist (σ : St) (q_a : Int32) : Option (Int32 × St) :=
  lt (up σ 0 0 (if ¬ (q12_isIn q_a 0 3 = true) then 1 else 0)) fun σ6_ =>
  Option.bind (if 0 < (σ6_ 0 0) then (some 0) else (Option.bind (ag σ6_ 1 752 (10 + q_a)) fun x14_ =>
  some x14_)) fun x8_ =>
  some (x8_, σ6_)
abbrev rm12_grist : Room := { frames := 1, cells := 0, slots := 0, locals := 22 }
set_option maxHeartbeats 4000000 in
set_option maxRecDepth 100000 in
theorem p12_grist {Θ : Tz} {σ : St} {ρ : Option Value × St} (C : Zc Θ cX12_grist 2 RX12 (some .int) rm12_grist) (hkd : Θ.2.2.2.2.1 = kdM) {q_a : Int32} {r : (Int32 × St)} (hf : q12_grist σ q_a = some r) (hρ : ρ = (some (.int r.1), r.2)) : Z Θ 2 0 0 (zQ Θ ρ) σ 0 [(0, .ref (zA Θ 0)), (1, .int q_a)] [] := by
  unfold q12_grist at hf
  refine z_aload_n C 0 dX12_grist_0 rfl rfl ?_
  suffices K1_ : Z Θ 2 0 0 (zQ Θ ρ) σ 15 [(0, .ref (zA Θ 0)), (1, .int q_a)] [.int (if ¬ (q12_isIn q_a 0 3 = true) then 1 else 0), .ref (zA Θ 0)] by
    have K2_ : ¬ (q12_isIn q_a 0 3 = true) → Z Θ 2 0 0 (zQ Θ ρ) σ 10 [(0, .ref (zA Θ 0)), (1, .int q_a)] [.ref (zA Θ 0)] := by
      intro h5_
      rw [if_pos h5_] at K1_
      refine z_iconst (v := 1) C dX12_grist_10 ic_1 ?_
      refine z_goto C 15 dX12_grist_11 (by decide) ?_
      exact K1_
    have K3_ : ¬ (¬ (q12_isIn q_a 0 3 = true)) → Z Θ 2 0 0 (zQ Θ ρ) σ 14 [(0, .ref (zA Θ 0)), (1, .int q_a)] [.ref (zA Θ 0)] := by
      intro h5_
      rw [if_neg h5_] at K1_
      refine z_iconst (v := 0) C dX12_grist_14 ic_0 ?_
      exact K1_
    refine z_iload_n C 1 dX12_grist_1 rfl rfl ?_
    refine z_iconst (v := 0) C dX12_grist_2 ic_0 ?_
    refine z_iconst (v := 3) C dX12_grist_3 ic_3 ?_
    refine cr12_68 (v_a := q_a) (low_a := 0) (high_a := 3) C hkd  ⟨(Nat.le_of_ble_eq_true rfl), (Nat.le_of_ble_eq_true rfl)⟩ (Nat.le_of_ble_eq_true rfl) ⟨Nat.zero_le _, Nat.zero_le _⟩ dX12_grist_4 ?_
    refine cb_t C 14 dX12_grist_7 (by decide) (fun h4_ => ?_) (fun h4_ => ?_)
    · exact K3_ (fun n => n h4_)
    · exact K2_ h4_
  obtain ⟨σ6_, h7_, hf⟩ := lt_ hf
  refine fp12_65 C hkd h7_ dX12_grist_15 ?_
  obtain ⟨x8_, h9_, hf⟩ := ob hf
  suffices K10_ : Z Θ 2 0 0 (zQ Θ ρ) σ6_ 38 [(0, .ref (zA Θ 0)), (1, .int q_a)] [.int x8_] by
    have K11_ : 0 < (σ6_ 0 0) → Z Θ 2 0 0 (zQ Θ ρ) σ6_ 25 [(0, .ref (zA Θ 0)), (1, .int q_a)] [] := by
      intro h16_
      rw [if_pos h16_] at h9_
      refine z_iconst (v := 0) C dX12_grist_25 ic_0 ?_
      refine z_goto C 38 dX12_grist_26 (by decide) ?_
      cases h9_
      exact K10_
    have K12_ : ¬ (0 < (σ6_ 0 0)) → Z Θ 2 0 0 (zQ Θ ρ) σ6_ 29 [(0, .ref (zA Θ 0)), (1, .int q_a)] [] := by
      intro h16_
      rw [if_neg h16_] at h9_
      refine z_aload_n C 0 dX12_grist_29 rfl rfl ?_
      refine fg12_7 C hkd dX12_grist_30 ?_
      refine z_bipush (v := 10) C dX12_grist_33 bp_10 ?_
      refine z_iload_n C 1 dX12_grist_35 rfl rfl ?_
      refine z_iadd C dX12_grist_36 ?_
      obtain ⟨x14_, h15_, h9_⟩ := ob h9_
      refine z_ag C h15_ (kM_1 hkd) dX12_grist_37 ?_
      cases h9_
      exact K10_
    refine z_aload_n C 0 dX12_grist_18 rfl rfl ?_
    refine fg12_65 C hkd dX12_grist_19 ?_
    refine c0_gt_f C 29 dX12_grist_22 (by decide) (fun h13_ => ?_) (fun h13_ => ?_)
    · exact K11_ h13_
    · exact K12_ h13_
  cases hf
  subst hρ
  exact z_iret C dX12_grist_38
theorem c12_grist {l : Launch} {kd : List KD} {w : Wp} {σ : St} {q_a : Int32} (hkd : kd = kdM) (hi : zI kd w) {r : (Int32 × St)} (hf : q12_grist σ q_a = some r) : zM l kd w yX12_grist cX12_grist 2 (some .int) rm12_grist [.ref (w.2.2.1 0), .int q_a] σ (some (.int r.1), r.2) := zM_of rfl hi (Nat.le_of_ble_eq_true rfl) (fun Θ _ hw C => by
  obtain ⟨Θ1, Θ2, Θ3, Θ4, Θ5⟩ := Θ
  cases hw
  exact p12_grist C hkd  hf rfl)
/-! LastLoafModel.remembers -/
theorem w_8_33 : Cond.fieldLink "LastLoafModel" (199 : Nat) "LastLoafModel" "acted" "I" ∈ TB := tb_in (lwt_8 (List.mem_of_getElem? (i := 33) (by decide +kernel))) rfl
theorem fg12_199 {Θ : Tz} {cc : ByteArray} {nL kc ks : Nat} {ret : Option FieldType} {rm : Room} {Q : State → Prop} {σ : St} {pc : Nat} {lv : List (Nat × Value)} {st : List Value} (C : Zc Θ cc nL RX12 ret rm) (hkd : Θ.2.2.2.2.1 = kdM) (hd : decode cc pc = .ok (.getfield 199, 3)) (kk : Z Θ nL kc ks Q σ (pc + 3) lv (.int (σ 0 6) :: st)) : Z Θ nL kc ks Q σ pc lv (.ref (zA Θ 0) :: st) := z_get C inT12 0 (kM_0 hkd) rfl 6 (by decide) w_8_33 rfl hd kk
theorem sp_3872 : (Int16.ofInt (3872)).toInt32 = 3872 := by decide +kernel
theorem w_8_32 : Cond.fieldLink "LastLoafModel" (19 : Nat) "LastLoafModel" "acts" "[I" ∈ TB := tb_in (lwt_8 (List.mem_of_getElem? (i := 32) (by decide +kernel))) rfl
theorem fg12_19 {Θ : Tz} {cc : ByteArray} {nL kc ks : Nat} {ret : Option FieldType} {rm : Room} {Q : State → Prop} {σ : St} {pc : Nat} {lv : List (Nat × Value)} {st : List Value} (C : Zc Θ cc nL RX12 ret rm) (hkd : Θ.2.2.2.2.1 = kdM) (hd : decode cc pc = .ok (.getfield 19, 3)) (kk : Z Θ nL kc ks Q σ (pc + 3) lv (.ref (zA Θ 4) :: st)) : Z Θ nL kc ks Q σ pc lv (.ref (zA Θ 0) :: st) := z_get C inT12 0 (kM_0 hkd) rfl 5 (by decide) w_8_32 rfl hd kk
theorem fp12_199 {Θ : Tz} {cc : ByteArray} {nL kc ks : Nat} {ret : Option FieldType} {rm : Room} {Q : State → Prop} {σ : St} {pc : Nat} {lv : List (Nat × Value)} {st : List Value} (C : Zc Θ cc nL RX12 ret rm) (hkd : Θ.2.2.2.2.1 = kdM) {x : Int32} {σ1 : St} (he : σ1 = up σ 0 6 x) (hd : decode cc pc = .ok (.putfield 199, 3)) (kk : Z Θ nL kc ks Q σ1 (pc + 3) lv st) : Z Θ nL kc ks Q σ pc lv (.int x :: .ref (zA Θ 0) :: st) := by subst he; exact z_put C inT12 tyX12_ok nmX12 0 (kM_0 hkd) rfl 6 (by decide) w_8_33 rfl rfl rfl rfl hd kk
theorem dX12_remembers_0 : decode cX12_remembers 0 = .ok (.aload_n 0, 1) := by decide +kernel
theorem dX12_remembers_1 : decode cX12_remembers 1 = .ok (.getfield 199, 3) := by decide +kernel
theorem dX12_remembers_4 : decode cX12_remembers 4 = .ok (.bipush 12, 2) := by decide +kernel
theorem dX12_remembers_6 : decode cX12_remembers 6 = .ok (.if_icmp .ne 44, 3) := by decide +kernel
theorem dX12_remembers_9 : decode cX12_remembers 9 = .ok (.iconst 0, 1) := by decide +kernel
theorem dX12_remembers_10 : decode cX12_remembers 10 = .ok (.istore_n 1, 1) := by decide +kernel
theorem dX12_remembers_11 : decode cX12_remembers 11 = .ok (.iload_n 1, 1) := by decide +kernel
theorem dX12_remembers_12 : decode cX12_remembers 12 = .ok (.sipush 3872, 3) := by decide +kernel
theorem dX12_remembers_15 : decode cX12_remembers 15 = .ok (.if_icmp .ge 25, 3) := by decide +kernel
theorem dX12_remembers_18 : decode cX12_remembers 18 = .ok (.aload_n 0, 1) := by decide +kernel
theorem dX12_remembers_19 : decode cX12_remembers 19 = .ok (.getfield 19, 3) := by decide +kernel
theorem dX12_remembers_22 : decode cX12_remembers 22 = .ok (.iload_n 1, 1) := by decide +kernel
theorem dX12_remembers_23 : decode cX12_remembers 23 = .ok (.aload_n 0, 1) := by decide +kernel
theorem dX12_remembers_24 : decode cX12_remembers 24 = .ok (.getfield 19, 3) := by decide +kernel
theorem dX12_remembers_27 : decode cX12_remembers 27 = .ok (.iload_n 1, 1) := by decide +kernel
theorem dX12_remembers_28 : decode cX12_remembers 28 = .ok (.sipush 352, 3) := by decide +kernel
theorem dX12_remembers_31 : decode cX12_remembers 31 = .ok (.iadd, 1) := by decide +kernel
theorem dX12_remembers_32 : decode cX12_remembers 32 = .ok (.iaload, 1) := by decide +kernel
theorem dX12_remembers_33 : decode cX12_remembers 33 = .ok (.iastore, 1) := by decide +kernel
theorem dX12_remembers_34 : decode cX12_remembers 34 = .ok (.iinc 1 1, 3) := by decide +kernel
theorem dX12_remembers_37 : decode cX12_remembers 37 = .ok (.goto (-26), 3) := by decide +kernel
theorem dX12_remembers_40 : decode cX12_remembers 40 = .ok (.aload_n 0, 1) := by decide +kernel
theorem dX12_remembers_41 : decode cX12_remembers 41 = .ok (.dup, 1) := by decide +kernel
theorem dX12_remembers_42 : decode cX12_remembers 42 = .ok (.getfield 199, 3) := by decide +kernel
theorem dX12_remembers_45 : decode cX12_remembers 45 = .ok (.iconst 1, 1) := by decide +kernel
theorem dX12_remembers_46 : decode cX12_remembers 46 = .ok (.isub, 1) := by decide +kernel
theorem dX12_remembers_47 : decode cX12_remembers 47 = .ok (.putfield 199, 3) := by decide +kernel
theorem dX12_remembers_50 : decode cX12_remembers 50 = .ok (.iconst 0, 1) := by decide +kernel
theorem dX12_remembers_51 : decode cX12_remembers 51 = .ok (.istore_n 1, 1) := by decide +kernel
theorem dX12_remembers_52 : decode cX12_remembers 52 = .ok (.iload_n 1, 1) := by decide +kernel
theorem dX12_remembers_53 : decode cX12_remembers 53 = .ok (.sipush 352, 3) := by decide +kernel
theorem dX12_remembers_56 : decode cX12_remembers 56 = .ok (.if_icmp .ge 30, 3) := by decide +kernel
theorem dX12_remembers_59 : decode cX12_remembers 59 = .ok (.aload_n 0, 1) := by decide +kernel
theorem dX12_remembers_60 : decode cX12_remembers 60 = .ok (.getfield 19, 3) := by decide +kernel
theorem dX12_remembers_63 : decode cX12_remembers 63 = .ok (.sipush 352, 3) := by decide +kernel
theorem dX12_remembers_66 : decode cX12_remembers 66 = .ok (.aload_n 0, 1) := by decide +kernel
theorem dX12_remembers_67 : decode cX12_remembers 67 = .ok (.getfield 199, 3) := by decide +kernel
theorem dX12_remembers_70 : decode cX12_remembers 70 = .ok (.imul, 1) := by decide +kernel
theorem dX12_remembers_71 : decode cX12_remembers 71 = .ok (.iload_n 1, 1) := by decide +kernel
theorem dX12_remembers_72 : decode cX12_remembers 72 = .ok (.iadd, 1) := by decide +kernel
theorem dX12_remembers_73 : decode cX12_remembers 73 = .ok (.aload_n 0, 1) := by decide +kernel
theorem dX12_remembers_74 : decode cX12_remembers 74 = .ok (.getfield 7, 3) := by decide +kernel
theorem dX12_remembers_77 : decode cX12_remembers 77 = .ok (.iload_n 1, 1) := by decide +kernel
theorem dX12_remembers_78 : decode cX12_remembers 78 = .ok (.iaload, 1) := by decide +kernel
theorem dX12_remembers_79 : decode cX12_remembers 79 = .ok (.iastore, 1) := by decide +kernel
theorem dX12_remembers_80 : decode cX12_remembers 80 = .ok (.iinc 1 1, 3) := by decide +kernel
theorem dX12_remembers_83 : decode cX12_remembers 83 = .ok (.goto (-31), 3) := by decide +kernel
theorem dX12_remembers_86 : decode cX12_remembers 86 = .ok (.aload_n 0, 1) := by decide +kernel
theorem dX12_remembers_87 : decode cX12_remembers 87 = .ok (.dup, 1) := by decide +kernel
theorem dX12_remembers_88 : decode cX12_remembers 88 = .ok (.getfield 199, 3) := by decide +kernel
theorem dX12_remembers_91 : decode cX12_remembers 91 = .ok (.iconst 1, 1) := by decide +kernel
theorem dX12_remembers_92 : decode cX12_remembers 92 = .ok (.iadd, 1) := by decide +kernel
theorem dX12_remembers_93 : decode cX12_remembers 93 = .ok (.putfield 199, 3) := by decide +kernel
theorem dX12_remembers_96 : decode cX12_remembers 96 = .ok (.return_, 1) := by decide +kernel
def q12_remembers (σ : St) : Option St :=
  Option.bind (if (σ 0 6) = 12 then (Option.bind (loop2 (fun rec11_ (k14_ : Int32) (σ15_ : St) =>
  if k14_ < 3872 then
  Option.bind (ag σ15_ 4 4224 (k14_ + 352)) fun x22_ =>
  Option.bind (sa σ15_ 4 4224 k14_ x22_) fun σ24_ =>
  lt (k14_ + 1) fun k26_ =>
  rec11_ k26_ σ24_
  else (some (k14_, σ15_))) fuelN 0 σ) fun y8_ =>
  lt (up y8_.2 0 6 ((y8_.2 0 6) - 1)) fun σ28_ =>
  some (σ28_)) else (some (σ))) fun y1_ =>
  Option.bind (loop2 (fun rec33_ (k36_ : Int32) (σ37_ : St) =>
  if k36_ < 352 then
  Option.bind (ag σ37_ 1 752 k36_) fun x44_ =>
  Option.bind (sa σ37_ 4 4224 ((352 * (σ37_ 0 6)) + k36_) x44_) fun σ46_ =>
  lt (k36_ + 1) fun k48_ =>
  rec33_ k48_ σ46_
  else (some (k36_, σ37_))) fuelN 0 y1_) fun y30_ =>
  lt (up y30_.2 0 6 ((y30_.2 0 6) + 1)) fun σ50_ =>
  some σ50_
abbrev rm12_remembers : Room := { frames := 0, cells := 0, slots := 0, locals := 0 }
set_option maxHeartbeats 4000000 in
set_option maxRecDepth 100000 in
theorem p12_remembers {Θ : Tz} {σ : St} {ρ : Option Value × St} (C : Zc Θ cX12_remembers 2 RX12 none rm12_remembers) (hkd : Θ.2.2.2.2.1 = kdM) {r : St} (hf : q12_remembers σ = some r) (hρ : ρ = (none, r)) : Z Θ 2 0 0 (zQ Θ ρ) σ 0 [(0, .ref (zA Θ 0))] [] := by
  unfold q12_remembers at hf
  obtain ⟨y1_, h2_, hf⟩ := ob hf
  suffices K3_ : Z Θ 2 0 0 (zQ Θ ρ) y1_ 50 [(0, .ref (zA Θ 0))] [] by
    have K4_ : (σ 0 6) = 12 → Z Θ 2 0 0 (zQ Θ ρ) σ 9 [(0, .ref (zA Θ 0))] [] := by
      intro h7_
      rw [if_pos h7_] at h2_
      refine z_iconst (v := 0) C dX12_remembers_9 ic_0 ?_
      refine z_istN C dX12_remembers_10 rfl rfl (Nat.le_of_ble_eq_true rfl) rfl ?_
      refine Z.sub [1, 0] rfl ?_
      obtain ⟨y8_, h9_, h2_⟩ := ob h2_
      suffices K10_ : Z Θ 2 0 0 (zQ Θ ρ) y8_.2 40 [(0, .ref (zA Θ 0)), (1, .int y8_.1)] [] by
        refine loop2_Z (P := fun (k14_ : Int32) (σ15_ : St) => Z Θ 2 0 0 (zQ Θ ρ) σ15_ 11 [(0, .ref (zA Θ 0)), (1, .int k14_)] []) ?_ fuelN 0 σ h9_
        clear h9_
        intro rec11_ k14_ σ15_ h12_ h13_
        have K18_ : k14_ < 3872 → Z Θ 2 0 0 (zQ Θ ρ) σ15_ 18 [(0, .ref (zA Θ 0)), (1, .int k14_)] [] := by
          intro h21_
          rw [if_pos h21_] at h13_
          refine z_aload_n C 0 dX12_remembers_18 rfl rfl ?_
          refine fg12_19 C hkd dX12_remembers_19 ?_
          refine z_iload_n C 1 dX12_remembers_22 rfl rfl ?_
          refine z_aload_n C 0 dX12_remembers_23 rfl rfl ?_
          refine fg12_19 C hkd dX12_remembers_24 ?_
          refine z_iload_n C 1 dX12_remembers_27 rfl rfl ?_
          refine z_sipush (v := 352) C dX12_remembers_28 sp_352 ?_
          refine z_iadd C dX12_remembers_31 ?_
          obtain ⟨x22_, h23_, h13_⟩ := ob h13_
          refine z_ag C h23_ (kM_4 hkd) dX12_remembers_32 ?_
          obtain ⟨σ24_, h25_, h13_⟩ := ob h13_
          refine z_sa C h25_ (kM_4 hkd) dX12_remembers_33 ?_
          obtain ⟨k26_, h27_, h13_⟩ := lt_ h13_
          refine z_inc C 1 dX12_remembers_34 rfl ic_1 h27_ (Nat.le_of_ble_eq_true rfl) rfl ?_
          refine z_goto C 11 dX12_remembers_37 (by decide) ?_
          refine Z.sub [1, 0] rfl ?_
          exact h12_ _ _ h13_
        have K19_ : ¬ (k14_ < 3872) → Z Θ 2 0 0 (zQ Θ ρ) σ15_ 40 [(0, .ref (zA Θ 0)), (1, .int k14_)] [] := by
          intro h21_
          rw [if_neg h21_] at h13_
          cases h13_
          exact K10_
        refine z_iload_n C 1 dX12_remembers_11 rfl rfl ?_
        refine z_sipush (v := 3872) C dX12_remembers_12 sp_3872 ?_
        refine c_lt_f C 40 dX12_remembers_15 (by decide) (fun h20_ => ?_) (fun h20_ => ?_)
        · exact K18_ h20_
        · exact K19_ h20_
      refine z_aload_n C 0 dX12_remembers_40 rfl rfl ?_
      refine z_dup C dX12_remembers_41 rfl ?_
      refine fg12_199 C hkd dX12_remembers_42 ?_
      refine z_iconst (v := 1) C dX12_remembers_45 ic_1 ?_
      refine z_isub C dX12_remembers_46 ?_
      obtain ⟨σ28_, h29_, h2_⟩ := lt_ h2_
      refine fp12_199 C hkd h29_ dX12_remembers_47 ?_
      cases h2_
      refine Z.sub [0] rfl ?_
      exact K3_
    have K5_ : ¬ ((σ 0 6) = 12) → Z Θ 2 0 0 (zQ Θ ρ) σ 50 [(0, .ref (zA Θ 0))] [] := by
      intro h7_
      rw [if_neg h7_] at h2_
      cases h2_
      exact K3_
    refine z_aload_n C 0 dX12_remembers_0 rfl rfl ?_
    refine fg12_199 C hkd dX12_remembers_1 ?_
    refine z_bipush (v := 12) C dX12_remembers_4 bp_12 ?_
    refine c_eq_f C 50 dX12_remembers_6 (by decide) (fun h6_ => ?_) (fun h6_ => ?_)
    · exact K4_ h6_
    · exact K5_ h6_
  refine z_iconst (v := 0) C dX12_remembers_50 ic_0 ?_
  refine z_istN C dX12_remembers_51 rfl rfl (Nat.le_of_ble_eq_true rfl) rfl ?_
  refine Z.sub [1, 0] rfl ?_
  obtain ⟨y30_, h31_, hf⟩ := ob hf
  suffices K32_ : Z Θ 2 0 0 (zQ Θ ρ) y30_.2 86 [(0, .ref (zA Θ 0)), (1, .int y30_.1)] [] by
    refine loop2_Z (P := fun (k36_ : Int32) (σ37_ : St) => Z Θ 2 0 0 (zQ Θ ρ) σ37_ 52 [(0, .ref (zA Θ 0)), (1, .int k36_)] []) ?_ fuelN 0 y1_ h31_
    clear h31_
    intro rec33_ k36_ σ37_ h34_ h35_
    have K40_ : k36_ < 352 → Z Θ 2 0 0 (zQ Θ ρ) σ37_ 59 [(0, .ref (zA Θ 0)), (1, .int k36_)] [] := by
      intro h43_
      rw [if_pos h43_] at h35_
      refine z_aload_n C 0 dX12_remembers_59 rfl rfl ?_
      refine fg12_19 C hkd dX12_remembers_60 ?_
      refine z_sipush (v := 352) C dX12_remembers_63 sp_352 ?_
      refine z_aload_n C 0 dX12_remembers_66 rfl rfl ?_
      refine fg12_199 C hkd dX12_remembers_67 ?_
      refine z_imul C dX12_remembers_70 ?_
      refine z_iload_n C 1 dX12_remembers_71 rfl rfl ?_
      refine z_iadd C dX12_remembers_72 ?_
      refine z_aload_n C 0 dX12_remembers_73 rfl rfl ?_
      refine fg12_7 C hkd dX12_remembers_74 ?_
      refine z_iload_n C 1 dX12_remembers_77 rfl rfl ?_
      obtain ⟨x44_, h45_, h35_⟩ := ob h35_
      refine z_ag C h45_ (kM_1 hkd) dX12_remembers_78 ?_
      obtain ⟨σ46_, h47_, h35_⟩ := ob h35_
      refine z_sa C h47_ (kM_4 hkd) dX12_remembers_79 ?_
      obtain ⟨k48_, h49_, h35_⟩ := lt_ h35_
      refine z_inc C 1 dX12_remembers_80 rfl ic_1 h49_ (Nat.le_of_ble_eq_true rfl) rfl ?_
      refine z_goto C 52 dX12_remembers_83 (by decide) ?_
      refine Z.sub [1, 0] rfl ?_
      exact h34_ _ _ h35_
    have K41_ : ¬ (k36_ < 352) → Z Θ 2 0 0 (zQ Θ ρ) σ37_ 86 [(0, .ref (zA Θ 0)), (1, .int k36_)] [] := by
      intro h43_
      rw [if_neg h43_] at h35_
      cases h35_
      exact K32_
    refine z_iload_n C 1 dX12_remembers_52 rfl rfl ?_
    refine z_sipush (v := 352) C dX12_remembers_53 sp_352 ?_
    refine c_lt_f C 86 dX12_remembers_56 (by decide) (fun h42_ => ?_) (fun h42_ => ?_)
    · exact K40_ h42_
    · exact K41_ h42_
  refine z_aload_n C 0 dX12_remembers_86 rfl rfl ?_
  refine z_dup C dX12_remembers_87 rfl ?_
  refine fg12_199 C hkd dX12_remembers_88 ?_
  refine z_iconst (v := 1) C dX12_remembers_91 ic_1 ?_
  refine z_iadd C dX12_remembers_92 ?_
  obtain ⟨σ50_, h51_, hf⟩ := lt_ hf
  refine fp12_199 C hkd h51_ dX12_remembers_93 ?_
  cases hf
  subst hρ
  exact z_vret C dX12_remembers_96
theorem c12_remembers {l : Launch} {kd : List KD} {w : Wp} {σ : St} (hkd : kd = kdM) (hi : zI kd w) {r : St} (hf : q12_remembers σ = some r) : zM l kd w yX12_remembers cX12_remembers 2 none rm12_remembers [.ref (w.2.2.1 0)] σ (none, r) := zM_of rfl hi (Nat.le_of_ble_eq_true rfl) (fun Θ _ hw C => by
  obtain ⟨Θ1, Θ2, Θ3, Θ4, Θ5⟩ := Θ
  cases hw
  exact p12_remembers C hkd  hf rfl)
/-! LastLoafModel.sets -/
theorem w_9_151 : Cond.code ({ cls := "LastLoafModel", name := "remembers", desc := "()V" } : MethodName) prog_14_method_72_code (2 : Nat) (Option.none : Option ClassFile.FieldType) ∈ TB := tb_in (lwt_9 (List.mem_of_getElem? (i := 151) (by decide +kernel))) rfl
theorem w_9_148 : Cond.methodLink "LastLoafModel" (366 : Nat) ({ cls := "LastLoafModel", name := "remembers", desc := "()V" } : MethodName) ∈ TB := tb_in (lwt_9 (List.mem_of_getElem? (i := 148) (by decide +kernel))) rfl
theorem w_9_150 : Cond.instanceMethod ({ cls := "LastLoafModel", name := "remembers", desc := "()V" } : MethodName) ∈ TB := tb_in (lwt_9 (List.mem_of_getElem? (i := 150) (by decide +kernel))) rfl
theorem ws_LastLoafModel_remembers__V : Cond.selects "LastLoafModel" (⟨"LastLoafModel", "remembers", "()V"⟩ : MethodName) (⟨"LastLoafModel", "remembers", "()V"⟩ : MethodName) ∈ TB := tb_in (List.mem_append_left _ (List.mem_of_getElem? (i := 61) (by decide +kernel))) rfl
theorem cr12_366 {Θ : Tz} {cc : ByteArray} {nL kc ks : Nat} {ret : Option FieldType} {rm : Room} {Q : State → Prop} {σ : St} {pc : Nat} {lv : List (Nat × Value)} {st : List Value} (C : Zc Θ cc nL RX12 ret rm) (hkd : Θ.2.2.2.2.1 = kdM) {r : St} (hx : q12_remembers σ = some r) (hrm : rm12_remembers.frames + 1 ≤ rm.frames ∧ 8 + (2 + 11) + rm12_remembers.locals ≤ rm.locals) (hcat : (st.map fun v => v.category).sum ≤ 8) (hk : kc ≤ rm.cells ∧ ks ≤ rm.slots) (hd : decode cc pc = .ok (.invokevirtual 366, 3)) (kk : Z Θ nL kc ks Q r (pc + 3) lv st) : Z Θ nL kc ks Q σ pc lv (.ref (zA Θ 0) :: st) := z_callV C 0 [] (none, r) 0 (kM_0 hkd) rfl (c12_remembers hkd (zc_inj C) hx) w_9_151 w_9_148 w_9_150 ws_LastLoafModel_remembers__V w_1_14 ⟨rfl, rfl, hrm.1, hrm.2⟩ (by decide +kernel) rfl rfl hcat hk hd kk
theorem dX12_sets_0 : decode cX12_sets 0 = .ok (.aload_n 0, 1) := by decide +kernel
theorem dX12_sets_1 : decode cX12_sets 1 = .ok (.invokevirtual 366, 3) := by decide +kernel
theorem dX12_sets_4 : decode cX12_sets 4 = .ok (.aload_n 0, 1) := by decide +kernel
theorem dX12_sets_5 : decode cX12_sets 5 = .ok (.getfield 7, 3) := by decide +kernel
theorem dX12_sets_8 : decode cX12_sets 8 = .ok (.iload_n 1, 1) := by decide +kernel
theorem dX12_sets_9 : decode cX12_sets 9 = .ok (.iaload, 1) := by decide +kernel
theorem dX12_sets_10 : decode cX12_sets 10 = .ok (.istore_n 3, 1) := by decide +kernel
theorem dX12_sets_11 : decode cX12_sets 11 = .ok (.aload_n 0, 1) := by decide +kernel
theorem dX12_sets_12 : decode cX12_sets 12 = .ok (.getfield 7, 3) := by decide +kernel
theorem dX12_sets_15 : decode cX12_sets 15 = .ok (.iload_n 1, 1) := by decide +kernel
theorem dX12_sets_16 : decode cX12_sets 16 = .ok (.iload_n 2, 1) := by decide +kernel
theorem dX12_sets_17 : decode cX12_sets 17 = .ok (.iastore, 1) := by decide +kernel
theorem dX12_sets_18 : decode cX12_sets 18 = .ok (.iload_n 3, 1) := by decide +kernel
theorem dX12_sets_19 : decode cX12_sets 19 = .ok (.ireturn, 1) := by decide +kernel
def q12_sets (σ : St) (where_a : Int32) (v_a : Int32) : Option (Int32 × St) :=
  Option.bind (q12_remembers σ) fun x1_ =>
  Option.bind (ag x1_ 1 752 where_a) fun x3_ =>
  Option.bind (sa x1_ 1 752 where_a v_a) fun σ5_ =>
  some (x3_, σ5_)
abbrev rm12_sets : Room := { frames := 1, cells := 0, slots := 0, locals := 21 }
set_option maxHeartbeats 4000000 in
set_option maxRecDepth 100000 in
theorem p12_sets {Θ : Tz} {σ : St} {ρ : Option Value × St} (C : Zc Θ cX12_sets 4 RX12 (some .int) rm12_sets) (hkd : Θ.2.2.2.2.1 = kdM) {where_a : Int32} {v_a : Int32} {r : (Int32 × St)} (hf : q12_sets σ where_a v_a = some r) (hρ : ρ = (some (.int r.1), r.2)) : Z Θ 4 0 0 (zQ Θ ρ) σ 0 [(0, .ref (zA Θ 0)), (1, .int where_a), (2, .int v_a)] [] := by
  unfold q12_sets at hf
  refine z_aload_n C 0 dX12_sets_0 rfl rfl ?_
  obtain ⟨x1_, h2_, hf⟩ := ob hf
  refine cr12_366 C hkd  h2_ ⟨(Nat.le_of_ble_eq_true rfl), (Nat.le_of_ble_eq_true rfl)⟩ (Nat.le_of_ble_eq_true rfl) ⟨Nat.zero_le _, Nat.zero_le _⟩ dX12_sets_1 ?_
  refine z_aload_n C 0 dX12_sets_4 rfl rfl ?_
  refine fg12_7 C hkd dX12_sets_5 ?_
  refine z_iload_n C 1 dX12_sets_8 rfl rfl ?_
  obtain ⟨x3_, h4_, hf⟩ := ob hf
  refine z_ag C h4_ (kM_1 hkd) dX12_sets_9 ?_
  refine z_istN C dX12_sets_10 rfl rfl (Nat.le_of_ble_eq_true rfl) rfl ?_
  refine z_aload_n C 1 dX12_sets_11 rfl rfl ?_
  refine fg12_7 C hkd dX12_sets_12 ?_
  refine z_iload_n C 2 dX12_sets_15 rfl rfl ?_
  refine z_iload_n C 3 dX12_sets_16 rfl rfl ?_
  obtain ⟨σ5_, h6_, hf⟩ := ob hf
  refine z_sa C h6_ (kM_1 hkd) dX12_sets_17 ?_
  refine z_iload_n C 0 dX12_sets_18 rfl rfl ?_
  cases hf
  subst hρ
  exact z_iret C dX12_sets_19
theorem c12_sets {l : Launch} {kd : List KD} {w : Wp} {σ : St} {where_a : Int32} {v_a : Int32} (hkd : kd = kdM) (hi : zI kd w) {r : (Int32 × St)} (hf : q12_sets σ where_a v_a = some r) : zM l kd w yX12_sets cX12_sets 4 (some .int) rm12_sets [.ref (w.2.2.1 0), .int where_a, .int v_a] σ (some (.int r.1), r.2) := zM_of rfl hi (Nat.le_of_ble_eq_true rfl) (fun Θ _ hw C => by
  obtain ⟨Θ1, Θ2, Θ3, Θ4, Θ5⟩ := Θ
  cases hw
  exact p12_sets C hkd  hf rfl)
/-! LastLoafModel.stand -/
theorem w_9_214 : Cond.code ({ cls := "LastLoafModel", name := "sets", desc := "(II)I" } : MethodName) prog_14_method_73_code (4 : Nat) (Option.some ClassFile.FieldType.int) ∈ TB := tb_in (lwt_9 (List.mem_of_getElem? (i := 214) (by decide +kernel))) rfl
theorem w_9_211 : Cond.methodLink "LastLoafModel" (373 : Nat) ({ cls := "LastLoafModel", name := "sets", desc := "(II)I" } : MethodName) ∈ TB := tb_in (lwt_9 (List.mem_of_getElem? (i := 211) (by decide +kernel))) rfl
theorem w_9_213 : Cond.instanceMethod ({ cls := "LastLoafModel", name := "sets", desc := "(II)I" } : MethodName) ∈ TB := tb_in (lwt_9 (List.mem_of_getElem? (i := 213) (by decide +kernel))) rfl
theorem ws_LastLoafModel_sets_II_I : Cond.selects "LastLoafModel" (⟨"LastLoafModel", "sets", "(II)I"⟩ : MethodName) (⟨"LastLoafModel", "sets", "(II)I"⟩ : MethodName) ∈ TB := tb_in (List.mem_append_left _ (List.mem_of_getElem? (i := 74) (by decide +kernel))) rfl
theorem cr12_373 {Θ : Tz} {cc : ByteArray} {nL kc ks : Nat} {ret : Option FieldType} {rm : Room} {Q : State → Prop} {σ : St} {pc : Nat} {lv : List (Nat × Value)} {st : List Value} (C : Zc Θ cc nL RX12 ret rm) (hkd : Θ.2.2.2.2.1 = kdM) {where_a : Int32} {v_a : Int32} {r : Int32 × St} (hx : q12_sets σ where_a v_a = some r) (hrm : rm12_sets.frames + 1 ≤ rm.frames ∧ 8 + (4 + 11) + rm12_sets.locals ≤ rm.locals) (hcat : (st.map fun v => v.category).sum ≤ 8) (hk : kc ≤ rm.cells ∧ ks ≤ rm.slots) (hd : decode cc pc = .ok (.invokevirtual 373, 3)) (kk : Z Θ nL kc ks Q r.2 (pc + 3) lv (.int r.1 :: st)) : Z Θ nL kc ks Q σ pc lv (.int v_a :: .int where_a :: .ref (zA Θ 0) :: st) := z_callV C 0 [.int where_a, .int v_a] (some (.int r.1), r.2) 2 (kM_0 hkd) rfl (c12_sets (where_a := where_a) (v_a := v_a) hkd (zc_inj C) hx) w_9_214 w_9_211 w_9_213 ws_LastLoafModel_sets_II_I w_1_14 ⟨rfl, rfl, hrm.1, hrm.2⟩ (by decide +kernel) rfl rfl hcat hk hd kk
theorem dX12_stand_0 : decode cX12_stand 0 = .ok (.aload_n 0, 1) := by decide +kernel
theorem dX12_stand_1 : decode cX12_stand 1 = .ok (.aload_n 0, 1) := by decide +kernel
theorem dX12_stand_2 : decode cX12_stand 2 = .ok (.iload_n 1, 1) := by decide +kernel
theorem dX12_stand_3 : decode cX12_stand 3 = .ok (.invokevirtual 347, 3) := by decide +kernel
theorem dX12_stand_6 : decode cX12_stand 6 = .ok (.ifCond .ne 7, 3) := by decide +kernel
theorem dX12_stand_9 : decode cX12_stand 9 = .ok (.iconst 1, 1) := by decide +kernel
theorem dX12_stand_10 : decode cX12_stand 10 = .ok (.goto 4, 3) := by decide +kernel
theorem dX12_stand_13 : decode cX12_stand 13 = .ok (.iconst 0, 1) := by decide +kernel
theorem dX12_stand_14 : decode cX12_stand 14 = .ok (.putfield 65, 3) := by decide +kernel
theorem dX12_stand_17 : decode cX12_stand 17 = .ok (.aload_n 0, 1) := by decide +kernel
theorem dX12_stand_18 : decode cX12_stand 18 = .ok (.getfield 65, 3) := by decide +kernel
theorem dX12_stand_21 : decode cX12_stand 21 = .ok (.ifCond .le 5, 3) := by decide +kernel
theorem dX12_stand_24 : decode cX12_stand 24 = .ok (.iconst 0, 1) := by decide +kernel
theorem dX12_stand_25 : decode cX12_stand 25 = .ok (.ireturn, 1) := by decide +kernel
theorem dX12_stand_26 : decode cX12_stand 26 = .ok (.aload_n 0, 1) := by decide +kernel
theorem dX12_stand_27 : decode cX12_stand 27 = .ok (.aload_n 0, 1) := by decide +kernel
theorem dX12_stand_28 : decode cX12_stand 28 = .ok (.iload_n 1, 1) := by decide +kernel
theorem dX12_stand_29 : decode cX12_stand 29 = .ok (.iconst 4, 1) := by decide +kernel
theorem dX12_stand_30 : decode cX12_stand 30 = .ok (.invokevirtual 72, 3) := by decide +kernel
theorem dX12_stand_33 : decode cX12_stand 33 = .ok (.iconst 1, 1) := by decide +kernel
theorem dX12_stand_34 : decode cX12_stand 34 = .ok (.if_icmp .ne 7, 3) := by decide +kernel
theorem dX12_stand_37 : decode cX12_stand 37 = .ok (.iconst 2, 1) := by decide +kernel
theorem dX12_stand_38 : decode cX12_stand 38 = .ok (.goto 4, 3) := by decide +kernel
theorem dX12_stand_41 : decode cX12_stand 41 = .ok (.iconst 0, 1) := by decide +kernel
theorem dX12_stand_42 : decode cX12_stand 42 = .ok (.putfield 65, 3) := by decide +kernel
theorem dX12_stand_45 : decode cX12_stand 45 = .ok (.aload_n 0, 1) := by decide +kernel
theorem dX12_stand_46 : decode cX12_stand 46 = .ok (.getfield 65, 3) := by decide +kernel
theorem dX12_stand_49 : decode cX12_stand 49 = .ok (.ifCond .ne 41, 3) := by decide +kernel
theorem dX12_stand_52 : decode cX12_stand 52 = .ok (.aload_n 0, 1) := by decide +kernel
theorem dX12_stand_53 : decode cX12_stand 53 = .ok (.bipush 14, 2) := by decide +kernel
theorem dX12_stand_55 : decode cX12_stand 55 = .ok (.bipush 7, 2) := by decide +kernel
theorem dX12_stand_57 : decode cX12_stand 57 = .ok (.iload_n 1, 1) := by decide +kernel
theorem dX12_stand_58 : decode cX12_stand 58 = .ok (.imul, 1) := by decide +kernel
theorem dX12_stand_59 : decode cX12_stand 59 = .ok (.iadd, 1) := by decide +kernel
theorem dX12_stand_60 : decode cX12_stand 60 = .ok (.iconst 3, 1) := by decide +kernel
theorem dX12_stand_61 : decode cX12_stand 61 = .ok (.iadd, 1) := by decide +kernel
theorem dX12_stand_62 : decode cX12_stand 62 = .ok (.iload_n 2, 1) := by decide +kernel
theorem dX12_stand_63 : decode cX12_stand 63 = .ok (.ifCond .eq 7, 3) := by decide +kernel
theorem dX12_stand_66 : decode cX12_stand 66 = .ok (.iconst 1, 1) := by decide +kernel
theorem dX12_stand_67 : decode cX12_stand 67 = .ok (.goto 4, 3) := by decide +kernel
theorem dX12_stand_70 : decode cX12_stand 70 = .ok (.iconst 0, 1) := by decide +kernel
theorem dX12_stand_71 : decode cX12_stand 71 = .ok (.invokevirtual 373, 3) := by decide +kernel
theorem dX12_stand_74 : decode cX12_stand 74 = .ok (.iload_n 2, 1) := by decide +kernel
theorem dX12_stand_75 : decode cX12_stand 75 = .ok (.ifCond .eq 7, 3) := by decide +kernel
theorem dX12_stand_78 : decode cX12_stand 78 = .ok (.iconst 1, 1) := by decide +kernel
theorem dX12_stand_79 : decode cX12_stand 79 = .ok (.goto 4, 3) := by decide +kernel
theorem dX12_stand_82 : decode cX12_stand 82 = .ok (.iconst 0, 1) := by decide +kernel
theorem dX12_stand_83 : decode cX12_stand 83 = .ok (.if_icmp .eq 7, 3) := by decide +kernel
theorem dX12_stand_86 : decode cX12_stand 86 = .ok (.iconst 1, 1) := by decide +kernel
theorem dX12_stand_87 : decode cX12_stand 87 = .ok (.goto 4, 3) := by decide +kernel
theorem dX12_stand_90 : decode cX12_stand 90 = .ok (.iconst 0, 1) := by decide +kernel
theorem dX12_stand_91 : decode cX12_stand 91 = .ok (.ireturn, 1) := by decide +kernel
def q12_stand (σ : St) (p_a : Int32) (is_a : Bool) : Option (Bool × St) :=
  Option.bind (Option.bind (q12_isOne σ p_a) fun x6_ =>
  if ¬ (x6_ = true) then (some 1) else (some 0)) fun x1_ =>
  lt (up σ 0 0 x1_) fun σ10_ =>
  if 0 < (σ10_ 0 0) then (some (false, σ10_)) else
  Option.bind (Option.bind (q12_of σ10_ p_a 4) fun x21_ =>
  if x21_ = 1 then (some 2) else (some 0)) fun x16_ =>
  lt (up σ10_ 0 0 x16_) fun σ25_ =>
  Option.bind (Option.bind (if (σ25_ 0 0) = 0 then (Option.bind (q12_sets σ25_ ((14 + (7 * p_a)) + 3) (if is_a = true then 1 else 0)) fun x40_ =>
  if ¬ x40_.1 = (if is_a = true then 1 else 0) then (some (true, x40_.2)) else (some (false, x40_.2))) else (some (false, σ25_))) fun t32_ =>
  if t32_.1 = true then (some (true, t32_.2)) else (some (false, t32_.2))) fun x27_ =>
  some (x27_.1, x27_.2)
abbrev rm12_stand : Room := { frames := 2, cells := 0, slots := 0, locals := 44 }
set_option maxHeartbeats 4000000 in
set_option maxRecDepth 100000 in
theorem p12_stand {Θ : Tz} {σ : St} {ρ : Option Value × St} (C : Zc Θ cX12_stand 3 RX12 (some .boolean) rm12_stand) (hkd : Θ.2.2.2.2.1 = kdM) {p_a : Int32} {is_a : Bool} {r : (Bool × St)} (hf : q12_stand σ p_a is_a = some r) (hρ : ρ = (some (.int (b2i r.1)), r.2)) : Z Θ 3 0 0 (zQ Θ ρ) σ 0 [(0, .ref (zA Θ 0)), (1, .int p_a), (2, .int (b2i is_a))] [] := by
  unfold q12_stand at hf
  refine z_aload_n C 0 dX12_stand_0 rfl rfl ?_
  obtain ⟨x1_, h2_, hf⟩ := ob hf
  suffices K3_ : Z Θ 3 0 0 (zQ Θ ρ) σ 14 [(0, .ref (zA Θ 0)), (1, .int p_a), (2, .int (b2i is_a))] [.int x1_, .ref (zA Θ 0)] by
    refine z_aload_n C 0 dX12_stand_1 rfl rfl ?_
    refine z_iload_n C 1 dX12_stand_2 rfl rfl ?_
    obtain ⟨x6_, h7_, h2_⟩ := ob h2_
    refine cr12_347 (p_a := p_a) C hkd  h7_ ⟨(Nat.le_of_ble_eq_true rfl), (Nat.le_of_ble_eq_true rfl)⟩ (Nat.le_of_ble_eq_true rfl) ⟨Nat.zero_le _, Nat.zero_le _⟩ dX12_stand_3 ?_
    have K4_ : ¬ (x6_ = true) → Z Θ 3 0 0 (zQ Θ ρ) σ 9 [(0, .ref (zA Θ 0)), (1, .int p_a), (2, .int (b2i is_a))] [.ref (zA Θ 0)] := by
      intro h9_
      rw [if_pos h9_] at h2_
      refine z_iconst (v := 1) C dX12_stand_9 ic_1 ?_
      refine z_goto C 14 dX12_stand_10 (by decide) ?_
      cases h2_
      exact K3_
    have K5_ : ¬ (¬ (x6_ = true)) → Z Θ 3 0 0 (zQ Θ ρ) σ 13 [(0, .ref (zA Θ 0)), (1, .int p_a), (2, .int (b2i is_a))] [.ref (zA Θ 0)] := by
      intro h9_
      rw [if_neg h9_] at h2_
      refine z_iconst (v := 0) C dX12_stand_13 ic_0 ?_
      cases h2_
      exact K3_
    refine cb_t C 13 dX12_stand_6 (by decide) (fun h8_ => ?_) (fun h8_ => ?_)
    · exact K5_ (fun n => n h8_)
    · exact K4_ h8_
  obtain ⟨σ10_, h11_, hf⟩ := lt_ hf
  refine fp12_65 C hkd h11_ dX12_stand_14 ?_
  have K12_ : 0 < (σ10_ 0 0) → Z Θ 3 0 0 (zQ Θ ρ) σ10_ 24 [(0, .ref (zA Θ 0)), (1, .int p_a), (2, .int (b2i is_a))] [] := by
    intro h15_
    rw [if_pos h15_] at hf
    refine z_iconst (v := 0) C dX12_stand_24 ic_0 ?_
    cases hf
    subst hρ
    exact z_zret C (b2i_narrow _) dX12_stand_25
  suffices K13_ : ¬ (0 < (σ10_ 0 0)) → Z Θ 3 0 0 (zQ Θ ρ) σ10_ 26 [(0, .ref (zA Θ 0)), (1, .int p_a), (2, .int (b2i is_a))] [] by
    refine z_aload_n C 0 dX12_stand_17 rfl rfl ?_
    refine fg12_65 C hkd dX12_stand_18 ?_
    refine c0_gt_f C 26 dX12_stand_21 (by decide) (fun h14_ => ?_) (fun h14_ => ?_)
    · exact K12_ h14_
    · exact K13_ h14_
  intro h15_
  rw [if_neg h15_] at hf
  refine z_aload_n C 0 dX12_stand_26 rfl rfl ?_
  obtain ⟨x16_, h17_, hf⟩ := ob hf
  suffices K18_ : Z Θ 3 0 0 (zQ Θ ρ) σ10_ 42 [(0, .ref (zA Θ 0)), (1, .int p_a), (2, .int (b2i is_a))] [.int x16_, .ref (zA Θ 0)] by
    refine z_aload_n C 0 dX12_stand_27 rfl rfl ?_
    refine z_iload_n C 1 dX12_stand_28 rfl rfl ?_
    refine z_iconst (v := 4) C dX12_stand_29 ic_4 ?_
    obtain ⟨x21_, h22_, h17_⟩ := ob h17_
    refine cr12_72 (p_a := p_a) (what_a := 4) C hkd  h22_ ⟨(Nat.le_of_ble_eq_true rfl), (Nat.le_of_ble_eq_true rfl)⟩ (Nat.le_of_ble_eq_true rfl) ⟨Nat.zero_le _, Nat.zero_le _⟩ dX12_stand_30 ?_
    refine z_iconst (v := 1) C dX12_stand_33 ic_1 ?_
    have K19_ : x21_ = 1 → Z Θ 3 0 0 (zQ Θ ρ) σ10_ 37 [(0, .ref (zA Θ 0)), (1, .int p_a), (2, .int (b2i is_a))] [.ref (zA Θ 0)] := by
      intro h24_
      rw [if_pos h24_] at h17_
      refine z_iconst (v := 2) C dX12_stand_37 ic_2 ?_
      refine z_goto C 42 dX12_stand_38 (by decide) ?_
      cases h17_
      exact K18_
    have K20_ : ¬ (x21_ = 1) → Z Θ 3 0 0 (zQ Θ ρ) σ10_ 41 [(0, .ref (zA Θ 0)), (1, .int p_a), (2, .int (b2i is_a))] [.ref (zA Θ 0)] := by
      intro h24_
      rw [if_neg h24_] at h17_
      refine z_iconst (v := 0) C dX12_stand_41 ic_0 ?_
      cases h17_
      exact K18_
    refine c_eq_f C 41 dX12_stand_34 (by decide) (fun h23_ => ?_) (fun h23_ => ?_)
    · exact K19_ h23_
    · exact K20_ h23_
  obtain ⟨σ25_, h26_, hf⟩ := lt_ hf
  refine fp12_65 C hkd h26_ dX12_stand_42 ?_
  obtain ⟨x27_, h28_, hf⟩ := ob hf
  suffices K29_ : Z Θ 3 0 0 (zQ Θ ρ) x27_.2 91 [(0, .ref (zA Θ 0)), (1, .int p_a), (2, .int (b2i is_a))] [.int (b2i x27_.1)] by
    obtain ⟨t32_, h33_, h28_⟩ := ob h28_
    have K30_ : t32_.1 = true → Z Θ 3 0 0 (zQ Θ ρ) t32_.2 86 [(0, .ref (zA Θ 0)), (1, .int p_a), (2, .int (b2i is_a))] [] := by
      intro h48_
      rw [if_pos h48_] at h28_
      refine z_iconst (v := 1) C dX12_stand_86 ic_1 ?_
      refine z_goto C 91 dX12_stand_87 (by decide) ?_
      cases h28_
      exact K29_
    have K31_ : ¬ (t32_.1 = true) → Z Θ 3 0 0 (zQ Θ ρ) t32_.2 90 [(0, .ref (zA Θ 0)), (1, .int p_a), (2, .int (b2i is_a))] [] := by
      intro h48_
      rw [if_neg h48_] at h28_
      refine z_iconst (v := 0) C dX12_stand_90 ic_0 ?_
      cases h28_
      exact K29_
    refine z_aload_n C 0 dX12_stand_45 rfl rfl ?_
    refine fg12_65 C hkd dX12_stand_46 ?_
    refine c0_eq_f C 90 dX12_stand_49 (by decide) (fun h34_ => ?_) (fun h34_ => ?_)
    · rw [if_pos h34_] at h33_
      refine z_aload_n C 0 dX12_stand_52 rfl rfl ?_
      refine z_bipush (v := 14) C dX12_stand_53 bp_14 ?_
      refine z_bipush (v := 7) C dX12_stand_55 bp_7 ?_
      refine z_iload_n C 1 dX12_stand_57 rfl rfl ?_
      refine z_imul C dX12_stand_58 ?_
      refine z_iadd C dX12_stand_59 ?_
      refine z_iconst (v := 3) C dX12_stand_60 ic_3 ?_
      refine z_iadd C dX12_stand_61 ?_
      suffices K35_ : Z Θ 3 0 0 (zQ Θ ρ) σ25_ 71 [(0, .ref (zA Θ 0)), (1, .int p_a), (2, .int (b2i is_a))] [.int (if is_a = true then 1 else 0), .int ((14 + (7 * p_a)) + 3), .ref (zA Θ 0)] by
        have K36_ : is_a = true → Z Θ 3 0 0 (zQ Θ ρ) σ25_ 66 [(0, .ref (zA Θ 0)), (1, .int p_a), (2, .int (b2i is_a))] [.int ((14 + (7 * p_a)) + 3), .ref (zA Θ 0)] := by
          intro h39_
          rw [if_pos h39_] at K35_
          refine z_iconst (v := 1) C dX12_stand_66 ic_1 ?_
          refine z_goto C 71 dX12_stand_67 (by decide) ?_
          exact K35_
        have K37_ : ¬ (is_a = true) → Z Θ 3 0 0 (zQ Θ ρ) σ25_ 70 [(0, .ref (zA Θ 0)), (1, .int p_a), (2, .int (b2i is_a))] [.int ((14 + (7 * p_a)) + 3), .ref (zA Θ 0)] := by
          intro h39_
          rw [if_neg h39_] at K35_
          refine z_iconst (v := 0) C dX12_stand_70 ic_0 ?_
          exact K35_
        refine z_iload_n C 2 dX12_stand_62 rfl rfl ?_
        refine cb_f C 70 dX12_stand_63 (by decide) (fun h38_ => ?_) (fun h38_ => ?_)
        · exact K36_ h38_
        · exact K37_ h38_
      obtain ⟨x40_, h41_, h33_⟩ := ob h33_
      refine cr12_373 (where_a := ((14 + (7 * p_a)) + 3)) (v_a := (if is_a = true then 1 else 0)) C hkd  h41_ ⟨(Nat.le_of_ble_eq_true rfl), (Nat.le_of_ble_eq_true rfl)⟩ (Nat.le_of_ble_eq_true rfl) ⟨Nat.zero_le _, Nat.zero_le _⟩ dX12_stand_71 ?_
      suffices K42_ : Z Θ 3 0 0 (zQ Θ ρ) x40_.2 83 [(0, .ref (zA Θ 0)), (1, .int p_a), (2, .int (b2i is_a))] [.int (if is_a = true then 1 else 0), .int x40_.1] by
        have K43_ : is_a = true → Z Θ 3 0 0 (zQ Θ ρ) x40_.2 78 [(0, .ref (zA Θ 0)), (1, .int p_a), (2, .int (b2i is_a))] [.int x40_.1] := by
          intro h46_
          rw [if_pos h46_] at K42_
          refine z_iconst (v := 1) C dX12_stand_78 ic_1 ?_
          refine z_goto C 83 dX12_stand_79 (by decide) ?_
          exact K42_
        have K44_ : ¬ (is_a = true) → Z Θ 3 0 0 (zQ Θ ρ) x40_.2 82 [(0, .ref (zA Θ 0)), (1, .int p_a), (2, .int (b2i is_a))] [.int x40_.1] := by
          intro h46_
          rw [if_neg h46_] at K42_
          refine z_iconst (v := 0) C dX12_stand_82 ic_0 ?_
          exact K42_
        refine z_iload_n C 2 dX12_stand_74 rfl rfl ?_
        refine cb_f C 82 dX12_stand_75 (by decide) (fun h45_ => ?_) (fun h45_ => ?_)
        · exact K43_ h45_
        · exact K44_ h45_
      refine c_ne_f C 90 dX12_stand_83 (by decide) (fun h47_ => ?_) (fun h47_ => ?_)
      · rw [if_pos h47_] at h33_
        cases h33_
        exact K30_ rfl
      · rw [if_neg h47_] at h33_
        cases h33_
        exact K31_ Bool.false_ne_true
    · rw [if_neg h34_] at h33_
      cases h33_
      exact K31_ Bool.false_ne_true
  cases hf
  subst hρ
  exact z_zret C (b2i_narrow _) dX12_stand_91
theorem c12_stand {l : Launch} {kd : List KD} {w : Wp} {σ : St} {p_a : Int32} {is_a : Bool} (hkd : kd = kdM) (hi : zI kd w) {r : (Bool × St)} (hf : q12_stand σ p_a is_a = some r) : zM l kd w yX12_stand cX12_stand 3 (some .boolean) rm12_stand [.ref (w.2.2.1 0), .int p_a, .int (b2i is_a)] σ (some (.int (b2i r.1)), r.2) := zM_of rfl hi (Nat.le_of_ble_eq_true rfl) (fun Θ _ hw C => by
  obtain ⟨Θ1, Θ2, Θ3, Θ4, Θ5⟩ := Θ
  cases hw
  exact p12_stand C hkd  hf rfl)
/-! LastLoafModel.like -/
theorem dX12_like_0 : decode cX12_like 0 = .ok (.aload_n 0, 1) := by decide +kernel
theorem dX12_like_1 : decode cX12_like 1 = .ok (.aload_n 0, 1) := by decide +kernel
theorem dX12_like_2 : decode cX12_like 2 = .ok (.iload_n 1, 1) := by decide +kernel
theorem dX12_like_3 : decode cX12_like 3 = .ok (.invokevirtual 347, 3) := by decide +kernel
theorem dX12_like_6 : decode cX12_like 6 = .ok (.ifCond .eq 11, 3) := by decide +kernel
theorem dX12_like_9 : decode cX12_like 9 = .ok (.aload_n 0, 1) := by decide +kernel
theorem dX12_like_10 : decode cX12_like 10 = .ok (.iload_n 2, 1) := by decide +kernel
theorem dX12_like_11 : decode cX12_like 11 = .ok (.invokevirtual 347, 3) := by decide +kernel
theorem dX12_like_14 : decode cX12_like 14 = .ok (.ifCond .ne 7, 3) := by decide +kernel
theorem dX12_like_17 : decode cX12_like 17 = .ok (.iconst 1, 1) := by decide +kernel
theorem dX12_like_18 : decode cX12_like 18 = .ok (.goto 23, 3) := by decide +kernel
theorem dX12_like_21 : decode cX12_like 21 = .ok (.iload_n 1, 1) := by decide +kernel
theorem dX12_like_22 : decode cX12_like 22 = .ok (.iload_n 2, 1) := by decide +kernel
theorem dX12_like_23 : decode cX12_like 23 = .ok (.if_icmp .eq 13, 3) := by decide +kernel
theorem dX12_like_26 : decode cX12_like 26 = .ok (.iload_n 3, 1) := by decide +kernel
theorem dX12_like_27 : decode cX12_like 27 = .ok (.iconst 0, 1) := by decide +kernel
theorem dX12_like_28 : decode cX12_like 28 = .ok (.bipush 9, 2) := by decide +kernel
theorem dX12_like_30 : decode cX12_like 30 = .ok (.invokestatic 68, 3) := by decide +kernel
theorem dX12_like_33 : decode cX12_like 33 = .ok (.ifCond .ne 7, 3) := by decide +kernel
theorem dX12_like_36 : decode cX12_like 36 = .ok (.iconst 2, 1) := by decide +kernel
theorem dX12_like_37 : decode cX12_like 37 = .ok (.goto 4, 3) := by decide +kernel
theorem dX12_like_40 : decode cX12_like 40 = .ok (.iconst 0, 1) := by decide +kernel
theorem dX12_like_41 : decode cX12_like 41 = .ok (.putfield 65, 3) := by decide +kernel
theorem dX12_like_44 : decode cX12_like 44 = .ok (.aload_n 0, 1) := by decide +kernel
theorem dX12_like_45 : decode cX12_like 45 = .ok (.getfield 65, 3) := by decide +kernel
theorem dX12_like_48 : decode cX12_like 48 = .ok (.ifCond .le 7, 3) := by decide +kernel
theorem dX12_like_51 : decode cX12_like 51 = .ok (.iconst 0, 1) := by decide +kernel
theorem dX12_like_52 : decode cX12_like 52 = .ok (.goto 17, 3) := by decide +kernel
theorem dX12_like_55 : decode cX12_like 55 = .ok (.aload_n 0, 1) := by decide +kernel
theorem dX12_like_56 : decode cX12_like 56 = .ok (.bipush 63, 2) := by decide +kernel
theorem dX12_like_58 : decode cX12_like 58 = .ok (.bipush 7, 2) := by decide +kernel
theorem dX12_like_60 : decode cX12_like 60 = .ok (.iload_n 1, 1) := by decide +kernel
theorem dX12_like_61 : decode cX12_like 61 = .ok (.imul, 1) := by decide +kernel
theorem dX12_like_62 : decode cX12_like 62 = .ok (.iadd, 1) := by decide +kernel
theorem dX12_like_63 : decode cX12_like 63 = .ok (.iload_n 2, 1) := by decide +kernel
theorem dX12_like_64 : decode cX12_like 64 = .ok (.iadd, 1) := by decide +kernel
theorem dX12_like_65 : decode cX12_like 65 = .ok (.iload_n 3, 1) := by decide +kernel
theorem dX12_like_66 : decode cX12_like 66 = .ok (.invokevirtual 373, 3) := by decide +kernel
theorem dX12_like_69 : decode cX12_like 69 = .ok (.ireturn, 1) := by decide +kernel
def q12_like (σ : St) (p_a : Int32) (o_a : Int32) (n_a : Int32) : Option (Int32 × St) :=
  Option.bind (Option.bind (Option.bind (q12_isOne σ p_a) fun x8_ =>
  if x8_ = true then (Option.bind (q12_isOne σ o_a) fun x11_ =>
  if x11_ = true then (some false) else (some true)) else (some true)) fun t6_ =>
  if t6_ = true then (some 1) else (some (if (p_a = o_a) ∨ (¬ (q12_isIn n_a 0 9 = true)) then 2 else 0))) fun x1_ =>
  lt (up σ 0 0 x1_) fun σ21_ =>
  Option.bind (if 0 < (σ21_ 0 0) then (some (0, σ21_)) else (Option.bind (q12_sets σ21_ ((63 + (7 * p_a)) + o_a) n_a) fun x29_ =>
  some (x29_.1, x29_.2))) fun x23_ =>
  some (x23_.1, x23_.2)
abbrev rm12_like : Room := { frames := 2, cells := 0, slots := 0, locals := 44 }
set_option maxHeartbeats 4000000 in
set_option maxRecDepth 100000 in
theorem p12_like {Θ : Tz} {σ : St} {ρ : Option Value × St} (C : Zc Θ cX12_like 4 RX12 (some .int) rm12_like) (hkd : Θ.2.2.2.2.1 = kdM) {p_a : Int32} {o_a : Int32} {n_a : Int32} {r : (Int32 × St)} (hf : q12_like σ p_a o_a n_a = some r) (hρ : ρ = (some (.int r.1), r.2)) : Z Θ 4 0 0 (zQ Θ ρ) σ 0 [(0, .ref (zA Θ 0)), (1, .int p_a), (2, .int o_a), (3, .int n_a)] [] := by
  unfold q12_like at hf
  refine z_aload_n C 0 dX12_like_0 rfl rfl ?_
  obtain ⟨x1_, h2_, hf⟩ := ob hf
  suffices K3_ : Z Θ 4 0 0 (zQ Θ ρ) σ 41 [(0, .ref (zA Θ 0)), (1, .int p_a), (2, .int o_a), (3, .int n_a)] [.int x1_, .ref (zA Θ 0)] by
    obtain ⟨t6_, h7_, h2_⟩ := ob h2_
    have K4_ : t6_ = true → Z Θ 4 0 0 (zQ Θ ρ) σ 17 [(0, .ref (zA Θ 0)), (1, .int p_a), (2, .int o_a), (3, .int n_a)] [.ref (zA Θ 0)] := by
      intro h20_
      rw [if_pos h20_] at h2_
      refine z_iconst (v := 1) C dX12_like_17 ic_1 ?_
      refine z_goto C 41 dX12_like_18 (by decide) ?_
      cases h2_
      exact K3_
    have K5_ : ¬ (t6_ = true) → Z Θ 4 0 0 (zQ Θ ρ) σ 21 [(0, .ref (zA Θ 0)), (1, .int p_a), (2, .int o_a), (3, .int n_a)] [.ref (zA Θ 0)] := by
      intro h20_
      rw [if_neg h20_] at h2_
      suffices K14_ : Z Θ 4 0 0 (zQ Θ ρ) σ 41 [(0, .ref (zA Θ 0)), (1, .int p_a), (2, .int o_a), (3, .int n_a)] [.int (if (p_a = o_a) ∨ (¬ (q12_isIn n_a 0 9 = true)) then 2 else 0), .ref (zA Θ 0)] by
        have K15_ : (p_a = o_a) ∨ (¬ (q12_isIn n_a 0 9 = true)) → Z Θ 4 0 0 (zQ Θ ρ) σ 36 [(0, .ref (zA Θ 0)), (1, .int p_a), (2, .int o_a), (3, .int n_a)] [.ref (zA Θ 0)] := by
          intro h19_
          rw [if_pos h19_] at K14_
          refine z_iconst (v := 2) C dX12_like_36 ic_2 ?_
          refine z_goto C 41 dX12_like_37 (by decide) ?_
          exact K14_
        have K16_ : ¬ ((p_a = o_a) ∨ (¬ (q12_isIn n_a 0 9 = true))) → Z Θ 4 0 0 (zQ Θ ρ) σ 40 [(0, .ref (zA Θ 0)), (1, .int p_a), (2, .int o_a), (3, .int n_a)] [.ref (zA Θ 0)] := by
          intro h19_
          rw [if_neg h19_] at K14_
          refine z_iconst (v := 0) C dX12_like_40 ic_0 ?_
          exact K14_
        refine z_iload_n C 1 dX12_like_21 rfl rfl ?_
        refine z_iload_n C 2 dX12_like_22 rfl rfl ?_
        refine c_eq_t C 36 dX12_like_23 (by decide) (fun h17_ => ?_) (fun h17_ => ?_)
        · exact K15_ (Or.inl h17_)
        · refine z_iload_n C 3 dX12_like_26 rfl rfl ?_
          refine z_iconst (v := 0) C dX12_like_27 ic_0 ?_
          refine z_bipush (v := 9) C dX12_like_28 bp_9 ?_
          refine cr12_68 (v_a := n_a) (low_a := 0) (high_a := 9) C hkd  ⟨(Nat.le_of_ble_eq_true rfl), (Nat.le_of_ble_eq_true rfl)⟩ (Nat.le_of_ble_eq_true rfl) ⟨Nat.zero_le _, Nat.zero_le _⟩ dX12_like_30 ?_
          refine cb_t C 40 dX12_like_33 (by decide) (fun h18_ => ?_) (fun h18_ => ?_)
          · exact K16_ (fun n => n.elim h17_ (fun n => n h18_))
          · exact K15_ (Or.inr h18_)
      cases h2_
      exact K3_
    refine z_aload_n C 0 dX12_like_1 rfl rfl ?_
    refine z_iload_n C 1 dX12_like_2 rfl rfl ?_
    obtain ⟨x8_, h9_, h7_⟩ := ob h7_
    refine cr12_347 (p_a := p_a) C hkd  h9_ ⟨(Nat.le_of_ble_eq_true rfl), (Nat.le_of_ble_eq_true rfl)⟩ (Nat.le_of_ble_eq_true rfl) ⟨Nat.zero_le _, Nat.zero_le _⟩ dX12_like_3 ?_
    refine cb_f C 17 dX12_like_6 (by decide) (fun h10_ => ?_) (fun h10_ => ?_)
    · rw [if_pos h10_] at h7_
      refine z_aload_n C 0 dX12_like_9 rfl rfl ?_
      refine z_iload_n C 2 dX12_like_10 rfl rfl ?_
      obtain ⟨x11_, h12_, h7_⟩ := ob h7_
      refine cr12_347 (p_a := o_a) C hkd  h12_ ⟨(Nat.le_of_ble_eq_true rfl), (Nat.le_of_ble_eq_true rfl)⟩ (Nat.le_of_ble_eq_true rfl) ⟨Nat.zero_le _, Nat.zero_le _⟩ dX12_like_11 ?_
      refine cb_t C 21 dX12_like_14 (by decide) (fun h13_ => ?_) (fun h13_ => ?_)
      · rw [if_pos h13_] at h7_
        cases h7_
        exact K5_ Bool.false_ne_true
      · rw [if_neg h13_] at h7_
        cases h7_
        exact K4_ rfl
    · rw [if_neg h10_] at h7_
      cases h7_
      exact K4_ rfl
  obtain ⟨σ21_, h22_, hf⟩ := lt_ hf
  refine fp12_65 C hkd h22_ dX12_like_41 ?_
  obtain ⟨x23_, h24_, hf⟩ := ob hf
  suffices K25_ : Z Θ 4 0 0 (zQ Θ ρ) x23_.2 69 [(0, .ref (zA Θ 0)), (1, .int p_a), (2, .int o_a), (3, .int n_a)] [.int x23_.1] by
    have K26_ : 0 < (σ21_ 0 0) → Z Θ 4 0 0 (zQ Θ ρ) σ21_ 51 [(0, .ref (zA Θ 0)), (1, .int p_a), (2, .int o_a), (3, .int n_a)] [] := by
      intro h31_
      rw [if_pos h31_] at h24_
      refine z_iconst (v := 0) C dX12_like_51 ic_0 ?_
      refine z_goto C 69 dX12_like_52 (by decide) ?_
      cases h24_
      exact K25_
    have K27_ : ¬ (0 < (σ21_ 0 0)) → Z Θ 4 0 0 (zQ Θ ρ) σ21_ 55 [(0, .ref (zA Θ 0)), (1, .int p_a), (2, .int o_a), (3, .int n_a)] [] := by
      intro h31_
      rw [if_neg h31_] at h24_
      refine z_aload_n C 0 dX12_like_55 rfl rfl ?_
      refine z_bipush (v := 63) C dX12_like_56 bp_63 ?_
      refine z_bipush (v := 7) C dX12_like_58 bp_7 ?_
      refine z_iload_n C 1 dX12_like_60 rfl rfl ?_
      refine z_imul C dX12_like_61 ?_
      refine z_iadd C dX12_like_62 ?_
      refine z_iload_n C 2 dX12_like_63 rfl rfl ?_
      refine z_iadd C dX12_like_64 ?_
      refine z_iload_n C 3 dX12_like_65 rfl rfl ?_
      obtain ⟨x29_, h30_, h24_⟩ := ob h24_
      refine cr12_373 (where_a := ((63 + (7 * p_a)) + o_a)) (v_a := n_a) C hkd  h30_ ⟨(Nat.le_of_ble_eq_true rfl), (Nat.le_of_ble_eq_true rfl)⟩ (Nat.le_of_ble_eq_true rfl) ⟨Nat.zero_le _, Nat.zero_le _⟩ dX12_like_66 ?_
      cases h24_
      exact K25_
    refine z_aload_n C 0 dX12_like_44 rfl rfl ?_
    refine fg12_65 C hkd dX12_like_45 ?_
    refine c0_gt_f C 55 dX12_like_48 (by decide) (fun h28_ => ?_) (fun h28_ => ?_)
    · exact K26_ h28_
    · exact K27_ h28_
  cases hf
  subst hρ
  exact z_iret C dX12_like_69
theorem c12_like {l : Launch} {kd : List KD} {w : Wp} {σ : St} {p_a : Int32} {o_a : Int32} {n_a : Int32} (hkd : kd = kdM) (hi : zI kd w) {r : (Int32 × St)} (hf : q12_like σ p_a o_a n_a = some r) : zM l kd w yX12_like cX12_like 4 (some .int) rm12_like [.ref (w.2.2.1 0), .int p_a, .int o_a, .int n_a] σ (some (.int r.1), r.2) := zM_of rfl hi (Nat.le_of_ble_eq_true rfl) (fun Θ _ hw C => by
  obtain ⟨Θ1, Θ2, Θ3, Θ4, Θ5⟩ := Θ
  cases hw
  exact p12_like C hkd  hf rfl)

/-! LastLoafModel.isHungrier -/
theorem dX12_isHungrier_0 : decode cX12_isHungrier 0 = .ok (.aload_n 0, 1) := by decide +kernel
theorem dX12_isHungrier_1 : decode cX12_isHungrier 1 = .ok (.iload_n 1, 1) := by decide +kernel
theorem dX12_isHungrier_2 : decode cX12_isHungrier 2 = .ok (.iconst 0, 1) := by decide +kernel
theorem dX12_isHungrier_3 : decode cX12_isHungrier 3 = .ok (.bipush 9, 2) := by decide +kernel
theorem dX12_isHungrier_5 : decode cX12_isHungrier 5 = .ok (.aload_n 0, 1) := by decide +kernel
theorem dX12_isHungrier_6 : decode cX12_isHungrier 6 = .ok (.iload_n 1, 1) := by decide +kernel
theorem dX12_isHungrier_7 : decode cX12_isHungrier 7 = .ok (.iconst 0, 1) := by decide +kernel
theorem dX12_isHungrier_8 : decode cX12_isHungrier 8 = .ok (.invokevirtual 72, 3) := by decide +kernel
theorem dX12_isHungrier_11 : decode cX12_isHungrier 11 = .ok (.iconst 1, 1) := by decide +kernel
theorem dX12_isHungrier_12 : decode cX12_isHungrier 12 = .ok (.iadd, 1) := by decide +kernel
theorem dX12_isHungrier_13 : decode cX12_isHungrier 13 = .ok (.invokestatic 313, 3) := by decide +kernel
theorem dX12_isHungrier_16 : decode cX12_isHungrier 16 = .ok (.invokevirtual 135, 3) := by decide +kernel
theorem dX12_isHungrier_19 : decode cX12_isHungrier 19 = .ok (.return_, 1) := by decide +kernel
def q12_isHungrier (σ : St) (p_a : Int32) : Option St :=
  Option.bind (q12_of σ p_a 0) fun x1_ =>
  Option.bind (q12_lays σ p_a 0 (q12_lesser 9 (x1_ + 1))) fun x3_ =>
  some x3_
abbrev rm12_isHungrier : Room := { frames := 1, cells := 0, slots := 0, locals := 23 }
set_option maxHeartbeats 4000000 in
set_option maxRecDepth 100000 in
theorem p12_isHungrier {Θ : Tz} {σ : St} {ρ : Option Value × St} (C : Zc Θ cX12_isHungrier 2 RX12 none rm12_isHungrier) (hkd : Θ.2.2.2.2.1 = kdM) {p_a : Int32} {r : St} (hf : q12_isHungrier σ p_a = some r) (hρ : ρ = (none, r)) : Z Θ 2 0 0 (zQ Θ ρ) σ 0 [(0, .ref (zA Θ 0)), (1, .int p_a)] [] := by
  unfold q12_isHungrier at hf
  refine z_aload_n C 0 dX12_isHungrier_0 rfl rfl ?_
  refine z_iload_n C 1 dX12_isHungrier_1 rfl rfl ?_
  refine z_iconst (v := 0) C dX12_isHungrier_2 ic_0 ?_
  refine z_bipush (v := 9) C dX12_isHungrier_3 bp_9 ?_
  refine z_aload_n C 0 dX12_isHungrier_5 rfl rfl ?_
  refine z_iload_n C 1 dX12_isHungrier_6 rfl rfl ?_
  refine z_iconst (v := 0) C dX12_isHungrier_7 ic_0 ?_
  obtain ⟨x1_, h2_, hf⟩ := ob hf
  refine cr12_72 (p_a := p_a) (what_a := 0) C hkd  h2_ ⟨(Nat.le_of_ble_eq_true rfl), (Nat.le_of_ble_eq_true rfl)⟩ (Nat.le_of_ble_eq_true rfl) ⟨Nat.zero_le _, Nat.zero_le _⟩ dX12_isHungrier_8 ?_
  refine z_iconst (v := 1) C dX12_isHungrier_11 ic_1 ?_
  refine z_iadd C dX12_isHungrier_12 ?_
  refine cr12_313 (a_a := 9) (b_a := (x1_ + 1)) C hkd  ⟨(Nat.le_of_ble_eq_true rfl), (Nat.le_of_ble_eq_true rfl)⟩ (Nat.le_of_ble_eq_true rfl) ⟨Nat.zero_le _, Nat.zero_le _⟩ dX12_isHungrier_13 ?_
  obtain ⟨x3_, h4_, hf⟩ := ob hf
  refine cr12_135 (p_a := p_a) (what_a := 0) (v_a := (q12_lesser 9 (x1_ + 1))) C hkd  h4_ ⟨(Nat.le_of_ble_eq_true rfl), (Nat.le_of_ble_eq_true rfl)⟩ (Nat.le_of_ble_eq_true rfl) ⟨Nat.zero_le _, Nat.zero_le _⟩ dX12_isHungrier_16 ?_
  cases hf
  subst hρ
  exact z_vret C dX12_isHungrier_19
theorem c12_isHungrier {l : Launch} {kd : List KD} {w : Wp} {σ : St} {p_a : Int32} (hkd : kd = kdM) (hi : zI kd w) {r : St} (hf : q12_isHungrier σ p_a = some r) : zM l kd w yX12_isHungrier cX12_isHungrier 2 none rm12_isHungrier [.ref (w.2.2.1 0), .int p_a] σ (none, r) := zM_of rfl hi (Nat.le_of_ble_eq_true rfl) (fun Θ hl hw C => by
  obtain ⟨Θ1, Θ2, Θ3, Θ4, Θ5⟩ := Θ
  cases hw
  exact p12_isHungrier C hkd  hf rfl)
/-! LastLoafModel.feeds -/
theorem sp_9999 : (Int16.ofInt (9999)).toInt32 = 9999 := by decide +kernel
theorem w_9_170 : Cond.code ({ cls := "LastLoafModel", name := "isHungrier", desc := "(I)V" } : MethodName) prog_14_method_59_code (2 : Nat) (Option.none : Option ClassFile.FieldType) ∈ TB := tb_in (lwt_9 (List.mem_of_getElem? (i := 170) (by decide +kernel))) rfl
theorem w_9_167 : Cond.methodLink "LastLoafModel" (317 : Nat) ({ cls := "LastLoafModel", name := "isHungrier", desc := "(I)V" } : MethodName) ∈ TB := tb_in (lwt_9 (List.mem_of_getElem? (i := 167) (by decide +kernel))) rfl
theorem w_9_169 : Cond.instanceMethod ({ cls := "LastLoafModel", name := "isHungrier", desc := "(I)V" } : MethodName) ∈ TB := tb_in (lwt_9 (List.mem_of_getElem? (i := 169) (by decide +kernel))) rfl
theorem ws_LastLoafModel_isHungrier_I_V : Cond.selects "LastLoafModel" (⟨"LastLoafModel", "isHungrier", "(I)V"⟩ : MethodName) (⟨"LastLoafModel", "isHungrier", "(I)V"⟩ : MethodName) ∈ TB := tb_in (List.mem_append_left _ (List.mem_of_getElem? (i := 65) (by decide +kernel))) rfl
theorem cr12_317 {Θ : Tz} {cc : ByteArray} {nL kc ks : Nat} {ret : Option FieldType} {rm : Room} {Q : State → Prop} {σ : St} {pc : Nat} {lv : List (Nat × Value)} {st : List Value} (C : Zc Θ cc nL RX12 ret rm) (hkd : Θ.2.2.2.2.1 = kdM) {p_a : Int32} {r : St} (hx : q12_isHungrier σ p_a = some r) (hrm : rm12_isHungrier.frames + 1 ≤ rm.frames ∧ 8 + (2 + 11) + rm12_isHungrier.locals ≤ rm.locals) (hcat : (st.map fun v => v.category).sum ≤ 8) (hk : kc ≤ rm.cells ∧ ks ≤ rm.slots) (hd : decode cc pc = .ok (.invokevirtual 317, 3)) (kk : Z Θ nL kc ks Q r (pc + 3) lv st) : Z Θ nL kc ks Q σ pc lv (.int p_a :: .ref (zA Θ 0) :: st) := z_callV C 0 [.int p_a] (none, r) 1 (kM_0 hkd) rfl (c12_isHungrier (p_a := p_a) hkd (zc_inj C) hx) w_9_170 w_9_167 w_9_169 ws_LastLoafModel_isHungrier_I_V w_1_14 ⟨rfl, rfl, hrm.1, hrm.2⟩ (by decide +kernel) rfl rfl hcat hk hd kk
theorem dX12_feeds_0 : decode cX12_feeds 0 = .ok (.aload_n 0, 1) := by decide +kernel
theorem dX12_feeds_1 : decode cX12_feeds 1 = .ok (.getfield 7, 3) := by decide +kernel
theorem dX12_feeds_4 : decode cX12_feeds 4 = .ok (.iconst 5, 1) := by decide +kernel
theorem dX12_feeds_5 : decode cX12_feeds 5 = .ok (.sipush 9999, 3) := by decide +kernel
theorem dX12_feeds_8 : decode cX12_feeds 8 = .ok (.aload_n 0, 1) := by decide +kernel
theorem dX12_feeds_9 : decode cX12_feeds 9 = .ok (.getfield 7, 3) := by decide +kernel
theorem dX12_feeds_12 : decode cX12_feeds 12 = .ok (.iconst 5, 1) := by decide +kernel
theorem dX12_feeds_13 : decode cX12_feeds 13 = .ok (.iaload, 1) := by decide +kernel
theorem dX12_feeds_14 : decode cX12_feeds 14 = .ok (.aload_n 0, 1) := by decide +kernel
theorem dX12_feeds_15 : decode cX12_feeds 15 = .ok (.getfield 7, 3) := by decide +kernel
theorem dX12_feeds_18 : decode cX12_feeds 18 = .ok (.bipush 10, 2) := by decide +kernel
theorem dX12_feeds_20 : decode cX12_feeds 20 = .ok (.aload_n 0, 1) := by decide +kernel
theorem dX12_feeds_21 : decode cX12_feeds 21 = .ok (.getfield 7, 3) := by decide +kernel
theorem dX12_feeds_24 : decode cX12_feeds 24 = .ok (.iconst 4, 1) := by decide +kernel
theorem dX12_feeds_25 : decode cX12_feeds 25 = .ok (.iaload, 1) := by decide +kernel
theorem dX12_feeds_26 : decode cX12_feeds 26 = .ok (.iconst 4, 1) := by decide +kernel
theorem dX12_feeds_27 : decode cX12_feeds 27 = .ok (.irem, 1) := by decide +kernel
theorem dX12_feeds_28 : decode cX12_feeds 28 = .ok (.iadd, 1) := by decide +kernel
theorem dX12_feeds_29 : decode cX12_feeds 29 = .ok (.iaload, 1) := by decide +kernel
theorem dX12_feeds_30 : decode cX12_feeds 30 = .ok (.iadd, 1) := by decide +kernel
theorem dX12_feeds_31 : decode cX12_feeds 31 = .ok (.invokestatic 313, 3) := by decide +kernel
theorem dX12_feeds_34 : decode cX12_feeds 34 = .ok (.iastore, 1) := by decide +kernel
theorem dX12_feeds_35 : decode cX12_feeds 35 = .ok (.iconst 0, 1) := by decide +kernel
theorem dX12_feeds_36 : decode cX12_feeds 36 = .ok (.istore_n 1, 1) := by decide +kernel
theorem dX12_feeds_37 : decode cX12_feeds 37 = .ok (.iload_n 1, 1) := by decide +kernel
theorem dX12_feeds_38 : decode cX12_feeds 38 = .ok (.aload_n 0, 1) := by decide +kernel
theorem dX12_feeds_39 : decode cX12_feeds 39 = .ok (.getfield 7, 3) := by decide +kernel
theorem dX12_feeds_42 : decode cX12_feeds 42 = .ok (.iconst 3, 1) := by decide +kernel
theorem dX12_feeds_43 : decode cX12_feeds 43 = .ok (.iaload, 1) := by decide +kernel
theorem dX12_feeds_44 : decode cX12_feeds 44 = .ok (.if_icmp .ge 66, 3) := by decide +kernel
theorem dX12_feeds_47 : decode cX12_feeds 47 = .ok (.aload_n 0, 1) := by decide +kernel
theorem dX12_feeds_48 : decode cX12_feeds 48 = .ok (.iload_n 1, 1) := by decide +kernel
theorem dX12_feeds_49 : decode cX12_feeds 49 = .ok (.iconst 3, 1) := by decide +kernel
theorem dX12_feeds_50 : decode cX12_feeds 50 = .ok (.invokevirtual 72, 3) := by decide +kernel
theorem dX12_feeds_53 : decode cX12_feeds 53 = .ok (.iconst 1, 1) := by decide +kernel
theorem dX12_feeds_54 : decode cX12_feeds 54 = .ok (.if_icmp .eq 50, 3) := by decide +kernel
theorem dX12_feeds_57 : decode cX12_feeds 57 = .ok (.aload_n 0, 1) := by decide +kernel
theorem dX12_feeds_58 : decode cX12_feeds 58 = .ok (.iload_n 1, 1) := by decide +kernel
theorem dX12_feeds_59 : decode cX12_feeds 59 = .ok (.iconst 4, 1) := by decide +kernel
theorem dX12_feeds_60 : decode cX12_feeds 60 = .ok (.invokevirtual 72, 3) := by decide +kernel
theorem dX12_feeds_63 : decode cX12_feeds 63 = .ok (.iconst 1, 1) := by decide +kernel
theorem dX12_feeds_64 : decode cX12_feeds 64 = .ok (.if_icmp .ne 6, 3) := by decide +kernel
theorem dX12_feeds_67 : decode cX12_feeds 67 = .ok (.goto 37, 3) := by decide +kernel
theorem dX12_feeds_70 : decode cX12_feeds 70 = .ok (.aload_n 0, 1) := by decide +kernel
theorem dX12_feeds_71 : decode cX12_feeds 71 = .ok (.getfield 7, 3) := by decide +kernel
theorem dX12_feeds_74 : decode cX12_feeds 74 = .ok (.iconst 5, 1) := by decide +kernel
theorem dX12_feeds_75 : decode cX12_feeds 75 = .ok (.iaload, 1) := by decide +kernel
theorem dX12_feeds_76 : decode cX12_feeds 76 = .ok (.ifCond .ne 11, 3) := by decide +kernel
theorem dX12_feeds_79 : decode cX12_feeds 79 = .ok (.aload_n 0, 1) := by decide +kernel
theorem dX12_feeds_80 : decode cX12_feeds 80 = .ok (.iload_n 1, 1) := by decide +kernel
theorem dX12_feeds_81 : decode cX12_feeds 81 = .ok (.invokevirtual 317, 3) := by decide +kernel
theorem dX12_feeds_84 : decode cX12_feeds 84 = .ok (.goto 20, 3) := by decide +kernel
theorem dX12_feeds_87 : decode cX12_feeds 87 = .ok (.aload_n 0, 1) := by decide +kernel
theorem dX12_feeds_88 : decode cX12_feeds 88 = .ok (.getfield 7, 3) := by decide +kernel
theorem dX12_feeds_91 : decode cX12_feeds 91 = .ok (.iconst 5, 1) := by decide +kernel
theorem dX12_feeds_92 : decode cX12_feeds 92 = .ok (.dup2, 1) := by decide +kernel
theorem dX12_feeds_93 : decode cX12_feeds 93 = .ok (.iaload, 1) := by decide +kernel
theorem dX12_feeds_94 : decode cX12_feeds 94 = .ok (.iconst 1, 1) := by decide +kernel
theorem dX12_feeds_95 : decode cX12_feeds 95 = .ok (.isub, 1) := by decide +kernel
theorem dX12_feeds_96 : decode cX12_feeds 96 = .ok (.iastore, 1) := by decide +kernel
theorem dX12_feeds_97 : decode cX12_feeds 97 = .ok (.aload_n 0, 1) := by decide +kernel
theorem dX12_feeds_98 : decode cX12_feeds 98 = .ok (.iload_n 1, 1) := by decide +kernel
theorem dX12_feeds_99 : decode cX12_feeds 99 = .ok (.iconst 0, 1) := by decide +kernel
theorem dX12_feeds_100 : decode cX12_feeds 100 = .ok (.iconst 0, 1) := by decide +kernel
theorem dX12_feeds_101 : decode cX12_feeds 101 = .ok (.invokevirtual 135, 3) := by decide +kernel
theorem dX12_feeds_104 : decode cX12_feeds 104 = .ok (.iinc 1 1, 3) := by decide +kernel
theorem dX12_feeds_107 : decode cX12_feeds 107 = .ok (.goto (-70), 3) := by decide +kernel
theorem dX12_feeds_110 : decode cX12_feeds 110 = .ok (.return_, 1) := by decide +kernel
def q12_feeds (σ : St) : Option St :=
  Option.bind (ag σ 1 752 5) fun x1_ =>
  Option.bind (ag σ 1 752 4) fun x3_ =>
  Option.bind (ag σ 1 752 (10 + (irm x3_ 4))) fun x5_ =>
  Option.bind (sa σ 1 752 5 (q12_lesser 9999 (x1_ + x5_))) fun σ7_ =>
  Option.bind (loop2 (fun rec12_ (p15_ : Int32) (σ16_ : St) =>
  Option.bind (ag σ16_ 1 752 3) fun x21_ =>
  if p15_ < x21_ then
  lt (fun (p53_ : Int32) (σ54_ : St) =>
  lt (p53_ + 1) fun p56_ =>
  rec12_ p56_ σ54_) fun k18_ =>
  Option.bind (Option.bind (q12_of σ16_ p15_ 3) fun x29_ =>
  if x29_ = 1 then (some true) else (Option.bind (q12_of σ16_ p15_ 4) fun x32_ =>
  if x32_ = 1 then (some true) else (some false))) fun t27_ =>
  if t27_ = true then (k18_ p15_ σ16_) else
  Option.bind (Option.bind (ag σ16_ 1 752 5) fun x41_ =>
  if x41_ = 0 then (Option.bind (q12_isHungrier σ16_ p15_) fun x45_ =>
  some (x45_)) else (Option.bind (ag σ16_ 1 752 5) fun x47_ =>
  Option.bind (sa σ16_ 1 752 5 (x47_ - 1)) fun σ49_ =>
  Option.bind (q12_lays σ49_ p15_ 0 0) fun x51_ =>
  some (x51_))) fun y36_ =>
  k18_ p15_ y36_
  else (some (p15_, σ16_))) fuelN (0 : Int32) σ7_) fun y9_ =>
  some y9_.2
abbrev rm12_feeds : Room := { frames := 2, cells := 0, slots := 0, locals := 44 }
set_option maxHeartbeats 4000000 in
set_option maxRecDepth 100000 in
theorem p12_feeds {Θ : Tz} {σ : St} {ρ : Option Value × St} (C : Zc Θ cX12_feeds 2 RX12 none rm12_feeds) (hkd : Θ.2.2.2.2.1 = kdM) {r : St} (hf : q12_feeds σ = some r) (hρ : ρ = (none, r)) : Z Θ 2 0 0 (zQ Θ ρ) σ 0 [(0, .ref (zA Θ 0))] [] := by
  unfold q12_feeds at hf
  refine z_aload_n C 0 dX12_feeds_0 rfl rfl ?_
  refine fg12_7 C hkd dX12_feeds_1 ?_
  refine z_iconst (v := 5) C dX12_feeds_4 ic_5 ?_
  refine z_sipush (v := 9999) C dX12_feeds_5 sp_9999 ?_
  refine z_aload_n C 0 dX12_feeds_8 rfl rfl ?_
  refine fg12_7 C hkd dX12_feeds_9 ?_
  refine z_iconst (v := 5) C dX12_feeds_12 ic_5 ?_
  obtain ⟨x1_, h2_, hf⟩ := ob hf
  refine z_ag C h2_ (kM_1 hkd) dX12_feeds_13 ?_
  refine z_aload_n C 0 dX12_feeds_14 rfl rfl ?_
  refine fg12_7 C hkd dX12_feeds_15 ?_
  refine z_bipush (v := 10) C dX12_feeds_18 bp_10 ?_
  refine z_aload_n C 0 dX12_feeds_20 rfl rfl ?_
  refine fg12_7 C hkd dX12_feeds_21 ?_
  refine z_iconst (v := 4) C dX12_feeds_24 ic_4 ?_
  obtain ⟨x3_, h4_, hf⟩ := ob hf
  refine z_ag C h4_ (kM_1 hkd) dX12_feeds_25 ?_
  refine z_iconst (v := 4) C dX12_feeds_26 ic_4 ?_
  refine z_irm C (by decide) dX12_feeds_27 ?_
  refine z_iadd C dX12_feeds_28 ?_
  obtain ⟨x5_, h6_, hf⟩ := ob hf
  refine z_ag C h6_ (kM_1 hkd) dX12_feeds_29 ?_
  refine z_iadd C dX12_feeds_30 ?_
  refine cr12_313 (a_a := 9999) (b_a := (x1_ + x5_)) C hkd  ⟨(Nat.le_of_ble_eq_true rfl), (Nat.le_of_ble_eq_true rfl)⟩ (Nat.le_of_ble_eq_true rfl) ⟨Nat.zero_le _, Nat.zero_le _⟩ dX12_feeds_31 ?_
  obtain ⟨σ7_, h8_, hf⟩ := ob hf
  refine z_sa C h8_ (kM_1 hkd) dX12_feeds_34 ?_
  refine z_iconst (v := 0) C dX12_feeds_35 ic_0 ?_
  refine z_istN C dX12_feeds_36 rfl rfl (Nat.le_of_ble_eq_true rfl) rfl ?_
  refine Z.sub [1, 0] rfl ?_
  obtain ⟨y9_, h10_, hf⟩ := ob hf
  suffices K11_ : Z Θ 2 0 0 (zQ Θ ρ) y9_.2 110 [(0, .ref (zA Θ 0)), (1, .int y9_.1)] [] by
    refine loop2_Z (P := fun (p15_ : Int32) (σ16_ : St) => Z Θ 2 0 0 (zQ Θ ρ) σ16_ 37 [(0, .ref (zA Θ 0)), (1, .int p15_)] []) ?_ fuelN (0 : Int32) σ7_ h10_
    clear h10_
    intro rec12_ p15_ σ16_ h13_ h14_
    refine z_iload_n C 1 dX12_feeds_37 rfl rfl ?_
    refine z_aload_n C 0 dX12_feeds_38 rfl rfl ?_
    refine fg12_7 C hkd dX12_feeds_39 ?_
    refine z_iconst (v := 3) C dX12_feeds_42 ic_3 ?_
    obtain ⟨x21_, h22_, h14_⟩ := ob h14_
    refine z_ag C h22_ (kM_1 hkd) dX12_feeds_43 ?_
    have K19_ : p15_ < x21_ → Z Θ 2 0 0 (zQ Θ ρ) σ16_ 47 [(0, .ref (zA Θ 0)), (1, .int p15_)] [] := by
      intro h24_
      rw [if_pos h24_] at h14_
      obtain ⟨k18_, h55_, h14_⟩ := lt_ h14_
      have K17_ : ∀ (p53_ : Int32) (σ54_ : St), k18_ p53_ σ54_ = some y9_ → Z Θ 2 0 0 (zQ Θ ρ) σ54_ 104 [(0, .ref (zA Θ 0)), (1, .int p53_)] [] := by
        intro p53_ σ54_ h14_
        subst h55_
        dsimp only at h14_
        obtain ⟨p56_, h57_, h14_⟩ := lt_ h14_
        refine z_inc C 1 dX12_feeds_104 rfl ic_1 h57_ (Nat.le_of_ble_eq_true rfl) rfl ?_
        refine z_goto C 37 dX12_feeds_107 (by decide) ?_
        refine Z.sub [1, 0] rfl ?_
        exact h13_ _ _ h14_
      obtain ⟨t27_, h28_, h14_⟩ := ob h14_
      have K25_j : t27_ = true → Z Θ 2 0 0 (zQ Θ ρ) σ16_ 104 [(0, .ref (zA Θ 0)), (1, .int p15_)] [] := by
        intro h35_
        rw [if_pos h35_] at h14_
        exact K17_ _ _ h14_
      have K25_ : t27_ = true → Z Θ 2 0 0 (zQ Θ ρ) σ16_ 67 [(0, .ref (zA Θ 0)), (1, .int p15_)] [] := by
        intro h35_
        refine z_goto C 104 dX12_feeds_67 (by decide) ?_
        exact K25_j h35_
      suffices K26_ : ¬ (t27_ = true) → Z Θ 2 0 0 (zQ Θ ρ) σ16_ 70 [(0, .ref (zA Θ 0)), (1, .int p15_)] [] by
        refine z_aload_n C 0 dX12_feeds_47 rfl rfl ?_
        refine z_iload_n C 1 dX12_feeds_48 rfl rfl ?_
        refine z_iconst (v := 3) C dX12_feeds_49 ic_3 ?_
        obtain ⟨x29_, h30_, h28_⟩ := ob h28_
        refine cr12_72 (p_a := p15_) (what_a := 3) C hkd  h30_ ⟨(Nat.le_of_ble_eq_true rfl), (Nat.le_of_ble_eq_true rfl)⟩ (Nat.le_of_ble_eq_true rfl) ⟨Nat.zero_le _, Nat.zero_le _⟩ dX12_feeds_50 ?_
        refine z_iconst (v := 1) C dX12_feeds_53 ic_1 ?_
        refine c_eq_t C 104 dX12_feeds_54 (by decide) (fun h31_ => ?_) (fun h31_ => ?_)
        · rw [if_pos h31_] at h28_
          cases h28_
          exact K25_j rfl
        · rw [if_neg h31_] at h28_
          refine z_aload_n C 0 dX12_feeds_57 rfl rfl ?_
          refine z_iload_n C 1 dX12_feeds_58 rfl rfl ?_
          refine z_iconst (v := 4) C dX12_feeds_59 ic_4 ?_
          obtain ⟨x32_, h33_, h28_⟩ := ob h28_
          refine cr12_72 (p_a := p15_) (what_a := 4) C hkd  h33_ ⟨(Nat.le_of_ble_eq_true rfl), (Nat.le_of_ble_eq_true rfl)⟩ (Nat.le_of_ble_eq_true rfl) ⟨Nat.zero_le _, Nat.zero_le _⟩ dX12_feeds_60 ?_
          refine z_iconst (v := 1) C dX12_feeds_63 ic_1 ?_
          refine c_eq_f C 70 dX12_feeds_64 (by decide) (fun h34_ => ?_) (fun h34_ => ?_)
          · rw [if_pos h34_] at h28_
            cases h28_
            exact K25_ rfl
          · rw [if_neg h34_] at h28_
            cases h28_
            exact K26_ Bool.false_ne_true
      intro h35_
      rw [if_neg h35_] at h14_
      obtain ⟨y36_, h37_, h14_⟩ := ob h14_
      suffices K38_ : Z Θ 2 0 0 (zQ Θ ρ) y36_ 104 [(0, .ref (zA Θ 0)), (1, .int p15_)] [] by
        refine z_aload_n C 0 dX12_feeds_70 rfl rfl ?_
        refine fg12_7 C hkd dX12_feeds_71 ?_
        refine z_iconst (v := 5) C dX12_feeds_74 ic_5 ?_
        obtain ⟨x41_, h42_, h37_⟩ := ob h37_
        refine z_ag C h42_ (kM_1 hkd) dX12_feeds_75 ?_
        have K39_ : x41_ = 0 → Z Θ 2 0 0 (zQ Θ ρ) σ16_ 79 [(0, .ref (zA Θ 0)), (1, .int p15_)] [] := by
          intro h44_
          rw [if_pos h44_] at h37_
          refine z_aload_n C 0 dX12_feeds_79 rfl rfl ?_
          refine z_iload_n C 1 dX12_feeds_80 rfl rfl ?_
          obtain ⟨x45_, h46_, h37_⟩ := ob h37_
          refine cr12_317 (p_a := p15_) C hkd  h46_ ⟨(Nat.le_of_ble_eq_true rfl), (Nat.le_of_ble_eq_true rfl)⟩ (Nat.le_of_ble_eq_true rfl) ⟨Nat.zero_le _, Nat.zero_le _⟩ dX12_feeds_81 ?_
          refine z_goto C 104 dX12_feeds_84 (by decide) ?_
          cases h37_
          exact K38_
        have K40_ : ¬ (x41_ = 0) → Z Θ 2 0 0 (zQ Θ ρ) σ16_ 87 [(0, .ref (zA Θ 0)), (1, .int p15_)] [] := by
          intro h44_
          rw [if_neg h44_] at h37_
          refine z_aload_n C 0 dX12_feeds_87 rfl rfl ?_
          refine fg12_7 C hkd dX12_feeds_88 ?_
          refine z_iconst (v := 5) C dX12_feeds_91 ic_5 ?_
          refine z_dup2 C dX12_feeds_92 rfl rfl ?_
          obtain ⟨x47_, h48_, h37_⟩ := ob h37_
          refine z_ag C h48_ (kM_1 hkd) dX12_feeds_93 ?_
          refine z_iconst (v := 1) C dX12_feeds_94 ic_1 ?_
          refine z_isub C dX12_feeds_95 ?_
          obtain ⟨σ49_, h50_, h37_⟩ := ob h37_
          refine z_sa C h50_ (kM_1 hkd) dX12_feeds_96 ?_
          refine z_aload_n C 0 dX12_feeds_97 rfl rfl ?_
          refine z_iload_n C 1 dX12_feeds_98 rfl rfl ?_
          refine z_iconst (v := 0) C dX12_feeds_99 ic_0 ?_
          refine z_iconst (v := 0) C dX12_feeds_100 ic_0 ?_
          obtain ⟨x51_, h52_, h37_⟩ := ob h37_
          refine cr12_135 (p_a := p15_) (what_a := 0) (v_a := 0) C hkd  h52_ ⟨(Nat.le_of_ble_eq_true rfl), (Nat.le_of_ble_eq_true rfl)⟩ (Nat.le_of_ble_eq_true rfl) ⟨Nat.zero_le _, Nat.zero_le _⟩ dX12_feeds_101 ?_
          cases h37_
          exact K38_
        refine c0_eq_f C 87 dX12_feeds_76 (by decide) (fun h43_ => ?_) (fun h43_ => ?_)
        · exact K39_ h43_
        · exact K40_ h43_
      exact K17_ _ _ h14_
    have K20_ : ¬ (p15_ < x21_) → Z Θ 2 0 0 (zQ Θ ρ) σ16_ 110 [(0, .ref (zA Θ 0)), (1, .int p15_)] [] := by
      intro h24_
      rw [if_neg h24_] at h14_
      cases h14_
      exact K11_
    refine c_lt_f C 110 dX12_feeds_44 (by decide) (fun h23_ => ?_) (fun h23_ => ?_)
    · exact K19_ h23_
    · exact K20_ h23_
  cases hf
  subst hρ
  exact z_vret C dX12_feeds_110
theorem c12_feeds {l : Launch} {kd : List KD} {w : Wp} {σ : St} (hkd : kd = kdM) (hi : zI kd w) {r : St} (hf : q12_feeds σ = some r) : zM l kd w yX12_feeds cX12_feeds 2 none rm12_feeds [.ref (w.2.2.1 0)] σ (none, r) := zM_of rfl hi (Nat.le_of_ble_eq_true rfl) (fun Θ hl hw C => by
  obtain ⟨Θ1, Θ2, Θ3, Θ4, Θ5⟩ := Θ
  cases hw
  exact p12_feeds C hkd  hf rfl)
/-! LastLoafModel.lastLoaf -/
theorem w_9_61 : Cond.code ({ cls := "LastLoafModel", name := "looks", desc := "()V" } : MethodName) prog_14_method_44_code (3 : Nat) (Option.none : Option ClassFile.FieldType) ∈ TB := tb_in (lwt_9 (List.mem_of_getElem? (i := 61) (by decide +kernel))) rfl
theorem w_9_58 : Cond.methodLink "LastLoafModel" (320 : Nat) ({ cls := "LastLoafModel", name := "looks", desc := "()V" } : MethodName) ∈ TB := tb_in (lwt_9 (List.mem_of_getElem? (i := 58) (by decide +kernel))) rfl
theorem w_9_60 : Cond.instanceMethod ({ cls := "LastLoafModel", name := "looks", desc := "()V" } : MethodName) ∈ TB := tb_in (lwt_9 (List.mem_of_getElem? (i := 60) (by decide +kernel))) rfl
theorem ws_LastLoafModel_looks__V : Cond.selects "LastLoafModel" (⟨"LastLoafModel", "looks", "()V"⟩ : MethodName) (⟨"LastLoafModel", "looks", "()V"⟩ : MethodName) ∈ TB := tb_in (List.mem_append_left _ (List.mem_of_getElem? (i := 44) (by decide +kernel))) rfl
theorem cr12_320 {Θ : Tz} {cc : ByteArray} {nL kc ks : Nat} {ret : Option FieldType} {rm : Room} {Q : State → Prop} {σ : St} {pc : Nat} {lv : List (Nat × Value)} {st : List Value} (C : Zc Θ cc nL RX12 ret rm) (hkd : Θ.2.2.2.2.1 = kdM) {r : St} (hx : q12_looks σ = some r) (hrm : rm12_looks.frames + 1 ≤ rm.frames ∧ 8 + (3 + 11) + rm12_looks.locals ≤ rm.locals) (hcat : (st.map fun v => v.category).sum ≤ 8) (hk : kc ≤ rm.cells ∧ ks ≤ rm.slots) (hd : decode cc pc = .ok (.invokevirtual 320, 3)) (kk : Z Θ nL kc ks Q r (pc + 3) lv st) : Z Θ nL kc ks Q σ pc lv (.ref (zA Θ 0) :: st) := z_callV C 0 [] (none, r) 0 (kM_0 hkd) rfl (c12_looks hkd (zc_inj C) hx) w_9_61 w_9_58 w_9_60 ws_LastLoafModel_looks__V w_1_14 ⟨rfl, rfl, hrm.1, hrm.2⟩ (by decide +kernel) rfl rfl hcat hk hd kk
theorem w_9_178 : Cond.code ({ cls := "LastLoafModel", name := "winnerBy", desc := "(I)I" } : MethodName) prog_14_method_56_code (4 : Nat) (Option.some ClassFile.FieldType.int) ∈ TB := tb_in (lwt_9 (List.mem_of_getElem? (i := 178) (by decide +kernel))) rfl
theorem w_9_175 : Cond.methodLink "LastLoafModel" (323 : Nat) ({ cls := "LastLoafModel", name := "winnerBy", desc := "(I)I" } : MethodName) ∈ TB := tb_in (lwt_9 (List.mem_of_getElem? (i := 175) (by decide +kernel))) rfl
theorem w_9_177 : Cond.instanceMethod ({ cls := "LastLoafModel", name := "winnerBy", desc := "(I)I" } : MethodName) ∈ TB := tb_in (lwt_9 (List.mem_of_getElem? (i := 177) (by decide +kernel))) rfl
theorem ws_LastLoafModel_winnerBy_I_I : Cond.selects "LastLoafModel" (⟨"LastLoafModel", "winnerBy", "(I)I"⟩ : MethodName) (⟨"LastLoafModel", "winnerBy", "(I)I"⟩ : MethodName) ∈ TB := tb_in (List.mem_append_left _ (List.mem_of_getElem? (i := 67) (by decide +kernel))) rfl
theorem cr12_323 {Θ : Tz} {cc : ByteArray} {nL kc ks : Nat} {ret : Option FieldType} {rm : Room} {Q : State → Prop} {σ : St} {pc : Nat} {lv : List (Nat × Value)} {st : List Value} (C : Zc Θ cc nL RX12 ret rm) (hkd : Θ.2.2.2.2.1 = kdM) {way_a : Int32} {r : Int32} (hx : q12_winnerBy σ way_a = some r) (hrm : rm12_winnerBy.frames + 1 ≤ rm.frames ∧ 8 + (4 + 11) + rm12_winnerBy.locals ≤ rm.locals) (hcat : (st.map fun v => v.category).sum ≤ 8) (hk : kc ≤ rm.cells ∧ ks ≤ rm.slots) (hd : decode cc pc = .ok (.invokevirtual 323, 3)) (kk : Z Θ nL kc ks Q σ (pc + 3) lv (.int r :: st)) : Z Θ nL kc ks Q σ pc lv (.int way_a :: .ref (zA Θ 0) :: st) := z_callV C 0 [.int way_a] (some (.int r), σ) 1 (kM_0 hkd) rfl (c12_winnerBy (way_a := way_a) hkd (zc_inj C) hx) w_9_178 w_9_175 w_9_177 ws_LastLoafModel_winnerBy_I_I w_1_14 ⟨rfl, rfl, hrm.1, hrm.2⟩ (by decide +kernel) rfl rfl hcat hk hd kk
theorem w_9_197 : Cond.code ({ cls := "LastLoafModel", name := "logs", desc := "(III)V" } : MethodName) prog_14_method_58_code (5 : Nat) (Option.none : Option ClassFile.FieldType) ∈ TB := tb_in (lwt_9 (List.mem_of_getElem? (i := 197) (by decide +kernel))) rfl
theorem w_9_194 : Cond.methodLink "LastLoafModel" (326 : Nat) ({ cls := "LastLoafModel", name := "logs", desc := "(III)V" } : MethodName) ∈ TB := tb_in (lwt_9 (List.mem_of_getElem? (i := 194) (by decide +kernel))) rfl
theorem w_9_196 : Cond.instanceMethod ({ cls := "LastLoafModel", name := "logs", desc := "(III)V" } : MethodName) ∈ TB := tb_in (lwt_9 (List.mem_of_getElem? (i := 196) (by decide +kernel))) rfl
theorem ws_LastLoafModel_logs_III_V : Cond.selects "LastLoafModel" (⟨"LastLoafModel", "logs", "(III)V"⟩ : MethodName) (⟨"LastLoafModel", "logs", "(III)V"⟩ : MethodName) ∈ TB := tb_in (List.mem_append_left _ (List.mem_of_getElem? (i := 71) (by decide +kernel))) rfl
theorem cr12_326 {Θ : Tz} {cc : ByteArray} {nL kc ks : Nat} {ret : Option FieldType} {rm : Room} {Q : State → Prop} {σ : St} {pc : Nat} {lv : List (Nat × Value)} {st : List Value} (C : Zc Θ cc nL RX12 ret rm) (hkd : Θ.2.2.2.2.1 = kdM) {what_a : Int32} {p_a : Int32} {votes_a : Int32} {r : St} (hx : q12_logs σ what_a p_a votes_a = some r) (hrm : rm12_logs.frames + 1 ≤ rm.frames ∧ 8 + (5 + 11) + rm12_logs.locals ≤ rm.locals) (hcat : (st.map fun v => v.category).sum ≤ 8) (hk : kc ≤ rm.cells ∧ ks ≤ rm.slots) (hd : decode cc pc = .ok (.invokevirtual 326, 3)) (kk : Z Θ nL kc ks Q r (pc + 3) lv st) : Z Θ nL kc ks Q σ pc lv (.int votes_a :: .int p_a :: .int what_a :: .ref (zA Θ 0) :: st) := z_callV C 0 [.int what_a, .int p_a, .int votes_a] (none, r) 3 (kM_0 hkd) rfl (c12_logs (what_a := what_a) (p_a := p_a) (votes_a := votes_a) hkd (zc_inj C) hx) w_9_197 w_9_194 w_9_196 ws_LastLoafModel_logs_III_V w_1_14 ⟨rfl, rfl, hrm.1, hrm.2⟩ (by decide +kernel) rfl rfl hcat hk hd kk
theorem dX12_lastLoaf_0 : decode cX12_lastLoaf 0 = .ok (.iconst (-1), 1) := by decide +kernel
theorem dX12_lastLoaf_1 : decode cX12_lastLoaf 1 = .ok (.istore_n 1, 1) := by decide +kernel
theorem dX12_lastLoaf_2 : decode cX12_lastLoaf 2 = .ok (.aload_n 0, 1) := by decide +kernel
theorem dX12_lastLoaf_3 : decode cX12_lastLoaf 3 = .ok (.getfield 7, 3) := by decide +kernel
theorem dX12_lastLoaf_6 : decode cX12_lastLoaf 6 = .ok (.iconst 5, 1) := by decide +kernel
theorem dX12_lastLoaf_7 : decode cX12_lastLoaf 7 = .ok (.iaload, 1) := by decide +kernel
theorem dX12_lastLoaf_8 : decode cX12_lastLoaf 8 = .ok (.ifCond .le 61, 3) := by decide +kernel
theorem dX12_lastLoaf_11 : decode cX12_lastLoaf 11 = .ok (.aload_n 0, 1) := by decide +kernel
theorem dX12_lastLoaf_12 : decode cX12_lastLoaf 12 = .ok (.iconst 3, 1) := by decide +kernel
theorem dX12_lastLoaf_13 : decode cX12_lastLoaf 13 = .ok (.invokevirtual 266, 3) := by decide +kernel
theorem dX12_lastLoaf_16 : decode cX12_lastLoaf 16 = .ok (.aload_n 0, 1) := by decide +kernel
theorem dX12_lastLoaf_17 : decode cX12_lastLoaf 17 = .ok (.iconst 4, 1) := by decide +kernel
theorem dX12_lastLoaf_18 : decode cX12_lastLoaf 18 = .ok (.invokevirtual 266, 3) := by decide +kernel
theorem dX12_lastLoaf_21 : decode cX12_lastLoaf 21 = .ok (.iconst (-1), 1) := by decide +kernel
theorem dX12_lastLoaf_22 : decode cX12_lastLoaf 22 = .ok (.ixor, 1) := by decide +kernel
theorem dX12_lastLoaf_23 : decode cX12_lastLoaf 23 = .ok (.iand, 1) := by decide +kernel
theorem dX12_lastLoaf_24 : decode cX12_lastLoaf 24 = .ok (.ifCond .eq 45, 3) := by decide +kernel
theorem dX12_lastLoaf_27 : decode cX12_lastLoaf 27 = .ok (.aload_n 0, 1) := by decide +kernel
theorem dX12_lastLoaf_28 : decode cX12_lastLoaf 28 = .ok (.invokevirtual 320, 3) := by decide +kernel
theorem dX12_lastLoaf_31 : decode cX12_lastLoaf 31 = .ok (.aload_n 0, 1) := by decide +kernel
theorem dX12_lastLoaf_32 : decode cX12_lastLoaf 32 = .ok (.aload_n 0, 1) := by decide +kernel
theorem dX12_lastLoaf_33 : decode cX12_lastLoaf 33 = .ok (.getfield 7, 3) := by decide +kernel
theorem dX12_lastLoaf_36 : decode cX12_lastLoaf 36 = .ok (.bipush 6, 2) := by decide +kernel
theorem dX12_lastLoaf_38 : decode cX12_lastLoaf 38 = .ok (.iaload, 1) := by decide +kernel
theorem dX12_lastLoaf_39 : decode cX12_lastLoaf 39 = .ok (.invokevirtual 323, 3) := by decide +kernel
theorem dX12_lastLoaf_42 : decode cX12_lastLoaf 42 = .ok (.istore_n 1, 1) := by decide +kernel
theorem dX12_lastLoaf_43 : decode cX12_lastLoaf 43 = .ok (.aload_n 0, 1) := by decide +kernel
theorem dX12_lastLoaf_44 : decode cX12_lastLoaf 44 = .ok (.getfield 7, 3) := by decide +kernel
theorem dX12_lastLoaf_47 : decode cX12_lastLoaf 47 = .ok (.iconst 5, 1) := by decide +kernel
theorem dX12_lastLoaf_48 : decode cX12_lastLoaf 48 = .ok (.dup2, 1) := by decide +kernel
theorem dX12_lastLoaf_49 : decode cX12_lastLoaf 49 = .ok (.iaload, 1) := by decide +kernel
theorem dX12_lastLoaf_50 : decode cX12_lastLoaf 50 = .ok (.iconst 1, 1) := by decide +kernel
theorem dX12_lastLoaf_51 : decode cX12_lastLoaf 51 = .ok (.isub, 1) := by decide +kernel
theorem dX12_lastLoaf_52 : decode cX12_lastLoaf 52 = .ok (.iastore, 1) := by decide +kernel
theorem dX12_lastLoaf_53 : decode cX12_lastLoaf 53 = .ok (.aload_n 0, 1) := by decide +kernel
theorem dX12_lastLoaf_54 : decode cX12_lastLoaf 54 = .ok (.iconst 0, 1) := by decide +kernel
theorem dX12_lastLoaf_55 : decode cX12_lastLoaf 55 = .ok (.iload_n 1, 1) := by decide +kernel
theorem dX12_lastLoaf_56 : decode cX12_lastLoaf 56 = .ok (.aload_n 0, 1) := by decide +kernel
theorem dX12_lastLoaf_57 : decode cX12_lastLoaf 57 = .ok (.iload_n 1, 1) := by decide +kernel
theorem dX12_lastLoaf_58 : decode cX12_lastLoaf 58 = .ok (.iconst 0, 1) := by decide +kernel
theorem dX12_lastLoaf_59 : decode cX12_lastLoaf 59 = .ok (.aload_n 0, 1) := by decide +kernel
theorem dX12_lastLoaf_60 : decode cX12_lastLoaf 60 = .ok (.getfield 269, 3) := by decide +kernel
theorem dX12_lastLoaf_63 : decode cX12_lastLoaf 63 = .ok (.invokevirtual 292, 3) := by decide +kernel
theorem dX12_lastLoaf_66 : decode cX12_lastLoaf 66 = .ok (.invokevirtual 326, 3) := by decide +kernel
theorem dX12_lastLoaf_69 : decode cX12_lastLoaf 69 = .ok (.iconst 0, 1) := by decide +kernel
theorem dX12_lastLoaf_70 : decode cX12_lastLoaf 70 = .ok (.istore_n 2, 1) := by decide +kernel
theorem dX12_lastLoaf_71 : decode cX12_lastLoaf 71 = .ok (.iload_n 2, 1) := by decide +kernel
theorem dX12_lastLoaf_72 : decode cX12_lastLoaf 72 = .ok (.aload_n 0, 1) := by decide +kernel
theorem dX12_lastLoaf_73 : decode cX12_lastLoaf 73 = .ok (.getfield 7, 3) := by decide +kernel
theorem dX12_lastLoaf_76 : decode cX12_lastLoaf 76 = .ok (.iconst 3, 1) := by decide +kernel
theorem dX12_lastLoaf_77 : decode cX12_lastLoaf 77 = .ok (.iaload, 1) := by decide +kernel
theorem dX12_lastLoaf_78 : decode cX12_lastLoaf 78 = .ok (.if_icmp .ge 97, 3) := by decide +kernel
theorem dX12_lastLoaf_81 : decode cX12_lastLoaf 81 = .ok (.iload_n 2, 1) := by decide +kernel
theorem dX12_lastLoaf_82 : decode cX12_lastLoaf 82 = .ok (.iload_n 1, 1) := by decide +kernel
theorem dX12_lastLoaf_83 : decode cX12_lastLoaf 83 = .ok (.if_icmp .ne 54, 3) := by decide +kernel
theorem dX12_lastLoaf_86 : decode cX12_lastLoaf 86 = .ok (.aload_n 0, 1) := by decide +kernel
theorem dX12_lastLoaf_87 : decode cX12_lastLoaf 87 = .ok (.iload_n 2, 1) := by decide +kernel
theorem dX12_lastLoaf_88 : decode cX12_lastLoaf 88 = .ok (.iconst 0, 1) := by decide +kernel
theorem dX12_lastLoaf_89 : decode cX12_lastLoaf 89 = .ok (.iconst 0, 1) := by decide +kernel
theorem dX12_lastLoaf_90 : decode cX12_lastLoaf 90 = .ok (.invokevirtual 135, 3) := by decide +kernel
theorem dX12_lastLoaf_93 : decode cX12_lastLoaf 93 = .ok (.aload_n 0, 1) := by decide +kernel
theorem dX12_lastLoaf_94 : decode cX12_lastLoaf 94 = .ok (.iload_n 2, 1) := by decide +kernel
theorem dX12_lastLoaf_95 : decode cX12_lastLoaf 95 = .ok (.iconst 5, 1) := by decide +kernel
theorem dX12_lastLoaf_96 : decode cX12_lastLoaf 96 = .ok (.sipush 999, 3) := by decide +kernel
theorem dX12_lastLoaf_99 : decode cX12_lastLoaf 99 = .ok (.aload_n 0, 1) := by decide +kernel
theorem dX12_lastLoaf_100 : decode cX12_lastLoaf 100 = .ok (.iload_n 2, 1) := by decide +kernel
theorem dX12_lastLoaf_101 : decode cX12_lastLoaf 101 = .ok (.iconst 5, 1) := by decide +kernel
theorem dX12_lastLoaf_102 : decode cX12_lastLoaf 102 = .ok (.invokevirtual 72, 3) := by decide +kernel
theorem dX12_lastLoaf_105 : decode cX12_lastLoaf 105 = .ok (.iconst 1, 1) := by decide +kernel
theorem dX12_lastLoaf_106 : decode cX12_lastLoaf 106 = .ok (.iadd, 1) := by decide +kernel
theorem dX12_lastLoaf_107 : decode cX12_lastLoaf 107 = .ok (.invokestatic 313, 3) := by decide +kernel
theorem dX12_lastLoaf_110 : decode cX12_lastLoaf 110 = .ok (.invokevirtual 135, 3) := by decide +kernel
theorem dX12_lastLoaf_113 : decode cX12_lastLoaf 113 = .ok (.aload_n 0, 1) := by decide +kernel
theorem dX12_lastLoaf_114 : decode cX12_lastLoaf 114 = .ok (.iload_n 2, 1) := by decide +kernel
theorem dX12_lastLoaf_115 : decode cX12_lastLoaf 115 = .ok (.bipush 6, 2) := by decide +kernel
theorem dX12_lastLoaf_117 : decode cX12_lastLoaf 117 = .ok (.bipush 99, 2) := by decide +kernel
theorem dX12_lastLoaf_119 : decode cX12_lastLoaf 119 = .ok (.aload_n 0, 1) := by decide +kernel
theorem dX12_lastLoaf_120 : decode cX12_lastLoaf 120 = .ok (.iload_n 2, 1) := by decide +kernel
theorem dX12_lastLoaf_121 : decode cX12_lastLoaf 121 = .ok (.bipush 6, 2) := by decide +kernel
theorem dX12_lastLoaf_123 : decode cX12_lastLoaf 123 = .ok (.invokevirtual 72, 3) := by decide +kernel
theorem dX12_lastLoaf_126 : decode cX12_lastLoaf 126 = .ok (.iconst 1, 1) := by decide +kernel
theorem dX12_lastLoaf_127 : decode cX12_lastLoaf 127 = .ok (.iadd, 1) := by decide +kernel
theorem dX12_lastLoaf_128 : decode cX12_lastLoaf 128 = .ok (.invokestatic 313, 3) := by decide +kernel
theorem dX12_lastLoaf_131 : decode cX12_lastLoaf 131 = .ok (.invokevirtual 135, 3) := by decide +kernel
theorem dX12_lastLoaf_134 : decode cX12_lastLoaf 134 = .ok (.goto 35, 3) := by decide +kernel
theorem dX12_lastLoaf_137 : decode cX12_lastLoaf 137 = .ok (.aload_n 0, 1) := by decide +kernel
theorem dX12_lastLoaf_138 : decode cX12_lastLoaf 138 = .ok (.iload_n 2, 1) := by decide +kernel
theorem dX12_lastLoaf_139 : decode cX12_lastLoaf 139 = .ok (.bipush 6, 2) := by decide +kernel
theorem dX12_lastLoaf_141 : decode cX12_lastLoaf 141 = .ok (.iconst 0, 1) := by decide +kernel
theorem dX12_lastLoaf_142 : decode cX12_lastLoaf 142 = .ok (.invokevirtual 135, 3) := by decide +kernel
theorem dX12_lastLoaf_145 : decode cX12_lastLoaf 145 = .ok (.aload_n 0, 1) := by decide +kernel
theorem dX12_lastLoaf_146 : decode cX12_lastLoaf 146 = .ok (.iload_n 2, 1) := by decide +kernel
theorem dX12_lastLoaf_147 : decode cX12_lastLoaf 147 = .ok (.iconst 3, 1) := by decide +kernel
theorem dX12_lastLoaf_148 : decode cX12_lastLoaf 148 = .ok (.invokevirtual 72, 3) := by decide +kernel
theorem dX12_lastLoaf_151 : decode cX12_lastLoaf 151 = .ok (.iconst 1, 1) := by decide +kernel
theorem dX12_lastLoaf_152 : decode cX12_lastLoaf 152 = .ok (.if_icmp .ne 17, 3) := by decide +kernel
theorem dX12_lastLoaf_155 : decode cX12_lastLoaf 155 = .ok (.aload_n 0, 1) := by decide +kernel
theorem dX12_lastLoaf_156 : decode cX12_lastLoaf 156 = .ok (.iload_n 2, 1) := by decide +kernel
theorem dX12_lastLoaf_157 : decode cX12_lastLoaf 157 = .ok (.iconst 4, 1) := by decide +kernel
theorem dX12_lastLoaf_158 : decode cX12_lastLoaf 158 = .ok (.invokevirtual 72, 3) := by decide +kernel
theorem dX12_lastLoaf_161 : decode cX12_lastLoaf 161 = .ok (.ifCond .ne 8, 3) := by decide +kernel
theorem dX12_lastLoaf_164 : decode cX12_lastLoaf 164 = .ok (.aload_n 0, 1) := by decide +kernel
theorem dX12_lastLoaf_165 : decode cX12_lastLoaf 165 = .ok (.iload_n 2, 1) := by decide +kernel
theorem dX12_lastLoaf_166 : decode cX12_lastLoaf 166 = .ok (.invokevirtual 317, 3) := by decide +kernel
theorem dX12_lastLoaf_169 : decode cX12_lastLoaf 169 = .ok (.iinc 2 1, 3) := by decide +kernel
theorem dX12_lastLoaf_172 : decode cX12_lastLoaf 172 = .ok (.goto (-101), 3) := by decide +kernel
theorem dX12_lastLoaf_175 : decode cX12_lastLoaf 175 = .ok (.return_, 1) := by decide +kernel
def q12_lastLoaf (σ : St) : Option St :=
  Option.bind (Option.bind (Option.bind (ag σ 1 752 5) fun x8_ =>
  if 0 < x8_ then (Option.bind (q12_those σ 3) fun x11_ =>
  Option.bind (q12_those σ 4) fun x13_ =>
  if ¬ (x11_ &&& (x13_ ^^^ (-1))) = 0 then (some true) else (some false)) else (some false)) fun t6_ =>
  if t6_ = true then (Option.bind (q12_looks σ) fun x17_ =>
  Option.bind (ag x17_ 1 752 6) fun x19_ =>
  Option.bind (q12_winnerBy x17_ x19_) fun x21_ =>
  Option.bind (ag x17_ 1 752 5) fun x23_ =>
  Option.bind (sa x17_ 1 752 5 (x23_ - 1)) fun σ25_ =>
  Option.bind (q12_votesAt σ25_ x21_ 0 (σ25_ 0 21)) fun x27_ =>
  Option.bind (q12_logs σ25_ 0 x21_ x27_) fun x29_ =>
  some (x21_, x29_)) else (some ((-1 : Int32), σ))) fun y1_ =>
  Option.bind (loop2 (fun rec34_ (p37_ : Int32) (σ38_ : St) =>
  Option.bind (ag σ38_ 1 752 3) fun x43_ =>
  if p37_ < x43_ then
  lt (fun (p79_ : Int32) (σ80_ : St) =>
  lt (p79_ + 1) fun p82_ =>
  rec34_ p82_ σ80_) fun k40_ =>
  if p37_ = y1_.1 then (Option.bind (q12_lays σ38_ p37_ 0 0) fun x51_ =>
  Option.bind (q12_of x51_ p37_ 5) fun x53_ =>
  Option.bind (q12_lays x51_ p37_ 5 (q12_lesser 999 (x53_ + 1))) fun x55_ =>
  Option.bind (q12_of x55_ p37_ 6) fun x57_ =>
  Option.bind (q12_lays x55_ p37_ 6 (q12_lesser 99 (x57_ + 1))) fun x59_ =>
  k40_ p37_ x59_) else
  Option.bind (q12_lays σ38_ p37_ 6 0) fun x61_ =>
  Option.bind (Option.bind (Option.bind (q12_of x61_ p37_ 3) fun x70_ =>
  if x70_ = 1 then (Option.bind (q12_of x61_ p37_ 4) fun x73_ =>
  if x73_ = 0 then (some true) else (some false)) else (some false)) fun t68_ =>
  if t68_ = true then (Option.bind (q12_isHungrier x61_ p37_) fun x77_ =>
  some (x77_)) else (some (x61_))) fun y63_ =>
  k40_ p37_ y63_
  else (some (p37_, σ38_))) fuelN (0 : Int32) y1_.2) fun y31_ =>
  some y31_.2
abbrev rm12_lastLoaf : Room := { frames := 77, cells := 0, slots := 0, locals := 4194 }
set_option maxHeartbeats 4000000 in
set_option maxRecDepth 100000 in
theorem p12_lastLoaf {Θ : Tz} {σ : St} {ρ : Option Value × St} (C : Zc Θ cX12_lastLoaf 3 RX12 none rm12_lastLoaf) (hkd : Θ.2.2.2.2.1 = kdM) {r : St} (hf : q12_lastLoaf σ = some r) (hρ : ρ = (none, r)) : Z Θ 3 0 0 (zQ Θ ρ) σ 0 [(0, .ref (zA Θ 0))] [] := by
  unfold q12_lastLoaf at hf
  refine z_iconst (v := (-1)) C dX12_lastLoaf_0 ic_m1 ?_
  refine z_istN C dX12_lastLoaf_1 rfl rfl (Nat.le_of_ble_eq_true rfl) rfl ?_
  obtain ⟨y1_, h2_, hf⟩ := ob hf
  suffices K3_ : Z Θ 3 0 0 (zQ Θ ρ) y1_.2 69 [(0, .ref (zA Θ 0)), (1, .int y1_.1)] [] by
    obtain ⟨t6_, h7_, h2_⟩ := ob h2_
    have K4_ : t6_ = true → Z Θ 3 0 0 (zQ Θ ρ) σ 27 [(1, .int (-1)), (0, .ref (zA Θ 0))] [] := by
      intro h16_
      rw [if_pos h16_] at h2_
      refine z_aload_n C 1 dX12_lastLoaf_27 rfl rfl ?_
      obtain ⟨x17_, h18_, h2_⟩ := ob h2_
      refine cr12_320 C hkd  h18_ ⟨(Nat.le_of_ble_eq_true rfl), (Nat.le_of_ble_eq_true rfl)⟩ (Nat.le_of_ble_eq_true rfl) ⟨Nat.zero_le _, Nat.zero_le _⟩ dX12_lastLoaf_28 ?_
      refine z_aload_n C 1 dX12_lastLoaf_31 rfl rfl ?_
      refine z_aload_n C 1 dX12_lastLoaf_32 rfl rfl ?_
      refine fg12_7 C hkd dX12_lastLoaf_33 ?_
      refine z_bipush (v := 6) C dX12_lastLoaf_36 bp_6 ?_
      obtain ⟨x19_, h20_, h2_⟩ := ob h2_
      refine z_ag C h20_ (kM_1 hkd) dX12_lastLoaf_38 ?_
      obtain ⟨x21_, h22_, h2_⟩ := ob h2_
      refine cr12_323 (way_a := x19_) C hkd  h22_ ⟨(Nat.le_of_ble_eq_true rfl), (Nat.le_of_ble_eq_true rfl)⟩ (Nat.le_of_ble_eq_true rfl) ⟨Nat.zero_le _, Nat.zero_le _⟩ dX12_lastLoaf_39 ?_
      refine z_istN C dX12_lastLoaf_42 rfl rfl (Nat.le_of_ble_eq_true rfl) rfl ?_
      refine z_aload_n C 1 dX12_lastLoaf_43 rfl rfl ?_
      refine fg12_7 C hkd dX12_lastLoaf_44 ?_
      refine z_iconst (v := 5) C dX12_lastLoaf_47 ic_5 ?_
      refine z_dup2 C dX12_lastLoaf_48 rfl rfl ?_
      obtain ⟨x23_, h24_, h2_⟩ := ob h2_
      refine z_ag C h24_ (kM_1 hkd) dX12_lastLoaf_49 ?_
      refine z_iconst (v := 1) C dX12_lastLoaf_50 ic_1 ?_
      refine z_isub C dX12_lastLoaf_51 ?_
      obtain ⟨σ25_, h26_, h2_⟩ := ob h2_
      refine z_sa C h26_ (kM_1 hkd) dX12_lastLoaf_52 ?_
      refine z_aload_n C 1 dX12_lastLoaf_53 rfl rfl ?_
      refine z_iconst (v := 0) C dX12_lastLoaf_54 ic_0 ?_
      refine z_iload_n C 0 dX12_lastLoaf_55 rfl rfl ?_
      refine z_aload_n C 1 dX12_lastLoaf_56 rfl rfl ?_
      refine z_iload_n C 0 dX12_lastLoaf_57 rfl rfl ?_
      refine z_iconst (v := 0) C dX12_lastLoaf_58 ic_0 ?_
      refine z_aload_n C 1 dX12_lastLoaf_59 rfl rfl ?_
      refine fg12_269 C hkd dX12_lastLoaf_60 ?_
      obtain ⟨x27_, h28_, h2_⟩ := ob h2_
      refine cr12_292 (o_a := x21_) (k_a := 0) (set_a := (σ25_ 0 21)) C hkd  h28_ ⟨(Nat.le_of_ble_eq_true rfl), (Nat.le_of_ble_eq_true rfl)⟩ (Nat.le_of_ble_eq_true rfl) ⟨Nat.zero_le _, Nat.zero_le _⟩ dX12_lastLoaf_63 ?_
      obtain ⟨x29_, h30_, h2_⟩ := ob h2_
      refine cr12_326 (what_a := 0) (p_a := x21_) (votes_a := x27_) C hkd  h30_ ⟨(Nat.le_of_ble_eq_true rfl), (Nat.le_of_ble_eq_true rfl)⟩ (Nat.le_of_ble_eq_true rfl) ⟨Nat.zero_le _, Nat.zero_le _⟩ dX12_lastLoaf_66 ?_
      cases h2_
      refine Z.sub [1, 0] rfl ?_
      exact K3_
    have K5_ : ¬ (t6_ = true) → Z Θ 3 0 0 (zQ Θ ρ) σ 69 [(1, .int (-1)), (0, .ref (zA Θ 0))] [] := by
      intro h16_
      rw [if_neg h16_] at h2_
      cases h2_
      refine Z.sub [1, 0] rfl ?_
      exact K3_
    refine z_aload_n C 1 dX12_lastLoaf_2 rfl rfl ?_
    refine fg12_7 C hkd dX12_lastLoaf_3 ?_
    refine z_iconst (v := 5) C dX12_lastLoaf_6 ic_5 ?_
    obtain ⟨x8_, h9_, h7_⟩ := ob h7_
    refine z_ag C h9_ (kM_1 hkd) dX12_lastLoaf_7 ?_
    refine c0_gt_f C 69 dX12_lastLoaf_8 (by decide) (fun h10_ => ?_) (fun h10_ => ?_)
    · rw [if_pos h10_] at h7_
      refine z_aload_n C 1 dX12_lastLoaf_11 rfl rfl ?_
      refine z_iconst (v := 3) C dX12_lastLoaf_12 ic_3 ?_
      obtain ⟨x11_, h12_, h7_⟩ := ob h7_
      refine cr12_266 (what_a := 3) C hkd  h12_ ⟨(Nat.le_of_ble_eq_true rfl), (Nat.le_of_ble_eq_true rfl)⟩ (Nat.le_of_ble_eq_true rfl) ⟨Nat.zero_le _, Nat.zero_le _⟩ dX12_lastLoaf_13 ?_
      refine z_aload_n C 1 dX12_lastLoaf_16 rfl rfl ?_
      refine z_iconst (v := 4) C dX12_lastLoaf_17 ic_4 ?_
      obtain ⟨x13_, h14_, h7_⟩ := ob h7_
      refine cr12_266 (what_a := 4) C hkd  h14_ ⟨(Nat.le_of_ble_eq_true rfl), (Nat.le_of_ble_eq_true rfl)⟩ (Nat.le_of_ble_eq_true rfl) ⟨Nat.zero_le _, Nat.zero_le _⟩ dX12_lastLoaf_18 ?_
      refine z_iconst (v := (-1)) C dX12_lastLoaf_21 ic_m1 ?_
      refine z_ixor C dX12_lastLoaf_22 ?_
      refine z_iand C dX12_lastLoaf_23 ?_
      refine c0_ne_f C 69 dX12_lastLoaf_24 (by decide) (fun h15_ => ?_) (fun h15_ => ?_)
      · rw [if_pos h15_] at h7_
        cases h7_
        exact K4_ rfl
      · rw [if_neg h15_] at h7_
        cases h7_
        exact K5_ Bool.false_ne_true
    · rw [if_neg h10_] at h7_
      cases h7_
      exact K5_ Bool.false_ne_true
  refine z_iconst (v := 0) C dX12_lastLoaf_69 ic_0 ?_
  refine z_istN C dX12_lastLoaf_70 rfl rfl (Nat.le_of_ble_eq_true rfl) rfl ?_
  refine Z.sub [1, 2, 0] rfl ?_
  obtain ⟨y31_, h32_, hf⟩ := ob hf
  suffices K33_ : Z Θ 3 0 0 (zQ Θ ρ) y31_.2 175 [(0, .ref (zA Θ 0)), (1, .int y1_.1), (2, .int y31_.1)] [] by
    refine loop2_Z (P := fun (p37_ : Int32) (σ38_ : St) => Z Θ 3 0 0 (zQ Θ ρ) σ38_ 71 [(0, .ref (zA Θ 0)), (1, .int y1_.1), (2, .int p37_)] []) ?_ fuelN (0 : Int32) y1_.2 h32_
    clear h32_
    intro rec34_ p37_ σ38_ h35_ h36_
    refine z_iload_n C 2 dX12_lastLoaf_71 rfl rfl ?_
    refine z_aload_n C 0 dX12_lastLoaf_72 rfl rfl ?_
    refine fg12_7 C hkd dX12_lastLoaf_73 ?_
    refine z_iconst (v := 3) C dX12_lastLoaf_76 ic_3 ?_
    obtain ⟨x43_, h44_, h36_⟩ := ob h36_
    refine z_ag C h44_ (kM_1 hkd) dX12_lastLoaf_77 ?_
    have K41_ : p37_ < x43_ → Z Θ 3 0 0 (zQ Θ ρ) σ38_ 81 [(0, .ref (zA Θ 0)), (1, .int y1_.1), (2, .int p37_)] [] := by
      intro h46_
      rw [if_pos h46_] at h36_
      obtain ⟨k40_, h81_, h36_⟩ := lt_ h36_
      have K39_ : ∀ (p79_ : Int32) (σ80_ : St), k40_ p79_ σ80_ = some y31_ → Z Θ 3 0 0 (zQ Θ ρ) σ80_ 169 [(0, .ref (zA Θ 0)), (1, .int y1_.1), (2, .int p79_)] [] := by
        intro p79_ σ80_ h36_
        subst h81_
        dsimp only at h36_
        obtain ⟨p82_, h83_, h36_⟩ := lt_ h36_
        refine z_inc C 2 dX12_lastLoaf_169 rfl ic_1 h83_ (Nat.le_of_ble_eq_true rfl) rfl ?_
        refine z_goto C 71 dX12_lastLoaf_172 (by decide) ?_
        refine Z.sub [1, 2, 0] rfl ?_
        exact h35_ _ _ h36_
      have K47_ : p37_ = y1_.1 → Z Θ 3 0 0 (zQ Θ ρ) σ38_ 86 [(0, .ref (zA Θ 0)), (1, .int y1_.1), (2, .int p37_)] [] := by
        intro h50_
        rw [if_pos h50_] at h36_
        refine z_aload_n C 0 dX12_lastLoaf_86 rfl rfl ?_
        refine z_iload_n C 2 dX12_lastLoaf_87 rfl rfl ?_
        refine z_iconst (v := 0) C dX12_lastLoaf_88 ic_0 ?_
        refine z_iconst (v := 0) C dX12_lastLoaf_89 ic_0 ?_
        obtain ⟨x51_, h52_, h36_⟩ := ob h36_
        refine cr12_135 (p_a := p37_) (what_a := 0) (v_a := 0) C hkd  h52_ ⟨(Nat.le_of_ble_eq_true rfl), (Nat.le_of_ble_eq_true rfl)⟩ (Nat.le_of_ble_eq_true rfl) ⟨Nat.zero_le _, Nat.zero_le _⟩ dX12_lastLoaf_90 ?_
        refine z_aload_n C 0 dX12_lastLoaf_93 rfl rfl ?_
        refine z_iload_n C 2 dX12_lastLoaf_94 rfl rfl ?_
        refine z_iconst (v := 5) C dX12_lastLoaf_95 ic_5 ?_
        refine z_sipush (v := 999) C dX12_lastLoaf_96 sp_999 ?_
        refine z_aload_n C 0 dX12_lastLoaf_99 rfl rfl ?_
        refine z_iload_n C 2 dX12_lastLoaf_100 rfl rfl ?_
        refine z_iconst (v := 5) C dX12_lastLoaf_101 ic_5 ?_
        obtain ⟨x53_, h54_, h36_⟩ := ob h36_
        refine cr12_72 (p_a := p37_) (what_a := 5) C hkd  h54_ ⟨(Nat.le_of_ble_eq_true rfl), (Nat.le_of_ble_eq_true rfl)⟩ (Nat.le_of_ble_eq_true rfl) ⟨Nat.zero_le _, Nat.zero_le _⟩ dX12_lastLoaf_102 ?_
        refine z_iconst (v := 1) C dX12_lastLoaf_105 ic_1 ?_
        refine z_iadd C dX12_lastLoaf_106 ?_
        refine cr12_313 (a_a := 999) (b_a := (x53_ + 1)) C hkd  ⟨(Nat.le_of_ble_eq_true rfl), (Nat.le_of_ble_eq_true rfl)⟩ (Nat.le_of_ble_eq_true rfl) ⟨Nat.zero_le _, Nat.zero_le _⟩ dX12_lastLoaf_107 ?_
        obtain ⟨x55_, h56_, h36_⟩ := ob h36_
        refine cr12_135 (p_a := p37_) (what_a := 5) (v_a := (q12_lesser 999 (x53_ + 1))) C hkd  h56_ ⟨(Nat.le_of_ble_eq_true rfl), (Nat.le_of_ble_eq_true rfl)⟩ (Nat.le_of_ble_eq_true rfl) ⟨Nat.zero_le _, Nat.zero_le _⟩ dX12_lastLoaf_110 ?_
        refine z_aload_n C 0 dX12_lastLoaf_113 rfl rfl ?_
        refine z_iload_n C 2 dX12_lastLoaf_114 rfl rfl ?_
        refine z_bipush (v := 6) C dX12_lastLoaf_115 bp_6 ?_
        refine z_bipush (v := 99) C dX12_lastLoaf_117 bp_99 ?_
        refine z_aload_n C 0 dX12_lastLoaf_119 rfl rfl ?_
        refine z_iload_n C 2 dX12_lastLoaf_120 rfl rfl ?_
        refine z_bipush (v := 6) C dX12_lastLoaf_121 bp_6 ?_
        obtain ⟨x57_, h58_, h36_⟩ := ob h36_
        refine cr12_72 (p_a := p37_) (what_a := 6) C hkd  h58_ ⟨(Nat.le_of_ble_eq_true rfl), (Nat.le_of_ble_eq_true rfl)⟩ (Nat.le_of_ble_eq_true rfl) ⟨Nat.zero_le _, Nat.zero_le _⟩ dX12_lastLoaf_123 ?_
        refine z_iconst (v := 1) C dX12_lastLoaf_126 ic_1 ?_
        refine z_iadd C dX12_lastLoaf_127 ?_
        refine cr12_313 (a_a := 99) (b_a := (x57_ + 1)) C hkd  ⟨(Nat.le_of_ble_eq_true rfl), (Nat.le_of_ble_eq_true rfl)⟩ (Nat.le_of_ble_eq_true rfl) ⟨Nat.zero_le _, Nat.zero_le _⟩ dX12_lastLoaf_128 ?_
        obtain ⟨x59_, h60_, h36_⟩ := ob h36_
        refine cr12_135 (p_a := p37_) (what_a := 6) (v_a := (q12_lesser 99 (x57_ + 1))) C hkd  h60_ ⟨(Nat.le_of_ble_eq_true rfl), (Nat.le_of_ble_eq_true rfl)⟩ (Nat.le_of_ble_eq_true rfl) ⟨Nat.zero_le _, Nat.zero_le _⟩ dX12_lastLoaf_131 ?_
        refine z_goto C 169 dX12_lastLoaf_134 (by decide) ?_
        exact K39_ _ _ h36_
      suffices K48_ : ¬ (p37_ = y1_.1) → Z Θ 3 0 0 (zQ Θ ρ) σ38_ 137 [(0, .ref (zA Θ 0)), (1, .int y1_.1), (2, .int p37_)] [] by
        refine z_iload_n C 2 dX12_lastLoaf_81 rfl rfl ?_
        refine z_iload_n C 1 dX12_lastLoaf_82 rfl rfl ?_
        refine c_eq_f C 137 dX12_lastLoaf_83 (by decide) (fun h49_ => ?_) (fun h49_ => ?_)
        · exact K47_ h49_
        · exact K48_ h49_
      intro h50_
      rw [if_neg h50_] at h36_
      refine z_aload_n C 0 dX12_lastLoaf_137 rfl rfl ?_
      refine z_iload_n C 2 dX12_lastLoaf_138 rfl rfl ?_
      refine z_bipush (v := 6) C dX12_lastLoaf_139 bp_6 ?_
      refine z_iconst (v := 0) C dX12_lastLoaf_141 ic_0 ?_
      obtain ⟨x61_, h62_, h36_⟩ := ob h36_
      refine cr12_135 (p_a := p37_) (what_a := 6) (v_a := 0) C hkd  h62_ ⟨(Nat.le_of_ble_eq_true rfl), (Nat.le_of_ble_eq_true rfl)⟩ (Nat.le_of_ble_eq_true rfl) ⟨Nat.zero_le _, Nat.zero_le _⟩ dX12_lastLoaf_142 ?_
      obtain ⟨y63_, h64_, h36_⟩ := ob h36_
      suffices K65_ : Z Θ 3 0 0 (zQ Θ ρ) y63_ 169 [(0, .ref (zA Θ 0)), (1, .int y1_.1), (2, .int p37_)] [] by
        obtain ⟨t68_, h69_, h64_⟩ := ob h64_
        have K66_ : t68_ = true → Z Θ 3 0 0 (zQ Θ ρ) x61_ 164 [(0, .ref (zA Θ 0)), (1, .int y1_.1), (2, .int p37_)] [] := by
          intro h76_
          rw [if_pos h76_] at h64_
          refine z_aload_n C 0 dX12_lastLoaf_164 rfl rfl ?_
          refine z_iload_n C 2 dX12_lastLoaf_165 rfl rfl ?_
          obtain ⟨x77_, h78_, h64_⟩ := ob h64_
          refine cr12_317 (p_a := p37_) C hkd  h78_ ⟨(Nat.le_of_ble_eq_true rfl), (Nat.le_of_ble_eq_true rfl)⟩ (Nat.le_of_ble_eq_true rfl) ⟨Nat.zero_le _, Nat.zero_le _⟩ dX12_lastLoaf_166 ?_
          cases h64_
          exact K65_
        have K67_ : ¬ (t68_ = true) → Z Θ 3 0 0 (zQ Θ ρ) x61_ 169 [(0, .ref (zA Θ 0)), (1, .int y1_.1), (2, .int p37_)] [] := by
          intro h76_
          rw [if_neg h76_] at h64_
          cases h64_
          exact K65_
        refine z_aload_n C 0 dX12_lastLoaf_145 rfl rfl ?_
        refine z_iload_n C 2 dX12_lastLoaf_146 rfl rfl ?_
        refine z_iconst (v := 3) C dX12_lastLoaf_147 ic_3 ?_
        obtain ⟨x70_, h71_, h69_⟩ := ob h69_
        refine cr12_72 (p_a := p37_) (what_a := 3) C hkd  h71_ ⟨(Nat.le_of_ble_eq_true rfl), (Nat.le_of_ble_eq_true rfl)⟩ (Nat.le_of_ble_eq_true rfl) ⟨Nat.zero_le _, Nat.zero_le _⟩ dX12_lastLoaf_148 ?_
        refine z_iconst (v := 1) C dX12_lastLoaf_151 ic_1 ?_
        refine c_eq_f C 169 dX12_lastLoaf_152 (by decide) (fun h72_ => ?_) (fun h72_ => ?_)
        · rw [if_pos h72_] at h69_
          refine z_aload_n C 0 dX12_lastLoaf_155 rfl rfl ?_
          refine z_iload_n C 2 dX12_lastLoaf_156 rfl rfl ?_
          refine z_iconst (v := 4) C dX12_lastLoaf_157 ic_4 ?_
          obtain ⟨x73_, h74_, h69_⟩ := ob h69_
          refine cr12_72 (p_a := p37_) (what_a := 4) C hkd  h74_ ⟨(Nat.le_of_ble_eq_true rfl), (Nat.le_of_ble_eq_true rfl)⟩ (Nat.le_of_ble_eq_true rfl) ⟨Nat.zero_le _, Nat.zero_le _⟩ dX12_lastLoaf_158 ?_
          refine c0_eq_f C 169 dX12_lastLoaf_161 (by decide) (fun h75_ => ?_) (fun h75_ => ?_)
          · rw [if_pos h75_] at h69_
            cases h69_
            exact K66_ rfl
          · rw [if_neg h75_] at h69_
            cases h69_
            exact K67_ Bool.false_ne_true
        · rw [if_neg h72_] at h69_
          cases h69_
          exact K67_ Bool.false_ne_true
      exact K39_ _ _ h36_
    have K42_ : ¬ (p37_ < x43_) → Z Θ 3 0 0 (zQ Θ ρ) σ38_ 175 [(0, .ref (zA Θ 0)), (1, .int y1_.1), (2, .int p37_)] [] := by
      intro h46_
      rw [if_neg h46_] at h36_
      cases h36_
      exact K33_
    refine c_lt_f C 175 dX12_lastLoaf_78 (by decide) (fun h45_ => ?_) (fun h45_ => ?_)
    · exact K41_ h45_
    · exact K42_ h45_
  cases hf
  subst hρ
  exact z_vret C dX12_lastLoaf_175
theorem c12_lastLoaf {l : Launch} {kd : List KD} {w : Wp} {σ : St} (hkd : kd = kdM) (hi : zI kd w) {r : St} (hf : q12_lastLoaf σ = some r) : zM l kd w yX12_lastLoaf cX12_lastLoaf 3 none rm12_lastLoaf [.ref (w.2.2.1 0)] σ (none, r) := zM_of rfl hi (Nat.le_of_ble_eq_true rfl) (fun Θ hl hw C => by
  obtain ⟨Θ1, Θ2, Θ3, Θ4, Θ5⟩ := Θ
  cases hw
  exact p12_lastLoaf C hkd  hf rfl)
/-! LastLoafModel.speaks -/
theorem w_9_205 : Cond.code ({ cls := "LastLoafModel", name := "draw", desc := "(I)I" } : MethodName) prog_14_method_57_code (2 : Nat) (Option.some ClassFile.FieldType.int) ∈ TB := tb_in (lwt_9 (List.mem_of_getElem? (i := 205) (by decide +kernel))) rfl
theorem w_9_202 : Cond.methodLink "LastLoafModel" (329 : Nat) ({ cls := "LastLoafModel", name := "draw", desc := "(I)I" } : MethodName) ∈ TB := tb_in (lwt_9 (List.mem_of_getElem? (i := 202) (by decide +kernel))) rfl
theorem w_9_204 : Cond.instanceMethod ({ cls := "LastLoafModel", name := "draw", desc := "(I)I" } : MethodName) ∈ TB := tb_in (lwt_9 (List.mem_of_getElem? (i := 204) (by decide +kernel))) rfl
theorem ws_LastLoafModel_draw_I_I : Cond.selects "LastLoafModel" (⟨"LastLoafModel", "draw", "(I)I"⟩ : MethodName) (⟨"LastLoafModel", "draw", "(I)I"⟩ : MethodName) ∈ TB := tb_in (List.mem_append_left _ (List.mem_of_getElem? (i := 73) (by decide +kernel))) rfl
theorem cr12_329 {Θ : Tz} {cc : ByteArray} {nL kc ks : Nat} {ret : Option FieldType} {rm : Room} {Q : State → Prop} {σ : St} {pc : Nat} {lv : List (Nat × Value)} {st : List Value} (C : Zc Θ cc nL RX12 ret rm) (hkd : Θ.2.2.2.2.1 = kdM) {n_a : Int32} {r : Int32 × St} (hx : q12_draw σ n_a = some r) (hrm : rm12_draw.frames + 1 ≤ rm.frames ∧ 8 + (2 + 11) + rm12_draw.locals ≤ rm.locals) (hcat : (st.map fun v => v.category).sum ≤ 8) (hk : kc ≤ rm.cells ∧ ks ≤ rm.slots) (hd : decode cc pc = .ok (.invokevirtual 329, 3)) (kk : Z Θ nL kc ks Q r.2 (pc + 3) lv (.int r.1 :: st)) : Z Θ nL kc ks Q σ pc lv (.int n_a :: .ref (zA Θ 0) :: st) := z_callV C 0 [.int n_a] (some (.int r.1), r.2) 1 (kM_0 hkd) rfl (c12_draw (n_a := n_a) hkd (zc_inj C) hx) w_9_205 w_9_202 w_9_204 ws_LastLoafModel_draw_I_I w_1_14 ⟨rfl, rfl, hrm.1, hrm.2⟩ (by decide +kernel) rfl rfl hcat hk hd kk
theorem dX12_speaks_0 : decode cX12_speaks 0 = .ok (.aload_n 0, 1) := by decide +kernel
theorem dX12_speaks_1 : decode cX12_speaks 1 = .ok (.iconst 3, 1) := by decide +kernel
theorem dX12_speaks_2 : decode cX12_speaks 2 = .ok (.invokevirtual 266, 3) := by decide +kernel
theorem dX12_speaks_5 : decode cX12_speaks 5 = .ok (.aload_n 0, 1) := by decide +kernel
theorem dX12_speaks_6 : decode cX12_speaks 6 = .ok (.iconst 4, 1) := by decide +kernel
theorem dX12_speaks_7 : decode cX12_speaks 7 = .ok (.invokevirtual 266, 3) := by decide +kernel
theorem dX12_speaks_10 : decode cX12_speaks 10 = .ok (.iconst (-1), 1) := by decide +kernel
theorem dX12_speaks_11 : decode cX12_speaks 11 = .ok (.ixor, 1) := by decide +kernel
theorem dX12_speaks_12 : decode cX12_speaks 12 = .ok (.iand, 1) := by decide +kernel
theorem dX12_speaks_13 : decode cX12_speaks 13 = .ok (.istore_n 1, 1) := by decide +kernel
theorem dX12_speaks_14 : decode cX12_speaks 14 = .ok (.aload_n 0, 1) := by decide +kernel
theorem dX12_speaks_15 : decode cX12_speaks 15 = .ok (.bipush 100, 2) := by decide +kernel
theorem dX12_speaks_17 : decode cX12_speaks 17 = .ok (.invokevirtual 329, 3) := by decide +kernel
theorem dX12_speaks_20 : decode cX12_speaks 20 = .ok (.aload_n 0, 1) := by decide +kernel
theorem dX12_speaks_21 : decode cX12_speaks 21 = .ok (.getfield 7, 3) := by decide +kernel
theorem dX12_speaks_24 : decode cX12_speaks 24 = .ok (.bipush 7, 2) := by decide +kernel
theorem dX12_speaks_26 : decode cX12_speaks 26 = .ok (.iaload, 1) := by decide +kernel
theorem dX12_speaks_27 : decode cX12_speaks 27 = .ok (.if_icmp .ge 7, 3) := by decide +kernel
theorem dX12_speaks_30 : decode cX12_speaks 30 = .ok (.iload_n 1, 1) := by decide +kernel
theorem dX12_speaks_31 : decode cX12_speaks 31 = .ok (.ifCond .ne 4, 3) := by decide +kernel
theorem dX12_speaks_34 : decode cX12_speaks 34 = .ok (.return_, 1) := by decide +kernel
theorem dX12_speaks_35 : decode cX12_speaks 35 = .ok (.aload_n 0, 1) := by decide +kernel
theorem dX12_speaks_36 : decode cX12_speaks 36 = .ok (.iload_n 1, 1) := by decide +kernel
theorem dX12_speaks_37 : decode cX12_speaks 37 = .ok (.invokestatic 286, 3) := by decide +kernel
theorem dX12_speaks_40 : decode cX12_speaks 40 = .ok (.invokevirtual 329, 3) := by decide +kernel
theorem dX12_speaks_43 : decode cX12_speaks 43 = .ok (.istore_n 2, 1) := by decide +kernel
theorem dX12_speaks_44 : decode cX12_speaks 44 = .ok (.iconst (-1), 1) := by decide +kernel
theorem dX12_speaks_45 : decode cX12_speaks 45 = .ok (.istore_n 3, 1) := by decide +kernel
theorem dX12_speaks_46 : decode cX12_speaks 46 = .ok (.aload_n 0, 1) := by decide +kernel
theorem dX12_speaks_47 : decode cX12_speaks 47 = .ok (.getfield 7, 3) := by decide +kernel
theorem dX12_speaks_50 : decode cX12_speaks 50 = .ok (.iconst 3, 1) := by decide +kernel
theorem dX12_speaks_51 : decode cX12_speaks 51 = .ok (.iaload, 1) := by decide +kernel
theorem dX12_speaks_52 : decode cX12_speaks 52 = .ok (.iconst 1, 1) := by decide +kernel
theorem dX12_speaks_53 : decode cX12_speaks 53 = .ok (.isub, 1) := by decide +kernel
theorem dX12_speaks_54 : decode cX12_speaks 54 = .ok (.istore 4, 2) := by decide +kernel
theorem dX12_speaks_56 : decode cX12_speaks 56 = .ok (.iload 4, 2) := by decide +kernel
theorem dX12_speaks_58 : decode cX12_speaks 58 = .ok (.ifCond .lt 36, 3) := by decide +kernel
theorem dX12_speaks_61 : decode cX12_speaks 61 = .ok (.iload_n 1, 1) := by decide +kernel
theorem dX12_speaks_62 : decode cX12_speaks 62 = .ok (.iload 4, 2) := by decide +kernel
theorem dX12_speaks_64 : decode cX12_speaks 64 = .ok (.invokestatic 275, 3) := by decide +kernel
theorem dX12_speaks_67 : decode cX12_speaks 67 = .ok (.ifCond .eq 21, 3) := by decide +kernel
theorem dX12_speaks_70 : decode cX12_speaks 70 = .ok (.iload_n 1, 1) := by decide +kernel
theorem dX12_speaks_71 : decode cX12_speaks 71 = .ok (.iconst 1, 1) := by decide +kernel
theorem dX12_speaks_72 : decode cX12_speaks 72 = .ok (.iload 4, 2) := by decide +kernel
theorem dX12_speaks_74 : decode cX12_speaks 74 = .ok (.ishl, 1) := by decide +kernel
theorem dX12_speaks_75 : decode cX12_speaks 75 = .ok (.iconst 1, 1) := by decide +kernel
theorem dX12_speaks_76 : decode cX12_speaks 76 = .ok (.isub, 1) := by decide +kernel
theorem dX12_speaks_77 : decode cX12_speaks 77 = .ok (.iand, 1) := by decide +kernel
theorem dX12_speaks_78 : decode cX12_speaks 78 = .ok (.invokestatic 286, 3) := by decide +kernel
theorem dX12_speaks_81 : decode cX12_speaks 81 = .ok (.iload_n 2, 1) := by decide +kernel
theorem dX12_speaks_82 : decode cX12_speaks 82 = .ok (.if_icmp .ne 6, 3) := by decide +kernel
theorem dX12_speaks_85 : decode cX12_speaks 85 = .ok (.iload 4, 2) := by decide +kernel
theorem dX12_speaks_87 : decode cX12_speaks 87 = .ok (.istore_n 3, 1) := by decide +kernel
theorem dX12_speaks_88 : decode cX12_speaks 88 = .ok (.iinc 4 (-1), 3) := by decide +kernel
theorem dX12_speaks_91 : decode cX12_speaks 91 = .ok (.goto (-35), 3) := by decide +kernel
theorem dX12_speaks_94 : decode cX12_speaks 94 = .ok (.iconst 0, 1) := by decide +kernel
theorem dX12_speaks_95 : decode cX12_speaks 95 = .ok (.istore 4, 2) := by decide +kernel
theorem dX12_speaks_97 : decode cX12_speaks 97 = .ok (.iload 4, 2) := by decide +kernel
theorem dX12_speaks_99 : decode cX12_speaks 99 = .ok (.aload_n 0, 1) := by decide +kernel
theorem dX12_speaks_100 : decode cX12_speaks 100 = .ok (.getfield 7, 3) := by decide +kernel
theorem dX12_speaks_103 : decode cX12_speaks 103 = .ok (.iconst 3, 1) := by decide +kernel
theorem dX12_speaks_104 : decode cX12_speaks 104 = .ok (.iaload, 1) := by decide +kernel
theorem dX12_speaks_105 : decode cX12_speaks 105 = .ok (.if_icmp .ge 52, 3) := by decide +kernel
theorem dX12_speaks_108 : decode cX12_speaks 108 = .ok (.iload 4, 2) := by decide +kernel
theorem dX12_speaks_110 : decode cX12_speaks 110 = .ok (.iload_n 3, 1) := by decide +kernel
theorem dX12_speaks_111 : decode cX12_speaks 111 = .ok (.if_icmp .eq 40, 3) := by decide +kernel
theorem dX12_speaks_114 : decode cX12_speaks 114 = .ok (.aload_n 0, 1) := by decide +kernel
theorem dX12_speaks_115 : decode cX12_speaks 115 = .ok (.getfield 7, 3) := by decide +kernel
theorem dX12_speaks_118 : decode cX12_speaks 118 = .ok (.bipush 63, 2) := by decide +kernel
theorem dX12_speaks_120 : decode cX12_speaks 120 = .ok (.bipush 7, 2) := by decide +kernel
theorem dX12_speaks_122 : decode cX12_speaks 122 = .ok (.iload 4, 2) := by decide +kernel
theorem dX12_speaks_124 : decode cX12_speaks 124 = .ok (.imul, 1) := by decide +kernel
theorem dX12_speaks_125 : decode cX12_speaks 125 = .ok (.iadd, 1) := by decide +kernel
theorem dX12_speaks_126 : decode cX12_speaks 126 = .ok (.iload_n 3, 1) := by decide +kernel
theorem dX12_speaks_127 : decode cX12_speaks 127 = .ok (.iadd, 1) := by decide +kernel
theorem dX12_speaks_128 : decode cX12_speaks 128 = .ok (.bipush 9, 2) := by decide +kernel
theorem dX12_speaks_130 : decode cX12_speaks 130 = .ok (.aload_n 0, 1) := by decide +kernel
theorem dX12_speaks_131 : decode cX12_speaks 131 = .ok (.getfield 7, 3) := by decide +kernel
theorem dX12_speaks_134 : decode cX12_speaks 134 = .ok (.bipush 63, 2) := by decide +kernel
theorem dX12_speaks_136 : decode cX12_speaks 136 = .ok (.bipush 7, 2) := by decide +kernel
theorem dX12_speaks_138 : decode cX12_speaks 138 = .ok (.iload 4, 2) := by decide +kernel
theorem dX12_speaks_140 : decode cX12_speaks 140 = .ok (.imul, 1) := by decide +kernel
theorem dX12_speaks_141 : decode cX12_speaks 141 = .ok (.iadd, 1) := by decide +kernel
theorem dX12_speaks_142 : decode cX12_speaks 142 = .ok (.iload_n 3, 1) := by decide +kernel
theorem dX12_speaks_143 : decode cX12_speaks 143 = .ok (.iadd, 1) := by decide +kernel
theorem dX12_speaks_144 : decode cX12_speaks 144 = .ok (.iaload, 1) := by decide +kernel
theorem dX12_speaks_145 : decode cX12_speaks 145 = .ok (.iconst 1, 1) := by decide +kernel
theorem dX12_speaks_146 : decode cX12_speaks 146 = .ok (.iadd, 1) := by decide +kernel
theorem dX12_speaks_147 : decode cX12_speaks 147 = .ok (.invokestatic 313, 3) := by decide +kernel
theorem dX12_speaks_150 : decode cX12_speaks 150 = .ok (.iastore, 1) := by decide +kernel
theorem dX12_speaks_151 : decode cX12_speaks 151 = .ok (.iinc 4 1, 3) := by decide +kernel
theorem dX12_speaks_154 : decode cX12_speaks 154 = .ok (.goto (-57), 3) := by decide +kernel
theorem dX12_speaks_157 : decode cX12_speaks 157 = .ok (.return_, 1) := by decide +kernel
def q12_speaks (σ : St) : Option St :=
  Option.bind (q12_those σ 3) fun x1_ =>
  Option.bind (q12_those σ 4) fun x3_ =>
  lt (x1_ &&& (x3_ ^^^ (-1))) fun set5_ =>
  Option.bind (q12_draw σ 100) fun x9_ =>
  Option.bind (ag x9_.2 1 752 7) fun x11_ =>
  if (x11_ ≤ x9_.1) ∨ (set5_ = 0) then (some x9_.2) else
  Option.bind (q12_bits set5_) fun x16_ =>
  Option.bind (q12_draw x9_.2 x16_) fun x18_ =>
  Option.bind (ag x18_.2 1 752 3) fun x20_ =>
  lt (x20_ - 1) fun p22_ =>
  Option.bind (loop2 (fun rec27_ (who30_ : Int32) (p31_ : Int32) =>
  if 0 ≤ p31_ then
  Option.bind (Option.bind (if q12_isOf set5_ p31_ = true then (Option.bind (q12_bits (set5_ &&& ((shl 1 p31_) - 1))) fun x46_ =>
  if x46_ = x18_.1 then (some true) else (some false)) else (some false)) fun t43_ =>
  if t43_ = true then (some (p31_)) else (some (who30_))) fun y38_ =>
  lt (p31_ + (-1)) fun p50_ =>
  rec27_ y38_ p50_
  else (some (who30_, p31_))) fuelN (-1 : Int32) p22_) fun y24_ =>
  Option.bind (loop2 (fun rec55_ (p58_ : Int32) (σ59_ : St) =>
  Option.bind (ag σ59_ 1 752 3) fun x64_ =>
  if p58_ < x64_ then
  Option.bind (if ¬ p58_ = y24_.1 then (Option.bind (ag σ59_ 1 752 ((63 + (7 * p58_)) + y24_.1)) fun x75_ =>
  Option.bind (sa σ59_ 1 752 ((63 + (7 * p58_)) + y24_.1) (q12_lesser 9 (x75_ + 1))) fun σ77_ =>
  some (σ77_)) else (some (σ59_))) fun y68_ =>
  lt (p58_ + 1) fun p79_ =>
  rec55_ p79_ y68_
  else (some (p58_, σ59_))) fuelN (0 : Int32) x18_.2) fun y52_ =>
  some y52_.2
abbrev rm12_speaks : Room := { frames := 2, cells := 0, slots := 0, locals := 45 }
set_option maxHeartbeats 4000000 in
set_option maxRecDepth 100000 in
theorem p12_speaks {Θ : Tz} {σ : St} {ρ : Option Value × St} (C : Zc Θ cX12_speaks 5 RX12 none rm12_speaks) (hkd : Θ.2.2.2.2.1 = kdM) {r : St} (hf : q12_speaks σ = some r) (hρ : ρ = (none, r)) : Z Θ 5 0 0 (zQ Θ ρ) σ 0 [(0, .ref (zA Θ 0))] [] := by
  unfold q12_speaks at hf
  refine z_aload_n C 0 dX12_speaks_0 rfl rfl ?_
  refine z_iconst (v := 3) C dX12_speaks_1 ic_3 ?_
  obtain ⟨x1_, h2_, hf⟩ := ob hf
  refine cr12_266 (what_a := 3) C hkd  h2_ ⟨(Nat.le_of_ble_eq_true rfl), (Nat.le_of_ble_eq_true rfl)⟩ (Nat.le_of_ble_eq_true rfl) ⟨Nat.zero_le _, Nat.zero_le _⟩ dX12_speaks_2 ?_
  refine z_aload_n C 0 dX12_speaks_5 rfl rfl ?_
  refine z_iconst (v := 4) C dX12_speaks_6 ic_4 ?_
  obtain ⟨x3_, h4_, hf⟩ := ob hf
  refine cr12_266 (what_a := 4) C hkd  h4_ ⟨(Nat.le_of_ble_eq_true rfl), (Nat.le_of_ble_eq_true rfl)⟩ (Nat.le_of_ble_eq_true rfl) ⟨Nat.zero_le _, Nat.zero_le _⟩ dX12_speaks_7 ?_
  refine z_iconst (v := (-1)) C dX12_speaks_10 ic_m1 ?_
  refine z_ixor C dX12_speaks_11 ?_
  refine z_iand C dX12_speaks_12 ?_
  obtain ⟨set5_, h6_, hf⟩ := lt_ hf
  refine z_istN C dX12_speaks_13 h6_ rfl (Nat.le_of_ble_eq_true rfl) rfl ?_
  refine z_aload_n C 1 dX12_speaks_14 rfl rfl ?_
  refine z_bipush (v := 100) C dX12_speaks_15 bp_100 ?_
  obtain ⟨x9_, h10_, hf⟩ := ob hf
  refine cr12_329 (n_a := 100) C hkd  h10_ ⟨(Nat.le_of_ble_eq_true rfl), (Nat.le_of_ble_eq_true rfl)⟩ (Nat.le_of_ble_eq_true rfl) ⟨Nat.zero_le _, Nat.zero_le _⟩ dX12_speaks_17 ?_
  refine z_aload_n C 1 dX12_speaks_20 rfl rfl ?_
  refine fg12_7 C hkd dX12_speaks_21 ?_
  refine z_bipush (v := 7) C dX12_speaks_24 bp_7 ?_
  obtain ⟨x11_, h12_, hf⟩ := ob hf
  refine z_ag C h12_ (kM_1 hkd) dX12_speaks_26 ?_
  have K7_ : (x11_ ≤ x9_.1) ∨ (set5_ = 0) → Z Θ 5 0 0 (zQ Θ ρ) x9_.2 34 [(1, .int set5_), (0, .ref (zA Θ 0))] [] := by
    intro h15_
    rw [if_pos h15_] at hf
    cases hf
    subst hρ
    exact z_vret C dX12_speaks_34
  suffices K8_ : ¬ ((x11_ ≤ x9_.1) ∨ (set5_ = 0)) → Z Θ 5 0 0 (zQ Θ ρ) x9_.2 35 [(1, .int set5_), (0, .ref (zA Θ 0))] [] by
    refine c_ge_t C 34 dX12_speaks_27 (by decide) (fun h13_ => ?_) (fun h13_ => ?_)
    · exact K7_ (Or.inl h13_)
    · refine z_iload_n C 0 dX12_speaks_30 rfl rfl ?_
      refine c0_eq_f C 35 dX12_speaks_31 (by decide) (fun h14_ => ?_) (fun h14_ => ?_)
      · exact K7_ (Or.inr h14_)
      · exact K8_ (fun n => n.elim h13_ h14_)
  intro h15_
  rw [if_neg h15_] at hf
  refine z_aload_n C 1 dX12_speaks_35 rfl rfl ?_
  refine z_iload_n C 0 dX12_speaks_36 rfl rfl ?_
  obtain ⟨x16_, h17_, hf⟩ := ob hf
  refine cr12_286 (set_a := set5_) C hkd  h17_ ⟨(Nat.le_of_ble_eq_true rfl), (Nat.le_of_ble_eq_true rfl)⟩ (Nat.le_of_ble_eq_true rfl) ⟨Nat.zero_le _, Nat.zero_le _⟩ dX12_speaks_37 ?_
  obtain ⟨x18_, h19_, hf⟩ := ob hf
  refine cr12_329 (n_a := x16_) C hkd  h19_ ⟨(Nat.le_of_ble_eq_true rfl), (Nat.le_of_ble_eq_true rfl)⟩ (Nat.le_of_ble_eq_true rfl) ⟨Nat.zero_le _, Nat.zero_le _⟩ dX12_speaks_40 ?_
  refine z_istN C dX12_speaks_43 rfl rfl (Nat.le_of_ble_eq_true rfl) rfl ?_
  refine z_iconst (v := (-1)) C dX12_speaks_44 ic_m1 ?_
  refine z_istN C dX12_speaks_45 rfl rfl (Nat.le_of_ble_eq_true rfl) rfl ?_
  refine z_aload_n C 3 dX12_speaks_46 rfl rfl ?_
  refine fg12_7 C hkd dX12_speaks_47 ?_
  refine z_iconst (v := 3) C dX12_speaks_50 ic_3 ?_
  obtain ⟨x20_, h21_, hf⟩ := ob hf
  refine z_ag C h21_ (kM_1 hkd) dX12_speaks_51 ?_
  refine z_iconst (v := 1) C dX12_speaks_52 ic_1 ?_
  refine z_isub C dX12_speaks_53 ?_
  obtain ⟨p22_, h23_, hf⟩ := lt_ hf
  refine z_ist C dX12_speaks_54 h23_ (Nat.le_of_ble_eq_true rfl) rfl ?_
  refine Z.sub [4, 3, 2, 1, 0] rfl ?_
  obtain ⟨y24_, h25_, hf⟩ := ob hf
  suffices K26_ : Z Θ 5 0 0 (zQ Θ ρ) x18_.2 94 [(0, .ref (zA Θ 0)), (1, .int set5_), (2, .int x18_.1), (3, .int y24_.1), (4, .int y24_.2)] [] by
    refine loop2_Z (P := fun (who30_ : Int32) (p31_ : Int32) => Z Θ 5 0 0 (zQ Θ ρ) x18_.2 56 [(0, .ref (zA Θ 0)), (1, .int set5_), (2, .int x18_.1), (3, .int who30_), (4, .int p31_)] []) ?_ fuelN (-1 : Int32) p22_ h25_
    clear h25_
    intro rec27_ who30_ p31_ h28_ h29_
    have K34_ : 0 ≤ p31_ → Z Θ 5 0 0 (zQ Θ ρ) x18_.2 61 [(0, .ref (zA Θ 0)), (1, .int set5_), (2, .int x18_.1), (3, .int who30_), (4, .int p31_)] [] := by
      intro h37_
      rw [if_pos h37_] at h29_
      obtain ⟨y38_, h39_, h29_⟩ := ob h29_
      suffices K40_ : Z Θ 5 0 0 (zQ Θ ρ) x18_.2 88 [(0, .ref (zA Θ 0)), (1, .int set5_), (2, .int x18_.1), (3, .int y38_), (4, .int p31_)] [] by
        obtain ⟨t43_, h44_, h39_⟩ := ob h39_
        have K41_ : t43_ = true → Z Θ 5 0 0 (zQ Θ ρ) x18_.2 85 [(0, .ref (zA Θ 0)), (1, .int set5_), (2, .int x18_.1), (3, .int who30_), (4, .int p31_)] [] := by
          intro h49_
          rw [if_pos h49_] at h39_
          refine z_iload C 4 dX12_speaks_85 rfl ?_
          refine z_istN C dX12_speaks_87 rfl rfl (Nat.le_of_ble_eq_true rfl) rfl ?_
          cases h39_
          refine Z.sub [1, 2, 3, 0, 4] rfl ?_
          exact K40_
        have K42_ : ¬ (t43_ = true) → Z Θ 5 0 0 (zQ Θ ρ) x18_.2 88 [(0, .ref (zA Θ 0)), (1, .int set5_), (2, .int x18_.1), (3, .int who30_), (4, .int p31_)] [] := by
          intro h49_
          rw [if_neg h49_] at h39_
          cases h39_
          exact K40_
        refine z_iload_n C 1 dX12_speaks_61 rfl rfl ?_
        refine z_iload C 4 dX12_speaks_62 rfl ?_
        refine cr12_275 (set_a := set5_) (k_a := p31_) C hkd  ⟨(Nat.le_of_ble_eq_true rfl), (Nat.le_of_ble_eq_true rfl)⟩ (Nat.le_of_ble_eq_true rfl) ⟨Nat.zero_le _, Nat.zero_le _⟩ dX12_speaks_64 ?_
        refine cb_f C 88 dX12_speaks_67 (by decide) (fun h45_ => ?_) (fun h45_ => ?_)
        · rw [if_pos h45_] at h44_
          refine z_iload_n C 1 dX12_speaks_70 rfl rfl ?_
          refine z_iconst (v := 1) C dX12_speaks_71 ic_1 ?_
          refine z_iload C 4 dX12_speaks_72 rfl ?_
          refine z_shl C dX12_speaks_74 ?_
          refine z_iconst (v := 1) C dX12_speaks_75 ic_1 ?_
          refine z_isub C dX12_speaks_76 ?_
          refine z_iand C dX12_speaks_77 ?_
          obtain ⟨x46_, h47_, h44_⟩ := ob h44_
          refine cr12_286 (set_a := (set5_ &&& ((shl 1 p31_) - 1))) C hkd  h47_ ⟨(Nat.le_of_ble_eq_true rfl), (Nat.le_of_ble_eq_true rfl)⟩ (Nat.le_of_ble_eq_true rfl) ⟨Nat.zero_le _, Nat.zero_le _⟩ dX12_speaks_78 ?_
          refine z_iload_n C 2 dX12_speaks_81 rfl rfl ?_
          refine c_eq_f C 88 dX12_speaks_82 (by decide) (fun h48_ => ?_) (fun h48_ => ?_)
          · rw [if_pos h48_] at h44_
            cases h44_
            exact K41_ rfl
          · rw [if_neg h48_] at h44_
            cases h44_
            exact K42_ Bool.false_ne_true
        · rw [if_neg h45_] at h44_
          cases h44_
          exact K42_ Bool.false_ne_true
      obtain ⟨p50_, h51_, h29_⟩ := lt_ h29_
      refine z_inc C 4 dX12_speaks_88 rfl ic_m1 h51_ (Nat.le_of_ble_eq_true rfl) rfl ?_
      refine z_goto C 56 dX12_speaks_91 (by decide) ?_
      refine Z.sub [1, 2, 3, 4, 0] rfl ?_
      exact h28_ _ _ h29_
    have K35_ : ¬ (0 ≤ p31_) → Z Θ 5 0 0 (zQ Θ ρ) x18_.2 94 [(0, .ref (zA Θ 0)), (1, .int set5_), (2, .int x18_.1), (3, .int who30_), (4, .int p31_)] [] := by
      intro h37_
      rw [if_neg h37_] at h29_
      cases h29_
      exact K26_
    refine z_iload C 4 dX12_speaks_56 rfl ?_
    refine c0_ge_f C 94 dX12_speaks_58 (by decide) (fun h36_ => ?_) (fun h36_ => ?_)
    · exact K34_ h36_
    · exact K35_ h36_
  refine z_iconst (v := 0) C dX12_speaks_94 ic_0 ?_
  refine z_ist C dX12_speaks_95 rfl (Nat.le_of_ble_eq_true rfl) rfl ?_
  refine Z.sub [1, 2, 3, 4, 0] rfl ?_
  obtain ⟨y52_, h53_, hf⟩ := ob hf
  suffices K54_ : Z Θ 5 0 0 (zQ Θ ρ) y52_.2 157 [(0, .ref (zA Θ 0)), (1, .int set5_), (2, .int x18_.1), (3, .int y24_.1), (4, .int y52_.1)] [] by
    refine loop2_Z (P := fun (p58_ : Int32) (σ59_ : St) => Z Θ 5 0 0 (zQ Θ ρ) σ59_ 97 [(0, .ref (zA Θ 0)), (1, .int set5_), (2, .int x18_.1), (3, .int y24_.1), (4, .int p58_)] []) ?_ fuelN (0 : Int32) x18_.2 h53_
    clear h53_
    intro rec55_ p58_ σ59_ h56_ h57_
    refine z_iload C 4 dX12_speaks_97 rfl ?_
    refine z_aload_n C 0 dX12_speaks_99 rfl rfl ?_
    refine fg12_7 C hkd dX12_speaks_100 ?_
    refine z_iconst (v := 3) C dX12_speaks_103 ic_3 ?_
    obtain ⟨x64_, h65_, h57_⟩ := ob h57_
    refine z_ag C h65_ (kM_1 hkd) dX12_speaks_104 ?_
    have K62_ : p58_ < x64_ → Z Θ 5 0 0 (zQ Θ ρ) σ59_ 108 [(0, .ref (zA Θ 0)), (1, .int set5_), (2, .int x18_.1), (3, .int y24_.1), (4, .int p58_)] [] := by
      intro h67_
      rw [if_pos h67_] at h57_
      obtain ⟨y68_, h69_, h57_⟩ := ob h57_
      suffices K70_ : Z Θ 5 0 0 (zQ Θ ρ) y68_ 151 [(0, .ref (zA Θ 0)), (1, .int set5_), (2, .int x18_.1), (3, .int y24_.1), (4, .int p58_)] [] by
        have K71_ : ¬ p58_ = y24_.1 → Z Θ 5 0 0 (zQ Θ ρ) σ59_ 114 [(0, .ref (zA Θ 0)), (1, .int set5_), (2, .int x18_.1), (3, .int y24_.1), (4, .int p58_)] [] := by
          intro h74_
          rw [if_pos h74_] at h69_
          refine z_aload_n C 0 dX12_speaks_114 rfl rfl ?_
          refine fg12_7 C hkd dX12_speaks_115 ?_
          refine z_bipush (v := 63) C dX12_speaks_118 bp_63 ?_
          refine z_bipush (v := 7) C dX12_speaks_120 bp_7 ?_
          refine z_iload C 4 dX12_speaks_122 rfl ?_
          refine z_imul C dX12_speaks_124 ?_
          refine z_iadd C dX12_speaks_125 ?_
          refine z_iload_n C 3 dX12_speaks_126 rfl rfl ?_
          refine z_iadd C dX12_speaks_127 ?_
          refine z_bipush (v := 9) C dX12_speaks_128 bp_9 ?_
          refine z_aload_n C 0 dX12_speaks_130 rfl rfl ?_
          refine fg12_7 C hkd dX12_speaks_131 ?_
          refine z_bipush (v := 63) C dX12_speaks_134 bp_63 ?_
          refine z_bipush (v := 7) C dX12_speaks_136 bp_7 ?_
          refine z_iload C 4 dX12_speaks_138 rfl ?_
          refine z_imul C dX12_speaks_140 ?_
          refine z_iadd C dX12_speaks_141 ?_
          refine z_iload_n C 3 dX12_speaks_142 rfl rfl ?_
          refine z_iadd C dX12_speaks_143 ?_
          obtain ⟨x75_, h76_, h69_⟩ := ob h69_
          refine z_ag C h76_ (kM_1 hkd) dX12_speaks_144 ?_
          refine z_iconst (v := 1) C dX12_speaks_145 ic_1 ?_
          refine z_iadd C dX12_speaks_146 ?_
          refine cr12_313 (a_a := 9) (b_a := (x75_ + 1)) C hkd  ⟨(Nat.le_of_ble_eq_true rfl), (Nat.le_of_ble_eq_true rfl)⟩ (Nat.le_of_ble_eq_true rfl) ⟨Nat.zero_le _, Nat.zero_le _⟩ dX12_speaks_147 ?_
          obtain ⟨σ77_, h78_, h69_⟩ := ob h69_
          refine z_sa C h78_ (kM_1 hkd) dX12_speaks_150 ?_
          cases h69_
          exact K70_
        have K72_ : ¬ (¬ p58_ = y24_.1) → Z Θ 5 0 0 (zQ Θ ρ) σ59_ 151 [(0, .ref (zA Θ 0)), (1, .int set5_), (2, .int x18_.1), (3, .int y24_.1), (4, .int p58_)] [] := by
          intro h74_
          rw [if_neg h74_] at h69_
          cases h69_
          exact K70_
        refine z_iload C 4 dX12_speaks_108 rfl ?_
        refine z_iload_n C 3 dX12_speaks_110 rfl rfl ?_
        refine c_ne_f C 151 dX12_speaks_111 (by decide) (fun h73_ => ?_) (fun h73_ => ?_)
        · exact K71_ h73_
        · exact K72_ h73_
      obtain ⟨p79_, h80_, h57_⟩ := lt_ h57_
      refine z_inc C 4 dX12_speaks_151 rfl ic_1 h80_ (Nat.le_of_ble_eq_true rfl) rfl ?_
      refine z_goto C 97 dX12_speaks_154 (by decide) ?_
      refine Z.sub [1, 2, 3, 4, 0] rfl ?_
      exact h56_ _ _ h57_
    have K63_ : ¬ (p58_ < x64_) → Z Θ 5 0 0 (zQ Θ ρ) σ59_ 157 [(0, .ref (zA Θ 0)), (1, .int set5_), (2, .int x18_.1), (3, .int y24_.1), (4, .int p58_)] [] := by
      intro h67_
      rw [if_neg h67_] at h57_
      cases h57_
      exact K54_
    refine c_lt_f C 157 dX12_speaks_105 (by decide) (fun h66_ => ?_) (fun h66_ => ?_)
    · exact K62_ h66_
    · exact K63_ h66_
  cases hf
  subst hρ
  exact z_vret C dX12_speaks_157
theorem c12_speaks {l : Launch} {kd : List KD} {w : Wp} {σ : St} (hkd : kd = kdM) (hi : zI kd w) {r : St} (hf : q12_speaks σ = some r) : zM l kd w yX12_speaks cX12_speaks 5 none rm12_speaks [.ref (w.2.2.1 0)] σ (none, r) := zM_of rfl hi (Nat.le_of_ble_eq_true rfl) (fun Θ hl hw C => by
  obtain ⟨Θ1, Θ2, Θ3, Θ4, Θ5⟩ := Θ
  cases hw
  exact p12_speaks C hkd  hf rfl)
/-! LastLoafModel.passes -/
theorem w_9_163 : Cond.code ({ cls := "LastLoafModel", name := "feeds", desc := "()V" } : MethodName) prog_14_method_60_code (2 : Nat) (Option.none : Option ClassFile.FieldType) ∈ TB := tb_in (lwt_9 (List.mem_of_getElem? (i := 163) (by decide +kernel))) rfl
theorem w_9_160 : Cond.methodLink "LastLoafModel" (332 : Nat) ({ cls := "LastLoafModel", name := "feeds", desc := "()V" } : MethodName) ∈ TB := tb_in (lwt_9 (List.mem_of_getElem? (i := 160) (by decide +kernel))) rfl
theorem w_9_162 : Cond.instanceMethod ({ cls := "LastLoafModel", name := "feeds", desc := "()V" } : MethodName) ∈ TB := tb_in (lwt_9 (List.mem_of_getElem? (i := 162) (by decide +kernel))) rfl
theorem ws_LastLoafModel_feeds__V : Cond.selects "LastLoafModel" (⟨"LastLoafModel", "feeds", "()V"⟩ : MethodName) (⟨"LastLoafModel", "feeds", "()V"⟩ : MethodName) ∈ TB := tb_in (List.mem_append_left _ (List.mem_of_getElem? (i := 64) (by decide +kernel))) rfl
theorem cr12_332 {Θ : Tz} {cc : ByteArray} {nL kc ks : Nat} {ret : Option FieldType} {rm : Room} {Q : State → Prop} {σ : St} {pc : Nat} {lv : List (Nat × Value)} {st : List Value} (C : Zc Θ cc nL RX12 ret rm) (hkd : Θ.2.2.2.2.1 = kdM) {r : St} (hx : q12_feeds σ = some r) (hrm : rm12_feeds.frames + 1 ≤ rm.frames ∧ 8 + (2 + 11) + rm12_feeds.locals ≤ rm.locals) (hcat : (st.map fun v => v.category).sum ≤ 8) (hk : kc ≤ rm.cells ∧ ks ≤ rm.slots) (hd : decode cc pc = .ok (.invokevirtual 332, 3)) (kk : Z Θ nL kc ks Q r (pc + 3) lv st) : Z Θ nL kc ks Q σ pc lv (.ref (zA Θ 0) :: st) := z_callV C 0 [] (none, r) 0 (kM_0 hkd) rfl (c12_feeds hkd (zc_inj C) hx) w_9_163 w_9_160 w_9_162 ws_LastLoafModel_feeds__V w_1_14 ⟨rfl, rfl, hrm.1, hrm.2⟩ (by decide +kernel) rfl rfl hcat hk hd kk
theorem w_9_174 : Cond.code ({ cls := "LastLoafModel", name := "lastLoaf", desc := "()V" } : MethodName) prog_14_method_61_code (3 : Nat) (Option.none : Option ClassFile.FieldType) ∈ TB := tb_in (lwt_9 (List.mem_of_getElem? (i := 174) (by decide +kernel))) rfl
theorem w_9_171 : Cond.methodLink "LastLoafModel" (335 : Nat) ({ cls := "LastLoafModel", name := "lastLoaf", desc := "()V" } : MethodName) ∈ TB := tb_in (lwt_9 (List.mem_of_getElem? (i := 171) (by decide +kernel))) rfl
theorem w_9_173 : Cond.instanceMethod ({ cls := "LastLoafModel", name := "lastLoaf", desc := "()V" } : MethodName) ∈ TB := tb_in (lwt_9 (List.mem_of_getElem? (i := 173) (by decide +kernel))) rfl
theorem ws_LastLoafModel_lastLoaf__V : Cond.selects "LastLoafModel" (⟨"LastLoafModel", "lastLoaf", "()V"⟩ : MethodName) (⟨"LastLoafModel", "lastLoaf", "()V"⟩ : MethodName) ∈ TB := tb_in (List.mem_append_left _ (List.mem_of_getElem? (i := 66) (by decide +kernel))) rfl
theorem cr12_335 {Θ : Tz} {cc : ByteArray} {nL kc ks : Nat} {ret : Option FieldType} {rm : Room} {Q : State → Prop} {σ : St} {pc : Nat} {lv : List (Nat × Value)} {st : List Value} (C : Zc Θ cc nL RX12 ret rm) (hkd : Θ.2.2.2.2.1 = kdM) {r : St} (hx : q12_lastLoaf σ = some r) (hrm : rm12_lastLoaf.frames + 1 ≤ rm.frames ∧ 8 + (3 + 11) + rm12_lastLoaf.locals ≤ rm.locals) (hcat : (st.map fun v => v.category).sum ≤ 8) (hk : kc ≤ rm.cells ∧ ks ≤ rm.slots) (hd : decode cc pc = .ok (.invokevirtual 335, 3)) (kk : Z Θ nL kc ks Q r (pc + 3) lv st) : Z Θ nL kc ks Q σ pc lv (.ref (zA Θ 0) :: st) := z_callV C 0 [] (none, r) 0 (kM_0 hkd) rfl (c12_lastLoaf hkd (zc_inj C) hx) w_9_174 w_9_171 w_9_173 ws_LastLoafModel_lastLoaf__V w_1_14 ⟨rfl, rfl, hrm.1, hrm.2⟩ (by decide +kernel) rfl rfl hcat hk hd kk
theorem w_9_201 : Cond.code ({ cls := "LastLoafModel", name := "speaks", desc := "()V" } : MethodName) prog_14_method_62_code (5 : Nat) (Option.none : Option ClassFile.FieldType) ∈ TB := tb_in (lwt_9 (List.mem_of_getElem? (i := 201) (by decide +kernel))) rfl
theorem w_9_198 : Cond.methodLink "LastLoafModel" (338 : Nat) ({ cls := "LastLoafModel", name := "speaks", desc := "()V" } : MethodName) ∈ TB := tb_in (lwt_9 (List.mem_of_getElem? (i := 198) (by decide +kernel))) rfl
theorem w_9_200 : Cond.instanceMethod ({ cls := "LastLoafModel", name := "speaks", desc := "()V" } : MethodName) ∈ TB := tb_in (lwt_9 (List.mem_of_getElem? (i := 200) (by decide +kernel))) rfl
theorem ws_LastLoafModel_speaks__V : Cond.selects "LastLoafModel" (⟨"LastLoafModel", "speaks", "()V"⟩ : MethodName) (⟨"LastLoafModel", "speaks", "()V"⟩ : MethodName) ∈ TB := tb_in (List.mem_append_left _ (List.mem_of_getElem? (i := 72) (by decide +kernel))) rfl
theorem cr12_338 {Θ : Tz} {cc : ByteArray} {nL kc ks : Nat} {ret : Option FieldType} {rm : Room} {Q : State → Prop} {σ : St} {pc : Nat} {lv : List (Nat × Value)} {st : List Value} (C : Zc Θ cc nL RX12 ret rm) (hkd : Θ.2.2.2.2.1 = kdM) {r : St} (hx : q12_speaks σ = some r) (hrm : rm12_speaks.frames + 1 ≤ rm.frames ∧ 8 + (5 + 11) + rm12_speaks.locals ≤ rm.locals) (hcat : (st.map fun v => v.category).sum ≤ 8) (hk : kc ≤ rm.cells ∧ ks ≤ rm.slots) (hd : decode cc pc = .ok (.invokevirtual 338, 3)) (kk : Z Θ nL kc ks Q r (pc + 3) lv st) : Z Θ nL kc ks Q σ pc lv (.ref (zA Θ 0) :: st) := z_callV C 0 [] (none, r) 0 (kM_0 hkd) rfl (c12_speaks hkd (zc_inj C) hx) w_9_201 w_9_198 w_9_200 ws_LastLoafModel_speaks__V w_1_14 ⟨rfl, rfl, hrm.1, hrm.2⟩ (by decide +kernel) rfl rfl hcat hk hd kk
theorem dX12_passes_0 : decode cX12_passes 0 = .ok (.aload_n 0, 1) := by decide +kernel
theorem dX12_passes_1 : decode cX12_passes 1 = .ok (.invokevirtual 332, 3) := by decide +kernel
theorem dX12_passes_4 : decode cX12_passes 4 = .ok (.aload_n 0, 1) := by decide +kernel
theorem dX12_passes_5 : decode cX12_passes 5 = .ok (.invokevirtual 335, 3) := by decide +kernel
theorem dX12_passes_8 : decode cX12_passes 8 = .ok (.iconst 0, 1) := by decide +kernel
theorem dX12_passes_9 : decode cX12_passes 9 = .ok (.istore_n 2, 1) := by decide +kernel
theorem dX12_passes_10 : decode cX12_passes 10 = .ok (.iconst 0, 1) := by decide +kernel
theorem dX12_passes_11 : decode cX12_passes 11 = .ok (.istore_n 3, 1) := by decide +kernel
theorem dX12_passes_12 : decode cX12_passes 12 = .ok (.iload_n 3, 1) := by decide +kernel
theorem dX12_passes_13 : decode cX12_passes 13 = .ok (.aload_n 0, 1) := by decide +kernel
theorem dX12_passes_14 : decode cX12_passes 14 = .ok (.getfield 7, 3) := by decide +kernel
theorem dX12_passes_17 : decode cX12_passes 17 = .ok (.iconst 3, 1) := by decide +kernel
theorem dX12_passes_18 : decode cX12_passes 18 = .ok (.iaload, 1) := by decide +kernel
theorem dX12_passes_19 : decode cX12_passes 19 = .ok (.if_icmp .ge 50, 3) := by decide +kernel
theorem dX12_passes_22 : decode cX12_passes 22 = .ok (.aload_n 0, 1) := by decide +kernel
theorem dX12_passes_23 : decode cX12_passes 23 = .ok (.iload_n 3, 1) := by decide +kernel
theorem dX12_passes_24 : decode cX12_passes 24 = .ok (.iconst 4, 1) := by decide +kernel
theorem dX12_passes_25 : decode cX12_passes 25 = .ok (.invokevirtual 72, 3) := by decide +kernel
theorem dX12_passes_28 : decode cX12_passes 28 = .ok (.iconst 1, 1) := by decide +kernel
theorem dX12_passes_29 : decode cX12_passes 29 = .ok (.if_icmp .eq 34, 3) := by decide +kernel
theorem dX12_passes_32 : decode cX12_passes 32 = .ok (.aload_n 0, 1) := by decide +kernel
theorem dX12_passes_33 : decode cX12_passes 33 = .ok (.iload_n 3, 1) := by decide +kernel
theorem dX12_passes_34 : decode cX12_passes 34 = .ok (.iconst 0, 1) := by decide +kernel
theorem dX12_passes_35 : decode cX12_passes 35 = .ok (.invokevirtual 72, 3) := by decide +kernel
theorem dX12_passes_38 : decode cX12_passes 38 = .ok (.bipush 9, 2) := by decide +kernel
theorem dX12_passes_40 : decode cX12_passes 40 = .ok (.if_icmp .ge 6, 3) := by decide +kernel
theorem dX12_passes_43 : decode cX12_passes 43 = .ok (.goto 20, 3) := by decide +kernel
theorem dX12_passes_46 : decode cX12_passes 46 = .ok (.aload_n 0, 1) := by decide +kernel
theorem dX12_passes_47 : decode cX12_passes 47 = .ok (.iload_n 3, 1) := by decide +kernel
theorem dX12_passes_48 : decode cX12_passes 48 = .ok (.iconst 4, 1) := by decide +kernel
theorem dX12_passes_49 : decode cX12_passes 49 = .ok (.iconst 1, 1) := by decide +kernel
theorem dX12_passes_50 : decode cX12_passes 50 = .ok (.invokevirtual 135, 3) := by decide +kernel
theorem dX12_passes_53 : decode cX12_passes 53 = .ok (.aload_n 0, 1) := by decide +kernel
theorem dX12_passes_54 : decode cX12_passes 54 = .ok (.iconst 1, 1) := by decide +kernel
theorem dX12_passes_55 : decode cX12_passes 55 = .ok (.iload_n 3, 1) := by decide +kernel
theorem dX12_passes_56 : decode cX12_passes 56 = .ok (.iconst 0, 1) := by decide +kernel
theorem dX12_passes_57 : decode cX12_passes 57 = .ok (.invokevirtual 326, 3) := by decide +kernel
theorem dX12_passes_60 : decode cX12_passes 60 = .ok (.iinc 2 1, 3) := by decide +kernel
theorem dX12_passes_63 : decode cX12_passes 63 = .ok (.iinc 3 1, 3) := by decide +kernel
theorem dX12_passes_66 : decode cX12_passes 66 = .ok (.goto (-54), 3) := by decide +kernel
theorem dX12_passes_69 : decode cX12_passes 69 = .ok (.iload_n 1, 1) := by decide +kernel
theorem dX12_passes_70 : decode cX12_passes 70 = .ok (.ifCond .eq 7, 3) := by decide +kernel
theorem dX12_passes_73 : decode cX12_passes 73 = .ok (.aload_n 0, 1) := by decide +kernel
theorem dX12_passes_74 : decode cX12_passes 74 = .ok (.invokevirtual 338, 3) := by decide +kernel
theorem dX12_passes_77 : decode cX12_passes 77 = .ok (.aload_n 0, 1) := by decide +kernel
theorem dX12_passes_78 : decode cX12_passes 78 = .ok (.getfield 7, 3) := by decide +kernel
theorem dX12_passes_81 : decode cX12_passes 81 = .ok (.iconst 4, 1) := by decide +kernel
theorem dX12_passes_82 : decode cX12_passes 82 = .ok (.sipush 9999, 3) := by decide +kernel
theorem dX12_passes_85 : decode cX12_passes 85 = .ok (.aload_n 0, 1) := by decide +kernel
theorem dX12_passes_86 : decode cX12_passes 86 = .ok (.getfield 7, 3) := by decide +kernel
theorem dX12_passes_89 : decode cX12_passes 89 = .ok (.iconst 4, 1) := by decide +kernel
theorem dX12_passes_90 : decode cX12_passes 90 = .ok (.iaload, 1) := by decide +kernel
theorem dX12_passes_91 : decode cX12_passes 91 = .ok (.iconst 1, 1) := by decide +kernel
theorem dX12_passes_92 : decode cX12_passes 92 = .ok (.iadd, 1) := by decide +kernel
theorem dX12_passes_93 : decode cX12_passes 93 = .ok (.invokestatic 313, 3) := by decide +kernel
theorem dX12_passes_96 : decode cX12_passes 96 = .ok (.iastore, 1) := by decide +kernel
theorem dX12_passes_97 : decode cX12_passes 97 = .ok (.iload_n 2, 1) := by decide +kernel
theorem dX12_passes_98 : decode cX12_passes 98 = .ok (.ireturn, 1) := by decide +kernel
def q12_passes (σ : St) (draws_a : Bool) : Option (Int32 × St) :=
  Option.bind (q12_feeds σ) fun x1_ =>
  Option.bind (q12_lastLoaf x1_) fun x3_ =>
  Option.bind (loop3 (fun rec8_ (n11_ : Int32) (p12_ : Int32) (σ13_ : St) =>
  Option.bind (ag σ13_ 1 752 3) fun x18_ =>
  if p12_ < x18_ then
  lt (fun (n39_ : Int32) (p40_ : Int32) (σ41_ : St) =>
  lt (p40_ + 1) fun p43_ =>
  rec8_ n39_ p43_ σ41_) fun k15_ =>
  Option.bind (Option.bind (q12_of σ13_ p12_ 4) fun x26_ =>
  if x26_ = 1 then (some true) else (Option.bind (q12_of σ13_ p12_ 0) fun x29_ =>
  if x29_ < 9 then (some true) else (some false))) fun t24_ =>
  if t24_ = true then (k15_ n11_ p12_ σ13_) else
  Option.bind (q12_lays σ13_ p12_ 4 1) fun x33_ =>
  Option.bind (q12_logs x33_ 1 p12_ 0) fun x35_ =>
  lt (n11_ + 1) fun n37_ =>
  k15_ n37_ p12_ x35_
  else (some (n11_, p12_, σ13_))) fuelN (0 : Int32) (0 : Int32) x3_) fun y5_ =>
  Option.bind (if draws_a = true then (Option.bind (q12_speaks y5_.2.2) fun x52_ =>
  some (x52_)) else (some (y5_.2.2))) fun y45_ =>
  Option.bind (ag y45_ 1 752 4) fun x54_ =>
  Option.bind (sa y45_ 1 752 4 (q12_lesser 9999 (x54_ + 1))) fun σ56_ =>
  some (y5_.1, σ56_)
abbrev rm12_passes : Room := { frames := 78, cells := 0, slots := 0, locals := 4216 }
set_option maxHeartbeats 4000000 in
set_option maxRecDepth 100000 in
theorem p12_passes {Θ : Tz} {σ : St} {ρ : Option Value × St} (C : Zc Θ cX12_passes 4 RX12 (some .int) rm12_passes) (hkd : Θ.2.2.2.2.1 = kdM) {draws_a : Bool} {r : (Int32 × St)} (hf : q12_passes σ draws_a = some r) (hρ : ρ = (some (.int r.1), r.2)) : Z Θ 4 0 0 (zQ Θ ρ) σ 0 [(0, .ref (zA Θ 0)), (1, .int (b2i draws_a))] [] := by
  unfold q12_passes at hf
  refine z_aload_n C 0 dX12_passes_0 rfl rfl ?_
  obtain ⟨x1_, h2_, hf⟩ := ob hf
  refine cr12_332 C hkd  h2_ ⟨(Nat.le_of_ble_eq_true rfl), (Nat.le_of_ble_eq_true rfl)⟩ (Nat.le_of_ble_eq_true rfl) ⟨Nat.zero_le _, Nat.zero_le _⟩ dX12_passes_1 ?_
  refine z_aload_n C 0 dX12_passes_4 rfl rfl ?_
  obtain ⟨x3_, h4_, hf⟩ := ob hf
  refine cr12_335 C hkd  h4_ ⟨(Nat.le_of_ble_eq_true rfl), (Nat.le_of_ble_eq_true rfl)⟩ (Nat.le_of_ble_eq_true rfl) ⟨Nat.zero_le _, Nat.zero_le _⟩ dX12_passes_5 ?_
  refine z_iconst (v := 0) C dX12_passes_8 ic_0 ?_
  refine z_istN C dX12_passes_9 rfl rfl (Nat.le_of_ble_eq_true rfl) rfl ?_
  refine z_iconst (v := 0) C dX12_passes_10 ic_0 ?_
  refine z_istN C dX12_passes_11 rfl rfl (Nat.le_of_ble_eq_true rfl) rfl ?_
  refine Z.sub [2, 3, 1, 0] rfl ?_
  obtain ⟨y5_, h6_, hf⟩ := ob hf
  suffices K7_ : Z Θ 4 0 0 (zQ Θ ρ) y5_.2.2 69 [(0, .ref (zA Θ 0)), (1, .int (b2i draws_a)), (2, .int y5_.1), (3, .int y5_.2.1)] [] by
    refine loop3_Z (P := fun (n11_ : Int32) (p12_ : Int32) (σ13_ : St) => Z Θ 4 0 0 (zQ Θ ρ) σ13_ 12 [(0, .ref (zA Θ 0)), (1, .int (b2i draws_a)), (2, .int n11_), (3, .int p12_)] []) ?_ fuelN (0 : Int32) (0 : Int32) x3_ h6_
    clear h6_
    intro rec8_ n11_ p12_ σ13_ h9_ h10_
    refine z_iload_n C 3 dX12_passes_12 rfl rfl ?_
    refine z_aload_n C 0 dX12_passes_13 rfl rfl ?_
    refine fg12_7 C hkd dX12_passes_14 ?_
    refine z_iconst (v := 3) C dX12_passes_17 ic_3 ?_
    obtain ⟨x18_, h19_, h10_⟩ := ob h10_
    refine z_ag C h19_ (kM_1 hkd) dX12_passes_18 ?_
    have K16_ : p12_ < x18_ → Z Θ 4 0 0 (zQ Θ ρ) σ13_ 22 [(0, .ref (zA Θ 0)), (1, .int (b2i draws_a)), (2, .int n11_), (3, .int p12_)] [] := by
      intro h21_
      rw [if_pos h21_] at h10_
      obtain ⟨k15_, h42_, h10_⟩ := lt_ h10_
      have K14_ : ∀ (n39_ : Int32) (p40_ : Int32) (σ41_ : St), k15_ n39_ p40_ σ41_ = some y5_ → Z Θ 4 0 0 (zQ Θ ρ) σ41_ 63 [(0, .ref (zA Θ 0)), (1, .int (b2i draws_a)), (2, .int n39_), (3, .int p40_)] [] := by
        intro n39_ p40_ σ41_ h10_
        subst h42_
        dsimp only at h10_
        obtain ⟨p43_, h44_, h10_⟩ := lt_ h10_
        refine z_inc C 3 dX12_passes_63 rfl ic_1 h44_ (Nat.le_of_ble_eq_true rfl) rfl ?_
        refine z_goto C 12 dX12_passes_66 (by decide) ?_
        refine Z.sub [1, 2, 3, 0] rfl ?_
        exact h9_ _ _ _ h10_
      obtain ⟨t24_, h25_, h10_⟩ := ob h10_
      have K22_j : t24_ = true → Z Θ 4 0 0 (zQ Θ ρ) σ13_ 63 [(0, .ref (zA Θ 0)), (1, .int (b2i draws_a)), (2, .int n11_), (3, .int p12_)] [] := by
        intro h32_
        rw [if_pos h32_] at h10_
        exact K14_ _ _ _ h10_
      have K22_ : t24_ = true → Z Θ 4 0 0 (zQ Θ ρ) σ13_ 43 [(0, .ref (zA Θ 0)), (1, .int (b2i draws_a)), (2, .int n11_), (3, .int p12_)] [] := by
        intro h32_
        refine z_goto C 63 dX12_passes_43 (by decide) ?_
        exact K22_j h32_
      suffices K23_ : ¬ (t24_ = true) → Z Θ 4 0 0 (zQ Θ ρ) σ13_ 46 [(0, .ref (zA Θ 0)), (1, .int (b2i draws_a)), (2, .int n11_), (3, .int p12_)] [] by
        refine z_aload_n C 0 dX12_passes_22 rfl rfl ?_
        refine z_iload_n C 3 dX12_passes_23 rfl rfl ?_
        refine z_iconst (v := 4) C dX12_passes_24 ic_4 ?_
        obtain ⟨x26_, h27_, h25_⟩ := ob h25_
        refine cr12_72 (p_a := p12_) (what_a := 4) C hkd  h27_ ⟨(Nat.le_of_ble_eq_true rfl), (Nat.le_of_ble_eq_true rfl)⟩ (Nat.le_of_ble_eq_true rfl) ⟨Nat.zero_le _, Nat.zero_le _⟩ dX12_passes_25 ?_
        refine z_iconst (v := 1) C dX12_passes_28 ic_1 ?_
        refine c_eq_t C 63 dX12_passes_29 (by decide) (fun h28_ => ?_) (fun h28_ => ?_)
        · rw [if_pos h28_] at h25_
          cases h25_
          exact K22_j rfl
        · rw [if_neg h28_] at h25_
          refine z_aload_n C 0 dX12_passes_32 rfl rfl ?_
          refine z_iload_n C 3 dX12_passes_33 rfl rfl ?_
          refine z_iconst (v := 0) C dX12_passes_34 ic_0 ?_
          obtain ⟨x29_, h30_, h25_⟩ := ob h25_
          refine cr12_72 (p_a := p12_) (what_a := 0) C hkd  h30_ ⟨(Nat.le_of_ble_eq_true rfl), (Nat.le_of_ble_eq_true rfl)⟩ (Nat.le_of_ble_eq_true rfl) ⟨Nat.zero_le _, Nat.zero_le _⟩ dX12_passes_35 ?_
          refine z_bipush (v := 9) C dX12_passes_38 bp_9 ?_
          refine c_lt_f C 46 dX12_passes_40 (by decide) (fun h31_ => ?_) (fun h31_ => ?_)
          · rw [if_pos h31_] at h25_
            cases h25_
            exact K22_ rfl
          · rw [if_neg h31_] at h25_
            cases h25_
            exact K23_ Bool.false_ne_true
      intro h32_
      rw [if_neg h32_] at h10_
      refine z_aload_n C 0 dX12_passes_46 rfl rfl ?_
      refine z_iload_n C 3 dX12_passes_47 rfl rfl ?_
      refine z_iconst (v := 4) C dX12_passes_48 ic_4 ?_
      refine z_iconst (v := 1) C dX12_passes_49 ic_1 ?_
      obtain ⟨x33_, h34_, h10_⟩ := ob h10_
      refine cr12_135 (p_a := p12_) (what_a := 4) (v_a := 1) C hkd  h34_ ⟨(Nat.le_of_ble_eq_true rfl), (Nat.le_of_ble_eq_true rfl)⟩ (Nat.le_of_ble_eq_true rfl) ⟨Nat.zero_le _, Nat.zero_le _⟩ dX12_passes_50 ?_
      refine z_aload_n C 0 dX12_passes_53 rfl rfl ?_
      refine z_iconst (v := 1) C dX12_passes_54 ic_1 ?_
      refine z_iload_n C 3 dX12_passes_55 rfl rfl ?_
      refine z_iconst (v := 0) C dX12_passes_56 ic_0 ?_
      obtain ⟨x35_, h36_, h10_⟩ := ob h10_
      refine cr12_326 (what_a := 1) (p_a := p12_) (votes_a := 0) C hkd  h36_ ⟨(Nat.le_of_ble_eq_true rfl), (Nat.le_of_ble_eq_true rfl)⟩ (Nat.le_of_ble_eq_true rfl) ⟨Nat.zero_le _, Nat.zero_le _⟩ dX12_passes_57 ?_
      obtain ⟨n37_, h38_, h10_⟩ := lt_ h10_
      refine z_inc C 2 dX12_passes_60 rfl ic_1 h38_ (Nat.le_of_ble_eq_true rfl) rfl ?_
      refine Z.sub [1, 2, 0, 3] rfl ?_
      exact K14_ _ _ _ h10_
    have K17_ : ¬ (p12_ < x18_) → Z Θ 4 0 0 (zQ Θ ρ) σ13_ 69 [(0, .ref (zA Θ 0)), (1, .int (b2i draws_a)), (2, .int n11_), (3, .int p12_)] [] := by
      intro h21_
      rw [if_neg h21_] at h10_
      cases h10_
      exact K7_
    refine c_lt_f C 69 dX12_passes_19 (by decide) (fun h20_ => ?_) (fun h20_ => ?_)
    · exact K16_ h20_
    · exact K17_ h20_
  obtain ⟨y45_, h46_, hf⟩ := ob hf
  suffices K47_ : Z Θ 4 0 0 (zQ Θ ρ) y45_ 77 [(0, .ref (zA Θ 0)), (1, .int (b2i draws_a)), (2, .int y5_.1)] [] by
    have K48_ : draws_a = true → Z Θ 4 0 0 (zQ Θ ρ) y5_.2.2 73 [(0, .ref (zA Θ 0)), (1, .int (b2i draws_a)), (2, .int y5_.1), (3, .int y5_.2.1)] [] := by
      intro h51_
      rw [if_pos h51_] at h46_
      refine z_aload_n C 0 dX12_passes_73 rfl rfl ?_
      obtain ⟨x52_, h53_, h46_⟩ := ob h46_
      refine cr12_338 C hkd  h53_ ⟨(Nat.le_of_ble_eq_true rfl), (Nat.le_of_ble_eq_true rfl)⟩ (Nat.le_of_ble_eq_true rfl) ⟨Nat.zero_le _, Nat.zero_le _⟩ dX12_passes_74 ?_
      cases h46_
      refine Z.sub [0, 1, 2] rfl ?_
      exact K47_
    have K49_ : ¬ (draws_a = true) → Z Θ 4 0 0 (zQ Θ ρ) y5_.2.2 77 [(0, .ref (zA Θ 0)), (1, .int (b2i draws_a)), (2, .int y5_.1), (3, .int y5_.2.1)] [] := by
      intro h51_
      rw [if_neg h51_] at h46_
      cases h46_
      refine Z.sub [0, 1, 2] rfl ?_
      exact K47_
    refine z_iload_n C 1 dX12_passes_69 rfl rfl ?_
    refine cb_f C 77 dX12_passes_70 (by decide) (fun h50_ => ?_) (fun h50_ => ?_)
    · exact K48_ h50_
    · exact K49_ h50_
  refine z_aload_n C 0 dX12_passes_77 rfl rfl ?_
  refine fg12_7 C hkd dX12_passes_78 ?_
  refine z_iconst (v := 4) C dX12_passes_81 ic_4 ?_
  refine z_sipush (v := 9999) C dX12_passes_82 sp_9999 ?_
  refine z_aload_n C 0 dX12_passes_85 rfl rfl ?_
  refine fg12_7 C hkd dX12_passes_86 ?_
  refine z_iconst (v := 4) C dX12_passes_89 ic_4 ?_
  obtain ⟨x54_, h55_, hf⟩ := ob hf
  refine z_ag C h55_ (kM_1 hkd) dX12_passes_90 ?_
  refine z_iconst (v := 1) C dX12_passes_91 ic_1 ?_
  refine z_iadd C dX12_passes_92 ?_
  refine cr12_313 (a_a := 9999) (b_a := (x54_ + 1)) C hkd  ⟨(Nat.le_of_ble_eq_true rfl), (Nat.le_of_ble_eq_true rfl)⟩ (Nat.le_of_ble_eq_true rfl) ⟨Nat.zero_le _, Nat.zero_le _⟩ dX12_passes_93 ?_
  obtain ⟨σ56_, h57_, hf⟩ := ob hf
  refine z_sa C h57_ (kM_1 hkd) dX12_passes_96 ?_
  refine z_iload_n C 2 dX12_passes_97 rfl rfl ?_
  cases hf
  subst hρ
  exact z_iret C dX12_passes_98
theorem c12_passes {l : Launch} {kd : List KD} {w : Wp} {σ : St} {draws_a : Bool} (hkd : kd = kdM) (hi : zI kd w) {r : (Int32 × St)} (hf : q12_passes σ draws_a = some r) : zM l kd w yX12_passes cX12_passes 4 (some .int) rm12_passes [.ref (w.2.2.1 0), .int (b2i draws_a)] σ (some (.int r.1), r.2) := zM_of rfl hi (Nat.le_of_ble_eq_true rfl) (fun Θ hl hw C => by
  obtain ⟨Θ1, Θ2, Θ3, Θ4, Θ5⟩ := Θ
  cases hw
  exact p12_passes C hkd  hf rfl)
/-! LastLoafModel.goes -/
theorem w_9_159 : Cond.code ({ cls := "LastLoafModel", name := "passes", desc := "(Z)I" } : MethodName) prog_14_method_63_code (4 : Nat) (Option.some ClassFile.FieldType.int) ∈ TB := tb_in (lwt_9 (List.mem_of_getElem? (i := 159) (by decide +kernel))) rfl
theorem w_9_156 : Cond.methodLink "LastLoafModel" (341 : Nat) ({ cls := "LastLoafModel", name := "passes", desc := "(Z)I" } : MethodName) ∈ TB := tb_in (lwt_9 (List.mem_of_getElem? (i := 156) (by decide +kernel))) rfl
theorem w_9_158 : Cond.instanceMethod ({ cls := "LastLoafModel", name := "passes", desc := "(Z)I" } : MethodName) ∈ TB := tb_in (lwt_9 (List.mem_of_getElem? (i := 158) (by decide +kernel))) rfl
theorem ws_LastLoafModel_passes_Z_I : Cond.selects "LastLoafModel" (⟨"LastLoafModel", "passes", "(Z)I"⟩ : MethodName) (⟨"LastLoafModel", "passes", "(Z)I"⟩ : MethodName) ∈ TB := tb_in (List.mem_append_left _ (List.mem_of_getElem? (i := 63) (by decide +kernel))) rfl
theorem cr12_341 {Θ : Tz} {cc : ByteArray} {nL kc ks : Nat} {ret : Option FieldType} {rm : Room} {Q : State → Prop} {σ : St} {pc : Nat} {lv : List (Nat × Value)} {st : List Value} (C : Zc Θ cc nL RX12 ret rm) (hkd : Θ.2.2.2.2.1 = kdM) {draws_a : Bool} {r : Int32 × St} (hx : q12_passes σ draws_a = some r) (hrm : rm12_passes.frames + 1 ≤ rm.frames ∧ 8 + (4 + 11) + rm12_passes.locals ≤ rm.locals) (hcat : (st.map fun v => v.category).sum ≤ 8) (hk : kc ≤ rm.cells ∧ ks ≤ rm.slots) (hd : decode cc pc = .ok (.invokevirtual 341, 3)) (kk : Z Θ nL kc ks Q r.2 (pc + 3) lv (.int r.1 :: st)) : Z Θ nL kc ks Q σ pc lv (.int (b2i draws_a) :: .ref (zA Θ 0) :: st) := z_callV C 0 [.int (b2i draws_a)] (some (.int r.1), r.2) 1 (kM_0 hkd) rfl (c12_passes (draws_a := draws_a) hkd (zc_inj C) hx) w_9_159 w_9_156 w_9_158 ws_LastLoafModel_passes_Z_I w_1_14 ⟨rfl, rfl, hrm.1, hrm.2⟩ (by decide +kernel) rfl rfl hcat hk hd kk
theorem dX12_goes_0 : decode cX12_goes 0 = .ok (.iconst 0, 1) := by decide +kernel
theorem dX12_goes_1 : decode cX12_goes 1 = .ok (.istore_n 3, 1) := by decide +kernel
theorem dX12_goes_2 : decode cX12_goes 2 = .ok (.iconst 0, 1) := by decide +kernel
theorem dX12_goes_3 : decode cX12_goes 3 = .ok (.istore 4, 2) := by decide +kernel
theorem dX12_goes_5 : decode cX12_goes 5 = .ok (.iload 4, 2) := by decide +kernel
theorem dX12_goes_7 : decode cX12_goes 7 = .ok (.iload_n 1, 1) := by decide +kernel
theorem dX12_goes_8 : decode cX12_goes 8 = .ok (.if_icmp .ge 17, 3) := by decide +kernel
theorem dX12_goes_11 : decode cX12_goes 11 = .ok (.iload_n 3, 1) := by decide +kernel
theorem dX12_goes_12 : decode cX12_goes 12 = .ok (.aload_n 0, 1) := by decide +kernel
theorem dX12_goes_13 : decode cX12_goes 13 = .ok (.iload_n 2, 1) := by decide +kernel
theorem dX12_goes_14 : decode cX12_goes 14 = .ok (.invokevirtual 341, 3) := by decide +kernel
theorem dX12_goes_17 : decode cX12_goes 17 = .ok (.iadd, 1) := by decide +kernel
theorem dX12_goes_18 : decode cX12_goes 18 = .ok (.istore_n 3, 1) := by decide +kernel
theorem dX12_goes_19 : decode cX12_goes 19 = .ok (.iinc 4 1, 3) := by decide +kernel
theorem dX12_goes_22 : decode cX12_goes 22 = .ok (.goto (-17), 3) := by decide +kernel
theorem dX12_goes_25 : decode cX12_goes 25 = .ok (.iload_n 3, 1) := by decide +kernel
theorem dX12_goes_26 : decode cX12_goes 26 = .ok (.ireturn, 1) := by decide +kernel
def q12_goes (σ : St) (n_a : Int32) (draws_a : Bool) : Option (Int32 × St) :=
  Option.bind (loop3 (fun rec4_ (c7_ : Int32) (k8_ : Int32) (σ9_ : St) =>
  if k8_ < n_a then
  Option.bind (q12_passes σ9_ draws_a) fun x16_ =>
  lt (c7_ + x16_.1) fun c18_ =>
  lt (k8_ + 1) fun k20_ =>
  rec4_ c18_ k20_ x16_.2
  else (some (c7_, k8_, σ9_))) fuelN (0 : Int32) (0 : Int32) σ) fun y1_ =>
  some (y1_.1, y1_.2.2)
abbrev rm12_goes : Room := { frames := 79, cells := 0, slots := 0, locals := 4239 }
set_option maxHeartbeats 4000000 in
set_option maxRecDepth 100000 in
theorem p12_goes {Θ : Tz} {σ : St} {ρ : Option Value × St} (C : Zc Θ cX12_goes 5 RX12 (some .int) rm12_goes) (hkd : Θ.2.2.2.2.1 = kdM) {n_a : Int32} {draws_a : Bool} {r : (Int32 × St)} (hf : q12_goes σ n_a draws_a = some r) (hρ : ρ = (some (.int r.1), r.2)) : Z Θ 5 0 0 (zQ Θ ρ) σ 0 [(0, .ref (zA Θ 0)), (1, .int n_a), (2, .int (b2i draws_a))] [] := by
  unfold q12_goes at hf
  refine z_iconst (v := 0) C dX12_goes_0 ic_0 ?_
  refine z_istN C dX12_goes_1 rfl rfl (Nat.le_of_ble_eq_true rfl) rfl ?_
  refine z_iconst (v := 0) C dX12_goes_2 ic_0 ?_
  refine z_ist C dX12_goes_3 rfl (Nat.le_of_ble_eq_true rfl) rfl ?_
  refine Z.sub [2, 3, 4, 1, 0] rfl ?_
  obtain ⟨y1_, h2_, hf⟩ := ob hf
  suffices K3_ : Z Θ 5 0 0 (zQ Θ ρ) y1_.2.2 25 [(0, .ref (zA Θ 0)), (1, .int n_a), (2, .int (b2i draws_a)), (3, .int y1_.1), (4, .int y1_.2.1)] [] by
    refine loop3_Z (P := fun (c7_ : Int32) (k8_ : Int32) (σ9_ : St) => Z Θ 5 0 0 (zQ Θ ρ) σ9_ 5 [(0, .ref (zA Θ 0)), (1, .int n_a), (2, .int (b2i draws_a)), (3, .int c7_), (4, .int k8_)] []) ?_ fuelN (0 : Int32) (0 : Int32) σ h2_
    clear h2_
    intro rec4_ c7_ k8_ σ9_ h5_ h6_
    have K12_ : k8_ < n_a → Z Θ 5 0 0 (zQ Θ ρ) σ9_ 11 [(0, .ref (zA Θ 0)), (1, .int n_a), (2, .int (b2i draws_a)), (3, .int c7_), (4, .int k8_)] [] := by
      intro h15_
      rw [if_pos h15_] at h6_
      refine z_iload_n C 3 dX12_goes_11 rfl rfl ?_
      refine z_aload_n C 0 dX12_goes_12 rfl rfl ?_
      refine z_iload_n C 2 dX12_goes_13 rfl rfl ?_
      obtain ⟨x16_, h17_, h6_⟩ := ob h6_
      refine cr12_341 (draws_a := draws_a) C hkd  h17_ ⟨(Nat.le_of_ble_eq_true rfl), (Nat.le_of_ble_eq_true rfl)⟩ (Nat.le_of_ble_eq_true rfl) ⟨Nat.zero_le _, Nat.zero_le _⟩ dX12_goes_14 ?_
      refine z_iadd C dX12_goes_17 ?_
      obtain ⟨c18_, h19_, h6_⟩ := lt_ h6_
      refine z_istN C dX12_goes_18 h19_ rfl (Nat.le_of_ble_eq_true rfl) rfl ?_
      obtain ⟨k20_, h21_, h6_⟩ := lt_ h6_
      refine z_inc C 4 dX12_goes_19 rfl ic_1 h21_ (Nat.le_of_ble_eq_true rfl) rfl ?_
      refine z_goto C 5 dX12_goes_22 (by decide) ?_
      refine Z.sub [2, 3, 4, 1, 0] rfl ?_
      exact h5_ _ _ _ h6_
    have K13_ : ¬ (k8_ < n_a) → Z Θ 5 0 0 (zQ Θ ρ) σ9_ 25 [(0, .ref (zA Θ 0)), (1, .int n_a), (2, .int (b2i draws_a)), (3, .int c7_), (4, .int k8_)] [] := by
      intro h15_
      rw [if_neg h15_] at h6_
      cases h6_
      exact K3_
    refine z_iload C 4 dX12_goes_5 rfl ?_
    refine z_iload_n C 1 dX12_goes_7 rfl rfl ?_
    refine c_lt_f C 25 dX12_goes_8 (by decide) (fun h14_ => ?_) (fun h14_ => ?_)
    · exact K12_ h14_
    · exact K13_ h14_
  refine z_iload_n C 3 dX12_goes_25 rfl rfl ?_
  cases hf
  subst hρ
  exact z_iret C dX12_goes_26
theorem c12_goes {l : Launch} {kd : List KD} {w : Wp} {σ : St} {n_a : Int32} {draws_a : Bool} (hkd : kd = kdM) (hi : zI kd w) {r : (Int32 × St)} (hf : q12_goes σ n_a draws_a = some r) : zM l kd w yX12_goes cX12_goes 5 (some .int) rm12_goes [.ref (w.2.2.1 0), .int n_a, .int (b2i draws_a)] σ (some (.int r.1), r.2) := zM_of rfl hi (Nat.le_of_ble_eq_true rfl) (fun Θ hl hw C => by
  obtain ⟨Θ1, Θ2, Θ3, Θ4, Θ5⟩ := Θ
  cases hw
  exact p12_goes C hkd  hf rfl)
/-! LastLoafModel.sumOf -/
theorem dX12_sumOf_0 : decode cX12_sumOf 0 = .ok (.iconst 0, 1) := by decide +kernel
theorem dX12_sumOf_1 : decode cX12_sumOf 1 = .ok (.istore_n 2, 1) := by decide +kernel
theorem dX12_sumOf_2 : decode cX12_sumOf 2 = .ok (.iconst 0, 1) := by decide +kernel
theorem dX12_sumOf_3 : decode cX12_sumOf 3 = .ok (.istore_n 3, 1) := by decide +kernel
theorem dX12_sumOf_4 : decode cX12_sumOf 4 = .ok (.iload_n 3, 1) := by decide +kernel
theorem dX12_sumOf_5 : decode cX12_sumOf 5 = .ok (.aload_n 0, 1) := by decide +kernel
theorem dX12_sumOf_6 : decode cX12_sumOf 6 = .ok (.getfield 7, 3) := by decide +kernel
theorem dX12_sumOf_9 : decode cX12_sumOf 9 = .ok (.iconst 3, 1) := by decide +kernel
theorem dX12_sumOf_10 : decode cX12_sumOf 10 = .ok (.iaload, 1) := by decide +kernel
theorem dX12_sumOf_11 : decode cX12_sumOf 11 = .ok (.if_icmp .ge 18, 3) := by decide +kernel
theorem dX12_sumOf_14 : decode cX12_sumOf 14 = .ok (.iload_n 2, 1) := by decide +kernel
theorem dX12_sumOf_15 : decode cX12_sumOf 15 = .ok (.aload_n 0, 1) := by decide +kernel
theorem dX12_sumOf_16 : decode cX12_sumOf 16 = .ok (.iload_n 3, 1) := by decide +kernel
theorem dX12_sumOf_17 : decode cX12_sumOf 17 = .ok (.iload_n 1, 1) := by decide +kernel
theorem dX12_sumOf_18 : decode cX12_sumOf 18 = .ok (.invokevirtual 72, 3) := by decide +kernel
theorem dX12_sumOf_21 : decode cX12_sumOf 21 = .ok (.iadd, 1) := by decide +kernel
theorem dX12_sumOf_22 : decode cX12_sumOf 22 = .ok (.istore_n 2, 1) := by decide +kernel
theorem dX12_sumOf_23 : decode cX12_sumOf 23 = .ok (.iinc 3 1, 3) := by decide +kernel
theorem dX12_sumOf_26 : decode cX12_sumOf 26 = .ok (.goto (-22), 3) := by decide +kernel
theorem dX12_sumOf_29 : decode cX12_sumOf 29 = .ok (.iload_n 2, 1) := by decide +kernel
theorem dX12_sumOf_30 : decode cX12_sumOf 30 = .ok (.ireturn, 1) := by decide +kernel
def q12_sumOf (σ : St) (what_a : Int32) : Option Int32 :=
  Option.bind (loop2 (fun rec4_ (n7_ : Int32) (p8_ : Int32) =>
  Option.bind (ag σ 1 752 3) fun x13_ =>
  if p8_ < x13_ then
  Option.bind (q12_of σ p8_ what_a) fun x17_ =>
  lt (n7_ + x17_) fun n19_ =>
  lt (p8_ + 1) fun p21_ =>
  rec4_ n19_ p21_
  else (some (n7_, p8_))) fuelN (0 : Int32) (0 : Int32)) fun y1_ =>
  some y1_.1
abbrev rm12_sumOf : Room := { frames := 1, cells := 0, slots := 0, locals := 22 }
set_option maxHeartbeats 4000000 in
set_option maxRecDepth 100000 in
theorem p12_sumOf {Θ : Tz} {σ : St} {ρ : Option Value × St} (C : Zc Θ cX12_sumOf 4 RX12 (some .int) rm12_sumOf) (hkd : Θ.2.2.2.2.1 = kdM) {what_a : Int32} {r : Int32} (hf : q12_sumOf σ what_a = some r) (hρ : ρ = (some (.int r), σ)) : Z Θ 4 0 0 (zQ Θ ρ) σ 0 [(0, .ref (zA Θ 0)), (1, .int what_a)] [] := by
  unfold q12_sumOf at hf
  refine z_iconst (v := 0) C dX12_sumOf_0 ic_0 ?_
  refine z_istN C dX12_sumOf_1 rfl rfl (Nat.le_of_ble_eq_true rfl) rfl ?_
  refine z_iconst (v := 0) C dX12_sumOf_2 ic_0 ?_
  refine z_istN C dX12_sumOf_3 rfl rfl (Nat.le_of_ble_eq_true rfl) rfl ?_
  refine Z.sub [2, 3, 1, 0] rfl ?_
  obtain ⟨y1_, h2_, hf⟩ := ob hf
  suffices K3_ : Z Θ 4 0 0 (zQ Θ ρ) σ 29 [(0, .ref (zA Θ 0)), (1, .int what_a), (2, .int y1_.1), (3, .int y1_.2)] [] by
    refine loop2_Z (P := fun (n7_ : Int32) (p8_ : Int32) => Z Θ 4 0 0 (zQ Θ ρ) σ 4 [(0, .ref (zA Θ 0)), (1, .int what_a), (2, .int n7_), (3, .int p8_)] []) ?_ fuelN (0 : Int32) (0 : Int32) h2_
    clear h2_
    intro rec4_ n7_ p8_ h5_ h6_
    refine z_iload_n C 3 dX12_sumOf_4 rfl rfl ?_
    refine z_aload_n C 0 dX12_sumOf_5 rfl rfl ?_
    refine fg12_7 C hkd dX12_sumOf_6 ?_
    refine z_iconst (v := 3) C dX12_sumOf_9 ic_3 ?_
    obtain ⟨x13_, h14_, h6_⟩ := ob h6_
    refine z_ag C h14_ (kM_1 hkd) dX12_sumOf_10 ?_
    have K11_ : p8_ < x13_ → Z Θ 4 0 0 (zQ Θ ρ) σ 14 [(0, .ref (zA Θ 0)), (1, .int what_a), (2, .int n7_), (3, .int p8_)] [] := by
      intro h16_
      rw [if_pos h16_] at h6_
      refine z_iload_n C 2 dX12_sumOf_14 rfl rfl ?_
      refine z_aload_n C 0 dX12_sumOf_15 rfl rfl ?_
      refine z_iload_n C 3 dX12_sumOf_16 rfl rfl ?_
      refine z_iload_n C 1 dX12_sumOf_17 rfl rfl ?_
      obtain ⟨x17_, h18_, h6_⟩ := ob h6_
      refine cr12_72 (p_a := p8_) (what_a := what_a) C hkd  h18_ ⟨(Nat.le_of_ble_eq_true rfl), (Nat.le_of_ble_eq_true rfl)⟩ (Nat.le_of_ble_eq_true rfl) ⟨Nat.zero_le _, Nat.zero_le _⟩ dX12_sumOf_18 ?_
      refine z_iadd C dX12_sumOf_21 ?_
      obtain ⟨n19_, h20_, h6_⟩ := lt_ h6_
      refine z_istN C dX12_sumOf_22 h20_ rfl (Nat.le_of_ble_eq_true rfl) rfl ?_
      obtain ⟨p21_, h22_, h6_⟩ := lt_ h6_
      refine z_inc C 3 dX12_sumOf_23 rfl ic_1 h22_ (Nat.le_of_ble_eq_true rfl) rfl ?_
      refine z_goto C 4 dX12_sumOf_26 (by decide) ?_
      refine Z.sub [2, 3, 1, 0] rfl ?_
      exact h5_ _ _ h6_
    have K12_ : ¬ (p8_ < x13_) → Z Θ 4 0 0 (zQ Θ ρ) σ 29 [(0, .ref (zA Θ 0)), (1, .int what_a), (2, .int n7_), (3, .int p8_)] [] := by
      intro h16_
      rw [if_neg h16_] at h6_
      cases h6_
      exact K3_
    refine c_lt_f C 29 dX12_sumOf_11 (by decide) (fun h15_ => ?_) (fun h15_ => ?_)
    · exact K11_ h15_
    · exact K12_ h15_
  refine z_iload_n C 2 dX12_sumOf_29 rfl rfl ?_
  cases hf
  subst hρ
  exact z_iret C dX12_sumOf_30
theorem c12_sumOf {l : Launch} {kd : List KD} {w : Wp} {σ : St} {what_a : Int32} (hkd : kd = kdM) (hi : zI kd w) {r : Int32} (hf : q12_sumOf σ what_a = some r) : zM l kd w yX12_sumOf cX12_sumOf 4 (some .int) rm12_sumOf [.ref (w.2.2.1 0), .int what_a] σ (some (.int r), σ) := zM_of rfl hi (Nat.le_of_ble_eq_true rfl) (fun Θ hl hw C => by
  obtain ⟨Θ1, Θ2, Θ3, Θ4, Θ5⟩ := Θ
  cases hw
  exact p12_sumOf C hkd  hf rfl)
/-! LastLoafModel.voteOf -/
theorem w_9_84 : Cond.code ({ cls := "LastLoafModel", name := "inRank", desc := "(III)I" } : MethodName) prog_14_method_47_code (6 : Nat) (Option.some ClassFile.FieldType.int) ∈ TB := tb_in (lwt_9 (List.mem_of_getElem? (i := 84) (by decide +kernel))) rfl
theorem w_9_81 : Cond.methodLink "LastLoafModel" (344 : Nat) ({ cls := "LastLoafModel", name := "inRank", desc := "(III)I" } : MethodName) ∈ TB := tb_in (lwt_9 (List.mem_of_getElem? (i := 81) (by decide +kernel))) rfl
theorem w_9_83 : Cond.instanceMethod ({ cls := "LastLoafModel", name := "inRank", desc := "(III)I" } : MethodName) ∈ TB := tb_in (lwt_9 (List.mem_of_getElem? (i := 83) (by decide +kernel))) rfl
theorem ws_LastLoafModel_inRank_III_I : Cond.selects "LastLoafModel" (⟨"LastLoafModel", "inRank", "(III)I"⟩ : MethodName) (⟨"LastLoafModel", "inRank", "(III)I"⟩ : MethodName) ∈ TB := tb_in (List.mem_append_left _ (List.mem_of_getElem? (i := 49) (by decide +kernel))) rfl
theorem cr12_344 {Θ : Tz} {cc : ByteArray} {nL kc ks : Nat} {ret : Option FieldType} {rm : Room} {Q : State → Prop} {σ : St} {pc : Nat} {lv : List (Nat × Value)} {st : List Value} (C : Zc Θ cc nL RX12 ret rm) (hkd : Θ.2.2.2.2.1 = kdM) {p_a : Int32} {k_a : Int32} {set_a : Int32} {r : Int32} (hx : q12_inRank σ p_a k_a set_a = some r) (hrm : rm12_inRank.frames + 1 ≤ rm.frames ∧ 8 + (6 + 11) + rm12_inRank.locals ≤ rm.locals) (hcat : (st.map fun v => v.category).sum ≤ 8) (hk : kc ≤ rm.cells ∧ ks ≤ rm.slots) (hd : decode cc pc = .ok (.invokevirtual 344, 3)) (kk : Z Θ nL kc ks Q σ (pc + 3) lv (.int r :: st)) : Z Θ nL kc ks Q σ pc lv (.int set_a :: .int k_a :: .int p_a :: .ref (zA Θ 0) :: st) := z_callV C 0 [.int p_a, .int k_a, .int set_a] (some (.int r), σ) 3 (kM_0 hkd) rfl (c12_inRank (p_a := p_a) (k_a := k_a) (set_a := set_a) hkd (zc_inj C) hx) w_9_84 w_9_81 w_9_83 ws_LastLoafModel_inRank_III_I w_1_14 ⟨rfl, rfl, hrm.1, hrm.2⟩ (by decide +kernel) rfl rfl hcat hk hd kk
theorem dX12_voteOf_0 : decode cX12_voteOf 0 = .ok (.aload_n 0, 1) := by decide +kernel
theorem dX12_voteOf_1 : decode cX12_voteOf 1 = .ok (.getfield 263, 3) := by decide +kernel
theorem dX12_voteOf_4 : decode cX12_voteOf 4 = .ok (.iload_n 1, 1) := by decide +kernel
theorem dX12_voteOf_5 : decode cX12_voteOf 5 = .ok (.invokestatic 275, 3) := by decide +kernel
theorem dX12_voteOf_8 : decode cX12_voteOf 8 = .ok (.ifCond .eq 16, 3) := by decide +kernel
theorem dX12_voteOf_11 : decode cX12_voteOf 11 = .ok (.aload_n 0, 1) := by decide +kernel
theorem dX12_voteOf_12 : decode cX12_voteOf 12 = .ok (.iload_n 1, 1) := by decide +kernel
theorem dX12_voteOf_13 : decode cX12_voteOf 13 = .ok (.iconst 0, 1) := by decide +kernel
theorem dX12_voteOf_14 : decode cX12_voteOf 14 = .ok (.aload_n 0, 1) := by decide +kernel
theorem dX12_voteOf_15 : decode cX12_voteOf 15 = .ok (.getfield 269, 3) := by decide +kernel
theorem dX12_voteOf_18 : decode cX12_voteOf 18 = .ok (.invokevirtual 344, 3) := by decide +kernel
theorem dX12_voteOf_21 : decode cX12_voteOf 21 = .ok (.goto 4, 3) := by decide +kernel
theorem dX12_voteOf_24 : decode cX12_voteOf 24 = .ok (.iconst (-1), 1) := by decide +kernel
theorem dX12_voteOf_25 : decode cX12_voteOf 25 = .ok (.ireturn, 1) := by decide +kernel
def q12_voteOf (σ : St) (p_a : Int32) : Option Int32 :=
  Option.bind (if q12_isOf (σ 0 20) p_a = true then (Option.bind (q12_inRank σ p_a 0 (σ 0 21)) fun x7_ =>
  some x7_) else (some (-1 : Int32))) fun x1_ =>
  some x1_
abbrev rm12_voteOf : Room := { frames := 3, cells := 0, slots := 0, locals := 74 }
set_option maxHeartbeats 4000000 in
set_option maxRecDepth 100000 in
theorem p12_voteOf {Θ : Tz} {σ : St} {ρ : Option Value × St} (C : Zc Θ cX12_voteOf 2 RX12 (some .int) rm12_voteOf) (hkd : Θ.2.2.2.2.1 = kdM) {p_a : Int32} {r : Int32} (hf : q12_voteOf σ p_a = some r) (hρ : ρ = (some (.int r), σ)) : Z Θ 2 0 0 (zQ Θ ρ) σ 0 [(0, .ref (zA Θ 0)), (1, .int p_a)] [] := by
  unfold q12_voteOf at hf
  obtain ⟨x1_, h2_, hf⟩ := ob hf
  suffices K3_ : Z Θ 2 0 0 (zQ Θ ρ) σ 25 [(0, .ref (zA Θ 0)), (1, .int p_a)] [.int x1_] by
    have K4_ : q12_isOf (σ 0 20) p_a = true → Z Θ 2 0 0 (zQ Θ ρ) σ 11 [(0, .ref (zA Θ 0)), (1, .int p_a)] [] := by
      intro h9_
      rw [if_pos h9_] at h2_
      refine z_aload_n C 0 dX12_voteOf_11 rfl rfl ?_
      refine z_iload_n C 1 dX12_voteOf_12 rfl rfl ?_
      refine z_iconst (v := 0) C dX12_voteOf_13 ic_0 ?_
      refine z_aload_n C 0 dX12_voteOf_14 rfl rfl ?_
      refine fg12_269 C hkd dX12_voteOf_15 ?_
      obtain ⟨x7_, h8_, h2_⟩ := ob h2_
      refine cr12_344 (p_a := p_a) (k_a := 0) (set_a := (σ 0 21)) C hkd  h8_ ⟨(Nat.le_of_ble_eq_true rfl), (Nat.le_of_ble_eq_true rfl)⟩ (Nat.le_of_ble_eq_true rfl) ⟨Nat.zero_le _, Nat.zero_le _⟩ dX12_voteOf_18 ?_
      refine z_goto C 25 dX12_voteOf_21 (by decide) ?_
      cases h2_
      exact K3_
    have K5_ : ¬ (q12_isOf (σ 0 20) p_a = true) → Z Θ 2 0 0 (zQ Θ ρ) σ 24 [(0, .ref (zA Θ 0)), (1, .int p_a)] [] := by
      intro h9_
      rw [if_neg h9_] at h2_
      refine z_iconst (v := (-1)) C dX12_voteOf_24 ic_m1 ?_
      cases h2_
      exact K3_
    refine z_aload_n C 0 dX12_voteOf_0 rfl rfl ?_
    refine fg12_263 C hkd dX12_voteOf_1 ?_
    refine z_iload_n C 1 dX12_voteOf_4 rfl rfl ?_
    refine cr12_275 (set_a := (σ 0 20)) (k_a := p_a) C hkd  ⟨(Nat.le_of_ble_eq_true rfl), (Nat.le_of_ble_eq_true rfl)⟩ (Nat.le_of_ble_eq_true rfl) ⟨Nat.zero_le _, Nat.zero_le _⟩ dX12_voteOf_5 ?_
    refine cb_f C 24 dX12_voteOf_8 (by decide) (fun h6_ => ?_) (fun h6_ => ?_)
    · exact K4_ h6_
    · exact K5_ h6_
  cases hf
  subst hρ
  exact z_iret C dX12_voteOf_25
theorem c12_voteOf {l : Launch} {kd : List KD} {w : Wp} {σ : St} {p_a : Int32} (hkd : kd = kdM) (hi : zI kd w) {r : Int32} (hf : q12_voteOf σ p_a = some r) : zM l kd w yX12_voteOf cX12_voteOf 2 (some .int) rm12_voteOf [.ref (w.2.2.1 0), .int p_a] σ (some (.int r), σ) := zM_of rfl hi (Nat.le_of_ble_eq_true rfl) (fun Θ hl hw C => by
  obtain ⟨Θ1, Θ2, Θ3, Θ4, Θ5⟩ := Θ
  cases hw
  exact p12_voteOf C hkd  hf rfl)
/-! LastLoafModel.passesTo -/
theorem dX12_passesTo_0 : decode cX12_passesTo 0 = .ok (.iconst (-1), 1) := by decide +kernel
theorem dX12_passesTo_1 : decode cX12_passesTo 1 = .ok (.istore_n 2, 1) := by decide +kernel
theorem dX12_passesTo_2 : decode cX12_passesTo 2 = .ok (.iconst 0, 1) := by decide +kernel
theorem dX12_passesTo_3 : decode cX12_passesTo 3 = .ok (.istore_n 3, 1) := by decide +kernel
theorem dX12_passesTo_4 : decode cX12_passesTo 4 = .ok (.iload_n 3, 1) := by decide +kernel
theorem dX12_passesTo_5 : decode cX12_passesTo 5 = .ok (.aload_n 0, 1) := by decide +kernel
theorem dX12_passesTo_6 : decode cX12_passesTo 6 = .ok (.getfield 7, 3) := by decide +kernel
theorem dX12_passesTo_9 : decode cX12_passesTo 9 = .ok (.iconst 3, 1) := by decide +kernel
theorem dX12_passesTo_10 : decode cX12_passesTo 10 = .ok (.iaload, 1) := by decide +kernel
theorem dX12_passesTo_11 : decode cX12_passesTo 11 = .ok (.if_icmp .ge 63, 3) := by decide +kernel
theorem dX12_passesTo_14 : decode cX12_passesTo 14 = .ok (.iload_n 3, 1) := by decide +kernel
theorem dX12_passesTo_15 : decode cX12_passesTo 15 = .ok (.iload_n 1, 1) := by decide +kernel
theorem dX12_passesTo_16 : decode cX12_passesTo 16 = .ok (.if_icmp .eq 52, 3) := by decide +kernel
theorem dX12_passesTo_19 : decode cX12_passesTo 19 = .ok (.aload_n 0, 1) := by decide +kernel
theorem dX12_passesTo_20 : decode cX12_passesTo 20 = .ok (.iload_n 3, 1) := by decide +kernel
theorem dX12_passesTo_21 : decode cX12_passesTo 21 = .ok (.iconst 4, 1) := by decide +kernel
theorem dX12_passesTo_22 : decode cX12_passesTo 22 = .ok (.invokevirtual 72, 3) := by decide +kernel
theorem dX12_passesTo_25 : decode cX12_passesTo 25 = .ok (.iconst 1, 1) := by decide +kernel
theorem dX12_passesTo_26 : decode cX12_passesTo 26 = .ok (.if_icmp .ne 6, 3) := by decide +kernel
theorem dX12_passesTo_29 : decode cX12_passesTo 29 = .ok (.goto 39, 3) := by decide +kernel
theorem dX12_passesTo_32 : decode cX12_passesTo 32 = .ok (.iload_n 2, 1) := by decide +kernel
theorem dX12_passesTo_33 : decode cX12_passesTo 33 = .ok (.iconst (-1), 1) := by decide +kernel
theorem dX12_passesTo_34 : decode cX12_passesTo 34 = .ok (.if_icmp .eq 32, 3) := by decide +kernel
theorem dX12_passesTo_37 : decode cX12_passesTo 37 = .ok (.aload_n 0, 1) := by decide +kernel
theorem dX12_passesTo_38 : decode cX12_passesTo 38 = .ok (.iload_n 1, 1) := by decide +kernel
theorem dX12_passesTo_39 : decode cX12_passesTo 39 = .ok (.iload_n 3, 1) := by decide +kernel
theorem dX12_passesTo_40 : decode cX12_passesTo 40 = .ok (.invokevirtual 260, 3) := by decide +kernel
theorem dX12_passesTo_43 : decode cX12_passesTo 43 = .ok (.aload_n 0, 1) := by decide +kernel
theorem dX12_passesTo_44 : decode cX12_passesTo 44 = .ok (.iload_n 3, 1) := by decide +kernel
theorem dX12_passesTo_45 : decode cX12_passesTo 45 = .ok (.iconst 0, 1) := by decide +kernel
theorem dX12_passesTo_46 : decode cX12_passesTo 46 = .ok (.invokevirtual 72, 3) := by decide +kernel
theorem dX12_passesTo_49 : decode cX12_passesTo 49 = .ok (.iadd, 1) := by decide +kernel
theorem dX12_passesTo_50 : decode cX12_passesTo 50 = .ok (.aload_n 0, 1) := by decide +kernel
theorem dX12_passesTo_51 : decode cX12_passesTo 51 = .ok (.iload_n 1, 1) := by decide +kernel
theorem dX12_passesTo_52 : decode cX12_passesTo 52 = .ok (.iload_n 2, 1) := by decide +kernel
theorem dX12_passesTo_53 : decode cX12_passesTo 53 = .ok (.invokevirtual 260, 3) := by decide +kernel
theorem dX12_passesTo_56 : decode cX12_passesTo 56 = .ok (.aload_n 0, 1) := by decide +kernel
theorem dX12_passesTo_57 : decode cX12_passesTo 57 = .ok (.iload_n 2, 1) := by decide +kernel
theorem dX12_passesTo_58 : decode cX12_passesTo 58 = .ok (.iconst 0, 1) := by decide +kernel
theorem dX12_passesTo_59 : decode cX12_passesTo 59 = .ok (.invokevirtual 72, 3) := by decide +kernel
theorem dX12_passesTo_62 : decode cX12_passesTo 62 = .ok (.iadd, 1) := by decide +kernel
theorem dX12_passesTo_63 : decode cX12_passesTo 63 = .ok (.if_icmp .le 5, 3) := by decide +kernel
theorem dX12_passesTo_66 : decode cX12_passesTo 66 = .ok (.iload_n 3, 1) := by decide +kernel
theorem dX12_passesTo_67 : decode cX12_passesTo 67 = .ok (.istore_n 2, 1) := by decide +kernel
theorem dX12_passesTo_68 : decode cX12_passesTo 68 = .ok (.iinc 3 1, 3) := by decide +kernel
theorem dX12_passesTo_71 : decode cX12_passesTo 71 = .ok (.goto (-67), 3) := by decide +kernel
theorem dX12_passesTo_74 : decode cX12_passesTo 74 = .ok (.iload_n 2, 1) := by decide +kernel
theorem dX12_passesTo_75 : decode cX12_passesTo 75 = .ok (.ireturn, 1) := by decide +kernel
def q12_passesTo (σ : St) (p_a : Int32) : Option Int32 :=
  Option.bind (loop2 (fun rec4_ (found7_ : Int32) (o8_ : Int32) =>
  Option.bind (ag σ 1 752 3) fun x13_ =>
  if o8_ < x13_ then
  lt (fun (found44_ : Int32) (o45_ : Int32) =>
  lt (o45_ + 1) fun o47_ =>
  rec4_ found44_ o47_) fun k10_ =>
  Option.bind (if o8_ = p_a then (some true) else (Option.bind (q12_of σ o8_ 4) fun x22_ =>
  if x22_ = 1 then (some true) else (some false))) fun t19_ =>
  if t19_ = true then (k10_ found7_ o8_) else
  Option.bind (Option.bind (if found7_ = (-1) then (some true) else (Option.bind (q12_liking σ p_a o8_) fun x34_ =>
  Option.bind (q12_of σ o8_ 0) fun x36_ =>
  Option.bind (q12_liking σ p_a found7_) fun x38_ =>
  Option.bind (q12_of σ found7_ 0) fun x40_ =>
  if (x38_ + x40_) < (x34_ + x36_) then (some true) else (some false))) fun t31_ =>
  if t31_ = true then (some (o8_)) else (some (found7_))) fun y26_ =>
  k10_ y26_ o8_
  else (some (found7_, o8_))) fuelN (-1 : Int32) (0 : Int32)) fun y1_ =>
  some y1_.1
abbrev rm12_passesTo : Room := { frames := 1, cells := 0, slots := 0, locals := 22 }
set_option maxHeartbeats 4000000 in
set_option maxRecDepth 100000 in
theorem p12_passesTo {Θ : Tz} {σ : St} {ρ : Option Value × St} (C : Zc Θ cX12_passesTo 4 RX12 (some .int) rm12_passesTo) (hkd : Θ.2.2.2.2.1 = kdM) {p_a : Int32} {r : Int32} (hf : q12_passesTo σ p_a = some r) (hρ : ρ = (some (.int r), σ)) : Z Θ 4 0 0 (zQ Θ ρ) σ 0 [(0, .ref (zA Θ 0)), (1, .int p_a)] [] := by
  unfold q12_passesTo at hf
  refine z_iconst (v := (-1)) C dX12_passesTo_0 ic_m1 ?_
  refine z_istN C dX12_passesTo_1 rfl rfl (Nat.le_of_ble_eq_true rfl) rfl ?_
  refine z_iconst (v := 0) C dX12_passesTo_2 ic_0 ?_
  refine z_istN C dX12_passesTo_3 rfl rfl (Nat.le_of_ble_eq_true rfl) rfl ?_
  refine Z.sub [2, 3, 1, 0] rfl ?_
  obtain ⟨y1_, h2_, hf⟩ := ob hf
  suffices K3_ : Z Θ 4 0 0 (zQ Θ ρ) σ 74 [(0, .ref (zA Θ 0)), (1, .int p_a), (2, .int y1_.1), (3, .int y1_.2)] [] by
    refine loop2_Z (P := fun (found7_ : Int32) (o8_ : Int32) => Z Θ 4 0 0 (zQ Θ ρ) σ 4 [(0, .ref (zA Θ 0)), (1, .int p_a), (2, .int found7_), (3, .int o8_)] []) ?_ fuelN (-1 : Int32) (0 : Int32) h2_
    clear h2_
    intro rec4_ found7_ o8_ h5_ h6_
    refine z_iload_n C 3 dX12_passesTo_4 rfl rfl ?_
    refine z_aload_n C 0 dX12_passesTo_5 rfl rfl ?_
    refine fg12_7 C hkd dX12_passesTo_6 ?_
    refine z_iconst (v := 3) C dX12_passesTo_9 ic_3 ?_
    obtain ⟨x13_, h14_, h6_⟩ := ob h6_
    refine z_ag C h14_ (kM_1 hkd) dX12_passesTo_10 ?_
    have K11_ : o8_ < x13_ → Z Θ 4 0 0 (zQ Θ ρ) σ 14 [(0, .ref (zA Θ 0)), (1, .int p_a), (2, .int found7_), (3, .int o8_)] [] := by
      intro h16_
      rw [if_pos h16_] at h6_
      obtain ⟨k10_, h46_, h6_⟩ := lt_ h6_
      have K9_ : ∀ (found44_ : Int32) (o45_ : Int32), k10_ found44_ o45_ = some y1_ → Z Θ 4 0 0 (zQ Θ ρ) σ 68 [(0, .ref (zA Θ 0)), (1, .int p_a), (2, .int found44_), (3, .int o45_)] [] := by
        intro found44_ o45_ h6_
        subst h46_
        dsimp only at h6_
        obtain ⟨o47_, h48_, h6_⟩ := lt_ h6_
        refine z_inc C 3 dX12_passesTo_68 rfl ic_1 h48_ (Nat.le_of_ble_eq_true rfl) rfl ?_
        refine z_goto C 4 dX12_passesTo_71 (by decide) ?_
        refine Z.sub [1, 2, 3, 0] rfl ?_
        exact h5_ _ _ h6_
      obtain ⟨t19_, h20_, h6_⟩ := ob h6_
      have K17_j : t19_ = true → Z Θ 4 0 0 (zQ Θ ρ) σ 68 [(0, .ref (zA Θ 0)), (1, .int p_a), (2, .int found7_), (3, .int o8_)] [] := by
        intro h25_
        rw [if_pos h25_] at h6_
        exact K9_ _ _ h6_
      have K17_ : t19_ = true → Z Θ 4 0 0 (zQ Θ ρ) σ 29 [(0, .ref (zA Θ 0)), (1, .int p_a), (2, .int found7_), (3, .int o8_)] [] := by
        intro h25_
        refine z_goto C 68 dX12_passesTo_29 (by decide) ?_
        exact K17_j h25_
      suffices K18_ : ¬ (t19_ = true) → Z Θ 4 0 0 (zQ Θ ρ) σ 32 [(0, .ref (zA Θ 0)), (1, .int p_a), (2, .int found7_), (3, .int o8_)] [] by
        refine z_iload_n C 3 dX12_passesTo_14 rfl rfl ?_
        refine z_iload_n C 1 dX12_passesTo_15 rfl rfl ?_
        refine c_eq_t C 68 dX12_passesTo_16 (by decide) (fun h21_ => ?_) (fun h21_ => ?_)
        · rw [if_pos h21_] at h20_
          cases h20_
          exact K17_j rfl
        · rw [if_neg h21_] at h20_
          refine z_aload_n C 0 dX12_passesTo_19 rfl rfl ?_
          refine z_iload_n C 3 dX12_passesTo_20 rfl rfl ?_
          refine z_iconst (v := 4) C dX12_passesTo_21 ic_4 ?_
          obtain ⟨x22_, h23_, h20_⟩ := ob h20_
          refine cr12_72 (p_a := o8_) (what_a := 4) C hkd  h23_ ⟨(Nat.le_of_ble_eq_true rfl), (Nat.le_of_ble_eq_true rfl)⟩ (Nat.le_of_ble_eq_true rfl) ⟨Nat.zero_le _, Nat.zero_le _⟩ dX12_passesTo_22 ?_
          refine z_iconst (v := 1) C dX12_passesTo_25 ic_1 ?_
          refine c_eq_f C 32 dX12_passesTo_26 (by decide) (fun h24_ => ?_) (fun h24_ => ?_)
          · rw [if_pos h24_] at h20_
            cases h20_
            exact K17_ rfl
          · rw [if_neg h24_] at h20_
            cases h20_
            exact K18_ Bool.false_ne_true
      intro h25_
      rw [if_neg h25_] at h6_
      obtain ⟨y26_, h27_, h6_⟩ := ob h6_
      suffices K28_ : Z Θ 4 0 0 (zQ Θ ρ) σ 68 [(0, .ref (zA Θ 0)), (1, .int p_a), (2, .int y26_), (3, .int o8_)] [] by
        obtain ⟨t31_, h32_, h27_⟩ := ob h27_
        have K29_ : t31_ = true → Z Θ 4 0 0 (zQ Θ ρ) σ 66 [(0, .ref (zA Θ 0)), (1, .int p_a), (2, .int found7_), (3, .int o8_)] [] := by
          intro h43_
          rw [if_pos h43_] at h27_
          refine z_iload_n C 3 dX12_passesTo_66 rfl rfl ?_
          refine z_istN C dX12_passesTo_67 rfl rfl (Nat.le_of_ble_eq_true rfl) rfl ?_
          cases h27_
          refine Z.sub [1, 2, 0, 3] rfl ?_
          exact K28_
        have K30_ : ¬ (t31_ = true) → Z Θ 4 0 0 (zQ Θ ρ) σ 68 [(0, .ref (zA Θ 0)), (1, .int p_a), (2, .int found7_), (3, .int o8_)] [] := by
          intro h43_
          rw [if_neg h43_] at h27_
          cases h27_
          exact K28_
        refine z_iload_n C 2 dX12_passesTo_32 rfl rfl ?_
        refine z_iconst (v := (-1)) C dX12_passesTo_33 ic_m1 ?_
        refine c_eq_t C 66 dX12_passesTo_34 (by decide) (fun h33_ => ?_) (fun h33_ => ?_)
        · rw [if_pos h33_] at h32_
          cases h32_
          exact K29_ rfl
        · rw [if_neg h33_] at h32_
          refine z_aload_n C 0 dX12_passesTo_37 rfl rfl ?_
          refine z_iload_n C 1 dX12_passesTo_38 rfl rfl ?_
          refine z_iload_n C 3 dX12_passesTo_39 rfl rfl ?_
          obtain ⟨x34_, h35_, h32_⟩ := ob h32_
          refine cr12_260 (p_a := p_a) (o_a := o8_) C hkd  h35_ ⟨(Nat.le_of_ble_eq_true rfl), (Nat.le_of_ble_eq_true rfl)⟩ (Nat.le_of_ble_eq_true rfl) ⟨Nat.zero_le _, Nat.zero_le _⟩ dX12_passesTo_40 ?_
          refine z_aload_n C 0 dX12_passesTo_43 rfl rfl ?_
          refine z_iload_n C 3 dX12_passesTo_44 rfl rfl ?_
          refine z_iconst (v := 0) C dX12_passesTo_45 ic_0 ?_
          obtain ⟨x36_, h37_, h32_⟩ := ob h32_
          refine cr12_72 (p_a := o8_) (what_a := 0) C hkd  h37_ ⟨(Nat.le_of_ble_eq_true rfl), (Nat.le_of_ble_eq_true rfl)⟩ (Nat.le_of_ble_eq_true rfl) ⟨Nat.zero_le _, Nat.zero_le _⟩ dX12_passesTo_46 ?_
          refine z_iadd C dX12_passesTo_49 ?_
          refine z_aload_n C 0 dX12_passesTo_50 rfl rfl ?_
          refine z_iload_n C 1 dX12_passesTo_51 rfl rfl ?_
          refine z_iload_n C 2 dX12_passesTo_52 rfl rfl ?_
          obtain ⟨x38_, h39_, h32_⟩ := ob h32_
          refine cr12_260 (p_a := p_a) (o_a := found7_) C hkd  h39_ ⟨(Nat.le_of_ble_eq_true rfl), (Nat.le_of_ble_eq_true rfl)⟩ (Nat.le_of_ble_eq_true rfl) ⟨Nat.zero_le _, Nat.zero_le _⟩ dX12_passesTo_53 ?_
          refine z_aload_n C 0 dX12_passesTo_56 rfl rfl ?_
          refine z_iload_n C 2 dX12_passesTo_57 rfl rfl ?_
          refine z_iconst (v := 0) C dX12_passesTo_58 ic_0 ?_
          obtain ⟨x40_, h41_, h32_⟩ := ob h32_
          refine cr12_72 (p_a := found7_) (what_a := 0) C hkd  h41_ ⟨(Nat.le_of_ble_eq_true rfl), (Nat.le_of_ble_eq_true rfl)⟩ (Nat.le_of_ble_eq_true rfl) ⟨Nat.zero_le _, Nat.zero_le _⟩ dX12_passesTo_59 ?_
          refine z_iadd C dX12_passesTo_62 ?_
          refine c_gt_f C 68 dX12_passesTo_63 (by decide) (fun h42_ => ?_) (fun h42_ => ?_)
          · rw [if_pos h42_] at h32_
            cases h32_
            exact K29_ rfl
          · rw [if_neg h42_] at h32_
            cases h32_
            exact K30_ Bool.false_ne_true
      exact K9_ _ _ h6_
    have K12_ : ¬ (o8_ < x13_) → Z Θ 4 0 0 (zQ Θ ρ) σ 74 [(0, .ref (zA Θ 0)), (1, .int p_a), (2, .int found7_), (3, .int o8_)] [] := by
      intro h16_
      rw [if_neg h16_] at h6_
      cases h6_
      exact K3_
    refine c_lt_f C 74 dX12_passesTo_11 (by decide) (fun h15_ => ?_) (fun h15_ => ?_)
    · exact K11_ h15_
    · exact K12_ h15_
  refine z_iload_n C 2 dX12_passesTo_74 rfl rfl ?_
  cases hf
  subst hρ
  exact z_iret C dX12_passesTo_75
theorem c12_passesTo {l : Launch} {kd : List KD} {w : Wp} {σ : St} {p_a : Int32} (hkd : kd = kdM) (hi : zI kd w) {r : Int32} (hf : q12_passesTo σ p_a = some r) : zM l kd w yX12_passesTo cX12_passesTo 4 (some .int) rm12_passesTo [.ref (w.2.2.1 0), .int p_a] σ (some (.int r), σ) := zM_of rfl hi (Nat.le_of_ble_eq_true rfl) (fun Θ hl hw C => by
  obtain ⟨Θ1, Θ2, Θ3, Θ4, Θ5⟩ := Θ
  cases hw
  exact p12_passesTo C hkd  hf rfl)
/-! LastLoafModel.isWooed -/
theorem w_9_77 : Cond.code ({ cls := "LastLoafModel", name := "voteOf", desc := "(I)I" } : MethodName) prog_14_method_66_code (2 : Nat) (Option.some ClassFile.FieldType.int) ∈ TB := tb_in (lwt_9 (List.mem_of_getElem? (i := 77) (by decide +kernel))) rfl
theorem w_9_74 : Cond.methodLink "LastLoafModel" (350 : Nat) ({ cls := "LastLoafModel", name := "voteOf", desc := "(I)I" } : MethodName) ∈ TB := tb_in (lwt_9 (List.mem_of_getElem? (i := 74) (by decide +kernel))) rfl
theorem w_9_76 : Cond.instanceMethod ({ cls := "LastLoafModel", name := "voteOf", desc := "(I)I" } : MethodName) ∈ TB := tb_in (lwt_9 (List.mem_of_getElem? (i := 76) (by decide +kernel))) rfl
theorem ws_LastLoafModel_voteOf_I_I : Cond.selects "LastLoafModel" (⟨"LastLoafModel", "voteOf", "(I)I"⟩ : MethodName) (⟨"LastLoafModel", "voteOf", "(I)I"⟩ : MethodName) ∈ TB := tb_in (List.mem_append_left _ (List.mem_of_getElem? (i := 48) (by decide +kernel))) rfl
theorem cr12_350 {Θ : Tz} {cc : ByteArray} {nL kc ks : Nat} {ret : Option FieldType} {rm : Room} {Q : State → Prop} {σ : St} {pc : Nat} {lv : List (Nat × Value)} {st : List Value} (C : Zc Θ cc nL RX12 ret rm) (hkd : Θ.2.2.2.2.1 = kdM) {p_a : Int32} {r : Int32} (hx : q12_voteOf σ p_a = some r) (hrm : rm12_voteOf.frames + 1 ≤ rm.frames ∧ 8 + (2 + 11) + rm12_voteOf.locals ≤ rm.locals) (hcat : (st.map fun v => v.category).sum ≤ 8) (hk : kc ≤ rm.cells ∧ ks ≤ rm.slots) (hd : decode cc pc = .ok (.invokevirtual 350, 3)) (kk : Z Θ nL kc ks Q σ (pc + 3) lv (.int r :: st)) : Z Θ nL kc ks Q σ pc lv (.int p_a :: .ref (zA Θ 0) :: st) := z_callV C 0 [.int p_a] (some (.int r), σ) 1 (kM_0 hkd) rfl (c12_voteOf (p_a := p_a) hkd (zc_inj C) hx) w_9_77 w_9_74 w_9_76 ws_LastLoafModel_voteOf_I_I w_1_14 ⟨rfl, rfl, hrm.1, hrm.2⟩ (by decide +kernel) rfl rfl hcat hk hd kk
theorem dX12_isWooed_0 : decode cX12_isWooed 0 = .ok (.aload_n 0, 1) := by decide +kernel
theorem dX12_isWooed_1 : decode cX12_isWooed 1 = .ok (.iload_n 1, 1) := by decide +kernel
theorem dX12_isWooed_2 : decode cX12_isWooed 2 = .ok (.iconst 0, 1) := by decide +kernel
theorem dX12_isWooed_3 : decode cX12_isWooed 3 = .ok (.aload_n 0, 1) := by decide +kernel
theorem dX12_isWooed_4 : decode cX12_isWooed 4 = .ok (.getfield 269, 3) := by decide +kernel
theorem dX12_isWooed_7 : decode cX12_isWooed 7 = .ok (.invokevirtual 292, 3) := by decide +kernel
theorem dX12_isWooed_10 : decode cX12_isWooed 10 = .ok (.istore_n 3, 1) := by decide +kernel
theorem dX12_isWooed_11 : decode cX12_isWooed 11 = .ok (.iconst 0, 1) := by decide +kernel
theorem dX12_isWooed_12 : decode cX12_isWooed 12 = .ok (.istore 4, 2) := by decide +kernel
theorem dX12_isWooed_14 : decode cX12_isWooed 14 = .ok (.iload 4, 2) := by decide +kernel
theorem dX12_isWooed_16 : decode cX12_isWooed 16 = .ok (.aload_n 0, 1) := by decide +kernel
theorem dX12_isWooed_17 : decode cX12_isWooed 17 = .ok (.getfield 7, 3) := by decide +kernel
theorem dX12_isWooed_20 : decode cX12_isWooed 20 = .ok (.iconst 3, 1) := by decide +kernel
theorem dX12_isWooed_21 : decode cX12_isWooed 21 = .ok (.iaload, 1) := by decide +kernel
theorem dX12_isWooed_22 : decode cX12_isWooed 22 = .ok (.if_icmp .ge 36, 3) := by decide +kernel
theorem dX12_isWooed_25 : decode cX12_isWooed 25 = .ok (.iload_n 3, 1) := by decide +kernel
theorem dX12_isWooed_26 : decode cX12_isWooed 26 = .ok (.iload_n 2, 1) := by decide +kernel
theorem dX12_isWooed_27 : decode cX12_isWooed 27 = .ok (.iload 4, 2) := by decide +kernel
theorem dX12_isWooed_29 : decode cX12_isWooed 29 = .ok (.invokestatic 275, 3) := by decide +kernel
theorem dX12_isWooed_32 : decode cX12_isWooed 32 = .ok (.ifCond .eq 17, 3) := by decide +kernel
theorem dX12_isWooed_35 : decode cX12_isWooed 35 = .ok (.aload_n 0, 1) := by decide +kernel
theorem dX12_isWooed_36 : decode cX12_isWooed 36 = .ok (.iload 4, 2) := by decide +kernel
theorem dX12_isWooed_38 : decode cX12_isWooed 38 = .ok (.invokevirtual 350, 3) := by decide +kernel
theorem dX12_isWooed_41 : decode cX12_isWooed 41 = .ok (.iload_n 1, 1) := by decide +kernel
theorem dX12_isWooed_42 : decode cX12_isWooed 42 = .ok (.if_icmp .eq 7, 3) := by decide +kernel
theorem dX12_isWooed_45 : decode cX12_isWooed 45 = .ok (.iconst 1, 1) := by decide +kernel
theorem dX12_isWooed_46 : decode cX12_isWooed 46 = .ok (.goto 4, 3) := by decide +kernel
theorem dX12_isWooed_49 : decode cX12_isWooed 49 = .ok (.iconst 0, 1) := by decide +kernel
theorem dX12_isWooed_50 : decode cX12_isWooed 50 = .ok (.iadd, 1) := by decide +kernel
theorem dX12_isWooed_51 : decode cX12_isWooed 51 = .ok (.istore_n 3, 1) := by decide +kernel
theorem dX12_isWooed_52 : decode cX12_isWooed 52 = .ok (.iinc 4 1, 3) := by decide +kernel
theorem dX12_isWooed_55 : decode cX12_isWooed 55 = .ok (.goto (-41), 3) := by decide +kernel
theorem dX12_isWooed_58 : decode cX12_isWooed 58 = .ok (.iconst 1, 1) := by decide +kernel
theorem dX12_isWooed_59 : decode cX12_isWooed 59 = .ok (.istore 4, 2) := by decide +kernel
theorem dX12_isWooed_61 : decode cX12_isWooed 61 = .ok (.iconst 0, 1) := by decide +kernel
theorem dX12_isWooed_62 : decode cX12_isWooed 62 = .ok (.istore 5, 2) := by decide +kernel
theorem dX12_isWooed_64 : decode cX12_isWooed 64 = .ok (.iload 5, 2) := by decide +kernel
theorem dX12_isWooed_66 : decode cX12_isWooed 66 = .ok (.aload_n 0, 1) := by decide +kernel
theorem dX12_isWooed_67 : decode cX12_isWooed 67 = .ok (.getfield 7, 3) := by decide +kernel
theorem dX12_isWooed_70 : decode cX12_isWooed 70 = .ok (.iconst 3, 1) := by decide +kernel
theorem dX12_isWooed_71 : decode cX12_isWooed 71 = .ok (.iaload, 1) := by decide +kernel
theorem dX12_isWooed_72 : decode cX12_isWooed 72 = .ok (.if_icmp .ge 123, 3) := by decide +kernel
theorem dX12_isWooed_75 : decode cX12_isWooed 75 = .ok (.iload 4, 2) := by decide +kernel
theorem dX12_isWooed_77 : decode cX12_isWooed 77 = .ok (.ifCond .eq 118, 3) := by decide +kernel
theorem dX12_isWooed_80 : decode cX12_isWooed 80 = .ok (.iload 5, 2) := by decide +kernel
theorem dX12_isWooed_82 : decode cX12_isWooed 82 = .ok (.iload_n 1, 1) := by decide +kernel
theorem dX12_isWooed_83 : decode cX12_isWooed 83 = .ok (.if_icmp .eq 106, 3) := by decide +kernel
theorem dX12_isWooed_86 : decode cX12_isWooed 86 = .ok (.aload_n 0, 1) := by decide +kernel
theorem dX12_isWooed_87 : decode cX12_isWooed 87 = .ok (.getfield 269, 3) := by decide +kernel
theorem dX12_isWooed_90 : decode cX12_isWooed 90 = .ok (.iload 5, 2) := by decide +kernel
theorem dX12_isWooed_92 : decode cX12_isWooed 92 = .ok (.invokestatic 275, 3) := by decide +kernel
theorem dX12_isWooed_95 : decode cX12_isWooed 95 = .ok (.ifCond .ne 6, 3) := by decide +kernel
theorem dX12_isWooed_98 : decode cX12_isWooed 98 = .ok (.goto 91, 3) := by decide +kernel
theorem dX12_isWooed_101 : decode cX12_isWooed 101 = .ok (.aload_n 0, 1) := by decide +kernel
theorem dX12_isWooed_102 : decode cX12_isWooed 102 = .ok (.iload 5, 2) := by decide +kernel
theorem dX12_isWooed_104 : decode cX12_isWooed 104 = .ok (.iconst 0, 1) := by decide +kernel
theorem dX12_isWooed_105 : decode cX12_isWooed 105 = .ok (.aload_n 0, 1) := by decide +kernel
theorem dX12_isWooed_106 : decode cX12_isWooed 106 = .ok (.getfield 269, 3) := by decide +kernel
theorem dX12_isWooed_109 : decode cX12_isWooed 109 = .ok (.invokevirtual 292, 3) := by decide +kernel
theorem dX12_isWooed_112 : decode cX12_isWooed 112 = .ok (.istore 6, 2) := by decide +kernel
theorem dX12_isWooed_114 : decode cX12_isWooed 114 = .ok (.iconst 0, 1) := by decide +kernel
theorem dX12_isWooed_115 : decode cX12_isWooed 115 = .ok (.istore 7, 2) := by decide +kernel
theorem dX12_isWooed_117 : decode cX12_isWooed 117 = .ok (.iload 7, 2) := by decide +kernel
theorem dX12_isWooed_119 : decode cX12_isWooed 119 = .ok (.aload_n 0, 1) := by decide +kernel
theorem dX12_isWooed_120 : decode cX12_isWooed 120 = .ok (.getfield 7, 3) := by decide +kernel
theorem dX12_isWooed_123 : decode cX12_isWooed 123 = .ok (.iconst 3, 1) := by decide +kernel
theorem dX12_isWooed_124 : decode cX12_isWooed 124 = .ok (.iaload, 1) := by decide +kernel
theorem dX12_isWooed_125 : decode cX12_isWooed 125 = .ok (.if_icmp .ge 39, 3) := by decide +kernel
theorem dX12_isWooed_128 : decode cX12_isWooed 128 = .ok (.iload 6, 2) := by decide +kernel
theorem dX12_isWooed_130 : decode cX12_isWooed 130 = .ok (.iload_n 2, 1) := by decide +kernel
theorem dX12_isWooed_131 : decode cX12_isWooed 131 = .ok (.iload 7, 2) := by decide +kernel
theorem dX12_isWooed_133 : decode cX12_isWooed 133 = .ok (.invokestatic 275, 3) := by decide +kernel
theorem dX12_isWooed_136 : decode cX12_isWooed 136 = .ok (.ifCond .eq 18, 3) := by decide +kernel
theorem dX12_isWooed_139 : decode cX12_isWooed 139 = .ok (.aload_n 0, 1) := by decide +kernel
theorem dX12_isWooed_140 : decode cX12_isWooed 140 = .ok (.iload 7, 2) := by decide +kernel
theorem dX12_isWooed_142 : decode cX12_isWooed 142 = .ok (.invokevirtual 350, 3) := by decide +kernel
theorem dX12_isWooed_145 : decode cX12_isWooed 145 = .ok (.iload 5, 2) := by decide +kernel
theorem dX12_isWooed_147 : decode cX12_isWooed 147 = .ok (.if_icmp .ne 7, 3) := by decide +kernel
theorem dX12_isWooed_150 : decode cX12_isWooed 150 = .ok (.iconst 1, 1) := by decide +kernel
theorem dX12_isWooed_151 : decode cX12_isWooed 151 = .ok (.goto 4, 3) := by decide +kernel
theorem dX12_isWooed_154 : decode cX12_isWooed 154 = .ok (.iconst 0, 1) := by decide +kernel
theorem dX12_isWooed_155 : decode cX12_isWooed 155 = .ok (.isub, 1) := by decide +kernel
theorem dX12_isWooed_156 : decode cX12_isWooed 156 = .ok (.istore 6, 2) := by decide +kernel
theorem dX12_isWooed_158 : decode cX12_isWooed 158 = .ok (.iinc 7 1, 3) := by decide +kernel
theorem dX12_isWooed_161 : decode cX12_isWooed 161 = .ok (.goto (-44), 3) := by decide +kernel
theorem dX12_isWooed_164 : decode cX12_isWooed 164 = .ok (.iload_n 3, 1) := by decide +kernel
theorem dX12_isWooed_165 : decode cX12_isWooed 165 = .ok (.iload 6, 2) := by decide +kernel
theorem dX12_isWooed_167 : decode cX12_isWooed 167 = .ok (.if_icmp .gt 15, 3) := by decide +kernel
theorem dX12_isWooed_170 : decode cX12_isWooed 170 = .ok (.iload_n 3, 1) := by decide +kernel
theorem dX12_isWooed_171 : decode cX12_isWooed 171 = .ok (.iload 6, 2) := by decide +kernel
theorem dX12_isWooed_173 : decode cX12_isWooed 173 = .ok (.if_icmp .ne 13, 3) := by decide +kernel
theorem dX12_isWooed_176 : decode cX12_isWooed 176 = .ok (.iload_n 1, 1) := by decide +kernel
theorem dX12_isWooed_177 : decode cX12_isWooed 177 = .ok (.iload 5, 2) := by decide +kernel
theorem dX12_isWooed_179 : decode cX12_isWooed 179 = .ok (.if_icmp .ge 7, 3) := by decide +kernel
theorem dX12_isWooed_182 : decode cX12_isWooed 182 = .ok (.iconst 1, 1) := by decide +kernel
theorem dX12_isWooed_183 : decode cX12_isWooed 183 = .ok (.goto 4, 3) := by decide +kernel
theorem dX12_isWooed_186 : decode cX12_isWooed 186 = .ok (.iconst 0, 1) := by decide +kernel
theorem dX12_isWooed_187 : decode cX12_isWooed 187 = .ok (.istore 4, 2) := by decide +kernel
theorem dX12_isWooed_189 : decode cX12_isWooed 189 = .ok (.iinc 5 1, 3) := by decide +kernel
theorem dX12_isWooed_192 : decode cX12_isWooed 192 = .ok (.goto (-128), 3) := by decide +kernel
theorem dX12_isWooed_195 : decode cX12_isWooed 195 = .ok (.iload 4, 2) := by decide +kernel
theorem dX12_isWooed_197 : decode cX12_isWooed 197 = .ok (.ireturn, 1) := by decide +kernel
def q12_isWooed (σ : St) (one_a : Int32) (set_a : Int32) : Option Bool :=
  Option.bind (q12_votesAt σ one_a 0 (σ 0 21)) fun x1_ =>
  Option.bind (loop2 (fun rec6_ (mine9_ : Int32) (p10_ : Int32) =>
  Option.bind (ag σ 1 752 3) fun x15_ =>
  if p10_ < x15_ then
  Option.bind (Option.bind (if q12_isOf set_a p10_ = true then (Option.bind (q12_voteOf σ p10_) fun x27_ =>
  if ¬ x27_ = one_a then (some true) else (some false)) else (some false)) fun t24_ =>
  if t24_ = true then (some (1 : Int32)) else (some (0 : Int32))) fun x19_ =>
  lt (mine9_ + x19_) fun mine31_ =>
  lt (p10_ + 1) fun p33_ =>
  rec6_ mine31_ p33_
  else (some (mine9_, p10_))) fuelN x1_ (0 : Int32)) fun y3_ =>
  Option.bind (loop2 (fun rec38_ (is41_ : Bool) (o42_ : Int32) =>
  Option.bind (ag σ 1 752 3) fun x47_ =>
  if (o42_ < x47_) ∧ (is41_ = true) then
  lt (fun (is100_ : Bool) (o101_ : Int32) =>
  lt (o101_ + 1) fun o103_ =>
  rec38_ is100_ o103_) fun k44_ =>
  if (o42_ = one_a) ∨ (¬ (q12_isOf (σ 0 21) o42_ = true)) then (k44_ is41_ o42_) else
  Option.bind (q12_votesAt σ o42_ 0 (σ 0 21)) fun x57_ =>
  Option.bind (loop2 (fun rec62_ (its65_ : Int32) (p66_ : Int32) =>
  Option.bind (ag σ 1 752 3) fun x71_ =>
  if p66_ < x71_ then
  Option.bind (Option.bind (if q12_isOf set_a p66_ = true then (Option.bind (q12_voteOf σ p66_) fun x83_ =>
  if x83_ = o42_ then (some true) else (some false)) else (some false)) fun t80_ =>
  if t80_ = true then (some (1 : Int32)) else (some (0 : Int32))) fun x75_ =>
  lt (its65_ - x75_) fun its87_ =>
  lt (p66_ + 1) fun p89_ =>
  rec62_ its87_ p89_
  else (some (its65_, p66_))) fuelN x57_ (0 : Int32)) fun y59_ =>
  lt (decide ((y59_.1 < y3_.1) ∨ ((y3_.1 = y59_.1) ∧ (one_a < o42_)))) fun is98_ =>
  k44_ is98_ o42_
  else (some (is41_, o42_))) fuelN true (0 : Int32)) fun y35_ =>
  some y35_.1
abbrev rm12_isWooed : Room := { frames := 4, cells := 0, slots := 0, locals := 95 }
set_option maxHeartbeats 4000000 in
set_option maxRecDepth 100000 in
theorem p12_isWooed {Θ : Tz} {σ : St} {ρ : Option Value × St} (C : Zc Θ cX12_isWooed 8 RX12 (some .boolean) rm12_isWooed) (hkd : Θ.2.2.2.2.1 = kdM) {one_a : Int32} {set_a : Int32} {r : Bool} (hf : q12_isWooed σ one_a set_a = some r) (hρ : ρ = (some (.int (b2i r)), σ)) : Z Θ 8 0 0 (zQ Θ ρ) σ 0 [(0, .ref (zA Θ 0)), (1, .int one_a), (2, .int set_a)] [] := by
  unfold q12_isWooed at hf
  refine z_aload_n C 0 dX12_isWooed_0 rfl rfl ?_
  refine z_iload_n C 1 dX12_isWooed_1 rfl rfl ?_
  refine z_iconst (v := 0) C dX12_isWooed_2 ic_0 ?_
  refine z_aload_n C 0 dX12_isWooed_3 rfl rfl ?_
  refine fg12_269 C hkd dX12_isWooed_4 ?_
  obtain ⟨x1_, h2_, hf⟩ := ob hf
  refine cr12_292 (o_a := one_a) (k_a := 0) (set_a := (σ 0 21)) C hkd  h2_ ⟨(Nat.le_of_ble_eq_true rfl), (Nat.le_of_ble_eq_true rfl)⟩ (Nat.le_of_ble_eq_true rfl) ⟨Nat.zero_le _, Nat.zero_le _⟩ dX12_isWooed_7 ?_
  refine z_istN C dX12_isWooed_10 rfl rfl (Nat.le_of_ble_eq_true rfl) rfl ?_
  refine z_iconst (v := 0) C dX12_isWooed_11 ic_0 ?_
  refine z_ist C dX12_isWooed_12 rfl (Nat.le_of_ble_eq_true rfl) rfl ?_
  refine Z.sub [2, 3, 4, 1, 0] rfl ?_
  obtain ⟨y3_, h4_, hf⟩ := ob hf
  suffices K5_ : Z Θ 8 0 0 (zQ Θ ρ) σ 58 [(0, .ref (zA Θ 0)), (1, .int one_a), (2, .int set_a), (3, .int y3_.1), (4, .int y3_.2)] [] by
    refine loop2_Z (P := fun (mine9_ : Int32) (p10_ : Int32) => Z Θ 8 0 0 (zQ Θ ρ) σ 14 [(0, .ref (zA Θ 0)), (1, .int one_a), (2, .int set_a), (3, .int mine9_), (4, .int p10_)] []) ?_ fuelN x1_ (0 : Int32) h4_
    clear h4_
    intro rec6_ mine9_ p10_ h7_ h8_
    refine z_iload C 4 dX12_isWooed_14 rfl ?_
    refine z_aload_n C 0 dX12_isWooed_16 rfl rfl ?_
    refine fg12_7 C hkd dX12_isWooed_17 ?_
    refine z_iconst (v := 3) C dX12_isWooed_20 ic_3 ?_
    obtain ⟨x15_, h16_, h8_⟩ := ob h8_
    refine z_ag C h16_ (kM_1 hkd) dX12_isWooed_21 ?_
    have K13_ : p10_ < x15_ → Z Θ 8 0 0 (zQ Θ ρ) σ 25 [(0, .ref (zA Θ 0)), (1, .int one_a), (2, .int set_a), (3, .int mine9_), (4, .int p10_)] [] := by
      intro h18_
      rw [if_pos h18_] at h8_
      refine z_iload_n C 3 dX12_isWooed_25 rfl rfl ?_
      obtain ⟨x19_, h20_, h8_⟩ := ob h8_
      suffices K21_ : Z Θ 8 0 0 (zQ Θ ρ) σ 50 [(0, .ref (zA Θ 0)), (1, .int one_a), (2, .int set_a), (3, .int mine9_), (4, .int p10_)] [.int x19_, .int mine9_] by
        obtain ⟨t24_, h25_, h20_⟩ := ob h20_
        have K22_ : t24_ = true → Z Θ 8 0 0 (zQ Θ ρ) σ 45 [(0, .ref (zA Θ 0)), (1, .int one_a), (2, .int set_a), (3, .int mine9_), (4, .int p10_)] [.int mine9_] := by
          intro h30_
          rw [if_pos h30_] at h20_
          refine z_iconst (v := 1) C dX12_isWooed_45 ic_1 ?_
          refine z_goto C 50 dX12_isWooed_46 (by decide) ?_
          cases h20_
          exact K21_
        have K23_ : ¬ (t24_ = true) → Z Θ 8 0 0 (zQ Θ ρ) σ 49 [(0, .ref (zA Θ 0)), (1, .int one_a), (2, .int set_a), (3, .int mine9_), (4, .int p10_)] [.int mine9_] := by
          intro h30_
          rw [if_neg h30_] at h20_
          refine z_iconst (v := 0) C dX12_isWooed_49 ic_0 ?_
          cases h20_
          exact K21_
        refine z_iload_n C 2 dX12_isWooed_26 rfl rfl ?_
        refine z_iload C 4 dX12_isWooed_27 rfl ?_
        refine cr12_275 (set_a := set_a) (k_a := p10_) C hkd  ⟨(Nat.le_of_ble_eq_true rfl), (Nat.le_of_ble_eq_true rfl)⟩ (Nat.le_of_ble_eq_true rfl) ⟨Nat.zero_le _, Nat.zero_le _⟩ dX12_isWooed_29 ?_
        refine cb_f C 49 dX12_isWooed_32 (by decide) (fun h26_ => ?_) (fun h26_ => ?_)
        · rw [if_pos h26_] at h25_
          refine z_aload_n C 0 dX12_isWooed_35 rfl rfl ?_
          refine z_iload C 4 dX12_isWooed_36 rfl ?_
          obtain ⟨x27_, h28_, h25_⟩ := ob h25_
          refine cr12_350 (p_a := p10_) C hkd  h28_ ⟨(Nat.le_of_ble_eq_true rfl), (Nat.le_of_ble_eq_true rfl)⟩ (Nat.le_of_ble_eq_true rfl) ⟨Nat.zero_le _, Nat.zero_le _⟩ dX12_isWooed_38 ?_
          refine z_iload_n C 1 dX12_isWooed_41 rfl rfl ?_
          refine c_ne_f C 49 dX12_isWooed_42 (by decide) (fun h29_ => ?_) (fun h29_ => ?_)
          · rw [if_pos h29_] at h25_
            cases h25_
            exact K22_ rfl
          · rw [if_neg h29_] at h25_
            cases h25_
            exact K23_ Bool.false_ne_true
        · rw [if_neg h26_] at h25_
          cases h25_
          exact K23_ Bool.false_ne_true
      refine z_iadd C dX12_isWooed_50 ?_
      obtain ⟨mine31_, h32_, h8_⟩ := lt_ h8_
      refine z_istN C dX12_isWooed_51 h32_ rfl (Nat.le_of_ble_eq_true rfl) rfl ?_
      obtain ⟨p33_, h34_, h8_⟩ := lt_ h8_
      refine z_inc C 4 dX12_isWooed_52 rfl ic_1 h34_ (Nat.le_of_ble_eq_true rfl) rfl ?_
      refine z_goto C 14 dX12_isWooed_55 (by decide) ?_
      refine Z.sub [2, 3, 4, 1, 0] rfl ?_
      exact h7_ _ _ h8_
    have K14_ : ¬ (p10_ < x15_) → Z Θ 8 0 0 (zQ Θ ρ) σ 58 [(0, .ref (zA Θ 0)), (1, .int one_a), (2, .int set_a), (3, .int mine9_), (4, .int p10_)] [] := by
      intro h18_
      rw [if_neg h18_] at h8_
      cases h8_
      exact K5_
    refine c_lt_f C 58 dX12_isWooed_22 (by decide) (fun h17_ => ?_) (fun h17_ => ?_)
    · exact K13_ h17_
    · exact K14_ h17_
  refine z_iconst (v := 1) C dX12_isWooed_58 ic_1 ?_
  refine z_ist C dX12_isWooed_59 rfl (Nat.le_of_ble_eq_true rfl) rfl ?_
  refine z_iconst (v := 0) C dX12_isWooed_61 ic_0 ?_
  refine z_ist C dX12_isWooed_62 rfl (Nat.le_of_ble_eq_true rfl) rfl ?_
  refine Z.sub [2, 3, 4, 5, 1, 0] rfl ?_
  obtain ⟨y35_, h36_, hf⟩ := ob hf
  suffices K37_ : Z Θ 8 0 0 (zQ Θ ρ) σ 195 [(0, .ref (zA Θ 0)), (1, .int one_a), (2, .int set_a), (3, .int y3_.1), (4, .int (b2i y35_.1)), (5, .int y35_.2)] [] by
    refine loop2_Z (P := fun (is41_ : Bool) (o42_ : Int32) => Z Θ 8 0 0 (zQ Θ ρ) σ 64 [(0, .ref (zA Θ 0)), (1, .int one_a), (2, .int set_a), (3, .int y3_.1), (4, .int (b2i is41_)), (5, .int o42_)] []) ?_ fuelN true (0 : Int32) h36_
    clear h36_
    intro rec38_ is41_ o42_ h39_ h40_
    refine z_iload C 5 dX12_isWooed_64 rfl ?_
    refine z_aload_n C 0 dX12_isWooed_66 rfl rfl ?_
    refine fg12_7 C hkd dX12_isWooed_67 ?_
    refine z_iconst (v := 3) C dX12_isWooed_70 ic_3 ?_
    obtain ⟨x47_, h48_, h40_⟩ := ob h40_
    refine z_ag C h48_ (kM_1 hkd) dX12_isWooed_71 ?_
    have K45_ : (o42_ < x47_) ∧ (is41_ = true) → Z Θ 8 0 0 (zQ Θ ρ) σ 80 [(0, .ref (zA Θ 0)), (1, .int one_a), (2, .int set_a), (3, .int y3_.1), (4, .int (b2i is41_)), (5, .int o42_)] [] := by
      intro h51_
      rw [if_pos h51_] at h40_
      obtain ⟨k44_, h102_, h40_⟩ := lt_ h40_
      have K43_ : ∀ (is100_ : Bool) (o101_ : Int32), k44_ is100_ o101_ = some y35_ → Z Θ 8 0 0 (zQ Θ ρ) σ 189 [(0, .ref (zA Θ 0)), (1, .int one_a), (2, .int set_a), (3, .int y3_.1), (4, .int (b2i is100_)), (5, .int o101_)] [] := by
        intro is100_ o101_ h40_
        subst h102_
        dsimp only at h40_
        obtain ⟨o103_, h104_, h40_⟩ := lt_ h40_
        refine z_inc C 5 dX12_isWooed_189 rfl ic_1 h104_ (Nat.le_of_ble_eq_true rfl) rfl ?_
        refine z_goto C 64 dX12_isWooed_192 (by decide) ?_
        refine Z.sub [1, 2, 3, 4, 5, 0] rfl ?_
        exact h39_ _ _ h40_
      have K52_j : (o42_ = one_a) ∨ (¬ (q12_isOf (σ 0 21) o42_ = true)) → Z Θ 8 0 0 (zQ Θ ρ) σ 189 [(0, .ref (zA Θ 0)), (1, .int one_a), (2, .int set_a), (3, .int y3_.1), (4, .int (b2i is41_)), (5, .int o42_)] [] := by
        intro h56_
        rw [if_pos h56_] at h40_
        exact K43_ _ _ h40_
      have K52_ : (o42_ = one_a) ∨ (¬ (q12_isOf (σ 0 21) o42_ = true)) → Z Θ 8 0 0 (zQ Θ ρ) σ 98 [(0, .ref (zA Θ 0)), (1, .int one_a), (2, .int set_a), (3, .int y3_.1), (4, .int (b2i is41_)), (5, .int o42_)] [] := by
        intro h56_
        refine z_goto C 189 dX12_isWooed_98 (by decide) ?_
        exact K52_j h56_
      suffices K53_ : ¬ ((o42_ = one_a) ∨ (¬ (q12_isOf (σ 0 21) o42_ = true))) → Z Θ 8 0 0 (zQ Θ ρ) σ 101 [(0, .ref (zA Θ 0)), (1, .int one_a), (2, .int set_a), (3, .int y3_.1), (4, .int (b2i is41_)), (5, .int o42_)] [] by
        refine z_iload C 5 dX12_isWooed_80 rfl ?_
        refine z_iload_n C 1 dX12_isWooed_82 rfl rfl ?_
        refine c_eq_t C 189 dX12_isWooed_83 (by decide) (fun h54_ => ?_) (fun h54_ => ?_)
        · exact K52_j (Or.inl h54_)
        · refine z_aload_n C 0 dX12_isWooed_86 rfl rfl ?_
          refine fg12_269 C hkd dX12_isWooed_87 ?_
          refine z_iload C 5 dX12_isWooed_90 rfl ?_
          refine cr12_275 (set_a := (σ 0 21)) (k_a := o42_) C hkd  ⟨(Nat.le_of_ble_eq_true rfl), (Nat.le_of_ble_eq_true rfl)⟩ (Nat.le_of_ble_eq_true rfl) ⟨Nat.zero_le _, Nat.zero_le _⟩ dX12_isWooed_92 ?_
          refine cb_t C 101 dX12_isWooed_95 (by decide) (fun h55_ => ?_) (fun h55_ => ?_)
          · exact K53_ (fun n => n.elim h54_ (fun n => n h55_))
          · exact K52_ (Or.inr h55_)
      intro h56_
      rw [if_neg h56_] at h40_
      refine z_aload_n C 0 dX12_isWooed_101 rfl rfl ?_
      refine z_iload C 5 dX12_isWooed_102 rfl ?_
      refine z_iconst (v := 0) C dX12_isWooed_104 ic_0 ?_
      refine z_aload_n C 0 dX12_isWooed_105 rfl rfl ?_
      refine fg12_269 C hkd dX12_isWooed_106 ?_
      obtain ⟨x57_, h58_, h40_⟩ := ob h40_
      refine cr12_292 (o_a := o42_) (k_a := 0) (set_a := (σ 0 21)) C hkd  h58_ ⟨(Nat.le_of_ble_eq_true rfl), (Nat.le_of_ble_eq_true rfl)⟩ (Nat.le_of_ble_eq_true rfl) ⟨Nat.zero_le _, Nat.zero_le _⟩ dX12_isWooed_109 ?_
      refine z_ist C dX12_isWooed_112 rfl (Nat.le_of_ble_eq_true rfl) rfl ?_
      refine z_iconst (v := 0) C dX12_isWooed_114 ic_0 ?_
      refine z_ist C dX12_isWooed_115 rfl (Nat.le_of_ble_eq_true rfl) rfl ?_
      refine Z.sub [2, 3, 4, 5, 6, 7, 1, 0] rfl ?_
      obtain ⟨y59_, h60_, h40_⟩ := ob h40_
      suffices K61_ : Z Θ 8 0 0 (zQ Θ ρ) σ 164 [(0, .ref (zA Θ 0)), (1, .int one_a), (2, .int set_a), (3, .int y3_.1), (4, .int (b2i is41_)), (5, .int o42_), (6, .int y59_.1), (7, .int y59_.2)] [] by
        refine loop2_Z (P := fun (its65_ : Int32) (p66_ : Int32) => Z Θ 8 0 0 (zQ Θ ρ) σ 117 [(0, .ref (zA Θ 0)), (1, .int one_a), (2, .int set_a), (3, .int y3_.1), (4, .int (b2i is41_)), (5, .int o42_), (6, .int its65_), (7, .int p66_)] []) ?_ fuelN x57_ (0 : Int32) h60_
        clear h60_
        intro rec62_ its65_ p66_ h63_ h64_
        refine z_iload C 7 dX12_isWooed_117 rfl ?_
        refine z_aload_n C 0 dX12_isWooed_119 rfl rfl ?_
        refine fg12_7 C hkd dX12_isWooed_120 ?_
        refine z_iconst (v := 3) C dX12_isWooed_123 ic_3 ?_
        obtain ⟨x71_, h72_, h64_⟩ := ob h64_
        refine z_ag C h72_ (kM_1 hkd) dX12_isWooed_124 ?_
        have K69_ : p66_ < x71_ → Z Θ 8 0 0 (zQ Θ ρ) σ 128 [(0, .ref (zA Θ 0)), (1, .int one_a), (2, .int set_a), (3, .int y3_.1), (4, .int (b2i is41_)), (5, .int o42_), (6, .int its65_), (7, .int p66_)] [] := by
          intro h74_
          rw [if_pos h74_] at h64_
          refine z_iload C 6 dX12_isWooed_128 rfl ?_
          obtain ⟨x75_, h76_, h64_⟩ := ob h64_
          suffices K77_ : Z Θ 8 0 0 (zQ Θ ρ) σ 155 [(0, .ref (zA Θ 0)), (1, .int one_a), (2, .int set_a), (3, .int y3_.1), (4, .int (b2i is41_)), (5, .int o42_), (6, .int its65_), (7, .int p66_)] [.int x75_, .int its65_] by
            obtain ⟨t80_, h81_, h76_⟩ := ob h76_
            have K78_ : t80_ = true → Z Θ 8 0 0 (zQ Θ ρ) σ 150 [(0, .ref (zA Θ 0)), (1, .int one_a), (2, .int set_a), (3, .int y3_.1), (4, .int (b2i is41_)), (5, .int o42_), (6, .int its65_), (7, .int p66_)] [.int its65_] := by
              intro h86_
              rw [if_pos h86_] at h76_
              refine z_iconst (v := 1) C dX12_isWooed_150 ic_1 ?_
              refine z_goto C 155 dX12_isWooed_151 (by decide) ?_
              cases h76_
              exact K77_
            have K79_ : ¬ (t80_ = true) → Z Θ 8 0 0 (zQ Θ ρ) σ 154 [(0, .ref (zA Θ 0)), (1, .int one_a), (2, .int set_a), (3, .int y3_.1), (4, .int (b2i is41_)), (5, .int o42_), (6, .int its65_), (7, .int p66_)] [.int its65_] := by
              intro h86_
              rw [if_neg h86_] at h76_
              refine z_iconst (v := 0) C dX12_isWooed_154 ic_0 ?_
              cases h76_
              exact K77_
            refine z_iload_n C 2 dX12_isWooed_130 rfl rfl ?_
            refine z_iload C 7 dX12_isWooed_131 rfl ?_
            refine cr12_275 (set_a := set_a) (k_a := p66_) C hkd  ⟨(Nat.le_of_ble_eq_true rfl), (Nat.le_of_ble_eq_true rfl)⟩ (Nat.le_of_ble_eq_true rfl) ⟨Nat.zero_le _, Nat.zero_le _⟩ dX12_isWooed_133 ?_
            refine cb_f C 154 dX12_isWooed_136 (by decide) (fun h82_ => ?_) (fun h82_ => ?_)
            · rw [if_pos h82_] at h81_
              refine z_aload_n C 0 dX12_isWooed_139 rfl rfl ?_
              refine z_iload C 7 dX12_isWooed_140 rfl ?_
              obtain ⟨x83_, h84_, h81_⟩ := ob h81_
              refine cr12_350 (p_a := p66_) C hkd  h84_ ⟨(Nat.le_of_ble_eq_true rfl), (Nat.le_of_ble_eq_true rfl)⟩ (Nat.le_of_ble_eq_true rfl) ⟨Nat.zero_le _, Nat.zero_le _⟩ dX12_isWooed_142 ?_
              refine z_iload C 5 dX12_isWooed_145 rfl ?_
              refine c_eq_f C 154 dX12_isWooed_147 (by decide) (fun h85_ => ?_) (fun h85_ => ?_)
              · rw [if_pos h85_] at h81_
                cases h81_
                exact K78_ rfl
              · rw [if_neg h85_] at h81_
                cases h81_
                exact K79_ Bool.false_ne_true
            · rw [if_neg h82_] at h81_
              cases h81_
              exact K79_ Bool.false_ne_true
          refine z_isub C dX12_isWooed_155 ?_
          obtain ⟨its87_, h88_, h64_⟩ := lt_ h64_
          refine z_ist C dX12_isWooed_156 h88_ (Nat.le_of_ble_eq_true rfl) rfl ?_
          obtain ⟨p89_, h90_, h64_⟩ := lt_ h64_
          refine z_inc C 7 dX12_isWooed_158 rfl ic_1 h90_ (Nat.le_of_ble_eq_true rfl) rfl ?_
          refine z_goto C 117 dX12_isWooed_161 (by decide) ?_
          refine Z.sub [2, 3, 4, 5, 6, 7, 1, 0] rfl ?_
          exact h63_ _ _ h64_
        have K70_ : ¬ (p66_ < x71_) → Z Θ 8 0 0 (zQ Θ ρ) σ 164 [(0, .ref (zA Θ 0)), (1, .int one_a), (2, .int set_a), (3, .int y3_.1), (4, .int (b2i is41_)), (5, .int o42_), (6, .int its65_), (7, .int p66_)] [] := by
          intro h74_
          rw [if_neg h74_] at h64_
          cases h64_
          exact K61_
        refine c_lt_f C 164 dX12_isWooed_125 (by decide) (fun h73_ => ?_) (fun h73_ => ?_)
        · exact K69_ h73_
        · exact K70_ h73_
      suffices K91_ : Z Θ 8 0 0 (zQ Θ ρ) σ 187 [(0, .ref (zA Θ 0)), (1, .int one_a), (2, .int set_a), (3, .int y3_.1), (4, .int (b2i is41_)), (5, .int o42_), (6, .int y59_.1), (7, .int y59_.2)] [.int (b2i (decide ((y59_.1 < y3_.1) ∨ ((y3_.1 = y59_.1) ∧ (one_a < o42_)))))] by
        have K92_ : (y59_.1 < y3_.1) ∨ ((y3_.1 = y59_.1) ∧ (one_a < o42_)) → Z Θ 8 0 0 (zQ Θ ρ) σ 182 [(0, .ref (zA Θ 0)), (1, .int one_a), (2, .int set_a), (3, .int y3_.1), (4, .int (b2i is41_)), (5, .int o42_), (6, .int y59_.1), (7, .int y59_.2)] [] := by
          intro h97_
          rw [decide_eq_true h97_] at K91_
          refine z_iconst (v := 1) C dX12_isWooed_182 ic_1 ?_
          refine z_goto C 187 dX12_isWooed_183 (by decide) ?_
          exact K91_
        have K93_ : ¬ ((y59_.1 < y3_.1) ∨ ((y3_.1 = y59_.1) ∧ (one_a < o42_))) → Z Θ 8 0 0 (zQ Θ ρ) σ 186 [(0, .ref (zA Θ 0)), (1, .int one_a), (2, .int set_a), (3, .int y3_.1), (4, .int (b2i is41_)), (5, .int o42_), (6, .int y59_.1), (7, .int y59_.2)] [] := by
          intro h97_
          rw [decide_eq_false h97_] at K91_
          refine z_iconst (v := 0) C dX12_isWooed_186 ic_0 ?_
          exact K91_
        refine z_iload_n C 3 dX12_isWooed_164 rfl rfl ?_
        refine z_iload C 6 dX12_isWooed_165 rfl ?_
        refine c_gt_t C 182 dX12_isWooed_167 (by decide) (fun h94_ => ?_) (fun h94_ => ?_)
        · exact K92_ (Or.inl h94_)
        · refine z_iload_n C 3 dX12_isWooed_170 rfl rfl ?_
          refine z_iload C 6 dX12_isWooed_171 rfl ?_
          refine c_eq_f C 186 dX12_isWooed_173 (by decide) (fun h95_ => ?_) (fun h95_ => ?_)
          · refine z_iload_n C 1 dX12_isWooed_176 rfl rfl ?_
            refine z_iload C 5 dX12_isWooed_177 rfl ?_
            refine c_lt_f C 186 dX12_isWooed_179 (by decide) (fun h96_ => ?_) (fun h96_ => ?_)
            · exact K92_ (Or.inr ⟨h95_, h96_⟩)
            · exact K93_ (fun n => n.elim h94_ (fun n => h96_ n.2))
          · exact K93_ (fun n => n.elim h94_ (fun n => h95_ n.1))
      obtain ⟨is98_, h99_, h40_⟩ := lt_ h40_
      refine z_ist C dX12_isWooed_187 (congrArg b2i h99_) (Nat.le_of_ble_eq_true rfl) rfl ?_
      refine Z.sub [1, 2, 3, 4, 0, 5] rfl ?_
      exact K43_ _ _ h40_
    have K46_ : ¬ ((o42_ < x47_) ∧ (is41_ = true)) → Z Θ 8 0 0 (zQ Θ ρ) σ 195 [(0, .ref (zA Θ 0)), (1, .int one_a), (2, .int set_a), (3, .int y3_.1), (4, .int (b2i is41_)), (5, .int o42_)] [] := by
      intro h51_
      rw [if_neg h51_] at h40_
      cases h40_
      exact K37_
    refine c_lt_f C 195 dX12_isWooed_72 (by decide) (fun h49_ => ?_) (fun h49_ => ?_)
    · refine z_iload C 4 dX12_isWooed_75 rfl ?_
      refine cb_f C 195 dX12_isWooed_77 (by decide) (fun h50_ => ?_) (fun h50_ => ?_)
      · exact K45_ ⟨h49_, h50_⟩
      · exact K46_ (fun n => h50_ n.2)
    · exact K46_ (fun n => h49_ n.1)
  refine z_iload C 4 dX12_isWooed_195 rfl ?_
  cases hf
  subst hρ
  exact z_zret C (b2i_narrow _) dX12_isWooed_197
theorem c12_isWooed {l : Launch} {kd : List KD} {w : Wp} {σ : St} {one_a : Int32} {set_a : Int32} (hkd : kd = kdM) (hi : zI kd w) {r : Bool} (hf : q12_isWooed σ one_a set_a = some r) : zM l kd w yX12_isWooed cX12_isWooed 8 (some .boolean) rm12_isWooed [.ref (w.2.2.1 0), .int one_a, .int set_a] σ (some (.int (b2i r)), σ) := zM_of rfl hi (Nat.le_of_ble_eq_true rfl) (fun Θ hl hw C => by
  obtain ⟨Θ1, Θ2, Θ3, Θ4, Θ5⟩ := Θ
  cases hw
  exact p12_isWooed C hkd  hf rfl)
/-! LastLoafModel.wooed -/
theorem w_9_119 : Cond.code ({ cls := "LastLoafModel", name := "isWooed", desc := "(II)Z" } : MethodName) prog_14_method_90_code (8 : Nat) (Option.some ClassFile.FieldType.boolean) ∈ TB := tb_in (lwt_9 (List.mem_of_getElem? (i := 119) (by decide +kernel))) rfl
theorem w_9_116 : Cond.methodLink "LastLoafModel" (380 : Nat) ({ cls := "LastLoafModel", name := "isWooed", desc := "(II)Z" } : MethodName) ∈ TB := tb_in (lwt_9 (List.mem_of_getElem? (i := 116) (by decide +kernel))) rfl
theorem w_9_118 : Cond.instanceMethod ({ cls := "LastLoafModel", name := "isWooed", desc := "(II)Z" } : MethodName) ∈ TB := tb_in (lwt_9 (List.mem_of_getElem? (i := 118) (by decide +kernel))) rfl
theorem ws_LastLoafModel_isWooed_II_Z : Cond.selects "LastLoafModel" (⟨"LastLoafModel", "isWooed", "(II)Z"⟩ : MethodName) (⟨"LastLoafModel", "isWooed", "(II)Z"⟩ : MethodName) ∈ TB := tb_in (List.mem_append_left _ (List.mem_of_getElem? (i := 57) (by decide +kernel))) rfl
theorem cr12_380 {Θ : Tz} {cc : ByteArray} {nL kc ks : Nat} {ret : Option FieldType} {rm : Room} {Q : State → Prop} {σ : St} {pc : Nat} {lv : List (Nat × Value)} {st : List Value} (C : Zc Θ cc nL RX12 ret rm) (hkd : Θ.2.2.2.2.1 = kdM) {one_a : Int32} {set_a : Int32} {r : Bool} (hx : q12_isWooed σ one_a set_a = some r) (hrm : rm12_isWooed.frames + 1 ≤ rm.frames ∧ 8 + (8 + 11) + rm12_isWooed.locals ≤ rm.locals) (hcat : (st.map fun v => v.category).sum ≤ 8) (hk : kc ≤ rm.cells ∧ ks ≤ rm.slots) (hd : decode cc pc = .ok (.invokevirtual 380, 3)) (kk : Z Θ nL kc ks Q σ (pc + 3) lv (.int (b2i r) :: st)) : Z Θ nL kc ks Q σ pc lv (.int set_a :: .int one_a :: .ref (zA Θ 0) :: st) := z_callV C 0 [.int one_a, .int set_a] (some (.int (b2i r)), σ) 2 (kM_0 hkd) rfl (c12_isWooed (one_a := one_a) (set_a := set_a) hkd (zc_inj C) hx) w_9_119 w_9_116 w_9_118 ws_LastLoafModel_isWooed_II_Z w_1_14 ⟨rfl, rfl, hrm.1, hrm.2⟩ (by decide +kernel) rfl rfl hcat hk hd kk
theorem dX12_wooed_0 : decode cX12_wooed 0 = .ok (.iconst (-1), 1) := by decide +kernel
theorem dX12_wooed_1 : decode cX12_wooed 1 = .ok (.istore_n 2, 1) := by decide +kernel
theorem dX12_wooed_2 : decode cX12_wooed 2 = .ok (.iconst 0, 1) := by decide +kernel
theorem dX12_wooed_3 : decode cX12_wooed 3 = .ok (.istore_n 3, 1) := by decide +kernel
theorem dX12_wooed_4 : decode cX12_wooed 4 = .ok (.iload_n 3, 1) := by decide +kernel
theorem dX12_wooed_5 : decode cX12_wooed 5 = .ok (.aload_n 0, 1) := by decide +kernel
theorem dX12_wooed_6 : decode cX12_wooed 6 = .ok (.getfield 263, 3) := by decide +kernel
theorem dX12_wooed_9 : decode cX12_wooed 9 = .ok (.if_icmp .gt 47, 3) := by decide +kernel
theorem dX12_wooed_12 : decode cX12_wooed 12 = .ok (.iload_n 3, 1) := by decide +kernel
theorem dX12_wooed_13 : decode cX12_wooed 13 = .ok (.aload_n 0, 1) := by decide +kernel
theorem dX12_wooed_14 : decode cX12_wooed 14 = .ok (.getfield 263, 3) := by decide +kernel
theorem dX12_wooed_17 : decode cX12_wooed 17 = .ok (.iconst (-1), 1) := by decide +kernel
theorem dX12_wooed_18 : decode cX12_wooed 18 = .ok (.ixor, 1) := by decide +kernel
theorem dX12_wooed_19 : decode cX12_wooed 19 = .ok (.iand, 1) := by decide +kernel
theorem dX12_wooed_20 : decode cX12_wooed 20 = .ok (.ifCond .ne 30, 3) := by decide +kernel
theorem dX12_wooed_23 : decode cX12_wooed 23 = .ok (.iload_n 2, 1) := by decide +kernel
theorem dX12_wooed_24 : decode cX12_wooed 24 = .ok (.iconst (-1), 1) := by decide +kernel
theorem dX12_wooed_25 : decode cX12_wooed 25 = .ok (.if_icmp .eq 14, 3) := by decide +kernel
theorem dX12_wooed_28 : decode cX12_wooed 28 = .ok (.iload_n 3, 1) := by decide +kernel
theorem dX12_wooed_29 : decode cX12_wooed 29 = .ok (.invokestatic 286, 3) := by decide +kernel
theorem dX12_wooed_32 : decode cX12_wooed 32 = .ok (.iload_n 2, 1) := by decide +kernel
theorem dX12_wooed_33 : decode cX12_wooed 33 = .ok (.invokestatic 286, 3) := by decide +kernel
theorem dX12_wooed_36 : decode cX12_wooed 36 = .ok (.if_icmp .ge 14, 3) := by decide +kernel
theorem dX12_wooed_39 : decode cX12_wooed 39 = .ok (.aload_n 0, 1) := by decide +kernel
theorem dX12_wooed_40 : decode cX12_wooed 40 = .ok (.iload_n 1, 1) := by decide +kernel
theorem dX12_wooed_41 : decode cX12_wooed 41 = .ok (.iload_n 3, 1) := by decide +kernel
theorem dX12_wooed_42 : decode cX12_wooed 42 = .ok (.invokevirtual 380, 3) := by decide +kernel
theorem dX12_wooed_45 : decode cX12_wooed 45 = .ok (.ifCond .eq 5, 3) := by decide +kernel
theorem dX12_wooed_48 : decode cX12_wooed 48 = .ok (.iload_n 3, 1) := by decide +kernel
theorem dX12_wooed_49 : decode cX12_wooed 49 = .ok (.istore_n 2, 1) := by decide +kernel
theorem dX12_wooed_50 : decode cX12_wooed 50 = .ok (.iinc 3 1, 3) := by decide +kernel
theorem dX12_wooed_53 : decode cX12_wooed 53 = .ok (.goto (-49), 3) := by decide +kernel
theorem dX12_wooed_56 : decode cX12_wooed 56 = .ok (.iload_n 2, 1) := by decide +kernel
theorem dX12_wooed_57 : decode cX12_wooed 57 = .ok (.ireturn, 1) := by decide +kernel
def q12_wooed (σ : St) (one_a : Int32) : Option Int32 :=
  Option.bind (loop2 (fun rec4_ (found7_ : Int32) (set8_ : Int32) =>
  if set8_ ≤ (σ 0 20) then
  Option.bind (Option.bind (Option.bind (if (set8_ &&& ((σ 0 20) ^^^ (-1))) = 0 then (if found7_ = (-1) then (some true) else (Option.bind (q12_bits set8_) fun x28_ =>
  Option.bind (q12_bits found7_) fun x30_ =>
  if x28_ < x30_ then (some true) else (some false))) else (some false)) fun t24_ =>
  if t24_ = true then (Option.bind (q12_isWooed σ one_a set8_) fun x34_ =>
  if x34_ = true then (some true) else (some false)) else (some false)) fun t20_ =>
  if t20_ = true then (some (set8_)) else (some (found7_))) fun y15_ =>
  lt (set8_ + 1) fun set38_ =>
  rec4_ y15_ set38_
  else (some (found7_, set8_))) fuelN (-1 : Int32) (0 : Int32)) fun y1_ =>
  some y1_.1
abbrev rm12_wooed : Room := { frames := 5, cells := 0, slots := 0, locals := 122 }
set_option maxHeartbeats 4000000 in
set_option maxRecDepth 100000 in
theorem p12_wooed {Θ : Tz} {σ : St} {ρ : Option Value × St} (C : Zc Θ cX12_wooed 4 RX12 (some .int) rm12_wooed) (hkd : Θ.2.2.2.2.1 = kdM) {one_a : Int32} {r : Int32} (hf : q12_wooed σ one_a = some r) (hρ : ρ = (some (.int r), σ)) : Z Θ 4 0 0 (zQ Θ ρ) σ 0 [(0, .ref (zA Θ 0)), (1, .int one_a)] [] := by
  unfold q12_wooed at hf
  refine z_iconst (v := (-1)) C dX12_wooed_0 ic_m1 ?_
  refine z_istN C dX12_wooed_1 rfl rfl (Nat.le_of_ble_eq_true rfl) rfl ?_
  refine z_iconst (v := 0) C dX12_wooed_2 ic_0 ?_
  refine z_istN C dX12_wooed_3 rfl rfl (Nat.le_of_ble_eq_true rfl) rfl ?_
  refine Z.sub [2, 3, 1, 0] rfl ?_
  obtain ⟨y1_, h2_, hf⟩ := ob hf
  suffices K3_ : Z Θ 4 0 0 (zQ Θ ρ) σ 56 [(0, .ref (zA Θ 0)), (1, .int one_a), (2, .int y1_.1), (3, .int y1_.2)] [] by
    refine loop2_Z (P := fun (found7_ : Int32) (set8_ : Int32) => Z Θ 4 0 0 (zQ Θ ρ) σ 4 [(0, .ref (zA Θ 0)), (1, .int one_a), (2, .int found7_), (3, .int set8_)] []) ?_ fuelN (-1 : Int32) (0 : Int32) h2_
    clear h2_
    intro rec4_ found7_ set8_ h5_ h6_
    have K11_ : set8_ ≤ (σ 0 20) → Z Θ 4 0 0 (zQ Θ ρ) σ 12 [(0, .ref (zA Θ 0)), (1, .int one_a), (2, .int found7_), (3, .int set8_)] [] := by
      intro h14_
      rw [if_pos h14_] at h6_
      obtain ⟨y15_, h16_, h6_⟩ := ob h6_
      suffices K17_ : Z Θ 4 0 0 (zQ Θ ρ) σ 50 [(0, .ref (zA Θ 0)), (1, .int one_a), (2, .int y15_), (3, .int set8_)] [] by
        obtain ⟨t20_, h21_, h16_⟩ := ob h16_
        have K18_ : t20_ = true → Z Θ 4 0 0 (zQ Θ ρ) σ 48 [(0, .ref (zA Θ 0)), (1, .int one_a), (2, .int found7_), (3, .int set8_)] [] := by
          intro h37_
          rw [if_pos h37_] at h16_
          refine z_iload_n C 3 dX12_wooed_48 rfl rfl ?_
          refine z_istN C dX12_wooed_49 rfl rfl (Nat.le_of_ble_eq_true rfl) rfl ?_
          cases h16_
          refine Z.sub [1, 2, 0, 3] rfl ?_
          exact K17_
        have K19_ : ¬ (t20_ = true) → Z Θ 4 0 0 (zQ Θ ρ) σ 50 [(0, .ref (zA Θ 0)), (1, .int one_a), (2, .int found7_), (3, .int set8_)] [] := by
          intro h37_
          rw [if_neg h37_] at h16_
          cases h16_
          exact K17_
        obtain ⟨t24_, h25_, h21_⟩ := ob h21_
        have K22_ : t24_ = true → Z Θ 4 0 0 (zQ Θ ρ) σ 39 [(0, .ref (zA Θ 0)), (1, .int one_a), (2, .int found7_), (3, .int set8_)] [] := by
          intro h33_
          rw [if_pos h33_] at h21_
          refine z_aload_n C 0 dX12_wooed_39 rfl rfl ?_
          refine z_iload_n C 1 dX12_wooed_40 rfl rfl ?_
          refine z_iload_n C 3 dX12_wooed_41 rfl rfl ?_
          obtain ⟨x34_, h35_, h21_⟩ := ob h21_
          refine cr12_380 (one_a := one_a) (set_a := set8_) C hkd  h35_ ⟨(Nat.le_of_ble_eq_true rfl), (Nat.le_of_ble_eq_true rfl)⟩ (Nat.le_of_ble_eq_true rfl) ⟨Nat.zero_le _, Nat.zero_le _⟩ dX12_wooed_42 ?_
          refine cb_f C 50 dX12_wooed_45 (by decide) (fun h36_ => ?_) (fun h36_ => ?_)
          · rw [if_pos h36_] at h21_
            cases h21_
            exact K18_ rfl
          · rw [if_neg h36_] at h21_
            cases h21_
            exact K19_ Bool.false_ne_true
        have K23_ : ¬ (t24_ = true) → Z Θ 4 0 0 (zQ Θ ρ) σ 50 [(0, .ref (zA Θ 0)), (1, .int one_a), (2, .int found7_), (3, .int set8_)] [] := by
          intro h33_
          rw [if_neg h33_] at h21_
          cases h21_
          exact K19_ Bool.false_ne_true
        refine z_iload_n C 3 dX12_wooed_12 rfl rfl ?_
        refine z_aload_n C 0 dX12_wooed_13 rfl rfl ?_
        refine fg12_263 C hkd dX12_wooed_14 ?_
        refine z_iconst (v := (-1)) C dX12_wooed_17 ic_m1 ?_
        refine z_ixor C dX12_wooed_18 ?_
        refine z_iand C dX12_wooed_19 ?_
        refine c0_eq_f C 50 dX12_wooed_20 (by decide) (fun h26_ => ?_) (fun h26_ => ?_)
        · rw [if_pos h26_] at h25_
          refine z_iload_n C 2 dX12_wooed_23 rfl rfl ?_
          refine z_iconst (v := (-1)) C dX12_wooed_24 ic_m1 ?_
          refine c_eq_t C 39 dX12_wooed_25 (by decide) (fun h27_ => ?_) (fun h27_ => ?_)
          · rw [if_pos h27_] at h25_
            cases h25_
            exact K22_ rfl
          · rw [if_neg h27_] at h25_
            refine z_iload_n C 3 dX12_wooed_28 rfl rfl ?_
            obtain ⟨x28_, h29_, h25_⟩ := ob h25_
            refine cr12_286 (set_a := set8_) C hkd  h29_ ⟨(Nat.le_of_ble_eq_true rfl), (Nat.le_of_ble_eq_true rfl)⟩ (Nat.le_of_ble_eq_true rfl) ⟨Nat.zero_le _, Nat.zero_le _⟩ dX12_wooed_29 ?_
            refine z_iload_n C 2 dX12_wooed_32 rfl rfl ?_
            obtain ⟨x30_, h31_, h25_⟩ := ob h25_
            refine cr12_286 (set_a := found7_) C hkd  h31_ ⟨(Nat.le_of_ble_eq_true rfl), (Nat.le_of_ble_eq_true rfl)⟩ (Nat.le_of_ble_eq_true rfl) ⟨Nat.zero_le _, Nat.zero_le _⟩ dX12_wooed_33 ?_
            refine c_lt_f C 50 dX12_wooed_36 (by decide) (fun h32_ => ?_) (fun h32_ => ?_)
            · rw [if_pos h32_] at h25_
              cases h25_
              exact K22_ rfl
            · rw [if_neg h32_] at h25_
              cases h25_
              exact K23_ Bool.false_ne_true
        · rw [if_neg h26_] at h25_
          cases h25_
          exact K23_ Bool.false_ne_true
      obtain ⟨set38_, h39_, h6_⟩ := lt_ h6_
      refine z_inc C 3 dX12_wooed_50 rfl ic_1 h39_ (Nat.le_of_ble_eq_true rfl) rfl ?_
      refine z_goto C 4 dX12_wooed_53 (by decide) ?_
      refine Z.sub [1, 2, 3, 0] rfl ?_
      exact h5_ _ _ h6_
    have K12_ : ¬ (set8_ ≤ (σ 0 20)) → Z Θ 4 0 0 (zQ Θ ρ) σ 56 [(0, .ref (zA Θ 0)), (1, .int one_a), (2, .int found7_), (3, .int set8_)] [] := by
      intro h14_
      rw [if_neg h14_] at h6_
      cases h6_
      exact K3_
    refine z_iload_n C 3 dX12_wooed_4 rfl rfl ?_
    refine z_aload_n C 0 dX12_wooed_5 rfl rfl ?_
    refine fg12_263 C hkd dX12_wooed_6 ?_
    refine c_le_f C 56 dX12_wooed_9 (by decide) (fun h13_ => ?_) (fun h13_ => ?_)
    · exact K11_ h13_
    · exact K12_ h13_
  refine z_iload_n C 2 dX12_wooed_56 rfl rfl ?_
  cases hf
  subst hρ
  exact z_iret C dX12_wooed_57
theorem c12_wooed {l : Launch} {kd : List KD} {w : Wp} {σ : St} {one_a : Int32} (hkd : kd = kdM) (hi : zI kd w) {r : Int32} (hf : q12_wooed σ one_a = some r) : zM l kd w yX12_wooed cX12_wooed 4 (some .int) rm12_wooed [.ref (w.2.2.1 0), .int one_a] σ (some (.int r), σ) := zM_of rfl hi (Nat.le_of_ble_eq_true rfl) (fun Θ hl hw C => by
  obtain ⟨Θ1, Θ2, Θ3, Θ4, Θ5⟩ := Θ
  cases hw
  exact p12_wooed C hkd  hf rfl)

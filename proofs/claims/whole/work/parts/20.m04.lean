/-! LastLoafModel.looks -/
theorem w_8_47 : Cond.fieldLink "LastLoafModel" (263 : Nat) "LastLoafModel" "voters" "I" ∈ TB := tb_in (lwt_8 (List.mem_of_getElem? (i := 47) (by decide +kernel))) rfl
theorem fp12_263 {Θ : Tz} {cc : ByteArray} {nL kc ks : Nat} {ret : Option FieldType} {rm : Room} {Q : State → Prop} {σ : St} {pc : Nat} {lv : List (Nat × Value)} {st : List Value} (C : Zc Θ cc nL RX12 ret rm) (hkd : Θ.2.2.2.2.1 = kdM) {x : Int32} {σ1 : St} (he : σ1 = up σ 0 20 x) (hd : decode cc pc = .ok (.putfield 263, 3)) (kk : Z Θ nL kc ks Q σ1 (pc + 3) lv st) : Z Θ nL kc ks Q σ pc lv (.int x :: .ref (zA Θ 0) :: st) := by subst he; exact z_put C inT12 tyX12_ok nmX12 0 (kM_0 hkd) rfl 20 (by decide) w_8_47 rfl rfl rfl rfl hd kk
theorem w_9_65 : Cond.code ({ cls := "LastLoafModel", name := "those", desc := "(I)I" } : MethodName) prog_14_method_13_code (4 : Nat) (Option.some ClassFile.FieldType.int) ∈ TB := tb_in (lwt_9 (List.mem_of_getElem? (i := 65) (by decide +kernel))) rfl
theorem w_9_62 : Cond.methodLink "LastLoafModel" (266 : Nat) ({ cls := "LastLoafModel", name := "those", desc := "(I)I" } : MethodName) ∈ TB := tb_in (lwt_9 (List.mem_of_getElem? (i := 62) (by decide +kernel))) rfl
theorem w_9_64 : Cond.instanceMethod ({ cls := "LastLoafModel", name := "those", desc := "(I)I" } : MethodName) ∈ TB := tb_in (lwt_9 (List.mem_of_getElem? (i := 64) (by decide +kernel))) rfl
theorem ws_LastLoafModel_those_I_I : Cond.selects "LastLoafModel" (⟨"LastLoafModel", "those", "(I)I"⟩ : MethodName) (⟨"LastLoafModel", "those", "(I)I"⟩ : MethodName) ∈ TB := tb_in (List.mem_append_left _ (List.mem_of_getElem? (i := 45) (by decide +kernel))) rfl
theorem cr12_266 {Θ : Tz} {cc : ByteArray} {nL kc ks : Nat} {ret : Option FieldType} {rm : Room} {Q : State → Prop} {σ : St} {pc : Nat} {lv : List (Nat × Value)} {st : List Value} (C : Zc Θ cc nL RX12 ret rm) (hkd : Θ.2.2.2.2.1 = kdM) {what_a : Int32} {r : Int32} (hx : q12_those σ what_a = some r) (hrm : rm12_those.frames + 1 ≤ rm.frames ∧ 8 + (4 + 11) + rm12_those.locals ≤ rm.locals) (hcat : (st.map fun v => v.category).sum ≤ 8) (hk : kc ≤ rm.cells ∧ ks ≤ rm.slots) (hd : decode cc pc = .ok (.invokevirtual 266, 3)) (kk : Z Θ nL kc ks Q σ (pc + 3) lv (.int r :: st)) : Z Θ nL kc ks Q σ pc lv (.int what_a :: .ref (zA Θ 0) :: st) := z_callV C 0 [.int what_a] (some (.int r), σ) 1 (kM_0 hkd) rfl (c12_those (what_a := what_a) hkd (zc_inj C) hx) w_9_65 w_9_62 w_9_64 ws_LastLoafModel_those_I_I w_1_14 ⟨rfl, rfl, hrm.1, hrm.2⟩ (by decide +kernel) rfl rfl hcat hk hd kk
theorem w_8_48 : Cond.fieldLink "LastLoafModel" (269 : Nat) "LastLoafModel" "runners" "I" ∈ TB := tb_in (lwt_8 (List.mem_of_getElem? (i := 48) (by decide +kernel))) rfl
theorem fp12_269 {Θ : Tz} {cc : ByteArray} {nL kc ks : Nat} {ret : Option FieldType} {rm : Room} {Q : State → Prop} {σ : St} {pc : Nat} {lv : List (Nat × Value)} {st : List Value} (C : Zc Θ cc nL RX12 ret rm) (hkd : Θ.2.2.2.2.1 = kdM) {x : Int32} {σ1 : St} (he : σ1 = up σ 0 21 x) (hd : decode cc pc = .ok (.putfield 269, 3)) (kk : Z Θ nL kc ks Q σ1 (pc + 3) lv st) : Z Θ nL kc ks Q σ pc lv (.int x :: .ref (zA Θ 0) :: st) := by subst he; exact z_put C inT12 tyX12_ok nmX12 0 (kM_0 hkd) rfl 21 (by decide) w_8_48 rfl rfl rfl rfl hd kk
theorem w_8_46 : Cond.fieldLink "LastLoafModel" (32 : Nat) "LastLoafModel" "favours" "[I" ∈ TB := tb_in (lwt_8 (List.mem_of_getElem? (i := 46) (by decide +kernel))) rfl
theorem fg12_32 {Θ : Tz} {cc : ByteArray} {nL kc ks : Nat} {ret : Option FieldType} {rm : Room} {Q : State → Prop} {σ : St} {pc : Nat} {lv : List (Nat × Value)} {st : List Value} (C : Zc Θ cc nL RX12 ret rm) (hkd : Θ.2.2.2.2.1 = kdM) (hd : decode cc pc = .ok (.getfield 32, 3)) (kk : Z Θ nL kc ks Q σ (pc + 3) lv (.ref (zA Θ 7) :: st)) : Z Θ nL kc ks Q σ pc lv (.ref (zA Θ 0) :: st) := z_get C inT12 0 (kM_0 hkd) rfl 19 (by decide) w_8_46 rfl hd kk
theorem w_9_69 : Cond.code ({ cls := "LastLoafModel", name := "favourOf", desc := "(II)I" } : MethodName) prog_14_method_43_code (5 : Nat) (Option.some ClassFile.FieldType.int) ∈ TB := tb_in (lwt_9 (List.mem_of_getElem? (i := 69) (by decide +kernel))) rfl
theorem w_9_66 : Cond.methodLink "LastLoafModel" (272 : Nat) ({ cls := "LastLoafModel", name := "favourOf", desc := "(II)I" } : MethodName) ∈ TB := tb_in (lwt_9 (List.mem_of_getElem? (i := 66) (by decide +kernel))) rfl
theorem w_9_68 : Cond.instanceMethod ({ cls := "LastLoafModel", name := "favourOf", desc := "(II)I" } : MethodName) ∈ TB := tb_in (lwt_9 (List.mem_of_getElem? (i := 68) (by decide +kernel))) rfl
theorem ws_LastLoafModel_favourOf_II_I : Cond.selects "LastLoafModel" (⟨"LastLoafModel", "favourOf", "(II)I"⟩ : MethodName) (⟨"LastLoafModel", "favourOf", "(II)I"⟩ : MethodName) ∈ TB := tb_in (List.mem_append_left _ (List.mem_of_getElem? (i := 46) (by decide +kernel))) rfl
theorem cr12_272 {Θ : Tz} {cc : ByteArray} {nL kc ks : Nat} {ret : Option FieldType} {rm : Room} {Q : State → Prop} {σ : St} {pc : Nat} {lv : List (Nat × Value)} {st : List Value} (C : Zc Θ cc nL RX12 ret rm) (hkd : Θ.2.2.2.2.1 = kdM) {p_a : Int32} {o_a : Int32} {r : Int32 × St} (hx : q12_favourOf σ p_a o_a = some r) (hrm : rm12_favourOf.frames + 1 ≤ rm.frames ∧ 8 + (5 + 11) + rm12_favourOf.locals ≤ rm.locals) (hcat : (st.map fun v => v.category).sum ≤ 8) (hk : kc ≤ rm.cells ∧ ks ≤ rm.slots) (hd : decode cc pc = .ok (.invokevirtual 272, 3)) (kk : Z Θ nL kc ks Q r.2 (pc + 3) lv (.int r.1 :: st)) : Z Θ nL kc ks Q σ pc lv (.int o_a :: .int p_a :: .ref (zA Θ 0) :: st) := z_callV C 0 [.int p_a, .int o_a] (some (.int r.1), r.2) 2 (kM_0 hkd) rfl (c12_favourOf (p_a := p_a) (o_a := o_a) hkd (zc_inj C) hx) w_9_69 w_9_66 w_9_68 ws_LastLoafModel_favourOf_II_I w_1_14 ⟨rfl, rfl, hrm.1, hrm.2⟩ (by decide +kernel) rfl rfl hcat hk hd kk
theorem fg12_263 {Θ : Tz} {cc : ByteArray} {nL kc ks : Nat} {ret : Option FieldType} {rm : Room} {Q : State → Prop} {σ : St} {pc : Nat} {lv : List (Nat × Value)} {st : List Value} (C : Zc Θ cc nL RX12 ret rm) (hkd : Θ.2.2.2.2.1 = kdM) (hd : decode cc pc = .ok (.getfield 263, 3)) (kk : Z Θ nL kc ks Q σ (pc + 3) lv (.int (σ 0 20) :: st)) : Z Θ nL kc ks Q σ pc lv (.ref (zA Θ 0) :: st) := z_get C inT12 0 (kM_0 hkd) rfl 20 (by decide) w_8_47 rfl hd kk
theorem dX12_looks_0 : decode cX12_looks 0 = .ok (.aload_n 0, 1) := by decide +kernel
theorem dX12_looks_1 : decode cX12_looks 1 = .ok (.iconst 0, 1) := by decide +kernel
theorem dX12_looks_2 : decode cX12_looks 2 = .ok (.putfield 263, 3) := by decide +kernel
theorem dX12_looks_5 : decode cX12_looks 5 = .ok (.aload_n 0, 1) := by decide +kernel
theorem dX12_looks_6 : decode cX12_looks 6 = .ok (.aload_n 0, 1) := by decide +kernel
theorem dX12_looks_7 : decode cX12_looks 7 = .ok (.iconst 3, 1) := by decide +kernel
theorem dX12_looks_8 : decode cX12_looks 8 = .ok (.invokevirtual 266, 3) := by decide +kernel
theorem dX12_looks_11 : decode cX12_looks 11 = .ok (.aload_n 0, 1) := by decide +kernel
theorem dX12_looks_12 : decode cX12_looks 12 = .ok (.iconst 4, 1) := by decide +kernel
theorem dX12_looks_13 : decode cX12_looks 13 = .ok (.invokevirtual 266, 3) := by decide +kernel
theorem dX12_looks_16 : decode cX12_looks 16 = .ok (.iconst (-1), 1) := by decide +kernel
theorem dX12_looks_17 : decode cX12_looks 17 = .ok (.ixor, 1) := by decide +kernel
theorem dX12_looks_18 : decode cX12_looks 18 = .ok (.iand, 1) := by decide +kernel
theorem dX12_looks_19 : decode cX12_looks 19 = .ok (.putfield 269, 3) := by decide +kernel
theorem dX12_looks_22 : decode cX12_looks 22 = .ok (.iconst 0, 1) := by decide +kernel
theorem dX12_looks_23 : decode cX12_looks 23 = .ok (.istore_n 1, 1) := by decide +kernel
theorem dX12_looks_24 : decode cX12_looks 24 = .ok (.iload_n 1, 1) := by decide +kernel
theorem dX12_looks_25 : decode cX12_looks 25 = .ok (.aload_n 0, 1) := by decide +kernel
theorem dX12_looks_26 : decode cX12_looks 26 = .ok (.getfield 7, 3) := by decide +kernel
theorem dX12_looks_29 : decode cX12_looks 29 = .ok (.iconst 3, 1) := by decide +kernel
theorem dX12_looks_30 : decode cX12_looks 30 = .ok (.iaload, 1) := by decide +kernel
theorem dX12_looks_31 : decode cX12_looks 31 = .ok (.if_icmp .ge 77, 3) := by decide +kernel
theorem dX12_looks_34 : decode cX12_looks 34 = .ok (.iconst 0, 1) := by decide +kernel
theorem dX12_looks_35 : decode cX12_looks 35 = .ok (.istore_n 2, 1) := by decide +kernel
theorem dX12_looks_36 : decode cX12_looks 36 = .ok (.iload_n 2, 1) := by decide +kernel
theorem dX12_looks_37 : decode cX12_looks 37 = .ok (.aload_n 0, 1) := by decide +kernel
theorem dX12_looks_38 : decode cX12_looks 38 = .ok (.getfield 7, 3) := by decide +kernel
theorem dX12_looks_41 : decode cX12_looks 41 = .ok (.iconst 3, 1) := by decide +kernel
theorem dX12_looks_42 : decode cX12_looks 42 = .ok (.iaload, 1) := by decide +kernel
theorem dX12_looks_43 : decode cX12_looks 43 = .ok (.if_icmp .ge 59, 3) := by decide +kernel
theorem dX12_looks_46 : decode cX12_looks 46 = .ok (.aload_n 0, 1) := by decide +kernel
theorem dX12_looks_47 : decode cX12_looks 47 = .ok (.getfield 32, 3) := by decide +kernel
theorem dX12_looks_50 : decode cX12_looks 50 = .ok (.bipush 7, 2) := by decide +kernel
theorem dX12_looks_52 : decode cX12_looks 52 = .ok (.iload_n 1, 1) := by decide +kernel
theorem dX12_looks_53 : decode cX12_looks 53 = .ok (.imul, 1) := by decide +kernel
theorem dX12_looks_54 : decode cX12_looks 54 = .ok (.iload_n 2, 1) := by decide +kernel
theorem dX12_looks_55 : decode cX12_looks 55 = .ok (.iadd, 1) := by decide +kernel
theorem dX12_looks_56 : decode cX12_looks 56 = .ok (.aload_n 0, 1) := by decide +kernel
theorem dX12_looks_57 : decode cX12_looks 57 = .ok (.iload_n 1, 1) := by decide +kernel
theorem dX12_looks_58 : decode cX12_looks 58 = .ok (.iload_n 2, 1) := by decide +kernel
theorem dX12_looks_59 : decode cX12_looks 59 = .ok (.invokevirtual 272, 3) := by decide +kernel
theorem dX12_looks_62 : decode cX12_looks 62 = .ok (.iastore, 1) := by decide +kernel
theorem dX12_looks_63 : decode cX12_looks 63 = .ok (.iload_n 2, 1) := by decide +kernel
theorem dX12_looks_64 : decode cX12_looks 64 = .ok (.iload_n 1, 1) := by decide +kernel
theorem dX12_looks_65 : decode cX12_looks 65 = .ok (.if_icmp .ne 31, 3) := by decide +kernel
theorem dX12_looks_68 : decode cX12_looks 68 = .ok (.aload_n 0, 1) := by decide +kernel
theorem dX12_looks_69 : decode cX12_looks 69 = .ok (.getfield 254, 3) := by decide +kernel
theorem dX12_looks_72 : decode cX12_looks 72 = .ok (.ifCond .ne 24, 3) := by decide +kernel
theorem dX12_looks_75 : decode cX12_looks 75 = .ok (.aload_n 0, 1) := by decide +kernel
theorem dX12_looks_76 : decode cX12_looks 76 = .ok (.iload_n 1, 1) := by decide +kernel
theorem dX12_looks_77 : decode cX12_looks 77 = .ok (.iconst 4, 1) := by decide +kernel
theorem dX12_looks_78 : decode cX12_looks 78 = .ok (.invokevirtual 72, 3) := by decide +kernel
theorem dX12_looks_81 : decode cX12_looks 81 = .ok (.ifCond .ne 15, 3) := by decide +kernel
theorem dX12_looks_84 : decode cX12_looks 84 = .ok (.aload_n 0, 1) := by decide +kernel
theorem dX12_looks_85 : decode cX12_looks 85 = .ok (.dup, 1) := by decide +kernel
theorem dX12_looks_86 : decode cX12_looks 86 = .ok (.getfield 263, 3) := by decide +kernel
theorem dX12_looks_89 : decode cX12_looks 89 = .ok (.iconst 1, 1) := by decide +kernel
theorem dX12_looks_90 : decode cX12_looks 90 = .ok (.iload_n 1, 1) := by decide +kernel
theorem dX12_looks_91 : decode cX12_looks 91 = .ok (.ishl, 1) := by decide +kernel
theorem dX12_looks_92 : decode cX12_looks 92 = .ok (.ior, 1) := by decide +kernel
theorem dX12_looks_93 : decode cX12_looks 93 = .ok (.putfield 263, 3) := by decide +kernel
theorem dX12_looks_96 : decode cX12_looks 96 = .ok (.iinc 2 1, 3) := by decide +kernel
theorem dX12_looks_99 : decode cX12_looks 99 = .ok (.goto (-63), 3) := by decide +kernel
theorem dX12_looks_102 : decode cX12_looks 102 = .ok (.iinc 1 1, 3) := by decide +kernel
theorem dX12_looks_105 : decode cX12_looks 105 = .ok (.goto (-81), 3) := by decide +kernel
theorem dX12_looks_108 : decode cX12_looks 108 = .ok (.return_, 1) := by decide +kernel
def q12_looks (σ : St) : Option St :=
  lt (up σ 0 20 0) fun σ1_ =>
  Option.bind (q12_those σ1_ 3) fun x3_ =>
  Option.bind (q12_those σ1_ 4) fun x5_ =>
  lt (up σ1_ 0 21 (x3_ &&& (x5_ ^^^ (-1)))) fun σ7_ =>
  Option.bind (loop2 (fun rec12_ (p15_ : Int32) (σ16_ : St) =>
  Option.bind (ag σ16_ 1 752 3) fun x21_ =>
  if p15_ < x21_ then
  Option.bind (loop2 (fun rec28_ (o31_ : Int32) (σ32_ : St) =>
  Option.bind (ag σ32_ 1 752 3) fun x37_ =>
  if o31_ < x37_ then
  Option.bind (q12_favourOf σ32_ p15_ o31_) fun x41_ =>
  Option.bind (sa x41_.2 7 49 ((7 * p15_) + o31_) x41_.1) fun σ43_ =>
  Option.bind (Option.bind (if o31_ = p15_ then (if ¬ (σ43_ 0 18) = 0 then (some false) else (Option.bind (q12_of σ43_ p15_ 4) fun x54_ =>
  if x54_ = 0 then (some true) else (some false))) else (some false)) fun t50_ =>
  if t50_ = true then (lt (up σ43_ 0 20 ((σ43_ 0 20) ||| (shl 1 p15_))) fun σ58_ =>
  some (σ58_)) else (some (σ43_))) fun y45_ =>
  lt (o31_ + 1) fun o60_ =>
  rec28_ o60_ y45_
  else (some (o31_, σ32_))) fuelN (0 : Int32) σ16_) fun y25_ =>
  lt (p15_ + 1) fun p62_ =>
  rec12_ p62_ y25_.2
  else (some (p15_, σ16_))) fuelN (0 : Int32) σ7_) fun y9_ =>
  some y9_.2
abbrev rm12_looks : Room := { frames := 76, cells := 0, slots := 0, locals := 4172 }
set_option maxHeartbeats 4000000 in
set_option maxRecDepth 100000 in
theorem p12_looks {Θ : Tz} {σ : St} {ρ : Option Value × St} (C : Zc Θ cX12_looks 3 RX12 none rm12_looks) (hkd : Θ.2.2.2.2.1 = kdM) {r : St} (hf : q12_looks σ = some r) (hρ : ρ = (none, r)) : Z Θ 3 0 0 (zQ Θ ρ) σ 0 [(0, .ref (zA Θ 0))] [] := by
  unfold q12_looks at hf
  refine z_aload_n C 0 dX12_looks_0 rfl rfl ?_
  refine z_iconst (v := 0) C dX12_looks_1 ic_0 ?_
  obtain ⟨σ1_, h2_, hf⟩ := lt_ hf
  refine fp12_263 C hkd h2_ dX12_looks_2 ?_
  refine z_aload_n C 0 dX12_looks_5 rfl rfl ?_
  refine z_aload_n C 0 dX12_looks_6 rfl rfl ?_
  refine z_iconst (v := 3) C dX12_looks_7 ic_3 ?_
  obtain ⟨x3_, h4_, hf⟩ := ob hf
  refine cr12_266 (what_a := 3) C hkd  h4_ ⟨(Nat.le_of_ble_eq_true rfl), (Nat.le_of_ble_eq_true rfl)⟩ (Nat.le_of_ble_eq_true rfl) ⟨Nat.zero_le _, Nat.zero_le _⟩ dX12_looks_8 ?_
  refine z_aload_n C 0 dX12_looks_11 rfl rfl ?_
  refine z_iconst (v := 4) C dX12_looks_12 ic_4 ?_
  obtain ⟨x5_, h6_, hf⟩ := ob hf
  refine cr12_266 (what_a := 4) C hkd  h6_ ⟨(Nat.le_of_ble_eq_true rfl), (Nat.le_of_ble_eq_true rfl)⟩ (Nat.le_of_ble_eq_true rfl) ⟨Nat.zero_le _, Nat.zero_le _⟩ dX12_looks_13 ?_
  refine z_iconst (v := (-1)) C dX12_looks_16 ic_m1 ?_
  refine z_ixor C dX12_looks_17 ?_
  refine z_iand C dX12_looks_18 ?_
  obtain ⟨σ7_, h8_, hf⟩ := lt_ hf
  refine fp12_269 C hkd h8_ dX12_looks_19 ?_
  refine z_iconst (v := 0) C dX12_looks_22 ic_0 ?_
  refine z_istN C dX12_looks_23 rfl rfl (Nat.le_of_ble_eq_true rfl) rfl ?_
  refine Z.sub [1, 0] rfl ?_
  obtain ⟨y9_, h10_, hf⟩ := ob hf
  suffices K11_ : Z Θ 3 0 0 (zQ Θ ρ) y9_.2 108 [(0, .ref (zA Θ 0)), (1, .int y9_.1)] [] by
    refine loop2_Z (P := fun (p15_ : Int32) (σ16_ : St) => Z Θ 3 0 0 (zQ Θ ρ) σ16_ 24 [(0, .ref (zA Θ 0)), (1, .int p15_)] []) ?_ fuelN (0 : Int32) σ7_ h10_
    clear h10_
    intro rec12_ p15_ σ16_ h13_ h14_
    refine z_iload_n C 1 dX12_looks_24 rfl rfl ?_
    refine z_aload_n C 0 dX12_looks_25 rfl rfl ?_
    refine fg12_7 C hkd dX12_looks_26 ?_
    refine z_iconst (v := 3) C dX12_looks_29 ic_3 ?_
    obtain ⟨x21_, h22_, h14_⟩ := ob h14_
    refine z_ag C h22_ (kM_1 hkd) dX12_looks_30 ?_
    have K19_ : p15_ < x21_ → Z Θ 3 0 0 (zQ Θ ρ) σ16_ 34 [(0, .ref (zA Θ 0)), (1, .int p15_)] [] := by
      intro h24_
      rw [if_pos h24_] at h14_
      refine z_iconst (v := 0) C dX12_looks_34 ic_0 ?_
      refine z_istN C dX12_looks_35 rfl rfl (Nat.le_of_ble_eq_true rfl) rfl ?_
      refine Z.sub [1, 2, 0] rfl ?_
      obtain ⟨y25_, h26_, h14_⟩ := ob h14_
      suffices K27_ : Z Θ 3 0 0 (zQ Θ ρ) y25_.2 102 [(0, .ref (zA Θ 0)), (1, .int p15_), (2, .int y25_.1)] [] by
        refine loop2_Z (P := fun (o31_ : Int32) (σ32_ : St) => Z Θ 3 0 0 (zQ Θ ρ) σ32_ 36 [(0, .ref (zA Θ 0)), (1, .int p15_), (2, .int o31_)] []) ?_ fuelN (0 : Int32) σ16_ h26_
        clear h26_
        intro rec28_ o31_ σ32_ h29_ h30_
        refine z_iload_n C 2 dX12_looks_36 rfl rfl ?_
        refine z_aload_n C 0 dX12_looks_37 rfl rfl ?_
        refine fg12_7 C hkd dX12_looks_38 ?_
        refine z_iconst (v := 3) C dX12_looks_41 ic_3 ?_
        obtain ⟨x37_, h38_, h30_⟩ := ob h30_
        refine z_ag C h38_ (kM_1 hkd) dX12_looks_42 ?_
        have K35_ : o31_ < x37_ → Z Θ 3 0 0 (zQ Θ ρ) σ32_ 46 [(0, .ref (zA Θ 0)), (1, .int p15_), (2, .int o31_)] [] := by
          intro h40_
          rw [if_pos h40_] at h30_
          refine z_aload_n C 0 dX12_looks_46 rfl rfl ?_
          refine fg12_32 C hkd dX12_looks_47 ?_
          refine z_bipush (v := 7) C dX12_looks_50 bp_7 ?_
          refine z_iload_n C 1 dX12_looks_52 rfl rfl ?_
          refine z_imul C dX12_looks_53 ?_
          refine z_iload_n C 2 dX12_looks_54 rfl rfl ?_
          refine z_iadd C dX12_looks_55 ?_
          refine z_aload_n C 0 dX12_looks_56 rfl rfl ?_
          refine z_iload_n C 1 dX12_looks_57 rfl rfl ?_
          refine z_iload_n C 2 dX12_looks_58 rfl rfl ?_
          obtain ⟨x41_, h42_, h30_⟩ := ob h30_
          refine cr12_272 (p_a := p15_) (o_a := o31_) C hkd  h42_ ⟨(Nat.le_of_ble_eq_true rfl), (Nat.le_of_ble_eq_true rfl)⟩ (Nat.le_of_ble_eq_true rfl) ⟨Nat.zero_le _, Nat.zero_le _⟩ dX12_looks_59 ?_
          obtain ⟨σ43_, h44_, h30_⟩ := ob h30_
          refine z_sa C h44_ (kM_7 hkd) dX12_looks_62 ?_
          obtain ⟨y45_, h46_, h30_⟩ := ob h30_
          suffices K47_ : Z Θ 3 0 0 (zQ Θ ρ) y45_ 96 [(0, .ref (zA Θ 0)), (1, .int p15_), (2, .int o31_)] [] by
            obtain ⟨t50_, h51_, h46_⟩ := ob h46_
            have K48_ : t50_ = true → Z Θ 3 0 0 (zQ Θ ρ) σ43_ 84 [(0, .ref (zA Θ 0)), (1, .int p15_), (2, .int o31_)] [] := by
              intro h57_
              rw [if_pos h57_] at h46_
              refine z_aload_n C 0 dX12_looks_84 rfl rfl ?_
              refine z_dup C dX12_looks_85 rfl ?_
              refine fg12_263 C hkd dX12_looks_86 ?_
              refine z_iconst (v := 1) C dX12_looks_89 ic_1 ?_
              refine z_iload_n C 1 dX12_looks_90 rfl rfl ?_
              refine z_shl C dX12_looks_91 ?_
              refine z_ior C dX12_looks_92 ?_
              obtain ⟨σ58_, h59_, h46_⟩ := lt_ h46_
              refine fp12_263 C hkd h59_ dX12_looks_93 ?_
              cases h46_
              exact K47_
            have K49_ : ¬ (t50_ = true) → Z Θ 3 0 0 (zQ Θ ρ) σ43_ 96 [(0, .ref (zA Θ 0)), (1, .int p15_), (2, .int o31_)] [] := by
              intro h57_
              rw [if_neg h57_] at h46_
              cases h46_
              exact K47_
            refine z_iload_n C 2 dX12_looks_63 rfl rfl ?_
            refine z_iload_n C 1 dX12_looks_64 rfl rfl ?_
            refine c_eq_f C 96 dX12_looks_65 (by decide) (fun h52_ => ?_) (fun h52_ => ?_)
            · rw [if_pos h52_] at h51_
              refine z_aload_n C 0 dX12_looks_68 rfl rfl ?_
              refine fg12_254 C hkd dX12_looks_69 ?_
              refine c0_ne_t C 96 dX12_looks_72 (by decide) (fun h53_ => ?_) (fun h53_ => ?_)
              · rw [if_pos h53_] at h51_
                cases h51_
                exact K49_ Bool.false_ne_true
              · rw [if_neg h53_] at h51_
                refine z_aload_n C 0 dX12_looks_75 rfl rfl ?_
                refine z_iload_n C 1 dX12_looks_76 rfl rfl ?_
                refine z_iconst (v := 4) C dX12_looks_77 ic_4 ?_
                obtain ⟨x54_, h55_, h51_⟩ := ob h51_
                refine cr12_72 (p_a := p15_) (what_a := 4) C hkd  h55_ ⟨(Nat.le_of_ble_eq_true rfl), (Nat.le_of_ble_eq_true rfl)⟩ (Nat.le_of_ble_eq_true rfl) ⟨Nat.zero_le _, Nat.zero_le _⟩ dX12_looks_78 ?_
                refine c0_eq_f C 96 dX12_looks_81 (by decide) (fun h56_ => ?_) (fun h56_ => ?_)
                · rw [if_pos h56_] at h51_
                  cases h51_
                  exact K48_ rfl
                · rw [if_neg h56_] at h51_
                  cases h51_
                  exact K49_ Bool.false_ne_true
            · rw [if_neg h52_] at h51_
              cases h51_
              exact K49_ Bool.false_ne_true
          obtain ⟨o60_, h61_, h30_⟩ := lt_ h30_
          refine z_inc C 2 dX12_looks_96 rfl ic_1 h61_ (Nat.le_of_ble_eq_true rfl) rfl ?_
          refine z_goto C 36 dX12_looks_99 (by decide) ?_
          refine Z.sub [1, 2, 0] rfl ?_
          exact h29_ _ _ h30_
        have K36_ : ¬ (o31_ < x37_) → Z Θ 3 0 0 (zQ Θ ρ) σ32_ 102 [(0, .ref (zA Θ 0)), (1, .int p15_), (2, .int o31_)] [] := by
          intro h40_
          rw [if_neg h40_] at h30_
          cases h30_
          exact K27_
        refine c_lt_f C 102 dX12_looks_43 (by decide) (fun h39_ => ?_) (fun h39_ => ?_)
        · exact K35_ h39_
        · exact K36_ h39_
      obtain ⟨p62_, h63_, h14_⟩ := lt_ h14_
      refine z_inc C 1 dX12_looks_102 rfl ic_1 h63_ (Nat.le_of_ble_eq_true rfl) rfl ?_
      refine z_goto C 24 dX12_looks_105 (by decide) ?_
      refine Z.sub [1, 0] rfl ?_
      exact h13_ _ _ h14_
    have K20_ : ¬ (p15_ < x21_) → Z Θ 3 0 0 (zQ Θ ρ) σ16_ 108 [(0, .ref (zA Θ 0)), (1, .int p15_)] [] := by
      intro h24_
      rw [if_neg h24_] at h14_
      cases h14_
      exact K11_
    refine c_lt_f C 108 dX12_looks_31 (by decide) (fun h23_ => ?_) (fun h23_ => ?_)
    · exact K19_ h23_
    · exact K20_ h23_
  cases hf
  subst hρ
  exact z_vret C dX12_looks_108
theorem c12_looks {l : Launch} {kd : List KD} {w : Wp} {σ : St} (hkd : kd = kdM) (hi : zI kd w) {r : St} (hf : q12_looks σ = some r) : zM l kd w yX12_looks cX12_looks 3 none rm12_looks [.ref (w.2.2.1 0)] σ (none, r) := zM_of rfl hi (Nat.le_of_ble_eq_true rfl) (fun Θ hl hw C => by
  obtain ⟨Θ1, Θ2, Θ3, Θ4, Θ5⟩ := Θ
  cases hw
  exact p12_looks C hkd  hf rfl)
/-! LastLoafModel.hasAhead -/
theorem dX12_hasAhead_0 : decode cX12_hasAhead 0 = .ok (.aload_n 0, 1) := by decide +kernel
theorem dX12_hasAhead_1 : decode cX12_hasAhead 1 = .ok (.getfield 32, 3) := by decide +kernel
theorem dX12_hasAhead_4 : decode cX12_hasAhead 4 = .ok (.bipush 7, 2) := by decide +kernel
theorem dX12_hasAhead_6 : decode cX12_hasAhead 6 = .ok (.iload_n 1, 1) := by decide +kernel
theorem dX12_hasAhead_7 : decode cX12_hasAhead 7 = .ok (.imul, 1) := by decide +kernel
theorem dX12_hasAhead_8 : decode cX12_hasAhead 8 = .ok (.iload_n 2, 1) := by decide +kernel
theorem dX12_hasAhead_9 : decode cX12_hasAhead 9 = .ok (.iadd, 1) := by decide +kernel
theorem dX12_hasAhead_10 : decode cX12_hasAhead 10 = .ok (.iaload, 1) := by decide +kernel
theorem dX12_hasAhead_11 : decode cX12_hasAhead 11 = .ok (.aload_n 0, 1) := by decide +kernel
theorem dX12_hasAhead_12 : decode cX12_hasAhead 12 = .ok (.getfield 32, 3) := by decide +kernel
theorem dX12_hasAhead_15 : decode cX12_hasAhead 15 = .ok (.bipush 7, 2) := by decide +kernel
theorem dX12_hasAhead_17 : decode cX12_hasAhead 17 = .ok (.iload_n 1, 1) := by decide +kernel
theorem dX12_hasAhead_18 : decode cX12_hasAhead 18 = .ok (.imul, 1) := by decide +kernel
theorem dX12_hasAhead_19 : decode cX12_hasAhead 19 = .ok (.iload_n 3, 1) := by decide +kernel
theorem dX12_hasAhead_20 : decode cX12_hasAhead 20 = .ok (.iadd, 1) := by decide +kernel
theorem dX12_hasAhead_21 : decode cX12_hasAhead 21 = .ok (.iaload, 1) := by decide +kernel
theorem dX12_hasAhead_22 : decode cX12_hasAhead 22 = .ok (.isub, 1) := by decide +kernel
theorem dX12_hasAhead_23 : decode cX12_hasAhead 23 = .ok (.istore 4, 2) := by decide +kernel
theorem dX12_hasAhead_25 : decode cX12_hasAhead 25 = .ok (.iload 4, 2) := by decide +kernel
theorem dX12_hasAhead_27 : decode cX12_hasAhead 27 = .ok (.ifCond .gt 13, 3) := by decide +kernel
theorem dX12_hasAhead_30 : decode cX12_hasAhead 30 = .ok (.iload 4, 2) := by decide +kernel
theorem dX12_hasAhead_32 : decode cX12_hasAhead 32 = .ok (.ifCond .ne 12, 3) := by decide +kernel
theorem dX12_hasAhead_35 : decode cX12_hasAhead 35 = .ok (.iload_n 2, 1) := by decide +kernel
theorem dX12_hasAhead_36 : decode cX12_hasAhead 36 = .ok (.iload_n 3, 1) := by decide +kernel
theorem dX12_hasAhead_37 : decode cX12_hasAhead 37 = .ok (.if_icmp .ge 7, 3) := by decide +kernel
theorem dX12_hasAhead_40 : decode cX12_hasAhead 40 = .ok (.iconst 1, 1) := by decide +kernel
theorem dX12_hasAhead_41 : decode cX12_hasAhead 41 = .ok (.goto 4, 3) := by decide +kernel
theorem dX12_hasAhead_44 : decode cX12_hasAhead 44 = .ok (.iconst 0, 1) := by decide +kernel
theorem dX12_hasAhead_45 : decode cX12_hasAhead 45 = .ok (.ireturn, 1) := by decide +kernel
def q12_hasAhead (σ : St) (p_a : Int32) (a_a : Int32) (b_a : Int32) : Option Bool :=
  Option.bind (ag σ 7 49 ((7 * p_a) + a_a)) fun x1_ =>
  Option.bind (ag σ 7 49 ((7 * p_a) + b_a)) fun x3_ =>
  lt (x1_ - x3_) fun n5_ =>
  some (decide ((0 < n5_) ∨ ((n5_ = 0) ∧ (a_a < b_a))))
abbrev rm12_hasAhead : Room := { frames := 0, cells := 0, slots := 0, locals := 0 }
set_option maxHeartbeats 4000000 in
set_option maxRecDepth 100000 in
theorem p12_hasAhead {Θ : Tz} {σ : St} {ρ : Option Value × St} (C : Zc Θ cX12_hasAhead 5 RX12 (some .boolean) rm12_hasAhead) (hkd : Θ.2.2.2.2.1 = kdM) {p_a : Int32} {a_a : Int32} {b_a : Int32} {r : Bool} (hf : q12_hasAhead σ p_a a_a b_a = some r) (hρ : ρ = (some (.int (b2i r)), σ)) : Z Θ 5 0 0 (zQ Θ ρ) σ 0 [(0, .ref (zA Θ 0)), (1, .int p_a), (2, .int a_a), (3, .int b_a)] [] := by
  unfold q12_hasAhead at hf
  refine z_aload_n C 0 dX12_hasAhead_0 rfl rfl ?_
  refine fg12_32 C hkd dX12_hasAhead_1 ?_
  refine z_bipush (v := 7) C dX12_hasAhead_4 bp_7 ?_
  refine z_iload_n C 1 dX12_hasAhead_6 rfl rfl ?_
  refine z_imul C dX12_hasAhead_7 ?_
  refine z_iload_n C 2 dX12_hasAhead_8 rfl rfl ?_
  refine z_iadd C dX12_hasAhead_9 ?_
  obtain ⟨x1_, h2_, hf⟩ := ob hf
  refine z_ag C h2_ (kM_7 hkd) dX12_hasAhead_10 ?_
  refine z_aload_n C 0 dX12_hasAhead_11 rfl rfl ?_
  refine fg12_32 C hkd dX12_hasAhead_12 ?_
  refine z_bipush (v := 7) C dX12_hasAhead_15 bp_7 ?_
  refine z_iload_n C 1 dX12_hasAhead_17 rfl rfl ?_
  refine z_imul C dX12_hasAhead_18 ?_
  refine z_iload_n C 3 dX12_hasAhead_19 rfl rfl ?_
  refine z_iadd C dX12_hasAhead_20 ?_
  obtain ⟨x3_, h4_, hf⟩ := ob hf
  refine z_ag C h4_ (kM_7 hkd) dX12_hasAhead_21 ?_
  refine z_isub C dX12_hasAhead_22 ?_
  obtain ⟨n5_, h6_, hf⟩ := lt_ hf
  refine z_ist C dX12_hasAhead_23 h6_ (Nat.le_of_ble_eq_true rfl) rfl ?_
  suffices K7_ : Z Θ 5 0 0 (zQ Θ ρ) σ 45 [(4, .int n5_), (0, .ref (zA Θ 0)), (1, .int p_a), (2, .int a_a), (3, .int b_a)] [.int (b2i (decide ((0 < n5_) ∨ ((n5_ = 0) ∧ (a_a < b_a)))))] by
    have K8_ : (0 < n5_) ∨ ((n5_ = 0) ∧ (a_a < b_a)) → Z Θ 5 0 0 (zQ Θ ρ) σ 40 [(4, .int n5_), (0, .ref (zA Θ 0)), (1, .int p_a), (2, .int a_a), (3, .int b_a)] [] := by
      intro h13_
      rw [decide_eq_true h13_] at K7_
      refine z_iconst (v := 1) C dX12_hasAhead_40 ic_1 ?_
      refine z_goto C 45 dX12_hasAhead_41 (by decide) ?_
      exact K7_
    have K9_ : ¬ ((0 < n5_) ∨ ((n5_ = 0) ∧ (a_a < b_a))) → Z Θ 5 0 0 (zQ Θ ρ) σ 44 [(4, .int n5_), (0, .ref (zA Θ 0)), (1, .int p_a), (2, .int a_a), (3, .int b_a)] [] := by
      intro h13_
      rw [decide_eq_false h13_] at K7_
      refine z_iconst (v := 0) C dX12_hasAhead_44 ic_0 ?_
      exact K7_
    refine z_iload C 0 dX12_hasAhead_25 rfl ?_
    refine c0_gt_t C 40 dX12_hasAhead_27 (by decide) (fun h10_ => ?_) (fun h10_ => ?_)
    · exact K8_ (Or.inl h10_)
    · refine z_iload C 0 dX12_hasAhead_30 rfl ?_
      refine c0_eq_f C 44 dX12_hasAhead_32 (by decide) (fun h11_ => ?_) (fun h11_ => ?_)
      · refine z_iload_n C 3 dX12_hasAhead_35 rfl rfl ?_
        refine z_iload_n C 4 dX12_hasAhead_36 rfl rfl ?_
        refine c_lt_f C 44 dX12_hasAhead_37 (by decide) (fun h12_ => ?_) (fun h12_ => ?_)
        · exact K8_ (Or.inr ⟨h11_, h12_⟩)
        · exact K9_ (fun n => n.elim h10_ (fun n => h12_ n.2))
      · exact K9_ (fun n => n.elim h10_ (fun n => h11_ n.1))
  cases hf
  subst hρ
  exact z_zret C (b2i_narrow _) dX12_hasAhead_45
theorem c12_hasAhead {l : Launch} {kd : List KD} {w : Wp} {σ : St} {p_a : Int32} {a_a : Int32} {b_a : Int32} (hkd : kd = kdM) (hi : zI kd w) {r : Bool} (hf : q12_hasAhead σ p_a a_a b_a = some r) : zM l kd w yX12_hasAhead cX12_hasAhead 5 (some .boolean) rm12_hasAhead [.ref (w.2.2.1 0), .int p_a, .int a_a, .int b_a] σ (some (.int (b2i r)), σ) := zM_of rfl hi (Nat.le_of_ble_eq_true rfl) (fun Θ hl hw C => by
  obtain ⟨Θ1, Θ2, Θ3, Θ4, Θ5⟩ := Θ
  cases hw
  exact p12_hasAhead C hkd  hf rfl)
/-! LastLoafModel.aheadOf -/
theorem w_9_80 : Cond.code ({ cls := "LastLoafModel", name := "isOf", desc := "(II)Z" } : MethodName) prog_14_method_6_code (2 : Nat) (Option.some ClassFile.FieldType.boolean) ∈ TB := tb_in (lwt_9 (List.mem_of_getElem? (i := 80) (by decide +kernel))) rfl
theorem w_9_79 : Cond.static ({ cls := "LastLoafModel", name := "isOf", desc := "(II)Z" } : MethodName) ∈ TB := tb_in (lwt_9 (List.mem_of_getElem? (i := 79) (by decide +kernel))) rfl
theorem w_9_78 : Cond.methodLink "LastLoafModel" (275 : Nat) ({ cls := "LastLoafModel", name := "isOf", desc := "(II)Z" } : MethodName) ∈ TB := tb_in (lwt_9 (List.mem_of_getElem? (i := 78) (by decide +kernel))) rfl
theorem cr12_275 {Θ : Tz} {cc : ByteArray} {nL kc ks : Nat} {ret : Option FieldType} {rm : Room} {Q : State → Prop} {σ : St} {pc : Nat} {lv : List (Nat × Value)} {st : List Value} (C : Zc Θ cc nL RX12 ret rm) (hkd : Θ.2.2.2.2.1 = kdM) {set_a : Int32} {k_a : Int32} (hrm : rm12_isOf.frames + 1 ≤ rm.frames ∧ 8 + (2 + 11) + rm12_isOf.locals ≤ rm.locals) (hcat : (st.map fun v => v.category).sum ≤ 8) (hk : kc ≤ rm.cells ∧ ks ≤ rm.slots) (hd : decode cc pc = .ok (.invokestatic 275, 3)) (kk : Z Θ nL kc ks Q σ (pc + 3) lv (.int (b2i (q12_isOf set_a k_a)) :: st)) : Z Θ nL kc ks Q σ pc lv (.int k_a :: .int set_a :: st) := z_callS C [.int set_a, .int k_a] (some (.int (b2i (q12_isOf set_a k_a))), σ) 2 (c12_isOf (set_a := set_a) (k_a := k_a) hkd (zc_inj C)) w_9_80 w_9_78 w_9_79 w_1_14 ⟨rfl, rfl, hrm.1, hrm.2⟩ (by decide +kernel) rfl rfl hcat hk hd kk
theorem w_9_92 : Cond.code ({ cls := "LastLoafModel", name := "hasAhead", desc := "(III)Z" } : MethodName) prog_14_method_45_code (5 : Nat) (Option.some ClassFile.FieldType.boolean) ∈ TB := tb_in (lwt_9 (List.mem_of_getElem? (i := 92) (by decide +kernel))) rfl
theorem w_9_89 : Cond.methodLink "LastLoafModel" (279 : Nat) ({ cls := "LastLoafModel", name := "hasAhead", desc := "(III)Z" } : MethodName) ∈ TB := tb_in (lwt_9 (List.mem_of_getElem? (i := 89) (by decide +kernel))) rfl
theorem w_9_91 : Cond.instanceMethod ({ cls := "LastLoafModel", name := "hasAhead", desc := "(III)Z" } : MethodName) ∈ TB := tb_in (lwt_9 (List.mem_of_getElem? (i := 91) (by decide +kernel))) rfl
theorem ws_LastLoafModel_hasAhead_III_Z : Cond.selects "LastLoafModel" (⟨"LastLoafModel", "hasAhead", "(III)Z"⟩ : MethodName) (⟨"LastLoafModel", "hasAhead", "(III)Z"⟩ : MethodName) ∈ TB := tb_in (List.mem_append_left _ (List.mem_of_getElem? (i := 51) (by decide +kernel))) rfl
theorem cr12_279 {Θ : Tz} {cc : ByteArray} {nL kc ks : Nat} {ret : Option FieldType} {rm : Room} {Q : State → Prop} {σ : St} {pc : Nat} {lv : List (Nat × Value)} {st : List Value} (C : Zc Θ cc nL RX12 ret rm) (hkd : Θ.2.2.2.2.1 = kdM) {p_a : Int32} {a_a : Int32} {b_a : Int32} {r : Bool} (hx : q12_hasAhead σ p_a a_a b_a = some r) (hrm : rm12_hasAhead.frames + 1 ≤ rm.frames ∧ 8 + (5 + 11) + rm12_hasAhead.locals ≤ rm.locals) (hcat : (st.map fun v => v.category).sum ≤ 8) (hk : kc ≤ rm.cells ∧ ks ≤ rm.slots) (hd : decode cc pc = .ok (.invokevirtual 279, 3)) (kk : Z Θ nL kc ks Q σ (pc + 3) lv (.int (b2i r) :: st)) : Z Θ nL kc ks Q σ pc lv (.int b_a :: .int a_a :: .int p_a :: .ref (zA Θ 0) :: st) := z_callV C 0 [.int p_a, .int a_a, .int b_a] (some (.int (b2i r)), σ) 3 (kM_0 hkd) rfl (c12_hasAhead (p_a := p_a) (a_a := a_a) (b_a := b_a) hkd (zc_inj C) hx) w_9_92 w_9_89 w_9_91 ws_LastLoafModel_hasAhead_III_Z w_1_14 ⟨rfl, rfl, hrm.1, hrm.2⟩ (by decide +kernel) rfl rfl hcat hk hd kk
theorem dX12_aheadOf_0 : decode cX12_aheadOf 0 = .ok (.iconst 0, 1) := by decide +kernel
theorem dX12_aheadOf_1 : decode cX12_aheadOf 1 = .ok (.istore 4, 2) := by decide +kernel
theorem dX12_aheadOf_3 : decode cX12_aheadOf 3 = .ok (.iconst 0, 1) := by decide +kernel
theorem dX12_aheadOf_4 : decode cX12_aheadOf 4 = .ok (.istore 5, 2) := by decide +kernel
theorem dX12_aheadOf_6 : decode cX12_aheadOf 6 = .ok (.iload 5, 2) := by decide +kernel
theorem dX12_aheadOf_8 : decode cX12_aheadOf 8 = .ok (.aload_n 0, 1) := by decide +kernel
theorem dX12_aheadOf_9 : decode cX12_aheadOf 9 = .ok (.getfield 7, 3) := by decide +kernel
theorem dX12_aheadOf_12 : decode cX12_aheadOf 12 = .ok (.iconst 3, 1) := by decide +kernel
theorem dX12_aheadOf_13 : decode cX12_aheadOf 13 = .ok (.iaload, 1) := by decide +kernel
theorem dX12_aheadOf_14 : decode cX12_aheadOf 14 = .ok (.if_icmp .ge 45, 3) := by decide +kernel
theorem dX12_aheadOf_17 : decode cX12_aheadOf 17 = .ok (.iload 4, 2) := by decide +kernel
theorem dX12_aheadOf_19 : decode cX12_aheadOf 19 = .ok (.iload_n 3, 1) := by decide +kernel
theorem dX12_aheadOf_20 : decode cX12_aheadOf 20 = .ok (.iload 5, 2) := by decide +kernel
theorem dX12_aheadOf_22 : decode cX12_aheadOf 22 = .ok (.invokestatic 275, 3) := by decide +kernel
theorem dX12_aheadOf_25 : decode cX12_aheadOf 25 = .ok (.ifCond .eq 24, 3) := by decide +kernel
theorem dX12_aheadOf_28 : decode cX12_aheadOf 28 = .ok (.iload 5, 2) := by decide +kernel
theorem dX12_aheadOf_30 : decode cX12_aheadOf 30 = .ok (.iload_n 2, 1) := by decide +kernel
theorem dX12_aheadOf_31 : decode cX12_aheadOf 31 = .ok (.if_icmp .eq 18, 3) := by decide +kernel
theorem dX12_aheadOf_34 : decode cX12_aheadOf 34 = .ok (.aload_n 0, 1) := by decide +kernel
theorem dX12_aheadOf_35 : decode cX12_aheadOf 35 = .ok (.iload_n 1, 1) := by decide +kernel
theorem dX12_aheadOf_36 : decode cX12_aheadOf 36 = .ok (.iload 5, 2) := by decide +kernel
theorem dX12_aheadOf_38 : decode cX12_aheadOf 38 = .ok (.iload_n 2, 1) := by decide +kernel
theorem dX12_aheadOf_39 : decode cX12_aheadOf 39 = .ok (.invokevirtual 279, 3) := by decide +kernel
theorem dX12_aheadOf_42 : decode cX12_aheadOf 42 = .ok (.ifCond .eq 7, 3) := by decide +kernel
theorem dX12_aheadOf_45 : decode cX12_aheadOf 45 = .ok (.iconst 1, 1) := by decide +kernel
theorem dX12_aheadOf_46 : decode cX12_aheadOf 46 = .ok (.goto 4, 3) := by decide +kernel
theorem dX12_aheadOf_49 : decode cX12_aheadOf 49 = .ok (.iconst 0, 1) := by decide +kernel
theorem dX12_aheadOf_50 : decode cX12_aheadOf 50 = .ok (.iadd, 1) := by decide +kernel
theorem dX12_aheadOf_51 : decode cX12_aheadOf 51 = .ok (.istore 4, 2) := by decide +kernel
theorem dX12_aheadOf_53 : decode cX12_aheadOf 53 = .ok (.iinc 5 1, 3) := by decide +kernel
theorem dX12_aheadOf_56 : decode cX12_aheadOf 56 = .ok (.goto (-50), 3) := by decide +kernel
theorem dX12_aheadOf_59 : decode cX12_aheadOf 59 = .ok (.iload 4, 2) := by decide +kernel
theorem dX12_aheadOf_61 : decode cX12_aheadOf 61 = .ok (.ireturn, 1) := by decide +kernel
def q12_aheadOf (σ : St) (p_a : Int32) (o_a : Int32) (set_a : Int32) : Option Int32 :=
  Option.bind (loop2 (fun rec4_ (n7_ : Int32) (k8_ : Int32) =>
  Option.bind (ag σ 1 752 3) fun x13_ =>
  if k8_ < x13_ then
  Option.bind (Option.bind (if q12_isOf set_a k8_ = true then (if ¬ k8_ = o_a then (Option.bind (q12_hasAhead σ p_a k8_ o_a) fun x26_ =>
  if x26_ = true then (some true) else (some false)) else (some false)) else (some false)) fun t22_ =>
  if t22_ = true then (some (1 : Int32)) else (some (0 : Int32))) fun x17_ =>
  lt (n7_ + x17_) fun n30_ =>
  lt (k8_ + 1) fun k32_ =>
  rec4_ n30_ k32_
  else (some (n7_, k8_))) fuelN (0 : Int32) (0 : Int32)) fun y1_ =>
  some y1_.1
abbrev rm12_aheadOf : Room := { frames := 1, cells := 0, slots := 0, locals := 24 }
set_option maxHeartbeats 4000000 in
set_option maxRecDepth 100000 in
theorem p12_aheadOf {Θ : Tz} {σ : St} {ρ : Option Value × St} (C : Zc Θ cX12_aheadOf 6 RX12 (some .int) rm12_aheadOf) (hkd : Θ.2.2.2.2.1 = kdM) {p_a : Int32} {o_a : Int32} {set_a : Int32} {r : Int32} (hf : q12_aheadOf σ p_a o_a set_a = some r) (hρ : ρ = (some (.int r), σ)) : Z Θ 6 0 0 (zQ Θ ρ) σ 0 [(0, .ref (zA Θ 0)), (1, .int p_a), (2, .int o_a), (3, .int set_a)] [] := by
  unfold q12_aheadOf at hf
  refine z_iconst (v := 0) C dX12_aheadOf_0 ic_0 ?_
  refine z_ist C dX12_aheadOf_1 rfl (Nat.le_of_ble_eq_true rfl) rfl ?_
  refine z_iconst (v := 0) C dX12_aheadOf_3 ic_0 ?_
  refine z_ist C dX12_aheadOf_4 rfl (Nat.le_of_ble_eq_true rfl) rfl ?_
  refine Z.sub [2, 3, 4, 5, 1, 0] rfl ?_
  obtain ⟨y1_, h2_, hf⟩ := ob hf
  suffices K3_ : Z Θ 6 0 0 (zQ Θ ρ) σ 59 [(0, .ref (zA Θ 0)), (1, .int p_a), (2, .int o_a), (3, .int set_a), (4, .int y1_.1), (5, .int y1_.2)] [] by
    refine loop2_Z (P := fun (n7_ : Int32) (k8_ : Int32) => Z Θ 6 0 0 (zQ Θ ρ) σ 6 [(0, .ref (zA Θ 0)), (1, .int p_a), (2, .int o_a), (3, .int set_a), (4, .int n7_), (5, .int k8_)] []) ?_ fuelN (0 : Int32) (0 : Int32) h2_
    clear h2_
    intro rec4_ n7_ k8_ h5_ h6_
    refine z_iload C 5 dX12_aheadOf_6 rfl ?_
    refine z_aload_n C 0 dX12_aheadOf_8 rfl rfl ?_
    refine fg12_7 C hkd dX12_aheadOf_9 ?_
    refine z_iconst (v := 3) C dX12_aheadOf_12 ic_3 ?_
    obtain ⟨x13_, h14_, h6_⟩ := ob h6_
    refine z_ag C h14_ (kM_1 hkd) dX12_aheadOf_13 ?_
    have K11_ : k8_ < x13_ → Z Θ 6 0 0 (zQ Θ ρ) σ 17 [(0, .ref (zA Θ 0)), (1, .int p_a), (2, .int o_a), (3, .int set_a), (4, .int n7_), (5, .int k8_)] [] := by
      intro h16_
      rw [if_pos h16_] at h6_
      refine z_iload C 4 dX12_aheadOf_17 rfl ?_
      obtain ⟨x17_, h18_, h6_⟩ := ob h6_
      suffices K19_ : Z Θ 6 0 0 (zQ Θ ρ) σ 50 [(0, .ref (zA Θ 0)), (1, .int p_a), (2, .int o_a), (3, .int set_a), (4, .int n7_), (5, .int k8_)] [.int x17_, .int n7_] by
        obtain ⟨t22_, h23_, h18_⟩ := ob h18_
        have K20_ : t22_ = true → Z Θ 6 0 0 (zQ Θ ρ) σ 45 [(0, .ref (zA Θ 0)), (1, .int p_a), (2, .int o_a), (3, .int set_a), (4, .int n7_), (5, .int k8_)] [.int n7_] := by
          intro h29_
          rw [if_pos h29_] at h18_
          refine z_iconst (v := 1) C dX12_aheadOf_45 ic_1 ?_
          refine z_goto C 50 dX12_aheadOf_46 (by decide) ?_
          cases h18_
          exact K19_
        have K21_ : ¬ (t22_ = true) → Z Θ 6 0 0 (zQ Θ ρ) σ 49 [(0, .ref (zA Θ 0)), (1, .int p_a), (2, .int o_a), (3, .int set_a), (4, .int n7_), (5, .int k8_)] [.int n7_] := by
          intro h29_
          rw [if_neg h29_] at h18_
          refine z_iconst (v := 0) C dX12_aheadOf_49 ic_0 ?_
          cases h18_
          exact K19_
        refine z_iload_n C 3 dX12_aheadOf_19 rfl rfl ?_
        refine z_iload C 5 dX12_aheadOf_20 rfl ?_
        refine cr12_275 (set_a := set_a) (k_a := k8_) C hkd  ⟨(Nat.le_of_ble_eq_true rfl), (Nat.le_of_ble_eq_true rfl)⟩ (Nat.le_of_ble_eq_true rfl) ⟨Nat.zero_le _, Nat.zero_le _⟩ dX12_aheadOf_22 ?_
        refine cb_f C 49 dX12_aheadOf_25 (by decide) (fun h24_ => ?_) (fun h24_ => ?_)
        · rw [if_pos h24_] at h23_
          refine z_iload C 5 dX12_aheadOf_28 rfl ?_
          refine z_iload_n C 2 dX12_aheadOf_30 rfl rfl ?_
          refine c_ne_f C 49 dX12_aheadOf_31 (by decide) (fun h25_ => ?_) (fun h25_ => ?_)
          · rw [if_pos h25_] at h23_
            refine z_aload_n C 0 dX12_aheadOf_34 rfl rfl ?_
            refine z_iload_n C 1 dX12_aheadOf_35 rfl rfl ?_
            refine z_iload C 5 dX12_aheadOf_36 rfl ?_
            refine z_iload_n C 2 dX12_aheadOf_38 rfl rfl ?_
            obtain ⟨x26_, h27_, h23_⟩ := ob h23_
            refine cr12_279 (p_a := p_a) (a_a := k8_) (b_a := o_a) C hkd  h27_ ⟨(Nat.le_of_ble_eq_true rfl), (Nat.le_of_ble_eq_true rfl)⟩ (Nat.le_of_ble_eq_true rfl) ⟨Nat.zero_le _, Nat.zero_le _⟩ dX12_aheadOf_39 ?_
            refine cb_f C 49 dX12_aheadOf_42 (by decide) (fun h28_ => ?_) (fun h28_ => ?_)
            · rw [if_pos h28_] at h23_
              cases h23_
              exact K20_ rfl
            · rw [if_neg h28_] at h23_
              cases h23_
              exact K21_ Bool.false_ne_true
          · rw [if_neg h25_] at h23_
            cases h23_
            exact K21_ Bool.false_ne_true
        · rw [if_neg h24_] at h23_
          cases h23_
          exact K21_ Bool.false_ne_true
      refine z_iadd C dX12_aheadOf_50 ?_
      obtain ⟨n30_, h31_, h6_⟩ := lt_ h6_
      refine z_ist C dX12_aheadOf_51 h31_ (Nat.le_of_ble_eq_true rfl) rfl ?_
      obtain ⟨k32_, h33_, h6_⟩ := lt_ h6_
      refine z_inc C 5 dX12_aheadOf_53 rfl ic_1 h33_ (Nat.le_of_ble_eq_true rfl) rfl ?_
      refine z_goto C 6 dX12_aheadOf_56 (by decide) ?_
      refine Z.sub [2, 3, 4, 5, 1, 0] rfl ?_
      exact h5_ _ _ h6_
    have K12_ : ¬ (k8_ < x13_) → Z Θ 6 0 0 (zQ Θ ρ) σ 59 [(0, .ref (zA Θ 0)), (1, .int p_a), (2, .int o_a), (3, .int set_a), (4, .int n7_), (5, .int k8_)] [] := by
      intro h16_
      rw [if_neg h16_] at h6_
      cases h6_
      exact K3_
    refine c_lt_f C 59 dX12_aheadOf_14 (by decide) (fun h15_ => ?_) (fun h15_ => ?_)
    · exact K11_ h15_
    · exact K12_ h15_
  refine z_iload C 4 dX12_aheadOf_59 rfl ?_
  cases hf
  subst hρ
  exact z_iret C dX12_aheadOf_61
theorem c12_aheadOf {l : Launch} {kd : List KD} {w : Wp} {σ : St} {p_a : Int32} {o_a : Int32} {set_a : Int32} (hkd : kd = kdM) (hi : zI kd w) {r : Int32} (hf : q12_aheadOf σ p_a o_a set_a = some r) : zM l kd w yX12_aheadOf cX12_aheadOf 6 (some .int) rm12_aheadOf [.ref (w.2.2.1 0), .int p_a, .int o_a, .int set_a] σ (some (.int r), σ) := zM_of rfl hi (Nat.le_of_ble_eq_true rfl) (fun Θ hl hw C => by
  obtain ⟨Θ1, Θ2, Θ3, Θ4, Θ5⟩ := Θ
  cases hw
  exact p12_aheadOf C hkd  hf rfl)
/-! LastLoafModel.inRank -/
theorem w_9_88 : Cond.code ({ cls := "LastLoafModel", name := "aheadOf", desc := "(III)I" } : MethodName) prog_14_method_46_code (6 : Nat) (Option.some ClassFile.FieldType.int) ∈ TB := tb_in (lwt_9 (List.mem_of_getElem? (i := 88) (by decide +kernel))) rfl
theorem w_9_85 : Cond.methodLink "LastLoafModel" (282 : Nat) ({ cls := "LastLoafModel", name := "aheadOf", desc := "(III)I" } : MethodName) ∈ TB := tb_in (lwt_9 (List.mem_of_getElem? (i := 85) (by decide +kernel))) rfl
theorem w_9_87 : Cond.instanceMethod ({ cls := "LastLoafModel", name := "aheadOf", desc := "(III)I" } : MethodName) ∈ TB := tb_in (lwt_9 (List.mem_of_getElem? (i := 87) (by decide +kernel))) rfl
theorem ws_LastLoafModel_aheadOf_III_I : Cond.selects "LastLoafModel" (⟨"LastLoafModel", "aheadOf", "(III)I"⟩ : MethodName) (⟨"LastLoafModel", "aheadOf", "(III)I"⟩ : MethodName) ∈ TB := tb_in (List.mem_append_left _ (List.mem_of_getElem? (i := 50) (by decide +kernel))) rfl
theorem cr12_282 {Θ : Tz} {cc : ByteArray} {nL kc ks : Nat} {ret : Option FieldType} {rm : Room} {Q : State → Prop} {σ : St} {pc : Nat} {lv : List (Nat × Value)} {st : List Value} (C : Zc Θ cc nL RX12 ret rm) (hkd : Θ.2.2.2.2.1 = kdM) {p_a : Int32} {o_a : Int32} {set_a : Int32} {r : Int32} (hx : q12_aheadOf σ p_a o_a set_a = some r) (hrm : rm12_aheadOf.frames + 1 ≤ rm.frames ∧ 8 + (6 + 11) + rm12_aheadOf.locals ≤ rm.locals) (hcat : (st.map fun v => v.category).sum ≤ 8) (hk : kc ≤ rm.cells ∧ ks ≤ rm.slots) (hd : decode cc pc = .ok (.invokevirtual 282, 3)) (kk : Z Θ nL kc ks Q σ (pc + 3) lv (.int r :: st)) : Z Θ nL kc ks Q σ pc lv (.int set_a :: .int o_a :: .int p_a :: .ref (zA Θ 0) :: st) := z_callV C 0 [.int p_a, .int o_a, .int set_a] (some (.int r), σ) 3 (kM_0 hkd) rfl (c12_aheadOf (p_a := p_a) (o_a := o_a) (set_a := set_a) hkd (zc_inj C) hx) w_9_88 w_9_85 w_9_87 ws_LastLoafModel_aheadOf_III_I w_1_14 ⟨rfl, rfl, hrm.1, hrm.2⟩ (by decide +kernel) rfl rfl hcat hk hd kk
theorem dX12_inRank_0 : decode cX12_inRank 0 = .ok (.iconst (-1), 1) := by decide +kernel
theorem dX12_inRank_1 : decode cX12_inRank 1 = .ok (.istore 4, 2) := by decide +kernel
theorem dX12_inRank_3 : decode cX12_inRank 3 = .ok (.iconst 0, 1) := by decide +kernel
theorem dX12_inRank_4 : decode cX12_inRank 4 = .ok (.istore 5, 2) := by decide +kernel
theorem dX12_inRank_6 : decode cX12_inRank 6 = .ok (.iload 5, 2) := by decide +kernel
theorem dX12_inRank_8 : decode cX12_inRank 8 = .ok (.aload_n 0, 1) := by decide +kernel
theorem dX12_inRank_9 : decode cX12_inRank 9 = .ok (.getfield 7, 3) := by decide +kernel
theorem dX12_inRank_12 : decode cX12_inRank 12 = .ok (.iconst 3, 1) := by decide +kernel
theorem dX12_inRank_13 : decode cX12_inRank 13 = .ok (.iaload, 1) := by decide +kernel
theorem dX12_inRank_14 : decode cX12_inRank 14 = .ok (.if_icmp .ge 34, 3) := by decide +kernel
theorem dX12_inRank_17 : decode cX12_inRank 17 = .ok (.iload_n 3, 1) := by decide +kernel
theorem dX12_inRank_18 : decode cX12_inRank 18 = .ok (.iload 5, 2) := by decide +kernel
theorem dX12_inRank_20 : decode cX12_inRank 20 = .ok (.invokestatic 275, 3) := by decide +kernel
theorem dX12_inRank_23 : decode cX12_inRank 23 = .ok (.ifCond .eq 19, 3) := by decide +kernel
theorem dX12_inRank_26 : decode cX12_inRank 26 = .ok (.aload_n 0, 1) := by decide +kernel
theorem dX12_inRank_27 : decode cX12_inRank 27 = .ok (.iload_n 1, 1) := by decide +kernel
theorem dX12_inRank_28 : decode cX12_inRank 28 = .ok (.iload 5, 2) := by decide +kernel
theorem dX12_inRank_30 : decode cX12_inRank 30 = .ok (.iload_n 3, 1) := by decide +kernel
theorem dX12_inRank_31 : decode cX12_inRank 31 = .ok (.invokevirtual 282, 3) := by decide +kernel
theorem dX12_inRank_34 : decode cX12_inRank 34 = .ok (.iload_n 2, 1) := by decide +kernel
theorem dX12_inRank_35 : decode cX12_inRank 35 = .ok (.if_icmp .ne 7, 3) := by decide +kernel
theorem dX12_inRank_38 : decode cX12_inRank 38 = .ok (.iload 5, 2) := by decide +kernel
theorem dX12_inRank_40 : decode cX12_inRank 40 = .ok (.istore 4, 2) := by decide +kernel
theorem dX12_inRank_42 : decode cX12_inRank 42 = .ok (.iinc 5 1, 3) := by decide +kernel
theorem dX12_inRank_45 : decode cX12_inRank 45 = .ok (.goto (-39), 3) := by decide +kernel
theorem dX12_inRank_48 : decode cX12_inRank 48 = .ok (.iload 4, 2) := by decide +kernel
theorem dX12_inRank_50 : decode cX12_inRank 50 = .ok (.ireturn, 1) := by decide +kernel
def q12_inRank (σ : St) (p_a : Int32) (k_a : Int32) (set_a : Int32) : Option Int32 :=
  Option.bind (loop2 (fun rec4_ (found7_ : Int32) (o8_ : Int32) =>
  Option.bind (ag σ 1 752 3) fun x13_ =>
  if o8_ < x13_ then
  Option.bind (Option.bind (if q12_isOf set_a o8_ = true then (Option.bind (q12_aheadOf σ p_a o8_ set_a) fun x25_ =>
  if x25_ = k_a then (some true) else (some false)) else (some false)) fun t22_ =>
  if t22_ = true then (some (o8_)) else (some (found7_))) fun y17_ =>
  lt (o8_ + 1) fun o29_ =>
  rec4_ y17_ o29_
  else (some (found7_, o8_))) fuelN (-1 : Int32) (0 : Int32)) fun y1_ =>
  some y1_.1
abbrev rm12_inRank : Room := { frames := 2, cells := 0, slots := 0, locals := 49 }
set_option maxHeartbeats 4000000 in
set_option maxRecDepth 100000 in
theorem p12_inRank {Θ : Tz} {σ : St} {ρ : Option Value × St} (C : Zc Θ cX12_inRank 6 RX12 (some .int) rm12_inRank) (hkd : Θ.2.2.2.2.1 = kdM) {p_a : Int32} {k_a : Int32} {set_a : Int32} {r : Int32} (hf : q12_inRank σ p_a k_a set_a = some r) (hρ : ρ = (some (.int r), σ)) : Z Θ 6 0 0 (zQ Θ ρ) σ 0 [(0, .ref (zA Θ 0)), (1, .int p_a), (2, .int k_a), (3, .int set_a)] [] := by
  unfold q12_inRank at hf
  refine z_iconst (v := (-1)) C dX12_inRank_0 ic_m1 ?_
  refine z_ist C dX12_inRank_1 rfl (Nat.le_of_ble_eq_true rfl) rfl ?_
  refine z_iconst (v := 0) C dX12_inRank_3 ic_0 ?_
  refine z_ist C dX12_inRank_4 rfl (Nat.le_of_ble_eq_true rfl) rfl ?_
  refine Z.sub [2, 3, 4, 5, 1, 0] rfl ?_
  obtain ⟨y1_, h2_, hf⟩ := ob hf
  suffices K3_ : Z Θ 6 0 0 (zQ Θ ρ) σ 48 [(0, .ref (zA Θ 0)), (1, .int p_a), (2, .int k_a), (3, .int set_a), (4, .int y1_.1), (5, .int y1_.2)] [] by
    refine loop2_Z (P := fun (found7_ : Int32) (o8_ : Int32) => Z Θ 6 0 0 (zQ Θ ρ) σ 6 [(0, .ref (zA Θ 0)), (1, .int p_a), (2, .int k_a), (3, .int set_a), (4, .int found7_), (5, .int o8_)] []) ?_ fuelN (-1 : Int32) (0 : Int32) h2_
    clear h2_
    intro rec4_ found7_ o8_ h5_ h6_
    refine z_iload C 5 dX12_inRank_6 rfl ?_
    refine z_aload_n C 0 dX12_inRank_8 rfl rfl ?_
    refine fg12_7 C hkd dX12_inRank_9 ?_
    refine z_iconst (v := 3) C dX12_inRank_12 ic_3 ?_
    obtain ⟨x13_, h14_, h6_⟩ := ob h6_
    refine z_ag C h14_ (kM_1 hkd) dX12_inRank_13 ?_
    have K11_ : o8_ < x13_ → Z Θ 6 0 0 (zQ Θ ρ) σ 17 [(0, .ref (zA Θ 0)), (1, .int p_a), (2, .int k_a), (3, .int set_a), (4, .int found7_), (5, .int o8_)] [] := by
      intro h16_
      rw [if_pos h16_] at h6_
      obtain ⟨y17_, h18_, h6_⟩ := ob h6_
      suffices K19_ : Z Θ 6 0 0 (zQ Θ ρ) σ 42 [(0, .ref (zA Θ 0)), (1, .int p_a), (2, .int k_a), (3, .int set_a), (4, .int y17_), (5, .int o8_)] [] by
        obtain ⟨t22_, h23_, h18_⟩ := ob h18_
        have K20_ : t22_ = true → Z Θ 6 0 0 (zQ Θ ρ) σ 38 [(0, .ref (zA Θ 0)), (1, .int p_a), (2, .int k_a), (3, .int set_a), (4, .int found7_), (5, .int o8_)] [] := by
          intro h28_
          rw [if_pos h28_] at h18_
          refine z_iload C 5 dX12_inRank_38 rfl ?_
          refine z_ist C dX12_inRank_40 rfl (Nat.le_of_ble_eq_true rfl) rfl ?_
          cases h18_
          refine Z.sub [1, 2, 3, 4, 0, 5] rfl ?_
          exact K19_
        have K21_ : ¬ (t22_ = true) → Z Θ 6 0 0 (zQ Θ ρ) σ 42 [(0, .ref (zA Θ 0)), (1, .int p_a), (2, .int k_a), (3, .int set_a), (4, .int found7_), (5, .int o8_)] [] := by
          intro h28_
          rw [if_neg h28_] at h18_
          cases h18_
          exact K19_
        refine z_iload_n C 3 dX12_inRank_17 rfl rfl ?_
        refine z_iload C 5 dX12_inRank_18 rfl ?_
        refine cr12_275 (set_a := set_a) (k_a := o8_) C hkd  ⟨(Nat.le_of_ble_eq_true rfl), (Nat.le_of_ble_eq_true rfl)⟩ (Nat.le_of_ble_eq_true rfl) ⟨Nat.zero_le _, Nat.zero_le _⟩ dX12_inRank_20 ?_
        refine cb_f C 42 dX12_inRank_23 (by decide) (fun h24_ => ?_) (fun h24_ => ?_)
        · rw [if_pos h24_] at h23_
          refine z_aload_n C 0 dX12_inRank_26 rfl rfl ?_
          refine z_iload_n C 1 dX12_inRank_27 rfl rfl ?_
          refine z_iload C 5 dX12_inRank_28 rfl ?_
          refine z_iload_n C 3 dX12_inRank_30 rfl rfl ?_
          obtain ⟨x25_, h26_, h23_⟩ := ob h23_
          refine cr12_282 (p_a := p_a) (o_a := o8_) (set_a := set_a) C hkd  h26_ ⟨(Nat.le_of_ble_eq_true rfl), (Nat.le_of_ble_eq_true rfl)⟩ (Nat.le_of_ble_eq_true rfl) ⟨Nat.zero_le _, Nat.zero_le _⟩ dX12_inRank_31 ?_
          refine z_iload_n C 2 dX12_inRank_34 rfl rfl ?_
          refine c_eq_f C 42 dX12_inRank_35 (by decide) (fun h27_ => ?_) (fun h27_ => ?_)
          · rw [if_pos h27_] at h23_
            cases h23_
            exact K20_ rfl
          · rw [if_neg h27_] at h23_
            cases h23_
            exact K21_ Bool.false_ne_true
        · rw [if_neg h24_] at h23_
          cases h23_
          exact K21_ Bool.false_ne_true
      obtain ⟨o29_, h30_, h6_⟩ := lt_ h6_
      refine z_inc C 5 dX12_inRank_42 rfl ic_1 h30_ (Nat.le_of_ble_eq_true rfl) rfl ?_
      refine z_goto C 6 dX12_inRank_45 (by decide) ?_
      refine Z.sub [1, 2, 3, 4, 5, 0] rfl ?_
      exact h5_ _ _ h6_
    have K12_ : ¬ (o8_ < x13_) → Z Θ 6 0 0 (zQ Θ ρ) σ 48 [(0, .ref (zA Θ 0)), (1, .int p_a), (2, .int k_a), (3, .int set_a), (4, .int found7_), (5, .int o8_)] [] := by
      intro h16_
      rw [if_neg h16_] at h6_
      cases h6_
      exact K3_
    refine c_lt_f C 48 dX12_inRank_14 (by decide) (fun h15_ => ?_) (fun h15_ => ?_)
    · exact K11_ h15_
    · exact K12_ h15_
  refine z_iload C 4 dX12_inRank_48 rfl ?_
  cases hf
  subst hρ
  exact z_iret C dX12_inRank_50
theorem c12_inRank {l : Launch} {kd : List KD} {w : Wp} {σ : St} {p_a : Int32} {k_a : Int32} {set_a : Int32} (hkd : kd = kdM) (hi : zI kd w) {r : Int32} (hf : q12_inRank σ p_a k_a set_a = some r) : zM l kd w yX12_inRank cX12_inRank 6 (some .int) rm12_inRank [.ref (w.2.2.1 0), .int p_a, .int k_a, .int set_a] σ (some (.int r), σ) := zM_of rfl hi (Nat.le_of_ble_eq_true rfl) (fun Θ hl hw C => by
  obtain ⟨Θ1, Θ2, Θ3, Θ4, Θ5⟩ := Θ
  cases hw
  exact p12_inRank C hkd  hf rfl)
/-! LastLoafModel.votesAt -/
theorem dX12_votesAt_0 : decode cX12_votesAt 0 = .ok (.iconst 0, 1) := by decide +kernel
theorem dX12_votesAt_1 : decode cX12_votesAt 1 = .ok (.istore 4, 2) := by decide +kernel
theorem dX12_votesAt_3 : decode cX12_votesAt 3 = .ok (.iconst 0, 1) := by decide +kernel
theorem dX12_votesAt_4 : decode cX12_votesAt 4 = .ok (.istore 5, 2) := by decide +kernel
theorem dX12_votesAt_6 : decode cX12_votesAt 6 = .ok (.iload 5, 2) := by decide +kernel
theorem dX12_votesAt_8 : decode cX12_votesAt 8 = .ok (.aload_n 0, 1) := by decide +kernel
theorem dX12_votesAt_9 : decode cX12_votesAt 9 = .ok (.getfield 7, 3) := by decide +kernel
theorem dX12_votesAt_12 : decode cX12_votesAt 12 = .ok (.iconst 3, 1) := by decide +kernel
theorem dX12_votesAt_13 : decode cX12_votesAt 13 = .ok (.iaload, 1) := by decide +kernel
theorem dX12_votesAt_14 : decode cX12_votesAt 14 = .ok (.if_icmp .ge 51, 3) := by decide +kernel
theorem dX12_votesAt_17 : decode cX12_votesAt 17 = .ok (.iload 4, 2) := by decide +kernel
theorem dX12_votesAt_19 : decode cX12_votesAt 19 = .ok (.aload_n 0, 1) := by decide +kernel
theorem dX12_votesAt_20 : decode cX12_votesAt 20 = .ok (.getfield 263, 3) := by decide +kernel
theorem dX12_votesAt_23 : decode cX12_votesAt 23 = .ok (.iload 5, 2) := by decide +kernel
theorem dX12_votesAt_25 : decode cX12_votesAt 25 = .ok (.invokestatic 275, 3) := by decide +kernel
theorem dX12_votesAt_28 : decode cX12_votesAt 28 = .ok (.ifCond .eq 27, 3) := by decide +kernel
theorem dX12_votesAt_31 : decode cX12_votesAt 31 = .ok (.iload_n 3, 1) := by decide +kernel
theorem dX12_votesAt_32 : decode cX12_votesAt 32 = .ok (.iload_n 1, 1) := by decide +kernel
theorem dX12_votesAt_33 : decode cX12_votesAt 33 = .ok (.invokestatic 275, 3) := by decide +kernel
theorem dX12_votesAt_36 : decode cX12_votesAt 36 = .ok (.ifCond .eq 19, 3) := by decide +kernel
theorem dX12_votesAt_39 : decode cX12_votesAt 39 = .ok (.aload_n 0, 1) := by decide +kernel
theorem dX12_votesAt_40 : decode cX12_votesAt 40 = .ok (.iload 5, 2) := by decide +kernel
theorem dX12_votesAt_42 : decode cX12_votesAt 42 = .ok (.iload_n 1, 1) := by decide +kernel
theorem dX12_votesAt_43 : decode cX12_votesAt 43 = .ok (.iload_n 3, 1) := by decide +kernel
theorem dX12_votesAt_44 : decode cX12_votesAt 44 = .ok (.invokevirtual 282, 3) := by decide +kernel
theorem dX12_votesAt_47 : decode cX12_votesAt 47 = .ok (.iload_n 2, 1) := by decide +kernel
theorem dX12_votesAt_48 : decode cX12_votesAt 48 = .ok (.if_icmp .ne 7, 3) := by decide +kernel
theorem dX12_votesAt_51 : decode cX12_votesAt 51 = .ok (.iconst 1, 1) := by decide +kernel
theorem dX12_votesAt_52 : decode cX12_votesAt 52 = .ok (.goto 4, 3) := by decide +kernel
theorem dX12_votesAt_55 : decode cX12_votesAt 55 = .ok (.iconst 0, 1) := by decide +kernel
theorem dX12_votesAt_56 : decode cX12_votesAt 56 = .ok (.iadd, 1) := by decide +kernel
theorem dX12_votesAt_57 : decode cX12_votesAt 57 = .ok (.istore 4, 2) := by decide +kernel
theorem dX12_votesAt_59 : decode cX12_votesAt 59 = .ok (.iinc 5 1, 3) := by decide +kernel
theorem dX12_votesAt_62 : decode cX12_votesAt 62 = .ok (.goto (-56), 3) := by decide +kernel
theorem dX12_votesAt_65 : decode cX12_votesAt 65 = .ok (.iload 4, 2) := by decide +kernel
theorem dX12_votesAt_67 : decode cX12_votesAt 67 = .ok (.ireturn, 1) := by decide +kernel
def q12_votesAt (σ : St) (o_a : Int32) (k_a : Int32) (set_a : Int32) : Option Int32 :=
  Option.bind (loop2 (fun rec4_ (n7_ : Int32) (p8_ : Int32) =>
  Option.bind (ag σ 1 752 3) fun x13_ =>
  if p8_ < x13_ then
  Option.bind (Option.bind (if q12_isOf (σ 0 20) p8_ = true then (if q12_isOf set_a o_a = true then (Option.bind (q12_aheadOf σ p8_ o_a set_a) fun x26_ =>
  if x26_ = k_a then (some true) else (some false)) else (some false)) else (some false)) fun t22_ =>
  if t22_ = true then (some (1 : Int32)) else (some (0 : Int32))) fun x17_ =>
  lt (n7_ + x17_) fun n30_ =>
  lt (p8_ + 1) fun p32_ =>
  rec4_ n30_ p32_
  else (some (n7_, p8_))) fuelN (0 : Int32) (0 : Int32)) fun y1_ =>
  some y1_.1
abbrev rm12_votesAt : Room := { frames := 2, cells := 0, slots := 0, locals := 49 }
set_option maxHeartbeats 4000000 in
set_option maxRecDepth 100000 in
theorem p12_votesAt {Θ : Tz} {σ : St} {ρ : Option Value × St} (C : Zc Θ cX12_votesAt 6 RX12 (some .int) rm12_votesAt) (hkd : Θ.2.2.2.2.1 = kdM) {o_a : Int32} {k_a : Int32} {set_a : Int32} {r : Int32} (hf : q12_votesAt σ o_a k_a set_a = some r) (hρ : ρ = (some (.int r), σ)) : Z Θ 6 0 0 (zQ Θ ρ) σ 0 [(0, .ref (zA Θ 0)), (1, .int o_a), (2, .int k_a), (3, .int set_a)] [] := by
  unfold q12_votesAt at hf
  refine z_iconst (v := 0) C dX12_votesAt_0 ic_0 ?_
  refine z_ist C dX12_votesAt_1 rfl (Nat.le_of_ble_eq_true rfl) rfl ?_
  refine z_iconst (v := 0) C dX12_votesAt_3 ic_0 ?_
  refine z_ist C dX12_votesAt_4 rfl (Nat.le_of_ble_eq_true rfl) rfl ?_
  refine Z.sub [2, 3, 4, 5, 1, 0] rfl ?_
  obtain ⟨y1_, h2_, hf⟩ := ob hf
  suffices K3_ : Z Θ 6 0 0 (zQ Θ ρ) σ 65 [(0, .ref (zA Θ 0)), (1, .int o_a), (2, .int k_a), (3, .int set_a), (4, .int y1_.1), (5, .int y1_.2)] [] by
    refine loop2_Z (P := fun (n7_ : Int32) (p8_ : Int32) => Z Θ 6 0 0 (zQ Θ ρ) σ 6 [(0, .ref (zA Θ 0)), (1, .int o_a), (2, .int k_a), (3, .int set_a), (4, .int n7_), (5, .int p8_)] []) ?_ fuelN (0 : Int32) (0 : Int32) h2_
    clear h2_
    intro rec4_ n7_ p8_ h5_ h6_
    refine z_iload C 5 dX12_votesAt_6 rfl ?_
    refine z_aload_n C 0 dX12_votesAt_8 rfl rfl ?_
    refine fg12_7 C hkd dX12_votesAt_9 ?_
    refine z_iconst (v := 3) C dX12_votesAt_12 ic_3 ?_
    obtain ⟨x13_, h14_, h6_⟩ := ob h6_
    refine z_ag C h14_ (kM_1 hkd) dX12_votesAt_13 ?_
    have K11_ : p8_ < x13_ → Z Θ 6 0 0 (zQ Θ ρ) σ 17 [(0, .ref (zA Θ 0)), (1, .int o_a), (2, .int k_a), (3, .int set_a), (4, .int n7_), (5, .int p8_)] [] := by
      intro h16_
      rw [if_pos h16_] at h6_
      refine z_iload C 4 dX12_votesAt_17 rfl ?_
      obtain ⟨x17_, h18_, h6_⟩ := ob h6_
      suffices K19_ : Z Θ 6 0 0 (zQ Θ ρ) σ 56 [(0, .ref (zA Θ 0)), (1, .int o_a), (2, .int k_a), (3, .int set_a), (4, .int n7_), (5, .int p8_)] [.int x17_, .int n7_] by
        obtain ⟨t22_, h23_, h18_⟩ := ob h18_
        have K20_ : t22_ = true → Z Θ 6 0 0 (zQ Θ ρ) σ 51 [(0, .ref (zA Θ 0)), (1, .int o_a), (2, .int k_a), (3, .int set_a), (4, .int n7_), (5, .int p8_)] [.int n7_] := by
          intro h29_
          rw [if_pos h29_] at h18_
          refine z_iconst (v := 1) C dX12_votesAt_51 ic_1 ?_
          refine z_goto C 56 dX12_votesAt_52 (by decide) ?_
          cases h18_
          exact K19_
        have K21_ : ¬ (t22_ = true) → Z Θ 6 0 0 (zQ Θ ρ) σ 55 [(0, .ref (zA Θ 0)), (1, .int o_a), (2, .int k_a), (3, .int set_a), (4, .int n7_), (5, .int p8_)] [.int n7_] := by
          intro h29_
          rw [if_neg h29_] at h18_
          refine z_iconst (v := 0) C dX12_votesAt_55 ic_0 ?_
          cases h18_
          exact K19_
        refine z_aload_n C 0 dX12_votesAt_19 rfl rfl ?_
        refine fg12_263 C hkd dX12_votesAt_20 ?_
        refine z_iload C 5 dX12_votesAt_23 rfl ?_
        refine cr12_275 (set_a := (σ 0 20)) (k_a := p8_) C hkd  ⟨(Nat.le_of_ble_eq_true rfl), (Nat.le_of_ble_eq_true rfl)⟩ (Nat.le_of_ble_eq_true rfl) ⟨Nat.zero_le _, Nat.zero_le _⟩ dX12_votesAt_25 ?_
        refine cb_f C 55 dX12_votesAt_28 (by decide) (fun h24_ => ?_) (fun h24_ => ?_)
        · rw [if_pos h24_] at h23_
          refine z_iload_n C 3 dX12_votesAt_31 rfl rfl ?_
          refine z_iload_n C 1 dX12_votesAt_32 rfl rfl ?_
          refine cr12_275 (set_a := set_a) (k_a := o_a) C hkd  ⟨(Nat.le_of_ble_eq_true rfl), (Nat.le_of_ble_eq_true rfl)⟩ (Nat.le_of_ble_eq_true rfl) ⟨Nat.zero_le _, Nat.zero_le _⟩ dX12_votesAt_33 ?_
          refine cb_f C 55 dX12_votesAt_36 (by decide) (fun h25_ => ?_) (fun h25_ => ?_)
          · rw [if_pos h25_] at h23_
            refine z_aload_n C 0 dX12_votesAt_39 rfl rfl ?_
            refine z_iload C 5 dX12_votesAt_40 rfl ?_
            refine z_iload_n C 1 dX12_votesAt_42 rfl rfl ?_
            refine z_iload_n C 3 dX12_votesAt_43 rfl rfl ?_
            obtain ⟨x26_, h27_, h23_⟩ := ob h23_
            refine cr12_282 (p_a := p8_) (o_a := o_a) (set_a := set_a) C hkd  h27_ ⟨(Nat.le_of_ble_eq_true rfl), (Nat.le_of_ble_eq_true rfl)⟩ (Nat.le_of_ble_eq_true rfl) ⟨Nat.zero_le _, Nat.zero_le _⟩ dX12_votesAt_44 ?_
            refine z_iload_n C 2 dX12_votesAt_47 rfl rfl ?_
            refine c_eq_f C 55 dX12_votesAt_48 (by decide) (fun h28_ => ?_) (fun h28_ => ?_)
            · rw [if_pos h28_] at h23_
              cases h23_
              exact K20_ rfl
            · rw [if_neg h28_] at h23_
              cases h23_
              exact K21_ Bool.false_ne_true
          · rw [if_neg h25_] at h23_
            cases h23_
            exact K21_ Bool.false_ne_true
        · rw [if_neg h24_] at h23_
          cases h23_
          exact K21_ Bool.false_ne_true
      refine z_iadd C dX12_votesAt_56 ?_
      obtain ⟨n30_, h31_, h6_⟩ := lt_ h6_
      refine z_ist C dX12_votesAt_57 h31_ (Nat.le_of_ble_eq_true rfl) rfl ?_
      obtain ⟨p32_, h33_, h6_⟩ := lt_ h6_
      refine z_inc C 5 dX12_votesAt_59 rfl ic_1 h33_ (Nat.le_of_ble_eq_true rfl) rfl ?_
      refine z_goto C 6 dX12_votesAt_62 (by decide) ?_
      refine Z.sub [2, 3, 4, 5, 1, 0] rfl ?_
      exact h5_ _ _ h6_
    have K12_ : ¬ (p8_ < x13_) → Z Θ 6 0 0 (zQ Θ ρ) σ 65 [(0, .ref (zA Θ 0)), (1, .int o_a), (2, .int k_a), (3, .int set_a), (4, .int n7_), (5, .int p8_)] [] := by
      intro h16_
      rw [if_neg h16_] at h6_
      cases h6_
      exact K3_
    refine c_lt_f C 65 dX12_votesAt_14 (by decide) (fun h15_ => ?_) (fun h15_ => ?_)
    · exact K11_ h15_
    · exact K12_ h15_
  refine z_iload C 4 dX12_votesAt_65 rfl ?_
  cases hf
  subst hρ
  exact z_iret C dX12_votesAt_67
theorem c12_votesAt {l : Launch} {kd : List KD} {w : Wp} {σ : St} {o_a : Int32} {k_a : Int32} {set_a : Int32} (hkd : kd = kdM) (hi : zI kd w) {r : Int32} (hf : q12_votesAt σ o_a k_a set_a = some r) : zM l kd w yX12_votesAt cX12_votesAt 6 (some .int) rm12_votesAt [.ref (w.2.2.1 0), .int o_a, .int k_a, .int set_a] σ (some (.int r), σ) := zM_of rfl hi (Nat.le_of_ble_eq_true rfl) (fun Θ hl hw C => by
  obtain ⟨Θ1, Θ2, Θ3, Θ4, Θ5⟩ := Θ
  cases hw
  exact p12_votesAt C hkd  hf rfl)
/-! LastLoafModel.pointsOf -/
theorem fg12_269 {Θ : Tz} {cc : ByteArray} {nL kc ks : Nat} {ret : Option FieldType} {rm : Room} {Q : State → Prop} {σ : St} {pc : Nat} {lv : List (Nat × Value)} {st : List Value} (C : Zc Θ cc nL RX12 ret rm) (hkd : Θ.2.2.2.2.1 = kdM) (hd : decode cc pc = .ok (.getfield 269, 3)) (kk : Z Θ nL kc ks Q σ (pc + 3) lv (.int (σ 0 21) :: st)) : Z Θ nL kc ks Q σ pc lv (.ref (zA Θ 0) :: st) := z_get C inT12 0 (kM_0 hkd) rfl 21 (by decide) w_8_48 rfl hd kk
theorem w_9_103 : Cond.code ({ cls := "LastLoafModel", name := "bits", desc := "(I)I" } : MethodName) prog_14_method_7_code (3 : Nat) (Option.some ClassFile.FieldType.int) ∈ TB := tb_in (lwt_9 (List.mem_of_getElem? (i := 103) (by decide +kernel))) rfl
theorem w_9_102 : Cond.static ({ cls := "LastLoafModel", name := "bits", desc := "(I)I" } : MethodName) ∈ TB := tb_in (lwt_9 (List.mem_of_getElem? (i := 102) (by decide +kernel))) rfl
theorem w_9_101 : Cond.methodLink "LastLoafModel" (286 : Nat) ({ cls := "LastLoafModel", name := "bits", desc := "(I)I" } : MethodName) ∈ TB := tb_in (lwt_9 (List.mem_of_getElem? (i := 101) (by decide +kernel))) rfl
theorem cr12_286 {Θ : Tz} {cc : ByteArray} {nL kc ks : Nat} {ret : Option FieldType} {rm : Room} {Q : State → Prop} {σ : St} {pc : Nat} {lv : List (Nat × Value)} {st : List Value} (C : Zc Θ cc nL RX12 ret rm) (hkd : Θ.2.2.2.2.1 = kdM) {set_a : Int32} {r : Int32} (hx : q12_bits set_a = some r) (hrm : rm12_bits.frames + 1 ≤ rm.frames ∧ 8 + (3 + 11) + rm12_bits.locals ≤ rm.locals) (hcat : (st.map fun v => v.category).sum ≤ 8) (hk : kc ≤ rm.cells ∧ ks ≤ rm.slots) (hd : decode cc pc = .ok (.invokestatic 286, 3)) (kk : Z Θ nL kc ks Q σ (pc + 3) lv (.int r :: st)) : Z Θ nL kc ks Q σ pc lv (.int set_a :: st) := z_callS C [.int set_a] (some (.int r), σ) 1 (c12_bits (set_a := set_a) hkd (zc_inj C) hx) w_9_103 w_9_101 w_9_102 w_1_14 ⟨rfl, rfl, hrm.1, hrm.2⟩ (by decide +kernel) rfl rfl hcat hk hd kk
theorem dX12_pointsOf_0 : decode cX12_pointsOf 0 = .ok (.iconst 0, 1) := by decide +kernel
theorem dX12_pointsOf_1 : decode cX12_pointsOf 1 = .ok (.istore_n 2, 1) := by decide +kernel
theorem dX12_pointsOf_2 : decode cX12_pointsOf 2 = .ok (.iconst 0, 1) := by decide +kernel
theorem dX12_pointsOf_3 : decode cX12_pointsOf 3 = .ok (.istore_n 3, 1) := by decide +kernel
theorem dX12_pointsOf_4 : decode cX12_pointsOf 4 = .ok (.iload_n 3, 1) := by decide +kernel
theorem dX12_pointsOf_5 : decode cX12_pointsOf 5 = .ok (.aload_n 0, 1) := by decide +kernel
theorem dX12_pointsOf_6 : decode cX12_pointsOf 6 = .ok (.getfield 7, 3) := by decide +kernel
theorem dX12_pointsOf_9 : decode cX12_pointsOf 9 = .ok (.iconst 3, 1) := by decide +kernel
theorem dX12_pointsOf_10 : decode cX12_pointsOf 10 = .ok (.iaload, 1) := by decide +kernel
theorem dX12_pointsOf_11 : decode cX12_pointsOf 11 = .ok (.if_icmp .ge 58, 3) := by decide +kernel
theorem dX12_pointsOf_14 : decode cX12_pointsOf 14 = .ok (.iload_n 2, 1) := by decide +kernel
theorem dX12_pointsOf_15 : decode cX12_pointsOf 15 = .ok (.aload_n 0, 1) := by decide +kernel
theorem dX12_pointsOf_16 : decode cX12_pointsOf 16 = .ok (.getfield 263, 3) := by decide +kernel
theorem dX12_pointsOf_19 : decode cX12_pointsOf 19 = .ok (.iload_n 3, 1) := by decide +kernel
theorem dX12_pointsOf_20 : decode cX12_pointsOf 20 = .ok (.invokestatic 275, 3) := by decide +kernel
theorem dX12_pointsOf_23 : decode cX12_pointsOf 23 = .ok (.ifCond .eq 37, 3) := by decide +kernel
theorem dX12_pointsOf_26 : decode cX12_pointsOf 26 = .ok (.aload_n 0, 1) := by decide +kernel
theorem dX12_pointsOf_27 : decode cX12_pointsOf 27 = .ok (.getfield 269, 3) := by decide +kernel
theorem dX12_pointsOf_30 : decode cX12_pointsOf 30 = .ok (.iload_n 1, 1) := by decide +kernel
theorem dX12_pointsOf_31 : decode cX12_pointsOf 31 = .ok (.invokestatic 275, 3) := by decide +kernel
theorem dX12_pointsOf_34 : decode cX12_pointsOf 34 = .ok (.ifCond .eq 26, 3) := by decide +kernel
theorem dX12_pointsOf_37 : decode cX12_pointsOf 37 = .ok (.aload_n 0, 1) := by decide +kernel
theorem dX12_pointsOf_38 : decode cX12_pointsOf 38 = .ok (.getfield 269, 3) := by decide +kernel
theorem dX12_pointsOf_41 : decode cX12_pointsOf 41 = .ok (.invokestatic 286, 3) := by decide +kernel
theorem dX12_pointsOf_44 : decode cX12_pointsOf 44 = .ok (.iconst 1, 1) := by decide +kernel
theorem dX12_pointsOf_45 : decode cX12_pointsOf 45 = .ok (.isub, 1) := by decide +kernel
theorem dX12_pointsOf_46 : decode cX12_pointsOf 46 = .ok (.aload_n 0, 1) := by decide +kernel
theorem dX12_pointsOf_47 : decode cX12_pointsOf 47 = .ok (.iload_n 3, 1) := by decide +kernel
theorem dX12_pointsOf_48 : decode cX12_pointsOf 48 = .ok (.iload_n 1, 1) := by decide +kernel
theorem dX12_pointsOf_49 : decode cX12_pointsOf 49 = .ok (.aload_n 0, 1) := by decide +kernel
theorem dX12_pointsOf_50 : decode cX12_pointsOf 50 = .ok (.getfield 269, 3) := by decide +kernel
theorem dX12_pointsOf_53 : decode cX12_pointsOf 53 = .ok (.invokevirtual 282, 3) := by decide +kernel
theorem dX12_pointsOf_56 : decode cX12_pointsOf 56 = .ok (.isub, 1) := by decide +kernel
theorem dX12_pointsOf_57 : decode cX12_pointsOf 57 = .ok (.goto 4, 3) := by decide +kernel
theorem dX12_pointsOf_60 : decode cX12_pointsOf 60 = .ok (.iconst 0, 1) := by decide +kernel
theorem dX12_pointsOf_61 : decode cX12_pointsOf 61 = .ok (.iadd, 1) := by decide +kernel
theorem dX12_pointsOf_62 : decode cX12_pointsOf 62 = .ok (.istore_n 2, 1) := by decide +kernel
theorem dX12_pointsOf_63 : decode cX12_pointsOf 63 = .ok (.iinc 3 1, 3) := by decide +kernel
theorem dX12_pointsOf_66 : decode cX12_pointsOf 66 = .ok (.goto (-62), 3) := by decide +kernel
theorem dX12_pointsOf_69 : decode cX12_pointsOf 69 = .ok (.iload_n 2, 1) := by decide +kernel
theorem dX12_pointsOf_70 : decode cX12_pointsOf 70 = .ok (.ireturn, 1) := by decide +kernel
def q12_pointsOf (σ : St) (o_a : Int32) : Option Int32 :=
  Option.bind (loop2 (fun rec4_ (n7_ : Int32) (p8_ : Int32) =>
  Option.bind (ag σ 1 752 3) fun x13_ =>
  if p8_ < x13_ then
  Option.bind (if (q12_isOf (σ 0 20) p8_ = true) ∧ (q12_isOf (σ 0 21) o_a = true) then (Option.bind (q12_bits (σ 0 21)) fun x24_ =>
  Option.bind (q12_aheadOf σ p8_ o_a (σ 0 21)) fun x26_ =>
  some ((x24_ - 1) - x26_)) else (some (0 : Int32))) fun x17_ =>
  lt (n7_ + x17_) fun n29_ =>
  lt (p8_ + 1) fun p31_ =>
  rec4_ n29_ p31_
  else (some (n7_, p8_))) fuelN (0 : Int32) (0 : Int32)) fun y1_ =>
  some y1_.1
abbrev rm12_pointsOf : Room := { frames := 2, cells := 0, slots := 0, locals := 49 }
set_option maxHeartbeats 4000000 in
set_option maxRecDepth 100000 in
theorem p12_pointsOf {Θ : Tz} {σ : St} {ρ : Option Value × St} (C : Zc Θ cX12_pointsOf 4 RX12 (some .int) rm12_pointsOf) (hkd : Θ.2.2.2.2.1 = kdM) {o_a : Int32} {r : Int32} (hf : q12_pointsOf σ o_a = some r) (hρ : ρ = (some (.int r), σ)) : Z Θ 4 0 0 (zQ Θ ρ) σ 0 [(0, .ref (zA Θ 0)), (1, .int o_a)] [] := by
  unfold q12_pointsOf at hf
  refine z_iconst (v := 0) C dX12_pointsOf_0 ic_0 ?_
  refine z_istN C dX12_pointsOf_1 rfl rfl (Nat.le_of_ble_eq_true rfl) rfl ?_
  refine z_iconst (v := 0) C dX12_pointsOf_2 ic_0 ?_
  refine z_istN C dX12_pointsOf_3 rfl rfl (Nat.le_of_ble_eq_true rfl) rfl ?_
  refine Z.sub [2, 3, 1, 0] rfl ?_
  obtain ⟨y1_, h2_, hf⟩ := ob hf
  suffices K3_ : Z Θ 4 0 0 (zQ Θ ρ) σ 69 [(0, .ref (zA Θ 0)), (1, .int o_a), (2, .int y1_.1), (3, .int y1_.2)] [] by
    refine loop2_Z (P := fun (n7_ : Int32) (p8_ : Int32) => Z Θ 4 0 0 (zQ Θ ρ) σ 4 [(0, .ref (zA Θ 0)), (1, .int o_a), (2, .int n7_), (3, .int p8_)] []) ?_ fuelN (0 : Int32) (0 : Int32) h2_
    clear h2_
    intro rec4_ n7_ p8_ h5_ h6_
    refine z_iload_n C 3 dX12_pointsOf_4 rfl rfl ?_
    refine z_aload_n C 0 dX12_pointsOf_5 rfl rfl ?_
    refine fg12_7 C hkd dX12_pointsOf_6 ?_
    refine z_iconst (v := 3) C dX12_pointsOf_9 ic_3 ?_
    obtain ⟨x13_, h14_, h6_⟩ := ob h6_
    refine z_ag C h14_ (kM_1 hkd) dX12_pointsOf_10 ?_
    have K11_ : p8_ < x13_ → Z Θ 4 0 0 (zQ Θ ρ) σ 14 [(0, .ref (zA Θ 0)), (1, .int o_a), (2, .int n7_), (3, .int p8_)] [] := by
      intro h16_
      rw [if_pos h16_] at h6_
      refine z_iload_n C 2 dX12_pointsOf_14 rfl rfl ?_
      obtain ⟨x17_, h18_, h6_⟩ := ob h6_
      suffices K19_ : Z Θ 4 0 0 (zQ Θ ρ) σ 61 [(0, .ref (zA Θ 0)), (1, .int o_a), (2, .int n7_), (3, .int p8_)] [.int x17_, .int n7_] by
        have K20_ : (q12_isOf (σ 0 20) p8_ = true) ∧ (q12_isOf (σ 0 21) o_a = true) → Z Θ 4 0 0 (zQ Θ ρ) σ 37 [(0, .ref (zA Θ 0)), (1, .int o_a), (2, .int n7_), (3, .int p8_)] [.int n7_] := by
          intro h28_
          rw [if_pos h28_] at h18_
          refine z_aload_n C 0 dX12_pointsOf_37 rfl rfl ?_
          refine fg12_269 C hkd dX12_pointsOf_38 ?_
          obtain ⟨x24_, h25_, h18_⟩ := ob h18_
          refine cr12_286 (set_a := (σ 0 21)) C hkd  h25_ ⟨(Nat.le_of_ble_eq_true rfl), (Nat.le_of_ble_eq_true rfl)⟩ (Nat.le_of_ble_eq_true rfl) ⟨Nat.zero_le _, Nat.zero_le _⟩ dX12_pointsOf_41 ?_
          refine z_iconst (v := 1) C dX12_pointsOf_44 ic_1 ?_
          refine z_isub C dX12_pointsOf_45 ?_
          refine z_aload_n C 0 dX12_pointsOf_46 rfl rfl ?_
          refine z_iload_n C 3 dX12_pointsOf_47 rfl rfl ?_
          refine z_iload_n C 1 dX12_pointsOf_48 rfl rfl ?_
          refine z_aload_n C 0 dX12_pointsOf_49 rfl rfl ?_
          refine fg12_269 C hkd dX12_pointsOf_50 ?_
          obtain ⟨x26_, h27_, h18_⟩ := ob h18_
          refine cr12_282 (p_a := p8_) (o_a := o_a) (set_a := (σ 0 21)) C hkd  h27_ ⟨(Nat.le_of_ble_eq_true rfl), (Nat.le_of_ble_eq_true rfl)⟩ (Nat.le_of_ble_eq_true rfl) ⟨Nat.zero_le _, Nat.zero_le _⟩ dX12_pointsOf_53 ?_
          refine z_isub C dX12_pointsOf_56 ?_
          refine z_goto C 61 dX12_pointsOf_57 (by decide) ?_
          cases h18_
          exact K19_
        have K21_ : ¬ ((q12_isOf (σ 0 20) p8_ = true) ∧ (q12_isOf (σ 0 21) o_a = true)) → Z Θ 4 0 0 (zQ Θ ρ) σ 60 [(0, .ref (zA Θ 0)), (1, .int o_a), (2, .int n7_), (3, .int p8_)] [.int n7_] := by
          intro h28_
          rw [if_neg h28_] at h18_
          refine z_iconst (v := 0) C dX12_pointsOf_60 ic_0 ?_
          cases h18_
          exact K19_
        refine z_aload_n C 0 dX12_pointsOf_15 rfl rfl ?_
        refine fg12_263 C hkd dX12_pointsOf_16 ?_
        refine z_iload_n C 3 dX12_pointsOf_19 rfl rfl ?_
        refine cr12_275 (set_a := (σ 0 20)) (k_a := p8_) C hkd  ⟨(Nat.le_of_ble_eq_true rfl), (Nat.le_of_ble_eq_true rfl)⟩ (Nat.le_of_ble_eq_true rfl) ⟨Nat.zero_le _, Nat.zero_le _⟩ dX12_pointsOf_20 ?_
        refine cb_f C 60 dX12_pointsOf_23 (by decide) (fun h22_ => ?_) (fun h22_ => ?_)
        · refine z_aload_n C 0 dX12_pointsOf_26 rfl rfl ?_
          refine fg12_269 C hkd dX12_pointsOf_27 ?_
          refine z_iload_n C 1 dX12_pointsOf_30 rfl rfl ?_
          refine cr12_275 (set_a := (σ 0 21)) (k_a := o_a) C hkd  ⟨(Nat.le_of_ble_eq_true rfl), (Nat.le_of_ble_eq_true rfl)⟩ (Nat.le_of_ble_eq_true rfl) ⟨Nat.zero_le _, Nat.zero_le _⟩ dX12_pointsOf_31 ?_
          refine cb_f C 60 dX12_pointsOf_34 (by decide) (fun h23_ => ?_) (fun h23_ => ?_)
          · exact K20_ ⟨h22_, h23_⟩
          · exact K21_ (fun n => h23_ n.2)
        · exact K21_ (fun n => h22_ n.1)
      refine z_iadd C dX12_pointsOf_61 ?_
      obtain ⟨n29_, h30_, h6_⟩ := lt_ h6_
      refine z_istN C dX12_pointsOf_62 h30_ rfl (Nat.le_of_ble_eq_true rfl) rfl ?_
      obtain ⟨p31_, h32_, h6_⟩ := lt_ h6_
      refine z_inc C 3 dX12_pointsOf_63 rfl ic_1 h32_ (Nat.le_of_ble_eq_true rfl) rfl ?_
      refine z_goto C 4 dX12_pointsOf_66 (by decide) ?_
      refine Z.sub [2, 3, 1, 0] rfl ?_
      exact h5_ _ _ h6_
    have K12_ : ¬ (p8_ < x13_) → Z Θ 4 0 0 (zQ Θ ρ) σ 69 [(0, .ref (zA Θ 0)), (1, .int o_a), (2, .int n7_), (3, .int p8_)] [] := by
      intro h16_
      rw [if_neg h16_] at h6_
      cases h6_
      exact K3_
    refine c_lt_f C 69 dX12_pointsOf_11 (by decide) (fun h15_ => ?_) (fun h15_ => ?_)
    · exact K11_ h15_
    · exact K12_ h15_
  refine z_iload_n C 2 dX12_pointsOf_69 rfl rfl ?_
  cases hf
  subst hρ
  exact z_iret C dX12_pointsOf_70
theorem c12_pointsOf {l : Launch} {kd : List KD} {w : Wp} {σ : St} {o_a : Int32} (hkd : kd = kdM) (hi : zI kd w) {r : Int32} (hf : q12_pointsOf σ o_a = some r) : zM l kd w yX12_pointsOf cX12_pointsOf 4 (some .int) rm12_pointsOf [.ref (w.2.2.1 0), .int o_a] σ (some (.int r), σ) := zM_of rfl hi (Nat.le_of_ble_eq_true rfl) (fun Θ hl hw C => by
  obtain ⟨Θ1, Θ2, Θ3, Θ4, Θ5⟩ := Θ
  cases hw
  exact p12_pointsOf C hkd  hf rfl)
/-! LastLoafModel.doesBeat -/
theorem dX12_doesBeat_0 : decode cX12_doesBeat 0 = .ok (.iconst 0, 1) := by decide +kernel
theorem dX12_doesBeat_1 : decode cX12_doesBeat 1 = .ok (.istore_n 3, 1) := by decide +kernel
theorem dX12_doesBeat_2 : decode cX12_doesBeat 2 = .ok (.iconst 0, 1) := by decide +kernel
theorem dX12_doesBeat_3 : decode cX12_doesBeat 3 = .ok (.istore 4, 2) := by decide +kernel
theorem dX12_doesBeat_5 : decode cX12_doesBeat 5 = .ok (.iload 4, 2) := by decide +kernel
theorem dX12_doesBeat_7 : decode cX12_doesBeat 7 = .ok (.aload_n 0, 1) := by decide +kernel
theorem dX12_doesBeat_8 : decode cX12_doesBeat 8 = .ok (.getfield 7, 3) := by decide +kernel
theorem dX12_doesBeat_11 : decode cX12_doesBeat 11 = .ok (.iconst 3, 1) := by decide +kernel
theorem dX12_doesBeat_12 : decode cX12_doesBeat 12 = .ok (.iaload, 1) := by decide +kernel
theorem dX12_doesBeat_13 : decode cX12_doesBeat 13 = .ok (.if_icmp .ge 44, 3) := by decide +kernel
theorem dX12_doesBeat_16 : decode cX12_doesBeat 16 = .ok (.iload_n 3, 1) := by decide +kernel
theorem dX12_doesBeat_17 : decode cX12_doesBeat 17 = .ok (.aload_n 0, 1) := by decide +kernel
theorem dX12_doesBeat_18 : decode cX12_doesBeat 18 = .ok (.getfield 263, 3) := by decide +kernel
theorem dX12_doesBeat_21 : decode cX12_doesBeat 21 = .ok (.iload 4, 2) := by decide +kernel
theorem dX12_doesBeat_23 : decode cX12_doesBeat 23 = .ok (.invokestatic 275, 3) := by decide +kernel
theorem dX12_doesBeat_26 : decode cX12_doesBeat 26 = .ok (.ifCond .ne 7, 3) := by decide +kernel
theorem dX12_doesBeat_29 : decode cX12_doesBeat 29 = .ok (.iconst 0, 1) := by decide +kernel
theorem dX12_doesBeat_30 : decode cX12_doesBeat 30 = .ok (.goto 19, 3) := by decide +kernel
theorem dX12_doesBeat_33 : decode cX12_doesBeat 33 = .ok (.aload_n 0, 1) := by decide +kernel
theorem dX12_doesBeat_34 : decode cX12_doesBeat 34 = .ok (.iload 4, 2) := by decide +kernel
theorem dX12_doesBeat_36 : decode cX12_doesBeat 36 = .ok (.iload_n 1, 1) := by decide +kernel
theorem dX12_doesBeat_37 : decode cX12_doesBeat 37 = .ok (.iload_n 2, 1) := by decide +kernel
theorem dX12_doesBeat_38 : decode cX12_doesBeat 38 = .ok (.invokevirtual 279, 3) := by decide +kernel
theorem dX12_doesBeat_41 : decode cX12_doesBeat 41 = .ok (.ifCond .eq 7, 3) := by decide +kernel
theorem dX12_doesBeat_44 : decode cX12_doesBeat 44 = .ok (.iconst 1, 1) := by decide +kernel
theorem dX12_doesBeat_45 : decode cX12_doesBeat 45 = .ok (.goto 4, 3) := by decide +kernel
theorem dX12_doesBeat_48 : decode cX12_doesBeat 48 = .ok (.iconst (-1), 1) := by decide +kernel
theorem dX12_doesBeat_49 : decode cX12_doesBeat 49 = .ok (.iadd, 1) := by decide +kernel
theorem dX12_doesBeat_50 : decode cX12_doesBeat 50 = .ok (.istore_n 3, 1) := by decide +kernel
theorem dX12_doesBeat_51 : decode cX12_doesBeat 51 = .ok (.iinc 4 1, 3) := by decide +kernel
theorem dX12_doesBeat_54 : decode cX12_doesBeat 54 = .ok (.goto (-49), 3) := by decide +kernel
theorem dX12_doesBeat_57 : decode cX12_doesBeat 57 = .ok (.iload_n 3, 1) := by decide +kernel
theorem dX12_doesBeat_58 : decode cX12_doesBeat 58 = .ok (.ifCond .le 29, 3) := by decide +kernel
theorem dX12_doesBeat_61 : decode cX12_doesBeat 61 = .ok (.aload_n 0, 1) := by decide +kernel
theorem dX12_doesBeat_62 : decode cX12_doesBeat 62 = .ok (.getfield 269, 3) := by decide +kernel
theorem dX12_doesBeat_65 : decode cX12_doesBeat 65 = .ok (.iload_n 1, 1) := by decide +kernel
theorem dX12_doesBeat_66 : decode cX12_doesBeat 66 = .ok (.invokestatic 275, 3) := by decide +kernel
theorem dX12_doesBeat_69 : decode cX12_doesBeat 69 = .ok (.ifCond .eq 18, 3) := by decide +kernel
theorem dX12_doesBeat_72 : decode cX12_doesBeat 72 = .ok (.aload_n 0, 1) := by decide +kernel
theorem dX12_doesBeat_73 : decode cX12_doesBeat 73 = .ok (.getfield 269, 3) := by decide +kernel
theorem dX12_doesBeat_76 : decode cX12_doesBeat 76 = .ok (.iload_n 2, 1) := by decide +kernel
theorem dX12_doesBeat_77 : decode cX12_doesBeat 77 = .ok (.invokestatic 275, 3) := by decide +kernel
theorem dX12_doesBeat_80 : decode cX12_doesBeat 80 = .ok (.ifCond .eq 7, 3) := by decide +kernel
theorem dX12_doesBeat_83 : decode cX12_doesBeat 83 = .ok (.iconst 1, 1) := by decide +kernel
theorem dX12_doesBeat_84 : decode cX12_doesBeat 84 = .ok (.goto 4, 3) := by decide +kernel
theorem dX12_doesBeat_87 : decode cX12_doesBeat 87 = .ok (.iconst 0, 1) := by decide +kernel
theorem dX12_doesBeat_88 : decode cX12_doesBeat 88 = .ok (.ireturn, 1) := by decide +kernel
def q12_doesBeat (σ : St) (a_a : Int32) (b_a : Int32) : Option Bool :=
  Option.bind (loop2 (fun rec4_ (n7_ : Int32) (p8_ : Int32) =>
  Option.bind (ag σ 1 752 3) fun x13_ =>
  if p8_ < x13_ then
  Option.bind (if ¬ (q12_isOf (σ 0 20) p8_ = true) then (some (0 : Int32)) else (Option.bind (Option.bind (q12_hasAhead σ p8_ a_a b_a) fun x28_ =>
  if x28_ = true then (some (1 : Int32)) else (some (-1 : Int32))) fun x23_ =>
  some x23_)) fun x17_ =>
  lt (n7_ + x17_) fun n33_ =>
  lt (p8_ + 1) fun p35_ =>
  rec4_ n33_ p35_
  else (some (n7_, p8_))) fuelN (0 : Int32) (0 : Int32)) fun y1_ =>
  some (decide (((0 < y1_.1) ∧ (q12_isOf (σ 0 21) a_a = true)) ∧ (q12_isOf (σ 0 21) b_a = true)))
abbrev rm12_doesBeat : Room := { frames := 1, cells := 0, slots := 0, locals := 24 }
set_option maxHeartbeats 4000000 in
set_option maxRecDepth 100000 in
theorem p12_doesBeat {Θ : Tz} {σ : St} {ρ : Option Value × St} (C : Zc Θ cX12_doesBeat 5 RX12 (some .boolean) rm12_doesBeat) (hkd : Θ.2.2.2.2.1 = kdM) {a_a : Int32} {b_a : Int32} {r : Bool} (hf : q12_doesBeat σ a_a b_a = some r) (hρ : ρ = (some (.int (b2i r)), σ)) : Z Θ 5 0 0 (zQ Θ ρ) σ 0 [(0, .ref (zA Θ 0)), (1, .int a_a), (2, .int b_a)] [] := by
  unfold q12_doesBeat at hf
  refine z_iconst (v := 0) C dX12_doesBeat_0 ic_0 ?_
  refine z_istN C dX12_doesBeat_1 rfl rfl (Nat.le_of_ble_eq_true rfl) rfl ?_
  refine z_iconst (v := 0) C dX12_doesBeat_2 ic_0 ?_
  refine z_ist C dX12_doesBeat_3 rfl (Nat.le_of_ble_eq_true rfl) rfl ?_
  refine Z.sub [2, 3, 4, 1, 0] rfl ?_
  obtain ⟨y1_, h2_, hf⟩ := ob hf
  suffices K3_ : Z Θ 5 0 0 (zQ Θ ρ) σ 57 [(0, .ref (zA Θ 0)), (1, .int a_a), (2, .int b_a), (3, .int y1_.1), (4, .int y1_.2)] [] by
    refine loop2_Z (P := fun (n7_ : Int32) (p8_ : Int32) => Z Θ 5 0 0 (zQ Θ ρ) σ 5 [(0, .ref (zA Θ 0)), (1, .int a_a), (2, .int b_a), (3, .int n7_), (4, .int p8_)] []) ?_ fuelN (0 : Int32) (0 : Int32) h2_
    clear h2_
    intro rec4_ n7_ p8_ h5_ h6_
    refine z_iload C 4 dX12_doesBeat_5 rfl ?_
    refine z_aload_n C 0 dX12_doesBeat_7 rfl rfl ?_
    refine fg12_7 C hkd dX12_doesBeat_8 ?_
    refine z_iconst (v := 3) C dX12_doesBeat_11 ic_3 ?_
    obtain ⟨x13_, h14_, h6_⟩ := ob h6_
    refine z_ag C h14_ (kM_1 hkd) dX12_doesBeat_12 ?_
    have K11_ : p8_ < x13_ → Z Θ 5 0 0 (zQ Θ ρ) σ 16 [(0, .ref (zA Θ 0)), (1, .int a_a), (2, .int b_a), (3, .int n7_), (4, .int p8_)] [] := by
      intro h16_
      rw [if_pos h16_] at h6_
      refine z_iload_n C 3 dX12_doesBeat_16 rfl rfl ?_
      obtain ⟨x17_, h18_, h6_⟩ := ob h6_
      suffices K19_ : Z Θ 5 0 0 (zQ Θ ρ) σ 49 [(0, .ref (zA Θ 0)), (1, .int a_a), (2, .int b_a), (3, .int n7_), (4, .int p8_)] [.int x17_, .int n7_] by
        have K20_ : ¬ (q12_isOf (σ 0 20) p8_ = true) → Z Θ 5 0 0 (zQ Θ ρ) σ 29 [(0, .ref (zA Θ 0)), (1, .int a_a), (2, .int b_a), (3, .int n7_), (4, .int p8_)] [.int n7_] := by
          intro h32_
          rw [if_pos h32_] at h18_
          refine z_iconst (v := 0) C dX12_doesBeat_29 ic_0 ?_
          refine z_goto C 49 dX12_doesBeat_30 (by decide) ?_
          cases h18_
          exact K19_
        have K21_ : ¬ (¬ (q12_isOf (σ 0 20) p8_ = true)) → Z Θ 5 0 0 (zQ Θ ρ) σ 33 [(0, .ref (zA Θ 0)), (1, .int a_a), (2, .int b_a), (3, .int n7_), (4, .int p8_)] [.int n7_] := by
          intro h32_
          rw [if_neg h32_] at h18_
          obtain ⟨x23_, h24_, h18_⟩ := ob h18_
          suffices K25_ : Z Θ 5 0 0 (zQ Θ ρ) σ 49 [(0, .ref (zA Θ 0)), (1, .int a_a), (2, .int b_a), (3, .int n7_), (4, .int p8_)] [.int x23_, .int n7_] by
            refine z_aload_n C 0 dX12_doesBeat_33 rfl rfl ?_
            refine z_iload C 4 dX12_doesBeat_34 rfl ?_
            refine z_iload_n C 1 dX12_doesBeat_36 rfl rfl ?_
            refine z_iload_n C 2 dX12_doesBeat_37 rfl rfl ?_
            obtain ⟨x28_, h29_, h24_⟩ := ob h24_
            refine cr12_279 (p_a := p8_) (a_a := a_a) (b_a := b_a) C hkd  h29_ ⟨(Nat.le_of_ble_eq_true rfl), (Nat.le_of_ble_eq_true rfl)⟩ (Nat.le_of_ble_eq_true rfl) ⟨Nat.zero_le _, Nat.zero_le _⟩ dX12_doesBeat_38 ?_
            have K26_ : x28_ = true → Z Θ 5 0 0 (zQ Θ ρ) σ 44 [(0, .ref (zA Θ 0)), (1, .int a_a), (2, .int b_a), (3, .int n7_), (4, .int p8_)] [.int n7_] := by
              intro h31_
              rw [if_pos h31_] at h24_
              refine z_iconst (v := 1) C dX12_doesBeat_44 ic_1 ?_
              refine z_goto C 49 dX12_doesBeat_45 (by decide) ?_
              cases h24_
              exact K25_
            have K27_ : ¬ (x28_ = true) → Z Θ 5 0 0 (zQ Θ ρ) σ 48 [(0, .ref (zA Θ 0)), (1, .int a_a), (2, .int b_a), (3, .int n7_), (4, .int p8_)] [.int n7_] := by
              intro h31_
              rw [if_neg h31_] at h24_
              refine z_iconst (v := (-1)) C dX12_doesBeat_48 ic_m1 ?_
              cases h24_
              exact K25_
            refine cb_f C 48 dX12_doesBeat_41 (by decide) (fun h30_ => ?_) (fun h30_ => ?_)
            · exact K26_ h30_
            · exact K27_ h30_
          cases h18_
          exact K19_
        refine z_aload_n C 0 dX12_doesBeat_17 rfl rfl ?_
        refine fg12_263 C hkd dX12_doesBeat_18 ?_
        refine z_iload C 4 dX12_doesBeat_21 rfl ?_
        refine cr12_275 (set_a := (σ 0 20)) (k_a := p8_) C hkd  ⟨(Nat.le_of_ble_eq_true rfl), (Nat.le_of_ble_eq_true rfl)⟩ (Nat.le_of_ble_eq_true rfl) ⟨Nat.zero_le _, Nat.zero_le _⟩ dX12_doesBeat_23 ?_
        refine cb_t C 33 dX12_doesBeat_26 (by decide) (fun h22_ => ?_) (fun h22_ => ?_)
        · exact K21_ (fun n => n h22_)
        · exact K20_ h22_
      refine z_iadd C dX12_doesBeat_49 ?_
      obtain ⟨n33_, h34_, h6_⟩ := lt_ h6_
      refine z_istN C dX12_doesBeat_50 h34_ rfl (Nat.le_of_ble_eq_true rfl) rfl ?_
      obtain ⟨p35_, h36_, h6_⟩ := lt_ h6_
      refine z_inc C 4 dX12_doesBeat_51 rfl ic_1 h36_ (Nat.le_of_ble_eq_true rfl) rfl ?_
      refine z_goto C 5 dX12_doesBeat_54 (by decide) ?_
      refine Z.sub [2, 3, 4, 1, 0] rfl ?_
      exact h5_ _ _ h6_
    have K12_ : ¬ (p8_ < x13_) → Z Θ 5 0 0 (zQ Θ ρ) σ 57 [(0, .ref (zA Θ 0)), (1, .int a_a), (2, .int b_a), (3, .int n7_), (4, .int p8_)] [] := by
      intro h16_
      rw [if_neg h16_] at h6_
      cases h6_
      exact K3_
    refine c_lt_f C 57 dX12_doesBeat_13 (by decide) (fun h15_ => ?_) (fun h15_ => ?_)
    · exact K11_ h15_
    · exact K12_ h15_
  suffices K37_ : Z Θ 5 0 0 (zQ Θ ρ) σ 88 [(0, .ref (zA Θ 0)), (1, .int a_a), (2, .int b_a), (3, .int y1_.1), (4, .int y1_.2)] [.int (b2i (decide (((0 < y1_.1) ∧ (q12_isOf (σ 0 21) a_a = true)) ∧ (q12_isOf (σ 0 21) b_a = true))))] by
    have K38_ : ((0 < y1_.1) ∧ (q12_isOf (σ 0 21) a_a = true)) ∧ (q12_isOf (σ 0 21) b_a = true) → Z Θ 5 0 0 (zQ Θ ρ) σ 83 [(0, .ref (zA Θ 0)), (1, .int a_a), (2, .int b_a), (3, .int y1_.1), (4, .int y1_.2)] [] := by
      intro h43_
      rw [decide_eq_true h43_] at K37_
      refine z_iconst (v := 1) C dX12_doesBeat_83 ic_1 ?_
      refine z_goto C 88 dX12_doesBeat_84 (by decide) ?_
      exact K37_
    have K39_ : ¬ (((0 < y1_.1) ∧ (q12_isOf (σ 0 21) a_a = true)) ∧ (q12_isOf (σ 0 21) b_a = true)) → Z Θ 5 0 0 (zQ Θ ρ) σ 87 [(0, .ref (zA Θ 0)), (1, .int a_a), (2, .int b_a), (3, .int y1_.1), (4, .int y1_.2)] [] := by
      intro h43_
      rw [decide_eq_false h43_] at K37_
      refine z_iconst (v := 0) C dX12_doesBeat_87 ic_0 ?_
      exact K37_
    refine z_iload_n C 3 dX12_doesBeat_57 rfl rfl ?_
    refine c0_gt_f C 87 dX12_doesBeat_58 (by decide) (fun h40_ => ?_) (fun h40_ => ?_)
    · refine z_aload_n C 0 dX12_doesBeat_61 rfl rfl ?_
      refine fg12_269 C hkd dX12_doesBeat_62 ?_
      refine z_iload_n C 1 dX12_doesBeat_65 rfl rfl ?_
      refine cr12_275 (set_a := (σ 0 21)) (k_a := a_a) C hkd  ⟨(Nat.le_of_ble_eq_true rfl), (Nat.le_of_ble_eq_true rfl)⟩ (Nat.le_of_ble_eq_true rfl) ⟨Nat.zero_le _, Nat.zero_le _⟩ dX12_doesBeat_66 ?_
      refine cb_f C 87 dX12_doesBeat_69 (by decide) (fun h41_ => ?_) (fun h41_ => ?_)
      · refine z_aload_n C 0 dX12_doesBeat_72 rfl rfl ?_
        refine fg12_269 C hkd dX12_doesBeat_73 ?_
        refine z_iload_n C 2 dX12_doesBeat_76 rfl rfl ?_
        refine cr12_275 (set_a := (σ 0 21)) (k_a := b_a) C hkd  ⟨(Nat.le_of_ble_eq_true rfl), (Nat.le_of_ble_eq_true rfl)⟩ (Nat.le_of_ble_eq_true rfl) ⟨Nat.zero_le _, Nat.zero_le _⟩ dX12_doesBeat_77 ?_
        refine cb_f C 87 dX12_doesBeat_80 (by decide) (fun h42_ => ?_) (fun h42_ => ?_)
        · exact K38_ ⟨⟨h40_, h41_⟩, h42_⟩
        · exact K39_ (fun n => h42_ n.2)
      · exact K39_ (fun n => (fun n => h41_ n.2) n.1)
    · exact K39_ (fun n => (fun n => h40_ n.1) n.1)
  cases hf
  subst hρ
  exact z_zret C (b2i_narrow _) dX12_doesBeat_88
theorem c12_doesBeat {l : Launch} {kd : List KD} {w : Wp} {σ : St} {a_a : Int32} {b_a : Int32} (hkd : kd = kdM) (hi : zI kd w) {r : Bool} (hf : q12_doesBeat σ a_a b_a = some r) : zM l kd w yX12_doesBeat cX12_doesBeat 5 (some .boolean) rm12_doesBeat [.ref (w.2.2.1 0), .int a_a, .int b_a] σ (some (.int (b2i r)), σ) := zM_of rfl hi (Nat.le_of_ble_eq_true rfl) (fun Θ hl hw C => by
  obtain ⟨Θ1, Θ2, Θ3, Θ4, Θ5⟩ := Θ
  cases hw
  exact p12_doesBeat C hkd  hf rfl)
/-! LastLoafModel.duelsOf -/
theorem w_9_111 : Cond.code ({ cls := "LastLoafModel", name := "doesBeat", desc := "(II)Z" } : MethodName) prog_14_method_50_code (5 : Nat) (Option.some ClassFile.FieldType.boolean) ∈ TB := tb_in (lwt_9 (List.mem_of_getElem? (i := 111) (by decide +kernel))) rfl
theorem w_9_108 : Cond.methodLink "LastLoafModel" (289 : Nat) ({ cls := "LastLoafModel", name := "doesBeat", desc := "(II)Z" } : MethodName) ∈ TB := tb_in (lwt_9 (List.mem_of_getElem? (i := 108) (by decide +kernel))) rfl
theorem w_9_110 : Cond.instanceMethod ({ cls := "LastLoafModel", name := "doesBeat", desc := "(II)Z" } : MethodName) ∈ TB := tb_in (lwt_9 (List.mem_of_getElem? (i := 110) (by decide +kernel))) rfl
theorem ws_LastLoafModel_doesBeat_II_Z : Cond.selects "LastLoafModel" (⟨"LastLoafModel", "doesBeat", "(II)Z"⟩ : MethodName) (⟨"LastLoafModel", "doesBeat", "(II)Z"⟩ : MethodName) ∈ TB := tb_in (List.mem_append_left _ (List.mem_of_getElem? (i := 55) (by decide +kernel))) rfl
theorem cr12_289 {Θ : Tz} {cc : ByteArray} {nL kc ks : Nat} {ret : Option FieldType} {rm : Room} {Q : State → Prop} {σ : St} {pc : Nat} {lv : List (Nat × Value)} {st : List Value} (C : Zc Θ cc nL RX12 ret rm) (hkd : Θ.2.2.2.2.1 = kdM) {a_a : Int32} {b_a : Int32} {r : Bool} (hx : q12_doesBeat σ a_a b_a = some r) (hrm : rm12_doesBeat.frames + 1 ≤ rm.frames ∧ 8 + (5 + 11) + rm12_doesBeat.locals ≤ rm.locals) (hcat : (st.map fun v => v.category).sum ≤ 8) (hk : kc ≤ rm.cells ∧ ks ≤ rm.slots) (hd : decode cc pc = .ok (.invokevirtual 289, 3)) (kk : Z Θ nL kc ks Q σ (pc + 3) lv (.int (b2i r) :: st)) : Z Θ nL kc ks Q σ pc lv (.int b_a :: .int a_a :: .ref (zA Θ 0) :: st) := z_callV C 0 [.int a_a, .int b_a] (some (.int (b2i r)), σ) 2 (kM_0 hkd) rfl (c12_doesBeat (a_a := a_a) (b_a := b_a) hkd (zc_inj C) hx) w_9_111 w_9_108 w_9_110 ws_LastLoafModel_doesBeat_II_Z w_1_14 ⟨rfl, rfl, hrm.1, hrm.2⟩ (by decide +kernel) rfl rfl hcat hk hd kk
theorem dX12_duelsOf_0 : decode cX12_duelsOf 0 = .ok (.iconst 0, 1) := by decide +kernel
theorem dX12_duelsOf_1 : decode cX12_duelsOf 1 = .ok (.istore_n 2, 1) := by decide +kernel
theorem dX12_duelsOf_2 : decode cX12_duelsOf 2 = .ok (.iconst 0, 1) := by decide +kernel
theorem dX12_duelsOf_3 : decode cX12_duelsOf 3 = .ok (.istore_n 3, 1) := by decide +kernel
theorem dX12_duelsOf_4 : decode cX12_duelsOf 4 = .ok (.iload_n 3, 1) := by decide +kernel
theorem dX12_duelsOf_5 : decode cX12_duelsOf 5 = .ok (.aload_n 0, 1) := by decide +kernel
theorem dX12_duelsOf_6 : decode cX12_duelsOf 6 = .ok (.getfield 7, 3) := by decide +kernel
theorem dX12_duelsOf_9 : decode cX12_duelsOf 9 = .ok (.iconst 3, 1) := by decide +kernel
theorem dX12_duelsOf_10 : decode cX12_duelsOf 10 = .ok (.iaload, 1) := by decide +kernel
theorem dX12_duelsOf_11 : decode cX12_duelsOf 11 = .ok (.if_icmp .ge 31, 3) := by decide +kernel
theorem dX12_duelsOf_14 : decode cX12_duelsOf 14 = .ok (.iload_n 2, 1) := by decide +kernel
theorem dX12_duelsOf_15 : decode cX12_duelsOf 15 = .ok (.iload_n 3, 1) := by decide +kernel
theorem dX12_duelsOf_16 : decode cX12_duelsOf 16 = .ok (.iload_n 1, 1) := by decide +kernel
theorem dX12_duelsOf_17 : decode cX12_duelsOf 17 = .ok (.if_icmp .eq 16, 3) := by decide +kernel
theorem dX12_duelsOf_20 : decode cX12_duelsOf 20 = .ok (.aload_n 0, 1) := by decide +kernel
theorem dX12_duelsOf_21 : decode cX12_duelsOf 21 = .ok (.iload_n 1, 1) := by decide +kernel
theorem dX12_duelsOf_22 : decode cX12_duelsOf 22 = .ok (.iload_n 3, 1) := by decide +kernel
theorem dX12_duelsOf_23 : decode cX12_duelsOf 23 = .ok (.invokevirtual 289, 3) := by decide +kernel
theorem dX12_duelsOf_26 : decode cX12_duelsOf 26 = .ok (.ifCond .eq 7, 3) := by decide +kernel
theorem dX12_duelsOf_29 : decode cX12_duelsOf 29 = .ok (.iconst 1, 1) := by decide +kernel
theorem dX12_duelsOf_30 : decode cX12_duelsOf 30 = .ok (.goto 4, 3) := by decide +kernel
theorem dX12_duelsOf_33 : decode cX12_duelsOf 33 = .ok (.iconst 0, 1) := by decide +kernel
theorem dX12_duelsOf_34 : decode cX12_duelsOf 34 = .ok (.iadd, 1) := by decide +kernel
theorem dX12_duelsOf_35 : decode cX12_duelsOf 35 = .ok (.istore_n 2, 1) := by decide +kernel
theorem dX12_duelsOf_36 : decode cX12_duelsOf 36 = .ok (.iinc 3 1, 3) := by decide +kernel
theorem dX12_duelsOf_39 : decode cX12_duelsOf 39 = .ok (.goto (-35), 3) := by decide +kernel
theorem dX12_duelsOf_42 : decode cX12_duelsOf 42 = .ok (.iload_n 2, 1) := by decide +kernel
theorem dX12_duelsOf_43 : decode cX12_duelsOf 43 = .ok (.ireturn, 1) := by decide +kernel
def q12_duelsOf (σ : St) (a_a : Int32) : Option Int32 :=
  Option.bind (loop2 (fun rec4_ (n7_ : Int32) (b8_ : Int32) =>
  Option.bind (ag σ 1 752 3) fun x13_ =>
  if b8_ < x13_ then
  Option.bind (Option.bind (if ¬ b8_ = a_a then (Option.bind (q12_doesBeat σ a_a b8_) fun x25_ =>
  if x25_ = true then (some true) else (some false)) else (some false)) fun t22_ =>
  if t22_ = true then (some (1 : Int32)) else (some (0 : Int32))) fun x17_ =>
  lt (n7_ + x17_) fun n29_ =>
  lt (b8_ + 1) fun b31_ =>
  rec4_ n29_ b31_
  else (some (n7_, b8_))) fuelN (0 : Int32) (0 : Int32)) fun y1_ =>
  some y1_.1
abbrev rm12_duelsOf : Room := { frames := 2, cells := 0, slots := 0, locals := 48 }
set_option maxHeartbeats 4000000 in
set_option maxRecDepth 100000 in
theorem p12_duelsOf {Θ : Tz} {σ : St} {ρ : Option Value × St} (C : Zc Θ cX12_duelsOf 4 RX12 (some .int) rm12_duelsOf) (hkd : Θ.2.2.2.2.1 = kdM) {a_a : Int32} {r : Int32} (hf : q12_duelsOf σ a_a = some r) (hρ : ρ = (some (.int r), σ)) : Z Θ 4 0 0 (zQ Θ ρ) σ 0 [(0, .ref (zA Θ 0)), (1, .int a_a)] [] := by
  unfold q12_duelsOf at hf
  refine z_iconst (v := 0) C dX12_duelsOf_0 ic_0 ?_
  refine z_istN C dX12_duelsOf_1 rfl rfl (Nat.le_of_ble_eq_true rfl) rfl ?_
  refine z_iconst (v := 0) C dX12_duelsOf_2 ic_0 ?_
  refine z_istN C dX12_duelsOf_3 rfl rfl (Nat.le_of_ble_eq_true rfl) rfl ?_
  refine Z.sub [2, 3, 1, 0] rfl ?_
  obtain ⟨y1_, h2_, hf⟩ := ob hf
  suffices K3_ : Z Θ 4 0 0 (zQ Θ ρ) σ 42 [(0, .ref (zA Θ 0)), (1, .int a_a), (2, .int y1_.1), (3, .int y1_.2)] [] by
    refine loop2_Z (P := fun (n7_ : Int32) (b8_ : Int32) => Z Θ 4 0 0 (zQ Θ ρ) σ 4 [(0, .ref (zA Θ 0)), (1, .int a_a), (2, .int n7_), (3, .int b8_)] []) ?_ fuelN (0 : Int32) (0 : Int32) h2_
    clear h2_
    intro rec4_ n7_ b8_ h5_ h6_
    refine z_iload_n C 3 dX12_duelsOf_4 rfl rfl ?_
    refine z_aload_n C 0 dX12_duelsOf_5 rfl rfl ?_
    refine fg12_7 C hkd dX12_duelsOf_6 ?_
    refine z_iconst (v := 3) C dX12_duelsOf_9 ic_3 ?_
    obtain ⟨x13_, h14_, h6_⟩ := ob h6_
    refine z_ag C h14_ (kM_1 hkd) dX12_duelsOf_10 ?_
    have K11_ : b8_ < x13_ → Z Θ 4 0 0 (zQ Θ ρ) σ 14 [(0, .ref (zA Θ 0)), (1, .int a_a), (2, .int n7_), (3, .int b8_)] [] := by
      intro h16_
      rw [if_pos h16_] at h6_
      refine z_iload_n C 2 dX12_duelsOf_14 rfl rfl ?_
      obtain ⟨x17_, h18_, h6_⟩ := ob h6_
      suffices K19_ : Z Θ 4 0 0 (zQ Θ ρ) σ 34 [(0, .ref (zA Θ 0)), (1, .int a_a), (2, .int n7_), (3, .int b8_)] [.int x17_, .int n7_] by
        obtain ⟨t22_, h23_, h18_⟩ := ob h18_
        have K20_ : t22_ = true → Z Θ 4 0 0 (zQ Θ ρ) σ 29 [(0, .ref (zA Θ 0)), (1, .int a_a), (2, .int n7_), (3, .int b8_)] [.int n7_] := by
          intro h28_
          rw [if_pos h28_] at h18_
          refine z_iconst (v := 1) C dX12_duelsOf_29 ic_1 ?_
          refine z_goto C 34 dX12_duelsOf_30 (by decide) ?_
          cases h18_
          exact K19_
        have K21_ : ¬ (t22_ = true) → Z Θ 4 0 0 (zQ Θ ρ) σ 33 [(0, .ref (zA Θ 0)), (1, .int a_a), (2, .int n7_), (3, .int b8_)] [.int n7_] := by
          intro h28_
          rw [if_neg h28_] at h18_
          refine z_iconst (v := 0) C dX12_duelsOf_33 ic_0 ?_
          cases h18_
          exact K19_
        refine z_iload_n C 3 dX12_duelsOf_15 rfl rfl ?_
        refine z_iload_n C 1 dX12_duelsOf_16 rfl rfl ?_
        refine c_ne_f C 33 dX12_duelsOf_17 (by decide) (fun h24_ => ?_) (fun h24_ => ?_)
        · rw [if_pos h24_] at h23_
          refine z_aload_n C 0 dX12_duelsOf_20 rfl rfl ?_
          refine z_iload_n C 1 dX12_duelsOf_21 rfl rfl ?_
          refine z_iload_n C 3 dX12_duelsOf_22 rfl rfl ?_
          obtain ⟨x25_, h26_, h23_⟩ := ob h23_
          refine cr12_289 (a_a := a_a) (b_a := b8_) C hkd  h26_ ⟨(Nat.le_of_ble_eq_true rfl), (Nat.le_of_ble_eq_true rfl)⟩ (Nat.le_of_ble_eq_true rfl) ⟨Nat.zero_le _, Nat.zero_le _⟩ dX12_duelsOf_23 ?_
          refine cb_f C 33 dX12_duelsOf_26 (by decide) (fun h27_ => ?_) (fun h27_ => ?_)
          · rw [if_pos h27_] at h23_
            cases h23_
            exact K20_ rfl
          · rw [if_neg h27_] at h23_
            cases h23_
            exact K21_ Bool.false_ne_true
        · rw [if_neg h24_] at h23_
          cases h23_
          exact K21_ Bool.false_ne_true
      refine z_iadd C dX12_duelsOf_34 ?_
      obtain ⟨n29_, h30_, h6_⟩ := lt_ h6_
      refine z_istN C dX12_duelsOf_35 h30_ rfl (Nat.le_of_ble_eq_true rfl) rfl ?_
      obtain ⟨b31_, h32_, h6_⟩ := lt_ h6_
      refine z_inc C 3 dX12_duelsOf_36 rfl ic_1 h32_ (Nat.le_of_ble_eq_true rfl) rfl ?_
      refine z_goto C 4 dX12_duelsOf_39 (by decide) ?_
      refine Z.sub [2, 3, 1, 0] rfl ?_
      exact h5_ _ _ h6_
    have K12_ : ¬ (b8_ < x13_) → Z Θ 4 0 0 (zQ Θ ρ) σ 42 [(0, .ref (zA Θ 0)), (1, .int a_a), (2, .int n7_), (3, .int b8_)] [] := by
      intro h16_
      rw [if_neg h16_] at h6_
      cases h6_
      exact K3_
    refine c_lt_f C 42 dX12_duelsOf_11 (by decide) (fun h15_ => ?_) (fun h15_ => ?_)
    · exact K11_ h15_
    · exact K12_ h15_
  refine z_iload_n C 2 dX12_duelsOf_42 rfl rfl ?_
  cases hf
  subst hρ
  exact z_iret C dX12_duelsOf_43
theorem c12_duelsOf {l : Launch} {kd : List KD} {w : Wp} {σ : St} {a_a : Int32} (hkd : kd = kdM) (hi : zI kd w) {r : Int32} (hf : q12_duelsOf σ a_a = some r) : zM l kd w yX12_duelsOf cX12_duelsOf 4 (some .int) rm12_duelsOf [.ref (w.2.2.1 0), .int a_a] σ (some (.int r), σ) := zM_of rfl hi (Nat.le_of_ble_eq_true rfl) (fun Θ hl hw C => by
  obtain ⟨Θ1, Θ2, Θ3, Θ4, Θ5⟩ := Θ
  cases hw
  exact p12_duelsOf C hkd  hf rfl)
/-! LastLoafModel.countOf -/
theorem w_9_96 : Cond.code ({ cls := "LastLoafModel", name := "votesAt", desc := "(III)I" } : MethodName) prog_14_method_48_code (6 : Nat) (Option.some ClassFile.FieldType.int) ∈ TB := tb_in (lwt_9 (List.mem_of_getElem? (i := 96) (by decide +kernel))) rfl
theorem w_9_93 : Cond.methodLink "LastLoafModel" (292 : Nat) ({ cls := "LastLoafModel", name := "votesAt", desc := "(III)I" } : MethodName) ∈ TB := tb_in (lwt_9 (List.mem_of_getElem? (i := 93) (by decide +kernel))) rfl
theorem w_9_95 : Cond.instanceMethod ({ cls := "LastLoafModel", name := "votesAt", desc := "(III)I" } : MethodName) ∈ TB := tb_in (lwt_9 (List.mem_of_getElem? (i := 95) (by decide +kernel))) rfl
theorem ws_LastLoafModel_votesAt_III_I : Cond.selects "LastLoafModel" (⟨"LastLoafModel", "votesAt", "(III)I"⟩ : MethodName) (⟨"LastLoafModel", "votesAt", "(III)I"⟩ : MethodName) ∈ TB := tb_in (List.mem_append_left _ (List.mem_of_getElem? (i := 52) (by decide +kernel))) rfl
theorem cr12_292 {Θ : Tz} {cc : ByteArray} {nL kc ks : Nat} {ret : Option FieldType} {rm : Room} {Q : State → Prop} {σ : St} {pc : Nat} {lv : List (Nat × Value)} {st : List Value} (C : Zc Θ cc nL RX12 ret rm) (hkd : Θ.2.2.2.2.1 = kdM) {o_a : Int32} {k_a : Int32} {set_a : Int32} {r : Int32} (hx : q12_votesAt σ o_a k_a set_a = some r) (hrm : rm12_votesAt.frames + 1 ≤ rm.frames ∧ 8 + (6 + 11) + rm12_votesAt.locals ≤ rm.locals) (hcat : (st.map fun v => v.category).sum ≤ 8) (hk : kc ≤ rm.cells ∧ ks ≤ rm.slots) (hd : decode cc pc = .ok (.invokevirtual 292, 3)) (kk : Z Θ nL kc ks Q σ (pc + 3) lv (.int r :: st)) : Z Θ nL kc ks Q σ pc lv (.int set_a :: .int k_a :: .int o_a :: .ref (zA Θ 0) :: st) := z_callV C 0 [.int o_a, .int k_a, .int set_a] (some (.int r), σ) 3 (kM_0 hkd) rfl (c12_votesAt (o_a := o_a) (k_a := k_a) (set_a := set_a) hkd (zc_inj C) hx) w_9_96 w_9_93 w_9_95 ws_LastLoafModel_votesAt_III_I w_1_14 ⟨rfl, rfl, hrm.1, hrm.2⟩ (by decide +kernel) rfl rfl hcat hk hd kk
theorem w_9_100 : Cond.code ({ cls := "LastLoafModel", name := "pointsOf", desc := "(I)I" } : MethodName) prog_14_method_49_code (4 : Nat) (Option.some ClassFile.FieldType.int) ∈ TB := tb_in (lwt_9 (List.mem_of_getElem? (i := 100) (by decide +kernel))) rfl
theorem w_9_97 : Cond.methodLink "LastLoafModel" (295 : Nat) ({ cls := "LastLoafModel", name := "pointsOf", desc := "(I)I" } : MethodName) ∈ TB := tb_in (lwt_9 (List.mem_of_getElem? (i := 97) (by decide +kernel))) rfl
theorem w_9_99 : Cond.instanceMethod ({ cls := "LastLoafModel", name := "pointsOf", desc := "(I)I" } : MethodName) ∈ TB := tb_in (lwt_9 (List.mem_of_getElem? (i := 99) (by decide +kernel))) rfl
theorem ws_LastLoafModel_pointsOf_I_I : Cond.selects "LastLoafModel" (⟨"LastLoafModel", "pointsOf", "(I)I"⟩ : MethodName) (⟨"LastLoafModel", "pointsOf", "(I)I"⟩ : MethodName) ∈ TB := tb_in (List.mem_append_left _ (List.mem_of_getElem? (i := 53) (by decide +kernel))) rfl
theorem cr12_295 {Θ : Tz} {cc : ByteArray} {nL kc ks : Nat} {ret : Option FieldType} {rm : Room} {Q : State → Prop} {σ : St} {pc : Nat} {lv : List (Nat × Value)} {st : List Value} (C : Zc Θ cc nL RX12 ret rm) (hkd : Θ.2.2.2.2.1 = kdM) {o_a : Int32} {r : Int32} (hx : q12_pointsOf σ o_a = some r) (hrm : rm12_pointsOf.frames + 1 ≤ rm.frames ∧ 8 + (4 + 11) + rm12_pointsOf.locals ≤ rm.locals) (hcat : (st.map fun v => v.category).sum ≤ 8) (hk : kc ≤ rm.cells ∧ ks ≤ rm.slots) (hd : decode cc pc = .ok (.invokevirtual 295, 3)) (kk : Z Θ nL kc ks Q σ (pc + 3) lv (.int r :: st)) : Z Θ nL kc ks Q σ pc lv (.int o_a :: .ref (zA Θ 0) :: st) := z_callV C 0 [.int o_a] (some (.int r), σ) 1 (kM_0 hkd) rfl (c12_pointsOf (o_a := o_a) hkd (zc_inj C) hx) w_9_100 w_9_97 w_9_99 ws_LastLoafModel_pointsOf_I_I w_1_14 ⟨rfl, rfl, hrm.1, hrm.2⟩ (by decide +kernel) rfl rfl hcat hk hd kk
theorem w_9_107 : Cond.code ({ cls := "LastLoafModel", name := "duelsOf", desc := "(I)I" } : MethodName) prog_14_method_51_code (4 : Nat) (Option.some ClassFile.FieldType.int) ∈ TB := tb_in (lwt_9 (List.mem_of_getElem? (i := 107) (by decide +kernel))) rfl
theorem w_9_104 : Cond.methodLink "LastLoafModel" (298 : Nat) ({ cls := "LastLoafModel", name := "duelsOf", desc := "(I)I" } : MethodName) ∈ TB := tb_in (lwt_9 (List.mem_of_getElem? (i := 104) (by decide +kernel))) rfl
theorem w_9_106 : Cond.instanceMethod ({ cls := "LastLoafModel", name := "duelsOf", desc := "(I)I" } : MethodName) ∈ TB := tb_in (lwt_9 (List.mem_of_getElem? (i := 106) (by decide +kernel))) rfl
theorem ws_LastLoafModel_duelsOf_I_I : Cond.selects "LastLoafModel" (⟨"LastLoafModel", "duelsOf", "(I)I"⟩ : MethodName) (⟨"LastLoafModel", "duelsOf", "(I)I"⟩ : MethodName) ∈ TB := tb_in (List.mem_append_left _ (List.mem_of_getElem? (i := 54) (by decide +kernel))) rfl
theorem cr12_298 {Θ : Tz} {cc : ByteArray} {nL kc ks : Nat} {ret : Option FieldType} {rm : Room} {Q : State → Prop} {σ : St} {pc : Nat} {lv : List (Nat × Value)} {st : List Value} (C : Zc Θ cc nL RX12 ret rm) (hkd : Θ.2.2.2.2.1 = kdM) {a_a : Int32} {r : Int32} (hx : q12_duelsOf σ a_a = some r) (hrm : rm12_duelsOf.frames + 1 ≤ rm.frames ∧ 8 + (4 + 11) + rm12_duelsOf.locals ≤ rm.locals) (hcat : (st.map fun v => v.category).sum ≤ 8) (hk : kc ≤ rm.cells ∧ ks ≤ rm.slots) (hd : decode cc pc = .ok (.invokevirtual 298, 3)) (kk : Z Θ nL kc ks Q σ (pc + 3) lv (.int r :: st)) : Z Θ nL kc ks Q σ pc lv (.int a_a :: .ref (zA Θ 0) :: st) := z_callV C 0 [.int a_a] (some (.int r), σ) 1 (kM_0 hkd) rfl (c12_duelsOf (a_a := a_a) hkd (zc_inj C) hx) w_9_107 w_9_104 w_9_106 ws_LastLoafModel_duelsOf_I_I w_1_14 ⟨rfl, rfl, hrm.1, hrm.2⟩ (by decide +kernel) rfl rfl hcat hk hd kk
theorem dX12_countOf_0 : decode cX12_countOf 0 = .ok (.iload_n 2, 1) := by decide +kernel
theorem dX12_countOf_1 : decode cX12_countOf 1 = .ok (.ifCond .ne 11, 3) := by decide +kernel
theorem dX12_countOf_4 : decode cX12_countOf 4 = .ok (.aload_n 0, 1) := by decide +kernel
theorem dX12_countOf_5 : decode cX12_countOf 5 = .ok (.iload_n 1, 1) := by decide +kernel
theorem dX12_countOf_6 : decode cX12_countOf 6 = .ok (.iconst 0, 1) := by decide +kernel
theorem dX12_countOf_7 : decode cX12_countOf 7 = .ok (.iload_n 3, 1) := by decide +kernel
theorem dX12_countOf_8 : decode cX12_countOf 8 = .ok (.invokevirtual 292, 3) := by decide +kernel
theorem dX12_countOf_11 : decode cX12_countOf 11 = .ok (.ireturn, 1) := by decide +kernel
theorem dX12_countOf_12 : decode cX12_countOf 12 = .ok (.iload_n 2, 1) := by decide +kernel
theorem dX12_countOf_13 : decode cX12_countOf 13 = .ok (.iconst 1, 1) := by decide +kernel
theorem dX12_countOf_14 : decode cX12_countOf 14 = .ok (.if_icmp .ne 17, 3) := by decide +kernel
theorem dX12_countOf_17 : decode cX12_countOf 17 = .ok (.aload_n 0, 1) := by decide +kernel
theorem dX12_countOf_18 : decode cX12_countOf 18 = .ok (.iload_n 1, 1) := by decide +kernel
theorem dX12_countOf_19 : decode cX12_countOf 19 = .ok (.iload_n 3, 1) := by decide +kernel
theorem dX12_countOf_20 : decode cX12_countOf 20 = .ok (.invokestatic 286, 3) := by decide +kernel
theorem dX12_countOf_23 : decode cX12_countOf 23 = .ok (.iconst 1, 1) := by decide +kernel
theorem dX12_countOf_24 : decode cX12_countOf 24 = .ok (.isub, 1) := by decide +kernel
theorem dX12_countOf_25 : decode cX12_countOf 25 = .ok (.iload_n 3, 1) := by decide +kernel
theorem dX12_countOf_26 : decode cX12_countOf 26 = .ok (.invokevirtual 292, 3) := by decide +kernel
theorem dX12_countOf_29 : decode cX12_countOf 29 = .ok (.ineg, 1) := by decide +kernel
theorem dX12_countOf_30 : decode cX12_countOf 30 = .ok (.ireturn, 1) := by decide +kernel
theorem dX12_countOf_31 : decode cX12_countOf 31 = .ok (.iload_n 2, 1) := by decide +kernel
theorem dX12_countOf_32 : decode cX12_countOf 32 = .ok (.iconst 2, 1) := by decide +kernel
theorem dX12_countOf_33 : decode cX12_countOf 33 = .ok (.if_icmp .ne 11, 3) := by decide +kernel
theorem dX12_countOf_36 : decode cX12_countOf 36 = .ok (.aload_n 0, 1) := by decide +kernel
theorem dX12_countOf_37 : decode cX12_countOf 37 = .ok (.iload_n 1, 1) := by decide +kernel
theorem dX12_countOf_38 : decode cX12_countOf 38 = .ok (.invokevirtual 295, 3) := by decide +kernel
theorem dX12_countOf_41 : decode cX12_countOf 41 = .ok (.goto 8, 3) := by decide +kernel
theorem dX12_countOf_44 : decode cX12_countOf 44 = .ok (.aload_n 0, 1) := by decide +kernel
theorem dX12_countOf_45 : decode cX12_countOf 45 = .ok (.iload_n 1, 1) := by decide +kernel
theorem dX12_countOf_46 : decode cX12_countOf 46 = .ok (.invokevirtual 298, 3) := by decide +kernel
theorem dX12_countOf_49 : decode cX12_countOf 49 = .ok (.ireturn, 1) := by decide +kernel
def q12_countOf (σ : St) (o_a : Int32) (way_a : Int32) (set_a : Int32) : Option Int32 :=
  if way_a = 0 then (Option.bind (q12_votesAt σ o_a 0 set_a) fun x5_ =>
  some x5_) else
  if way_a = 1 then (Option.bind (q12_bits set_a) fun x11_ =>
  Option.bind (q12_votesAt σ o_a (x11_ - 1) set_a) fun x13_ =>
  some (-x13_)) else
  Option.bind (if way_a = 2 then (Option.bind (q12_pointsOf σ o_a) fun x21_ =>
  some x21_) else (Option.bind (q12_duelsOf σ o_a) fun x23_ =>
  some x23_)) fun x15_ =>
  some x15_
abbrev rm12_countOf : Room := { frames := 3, cells := 0, slots := 0, locals := 74 }
set_option maxHeartbeats 4000000 in
set_option maxRecDepth 100000 in
theorem p12_countOf {Θ : Tz} {σ : St} {ρ : Option Value × St} (C : Zc Θ cX12_countOf 4 RX12 (some .int) rm12_countOf) (hkd : Θ.2.2.2.2.1 = kdM) {o_a : Int32} {way_a : Int32} {set_a : Int32} {r : Int32} (hf : q12_countOf σ o_a way_a set_a = some r) (hρ : ρ = (some (.int r), σ)) : Z Θ 4 0 0 (zQ Θ ρ) σ 0 [(0, .ref (zA Θ 0)), (1, .int o_a), (2, .int way_a), (3, .int set_a)] [] := by
  unfold q12_countOf at hf
  have K1_ : way_a = 0 → Z Θ 4 0 0 (zQ Θ ρ) σ 4 [(0, .ref (zA Θ 0)), (1, .int o_a), (2, .int way_a), (3, .int set_a)] [] := by
    intro h4_
    rw [if_pos h4_] at hf
    refine z_aload_n C 0 dX12_countOf_4 rfl rfl ?_
    refine z_iload_n C 1 dX12_countOf_5 rfl rfl ?_
    refine z_iconst (v := 0) C dX12_countOf_6 ic_0 ?_
    refine z_iload_n C 3 dX12_countOf_7 rfl rfl ?_
    obtain ⟨x5_, h6_, hf⟩ := ob hf
    refine cr12_292 (o_a := o_a) (k_a := 0) (set_a := set_a) C hkd  h6_ ⟨(Nat.le_of_ble_eq_true rfl), (Nat.le_of_ble_eq_true rfl)⟩ (Nat.le_of_ble_eq_true rfl) ⟨Nat.zero_le _, Nat.zero_le _⟩ dX12_countOf_8 ?_
    cases hf
    subst hρ
    exact z_iret C dX12_countOf_11
  suffices K2_ : ¬ (way_a = 0) → Z Θ 4 0 0 (zQ Θ ρ) σ 12 [(0, .ref (zA Θ 0)), (1, .int o_a), (2, .int way_a), (3, .int set_a)] [] by
    refine z_iload_n C 2 dX12_countOf_0 rfl rfl ?_
    refine c0_eq_f C 12 dX12_countOf_1 (by decide) (fun h3_ => ?_) (fun h3_ => ?_)
    · exact K1_ h3_
    · exact K2_ h3_
  intro h4_
  rw [if_neg h4_] at hf
  have K7_ : way_a = 1 → Z Θ 4 0 0 (zQ Θ ρ) σ 17 [(0, .ref (zA Θ 0)), (1, .int o_a), (2, .int way_a), (3, .int set_a)] [] := by
    intro h10_
    rw [if_pos h10_] at hf
    refine z_aload_n C 0 dX12_countOf_17 rfl rfl ?_
    refine z_iload_n C 1 dX12_countOf_18 rfl rfl ?_
    refine z_iload_n C 3 dX12_countOf_19 rfl rfl ?_
    obtain ⟨x11_, h12_, hf⟩ := ob hf
    refine cr12_286 (set_a := set_a) C hkd  h12_ ⟨(Nat.le_of_ble_eq_true rfl), (Nat.le_of_ble_eq_true rfl)⟩ (Nat.le_of_ble_eq_true rfl) ⟨Nat.zero_le _, Nat.zero_le _⟩ dX12_countOf_20 ?_
    refine z_iconst (v := 1) C dX12_countOf_23 ic_1 ?_
    refine z_isub C dX12_countOf_24 ?_
    refine z_iload_n C 3 dX12_countOf_25 rfl rfl ?_
    obtain ⟨x13_, h14_, hf⟩ := ob hf
    refine cr12_292 (o_a := o_a) (k_a := (x11_ - 1)) (set_a := set_a) C hkd  h14_ ⟨(Nat.le_of_ble_eq_true rfl), (Nat.le_of_ble_eq_true rfl)⟩ (Nat.le_of_ble_eq_true rfl) ⟨Nat.zero_le _, Nat.zero_le _⟩ dX12_countOf_26 ?_
    refine z_ineg C dX12_countOf_29 ?_
    cases hf
    subst hρ
    exact z_iret C dX12_countOf_30
  suffices K8_ : ¬ (way_a = 1) → Z Θ 4 0 0 (zQ Θ ρ) σ 31 [(0, .ref (zA Θ 0)), (1, .int o_a), (2, .int way_a), (3, .int set_a)] [] by
    refine z_iload_n C 2 dX12_countOf_12 rfl rfl ?_
    refine z_iconst (v := 1) C dX12_countOf_13 ic_1 ?_
    refine c_eq_f C 31 dX12_countOf_14 (by decide) (fun h9_ => ?_) (fun h9_ => ?_)
    · exact K7_ h9_
    · exact K8_ h9_
  intro h10_
  rw [if_neg h10_] at hf
  obtain ⟨x15_, h16_, hf⟩ := ob hf
  suffices K17_ : Z Θ 4 0 0 (zQ Θ ρ) σ 49 [(0, .ref (zA Θ 0)), (1, .int o_a), (2, .int way_a), (3, .int set_a)] [.int x15_] by
    have K18_ : way_a = 2 → Z Θ 4 0 0 (zQ Θ ρ) σ 36 [(0, .ref (zA Θ 0)), (1, .int o_a), (2, .int way_a), (3, .int set_a)] [] := by
      intro h25_
      rw [if_pos h25_] at h16_
      refine z_aload_n C 0 dX12_countOf_36 rfl rfl ?_
      refine z_iload_n C 1 dX12_countOf_37 rfl rfl ?_
      obtain ⟨x21_, h22_, h16_⟩ := ob h16_
      refine cr12_295 (o_a := o_a) C hkd  h22_ ⟨(Nat.le_of_ble_eq_true rfl), (Nat.le_of_ble_eq_true rfl)⟩ (Nat.le_of_ble_eq_true rfl) ⟨Nat.zero_le _, Nat.zero_le _⟩ dX12_countOf_38 ?_
      refine z_goto C 49 dX12_countOf_41 (by decide) ?_
      cases h16_
      exact K17_
    have K19_ : ¬ (way_a = 2) → Z Θ 4 0 0 (zQ Θ ρ) σ 44 [(0, .ref (zA Θ 0)), (1, .int o_a), (2, .int way_a), (3, .int set_a)] [] := by
      intro h25_
      rw [if_neg h25_] at h16_
      refine z_aload_n C 0 dX12_countOf_44 rfl rfl ?_
      refine z_iload_n C 1 dX12_countOf_45 rfl rfl ?_
      obtain ⟨x23_, h24_, h16_⟩ := ob h16_
      refine cr12_298 (a_a := o_a) C hkd  h24_ ⟨(Nat.le_of_ble_eq_true rfl), (Nat.le_of_ble_eq_true rfl)⟩ (Nat.le_of_ble_eq_true rfl) ⟨Nat.zero_le _, Nat.zero_le _⟩ dX12_countOf_46 ?_
      cases h16_
      exact K17_
    refine z_iload_n C 2 dX12_countOf_31 rfl rfl ?_
    refine z_iconst (v := 2) C dX12_countOf_32 ic_2 ?_
    refine c_eq_f C 44 dX12_countOf_33 (by decide) (fun h20_ => ?_) (fun h20_ => ?_)
    · exact K18_ h20_
    · exact K19_ h20_
  cases hf
  subst hρ
  exact z_iret C dX12_countOf_49
theorem c12_countOf {l : Launch} {kd : List KD} {w : Wp} {σ : St} {o_a : Int32} {way_a : Int32} {set_a : Int32} (hkd : kd = kdM) (hi : zI kd w) {r : Int32} (hf : q12_countOf σ o_a way_a set_a = some r) : zM l kd w yX12_countOf cX12_countOf 4 (some .int) rm12_countOf [.ref (w.2.2.1 0), .int o_a, .int way_a, .int set_a] σ (some (.int r), σ) := zM_of rfl hi (Nat.le_of_ble_eq_true rfl) (fun Θ hl hw C => by
  obtain ⟨Θ1, Θ2, Θ3, Θ4, Θ5⟩ := Θ
  cases hw
  exact p12_countOf C hkd  hf rfl)
/-! LastLoafModel.winnerOf -/
theorem w_9_186 : Cond.code ({ cls := "LastLoafModel", name := "countOf", desc := "(III)I" } : MethodName) prog_14_method_52_code (4 : Nat) (Option.some ClassFile.FieldType.int) ∈ TB := tb_in (lwt_9 (List.mem_of_getElem? (i := 186) (by decide +kernel))) rfl
theorem w_9_183 : Cond.methodLink "LastLoafModel" (301 : Nat) ({ cls := "LastLoafModel", name := "countOf", desc := "(III)I" } : MethodName) ∈ TB := tb_in (lwt_9 (List.mem_of_getElem? (i := 183) (by decide +kernel))) rfl
theorem w_9_185 : Cond.instanceMethod ({ cls := "LastLoafModel", name := "countOf", desc := "(III)I" } : MethodName) ∈ TB := tb_in (lwt_9 (List.mem_of_getElem? (i := 185) (by decide +kernel))) rfl
theorem ws_LastLoafModel_countOf_III_I : Cond.selects "LastLoafModel" (⟨"LastLoafModel", "countOf", "(III)I"⟩ : MethodName) (⟨"LastLoafModel", "countOf", "(III)I"⟩ : MethodName) ∈ TB := tb_in (List.mem_append_left _ (List.mem_of_getElem? (i := 69) (by decide +kernel))) rfl
theorem cr12_301 {Θ : Tz} {cc : ByteArray} {nL kc ks : Nat} {ret : Option FieldType} {rm : Room} {Q : State → Prop} {σ : St} {pc : Nat} {lv : List (Nat × Value)} {st : List Value} (C : Zc Θ cc nL RX12 ret rm) (hkd : Θ.2.2.2.2.1 = kdM) {o_a : Int32} {way_a : Int32} {set_a : Int32} {r : Int32} (hx : q12_countOf σ o_a way_a set_a = some r) (hrm : rm12_countOf.frames + 1 ≤ rm.frames ∧ 8 + (4 + 11) + rm12_countOf.locals ≤ rm.locals) (hcat : (st.map fun v => v.category).sum ≤ 8) (hk : kc ≤ rm.cells ∧ ks ≤ rm.slots) (hd : decode cc pc = .ok (.invokevirtual 301, 3)) (kk : Z Θ nL kc ks Q σ (pc + 3) lv (.int r :: st)) : Z Θ nL kc ks Q σ pc lv (.int set_a :: .int way_a :: .int o_a :: .ref (zA Θ 0) :: st) := z_callV C 0 [.int o_a, .int way_a, .int set_a] (some (.int r), σ) 3 (kM_0 hkd) rfl (c12_countOf (o_a := o_a) (way_a := way_a) (set_a := set_a) hkd (zc_inj C) hx) w_9_186 w_9_183 w_9_185 ws_LastLoafModel_countOf_III_I w_1_14 ⟨rfl, rfl, hrm.1, hrm.2⟩ (by decide +kernel) rfl rfl hcat hk hd kk
theorem dX12_winnerOf_0 : decode cX12_winnerOf 0 = .ok (.iconst (-1), 1) := by decide +kernel
theorem dX12_winnerOf_1 : decode cX12_winnerOf 1 = .ok (.istore_n 3, 1) := by decide +kernel
theorem dX12_winnerOf_2 : decode cX12_winnerOf 2 = .ok (.iconst 0, 1) := by decide +kernel
theorem dX12_winnerOf_3 : decode cX12_winnerOf 3 = .ok (.istore 4, 2) := by decide +kernel
theorem dX12_winnerOf_5 : decode cX12_winnerOf 5 = .ok (.iload 4, 2) := by decide +kernel
theorem dX12_winnerOf_7 : decode cX12_winnerOf 7 = .ok (.aload_n 0, 1) := by decide +kernel
theorem dX12_winnerOf_8 : decode cX12_winnerOf 8 = .ok (.getfield 7, 3) := by decide +kernel
theorem dX12_winnerOf_11 : decode cX12_winnerOf 11 = .ok (.iconst 3, 1) := by decide +kernel
theorem dX12_winnerOf_12 : decode cX12_winnerOf 12 = .ok (.iaload, 1) := by decide +kernel
theorem dX12_winnerOf_13 : decode cX12_winnerOf 13 = .ok (.if_icmp .ge 44, 3) := by decide +kernel
theorem dX12_winnerOf_16 : decode cX12_winnerOf 16 = .ok (.iload_n 2, 1) := by decide +kernel
theorem dX12_winnerOf_17 : decode cX12_winnerOf 17 = .ok (.iload 4, 2) := by decide +kernel
theorem dX12_winnerOf_19 : decode cX12_winnerOf 19 = .ok (.invokestatic 275, 3) := by decide +kernel
theorem dX12_winnerOf_22 : decode cX12_winnerOf 22 = .ok (.ifCond .eq 29, 3) := by decide +kernel
theorem dX12_winnerOf_25 : decode cX12_winnerOf 25 = .ok (.iload_n 3, 1) := by decide +kernel
theorem dX12_winnerOf_26 : decode cX12_winnerOf 26 = .ok (.iconst (-1), 1) := by decide +kernel
theorem dX12_winnerOf_27 : decode cX12_winnerOf 27 = .ok (.if_icmp .eq 21, 3) := by decide +kernel
theorem dX12_winnerOf_30 : decode cX12_winnerOf 30 = .ok (.aload_n 0, 1) := by decide +kernel
theorem dX12_winnerOf_31 : decode cX12_winnerOf 31 = .ok (.iload 4, 2) := by decide +kernel
theorem dX12_winnerOf_33 : decode cX12_winnerOf 33 = .ok (.iload_n 1, 1) := by decide +kernel
theorem dX12_winnerOf_34 : decode cX12_winnerOf 34 = .ok (.iload_n 2, 1) := by decide +kernel
theorem dX12_winnerOf_35 : decode cX12_winnerOf 35 = .ok (.invokevirtual 301, 3) := by decide +kernel
theorem dX12_winnerOf_38 : decode cX12_winnerOf 38 = .ok (.aload_n 0, 1) := by decide +kernel
theorem dX12_winnerOf_39 : decode cX12_winnerOf 39 = .ok (.iload_n 3, 1) := by decide +kernel
theorem dX12_winnerOf_40 : decode cX12_winnerOf 40 = .ok (.iload_n 1, 1) := by decide +kernel
theorem dX12_winnerOf_41 : decode cX12_winnerOf 41 = .ok (.iload_n 2, 1) := by decide +kernel
theorem dX12_winnerOf_42 : decode cX12_winnerOf 42 = .ok (.invokevirtual 301, 3) := by decide +kernel
theorem dX12_winnerOf_45 : decode cX12_winnerOf 45 = .ok (.if_icmp .le 6, 3) := by decide +kernel
theorem dX12_winnerOf_48 : decode cX12_winnerOf 48 = .ok (.iload 4, 2) := by decide +kernel
theorem dX12_winnerOf_50 : decode cX12_winnerOf 50 = .ok (.istore_n 3, 1) := by decide +kernel
theorem dX12_winnerOf_51 : decode cX12_winnerOf 51 = .ok (.iinc 4 1, 3) := by decide +kernel
theorem dX12_winnerOf_54 : decode cX12_winnerOf 54 = .ok (.goto (-49), 3) := by decide +kernel
theorem dX12_winnerOf_57 : decode cX12_winnerOf 57 = .ok (.iload_n 3, 1) := by decide +kernel
theorem dX12_winnerOf_58 : decode cX12_winnerOf 58 = .ok (.ireturn, 1) := by decide +kernel
def q12_winnerOf (σ : St) (way_a : Int32) (set_a : Int32) : Option Int32 :=
  Option.bind (loop2 (fun rec4_ (found7_ : Int32) (o8_ : Int32) =>
  Option.bind (ag σ 1 752 3) fun x13_ =>
  if o8_ < x13_ then
  Option.bind (Option.bind (if q12_isOf set_a o8_ = true then (if found7_ = (-1) then (some true) else (Option.bind (q12_countOf σ o8_ way_a set_a) fun x26_ =>
  Option.bind (q12_countOf σ found7_ way_a set_a) fun x28_ =>
  if x28_ < x26_ then (some true) else (some false))) else (some false)) fun t22_ =>
  if t22_ = true then (some (o8_)) else (some (found7_))) fun y17_ =>
  lt (o8_ + 1) fun o32_ =>
  rec4_ y17_ o32_
  else (some (found7_, o8_))) fuelN (-1 : Int32) (0 : Int32)) fun y1_ =>
  some y1_.1
abbrev rm12_winnerOf : Room := { frames := 4, cells := 0, slots := 0, locals := 97 }
set_option maxHeartbeats 4000000 in
set_option maxRecDepth 100000 in
theorem p12_winnerOf {Θ : Tz} {σ : St} {ρ : Option Value × St} (C : Zc Θ cX12_winnerOf 5 RX12 (some .int) rm12_winnerOf) (hkd : Θ.2.2.2.2.1 = kdM) {way_a : Int32} {set_a : Int32} {r : Int32} (hf : q12_winnerOf σ way_a set_a = some r) (hρ : ρ = (some (.int r), σ)) : Z Θ 5 0 0 (zQ Θ ρ) σ 0 [(0, .ref (zA Θ 0)), (1, .int way_a), (2, .int set_a)] [] := by
  unfold q12_winnerOf at hf
  refine z_iconst (v := (-1)) C dX12_winnerOf_0 ic_m1 ?_
  refine z_istN C dX12_winnerOf_1 rfl rfl (Nat.le_of_ble_eq_true rfl) rfl ?_
  refine z_iconst (v := 0) C dX12_winnerOf_2 ic_0 ?_
  refine z_ist C dX12_winnerOf_3 rfl (Nat.le_of_ble_eq_true rfl) rfl ?_
  refine Z.sub [2, 3, 4, 1, 0] rfl ?_
  obtain ⟨y1_, h2_, hf⟩ := ob hf
  suffices K3_ : Z Θ 5 0 0 (zQ Θ ρ) σ 57 [(0, .ref (zA Θ 0)), (1, .int way_a), (2, .int set_a), (3, .int y1_.1), (4, .int y1_.2)] [] by
    refine loop2_Z (P := fun (found7_ : Int32) (o8_ : Int32) => Z Θ 5 0 0 (zQ Θ ρ) σ 5 [(0, .ref (zA Θ 0)), (1, .int way_a), (2, .int set_a), (3, .int found7_), (4, .int o8_)] []) ?_ fuelN (-1 : Int32) (0 : Int32) h2_
    clear h2_
    intro rec4_ found7_ o8_ h5_ h6_
    refine z_iload C 4 dX12_winnerOf_5 rfl ?_
    refine z_aload_n C 0 dX12_winnerOf_7 rfl rfl ?_
    refine fg12_7 C hkd dX12_winnerOf_8 ?_
    refine z_iconst (v := 3) C dX12_winnerOf_11 ic_3 ?_
    obtain ⟨x13_, h14_, h6_⟩ := ob h6_
    refine z_ag C h14_ (kM_1 hkd) dX12_winnerOf_12 ?_
    have K11_ : o8_ < x13_ → Z Θ 5 0 0 (zQ Θ ρ) σ 16 [(0, .ref (zA Θ 0)), (1, .int way_a), (2, .int set_a), (3, .int found7_), (4, .int o8_)] [] := by
      intro h16_
      rw [if_pos h16_] at h6_
      obtain ⟨y17_, h18_, h6_⟩ := ob h6_
      suffices K19_ : Z Θ 5 0 0 (zQ Θ ρ) σ 51 [(0, .ref (zA Θ 0)), (1, .int way_a), (2, .int set_a), (3, .int y17_), (4, .int o8_)] [] by
        obtain ⟨t22_, h23_, h18_⟩ := ob h18_
        have K20_ : t22_ = true → Z Θ 5 0 0 (zQ Θ ρ) σ 48 [(0, .ref (zA Θ 0)), (1, .int way_a), (2, .int set_a), (3, .int found7_), (4, .int o8_)] [] := by
          intro h31_
          rw [if_pos h31_] at h18_
          refine z_iload C 4 dX12_winnerOf_48 rfl ?_
          refine z_istN C dX12_winnerOf_50 rfl rfl (Nat.le_of_ble_eq_true rfl) rfl ?_
          cases h18_
          refine Z.sub [1, 2, 3, 0, 4] rfl ?_
          exact K19_
        have K21_ : ¬ (t22_ = true) → Z Θ 5 0 0 (zQ Θ ρ) σ 51 [(0, .ref (zA Θ 0)), (1, .int way_a), (2, .int set_a), (3, .int found7_), (4, .int o8_)] [] := by
          intro h31_
          rw [if_neg h31_] at h18_
          cases h18_
          exact K19_
        refine z_iload_n C 2 dX12_winnerOf_16 rfl rfl ?_
        refine z_iload C 4 dX12_winnerOf_17 rfl ?_
        refine cr12_275 (set_a := set_a) (k_a := o8_) C hkd  ⟨(Nat.le_of_ble_eq_true rfl), (Nat.le_of_ble_eq_true rfl)⟩ (Nat.le_of_ble_eq_true rfl) ⟨Nat.zero_le _, Nat.zero_le _⟩ dX12_winnerOf_19 ?_
        refine cb_f C 51 dX12_winnerOf_22 (by decide) (fun h24_ => ?_) (fun h24_ => ?_)
        · rw [if_pos h24_] at h23_
          refine z_iload_n C 3 dX12_winnerOf_25 rfl rfl ?_
          refine z_iconst (v := (-1)) C dX12_winnerOf_26 ic_m1 ?_
          refine c_eq_t C 48 dX12_winnerOf_27 (by decide) (fun h25_ => ?_) (fun h25_ => ?_)
          · rw [if_pos h25_] at h23_
            cases h23_
            exact K20_ rfl
          · rw [if_neg h25_] at h23_
            refine z_aload_n C 0 dX12_winnerOf_30 rfl rfl ?_
            refine z_iload C 4 dX12_winnerOf_31 rfl ?_
            refine z_iload_n C 1 dX12_winnerOf_33 rfl rfl ?_
            refine z_iload_n C 2 dX12_winnerOf_34 rfl rfl ?_
            obtain ⟨x26_, h27_, h23_⟩ := ob h23_
            refine cr12_301 (o_a := o8_) (way_a := way_a) (set_a := set_a) C hkd  h27_ ⟨(Nat.le_of_ble_eq_true rfl), (Nat.le_of_ble_eq_true rfl)⟩ (Nat.le_of_ble_eq_true rfl) ⟨Nat.zero_le _, Nat.zero_le _⟩ dX12_winnerOf_35 ?_
            refine z_aload_n C 0 dX12_winnerOf_38 rfl rfl ?_
            refine z_iload_n C 3 dX12_winnerOf_39 rfl rfl ?_
            refine z_iload_n C 1 dX12_winnerOf_40 rfl rfl ?_
            refine z_iload_n C 2 dX12_winnerOf_41 rfl rfl ?_
            obtain ⟨x28_, h29_, h23_⟩ := ob h23_
            refine cr12_301 (o_a := found7_) (way_a := way_a) (set_a := set_a) C hkd  h29_ ⟨(Nat.le_of_ble_eq_true rfl), (Nat.le_of_ble_eq_true rfl)⟩ (Nat.le_of_ble_eq_true rfl) ⟨Nat.zero_le _, Nat.zero_le _⟩ dX12_winnerOf_42 ?_
            refine c_gt_f C 51 dX12_winnerOf_45 (by decide) (fun h30_ => ?_) (fun h30_ => ?_)
            · rw [if_pos h30_] at h23_
              cases h23_
              exact K20_ rfl
            · rw [if_neg h30_] at h23_
              cases h23_
              exact K21_ Bool.false_ne_true
        · rw [if_neg h24_] at h23_
          cases h23_
          exact K21_ Bool.false_ne_true
      obtain ⟨o32_, h33_, h6_⟩ := lt_ h6_
      refine z_inc C 4 dX12_winnerOf_51 rfl ic_1 h33_ (Nat.le_of_ble_eq_true rfl) rfl ?_
      refine z_goto C 5 dX12_winnerOf_54 (by decide) ?_
      refine Z.sub [1, 2, 3, 4, 0] rfl ?_
      exact h5_ _ _ h6_
    have K12_ : ¬ (o8_ < x13_) → Z Θ 5 0 0 (zQ Θ ρ) σ 57 [(0, .ref (zA Θ 0)), (1, .int way_a), (2, .int set_a), (3, .int found7_), (4, .int o8_)] [] := by
      intro h16_
      rw [if_neg h16_] at h6_
      cases h6_
      exact K3_
    refine c_lt_f C 57 dX12_winnerOf_13 (by decide) (fun h15_ => ?_) (fun h15_ => ?_)
    · exact K11_ h15_
    · exact K12_ h15_
  refine z_iload_n C 3 dX12_winnerOf_57 rfl rfl ?_
  cases hf
  subst hρ
  exact z_iret C dX12_winnerOf_58
theorem c12_winnerOf {l : Launch} {kd : List KD} {w : Wp} {σ : St} {way_a : Int32} {set_a : Int32} (hkd : kd = kdM) (hi : zI kd w) {r : Int32} (hf : q12_winnerOf σ way_a set_a = some r) : zM l kd w yX12_winnerOf cX12_winnerOf 5 (some .int) rm12_winnerOf [.ref (w.2.2.1 0), .int way_a, .int set_a] σ (some (.int r), σ) := zM_of rfl hi (Nat.le_of_ble_eq_true rfl) (fun Θ hl hw C => by
  obtain ⟨Θ1, Θ2, Θ3, Θ4, Θ5⟩ := Θ
  cases hw
  exact p12_winnerOf C hkd  hf rfl)
/-! LastLoafModel.lowest -/
theorem dX12_lowest_0 : decode cX12_lowest 0 = .ok (.iconst 0, 1) := by decide +kernel
theorem dX12_lowest_1 : decode cX12_lowest 1 = .ok (.istore_n 1, 1) := by decide +kernel
theorem dX12_lowest_2 : decode cX12_lowest 2 = .ok (.iload_n 0, 1) := by decide +kernel
theorem dX12_lowest_3 : decode cX12_lowest 3 = .ok (.iload_n 1, 1) := by decide +kernel
theorem dX12_lowest_4 : decode cX12_lowest 4 = .ok (.invokestatic 275, 3) := by decide +kernel
theorem dX12_lowest_7 : decode cX12_lowest 7 = .ok (.ifCond .ne 9, 3) := by decide +kernel
theorem dX12_lowest_10 : decode cX12_lowest 10 = .ok (.iinc 1 1, 3) := by decide +kernel
theorem dX12_lowest_13 : decode cX12_lowest 13 = .ok (.goto (-11), 3) := by decide +kernel
theorem dX12_lowest_16 : decode cX12_lowest 16 = .ok (.iload_n 1, 1) := by decide +kernel
theorem dX12_lowest_17 : decode cX12_lowest 17 = .ok (.ireturn, 1) := by decide +kernel
def q12_lowest (set_a : Int32) : Option Int32 :=
  Option.bind (loop1 (fun rec4_ (k7_ : Int32) =>
  if ¬ (q12_isOf set_a k7_ = true) then
  lt (k7_ + 1) fun k14_ =>
  rec4_ k14_
  else (some k7_)) fuelN (0 : Int32)) fun y1_ =>
  some y1_
abbrev rm12_lowest : Room := { frames := 1, cells := 0, slots := 0, locals := 21 }
set_option maxHeartbeats 4000000 in
set_option maxRecDepth 100000 in
theorem p12_lowest {Θ : Tz} {σ : St} {ρ : Option Value × St} (C : Zc Θ cX12_lowest 2 RX12 (some .int) rm12_lowest) (hkd : Θ.2.2.2.2.1 = kdM) {set_a : Int32} {r : Int32} (hf : q12_lowest set_a = some r) (hρ : ρ = (some (.int r), σ)) : Z Θ 2 0 0 (zQ Θ ρ) σ 0 [(0, .int set_a)] [] := by
  unfold q12_lowest at hf
  refine z_iconst (v := 0) C dX12_lowest_0 ic_0 ?_
  refine z_istN C dX12_lowest_1 rfl rfl (Nat.le_of_ble_eq_true rfl) rfl ?_
  refine Z.sub [1, 0] rfl ?_
  obtain ⟨y1_, h2_, hf⟩ := ob hf
  suffices K3_ : Z Θ 2 0 0 (zQ Θ ρ) σ 16 [(0, .int set_a), (1, .int y1_)] [] by
    refine loop1_Z (P := fun (k7_ : Int32) => Z Θ 2 0 0 (zQ Θ ρ) σ 2 [(0, .int set_a), (1, .int k7_)] []) ?_ fuelN (0 : Int32) h2_
    clear h2_
    intro rec4_ k7_ h5_ h6_
    have K10_ : ¬ (q12_isOf set_a k7_ = true) → Z Θ 2 0 0 (zQ Θ ρ) σ 10 [(0, .int set_a), (1, .int k7_)] [] := by
      intro h13_
      rw [if_pos h13_] at h6_
      obtain ⟨k14_, h15_, h6_⟩ := lt_ h6_
      refine z_inc C 1 dX12_lowest_10 rfl ic_1 h15_ (Nat.le_of_ble_eq_true rfl) rfl ?_
      refine z_goto C 2 dX12_lowest_13 (by decide) ?_
      refine Z.sub [1, 0] rfl ?_
      exact h5_ _ h6_
    have K11_ : ¬ (¬ (q12_isOf set_a k7_ = true)) → Z Θ 2 0 0 (zQ Θ ρ) σ 16 [(0, .int set_a), (1, .int k7_)] [] := by
      intro h13_
      rw [if_neg h13_] at h6_
      cases h6_
      exact K3_
    refine z_iload_n C 0 dX12_lowest_2 rfl rfl ?_
    refine z_iload_n C 1 dX12_lowest_3 rfl rfl ?_
    refine cr12_275 (set_a := set_a) (k_a := k7_) C hkd  ⟨(Nat.le_of_ble_eq_true rfl), (Nat.le_of_ble_eq_true rfl)⟩ (Nat.le_of_ble_eq_true rfl) ⟨Nat.zero_le _, Nat.zero_le _⟩ dX12_lowest_4 ?_
    refine cb_t C 16 dX12_lowest_7 (by decide) (fun h12_ => ?_) (fun h12_ => ?_)
    · exact K11_ (fun n => n h12_)
    · exact K10_ h12_
  refine z_iload_n C 1 dX12_lowest_16 rfl rfl ?_
  cases hf
  subst hρ
  exact z_iret C dX12_lowest_17
theorem c12_lowest {l : Launch} {kd : List KD} {w : Wp} {σ : St} {set_a : Int32} (hkd : kd = kdM) (hi : zI kd w) {r : Int32} (hf : q12_lowest set_a = some r) : zM l kd w yX12_lowest cX12_lowest 2 (some .int) rm12_lowest [.int set_a] σ (some (.int r), σ) := zM_of rfl hi (Nat.le_of_ble_eq_true rfl) (fun Θ hl hw C => by
  obtain ⟨Θ1, Θ2, Θ3, Θ4, Θ5⟩ := Θ
  cases hw
  exact p12_lowest C hkd  hf rfl)
/-! LastLoafModel.byRounds -/
theorem w_9_193 : Cond.code ({ cls := "LastLoafModel", name := "lowest", desc := "(I)I" } : MethodName) prog_14_method_55_code (2 : Nat) (Option.some ClassFile.FieldType.int) ∈ TB := tb_in (lwt_9 (List.mem_of_getElem? (i := 193) (by decide +kernel))) rfl
theorem w_9_192 : Cond.static ({ cls := "LastLoafModel", name := "lowest", desc := "(I)I" } : MethodName) ∈ TB := tb_in (lwt_9 (List.mem_of_getElem? (i := 192) (by decide +kernel))) rfl
theorem w_9_191 : Cond.methodLink "LastLoafModel" (304 : Nat) ({ cls := "LastLoafModel", name := "lowest", desc := "(I)I" } : MethodName) ∈ TB := tb_in (lwt_9 (List.mem_of_getElem? (i := 191) (by decide +kernel))) rfl
theorem cr12_304 {Θ : Tz} {cc : ByteArray} {nL kc ks : Nat} {ret : Option FieldType} {rm : Room} {Q : State → Prop} {σ : St} {pc : Nat} {lv : List (Nat × Value)} {st : List Value} (C : Zc Θ cc nL RX12 ret rm) (hkd : Θ.2.2.2.2.1 = kdM) {set_a : Int32} {r : Int32} (hx : q12_lowest set_a = some r) (hrm : rm12_lowest.frames + 1 ≤ rm.frames ∧ 8 + (2 + 11) + rm12_lowest.locals ≤ rm.locals) (hcat : (st.map fun v => v.category).sum ≤ 8) (hk : kc ≤ rm.cells ∧ ks ≤ rm.slots) (hd : decode cc pc = .ok (.invokestatic 304, 3)) (kk : Z Θ nL kc ks Q σ (pc + 3) lv (.int r :: st)) : Z Θ nL kc ks Q σ pc lv (.int set_a :: st) := z_callS C [.int set_a] (some (.int r), σ) 1 (c12_lowest (set_a := set_a) hkd (zc_inj C) hx) w_9_193 w_9_191 w_9_192 w_1_14 ⟨rfl, rfl, hrm.1, hrm.2⟩ (by decide +kernel) rfl rfl hcat hk hd kk
theorem dX12_byRounds_0 : decode cX12_byRounds 0 = .ok (.aload_n 0, 1) := by decide +kernel
theorem dX12_byRounds_1 : decode cX12_byRounds 1 = .ok (.getfield 269, 3) := by decide +kernel
theorem dX12_byRounds_4 : decode cX12_byRounds 4 = .ok (.istore_n 1, 1) := by decide +kernel
theorem dX12_byRounds_5 : decode cX12_byRounds 5 = .ok (.iload_n 1, 1) := by decide +kernel
theorem dX12_byRounds_6 : decode cX12_byRounds 6 = .ok (.invokestatic 286, 3) := by decide +kernel
theorem dX12_byRounds_9 : decode cX12_byRounds 9 = .ok (.iconst 1, 1) := by decide +kernel
theorem dX12_byRounds_10 : decode cX12_byRounds 10 = .ok (.if_icmp .le 66, 3) := by decide +kernel
theorem dX12_byRounds_13 : decode cX12_byRounds 13 = .ok (.iconst (-1), 1) := by decide +kernel
theorem dX12_byRounds_14 : decode cX12_byRounds 14 = .ok (.istore_n 2, 1) := by decide +kernel
theorem dX12_byRounds_15 : decode cX12_byRounds 15 = .ok (.iconst 0, 1) := by decide +kernel
theorem dX12_byRounds_16 : decode cX12_byRounds 16 = .ok (.istore_n 3, 1) := by decide +kernel
theorem dX12_byRounds_17 : decode cX12_byRounds 17 = .ok (.iload_n 3, 1) := by decide +kernel
theorem dX12_byRounds_18 : decode cX12_byRounds 18 = .ok (.aload_n 0, 1) := by decide +kernel
theorem dX12_byRounds_19 : decode cX12_byRounds 19 = .ok (.getfield 7, 3) := by decide +kernel
theorem dX12_byRounds_22 : decode cX12_byRounds 22 = .ok (.iconst 3, 1) := by decide +kernel
theorem dX12_byRounds_23 : decode cX12_byRounds 23 = .ok (.iaload, 1) := by decide +kernel
theorem dX12_byRounds_24 : decode cX12_byRounds 24 = .ok (.if_icmp .ge 41, 3) := by decide +kernel
theorem dX12_byRounds_27 : decode cX12_byRounds 27 = .ok (.iload_n 1, 1) := by decide +kernel
theorem dX12_byRounds_28 : decode cX12_byRounds 28 = .ok (.iload_n 3, 1) := by decide +kernel
theorem dX12_byRounds_29 : decode cX12_byRounds 29 = .ok (.invokestatic 275, 3) := by decide +kernel
theorem dX12_byRounds_32 : decode cX12_byRounds 32 = .ok (.ifCond .eq 27, 3) := by decide +kernel
theorem dX12_byRounds_35 : decode cX12_byRounds 35 = .ok (.iload_n 2, 1) := by decide +kernel
theorem dX12_byRounds_36 : decode cX12_byRounds 36 = .ok (.iconst (-1), 1) := by decide +kernel
theorem dX12_byRounds_37 : decode cX12_byRounds 37 = .ok (.if_icmp .eq 20, 3) := by decide +kernel
theorem dX12_byRounds_40 : decode cX12_byRounds 40 = .ok (.aload_n 0, 1) := by decide +kernel
theorem dX12_byRounds_41 : decode cX12_byRounds 41 = .ok (.iload_n 3, 1) := by decide +kernel
theorem dX12_byRounds_42 : decode cX12_byRounds 42 = .ok (.iconst 0, 1) := by decide +kernel
theorem dX12_byRounds_43 : decode cX12_byRounds 43 = .ok (.iload_n 1, 1) := by decide +kernel
theorem dX12_byRounds_44 : decode cX12_byRounds 44 = .ok (.invokevirtual 292, 3) := by decide +kernel
theorem dX12_byRounds_47 : decode cX12_byRounds 47 = .ok (.aload_n 0, 1) := by decide +kernel
theorem dX12_byRounds_48 : decode cX12_byRounds 48 = .ok (.iload_n 2, 1) := by decide +kernel
theorem dX12_byRounds_49 : decode cX12_byRounds 49 = .ok (.iconst 0, 1) := by decide +kernel
theorem dX12_byRounds_50 : decode cX12_byRounds 50 = .ok (.iload_n 1, 1) := by decide +kernel
theorem dX12_byRounds_51 : decode cX12_byRounds 51 = .ok (.invokevirtual 292, 3) := by decide +kernel
theorem dX12_byRounds_54 : decode cX12_byRounds 54 = .ok (.if_icmp .gt 5, 3) := by decide +kernel
theorem dX12_byRounds_57 : decode cX12_byRounds 57 = .ok (.iload_n 3, 1) := by decide +kernel
theorem dX12_byRounds_58 : decode cX12_byRounds 58 = .ok (.istore_n 2, 1) := by decide +kernel
theorem dX12_byRounds_59 : decode cX12_byRounds 59 = .ok (.iinc 3 1, 3) := by decide +kernel
theorem dX12_byRounds_62 : decode cX12_byRounds 62 = .ok (.goto (-45), 3) := by decide +kernel
theorem dX12_byRounds_65 : decode cX12_byRounds 65 = .ok (.iload_n 1, 1) := by decide +kernel
theorem dX12_byRounds_66 : decode cX12_byRounds 66 = .ok (.iconst 1, 1) := by decide +kernel
theorem dX12_byRounds_67 : decode cX12_byRounds 67 = .ok (.iload_n 2, 1) := by decide +kernel
theorem dX12_byRounds_68 : decode cX12_byRounds 68 = .ok (.ishl, 1) := by decide +kernel
theorem dX12_byRounds_69 : decode cX12_byRounds 69 = .ok (.iconst (-1), 1) := by decide +kernel
theorem dX12_byRounds_70 : decode cX12_byRounds 70 = .ok (.ixor, 1) := by decide +kernel
theorem dX12_byRounds_71 : decode cX12_byRounds 71 = .ok (.iand, 1) := by decide +kernel
theorem dX12_byRounds_72 : decode cX12_byRounds 72 = .ok (.istore_n 1, 1) := by decide +kernel
theorem dX12_byRounds_73 : decode cX12_byRounds 73 = .ok (.goto (-68), 3) := by decide +kernel
theorem dX12_byRounds_76 : decode cX12_byRounds 76 = .ok (.iload_n 1, 1) := by decide +kernel
theorem dX12_byRounds_77 : decode cX12_byRounds 77 = .ok (.ifCond .ne 7, 3) := by decide +kernel
theorem dX12_byRounds_80 : decode cX12_byRounds 80 = .ok (.iconst (-1), 1) := by decide +kernel
theorem dX12_byRounds_81 : decode cX12_byRounds 81 = .ok (.goto 7, 3) := by decide +kernel
theorem dX12_byRounds_84 : decode cX12_byRounds 84 = .ok (.iload_n 1, 1) := by decide +kernel
theorem dX12_byRounds_85 : decode cX12_byRounds 85 = .ok (.invokestatic 304, 3) := by decide +kernel
theorem dX12_byRounds_88 : decode cX12_byRounds 88 = .ok (.ireturn, 1) := by decide +kernel
def q12_byRounds (σ : St) : Option Int32 :=
  lt (σ 0 21) fun left1_ =>
  Option.bind (loop1 (fun rec6_ (left9_ : Int32) =>
  Option.bind (q12_bits left9_) fun x14_ =>
  if 1 < x14_ then
  Option.bind (loop2 (fun rec21_ (goes24_ : Int32) (o25_ : Int32) =>
  Option.bind (ag σ 1 752 3) fun x30_ =>
  if o25_ < x30_ then
  Option.bind (Option.bind (if q12_isOf left9_ o25_ = true then (if goes24_ = (-1) then (some true) else (Option.bind (q12_votesAt σ o25_ 0 left9_) fun x43_ =>
  Option.bind (q12_votesAt σ goes24_ 0 left9_) fun x45_ =>
  if x43_ ≤ x45_ then (some true) else (some false))) else (some false)) fun t39_ =>
  if t39_ = true then (some (o25_)) else (some (goes24_))) fun y34_ =>
  lt (o25_ + 1) fun o49_ =>
  rec21_ y34_ o49_
  else (some (goes24_, o25_))) fuelN (-1 : Int32) (0 : Int32)) fun y18_ =>
  lt (left9_ &&& ((shl 1 y18_.1) ^^^ (-1))) fun left51_ =>
  rec6_ left51_
  else (some left9_)) fuelN left1_) fun y3_ =>
  Option.bind (if y3_ = 0 then (some (-1 : Int32)) else (Option.bind (q12_lowest y3_) fun x59_ =>
  some x59_)) fun x53_ =>
  some x53_
abbrev rm12_byRounds : Room := { frames := 3, cells := 0, slots := 0, locals := 74 }
set_option maxHeartbeats 4000000 in
set_option maxRecDepth 100000 in
theorem p12_byRounds {Θ : Tz} {σ : St} {ρ : Option Value × St} (C : Zc Θ cX12_byRounds 4 RX12 (some .int) rm12_byRounds) (hkd : Θ.2.2.2.2.1 = kdM) {r : Int32} (hf : q12_byRounds σ = some r) (hρ : ρ = (some (.int r), σ)) : Z Θ 4 0 0 (zQ Θ ρ) σ 0 [(0, .ref (zA Θ 0))] [] := by
  unfold q12_byRounds at hf
  refine z_aload_n C 0 dX12_byRounds_0 rfl rfl ?_
  refine fg12_269 C hkd dX12_byRounds_1 ?_
  obtain ⟨left1_, h2_, hf⟩ := lt_ hf
  refine z_istN C dX12_byRounds_4 h2_ rfl (Nat.le_of_ble_eq_true rfl) rfl ?_
  refine Z.sub [1, 0] rfl ?_
  obtain ⟨y3_, h4_, hf⟩ := ob hf
  suffices K5_ : Z Θ 4 0 0 (zQ Θ ρ) σ 76 [(0, .ref (zA Θ 0)), (1, .int y3_)] [] by
    refine loop1_Z (P := fun (left9_ : Int32) => Z Θ 4 0 0 (zQ Θ ρ) σ 5 [(0, .ref (zA Θ 0)), (1, .int left9_)] []) ?_ fuelN left1_ h4_
    clear h4_
    intro rec6_ left9_ h7_ h8_
    refine z_iload_n C 1 dX12_byRounds_5 rfl rfl ?_
    obtain ⟨x14_, h15_, h8_⟩ := ob h8_
    refine cr12_286 (set_a := left9_) C hkd  h15_ ⟨(Nat.le_of_ble_eq_true rfl), (Nat.le_of_ble_eq_true rfl)⟩ (Nat.le_of_ble_eq_true rfl) ⟨Nat.zero_le _, Nat.zero_le _⟩ dX12_byRounds_6 ?_
    refine z_iconst (v := 1) C dX12_byRounds_9 ic_1 ?_
    have K12_ : 1 < x14_ → Z Θ 4 0 0 (zQ Θ ρ) σ 13 [(0, .ref (zA Θ 0)), (1, .int left9_)] [] := by
      intro h17_
      rw [if_pos h17_] at h8_
      refine z_iconst (v := (-1)) C dX12_byRounds_13 ic_m1 ?_
      refine z_istN C dX12_byRounds_14 rfl rfl (Nat.le_of_ble_eq_true rfl) rfl ?_
      refine z_iconst (v := 0) C dX12_byRounds_15 ic_0 ?_
      refine z_istN C dX12_byRounds_16 rfl rfl (Nat.le_of_ble_eq_true rfl) rfl ?_
      refine Z.sub [2, 3, 1, 0] rfl ?_
      obtain ⟨y18_, h19_, h8_⟩ := ob h8_
      suffices K20_ : Z Θ 4 0 0 (zQ Θ ρ) σ 65 [(0, .ref (zA Θ 0)), (1, .int left9_), (2, .int y18_.1), (3, .int y18_.2)] [] by
        refine loop2_Z (P := fun (goes24_ : Int32) (o25_ : Int32) => Z Θ 4 0 0 (zQ Θ ρ) σ 17 [(0, .ref (zA Θ 0)), (1, .int left9_), (2, .int goes24_), (3, .int o25_)] []) ?_ fuelN (-1 : Int32) (0 : Int32) h19_
        clear h19_
        intro rec21_ goes24_ o25_ h22_ h23_
        refine z_iload_n C 3 dX12_byRounds_17 rfl rfl ?_
        refine z_aload_n C 0 dX12_byRounds_18 rfl rfl ?_
        refine fg12_7 C hkd dX12_byRounds_19 ?_
        refine z_iconst (v := 3) C dX12_byRounds_22 ic_3 ?_
        obtain ⟨x30_, h31_, h23_⟩ := ob h23_
        refine z_ag C h31_ (kM_1 hkd) dX12_byRounds_23 ?_
        have K28_ : o25_ < x30_ → Z Θ 4 0 0 (zQ Θ ρ) σ 27 [(0, .ref (zA Θ 0)), (1, .int left9_), (2, .int goes24_), (3, .int o25_)] [] := by
          intro h33_
          rw [if_pos h33_] at h23_
          obtain ⟨y34_, h35_, h23_⟩ := ob h23_
          suffices K36_ : Z Θ 4 0 0 (zQ Θ ρ) σ 59 [(0, .ref (zA Θ 0)), (1, .int left9_), (2, .int y34_), (3, .int o25_)] [] by
            obtain ⟨t39_, h40_, h35_⟩ := ob h35_
            have K37_ : t39_ = true → Z Θ 4 0 0 (zQ Θ ρ) σ 57 [(0, .ref (zA Θ 0)), (1, .int left9_), (2, .int goes24_), (3, .int o25_)] [] := by
              intro h48_
              rw [if_pos h48_] at h35_
              refine z_iload_n C 3 dX12_byRounds_57 rfl rfl ?_
              refine z_istN C dX12_byRounds_58 rfl rfl (Nat.le_of_ble_eq_true rfl) rfl ?_
              cases h35_
              refine Z.sub [1, 2, 0, 3] rfl ?_
              exact K36_
            have K38_ : ¬ (t39_ = true) → Z Θ 4 0 0 (zQ Θ ρ) σ 59 [(0, .ref (zA Θ 0)), (1, .int left9_), (2, .int goes24_), (3, .int o25_)] [] := by
              intro h48_
              rw [if_neg h48_] at h35_
              cases h35_
              exact K36_
            refine z_iload_n C 1 dX12_byRounds_27 rfl rfl ?_
            refine z_iload_n C 3 dX12_byRounds_28 rfl rfl ?_
            refine cr12_275 (set_a := left9_) (k_a := o25_) C hkd  ⟨(Nat.le_of_ble_eq_true rfl), (Nat.le_of_ble_eq_true rfl)⟩ (Nat.le_of_ble_eq_true rfl) ⟨Nat.zero_le _, Nat.zero_le _⟩ dX12_byRounds_29 ?_
            refine cb_f C 59 dX12_byRounds_32 (by decide) (fun h41_ => ?_) (fun h41_ => ?_)
            · rw [if_pos h41_] at h40_
              refine z_iload_n C 2 dX12_byRounds_35 rfl rfl ?_
              refine z_iconst (v := (-1)) C dX12_byRounds_36 ic_m1 ?_
              refine c_eq_t C 57 dX12_byRounds_37 (by decide) (fun h42_ => ?_) (fun h42_ => ?_)
              · rw [if_pos h42_] at h40_
                cases h40_
                exact K37_ rfl
              · rw [if_neg h42_] at h40_
                refine z_aload_n C 0 dX12_byRounds_40 rfl rfl ?_
                refine z_iload_n C 3 dX12_byRounds_41 rfl rfl ?_
                refine z_iconst (v := 0) C dX12_byRounds_42 ic_0 ?_
                refine z_iload_n C 1 dX12_byRounds_43 rfl rfl ?_
                obtain ⟨x43_, h44_, h40_⟩ := ob h40_
                refine cr12_292 (o_a := o25_) (k_a := 0) (set_a := left9_) C hkd  h44_ ⟨(Nat.le_of_ble_eq_true rfl), (Nat.le_of_ble_eq_true rfl)⟩ (Nat.le_of_ble_eq_true rfl) ⟨Nat.zero_le _, Nat.zero_le _⟩ dX12_byRounds_44 ?_
                refine z_aload_n C 0 dX12_byRounds_47 rfl rfl ?_
                refine z_iload_n C 2 dX12_byRounds_48 rfl rfl ?_
                refine z_iconst (v := 0) C dX12_byRounds_49 ic_0 ?_
                refine z_iload_n C 1 dX12_byRounds_50 rfl rfl ?_
                obtain ⟨x45_, h46_, h40_⟩ := ob h40_
                refine cr12_292 (o_a := goes24_) (k_a := 0) (set_a := left9_) C hkd  h46_ ⟨(Nat.le_of_ble_eq_true rfl), (Nat.le_of_ble_eq_true rfl)⟩ (Nat.le_of_ble_eq_true rfl) ⟨Nat.zero_le _, Nat.zero_le _⟩ dX12_byRounds_51 ?_
                refine c_le_f C 59 dX12_byRounds_54 (by decide) (fun h47_ => ?_) (fun h47_ => ?_)
                · rw [if_pos h47_] at h40_
                  cases h40_
                  exact K37_ rfl
                · rw [if_neg h47_] at h40_
                  cases h40_
                  exact K38_ Bool.false_ne_true
            · rw [if_neg h41_] at h40_
              cases h40_
              exact K38_ Bool.false_ne_true
          obtain ⟨o49_, h50_, h23_⟩ := lt_ h23_
          refine z_inc C 3 dX12_byRounds_59 rfl ic_1 h50_ (Nat.le_of_ble_eq_true rfl) rfl ?_
          refine z_goto C 17 dX12_byRounds_62 (by decide) ?_
          refine Z.sub [1, 2, 3, 0] rfl ?_
          exact h22_ _ _ h23_
        have K29_ : ¬ (o25_ < x30_) → Z Θ 4 0 0 (zQ Θ ρ) σ 65 [(0, .ref (zA Θ 0)), (1, .int left9_), (2, .int goes24_), (3, .int o25_)] [] := by
          intro h33_
          rw [if_neg h33_] at h23_
          cases h23_
          exact K20_
        refine c_lt_f C 65 dX12_byRounds_24 (by decide) (fun h32_ => ?_) (fun h32_ => ?_)
        · exact K28_ h32_
        · exact K29_ h32_
      refine z_iload_n C 1 dX12_byRounds_65 rfl rfl ?_
      refine z_iconst (v := 1) C dX12_byRounds_66 ic_1 ?_
      refine z_iload_n C 2 dX12_byRounds_67 rfl rfl ?_
      refine z_shl C dX12_byRounds_68 ?_
      refine z_iconst (v := (-1)) C dX12_byRounds_69 ic_m1 ?_
      refine z_ixor C dX12_byRounds_70 ?_
      refine z_iand C dX12_byRounds_71 ?_
      obtain ⟨left51_, h52_, h8_⟩ := lt_ h8_
      refine z_istN C dX12_byRounds_72 h52_ rfl (Nat.le_of_ble_eq_true rfl) rfl ?_
      refine z_goto C 5 dX12_byRounds_73 (by decide) ?_
      refine Z.sub [1, 0] rfl ?_
      exact h7_ _ h8_
    have K13_ : ¬ (1 < x14_) → Z Θ 4 0 0 (zQ Θ ρ) σ 76 [(0, .ref (zA Θ 0)), (1, .int left9_)] [] := by
      intro h17_
      rw [if_neg h17_] at h8_
      cases h8_
      exact K5_
    refine c_gt_f C 76 dX12_byRounds_10 (by decide) (fun h16_ => ?_) (fun h16_ => ?_)
    · exact K12_ h16_
    · exact K13_ h16_
  obtain ⟨x53_, h54_, hf⟩ := ob hf
  suffices K55_ : Z Θ 4 0 0 (zQ Θ ρ) σ 88 [(0, .ref (zA Θ 0)), (1, .int y3_)] [.int x53_] by
    have K56_ : y3_ = 0 → Z Θ 4 0 0 (zQ Θ ρ) σ 80 [(0, .ref (zA Θ 0)), (1, .int y3_)] [] := by
      intro h61_
      rw [if_pos h61_] at h54_
      refine z_iconst (v := (-1)) C dX12_byRounds_80 ic_m1 ?_
      refine z_goto C 88 dX12_byRounds_81 (by decide) ?_
      cases h54_
      exact K55_
    have K57_ : ¬ (y3_ = 0) → Z Θ 4 0 0 (zQ Θ ρ) σ 84 [(0, .ref (zA Θ 0)), (1, .int y3_)] [] := by
      intro h61_
      rw [if_neg h61_] at h54_
      refine z_iload_n C 1 dX12_byRounds_84 rfl rfl ?_
      obtain ⟨x59_, h60_, h54_⟩ := ob h54_
      refine cr12_304 (set_a := y3_) C hkd  h60_ ⟨(Nat.le_of_ble_eq_true rfl), (Nat.le_of_ble_eq_true rfl)⟩ (Nat.le_of_ble_eq_true rfl) ⟨Nat.zero_le _, Nat.zero_le _⟩ dX12_byRounds_85 ?_
      cases h54_
      exact K55_
    refine z_iload_n C 1 dX12_byRounds_76 rfl rfl ?_
    refine c0_eq_f C 84 dX12_byRounds_77 (by decide) (fun h58_ => ?_) (fun h58_ => ?_)
    · exact K56_ h58_
    · exact K57_ h58_
  cases hf
  subst hρ
  exact z_iret C dX12_byRounds_88
theorem c12_byRounds {l : Launch} {kd : List KD} {w : Wp} {σ : St} (hkd : kd = kdM) (hi : zI kd w) {r : Int32} (hf : q12_byRounds σ = some r) : zM l kd w yX12_byRounds cX12_byRounds 4 (some .int) rm12_byRounds [.ref (w.2.2.1 0)] σ (some (.int r), σ) := zM_of rfl hi (Nat.le_of_ble_eq_true rfl) (fun Θ hl hw C => by
  obtain ⟨Θ1, Θ2, Θ3, Θ4, Θ5⟩ := Θ
  cases hw
  exact p12_byRounds C hkd  hf rfl)
/-! LastLoafModel.winnerBy -/
theorem w_9_182 : Cond.code ({ cls := "LastLoafModel", name := "winnerOf", desc := "(II)I" } : MethodName) prog_14_method_53_code (5 : Nat) (Option.some ClassFile.FieldType.int) ∈ TB := tb_in (lwt_9 (List.mem_of_getElem? (i := 182) (by decide +kernel))) rfl
theorem w_9_179 : Cond.methodLink "LastLoafModel" (307 : Nat) ({ cls := "LastLoafModel", name := "winnerOf", desc := "(II)I" } : MethodName) ∈ TB := tb_in (lwt_9 (List.mem_of_getElem? (i := 179) (by decide +kernel))) rfl
theorem w_9_181 : Cond.instanceMethod ({ cls := "LastLoafModel", name := "winnerOf", desc := "(II)I" } : MethodName) ∈ TB := tb_in (lwt_9 (List.mem_of_getElem? (i := 181) (by decide +kernel))) rfl
theorem ws_LastLoafModel_winnerOf_II_I : Cond.selects "LastLoafModel" (⟨"LastLoafModel", "winnerOf", "(II)I"⟩ : MethodName) (⟨"LastLoafModel", "winnerOf", "(II)I"⟩ : MethodName) ∈ TB := tb_in (List.mem_append_left _ (List.mem_of_getElem? (i := 68) (by decide +kernel))) rfl
theorem cr12_307 {Θ : Tz} {cc : ByteArray} {nL kc ks : Nat} {ret : Option FieldType} {rm : Room} {Q : State → Prop} {σ : St} {pc : Nat} {lv : List (Nat × Value)} {st : List Value} (C : Zc Θ cc nL RX12 ret rm) (hkd : Θ.2.2.2.2.1 = kdM) {way_a : Int32} {set_a : Int32} {r : Int32} (hx : q12_winnerOf σ way_a set_a = some r) (hrm : rm12_winnerOf.frames + 1 ≤ rm.frames ∧ 8 + (5 + 11) + rm12_winnerOf.locals ≤ rm.locals) (hcat : (st.map fun v => v.category).sum ≤ 8) (hk : kc ≤ rm.cells ∧ ks ≤ rm.slots) (hd : decode cc pc = .ok (.invokevirtual 307, 3)) (kk : Z Θ nL kc ks Q σ (pc + 3) lv (.int r :: st)) : Z Θ nL kc ks Q σ pc lv (.int set_a :: .int way_a :: .ref (zA Θ 0) :: st) := z_callV C 0 [.int way_a, .int set_a] (some (.int r), σ) 2 (kM_0 hkd) rfl (c12_winnerOf (way_a := way_a) (set_a := set_a) hkd (zc_inj C) hx) w_9_182 w_9_179 w_9_181 ws_LastLoafModel_winnerOf_II_I w_1_14 ⟨rfl, rfl, hrm.1, hrm.2⟩ (by decide +kernel) rfl rfl hcat hk hd kk
theorem w_9_190 : Cond.code ({ cls := "LastLoafModel", name := "byRounds", desc := "()I" } : MethodName) prog_14_method_54_code (4 : Nat) (Option.some ClassFile.FieldType.int) ∈ TB := tb_in (lwt_9 (List.mem_of_getElem? (i := 190) (by decide +kernel))) rfl
theorem w_9_187 : Cond.methodLink "LastLoafModel" (310 : Nat) ({ cls := "LastLoafModel", name := "byRounds", desc := "()I" } : MethodName) ∈ TB := tb_in (lwt_9 (List.mem_of_getElem? (i := 187) (by decide +kernel))) rfl
theorem w_9_189 : Cond.instanceMethod ({ cls := "LastLoafModel", name := "byRounds", desc := "()I" } : MethodName) ∈ TB := tb_in (lwt_9 (List.mem_of_getElem? (i := 189) (by decide +kernel))) rfl
theorem ws_LastLoafModel_byRounds__I : Cond.selects "LastLoafModel" (⟨"LastLoafModel", "byRounds", "()I"⟩ : MethodName) (⟨"LastLoafModel", "byRounds", "()I"⟩ : MethodName) ∈ TB := tb_in (List.mem_append_left _ (List.mem_of_getElem? (i := 70) (by decide +kernel))) rfl
theorem cr12_310 {Θ : Tz} {cc : ByteArray} {nL kc ks : Nat} {ret : Option FieldType} {rm : Room} {Q : State → Prop} {σ : St} {pc : Nat} {lv : List (Nat × Value)} {st : List Value} (C : Zc Θ cc nL RX12 ret rm) (hkd : Θ.2.2.2.2.1 = kdM) {r : Int32} (hx : q12_byRounds σ = some r) (hrm : rm12_byRounds.frames + 1 ≤ rm.frames ∧ 8 + (4 + 11) + rm12_byRounds.locals ≤ rm.locals) (hcat : (st.map fun v => v.category).sum ≤ 8) (hk : kc ≤ rm.cells ∧ ks ≤ rm.slots) (hd : decode cc pc = .ok (.invokevirtual 310, 3)) (kk : Z Θ nL kc ks Q σ (pc + 3) lv (.int r :: st)) : Z Θ nL kc ks Q σ pc lv (.ref (zA Θ 0) :: st) := z_callV C 0 [] (some (.int r), σ) 0 (kM_0 hkd) rfl (c12_byRounds hkd (zc_inj C) hx) w_9_190 w_9_187 w_9_189 ws_LastLoafModel_byRounds__I w_1_14 ⟨rfl, rfl, hrm.1, hrm.2⟩ (by decide +kernel) rfl rfl hcat hk hd kk
theorem w_9_166 : Cond.code ({ cls := "LastLoafModel", name := "lesser", desc := "(II)I" } : MethodName) prog_14_method_4_code (2 : Nat) (Option.some ClassFile.FieldType.int) ∈ TB := tb_in (lwt_9 (List.mem_of_getElem? (i := 166) (by decide +kernel))) rfl
theorem w_9_165 : Cond.static ({ cls := "LastLoafModel", name := "lesser", desc := "(II)I" } : MethodName) ∈ TB := tb_in (lwt_9 (List.mem_of_getElem? (i := 165) (by decide +kernel))) rfl
theorem w_9_164 : Cond.methodLink "LastLoafModel" (313 : Nat) ({ cls := "LastLoafModel", name := "lesser", desc := "(II)I" } : MethodName) ∈ TB := tb_in (lwt_9 (List.mem_of_getElem? (i := 164) (by decide +kernel))) rfl
theorem cr12_313 {Θ : Tz} {cc : ByteArray} {nL kc ks : Nat} {ret : Option FieldType} {rm : Room} {Q : State → Prop} {σ : St} {pc : Nat} {lv : List (Nat × Value)} {st : List Value} (C : Zc Θ cc nL RX12 ret rm) (hkd : Θ.2.2.2.2.1 = kdM) {a_a : Int32} {b_a : Int32} (hrm : rm12_lesser.frames + 1 ≤ rm.frames ∧ 8 + (2 + 11) + rm12_lesser.locals ≤ rm.locals) (hcat : (st.map fun v => v.category).sum ≤ 8) (hk : kc ≤ rm.cells ∧ ks ≤ rm.slots) (hd : decode cc pc = .ok (.invokestatic 313, 3)) (kk : Z Θ nL kc ks Q σ (pc + 3) lv (.int (q12_lesser a_a b_a) :: st)) : Z Θ nL kc ks Q σ pc lv (.int b_a :: .int a_a :: st) := z_callS C [.int a_a, .int b_a] (some (.int (q12_lesser a_a b_a)), σ) 2 (c12_lesser (a_a := a_a) (b_a := b_a) hkd (zc_inj C)) w_9_166 w_9_164 w_9_165 w_1_14 ⟨rfl, rfl, hrm.1, hrm.2⟩ (by decide +kernel) rfl rfl hcat hk hd kk
theorem dX12_winnerBy_0 : decode cX12_winnerBy 0 = .ok (.iload_n 1, 1) := by decide +kernel
theorem dX12_winnerBy_1 : decode cX12_winnerBy 1 = .ok (.iconst 4, 1) := by decide +kernel
theorem dX12_winnerBy_2 : decode cX12_winnerBy 2 = .ok (.if_icmp .ge 13, 3) := by decide +kernel
theorem dX12_winnerBy_5 : decode cX12_winnerBy 5 = .ok (.aload_n 0, 1) := by decide +kernel
theorem dX12_winnerBy_6 : decode cX12_winnerBy 6 = .ok (.iload_n 1, 1) := by decide +kernel
theorem dX12_winnerBy_7 : decode cX12_winnerBy 7 = .ok (.aload_n 0, 1) := by decide +kernel
theorem dX12_winnerBy_8 : decode cX12_winnerBy 8 = .ok (.getfield 269, 3) := by decide +kernel
theorem dX12_winnerBy_11 : decode cX12_winnerBy 11 = .ok (.invokevirtual 307, 3) := by decide +kernel
theorem dX12_winnerBy_14 : decode cX12_winnerBy 14 = .ok (.ireturn, 1) := by decide +kernel
theorem dX12_winnerBy_15 : decode cX12_winnerBy 15 = .ok (.iload_n 1, 1) := by decide +kernel
theorem dX12_winnerBy_16 : decode cX12_winnerBy 16 = .ok (.iconst 4, 1) := by decide +kernel
theorem dX12_winnerBy_17 : decode cX12_winnerBy 17 = .ok (.if_icmp .eq 14, 3) := by decide +kernel
theorem dX12_winnerBy_20 : decode cX12_winnerBy 20 = .ok (.aload_n 0, 1) := by decide +kernel
theorem dX12_winnerBy_21 : decode cX12_winnerBy 21 = .ok (.getfield 269, 3) := by decide +kernel
theorem dX12_winnerBy_24 : decode cX12_winnerBy 24 = .ok (.invokestatic 286, 3) := by decide +kernel
theorem dX12_winnerBy_27 : decode cX12_winnerBy 27 = .ok (.iconst 2, 1) := by decide +kernel
theorem dX12_winnerBy_28 : decode cX12_winnerBy 28 = .ok (.if_icmp .ge 8, 3) := by decide +kernel
theorem dX12_winnerBy_31 : decode cX12_winnerBy 31 = .ok (.aload_n 0, 1) := by decide +kernel
theorem dX12_winnerBy_32 : decode cX12_winnerBy 32 = .ok (.invokevirtual 310, 3) := by decide +kernel
theorem dX12_winnerBy_35 : decode cX12_winnerBy 35 = .ok (.ireturn, 1) := by decide +kernel
theorem dX12_winnerBy_36 : decode cX12_winnerBy 36 = .ok (.aload_n 0, 1) := by decide +kernel
theorem dX12_winnerBy_37 : decode cX12_winnerBy 37 = .ok (.iconst 0, 1) := by decide +kernel
theorem dX12_winnerBy_38 : decode cX12_winnerBy 38 = .ok (.aload_n 0, 1) := by decide +kernel
theorem dX12_winnerBy_39 : decode cX12_winnerBy 39 = .ok (.getfield 269, 3) := by decide +kernel
theorem dX12_winnerBy_42 : decode cX12_winnerBy 42 = .ok (.invokevirtual 307, 3) := by decide +kernel
theorem dX12_winnerBy_45 : decode cX12_winnerBy 45 = .ok (.istore_n 2, 1) := by decide +kernel
theorem dX12_winnerBy_46 : decode cX12_winnerBy 46 = .ok (.aload_n 0, 1) := by decide +kernel
theorem dX12_winnerBy_47 : decode cX12_winnerBy 47 = .ok (.iconst 0, 1) := by decide +kernel
theorem dX12_winnerBy_48 : decode cX12_winnerBy 48 = .ok (.aload_n 0, 1) := by decide +kernel
theorem dX12_winnerBy_49 : decode cX12_winnerBy 49 = .ok (.getfield 269, 3) := by decide +kernel
theorem dX12_winnerBy_52 : decode cX12_winnerBy 52 = .ok (.iconst 1, 1) := by decide +kernel
theorem dX12_winnerBy_53 : decode cX12_winnerBy 53 = .ok (.iload_n 2, 1) := by decide +kernel
theorem dX12_winnerBy_54 : decode cX12_winnerBy 54 = .ok (.ishl, 1) := by decide +kernel
theorem dX12_winnerBy_55 : decode cX12_winnerBy 55 = .ok (.iconst (-1), 1) := by decide +kernel
theorem dX12_winnerBy_56 : decode cX12_winnerBy 56 = .ok (.ixor, 1) := by decide +kernel
theorem dX12_winnerBy_57 : decode cX12_winnerBy 57 = .ok (.iand, 1) := by decide +kernel
theorem dX12_winnerBy_58 : decode cX12_winnerBy 58 = .ok (.invokevirtual 307, 3) := by decide +kernel
theorem dX12_winnerBy_61 : decode cX12_winnerBy 61 = .ok (.istore_n 3, 1) := by decide +kernel
theorem dX12_winnerBy_62 : decode cX12_winnerBy 62 = .ok (.aload_n 0, 1) := by decide +kernel
theorem dX12_winnerBy_63 : decode cX12_winnerBy 63 = .ok (.iload_n 2, 1) := by decide +kernel
theorem dX12_winnerBy_64 : decode cX12_winnerBy 64 = .ok (.iload_n 3, 1) := by decide +kernel
theorem dX12_winnerBy_65 : decode cX12_winnerBy 65 = .ok (.invokevirtual 289, 3) := by decide +kernel
theorem dX12_winnerBy_68 : decode cX12_winnerBy 68 = .ok (.ifCond .eq 5, 3) := by decide +kernel
theorem dX12_winnerBy_71 : decode cX12_winnerBy 71 = .ok (.iload_n 2, 1) := by decide +kernel
theorem dX12_winnerBy_72 : decode cX12_winnerBy 72 = .ok (.ireturn, 1) := by decide +kernel
theorem dX12_winnerBy_73 : decode cX12_winnerBy 73 = .ok (.aload_n 0, 1) := by decide +kernel
theorem dX12_winnerBy_74 : decode cX12_winnerBy 74 = .ok (.iload_n 3, 1) := by decide +kernel
theorem dX12_winnerBy_75 : decode cX12_winnerBy 75 = .ok (.iload_n 2, 1) := by decide +kernel
theorem dX12_winnerBy_76 : decode cX12_winnerBy 76 = .ok (.invokevirtual 289, 3) := by decide +kernel
theorem dX12_winnerBy_79 : decode cX12_winnerBy 79 = .ok (.ifCond .eq 7, 3) := by decide +kernel
theorem dX12_winnerBy_82 : decode cX12_winnerBy 82 = .ok (.iload_n 3, 1) := by decide +kernel
theorem dX12_winnerBy_83 : decode cX12_winnerBy 83 = .ok (.goto 8, 3) := by decide +kernel
theorem dX12_winnerBy_86 : decode cX12_winnerBy 86 = .ok (.iload_n 2, 1) := by decide +kernel
theorem dX12_winnerBy_87 : decode cX12_winnerBy 87 = .ok (.iload_n 3, 1) := by decide +kernel
theorem dX12_winnerBy_88 : decode cX12_winnerBy 88 = .ok (.invokestatic 313, 3) := by decide +kernel
theorem dX12_winnerBy_91 : decode cX12_winnerBy 91 = .ok (.ireturn, 1) := by decide +kernel
def q12_winnerBy (σ : St) (way_a : Int32) : Option Int32 :=
  if way_a < 4 then (Option.bind (q12_winnerOf σ way_a (σ 0 21)) fun x5_ =>
  some x5_) else
  Option.bind (if way_a = 4 then (some true) else (Option.bind (q12_bits (σ 0 21)) fun x12_ =>
  if x12_ < 2 then (some true) else (some false))) fun t9_ =>
  if t9_ = true then (Option.bind (q12_byRounds σ) fun x16_ =>
  some x16_) else
  Option.bind (q12_winnerOf σ 0 (σ 0 21)) fun x18_ =>
  Option.bind (q12_winnerOf σ 0 ((σ 0 21) &&& ((shl 1 x18_) ^^^ (-1)))) fun x20_ =>
  Option.bind (q12_doesBeat σ x18_ x20_) fun x24_ =>
  if x24_ = true then (some x18_) else
  Option.bind (Option.bind (q12_doesBeat σ x20_ x18_) fun x33_ =>
  if x33_ = true then (some x20_) else (some (q12_lesser x18_ x20_))) fun x28_ =>
  some x28_
abbrev rm12_winnerBy : Room := { frames := 5, cells := 0, slots := 0, locals := 121 }
set_option maxHeartbeats 4000000 in
set_option maxRecDepth 100000 in
theorem p12_winnerBy {Θ : Tz} {σ : St} {ρ : Option Value × St} (C : Zc Θ cX12_winnerBy 4 RX12 (some .int) rm12_winnerBy) (hkd : Θ.2.2.2.2.1 = kdM) {way_a : Int32} {r : Int32} (hf : q12_winnerBy σ way_a = some r) (hρ : ρ = (some (.int r), σ)) : Z Θ 4 0 0 (zQ Θ ρ) σ 0 [(0, .ref (zA Θ 0)), (1, .int way_a)] [] := by
  unfold q12_winnerBy at hf
  have K1_ : way_a < 4 → Z Θ 4 0 0 (zQ Θ ρ) σ 5 [(0, .ref (zA Θ 0)), (1, .int way_a)] [] := by
    intro h4_
    rw [if_pos h4_] at hf
    refine z_aload_n C 0 dX12_winnerBy_5 rfl rfl ?_
    refine z_iload_n C 1 dX12_winnerBy_6 rfl rfl ?_
    refine z_aload_n C 0 dX12_winnerBy_7 rfl rfl ?_
    refine fg12_269 C hkd dX12_winnerBy_8 ?_
    obtain ⟨x5_, h6_, hf⟩ := ob hf
    refine cr12_307 (way_a := way_a) (set_a := (σ 0 21)) C hkd  h6_ ⟨(Nat.le_of_ble_eq_true rfl), (Nat.le_of_ble_eq_true rfl)⟩ (Nat.le_of_ble_eq_true rfl) ⟨Nat.zero_le _, Nat.zero_le _⟩ dX12_winnerBy_11 ?_
    cases hf
    subst hρ
    exact z_iret C dX12_winnerBy_14
  suffices K2_ : ¬ (way_a < 4) → Z Θ 4 0 0 (zQ Θ ρ) σ 15 [(0, .ref (zA Θ 0)), (1, .int way_a)] [] by
    refine z_iload_n C 1 dX12_winnerBy_0 rfl rfl ?_
    refine z_iconst (v := 4) C dX12_winnerBy_1 ic_4 ?_
    refine c_lt_f C 15 dX12_winnerBy_2 (by decide) (fun h3_ => ?_) (fun h3_ => ?_)
    · exact K1_ h3_
    · exact K2_ h3_
  intro h4_
  rw [if_neg h4_] at hf
  obtain ⟨t9_, h10_, hf⟩ := ob hf
  have K7_ : t9_ = true → Z Θ 4 0 0 (zQ Θ ρ) σ 31 [(0, .ref (zA Θ 0)), (1, .int way_a)] [] := by
    intro h15_
    rw [if_pos h15_] at hf
    refine z_aload_n C 0 dX12_winnerBy_31 rfl rfl ?_
    obtain ⟨x16_, h17_, hf⟩ := ob hf
    refine cr12_310 C hkd  h17_ ⟨(Nat.le_of_ble_eq_true rfl), (Nat.le_of_ble_eq_true rfl)⟩ (Nat.le_of_ble_eq_true rfl) ⟨Nat.zero_le _, Nat.zero_le _⟩ dX12_winnerBy_32 ?_
    cases hf
    subst hρ
    exact z_iret C dX12_winnerBy_35
  suffices K8_ : ¬ (t9_ = true) → Z Θ 4 0 0 (zQ Θ ρ) σ 36 [(0, .ref (zA Θ 0)), (1, .int way_a)] [] by
    refine z_iload_n C 1 dX12_winnerBy_15 rfl rfl ?_
    refine z_iconst (v := 4) C dX12_winnerBy_16 ic_4 ?_
    refine c_eq_t C 31 dX12_winnerBy_17 (by decide) (fun h11_ => ?_) (fun h11_ => ?_)
    · rw [if_pos h11_] at h10_
      cases h10_
      exact K7_ rfl
    · rw [if_neg h11_] at h10_
      refine z_aload_n C 0 dX12_winnerBy_20 rfl rfl ?_
      refine fg12_269 C hkd dX12_winnerBy_21 ?_
      obtain ⟨x12_, h13_, h10_⟩ := ob h10_
      refine cr12_286 (set_a := (σ 0 21)) C hkd  h13_ ⟨(Nat.le_of_ble_eq_true rfl), (Nat.le_of_ble_eq_true rfl)⟩ (Nat.le_of_ble_eq_true rfl) ⟨Nat.zero_le _, Nat.zero_le _⟩ dX12_winnerBy_24 ?_
      refine z_iconst (v := 2) C dX12_winnerBy_27 ic_2 ?_
      refine c_lt_f C 36 dX12_winnerBy_28 (by decide) (fun h14_ => ?_) (fun h14_ => ?_)
      · rw [if_pos h14_] at h10_
        cases h10_
        exact K7_ rfl
      · rw [if_neg h14_] at h10_
        cases h10_
        exact K8_ Bool.false_ne_true
  intro h15_
  rw [if_neg h15_] at hf
  refine z_aload_n C 0 dX12_winnerBy_36 rfl rfl ?_
  refine z_iconst (v := 0) C dX12_winnerBy_37 ic_0 ?_
  refine z_aload_n C 0 dX12_winnerBy_38 rfl rfl ?_
  refine fg12_269 C hkd dX12_winnerBy_39 ?_
  obtain ⟨x18_, h19_, hf⟩ := ob hf
  refine cr12_307 (way_a := 0) (set_a := (σ 0 21)) C hkd  h19_ ⟨(Nat.le_of_ble_eq_true rfl), (Nat.le_of_ble_eq_true rfl)⟩ (Nat.le_of_ble_eq_true rfl) ⟨Nat.zero_le _, Nat.zero_le _⟩ dX12_winnerBy_42 ?_
  refine z_istN C dX12_winnerBy_45 rfl rfl (Nat.le_of_ble_eq_true rfl) rfl ?_
  refine z_aload_n C 1 dX12_winnerBy_46 rfl rfl ?_
  refine z_iconst (v := 0) C dX12_winnerBy_47 ic_0 ?_
  refine z_aload_n C 1 dX12_winnerBy_48 rfl rfl ?_
  refine fg12_269 C hkd dX12_winnerBy_49 ?_
  refine z_iconst (v := 1) C dX12_winnerBy_52 ic_1 ?_
  refine z_iload_n C 0 dX12_winnerBy_53 rfl rfl ?_
  refine z_shl C dX12_winnerBy_54 ?_
  refine z_iconst (v := (-1)) C dX12_winnerBy_55 ic_m1 ?_
  refine z_ixor C dX12_winnerBy_56 ?_
  refine z_iand C dX12_winnerBy_57 ?_
  obtain ⟨x20_, h21_, hf⟩ := ob hf
  refine cr12_307 (way_a := 0) (set_a := ((σ 0 21) &&& ((shl 1 x18_) ^^^ (-1)))) C hkd  h21_ ⟨(Nat.le_of_ble_eq_true rfl), (Nat.le_of_ble_eq_true rfl)⟩ (Nat.le_of_ble_eq_true rfl) ⟨Nat.zero_le _, Nat.zero_le _⟩ dX12_winnerBy_58 ?_
  refine z_istN C dX12_winnerBy_61 rfl rfl (Nat.le_of_ble_eq_true rfl) rfl ?_
  refine z_aload_n C 2 dX12_winnerBy_62 rfl rfl ?_
  refine z_iload_n C 1 dX12_winnerBy_63 rfl rfl ?_
  refine z_iload_n C 0 dX12_winnerBy_64 rfl rfl ?_
  obtain ⟨x24_, h25_, hf⟩ := ob hf
  refine cr12_289 (a_a := x18_) (b_a := x20_) C hkd  h25_ ⟨(Nat.le_of_ble_eq_true rfl), (Nat.le_of_ble_eq_true rfl)⟩ (Nat.le_of_ble_eq_true rfl) ⟨Nat.zero_le _, Nat.zero_le _⟩ dX12_winnerBy_65 ?_
  have K22_ : x24_ = true → Z Θ 4 0 0 (zQ Θ ρ) σ 71 [(3, .int x20_), (2, .int x18_), (0, .ref (zA Θ 0)), (1, .int way_a)] [] := by
    intro h27_
    rw [if_pos h27_] at hf
    refine z_iload_n C 1 dX12_winnerBy_71 rfl rfl ?_
    cases hf
    subst hρ
    exact z_iret C dX12_winnerBy_72
  suffices K23_ : ¬ (x24_ = true) → Z Θ 4 0 0 (zQ Θ ρ) σ 73 [(3, .int x20_), (2, .int x18_), (0, .ref (zA Θ 0)), (1, .int way_a)] [] by
    refine cb_f C 73 dX12_winnerBy_68 (by decide) (fun h26_ => ?_) (fun h26_ => ?_)
    · exact K22_ h26_
    · exact K23_ h26_
  intro h27_
  rw [if_neg h27_] at hf
  obtain ⟨x28_, h29_, hf⟩ := ob hf
  suffices K30_ : Z Θ 4 0 0 (zQ Θ ρ) σ 91 [(3, .int x20_), (2, .int x18_), (0, .ref (zA Θ 0)), (1, .int way_a)] [.int x28_] by
    refine z_aload_n C 2 dX12_winnerBy_73 rfl rfl ?_
    refine z_iload_n C 0 dX12_winnerBy_74 rfl rfl ?_
    refine z_iload_n C 1 dX12_winnerBy_75 rfl rfl ?_
    obtain ⟨x33_, h34_, h29_⟩ := ob h29_
    refine cr12_289 (a_a := x20_) (b_a := x18_) C hkd  h34_ ⟨(Nat.le_of_ble_eq_true rfl), (Nat.le_of_ble_eq_true rfl)⟩ (Nat.le_of_ble_eq_true rfl) ⟨Nat.zero_le _, Nat.zero_le _⟩ dX12_winnerBy_76 ?_
    have K31_ : x33_ = true → Z Θ 4 0 0 (zQ Θ ρ) σ 82 [(3, .int x20_), (2, .int x18_), (0, .ref (zA Θ 0)), (1, .int way_a)] [] := by
      intro h36_
      rw [if_pos h36_] at h29_
      refine z_iload_n C 0 dX12_winnerBy_82 rfl rfl ?_
      refine z_goto C 91 dX12_winnerBy_83 (by decide) ?_
      cases h29_
      exact K30_
    have K32_ : ¬ (x33_ = true) → Z Θ 4 0 0 (zQ Θ ρ) σ 86 [(3, .int x20_), (2, .int x18_), (0, .ref (zA Θ 0)), (1, .int way_a)] [] := by
      intro h36_
      rw [if_neg h36_] at h29_
      refine z_iload_n C 1 dX12_winnerBy_86 rfl rfl ?_
      refine z_iload_n C 0 dX12_winnerBy_87 rfl rfl ?_
      refine cr12_313 (a_a := x18_) (b_a := x20_) C hkd  ⟨(Nat.le_of_ble_eq_true rfl), (Nat.le_of_ble_eq_true rfl)⟩ (Nat.le_of_ble_eq_true rfl) ⟨Nat.zero_le _, Nat.zero_le _⟩ dX12_winnerBy_88 ?_
      cases h29_
      exact K30_
    refine cb_f C 86 dX12_winnerBy_79 (by decide) (fun h35_ => ?_) (fun h35_ => ?_)
    · exact K31_ h35_
    · exact K32_ h35_
  cases hf
  subst hρ
  exact z_iret C dX12_winnerBy_91
theorem c12_winnerBy {l : Launch} {kd : List KD} {w : Wp} {σ : St} {way_a : Int32} (hkd : kd = kdM) (hi : zI kd w) {r : Int32} (hf : q12_winnerBy σ way_a = some r) : zM l kd w yX12_winnerBy cX12_winnerBy 4 (some .int) rm12_winnerBy [.ref (w.2.2.1 0), .int way_a] σ (some (.int r), σ) := zM_of rfl hi (Nat.le_of_ble_eq_true rfl) (fun Θ hl hw C => by
  obtain ⟨Θ1, Θ2, Θ3, Θ4, Θ5⟩ := Θ
  cases hw
  exact p12_winnerBy C hkd  hf rfl)
/-! LastLoafModel.draw -/
theorem w_9_206 : Cond.constant "LastLoafModel" (316 : Nat) (1103515245 : Int32) ∈ TB := tb_in (lwt_9 (List.mem_of_getElem? (i := 206) (by decide +kernel))) rfl
theorem sp_12345 : (Int16.ofInt (12345)).toInt32 = 12345 := by decide +kernel
theorem sp_32767 : (Int16.ofInt (32767)).toInt32 = 32767 := by decide +kernel
theorem dX12_draw_0 : decode cX12_draw 0 = .ok (.aload_n 0, 1) := by decide +kernel
theorem dX12_draw_1 : decode cX12_draw 1 = .ok (.getfield 7, 3) := by decide +kernel
theorem dX12_draw_4 : decode cX12_draw 4 = .ok (.bipush 9, 2) := by decide +kernel
theorem dX12_draw_6 : decode cX12_draw 6 = .ok (.ldc_w 316, 3) := by decide +kernel
theorem dX12_draw_9 : decode cX12_draw 9 = .ok (.aload_n 0, 1) := by decide +kernel
theorem dX12_draw_10 : decode cX12_draw 10 = .ok (.getfield 7, 3) := by decide +kernel
theorem dX12_draw_13 : decode cX12_draw 13 = .ok (.bipush 9, 2) := by decide +kernel
theorem dX12_draw_15 : decode cX12_draw 15 = .ok (.iaload, 1) := by decide +kernel
theorem dX12_draw_16 : decode cX12_draw 16 = .ok (.imul, 1) := by decide +kernel
theorem dX12_draw_17 : decode cX12_draw 17 = .ok (.sipush 12345, 3) := by decide +kernel
theorem dX12_draw_20 : decode cX12_draw 20 = .ok (.iadd, 1) := by decide +kernel
theorem dX12_draw_21 : decode cX12_draw 21 = .ok (.iastore, 1) := by decide +kernel
theorem dX12_draw_22 : decode cX12_draw 22 = .ok (.aload_n 0, 1) := by decide +kernel
theorem dX12_draw_23 : decode cX12_draw 23 = .ok (.getfield 7, 3) := by decide +kernel
theorem dX12_draw_26 : decode cX12_draw 26 = .ok (.bipush 9, 2) := by decide +kernel
theorem dX12_draw_28 : decode cX12_draw 28 = .ok (.iaload, 1) := by decide +kernel
theorem dX12_draw_29 : decode cX12_draw 29 = .ok (.bipush 16, 2) := by decide +kernel
theorem dX12_draw_31 : decode cX12_draw 31 = .ok (.iushr, 1) := by decide +kernel
theorem dX12_draw_32 : decode cX12_draw 32 = .ok (.sipush 32767, 3) := by decide +kernel
theorem dX12_draw_35 : decode cX12_draw 35 = .ok (.iand, 1) := by decide +kernel
theorem dX12_draw_36 : decode cX12_draw 36 = .ok (.iload_n 1, 1) := by decide +kernel
theorem dX12_draw_37 : decode cX12_draw 37 = .ok (.irem, 1) := by decide +kernel
theorem dX12_draw_38 : decode cX12_draw 38 = .ok (.ireturn, 1) := by decide +kernel
def q12_draw (σ : St) (n_a : Int32) : Option (Int32 × St) :=
  Option.bind (ag σ 1 752 9) fun x1_ =>
  Option.bind (sa σ 1 752 9 ((1103515245 * x1_) + 12345)) fun σ3_ =>
  Option.bind (ag σ3_ 1 752 9) fun x5_ =>
  Option.bind (rmd ((ushr x5_ 16) &&& 32767) n_a) fun x7_ =>
  some (x7_, σ3_)
abbrev rm12_draw : Room := { frames := 0, cells := 0, slots := 0, locals := 0 }
set_option maxHeartbeats 4000000 in
set_option maxRecDepth 100000 in
theorem p12_draw {Θ : Tz} {σ : St} {ρ : Option Value × St} (C : Zc Θ cX12_draw 2 RX12 (some .int) rm12_draw) (hkd : Θ.2.2.2.2.1 = kdM) {n_a : Int32} {r : (Int32 × St)} (hf : q12_draw σ n_a = some r) (hρ : ρ = (some (.int r.1), r.2)) : Z Θ 2 0 0 (zQ Θ ρ) σ 0 [(0, .ref (zA Θ 0)), (1, .int n_a)] [] := by
  unfold q12_draw at hf
  refine z_aload_n C 0 dX12_draw_0 rfl rfl ?_
  refine fg12_7 C hkd dX12_draw_1 ?_
  refine z_bipush (v := 9) C dX12_draw_4 bp_9 ?_
  refine z_ldcw (v := 1103515245) C w_9_206 dX12_draw_6 ?_
  refine z_aload_n C 0 dX12_draw_9 rfl rfl ?_
  refine fg12_7 C hkd dX12_draw_10 ?_
  refine z_bipush (v := 9) C dX12_draw_13 bp_9 ?_
  obtain ⟨x1_, h2_, hf⟩ := ob hf
  refine z_ag C h2_ (kM_1 hkd) dX12_draw_15 ?_
  refine z_imul C dX12_draw_16 ?_
  refine z_sipush (v := 12345) C dX12_draw_17 sp_12345 ?_
  refine z_iadd C dX12_draw_20 ?_
  obtain ⟨σ3_, h4_, hf⟩ := ob hf
  refine z_sa C h4_ (kM_1 hkd) dX12_draw_21 ?_
  refine z_aload_n C 0 dX12_draw_22 rfl rfl ?_
  refine fg12_7 C hkd dX12_draw_23 ?_
  refine z_bipush (v := 9) C dX12_draw_26 bp_9 ?_
  obtain ⟨x5_, h6_, hf⟩ := ob hf
  refine z_ag C h6_ (kM_1 hkd) dX12_draw_28 ?_
  refine z_bipush (v := 16) C dX12_draw_29 bp_16 ?_
  refine z_ushr C dX12_draw_31 ?_
  refine z_sipush (v := 32767) C dX12_draw_32 sp_32767 ?_
  refine z_iand C dX12_draw_35 ?_
  refine z_iload_n C 1 dX12_draw_36 rfl rfl ?_
  obtain ⟨x7_, h8_, hf⟩ := ob hf
  refine z_rmd C h8_ dX12_draw_37 ?_
  cases hf
  subst hρ
  exact z_iret C dX12_draw_38
theorem c12_draw {l : Launch} {kd : List KD} {w : Wp} {σ : St} {n_a : Int32} (hkd : kd = kdM) (hi : zI kd w) {r : (Int32 × St)} (hf : q12_draw σ n_a = some r) : zM l kd w yX12_draw cX12_draw 2 (some .int) rm12_draw [.ref (w.2.2.1 0), .int n_a] σ (some (.int r.1), r.2) := zM_of rfl hi (Nat.le_of_ble_eq_true rfl) (fun Θ hl hw C => by
  obtain ⟨Θ1, Θ2, Θ3, Θ4, Θ5⟩ := Θ
  cases hw
  exact p12_draw C hkd  hf rfl)
/-! LastLoafModel.logs -/
theorem sp_239 : (Int16.ofInt (239)).toInt32 = 239 := by decide +kernel
theorem bp_112 : (Int8.ofInt (112)).toInt32 = 112 := by decide +kernel
theorem bp_113 : (Int8.ofInt (113)).toInt32 = 113 := by decide +kernel
theorem bp_114 : (Int8.ofInt (114)).toInt32 = 114 := by decide +kernel
theorem bp_115 : (Int8.ofInt (115)).toInt32 = 115 := by decide +kernel
theorem dX12_logs_0 : decode cX12_logs 0 = .ok (.sipush 239, 3) := by decide +kernel
theorem dX12_logs_3 : decode cX12_logs 3 = .ok (.istore 4, 2) := by decide +kernel
theorem dX12_logs_5 : decode cX12_logs 5 = .ok (.iload 4, 2) := by decide +kernel
theorem dX12_logs_7 : decode cX12_logs 7 = .ok (.iconst 4, 1) := by decide +kernel
theorem dX12_logs_8 : decode cX12_logs 8 = .ok (.if_icmp .lt 31, 3) := by decide +kernel
theorem dX12_logs_11 : decode cX12_logs 11 = .ok (.aload_n 0, 1) := by decide +kernel
theorem dX12_logs_12 : decode cX12_logs 12 = .ok (.getfield 7, 3) := by decide +kernel
theorem dX12_logs_15 : decode cX12_logs 15 = .ok (.bipush 112, 2) := by decide +kernel
theorem dX12_logs_17 : decode cX12_logs 17 = .ok (.iload 4, 2) := by decide +kernel
theorem dX12_logs_19 : decode cX12_logs 19 = .ok (.iadd, 1) := by decide +kernel
theorem dX12_logs_20 : decode cX12_logs 20 = .ok (.aload_n 0, 1) := by decide +kernel
theorem dX12_logs_21 : decode cX12_logs 21 = .ok (.getfield 7, 3) := by decide +kernel
theorem dX12_logs_24 : decode cX12_logs 24 = .ok (.bipush 112, 2) := by decide +kernel
theorem dX12_logs_26 : decode cX12_logs 26 = .ok (.iload 4, 2) := by decide +kernel
theorem dX12_logs_28 : decode cX12_logs 28 = .ok (.iadd, 1) := by decide +kernel
theorem dX12_logs_29 : decode cX12_logs 29 = .ok (.iconst 4, 1) := by decide +kernel
theorem dX12_logs_30 : decode cX12_logs 30 = .ok (.isub, 1) := by decide +kernel
theorem dX12_logs_31 : decode cX12_logs 31 = .ok (.iaload, 1) := by decide +kernel
theorem dX12_logs_32 : decode cX12_logs 32 = .ok (.iastore, 1) := by decide +kernel
theorem dX12_logs_33 : decode cX12_logs 33 = .ok (.iinc 4 (-1), 3) := by decide +kernel
theorem dX12_logs_36 : decode cX12_logs 36 = .ok (.goto (-31), 3) := by decide +kernel
theorem dX12_logs_39 : decode cX12_logs 39 = .ok (.aload_n 0, 1) := by decide +kernel
theorem dX12_logs_40 : decode cX12_logs 40 = .ok (.getfield 7, 3) := by decide +kernel
theorem dX12_logs_43 : decode cX12_logs 43 = .ok (.bipush 112, 2) := by decide +kernel
theorem dX12_logs_45 : decode cX12_logs 45 = .ok (.aload_n 0, 1) := by decide +kernel
theorem dX12_logs_46 : decode cX12_logs 46 = .ok (.getfield 7, 3) := by decide +kernel
theorem dX12_logs_49 : decode cX12_logs 49 = .ok (.iconst 4, 1) := by decide +kernel
theorem dX12_logs_50 : decode cX12_logs 50 = .ok (.iaload, 1) := by decide +kernel
theorem dX12_logs_51 : decode cX12_logs 51 = .ok (.iastore, 1) := by decide +kernel
theorem dX12_logs_52 : decode cX12_logs 52 = .ok (.aload_n 0, 1) := by decide +kernel
theorem dX12_logs_53 : decode cX12_logs 53 = .ok (.getfield 7, 3) := by decide +kernel
theorem dX12_logs_56 : decode cX12_logs 56 = .ok (.bipush 113, 2) := by decide +kernel
theorem dX12_logs_58 : decode cX12_logs 58 = .ok (.iload_n 1, 1) := by decide +kernel
theorem dX12_logs_59 : decode cX12_logs 59 = .ok (.iastore, 1) := by decide +kernel
theorem dX12_logs_60 : decode cX12_logs 60 = .ok (.aload_n 0, 1) := by decide +kernel
theorem dX12_logs_61 : decode cX12_logs 61 = .ok (.getfield 7, 3) := by decide +kernel
theorem dX12_logs_64 : decode cX12_logs 64 = .ok (.bipush 114, 2) := by decide +kernel
theorem dX12_logs_66 : decode cX12_logs 66 = .ok (.iload_n 2, 1) := by decide +kernel
theorem dX12_logs_67 : decode cX12_logs 67 = .ok (.iastore, 1) := by decide +kernel
theorem dX12_logs_68 : decode cX12_logs 68 = .ok (.aload_n 0, 1) := by decide +kernel
theorem dX12_logs_69 : decode cX12_logs 69 = .ok (.getfield 7, 3) := by decide +kernel
theorem dX12_logs_72 : decode cX12_logs 72 = .ok (.bipush 115, 2) := by decide +kernel
theorem dX12_logs_74 : decode cX12_logs 74 = .ok (.iload_n 3, 1) := by decide +kernel
theorem dX12_logs_75 : decode cX12_logs 75 = .ok (.iastore, 1) := by decide +kernel
theorem dX12_logs_76 : decode cX12_logs 76 = .ok (.aload_n 0, 1) := by decide +kernel
theorem dX12_logs_77 : decode cX12_logs 77 = .ok (.getfield 7, 3) := by decide +kernel
theorem dX12_logs_80 : decode cX12_logs 80 = .ok (.bipush 8, 2) := by decide +kernel
theorem dX12_logs_82 : decode cX12_logs 82 = .ok (.bipush 60, 2) := by decide +kernel
theorem dX12_logs_84 : decode cX12_logs 84 = .ok (.aload_n 0, 1) := by decide +kernel
theorem dX12_logs_85 : decode cX12_logs 85 = .ok (.getfield 7, 3) := by decide +kernel
theorem dX12_logs_88 : decode cX12_logs 88 = .ok (.bipush 8, 2) := by decide +kernel
theorem dX12_logs_90 : decode cX12_logs 90 = .ok (.iaload, 1) := by decide +kernel
theorem dX12_logs_91 : decode cX12_logs 91 = .ok (.iconst 1, 1) := by decide +kernel
theorem dX12_logs_92 : decode cX12_logs 92 = .ok (.iadd, 1) := by decide +kernel
theorem dX12_logs_93 : decode cX12_logs 93 = .ok (.invokestatic 313, 3) := by decide +kernel
theorem dX12_logs_96 : decode cX12_logs 96 = .ok (.iastore, 1) := by decide +kernel
theorem dX12_logs_97 : decode cX12_logs 97 = .ok (.return_, 1) := by decide +kernel
def q12_logs (σ : St) (what_a : Int32) (p_a : Int32) (votes_a : Int32) : Option St :=
  Option.bind (loop2 (fun rec4_ (k7_ : Int32) (σ8_ : St) =>
  if 4 ≤ k7_ then
  Option.bind (ag σ8_ 1 752 ((112 + k7_) - 4)) fun x15_ =>
  Option.bind (sa σ8_ 1 752 (112 + k7_) x15_) fun σ17_ =>
  lt (k7_ + (-1)) fun k19_ =>
  rec4_ k19_ σ17_
  else (some (k7_, σ8_))) fuelN (239 : Int32) σ) fun y1_ =>
  Option.bind (ag y1_.2 1 752 4) fun x21_ =>
  Option.bind (sa y1_.2 1 752 112 x21_) fun σ23_ =>
  Option.bind (sa σ23_ 1 752 113 what_a) fun σ25_ =>
  Option.bind (sa σ25_ 1 752 114 p_a) fun σ27_ =>
  Option.bind (sa σ27_ 1 752 115 votes_a) fun σ29_ =>
  Option.bind (ag σ29_ 1 752 8) fun x31_ =>
  Option.bind (sa σ29_ 1 752 8 (q12_lesser 60 (x31_ + 1))) fun σ33_ =>
  some σ33_
abbrev rm12_logs : Room := { frames := 1, cells := 0, slots := 0, locals := 21 }
set_option maxHeartbeats 4000000 in
set_option maxRecDepth 100000 in
theorem p12_logs {Θ : Tz} {σ : St} {ρ : Option Value × St} (C : Zc Θ cX12_logs 5 RX12 none rm12_logs) (hkd : Θ.2.2.2.2.1 = kdM) {what_a : Int32} {p_a : Int32} {votes_a : Int32} {r : St} (hf : q12_logs σ what_a p_a votes_a = some r) (hρ : ρ = (none, r)) : Z Θ 5 0 0 (zQ Θ ρ) σ 0 [(0, .ref (zA Θ 0)), (1, .int what_a), (2, .int p_a), (3, .int votes_a)] [] := by
  unfold q12_logs at hf
  refine z_sipush (v := 239) C dX12_logs_0 sp_239 ?_
  refine z_ist C dX12_logs_3 rfl (Nat.le_of_ble_eq_true rfl) rfl ?_
  refine Z.sub [1, 2, 3, 4, 0] rfl ?_
  obtain ⟨y1_, h2_, hf⟩ := ob hf
  suffices K3_ : Z Θ 5 0 0 (zQ Θ ρ) y1_.2 39 [(0, .ref (zA Θ 0)), (1, .int what_a), (2, .int p_a), (3, .int votes_a), (4, .int y1_.1)] [] by
    refine loop2_Z (P := fun (k7_ : Int32) (σ8_ : St) => Z Θ 5 0 0 (zQ Θ ρ) σ8_ 5 [(0, .ref (zA Θ 0)), (1, .int what_a), (2, .int p_a), (3, .int votes_a), (4, .int k7_)] []) ?_ fuelN (239 : Int32) σ h2_
    clear h2_
    intro rec4_ k7_ σ8_ h5_ h6_
    have K11_ : 4 ≤ k7_ → Z Θ 5 0 0 (zQ Θ ρ) σ8_ 11 [(0, .ref (zA Θ 0)), (1, .int what_a), (2, .int p_a), (3, .int votes_a), (4, .int k7_)] [] := by
      intro h14_
      rw [if_pos h14_] at h6_
      refine z_aload_n C 0 dX12_logs_11 rfl rfl ?_
      refine fg12_7 C hkd dX12_logs_12 ?_
      refine z_bipush (v := 112) C dX12_logs_15 bp_112 ?_
      refine z_iload C 4 dX12_logs_17 rfl ?_
      refine z_iadd C dX12_logs_19 ?_
      refine z_aload_n C 0 dX12_logs_20 rfl rfl ?_
      refine fg12_7 C hkd dX12_logs_21 ?_
      refine z_bipush (v := 112) C dX12_logs_24 bp_112 ?_
      refine z_iload C 4 dX12_logs_26 rfl ?_
      refine z_iadd C dX12_logs_28 ?_
      refine z_iconst (v := 4) C dX12_logs_29 ic_4 ?_
      refine z_isub C dX12_logs_30 ?_
      obtain ⟨x15_, h16_, h6_⟩ := ob h6_
      refine z_ag C h16_ (kM_1 hkd) dX12_logs_31 ?_
      obtain ⟨σ17_, h18_, h6_⟩ := ob h6_
      refine z_sa C h18_ (kM_1 hkd) dX12_logs_32 ?_
      obtain ⟨k19_, h20_, h6_⟩ := lt_ h6_
      refine z_inc C 4 dX12_logs_33 rfl ic_m1 h20_ (Nat.le_of_ble_eq_true rfl) rfl ?_
      refine z_goto C 5 dX12_logs_36 (by decide) ?_
      refine Z.sub [1, 2, 3, 4, 0] rfl ?_
      exact h5_ _ _ h6_
    have K12_ : ¬ (4 ≤ k7_) → Z Θ 5 0 0 (zQ Θ ρ) σ8_ 39 [(0, .ref (zA Θ 0)), (1, .int what_a), (2, .int p_a), (3, .int votes_a), (4, .int k7_)] [] := by
      intro h14_
      rw [if_neg h14_] at h6_
      cases h6_
      exact K3_
    refine z_iload C 4 dX12_logs_5 rfl ?_
    refine z_iconst (v := 4) C dX12_logs_7 ic_4 ?_
    refine c_ge_f C 39 dX12_logs_8 (by decide) (fun h13_ => ?_) (fun h13_ => ?_)
    · exact K11_ h13_
    · exact K12_ h13_
  refine z_aload_n C 0 dX12_logs_39 rfl rfl ?_
  refine fg12_7 C hkd dX12_logs_40 ?_
  refine z_bipush (v := 112) C dX12_logs_43 bp_112 ?_
  refine z_aload_n C 0 dX12_logs_45 rfl rfl ?_
  refine fg12_7 C hkd dX12_logs_46 ?_
  refine z_iconst (v := 4) C dX12_logs_49 ic_4 ?_
  obtain ⟨x21_, h22_, hf⟩ := ob hf
  refine z_ag C h22_ (kM_1 hkd) dX12_logs_50 ?_
  obtain ⟨σ23_, h24_, hf⟩ := ob hf
  refine z_sa C h24_ (kM_1 hkd) dX12_logs_51 ?_
  refine z_aload_n C 0 dX12_logs_52 rfl rfl ?_
  refine fg12_7 C hkd dX12_logs_53 ?_
  refine z_bipush (v := 113) C dX12_logs_56 bp_113 ?_
  refine z_iload_n C 1 dX12_logs_58 rfl rfl ?_
  obtain ⟨σ25_, h26_, hf⟩ := ob hf
  refine z_sa C h26_ (kM_1 hkd) dX12_logs_59 ?_
  refine z_aload_n C 0 dX12_logs_60 rfl rfl ?_
  refine fg12_7 C hkd dX12_logs_61 ?_
  refine z_bipush (v := 114) C dX12_logs_64 bp_114 ?_
  refine z_iload_n C 2 dX12_logs_66 rfl rfl ?_
  obtain ⟨σ27_, h28_, hf⟩ := ob hf
  refine z_sa C h28_ (kM_1 hkd) dX12_logs_67 ?_
  refine z_aload_n C 0 dX12_logs_68 rfl rfl ?_
  refine fg12_7 C hkd dX12_logs_69 ?_
  refine z_bipush (v := 115) C dX12_logs_72 bp_115 ?_
  refine z_iload_n C 3 dX12_logs_74 rfl rfl ?_
  obtain ⟨σ29_, h30_, hf⟩ := ob hf
  refine z_sa C h30_ (kM_1 hkd) dX12_logs_75 ?_
  refine z_aload_n C 0 dX12_logs_76 rfl rfl ?_
  refine fg12_7 C hkd dX12_logs_77 ?_
  refine z_bipush (v := 8) C dX12_logs_80 bp_8 ?_
  refine z_bipush (v := 60) C dX12_logs_82 bp_60 ?_
  refine z_aload_n C 0 dX12_logs_84 rfl rfl ?_
  refine fg12_7 C hkd dX12_logs_85 ?_
  refine z_bipush (v := 8) C dX12_logs_88 bp_8 ?_
  obtain ⟨x31_, h32_, hf⟩ := ob hf
  refine z_ag C h32_ (kM_1 hkd) dX12_logs_90 ?_
  refine z_iconst (v := 1) C dX12_logs_91 ic_1 ?_
  refine z_iadd C dX12_logs_92 ?_
  refine cr12_313 (a_a := 60) (b_a := (x31_ + 1)) C hkd  ⟨(Nat.le_of_ble_eq_true rfl), (Nat.le_of_ble_eq_true rfl)⟩ (Nat.le_of_ble_eq_true rfl) ⟨Nat.zero_le _, Nat.zero_le _⟩ dX12_logs_93 ?_
  obtain ⟨σ33_, h34_, hf⟩ := ob hf
  refine z_sa C h34_ (kM_1 hkd) dX12_logs_96 ?_
  cases hf
  subst hρ
  exact z_vret C dX12_logs_97
theorem c12_logs {l : Launch} {kd : List KD} {w : Wp} {σ : St} {what_a : Int32} {p_a : Int32} {votes_a : Int32} (hkd : kd = kdM) (hi : zI kd w) {r : St} (hf : q12_logs σ what_a p_a votes_a = some r) : zM l kd w yX12_logs cX12_logs 5 none rm12_logs [.ref (w.2.2.1 0), .int what_a, .int p_a, .int votes_a] σ (none, r) := zM_of rfl hi (Nat.le_of_ble_eq_true rfl) (fun Θ hl hw C => by
  obtain ⟨Θ1, Θ2, Θ3, Θ4, Θ5⟩ := Θ
  cases hw
  exact p12_logs C hkd  hf rfl)

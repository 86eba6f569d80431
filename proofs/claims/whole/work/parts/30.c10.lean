/-! LastLoaf$SecretBallots.countWays -/
theorem fp7_34 {Θ : Tz} {cc : ByteArray} {nL kc ks : Nat} {ret : Option FieldType} {rm : Room} {Q : State → Prop} {σ : St} {pc : Nat} {lv : List (Nat × Value)} {st : List Value} (C : Zc Θ cc nL RX7 ret rm) (hkd : Θ.2.2.2.2.1 = kdC) {x : Int32} {σ1 : St} (he : σ1 = up σ 21 7 x) (hd : decode cc pc = .ok (.putfield 34, 3)) (kk : Z Θ nL kc ks Q σ1 (pc + 3) lv st) : Z Θ nL kc ks Q σ pc lv (.int x :: .ref (zA Θ 21) :: st) := by subst he; exact z_put C inT7 tyX7_ok nmX7 21 (kC_21 hkd) rfl 7 (by decide) w_2_143 rfl rfl rfl rfl hd kk
theorem w_7_61 : Cond.code ({ cls := "LastLoaf$SecretBallots", name := "choicesOf", desc := "(LLastLoaf$Village;II)I" } : MethodName) prog_9_method_5_code (6 : Nat) (Option.some ClassFile.FieldType.int) ∈ TB := tb_in (lwt_7 (List.mem_of_getElem? (i := 61) (by decide +kernel))) rfl
theorem w_7_58 : Cond.methodLink "LastLoaf$SecretBallots" (87 : Nat) ({ cls := "LastLoaf$SecretBallots", name := "choicesOf", desc := "(LLastLoaf$Village;II)I" } : MethodName) ∈ TB := tb_in (lwt_7 (List.mem_of_getElem? (i := 58) (by decide +kernel))) rfl
theorem w_7_59 : Cond.instanceMethod ({ cls := "LastLoaf$SecretBallots", name := "choicesOf", desc := "(LLastLoaf$Village;II)I" } : MethodName) ∈ TB := tb_in (lwt_7 (List.mem_of_getElem? (i := 59) (by decide +kernel))) rfl
theorem w_7_60 : Cond.selects "LastLoaf$SecretBallots" ({ cls := "LastLoaf$SecretBallots", name := "choicesOf", desc := "(LLastLoaf$Village;II)I" } : MethodName) ({ cls := "LastLoaf$SecretBallots", name := "choicesOf", desc := "(LLastLoaf$Village;II)I" } : MethodName) ∈ TB := tb_in (lwt_7 (List.mem_of_getElem? (i := 60) (by decide +kernel))) rfl
theorem cr7_87 {Θ : Tz} {cc : ByteArray} {nL kc ks : Nat} {ret : Option FieldType} {rm : Room} {Q : State → Prop} {σ : St} {pc : Nat} {lv : List (Nat × Value)} {st : List Value} (C : Zc Θ cc nL RX7 ret rm) (hkd : Θ.2.2.2.2.1 = kdC) {village_a : Nat} {runners_a : Int32} {voter_a : Int32} (h_village : isV village_a) {r : Int32} (hx : q7_choicesOf σ village_a runners_a voter_a = some r) (hrm : rm7_choicesOf.frames + 1 ≤ rm.frames ∧ 8 + (6 + 11) + rm7_choicesOf.locals ≤ rm.locals) (hcat : (st.map fun v => v.category).sum ≤ 8) (hk : kc ≤ rm.cells ∧ ks ≤ rm.slots) (hd : decode cc pc = .ok (.invokevirtual 87, 3)) (kk : Z Θ nL kc ks Q σ (pc + 3) lv (.int r :: st)) : Z Θ nL kc ks Q σ pc lv (.int voter_a :: .int runners_a :: .ref (zA Θ village_a) :: .ref (zA Θ 21) :: st) := z_callV C 21 [.ref (zA Θ village_a), .int runners_a, .int voter_a] (some (.int r), σ) 3 (kC_21 hkd) rfl (c7_choicesOf (village_a := village_a) (runners_a := runners_a) (voter_a := voter_a) hkd (zc_inj C) h_village hx) w_7_61 w_7_58 w_7_59 w_7_60 w_1_12 ⟨rfl, rfl, hrm.1, hrm.2⟩ (by decide +kernel) rfl rfl hcat hk hd kk
theorem w_7_66 : Cond.code ({ cls := "LastLoaf$SecretBallots", name := "countBefore", desc := "()V" } : MethodName) prog_9_method_7_code (3 : Nat) (Option.none : Option ClassFile.FieldType) ∈ TB := tb_in (lwt_7 (List.mem_of_getElem? (i := 66) (by decide +kernel))) rfl
theorem w_7_63 : Cond.methodLink "LastLoaf$SecretBallots" (91 : Nat) ({ cls := "LastLoaf$SecretBallots", name := "countBefore", desc := "()V" } : MethodName) ∈ TB := tb_in (lwt_7 (List.mem_of_getElem? (i := 63) (by decide +kernel))) rfl
theorem w_7_64 : Cond.instanceMethod ({ cls := "LastLoaf$SecretBallots", name := "countBefore", desc := "()V" } : MethodName) ∈ TB := tb_in (lwt_7 (List.mem_of_getElem? (i := 64) (by decide +kernel))) rfl
theorem w_7_65 : Cond.selects "LastLoaf$SecretBallots" ({ cls := "LastLoaf$SecretBallots", name := "countBefore", desc := "()V" } : MethodName) ({ cls := "LastLoaf$SecretBallots", name := "countBefore", desc := "()V" } : MethodName) ∈ TB := tb_in (lwt_7 (List.mem_of_getElem? (i := 65) (by decide +kernel))) rfl
theorem cr7_91 {Θ : Tz} {cc : ByteArray} {nL kc ks : Nat} {ret : Option FieldType} {rm : Room} {Q : State → Prop} {σ : St} {pc : Nat} {lv : List (Nat × Value)} {st : List Value} (C : Zc Θ cc nL RX7 ret rm) (hkd : Θ.2.2.2.2.1 = kdC) {r : St} (hx : q7_countBefore σ = some r) (hrm : rm7_countBefore.frames + 1 ≤ rm.frames ∧ 8 + (3 + 11) + rm7_countBefore.locals ≤ rm.locals) (hcat : (st.map fun v => v.category).sum ≤ 8) (hk : kc ≤ rm.cells ∧ ks ≤ rm.slots) (hd : decode cc pc = .ok (.invokevirtual 91, 3)) (kk : Z Θ nL kc ks Q r (pc + 3) lv st) : Z Θ nL kc ks Q σ pc lv (.ref (zA Θ 21) :: st) := z_callV C 21 [] (none, r) 0 (kC_21 hkd) rfl (c7_countBefore hkd (zc_inj C) hx) w_7_66 w_7_63 w_7_64 w_7_65 w_1_12 ⟨rfl, rfl, hrm.1, hrm.2⟩ (by decide +kernel) rfl rfl hcat hk hd kk
theorem w_7_78 : Cond.code ({ cls := "LastLoaf$SecretBallots", name := "countAfter", desc := "()V" } : MethodName) prog_9_method_9_code (3 : Nat) (Option.none : Option ClassFile.FieldType) ∈ TB := tb_in (lwt_7 (List.mem_of_getElem? (i := 78) (by decide +kernel))) rfl
theorem w_7_75 : Cond.methodLink "LastLoaf$SecretBallots" (94 : Nat) ({ cls := "LastLoaf$SecretBallots", name := "countAfter", desc := "()V" } : MethodName) ∈ TB := tb_in (lwt_7 (List.mem_of_getElem? (i := 75) (by decide +kernel))) rfl
theorem w_7_76 : Cond.instanceMethod ({ cls := "LastLoaf$SecretBallots", name := "countAfter", desc := "()V" } : MethodName) ∈ TB := tb_in (lwt_7 (List.mem_of_getElem? (i := 76) (by decide +kernel))) rfl
theorem w_7_77 : Cond.selects "LastLoaf$SecretBallots" ({ cls := "LastLoaf$SecretBallots", name := "countAfter", desc := "()V" } : MethodName) ({ cls := "LastLoaf$SecretBallots", name := "countAfter", desc := "()V" } : MethodName) ∈ TB := tb_in (lwt_7 (List.mem_of_getElem? (i := 77) (by decide +kernel))) rfl
theorem cr7_94 {Θ : Tz} {cc : ByteArray} {nL kc ks : Nat} {ret : Option FieldType} {rm : Room} {Q : State → Prop} {σ : St} {pc : Nat} {lv : List (Nat × Value)} {st : List Value} (C : Zc Θ cc nL RX7 ret rm) (hkd : Θ.2.2.2.2.1 = kdC) {r : St} (hx : q7_countAfter σ = some r) (hrm : rm7_countAfter.frames + 1 ≤ rm.frames ∧ 8 + (3 + 11) + rm7_countAfter.locals ≤ rm.locals) (hcat : (st.map fun v => v.category).sum ≤ 8) (hk : kc ≤ rm.cells ∧ ks ≤ rm.slots) (hd : decode cc pc = .ok (.invokevirtual 94, 3)) (kk : Z Θ nL kc ks Q r (pc + 3) lv st) : Z Θ nL kc ks Q σ pc lv (.ref (zA Θ 21) :: st) := z_callV C 21 [] (none, r) 0 (kC_21 hkd) rfl (c7_countAfter hkd (zc_inj C) hx) w_7_78 w_7_75 w_7_76 w_7_77 w_1_12 ⟨rfl, rfl, hrm.1, hrm.2⟩ (by decide +kernel) rfl rfl hcat hk hd kk
theorem w_2_144 : Cond.fieldLink "LastLoaf$SecretBallots" (37 : Nat) "LastLoaf$SecretBallots" "ways" "I" ∈ TB := tb_in (lwt_2 (List.mem_of_getElem? (i := 144) (by decide +kernel))) rfl
theorem fp7_37 {Θ : Tz} {cc : ByteArray} {nL kc ks : Nat} {ret : Option FieldType} {rm : Room} {Q : State → Prop} {σ : St} {pc : Nat} {lv : List (Nat × Value)} {st : List Value} (C : Zc Θ cc nL RX7 ret rm) (hkd : Θ.2.2.2.2.1 = kdC) {x : Int32} {σ1 : St} (he : σ1 = up σ 21 8 x) (hd : decode cc pc = .ok (.putfield 37, 3)) (kk : Z Θ nL kc ks Q σ1 (pc + 3) lv st) : Z Θ nL kc ks Q σ pc lv (.int x :: .ref (zA Θ 21) :: st) := by subst he; exact z_put C inT7 tyX7_ok nmX7 21 (kC_21 hkd) rfl 8 (by decide) w_2_144 rfl rfl rfl rfl hd kk
theorem dX7_countWays_0 : decode cX7_countWays 0 = .ok (.aload_n 0, 1) := by decide +kernel
theorem dX7_countWays_1 : decode cX7_countWays 1 = .ok (.iconst 1, 1) := by decide +kernel
theorem dX7_countWays_2 : decode cX7_countWays 2 = .ok (.putfield 34, 3) := by decide +kernel
theorem dX7_countWays_5 : decode cX7_countWays 5 = .ok (.iconst 0, 1) := by decide +kernel
theorem dX7_countWays_6 : decode cX7_countWays 6 = .ok (.istore_n 3, 1) := by decide +kernel
theorem dX7_countWays_7 : decode cX7_countWays 7 = .ok (.iload_n 3, 1) := by decide +kernel
theorem dX7_countWays_8 : decode cX7_countWays 8 = .ok (.aload_n 0, 1) := by decide +kernel
theorem dX7_countWays_9 : decode cX7_countWays 9 = .ok (.getfield 27, 3) := by decide +kernel
theorem dX7_countWays_12 : decode cX7_countWays 12 = .ok (.if_icmp .ge 40, 3) := by decide +kernel
theorem dX7_countWays_15 : decode cX7_countWays 15 = .ok (.aload_n 0, 1) := by decide +kernel
theorem dX7_countWays_16 : decode cX7_countWays 16 = .ok (.getfield 15, 3) := by decide +kernel
theorem dX7_countWays_19 : decode cX7_countWays 19 = .ok (.iload_n 3, 1) := by decide +kernel
theorem dX7_countWays_20 : decode cX7_countWays 20 = .ok (.aload_n 0, 1) := by decide +kernel
theorem dX7_countWays_21 : decode cX7_countWays 21 = .ok (.getfield 34, 3) := by decide +kernel
theorem dX7_countWays_24 : decode cX7_countWays 24 = .ok (.iastore, 1) := by decide +kernel
theorem dX7_countWays_25 : decode cX7_countWays 25 = .ok (.aload_n 0, 1) := by decide +kernel
theorem dX7_countWays_26 : decode cX7_countWays 26 = .ok (.dup, 1) := by decide +kernel
theorem dX7_countWays_27 : decode cX7_countWays 27 = .ok (.getfield 34, 3) := by decide +kernel
theorem dX7_countWays_30 : decode cX7_countWays 30 = .ok (.iconst 0, 1) := by decide +kernel
theorem dX7_countWays_31 : decode cX7_countWays 31 = .ok (.aload_n 0, 1) := by decide +kernel
theorem dX7_countWays_32 : decode cX7_countWays 32 = .ok (.getfield 9, 3) := by decide +kernel
theorem dX7_countWays_35 : decode cX7_countWays 35 = .ok (.iload_n 3, 1) := by decide +kernel
theorem dX7_countWays_36 : decode cX7_countWays 36 = .ok (.iaload, 1) := by decide +kernel
theorem dX7_countWays_37 : decode cX7_countWays 37 = .ok (.invokestatic 81, 3) := by decide +kernel
theorem dX7_countWays_40 : decode cX7_countWays 40 = .ok (.iconst 1, 1) := by decide +kernel
theorem dX7_countWays_41 : decode cX7_countWays 41 = .ok (.iadd, 1) := by decide +kernel
theorem dX7_countWays_42 : decode cX7_countWays 42 = .ok (.imul, 1) := by decide +kernel
theorem dX7_countWays_43 : decode cX7_countWays 43 = .ok (.putfield 34, 3) := by decide +kernel
theorem dX7_countWays_46 : decode cX7_countWays 46 = .ok (.iinc 3 1, 3) := by decide +kernel
theorem dX7_countWays_49 : decode cX7_countWays 49 = .ok (.goto (-42), 3) := by decide +kernel
theorem dX7_countWays_52 : decode cX7_countWays 52 = .ok (.iconst 0, 1) := by decide +kernel
theorem dX7_countWays_53 : decode cX7_countWays 53 = .ok (.istore_n 3, 1) := by decide +kernel
theorem dX7_countWays_54 : decode cX7_countWays 54 = .ok (.iload_n 3, 1) := by decide +kernel
theorem dX7_countWays_55 : decode cX7_countWays 55 = .ok (.aload_n 0, 1) := by decide +kernel
theorem dX7_countWays_56 : decode cX7_countWays 56 = .ok (.getfield 27, 3) := by decide +kernel
theorem dX7_countWays_59 : decode cX7_countWays 59 = .ok (.if_icmp .ge 22, 3) := by decide +kernel
theorem dX7_countWays_62 : decode cX7_countWays 62 = .ok (.aload_n 0, 1) := by decide +kernel
theorem dX7_countWays_63 : decode cX7_countWays 63 = .ok (.getfield 18, 3) := by decide +kernel
theorem dX7_countWays_66 : decode cX7_countWays 66 = .ok (.iload_n 3, 1) := by decide +kernel
theorem dX7_countWays_67 : decode cX7_countWays 67 = .ok (.aload_n 0, 1) := by decide +kernel
theorem dX7_countWays_68 : decode cX7_countWays 68 = .ok (.aload_n 1, 1) := by decide +kernel
theorem dX7_countWays_69 : decode cX7_countWays 69 = .ok (.iload_n 2, 1) := by decide +kernel
theorem dX7_countWays_70 : decode cX7_countWays 70 = .ok (.iload_n 3, 1) := by decide +kernel
theorem dX7_countWays_71 : decode cX7_countWays 71 = .ok (.invokevirtual 87, 3) := by decide +kernel
theorem dX7_countWays_74 : decode cX7_countWays 74 = .ok (.iastore, 1) := by decide +kernel
theorem dX7_countWays_75 : decode cX7_countWays 75 = .ok (.iinc 3 1, 3) := by decide +kernel
theorem dX7_countWays_78 : decode cX7_countWays 78 = .ok (.goto (-24), 3) := by decide +kernel
theorem dX7_countWays_81 : decode cX7_countWays 81 = .ok (.aload_n 0, 1) := by decide +kernel
theorem dX7_countWays_82 : decode cX7_countWays 82 = .ok (.invokevirtual 91, 3) := by decide +kernel
theorem dX7_countWays_85 : decode cX7_countWays 85 = .ok (.aload_n 0, 1) := by decide +kernel
theorem dX7_countWays_86 : decode cX7_countWays 86 = .ok (.invokevirtual 94, 3) := by decide +kernel
theorem dX7_countWays_89 : decode cX7_countWays 89 = .ok (.aload_n 0, 1) := by decide +kernel
theorem dX7_countWays_90 : decode cX7_countWays 90 = .ok (.aload_n 0, 1) := by decide +kernel
theorem dX7_countWays_91 : decode cX7_countWays 91 = .ok (.getfield 24, 3) := by decide +kernel
theorem dX7_countWays_94 : decode cX7_countWays 94 = .ok (.iconst 0, 1) := by decide +kernel
theorem dX7_countWays_95 : decode cX7_countWays 95 = .ok (.iaload, 1) := by decide +kernel
theorem dX7_countWays_96 : decode cX7_countWays 96 = .ok (.putfield 37, 3) := by decide +kernel
theorem dX7_countWays_99 : decode cX7_countWays 99 = .ok (.return_, 1) := by decide +kernel
def q7_countWays (σ : St) (village_a : Nat) (runners_a : Int32) : Option St :=
  lt (up σ 21 7 1) fun σ1_ =>
  Option.bind (loop2 (fun rec6_ (r9_ : Int32) (σ10_ : St) =>
  if r9_ < (σ10_ 21 5) then
  Option.bind (sa σ10_ 23 6 r9_ (σ10_ 21 7)) fun σ17_ =>
  Option.bind (ag σ17_ 22 6 r9_) fun x19_ =>
  lt (up σ17_ 21 7 ((σ17_ 21 7) * ((imax 0 x19_) + 1))) fun σ21_ =>
  lt (r9_ + 1) fun r23_ =>
  rec6_ r23_ σ21_
  else (some (r9_, σ10_))) fuelN (0 : Int32) σ1_) fun y3_ =>
  Option.bind (loop2 (fun rec28_ (v31_ : Int32) (σ32_ : St) =>
  if v31_ < (σ32_ 21 5) then
  Option.bind (q7_choicesOf σ32_ village_a runners_a v31_) fun x39_ =>
  Option.bind (sa σ32_ 24 6 v31_ x39_) fun σ41_ =>
  lt (v31_ + 1) fun v43_ =>
  rec28_ v43_ σ41_
  else (some (v31_, σ32_))) fuelN (0 : Int32) y3_.2) fun y25_ =>
  Option.bind (q7_countBefore y25_.2) fun x45_ =>
  Option.bind (q7_countAfter x45_) fun x47_ =>
  Option.bind (ag x47_ 26 448 0) fun x49_ =>
  lt (up x47_ 21 8 x49_) fun σ51_ =>
  some σ51_
abbrev rm7_countWays : Room := { frames := 5, cells := 0, slots := 0, locals := 114 }
set_option maxHeartbeats 4000000 in
set_option maxRecDepth 100000 in
theorem p7_countWays {Θ : Tz} {σ : St} {ρ : Option Value × St} (C : Zc Θ cX7_countWays 4 RX7 none rm7_countWays) (hkd : Θ.2.2.2.2.1 = kdC) {village_a : Nat} {runners_a : Int32} (h_village : isV village_a) {r : St} (hf : q7_countWays σ village_a runners_a = some r) (hρ : ρ = (none, r)) : Z Θ 4 0 0 (zQ Θ ρ) σ 0 [(0, .ref (zA Θ 21)), (1, .ref (zA Θ village_a)), (2, .int runners_a)] [] := by
  unfold q7_countWays at hf
  refine z_aload_n C 0 dX7_countWays_0 rfl rfl ?_
  refine z_iconst (v := 1) C dX7_countWays_1 ic_1 ?_
  obtain ⟨σ1_, h2_, hf⟩ := lt_ hf
  refine fp7_34 C hkd h2_ dX7_countWays_2 ?_
  refine z_iconst (v := 0) C dX7_countWays_5 ic_0 ?_
  refine z_istN C dX7_countWays_6 rfl rfl (Nat.le_of_ble_eq_true rfl) rfl ?_
  refine Z.sub [1, 2, 3, 0] rfl ?_
  obtain ⟨y3_, h4_, hf⟩ := ob hf
  suffices K5_ : Z Θ 4 0 0 (zQ Θ ρ) y3_.2 52 [(0, .ref (zA Θ 21)), (1, .ref (zA Θ village_a)), (2, .int runners_a), (3, .int y3_.1)] [] by
    refine loop2_Z (P := fun (r9_ : Int32) (σ10_ : St) => Z Θ 4 0 0 (zQ Θ ρ) σ10_ 7 [(0, .ref (zA Θ 21)), (1, .ref (zA Θ village_a)), (2, .int runners_a), (3, .int r9_)] []) ?_ fuelN (0 : Int32) σ1_ h4_
    clear h4_
    intro rec6_ r9_ σ10_ h7_ h8_
    have K13_ : r9_ < (σ10_ 21 5) → Z Θ 4 0 0 (zQ Θ ρ) σ10_ 15 [(0, .ref (zA Θ 21)), (1, .ref (zA Θ village_a)), (2, .int runners_a), (3, .int r9_)] [] := by
      intro h16_
      rw [if_pos h16_] at h8_
      refine z_aload_n C 0 dX7_countWays_15 rfl rfl ?_
      refine fg7_15 C hkd dX7_countWays_16 ?_
      refine z_iload_n C 3 dX7_countWays_19 rfl rfl ?_
      refine z_aload_n C 0 dX7_countWays_20 rfl rfl ?_
      refine fg7_34 C hkd dX7_countWays_21 ?_
      obtain ⟨σ17_, h18_, h8_⟩ := ob h8_
      refine z_sa C h18_ (kC_23 hkd) dX7_countWays_24 ?_
      refine z_aload_n C 0 dX7_countWays_25 rfl rfl ?_
      refine z_dup C dX7_countWays_26 rfl ?_
      refine fg7_34 C hkd dX7_countWays_27 ?_
      refine z_iconst (v := 0) C dX7_countWays_30 ic_0 ?_
      refine z_aload_n C 0 dX7_countWays_31 rfl rfl ?_
      refine fg7_9 C hkd dX7_countWays_32 ?_
      refine z_iload_n C 3 dX7_countWays_35 rfl rfl ?_
      obtain ⟨x19_, h20_, h8_⟩ := ob h8_
      refine z_ag C h20_ (kC_22 hkd) dX7_countWays_36 ?_
      refine z_max C w_7_52 w_3_176 w_1_28 w_3_177 ⟨(Nat.le_of_ble_eq_true rfl), (Nat.le_of_ble_eq_true rfl)⟩ (Nat.le_of_ble_eq_true rfl) ⟨Nat.zero_le _, Nat.zero_le _⟩ dX7_countWays_37 ?_
      refine z_iconst (v := 1) C dX7_countWays_40 ic_1 ?_
      refine z_iadd C dX7_countWays_41 ?_
      refine z_imul C dX7_countWays_42 ?_
      obtain ⟨σ21_, h22_, h8_⟩ := lt_ h8_
      refine fp7_34 C hkd h22_ dX7_countWays_43 ?_
      obtain ⟨r23_, h24_, h8_⟩ := lt_ h8_
      refine z_inc C 3 dX7_countWays_46 rfl ic_1 h24_ (Nat.le_of_ble_eq_true rfl) rfl ?_
      refine z_goto C 7 dX7_countWays_49 (by decide) ?_
      refine Z.sub [1, 2, 3, 0] rfl ?_
      exact h7_ _ _ h8_
    have K14_ : ¬ (r9_ < (σ10_ 21 5)) → Z Θ 4 0 0 (zQ Θ ρ) σ10_ 52 [(0, .ref (zA Θ 21)), (1, .ref (zA Θ village_a)), (2, .int runners_a), (3, .int r9_)] [] := by
      intro h16_
      rw [if_neg h16_] at h8_
      cases h8_
      exact K5_
    refine z_iload_n C 3 dX7_countWays_7 rfl rfl ?_
    refine z_aload_n C 0 dX7_countWays_8 rfl rfl ?_
    refine fg7_27 C hkd dX7_countWays_9 ?_
    refine c_lt_f C 52 dX7_countWays_12 (by decide) (fun h15_ => ?_) (fun h15_ => ?_)
    · exact K13_ h15_
    · exact K14_ h15_
  refine z_iconst (v := 0) C dX7_countWays_52 ic_0 ?_
  refine z_istN C dX7_countWays_53 rfl rfl (Nat.le_of_ble_eq_true rfl) rfl ?_
  refine Z.sub [1, 2, 3, 0] rfl ?_
  obtain ⟨y25_, h26_, hf⟩ := ob hf
  suffices K27_ : Z Θ 4 0 0 (zQ Θ ρ) y25_.2 81 [(0, .ref (zA Θ 21)), (1, .ref (zA Θ village_a)), (2, .int runners_a), (3, .int y25_.1)] [] by
    refine loop2_Z (P := fun (v31_ : Int32) (σ32_ : St) => Z Θ 4 0 0 (zQ Θ ρ) σ32_ 54 [(0, .ref (zA Θ 21)), (1, .ref (zA Θ village_a)), (2, .int runners_a), (3, .int v31_)] []) ?_ fuelN (0 : Int32) y3_.2 h26_
    clear h26_
    intro rec28_ v31_ σ32_ h29_ h30_
    have K35_ : v31_ < (σ32_ 21 5) → Z Θ 4 0 0 (zQ Θ ρ) σ32_ 62 [(0, .ref (zA Θ 21)), (1, .ref (zA Θ village_a)), (2, .int runners_a), (3, .int v31_)] [] := by
      intro h38_
      rw [if_pos h38_] at h30_
      refine z_aload_n C 0 dX7_countWays_62 rfl rfl ?_
      refine fg7_18 C hkd dX7_countWays_63 ?_
      refine z_iload_n C 3 dX7_countWays_66 rfl rfl ?_
      refine z_aload_n C 0 dX7_countWays_67 rfl rfl ?_
      refine z_aload_n C 1 dX7_countWays_68 rfl rfl ?_
      refine z_iload_n C 2 dX7_countWays_69 rfl rfl ?_
      refine z_iload_n C 3 dX7_countWays_70 rfl rfl ?_
      obtain ⟨x39_, h40_, h30_⟩ := ob h30_
      refine cr7_87 (village_a := village_a) (runners_a := runners_a) (voter_a := v31_) C hkd h_village h40_ ⟨(Nat.le_of_ble_eq_true rfl), (Nat.le_of_ble_eq_true rfl)⟩ (Nat.le_of_ble_eq_true rfl) ⟨Nat.zero_le _, Nat.zero_le _⟩ dX7_countWays_71 ?_
      obtain ⟨σ41_, h42_, h30_⟩ := ob h30_
      refine z_sa C h42_ (kC_24 hkd) dX7_countWays_74 ?_
      obtain ⟨v43_, h44_, h30_⟩ := lt_ h30_
      refine z_inc C 3 dX7_countWays_75 rfl ic_1 h44_ (Nat.le_of_ble_eq_true rfl) rfl ?_
      refine z_goto C 54 dX7_countWays_78 (by decide) ?_
      refine Z.sub [1, 2, 3, 0] rfl ?_
      exact h29_ _ _ h30_
    have K36_ : ¬ (v31_ < (σ32_ 21 5)) → Z Θ 4 0 0 (zQ Θ ρ) σ32_ 81 [(0, .ref (zA Θ 21)), (1, .ref (zA Θ village_a)), (2, .int runners_a), (3, .int v31_)] [] := by
      intro h38_
      rw [if_neg h38_] at h30_
      cases h30_
      exact K27_
    refine z_iload_n C 3 dX7_countWays_54 rfl rfl ?_
    refine z_aload_n C 0 dX7_countWays_55 rfl rfl ?_
    refine fg7_27 C hkd dX7_countWays_56 ?_
    refine c_lt_f C 81 dX7_countWays_59 (by decide) (fun h37_ => ?_) (fun h37_ => ?_)
    · exact K35_ h37_
    · exact K36_ h37_
  refine z_aload_n C 0 dX7_countWays_81 rfl rfl ?_
  obtain ⟨x45_, h46_, hf⟩ := ob hf
  refine cr7_91 C hkd  h46_ ⟨(Nat.le_of_ble_eq_true rfl), (Nat.le_of_ble_eq_true rfl)⟩ (Nat.le_of_ble_eq_true rfl) ⟨Nat.zero_le _, Nat.zero_le _⟩ dX7_countWays_82 ?_
  refine z_aload_n C 0 dX7_countWays_85 rfl rfl ?_
  obtain ⟨x47_, h48_, hf⟩ := ob hf
  refine cr7_94 C hkd  h48_ ⟨(Nat.le_of_ble_eq_true rfl), (Nat.le_of_ble_eq_true rfl)⟩ (Nat.le_of_ble_eq_true rfl) ⟨Nat.zero_le _, Nat.zero_le _⟩ dX7_countWays_86 ?_
  refine z_aload_n C 0 dX7_countWays_89 rfl rfl ?_
  refine z_aload_n C 0 dX7_countWays_90 rfl rfl ?_
  refine fg7_24 C hkd dX7_countWays_91 ?_
  refine z_iconst (v := 0) C dX7_countWays_94 ic_0 ?_
  obtain ⟨x49_, h50_, hf⟩ := ob hf
  refine z_ag C h50_ (kC_26 hkd) dX7_countWays_95 ?_
  obtain ⟨σ51_, h52_, hf⟩ := lt_ hf
  refine fp7_37 C hkd h52_ dX7_countWays_96 ?_
  cases hf
  subst hρ
  exact z_vret C dX7_countWays_99
theorem c7_countWays {l : Launch} {kd : List KD} {w : Wp} {σ : St} {village_a : Nat} {runners_a : Int32} (hkd : kd = kdC) (hi : zI kd w) (h_village : isV village_a) {r : St} (hf : q7_countWays σ village_a runners_a = some r) : zM l kd w yX7_countWays cX7_countWays 4 none rm7_countWays [.ref (w.2.2.1 21), .ref (w.2.2.1 village_a), .int runners_a] σ (none, r) := zM_of rfl hi (Nat.le_of_ble_eq_true rfl) (fun Θ hl hw C => by
  obtain ⟨Θ1, Θ2, Θ3, Θ4, Θ5⟩ := Θ
  cases hw
  exact p7_countWays C hkd h_village hf rfl)
/-! LastLoaf$SecretBallots.votesTold -/
theorem dX7_votesTold_0 : decode cX7_votesTold 0 = .ok (.iconst 0, 1) := by decide +kernel
theorem dX7_votesTold_1 : decode cX7_votesTold 1 = .ok (.istore_n 1, 1) := by decide +kernel
theorem dX7_votesTold_2 : decode cX7_votesTold 2 = .ok (.iconst 0, 1) := by decide +kernel
theorem dX7_votesTold_3 : decode cX7_votesTold 3 = .ok (.istore_n 2, 1) := by decide +kernel
theorem dX7_votesTold_4 : decode cX7_votesTold 4 = .ok (.iload_n 2, 1) := by decide +kernel
theorem dX7_votesTold_5 : decode cX7_votesTold 5 = .ok (.aload_n 0, 1) := by decide +kernel
theorem dX7_votesTold_6 : decode cX7_votesTold 6 = .ok (.getfield 27, 3) := by decide +kernel
theorem dX7_votesTold_9 : decode cX7_votesTold 9 = .ok (.if_icmp .ge 22, 3) := by decide +kernel
theorem dX7_votesTold_12 : decode cX7_votesTold 12 = .ok (.iload_n 1, 1) := by decide +kernel
theorem dX7_votesTold_13 : decode cX7_votesTold 13 = .ok (.iconst 0, 1) := by decide +kernel
theorem dX7_votesTold_14 : decode cX7_votesTold 14 = .ok (.aload_n 0, 1) := by decide +kernel
theorem dX7_votesTold_15 : decode cX7_votesTold 15 = .ok (.getfield 9, 3) := by decide +kernel
theorem dX7_votesTold_18 : decode cX7_votesTold 18 = .ok (.iload_n 2, 1) := by decide +kernel
theorem dX7_votesTold_19 : decode cX7_votesTold 19 = .ok (.iaload, 1) := by decide +kernel
theorem dX7_votesTold_20 : decode cX7_votesTold 20 = .ok (.invokestatic 81, 3) := by decide +kernel
theorem dX7_votesTold_23 : decode cX7_votesTold 23 = .ok (.iadd, 1) := by decide +kernel
theorem dX7_votesTold_24 : decode cX7_votesTold 24 = .ok (.istore_n 1, 1) := by decide +kernel
theorem dX7_votesTold_25 : decode cX7_votesTold 25 = .ok (.iinc 2 1, 3) := by decide +kernel
theorem dX7_votesTold_28 : decode cX7_votesTold 28 = .ok (.goto (-24), 3) := by decide +kernel
theorem dX7_votesTold_31 : decode cX7_votesTold 31 = .ok (.iload_n 1, 1) := by decide +kernel
theorem dX7_votesTold_32 : decode cX7_votesTold 32 = .ok (.ireturn, 1) := by decide +kernel
def q7_votesTold (σ : St) : Option Int32 :=
  Option.bind (loop2 (fun rec4_ (sum7_ : Int32) (r8_ : Int32) =>
  if r8_ < (σ 21 5) then
  Option.bind (ag σ 22 6 r8_) fun x15_ =>
  lt (sum7_ + (imax 0 x15_)) fun sum17_ =>
  lt (r8_ + 1) fun r19_ =>
  rec4_ sum17_ r19_
  else (some (sum7_, r8_))) fuelN (0 : Int32) (0 : Int32)) fun y1_ =>
  some y1_.1
abbrev rm7_votesTold : Room := { frames := 1, cells := 0, slots := 0, locals := 21 }
set_option maxHeartbeats 4000000 in
set_option maxRecDepth 100000 in
theorem p7_votesTold {Θ : Tz} {σ : St} {ρ : Option Value × St} (C : Zc Θ cX7_votesTold 3 RX7 (some .int) rm7_votesTold) (hkd : Θ.2.2.2.2.1 = kdC) {r : Int32} (hf : q7_votesTold σ = some r) (hρ : ρ = (some (.int r), σ)) : Z Θ 3 0 0 (zQ Θ ρ) σ 0 [(0, .ref (zA Θ 21))] [] := by
  unfold q7_votesTold at hf
  refine z_iconst (v := 0) C dX7_votesTold_0 ic_0 ?_
  refine z_istN C dX7_votesTold_1 rfl rfl (Nat.le_of_ble_eq_true rfl) rfl ?_
  refine z_iconst (v := 0) C dX7_votesTold_2 ic_0 ?_
  refine z_istN C dX7_votesTold_3 rfl rfl (Nat.le_of_ble_eq_true rfl) rfl ?_
  refine Z.sub [2, 1, 0] rfl ?_
  obtain ⟨y1_, h2_, hf⟩ := ob hf
  suffices K3_ : Z Θ 3 0 0 (zQ Θ ρ) σ 31 [(0, .ref (zA Θ 21)), (1, .int y1_.1), (2, .int y1_.2)] [] by
    refine loop2_Z (P := fun (sum7_ : Int32) (r8_ : Int32) => Z Θ 3 0 0 (zQ Θ ρ) σ 4 [(0, .ref (zA Θ 21)), (1, .int sum7_), (2, .int r8_)] []) ?_ fuelN (0 : Int32) (0 : Int32) h2_
    clear h2_
    intro rec4_ sum7_ r8_ h5_ h6_
    have K11_ : r8_ < (σ 21 5) → Z Θ 3 0 0 (zQ Θ ρ) σ 12 [(0, .ref (zA Θ 21)), (1, .int sum7_), (2, .int r8_)] [] := by
      intro h14_
      rw [if_pos h14_] at h6_
      refine z_iload_n C 1 dX7_votesTold_12 rfl rfl ?_
      refine z_iconst (v := 0) C dX7_votesTold_13 ic_0 ?_
      refine z_aload_n C 0 dX7_votesTold_14 rfl rfl ?_
      refine fg7_9 C hkd dX7_votesTold_15 ?_
      refine z_iload_n C 2 dX7_votesTold_18 rfl rfl ?_
      obtain ⟨x15_, h16_, h6_⟩ := ob h6_
      refine z_ag C h16_ (kC_22 hkd) dX7_votesTold_19 ?_
      refine z_max C w_7_52 w_3_176 w_1_28 w_3_177 ⟨(Nat.le_of_ble_eq_true rfl), (Nat.le_of_ble_eq_true rfl)⟩ (Nat.le_of_ble_eq_true rfl) ⟨Nat.zero_le _, Nat.zero_le _⟩ dX7_votesTold_20 ?_
      refine z_iadd C dX7_votesTold_23 ?_
      obtain ⟨sum17_, h18_, h6_⟩ := lt_ h6_
      refine z_istN C dX7_votesTold_24 h18_ rfl (Nat.le_of_ble_eq_true rfl) rfl ?_
      obtain ⟨r19_, h20_, h6_⟩ := lt_ h6_
      refine z_inc C 2 dX7_votesTold_25 rfl ic_1 h20_ (Nat.le_of_ble_eq_true rfl) rfl ?_
      refine z_goto C 4 dX7_votesTold_28 (by decide) ?_
      refine Z.sub [2, 1, 0] rfl ?_
      exact h5_ _ _ h6_
    have K12_ : ¬ (r8_ < (σ 21 5)) → Z Θ 3 0 0 (zQ Θ ρ) σ 31 [(0, .ref (zA Θ 21)), (1, .int sum7_), (2, .int r8_)] [] := by
      intro h14_
      rw [if_neg h14_] at h6_
      cases h6_
      exact K3_
    refine z_iload_n C 2 dX7_votesTold_4 rfl rfl ?_
    refine z_aload_n C 0 dX7_votesTold_5 rfl rfl ?_
    refine fg7_27 C hkd dX7_votesTold_6 ?_
    refine c_lt_f C 31 dX7_votesTold_9 (by decide) (fun h13_ => ?_) (fun h13_ => ?_)
    · exact K11_ h13_
    · exact K12_ h13_
  refine z_iload_n C 1 dX7_votesTold_31 rfl rfl ?_
  cases hf
  subst hρ
  exact z_iret C dX7_votesTold_32
theorem c7_votesTold {l : Launch} {kd : List KD} {w : Wp} {σ : St} (hkd : kd = kdC) (hi : zI kd w) {r : Int32} (hf : q7_votesTold σ = some r) : zM l kd w yX7_votesTold cX7_votesTold 3 (some .int) rm7_votesTold [.ref (w.2.2.1 21)] σ (some (.int r), σ) := zM_of rfl hi (Nat.le_of_ble_eq_true rfl) (fun Θ hl hw C => by
  obtain ⟨Θ1, Θ2, Θ3, Θ4, Θ5⟩ := Θ
  cases hw
  exact p7_votesTold C hkd  hf rfl)
/-! LastLoaf$SecretBallots.hear -/
theorem w_1_126 : Cond.fieldLink "LastLoaf$SecretBallots" (40 : Nat) "LastLoaf$Village" "people" "I" ∈ TB := tb_in (lwt_1 (List.mem_of_getElem? (i := 126) (by decide +kernel))) rfl
theorem fg7_40 {Θ : Tz} {cc : ByteArray} {nL kc ks : Nat} {ret : Option FieldType} {rm : Room} {Q : State → Prop} {σ : St} {pc : Nat} {lv : List (Nat × Value)} {st : List Value} (C : Zc Θ cc nL RX7 ret rm) (hkd : Θ.2.2.2.2.1 = kdC) {th : Nat} (hth : isV th) (hd : decode cc pc = .ok (.getfield 40, 3)) (kk : Z Θ nL kc ks Q σ (pc + 3) lv (.int (σ th 8) :: st)) : Z Θ nL kc ks Q σ pc lv (.ref (zA Θ th) :: st) := z_get C inT10 th (kV_0 hkd hth) rfl 8 (by decide) w_1_126 rfl hd kk
theorem fp7_27 {Θ : Tz} {cc : ByteArray} {nL kc ks : Nat} {ret : Option FieldType} {rm : Room} {Q : State → Prop} {σ : St} {pc : Nat} {lv : List (Nat × Value)} {st : List Value} (C : Zc Θ cc nL RX7 ret rm) (hkd : Θ.2.2.2.2.1 = kdC) {x : Int32} {σ1 : St} (he : σ1 = up σ 21 5 x) (hd : decode cc pc = .ok (.putfield 27, 3)) (kk : Z Θ nL kc ks Q σ1 (pc + 3) lv st) : Z Θ nL kc ks Q σ pc lv (.int x :: .ref (zA Θ 21) :: st) := by subst he; exact z_put C inT7 tyX7_ok nmX7 21 (kC_21 hkd) rfl 5 (by decide) w_2_141 rfl rfl rfl rfl hd kk
theorem w_2_52 : Cond.fieldLink "LastLoaf$SecretBallots" (43 : Nat) "LastLoaf$Poll" "voters" "I" ∈ TB := tb_in (lwt_2 (List.mem_of_getElem? (i := 52) (by decide +kernel))) rfl
theorem fg7_43 {Θ : Tz} {cc : ByteArray} {nL kc ks : Nat} {ret : Option FieldType} {rm : Room} {Q : State → Prop} {σ : St} {pc : Nat} {lv : List (Nat × Value)} {st : List Value} (C : Zc Θ cc nL RX7 ret rm) (hkd : Θ.2.2.2.2.1 = kdC) (hd : decode cc pc = .ok (.getfield 43, 3)) (kk : Z Θ nL kc ks Q σ (pc + 3) lv (.int (σ 6 9) :: st)) : Z Θ nL kc ks Q σ pc lv (.ref (zA Θ 6) :: st) := z_get C inT5 6 (kC_6 hkd) rfl 9 (by decide) w_2_52 rfl hd kk
theorem fp7_31 {Θ : Tz} {cc : ByteArray} {nL kc ks : Nat} {ret : Option FieldType} {rm : Room} {Q : State → Prop} {σ : St} {pc : Nat} {lv : List (Nat × Value)} {st : List Value} (C : Zc Θ cc nL RX7 ret rm) (hkd : Θ.2.2.2.2.1 = kdC) {x : Int32} {σ1 : St} (he : σ1 = up σ 21 6 x) (hd : decode cc pc = .ok (.putfield 31, 3)) (kk : Z Θ nL kc ks Q σ1 (pc + 3) lv st) : Z Θ nL kc ks Q σ pc lv (.int x :: .ref (zA Θ 21) :: st) := by subst he; exact z_put C inT7 tyX7_ok nmX7 21 (kC_21 hkd) rfl 6 (by decide) w_2_142 rfl rfl rfl rfl hd kk
theorem w_1_48 : Cond.fieldLink "LastLoaf$SecretBallots" (52 : Nat) "LastLoaf$Tape" "length" "I" ∈ TB := tb_in (lwt_1 (List.mem_of_getElem? (i := 48) (by decide +kernel))) rfl
theorem fg7_52 {Θ : Tz} {cc : ByteArray} {nL kc ks : Nat} {ret : Option FieldType} {rm : Room} {Q : State → Prop} {σ : St} {pc : Nat} {lv : List (Nat × Value)} {st : List Value} (C : Zc Θ cc nL RX7 ret rm) (hkd : Θ.2.2.2.2.1 = kdC) (hd : decode cc pc = .ok (.getfield 52, 3)) (kk : Z Θ nL kc ks Q σ (pc + 3) lv (.int (σ 1 1) :: st)) : Z Θ nL kc ks Q σ pc lv (.ref (zA Θ 1) :: st) := z_get C inT8 1 (kC_1 hkd) rfl 1 (by decide) w_1_48 rfl hd kk
theorem w_1_45 : Cond.fieldLink "LastLoaf$SecretBallots" (57 : Nat) "LastLoaf$Tape" "bytes" "[I" ∈ TB := tb_in (lwt_1 (List.mem_of_getElem? (i := 45) (by decide +kernel))) rfl
theorem fg7_57 {Θ : Tz} {cc : ByteArray} {nL kc ks : Nat} {ret : Option FieldType} {rm : Room} {Q : State → Prop} {σ : St} {pc : Nat} {lv : List (Nat × Value)} {st : List Value} (C : Zc Θ cc nL RX7 ret rm) (hkd : Θ.2.2.2.2.1 = kdC) (hd : decode cc pc = .ok (.getfield 57, 3)) (kk : Z Θ nL kc ks Q σ (pc + 3) lv (.ref (zA Θ 2) :: st)) : Z Θ nL kc ks Q σ pc lv (.ref (zA Θ 1) :: st) := z_get C inT8 1 (kC_1 hkd) rfl 0 (by decide) w_1_45 rfl hd kk
theorem w_2_49 : Cond.fieldLink "LastLoaf$SecretBallots" (60 : Nat) "LastLoaf$Poll" "runners" "I" ∈ TB := tb_in (lwt_2 (List.mem_of_getElem? (i := 49) (by decide +kernel))) rfl
theorem fg7_60 {Θ : Tz} {cc : ByteArray} {nL kc ks : Nat} {ret : Option FieldType} {rm : Room} {Q : State → Prop} {σ : St} {pc : Nat} {lv : List (Nat × Value)} {st : List Value} (C : Zc Θ cc nL RX7 ret rm) (hkd : Θ.2.2.2.2.1 = kdC) (hd : decode cc pc = .ok (.getfield 60, 3)) (kk : Z Θ nL kc ks Q σ (pc + 3) lv (.int (σ 6 7) :: st)) : Z Θ nL kc ks Q σ pc lv (.ref (zA Θ 6) :: st) := z_get C inT5 6 (kC_6 hkd) rfl 7 (by decide) w_2_49 rfl hd kk
theorem w_7_51 : Cond.code ({ cls := "LastLoaf$SecretBallots", name := "votesTold", desc := "()I" } : MethodName) prog_9_method_3_code (3 : Nat) (Option.some ClassFile.FieldType.int) ∈ TB := tb_in (lwt_7 (List.mem_of_getElem? (i := 51) (by decide +kernel))) rfl
theorem w_7_48 : Cond.methodLink "LastLoaf$SecretBallots" (67 : Nat) ({ cls := "LastLoaf$SecretBallots", name := "votesTold", desc := "()I" } : MethodName) ∈ TB := tb_in (lwt_7 (List.mem_of_getElem? (i := 48) (by decide +kernel))) rfl
theorem w_7_49 : Cond.instanceMethod ({ cls := "LastLoaf$SecretBallots", name := "votesTold", desc := "()I" } : MethodName) ∈ TB := tb_in (lwt_7 (List.mem_of_getElem? (i := 49) (by decide +kernel))) rfl
theorem w_7_50 : Cond.selects "LastLoaf$SecretBallots" ({ cls := "LastLoaf$SecretBallots", name := "votesTold", desc := "()I" } : MethodName) ({ cls := "LastLoaf$SecretBallots", name := "votesTold", desc := "()I" } : MethodName) ∈ TB := tb_in (lwt_7 (List.mem_of_getElem? (i := 50) (by decide +kernel))) rfl
theorem cr7_67 {Θ : Tz} {cc : ByteArray} {nL kc ks : Nat} {ret : Option FieldType} {rm : Room} {Q : State → Prop} {σ : St} {pc : Nat} {lv : List (Nat × Value)} {st : List Value} (C : Zc Θ cc nL RX7 ret rm) (hkd : Θ.2.2.2.2.1 = kdC) {r : Int32} (hx : q7_votesTold σ = some r) (hrm : rm7_votesTold.frames + 1 ≤ rm.frames ∧ 8 + (3 + 11) + rm7_votesTold.locals ≤ rm.locals) (hcat : (st.map fun v => v.category).sum ≤ 8) (hk : kc ≤ rm.cells ∧ ks ≤ rm.slots) (hd : decode cc pc = .ok (.invokevirtual 67, 3)) (kk : Z Θ nL kc ks Q σ (pc + 3) lv (.int r :: st)) : Z Θ nL kc ks Q σ pc lv (.ref (zA Θ 21) :: st) := z_callV C 21 [] (some (.int r), σ) 0 (kC_21 hkd) rfl (c7_votesTold hkd (zc_inj C) hx) w_7_51 w_7_48 w_7_49 w_7_50 w_1_12 ⟨rfl, rfl, hrm.1, hrm.2⟩ (by decide +kernel) rfl rfl hcat hk hd kk
theorem w_7_53 : Cond.methodLink "LastLoaf$SecretBallots" (71 : Nat) ({ cls := "java/lang/Integer", name := "bitCount", desc := "(I)I" } : MethodName) ∈ TB := tb_in (lwt_7 (List.mem_of_getElem? (i := 53) (by decide +kernel))) rfl
theorem w_7_57 : Cond.code ({ cls := "LastLoaf$SecretBallots", name := "countWays", desc := "(LLastLoaf$Village;I)V" } : MethodName) prog_9_method_4_code (4 : Nat) (Option.none : Option ClassFile.FieldType) ∈ TB := tb_in (lwt_7 (List.mem_of_getElem? (i := 57) (by decide +kernel))) rfl
theorem w_7_54 : Cond.methodLink "LastLoaf$SecretBallots" (77 : Nat) ({ cls := "LastLoaf$SecretBallots", name := "countWays", desc := "(LLastLoaf$Village;I)V" } : MethodName) ∈ TB := tb_in (lwt_7 (List.mem_of_getElem? (i := 54) (by decide +kernel))) rfl
theorem w_7_55 : Cond.instanceMethod ({ cls := "LastLoaf$SecretBallots", name := "countWays", desc := "(LLastLoaf$Village;I)V" } : MethodName) ∈ TB := tb_in (lwt_7 (List.mem_of_getElem? (i := 55) (by decide +kernel))) rfl
theorem w_7_56 : Cond.selects "LastLoaf$SecretBallots" ({ cls := "LastLoaf$SecretBallots", name := "countWays", desc := "(LLastLoaf$Village;I)V" } : MethodName) ({ cls := "LastLoaf$SecretBallots", name := "countWays", desc := "(LLastLoaf$Village;I)V" } : MethodName) ∈ TB := tb_in (lwt_7 (List.mem_of_getElem? (i := 56) (by decide +kernel))) rfl
theorem cr7_77 {Θ : Tz} {cc : ByteArray} {nL kc ks : Nat} {ret : Option FieldType} {rm : Room} {Q : State → Prop} {σ : St} {pc : Nat} {lv : List (Nat × Value)} {st : List Value} (C : Zc Θ cc nL RX7 ret rm) (hkd : Θ.2.2.2.2.1 = kdC) {village_a : Nat} {runners_a : Int32} (h_village : isV village_a) {r : St} (hx : q7_countWays σ village_a runners_a = some r) (hrm : rm7_countWays.frames + 1 ≤ rm.frames ∧ 8 + (4 + 11) + rm7_countWays.locals ≤ rm.locals) (hcat : (st.map fun v => v.category).sum ≤ 8) (hk : kc ≤ rm.cells ∧ ks ≤ rm.slots) (hd : decode cc pc = .ok (.invokevirtual 77, 3)) (kk : Z Θ nL kc ks Q r (pc + 3) lv st) : Z Θ nL kc ks Q σ pc lv (.int runners_a :: .ref (zA Θ village_a) :: .ref (zA Θ 21) :: st) := z_callV C 21 [.ref (zA Θ village_a), .int runners_a] (none, r) 2 (kC_21 hkd) rfl (c7_countWays (village_a := village_a) (runners_a := runners_a) hkd (zc_inj C) h_village hx) w_7_57 w_7_54 w_7_55 w_7_56 w_1_12 ⟨rfl, rfl, hrm.1, hrm.2⟩ (by decide +kernel) rfl rfl hcat hk hd kk
theorem dX7_hear_0 : decode cX7_hear 0 = .ok (.aload_n 0, 1) := by decide +kernel
theorem dX7_hear_1 : decode cX7_hear 1 = .ok (.aload_n 2, 1) := by decide +kernel
theorem dX7_hear_2 : decode cX7_hear 2 = .ok (.getfield 40, 3) := by decide +kernel
theorem dX7_hear_5 : decode cX7_hear 5 = .ok (.putfield 27, 3) := by decide +kernel
theorem dX7_hear_8 : decode cX7_hear 8 = .ok (.aload_n 0, 1) := by decide +kernel
theorem dX7_hear_9 : decode cX7_hear 9 = .ok (.aload_n 3, 1) := by decide +kernel
theorem dX7_hear_10 : decode cX7_hear 10 = .ok (.getfield 43, 3) := by decide +kernel
theorem dX7_hear_13 : decode cX7_hear 13 = .ok (.putfield 31, 3) := by decide +kernel
theorem dX7_hear_16 : decode cX7_hear 16 = .ok (.aload_n 0, 1) := by decide +kernel
theorem dX7_hear_17 : decode cX7_hear 17 = .ok (.iconst 0, 1) := by decide +kernel
theorem dX7_hear_18 : decode cX7_hear 18 = .ok (.putfield 37, 3) := by decide +kernel
theorem dX7_hear_21 : decode cX7_hear 21 = .ok (.aload_n 0, 1) := by decide +kernel
theorem dX7_hear_22 : decode cX7_hear 22 = .ok (.getfield 9, 3) := by decide +kernel
theorem dX7_hear_25 : decode cX7_hear 25 = .ok (.iconst (-1), 1) := by decide +kernel
theorem dX7_hear_26 : decode cX7_hear 26 = .ok (.invokestatic 46, 3) := by decide +kernel
theorem dX7_hear_29 : decode cX7_hear 29 = .ok (.aload_n 1, 1) := by decide +kernel
theorem dX7_hear_30 : decode cX7_hear 30 = .ok (.getfield 52, 3) := by decide +kernel
theorem dX7_hear_33 : decode cX7_hear 33 = .ok (.bipush 40, 2) := by decide +kernel
theorem dX7_hear_35 : decode cX7_hear 35 = .ok (.if_icmp .gt 12, 3) := by decide +kernel
theorem dX7_hear_38 : decode cX7_hear 38 = .ok (.aload_n 1, 1) := by decide +kernel
theorem dX7_hear_39 : decode cX7_hear 39 = .ok (.getfield 52, 3) := by decide +kernel
theorem dX7_hear_42 : decode cX7_hear 42 = .ok (.iconst 2, 1) := by decide +kernel
theorem dX7_hear_43 : decode cX7_hear 43 = .ok (.irem, 1) := by decide +kernel
theorem dX7_hear_44 : decode cX7_hear 44 = .ok (.ifCond .eq 5, 3) := by decide +kernel
theorem dX7_hear_47 : decode cX7_hear 47 = .ok (.iconst 0, 1) := by decide +kernel
theorem dX7_hear_48 : decode cX7_hear 48 = .ok (.ireturn, 1) := by decide +kernel
theorem dX7_hear_49 : decode cX7_hear 49 = .ok (.iconst 1, 1) := by decide +kernel
theorem dX7_hear_50 : decode cX7_hear 50 = .ok (.istore 4, 2) := by decide +kernel
theorem dX7_hear_52 : decode cX7_hear 52 = .ok (.iconst 0, 1) := by decide +kernel
theorem dX7_hear_53 : decode cX7_hear 53 = .ok (.istore 5, 2) := by decide +kernel
theorem dX7_hear_55 : decode cX7_hear 55 = .ok (.iload 5, 2) := by decide +kernel
theorem dX7_hear_57 : decode cX7_hear 57 = .ok (.iconst 1, 1) := by decide +kernel
theorem dX7_hear_58 : decode cX7_hear 58 = .ok (.iadd, 1) := by decide +kernel
theorem dX7_hear_59 : decode cX7_hear 59 = .ok (.aload_n 1, 1) := by decide +kernel
theorem dX7_hear_60 : decode cX7_hear 60 = .ok (.getfield 52, 3) := by decide +kernel
theorem dX7_hear_63 : decode cX7_hear 63 = .ok (.if_icmp .ge 103, 3) := by decide +kernel
theorem dX7_hear_66 : decode cX7_hear 66 = .ok (.aload_n 1, 1) := by decide +kernel
theorem dX7_hear_67 : decode cX7_hear 67 = .ok (.getfield 57, 3) := by decide +kernel
theorem dX7_hear_70 : decode cX7_hear 70 = .ok (.iload 5, 2) := by decide +kernel
theorem dX7_hear_72 : decode cX7_hear 72 = .ok (.iaload, 1) := by decide +kernel
theorem dX7_hear_73 : decode cX7_hear 73 = .ok (.istore 6, 2) := by decide +kernel
theorem dX7_hear_75 : decode cX7_hear 75 = .ok (.aload_n 1, 1) := by decide +kernel
theorem dX7_hear_76 : decode cX7_hear 76 = .ok (.getfield 57, 3) := by decide +kernel
theorem dX7_hear_79 : decode cX7_hear 79 = .ok (.iload 5, 2) := by decide +kernel
theorem dX7_hear_81 : decode cX7_hear 81 = .ok (.iconst 1, 1) := by decide +kernel
theorem dX7_hear_82 : decode cX7_hear 82 = .ok (.iadd, 1) := by decide +kernel
theorem dX7_hear_83 : decode cX7_hear 83 = .ok (.iaload, 1) := by decide +kernel
theorem dX7_hear_84 : decode cX7_hear 84 = .ok (.istore 7, 2) := by decide +kernel
theorem dX7_hear_86 : decode cX7_hear 86 = .ok (.iload 6, 2) := by decide +kernel
theorem dX7_hear_88 : decode cX7_hear 88 = .ok (.aload_n 0, 1) := by decide +kernel
theorem dX7_hear_89 : decode cX7_hear 89 = .ok (.getfield 27, 3) := by decide +kernel
theorem dX7_hear_92 : decode cX7_hear 92 = .ok (.if_icmp .ge 22, 3) := by decide +kernel
theorem dX7_hear_95 : decode cX7_hear 95 = .ok (.aload_n 3, 1) := by decide +kernel
theorem dX7_hear_96 : decode cX7_hear 96 = .ok (.getfield 60, 3) := by decide +kernel
theorem dX7_hear_99 : decode cX7_hear 99 = .ok (.iload 6, 2) := by decide +kernel
theorem dX7_hear_101 : decode cX7_hear 101 = .ok (.invokestatic 63, 3) := by decide +kernel
theorem dX7_hear_104 : decode cX7_hear 104 = .ok (.ifCond .eq 10, 3) := by decide +kernel
theorem dX7_hear_107 : decode cX7_hear 107 = .ok (.iload 7, 2) := by decide +kernel
theorem dX7_hear_109 : decode cX7_hear 109 = .ok (.bipush 6, 2) := by decide +kernel
theorem dX7_hear_111 : decode cX7_hear 111 = .ok (.if_icmp .le 5, 3) := by decide +kernel
theorem dX7_hear_114 : decode cX7_hear 114 = .ok (.iconst 0, 1) := by decide +kernel
theorem dX7_hear_115 : decode cX7_hear 115 = .ok (.ireturn, 1) := by decide +kernel
theorem dX7_hear_116 : decode cX7_hear 116 = .ok (.iload 4, 2) := by decide +kernel
theorem dX7_hear_118 : decode cX7_hear 118 = .ok (.ifCond .eq 30, 3) := by decide +kernel
theorem dX7_hear_121 : decode cX7_hear 121 = .ok (.aload_n 0, 1) := by decide +kernel
theorem dX7_hear_122 : decode cX7_hear 122 = .ok (.getfield 9, 3) := by decide +kernel
theorem dX7_hear_125 : decode cX7_hear 125 = .ok (.iload 6, 2) := by decide +kernel
theorem dX7_hear_127 : decode cX7_hear 127 = .ok (.iaload, 1) := by decide +kernel
theorem dX7_hear_128 : decode cX7_hear 128 = .ok (.iconst (-1), 1) := by decide +kernel
theorem dX7_hear_129 : decode cX7_hear 129 = .ok (.if_icmp .eq 15, 3) := by decide +kernel
theorem dX7_hear_132 : decode cX7_hear 132 = .ok (.aload_n 0, 1) := by decide +kernel
theorem dX7_hear_133 : decode cX7_hear 133 = .ok (.getfield 9, 3) := by decide +kernel
theorem dX7_hear_136 : decode cX7_hear 136 = .ok (.iload 6, 2) := by decide +kernel
theorem dX7_hear_138 : decode cX7_hear 138 = .ok (.iaload, 1) := by decide +kernel
theorem dX7_hear_139 : decode cX7_hear 139 = .ok (.iload 7, 2) := by decide +kernel
theorem dX7_hear_141 : decode cX7_hear 141 = .ok (.if_icmp .ne 7, 3) := by decide +kernel
theorem dX7_hear_144 : decode cX7_hear 144 = .ok (.iconst 1, 1) := by decide +kernel
theorem dX7_hear_145 : decode cX7_hear 145 = .ok (.goto 4, 3) := by decide +kernel
theorem dX7_hear_148 : decode cX7_hear 148 = .ok (.iconst 0, 1) := by decide +kernel
theorem dX7_hear_149 : decode cX7_hear 149 = .ok (.istore 4, 2) := by decide +kernel
theorem dX7_hear_151 : decode cX7_hear 151 = .ok (.aload_n 0, 1) := by decide +kernel
theorem dX7_hear_152 : decode cX7_hear 152 = .ok (.getfield 9, 3) := by decide +kernel
theorem dX7_hear_155 : decode cX7_hear 155 = .ok (.iload 6, 2) := by decide +kernel
theorem dX7_hear_157 : decode cX7_hear 157 = .ok (.iload 7, 2) := by decide +kernel
theorem dX7_hear_159 : decode cX7_hear 159 = .ok (.iastore, 1) := by decide +kernel
theorem dX7_hear_160 : decode cX7_hear 160 = .ok (.iinc 5 2, 3) := by decide +kernel
theorem dX7_hear_163 : decode cX7_hear 163 = .ok (.goto (-108), 3) := by decide +kernel
theorem dX7_hear_166 : decode cX7_hear 166 = .ok (.iload 4, 2) := by decide +kernel
theorem dX7_hear_168 : decode cX7_hear 168 = .ok (.ifCond .eq 26, 3) := by decide +kernel
theorem dX7_hear_171 : decode cX7_hear 171 = .ok (.aload_n 0, 1) := by decide +kernel
theorem dX7_hear_172 : decode cX7_hear 172 = .ok (.invokevirtual 67, 3) := by decide +kernel
theorem dX7_hear_175 : decode cX7_hear 175 = .ok (.aload_n 0, 1) := by decide +kernel
theorem dX7_hear_176 : decode cX7_hear 176 = .ok (.getfield 31, 3) := by decide +kernel
theorem dX7_hear_179 : decode cX7_hear 179 = .ok (.invokestatic 71, 3) := by decide +kernel
theorem dX7_hear_182 : decode cX7_hear 182 = .ok (.if_icmp .gt 12, 3) := by decide +kernel
theorem dX7_hear_185 : decode cX7_hear 185 = .ok (.aload_n 0, 1) := by decide +kernel
theorem dX7_hear_186 : decode cX7_hear 186 = .ok (.aload_n 2, 1) := by decide +kernel
theorem dX7_hear_187 : decode cX7_hear 187 = .ok (.aload_n 3, 1) := by decide +kernel
theorem dX7_hear_188 : decode cX7_hear 188 = .ok (.getfield 60, 3) := by decide +kernel
theorem dX7_hear_191 : decode cX7_hear 191 = .ok (.invokevirtual 77, 3) := by decide +kernel
theorem dX7_hear_194 : decode cX7_hear 194 = .ok (.iconst 1, 1) := by decide +kernel
theorem dX7_hear_195 : decode cX7_hear 195 = .ok (.ireturn, 1) := by decide +kernel
def q7_hear (σ : St) (village_a : Nat) : Option (Bool × St) :=
  lt (up σ 21 5 (σ village_a 8)) fun σ1_ =>
  lt (up σ1_ 21 6 (σ1_ 6 9)) fun σ3_ =>
  lt (up σ3_ 21 8 0) fun σ5_ =>
  lt (fil σ5_ 22 6 (-1)) fun σ7_ =>
  if (40 < (σ7_ 1 1)) ∨ (¬ (irm (σ7_ 1 1) 2) = 0) then (some (false, σ7_)) else
  Option.bind (loop3 (fun rec17_ (agree20_ : Bool) (i21_ : Int32) (σ22_ : St) =>
  if (i21_ + 1) < (σ22_ 1 1) then
  Option.bind (ag σ22_ 2 400 i21_) fun x29_ =>
  Option.bind (ag σ22_ 2 400 (i21_ + 1)) fun x31_ =>
  if (((σ22_ 21 5) ≤ x29_) ∨ (¬ (q11_isIn (σ22_ 6 7) x29_ = true))) ∨ (6 < x31_) then (some (.inl (false, σ22_))) else
  Option.bind (Option.bind (if agree20_ = true then (Option.bind (ag σ22_ 22 6 x29_) fun x47_ =>
  if x47_ = (-1) then (some true) else (Option.bind (ag σ22_ 22 6 x29_) fun x50_ =>
  if x50_ = x31_ then (some true) else (some false))) else (some false)) fun t44_ =>
  if t44_ = true then (some true) else (some false)) fun x39_ =>
  Option.bind (sa σ22_ 22 6 x29_ x31_) fun σ54_ =>
  lt (i21_ + 2) fun i56_ =>
  rec17_ x39_ i56_ σ54_
  else (some (.inr (agree20_, i21_, σ22_)))) fuelN true (0 : Int32) σ7_) fun y14_ =>
  Sum.elim (fun x9 => some x9) (fun y14_r =>
  Option.bind (Option.bind (if y14_r.1 = true then (Option.bind (q7_votesTold y14_r.2.2) fun x66_ =>
  if x66_ ≤ (bcount (y14_r.2.2 21 6)) then (some true) else (some false)) else (some false)) fun t63_ =>
  if t63_ = true then (Option.bind (q7_countWays y14_r.2.2 village_a (y14_r.2.2 6 7)) fun x70_ =>
  some (x70_)) else (some (y14_r.2.2))) fun y58_ =>
  some (true, y58_)) y14_
abbrev rm7_hear : Room := { frames := 6, cells := 0, slots := 0, locals := 137 }
set_option maxHeartbeats 4000000 in
set_option maxRecDepth 100000 in
theorem p7_hear {Θ : Tz} {σ : St} {ρ : Option Value × St} (C : Zc Θ cX7_hear 8 RX7 (some .boolean) rm7_hear) (hkd : Θ.2.2.2.2.1 = kdC) {village_a : Nat} (h_village : isV village_a) {r : (Bool × St)} (hf : q7_hear σ village_a = some r) (hρ : ρ = (some (.int (b2i r.1)), r.2)) : Z Θ 8 0 0 (zQ Θ ρ) σ 0 [(0, .ref (zA Θ 21)), (1, .ref (zA Θ 1)), (2, .ref (zA Θ village_a)), (3, .ref (zA Θ 6))] [] := by
  unfold q7_hear at hf
  refine z_aload_n C 0 dX7_hear_0 rfl rfl ?_
  refine z_aload_n C 2 dX7_hear_1 rfl rfl ?_
  refine fg7_40 C hkd h_village dX7_hear_2 ?_
  obtain ⟨σ1_, h2_, hf⟩ := lt_ hf
  refine fp7_27 C hkd h2_ dX7_hear_5 ?_
  refine z_aload_n C 0 dX7_hear_8 rfl rfl ?_
  refine z_aload_n C 3 dX7_hear_9 rfl rfl ?_
  refine fg7_43 C hkd dX7_hear_10 ?_
  obtain ⟨σ3_, h4_, hf⟩ := lt_ hf
  refine fp7_31 C hkd h4_ dX7_hear_13 ?_
  refine z_aload_n C 0 dX7_hear_16 rfl rfl ?_
  refine z_iconst (v := 0) C dX7_hear_17 ic_0 ?_
  obtain ⟨σ5_, h6_, hf⟩ := lt_ hf
  refine fp7_37 C hkd h6_ dX7_hear_18 ?_
  refine z_aload_n C 0 dX7_hear_21 rfl rfl ?_
  refine fg7_9 C hkd dX7_hear_22 ?_
  refine z_iconst (v := (-1)) C dX7_hear_25 ic_m1 ?_
  obtain ⟨σ7_, h8_, hf⟩ := lt_ hf
  refine z_callS C [.ref (zA Θ 22), .int (-1)] (none, fil σ5_ 22 6 (-1)) 2 (cJ_fill (zc_inj C) (kC_22 hkd) (Nat.le_of_ble_eq_true rfl)) w_1_90 w_7_46 w_1_89 w_1_5 ⟨rfl, rfl, (Nat.le_of_ble_eq_true rfl), (Nat.le_of_ble_eq_true rfl)⟩ (by decide +kernel) rfl rfl (Nat.le_of_ble_eq_true rfl) ⟨Nat.zero_le _, Nat.zero_le _⟩ dX7_hear_26 ?_
  rw [← h8_]
  have K9_ : (40 < (σ7_ 1 1)) ∨ (¬ (irm (σ7_ 1 1) 2) = 0) → Z Θ 8 0 0 (zQ Θ ρ) σ7_ 47 [(0, .ref (zA Θ 21)), (1, .ref (zA Θ 1)), (2, .ref (zA Θ village_a)), (3, .ref (zA Θ 6))] [] := by
    intro h13_
    rw [if_pos h13_] at hf
    refine z_iconst (v := 0) C dX7_hear_47 ic_0 ?_
    cases hf
    subst hρ
    exact z_zret C (b2i_narrow _) dX7_hear_48
  suffices K10_ : ¬ ((40 < (σ7_ 1 1)) ∨ (¬ (irm (σ7_ 1 1) 2) = 0)) → Z Θ 8 0 0 (zQ Θ ρ) σ7_ 49 [(0, .ref (zA Θ 21)), (1, .ref (zA Θ 1)), (2, .ref (zA Θ village_a)), (3, .ref (zA Θ 6))] [] by
    refine z_aload_n C 1 dX7_hear_29 rfl rfl ?_
    refine fg7_52 C hkd dX7_hear_30 ?_
    refine z_bipush (v := 40) C dX7_hear_33 bp_40 ?_
    refine c_gt_t C 47 dX7_hear_35 (by decide) (fun h11_ => ?_) (fun h11_ => ?_)
    · exact K9_ (Or.inl h11_)
    · refine z_aload_n C 1 dX7_hear_38 rfl rfl ?_
      refine fg7_52 C hkd dX7_hear_39 ?_
      refine z_iconst (v := 2) C dX7_hear_42 ic_2 ?_
      refine z_irm C (by decide) dX7_hear_43 ?_
      refine c0_ne_f C 49 dX7_hear_44 (by decide) (fun h12_ => ?_) (fun h12_ => ?_)
      · exact K9_ (Or.inr h12_)
      · exact K10_ (fun n => n.elim h11_ h12_)
  intro h13_
  rw [if_neg h13_] at hf
  refine z_iconst (v := 1) C dX7_hear_49 ic_1 ?_
  refine z_ist C dX7_hear_50 rfl (Nat.le_of_ble_eq_true rfl) rfl ?_
  refine z_iconst (v := 0) C dX7_hear_52 ic_0 ?_
  refine z_ist C dX7_hear_53 rfl (Nat.le_of_ble_eq_true rfl) rfl ?_
  refine Z.sub [2, 3, 4, 5, 1, 0] rfl ?_
  obtain ⟨y14_, h15_, hf⟩ := ob hf
  suffices K16_ : ∀ y14_r, y14_ = .inr y14_r → Z Θ 8 0 0 (zQ Θ ρ) y14_r.2.2 166 [(0, .ref (zA Θ 21)), (1, .ref (zA Θ 1)), (2, .ref (zA Θ village_a)), (3, .ref (zA Θ 6)), (4, .int (b2i y14_r.1)), (5, .int y14_r.2.1)] [] by
    refine loop3_Z (P := fun (agree20_ : Bool) (i21_ : Int32) (σ22_ : St) => Z Θ 8 0 0 (zQ Θ ρ) σ22_ 55 [(0, .ref (zA Θ 21)), (1, .ref (zA Θ 1)), (2, .ref (zA Θ village_a)), (3, .ref (zA Θ 6)), (4, .int (b2i agree20_)), (5, .int i21_)] []) ?_ fuelN true (0 : Int32) σ7_ h15_
    clear h15_
    intro rec17_ agree20_ i21_ σ22_ h18_ h19_
    have K25_ : (i21_ + 1) < (σ22_ 1 1) → Z Θ 8 0 0 (zQ Θ ρ) σ22_ 66 [(0, .ref (zA Θ 21)), (1, .ref (zA Θ 1)), (2, .ref (zA Θ village_a)), (3, .ref (zA Θ 6)), (4, .int (b2i agree20_)), (5, .int i21_)] [] := by
      intro h28_
      rw [if_pos h28_] at h19_
      refine z_aload_n C 1 dX7_hear_66 rfl rfl ?_
      refine fg7_57 C hkd dX7_hear_67 ?_
      refine z_iload C 5 dX7_hear_70 rfl ?_
      obtain ⟨x29_, h30_, h19_⟩ := ob h19_
      refine z_ag C h30_ (kC_2 hkd) dX7_hear_72 ?_
      refine z_ist C dX7_hear_73 rfl (Nat.le_of_ble_eq_true rfl) rfl ?_
      refine z_aload_n C 2 dX7_hear_75 rfl rfl ?_
      refine fg7_57 C hkd dX7_hear_76 ?_
      refine z_iload C 6 dX7_hear_79 rfl ?_
      refine z_iconst (v := 1) C dX7_hear_81 ic_1 ?_
      refine z_iadd C dX7_hear_82 ?_
      obtain ⟨x31_, h32_, h19_⟩ := ob h19_
      refine z_ag C h32_ (kC_2 hkd) dX7_hear_83 ?_
      refine z_ist C dX7_hear_84 rfl (Nat.le_of_ble_eq_true rfl) rfl ?_
      have K33_ : (((σ22_ 21 5) ≤ x29_) ∨ (¬ (q11_isIn (σ22_ 6 7) x29_ = true))) ∨ (6 < x31_) → Z Θ 8 0 0 (zQ Θ ρ) σ22_ 114 [(7, .int x31_), (6, .int x29_), (0, .ref (zA Θ 21)), (1, .ref (zA Θ 1)), (2, .ref (zA Θ village_a)), (3, .ref (zA Θ 6)), (4, .int (b2i agree20_)), (5, .int i21_)] [] := by
        intro h38_
        rw [if_pos h38_] at h19_
        refine z_iconst (v := 0) C dX7_hear_114 ic_0 ?_
        rw [← Option.some.inj h19_] at hf
        replace hf : some (false, σ22_) = some r := hf
        cases hf
        subst hρ
        exact z_zret C (b2i_narrow _) dX7_hear_115
      suffices K34_ : ¬ ((((σ22_ 21 5) ≤ x29_) ∨ (¬ (q11_isIn (σ22_ 6 7) x29_ = true))) ∨ (6 < x31_)) → Z Θ 8 0 0 (zQ Θ ρ) σ22_ 116 [(7, .int x31_), (6, .int x29_), (0, .ref (zA Θ 21)), (1, .ref (zA Θ 1)), (2, .ref (zA Θ village_a)), (3, .ref (zA Θ 6)), (4, .int (b2i agree20_)), (5, .int i21_)] [] by
        refine z_iload C 1 dX7_hear_86 rfl ?_
        refine z_aload_n C 2 dX7_hear_88 rfl rfl ?_
        refine fg7_27 C hkd dX7_hear_89 ?_
        refine c_ge_t C 114 dX7_hear_92 (by decide) (fun h35_ => ?_) (fun h35_ => ?_)
        · exact K33_ (Or.inl (Or.inl h35_))
        · refine z_aload_n C 5 dX7_hear_95 rfl rfl ?_
          refine fg7_60 C hkd dX7_hear_96 ?_
          refine z_iload C 1 dX7_hear_99 rfl ?_
          refine cr7_63 (set_a := (σ22_ 6 7)) (person_a := x29_) C hkd  ⟨(Nat.le_of_ble_eq_true rfl), (Nat.le_of_ble_eq_true rfl)⟩ (Nat.le_of_ble_eq_true rfl) ⟨Nat.zero_le _, Nat.zero_le _⟩ dX7_hear_101 ?_
          refine cb_f C 114 dX7_hear_104 (by decide) (fun h36_ => ?_) (fun h36_ => ?_)
          · refine z_iload C 0 dX7_hear_107 rfl ?_
            refine z_bipush (v := 6) C dX7_hear_109 bp_6 ?_
            refine c_gt_f C 116 dX7_hear_111 (by decide) (fun h37_ => ?_) (fun h37_ => ?_)
            · exact K33_ (Or.inr h37_)
            · exact K34_ (fun n => n.elim (fun n => n.elim h35_ (fun n => n h36_)) h37_)
          · exact K33_ (Or.inl (Or.inr h36_))
      intro h38_
      rw [if_neg h38_] at h19_
      obtain ⟨x39_, h40_, h19_⟩ := ob h19_
      suffices K41_ : Z Θ 8 0 0 (zQ Θ ρ) σ22_ 149 [(7, .int x31_), (6, .int x29_), (0, .ref (zA Θ 21)), (1, .ref (zA Θ 1)), (2, .ref (zA Θ village_a)), (3, .ref (zA Θ 6)), (4, .int (b2i agree20_)), (5, .int i21_)] [.int (b2i x39_)] by
        obtain ⟨t44_, h45_, h40_⟩ := ob h40_
        have K42_ : t44_ = true → Z Θ 8 0 0 (zQ Θ ρ) σ22_ 144 [(7, .int x31_), (6, .int x29_), (0, .ref (zA Θ 21)), (1, .ref (zA Θ 1)), (2, .ref (zA Θ village_a)), (3, .ref (zA Θ 6)), (4, .int (b2i agree20_)), (5, .int i21_)] [] := by
          intro h53_
          rw [if_pos h53_] at h40_
          refine z_iconst (v := 1) C dX7_hear_144 ic_1 ?_
          refine z_goto C 149 dX7_hear_145 (by decide) ?_
          cases h40_
          exact K41_
        have K43_ : ¬ (t44_ = true) → Z Θ 8 0 0 (zQ Θ ρ) σ22_ 148 [(7, .int x31_), (6, .int x29_), (0, .ref (zA Θ 21)), (1, .ref (zA Θ 1)), (2, .ref (zA Θ village_a)), (3, .ref (zA Θ 6)), (4, .int (b2i agree20_)), (5, .int i21_)] [] := by
          intro h53_
          rw [if_neg h53_] at h40_
          refine z_iconst (v := 0) C dX7_hear_148 ic_0 ?_
          cases h40_
          exact K41_
        refine z_iload C 6 dX7_hear_116 rfl ?_
        refine cb_f C 148 dX7_hear_118 (by decide) (fun h46_ => ?_) (fun h46_ => ?_)
        · rw [if_pos h46_] at h45_
          refine z_aload_n C 2 dX7_hear_121 rfl rfl ?_
          refine fg7_9 C hkd dX7_hear_122 ?_
          refine z_iload C 1 dX7_hear_125 rfl ?_
          obtain ⟨x47_, h48_, h45_⟩ := ob h45_
          refine z_ag C h48_ (kC_22 hkd) dX7_hear_127 ?_
          refine z_iconst (v := (-1)) C dX7_hear_128 ic_m1 ?_
          refine c_eq_t C 144 dX7_hear_129 (by decide) (fun h49_ => ?_) (fun h49_ => ?_)
          · rw [if_pos h49_] at h45_
            cases h45_
            exact K42_ rfl
          · rw [if_neg h49_] at h45_
            refine z_aload_n C 2 dX7_hear_132 rfl rfl ?_
            refine fg7_9 C hkd dX7_hear_133 ?_
            refine z_iload C 1 dX7_hear_136 rfl ?_
            obtain ⟨x50_, h51_, h45_⟩ := ob h45_
            refine z_ag C h51_ (kC_22 hkd) dX7_hear_138 ?_
            refine z_iload C 0 dX7_hear_139 rfl ?_
            refine c_eq_f C 148 dX7_hear_141 (by decide) (fun h52_ => ?_) (fun h52_ => ?_)
            · rw [if_pos h52_] at h45_
              cases h45_
              exact K42_ rfl
            · rw [if_neg h52_] at h45_
              cases h45_
              exact K43_ Bool.false_ne_true
        · rw [if_neg h46_] at h45_
          cases h45_
          exact K43_ Bool.false_ne_true
      refine z_ist C dX7_hear_149 rfl (Nat.le_of_ble_eq_true rfl) rfl ?_
      refine z_aload_n C 3 dX7_hear_151 rfl rfl ?_
      refine fg7_9 C hkd dX7_hear_152 ?_
      refine z_iload C 2 dX7_hear_155 rfl ?_
      refine z_iload C 1 dX7_hear_157 rfl ?_
      obtain ⟨σ54_, h55_, h19_⟩ := ob h19_
      refine z_sa C h55_ (kC_22 hkd) dX7_hear_159 ?_
      obtain ⟨i56_, h57_, h19_⟩ := lt_ h19_
      refine z_inc C 7 dX7_hear_160 rfl ic_2 h57_ (Nat.le_of_ble_eq_true rfl) rfl ?_
      refine z_goto C 55 dX7_hear_163 (by decide) ?_
      refine Z.sub [4, 5, 6, 7, 1, 0] rfl ?_
      exact h18_ _ _ _ h19_
    have K26_ : ¬ ((i21_ + 1) < (σ22_ 1 1)) → Z Θ 8 0 0 (zQ Θ ρ) σ22_ 166 [(0, .ref (zA Θ 21)), (1, .ref (zA Θ 1)), (2, .ref (zA Θ village_a)), (3, .ref (zA Θ 6)), (4, .int (b2i agree20_)), (5, .int i21_)] [] := by
      intro h28_
      rw [if_neg h28_] at h19_
      exact K16_ _ (Option.some.inj h19_).symm
    refine z_iload C 5 dX7_hear_55 rfl ?_
    refine z_iconst (v := 1) C dX7_hear_57 ic_1 ?_
    refine z_iadd C dX7_hear_58 ?_
    refine z_aload_n C 1 dX7_hear_59 rfl rfl ?_
    refine fg7_52 C hkd dX7_hear_60 ?_
    refine c_lt_f C 166 dX7_hear_63 (by decide) (fun h27_ => ?_) (fun h27_ => ?_)
    · exact K25_ h27_
    · exact K26_ h27_
  intro y14_r e9
  subst e9
  simp only [Sum.elim_inr] at hf
  obtain ⟨y58_, h59_, hf⟩ := ob hf
  suffices K60_ : Z Θ 8 0 0 (zQ Θ ρ) y58_ 194 [(0, .ref (zA Θ 21)), (1, .ref (zA Θ 1)), (2, .ref (zA Θ village_a)), (3, .ref (zA Θ 6)), (4, .int (b2i y14_r.1))] [] by
    obtain ⟨t63_, h64_, h59_⟩ := ob h59_
    have K61_ : t63_ = true → Z Θ 8 0 0 (zQ Θ ρ) y14_r.2.2 185 [(0, .ref (zA Θ 21)), (1, .ref (zA Θ 1)), (2, .ref (zA Θ village_a)), (3, .ref (zA Θ 6)), (4, .int (b2i y14_r.1)), (5, .int y14_r.2.1)] [] := by
      intro h69_
      rw [if_pos h69_] at h59_
      refine z_aload_n C 0 dX7_hear_185 rfl rfl ?_
      refine z_aload_n C 2 dX7_hear_186 rfl rfl ?_
      refine z_aload_n C 3 dX7_hear_187 rfl rfl ?_
      refine fg7_60 C hkd dX7_hear_188 ?_
      obtain ⟨x70_, h71_, h59_⟩ := ob h59_
      refine cr7_77 (village_a := village_a) (runners_a := (y14_r.2.2 6 7)) C hkd h_village h71_ ⟨(Nat.le_of_ble_eq_true rfl), (Nat.le_of_ble_eq_true rfl)⟩ (Nat.le_of_ble_eq_true rfl) ⟨Nat.zero_le _, Nat.zero_le _⟩ dX7_hear_191 ?_
      cases h59_
      refine Z.sub [0, 1, 2, 3, 4] rfl ?_
      exact K60_
    have K62_ : ¬ (t63_ = true) → Z Θ 8 0 0 (zQ Θ ρ) y14_r.2.2 194 [(0, .ref (zA Θ 21)), (1, .ref (zA Θ 1)), (2, .ref (zA Θ village_a)), (3, .ref (zA Θ 6)), (4, .int (b2i y14_r.1)), (5, .int y14_r.2.1)] [] := by
      intro h69_
      rw [if_neg h69_] at h59_
      cases h59_
      refine Z.sub [0, 1, 2, 3, 4] rfl ?_
      exact K60_
    refine z_iload C 4 dX7_hear_166 rfl ?_
    refine cb_f C 194 dX7_hear_168 (by decide) (fun h65_ => ?_) (fun h65_ => ?_)
    · rw [if_pos h65_] at h64_
      refine z_aload_n C 0 dX7_hear_171 rfl rfl ?_
      obtain ⟨x66_, h67_, h64_⟩ := ob h64_
      refine cr7_67 C hkd  h67_ ⟨(Nat.le_of_ble_eq_true rfl), (Nat.le_of_ble_eq_true rfl)⟩ (Nat.le_of_ble_eq_true rfl) ⟨Nat.zero_le _, Nat.zero_le _⟩ dX7_hear_172 ?_
      refine z_aload_n C 0 dX7_hear_175 rfl rfl ?_
      refine fg7_31 C hkd dX7_hear_176 ?_
      refine z_callS C [.int (y14_r.2.2 21 6)] (some (.int (bcount (y14_r.2.2 21 6))), y14_r.2.2) 1 (cJ_bitCount (zc_inj C)) w_3_30 w_7_53 w_3_29 w_1_26 ⟨rfl, rfl, (Nat.le_of_ble_eq_true rfl), (Nat.le_of_ble_eq_true rfl)⟩ (by decide +kernel) rfl rfl (Nat.le_of_ble_eq_true rfl) ⟨Nat.zero_le _, Nat.zero_le _⟩ dX7_hear_179 ?_
      refine c_le_f C 194 dX7_hear_182 (by decide) (fun h68_ => ?_) (fun h68_ => ?_)
      · rw [if_pos h68_] at h64_
        cases h64_
        exact K61_ rfl
      · rw [if_neg h68_] at h64_
        cases h64_
        exact K62_ Bool.false_ne_true
    · rw [if_neg h65_] at h64_
      cases h64_
      exact K62_ Bool.false_ne_true
  refine z_iconst (v := 1) C dX7_hear_194 ic_1 ?_
  cases hf
  subst hρ
  exact z_zret C (b2i_narrow _) dX7_hear_195
theorem c7_hear {l : Launch} {kd : List KD} {w : Wp} {σ : St} {village_a : Nat} (hkd : kd = kdC) (hi : zI kd w) (h_village : isV village_a) {r : (Bool × St)} (hf : q7_hear σ village_a = some r) : zM l kd w yX7_hear cX7_hear 8 (some .boolean) rm7_hear [.ref (w.2.2.1 21), .ref (w.2.2.1 1), .ref (w.2.2.1 village_a), .ref (w.2.2.1 6)] σ (some (.int (b2i r.1)), r.2) := zM_of rfl hi (Nat.le_of_ble_eq_true rfl) (fun Θ hl hw C => by
  obtain ⟨Θ1, Θ2, Θ3, Θ4, Θ5⟩ := Θ
  cases hw
  exact p7_hear C hkd h_village hf rfl)
/-! LastLoaf.hearBallots -/
theorem w_2_199 : Cond.fieldLink "LastLoaf" (84 : Nat) "LastLoaf" "secrets" "LLastLoaf$SecretBallots;" ∈ TB := tb_in (lwt_2 (List.mem_of_getElem? (i := 199) (by decide +kernel))) rfl
theorem fg11_84 {Θ : Tz} {cc : ByteArray} {nL kc ks : Nat} {ret : Option FieldType} {rm : Room} {Q : State → Prop} {σ : St} {pc : Nat} {lv : List (Nat × Value)} {st : List Value} (C : Zc Θ cc nL RX11 ret rm) (hkd : Θ.2.2.2.2.1 = kdC) (hd : decode cc pc = .ok (.getfield 84, 3)) (kk : Z Θ nL kc ks Q σ (pc + 3) lv (.ref (zA Θ 21) :: st)) : Z Θ nL kc ks Q σ pc lv (.ref (zA Θ 0) :: st) := z_get C inT11 0 (kC_0 hkd) rfl 12 (by decide) w_2_199 rfl hd kk
theorem w_7_45 : Cond.code ({ cls := "LastLoaf$SecretBallots", name := "hear", desc := "(LLastLoaf$Tape;LLastLoaf$Village;LLastLoaf$Poll;)Z" } : MethodName) prog_9_method_2_code (8 : Nat) (Option.some ClassFile.FieldType.boolean) ∈ TB := tb_in (lwt_7 (List.mem_of_getElem? (i := 45) (by decide +kernel))) rfl
theorem w_7_42 : Cond.methodLink "LastLoaf" (473 : Nat) ({ cls := "LastLoaf$SecretBallots", name := "hear", desc := "(LLastLoaf$Tape;LLastLoaf$Village;LLastLoaf$Poll;)Z" } : MethodName) ∈ TB := tb_in (lwt_7 (List.mem_of_getElem? (i := 42) (by decide +kernel))) rfl
theorem w_7_43 : Cond.instanceMethod ({ cls := "LastLoaf$SecretBallots", name := "hear", desc := "(LLastLoaf$Tape;LLastLoaf$Village;LLastLoaf$Poll;)Z" } : MethodName) ∈ TB := tb_in (lwt_7 (List.mem_of_getElem? (i := 43) (by decide +kernel))) rfl
theorem w_7_44 : Cond.selects "LastLoaf$SecretBallots" ({ cls := "LastLoaf$SecretBallots", name := "hear", desc := "(LLastLoaf$Tape;LLastLoaf$Village;LLastLoaf$Poll;)Z" } : MethodName) ({ cls := "LastLoaf$SecretBallots", name := "hear", desc := "(LLastLoaf$Tape;LLastLoaf$Village;LLastLoaf$Poll;)Z" } : MethodName) ∈ TB := tb_in (lwt_7 (List.mem_of_getElem? (i := 44) (by decide +kernel))) rfl
theorem cr11_473 {Θ : Tz} {cc : ByteArray} {nL kc ks : Nat} {ret : Option FieldType} {rm : Room} {Q : State → Prop} {σ : St} {pc : Nat} {lv : List (Nat × Value)} {st : List Value} (C : Zc Θ cc nL RX11 ret rm) (hkd : Θ.2.2.2.2.1 = kdC) {village_a : Nat} (h_village : isV village_a) {r : Bool × St} (hx : q7_hear σ village_a = some r) (hrm : rm7_hear.frames + 1 ≤ rm.frames ∧ 8 + (8 + 11) + rm7_hear.locals ≤ rm.locals) (hcat : (st.map fun v => v.category).sum ≤ 8) (hk : kc ≤ rm.cells ∧ ks ≤ rm.slots) (hd : decode cc pc = .ok (.invokevirtual 473, 3)) (kk : Z Θ nL kc ks Q r.2 (pc + 3) lv (.int (b2i r.1) :: st)) : Z Θ nL kc ks Q σ pc lv (.ref (zA Θ 6) :: .ref (zA Θ village_a) :: .ref (zA Θ 1) :: .ref (zA Θ 21) :: st) := z_callV C 21 [.ref (zA Θ 1), .ref (zA Θ village_a), .ref (zA Θ 6)] (some (.int (b2i r.1)), r.2) 3 (kC_21 hkd) rfl (c7_hear (village_a := village_a) hkd (zc_inj C) h_village hx) w_7_45 w_7_42 w_7_43 w_7_44 w_1_12 ⟨rfl, rfl, hrm.1, hrm.2⟩ (by decide +kernel) rfl rfl hcat hk hd kk
theorem dX11_hearBallots_0 : decode cX11_hearBallots 0 = .ok (.aload_n 0, 1) := by decide +kernel
theorem dX11_hearBallots_1 : decode cX11_hearBallots 1 = .ok (.getfield 84, 3) := by decide +kernel
theorem dX11_hearBallots_4 : decode cX11_hearBallots 4 = .ok (.aload_n 0, 1) := by decide +kernel
theorem dX11_hearBallots_5 : decode cX11_hearBallots 5 = .ok (.getfield 12, 3) := by decide +kernel
theorem dX11_hearBallots_8 : decode cX11_hearBallots 8 = .ok (.aload_n 0, 1) := by decide +kernel
theorem dX11_hearBallots_9 : decode cX11_hearBallots 9 = .ok (.getfield 19, 3) := by decide +kernel
theorem dX11_hearBallots_12 : decode cX11_hearBallots 12 = .ok (.aload_n 0, 1) := by decide +kernel
theorem dX11_hearBallots_13 : decode cX11_hearBallots 13 = .ok (.invokevirtual 180, 3) := by decide +kernel
theorem dX11_hearBallots_16 : decode cX11_hearBallots 16 = .ok (.invokevirtual 473, 3) := by decide +kernel
theorem dX11_hearBallots_19 : decode cX11_hearBallots 19 = .ok (.istore_n 1, 1) := by decide +kernel
theorem dX11_hearBallots_20 : decode cX11_hearBallots 20 = .ok (.aload_n 0, 1) := by decide +kernel
theorem dX11_hearBallots_21 : decode cX11_hearBallots 21 = .ok (.getfield 12, 3) := by decide +kernel
theorem dX11_hearBallots_24 : decode cX11_hearBallots 24 = .ok (.iconst 0, 1) := by decide +kernel
theorem dX11_hearBallots_25 : decode cX11_hearBallots 25 = .ok (.putfield 103, 3) := by decide +kernel
theorem dX11_hearBallots_28 : decode cX11_hearBallots 28 = .ok (.iload_n 1, 1) := by decide +kernel
theorem dX11_hearBallots_29 : decode cX11_hearBallots 29 = .ok (.ireturn, 1) := by decide +kernel
def q11_hearBallots (σ : St) : Option (Bool × St) :=
  Option.bind (q11_pollNow σ) fun x1_ =>
  Option.bind (q7_hear x1_.2 44) fun x3_ =>
  lt (up x3_.2 1 1 0) fun σ5_ =>
  some (x3_.1, σ5_)
abbrev rm11_hearBallots : Room := { frames := 7, cells := 0, slots := 0, locals := 164 }
set_option maxHeartbeats 4000000 in
set_option maxRecDepth 100000 in
theorem p11_hearBallots {Θ : Tz} {σ : St} {ρ : Option Value × St} (C : Zc Θ cX11_hearBallots 2 RX11 (some .boolean) rm11_hearBallots) (hkd : Θ.2.2.2.2.1 = kdC) {r : (Bool × St)} (hf : q11_hearBallots σ = some r) (hρ : ρ = (some (.int (b2i r.1)), r.2)) : Z Θ 2 0 0 (zQ Θ ρ) σ 0 [(0, .ref (zA Θ 0))] [] := by
  unfold q11_hearBallots at hf
  refine z_aload_n C 0 dX11_hearBallots_0 rfl rfl ?_
  refine fg11_84 C hkd dX11_hearBallots_1 ?_
  refine z_aload_n C 0 dX11_hearBallots_4 rfl rfl ?_
  refine fg11_12 C hkd dX11_hearBallots_5 ?_
  refine z_aload_n C 0 dX11_hearBallots_8 rfl rfl ?_
  refine fg11_19 C hkd dX11_hearBallots_9 ?_
  refine z_aload_n C 0 dX11_hearBallots_12 rfl rfl ?_
  obtain ⟨x1_, h2_, hf⟩ := ob hf
  refine cr11_180 C hkd  h2_ ⟨(Nat.le_of_ble_eq_true rfl), (Nat.le_of_ble_eq_true rfl)⟩ (Nat.le_of_ble_eq_true rfl) ⟨Nat.zero_le _, Nat.zero_le _⟩ dX11_hearBallots_13 ?_
  rw [rp11_pollNow h2_]
  obtain ⟨x3_, h4_, hf⟩ := ob hf
  refine cr11_473 (village_a := 44) C hkd isV_44 h4_ ⟨(Nat.le_of_ble_eq_true rfl), (Nat.le_of_ble_eq_true rfl)⟩ (Nat.le_of_ble_eq_true rfl) ⟨Nat.zero_le _, Nat.zero_le _⟩ dX11_hearBallots_16 ?_
  refine z_istN C dX11_hearBallots_19 rfl rfl (Nat.le_of_ble_eq_true rfl) rfl ?_
  refine z_aload_n C 1 dX11_hearBallots_20 rfl rfl ?_
  refine fg11_12 C hkd dX11_hearBallots_21 ?_
  refine z_iconst (v := 0) C dX11_hearBallots_24 ic_0 ?_
  obtain ⟨σ5_, h6_, hf⟩ := lt_ hf
  refine fp11_103 C hkd h6_ dX11_hearBallots_25 ?_
  refine z_iload_n C 0 dX11_hearBallots_28 rfl rfl ?_
  cases hf
  subst hρ
  exact z_zret C (b2i_narrow _) dX11_hearBallots_29
theorem c11_hearBallots {l : Launch} {kd : List KD} {w : Wp} {σ : St} (hkd : kd = kdC) (hi : zI kd w) {r : (Bool × St)} (hf : q11_hearBallots σ = some r) : zM l kd w yX11_hearBallots cX11_hearBallots 2 (some .boolean) rm11_hearBallots [.ref (w.2.2.1 0)] σ (some (.int (b2i r.1)), r.2) := zM_of rfl hi (Nat.le_of_ble_eq_true rfl) (fun Θ hl hw C => by
  obtain ⟨Θ1, Θ2, Θ3, Θ4, Θ5⟩ := Θ
  cases hw
  exact p11_hearBallots C hkd  hf rfl)
/-! LastLoaf.needBallots -/
theorem dX11_needBallots_0 : decode cX11_needBallots 0 = .ok (.iload_n 0, 1) := by decide +kernel
theorem dX11_needBallots_1 : decode cX11_needBallots 1 = .ok (.ifCond .ne 14, 3) := by decide +kernel
theorem dX11_needBallots_4 : decode cX11_needBallots 4 = .ok (.new 122, 3) := by decide +kernel
theorem dX11_needBallots_7 : decode cX11_needBallots 7 = .ok (.dup, 1) := by decide +kernel
theorem dX11_needBallots_8 : decode cX11_needBallots 8 = .ok (.ldc_w 464, 3) := by decide +kernel
theorem dX11_needBallots_11 : decode cX11_needBallots 11 = .ok (.invokespecial 126, 3) := by decide +kernel
theorem dX11_needBallots_14 : decode cX11_needBallots 14 = .ok (.athrow, 1) := by decide +kernel
theorem dX11_needBallots_15 : decode cX11_needBallots 15 = .ok (.return_, 1) := by decide +kernel
def q11_needBallots (heard_a : Bool) : Option Nat :=
  if ¬ (heard_a = true) then (some 0) else
  none
abbrev rm11_needBallots : Room := { frames := 6, cells := 1, slots := 6, locals := 90 }
set_option maxHeartbeats 4000000 in
set_option maxRecDepth 100000 in
theorem p11_needBallots {Θ : Tz} {σ : St} {ω : Om} (C : Zc Θ cX11_needBallots 1 RX11 none rm11_needBallots) (hkd : Θ.2.2.2.2.1 = kdC) (hlt : Θ.1.2.1.stackTraces = false) (het : ∀ x ∈ Θ.2.2.1.2.exceptionTable.toList, False) {heard_a : Bool} {r : Option Nat} (hf : q11_needBallots heard_a = r) (hω : ω = omN r σ) : Z Θ 1 0 0 (zQX Θ ω 1 6) σ 0 [(0, .int (b2i heard_a))] [] := by
  unfold q11_needBallots at hf
  have K1_ : ¬ (heard_a = true) → Z Θ 1 0 0 (zQX Θ ω 1 6) σ 4 [(0, .int (b2i heard_a))] [] := by
    intro h4_
    rw [if_pos h4_] at hf
    subst hf
    subst hω
    exact zx_throwW (tx := "the tape tells no ballots") C hlt het 0 (by decide +kernel) w_5_56 w_1_23 (List.mem_of_getElem? (i := 42) rfl) th11_0_126g th11_0_126n th11_0_126o dX11_needBallots_4 dX11_needBallots_7 dX11_needBallots_8 dX11_needBallots_11 dX11_needBallots_14 ⟨(Nat.le_of_ble_eq_true rfl), (Nat.le_of_ble_eq_true rfl), (Nat.le_of_ble_eq_true rfl), (Nat.le_of_ble_eq_true rfl)⟩ (Nat.le_of_ble_eq_true rfl) ⟨(Nat.le_of_ble_eq_true rfl), (Nat.le_of_ble_eq_true rfl)⟩
  suffices K2_ : ¬ (¬ (heard_a = true)) → Z Θ 1 0 0 (zQX Θ ω 1 6) σ 15 [(0, .int (b2i heard_a))] [] by
    refine z_iload_n C 0 dX11_needBallots_0 rfl rfl ?_
    refine cb_t C 15 dX11_needBallots_1 (by decide) (fun h3_ => ?_) (fun h3_ => ?_)
    · exact K2_ (fun n => n h3_)
    · exact K1_ h3_
  intro h4_
  rw [if_neg h4_] at hf
  subst hf
  subst hω
  exact zx_vret C ⟨(Nat.le_of_ble_eq_true rfl), (Nat.le_of_ble_eq_true rfl)⟩ dX11_needBallots_15
theorem c11_needBallots {l : Launch} {kd : List KD} {w : Wp} {σ : St} {heard_a : Bool} (hkd : kd = kdC) (hi : zI kd w) (hlt : l.stackTraces = false) : zX l kd w yX11_needBallots cX11_needBallots 1 none rm11_needBallots [.int (b2i heard_a)] σ (omN (q11_needBallots heard_a) σ) 1 6 := zX_of rfl hi (Nat.le_of_ble_eq_true rfl) (fun Θ hl hw C het => by
  obtain ⟨Θ1, Θ2, Θ3, Θ4, Θ5⟩ := Θ
  cases hw
  cases hl
  exact p11_needBallots C hkd hlt het  rfl rfl)
/-! LastLoaf.ballots -/
theorem w_7_41 : Cond.code ({ cls := "LastLoaf", name := "hearBallots", desc := "()Z" } : MethodName) prog_1_method_77_code (2 : Nat) (Option.some ClassFile.FieldType.boolean) ∈ TB := tb_in (lwt_7 (List.mem_of_getElem? (i := 41) (by decide +kernel))) rfl
theorem w_7_38 : Cond.methodLink "LastLoaf" (330 : Nat) ({ cls := "LastLoaf", name := "hearBallots", desc := "()Z" } : MethodName) ∈ TB := tb_in (lwt_7 (List.mem_of_getElem? (i := 38) (by decide +kernel))) rfl
theorem w_7_40 : Cond.instanceMethod ({ cls := "LastLoaf", name := "hearBallots", desc := "()Z" } : MethodName) ∈ TB := tb_in (lwt_7 (List.mem_of_getElem? (i := 40) (by decide +kernel))) rfl
theorem ws_LastLoaf_hearBallots__Z : Cond.selects "LastLoaf" (⟨"LastLoaf", "hearBallots", "()Z"⟩ : MethodName) (⟨"LastLoaf", "hearBallots", "()Z"⟩ : MethodName) ∈ TB := tb_in (List.mem_append_left _ (List.mem_of_getElem? (i := 14) (by decide +kernel))) rfl
theorem cr11_330 {Θ : Tz} {cc : ByteArray} {nL kc ks : Nat} {ret : Option FieldType} {rm : Room} {Q : State → Prop} {σ : St} {pc : Nat} {lv : List (Nat × Value)} {st : List Value} (C : Zc Θ cc nL RX11 ret rm) (hkd : Θ.2.2.2.2.1 = kdC) {r : Bool × St} (hx : q11_hearBallots σ = some r) (hrm : rm11_hearBallots.frames + 1 ≤ rm.frames ∧ 8 + (2 + 11) + rm11_hearBallots.locals ≤ rm.locals) (hcat : (st.map fun v => v.category).sum ≤ 8) (hk : kc ≤ rm.cells ∧ ks ≤ rm.slots) (hd : decode cc pc = .ok (.invokevirtual 330, 3)) (kk : Z Θ nL kc ks Q r.2 (pc + 3) lv (.int (b2i r.1) :: st)) : Z Θ nL kc ks Q σ pc lv (.ref (zA Θ 0) :: st) := z_callV C 0 [] (some (.int (b2i r.1)), r.2) 0 (kC_0 hkd) rfl (c11_hearBallots hkd (zc_inj C) hx) w_7_41 w_7_38 w_7_40 ws_LastLoaf_hearBallots__Z w_1_1 ⟨rfl, rfl, hrm.1, hrm.2⟩ (by decide +kernel) rfl rfl hcat hk hd kk
theorem w_7_89 : Cond.code ({ cls := "LastLoaf", name := "needBallots", desc := "(Z)V" } : MethodName) prog_1_method_72_code (1 : Nat) (Option.none : Option ClassFile.FieldType) ∈ TB := tb_in (lwt_7 (List.mem_of_getElem? (i := 89) (by decide +kernel))) rfl
theorem w_7_87 : Cond.methodLink "LastLoaf" (333 : Nat) ({ cls := "LastLoaf", name := "needBallots", desc := "(Z)V" } : MethodName) ∈ TB := tb_in (lwt_7 (List.mem_of_getElem? (i := 87) (by decide +kernel))) rfl
theorem w_7_88 : Cond.static ({ cls := "LastLoaf", name := "needBallots", desc := "(Z)V" } : MethodName) ∈ TB := tb_in (lwt_7 (List.mem_of_getElem? (i := 88) (by decide +kernel))) rfl
theorem w_2_145 : Cond.fieldLink "LastLoaf" (336 : Nat) "LastLoaf$SecretBallots" "ways" "I" ∈ TB := tb_in (lwt_2 (List.mem_of_getElem? (i := 145) (by decide +kernel))) rfl
theorem fg11_336 {Θ : Tz} {cc : ByteArray} {nL kc ks : Nat} {ret : Option FieldType} {rm : Room} {Q : State → Prop} {σ : St} {pc : Nat} {lv : List (Nat × Value)} {st : List Value} (C : Zc Θ cc nL RX11 ret rm) (hkd : Θ.2.2.2.2.1 = kdC) (hd : decode cc pc = .ok (.getfield 336, 3)) (kk : Z Θ nL kc ks Q σ (pc + 3) lv (.int (σ 21 8) :: st)) : Z Θ nL kc ks Q σ pc lv (.ref (zA Θ 21) :: st) := z_get C inT7 21 (kC_21 hkd) rfl 8 (by decide) w_2_145 rfl hd kk
theorem dX11_ballots_0 : decode cX11_ballots 0 = .ok (.aload_n 0, 1) := by decide +kernel
theorem dX11_ballots_1 : decode cX11_ballots 1 = .ok (.invokevirtual 330, 3) := by decide +kernel
theorem dX11_ballots_4 : decode cX11_ballots 4 = .ok (.invokestatic 333, 3) := by decide +kernel
theorem dX11_ballots_7 : decode cX11_ballots 7 = .ok (.sipush 9999, 3) := by decide +kernel
theorem dX11_ballots_10 : decode cX11_ballots 10 = .ok (.aload_n 0, 1) := by decide +kernel
theorem dX11_ballots_11 : decode cX11_ballots 11 = .ok (.getfield 84, 3) := by decide +kernel
theorem dX11_ballots_14 : decode cX11_ballots 14 = .ok (.getfield 336, 3) := by decide +kernel
theorem dX11_ballots_17 : decode cX11_ballots 17 = .ok (.invokestatic 264, 3) := by decide +kernel
theorem dX11_ballots_20 : decode cX11_ballots 20 = .ok (.ireturn, 1) := by decide +kernel
def q11_ballots (σ : St) : Option (Sum Nat Int32 × St) :=
  Option.bind (q11_hearBallots σ) fun x1_ =>
  thn (q11_needBallots x1_.1) x1_.2
  (some (.inr (imin 9999 (x1_.2 21 8)), x1_.2))
abbrev rm11_ballots : Room := { frames := 8, cells := 1, slots := 6, locals := 185 }
set_option maxHeartbeats 4000000 in
set_option maxRecDepth 100000 in
theorem p11_ballots {Θ : Tz} {σ : St} {ω : Om} (C : Zc Θ cX11_ballots 1 RX11 (some .int) rm11_ballots) (hkd : Θ.2.2.2.2.1 = kdC) (hlt : Θ.1.2.1.stackTraces = false) (het : ∀ x ∈ Θ.2.2.1.2.exceptionTable.toList, False) {r : (Sum Nat Int32 × St)} (hf : q11_ballots σ = some r) (hω : ω = om (fun v => some (.int v)) r) : Z Θ 1 0 0 (zQX Θ ω 1 6) σ 0 [(0, .ref (zA Θ 0))] [] := by
  unfold q11_ballots at hf
  refine z_aload_n C 0 dX11_ballots_0 rfl rfl ?_
  obtain ⟨x1_, h2_, hf⟩ := ob hf
  refine cr11_330 C hkd  h2_ ⟨(Nat.le_of_ble_eq_true rfl), (Nat.le_of_ble_eq_true rfl)⟩ (Nat.le_of_ble_eq_true rfl) ⟨(Nat.le_of_ble_eq_true rfl), (Nat.le_of_ble_eq_true rfl)⟩ dX11_ballots_1 ?_
  refine zx_callS C het [.int (b2i x1_.1)] (q11_needBallots x1_.1) 1 6 1 (c11_needBallots (heard_a := x1_.1) hkd (zc_inj C) hlt) w_7_89 w_7_87 w_7_88 w_1_1 ⟨rfl, rfl, (Nat.le_of_ble_eq_true rfl), (Nat.le_of_ble_eq_true rfl)⟩ (by decide +kernel) rfl rfl (Nat.le_of_ble_eq_true rfl) ⟨(Nat.le_of_ble_eq_true rfl), (Nat.le_of_ble_eq_true rfl)⟩ dX11_ballots_4 ⟨(Nat.le_of_ble_eq_true rfl), (Nat.le_of_ble_eq_true rfl)⟩ (fun e9 h4_ => by rw [h4_] at hf; cases hf; exact hω) (fun h3_ => ?_)
  rw [h3_] at hf
  replace hf := thn_x hf
  refine z_sipush (v := 9999) C dX11_ballots_7 sp_9999 ?_
  refine z_aload_n C 0 dX11_ballots_10 rfl rfl ?_
  refine fg11_84 C hkd dX11_ballots_11 ?_
  refine fg11_336 C hkd dX11_ballots_14 ?_
  refine z_min C w_6_139 w_3_129 w_1_28 w_3_130 ⟨(Nat.le_of_ble_eq_true rfl), (Nat.le_of_ble_eq_true rfl)⟩ (Nat.le_of_ble_eq_true rfl) ⟨(Nat.le_of_ble_eq_true rfl), (Nat.le_of_ble_eq_true rfl)⟩ dX11_ballots_17 ?_
  cases hf
  subst hω
  exact zx_iret C ⟨(Nat.le_of_ble_eq_true rfl), (Nat.le_of_ble_eq_true rfl)⟩ dX11_ballots_20
theorem c11_ballots {l : Launch} {kd : List KD} {w : Wp} {σ : St} (hkd : kd = kdC) (hi : zI kd w) (hlt : l.stackTraces = false) {r : (Sum Nat Int32 × St)} (hf : q11_ballots σ = some r) : zX l kd w yX11_ballots cX11_ballots 1 (some .int) rm11_ballots [.ref (w.2.2.1 0)] σ (om (fun v => some (.int v)) r) 1 6 := zX_of rfl hi (Nat.le_of_ble_eq_true rfl) (fun Θ hl hw C het => by
  obtain ⟨Θ1, Θ2, Θ3, Θ4, Θ5⟩ := Θ
  cases hw
  cases hl
  exact p11_ballots C hkd hlt het  hf rfl)
/-! LastLoaf$SecretBallots.partOf -/
theorem dX7_partOf_0 : decode cX7_partOf 0 = .ok (.iconst 0, 1) := by decide +kernel
theorem dX7_partOf_1 : decode cX7_partOf 1 = .ok (.istore_n 3, 1) := by decide +kernel
theorem dX7_partOf_2 : decode cX7_partOf 2 = .ok (.iconst 0, 1) := by decide +kernel
theorem dX7_partOf_3 : decode cX7_partOf 3 = .ok (.istore 4, 2) := by decide +kernel
theorem dX7_partOf_5 : decode cX7_partOf 5 = .ok (.iload 4, 2) := by decide +kernel
theorem dX7_partOf_7 : decode cX7_partOf 7 = .ok (.aload_n 0, 1) := by decide +kernel
theorem dX7_partOf_8 : decode cX7_partOf 8 = .ok (.getfield 34, 3) := by decide +kernel
theorem dX7_partOf_11 : decode cX7_partOf 11 = .ok (.if_icmp .ge 40, 3) := by decide +kernel
theorem dX7_partOf_14 : decode cX7_partOf 14 = .ok (.iload 4, 2) := by decide +kernel
theorem dX7_partOf_16 : decode cX7_partOf 16 = .ok (.bipush 64, 2) := by decide +kernel
theorem dX7_partOf_18 : decode cX7_partOf 18 = .ok (.if_icmp .ge 33, 3) := by decide +kernel
theorem dX7_partOf_21 : decode cX7_partOf 21 = .ok (.iload_n 3, 1) := by decide +kernel
theorem dX7_partOf_22 : decode cX7_partOf 22 = .ok (.aload_n 0, 1) := by decide +kernel
theorem dX7_partOf_23 : decode cX7_partOf 23 = .ok (.getfield 21, 3) := by decide +kernel
theorem dX7_partOf_26 : decode cX7_partOf 26 = .ok (.iload_n 1, 1) := by decide +kernel
theorem dX7_partOf_27 : decode cX7_partOf 27 = .ok (.bipush 64, 2) := by decide +kernel
theorem dX7_partOf_29 : decode cX7_partOf 29 = .ok (.imul, 1) := by decide +kernel
theorem dX7_partOf_30 : decode cX7_partOf 30 = .ok (.iload 4, 2) := by decide +kernel
theorem dX7_partOf_32 : decode cX7_partOf 32 = .ok (.iadd, 1) := by decide +kernel
theorem dX7_partOf_33 : decode cX7_partOf 33 = .ok (.iaload, 1) := by decide +kernel
theorem dX7_partOf_34 : decode cX7_partOf 34 = .ok (.aload_n 0, 1) := by decide +kernel
theorem dX7_partOf_35 : decode cX7_partOf 35 = .ok (.iload_n 1, 1) := by decide +kernel
theorem dX7_partOf_36 : decode cX7_partOf 36 = .ok (.iload_n 2, 1) := by decide +kernel
theorem dX7_partOf_37 : decode cX7_partOf 37 = .ok (.iload 4, 2) := by decide +kernel
theorem dX7_partOf_39 : decode cX7_partOf 39 = .ok (.invokevirtual 110, 3) := by decide +kernel
theorem dX7_partOf_42 : decode cX7_partOf 42 = .ok (.imul, 1) := by decide +kernel
theorem dX7_partOf_43 : decode cX7_partOf 43 = .ok (.iadd, 1) := by decide +kernel
theorem dX7_partOf_44 : decode cX7_partOf 44 = .ok (.istore_n 3, 1) := by decide +kernel
theorem dX7_partOf_45 : decode cX7_partOf 45 = .ok (.iinc 4 1, 3) := by decide +kernel
theorem dX7_partOf_48 : decode cX7_partOf 48 = .ok (.goto (-43), 3) := by decide +kernel
theorem dX7_partOf_51 : decode cX7_partOf 51 = .ok (.iload_n 3, 1) := by decide +kernel
theorem dX7_partOf_52 : decode cX7_partOf 52 = .ok (.ireturn, 1) := by decide +kernel
def q7_partOf (σ : St) (voter_a : Int32) (runner_a : Int32) : Option Int32 :=
  Option.bind (loop2 (fun rec4_ (sum7_ : Int32) (s8_ : Int32) =>
  if (s8_ < (σ 21 7)) ∧ (s8_ < 64) then
  Option.bind (ag σ 25 448 ((voter_a * 64) + s8_)) fun x16_ =>
  Option.bind (q7_waysWith σ voter_a runner_a s8_) fun x18_ =>
  lt (sum7_ + (x16_ * x18_)) fun sum20_ =>
  lt (s8_ + 1) fun s22_ =>
  rec4_ sum20_ s22_
  else (some (sum7_, s8_))) fuelN (0 : Int32) (0 : Int32)) fun y1_ =>
  some y1_.1
abbrev rm7_partOf : Room := { frames := 3, cells := 0, slots := 0, locals := 68 }
set_option maxHeartbeats 4000000 in
set_option maxRecDepth 100000 in
theorem p7_partOf {Θ : Tz} {σ : St} {ρ : Option Value × St} (C : Zc Θ cX7_partOf 5 RX7 (some .int) rm7_partOf) (hkd : Θ.2.2.2.2.1 = kdC) {voter_a : Int32} {runner_a : Int32} {r : Int32} (hf : q7_partOf σ voter_a runner_a = some r) (hρ : ρ = (some (.int r), σ)) : Z Θ 5 0 0 (zQ Θ ρ) σ 0 [(0, .ref (zA Θ 21)), (1, .int voter_a), (2, .int runner_a)] [] := by
  unfold q7_partOf at hf
  refine z_iconst (v := 0) C dX7_partOf_0 ic_0 ?_
  refine z_istN C dX7_partOf_1 rfl rfl (Nat.le_of_ble_eq_true rfl) rfl ?_
  refine z_iconst (v := 0) C dX7_partOf_2 ic_0 ?_
  refine z_ist C dX7_partOf_3 rfl (Nat.le_of_ble_eq_true rfl) rfl ?_
  refine Z.sub [2, 3, 4, 1, 0] rfl ?_
  obtain ⟨y1_, h2_, hf⟩ := ob hf
  suffices K3_ : Z Θ 5 0 0 (zQ Θ ρ) σ 51 [(0, .ref (zA Θ 21)), (1, .int voter_a), (2, .int runner_a), (3, .int y1_.1), (4, .int y1_.2)] [] by
    refine loop2_Z (P := fun (sum7_ : Int32) (s8_ : Int32) => Z Θ 5 0 0 (zQ Θ ρ) σ 5 [(0, .ref (zA Θ 21)), (1, .int voter_a), (2, .int runner_a), (3, .int sum7_), (4, .int s8_)] []) ?_ fuelN (0 : Int32) (0 : Int32) h2_
    clear h2_
    intro rec4_ sum7_ s8_ h5_ h6_
    have K11_ : (s8_ < (σ 21 7)) ∧ (s8_ < 64) → Z Θ 5 0 0 (zQ Θ ρ) σ 21 [(0, .ref (zA Θ 21)), (1, .int voter_a), (2, .int runner_a), (3, .int sum7_), (4, .int s8_)] [] := by
      intro h15_
      rw [if_pos h15_] at h6_
      refine z_iload_n C 3 dX7_partOf_21 rfl rfl ?_
      refine z_aload_n C 0 dX7_partOf_22 rfl rfl ?_
      refine fg7_21 C hkd dX7_partOf_23 ?_
      refine z_iload_n C 1 dX7_partOf_26 rfl rfl ?_
      refine z_bipush (v := 64) C dX7_partOf_27 bp_64 ?_
      refine z_imul C dX7_partOf_29 ?_
      refine z_iload C 4 dX7_partOf_30 rfl ?_
      refine z_iadd C dX7_partOf_32 ?_
      obtain ⟨x16_, h17_, h6_⟩ := ob h6_
      refine z_ag C h17_ (kC_25 hkd) dX7_partOf_33 ?_
      refine z_aload_n C 0 dX7_partOf_34 rfl rfl ?_
      refine z_iload_n C 1 dX7_partOf_35 rfl rfl ?_
      refine z_iload_n C 2 dX7_partOf_36 rfl rfl ?_
      refine z_iload C 4 dX7_partOf_37 rfl ?_
      obtain ⟨x18_, h19_, h6_⟩ := ob h6_
      refine cr7_110 (voter_a := voter_a) (runner_a := runner_a) (state_a := s8_) C hkd  h19_ ⟨(Nat.le_of_ble_eq_true rfl), (Nat.le_of_ble_eq_true rfl)⟩ (Nat.le_of_ble_eq_true rfl) ⟨Nat.zero_le _, Nat.zero_le _⟩ dX7_partOf_39 ?_
      refine z_imul C dX7_partOf_42 ?_
      refine z_iadd C dX7_partOf_43 ?_
      obtain ⟨sum20_, h21_, h6_⟩ := lt_ h6_
      refine z_istN C dX7_partOf_44 h21_ rfl (Nat.le_of_ble_eq_true rfl) rfl ?_
      obtain ⟨s22_, h23_, h6_⟩ := lt_ h6_
      refine z_inc C 4 dX7_partOf_45 rfl ic_1 h23_ (Nat.le_of_ble_eq_true rfl) rfl ?_
      refine z_goto C 5 dX7_partOf_48 (by decide) ?_
      refine Z.sub [2, 3, 4, 1, 0] rfl ?_
      exact h5_ _ _ h6_
    have K12_ : ¬ ((s8_ < (σ 21 7)) ∧ (s8_ < 64)) → Z Θ 5 0 0 (zQ Θ ρ) σ 51 [(0, .ref (zA Θ 21)), (1, .int voter_a), (2, .int runner_a), (3, .int sum7_), (4, .int s8_)] [] := by
      intro h15_
      rw [if_neg h15_] at h6_
      cases h6_
      exact K3_
    refine z_iload C 4 dX7_partOf_5 rfl ?_
    refine z_aload_n C 0 dX7_partOf_7 rfl rfl ?_
    refine fg7_34 C hkd dX7_partOf_8 ?_
    refine c_lt_f C 51 dX7_partOf_11 (by decide) (fun h13_ => ?_) (fun h13_ => ?_)
    · refine z_iload C 4 dX7_partOf_14 rfl ?_
      refine z_bipush (v := 64) C dX7_partOf_16 bp_64 ?_
      refine c_lt_f C 51 dX7_partOf_18 (by decide) (fun h14_ => ?_) (fun h14_ => ?_)
      · exact K11_ ⟨h13_, h14_⟩
      · exact K12_ (fun n => h14_ n.2)
    · exact K12_ (fun n => h13_ n.1)
  refine z_iload_n C 3 dX7_partOf_51 rfl rfl ?_
  cases hf
  subst hρ
  exact z_iret C dX7_partOf_52
theorem c7_partOf {l : Launch} {kd : List KD} {w : Wp} {σ : St} {voter_a : Int32} {runner_a : Int32} (hkd : kd = kdC) (hi : zI kd w) {r : Int32} (hf : q7_partOf σ voter_a runner_a = some r) : zM l kd w yX7_partOf cX7_partOf 5 (some .int) rm7_partOf [.ref (w.2.2.1 21), .int voter_a, .int runner_a] σ (some (.int r), σ) := zM_of rfl hi (Nat.le_of_ble_eq_true rfl) (fun Θ hl hw C => by
  obtain ⟨Θ1, Θ2, Θ3, Θ4, Θ5⟩ := Θ
  cases hw
  exact p7_partOf C hkd  hf rfl)
/-! LastLoaf$SecretBallots.sureOf -/
theorem fg7_37 {Θ : Tz} {cc : ByteArray} {nL kc ks : Nat} {ret : Option FieldType} {rm : Room} {Q : State → Prop} {σ : St} {pc : Nat} {lv : List (Nat × Value)} {st : List Value} (C : Zc Θ cc nL RX7 ret rm) (hkd : Θ.2.2.2.2.1 = kdC) (hd : decode cc pc = .ok (.getfield 37, 3)) (kk : Z Θ nL kc ks Q σ (pc + 3) lv (.int (σ 21 8) :: st)) : Z Θ nL kc ks Q σ pc lv (.ref (zA Θ 21) :: st) := z_get C inT7 21 (kC_21 hkd) rfl 8 (by decide) w_2_144 rfl hd kk
theorem w_7_105 : Cond.code ({ cls := "LastLoaf$SecretBallots", name := "partOf", desc := "(II)I" } : MethodName) prog_9_method_12_code (5 : Nat) (Option.some ClassFile.FieldType.int) ∈ TB := tb_in (lwt_7 (List.mem_of_getElem? (i := 105) (by decide +kernel))) rfl
theorem w_7_102 : Cond.methodLink "LastLoaf$SecretBallots" (114 : Nat) ({ cls := "LastLoaf$SecretBallots", name := "partOf", desc := "(II)I" } : MethodName) ∈ TB := tb_in (lwt_7 (List.mem_of_getElem? (i := 102) (by decide +kernel))) rfl
theorem w_7_103 : Cond.instanceMethod ({ cls := "LastLoaf$SecretBallots", name := "partOf", desc := "(II)I" } : MethodName) ∈ TB := tb_in (lwt_7 (List.mem_of_getElem? (i := 103) (by decide +kernel))) rfl
theorem w_7_104 : Cond.selects "LastLoaf$SecretBallots" ({ cls := "LastLoaf$SecretBallots", name := "partOf", desc := "(II)I" } : MethodName) ({ cls := "LastLoaf$SecretBallots", name := "partOf", desc := "(II)I" } : MethodName) ∈ TB := tb_in (lwt_7 (List.mem_of_getElem? (i := 104) (by decide +kernel))) rfl
theorem cr7_114 {Θ : Tz} {cc : ByteArray} {nL kc ks : Nat} {ret : Option FieldType} {rm : Room} {Q : State → Prop} {σ : St} {pc : Nat} {lv : List (Nat × Value)} {st : List Value} (C : Zc Θ cc nL RX7 ret rm) (hkd : Θ.2.2.2.2.1 = kdC) {voter_a : Int32} {runner_a : Int32} {r : Int32} (hx : q7_partOf σ voter_a runner_a = some r) (hrm : rm7_partOf.frames + 1 ≤ rm.frames ∧ 8 + (5 + 11) + rm7_partOf.locals ≤ rm.locals) (hcat : (st.map fun v => v.category).sum ≤ 8) (hk : kc ≤ rm.cells ∧ ks ≤ rm.slots) (hd : decode cc pc = .ok (.invokevirtual 114, 3)) (kk : Z Θ nL kc ks Q σ (pc + 3) lv (.int r :: st)) : Z Θ nL kc ks Q σ pc lv (.int runner_a :: .int voter_a :: .ref (zA Θ 21) :: st) := z_callV C 21 [.int voter_a, .int runner_a] (some (.int r), σ) 2 (kC_21 hkd) rfl (c7_partOf (voter_a := voter_a) (runner_a := runner_a) hkd (zc_inj C) hx) w_7_105 w_7_102 w_7_103 w_7_104 w_1_12 ⟨rfl, rfl, hrm.1, hrm.2⟩ (by decide +kernel) rfl rfl hcat hk hd kk
theorem dX7_sureOf_0 : decode cX7_sureOf 0 = .ok (.aload_n 0, 1) := by decide +kernel
theorem dX7_sureOf_1 : decode cX7_sureOf 1 = .ok (.getfield 37, 3) := by decide +kernel
theorem dX7_sureOf_4 : decode cX7_sureOf 4 = .ok (.ifCond .eq 14, 3) := by decide +kernel
theorem dX7_sureOf_7 : decode cX7_sureOf 7 = .ok (.aload_n 0, 1) := by decide +kernel
theorem dX7_sureOf_8 : decode cX7_sureOf 8 = .ok (.getfield 31, 3) := by decide +kernel
theorem dX7_sureOf_11 : decode cX7_sureOf 11 = .ok (.iload_n 1, 1) := by decide +kernel
theorem dX7_sureOf_12 : decode cX7_sureOf 12 = .ok (.invokestatic 63, 3) := by decide +kernel
theorem dX7_sureOf_15 : decode cX7_sureOf 15 = .ok (.ifCond .ne 5, 3) := by decide +kernel
theorem dX7_sureOf_18 : decode cX7_sureOf 18 = .ok (.iconst (-1), 1) := by decide +kernel
theorem dX7_sureOf_19 : decode cX7_sureOf 19 = .ok (.ireturn, 1) := by decide +kernel
theorem dX7_sureOf_20 : decode cX7_sureOf 20 = .ok (.iconst 0, 1) := by decide +kernel
theorem dX7_sureOf_21 : decode cX7_sureOf 21 = .ok (.istore_n 2, 1) := by decide +kernel
theorem dX7_sureOf_22 : decode cX7_sureOf 22 = .ok (.iload_n 2, 1) := by decide +kernel
theorem dX7_sureOf_23 : decode cX7_sureOf 23 = .ok (.aload_n 0, 1) := by decide +kernel
theorem dX7_sureOf_24 : decode cX7_sureOf 24 = .ok (.getfield 27, 3) := by decide +kernel
theorem dX7_sureOf_27 : decode cX7_sureOf 27 = .ok (.if_icmp .ge 24, 3) := by decide +kernel
theorem dX7_sureOf_30 : decode cX7_sureOf 30 = .ok (.aload_n 0, 1) := by decide +kernel
theorem dX7_sureOf_31 : decode cX7_sureOf 31 = .ok (.iload_n 1, 1) := by decide +kernel
theorem dX7_sureOf_32 : decode cX7_sureOf 32 = .ok (.iload_n 2, 1) := by decide +kernel
theorem dX7_sureOf_33 : decode cX7_sureOf 33 = .ok (.invokevirtual 114, 3) := by decide +kernel
theorem dX7_sureOf_36 : decode cX7_sureOf 36 = .ok (.aload_n 0, 1) := by decide +kernel
theorem dX7_sureOf_37 : decode cX7_sureOf 37 = .ok (.getfield 37, 3) := by decide +kernel
theorem dX7_sureOf_40 : decode cX7_sureOf 40 = .ok (.if_icmp .ne 5, 3) := by decide +kernel
theorem dX7_sureOf_43 : decode cX7_sureOf 43 = .ok (.iload_n 2, 1) := by decide +kernel
theorem dX7_sureOf_44 : decode cX7_sureOf 44 = .ok (.ireturn, 1) := by decide +kernel
theorem dX7_sureOf_45 : decode cX7_sureOf 45 = .ok (.iinc 2 1, 3) := by decide +kernel
theorem dX7_sureOf_48 : decode cX7_sureOf 48 = .ok (.goto (-26), 3) := by decide +kernel
theorem dX7_sureOf_51 : decode cX7_sureOf 51 = .ok (.iconst (-1), 1) := by decide +kernel
theorem dX7_sureOf_52 : decode cX7_sureOf 52 = .ok (.ireturn, 1) := by decide +kernel
def q7_sureOf (σ : St) (person_a : Int32) : Option Int32 :=
  if ((σ 21 8) = 0) ∨ (¬ (q11_isIn (σ 21 6) person_a = true)) then (some (-1)) else
  Option.bind (loop1 (fun rec9_ (r12_ : Int32) =>
  if r12_ < (σ 21 5) then
  Option.bind (q7_partOf σ person_a r12_) fun x21_ =>
  if x21_ = (σ 21 8) then (some (.inl r12_)) else
  lt (r12_ + 1) fun r25_ =>
  rec9_ r25_
  else (some (.inr r12_))) fuelN (0 : Int32)) fun y6_ =>
  Sum.elim (fun x9 => some x9) (fun y6_r =>
  some (-1)) y6_
abbrev rm7_sureOf : Room := { frames := 4, cells := 0, slots := 0, locals := 92 }
set_option maxHeartbeats 4000000 in
set_option maxRecDepth 100000 in
theorem p7_sureOf {Θ : Tz} {σ : St} {ρ : Option Value × St} (C : Zc Θ cX7_sureOf 3 RX7 (some .int) rm7_sureOf) (hkd : Θ.2.2.2.2.1 = kdC) {person_a : Int32} {r : Int32} (hf : q7_sureOf σ person_a = some r) (hρ : ρ = (some (.int r), σ)) : Z Θ 3 0 0 (zQ Θ ρ) σ 0 [(0, .ref (zA Θ 21)), (1, .int person_a)] [] := by
  unfold q7_sureOf at hf
  have K1_ : ((σ 21 8) = 0) ∨ (¬ (q11_isIn (σ 21 6) person_a = true)) → Z Θ 3 0 0 (zQ Θ ρ) σ 18 [(0, .ref (zA Θ 21)), (1, .int person_a)] [] := by
    intro h5_
    rw [if_pos h5_] at hf
    refine z_iconst (v := (-1)) C dX7_sureOf_18 ic_m1 ?_
    cases hf
    subst hρ
    exact z_iret C dX7_sureOf_19
  suffices K2_ : ¬ (((σ 21 8) = 0) ∨ (¬ (q11_isIn (σ 21 6) person_a = true))) → Z Θ 3 0 0 (zQ Θ ρ) σ 20 [(0, .ref (zA Θ 21)), (1, .int person_a)] [] by
    refine z_aload_n C 0 dX7_sureOf_0 rfl rfl ?_
    refine fg7_37 C hkd dX7_sureOf_1 ?_
    refine c0_eq_t C 18 dX7_sureOf_4 (by decide) (fun h3_ => ?_) (fun h3_ => ?_)
    · exact K1_ (Or.inl h3_)
    · refine z_aload_n C 0 dX7_sureOf_7 rfl rfl ?_
      refine fg7_31 C hkd dX7_sureOf_8 ?_
      refine z_iload_n C 1 dX7_sureOf_11 rfl rfl ?_
      refine cr7_63 (set_a := (σ 21 6)) (person_a := person_a) C hkd  ⟨(Nat.le_of_ble_eq_true rfl), (Nat.le_of_ble_eq_true rfl)⟩ (Nat.le_of_ble_eq_true rfl) ⟨Nat.zero_le _, Nat.zero_le _⟩ dX7_sureOf_12 ?_
      refine cb_t C 20 dX7_sureOf_15 (by decide) (fun h4_ => ?_) (fun h4_ => ?_)
      · exact K2_ (fun n => n.elim h3_ (fun n => n h4_))
      · exact K1_ (Or.inr h4_)
  intro h5_
  rw [if_neg h5_] at hf
  refine z_iconst (v := 0) C dX7_sureOf_20 ic_0 ?_
  refine z_istN C dX7_sureOf_21 rfl rfl (Nat.le_of_ble_eq_true rfl) rfl ?_
  refine Z.sub [1, 2, 0] rfl ?_
  obtain ⟨y6_, h7_, hf⟩ := ob hf
  suffices K8_ : ∀ y6_r, y6_ = .inr y6_r → Z Θ 3 0 0 (zQ Θ ρ) σ 51 [(0, .ref (zA Θ 21)), (1, .int person_a), (2, .int y6_r)] [] by
    refine loop1_Z (P := fun (r12_ : Int32) => Z Θ 3 0 0 (zQ Θ ρ) σ 22 [(0, .ref (zA Θ 21)), (1, .int person_a), (2, .int r12_)] []) ?_ fuelN (0 : Int32) h7_
    clear h7_
    intro rec9_ r12_ h10_ h11_
    have K15_ : r12_ < (σ 21 5) → Z Θ 3 0 0 (zQ Θ ρ) σ 30 [(0, .ref (zA Θ 21)), (1, .int person_a), (2, .int r12_)] [] := by
      intro h18_
      rw [if_pos h18_] at h11_
      refine z_aload_n C 0 dX7_sureOf_30 rfl rfl ?_
      refine z_iload_n C 1 dX7_sureOf_31 rfl rfl ?_
      refine z_iload_n C 2 dX7_sureOf_32 rfl rfl ?_
      obtain ⟨x21_, h22_, h11_⟩ := ob h11_
      refine cr7_114 (voter_a := person_a) (runner_a := r12_) C hkd  h22_ ⟨(Nat.le_of_ble_eq_true rfl), (Nat.le_of_ble_eq_true rfl)⟩ (Nat.le_of_ble_eq_true rfl) ⟨Nat.zero_le _, Nat.zero_le _⟩ dX7_sureOf_33 ?_
      refine z_aload_n C 0 dX7_sureOf_36 rfl rfl ?_
      refine fg7_37 C hkd dX7_sureOf_37 ?_
      have K19_ : x21_ = (σ 21 8) → Z Θ 3 0 0 (zQ Θ ρ) σ 43 [(0, .ref (zA Θ 21)), (1, .int person_a), (2, .int r12_)] [] := by
        intro h24_
        rw [if_pos h24_] at h11_
        refine z_iload_n C 2 dX7_sureOf_43 rfl rfl ?_
        rw [← Option.some.inj h11_] at hf
        replace hf : some r12_ = some r := hf
        cases hf
        subst hρ
        exact z_iret C dX7_sureOf_44
      suffices K20_ : ¬ (x21_ = (σ 21 8)) → Z Θ 3 0 0 (zQ Θ ρ) σ 45 [(0, .ref (zA Θ 21)), (1, .int person_a), (2, .int r12_)] [] by
        refine c_eq_f C 45 dX7_sureOf_40 (by decide) (fun h23_ => ?_) (fun h23_ => ?_)
        · exact K19_ h23_
        · exact K20_ h23_
      intro h24_
      rw [if_neg h24_] at h11_
      obtain ⟨r25_, h26_, h11_⟩ := lt_ h11_
      refine z_inc C 2 dX7_sureOf_45 rfl ic_1 h26_ (Nat.le_of_ble_eq_true rfl) rfl ?_
      refine z_goto C 22 dX7_sureOf_48 (by decide) ?_
      refine Z.sub [1, 2, 0] rfl ?_
      exact h10_ _ h11_
    have K16_ : ¬ (r12_ < (σ 21 5)) → Z Θ 3 0 0 (zQ Θ ρ) σ 51 [(0, .ref (zA Θ 21)), (1, .int person_a), (2, .int r12_)] [] := by
      intro h18_
      rw [if_neg h18_] at h11_
      exact K8_ _ (Option.some.inj h11_).symm
    refine z_iload_n C 2 dX7_sureOf_22 rfl rfl ?_
    refine z_aload_n C 0 dX7_sureOf_23 rfl rfl ?_
    refine fg7_27 C hkd dX7_sureOf_24 ?_
    refine c_lt_f C 51 dX7_sureOf_27 (by decide) (fun h17_ => ?_) (fun h17_ => ?_)
    · exact K15_ h17_
    · exact K16_ h17_
  intro y6_r e9
  subst e9
  simp only [Sum.elim_inr] at hf
  refine z_iconst (v := (-1)) C dX7_sureOf_51 ic_m1 ?_
  cases hf
  subst hρ
  exact z_iret C dX7_sureOf_52
theorem c7_sureOf {l : Launch} {kd : List KD} {w : Wp} {σ : St} {person_a : Int32} (hkd : kd = kdC) (hi : zI kd w) {r : Int32} (hf : q7_sureOf σ person_a = some r) : zM l kd w yX7_sureOf cX7_sureOf 3 (some .int) rm7_sureOf [.ref (w.2.2.1 21), .int person_a] σ (some (.int r), σ) := zM_of rfl hi (Nat.le_of_ble_eq_true rfl) (fun Θ hl hw C => by
  obtain ⟨Θ1, Θ2, Θ3, Θ4, Θ5⟩ := Θ
  cases hw
  exact p7_sureOf C hkd  hf rfl)
/-! LastLoaf.sure -/
theorem w_7_101 : Cond.code ({ cls := "LastLoaf$SecretBallots", name := "sureOf", desc := "(I)I" } : MethodName) prog_9_method_13_code (3 : Nat) (Option.some ClassFile.FieldType.int) ∈ TB := tb_in (lwt_7 (List.mem_of_getElem? (i := 101) (by decide +kernel))) rfl
theorem w_7_98 : Cond.methodLink "LastLoaf" (339 : Nat) ({ cls := "LastLoaf$SecretBallots", name := "sureOf", desc := "(I)I" } : MethodName) ∈ TB := tb_in (lwt_7 (List.mem_of_getElem? (i := 98) (by decide +kernel))) rfl
theorem w_7_99 : Cond.instanceMethod ({ cls := "LastLoaf$SecretBallots", name := "sureOf", desc := "(I)I" } : MethodName) ∈ TB := tb_in (lwt_7 (List.mem_of_getElem? (i := 99) (by decide +kernel))) rfl
theorem w_7_100 : Cond.selects "LastLoaf$SecretBallots" ({ cls := "LastLoaf$SecretBallots", name := "sureOf", desc := "(I)I" } : MethodName) ({ cls := "LastLoaf$SecretBallots", name := "sureOf", desc := "(I)I" } : MethodName) ∈ TB := tb_in (lwt_7 (List.mem_of_getElem? (i := 100) (by decide +kernel))) rfl
theorem cr11_339 {Θ : Tz} {cc : ByteArray} {nL kc ks : Nat} {ret : Option FieldType} {rm : Room} {Q : State → Prop} {σ : St} {pc : Nat} {lv : List (Nat × Value)} {st : List Value} (C : Zc Θ cc nL RX11 ret rm) (hkd : Θ.2.2.2.2.1 = kdC) {person_a : Int32} {r : Int32} (hx : q7_sureOf σ person_a = some r) (hrm : rm7_sureOf.frames + 1 ≤ rm.frames ∧ 8 + (3 + 11) + rm7_sureOf.locals ≤ rm.locals) (hcat : (st.map fun v => v.category).sum ≤ 8) (hk : kc ≤ rm.cells ∧ ks ≤ rm.slots) (hd : decode cc pc = .ok (.invokevirtual 339, 3)) (kk : Z Θ nL kc ks Q σ (pc + 3) lv (.int r :: st)) : Z Θ nL kc ks Q σ pc lv (.int person_a :: .ref (zA Θ 21) :: st) := z_callV C 21 [.int person_a] (some (.int r), σ) 1 (kC_21 hkd) rfl (c7_sureOf (person_a := person_a) hkd (zc_inj C) hx) w_7_101 w_7_98 w_7_99 w_7_100 w_1_12 ⟨rfl, rfl, hrm.1, hrm.2⟩ (by decide +kernel) rfl rfl hcat hk hd kk
theorem dX11_sure_0 : decode cX11_sure 0 = .ok (.aload_n 0, 1) := by decide +kernel
theorem dX11_sure_1 : decode cX11_sure 1 = .ok (.invokevirtual 330, 3) := by decide +kernel
theorem dX11_sure_4 : decode cX11_sure 4 = .ok (.istore_n 2, 1) := by decide +kernel
theorem dX11_sure_5 : decode cX11_sure 5 = .ok (.aload_n 0, 1) := by decide +kernel
theorem dX11_sure_6 : decode cX11_sure 6 = .ok (.iload_n 1, 1) := by decide +kernel
theorem dX11_sure_7 : decode cX11_sure 7 = .ok (.invokevirtual 151, 3) := by decide +kernel
theorem dX11_sure_10 : decode cX11_sure 10 = .ok (.iload_n 2, 1) := by decide +kernel
theorem dX11_sure_11 : decode cX11_sure 11 = .ok (.invokestatic 333, 3) := by decide +kernel
theorem dX11_sure_14 : decode cX11_sure 14 = .ok (.aload_n 0, 1) := by decide +kernel
theorem dX11_sure_15 : decode cX11_sure 15 = .ok (.getfield 84, 3) := by decide +kernel
theorem dX11_sure_18 : decode cX11_sure 18 = .ok (.iload_n 1, 1) := by decide +kernel
theorem dX11_sure_19 : decode cX11_sure 19 = .ok (.invokevirtual 339, 3) := by decide +kernel
theorem dX11_sure_22 : decode cX11_sure 22 = .ok (.ireturn, 1) := by decide +kernel
def q11_sure (σ : St) (person_a : Int32) : Option (Sum Nat Int32 × St) :=
  Option.bind (q11_hearBallots σ) fun x1_ =>
  thn (q11_needPerson x1_.2 person_a) x1_.2
  (thn (q11_needBallots x1_.1) x1_.2
  (Option.bind (q7_sureOf x1_.2 person_a) fun x7_ =>
  some (.inr x7_, x1_.2)))
abbrev rm11_sure : Room := { frames := 8, cells := 2, slots := 12, locals := 185 }
set_option maxHeartbeats 4000000 in
set_option maxRecDepth 100000 in
theorem p11_sure {Θ : Tz} {σ : St} {ω : Om} (C : Zc Θ cX11_sure 3 RX11 (some .int) rm11_sure) (hkd : Θ.2.2.2.2.1 = kdC) (hlt : Θ.1.2.1.stackTraces = false) (het : ∀ x ∈ Θ.2.2.1.2.exceptionTable.toList, False) {person_a : Int32} {r : (Sum Nat Int32 × St)} (hf : q11_sure σ person_a = some r) (hω : ω = om (fun v => some (.int v)) r) : Z Θ 3 0 0 (zQX Θ ω 2 12) σ 0 [(0, .ref (zA Θ 0)), (1, .int person_a)] [] := by
  unfold q11_sure at hf
  refine z_aload_n C 0 dX11_sure_0 rfl rfl ?_
  obtain ⟨x1_, h2_, hf⟩ := ob hf
  refine cr11_330 C hkd  h2_ ⟨(Nat.le_of_ble_eq_true rfl), (Nat.le_of_ble_eq_true rfl)⟩ (Nat.le_of_ble_eq_true rfl) ⟨(Nat.le_of_ble_eq_true rfl), (Nat.le_of_ble_eq_true rfl)⟩ dX11_sure_1 ?_
  refine z_istN C dX11_sure_4 rfl rfl (Nat.le_of_ble_eq_true rfl) rfl ?_
  refine z_aload_n C 1 dX11_sure_5 rfl rfl ?_
  refine z_iload_n C 2 dX11_sure_6 rfl rfl ?_
  refine zx_callV C het 0 [.int person_a] (q11_needPerson x1_.2 person_a) 1 6 1 (kC_0 hkd) rfl (c11_needPerson (person_a := person_a) hkd (zc_inj C) hlt) w_5_227 w_5_224 w_5_226 ws_LastLoaf_needPerson_I_V w_1_1 ⟨rfl, rfl, (Nat.le_of_ble_eq_true rfl), (Nat.le_of_ble_eq_true rfl)⟩ (by decide +kernel) rfl rfl (Nat.le_of_ble_eq_true rfl) ⟨(Nat.le_of_ble_eq_true rfl), (Nat.le_of_ble_eq_true rfl)⟩ dX11_sure_7 ⟨(Nat.le_of_ble_eq_true rfl), (Nat.le_of_ble_eq_true rfl)⟩ (fun e9 h4_ => by rw [h4_] at hf; cases hf; exact hω) (fun h3_ => ?_)
  rw [h3_] at hf
  replace hf := thn_x hf
  refine z_iload_n C 0 dX11_sure_10 rfl rfl ?_
  refine zx_callS C het [.int (b2i x1_.1)] (q11_needBallots x1_.1) 1 6 1 (c11_needBallots (heard_a := x1_.1) hkd (zc_inj C) hlt) w_7_89 w_7_87 w_7_88 w_1_1 ⟨rfl, rfl, (Nat.le_of_ble_eq_true rfl), (Nat.le_of_ble_eq_true rfl)⟩ (by decide +kernel) rfl rfl (Nat.le_of_ble_eq_true rfl) ⟨(Nat.le_of_ble_eq_true rfl), (Nat.le_of_ble_eq_true rfl)⟩ dX11_sure_11 ⟨(Nat.le_of_ble_eq_true rfl), (Nat.le_of_ble_eq_true rfl)⟩ (fun e9 h6_ => by rw [h6_] at hf; cases hf; exact hω) (fun h5_ => ?_)
  rw [h5_] at hf
  replace hf := thn_x hf
  refine z_aload_n C 1 dX11_sure_14 rfl rfl ?_
  refine fg11_84 C hkd dX11_sure_15 ?_
  refine z_iload_n C 2 dX11_sure_18 rfl rfl ?_
  obtain ⟨x7_, h8_, hf⟩ := ob hf
  refine cr11_339 (person_a := person_a) C hkd  h8_ ⟨(Nat.le_of_ble_eq_true rfl), (Nat.le_of_ble_eq_true rfl)⟩ (Nat.le_of_ble_eq_true rfl) ⟨(Nat.le_of_ble_eq_true rfl), (Nat.le_of_ble_eq_true rfl)⟩ dX11_sure_19 ?_
  cases hf
  subst hω
  exact zx_iret C ⟨(Nat.le_of_ble_eq_true rfl), (Nat.le_of_ble_eq_true rfl)⟩ dX11_sure_22
theorem c11_sure {l : Launch} {kd : List KD} {w : Wp} {σ : St} {person_a : Int32} (hkd : kd = kdC) (hi : zI kd w) (hlt : l.stackTraces = false) {r : (Sum Nat Int32 × St)} (hf : q11_sure σ person_a = some r) : zX l kd w yX11_sure cX11_sure 3 (some .int) rm11_sure [.ref (w.2.2.1 0), .int person_a] σ (om (fun v => some (.int v)) r) 2 12 := zX_of rfl hi (Nat.le_of_ble_eq_true rfl) (fun Θ hl hw C het => by
  obtain ⟨Θ1, Θ2, Θ3, Θ4, Θ5⟩ := Θ
  cases hw
  cases hl
  exact p11_sure C hkd hlt het  hf rfl)
/-! LastLoaf$SecretBallots.greatestPart -/
theorem dX7_greatestPart_0 : decode cX7_greatestPart 0 = .ok (.iconst 0, 1) := by decide +kernel
theorem dX7_greatestPart_1 : decode cX7_greatestPart 1 = .ok (.istore_n 2, 1) := by decide +kernel
theorem dX7_greatestPart_2 : decode cX7_greatestPart 2 = .ok (.iconst 0, 1) := by decide +kernel
theorem dX7_greatestPart_3 : decode cX7_greatestPart 3 = .ok (.istore_n 3, 1) := by decide +kernel
theorem dX7_greatestPart_4 : decode cX7_greatestPart 4 = .ok (.iload_n 3, 1) := by decide +kernel
theorem dX7_greatestPart_5 : decode cX7_greatestPart 5 = .ok (.aload_n 0, 1) := by decide +kernel
theorem dX7_greatestPart_6 : decode cX7_greatestPart 6 = .ok (.getfield 27, 3) := by decide +kernel
theorem dX7_greatestPart_9 : decode cX7_greatestPart 9 = .ok (.if_icmp .ge 20, 3) := by decide +kernel
theorem dX7_greatestPart_12 : decode cX7_greatestPart 12 = .ok (.iload_n 2, 1) := by decide +kernel
theorem dX7_greatestPart_13 : decode cX7_greatestPart 13 = .ok (.aload_n 0, 1) := by decide +kernel
theorem dX7_greatestPart_14 : decode cX7_greatestPart 14 = .ok (.iload_n 1, 1) := by decide +kernel
theorem dX7_greatestPart_15 : decode cX7_greatestPart 15 = .ok (.iload_n 3, 1) := by decide +kernel
theorem dX7_greatestPart_16 : decode cX7_greatestPart 16 = .ok (.invokevirtual 114, 3) := by decide +kernel
theorem dX7_greatestPart_19 : decode cX7_greatestPart 19 = .ok (.invokestatic 81, 3) := by decide +kernel
theorem dX7_greatestPart_22 : decode cX7_greatestPart 22 = .ok (.istore_n 2, 1) := by decide +kernel
theorem dX7_greatestPart_23 : decode cX7_greatestPart 23 = .ok (.iinc 3 1, 3) := by decide +kernel
theorem dX7_greatestPart_26 : decode cX7_greatestPart 26 = .ok (.goto (-22), 3) := by decide +kernel
theorem dX7_greatestPart_29 : decode cX7_greatestPart 29 = .ok (.iload_n 2, 1) := by decide +kernel
theorem dX7_greatestPart_30 : decode cX7_greatestPart 30 = .ok (.ireturn, 1) := by decide +kernel
def q7_greatestPart (σ : St) (voter_a : Int32) : Option Int32 :=
  Option.bind (loop2 (fun rec4_ (greatest7_ : Int32) (r8_ : Int32) =>
  if r8_ < (σ 21 5) then
  Option.bind (q7_partOf σ voter_a r8_) fun x15_ =>
  lt (imax greatest7_ x15_) fun greatest17_ =>
  lt (r8_ + 1) fun r19_ =>
  rec4_ greatest17_ r19_
  else (some (greatest7_, r8_))) fuelN (0 : Int32) (0 : Int32)) fun y1_ =>
  some y1_.1
abbrev rm7_greatestPart : Room := { frames := 4, cells := 0, slots := 0, locals := 92 }
set_option maxHeartbeats 4000000 in
set_option maxRecDepth 100000 in
theorem p7_greatestPart {Θ : Tz} {σ : St} {ρ : Option Value × St} (C : Zc Θ cX7_greatestPart 4 RX7 (some .int) rm7_greatestPart) (hkd : Θ.2.2.2.2.1 = kdC) {voter_a : Int32} {r : Int32} (hf : q7_greatestPart σ voter_a = some r) (hρ : ρ = (some (.int r), σ)) : Z Θ 4 0 0 (zQ Θ ρ) σ 0 [(0, .ref (zA Θ 21)), (1, .int voter_a)] [] := by
  unfold q7_greatestPart at hf
  refine z_iconst (v := 0) C dX7_greatestPart_0 ic_0 ?_
  refine z_istN C dX7_greatestPart_1 rfl rfl (Nat.le_of_ble_eq_true rfl) rfl ?_
  refine z_iconst (v := 0) C dX7_greatestPart_2 ic_0 ?_
  refine z_istN C dX7_greatestPart_3 rfl rfl (Nat.le_of_ble_eq_true rfl) rfl ?_
  refine Z.sub [2, 3, 1, 0] rfl ?_
  obtain ⟨y1_, h2_, hf⟩ := ob hf
  suffices K3_ : Z Θ 4 0 0 (zQ Θ ρ) σ 29 [(0, .ref (zA Θ 21)), (1, .int voter_a), (2, .int y1_.1), (3, .int y1_.2)] [] by
    refine loop2_Z (P := fun (greatest7_ : Int32) (r8_ : Int32) => Z Θ 4 0 0 (zQ Θ ρ) σ 4 [(0, .ref (zA Θ 21)), (1, .int voter_a), (2, .int greatest7_), (3, .int r8_)] []) ?_ fuelN (0 : Int32) (0 : Int32) h2_
    clear h2_
    intro rec4_ greatest7_ r8_ h5_ h6_
    have K11_ : r8_ < (σ 21 5) → Z Θ 4 0 0 (zQ Θ ρ) σ 12 [(0, .ref (zA Θ 21)), (1, .int voter_a), (2, .int greatest7_), (3, .int r8_)] [] := by
      intro h14_
      rw [if_pos h14_] at h6_
      refine z_iload_n C 2 dX7_greatestPart_12 rfl rfl ?_
      refine z_aload_n C 0 dX7_greatestPart_13 rfl rfl ?_
      refine z_iload_n C 1 dX7_greatestPart_14 rfl rfl ?_
      refine z_iload_n C 3 dX7_greatestPart_15 rfl rfl ?_
      obtain ⟨x15_, h16_, h6_⟩ := ob h6_
      refine cr7_114 (voter_a := voter_a) (runner_a := r8_) C hkd  h16_ ⟨(Nat.le_of_ble_eq_true rfl), (Nat.le_of_ble_eq_true rfl)⟩ (Nat.le_of_ble_eq_true rfl) ⟨Nat.zero_le _, Nat.zero_le _⟩ dX7_greatestPart_16 ?_
      refine z_max C w_7_52 w_3_176 w_1_28 w_3_177 ⟨(Nat.le_of_ble_eq_true rfl), (Nat.le_of_ble_eq_true rfl)⟩ (Nat.le_of_ble_eq_true rfl) ⟨Nat.zero_le _, Nat.zero_le _⟩ dX7_greatestPart_19 ?_
      obtain ⟨greatest17_, h18_, h6_⟩ := lt_ h6_
      refine z_istN C dX7_greatestPart_22 h18_ rfl (Nat.le_of_ble_eq_true rfl) rfl ?_
      obtain ⟨r19_, h20_, h6_⟩ := lt_ h6_
      refine z_inc C 3 dX7_greatestPart_23 rfl ic_1 h20_ (Nat.le_of_ble_eq_true rfl) rfl ?_
      refine z_goto C 4 dX7_greatestPart_26 (by decide) ?_
      refine Z.sub [2, 3, 1, 0] rfl ?_
      exact h5_ _ _ h6_
    have K12_ : ¬ (r8_ < (σ 21 5)) → Z Θ 4 0 0 (zQ Θ ρ) σ 29 [(0, .ref (zA Θ 21)), (1, .int voter_a), (2, .int greatest7_), (3, .int r8_)] [] := by
      intro h14_
      rw [if_neg h14_] at h6_
      cases h6_
      exact K3_
    refine z_iload_n C 3 dX7_greatestPart_4 rfl rfl ?_
    refine z_aload_n C 0 dX7_greatestPart_5 rfl rfl ?_
    refine fg7_27 C hkd dX7_greatestPart_6 ?_
    refine c_lt_f C 29 dX7_greatestPart_9 (by decide) (fun h13_ => ?_) (fun h13_ => ?_)
    · exact K11_ h13_
    · exact K12_ h13_
  refine z_iload_n C 2 dX7_greatestPart_29 rfl rfl ?_
  cases hf
  subst hρ
  exact z_iret C dX7_greatestPart_30
theorem c7_greatestPart {l : Launch} {kd : List KD} {w : Wp} {σ : St} {voter_a : Int32} (hkd : kd = kdC) (hi : zI kd w) {r : Int32} (hf : q7_greatestPart σ voter_a = some r) : zM l kd w yX7_greatestPart cX7_greatestPart 4 (some .int) rm7_greatestPart [.ref (w.2.2.1 21), .int voter_a] σ (some (.int r), σ) := zM_of rfl hi (Nat.le_of_ble_eq_true rfl) (fun Θ hl hw C => by
  obtain ⟨Θ1, Θ2, Θ3, Θ4, Θ5⟩ := Θ
  cases hw
  exact p7_greatestPart C hkd  hf rfl)
/-! LastLoaf$SecretBallots.bestToAsk -/
theorem w_7_120 : Cond.code ({ cls := "LastLoaf$SecretBallots", name := "greatestPart", desc := "(I)I" } : MethodName) prog_9_method_15_code (4 : Nat) (Option.some ClassFile.FieldType.int) ∈ TB := tb_in (lwt_7 (List.mem_of_getElem? (i := 120) (by decide +kernel))) rfl
theorem w_7_117 : Cond.methodLink "LastLoaf$SecretBallots" (117 : Nat) ({ cls := "LastLoaf$SecretBallots", name := "greatestPart", desc := "(I)I" } : MethodName) ∈ TB := tb_in (lwt_7 (List.mem_of_getElem? (i := 117) (by decide +kernel))) rfl
theorem w_7_118 : Cond.instanceMethod ({ cls := "LastLoaf$SecretBallots", name := "greatestPart", desc := "(I)I" } : MethodName) ∈ TB := tb_in (lwt_7 (List.mem_of_getElem? (i := 118) (by decide +kernel))) rfl
theorem w_7_119 : Cond.selects "LastLoaf$SecretBallots" ({ cls := "LastLoaf$SecretBallots", name := "greatestPart", desc := "(I)I" } : MethodName) ({ cls := "LastLoaf$SecretBallots", name := "greatestPart", desc := "(I)I" } : MethodName) ∈ TB := tb_in (lwt_7 (List.mem_of_getElem? (i := 119) (by decide +kernel))) rfl
theorem cr7_117 {Θ : Tz} {cc : ByteArray} {nL kc ks : Nat} {ret : Option FieldType} {rm : Room} {Q : State → Prop} {σ : St} {pc : Nat} {lv : List (Nat × Value)} {st : List Value} (C : Zc Θ cc nL RX7 ret rm) (hkd : Θ.2.2.2.2.1 = kdC) {voter_a : Int32} {r : Int32} (hx : q7_greatestPart σ voter_a = some r) (hrm : rm7_greatestPart.frames + 1 ≤ rm.frames ∧ 8 + (4 + 11) + rm7_greatestPart.locals ≤ rm.locals) (hcat : (st.map fun v => v.category).sum ≤ 8) (hk : kc ≤ rm.cells ∧ ks ≤ rm.slots) (hd : decode cc pc = .ok (.invokevirtual 117, 3)) (kk : Z Θ nL kc ks Q σ (pc + 3) lv (.int r :: st)) : Z Θ nL kc ks Q σ pc lv (.int voter_a :: .ref (zA Θ 21) :: st) := z_callV C 21 [.int voter_a] (some (.int r), σ) 1 (kC_21 hkd) rfl (c7_greatestPart (voter_a := voter_a) hkd (zc_inj C) hx) w_7_120 w_7_117 w_7_118 w_7_119 w_1_12 ⟨rfl, rfl, hrm.1, hrm.2⟩ (by decide +kernel) rfl rfl hcat hk hd kk
theorem dX7_bestToAsk_0 : decode cX7_bestToAsk 0 = .ok (.iconst (-1), 1) := by decide +kernel
theorem dX7_bestToAsk_1 : decode cX7_bestToAsk 1 = .ok (.istore_n 1, 1) := by decide +kernel
theorem dX7_bestToAsk_2 : decode cX7_bestToAsk 2 = .ok (.iconst 0, 1) := by decide +kernel
theorem dX7_bestToAsk_3 : decode cX7_bestToAsk 3 = .ok (.istore_n 2, 1) := by decide +kernel
theorem dX7_bestToAsk_4 : decode cX7_bestToAsk 4 = .ok (.aload_n 0, 1) := by decide +kernel
theorem dX7_bestToAsk_5 : decode cX7_bestToAsk 5 = .ok (.getfield 37, 3) := by decide +kernel
theorem dX7_bestToAsk_8 : decode cX7_bestToAsk 8 = .ok (.iconst 2, 1) := by decide +kernel
theorem dX7_bestToAsk_9 : decode cX7_bestToAsk 9 = .ok (.if_icmp .ge 5, 3) := by decide +kernel
theorem dX7_bestToAsk_12 : decode cX7_bestToAsk 12 = .ok (.iload_n 1, 1) := by decide +kernel
theorem dX7_bestToAsk_13 : decode cX7_bestToAsk 13 = .ok (.ireturn, 1) := by decide +kernel
theorem dX7_bestToAsk_14 : decode cX7_bestToAsk 14 = .ok (.iconst 0, 1) := by decide +kernel
theorem dX7_bestToAsk_15 : decode cX7_bestToAsk 15 = .ok (.istore_n 3, 1) := by decide +kernel
theorem dX7_bestToAsk_16 : decode cX7_bestToAsk 16 = .ok (.iload_n 3, 1) := by decide +kernel
theorem dX7_bestToAsk_17 : decode cX7_bestToAsk 17 = .ok (.aload_n 0, 1) := by decide +kernel
theorem dX7_bestToAsk_18 : decode cX7_bestToAsk 18 = .ok (.getfield 27, 3) := by decide +kernel
theorem dX7_bestToAsk_21 : decode cX7_bestToAsk 21 = .ok (.if_icmp .ge 63, 3) := by decide +kernel
theorem dX7_bestToAsk_24 : decode cX7_bestToAsk 24 = .ok (.aload_n 0, 1) := by decide +kernel
theorem dX7_bestToAsk_25 : decode cX7_bestToAsk 25 = .ok (.getfield 31, 3) := by decide +kernel
theorem dX7_bestToAsk_28 : decode cX7_bestToAsk 28 = .ok (.iload_n 3, 1) := by decide +kernel
theorem dX7_bestToAsk_29 : decode cX7_bestToAsk 29 = .ok (.invokestatic 63, 3) := by decide +kernel
theorem dX7_bestToAsk_32 : decode cX7_bestToAsk 32 = .ok (.ifCond .eq 11, 3) := by decide +kernel
theorem dX7_bestToAsk_35 : decode cX7_bestToAsk 35 = .ok (.aload_n 0, 1) := by decide +kernel
theorem dX7_bestToAsk_36 : decode cX7_bestToAsk 36 = .ok (.iload_n 3, 1) := by decide +kernel
theorem dX7_bestToAsk_37 : decode cX7_bestToAsk 37 = .ok (.invokevirtual 117, 3) := by decide +kernel
theorem dX7_bestToAsk_40 : decode cX7_bestToAsk 40 = .ok (.goto 9, 3) := by decide +kernel
theorem dX7_bestToAsk_43 : decode cX7_bestToAsk 43 = .ok (.aload_n 0, 1) := by decide +kernel
theorem dX7_bestToAsk_44 : decode cX7_bestToAsk 44 = .ok (.getfield 37, 3) := by decide +kernel
theorem dX7_bestToAsk_47 : decode cX7_bestToAsk 47 = .ok (.iconst 1, 1) := by decide +kernel
theorem dX7_bestToAsk_48 : decode cX7_bestToAsk 48 = .ok (.iadd, 1) := by decide +kernel
theorem dX7_bestToAsk_49 : decode cX7_bestToAsk 49 = .ok (.istore 4, 2) := by decide +kernel
theorem dX7_bestToAsk_51 : decode cX7_bestToAsk 51 = .ok (.aload_n 0, 1) := by decide +kernel
theorem dX7_bestToAsk_52 : decode cX7_bestToAsk 52 = .ok (.getfield 31, 3) := by decide +kernel
theorem dX7_bestToAsk_55 : decode cX7_bestToAsk 55 = .ok (.iload_n 3, 1) := by decide +kernel
theorem dX7_bestToAsk_56 : decode cX7_bestToAsk 56 = .ok (.invokestatic 63, 3) := by decide +kernel
theorem dX7_bestToAsk_59 : decode cX7_bestToAsk 59 = .ok (.ifCond .eq 19, 3) := by decide +kernel
theorem dX7_bestToAsk_62 : decode cX7_bestToAsk 62 = .ok (.iload_n 1, 1) := by decide +kernel
theorem dX7_bestToAsk_63 : decode cX7_bestToAsk 63 = .ok (.iconst (-1), 1) := by decide +kernel
theorem dX7_bestToAsk_64 : decode cX7_bestToAsk 64 = .ok (.if_icmp .eq 9, 3) := by decide +kernel
theorem dX7_bestToAsk_67 : decode cX7_bestToAsk 67 = .ok (.iload 4, 2) := by decide +kernel
theorem dX7_bestToAsk_69 : decode cX7_bestToAsk 69 = .ok (.iload_n 2, 1) := by decide +kernel
theorem dX7_bestToAsk_70 : decode cX7_bestToAsk 70 = .ok (.if_icmp .ge 8, 3) := by decide +kernel
theorem dX7_bestToAsk_73 : decode cX7_bestToAsk 73 = .ok (.iload_n 3, 1) := by decide +kernel
theorem dX7_bestToAsk_74 : decode cX7_bestToAsk 74 = .ok (.istore_n 1, 1) := by decide +kernel
theorem dX7_bestToAsk_75 : decode cX7_bestToAsk 75 = .ok (.iload 4, 2) := by decide +kernel
theorem dX7_bestToAsk_77 : decode cX7_bestToAsk 77 = .ok (.istore_n 2, 1) := by decide +kernel
theorem dX7_bestToAsk_78 : decode cX7_bestToAsk 78 = .ok (.iinc 3 1, 3) := by decide +kernel
theorem dX7_bestToAsk_81 : decode cX7_bestToAsk 81 = .ok (.goto (-65), 3) := by decide +kernel
theorem dX7_bestToAsk_84 : decode cX7_bestToAsk 84 = .ok (.iload_n 1, 1) := by decide +kernel
theorem dX7_bestToAsk_85 : decode cX7_bestToAsk 85 = .ok (.ireturn, 1) := by decide +kernel
def q7_bestToAsk (σ : St) : Option Int32 :=
  if (σ 21 8) < 2 then (some (-1)) else
  Option.bind (loop3 (fun rec8_ (best11_ : Int32) (least12_ : Int32) (v13_ : Int32) =>
  if v13_ < (σ 21 5) then
  Option.bind (if q11_isIn (σ 21 6) v13_ = true then (Option.bind (q7_greatestPart σ v13_) fun x26_ =>
  some x26_) else (some ((σ 21 8) + 1))) fun x20_ =>
  lt (if (q11_isIn (σ 21 6) v13_ = true) ∧ ((best11_ = (-1)) ∨ (x20_ < least12_)) then ((v13_, x20_)) else ((best11_, least12_))) fun y29_ =>
  lt (v13_ + 1) fun v38_ =>
  rec8_ y29_.1 y29_.2 v38_
  else (some (best11_, least12_, v13_))) fuelN (-1 : Int32) (0 : Int32) (0 : Int32)) fun y5_ =>
  some y5_.1
abbrev rm7_bestToAsk : Room := { frames := 5, cells := 0, slots := 0, locals := 115 }
set_option maxHeartbeats 4000000 in
set_option maxRecDepth 100000 in
theorem p7_bestToAsk {Θ : Tz} {σ : St} {ρ : Option Value × St} (C : Zc Θ cX7_bestToAsk 5 RX7 (some .int) rm7_bestToAsk) (hkd : Θ.2.2.2.2.1 = kdC) {r : Int32} (hf : q7_bestToAsk σ = some r) (hρ : ρ = (some (.int r), σ)) : Z Θ 5 0 0 (zQ Θ ρ) σ 0 [(0, .ref (zA Θ 21))] [] := by
  unfold q7_bestToAsk at hf
  refine z_iconst (v := (-1)) C dX7_bestToAsk_0 ic_m1 ?_
  refine z_istN C dX7_bestToAsk_1 rfl rfl (Nat.le_of_ble_eq_true rfl) rfl ?_
  refine z_iconst (v := 0) C dX7_bestToAsk_2 ic_0 ?_
  refine z_istN C dX7_bestToAsk_3 rfl rfl (Nat.le_of_ble_eq_true rfl) rfl ?_
  have K1_ : (σ 21 8) < 2 → Z Θ 5 0 0 (zQ Θ ρ) σ 12 [(2, .int 0), (1, .int (-1)), (0, .ref (zA Θ 21))] [] := by
    intro h4_
    rw [if_pos h4_] at hf
    refine z_iload_n C 1 dX7_bestToAsk_12 rfl rfl ?_
    cases hf
    subst hρ
    exact z_iret C dX7_bestToAsk_13
  suffices K2_ : ¬ ((σ 21 8) < 2) → Z Θ 5 0 0 (zQ Θ ρ) σ 14 [(2, .int 0), (1, .int (-1)), (0, .ref (zA Θ 21))] [] by
    refine z_aload_n C 2 dX7_bestToAsk_4 rfl rfl ?_
    refine fg7_37 C hkd dX7_bestToAsk_5 ?_
    refine z_iconst (v := 2) C dX7_bestToAsk_8 ic_2 ?_
    refine c_lt_f C 14 dX7_bestToAsk_9 (by decide) (fun h3_ => ?_) (fun h3_ => ?_)
    · exact K1_ h3_
    · exact K2_ h3_
  intro h4_
  rw [if_neg h4_] at hf
  refine z_iconst (v := 0) C dX7_bestToAsk_14 ic_0 ?_
  refine z_istN C dX7_bestToAsk_15 rfl rfl (Nat.le_of_ble_eq_true rfl) rfl ?_
  refine Z.sub [3, 2, 1, 0] rfl ?_
  obtain ⟨y5_, h6_, hf⟩ := ob hf
  suffices K7_ : Z Θ 5 0 0 (zQ Θ ρ) σ 84 [(0, .ref (zA Θ 21)), (1, .int y5_.1), (2, .int y5_.2.1), (3, .int y5_.2.2)] [] by
    refine loop3_Z (P := fun (best11_ : Int32) (least12_ : Int32) (v13_ : Int32) => Z Θ 5 0 0 (zQ Θ ρ) σ 16 [(0, .ref (zA Θ 21)), (1, .int best11_), (2, .int least12_), (3, .int v13_)] []) ?_ fuelN (-1 : Int32) (0 : Int32) (0 : Int32) h6_
    clear h6_
    intro rec8_ best11_ least12_ v13_ h9_ h10_
    have K16_ : v13_ < (σ 21 5) → Z Θ 5 0 0 (zQ Θ ρ) σ 24 [(0, .ref (zA Θ 21)), (1, .int best11_), (2, .int least12_), (3, .int v13_)] [] := by
      intro h19_
      rw [if_pos h19_] at h10_
      obtain ⟨x20_, h21_, h10_⟩ := ob h10_
      suffices K22_ : Z Θ 5 0 0 (zQ Θ ρ) σ 49 [(0, .ref (zA Θ 21)), (1, .int best11_), (2, .int least12_), (3, .int v13_)] [.int x20_] by
        have K23_ : q11_isIn (σ 21 6) v13_ = true → Z Θ 5 0 0 (zQ Θ ρ) σ 35 [(0, .ref (zA Θ 21)), (1, .int best11_), (2, .int least12_), (3, .int v13_)] [] := by
          intro h28_
          rw [if_pos h28_] at h21_
          refine z_aload_n C 0 dX7_bestToAsk_35 rfl rfl ?_
          refine z_iload_n C 3 dX7_bestToAsk_36 rfl rfl ?_
          obtain ⟨x26_, h27_, h21_⟩ := ob h21_
          refine cr7_117 (voter_a := v13_) C hkd  h27_ ⟨(Nat.le_of_ble_eq_true rfl), (Nat.le_of_ble_eq_true rfl)⟩ (Nat.le_of_ble_eq_true rfl) ⟨Nat.zero_le _, Nat.zero_le _⟩ dX7_bestToAsk_37 ?_
          refine z_goto C 49 dX7_bestToAsk_40 (by decide) ?_
          cases h21_
          exact K22_
        have K24_ : ¬ (q11_isIn (σ 21 6) v13_ = true) → Z Θ 5 0 0 (zQ Θ ρ) σ 43 [(0, .ref (zA Θ 21)), (1, .int best11_), (2, .int least12_), (3, .int v13_)] [] := by
          intro h28_
          rw [if_neg h28_] at h21_
          refine z_aload_n C 0 dX7_bestToAsk_43 rfl rfl ?_
          refine fg7_37 C hkd dX7_bestToAsk_44 ?_
          refine z_iconst (v := 1) C dX7_bestToAsk_47 ic_1 ?_
          refine z_iadd C dX7_bestToAsk_48 ?_
          cases h21_
          exact K22_
        refine z_aload_n C 0 dX7_bestToAsk_24 rfl rfl ?_
        refine fg7_31 C hkd dX7_bestToAsk_25 ?_
        refine z_iload_n C 3 dX7_bestToAsk_28 rfl rfl ?_
        refine cr7_63 (set_a := (σ 21 6)) (person_a := v13_) C hkd  ⟨(Nat.le_of_ble_eq_true rfl), (Nat.le_of_ble_eq_true rfl)⟩ (Nat.le_of_ble_eq_true rfl) ⟨Nat.zero_le _, Nat.zero_le _⟩ dX7_bestToAsk_29 ?_
        refine cb_f C 43 dX7_bestToAsk_32 (by decide) (fun h25_ => ?_) (fun h25_ => ?_)
        · exact K23_ h25_
        · exact K24_ h25_
      refine z_ist C dX7_bestToAsk_49 rfl (Nat.le_of_ble_eq_true rfl) rfl ?_
      obtain ⟨y29_, h30_, h10_⟩ := lt_ h10_
      have h30_ := h30_.symm
      suffices K31_ : Z Θ 5 0 0 (zQ Θ ρ) σ 78 [(0, .ref (zA Θ 21)), (1, .int y29_.1), (2, .int y29_.2), (3, .int v13_), (4, .int x20_)] [] by
        have K32_ : (q11_isIn (σ 21 6) v13_ = true) ∧ ((best11_ = (-1)) ∨ (x20_ < least12_)) → Z Θ 5 0 0 (zQ Θ ρ) σ 73 [(4, .int x20_), (0, .ref (zA Θ 21)), (1, .int best11_), (2, .int least12_), (3, .int v13_)] [] := by
          intro h37_
          rw [if_pos h37_] at h30_
          refine z_iload_n C 4 dX7_bestToAsk_73 rfl rfl ?_
          refine z_istN C dX7_bestToAsk_74 rfl rfl (Nat.le_of_ble_eq_true rfl) rfl ?_
          refine z_iload C 1 dX7_bestToAsk_75 rfl ?_
          refine z_istN C dX7_bestToAsk_77 rfl rfl (Nat.le_of_ble_eq_true rfl) rfl ?_
          subst h30_
          refine Z.sub [3, 1, 0, 4, 2] rfl ?_
          exact K31_
        have K33_ : ¬ ((q11_isIn (σ 21 6) v13_ = true) ∧ ((best11_ = (-1)) ∨ (x20_ < least12_))) → Z Θ 5 0 0 (zQ Θ ρ) σ 78 [(4, .int x20_), (0, .ref (zA Θ 21)), (1, .int best11_), (2, .int least12_), (3, .int v13_)] [] := by
          intro h37_
          rw [if_neg h37_] at h30_
          subst h30_
          refine Z.sub [1, 2, 3, 4, 0] rfl ?_
          exact K31_
        refine z_aload_n C 1 dX7_bestToAsk_51 rfl rfl ?_
        refine fg7_31 C hkd dX7_bestToAsk_52 ?_
        refine z_iload_n C 4 dX7_bestToAsk_55 rfl rfl ?_
        refine cr7_63 (set_a := (σ 21 6)) (person_a := v13_) C hkd  ⟨(Nat.le_of_ble_eq_true rfl), (Nat.le_of_ble_eq_true rfl)⟩ (Nat.le_of_ble_eq_true rfl) ⟨Nat.zero_le _, Nat.zero_le _⟩ dX7_bestToAsk_56 ?_
        refine cb_f C 78 dX7_bestToAsk_59 (by decide) (fun h34_ => ?_) (fun h34_ => ?_)
        · refine z_iload_n C 2 dX7_bestToAsk_62 rfl rfl ?_
          refine z_iconst (v := (-1)) C dX7_bestToAsk_63 ic_m1 ?_
          refine c_eq_t C 73 dX7_bestToAsk_64 (by decide) (fun h35_ => ?_) (fun h35_ => ?_)
          · exact K32_ ⟨h34_, (Or.inl h35_)⟩
          · refine z_iload C 0 dX7_bestToAsk_67 rfl ?_
            refine z_iload_n C 3 dX7_bestToAsk_69 rfl rfl ?_
            refine c_lt_f C 78 dX7_bestToAsk_70 (by decide) (fun h36_ => ?_) (fun h36_ => ?_)
            · exact K32_ ⟨h34_, (Or.inr h36_)⟩
            · exact K33_ (fun n => (fun n => n.elim h35_ h36_) n.2)
        · exact K33_ (fun n => h34_ n.1)
      obtain ⟨v38_, h39_, h10_⟩ := lt_ h10_
      refine z_inc C 3 dX7_bestToAsk_78 rfl ic_1 h39_ (Nat.le_of_ble_eq_true rfl) rfl ?_
      refine z_goto C 16 dX7_bestToAsk_81 (by decide) ?_
      refine Z.sub [1, 2, 3, 0] rfl ?_
      exact h9_ _ _ _ h10_
    have K17_ : ¬ (v13_ < (σ 21 5)) → Z Θ 5 0 0 (zQ Θ ρ) σ 84 [(0, .ref (zA Θ 21)), (1, .int best11_), (2, .int least12_), (3, .int v13_)] [] := by
      intro h19_
      rw [if_neg h19_] at h10_
      cases h10_
      exact K7_
    refine z_iload_n C 3 dX7_bestToAsk_16 rfl rfl ?_
    refine z_aload_n C 0 dX7_bestToAsk_17 rfl rfl ?_
    refine fg7_27 C hkd dX7_bestToAsk_18 ?_
    refine c_lt_f C 84 dX7_bestToAsk_21 (by decide) (fun h18_ => ?_) (fun h18_ => ?_)
    · exact K16_ h18_
    · exact K17_ h18_
  refine z_iload_n C 1 dX7_bestToAsk_84 rfl rfl ?_
  cases hf
  subst hρ
  exact z_iret C dX7_bestToAsk_85
theorem c7_bestToAsk {l : Launch} {kd : List KD} {w : Wp} {σ : St} (hkd : kd = kdC) (hi : zI kd w) {r : Int32} (hf : q7_bestToAsk σ = some r) : zM l kd w yX7_bestToAsk cX7_bestToAsk 5 (some .int) rm7_bestToAsk [.ref (w.2.2.1 21)] σ (some (.int r), σ) := zM_of rfl hi (Nat.le_of_ble_eq_true rfl) (fun Θ hl hw C => by
  obtain ⟨Θ1, Θ2, Θ3, Θ4, Θ5⟩ := Θ
  cases hw
  exact p7_bestToAsk C hkd  hf rfl)
/-! LastLoaf.ask -/
theorem w_7_116 : Cond.code ({ cls := "LastLoaf$SecretBallots", name := "bestToAsk", desc := "()I" } : MethodName) prog_9_method_14_code (5 : Nat) (Option.some ClassFile.FieldType.int) ∈ TB := tb_in (lwt_7 (List.mem_of_getElem? (i := 116) (by decide +kernel))) rfl
theorem w_7_113 : Cond.methodLink "LastLoaf" (342 : Nat) ({ cls := "LastLoaf$SecretBallots", name := "bestToAsk", desc := "()I" } : MethodName) ∈ TB := tb_in (lwt_7 (List.mem_of_getElem? (i := 113) (by decide +kernel))) rfl
theorem w_7_114 : Cond.instanceMethod ({ cls := "LastLoaf$SecretBallots", name := "bestToAsk", desc := "()I" } : MethodName) ∈ TB := tb_in (lwt_7 (List.mem_of_getElem? (i := 114) (by decide +kernel))) rfl
theorem w_7_115 : Cond.selects "LastLoaf$SecretBallots" ({ cls := "LastLoaf$SecretBallots", name := "bestToAsk", desc := "()I" } : MethodName) ({ cls := "LastLoaf$SecretBallots", name := "bestToAsk", desc := "()I" } : MethodName) ∈ TB := tb_in (lwt_7 (List.mem_of_getElem? (i := 115) (by decide +kernel))) rfl
theorem cr11_342 {Θ : Tz} {cc : ByteArray} {nL kc ks : Nat} {ret : Option FieldType} {rm : Room} {Q : State → Prop} {σ : St} {pc : Nat} {lv : List (Nat × Value)} {st : List Value} (C : Zc Θ cc nL RX11 ret rm) (hkd : Θ.2.2.2.2.1 = kdC) {r : Int32} (hx : q7_bestToAsk σ = some r) (hrm : rm7_bestToAsk.frames + 1 ≤ rm.frames ∧ 8 + (5 + 11) + rm7_bestToAsk.locals ≤ rm.locals) (hcat : (st.map fun v => v.category).sum ≤ 8) (hk : kc ≤ rm.cells ∧ ks ≤ rm.slots) (hd : decode cc pc = .ok (.invokevirtual 342, 3)) (kk : Z Θ nL kc ks Q σ (pc + 3) lv (.int r :: st)) : Z Θ nL kc ks Q σ pc lv (.ref (zA Θ 21) :: st) := z_callV C 21 [] (some (.int r), σ) 0 (kC_21 hkd) rfl (c7_bestToAsk hkd (zc_inj C) hx) w_7_116 w_7_113 w_7_114 w_7_115 w_1_12 ⟨rfl, rfl, hrm.1, hrm.2⟩ (by decide +kernel) rfl rfl hcat hk hd kk
theorem dX11_ask_0 : decode cX11_ask 0 = .ok (.aload_n 0, 1) := by decide +kernel
theorem dX11_ask_1 : decode cX11_ask 1 = .ok (.invokevirtual 330, 3) := by decide +kernel
theorem dX11_ask_4 : decode cX11_ask 4 = .ok (.invokestatic 333, 3) := by decide +kernel
theorem dX11_ask_7 : decode cX11_ask 7 = .ok (.aload_n 0, 1) := by decide +kernel
theorem dX11_ask_8 : decode cX11_ask 8 = .ok (.getfield 84, 3) := by decide +kernel
theorem dX11_ask_11 : decode cX11_ask 11 = .ok (.invokevirtual 342, 3) := by decide +kernel
theorem dX11_ask_14 : decode cX11_ask 14 = .ok (.ireturn, 1) := by decide +kernel
def q11_ask (σ : St) : Option (Sum Nat Int32 × St) :=
  Option.bind (q11_hearBallots σ) fun x1_ =>
  thn (q11_needBallots x1_.1) x1_.2
  (Option.bind (q7_bestToAsk x1_.2) fun x5_ =>
  some (.inr x5_, x1_.2))
abbrev rm11_ask : Room := { frames := 8, cells := 1, slots := 6, locals := 185 }
set_option maxHeartbeats 4000000 in
set_option maxRecDepth 100000 in
theorem p11_ask {Θ : Tz} {σ : St} {ω : Om} (C : Zc Θ cX11_ask 1 RX11 (some .int) rm11_ask) (hkd : Θ.2.2.2.2.1 = kdC) (hlt : Θ.1.2.1.stackTraces = false) (het : ∀ x ∈ Θ.2.2.1.2.exceptionTable.toList, False) {r : (Sum Nat Int32 × St)} (hf : q11_ask σ = some r) (hω : ω = om (fun v => some (.int v)) r) : Z Θ 1 0 0 (zQX Θ ω 1 6) σ 0 [(0, .ref (zA Θ 0))] [] := by
  unfold q11_ask at hf
  refine z_aload_n C 0 dX11_ask_0 rfl rfl ?_
  obtain ⟨x1_, h2_, hf⟩ := ob hf
  refine cr11_330 C hkd  h2_ ⟨(Nat.le_of_ble_eq_true rfl), (Nat.le_of_ble_eq_true rfl)⟩ (Nat.le_of_ble_eq_true rfl) ⟨(Nat.le_of_ble_eq_true rfl), (Nat.le_of_ble_eq_true rfl)⟩ dX11_ask_1 ?_
  refine zx_callS C het [.int (b2i x1_.1)] (q11_needBallots x1_.1) 1 6 1 (c11_needBallots (heard_a := x1_.1) hkd (zc_inj C) hlt) w_7_89 w_7_87 w_7_88 w_1_1 ⟨rfl, rfl, (Nat.le_of_ble_eq_true rfl), (Nat.le_of_ble_eq_true rfl)⟩ (by decide +kernel) rfl rfl (Nat.le_of_ble_eq_true rfl) ⟨(Nat.le_of_ble_eq_true rfl), (Nat.le_of_ble_eq_true rfl)⟩ dX11_ask_4 ⟨(Nat.le_of_ble_eq_true rfl), (Nat.le_of_ble_eq_true rfl)⟩ (fun e9 h4_ => by rw [h4_] at hf; cases hf; exact hω) (fun h3_ => ?_)
  rw [h3_] at hf
  replace hf := thn_x hf
  refine z_aload_n C 0 dX11_ask_7 rfl rfl ?_
  refine fg11_84 C hkd dX11_ask_8 ?_
  obtain ⟨x5_, h6_, hf⟩ := ob hf
  refine cr11_342 C hkd  h6_ ⟨(Nat.le_of_ble_eq_true rfl), (Nat.le_of_ble_eq_true rfl)⟩ (Nat.le_of_ble_eq_true rfl) ⟨(Nat.le_of_ble_eq_true rfl), (Nat.le_of_ble_eq_true rfl)⟩ dX11_ask_11 ?_
  cases hf
  subst hω
  exact zx_iret C ⟨(Nat.le_of_ble_eq_true rfl), (Nat.le_of_ble_eq_true rfl)⟩ dX11_ask_14
theorem c11_ask {l : Launch} {kd : List KD} {w : Wp} {σ : St} (hkd : kd = kdC) (hi : zI kd w) (hlt : l.stackTraces = false) {r : (Sum Nat Int32 × St)} (hf : q11_ask σ = some r) : zX l kd w yX11_ask cX11_ask 1 (some .int) rm11_ask [.ref (w.2.2.1 0)] σ (om (fun v => some (.int v)) r) 1 6 := zX_of rfl hi (Nat.le_of_ble_eq_true rfl) (fun Θ hl hw C het => by
  obtain ⟨Θ1, Θ2, Θ3, Θ4, Θ5⟩ := Θ
  cases hw
  cases hl
  exact p11_ask C hkd hlt het  hf rfl)
/-! LastLoaf.weightOf -/
theorem dX11_weightOf_0 : decode cX11_weightOf 0 = .ok (.aload_n 0, 1) := by decide +kernel
theorem dX11_weightOf_1 : decode cX11_weightOf 1 = .ok (.getfield 19, 3) := by decide +kernel
theorem dX11_weightOf_4 : decode cX11_weightOf 4 = .ok (.getfield 174, 3) := by decide +kernel
theorem dX11_weightOf_7 : decode cX11_weightOf 7 = .ok (.iload_n 1, 1) := by decide +kernel
theorem dX11_weightOf_8 : decode cX11_weightOf 8 = .ok (.iaload, 1) := by decide +kernel
theorem dX11_weightOf_9 : decode cX11_weightOf 9 = .ok (.ifCond .le 7, 3) := by decide +kernel
theorem dX11_weightOf_12 : decode cX11_weightOf 12 = .ok (.iconst 2, 1) := by decide +kernel
theorem dX11_weightOf_13 : decode cX11_weightOf 13 = .ok (.goto 4, 3) := by decide +kernel
theorem dX11_weightOf_16 : decode cX11_weightOf 16 = .ok (.iconst 1, 1) := by decide +kernel
theorem dX11_weightOf_17 : decode cX11_weightOf 17 = .ok (.ireturn, 1) := by decide +kernel
def q11_weightOf (σ : St) (person_a : Int32) : Option Int32 :=
  Option.bind (Option.bind (ag σ (44 + 4) 6 person_a) fun x6_ =>
  if 0 < x6_ then (some (2 : Int32)) else (some (1 : Int32))) fun x1_ =>
  some x1_
abbrev rm11_weightOf : Room := { frames := 0, cells := 0, slots := 0, locals := 0 }
set_option maxHeartbeats 4000000 in
set_option maxRecDepth 100000 in
theorem p11_weightOf {Θ : Tz} {σ : St} {ρ : Option Value × St} (C : Zc Θ cX11_weightOf 2 RX11 (some .int) rm11_weightOf) (hkd : Θ.2.2.2.2.1 = kdC) {person_a : Int32} {r : Int32} (hf : q11_weightOf σ person_a = some r) (hρ : ρ = (some (.int r), σ)) : Z Θ 2 0 0 (zQ Θ ρ) σ 0 [(0, .ref (zA Θ 0)), (1, .int person_a)] [] := by
  unfold q11_weightOf at hf
  obtain ⟨x1_, h2_, hf⟩ := ob hf
  suffices K3_ : Z Θ 2 0 0 (zQ Θ ρ) σ 17 [(0, .ref (zA Θ 0)), (1, .int person_a)] [.int x1_] by
    refine z_aload_n C 0 dX11_weightOf_0 rfl rfl ?_
    refine fg11_19 C hkd dX11_weightOf_1 ?_
    refine fg11_174 C hkd isV_44 dX11_weightOf_4 ?_
    refine z_iload_n C 1 dX11_weightOf_7 rfl rfl ?_
    obtain ⟨x6_, h7_, h2_⟩ := ob h2_
    refine z_ag C h7_ (kV_4 hkd isV_44) dX11_weightOf_8 ?_
    have K4_ : 0 < x6_ → Z Θ 2 0 0 (zQ Θ ρ) σ 12 [(0, .ref (zA Θ 0)), (1, .int person_a)] [] := by
      intro h9_
      rw [if_pos h9_] at h2_
      refine z_iconst (v := 2) C dX11_weightOf_12 ic_2 ?_
      refine z_goto C 17 dX11_weightOf_13 (by decide) ?_
      cases h2_
      exact K3_
    have K5_ : ¬ (0 < x6_) → Z Θ 2 0 0 (zQ Θ ρ) σ 16 [(0, .ref (zA Θ 0)), (1, .int person_a)] [] := by
      intro h9_
      rw [if_neg h9_] at h2_
      refine z_iconst (v := 1) C dX11_weightOf_16 ic_1 ?_
      cases h2_
      exact K3_
    refine c0_gt_f C 16 dX11_weightOf_9 (by decide) (fun h8_ => ?_) (fun h8_ => ?_)
    · exact K4_ h8_
    · exact K5_ h8_
  cases hf
  subst hρ
  exact z_iret C dX11_weightOf_17
theorem c11_weightOf {l : Launch} {kd : List KD} {w : Wp} {σ : St} {person_a : Int32} (hkd : kd = kdC) (hi : zI kd w) {r : Int32} (hf : q11_weightOf σ person_a = some r) : zM l kd w yX11_weightOf cX11_weightOf 2 (some .int) rm11_weightOf [.ref (w.2.2.1 0), .int person_a] σ (some (.int r), σ) := zM_of rfl hi (Nat.le_of_ble_eq_true rfl) (fun Θ hl hw C => by
  obtain ⟨Θ1, Θ2, Θ3, Θ4, Θ5⟩ := Θ
  cases hw
  exact p11_weightOf C hkd  hf rfl)
/-! LastLoaf.hasMost -/
theorem w_4_6 : Cond.code ({ cls := "LastLoaf", name := "weightOf", desc := "(I)I" } : MethodName) prog_1_method_82_code (2 : Nat) (Option.some ClassFile.FieldType.int) ∈ TB := tb_in (lwt_4 (List.mem_of_getElem? (i := 6) (by decide +kernel))) rfl
theorem w_4_3 : Cond.methodLink "LastLoaf" (358 : Nat) ({ cls := "LastLoaf", name := "weightOf", desc := "(I)I" } : MethodName) ∈ TB := tb_in (lwt_4 (List.mem_of_getElem? (i := 3) (by decide +kernel))) rfl
theorem w_4_5 : Cond.instanceMethod ({ cls := "LastLoaf", name := "weightOf", desc := "(I)I" } : MethodName) ∈ TB := tb_in (lwt_4 (List.mem_of_getElem? (i := 5) (by decide +kernel))) rfl
theorem ws_LastLoaf_weightOf_I_I : Cond.selects "LastLoaf" (⟨"LastLoaf", "weightOf", "(I)I"⟩ : MethodName) (⟨"LastLoaf", "weightOf", "(I)I"⟩ : MethodName) ∈ TB := tb_in (List.mem_append_left _ (List.mem_of_getElem? (i := 2) (by decide +kernel))) rfl
theorem cr11_358 {Θ : Tz} {cc : ByteArray} {nL kc ks : Nat} {ret : Option FieldType} {rm : Room} {Q : State → Prop} {σ : St} {pc : Nat} {lv : List (Nat × Value)} {st : List Value} (C : Zc Θ cc nL RX11 ret rm) (hkd : Θ.2.2.2.2.1 = kdC) {person_a : Int32} {r : Int32} (hx : q11_weightOf σ person_a = some r) (hrm : rm11_weightOf.frames + 1 ≤ rm.frames ∧ 8 + (2 + 11) + rm11_weightOf.locals ≤ rm.locals) (hcat : (st.map fun v => v.category).sum ≤ 8) (hk : kc ≤ rm.cells ∧ ks ≤ rm.slots) (hd : decode cc pc = .ok (.invokevirtual 358, 3)) (kk : Z Θ nL kc ks Q σ (pc + 3) lv (.int r :: st)) : Z Θ nL kc ks Q σ pc lv (.int person_a :: .ref (zA Θ 0) :: st) := z_callV C 0 [.int person_a] (some (.int r), σ) 1 (kC_0 hkd) rfl (c11_weightOf (person_a := person_a) hkd (zc_inj C) hx) w_4_6 w_4_3 w_4_5 ws_LastLoaf_weightOf_I_I w_1_1 ⟨rfl, rfl, hrm.1, hrm.2⟩ (by decide +kernel) rfl rfl hcat hk hd kk
theorem dX11_hasMost_0 : decode cX11_hasMost 0 = .ok (.iconst 0, 1) := by decide +kernel
theorem dX11_hasMost_1 : decode cX11_hasMost 1 = .ok (.istore_n 2, 1) := by decide +kernel
theorem dX11_hasMost_2 : decode cX11_hasMost 2 = .ok (.iconst 0, 1) := by decide +kernel
theorem dX11_hasMost_3 : decode cX11_hasMost 3 = .ok (.istore_n 3, 1) := by decide +kernel
theorem dX11_hasMost_4 : decode cX11_hasMost 4 = .ok (.iload_n 3, 1) := by decide +kernel
theorem dX11_hasMost_5 : decode cX11_hasMost 5 = .ok (.aload_n 0, 1) := by decide +kernel
theorem dX11_hasMost_6 : decode cX11_hasMost 6 = .ok (.getfield 19, 3) := by decide +kernel
theorem dX11_hasMost_9 : decode cX11_hasMost 9 = .ok (.getfield 355, 3) := by decide +kernel
theorem dX11_hasMost_12 : decode cX11_hasMost 12 = .ok (.if_icmp .ge 48, 3) := by decide +kernel
theorem dX11_hasMost_15 : decode cX11_hasMost 15 = .ok (.aload_n 0, 1) := by decide +kernel
theorem dX11_hasMost_16 : decode cX11_hasMost 16 = .ok (.getfield 19, 3) := by decide +kernel
theorem dX11_hasMost_19 : decode cX11_hasMost 19 = .ok (.getfield 171, 3) := by decide +kernel
theorem dX11_hasMost_22 : decode cX11_hasMost 22 = .ok (.iload_n 3, 1) := by decide +kernel
theorem dX11_hasMost_23 : decode cX11_hasMost 23 = .ok (.invokestatic 167, 3) := by decide +kernel
theorem dX11_hasMost_26 : decode cX11_hasMost 26 = .ok (.ifCond .ne 28, 3) := by decide +kernel
theorem dX11_hasMost_29 : decode cX11_hasMost 29 = .ok (.iload_n 2, 1) := by decide +kernel
theorem dX11_hasMost_30 : decode cX11_hasMost 30 = .ok (.iload_n 1, 1) := by decide +kernel
theorem dX11_hasMost_31 : decode cX11_hasMost 31 = .ok (.iload_n 3, 1) := by decide +kernel
theorem dX11_hasMost_32 : decode cX11_hasMost 32 = .ok (.invokestatic 167, 3) := by decide +kernel
theorem dX11_hasMost_35 : decode cX11_hasMost 35 = .ok (.ifCond .eq 11, 3) := by decide +kernel
theorem dX11_hasMost_38 : decode cX11_hasMost 38 = .ok (.aload_n 0, 1) := by decide +kernel
theorem dX11_hasMost_39 : decode cX11_hasMost 39 = .ok (.iload_n 3, 1) := by decide +kernel
theorem dX11_hasMost_40 : decode cX11_hasMost 40 = .ok (.invokevirtual 358, 3) := by decide +kernel
theorem dX11_hasMost_43 : decode cX11_hasMost 43 = .ok (.goto 9, 3) := by decide +kernel
theorem dX11_hasMost_46 : decode cX11_hasMost 46 = .ok (.aload_n 0, 1) := by decide +kernel
theorem dX11_hasMost_47 : decode cX11_hasMost 47 = .ok (.iload_n 3, 1) := by decide +kernel
theorem dX11_hasMost_48 : decode cX11_hasMost 48 = .ok (.invokevirtual 358, 3) := by decide +kernel
theorem dX11_hasMost_51 : decode cX11_hasMost 51 = .ok (.ineg, 1) := by decide +kernel
theorem dX11_hasMost_52 : decode cX11_hasMost 52 = .ok (.iadd, 1) := by decide +kernel
theorem dX11_hasMost_53 : decode cX11_hasMost 53 = .ok (.istore_n 2, 1) := by decide +kernel
theorem dX11_hasMost_54 : decode cX11_hasMost 54 = .ok (.iinc 3 1, 3) := by decide +kernel
theorem dX11_hasMost_57 : decode cX11_hasMost 57 = .ok (.goto (-53), 3) := by decide +kernel
theorem dX11_hasMost_60 : decode cX11_hasMost 60 = .ok (.iload_n 2, 1) := by decide +kernel
theorem dX11_hasMost_61 : decode cX11_hasMost 61 = .ok (.ifCond .le 7, 3) := by decide +kernel
theorem dX11_hasMost_64 : decode cX11_hasMost 64 = .ok (.iconst 1, 1) := by decide +kernel
theorem dX11_hasMost_65 : decode cX11_hasMost 65 = .ok (.goto 4, 3) := by decide +kernel
theorem dX11_hasMost_68 : decode cX11_hasMost 68 = .ok (.iconst 0, 1) := by decide +kernel
theorem dX11_hasMost_69 : decode cX11_hasMost 69 = .ok (.ireturn, 1) := by decide +kernel
def q11_hasMost (σ : St) (house_a : Int32) : Option Bool :=
  Option.bind (loop2 (fun rec4_ (lead7_ : Int32) (p8_ : Int32) =>
  if p8_ < (σ 44 8) then
  Option.bind (if ¬ (q11_isIn (σ 44 10) p8_ = true) then (Option.bind (if q11_isIn house_a p8_ = true then (Option.bind (q11_weightOf σ p8_) fun x28_ =>
  some x28_) else (Option.bind (q11_weightOf σ p8_) fun x30_ =>
  some (-x30_))) fun x22_ =>
  lt (lead7_ + x22_) fun lead33_ =>
  some (lead33_)) else (some (lead7_))) fun y15_ =>
  lt (p8_ + 1) fun p35_ =>
  rec4_ y15_ p35_
  else (some (lead7_, p8_))) fuelN (0 : Int32) (0 : Int32)) fun y1_ =>
  some (decide (0 < y1_.1))
abbrev rm11_hasMost : Room := { frames := 1, cells := 0, slots := 0, locals := 21 }
set_option maxHeartbeats 4000000 in
set_option maxRecDepth 100000 in
theorem p11_hasMost {Θ : Tz} {σ : St} {ρ : Option Value × St} (C : Zc Θ cX11_hasMost 4 RX11 (some .boolean) rm11_hasMost) (hkd : Θ.2.2.2.2.1 = kdC) {house_a : Int32} {r : Bool} (hf : q11_hasMost σ house_a = some r) (hρ : ρ = (some (.int (b2i r)), σ)) : Z Θ 4 0 0 (zQ Θ ρ) σ 0 [(0, .ref (zA Θ 0)), (1, .int house_a)] [] := by
  unfold q11_hasMost at hf
  refine z_iconst (v := 0) C dX11_hasMost_0 ic_0 ?_
  refine z_istN C dX11_hasMost_1 rfl rfl (Nat.le_of_ble_eq_true rfl) rfl ?_
  refine z_iconst (v := 0) C dX11_hasMost_2 ic_0 ?_
  refine z_istN C dX11_hasMost_3 rfl rfl (Nat.le_of_ble_eq_true rfl) rfl ?_
  refine Z.sub [2, 3, 1, 0] rfl ?_
  obtain ⟨y1_, h2_, hf⟩ := ob hf
  suffices K3_ : Z Θ 4 0 0 (zQ Θ ρ) σ 60 [(0, .ref (zA Θ 0)), (1, .int house_a), (2, .int y1_.1), (3, .int y1_.2)] [] by
    refine loop2_Z (P := fun (lead7_ : Int32) (p8_ : Int32) => Z Θ 4 0 0 (zQ Θ ρ) σ 4 [(0, .ref (zA Θ 0)), (1, .int house_a), (2, .int lead7_), (3, .int p8_)] []) ?_ fuelN (0 : Int32) (0 : Int32) h2_
    clear h2_
    intro rec4_ lead7_ p8_ h5_ h6_
    have K11_ : p8_ < (σ 44 8) → Z Θ 4 0 0 (zQ Θ ρ) σ 15 [(0, .ref (zA Θ 0)), (1, .int house_a), (2, .int lead7_), (3, .int p8_)] [] := by
      intro h14_
      rw [if_pos h14_] at h6_
      obtain ⟨y15_, h16_, h6_⟩ := ob h6_
      suffices K17_ : Z Θ 4 0 0 (zQ Θ ρ) σ 54 [(0, .ref (zA Θ 0)), (1, .int house_a), (2, .int y15_), (3, .int p8_)] [] by
        have K18_ : ¬ (q11_isIn (σ 44 10) p8_ = true) → Z Θ 4 0 0 (zQ Θ ρ) σ 29 [(0, .ref (zA Θ 0)), (1, .int house_a), (2, .int lead7_), (3, .int p8_)] [] := by
          intro h21_
          rw [if_pos h21_] at h16_
          refine z_iload_n C 2 dX11_hasMost_29 rfl rfl ?_
          obtain ⟨x22_, h23_, h16_⟩ := ob h16_
          suffices K24_ : Z Θ 4 0 0 (zQ Θ ρ) σ 52 [(0, .ref (zA Θ 0)), (1, .int house_a), (2, .int lead7_), (3, .int p8_)] [.int x22_, .int lead7_] by
            have K25_ : q11_isIn house_a p8_ = true → Z Θ 4 0 0 (zQ Θ ρ) σ 38 [(0, .ref (zA Θ 0)), (1, .int house_a), (2, .int lead7_), (3, .int p8_)] [.int lead7_] := by
              intro h32_
              rw [if_pos h32_] at h23_
              refine z_aload_n C 0 dX11_hasMost_38 rfl rfl ?_
              refine z_iload_n C 3 dX11_hasMost_39 rfl rfl ?_
              obtain ⟨x28_, h29_, h23_⟩ := ob h23_
              refine cr11_358 (person_a := p8_) C hkd  h29_ ⟨(Nat.le_of_ble_eq_true rfl), (Nat.le_of_ble_eq_true rfl)⟩ (Nat.le_of_ble_eq_true rfl) ⟨Nat.zero_le _, Nat.zero_le _⟩ dX11_hasMost_40 ?_
              refine z_goto C 52 dX11_hasMost_43 (by decide) ?_
              cases h23_
              exact K24_
            have K26_ : ¬ (q11_isIn house_a p8_ = true) → Z Θ 4 0 0 (zQ Θ ρ) σ 46 [(0, .ref (zA Θ 0)), (1, .int house_a), (2, .int lead7_), (3, .int p8_)] [.int lead7_] := by
              intro h32_
              rw [if_neg h32_] at h23_
              refine z_aload_n C 0 dX11_hasMost_46 rfl rfl ?_
              refine z_iload_n C 3 dX11_hasMost_47 rfl rfl ?_
              obtain ⟨x30_, h31_, h23_⟩ := ob h23_
              refine cr11_358 (person_a := p8_) C hkd  h31_ ⟨(Nat.le_of_ble_eq_true rfl), (Nat.le_of_ble_eq_true rfl)⟩ (Nat.le_of_ble_eq_true rfl) ⟨Nat.zero_le _, Nat.zero_le _⟩ dX11_hasMost_48 ?_
              refine z_ineg C dX11_hasMost_51 ?_
              cases h23_
              exact K24_
            refine z_iload_n C 1 dX11_hasMost_30 rfl rfl ?_
            refine z_iload_n C 3 dX11_hasMost_31 rfl rfl ?_
            refine cr11_167 (set_a := house_a) (person_a := p8_) C hkd  ⟨(Nat.le_of_ble_eq_true rfl), (Nat.le_of_ble_eq_true rfl)⟩ (Nat.le_of_ble_eq_true rfl) ⟨Nat.zero_le _, Nat.zero_le _⟩ dX11_hasMost_32 ?_
            refine cb_f C 46 dX11_hasMost_35 (by decide) (fun h27_ => ?_) (fun h27_ => ?_)
            · exact K25_ h27_
            · exact K26_ h27_
          refine z_iadd C dX11_hasMost_52 ?_
          obtain ⟨lead33_, h34_, h16_⟩ := lt_ h16_
          refine z_istN C dX11_hasMost_53 h34_ rfl (Nat.le_of_ble_eq_true rfl) rfl ?_
          cases h16_
          refine Z.sub [1, 2, 0, 3] rfl ?_
          exact K17_
        have K19_ : ¬ (¬ (q11_isIn (σ 44 10) p8_ = true)) → Z Θ 4 0 0 (zQ Θ ρ) σ 54 [(0, .ref (zA Θ 0)), (1, .int house_a), (2, .int lead7_), (3, .int p8_)] [] := by
          intro h21_
          rw [if_neg h21_] at h16_
          cases h16_
          exact K17_
        refine z_aload_n C 0 dX11_hasMost_15 rfl rfl ?_
        refine fg11_19 C hkd dX11_hasMost_16 ?_
        refine fg11_171 C hkd isV_44 dX11_hasMost_19 ?_
        refine z_iload_n C 3 dX11_hasMost_22 rfl rfl ?_
        refine cr11_167 (set_a := (σ 44 10)) (person_a := p8_) C hkd  ⟨(Nat.le_of_ble_eq_true rfl), (Nat.le_of_ble_eq_true rfl)⟩ (Nat.le_of_ble_eq_true rfl) ⟨Nat.zero_le _, Nat.zero_le _⟩ dX11_hasMost_23 ?_
        refine cb_t C 54 dX11_hasMost_26 (by decide) (fun h20_ => ?_) (fun h20_ => ?_)
        · exact K19_ (fun n => n h20_)
        · exact K18_ h20_
      obtain ⟨p35_, h36_, h6_⟩ := lt_ h6_
      refine z_inc C 3 dX11_hasMost_54 rfl ic_1 h36_ (Nat.le_of_ble_eq_true rfl) rfl ?_
      refine z_goto C 4 dX11_hasMost_57 (by decide) ?_
      refine Z.sub [1, 2, 3, 0] rfl ?_
      exact h5_ _ _ h6_
    have K12_ : ¬ (p8_ < (σ 44 8)) → Z Θ 4 0 0 (zQ Θ ρ) σ 60 [(0, .ref (zA Θ 0)), (1, .int house_a), (2, .int lead7_), (3, .int p8_)] [] := by
      intro h14_
      rw [if_neg h14_] at h6_
      cases h6_
      exact K3_
    refine z_iload_n C 3 dX11_hasMost_4 rfl rfl ?_
    refine z_aload_n C 0 dX11_hasMost_5 rfl rfl ?_
    refine fg11_19 C hkd dX11_hasMost_6 ?_
    refine fg11_355 C hkd isV_44 dX11_hasMost_9 ?_
    refine c_lt_f C 60 dX11_hasMost_12 (by decide) (fun h13_ => ?_) (fun h13_ => ?_)
    · exact K11_ h13_
    · exact K12_ h13_
  suffices K37_ : Z Θ 4 0 0 (zQ Θ ρ) σ 69 [(0, .ref (zA Θ 0)), (1, .int house_a), (2, .int y1_.1), (3, .int y1_.2)] [.int (b2i (decide (0 < y1_.1)))] by
    have K38_ : 0 < y1_.1 → Z Θ 4 0 0 (zQ Θ ρ) σ 64 [(0, .ref (zA Θ 0)), (1, .int house_a), (2, .int y1_.1), (3, .int y1_.2)] [] := by
      intro h41_
      rw [decide_eq_true h41_] at K37_
      refine z_iconst (v := 1) C dX11_hasMost_64 ic_1 ?_
      refine z_goto C 69 dX11_hasMost_65 (by decide) ?_
      exact K37_
    have K39_ : ¬ (0 < y1_.1) → Z Θ 4 0 0 (zQ Θ ρ) σ 68 [(0, .ref (zA Θ 0)), (1, .int house_a), (2, .int y1_.1), (3, .int y1_.2)] [] := by
      intro h41_
      rw [decide_eq_false h41_] at K37_
      refine z_iconst (v := 0) C dX11_hasMost_68 ic_0 ?_
      exact K37_
    refine z_iload_n C 2 dX11_hasMost_60 rfl rfl ?_
    refine c0_gt_f C 68 dX11_hasMost_61 (by decide) (fun h40_ => ?_) (fun h40_ => ?_)
    · exact K38_ h40_
    · exact K39_ h40_
  cases hf
  subst hρ
  exact z_zret C (b2i_narrow _) dX11_hasMost_69
theorem c11_hasMost {l : Launch} {kd : List KD} {w : Wp} {σ : St} {house_a : Int32} (hkd : kd = kdC) (hi : zI kd w) {r : Bool} (hf : q11_hasMost σ house_a = some r) : zM l kd w yX11_hasMost cX11_hasMost 4 (some .boolean) rm11_hasMost [.ref (w.2.2.1 0), .int house_a] σ (some (.int (b2i r)), σ) := zM_of rfl hi (Nat.le_of_ble_eq_true rfl) (fun Θ hl hw C => by
  obtain ⟨Θ1, Θ2, Θ3, Θ4, Θ5⟩ := Θ
  cases hw
  exact p11_hasMost C hkd  hf rfl)
/-! LastLoaf.carries -/
theorem w_4_2 : Cond.code ({ cls := "LastLoaf", name := "hasMost", desc := "(I)Z" } : MethodName) prog_1_method_84_code (4 : Nat) (Option.some ClassFile.FieldType.boolean) ∈ TB := tb_in (lwt_4 (List.mem_of_getElem? (i := 2) (by decide +kernel))) rfl
theorem w_3_239 : Cond.methodLink "LastLoaf" (345 : Nat) ({ cls := "LastLoaf", name := "hasMost", desc := "(I)Z" } : MethodName) ∈ TB := tb_in (lwt_3 (List.mem_of_getElem? (i := 239) (by decide +kernel))) rfl
theorem w_4_1 : Cond.instanceMethod ({ cls := "LastLoaf", name := "hasMost", desc := "(I)Z" } : MethodName) ∈ TB := tb_in (lwt_4 (List.mem_of_getElem? (i := 1) (by decide +kernel))) rfl
theorem ws_LastLoaf_hasMost_I_Z : Cond.selects "LastLoaf" (⟨"LastLoaf", "hasMost", "(I)Z"⟩ : MethodName) (⟨"LastLoaf", "hasMost", "(I)Z"⟩ : MethodName) ∈ TB := tb_in (List.mem_append_left _ (List.mem_of_getElem? (i := 1) (by decide +kernel))) rfl
theorem cr11_345 {Θ : Tz} {cc : ByteArray} {nL kc ks : Nat} {ret : Option FieldType} {rm : Room} {Q : State → Prop} {σ : St} {pc : Nat} {lv : List (Nat × Value)} {st : List Value} (C : Zc Θ cc nL RX11 ret rm) (hkd : Θ.2.2.2.2.1 = kdC) {house_a : Int32} {r : Bool} (hx : q11_hasMost σ house_a = some r) (hrm : rm11_hasMost.frames + 1 ≤ rm.frames ∧ 8 + (4 + 11) + rm11_hasMost.locals ≤ rm.locals) (hcat : (st.map fun v => v.category).sum ≤ 8) (hk : kc ≤ rm.cells ∧ ks ≤ rm.slots) (hd : decode cc pc = .ok (.invokevirtual 345, 3)) (kk : Z Θ nL kc ks Q σ (pc + 3) lv (.int (b2i r) :: st)) : Z Θ nL kc ks Q σ pc lv (.int house_a :: .ref (zA Θ 0) :: st) := z_callV C 0 [.int house_a] (some (.int (b2i r)), σ) 1 (kC_0 hkd) rfl (c11_hasMost (house_a := house_a) hkd (zc_inj C) hx) w_4_2 w_3_239 w_4_1 ws_LastLoaf_hasMost_I_Z w_1_1 ⟨rfl, rfl, hrm.1, hrm.2⟩ (by decide +kernel) rfl rfl hcat hk hd kk
theorem dX11_carries_0 : decode cX11_carries 0 = .ok (.aload_n 0, 1) := by decide +kernel
theorem dX11_carries_1 : decode cX11_carries 1 = .ok (.iload_n 1, 1) := by decide +kernel
theorem dX11_carries_2 : decode cX11_carries 2 = .ok (.invokevirtual 345, 3) := by decide +kernel
theorem dX11_carries_5 : decode cX11_carries 5 = .ok (.ireturn, 1) := by decide +kernel
def q11_carries (σ : St) (house_a : Int32) : Option Bool :=
  Option.bind (q11_hasMost σ house_a) fun x1_ =>
  some x1_
abbrev rm11_carries : Room := { frames := 2, cells := 0, slots := 0, locals := 44 }
set_option maxHeartbeats 4000000 in
set_option maxRecDepth 100000 in
theorem p11_carries {Θ : Tz} {σ : St} {ρ : Option Value × St} (C : Zc Θ cX11_carries 2 RX11 (some .boolean) rm11_carries) (hkd : Θ.2.2.2.2.1 = kdC) {house_a : Int32} {r : Bool} (hf : q11_carries σ house_a = some r) (hρ : ρ = (some (.int (b2i r)), σ)) : Z Θ 2 0 0 (zQ Θ ρ) σ 0 [(0, .ref (zA Θ 0)), (1, .int house_a)] [] := by
  unfold q11_carries at hf
  refine z_aload_n C 0 dX11_carries_0 rfl rfl ?_
  refine z_iload_n C 1 dX11_carries_1 rfl rfl ?_
  obtain ⟨x1_, h2_, hf⟩ := ob hf
  refine cr11_345 (house_a := house_a) C hkd  h2_ ⟨(Nat.le_of_ble_eq_true rfl), (Nat.le_of_ble_eq_true rfl)⟩ (Nat.le_of_ble_eq_true rfl) ⟨Nat.zero_le _, Nat.zero_le _⟩ dX11_carries_2 ?_
  cases hf
  subst hρ
  exact z_zret C (b2i_narrow _) dX11_carries_5
theorem c11_carries {l : Launch} {kd : List KD} {w : Wp} {σ : St} {house_a : Int32} (hkd : kd = kdC) (hi : zI kd w) {r : Bool} (hf : q11_carries σ house_a = some r) : zM l kd w yX11_carries cX11_carries 2 (some .boolean) rm11_carries [.ref (w.2.2.1 0), .int house_a] σ (some (.int (b2i r)), σ) := zM_of rfl hi (Nat.le_of_ble_eq_true rfl) (fun Θ hl hw C => by
  obtain ⟨Θ1, Θ2, Θ3, Θ4, Θ5⟩ := Θ
  cases hw
  exact p11_carries C hkd  hf rfl)
/-! LastLoaf$Village.everybody -/
theorem dX10_everybody_0 : decode cX10_everybody 0 = .ok (.iconst 1, 1) := by decide +kernel
theorem dX10_everybody_1 : decode cX10_everybody 1 = .ok (.aload_n 0, 1) := by decide +kernel
theorem dX10_everybody_2 : decode cX10_everybody 2 = .ok (.getfield 40, 3) := by decide +kernel
theorem dX10_everybody_5 : decode cX10_everybody 5 = .ok (.ishl, 1) := by decide +kernel
theorem dX10_everybody_6 : decode cX10_everybody 6 = .ok (.iconst 1, 1) := by decide +kernel
theorem dX10_everybody_7 : decode cX10_everybody 7 = .ok (.isub, 1) := by decide +kernel
theorem dX10_everybody_8 : decode cX10_everybody 8 = .ok (.ireturn, 1) := by decide +kernel
def q10_everybody (σ : St) (th : Nat) : Int32 :=
  (shl 1 (σ th 8)) - 1
abbrev rm10_everybody : Room := { frames := 0, cells := 0, slots := 0, locals := 0 }
set_option maxHeartbeats 4000000 in
set_option maxRecDepth 100000 in
theorem p10_everybody {Θ : Tz} {σ : St} {ρ : Option Value × St} (C : Zc Θ cX10_everybody 1 RX10 (some .int) rm10_everybody) (hkd : Θ.2.2.2.2.1 = kdC) {th : Nat} (hth : isV th) {r : Int32} (hf : q10_everybody σ th = r) (hρ : ρ = (some (.int r), σ)) : Z Θ 1 0 0 (zQ Θ ρ) σ 0 [(0, .ref (zA Θ th))] [] := by
  unfold q10_everybody at hf
  refine z_iconst (v := 1) C dX10_everybody_0 ic_1 ?_
  refine z_aload_n C 0 dX10_everybody_1 rfl rfl ?_
  refine fg10_40 C hkd hth dX10_everybody_2 ?_
  refine z_shl C dX10_everybody_5 ?_
  refine z_iconst (v := 1) C dX10_everybody_6 ic_1 ?_
  refine z_isub C dX10_everybody_7 ?_
  subst hf
  subst hρ
  exact z_iret C dX10_everybody_8
theorem c10_everybody {l : Launch} {kd : List KD} {w : Wp} {σ : St} {th : Nat} (hkd : kd = kdC) (hi : zI kd w) (hth : isV th) : zM l kd w yX10_everybody cX10_everybody 1 (some .int) rm10_everybody [.ref (w.2.2.1 th)] σ (some (.int (q10_everybody σ th)), σ) := zM_of rfl hi (Nat.le_of_ble_eq_true rfl) (fun Θ hl hw C => by
  obtain ⟨Θ1, Θ2, Θ3, Θ4, Θ5⟩ := Θ
  cases hw
  exact p10_everybody C hkd hth rfl rfl)
/-! LastLoaf$Village.present -/
theorem w_4_23 : Cond.code ({ cls := "LastLoaf$Village", name := "everybody", desc := "()I" } : MethodName) prog_12_method_3_code (1 : Nat) (Option.some ClassFile.FieldType.int) ∈ TB := tb_in (lwt_4 (List.mem_of_getElem? (i := 23) (by decide +kernel))) rfl
theorem w_4_20 : Cond.methodLink "LastLoaf$Village" (84 : Nat) ({ cls := "LastLoaf$Village", name := "everybody", desc := "()I" } : MethodName) ∈ TB := tb_in (lwt_4 (List.mem_of_getElem? (i := 20) (by decide +kernel))) rfl
theorem w_4_21 : Cond.instanceMethod ({ cls := "LastLoaf$Village", name := "everybody", desc := "()I" } : MethodName) ∈ TB := tb_in (lwt_4 (List.mem_of_getElem? (i := 21) (by decide +kernel))) rfl
theorem w_4_22 : Cond.selects "LastLoaf$Village" ({ cls := "LastLoaf$Village", name := "everybody", desc := "()I" } : MethodName) ({ cls := "LastLoaf$Village", name := "everybody", desc := "()I" } : MethodName) ∈ TB := tb_in (lwt_4 (List.mem_of_getElem? (i := 22) (by decide +kernel))) rfl
theorem cr10_84 {Θ : Tz} {cc : ByteArray} {nL kc ks : Nat} {ret : Option FieldType} {rm : Room} {Q : State → Prop} {σ : St} {pc : Nat} {lv : List (Nat × Value)} {st : List Value} (C : Zc Θ cc nL RX10 ret rm) (hkd : Θ.2.2.2.2.1 = kdC) {th : Nat} (hth : isV th) (hrm : rm10_everybody.frames + 1 ≤ rm.frames ∧ 8 + (1 + 11) + rm10_everybody.locals ≤ rm.locals) (hcat : (st.map fun v => v.category).sum ≤ 8) (hk : kc ≤ rm.cells ∧ ks ≤ rm.slots) (hd : decode cc pc = .ok (.invokevirtual 84, 3)) (kk : Z Θ nL kc ks Q σ (pc + 3) lv (.int (q10_everybody σ th) :: st)) : Z Θ nL kc ks Q σ pc lv (.ref (zA Θ th) :: st) := z_callV C th [] (some (.int (q10_everybody σ th)), σ) 0 (kV_0 hkd hth) rfl (c10_everybody (th := th) hkd (zc_inj C) hth) w_4_23 w_4_20 w_4_21 w_4_22 w_1_3 ⟨rfl, rfl, hrm.1, hrm.2⟩ (by decide +kernel) rfl rfl hcat hk hd kk
theorem dX10_present_0 : decode cX10_present 0 = .ok (.aload_n 0, 1) := by decide +kernel
theorem dX10_present_1 : decode cX10_present 1 = .ok (.invokevirtual 84, 3) := by decide +kernel
theorem dX10_present_4 : decode cX10_present 4 = .ok (.aload_n 0, 1) := by decide +kernel
theorem dX10_present_5 : decode cX10_present 5 = .ok (.getfield 47, 3) := by decide +kernel
theorem dX10_present_8 : decode cX10_present 8 = .ok (.iconst (-1), 1) := by decide +kernel
theorem dX10_present_9 : decode cX10_present 9 = .ok (.ixor, 1) := by decide +kernel
theorem dX10_present_10 : decode cX10_present 10 = .ok (.iand, 1) := by decide +kernel
theorem dX10_present_11 : decode cX10_present 11 = .ok (.ireturn, 1) := by decide +kernel
def q10_present (σ : St) (th : Nat) : Int32 :=
  (q10_everybody σ th) &&& ((σ th 10) ^^^ (-1))
abbrev rm10_present : Room := { frames := 1, cells := 0, slots := 0, locals := 20 }
set_option maxHeartbeats 4000000 in
set_option maxRecDepth 100000 in
theorem p10_present {Θ : Tz} {σ : St} {ρ : Option Value × St} (C : Zc Θ cX10_present 1 RX10 (some .int) rm10_present) (hkd : Θ.2.2.2.2.1 = kdC) {th : Nat} (hth : isV th) {r : Int32} (hf : q10_present σ th = r) (hρ : ρ = (some (.int r), σ)) : Z Θ 1 0 0 (zQ Θ ρ) σ 0 [(0, .ref (zA Θ th))] [] := by
  unfold q10_present at hf
  refine z_aload_n C 0 dX10_present_0 rfl rfl ?_
  refine cr10_84 (th := th) C hkd hth ⟨(Nat.le_of_ble_eq_true rfl), (Nat.le_of_ble_eq_true rfl)⟩ (Nat.le_of_ble_eq_true rfl) ⟨Nat.zero_le _, Nat.zero_le _⟩ dX10_present_1 ?_
  refine z_aload_n C 0 dX10_present_4 rfl rfl ?_
  refine fg10_47 C hkd hth dX10_present_5 ?_
  refine z_iconst (v := (-1)) C dX10_present_8 ic_m1 ?_
  refine z_ixor C dX10_present_9 ?_
  refine z_iand C dX10_present_10 ?_
  subst hf
  subst hρ
  exact z_iret C dX10_present_11
theorem c10_present {l : Launch} {kd : List KD} {w : Wp} {σ : St} {th : Nat} (hkd : kd = kdC) (hi : zI kd w) (hth : isV th) : zM l kd w yX10_present cX10_present 1 (some .int) rm10_present [.ref (w.2.2.1 th)] σ (some (.int (q10_present σ th)), σ) := zM_of rfl hi (Nat.le_of_ble_eq_true rfl) (fun Θ hl hw C => by
  obtain ⟨Θ1, Θ2, Θ3, Θ4, Θ5⟩ := Θ
  cases hw
  exact p10_present C hkd hth rfl rfl)
/-! LastLoaf.isHouse -/
theorem w_4_19 : Cond.code ({ cls := "LastLoaf$Village", name := "present", desc := "()I" } : MethodName) prog_12_method_4_code (1 : Nat) (Option.some ClassFile.FieldType.int) ∈ TB := tb_in (lwt_4 (List.mem_of_getElem? (i := 19) (by decide +kernel))) rfl
theorem w_4_16 : Cond.methodLink "LastLoaf" (477 : Nat) ({ cls := "LastLoaf$Village", name := "present", desc := "()I" } : MethodName) ∈ TB := tb_in (lwt_4 (List.mem_of_getElem? (i := 16) (by decide +kernel))) rfl
theorem w_4_17 : Cond.instanceMethod ({ cls := "LastLoaf$Village", name := "present", desc := "()I" } : MethodName) ∈ TB := tb_in (lwt_4 (List.mem_of_getElem? (i := 17) (by decide +kernel))) rfl
theorem w_4_18 : Cond.selects "LastLoaf$Village" ({ cls := "LastLoaf$Village", name := "present", desc := "()I" } : MethodName) ({ cls := "LastLoaf$Village", name := "present", desc := "()I" } : MethodName) ∈ TB := tb_in (lwt_4 (List.mem_of_getElem? (i := 18) (by decide +kernel))) rfl
theorem cr11_477 {Θ : Tz} {cc : ByteArray} {nL kc ks : Nat} {ret : Option FieldType} {rm : Room} {Q : State → Prop} {σ : St} {pc : Nat} {lv : List (Nat × Value)} {st : List Value} (C : Zc Θ cc nL RX11 ret rm) (hkd : Θ.2.2.2.2.1 = kdC) {th : Nat} (hth : isV th) (hrm : rm10_present.frames + 1 ≤ rm.frames ∧ 8 + (1 + 11) + rm10_present.locals ≤ rm.locals) (hcat : (st.map fun v => v.category).sum ≤ 8) (hk : kc ≤ rm.cells ∧ ks ≤ rm.slots) (hd : decode cc pc = .ok (.invokevirtual 477, 3)) (kk : Z Θ nL kc ks Q σ (pc + 3) lv (.int (q10_present σ th) :: st)) : Z Θ nL kc ks Q σ pc lv (.ref (zA Θ th) :: st) := z_callV C th [] (some (.int (q10_present σ th)), σ) 0 (kV_0 hkd hth) rfl (c10_present (th := th) hkd (zc_inj C) hth) w_4_19 w_4_16 w_4_17 w_4_18 w_1_3 ⟨rfl, rfl, hrm.1, hrm.2⟩ (by decide +kernel) rfl rfl hcat hk hd kk
theorem dX11_isHouse_0 : decode cX11_isHouse 0 = .ok (.iload_n 1, 1) := by decide +kernel
theorem dX11_isHouse_1 : decode cX11_isHouse 1 = .ok (.aload_n 0, 1) := by decide +kernel
theorem dX11_isHouse_2 : decode cX11_isHouse 2 = .ok (.getfield 19, 3) := by decide +kernel
theorem dX11_isHouse_5 : decode cX11_isHouse 5 = .ok (.invokevirtual 477, 3) := by decide +kernel
theorem dX11_isHouse_8 : decode cX11_isHouse 8 = .ok (.iconst (-1), 1) := by decide +kernel
theorem dX11_isHouse_9 : decode cX11_isHouse 9 = .ok (.ixor, 1) := by decide +kernel
theorem dX11_isHouse_10 : decode cX11_isHouse 10 = .ok (.iand, 1) := by decide +kernel
theorem dX11_isHouse_11 : decode cX11_isHouse 11 = .ok (.ifCond .ne 7, 3) := by decide +kernel
theorem dX11_isHouse_14 : decode cX11_isHouse 14 = .ok (.iconst 1, 1) := by decide +kernel
theorem dX11_isHouse_15 : decode cX11_isHouse 15 = .ok (.goto 4, 3) := by decide +kernel
theorem dX11_isHouse_18 : decode cX11_isHouse 18 = .ok (.iconst 0, 1) := by decide +kernel
theorem dX11_isHouse_19 : decode cX11_isHouse 19 = .ok (.ireturn, 1) := by decide +kernel
def q11_isHouse (σ : St) (set_a : Int32) : Bool :=
  decide ((set_a &&& ((q10_present σ 44) ^^^ (-1))) = 0)
abbrev rm11_isHouse : Room := { frames := 2, cells := 0, slots := 0, locals := 40 }
set_option maxHeartbeats 4000000 in
set_option maxRecDepth 100000 in
theorem p11_isHouse {Θ : Tz} {σ : St} {ρ : Option Value × St} (C : Zc Θ cX11_isHouse 2 RX11 (some .boolean) rm11_isHouse) (hkd : Θ.2.2.2.2.1 = kdC) {set_a : Int32} {r : Bool} (hf : q11_isHouse σ set_a = r) (hρ : ρ = (some (.int (b2i r)), σ)) : Z Θ 2 0 0 (zQ Θ ρ) σ 0 [(0, .ref (zA Θ 0)), (1, .int set_a)] [] := by
  unfold q11_isHouse at hf
  suffices K1_ : Z Θ 2 0 0 (zQ Θ ρ) σ 19 [(0, .ref (zA Θ 0)), (1, .int set_a)] [.int (b2i (decide ((set_a &&& ((q10_present σ 44) ^^^ (-1))) = 0)))] by
    have K2_ : (set_a &&& ((q10_present σ 44) ^^^ (-1))) = 0 → Z Θ 2 0 0 (zQ Θ ρ) σ 14 [(0, .ref (zA Θ 0)), (1, .int set_a)] [] := by
      intro h5_
      rw [decide_eq_true h5_] at K1_
      refine z_iconst (v := 1) C dX11_isHouse_14 ic_1 ?_
      refine z_goto C 19 dX11_isHouse_15 (by decide) ?_
      exact K1_
    have K3_ : ¬ ((set_a &&& ((q10_present σ 44) ^^^ (-1))) = 0) → Z Θ 2 0 0 (zQ Θ ρ) σ 18 [(0, .ref (zA Θ 0)), (1, .int set_a)] [] := by
      intro h5_
      rw [decide_eq_false h5_] at K1_
      refine z_iconst (v := 0) C dX11_isHouse_18 ic_0 ?_
      exact K1_
    refine z_iload_n C 1 dX11_isHouse_0 rfl rfl ?_
    refine z_aload_n C 0 dX11_isHouse_1 rfl rfl ?_
    refine fg11_19 C hkd dX11_isHouse_2 ?_
    refine cr11_477 (th := 44) C hkd isV_44 ⟨(Nat.le_of_ble_eq_true rfl), (Nat.le_of_ble_eq_true rfl)⟩ (Nat.le_of_ble_eq_true rfl) ⟨Nat.zero_le _, Nat.zero_le _⟩ dX11_isHouse_5 ?_
    refine z_iconst (v := (-1)) C dX11_isHouse_8 ic_m1 ?_
    refine z_ixor C dX11_isHouse_9 ?_
    refine z_iand C dX11_isHouse_10 ?_
    refine c0_eq_f C 18 dX11_isHouse_11 (by decide) (fun h4_ => ?_) (fun h4_ => ?_)
    · exact K2_ h4_
    · exact K3_ h4_
  subst hf
  subst hρ
  exact z_zret C (b2i_narrow _) dX11_isHouse_19
theorem c11_isHouse {l : Launch} {kd : List KD} {w : Wp} {σ : St} {set_a : Int32} (hkd : kd = kdC) (hi : zI kd w) : zM l kd w yX11_isHouse cX11_isHouse 2 (some .boolean) rm11_isHouse [.ref (w.2.2.1 0), .int set_a] σ (some (.int (b2i (q11_isHouse σ set_a))), σ) := zM_of rfl hi (Nat.le_of_ble_eq_true rfl) (fun Θ hl hw C => by
  obtain ⟨Θ1, Θ2, Θ3, Θ4, Θ5⟩ := Θ
  cases hw
  exact p11_isHouse C hkd  rfl rfl)
/-! LastLoaf.swungBy -/
theorem w_4_15 : Cond.code ({ cls := "LastLoaf", name := "isHouse", desc := "(I)Z" } : MethodName) prog_1_method_83_code (2 : Nat) (Option.some ClassFile.FieldType.boolean) ∈ TB := tb_in (lwt_4 (List.mem_of_getElem? (i := 15) (by decide +kernel))) rfl
theorem w_4_12 : Cond.methodLink "LastLoaf" (352 : Nat) ({ cls := "LastLoaf", name := "isHouse", desc := "(I)Z" } : MethodName) ∈ TB := tb_in (lwt_4 (List.mem_of_getElem? (i := 12) (by decide +kernel))) rfl
theorem w_4_14 : Cond.instanceMethod ({ cls := "LastLoaf", name := "isHouse", desc := "(I)Z" } : MethodName) ∈ TB := tb_in (lwt_4 (List.mem_of_getElem? (i := 14) (by decide +kernel))) rfl
theorem ws_LastLoaf_isHouse_I_Z : Cond.selects "LastLoaf" (⟨"LastLoaf", "isHouse", "(I)Z"⟩ : MethodName) (⟨"LastLoaf", "isHouse", "(I)Z"⟩ : MethodName) ∈ TB := tb_in (List.mem_append_left _ (List.mem_of_getElem? (i := 3) (by decide +kernel))) rfl
theorem cr11_352 {Θ : Tz} {cc : ByteArray} {nL kc ks : Nat} {ret : Option FieldType} {rm : Room} {Q : State → Prop} {σ : St} {pc : Nat} {lv : List (Nat × Value)} {st : List Value} (C : Zc Θ cc nL RX11 ret rm) (hkd : Θ.2.2.2.2.1 = kdC) {set_a : Int32} (hrm : rm11_isHouse.frames + 1 ≤ rm.frames ∧ 8 + (2 + 11) + rm11_isHouse.locals ≤ rm.locals) (hcat : (st.map fun v => v.category).sum ≤ 8) (hk : kc ≤ rm.cells ∧ ks ≤ rm.slots) (hd : decode cc pc = .ok (.invokevirtual 352, 3)) (kk : Z Θ nL kc ks Q σ (pc + 3) lv (.int (b2i (q11_isHouse σ set_a)) :: st)) : Z Θ nL kc ks Q σ pc lv (.int set_a :: .ref (zA Θ 0) :: st) := z_callV C 0 [.int set_a] (some (.int (b2i (q11_isHouse σ set_a))), σ) 1 (kC_0 hkd) rfl (c11_isHouse (set_a := set_a) hkd (zc_inj C)) w_4_15 w_4_12 w_4_14 ws_LastLoaf_isHouse_I_Z w_1_1 ⟨rfl, rfl, hrm.1, hrm.2⟩ (by decide +kernel) rfl rfl hcat hk hd kk
theorem dX11_swungBy_0 : decode cX11_swungBy 0 = .ok (.iconst 0, 1) := by decide +kernel
theorem dX11_swungBy_1 : decode cX11_swungBy 1 = .ok (.istore_n 2, 1) := by decide +kernel
theorem dX11_swungBy_2 : decode cX11_swungBy 2 = .ok (.iconst 0, 1) := by decide +kernel
theorem dX11_swungBy_3 : decode cX11_swungBy 3 = .ok (.istore_n 3, 1) := by decide +kernel
theorem dX11_swungBy_4 : decode cX11_swungBy 4 = .ok (.iload_n 3, 1) := by decide +kernel
theorem dX11_swungBy_5 : decode cX11_swungBy 5 = .ok (.bipush 64, 2) := by decide +kernel
theorem dX11_swungBy_7 : decode cX11_swungBy 7 = .ok (.if_icmp .ge 60, 3) := by decide +kernel
theorem dX11_swungBy_10 : decode cX11_swungBy 10 = .ok (.iload_n 3, 1) := by decide +kernel
theorem dX11_swungBy_11 : decode cX11_swungBy 11 = .ok (.iload_n 1, 1) := by decide +kernel
theorem dX11_swungBy_12 : decode cX11_swungBy 12 = .ok (.invokestatic 167, 3) := by decide +kernel
theorem dX11_swungBy_15 : decode cX11_swungBy 15 = .ok (.ifCond .eq 15, 3) := by decide +kernel
theorem dX11_swungBy_18 : decode cX11_swungBy 18 = .ok (.aload_n 0, 1) := by decide +kernel
theorem dX11_swungBy_19 : decode cX11_swungBy 19 = .ok (.iload_n 3, 1) := by decide +kernel
theorem dX11_swungBy_20 : decode cX11_swungBy 20 = .ok (.invokevirtual 352, 3) := by decide +kernel
theorem dX11_swungBy_23 : decode cX11_swungBy 23 = .ok (.ifCond .eq 7, 3) := by decide +kernel
theorem dX11_swungBy_26 : decode cX11_swungBy 26 = .ok (.iconst 1, 1) := by decide +kernel
theorem dX11_swungBy_27 : decode cX11_swungBy 27 = .ok (.goto 4, 3) := by decide +kernel
theorem dX11_swungBy_30 : decode cX11_swungBy 30 = .ok (.iconst 0, 1) := by decide +kernel
theorem dX11_swungBy_31 : decode cX11_swungBy 31 = .ok (.istore 4, 2) := by decide +kernel
theorem dX11_swungBy_33 : decode cX11_swungBy 33 = .ok (.iload 4, 2) := by decide +kernel
theorem dX11_swungBy_35 : decode cX11_swungBy 35 = .ok (.ifCond .eq 26, 3) := by decide +kernel
theorem dX11_swungBy_38 : decode cX11_swungBy 38 = .ok (.aload_n 0, 1) := by decide +kernel
theorem dX11_swungBy_39 : decode cX11_swungBy 39 = .ok (.iload_n 3, 1) := by decide +kernel
theorem dX11_swungBy_40 : decode cX11_swungBy 40 = .ok (.invokevirtual 345, 3) := by decide +kernel
theorem dX11_swungBy_43 : decode cX11_swungBy 43 = .ok (.ifCond .eq 18, 3) := by decide +kernel
theorem dX11_swungBy_46 : decode cX11_swungBy 46 = .ok (.aload_n 0, 1) := by decide +kernel
theorem dX11_swungBy_47 : decode cX11_swungBy 47 = .ok (.iload_n 3, 1) := by decide +kernel
theorem dX11_swungBy_48 : decode cX11_swungBy 48 = .ok (.iload_n 1, 1) := by decide +kernel
theorem dX11_swungBy_49 : decode cX11_swungBy 49 = .ok (.invokestatic 252, 3) := by decide +kernel
theorem dX11_swungBy_52 : decode cX11_swungBy 52 = .ok (.invokevirtual 345, 3) := by decide +kernel
theorem dX11_swungBy_55 : decode cX11_swungBy 55 = .ok (.ifCond .ne 6, 3) := by decide +kernel
theorem dX11_swungBy_58 : decode cX11_swungBy 58 = .ok (.iinc 2 1, 3) := by decide +kernel
theorem dX11_swungBy_61 : decode cX11_swungBy 61 = .ok (.iinc 3 1, 3) := by decide +kernel
theorem dX11_swungBy_64 : decode cX11_swungBy 64 = .ok (.goto (-60), 3) := by decide +kernel
theorem dX11_swungBy_67 : decode cX11_swungBy 67 = .ok (.iload_n 2, 1) := by decide +kernel
theorem dX11_swungBy_68 : decode cX11_swungBy 68 = .ok (.ireturn, 1) := by decide +kernel
def q11_swungBy (σ : St) (person_a : Int32) : Option Int32 :=
  Option.bind (loop2 (fun rec4_ (swung7_ : Int32) (set8_ : Int32) =>
  if set8_ < 64 then
  lt (decide ((q11_isIn set8_ person_a = true) ∧ (q11_isHouse σ set8_ = true))) fun isWith21_ =>
  Option.bind (Option.bind (if isWith21_ = true then (Option.bind (q11_hasMost σ set8_) fun x31_ =>
  if x31_ = true then (Option.bind (q11_hasMost σ (q11_without set8_ person_a)) fun x34_ =>
  if x34_ = true then (some false) else (some true)) else (some false)) else (some false)) fun t28_ =>
  if t28_ = true then (lt (swung7_ + 1) fun swung38_ =>
  some (swung38_)) else (some (swung7_))) fun y23_ =>
  lt (set8_ + 1) fun set40_ =>
  rec4_ y23_ set40_
  else (some (swung7_, set8_))) fuelN (0 : Int32) (0 : Int32)) fun y1_ =>
  some y1_.1
abbrev rm11_swungBy : Room := { frames := 3, cells := 0, slots := 0, locals := 61 }
set_option maxHeartbeats 4000000 in
set_option maxRecDepth 100000 in
theorem p11_swungBy {Θ : Tz} {σ : St} {ρ : Option Value × St} (C : Zc Θ cX11_swungBy 5 RX11 (some .int) rm11_swungBy) (hkd : Θ.2.2.2.2.1 = kdC) {person_a : Int32} {r : Int32} (hf : q11_swungBy σ person_a = some r) (hρ : ρ = (some (.int r), σ)) : Z Θ 5 0 0 (zQ Θ ρ) σ 0 [(0, .ref (zA Θ 0)), (1, .int person_a)] [] := by
  unfold q11_swungBy at hf
  refine z_iconst (v := 0) C dX11_swungBy_0 ic_0 ?_
  refine z_istN C dX11_swungBy_1 rfl rfl (Nat.le_of_ble_eq_true rfl) rfl ?_
  refine z_iconst (v := 0) C dX11_swungBy_2 ic_0 ?_
  refine z_istN C dX11_swungBy_3 rfl rfl (Nat.le_of_ble_eq_true rfl) rfl ?_
  refine Z.sub [2, 3, 1, 0] rfl ?_
  obtain ⟨y1_, h2_, hf⟩ := ob hf
  suffices K3_ : Z Θ 5 0 0 (zQ Θ ρ) σ 67 [(0, .ref (zA Θ 0)), (1, .int person_a), (2, .int y1_.1), (3, .int y1_.2)] [] by
    refine loop2_Z (P := fun (swung7_ : Int32) (set8_ : Int32) => Z Θ 5 0 0 (zQ Θ ρ) σ 4 [(0, .ref (zA Θ 0)), (1, .int person_a), (2, .int swung7_), (3, .int set8_)] []) ?_ fuelN (0 : Int32) (0 : Int32) h2_
    clear h2_
    intro rec4_ swung7_ set8_ h5_ h6_
    have K11_ : set8_ < 64 → Z Θ 5 0 0 (zQ Θ ρ) σ 10 [(0, .ref (zA Θ 0)), (1, .int person_a), (2, .int swung7_), (3, .int set8_)] [] := by
      intro h14_
      rw [if_pos h14_] at h6_
      suffices K15_ : Z Θ 5 0 0 (zQ Θ ρ) σ 31 [(0, .ref (zA Θ 0)), (1, .int person_a), (2, .int swung7_), (3, .int set8_)] [.int (b2i (decide ((q11_isIn set8_ person_a = true) ∧ (q11_isHouse σ set8_ = true))))] by
        have K16_ : (q11_isIn set8_ person_a = true) ∧ (q11_isHouse σ set8_ = true) → Z Θ 5 0 0 (zQ Θ ρ) σ 26 [(0, .ref (zA Θ 0)), (1, .int person_a), (2, .int swung7_), (3, .int set8_)] [] := by
          intro h20_
          rw [decide_eq_true h20_] at K15_
          refine z_iconst (v := 1) C dX11_swungBy_26 ic_1 ?_
          refine z_goto C 31 dX11_swungBy_27 (by decide) ?_
          exact K15_
        have K17_ : ¬ ((q11_isIn set8_ person_a = true) ∧ (q11_isHouse σ set8_ = true)) → Z Θ 5 0 0 (zQ Θ ρ) σ 30 [(0, .ref (zA Θ 0)), (1, .int person_a), (2, .int swung7_), (3, .int set8_)] [] := by
          intro h20_
          rw [decide_eq_false h20_] at K15_
          refine z_iconst (v := 0) C dX11_swungBy_30 ic_0 ?_
          exact K15_
        refine z_iload_n C 3 dX11_swungBy_10 rfl rfl ?_
        refine z_iload_n C 1 dX11_swungBy_11 rfl rfl ?_
        refine cr11_167 (set_a := set8_) (person_a := person_a) C hkd  ⟨(Nat.le_of_ble_eq_true rfl), (Nat.le_of_ble_eq_true rfl)⟩ (Nat.le_of_ble_eq_true rfl) ⟨Nat.zero_le _, Nat.zero_le _⟩ dX11_swungBy_12 ?_
        refine cb_f C 30 dX11_swungBy_15 (by decide) (fun h18_ => ?_) (fun h18_ => ?_)
        · refine z_aload_n C 0 dX11_swungBy_18 rfl rfl ?_
          refine z_iload_n C 3 dX11_swungBy_19 rfl rfl ?_
          refine cr11_352 (set_a := set8_) C hkd  ⟨(Nat.le_of_ble_eq_true rfl), (Nat.le_of_ble_eq_true rfl)⟩ (Nat.le_of_ble_eq_true rfl) ⟨Nat.zero_le _, Nat.zero_le _⟩ dX11_swungBy_20 ?_
          refine cb_f C 30 dX11_swungBy_23 (by decide) (fun h19_ => ?_) (fun h19_ => ?_)
          · exact K16_ ⟨h18_, h19_⟩
          · exact K17_ (fun n => h19_ n.2)
        · exact K17_ (fun n => h18_ n.1)
      obtain ⟨isWith21_, h22_, h6_⟩ := lt_ h6_
      refine z_ist C dX11_swungBy_31 (congrArg b2i h22_) (Nat.le_of_ble_eq_true rfl) rfl ?_
      obtain ⟨y23_, h24_, h6_⟩ := ob h6_
      suffices K25_ : Z Θ 5 0 0 (zQ Θ ρ) σ 61 [(0, .ref (zA Θ 0)), (1, .int person_a), (2, .int y23_), (3, .int set8_), (4, .int (b2i isWith21_))] [] by
        obtain ⟨t28_, h29_, h24_⟩ := ob h24_
        have K26_ : t28_ = true → Z Θ 5 0 0 (zQ Θ ρ) σ 58 [(4, .int (b2i isWith21_)), (0, .ref (zA Θ 0)), (1, .int person_a), (2, .int swung7_), (3, .int set8_)] [] := by
          intro h37_
          rw [if_pos h37_] at h24_
          obtain ⟨swung38_, h39_, h24_⟩ := lt_ h24_
          refine z_inc C 3 dX11_swungBy_58 rfl ic_1 h39_ (Nat.le_of_ble_eq_true rfl) rfl ?_
          cases h24_
          refine Z.sub [2, 3, 0, 4, 1] rfl ?_
          exact K25_
        have K27_ : ¬ (t28_ = true) → Z Θ 5 0 0 (zQ Θ ρ) σ 61 [(4, .int (b2i isWith21_)), (0, .ref (zA Θ 0)), (1, .int person_a), (2, .int swung7_), (3, .int set8_)] [] := by
          intro h37_
          rw [if_neg h37_] at h24_
          cases h24_
          refine Z.sub [1, 2, 3, 4, 0] rfl ?_
          exact K25_
        refine z_iload C 0 dX11_swungBy_33 rfl ?_
        refine cb_f C 61 dX11_swungBy_35 (by decide) (fun h30_ => ?_) (fun h30_ => ?_)
        · rw [if_pos h30_] at h29_
          refine z_aload_n C 1 dX11_swungBy_38 rfl rfl ?_
          refine z_iload_n C 4 dX11_swungBy_39 rfl rfl ?_
          obtain ⟨x31_, h32_, h29_⟩ := ob h29_
          refine cr11_345 (house_a := set8_) C hkd  h32_ ⟨(Nat.le_of_ble_eq_true rfl), (Nat.le_of_ble_eq_true rfl)⟩ (Nat.le_of_ble_eq_true rfl) ⟨Nat.zero_le _, Nat.zero_le _⟩ dX11_swungBy_40 ?_
          refine cb_f C 61 dX11_swungBy_43 (by decide) (fun h33_ => ?_) (fun h33_ => ?_)
          · rw [if_pos h33_] at h29_
            refine z_aload_n C 1 dX11_swungBy_46 rfl rfl ?_
            refine z_iload_n C 4 dX11_swungBy_47 rfl rfl ?_
            refine z_iload_n C 2 dX11_swungBy_48 rfl rfl ?_
            refine cr11_252 (set_a := set8_) (person_a := person_a) C hkd  ⟨(Nat.le_of_ble_eq_true rfl), (Nat.le_of_ble_eq_true rfl)⟩ (Nat.le_of_ble_eq_true rfl) ⟨Nat.zero_le _, Nat.zero_le _⟩ dX11_swungBy_49 ?_
            obtain ⟨x34_, h35_, h29_⟩ := ob h29_
            refine cr11_345 (house_a := (q11_without set8_ person_a)) C hkd  h35_ ⟨(Nat.le_of_ble_eq_true rfl), (Nat.le_of_ble_eq_true rfl)⟩ (Nat.le_of_ble_eq_true rfl) ⟨Nat.zero_le _, Nat.zero_le _⟩ dX11_swungBy_52 ?_
            refine cb_t C 61 dX11_swungBy_55 (by decide) (fun h36_ => ?_) (fun h36_ => ?_)
            · rw [if_pos h36_] at h29_
              cases h29_
              exact K27_ Bool.false_ne_true
            · rw [if_neg h36_] at h29_
              cases h29_
              exact K26_ rfl
          · rw [if_neg h33_] at h29_
            cases h29_
            exact K27_ Bool.false_ne_true
        · rw [if_neg h30_] at h29_
          cases h29_
          exact K27_ Bool.false_ne_true
      obtain ⟨set40_, h41_, h6_⟩ := lt_ h6_
      refine z_inc C 3 dX11_swungBy_61 rfl ic_1 h41_ (Nat.le_of_ble_eq_true rfl) rfl ?_
      refine z_goto C 4 dX11_swungBy_64 (by decide) ?_
      refine Z.sub [1, 2, 3, 0] rfl ?_
      exact h5_ _ _ h6_
    have K12_ : ¬ (set8_ < 64) → Z Θ 5 0 0 (zQ Θ ρ) σ 67 [(0, .ref (zA Θ 0)), (1, .int person_a), (2, .int swung7_), (3, .int set8_)] [] := by
      intro h14_
      rw [if_neg h14_] at h6_
      cases h6_
      exact K3_
    refine z_iload_n C 3 dX11_swungBy_4 rfl rfl ?_
    refine z_bipush (v := 64) C dX11_swungBy_5 bp_64 ?_
    refine c_lt_f C 67 dX11_swungBy_7 (by decide) (fun h13_ => ?_) (fun h13_ => ?_)
    · exact K11_ h13_
    · exact K12_ h13_
  refine z_iload_n C 2 dX11_swungBy_67 rfl rfl ?_
  cases hf
  subst hρ
  exact z_iret C dX11_swungBy_68
theorem c11_swungBy {l : Launch} {kd : List KD} {w : Wp} {σ : St} {person_a : Int32} (hkd : kd = kdC) (hi : zI kd w) {r : Int32} (hf : q11_swungBy σ person_a = some r) : zM l kd w yX11_swungBy cX11_swungBy 5 (some .int) rm11_swungBy [.ref (w.2.2.1 0), .int person_a] σ (some (.int r), σ) := zM_of rfl hi (Nat.le_of_ble_eq_true rfl) (fun Θ hl hw C => by
  obtain ⟨Θ1, Θ2, Θ3, Θ4, Θ5⟩ := Θ
  cases hw
  exact p11_swungBy C hkd  hf rfl)
/-! LastLoaf.swings -/
theorem w_4_31 : Cond.code ({ cls := "LastLoaf", name := "swungBy", desc := "(I)I" } : MethodName) prog_1_method_85_code (5 : Nat) (Option.some ClassFile.FieldType.int) ∈ TB := tb_in (lwt_4 (List.mem_of_getElem? (i := 31) (by decide +kernel))) rfl
theorem w_4_28 : Cond.methodLink "LastLoaf" (349 : Nat) ({ cls := "LastLoaf", name := "swungBy", desc := "(I)I" } : MethodName) ∈ TB := tb_in (lwt_4 (List.mem_of_getElem? (i := 28) (by decide +kernel))) rfl
theorem w_4_30 : Cond.instanceMethod ({ cls := "LastLoaf", name := "swungBy", desc := "(I)I" } : MethodName) ∈ TB := tb_in (lwt_4 (List.mem_of_getElem? (i := 30) (by decide +kernel))) rfl
theorem ws_LastLoaf_swungBy_I_I : Cond.selects "LastLoaf" (⟨"LastLoaf", "swungBy", "(I)I"⟩ : MethodName) (⟨"LastLoaf", "swungBy", "(I)I"⟩ : MethodName) ∈ TB := tb_in (List.mem_append_left _ (List.mem_of_getElem? (i := 4) (by decide +kernel))) rfl
theorem cr11_349 {Θ : Tz} {cc : ByteArray} {nL kc ks : Nat} {ret : Option FieldType} {rm : Room} {Q : State → Prop} {σ : St} {pc : Nat} {lv : List (Nat × Value)} {st : List Value} (C : Zc Θ cc nL RX11 ret rm) (hkd : Θ.2.2.2.2.1 = kdC) {person_a : Int32} {r : Int32} (hx : q11_swungBy σ person_a = some r) (hrm : rm11_swungBy.frames + 1 ≤ rm.frames ∧ 8 + (5 + 11) + rm11_swungBy.locals ≤ rm.locals) (hcat : (st.map fun v => v.category).sum ≤ 8) (hk : kc ≤ rm.cells ∧ ks ≤ rm.slots) (hd : decode cc pc = .ok (.invokevirtual 349, 3)) (kk : Z Θ nL kc ks Q σ (pc + 3) lv (.int r :: st)) : Z Θ nL kc ks Q σ pc lv (.int person_a :: .ref (zA Θ 0) :: st) := z_callV C 0 [.int person_a] (some (.int r), σ) 1 (kC_0 hkd) rfl (c11_swungBy (person_a := person_a) hkd (zc_inj C) hx) w_4_31 w_4_28 w_4_30 ws_LastLoaf_swungBy_I_I w_1_1 ⟨rfl, rfl, hrm.1, hrm.2⟩ (by decide +kernel) rfl rfl hcat hk hd kk
theorem dX11_swings_0 : decode cX11_swings 0 = .ok (.aload_n 0, 1) := by decide +kernel
theorem dX11_swings_1 : decode cX11_swings 1 = .ok (.iload_n 1, 1) := by decide +kernel
theorem dX11_swings_2 : decode cX11_swings 2 = .ok (.invokevirtual 151, 3) := by decide +kernel
theorem dX11_swings_5 : decode cX11_swings 5 = .ok (.aload_n 0, 1) := by decide +kernel
theorem dX11_swings_6 : decode cX11_swings 6 = .ok (.iload_n 1, 1) := by decide +kernel
theorem dX11_swings_7 : decode cX11_swings 7 = .ok (.invokevirtual 349, 3) := by decide +kernel
theorem dX11_swings_10 : decode cX11_swings 10 = .ok (.ireturn, 1) := by decide +kernel
def q11_swings (σ : St) (person_a : Int32) : Option (Sum Nat Int32 × St) :=
  thn (q11_needPerson σ person_a) σ
  (Option.bind (q11_swungBy σ person_a) fun x3_ =>
  some (.inr x3_, σ))
abbrev rm11_swings : Room := { frames := 7, cells := 1, slots := 6, locals := 111 }
set_option maxHeartbeats 4000000 in
set_option maxRecDepth 100000 in
theorem p11_swings {Θ : Tz} {σ : St} {ω : Om} (C : Zc Θ cX11_swings 2 RX11 (some .int) rm11_swings) (hkd : Θ.2.2.2.2.1 = kdC) (hlt : Θ.1.2.1.stackTraces = false) (het : ∀ x ∈ Θ.2.2.1.2.exceptionTable.toList, False) {person_a : Int32} {r : (Sum Nat Int32 × St)} (hf : q11_swings σ person_a = some r) (hω : ω = om (fun v => some (.int v)) r) : Z Θ 2 0 0 (zQX Θ ω 1 6) σ 0 [(0, .ref (zA Θ 0)), (1, .int person_a)] [] := by
  unfold q11_swings at hf
  refine z_aload_n C 0 dX11_swings_0 rfl rfl ?_
  refine z_iload_n C 1 dX11_swings_1 rfl rfl ?_
  refine zx_callV C het 0 [.int person_a] (q11_needPerson σ person_a) 1 6 1 (kC_0 hkd) rfl (c11_needPerson (person_a := person_a) hkd (zc_inj C) hlt) w_5_227 w_5_224 w_5_226 ws_LastLoaf_needPerson_I_V w_1_1 ⟨rfl, rfl, (Nat.le_of_ble_eq_true rfl), (Nat.le_of_ble_eq_true rfl)⟩ (by decide +kernel) rfl rfl (Nat.le_of_ble_eq_true rfl) ⟨(Nat.le_of_ble_eq_true rfl), (Nat.le_of_ble_eq_true rfl)⟩ dX11_swings_2 ⟨(Nat.le_of_ble_eq_true rfl), (Nat.le_of_ble_eq_true rfl)⟩ (fun e9 h2_ => by rw [h2_] at hf; cases hf; exact hω) (fun h1_ => ?_)
  rw [h1_] at hf
  replace hf := thn_x hf
  refine z_aload_n C 0 dX11_swings_5 rfl rfl ?_
  refine z_iload_n C 1 dX11_swings_6 rfl rfl ?_
  obtain ⟨x3_, h4_, hf⟩ := ob hf
  refine cr11_349 (person_a := person_a) C hkd  h4_ ⟨(Nat.le_of_ble_eq_true rfl), (Nat.le_of_ble_eq_true rfl)⟩ (Nat.le_of_ble_eq_true rfl) ⟨(Nat.le_of_ble_eq_true rfl), (Nat.le_of_ble_eq_true rfl)⟩ dX11_swings_7 ?_
  cases hf
  subst hω
  exact zx_iret C ⟨(Nat.le_of_ble_eq_true rfl), (Nat.le_of_ble_eq_true rfl)⟩ dX11_swings_10
theorem c11_swings {l : Launch} {kd : List KD} {w : Wp} {σ : St} {person_a : Int32} (hkd : kd = kdC) (hi : zI kd w) (hlt : l.stackTraces = false) {r : (Sum Nat Int32 × St)} (hf : q11_swings σ person_a = some r) : zX l kd w yX11_swings cX11_swings 2 (some .int) rm11_swings [.ref (w.2.2.1 0), .int person_a] σ (om (fun v => some (.int v)) r) 1 6 := zX_of rfl hi (Nat.le_of_ble_eq_true rfl) (fun Θ hl hw C het => by
  obtain ⟨Θ1, Θ2, Θ3, Θ4, Θ5⟩ := Θ
  cases hw
  cases hl
  exact p11_swings C hkd hlt het  hf rfl)

/-! LastLoaf$Baker.feedOthers -/
theorem w_1_128 : Cond.fieldLink "LastLoaf$Baker" (54 : Nat) "LastLoaf$Village" "people" "I" ∈ TB := tb_in (lwt_1 (List.mem_of_getElem? (i := 128) (by decide +kernel))) rfl
theorem fg0_54 {Θ : Tz} {cc : ByteArray} {nL kc ks : Nat} {ret : Option FieldType} {rm : Room} {Q : State → Prop} {σ : St} {pc : Nat} {lv : List (Nat × Value)} {st : List Value} (C : Zc Θ cc nL RX0 ret rm) (hkd : Θ.2.2.2.2.1 = kdC) {th : Nat} (hth : isV th) (hd : decode cc pc = .ok (.getfield 54, 3)) (kk : Z Θ nL kc ks Q σ (pc + 3) lv (.int (σ th 8) :: st)) : Z Θ nL kc ks Q σ pc lv (.ref (zA Θ th) :: st) := z_get C inT10 th (kV_0 hkd hth) rfl 8 (by decide) w_1_128 rfl hd kk
theorem w_1_133 : Cond.fieldLink "LastLoaf$Baker" (57 : Nat) "LastLoaf$Village" "standing" "I" ∈ TB := tb_in (lwt_1 (List.mem_of_getElem? (i := 133) (by decide +kernel))) rfl
theorem fg0_57 {Θ : Tz} {cc : ByteArray} {nL kc ks : Nat} {ret : Option FieldType} {rm : Room} {Q : State → Prop} {σ : St} {pc : Nat} {lv : List (Nat × Value)} {st : List Value} (C : Zc Θ cc nL RX0 ret rm) (hkd : Θ.2.2.2.2.1 = kdC) {th : Nat} (hth : isV th) (hd : decode cc pc = .ok (.getfield 57, 3)) (kk : Z Θ nL kc ks Q σ (pc + 3) lv (.int (σ th 9) :: st)) : Z Θ nL kc ks Q σ pc lv (.ref (zA Θ th) :: st) := z_get C inT10 th (kV_0 hkd hth) rfl 9 (by decide) w_1_133 rfl hd kk
theorem w_1_140 : Cond.fieldLink "LastLoaf$Baker" (60 : Nat) "LastLoaf$Village" "benched" "I" ∈ TB := tb_in (lwt_1 (List.mem_of_getElem? (i := 140) (by decide +kernel))) rfl
theorem fg0_60 {Θ : Tz} {cc : ByteArray} {nL kc ks : Nat} {ret : Option FieldType} {rm : Room} {Q : State → Prop} {σ : St} {pc : Nat} {lv : List (Nat × Value)} {st : List Value} (C : Zc Θ cc nL RX0 ret rm) (hkd : Θ.2.2.2.2.1 = kdC) {th : Nat} (hth : isV th) (hd : decode cc pc = .ok (.getfield 60, 3)) (kk : Z Θ nL kc ks Q σ (pc + 3) lv (.int (σ th 10) :: st)) : Z Θ nL kc ks Q σ pc lv (.ref (zA Θ th) :: st) := z_get C inT10 th (kV_0 hkd hth) rfl 10 (by decide) w_1_140 rfl hd kk
theorem cr0_63 {Θ : Tz} {cc : ByteArray} {nL kc ks : Nat} {ret : Option FieldType} {rm : Room} {Q : State → Prop} {σ : St} {pc : Nat} {lv : List (Nat × Value)} {st : List Value} (C : Zc Θ cc nL RX0 ret rm) (hkd : Θ.2.2.2.2.1 = kdC) {set_a : Int32} {person_a : Int32} (hrm : rm11_isIn.frames + 1 ≤ rm.frames ∧ 8 + (2 + 11) + rm11_isIn.locals ≤ rm.locals) (hcat : (st.map fun v => v.category).sum ≤ 8) (hk : kc ≤ rm.cells ∧ ks ≤ rm.slots) (hd : decode cc pc = .ok (.invokestatic 63, 3)) (kk : Z Θ nL kc ks Q σ (pc + 3) lv (.int (b2i (q11_isIn set_a person_a)) :: st)) : Z Θ nL kc ks Q σ pc lv (.int person_a :: .int set_a :: st) := z_callSN (host := "LastLoaf") C [.int set_a, .int person_a] (some (.int (b2i (q11_isIn set_a person_a))), σ) 2 (c11_isIn (set_a := set_a) (person_a := person_a) hkd (zc_inj C)) w_3_36 (List.mem_of_getElem? (i := 9) rfl) w_3_35 w_1_1 ⟨rfl, rfl, hrm.1, hrm.2⟩ (by decide +kernel) rfl rfl hcat hk hd kk
theorem w_1_143 : Cond.fieldLink "LastLoaf$Baker" (31 : Nat) "LastLoaf$Village" "flour" "I" ∈ TB := tb_in (lwt_1 (List.mem_of_getElem? (i := 143) (by decide +kernel))) rfl
theorem fg0_31 {Θ : Tz} {cc : ByteArray} {nL kc ks : Nat} {ret : Option FieldType} {rm : Room} {Q : State → Prop} {σ : St} {pc : Nat} {lv : List (Nat × Value)} {st : List Value} (C : Zc Θ cc nL RX0 ret rm) (hkd : Θ.2.2.2.2.1 = kdC) {th : Nat} (hth : isV th) (hd : decode cc pc = .ok (.getfield 31, 3)) (kk : Z Θ nL kc ks Q σ (pc + 3) lv (.int (σ th 11) :: st)) : Z Θ nL kc ks Q σ pc lv (.ref (zA Θ th) :: st) := z_get C inT10 th (kV_0 hkd hth) rfl 11 (by decide) w_1_143 rfl hd kk
theorem fp0_31 {Θ : Tz} {cc : ByteArray} {nL kc ks : Nat} {ret : Option FieldType} {rm : Room} {Q : State → Prop} {σ : St} {pc : Nat} {lv : List (Nat × Value)} {st : List Value} (C : Zc Θ cc nL RX0 ret rm) (hkd : Θ.2.2.2.2.1 = kdC) {th : Nat} (hth : isV th) {x : Int32} {σ1 : St} (he : σ1 = up σ th 11 x) (hd : decode cc pc = .ok (.putfield 31, 3)) (kk : Z Θ nL kc ks Q σ1 (pc + 3) lv st) : Z Θ nL kc ks Q σ pc lv (.int x :: .ref (zA Θ th) :: st) := by subst he; exact z_put C inT10 tyX10_ok nmX10 th (kV_0 hkd hth) rfl 11 (by decide) w_1_143 rfl rfl rfl rfl hd kk
theorem w_1_93 : Cond.fieldLink "LastLoaf$Baker" (67 : Nat) "LastLoaf$Village" "hunger" "[I" ∈ TB := tb_in (lwt_1 (List.mem_of_getElem? (i := 93) (by decide +kernel))) rfl
theorem fg0_67 {Θ : Tz} {cc : ByteArray} {nL kc ks : Nat} {ret : Option FieldType} {rm : Room} {Q : State → Prop} {σ : St} {pc : Nat} {lv : List (Nat × Value)} {st : List Value} (C : Zc Θ cc nL RX0 ret rm) (hkd : Θ.2.2.2.2.1 = kdC) {th : Nat} (hth : isV th) (hd : decode cc pc = .ok (.getfield 67, 3)) (kk : Z Θ nL kc ks Q σ (pc + 3) lv (.ref (zA Θ (th + 1)) :: st)) : Z Θ nL kc ks Q σ pc lv (.ref (zA Θ th) :: st) := z_get C inT10 th (kV_0 hkd hth) rfl 0 (by decide) w_1_93 rfl hd kk
theorem w_3_139 : Cond.code ({ cls := "LastLoaf$Village", name := "hungerMore", desc := "(I)V" } : MethodName) prog_12_method_9_code (2 : Nat) (Option.none : Option ClassFile.FieldType) ∈ TB := tb_in (lwt_3 (List.mem_of_getElem? (i := 139) (by decide +kernel))) rfl
theorem w_3_136 : Cond.methodLink "LastLoaf$Baker" (70 : Nat) ({ cls := "LastLoaf$Village", name := "hungerMore", desc := "(I)V" } : MethodName) ∈ TB := tb_in (lwt_3 (List.mem_of_getElem? (i := 136) (by decide +kernel))) rfl
theorem w_3_137 : Cond.instanceMethod ({ cls := "LastLoaf$Village", name := "hungerMore", desc := "(I)V" } : MethodName) ∈ TB := tb_in (lwt_3 (List.mem_of_getElem? (i := 137) (by decide +kernel))) rfl
theorem w_3_138 : Cond.selects "LastLoaf$Village" ({ cls := "LastLoaf$Village", name := "hungerMore", desc := "(I)V" } : MethodName) ({ cls := "LastLoaf$Village", name := "hungerMore", desc := "(I)V" } : MethodName) ∈ TB := tb_in (lwt_3 (List.mem_of_getElem? (i := 138) (by decide +kernel))) rfl
theorem cr0_70 {Θ : Tz} {cc : ByteArray} {nL kc ks : Nat} {ret : Option FieldType} {rm : Room} {Q : State → Prop} {σ : St} {pc : Nat} {lv : List (Nat × Value)} {st : List Value} (C : Zc Θ cc nL RX0 ret rm) (hkd : Θ.2.2.2.2.1 = kdC) {th : Nat} {person_a : Int32} (hth : isV th) {r : St} (hx : q10_hungerMore σ th person_a = some r) (hrm : rm10_hungerMore.frames + 1 ≤ rm.frames ∧ 8 + (2 + 11) + rm10_hungerMore.locals ≤ rm.locals) (hcat : (st.map fun v => v.category).sum ≤ 8) (hk : kc ≤ rm.cells ∧ ks ≤ rm.slots) (hd : decode cc pc = .ok (.invokevirtual 70, 3)) (kk : Z Θ nL kc ks Q r (pc + 3) lv st) : Z Θ nL kc ks Q σ pc lv (.int person_a :: .ref (zA Θ th) :: st) := z_callV C th [.int person_a] (none, r) 1 (kV_0 hkd hth) rfl (c10_hungerMore (th := th) (person_a := person_a) hkd (zc_inj C) hth hx) w_3_139 w_3_136 w_3_137 w_3_138 w_1_3 ⟨rfl, rfl, hrm.1, hrm.2⟩ (by decide +kernel) rfl rfl hcat hk hd kk
theorem dX0_feedOthers_0 : decode cX0_feedOthers 0 = .ok (.iconst 0, 1) := by decide +kernel
theorem dX0_feedOthers_1 : decode cX0_feedOthers 1 = .ok (.istore_n 2, 1) := by decide +kernel
theorem dX0_feedOthers_2 : decode cX0_feedOthers 2 = .ok (.iload_n 2, 1) := by decide +kernel
theorem dX0_feedOthers_3 : decode cX0_feedOthers 3 = .ok (.aload_n 1, 1) := by decide +kernel
theorem dX0_feedOthers_4 : decode cX0_feedOthers 4 = .ok (.getfield 54, 3) := by decide +kernel
theorem dX0_feedOthers_7 : decode cX0_feedOthers 7 = .ok (.if_icmp .ge 60, 3) := by decide +kernel
theorem dX0_feedOthers_10 : decode cX0_feedOthers 10 = .ok (.aload_n 1, 1) := by decide +kernel
theorem dX0_feedOthers_11 : decode cX0_feedOthers 11 = .ok (.getfield 57, 3) := by decide +kernel
theorem dX0_feedOthers_14 : decode cX0_feedOthers 14 = .ok (.aload_n 1, 1) := by decide +kernel
theorem dX0_feedOthers_15 : decode cX0_feedOthers 15 = .ok (.getfield 60, 3) := by decide +kernel
theorem dX0_feedOthers_18 : decode cX0_feedOthers 18 = .ok (.ior, 1) := by decide +kernel
theorem dX0_feedOthers_19 : decode cX0_feedOthers 19 = .ok (.iload_n 2, 1) := by decide +kernel
theorem dX0_feedOthers_20 : decode cX0_feedOthers 20 = .ok (.invokestatic 63, 3) := by decide +kernel
theorem dX0_feedOthers_23 : decode cX0_feedOthers 23 = .ok (.ifCond .eq 6, 3) := by decide +kernel
theorem dX0_feedOthers_26 : decode cX0_feedOthers 26 = .ok (.goto 35, 3) := by decide +kernel
theorem dX0_feedOthers_29 : decode cX0_feedOthers 29 = .ok (.aload_n 1, 1) := by decide +kernel
theorem dX0_feedOthers_30 : decode cX0_feedOthers 30 = .ok (.getfield 31, 3) := by decide +kernel
theorem dX0_feedOthers_33 : decode cX0_feedOthers 33 = .ok (.ifCond .le 23, 3) := by decide +kernel
theorem dX0_feedOthers_36 : decode cX0_feedOthers 36 = .ok (.aload_n 1, 1) := by decide +kernel
theorem dX0_feedOthers_37 : decode cX0_feedOthers 37 = .ok (.dup, 1) := by decide +kernel
theorem dX0_feedOthers_38 : decode cX0_feedOthers 38 = .ok (.getfield 31, 3) := by decide +kernel
theorem dX0_feedOthers_41 : decode cX0_feedOthers 41 = .ok (.iconst 1, 1) := by decide +kernel
theorem dX0_feedOthers_42 : decode cX0_feedOthers 42 = .ok (.isub, 1) := by decide +kernel
theorem dX0_feedOthers_43 : decode cX0_feedOthers 43 = .ok (.putfield 31, 3) := by decide +kernel
theorem dX0_feedOthers_46 : decode cX0_feedOthers 46 = .ok (.aload_n 1, 1) := by decide +kernel
theorem dX0_feedOthers_47 : decode cX0_feedOthers 47 = .ok (.getfield 67, 3) := by decide +kernel
theorem dX0_feedOthers_50 : decode cX0_feedOthers 50 = .ok (.iload_n 2, 1) := by decide +kernel
theorem dX0_feedOthers_51 : decode cX0_feedOthers 51 = .ok (.iconst 0, 1) := by decide +kernel
theorem dX0_feedOthers_52 : decode cX0_feedOthers 52 = .ok (.iastore, 1) := by decide +kernel
theorem dX0_feedOthers_53 : decode cX0_feedOthers 53 = .ok (.goto 8, 3) := by decide +kernel
theorem dX0_feedOthers_56 : decode cX0_feedOthers 56 = .ok (.aload_n 1, 1) := by decide +kernel
theorem dX0_feedOthers_57 : decode cX0_feedOthers 57 = .ok (.iload_n 2, 1) := by decide +kernel
theorem dX0_feedOthers_58 : decode cX0_feedOthers 58 = .ok (.invokevirtual 70, 3) := by decide +kernel
theorem dX0_feedOthers_61 : decode cX0_feedOthers 61 = .ok (.iinc 2 1, 3) := by decide +kernel
theorem dX0_feedOthers_64 : decode cX0_feedOthers 64 = .ok (.goto (-62), 3) := by decide +kernel
theorem dX0_feedOthers_67 : decode cX0_feedOthers 67 = .ok (.return_, 1) := by decide +kernel
def q0_feedOthers (σ : St) (village_a : Nat) : Option St :=
  Option.bind (loop2 (fun rec4_ (p7_ : Int32) (σ8_ : St) =>
  if p7_ < (σ8_ village_a 8) then
  lt (fun (p32_ : Int32) (σ33_ : St) =>
  lt (p32_ + 1) fun p35_ =>
  rec4_ p35_ σ33_) fun k10_ =>
  if q11_isIn ((σ8_ village_a 9) ||| (σ8_ village_a 10)) p7_ = true then (k10_ p7_ σ8_) else
  Option.bind (if 0 < (σ8_ village_a 11) then (lt (up σ8_ village_a 11 ((σ8_ village_a 11) - 1)) fun σ26_ =>
  Option.bind (sa σ26_ (village_a + 1) 6 p7_ 0) fun σ28_ =>
  some (σ28_)) else (Option.bind (q10_hungerMore σ8_ village_a p7_) fun x30_ =>
  some (x30_))) fun y19_ =>
  k10_ p7_ y19_
  else (some (p7_, σ8_))) fuelN (0 : Int32) σ) fun y1_ =>
  some y1_.2
abbrev rm0_feedOthers : Room := { frames := 2, cells := 0, slots := 0, locals := 42 }
set_option maxHeartbeats 4000000 in
set_option maxRecDepth 100000 in
theorem p0_feedOthers {Θ : Tz} {σ : St} {ρ : Option Value × St} (C : Zc Θ cX0_feedOthers 3 RX0 none rm0_feedOthers) (hkd : Θ.2.2.2.2.1 = kdC) {village_a : Nat} (h_village : isV village_a) {r : St} (hf : q0_feedOthers σ village_a = some r) (hρ : ρ = (none, r)) : Z Θ 3 0 0 (zQ Θ ρ) σ 0 [(0, .ref (zA Θ 13)), (1, .ref (zA Θ village_a))] [] := by
  unfold q0_feedOthers at hf
  refine z_iconst (v := 0) C dX0_feedOthers_0 ic_0 ?_
  refine z_istN C dX0_feedOthers_1 rfl rfl (Nat.le_of_ble_eq_true rfl) rfl ?_
  refine Z.sub [1, 2, 0] rfl ?_
  obtain ⟨y1_, h2_, hf⟩ := ob hf
  suffices K3_ : Z Θ 3 0 0 (zQ Θ ρ) y1_.2 67 [(0, .ref (zA Θ 13)), (1, .ref (zA Θ village_a)), (2, .int y1_.1)] [] by
    refine loop2_Z (P := fun (p7_ : Int32) (σ8_ : St) => Z Θ 3 0 0 (zQ Θ ρ) σ8_ 2 [(0, .ref (zA Θ 13)), (1, .ref (zA Θ village_a)), (2, .int p7_)] []) ?_ fuelN (0 : Int32) σ h2_
    clear h2_
    intro rec4_ p7_ σ8_ h5_ h6_
    have K11_ : p7_ < (σ8_ village_a 8) → Z Θ 3 0 0 (zQ Θ ρ) σ8_ 10 [(0, .ref (zA Θ 13)), (1, .ref (zA Θ village_a)), (2, .int p7_)] [] := by
      intro h14_
      rw [if_pos h14_] at h6_
      obtain ⟨k10_, h34_, h6_⟩ := lt_ h6_
      have K9_ : ∀ (p32_ : Int32) (σ33_ : St), k10_ p32_ σ33_ = some y1_ → Z Θ 3 0 0 (zQ Θ ρ) σ33_ 61 [(0, .ref (zA Θ 13)), (1, .ref (zA Θ village_a)), (2, .int p32_)] [] := by
        intro p32_ σ33_ h6_
        subst h34_
        dsimp only at h6_
        obtain ⟨p35_, h36_, h6_⟩ := lt_ h6_
        refine z_inc C 2 dX0_feedOthers_61 rfl ic_1 h36_ (Nat.le_of_ble_eq_true rfl) rfl ?_
        refine z_goto C 2 dX0_feedOthers_64 (by decide) ?_
        refine Z.sub [1, 2, 0] rfl ?_
        exact h5_ _ _ h6_
      have K15_ : q11_isIn ((σ8_ village_a 9) ||| (σ8_ village_a 10)) p7_ = true → Z Θ 3 0 0 (zQ Θ ρ) σ8_ 26 [(0, .ref (zA Θ 13)), (1, .ref (zA Θ village_a)), (2, .int p7_)] [] := by
        intro h18_
        rw [if_pos h18_] at h6_
        refine z_goto C 61 dX0_feedOthers_26 (by decide) ?_
        exact K9_ _ _ h6_
      suffices K16_ : ¬ (q11_isIn ((σ8_ village_a 9) ||| (σ8_ village_a 10)) p7_ = true) → Z Θ 3 0 0 (zQ Θ ρ) σ8_ 29 [(0, .ref (zA Θ 13)), (1, .ref (zA Θ village_a)), (2, .int p7_)] [] by
        refine z_aload_n C 1 dX0_feedOthers_10 rfl rfl ?_
        refine fg0_57 C hkd h_village dX0_feedOthers_11 ?_
        refine z_aload_n C 1 dX0_feedOthers_14 rfl rfl ?_
        refine fg0_60 C hkd h_village dX0_feedOthers_15 ?_
        refine z_ior C dX0_feedOthers_18 ?_
        refine z_iload_n C 2 dX0_feedOthers_19 rfl rfl ?_
        refine cr0_63 (set_a := ((σ8_ village_a 9) ||| (σ8_ village_a 10))) (person_a := p7_) C hkd  ⟨(Nat.le_of_ble_eq_true rfl), (Nat.le_of_ble_eq_true rfl)⟩ (Nat.le_of_ble_eq_true rfl) ⟨Nat.zero_le _, Nat.zero_le _⟩ dX0_feedOthers_20 ?_
        refine cb_f C 29 dX0_feedOthers_23 (by decide) (fun h17_ => ?_) (fun h17_ => ?_)
        · exact K15_ h17_
        · exact K16_ h17_
      intro h18_
      rw [if_neg h18_] at h6_
      obtain ⟨y19_, h20_, h6_⟩ := ob h6_
      suffices K21_ : Z Θ 3 0 0 (zQ Θ ρ) y19_ 61 [(0, .ref (zA Θ 13)), (1, .ref (zA Θ village_a)), (2, .int p7_)] [] by
        have K22_ : 0 < (σ8_ village_a 11) → Z Θ 3 0 0 (zQ Θ ρ) σ8_ 36 [(0, .ref (zA Θ 13)), (1, .ref (zA Θ village_a)), (2, .int p7_)] [] := by
          intro h25_
          rw [if_pos h25_] at h20_
          refine z_aload_n C 1 dX0_feedOthers_36 rfl rfl ?_
          refine z_dup C dX0_feedOthers_37 rfl ?_
          refine fg0_31 C hkd h_village dX0_feedOthers_38 ?_
          refine z_iconst (v := 1) C dX0_feedOthers_41 ic_1 ?_
          refine z_isub C dX0_feedOthers_42 ?_
          obtain ⟨σ26_, h27_, h20_⟩ := lt_ h20_
          refine fp0_31 C hkd h_village h27_ dX0_feedOthers_43 ?_
          refine z_aload_n C 1 dX0_feedOthers_46 rfl rfl ?_
          refine fg0_67 C hkd h_village dX0_feedOthers_47 ?_
          refine z_iload_n C 2 dX0_feedOthers_50 rfl rfl ?_
          refine z_iconst (v := 0) C dX0_feedOthers_51 ic_0 ?_
          obtain ⟨σ28_, h29_, h20_⟩ := ob h20_
          refine z_sa C h29_ (kV_1 hkd h_village) dX0_feedOthers_52 ?_
          refine z_goto C 61 dX0_feedOthers_53 (by decide) ?_
          cases h20_
          exact K21_
        have K23_ : ¬ (0 < (σ8_ village_a 11)) → Z Θ 3 0 0 (zQ Θ ρ) σ8_ 56 [(0, .ref (zA Θ 13)), (1, .ref (zA Θ village_a)), (2, .int p7_)] [] := by
          intro h25_
          rw [if_neg h25_] at h20_
          refine z_aload_n C 1 dX0_feedOthers_56 rfl rfl ?_
          refine z_iload_n C 2 dX0_feedOthers_57 rfl rfl ?_
          obtain ⟨x30_, h31_, h20_⟩ := ob h20_
          refine cr0_70 (th := village_a) (person_a := p7_) C hkd h_village h31_ ⟨(Nat.le_of_ble_eq_true rfl), (Nat.le_of_ble_eq_true rfl)⟩ (Nat.le_of_ble_eq_true rfl) ⟨Nat.zero_le _, Nat.zero_le _⟩ dX0_feedOthers_58 ?_
          cases h20_
          exact K21_
        refine z_aload_n C 1 dX0_feedOthers_29 rfl rfl ?_
        refine fg0_31 C hkd h_village dX0_feedOthers_30 ?_
        refine c0_gt_f C 56 dX0_feedOthers_33 (by decide) (fun h24_ => ?_) (fun h24_ => ?_)
        · exact K22_ h24_
        · exact K23_ h24_
      exact K9_ _ _ h6_
    have K12_ : ¬ (p7_ < (σ8_ village_a 8)) → Z Θ 3 0 0 (zQ Θ ρ) σ8_ 67 [(0, .ref (zA Θ 13)), (1, .ref (zA Θ village_a)), (2, .int p7_)] [] := by
      intro h14_
      rw [if_neg h14_] at h6_
      cases h6_
      exact K3_
    refine z_iload_n C 2 dX0_feedOthers_2 rfl rfl ?_
    refine z_aload_n C 1 dX0_feedOthers_3 rfl rfl ?_
    refine fg0_54 C hkd h_village dX0_feedOthers_4 ?_
    refine c_lt_f C 67 dX0_feedOthers_7 (by decide) (fun h13_ => ?_) (fun h13_ => ?_)
    · exact K11_ h13_
    · exact K12_ h13_
  cases hf
  subst hρ
  exact z_vret C dX0_feedOthers_67
theorem c0_feedOthers {l : Launch} {kd : List KD} {w : Wp} {σ : St} {village_a : Nat} (hkd : kd = kdC) (hi : zI kd w) (h_village : isV village_a) {r : St} (hf : q0_feedOthers σ village_a = some r) : zM l kd w yX0_feedOthers cX0_feedOthers 3 none rm0_feedOthers [.ref (w.2.2.1 13), .ref (w.2.2.1 village_a)] σ (none, r) := zM_of rfl hi (Nat.le_of_ble_eq_true rfl) (fun Θ hl hw C => by
  obtain ⟨Θ1, Θ2, Θ3, Θ4, Θ5⟩ := Θ
  cases hw
  exact p0_feedOthers C hkd h_village hf rfl)
/-! LastLoaf$Log.write -/
theorem w_3_207 : Cond.methodLink "LastLoaf$Log" (28 : Nat) ({ cls := "java/lang/Math", name := "min", desc := "(II)I" } : MethodName) ∈ TB := tb_in (lwt_3 (List.mem_of_getElem? (i := 207) (by decide +kernel))) rfl
theorem dX3_write_0 : decode cX3_write 0 = .ok (.aload_n 0, 1) := by decide +kernel
theorem dX3_write_1 : decode cX3_write 1 = .ok (.getfield 19, 3) := by decide +kernel
theorem dX3_write_4 : decode cX3_write 4 = .ok (.iconst 4, 1) := by decide +kernel
theorem dX3_write_5 : decode cX3_write 5 = .ok (.imul, 1) := by decide +kernel
theorem dX3_write_6 : decode cX3_write 6 = .ok (.istore 5, 2) := by decide +kernel
theorem dX3_write_8 : decode cX3_write 8 = .ok (.aload_n 0, 1) := by decide +kernel
theorem dX3_write_9 : decode cX3_write 9 = .ok (.getfield 9, 3) := by decide +kernel
theorem dX3_write_12 : decode cX3_write 12 = .ok (.iload 5, 2) := by decide +kernel
theorem dX3_write_14 : decode cX3_write 14 = .ok (.iload_n 1, 1) := by decide +kernel
theorem dX3_write_15 : decode cX3_write 15 = .ok (.iastore, 1) := by decide +kernel
theorem dX3_write_16 : decode cX3_write 16 = .ok (.aload_n 0, 1) := by decide +kernel
theorem dX3_write_17 : decode cX3_write 17 = .ok (.getfield 9, 3) := by decide +kernel
theorem dX3_write_20 : decode cX3_write 20 = .ok (.iload 5, 2) := by decide +kernel
theorem dX3_write_22 : decode cX3_write 22 = .ok (.iconst 1, 1) := by decide +kernel
theorem dX3_write_23 : decode cX3_write 23 = .ok (.iadd, 1) := by decide +kernel
theorem dX3_write_24 : decode cX3_write 24 = .ok (.iload_n 2, 1) := by decide +kernel
theorem dX3_write_25 : decode cX3_write 25 = .ok (.iastore, 1) := by decide +kernel
theorem dX3_write_26 : decode cX3_write 26 = .ok (.aload_n 0, 1) := by decide +kernel
theorem dX3_write_27 : decode cX3_write 27 = .ok (.getfield 9, 3) := by decide +kernel
theorem dX3_write_30 : decode cX3_write 30 = .ok (.iload 5, 2) := by decide +kernel
theorem dX3_write_32 : decode cX3_write 32 = .ok (.iconst 2, 1) := by decide +kernel
theorem dX3_write_33 : decode cX3_write 33 = .ok (.iadd, 1) := by decide +kernel
theorem dX3_write_34 : decode cX3_write 34 = .ok (.iload_n 3, 1) := by decide +kernel
theorem dX3_write_35 : decode cX3_write 35 = .ok (.iastore, 1) := by decide +kernel
theorem dX3_write_36 : decode cX3_write 36 = .ok (.aload_n 0, 1) := by decide +kernel
theorem dX3_write_37 : decode cX3_write 37 = .ok (.getfield 9, 3) := by decide +kernel
theorem dX3_write_40 : decode cX3_write 40 = .ok (.iload 5, 2) := by decide +kernel
theorem dX3_write_42 : decode cX3_write 42 = .ok (.iconst 3, 1) := by decide +kernel
theorem dX3_write_43 : decode cX3_write 43 = .ok (.iadd, 1) := by decide +kernel
theorem dX3_write_44 : decode cX3_write 44 = .ok (.iload 4, 2) := by decide +kernel
theorem dX3_write_46 : decode cX3_write 46 = .ok (.iastore, 1) := by decide +kernel
theorem dX3_write_47 : decode cX3_write 47 = .ok (.aload_n 0, 1) := by decide +kernel
theorem dX3_write_48 : decode cX3_write 48 = .ok (.aload_n 0, 1) := by decide +kernel
theorem dX3_write_49 : decode cX3_write 49 = .ok (.getfield 19, 3) := by decide +kernel
theorem dX3_write_52 : decode cX3_write 52 = .ok (.iconst 1, 1) := by decide +kernel
theorem dX3_write_53 : decode cX3_write 53 = .ok (.iadd, 1) := by decide +kernel
theorem dX3_write_54 : decode cX3_write 54 = .ok (.bipush 60, 2) := by decide +kernel
theorem dX3_write_56 : decode cX3_write 56 = .ok (.irem, 1) := by decide +kernel
theorem dX3_write_57 : decode cX3_write 57 = .ok (.putfield 19, 3) := by decide +kernel
theorem dX3_write_60 : decode cX3_write 60 = .ok (.aload_n 0, 1) := by decide +kernel
theorem dX3_write_61 : decode cX3_write 61 = .ok (.bipush 60, 2) := by decide +kernel
theorem dX3_write_63 : decode cX3_write 63 = .ok (.aload_n 0, 1) := by decide +kernel
theorem dX3_write_64 : decode cX3_write 64 = .ok (.getfield 15, 3) := by decide +kernel
theorem dX3_write_67 : decode cX3_write 67 = .ok (.iconst 1, 1) := by decide +kernel
theorem dX3_write_68 : decode cX3_write 68 = .ok (.iadd, 1) := by decide +kernel
theorem dX3_write_69 : decode cX3_write 69 = .ok (.invokestatic 28, 3) := by decide +kernel
theorem dX3_write_72 : decode cX3_write 72 = .ok (.putfield 15, 3) := by decide +kernel
theorem dX3_write_75 : decode cX3_write 75 = .ok (.return_, 1) := by decide +kernel
def q3_write (σ : St) (th : Nat) (week_a : Int32) (kind_a : Int32) (person_a : Int32) (votes_a : Int32) : Option St :=
  lt ((σ th 2) * 4) fun cell1_ =>
  Option.bind (sa σ (th + 1) 240 cell1_ week_a) fun σ3_ =>
  Option.bind (sa σ3_ (th + 1) 240 (cell1_ + 1) kind_a) fun σ5_ =>
  Option.bind (sa σ5_ (th + 1) 240 (cell1_ + 2) person_a) fun σ7_ =>
  Option.bind (sa σ7_ (th + 1) 240 (cell1_ + 3) votes_a) fun σ9_ =>
  lt (up σ9_ th 2 (irm ((σ9_ th 2) + 1) 60)) fun σ11_ =>
  lt (up σ11_ th 1 (imin 60 ((σ11_ th 1) + 1))) fun σ13_ =>
  some σ13_
abbrev rm3_write : Room := { frames := 1, cells := 0, slots := 0, locals := 21 }
set_option maxHeartbeats 4000000 in
set_option maxRecDepth 100000 in
theorem p3_write {Θ : Tz} {σ : St} {ρ : Option Value × St} (C : Zc Θ cX3_write 6 RX3 none rm3_write) (hkd : Θ.2.2.2.2.1 = kdC) {th : Nat} {week_a : Int32} {kind_a : Int32} {person_a : Int32} {votes_a : Int32} (hth : isLog th) {r : St} (hf : q3_write σ th week_a kind_a person_a votes_a = some r) (hρ : ρ = (none, r)) : Z Θ 6 0 0 (zQ Θ ρ) σ 0 [(0, .ref (zA Θ th)), (1, .int week_a), (2, .int kind_a), (3, .int person_a), (4, .int votes_a)] [] := by
  unfold q3_write at hf
  refine z_aload_n C 0 dX3_write_0 rfl rfl ?_
  refine fg3_19 C hkd hth dX3_write_1 ?_
  refine z_iconst (v := 4) C dX3_write_4 ic_4 ?_
  refine z_imul C dX3_write_5 ?_
  obtain ⟨cell1_, h2_, hf⟩ := lt_ hf
  refine z_ist C dX3_write_6 h2_ (Nat.le_of_ble_eq_true rfl) rfl ?_
  refine z_aload_n C 1 dX3_write_8 rfl rfl ?_
  refine fg3_9 C hkd hth dX3_write_9 ?_
  refine z_iload C 0 dX3_write_12 rfl ?_
  refine z_iload_n C 2 dX3_write_14 rfl rfl ?_
  obtain ⟨σ3_, h4_, hf⟩ := ob hf
  refine z_sa C h4_ (kLog_1 hkd hth) dX3_write_15 ?_
  refine z_aload_n C 1 dX3_write_16 rfl rfl ?_
  refine fg3_9 C hkd hth dX3_write_17 ?_
  refine z_iload C 0 dX3_write_20 rfl ?_
  refine z_iconst (v := 1) C dX3_write_22 ic_1 ?_
  refine z_iadd C dX3_write_23 ?_
  refine z_iload_n C 3 dX3_write_24 rfl rfl ?_
  obtain ⟨σ5_, h6_, hf⟩ := ob hf
  refine z_sa C h6_ (kLog_1 hkd hth) dX3_write_25 ?_
  refine z_aload_n C 1 dX3_write_26 rfl rfl ?_
  refine fg3_9 C hkd hth dX3_write_27 ?_
  refine z_iload C 0 dX3_write_30 rfl ?_
  refine z_iconst (v := 2) C dX3_write_32 ic_2 ?_
  refine z_iadd C dX3_write_33 ?_
  refine z_iload_n C 4 dX3_write_34 rfl rfl ?_
  obtain ⟨σ7_, h8_, hf⟩ := ob hf
  refine z_sa C h8_ (kLog_1 hkd hth) dX3_write_35 ?_
  refine z_aload_n C 1 dX3_write_36 rfl rfl ?_
  refine fg3_9 C hkd hth dX3_write_37 ?_
  refine z_iload C 0 dX3_write_40 rfl ?_
  refine z_iconst (v := 3) C dX3_write_42 ic_3 ?_
  refine z_iadd C dX3_write_43 ?_
  refine z_iload C 5 dX3_write_44 rfl ?_
  obtain ⟨σ9_, h10_, hf⟩ := ob hf
  refine z_sa C h10_ (kLog_1 hkd hth) dX3_write_46 ?_
  refine z_aload_n C 1 dX3_write_47 rfl rfl ?_
  refine z_aload_n C 1 dX3_write_48 rfl rfl ?_
  refine fg3_19 C hkd hth dX3_write_49 ?_
  refine z_iconst (v := 1) C dX3_write_52 ic_1 ?_
  refine z_iadd C dX3_write_53 ?_
  refine z_bipush (v := 60) C dX3_write_54 bp_60 ?_
  refine z_irm C (by decide) dX3_write_56 ?_
  obtain ⟨σ11_, h12_, hf⟩ := lt_ hf
  refine fp3_19 C hkd hth h12_ dX3_write_57 ?_
  refine z_aload_n C 1 dX3_write_60 rfl rfl ?_
  refine z_bipush (v := 60) C dX3_write_61 bp_60 ?_
  refine z_aload_n C 1 dX3_write_63 rfl rfl ?_
  refine fg3_15 C hkd hth dX3_write_64 ?_
  refine z_iconst (v := 1) C dX3_write_67 ic_1 ?_
  refine z_iadd C dX3_write_68 ?_
  refine z_min C w_3_207 w_3_129 w_1_28 w_3_130 ⟨(Nat.le_of_ble_eq_true rfl), (Nat.le_of_ble_eq_true rfl)⟩ (Nat.le_of_ble_eq_true rfl) ⟨Nat.zero_le _, Nat.zero_le _⟩ dX3_write_69 ?_
  obtain ⟨σ13_, h14_, hf⟩ := lt_ hf
  refine fp3_15 C hkd hth h14_ dX3_write_72 ?_
  cases hf
  subst hρ
  exact z_vret C dX3_write_75
theorem c3_write {l : Launch} {kd : List KD} {w : Wp} {σ : St} {th : Nat} {week_a : Int32} {kind_a : Int32} {person_a : Int32} {votes_a : Int32} (hkd : kd = kdC) (hi : zI kd w) (hth : isLog th) {r : St} (hf : q3_write σ th week_a kind_a person_a votes_a = some r) : zM l kd w yX3_write cX3_write 6 none rm3_write [.ref (w.2.2.1 th), .int week_a, .int kind_a, .int person_a, .int votes_a] σ (none, r) := zM_of rfl hi (Nat.le_of_ble_eq_true rfl) (fun Θ hl hw C => by
  obtain ⟨Θ1, Θ2, Θ3, Θ4, Θ5⟩ := Θ
  cases hw
  exact p3_write C hkd hth hf rfl)
/-! LastLoaf.leastOf -/
theorem dX11_leastOf_0 : decode cX11_leastOf 0 = .ok (.iconst 0, 1) := by decide +kernel
theorem dX11_leastOf_1 : decode cX11_leastOf 1 = .ok (.istore_n 1, 1) := by decide +kernel
theorem dX11_leastOf_2 : decode cX11_leastOf 2 = .ok (.iload_n 1, 1) := by decide +kernel
theorem dX11_leastOf_3 : decode cX11_leastOf 3 = .ok (.bipush 6, 2) := by decide +kernel
theorem dX11_leastOf_5 : decode cX11_leastOf 5 = .ok (.if_icmp .ge 19, 3) := by decide +kernel
theorem dX11_leastOf_8 : decode cX11_leastOf 8 = .ok (.iload_n 0, 1) := by decide +kernel
theorem dX11_leastOf_9 : decode cX11_leastOf 9 = .ok (.iload_n 1, 1) := by decide +kernel
theorem dX11_leastOf_10 : decode cX11_leastOf 10 = .ok (.invokestatic 167, 3) := by decide +kernel
theorem dX11_leastOf_13 : decode cX11_leastOf 13 = .ok (.ifCond .eq 5, 3) := by decide +kernel
theorem dX11_leastOf_16 : decode cX11_leastOf 16 = .ok (.iload_n 1, 1) := by decide +kernel
theorem dX11_leastOf_17 : decode cX11_leastOf 17 = .ok (.ireturn, 1) := by decide +kernel
theorem dX11_leastOf_18 : decode cX11_leastOf 18 = .ok (.iinc 1 1, 3) := by decide +kernel
theorem dX11_leastOf_21 : decode cX11_leastOf 21 = .ok (.goto (-19), 3) := by decide +kernel
theorem dX11_leastOf_24 : decode cX11_leastOf 24 = .ok (.iconst (-1), 1) := by decide +kernel
theorem dX11_leastOf_25 : decode cX11_leastOf 25 = .ok (.ireturn, 1) := by decide +kernel
def q11_leastOf (set_a : Int32) : Option Int32 :=
  Option.bind (loop1 (fun rec4_ (p7_ : Int32) =>
  if p7_ < 6 then
  if q11_isIn set_a p7_ = true then (some (.inl p7_)) else
  lt (p7_ + 1) fun p18_ =>
  rec4_ p18_
  else (some (.inr p7_))) fuelN (0 : Int32)) fun y1_ =>
  Sum.elim (fun x9 => some x9) (fun y1_r =>
  some (-1)) y1_
abbrev rm11_leastOf : Room := { frames := 1, cells := 0, slots := 0, locals := 21 }
set_option maxHeartbeats 4000000 in
set_option maxRecDepth 100000 in
theorem p11_leastOf {Θ : Tz} {σ : St} {ρ : Option Value × St} (C : Zc Θ cX11_leastOf 2 RX11 (some .int) rm11_leastOf) (hkd : Θ.2.2.2.2.1 = kdC) {set_a : Int32} {r : Int32} (hf : q11_leastOf set_a = some r) (hρ : ρ = (some (.int r), σ)) : Z Θ 2 0 0 (zQ Θ ρ) σ 0 [(0, .int set_a)] [] := by
  unfold q11_leastOf at hf
  refine z_iconst (v := 0) C dX11_leastOf_0 ic_0 ?_
  refine z_istN C dX11_leastOf_1 rfl rfl (Nat.le_of_ble_eq_true rfl) rfl ?_
  refine Z.sub [1, 0] rfl ?_
  obtain ⟨y1_, h2_, hf⟩ := ob hf
  suffices K3_ : ∀ y1_r, y1_ = .inr y1_r → Z Θ 2 0 0 (zQ Θ ρ) σ 24 [(0, .int set_a), (1, .int y1_r)] [] by
    refine loop1_Z (P := fun (p7_ : Int32) => Z Θ 2 0 0 (zQ Θ ρ) σ 2 [(0, .int set_a), (1, .int p7_)] []) ?_ fuelN (0 : Int32) h2_
    clear h2_
    intro rec4_ p7_ h5_ h6_
    have K10_ : p7_ < 6 → Z Θ 2 0 0 (zQ Θ ρ) σ 8 [(0, .int set_a), (1, .int p7_)] [] := by
      intro h13_
      rw [if_pos h13_] at h6_
      have K14_ : q11_isIn set_a p7_ = true → Z Θ 2 0 0 (zQ Θ ρ) σ 16 [(0, .int set_a), (1, .int p7_)] [] := by
        intro h17_
        rw [if_pos h17_] at h6_
        refine z_iload_n C 1 dX11_leastOf_16 rfl rfl ?_
        rw [← Option.some.inj h6_] at hf
        replace hf : some p7_ = some r := hf
        cases hf
        subst hρ
        exact z_iret C dX11_leastOf_17
      suffices K15_ : ¬ (q11_isIn set_a p7_ = true) → Z Θ 2 0 0 (zQ Θ ρ) σ 18 [(0, .int set_a), (1, .int p7_)] [] by
        refine z_iload_n C 0 dX11_leastOf_8 rfl rfl ?_
        refine z_iload_n C 1 dX11_leastOf_9 rfl rfl ?_
        refine cr11_167 (set_a := set_a) (person_a := p7_) C hkd  ⟨(Nat.le_of_ble_eq_true rfl), (Nat.le_of_ble_eq_true rfl)⟩ (Nat.le_of_ble_eq_true rfl) ⟨Nat.zero_le _, Nat.zero_le _⟩ dX11_leastOf_10 ?_
        refine cb_f C 18 dX11_leastOf_13 (by decide) (fun h16_ => ?_) (fun h16_ => ?_)
        · exact K14_ h16_
        · exact K15_ h16_
      intro h17_
      rw [if_neg h17_] at h6_
      obtain ⟨p18_, h19_, h6_⟩ := lt_ h6_
      refine z_inc C 1 dX11_leastOf_18 rfl ic_1 h19_ (Nat.le_of_ble_eq_true rfl) rfl ?_
      refine z_goto C 2 dX11_leastOf_21 (by decide) ?_
      refine Z.sub [1, 0] rfl ?_
      exact h5_ _ h6_
    have K11_ : ¬ (p7_ < 6) → Z Θ 2 0 0 (zQ Θ ρ) σ 24 [(0, .int set_a), (1, .int p7_)] [] := by
      intro h13_
      rw [if_neg h13_] at h6_
      exact K3_ _ (Option.some.inj h6_).symm
    refine z_iload_n C 1 dX11_leastOf_2 rfl rfl ?_
    refine z_bipush (v := 6) C dX11_leastOf_3 bp_6 ?_
    refine c_lt_f C 24 dX11_leastOf_5 (by decide) (fun h12_ => ?_) (fun h12_ => ?_)
    · exact K10_ h12_
    · exact K11_ h12_
  intro y1_r e9
  subst e9
  simp only [Sum.elim_inr] at hf
  refine z_iconst (v := (-1)) C dX11_leastOf_24 ic_m1 ?_
  cases hf
  subst hρ
  exact z_iret C dX11_leastOf_25
theorem c11_leastOf {l : Launch} {kd : List KD} {w : Wp} {σ : St} {set_a : Int32} (hkd : kd = kdC) (hi : zI kd w) {r : Int32} (hf : q11_leastOf set_a = some r) : zM l kd w yX11_leastOf cX11_leastOf 2 (some .int) rm11_leastOf [.int set_a] σ (some (.int r), σ) := zM_of rfl hi (Nat.le_of_ble_eq_true rfl) (fun Θ hl hw C => by
  obtain ⟨Θ1, Θ2, Θ3, Θ4, Θ5⟩ := Θ
  cases hw
  exact p11_leastOf C hkd  hf rfl)
/-! LastLoaf.without -/
theorem dX11_without_0 : decode cX11_without 0 = .ok (.iload_n 0, 1) := by decide +kernel
theorem dX11_without_1 : decode cX11_without 1 = .ok (.iconst 1, 1) := by decide +kernel
theorem dX11_without_2 : decode cX11_without 2 = .ok (.iload_n 1, 1) := by decide +kernel
theorem dX11_without_3 : decode cX11_without 3 = .ok (.ishl, 1) := by decide +kernel
theorem dX11_without_4 : decode cX11_without 4 = .ok (.iconst (-1), 1) := by decide +kernel
theorem dX11_without_5 : decode cX11_without 5 = .ok (.ixor, 1) := by decide +kernel
theorem dX11_without_6 : decode cX11_without 6 = .ok (.iand, 1) := by decide +kernel
theorem dX11_without_7 : decode cX11_without 7 = .ok (.ireturn, 1) := by decide +kernel
def q11_without (set_a : Int32) (person_a : Int32) : Int32 :=
  set_a &&& ((shl 1 person_a) ^^^ (-1))
abbrev rm11_without : Room := { frames := 0, cells := 0, slots := 0, locals := 0 }
set_option maxHeartbeats 4000000 in
set_option maxRecDepth 100000 in
theorem p11_without {Θ : Tz} {σ : St} {ρ : Option Value × St} (C : Zc Θ cX11_without 2 RX11 (some .int) rm11_without) (hkd : Θ.2.2.2.2.1 = kdC) {set_a : Int32} {person_a : Int32} {r : Int32} (hf : q11_without set_a person_a = r) (hρ : ρ = (some (.int r), σ)) : Z Θ 2 0 0 (zQ Θ ρ) σ 0 [(0, .int set_a), (1, .int person_a)] [] := by
  unfold q11_without at hf
  refine z_iload_n C 0 dX11_without_0 rfl rfl ?_
  refine z_iconst (v := 1) C dX11_without_1 ic_1 ?_
  refine z_iload_n C 1 dX11_without_2 rfl rfl ?_
  refine z_shl C dX11_without_3 ?_
  refine z_iconst (v := (-1)) C dX11_without_4 ic_m1 ?_
  refine z_ixor C dX11_without_5 ?_
  refine z_iand C dX11_without_6 ?_
  subst hf
  subst hρ
  exact z_iret C dX11_without_7
theorem c11_without {l : Launch} {kd : List KD} {w : Wp} {σ : St} {set_a : Int32} {person_a : Int32} (hkd : kd = kdC) (hi : zI kd w) : zM l kd w yX11_without cX11_without 2 (some .int) rm11_without [.int set_a, .int person_a] σ (some (.int (q11_without set_a person_a)), σ) := zM_of rfl hi (Nat.le_of_ble_eq_true rfl) (fun Θ hl hw C => by
  obtain ⟨Θ1, Θ2, Θ3, Θ4, Θ5⟩ := Θ
  cases hw
  exact p11_without C hkd  rfl rfl)
/-! LastLoaf$Poll.countFirst -/
theorem dX5_countFirst_0 : decode cX5_countFirst 0 = .ok (.aload_n 0, 1) := by decide +kernel
theorem dX5_countFirst_1 : decode cX5_countFirst 1 = .ok (.getfield 21, 3) := by decide +kernel
theorem dX5_countFirst_4 : decode cX5_countFirst 4 = .ok (.iconst 0, 1) := by decide +kernel
theorem dX5_countFirst_5 : decode cX5_countFirst 5 = .ok (.invokestatic 107, 3) := by decide +kernel
theorem dX5_countFirst_8 : decode cX5_countFirst 8 = .ok (.iconst 0, 1) := by decide +kernel
theorem dX5_countFirst_9 : decode cX5_countFirst 9 = .ok (.istore_n 2, 1) := by decide +kernel
theorem dX5_countFirst_10 : decode cX5_countFirst 10 = .ok (.iload_n 2, 1) := by decide +kernel
theorem dX5_countFirst_11 : decode cX5_countFirst 11 = .ok (.aload_n 0, 1) := by decide +kernel
theorem dX5_countFirst_12 : decode cX5_countFirst 12 = .ok (.getfield 30, 3) := by decide +kernel
theorem dX5_countFirst_15 : decode cX5_countFirst 15 = .ok (.if_icmp .ge 93, 3) := by decide +kernel
theorem dX5_countFirst_18 : decode cX5_countFirst 18 = .ok (.iload_n 2, 1) := by decide +kernel
theorem dX5_countFirst_19 : decode cX5_countFirst 19 = .ok (.bipush 6, 2) := by decide +kernel
theorem dX5_countFirst_21 : decode cX5_countFirst 21 = .ok (.imul, 1) := by decide +kernel
theorem dX5_countFirst_22 : decode cX5_countFirst 22 = .ok (.istore_n 3, 1) := by decide +kernel
theorem dX5_countFirst_23 : decode cX5_countFirst 23 = .ok (.aload_n 0, 1) := by decide +kernel
theorem dX5_countFirst_24 : decode cX5_countFirst 24 = .ok (.getfield 40, 3) := by decide +kernel
theorem dX5_countFirst_27 : decode cX5_countFirst 27 = .ok (.iload_n 2, 1) := by decide +kernel
theorem dX5_countFirst_28 : decode cX5_countFirst 28 = .ok (.invokestatic 58, 3) := by decide +kernel
theorem dX5_countFirst_31 : decode cX5_countFirst 31 = .ok (.ifCond .eq 7, 3) := by decide +kernel
theorem dX5_countFirst_34 : decode cX5_countFirst 34 = .ok (.iconst 0, 1) := by decide +kernel
theorem dX5_countFirst_35 : decode cX5_countFirst 35 = .ok (.goto 7, 3) := by decide +kernel
theorem dX5_countFirst_38 : decode cX5_countFirst 38 = .ok (.aload_n 0, 1) := by decide +kernel
theorem dX5_countFirst_39 : decode cX5_countFirst 39 = .ok (.getfield 37, 3) := by decide +kernel
theorem dX5_countFirst_42 : decode cX5_countFirst 42 = .ok (.istore 4, 2) := by decide +kernel
theorem dX5_countFirst_44 : decode cX5_countFirst 44 = .ok (.iload 4, 2) := by decide +kernel
theorem dX5_countFirst_46 : decode cX5_countFirst 46 = .ok (.aload_n 0, 1) := by decide +kernel
theorem dX5_countFirst_47 : decode cX5_countFirst 47 = .ok (.getfield 37, 3) := by decide +kernel
theorem dX5_countFirst_50 : decode cX5_countFirst 50 = .ok (.if_icmp .ge 25, 3) := by decide +kernel
theorem dX5_countFirst_53 : decode cX5_countFirst 53 = .ok (.iload_n 1, 1) := by decide +kernel
theorem dX5_countFirst_54 : decode cX5_countFirst 54 = .ok (.aload_n 0, 1) := by decide +kernel
theorem dX5_countFirst_55 : decode cX5_countFirst 55 = .ok (.getfield 9, 3) := by decide +kernel
theorem dX5_countFirst_58 : decode cX5_countFirst 58 = .ok (.iload_n 3, 1) := by decide +kernel
theorem dX5_countFirst_59 : decode cX5_countFirst 59 = .ok (.iload 4, 2) := by decide +kernel
theorem dX5_countFirst_61 : decode cX5_countFirst 61 = .ok (.iadd, 1) := by decide +kernel
theorem dX5_countFirst_62 : decode cX5_countFirst 62 = .ok (.iaload, 1) := by decide +kernel
theorem dX5_countFirst_63 : decode cX5_countFirst 63 = .ok (.invokestatic 58, 3) := by decide +kernel
theorem dX5_countFirst_66 : decode cX5_countFirst 66 = .ok (.ifCond .ne 9, 3) := by decide +kernel
theorem dX5_countFirst_69 : decode cX5_countFirst 69 = .ok (.iinc 4 1, 3) := by decide +kernel
theorem dX5_countFirst_72 : decode cX5_countFirst 72 = .ok (.goto (-28), 3) := by decide +kernel
theorem dX5_countFirst_75 : decode cX5_countFirst 75 = .ok (.iload 4, 2) := by decide +kernel
theorem dX5_countFirst_77 : decode cX5_countFirst 77 = .ok (.aload_n 0, 1) := by decide +kernel
theorem dX5_countFirst_78 : decode cX5_countFirst 78 = .ok (.getfield 37, 3) := by decide +kernel
theorem dX5_countFirst_81 : decode cX5_countFirst 81 = .ok (.if_icmp .ge 21, 3) := by decide +kernel
theorem dX5_countFirst_84 : decode cX5_countFirst 84 = .ok (.aload_n 0, 1) := by decide +kernel
theorem dX5_countFirst_85 : decode cX5_countFirst 85 = .ok (.getfield 21, 3) := by decide +kernel
theorem dX5_countFirst_88 : decode cX5_countFirst 88 = .ok (.aload_n 0, 1) := by decide +kernel
theorem dX5_countFirst_89 : decode cX5_countFirst 89 = .ok (.getfield 9, 3) := by decide +kernel
theorem dX5_countFirst_92 : decode cX5_countFirst 92 = .ok (.iload_n 3, 1) := by decide +kernel
theorem dX5_countFirst_93 : decode cX5_countFirst 93 = .ok (.iload 4, 2) := by decide +kernel
theorem dX5_countFirst_95 : decode cX5_countFirst 95 = .ok (.iadd, 1) := by decide +kernel
theorem dX5_countFirst_96 : decode cX5_countFirst 96 = .ok (.iaload, 1) := by decide +kernel
theorem dX5_countFirst_97 : decode cX5_countFirst 97 = .ok (.dup2, 1) := by decide +kernel
theorem dX5_countFirst_98 : decode cX5_countFirst 98 = .ok (.iaload, 1) := by decide +kernel
theorem dX5_countFirst_99 : decode cX5_countFirst 99 = .ok (.iconst 1, 1) := by decide +kernel
theorem dX5_countFirst_100 : decode cX5_countFirst 100 = .ok (.iadd, 1) := by decide +kernel
theorem dX5_countFirst_101 : decode cX5_countFirst 101 = .ok (.iastore, 1) := by decide +kernel
theorem dX5_countFirst_102 : decode cX5_countFirst 102 = .ok (.iinc 2 1, 3) := by decide +kernel
theorem dX5_countFirst_105 : decode cX5_countFirst 105 = .ok (.goto (-95), 3) := by decide +kernel
theorem dX5_countFirst_108 : decode cX5_countFirst 108 = .ok (.return_, 1) := by decide +kernel
def q5_countFirst (σ : St) (among_a : Int32) : Option St :=
  lt (fil σ 10 6 0) fun σ1_ =>
  Option.bind (loop2 (fun rec6_ (v9_ : Int32) (σ10_ : St) =>
  if v9_ < (σ10_ 6 6) then
  lt (v9_ * 6) fun row17_ =>
  lt (if q11_isIn (σ10_ 6 9) v9_ = true then 0 else σ10_ 6 8) fun k24_ =>
  Option.bind (loop1 (fun rec29_ (k32_ : Int32) =>
  Option.bind (if k32_ < (σ10_ 6 8) then (Option.bind (ag σ10_ 7 36 (row17_ + k32_)) fun x40_ =>
  if q11_isIn among_a x40_ = true then (some false) else (some true)) else (some false)) fun t37_ =>
  if t37_ = true then
  lt (k32_ + 1) fun k44_ =>
  rec29_ k44_
  else (some k32_)) fuelN k24_) fun y26_ =>
  Option.bind (if y26_ < (σ10_ 6 8) then (Option.bind (ag σ10_ 7 36 (row17_ + y26_)) fun x53_ =>
  Option.bind (ag σ10_ 10 6 x53_) fun x55_ =>
  Option.bind (sa σ10_ 10 6 x53_ (x55_ + 1)) fun σ57_ =>
  some (σ57_)) else (some (σ10_))) fun y46_ =>
  lt (v9_ + 1) fun v59_ =>
  rec6_ v59_ y46_
  else (some (v9_, σ10_))) fuelN (0 : Int32) σ1_) fun y3_ =>
  some y3_.2
abbrev rm5_countFirst : Room := { frames := 1, cells := 0, slots := 0, locals := 23 }
set_option maxHeartbeats 4000000 in
set_option maxRecDepth 100000 in
theorem p5_countFirst {Θ : Tz} {σ : St} {ρ : Option Value × St} (C : Zc Θ cX5_countFirst 5 RX5 none rm5_countFirst) (hkd : Θ.2.2.2.2.1 = kdC) {among_a : Int32} {r : St} (hf : q5_countFirst σ among_a = some r) (hρ : ρ = (none, r)) : Z Θ 5 0 0 (zQ Θ ρ) σ 0 [(0, .ref (zA Θ 6)), (1, .int among_a)] [] := by
  unfold q5_countFirst at hf
  refine z_aload_n C 0 dX5_countFirst_0 rfl rfl ?_
  refine fg5_21 C hkd dX5_countFirst_1 ?_
  refine z_iconst (v := 0) C dX5_countFirst_4 ic_0 ?_
  obtain ⟨σ1_, h2_, hf⟩ := lt_ hf
  refine z_callS C [.ref (zA Θ 10), .int 0] (none, fil σ 10 6 0) 2 (cJ_fill (zc_inj C) (kC_10 hkd) (Nat.le_of_ble_eq_true rfl)) w_1_90 w_3_158 w_1_89 w_1_5 ⟨rfl, rfl, (Nat.le_of_ble_eq_true rfl), (Nat.le_of_ble_eq_true rfl)⟩ (by decide +kernel) rfl rfl (Nat.le_of_ble_eq_true rfl) ⟨Nat.zero_le _, Nat.zero_le _⟩ dX5_countFirst_5 ?_
  rw [← h2_]
  refine z_iconst (v := 0) C dX5_countFirst_8 ic_0 ?_
  refine z_istN C dX5_countFirst_9 rfl rfl (Nat.le_of_ble_eq_true rfl) rfl ?_
  refine Z.sub [1, 2, 0] rfl ?_
  obtain ⟨y3_, h4_, hf⟩ := ob hf
  suffices K5_ : Z Θ 5 0 0 (zQ Θ ρ) y3_.2 108 [(0, .ref (zA Θ 6)), (1, .int among_a), (2, .int y3_.1)] [] by
    refine loop2_Z (P := fun (v9_ : Int32) (σ10_ : St) => Z Θ 5 0 0 (zQ Θ ρ) σ10_ 10 [(0, .ref (zA Θ 6)), (1, .int among_a), (2, .int v9_)] []) ?_ fuelN (0 : Int32) σ1_ h4_
    clear h4_
    intro rec6_ v9_ σ10_ h7_ h8_
    have K13_ : v9_ < (σ10_ 6 6) → Z Θ 5 0 0 (zQ Θ ρ) σ10_ 18 [(0, .ref (zA Θ 6)), (1, .int among_a), (2, .int v9_)] [] := by
      intro h16_
      rw [if_pos h16_] at h8_
      refine z_iload_n C 2 dX5_countFirst_18 rfl rfl ?_
      refine z_bipush (v := 6) C dX5_countFirst_19 bp_6 ?_
      refine z_imul C dX5_countFirst_21 ?_
      obtain ⟨row17_, h18_, h8_⟩ := lt_ h8_
      refine z_istN C dX5_countFirst_22 h18_ rfl (Nat.le_of_ble_eq_true rfl) rfl ?_
      suffices K19_ : Z Θ 5 0 0 (zQ Θ ρ) σ10_ 42 [(3, .int row17_), (0, .ref (zA Θ 6)), (1, .int among_a), (2, .int v9_)] [.int (if q11_isIn (σ10_ 6 9) v9_ = true then 0 else σ10_ 6 8)] by
        have K20_ : q11_isIn (σ10_ 6 9) v9_ = true → Z Θ 5 0 0 (zQ Θ ρ) σ10_ 34 [(3, .int row17_), (0, .ref (zA Θ 6)), (1, .int among_a), (2, .int v9_)] [] := by
          intro h23_
          rw [if_pos h23_] at K19_
          refine z_iconst (v := 0) C dX5_countFirst_34 ic_0 ?_
          refine z_goto C 42 dX5_countFirst_35 (by decide) ?_
          exact K19_
        have K21_ : ¬ (q11_isIn (σ10_ 6 9) v9_ = true) → Z Θ 5 0 0 (zQ Θ ρ) σ10_ 38 [(3, .int row17_), (0, .ref (zA Θ 6)), (1, .int among_a), (2, .int v9_)] [] := by
          intro h23_
          rw [if_neg h23_] at K19_
          refine z_aload_n C 1 dX5_countFirst_38 rfl rfl ?_
          refine fg5_37 C hkd dX5_countFirst_39 ?_
          exact K19_
        refine z_aload_n C 1 dX5_countFirst_23 rfl rfl ?_
        refine fg5_40 C hkd dX5_countFirst_24 ?_
        refine z_iload_n C 3 dX5_countFirst_27 rfl rfl ?_
        refine cr5_58 (set_a := (σ10_ 6 9)) (person_a := v9_) C hkd  ⟨(Nat.le_of_ble_eq_true rfl), (Nat.le_of_ble_eq_true rfl)⟩ (Nat.le_of_ble_eq_true rfl) ⟨Nat.zero_le _, Nat.zero_le _⟩ dX5_countFirst_28 ?_
        refine cb_f C 38 dX5_countFirst_31 (by decide) (fun h22_ => ?_) (fun h22_ => ?_)
        · exact K20_ h22_
        · exact K21_ h22_
      obtain ⟨k24_, h25_, h8_⟩ := lt_ h8_
      refine z_ist C dX5_countFirst_42 h25_ (Nat.le_of_ble_eq_true rfl) rfl ?_
      refine Z.sub [2, 3, 4, 1, 0] rfl ?_
      obtain ⟨y26_, h27_, h8_⟩ := ob h8_
      suffices K28_ : Z Θ 5 0 0 (zQ Θ ρ) σ10_ 75 [(0, .ref (zA Θ 6)), (1, .int among_a), (2, .int v9_), (3, .int row17_), (4, .int y26_)] [] by
        refine loop1_Z (P := fun (k32_ : Int32) => Z Θ 5 0 0 (zQ Θ ρ) σ10_ 44 [(0, .ref (zA Θ 6)), (1, .int among_a), (2, .int v9_), (3, .int row17_), (4, .int k32_)] []) ?_ fuelN k24_ h27_
        clear h27_
        intro rec29_ k32_ h30_ h31_
        obtain ⟨t37_, h38_, h31_⟩ := ob h31_
        have K35_ : t37_ = true → Z Θ 5 0 0 (zQ Θ ρ) σ10_ 69 [(0, .ref (zA Θ 6)), (1, .int among_a), (2, .int v9_), (3, .int row17_), (4, .int k32_)] [] := by
          intro h43_
          rw [if_pos h43_] at h31_
          obtain ⟨k44_, h45_, h31_⟩ := lt_ h31_
          refine z_inc C 4 dX5_countFirst_69 rfl ic_1 h45_ (Nat.le_of_ble_eq_true rfl) rfl ?_
          refine z_goto C 44 dX5_countFirst_72 (by decide) ?_
          refine Z.sub [1, 2, 3, 4, 0] rfl ?_
          exact h30_ _ h31_
        have K36_ : ¬ (t37_ = true) → Z Θ 5 0 0 (zQ Θ ρ) σ10_ 75 [(0, .ref (zA Θ 6)), (1, .int among_a), (2, .int v9_), (3, .int row17_), (4, .int k32_)] [] := by
          intro h43_
          rw [if_neg h43_] at h31_
          cases h31_
          exact K28_
        refine z_iload C 4 dX5_countFirst_44 rfl ?_
        refine z_aload_n C 0 dX5_countFirst_46 rfl rfl ?_
        refine fg5_37 C hkd dX5_countFirst_47 ?_
        refine c_lt_f C 75 dX5_countFirst_50 (by decide) (fun h39_ => ?_) (fun h39_ => ?_)
        · rw [if_pos h39_] at h38_
          refine z_iload_n C 1 dX5_countFirst_53 rfl rfl ?_
          refine z_aload_n C 0 dX5_countFirst_54 rfl rfl ?_
          refine fg5_9 C hkd dX5_countFirst_55 ?_
          refine z_iload_n C 3 dX5_countFirst_58 rfl rfl ?_
          refine z_iload C 4 dX5_countFirst_59 rfl ?_
          refine z_iadd C dX5_countFirst_61 ?_
          obtain ⟨x40_, h41_, h38_⟩ := ob h38_
          refine z_ag C h41_ (kC_7 hkd) dX5_countFirst_62 ?_
          refine cr5_58 (set_a := among_a) (person_a := x40_) C hkd  ⟨(Nat.le_of_ble_eq_true rfl), (Nat.le_of_ble_eq_true rfl)⟩ (Nat.le_of_ble_eq_true rfl) ⟨Nat.zero_le _, Nat.zero_le _⟩ dX5_countFirst_63 ?_
          refine cb_t C 75 dX5_countFirst_66 (by decide) (fun h42_ => ?_) (fun h42_ => ?_)
          · rw [if_pos h42_] at h38_
            cases h38_
            exact K36_ Bool.false_ne_true
          · rw [if_neg h42_] at h38_
            cases h38_
            exact K35_ rfl
        · rw [if_neg h39_] at h38_
          cases h38_
          exact K36_ Bool.false_ne_true
      obtain ⟨y46_, h47_, h8_⟩ := ob h8_
      suffices K48_ : Z Θ 5 0 0 (zQ Θ ρ) y46_ 102 [(0, .ref (zA Θ 6)), (1, .int among_a), (2, .int v9_), (3, .int row17_), (4, .int y26_)] [] by
        have K49_ : y26_ < (σ10_ 6 8) → Z Θ 5 0 0 (zQ Θ ρ) σ10_ 84 [(0, .ref (zA Θ 6)), (1, .int among_a), (2, .int v9_), (3, .int row17_), (4, .int y26_)] [] := by
          intro h52_
          rw [if_pos h52_] at h47_
          refine z_aload_n C 0 dX5_countFirst_84 rfl rfl ?_
          refine fg5_21 C hkd dX5_countFirst_85 ?_
          refine z_aload_n C 0 dX5_countFirst_88 rfl rfl ?_
          refine fg5_9 C hkd dX5_countFirst_89 ?_
          refine z_iload_n C 3 dX5_countFirst_92 rfl rfl ?_
          refine z_iload C 4 dX5_countFirst_93 rfl ?_
          refine z_iadd C dX5_countFirst_95 ?_
          obtain ⟨x53_, h54_, h47_⟩ := ob h47_
          refine z_ag C h54_ (kC_7 hkd) dX5_countFirst_96 ?_
          refine z_dup2 C dX5_countFirst_97 rfl rfl ?_
          obtain ⟨x55_, h56_, h47_⟩ := ob h47_
          refine z_ag C h56_ (kC_10 hkd) dX5_countFirst_98 ?_
          refine z_iconst (v := 1) C dX5_countFirst_99 ic_1 ?_
          refine z_iadd C dX5_countFirst_100 ?_
          obtain ⟨σ57_, h58_, h47_⟩ := ob h47_
          refine z_sa C h58_ (kC_10 hkd) dX5_countFirst_101 ?_
          cases h47_
          exact K48_
        have K50_ : ¬ (y26_ < (σ10_ 6 8)) → Z Θ 5 0 0 (zQ Θ ρ) σ10_ 102 [(0, .ref (zA Θ 6)), (1, .int among_a), (2, .int v9_), (3, .int row17_), (4, .int y26_)] [] := by
          intro h52_
          rw [if_neg h52_] at h47_
          cases h47_
          exact K48_
        refine z_iload C 4 dX5_countFirst_75 rfl ?_
        refine z_aload_n C 0 dX5_countFirst_77 rfl rfl ?_
        refine fg5_37 C hkd dX5_countFirst_78 ?_
        refine c_lt_f C 102 dX5_countFirst_81 (by decide) (fun h51_ => ?_) (fun h51_ => ?_)
        · exact K49_ h51_
        · exact K50_ h51_
      obtain ⟨v59_, h60_, h8_⟩ := lt_ h8_
      refine z_inc C 2 dX5_countFirst_102 rfl ic_1 h60_ (Nat.le_of_ble_eq_true rfl) rfl ?_
      refine z_goto C 10 dX5_countFirst_105 (by decide) ?_
      refine Z.sub [1, 2, 0] rfl ?_
      exact h7_ _ _ h8_
    have K14_ : ¬ (v9_ < (σ10_ 6 6)) → Z Θ 5 0 0 (zQ Θ ρ) σ10_ 108 [(0, .ref (zA Θ 6)), (1, .int among_a), (2, .int v9_)] [] := by
      intro h16_
      rw [if_neg h16_] at h8_
      cases h8_
      exact K5_
    refine z_iload_n C 2 dX5_countFirst_10 rfl rfl ?_
    refine z_aload_n C 0 dX5_countFirst_11 rfl rfl ?_
    refine fg5_30 C hkd dX5_countFirst_12 ?_
    refine c_lt_f C 108 dX5_countFirst_15 (by decide) (fun h15_ => ?_) (fun h15_ => ?_)
    · exact K13_ h15_
    · exact K14_ h15_
  cases hf
  subst hρ
  exact z_vret C dX5_countFirst_108
theorem c5_countFirst {l : Launch} {kd : List KD} {w : Wp} {σ : St} {among_a : Int32} (hkd : kd = kdC) (hi : zI kd w) {r : St} (hf : q5_countFirst σ among_a = some r) : zM l kd w yX5_countFirst cX5_countFirst 5 none rm5_countFirst [.ref (w.2.2.1 6), .int among_a] σ (none, r) := zM_of rfl hi (Nat.le_of_ble_eq_true rfl) (fun Θ hl hw C => by
  obtain ⟨Θ1, Θ2, Θ3, Θ4, Θ5⟩ := Θ
  cases hw
  exact p5_countFirst C hkd  hf rfl)
/-! LastLoaf$Poll.betterOfTwo -/
theorem w_3_164 : Cond.code ({ cls := "LastLoaf", name := "leastOf", desc := "(I)I" } : MethodName) prog_1_method_67_code (2 : Nat) (Option.some ClassFile.FieldType.int) ∈ TB := tb_in (lwt_3 (List.mem_of_getElem? (i := 164) (by decide +kernel))) rfl
theorem w_3_163 : Cond.static ({ cls := "LastLoaf", name := "leastOf", desc := "(I)I" } : MethodName) ∈ TB := tb_in (lwt_3 (List.mem_of_getElem? (i := 163) (by decide +kernel))) rfl
theorem cr5_119 {Θ : Tz} {cc : ByteArray} {nL kc ks : Nat} {ret : Option FieldType} {rm : Room} {Q : State → Prop} {σ : St} {pc : Nat} {lv : List (Nat × Value)} {st : List Value} (C : Zc Θ cc nL RX5 ret rm) (hkd : Θ.2.2.2.2.1 = kdC) {set_a : Int32} {r : Int32} (hx : q11_leastOf set_a = some r) (hrm : rm11_leastOf.frames + 1 ≤ rm.frames ∧ 8 + (2 + 11) + rm11_leastOf.locals ≤ rm.locals) (hcat : (st.map fun v => v.category).sum ≤ 8) (hk : kc ≤ rm.cells ∧ ks ≤ rm.slots) (hd : decode cc pc = .ok (.invokestatic 119, 3)) (kk : Z Θ nL kc ks Q σ (pc + 3) lv (.int r :: st)) : Z Θ nL kc ks Q σ pc lv (.int set_a :: st) := z_callSN (host := "LastLoaf") C [.int set_a] (some (.int r), σ) 1 (c11_leastOf (set_a := set_a) hkd (zc_inj C) hx) w_3_164 (List.mem_of_getElem? (i := 11) rfl) w_3_163 w_1_1 ⟨rfl, rfl, hrm.1, hrm.2⟩ (by decide +kernel) rfl rfl hcat hk hd kk
theorem w_3_157 : Cond.code ({ cls := "LastLoaf$Poll", name := "countFirst", desc := "(I)V" } : MethodName) prog_7_method_12_code (5 : Nat) (Option.none : Option ClassFile.FieldType) ∈ TB := tb_in (lwt_3 (List.mem_of_getElem? (i := 157) (by decide +kernel))) rfl
theorem w_3_154 : Cond.methodLink "LastLoaf$Poll" (92 : Nat) ({ cls := "LastLoaf$Poll", name := "countFirst", desc := "(I)V" } : MethodName) ∈ TB := tb_in (lwt_3 (List.mem_of_getElem? (i := 154) (by decide +kernel))) rfl
theorem w_3_155 : Cond.instanceMethod ({ cls := "LastLoaf$Poll", name := "countFirst", desc := "(I)V" } : MethodName) ∈ TB := tb_in (lwt_3 (List.mem_of_getElem? (i := 155) (by decide +kernel))) rfl
theorem w_3_156 : Cond.selects "LastLoaf$Poll" ({ cls := "LastLoaf$Poll", name := "countFirst", desc := "(I)V" } : MethodName) ({ cls := "LastLoaf$Poll", name := "countFirst", desc := "(I)V" } : MethodName) ∈ TB := tb_in (lwt_3 (List.mem_of_getElem? (i := 156) (by decide +kernel))) rfl
theorem cr5_92 {Θ : Tz} {cc : ByteArray} {nL kc ks : Nat} {ret : Option FieldType} {rm : Room} {Q : State → Prop} {σ : St} {pc : Nat} {lv : List (Nat × Value)} {st : List Value} (C : Zc Θ cc nL RX5 ret rm) (hkd : Θ.2.2.2.2.1 = kdC) {among_a : Int32} {r : St} (hx : q5_countFirst σ among_a = some r) (hrm : rm5_countFirst.frames + 1 ≤ rm.frames ∧ 8 + (5 + 11) + rm5_countFirst.locals ≤ rm.locals) (hcat : (st.map fun v => v.category).sum ≤ 8) (hk : kc ≤ rm.cells ∧ ks ≤ rm.slots) (hd : decode cc pc = .ok (.invokevirtual 92, 3)) (kk : Z Θ nL kc ks Q r (pc + 3) lv st) : Z Θ nL kc ks Q σ pc lv (.int among_a :: .ref (zA Θ 6) :: st) := z_callV C 6 [.int among_a] (none, r) 1 (kC_6 hkd) rfl (c5_countFirst (among_a := among_a) hkd (zc_inj C) hx) w_3_157 w_3_154 w_3_155 w_3_156 w_1_9 ⟨rfl, rfl, hrm.1, hrm.2⟩ (by decide +kernel) rfl rfl hcat hk hd kk
theorem w_3_161 : Cond.code ({ cls := "LastLoaf", name := "without", desc := "(II)I" } : MethodName) prog_1_method_66_code (2 : Nat) (Option.some ClassFile.FieldType.int) ∈ TB := tb_in (lwt_3 (List.mem_of_getElem? (i := 161) (by decide +kernel))) rfl
theorem w_3_160 : Cond.static ({ cls := "LastLoaf", name := "without", desc := "(II)I" } : MethodName) ∈ TB := tb_in (lwt_3 (List.mem_of_getElem? (i := 160) (by decide +kernel))) rfl
theorem cr5_116 {Θ : Tz} {cc : ByteArray} {nL kc ks : Nat} {ret : Option FieldType} {rm : Room} {Q : State → Prop} {σ : St} {pc : Nat} {lv : List (Nat × Value)} {st : List Value} (C : Zc Θ cc nL RX5 ret rm) (hkd : Θ.2.2.2.2.1 = kdC) {set_a : Int32} {person_a : Int32} (hrm : rm11_without.frames + 1 ≤ rm.frames ∧ 8 + (2 + 11) + rm11_without.locals ≤ rm.locals) (hcat : (st.map fun v => v.category).sum ≤ 8) (hk : kc ≤ rm.cells ∧ ks ≤ rm.slots) (hd : decode cc pc = .ok (.invokestatic 116, 3)) (kk : Z Θ nL kc ks Q σ (pc + 3) lv (.int (q11_without set_a person_a) :: st)) : Z Θ nL kc ks Q σ pc lv (.int person_a :: .int set_a :: st) := z_callSN (host := "LastLoaf") C [.int set_a, .int person_a] (some (.int (q11_without set_a person_a)), σ) 2 (c11_without (set_a := set_a) (person_a := person_a) hkd (zc_inj C)) w_3_161 (List.mem_of_getElem? (i := 10) rfl) w_3_160 w_1_1 ⟨rfl, rfl, hrm.1, hrm.2⟩ (by decide +kernel) rfl rfl hcat hk hd kk
theorem w_3_174 : Cond.methodLink "LastLoaf$Poll" (122 : Nat) ({ cls := "java/lang/Math", name := "min", desc := "(II)I" } : MethodName) ∈ TB := tb_in (lwt_3 (List.mem_of_getElem? (i := 174) (by decide +kernel))) rfl
theorem w_3_175 : Cond.methodLink "LastLoaf$Poll" (127 : Nat) ({ cls := "java/lang/Math", name := "max", desc := "(II)I" } : MethodName) ∈ TB := tb_in (lwt_3 (List.mem_of_getElem? (i := 175) (by decide +kernel))) rfl
theorem w_3_176 : Cond.static ({ cls := "java/lang/Math", name := "max", desc := "(II)I" } : MethodName) ∈ TB := tb_in (lwt_3 (List.mem_of_getElem? (i := 176) (by decide +kernel))) rfl
theorem w_3_177 : Cond.code ({ cls := "java/lang/Math", name := "max", desc := "(II)I" } : MethodName) prog_23_method_65_code (2 : Nat) (Option.some ClassFile.FieldType.int) ∈ TB := tb_in (lwt_3 (List.mem_of_getElem? (i := 177) (by decide +kernel))) rfl
theorem dX5_betterOfTwo_0 : decode cX5_betterOfTwo 0 = .ok (.aload_n 0, 1) := by decide +kernel
theorem dX5_betterOfTwo_1 : decode cX5_betterOfTwo 1 = .ok (.getfield 37, 3) := by decide +kernel
theorem dX5_betterOfTwo_4 : decode cX5_betterOfTwo 4 = .ok (.iconst 2, 1) := by decide +kernel
theorem dX5_betterOfTwo_5 : decode cX5_betterOfTwo 5 = .ok (.if_icmp .ge 11, 3) := by decide +kernel
theorem dX5_betterOfTwo_8 : decode cX5_betterOfTwo 8 = .ok (.aload_n 0, 1) := by decide +kernel
theorem dX5_betterOfTwo_9 : decode cX5_betterOfTwo 9 = .ok (.getfield 34, 3) := by decide +kernel
theorem dX5_betterOfTwo_12 : decode cX5_betterOfTwo 12 = .ok (.invokestatic 119, 3) := by decide +kernel
theorem dX5_betterOfTwo_15 : decode cX5_betterOfTwo 15 = .ok (.ireturn, 1) := by decide +kernel
theorem dX5_betterOfTwo_16 : decode cX5_betterOfTwo 16 = .ok (.aload_n 0, 1) := by decide +kernel
theorem dX5_betterOfTwo_17 : decode cX5_betterOfTwo 17 = .ok (.aload_n 0, 1) := by decide +kernel
theorem dX5_betterOfTwo_18 : decode cX5_betterOfTwo 18 = .ok (.getfield 34, 3) := by decide +kernel
theorem dX5_betterOfTwo_21 : decode cX5_betterOfTwo 21 = .ok (.invokevirtual 92, 3) := by decide +kernel
theorem dX5_betterOfTwo_24 : decode cX5_betterOfTwo 24 = .ok (.aload_n 0, 1) := by decide +kernel
theorem dX5_betterOfTwo_25 : decode cX5_betterOfTwo 25 = .ok (.aload_n 0, 1) := by decide +kernel
theorem dX5_betterOfTwo_26 : decode cX5_betterOfTwo 26 = .ok (.getfield 34, 3) := by decide +kernel
theorem dX5_betterOfTwo_29 : decode cX5_betterOfTwo 29 = .ok (.invokevirtual 104, 3) := by decide +kernel
theorem dX5_betterOfTwo_32 : decode cX5_betterOfTwo 32 = .ok (.istore_n 1, 1) := by decide +kernel
theorem dX5_betterOfTwo_33 : decode cX5_betterOfTwo 33 = .ok (.aload_n 0, 1) := by decide +kernel
theorem dX5_betterOfTwo_34 : decode cX5_betterOfTwo 34 = .ok (.getfield 34, 3) := by decide +kernel
theorem dX5_betterOfTwo_37 : decode cX5_betterOfTwo 37 = .ok (.iload_n 1, 1) := by decide +kernel
theorem dX5_betterOfTwo_38 : decode cX5_betterOfTwo 38 = .ok (.invokestatic 116, 3) := by decide +kernel
theorem dX5_betterOfTwo_41 : decode cX5_betterOfTwo 41 = .ok (.istore_n 2, 1) := by decide +kernel
theorem dX5_betterOfTwo_42 : decode cX5_betterOfTwo 42 = .ok (.aload_n 0, 1) := by decide +kernel
theorem dX5_betterOfTwo_43 : decode cX5_betterOfTwo 43 = .ok (.iload_n 2, 1) := by decide +kernel
theorem dX5_betterOfTwo_44 : decode cX5_betterOfTwo 44 = .ok (.invokevirtual 92, 3) := by decide +kernel
theorem dX5_betterOfTwo_47 : decode cX5_betterOfTwo 47 = .ok (.aload_n 0, 1) := by decide +kernel
theorem dX5_betterOfTwo_48 : decode cX5_betterOfTwo 48 = .ok (.iload_n 2, 1) := by decide +kernel
theorem dX5_betterOfTwo_49 : decode cX5_betterOfTwo 49 = .ok (.invokevirtual 104, 3) := by decide +kernel
theorem dX5_betterOfTwo_52 : decode cX5_betterOfTwo 52 = .ok (.istore_n 3, 1) := by decide +kernel
theorem dX5_betterOfTwo_53 : decode cX5_betterOfTwo 53 = .ok (.iload_n 1, 1) := by decide +kernel
theorem dX5_betterOfTwo_54 : decode cX5_betterOfTwo 54 = .ok (.iload_n 3, 1) := by decide +kernel
theorem dX5_betterOfTwo_55 : decode cX5_betterOfTwo 55 = .ok (.invokestatic 122, 3) := by decide +kernel
theorem dX5_betterOfTwo_58 : decode cX5_betterOfTwo 58 = .ok (.istore 4, 2) := by decide +kernel
theorem dX5_betterOfTwo_60 : decode cX5_betterOfTwo 60 = .ok (.iload_n 1, 1) := by decide +kernel
theorem dX5_betterOfTwo_61 : decode cX5_betterOfTwo 61 = .ok (.iload_n 3, 1) := by decide +kernel
theorem dX5_betterOfTwo_62 : decode cX5_betterOfTwo 62 = .ok (.invokestatic 127, 3) := by decide +kernel
theorem dX5_betterOfTwo_65 : decode cX5_betterOfTwo 65 = .ok (.istore 5, 2) := by decide +kernel
theorem dX5_betterOfTwo_67 : decode cX5_betterOfTwo 67 = .ok (.aload_n 0, 1) := by decide +kernel
theorem dX5_betterOfTwo_68 : decode cX5_betterOfTwo 68 = .ok (.iload 5, 2) := by decide +kernel
theorem dX5_betterOfTwo_70 : decode cX5_betterOfTwo 70 = .ok (.iload 4, 2) := by decide +kernel
theorem dX5_betterOfTwo_72 : decode cX5_betterOfTwo 72 = .ok (.invokevirtual 80, 3) := by decide +kernel
theorem dX5_betterOfTwo_75 : decode cX5_betterOfTwo 75 = .ok (.ifCond .eq 8, 3) := by decide +kernel
theorem dX5_betterOfTwo_78 : decode cX5_betterOfTwo 78 = .ok (.iload 5, 2) := by decide +kernel
theorem dX5_betterOfTwo_80 : decode cX5_betterOfTwo 80 = .ok (.goto 5, 3) := by decide +kernel
theorem dX5_betterOfTwo_83 : decode cX5_betterOfTwo 83 = .ok (.iload 4, 2) := by decide +kernel
theorem dX5_betterOfTwo_85 : decode cX5_betterOfTwo 85 = .ok (.ireturn, 1) := by decide +kernel
def q5_betterOfTwo (σ : St) : Option (Int32 × St) :=
  if (σ 6 8) < 2 then (Option.bind (q11_leastOf (σ 6 7)) fun x5_ =>
  some (x5_, σ)) else
  Option.bind (q5_countFirst σ (σ 6 7)) fun x7_ =>
  Option.bind (q5_greatest x7_ (x7_ 6 7)) fun x9_ =>
  lt (q11_without (x7_ 6 7) x9_) fun others11_ =>
  Option.bind (q5_countFirst x7_ others11_) fun x13_ =>
  Option.bind (q5_greatest x13_ others11_) fun x15_ =>
  lt (imin x9_ x15_) fun lesser17_ =>
  lt (imax x9_ x15_) fun greater19_ =>
  Option.bind (Option.bind (q5_isAhead x13_ greater19_ lesser17_) fun x26_ =>
  if x26_ = true then (some greater19_) else (some lesser17_)) fun x21_ =>
  some (x21_, x13_)
abbrev rm5_betterOfTwo : Room := { frames := 2, cells := 0, slots := 0, locals := 47 }
set_option maxHeartbeats 4000000 in
set_option maxRecDepth 100000 in
theorem p5_betterOfTwo {Θ : Tz} {σ : St} {ρ : Option Value × St} (C : Zc Θ cX5_betterOfTwo 6 RX5 (some .int) rm5_betterOfTwo) (hkd : Θ.2.2.2.2.1 = kdC) {r : (Int32 × St)} (hf : q5_betterOfTwo σ = some r) (hρ : ρ = (some (.int r.1), r.2)) : Z Θ 6 0 0 (zQ Θ ρ) σ 0 [(0, .ref (zA Θ 6))] [] := by
  unfold q5_betterOfTwo at hf
  have K1_ : (σ 6 8) < 2 → Z Θ 6 0 0 (zQ Θ ρ) σ 8 [(0, .ref (zA Θ 6))] [] := by
    intro h4_
    rw [if_pos h4_] at hf
    refine z_aload_n C 0 dX5_betterOfTwo_8 rfl rfl ?_
    refine fg5_34 C hkd dX5_betterOfTwo_9 ?_
    obtain ⟨x5_, h6_, hf⟩ := ob hf
    refine cr5_119 (set_a := (σ 6 7)) C hkd  h6_ ⟨(Nat.le_of_ble_eq_true rfl), (Nat.le_of_ble_eq_true rfl)⟩ (Nat.le_of_ble_eq_true rfl) ⟨Nat.zero_le _, Nat.zero_le _⟩ dX5_betterOfTwo_12 ?_
    cases hf
    subst hρ
    exact z_iret C dX5_betterOfTwo_15
  suffices K2_ : ¬ ((σ 6 8) < 2) → Z Θ 6 0 0 (zQ Θ ρ) σ 16 [(0, .ref (zA Θ 6))] [] by
    refine z_aload_n C 0 dX5_betterOfTwo_0 rfl rfl ?_
    refine fg5_37 C hkd dX5_betterOfTwo_1 ?_
    refine z_iconst (v := 2) C dX5_betterOfTwo_4 ic_2 ?_
    refine c_lt_f C 16 dX5_betterOfTwo_5 (by decide) (fun h3_ => ?_) (fun h3_ => ?_)
    · exact K1_ h3_
    · exact K2_ h3_
  intro h4_
  rw [if_neg h4_] at hf
  refine z_aload_n C 0 dX5_betterOfTwo_16 rfl rfl ?_
  refine z_aload_n C 0 dX5_betterOfTwo_17 rfl rfl ?_
  refine fg5_34 C hkd dX5_betterOfTwo_18 ?_
  obtain ⟨x7_, h8_, hf⟩ := ob hf
  refine cr5_92 (among_a := (σ 6 7)) C hkd  h8_ ⟨(Nat.le_of_ble_eq_true rfl), (Nat.le_of_ble_eq_true rfl)⟩ (Nat.le_of_ble_eq_true rfl) ⟨Nat.zero_le _, Nat.zero_le _⟩ dX5_betterOfTwo_21 ?_
  refine z_aload_n C 0 dX5_betterOfTwo_24 rfl rfl ?_
  refine z_aload_n C 0 dX5_betterOfTwo_25 rfl rfl ?_
  refine fg5_34 C hkd dX5_betterOfTwo_26 ?_
  obtain ⟨x9_, h10_, hf⟩ := ob hf
  refine cr5_104 (among_a := (x7_ 6 7)) C hkd  h10_ ⟨(Nat.le_of_ble_eq_true rfl), (Nat.le_of_ble_eq_true rfl)⟩ (Nat.le_of_ble_eq_true rfl) ⟨Nat.zero_le _, Nat.zero_le _⟩ dX5_betterOfTwo_29 ?_
  refine z_istN C dX5_betterOfTwo_32 rfl rfl (Nat.le_of_ble_eq_true rfl) rfl ?_
  refine z_aload_n C 1 dX5_betterOfTwo_33 rfl rfl ?_
  refine fg5_34 C hkd dX5_betterOfTwo_34 ?_
  refine z_iload_n C 0 dX5_betterOfTwo_37 rfl rfl ?_
  refine cr5_116 (set_a := (x7_ 6 7)) (person_a := x9_) C hkd  ⟨(Nat.le_of_ble_eq_true rfl), (Nat.le_of_ble_eq_true rfl)⟩ (Nat.le_of_ble_eq_true rfl) ⟨Nat.zero_le _, Nat.zero_le _⟩ dX5_betterOfTwo_38 ?_
  obtain ⟨others11_, h12_, hf⟩ := lt_ hf
  refine z_istN C dX5_betterOfTwo_41 h12_ rfl (Nat.le_of_ble_eq_true rfl) rfl ?_
  refine z_aload_n C 2 dX5_betterOfTwo_42 rfl rfl ?_
  refine z_iload_n C 0 dX5_betterOfTwo_43 rfl rfl ?_
  obtain ⟨x13_, h14_, hf⟩ := ob hf
  refine cr5_92 (among_a := others11_) C hkd  h14_ ⟨(Nat.le_of_ble_eq_true rfl), (Nat.le_of_ble_eq_true rfl)⟩ (Nat.le_of_ble_eq_true rfl) ⟨Nat.zero_le _, Nat.zero_le _⟩ dX5_betterOfTwo_44 ?_
  refine z_aload_n C 2 dX5_betterOfTwo_47 rfl rfl ?_
  refine z_iload_n C 0 dX5_betterOfTwo_48 rfl rfl ?_
  obtain ⟨x15_, h16_, hf⟩ := ob hf
  refine cr5_104 (among_a := others11_) C hkd  h16_ ⟨(Nat.le_of_ble_eq_true rfl), (Nat.le_of_ble_eq_true rfl)⟩ (Nat.le_of_ble_eq_true rfl) ⟨Nat.zero_le _, Nat.zero_le _⟩ dX5_betterOfTwo_49 ?_
  refine z_istN C dX5_betterOfTwo_52 rfl rfl (Nat.le_of_ble_eq_true rfl) rfl ?_
  refine z_iload_n C 2 dX5_betterOfTwo_53 rfl rfl ?_
  refine z_iload_n C 0 dX5_betterOfTwo_54 rfl rfl ?_
  refine z_min C w_3_174 w_3_129 w_1_28 w_3_130 ⟨(Nat.le_of_ble_eq_true rfl), (Nat.le_of_ble_eq_true rfl)⟩ (Nat.le_of_ble_eq_true rfl) ⟨Nat.zero_le _, Nat.zero_le _⟩ dX5_betterOfTwo_55 ?_
  obtain ⟨lesser17_, h18_, hf⟩ := lt_ hf
  refine z_ist C dX5_betterOfTwo_58 h18_ (Nat.le_of_ble_eq_true rfl) rfl ?_
  refine z_iload_n C 3 dX5_betterOfTwo_60 rfl rfl ?_
  refine z_iload_n C 1 dX5_betterOfTwo_61 rfl rfl ?_
  refine z_max C w_3_175 w_3_176 w_1_28 w_3_177 ⟨(Nat.le_of_ble_eq_true rfl), (Nat.le_of_ble_eq_true rfl)⟩ (Nat.le_of_ble_eq_true rfl) ⟨Nat.zero_le _, Nat.zero_le _⟩ dX5_betterOfTwo_62 ?_
  obtain ⟨greater19_, h20_, hf⟩ := lt_ hf
  refine z_ist C dX5_betterOfTwo_65 h20_ (Nat.le_of_ble_eq_true rfl) rfl ?_
  obtain ⟨x21_, h22_, hf⟩ := ob hf
  suffices K23_ : Z Θ 6 0 0 (zQ Θ ρ) x13_ 85 [(5, .int greater19_), (4, .int lesser17_), (3, .int x15_), (2, .int others11_), (1, .int x9_), (0, .ref (zA Θ 6))] [.int x21_] by
    refine z_aload_n C 5 dX5_betterOfTwo_67 rfl rfl ?_
    refine z_iload C 0 dX5_betterOfTwo_68 rfl ?_
    refine z_iload C 1 dX5_betterOfTwo_70 rfl ?_
    obtain ⟨x26_, h27_, h22_⟩ := ob h22_
    refine cr5_80 (person_a := greater19_) (other_a := lesser17_) C hkd  h27_ ⟨(Nat.le_of_ble_eq_true rfl), (Nat.le_of_ble_eq_true rfl)⟩ (Nat.le_of_ble_eq_true rfl) ⟨Nat.zero_le _, Nat.zero_le _⟩ dX5_betterOfTwo_72 ?_
    have K24_ : x26_ = true → Z Θ 6 0 0 (zQ Θ ρ) x13_ 78 [(5, .int greater19_), (4, .int lesser17_), (3, .int x15_), (2, .int others11_), (1, .int x9_), (0, .ref (zA Θ 6))] [] := by
      intro h29_
      rw [if_pos h29_] at h22_
      refine z_iload C 0 dX5_betterOfTwo_78 rfl ?_
      refine z_goto C 85 dX5_betterOfTwo_80 (by decide) ?_
      cases h22_
      exact K23_
    have K25_ : ¬ (x26_ = true) → Z Θ 6 0 0 (zQ Θ ρ) x13_ 83 [(5, .int greater19_), (4, .int lesser17_), (3, .int x15_), (2, .int others11_), (1, .int x9_), (0, .ref (zA Θ 6))] [] := by
      intro h29_
      rw [if_neg h29_] at h22_
      refine z_iload C 1 dX5_betterOfTwo_83 rfl ?_
      cases h22_
      exact K23_
    refine cb_f C 83 dX5_betterOfTwo_75 (by decide) (fun h28_ => ?_) (fun h28_ => ?_)
    · exact K24_ h28_
    · exact K25_ h28_
  cases hf
  subst hρ
  exact z_iret C dX5_betterOfTwo_85
theorem c5_betterOfTwo {l : Launch} {kd : List KD} {w : Wp} {σ : St} (hkd : kd = kdC) (hi : zI kd w) {r : (Int32 × St)} (hf : q5_betterOfTwo σ = some r) : zM l kd w yX5_betterOfTwo cX5_betterOfTwo 6 (some .int) rm5_betterOfTwo [.ref (w.2.2.1 6)] σ (some (.int r.1), r.2) := zM_of rfl hi (Nat.le_of_ble_eq_true rfl) (fun Θ hl hw C => by
  obtain ⟨Θ1, Θ2, Θ3, Θ4, Θ5⟩ := Θ
  cases hw
  exact p5_betterOfTwo C hkd  hf rfl)
/-! LastLoaf$Poll.countDuels -/
theorem dX5_countDuels_0 : decode cX5_countDuels 0 = .ok (.aload_n 0, 1) := by decide +kernel
theorem dX5_countDuels_1 : decode cX5_countDuels 1 = .ok (.getfield 21, 3) := by decide +kernel
theorem dX5_countDuels_4 : decode cX5_countDuels 4 = .ok (.iconst 0, 1) := by decide +kernel
theorem dX5_countDuels_5 : decode cX5_countDuels 5 = .ok (.invokestatic 107, 3) := by decide +kernel
theorem dX5_countDuels_8 : decode cX5_countDuels 8 = .ok (.iconst 0, 1) := by decide +kernel
theorem dX5_countDuels_9 : decode cX5_countDuels 9 = .ok (.istore_n 1, 1) := by decide +kernel
theorem dX5_countDuels_10 : decode cX5_countDuels 10 = .ok (.iload_n 1, 1) := by decide +kernel
theorem dX5_countDuels_11 : decode cX5_countDuels 11 = .ok (.aload_n 0, 1) := by decide +kernel
theorem dX5_countDuels_12 : decode cX5_countDuels 12 = .ok (.getfield 30, 3) := by decide +kernel
theorem dX5_countDuels_15 : decode cX5_countDuels 15 = .ok (.if_icmp .ge 49, 3) := by decide +kernel
theorem dX5_countDuels_18 : decode cX5_countDuels 18 = .ok (.iconst 0, 1) := by decide +kernel
theorem dX5_countDuels_19 : decode cX5_countDuels 19 = .ok (.istore_n 2, 1) := by decide +kernel
theorem dX5_countDuels_20 : decode cX5_countDuels 20 = .ok (.iload_n 2, 1) := by decide +kernel
theorem dX5_countDuels_21 : decode cX5_countDuels 21 = .ok (.aload_n 0, 1) := by decide +kernel
theorem dX5_countDuels_22 : decode cX5_countDuels 22 = .ok (.getfield 30, 3) := by decide +kernel
theorem dX5_countDuels_25 : decode cX5_countDuels 25 = .ok (.if_icmp .ge 33, 3) := by decide +kernel
theorem dX5_countDuels_28 : decode cX5_countDuels 28 = .ok (.iload_n 1, 1) := by decide +kernel
theorem dX5_countDuels_29 : decode cX5_countDuels 29 = .ok (.iload_n 2, 1) := by decide +kernel
theorem dX5_countDuels_30 : decode cX5_countDuels 30 = .ok (.if_icmp .eq 22, 3) := by decide +kernel
theorem dX5_countDuels_33 : decode cX5_countDuels 33 = .ok (.aload_n 0, 1) := by decide +kernel
theorem dX5_countDuels_34 : decode cX5_countDuels 34 = .ok (.iload_n 1, 1) := by decide +kernel
theorem dX5_countDuels_35 : decode cX5_countDuels 35 = .ok (.iload_n 2, 1) := by decide +kernel
theorem dX5_countDuels_36 : decode cX5_countDuels 36 = .ok (.invokevirtual 80, 3) := by decide +kernel
theorem dX5_countDuels_39 : decode cX5_countDuels 39 = .ok (.ifCond .eq 13, 3) := by decide +kernel
theorem dX5_countDuels_42 : decode cX5_countDuels 42 = .ok (.aload_n 0, 1) := by decide +kernel
theorem dX5_countDuels_43 : decode cX5_countDuels 43 = .ok (.getfield 21, 3) := by decide +kernel
theorem dX5_countDuels_46 : decode cX5_countDuels 46 = .ok (.iload_n 1, 1) := by decide +kernel
theorem dX5_countDuels_47 : decode cX5_countDuels 47 = .ok (.dup2, 1) := by decide +kernel
theorem dX5_countDuels_48 : decode cX5_countDuels 48 = .ok (.iaload, 1) := by decide +kernel
theorem dX5_countDuels_49 : decode cX5_countDuels 49 = .ok (.iconst 1, 1) := by decide +kernel
theorem dX5_countDuels_50 : decode cX5_countDuels 50 = .ok (.iadd, 1) := by decide +kernel
theorem dX5_countDuels_51 : decode cX5_countDuels 51 = .ok (.iastore, 1) := by decide +kernel
theorem dX5_countDuels_52 : decode cX5_countDuels 52 = .ok (.iinc 2 1, 3) := by decide +kernel
theorem dX5_countDuels_55 : decode cX5_countDuels 55 = .ok (.goto (-35), 3) := by decide +kernel
theorem dX5_countDuels_58 : decode cX5_countDuels 58 = .ok (.iinc 1 1, 3) := by decide +kernel
theorem dX5_countDuels_61 : decode cX5_countDuels 61 = .ok (.goto (-51), 3) := by decide +kernel
theorem dX5_countDuels_64 : decode cX5_countDuels 64 = .ok (.return_, 1) := by decide +kernel
def q5_countDuels (σ : St) : Option St :=
  lt (fil σ 10 6 0) fun σ1_ =>
  Option.bind (loop2 (fun rec6_ (a9_ : Int32) (σ10_ : St) =>
  if a9_ < (σ10_ 6 6) then
  Option.bind (loop2 (fun rec20_ (b23_ : Int32) (σ24_ : St) =>
  if b23_ < (σ24_ 6 6) then
  Option.bind (Option.bind (if ¬ a9_ = b23_ then (Option.bind (q5_isAhead σ24_ a9_ b23_) fun x39_ =>
  if x39_ = true then (some true) else (some false)) else (some false)) fun t36_ =>
  if t36_ = true then (Option.bind (ag σ24_ 10 6 a9_) fun x43_ =>
  Option.bind (sa σ24_ 10 6 a9_ (x43_ + 1)) fun σ45_ =>
  some (σ45_)) else (some (σ24_))) fun y31_ =>
  lt (b23_ + 1) fun b47_ =>
  rec20_ b47_ y31_
  else (some (b23_, σ24_))) fuelN (0 : Int32) σ10_) fun y17_ =>
  lt (a9_ + 1) fun a49_ =>
  rec6_ a49_ y17_.2
  else (some (a9_, σ10_))) fuelN (0 : Int32) σ1_) fun y3_ =>
  some y3_.2
abbrev rm5_countDuels : Room := { frames := 2, cells := 0, slots := 0, locals := 46 }
set_option maxHeartbeats 4000000 in
set_option maxRecDepth 100000 in
theorem p5_countDuels {Θ : Tz} {σ : St} {ρ : Option Value × St} (C : Zc Θ cX5_countDuels 3 RX5 none rm5_countDuels) (hkd : Θ.2.2.2.2.1 = kdC) {r : St} (hf : q5_countDuels σ = some r) (hρ : ρ = (none, r)) : Z Θ 3 0 0 (zQ Θ ρ) σ 0 [(0, .ref (zA Θ 6))] [] := by
  unfold q5_countDuels at hf
  refine z_aload_n C 0 dX5_countDuels_0 rfl rfl ?_
  refine fg5_21 C hkd dX5_countDuels_1 ?_
  refine z_iconst (v := 0) C dX5_countDuels_4 ic_0 ?_
  obtain ⟨σ1_, h2_, hf⟩ := lt_ hf
  refine z_callS C [.ref (zA Θ 10), .int 0] (none, fil σ 10 6 0) 2 (cJ_fill (zc_inj C) (kC_10 hkd) (Nat.le_of_ble_eq_true rfl)) w_1_90 w_3_158 w_1_89 w_1_5 ⟨rfl, rfl, (Nat.le_of_ble_eq_true rfl), (Nat.le_of_ble_eq_true rfl)⟩ (by decide +kernel) rfl rfl (Nat.le_of_ble_eq_true rfl) ⟨Nat.zero_le _, Nat.zero_le _⟩ dX5_countDuels_5 ?_
  rw [← h2_]
  refine z_iconst (v := 0) C dX5_countDuels_8 ic_0 ?_
  refine z_istN C dX5_countDuels_9 rfl rfl (Nat.le_of_ble_eq_true rfl) rfl ?_
  refine Z.sub [1, 0] rfl ?_
  obtain ⟨y3_, h4_, hf⟩ := ob hf
  suffices K5_ : Z Θ 3 0 0 (zQ Θ ρ) y3_.2 64 [(0, .ref (zA Θ 6)), (1, .int y3_.1)] [] by
    refine loop2_Z (P := fun (a9_ : Int32) (σ10_ : St) => Z Θ 3 0 0 (zQ Θ ρ) σ10_ 10 [(0, .ref (zA Θ 6)), (1, .int a9_)] []) ?_ fuelN (0 : Int32) σ1_ h4_
    clear h4_
    intro rec6_ a9_ σ10_ h7_ h8_
    have K13_ : a9_ < (σ10_ 6 6) → Z Θ 3 0 0 (zQ Θ ρ) σ10_ 18 [(0, .ref (zA Θ 6)), (1, .int a9_)] [] := by
      intro h16_
      rw [if_pos h16_] at h8_
      refine z_iconst (v := 0) C dX5_countDuels_18 ic_0 ?_
      refine z_istN C dX5_countDuels_19 rfl rfl (Nat.le_of_ble_eq_true rfl) rfl ?_
      refine Z.sub [1, 2, 0] rfl ?_
      obtain ⟨y17_, h18_, h8_⟩ := ob h8_
      suffices K19_ : Z Θ 3 0 0 (zQ Θ ρ) y17_.2 58 [(0, .ref (zA Θ 6)), (1, .int a9_), (2, .int y17_.1)] [] by
        refine loop2_Z (P := fun (b23_ : Int32) (σ24_ : St) => Z Θ 3 0 0 (zQ Θ ρ) σ24_ 20 [(0, .ref (zA Θ 6)), (1, .int a9_), (2, .int b23_)] []) ?_ fuelN (0 : Int32) σ10_ h18_
        clear h18_
        intro rec20_ b23_ σ24_ h21_ h22_
        have K27_ : b23_ < (σ24_ 6 6) → Z Θ 3 0 0 (zQ Θ ρ) σ24_ 28 [(0, .ref (zA Θ 6)), (1, .int a9_), (2, .int b23_)] [] := by
          intro h30_
          rw [if_pos h30_] at h22_
          obtain ⟨y31_, h32_, h22_⟩ := ob h22_
          suffices K33_ : Z Θ 3 0 0 (zQ Θ ρ) y31_ 52 [(0, .ref (zA Θ 6)), (1, .int a9_), (2, .int b23_)] [] by
            obtain ⟨t36_, h37_, h32_⟩ := ob h32_
            have K34_ : t36_ = true → Z Θ 3 0 0 (zQ Θ ρ) σ24_ 42 [(0, .ref (zA Θ 6)), (1, .int a9_), (2, .int b23_)] [] := by
              intro h42_
              rw [if_pos h42_] at h32_
              refine z_aload_n C 0 dX5_countDuels_42 rfl rfl ?_
              refine fg5_21 C hkd dX5_countDuels_43 ?_
              refine z_iload_n C 1 dX5_countDuels_46 rfl rfl ?_
              refine z_dup2 C dX5_countDuels_47 rfl rfl ?_
              obtain ⟨x43_, h44_, h32_⟩ := ob h32_
              refine z_ag C h44_ (kC_10 hkd) dX5_countDuels_48 ?_
              refine z_iconst (v := 1) C dX5_countDuels_49 ic_1 ?_
              refine z_iadd C dX5_countDuels_50 ?_
              obtain ⟨σ45_, h46_, h32_⟩ := ob h32_
              refine z_sa C h46_ (kC_10 hkd) dX5_countDuels_51 ?_
              cases h32_
              exact K33_
            have K35_ : ¬ (t36_ = true) → Z Θ 3 0 0 (zQ Θ ρ) σ24_ 52 [(0, .ref (zA Θ 6)), (1, .int a9_), (2, .int b23_)] [] := by
              intro h42_
              rw [if_neg h42_] at h32_
              cases h32_
              exact K33_
            refine z_iload_n C 1 dX5_countDuels_28 rfl rfl ?_
            refine z_iload_n C 2 dX5_countDuels_29 rfl rfl ?_
            refine c_ne_f C 52 dX5_countDuels_30 (by decide) (fun h38_ => ?_) (fun h38_ => ?_)
            · rw [if_pos h38_] at h37_
              refine z_aload_n C 0 dX5_countDuels_33 rfl rfl ?_
              refine z_iload_n C 1 dX5_countDuels_34 rfl rfl ?_
              refine z_iload_n C 2 dX5_countDuels_35 rfl rfl ?_
              obtain ⟨x39_, h40_, h37_⟩ := ob h37_
              refine cr5_80 (person_a := a9_) (other_a := b23_) C hkd  h40_ ⟨(Nat.le_of_ble_eq_true rfl), (Nat.le_of_ble_eq_true rfl)⟩ (Nat.le_of_ble_eq_true rfl) ⟨Nat.zero_le _, Nat.zero_le _⟩ dX5_countDuels_36 ?_
              refine cb_f C 52 dX5_countDuels_39 (by decide) (fun h41_ => ?_) (fun h41_ => ?_)
              · rw [if_pos h41_] at h37_
                cases h37_
                exact K34_ rfl
              · rw [if_neg h41_] at h37_
                cases h37_
                exact K35_ Bool.false_ne_true
            · rw [if_neg h38_] at h37_
              cases h37_
              exact K35_ Bool.false_ne_true
          obtain ⟨b47_, h48_, h22_⟩ := lt_ h22_
          refine z_inc C 2 dX5_countDuels_52 rfl ic_1 h48_ (Nat.le_of_ble_eq_true rfl) rfl ?_
          refine z_goto C 20 dX5_countDuels_55 (by decide) ?_
          refine Z.sub [1, 2, 0] rfl ?_
          exact h21_ _ _ h22_
        have K28_ : ¬ (b23_ < (σ24_ 6 6)) → Z Θ 3 0 0 (zQ Θ ρ) σ24_ 58 [(0, .ref (zA Θ 6)), (1, .int a9_), (2, .int b23_)] [] := by
          intro h30_
          rw [if_neg h30_] at h22_
          cases h22_
          exact K19_
        refine z_iload_n C 2 dX5_countDuels_20 rfl rfl ?_
        refine z_aload_n C 0 dX5_countDuels_21 rfl rfl ?_
        refine fg5_30 C hkd dX5_countDuels_22 ?_
        refine c_lt_f C 58 dX5_countDuels_25 (by decide) (fun h29_ => ?_) (fun h29_ => ?_)
        · exact K27_ h29_
        · exact K28_ h29_
      obtain ⟨a49_, h50_, h8_⟩ := lt_ h8_
      refine z_inc C 1 dX5_countDuels_58 rfl ic_1 h50_ (Nat.le_of_ble_eq_true rfl) rfl ?_
      refine z_goto C 10 dX5_countDuels_61 (by decide) ?_
      refine Z.sub [1, 0] rfl ?_
      exact h7_ _ _ h8_
    have K14_ : ¬ (a9_ < (σ10_ 6 6)) → Z Θ 3 0 0 (zQ Θ ρ) σ10_ 64 [(0, .ref (zA Θ 6)), (1, .int a9_)] [] := by
      intro h16_
      rw [if_neg h16_] at h8_
      cases h8_
      exact K5_
    refine z_iload_n C 1 dX5_countDuels_10 rfl rfl ?_
    refine z_aload_n C 0 dX5_countDuels_11 rfl rfl ?_
    refine fg5_30 C hkd dX5_countDuels_12 ?_
    refine c_lt_f C 64 dX5_countDuels_15 (by decide) (fun h15_ => ?_) (fun h15_ => ?_)
    · exact K13_ h15_
    · exact K14_ h15_
  cases hf
  subst hρ
  exact z_vret C dX5_countDuels_64
theorem c5_countDuels {l : Launch} {kd : List KD} {w : Wp} {σ : St} (hkd : kd = kdC) (hi : zI kd w) {r : St} (hf : q5_countDuels σ = some r) : zM l kd w yX5_countDuels cX5_countDuels 3 none rm5_countDuels [.ref (w.2.2.1 6)] σ (none, r) := zM_of rfl hi (Nat.le_of_ble_eq_true rfl) (fun Θ hl hw C => by
  obtain ⟨Θ1, Θ2, Θ3, Θ4, Θ5⟩ := Θ
  cases hw
  exact p5_countDuels C hkd  hf rfl)
/-! LastLoaf$Poll.countLast -/
theorem dX5_countLast_0 : decode cX5_countLast 0 = .ok (.aload_n 0, 1) := by decide +kernel
theorem dX5_countLast_1 : decode cX5_countLast 1 = .ok (.getfield 21, 3) := by decide +kernel
theorem dX5_countLast_4 : decode cX5_countLast 4 = .ok (.iconst 0, 1) := by decide +kernel
theorem dX5_countLast_5 : decode cX5_countLast 5 = .ok (.invokestatic 107, 3) := by decide +kernel
theorem dX5_countLast_8 : decode cX5_countLast 8 = .ok (.iconst 0, 1) := by decide +kernel
theorem dX5_countLast_9 : decode cX5_countLast 9 = .ok (.istore_n 1, 1) := by decide +kernel
theorem dX5_countLast_10 : decode cX5_countLast 10 = .ok (.iload_n 1, 1) := by decide +kernel
theorem dX5_countLast_11 : decode cX5_countLast 11 = .ok (.aload_n 0, 1) := by decide +kernel
theorem dX5_countLast_12 : decode cX5_countLast 12 = .ok (.getfield 30, 3) := by decide +kernel
theorem dX5_countLast_15 : decode cX5_countLast 15 = .ok (.if_icmp .ge 36, 3) := by decide +kernel
theorem dX5_countLast_18 : decode cX5_countLast 18 = .ok (.aload_n 0, 1) := by decide +kernel
theorem dX5_countLast_19 : decode cX5_countLast 19 = .ok (.iload_n 1, 1) := by decide +kernel
theorem dX5_countLast_20 : decode cX5_countLast 20 = .ok (.aload_n 0, 1) := by decide +kernel
theorem dX5_countLast_21 : decode cX5_countLast 21 = .ok (.getfield 37, 3) := by decide +kernel
theorem dX5_countLast_24 : decode cX5_countLast 24 = .ok (.iconst 1, 1) := by decide +kernel
theorem dX5_countLast_25 : decode cX5_countLast 25 = .ok (.isub, 1) := by decide +kernel
theorem dX5_countLast_26 : decode cX5_countLast 26 = .ok (.invokevirtual 76, 3) := by decide +kernel
theorem dX5_countLast_29 : decode cX5_countLast 29 = .ok (.istore_n 2, 1) := by decide +kernel
theorem dX5_countLast_30 : decode cX5_countLast 30 = .ok (.iload_n 2, 1) := by decide +kernel
theorem dX5_countLast_31 : decode cX5_countLast 31 = .ok (.iconst (-1), 1) := by decide +kernel
theorem dX5_countLast_32 : decode cX5_countLast 32 = .ok (.if_icmp .eq 13, 3) := by decide +kernel
theorem dX5_countLast_35 : decode cX5_countLast 35 = .ok (.aload_n 0, 1) := by decide +kernel
theorem dX5_countLast_36 : decode cX5_countLast 36 = .ok (.getfield 21, 3) := by decide +kernel
theorem dX5_countLast_39 : decode cX5_countLast 39 = .ok (.iload_n 2, 1) := by decide +kernel
theorem dX5_countLast_40 : decode cX5_countLast 40 = .ok (.dup2, 1) := by decide +kernel
theorem dX5_countLast_41 : decode cX5_countLast 41 = .ok (.iaload, 1) := by decide +kernel
theorem dX5_countLast_42 : decode cX5_countLast 42 = .ok (.iconst 1, 1) := by decide +kernel
theorem dX5_countLast_43 : decode cX5_countLast 43 = .ok (.isub, 1) := by decide +kernel
theorem dX5_countLast_44 : decode cX5_countLast 44 = .ok (.iastore, 1) := by decide +kernel
theorem dX5_countLast_45 : decode cX5_countLast 45 = .ok (.iinc 1 1, 3) := by decide +kernel
theorem dX5_countLast_48 : decode cX5_countLast 48 = .ok (.goto (-38), 3) := by decide +kernel
theorem dX5_countLast_51 : decode cX5_countLast 51 = .ok (.return_, 1) := by decide +kernel
def q5_countLast (σ : St) : Option St :=
  lt (fil σ 10 6 0) fun σ1_ =>
  Option.bind (loop2 (fun rec6_ (v9_ : Int32) (σ10_ : St) =>
  if v9_ < (σ10_ 6 6) then
  Option.bind (q5_rankAt σ10_ v9_ ((σ10_ 6 8) - 1)) fun x17_ =>
  Option.bind (if ¬ x17_ = (-1) then (Option.bind (ag σ10_ 10 6 x17_) fun x26_ =>
  Option.bind (sa σ10_ 10 6 x17_ (x26_ - 1)) fun σ28_ =>
  some (σ28_)) else (some (σ10_))) fun y19_ =>
  lt (v9_ + 1) fun v30_ =>
  rec6_ v30_ y19_
  else (some (v9_, σ10_))) fuelN (0 : Int32) σ1_) fun y3_ =>
  some y3_.2
abbrev rm5_countLast : Room := { frames := 2, cells := 0, slots := 0, locals := 43 }
set_option maxHeartbeats 4000000 in
set_option maxRecDepth 100000 in
theorem p5_countLast {Θ : Tz} {σ : St} {ρ : Option Value × St} (C : Zc Θ cX5_countLast 3 RX5 none rm5_countLast) (hkd : Θ.2.2.2.2.1 = kdC) {r : St} (hf : q5_countLast σ = some r) (hρ : ρ = (none, r)) : Z Θ 3 0 0 (zQ Θ ρ) σ 0 [(0, .ref (zA Θ 6))] [] := by
  unfold q5_countLast at hf
  refine z_aload_n C 0 dX5_countLast_0 rfl rfl ?_
  refine fg5_21 C hkd dX5_countLast_1 ?_
  refine z_iconst (v := 0) C dX5_countLast_4 ic_0 ?_
  obtain ⟨σ1_, h2_, hf⟩ := lt_ hf
  refine z_callS C [.ref (zA Θ 10), .int 0] (none, fil σ 10 6 0) 2 (cJ_fill (zc_inj C) (kC_10 hkd) (Nat.le_of_ble_eq_true rfl)) w_1_90 w_3_158 w_1_89 w_1_5 ⟨rfl, rfl, (Nat.le_of_ble_eq_true rfl), (Nat.le_of_ble_eq_true rfl)⟩ (by decide +kernel) rfl rfl (Nat.le_of_ble_eq_true rfl) ⟨Nat.zero_le _, Nat.zero_le _⟩ dX5_countLast_5 ?_
  rw [← h2_]
  refine z_iconst (v := 0) C dX5_countLast_8 ic_0 ?_
  refine z_istN C dX5_countLast_9 rfl rfl (Nat.le_of_ble_eq_true rfl) rfl ?_
  refine Z.sub [1, 0] rfl ?_
  obtain ⟨y3_, h4_, hf⟩ := ob hf
  suffices K5_ : Z Θ 3 0 0 (zQ Θ ρ) y3_.2 51 [(0, .ref (zA Θ 6)), (1, .int y3_.1)] [] by
    refine loop2_Z (P := fun (v9_ : Int32) (σ10_ : St) => Z Θ 3 0 0 (zQ Θ ρ) σ10_ 10 [(0, .ref (zA Θ 6)), (1, .int v9_)] []) ?_ fuelN (0 : Int32) σ1_ h4_
    clear h4_
    intro rec6_ v9_ σ10_ h7_ h8_
    have K13_ : v9_ < (σ10_ 6 6) → Z Θ 3 0 0 (zQ Θ ρ) σ10_ 18 [(0, .ref (zA Θ 6)), (1, .int v9_)] [] := by
      intro h16_
      rw [if_pos h16_] at h8_
      refine z_aload_n C 0 dX5_countLast_18 rfl rfl ?_
      refine z_iload_n C 1 dX5_countLast_19 rfl rfl ?_
      refine z_aload_n C 0 dX5_countLast_20 rfl rfl ?_
      refine fg5_37 C hkd dX5_countLast_21 ?_
      refine z_iconst (v := 1) C dX5_countLast_24 ic_1 ?_
      refine z_isub C dX5_countLast_25 ?_
      obtain ⟨x17_, h18_, h8_⟩ := ob h8_
      refine cr5_76 (voter_a := v9_) (k_a := ((σ10_ 6 8) - 1)) C hkd  h18_ ⟨(Nat.le_of_ble_eq_true rfl), (Nat.le_of_ble_eq_true rfl)⟩ (Nat.le_of_ble_eq_true rfl) ⟨Nat.zero_le _, Nat.zero_le _⟩ dX5_countLast_26 ?_
      refine z_istN C dX5_countLast_29 rfl rfl (Nat.le_of_ble_eq_true rfl) rfl ?_
      obtain ⟨y19_, h20_, h8_⟩ := ob h8_
      suffices K21_ : Z Θ 3 0 0 (zQ Θ ρ) y19_ 45 [(0, .ref (zA Θ 6)), (1, .int v9_), (2, .int x17_)] [] by
        have K22_ : ¬ x17_ = (-1) → Z Θ 3 0 0 (zQ Θ ρ) σ10_ 35 [(2, .int x17_), (0, .ref (zA Θ 6)), (1, .int v9_)] [] := by
          intro h25_
          rw [if_pos h25_] at h20_
          refine z_aload_n C 1 dX5_countLast_35 rfl rfl ?_
          refine fg5_21 C hkd dX5_countLast_36 ?_
          refine z_iload_n C 0 dX5_countLast_39 rfl rfl ?_
          refine z_dup2 C dX5_countLast_40 rfl rfl ?_
          obtain ⟨x26_, h27_, h20_⟩ := ob h20_
          refine z_ag C h27_ (kC_10 hkd) dX5_countLast_41 ?_
          refine z_iconst (v := 1) C dX5_countLast_42 ic_1 ?_
          refine z_isub C dX5_countLast_43 ?_
          obtain ⟨σ28_, h29_, h20_⟩ := ob h20_
          refine z_sa C h29_ (kC_10 hkd) dX5_countLast_44 ?_
          cases h20_
          refine Z.sub [1, 2, 0] rfl ?_
          exact K21_
        have K23_ : ¬ (¬ x17_ = (-1)) → Z Θ 3 0 0 (zQ Θ ρ) σ10_ 45 [(2, .int x17_), (0, .ref (zA Θ 6)), (1, .int v9_)] [] := by
          intro h25_
          rw [if_neg h25_] at h20_
          cases h20_
          refine Z.sub [1, 2, 0] rfl ?_
          exact K21_
        refine z_iload_n C 0 dX5_countLast_30 rfl rfl ?_
        refine z_iconst (v := (-1)) C dX5_countLast_31 ic_m1 ?_
        refine c_ne_f C 45 dX5_countLast_32 (by decide) (fun h24_ => ?_) (fun h24_ => ?_)
        · exact K22_ h24_
        · exact K23_ h24_
      obtain ⟨v30_, h31_, h8_⟩ := lt_ h8_
      refine z_inc C 1 dX5_countLast_45 rfl ic_1 h31_ (Nat.le_of_ble_eq_true rfl) rfl ?_
      refine z_goto C 10 dX5_countLast_48 (by decide) ?_
      refine Z.sub [1, 0] rfl ?_
      exact h7_ _ _ h8_
    have K14_ : ¬ (v9_ < (σ10_ 6 6)) → Z Θ 3 0 0 (zQ Θ ρ) σ10_ 51 [(0, .ref (zA Θ 6)), (1, .int v9_)] [] := by
      intro h16_
      rw [if_neg h16_] at h8_
      cases h8_
      exact K5_
    refine z_iload_n C 1 dX5_countLast_10 rfl rfl ?_
    refine z_aload_n C 0 dX5_countLast_11 rfl rfl ?_
    refine fg5_30 C hkd dX5_countLast_12 ?_
    refine c_lt_f C 51 dX5_countLast_15 (by decide) (fun h15_ => ?_) (fun h15_ => ?_)
    · exact K13_ h15_
    · exact K14_ h15_
  cases hf
  subst hρ
  exact z_vret C dX5_countLast_51
theorem c5_countLast {l : Launch} {kd : List KD} {w : Wp} {σ : St} (hkd : kd = kdC) (hi : zI kd w) {r : St} (hf : q5_countLast σ = some r) : zM l kd w yX5_countLast cX5_countLast 3 none rm5_countLast [.ref (w.2.2.1 6)] σ (none, r) := zM_of rfl hi (Nat.le_of_ble_eq_true rfl) (fun Θ hl hw C => by
  obtain ⟨Θ1, Θ2, Θ3, Θ4, Θ5⟩ := Θ
  cases hw
  exact p5_countLast C hkd  hf rfl)
/-! LastLoaf$Poll.countPoints -/
theorem w_3_190 : Cond.methodLink "LastLoaf$Poll" (113 : Nat) ({ cls := "LastLoaf$Poll", name := "pointsOf", desc := "(I)I" } : MethodName) ∈ TB := tb_in (lwt_3 (List.mem_of_getElem? (i := 190) (by decide +kernel))) rfl
theorem cr5_113 {Θ : Tz} {cc : ByteArray} {nL kc ks : Nat} {ret : Option FieldType} {rm : Room} {Q : State → Prop} {σ : St} {pc : Nat} {lv : List (Nat × Value)} {st : List Value} (C : Zc Θ cc nL RX5 ret rm) (hkd : Θ.2.2.2.2.1 = kdC) {person_a : Int32} {r : Int32} (hx : q5_pointsOf σ person_a = some r) (hrm : rm5_pointsOf.frames + 1 ≤ rm.frames ∧ 8 + (4 + 11) + rm5_pointsOf.locals ≤ rm.locals) (hcat : (st.map fun v => v.category).sum ≤ 8) (hk : kc ≤ rm.cells ∧ ks ≤ rm.slots) (hd : decode cc pc = .ok (.invokevirtual 113, 3)) (kk : Z Θ nL kc ks Q σ (pc + 3) lv (.int r :: st)) : Z Θ nL kc ks Q σ pc lv (.int person_a :: .ref (zA Θ 6) :: st) := z_callV C 6 [.int person_a] (some (.int r), σ) 1 (kC_6 hkd) rfl (c5_pointsOf (person_a := person_a) hkd (zc_inj C) hx) w_3_193 w_3_190 w_3_191 w_3_192 w_1_9 ⟨rfl, rfl, hrm.1, hrm.2⟩ (by decide +kernel) rfl rfl hcat hk hd kk
theorem dX5_countPoints_0 : decode cX5_countPoints 0 = .ok (.iconst 0, 1) := by decide +kernel
theorem dX5_countPoints_1 : decode cX5_countPoints 1 = .ok (.istore_n 1, 1) := by decide +kernel
theorem dX5_countPoints_2 : decode cX5_countPoints 2 = .ok (.iload_n 1, 1) := by decide +kernel
theorem dX5_countPoints_3 : decode cX5_countPoints 3 = .ok (.aload_n 0, 1) := by decide +kernel
theorem dX5_countPoints_4 : decode cX5_countPoints 4 = .ok (.getfield 30, 3) := by decide +kernel
theorem dX5_countPoints_7 : decode cX5_countPoints 7 = .ok (.if_icmp .ge 20, 3) := by decide +kernel
theorem dX5_countPoints_10 : decode cX5_countPoints 10 = .ok (.aload_n 0, 1) := by decide +kernel
theorem dX5_countPoints_11 : decode cX5_countPoints 11 = .ok (.getfield 21, 3) := by decide +kernel
theorem dX5_countPoints_14 : decode cX5_countPoints 14 = .ok (.iload_n 1, 1) := by decide +kernel
theorem dX5_countPoints_15 : decode cX5_countPoints 15 = .ok (.aload_n 0, 1) := by decide +kernel
theorem dX5_countPoints_16 : decode cX5_countPoints 16 = .ok (.iload_n 1, 1) := by decide +kernel
theorem dX5_countPoints_17 : decode cX5_countPoints 17 = .ok (.invokevirtual 113, 3) := by decide +kernel
theorem dX5_countPoints_20 : decode cX5_countPoints 20 = .ok (.iastore, 1) := by decide +kernel
theorem dX5_countPoints_21 : decode cX5_countPoints 21 = .ok (.iinc 1 1, 3) := by decide +kernel
theorem dX5_countPoints_24 : decode cX5_countPoints 24 = .ok (.goto (-22), 3) := by decide +kernel
theorem dX5_countPoints_27 : decode cX5_countPoints 27 = .ok (.return_, 1) := by decide +kernel
def q5_countPoints (σ : St) : Option St :=
  Option.bind (loop2 (fun rec4_ (r7_ : Int32) (σ8_ : St) =>
  if r7_ < (σ8_ 6 6) then
  Option.bind (q5_pointsOf σ8_ r7_) fun x15_ =>
  Option.bind (sa σ8_ 10 6 r7_ x15_) fun σ17_ =>
  lt (r7_ + 1) fun r19_ =>
  rec4_ r19_ σ17_
  else (some (r7_, σ8_))) fuelN (0 : Int32) σ) fun y1_ =>
  some y1_.2
abbrev rm5_countPoints : Room := { frames := 2, cells := 0, slots := 0, locals := 44 }
set_option maxHeartbeats 4000000 in
set_option maxRecDepth 100000 in
theorem p5_countPoints {Θ : Tz} {σ : St} {ρ : Option Value × St} (C : Zc Θ cX5_countPoints 2 RX5 none rm5_countPoints) (hkd : Θ.2.2.2.2.1 = kdC) {r : St} (hf : q5_countPoints σ = some r) (hρ : ρ = (none, r)) : Z Θ 2 0 0 (zQ Θ ρ) σ 0 [(0, .ref (zA Θ 6))] [] := by
  unfold q5_countPoints at hf
  refine z_iconst (v := 0) C dX5_countPoints_0 ic_0 ?_
  refine z_istN C dX5_countPoints_1 rfl rfl (Nat.le_of_ble_eq_true rfl) rfl ?_
  refine Z.sub [1, 0] rfl ?_
  obtain ⟨y1_, h2_, hf⟩ := ob hf
  suffices K3_ : Z Θ 2 0 0 (zQ Θ ρ) y1_.2 27 [(0, .ref (zA Θ 6)), (1, .int y1_.1)] [] by
    refine loop2_Z (P := fun (r7_ : Int32) (σ8_ : St) => Z Θ 2 0 0 (zQ Θ ρ) σ8_ 2 [(0, .ref (zA Θ 6)), (1, .int r7_)] []) ?_ fuelN (0 : Int32) σ h2_
    clear h2_
    intro rec4_ r7_ σ8_ h5_ h6_
    have K11_ : r7_ < (σ8_ 6 6) → Z Θ 2 0 0 (zQ Θ ρ) σ8_ 10 [(0, .ref (zA Θ 6)), (1, .int r7_)] [] := by
      intro h14_
      rw [if_pos h14_] at h6_
      refine z_aload_n C 0 dX5_countPoints_10 rfl rfl ?_
      refine fg5_21 C hkd dX5_countPoints_11 ?_
      refine z_iload_n C 1 dX5_countPoints_14 rfl rfl ?_
      refine z_aload_n C 0 dX5_countPoints_15 rfl rfl ?_
      refine z_iload_n C 1 dX5_countPoints_16 rfl rfl ?_
      obtain ⟨x15_, h16_, h6_⟩ := ob h6_
      refine cr5_113 (person_a := r7_) C hkd  h16_ ⟨(Nat.le_of_ble_eq_true rfl), (Nat.le_of_ble_eq_true rfl)⟩ (Nat.le_of_ble_eq_true rfl) ⟨Nat.zero_le _, Nat.zero_le _⟩ dX5_countPoints_17 ?_
      obtain ⟨σ17_, h18_, h6_⟩ := ob h6_
      refine z_sa C h18_ (kC_10 hkd) dX5_countPoints_20 ?_
      obtain ⟨r19_, h20_, h6_⟩ := lt_ h6_
      refine z_inc C 1 dX5_countPoints_21 rfl ic_1 h20_ (Nat.le_of_ble_eq_true rfl) rfl ?_
      refine z_goto C 2 dX5_countPoints_24 (by decide) ?_
      refine Z.sub [1, 0] rfl ?_
      exact h5_ _ _ h6_
    have K12_ : ¬ (r7_ < (σ8_ 6 6)) → Z Θ 2 0 0 (zQ Θ ρ) σ8_ 27 [(0, .ref (zA Θ 6)), (1, .int r7_)] [] := by
      intro h14_
      rw [if_neg h14_] at h6_
      cases h6_
      exact K3_
    refine z_iload_n C 1 dX5_countPoints_2 rfl rfl ?_
    refine z_aload_n C 0 dX5_countPoints_3 rfl rfl ?_
    refine fg5_30 C hkd dX5_countPoints_4 ?_
    refine c_lt_f C 27 dX5_countPoints_7 (by decide) (fun h13_ => ?_) (fun h13_ => ?_)
    · exact K11_ h13_
    · exact K12_ h13_
  cases hf
  subst hρ
  exact z_vret C dX5_countPoints_27
theorem c5_countPoints {l : Launch} {kd : List KD} {w : Wp} {σ : St} (hkd : kd = kdC) (hi : zI kd w) {r : St} (hf : q5_countPoints σ = some r) : zM l kd w yX5_countPoints cX5_countPoints 2 none rm5_countPoints [.ref (w.2.2.1 6)] σ (none, r) := zM_of rfl hi (Nat.le_of_ble_eq_true rfl) (fun Θ hl hw C => by
  obtain ⟨Θ1, Θ2, Θ3, Θ4, Θ5⟩ := Θ
  cases hw
  exact p5_countPoints C hkd  hf rfl)
/-! LastLoaf$Poll.lastOfRounds -/
theorem dX5_lastOfRounds_0 : decode cX5_lastOfRounds 0 = .ok (.aload_n 0, 1) := by decide +kernel
theorem dX5_lastOfRounds_1 : decode cX5_lastOfRounds 1 = .ok (.getfield 34, 3) := by decide +kernel
theorem dX5_lastOfRounds_4 : decode cX5_lastOfRounds 4 = .ok (.istore_n 1, 1) := by decide +kernel
theorem dX5_lastOfRounds_5 : decode cX5_lastOfRounds 5 = .ok (.iconst 1, 1) := by decide +kernel
theorem dX5_lastOfRounds_6 : decode cX5_lastOfRounds 6 = .ok (.istore_n 2, 1) := by decide +kernel
theorem dX5_lastOfRounds_7 : decode cX5_lastOfRounds 7 = .ok (.iload_n 2, 1) := by decide +kernel
theorem dX5_lastOfRounds_8 : decode cX5_lastOfRounds 8 = .ok (.aload_n 0, 1) := by decide +kernel
theorem dX5_lastOfRounds_9 : decode cX5_lastOfRounds 9 = .ok (.getfield 37, 3) := by decide +kernel
theorem dX5_lastOfRounds_12 : decode cX5_lastOfRounds 12 = .ok (.if_icmp .ge 78, 3) := by decide +kernel
theorem dX5_lastOfRounds_15 : decode cX5_lastOfRounds 15 = .ok (.aload_n 0, 1) := by decide +kernel
theorem dX5_lastOfRounds_16 : decode cX5_lastOfRounds 16 = .ok (.iload_n 1, 1) := by decide +kernel
theorem dX5_lastOfRounds_17 : decode cX5_lastOfRounds 17 = .ok (.invokevirtual 92, 3) := by decide +kernel
theorem dX5_lastOfRounds_20 : decode cX5_lastOfRounds 20 = .ok (.iconst (-1), 1) := by decide +kernel
theorem dX5_lastOfRounds_21 : decode cX5_lastOfRounds 21 = .ok (.istore_n 3, 1) := by decide +kernel
theorem dX5_lastOfRounds_22 : decode cX5_lastOfRounds 22 = .ok (.iconst 0, 1) := by decide +kernel
theorem dX5_lastOfRounds_23 : decode cX5_lastOfRounds 23 = .ok (.istore 4, 2) := by decide +kernel
theorem dX5_lastOfRounds_25 : decode cX5_lastOfRounds 25 = .ok (.iload 4, 2) := by decide +kernel
theorem dX5_lastOfRounds_27 : decode cX5_lastOfRounds 27 = .ok (.aload_n 0, 1) := by decide +kernel
theorem dX5_lastOfRounds_28 : decode cX5_lastOfRounds 28 = .ok (.getfield 30, 3) := by decide +kernel
theorem dX5_lastOfRounds_31 : decode cX5_lastOfRounds 31 = .ok (.if_icmp .ge 42, 3) := by decide +kernel
theorem dX5_lastOfRounds_34 : decode cX5_lastOfRounds 34 = .ok (.iload_n 1, 1) := by decide +kernel
theorem dX5_lastOfRounds_35 : decode cX5_lastOfRounds 35 = .ok (.iload 4, 2) := by decide +kernel
theorem dX5_lastOfRounds_37 : decode cX5_lastOfRounds 37 = .ok (.invokestatic 58, 3) := by decide +kernel
theorem dX5_lastOfRounds_40 : decode cX5_lastOfRounds 40 = .ok (.ifCond .eq 27, 3) := by decide +kernel
theorem dX5_lastOfRounds_43 : decode cX5_lastOfRounds 43 = .ok (.iload_n 3, 1) := by decide +kernel
theorem dX5_lastOfRounds_44 : decode cX5_lastOfRounds 44 = .ok (.iconst (-1), 1) := by decide +kernel
theorem dX5_lastOfRounds_45 : decode cX5_lastOfRounds 45 = .ok (.if_icmp .eq 19, 3) := by decide +kernel
theorem dX5_lastOfRounds_48 : decode cX5_lastOfRounds 48 = .ok (.aload_n 0, 1) := by decide +kernel
theorem dX5_lastOfRounds_49 : decode cX5_lastOfRounds 49 = .ok (.getfield 21, 3) := by decide +kernel
theorem dX5_lastOfRounds_52 : decode cX5_lastOfRounds 52 = .ok (.iload 4, 2) := by decide +kernel
theorem dX5_lastOfRounds_54 : decode cX5_lastOfRounds 54 = .ok (.iaload, 1) := by decide +kernel
theorem dX5_lastOfRounds_55 : decode cX5_lastOfRounds 55 = .ok (.aload_n 0, 1) := by decide +kernel
theorem dX5_lastOfRounds_56 : decode cX5_lastOfRounds 56 = .ok (.getfield 21, 3) := by decide +kernel
theorem dX5_lastOfRounds_59 : decode cX5_lastOfRounds 59 = .ok (.iload_n 3, 1) := by decide +kernel
theorem dX5_lastOfRounds_60 : decode cX5_lastOfRounds 60 = .ok (.iaload, 1) := by decide +kernel
theorem dX5_lastOfRounds_61 : decode cX5_lastOfRounds 61 = .ok (.if_icmp .gt 6, 3) := by decide +kernel
theorem dX5_lastOfRounds_64 : decode cX5_lastOfRounds 64 = .ok (.iload 4, 2) := by decide +kernel
theorem dX5_lastOfRounds_66 : decode cX5_lastOfRounds 66 = .ok (.istore_n 3, 1) := by decide +kernel
theorem dX5_lastOfRounds_67 : decode cX5_lastOfRounds 67 = .ok (.iinc 4 1, 3) := by decide +kernel
theorem dX5_lastOfRounds_70 : decode cX5_lastOfRounds 70 = .ok (.goto (-45), 3) := by decide +kernel
theorem dX5_lastOfRounds_73 : decode cX5_lastOfRounds 73 = .ok (.iload_n 3, 1) := by decide +kernel
theorem dX5_lastOfRounds_74 : decode cX5_lastOfRounds 74 = .ok (.iconst (-1), 1) := by decide +kernel
theorem dX5_lastOfRounds_75 : decode cX5_lastOfRounds 75 = .ok (.if_icmp .eq 9, 3) := by decide +kernel
theorem dX5_lastOfRounds_78 : decode cX5_lastOfRounds 78 = .ok (.iload_n 1, 1) := by decide +kernel
theorem dX5_lastOfRounds_79 : decode cX5_lastOfRounds 79 = .ok (.iload_n 3, 1) := by decide +kernel
theorem dX5_lastOfRounds_80 : decode cX5_lastOfRounds 80 = .ok (.invokestatic 116, 3) := by decide +kernel
theorem dX5_lastOfRounds_83 : decode cX5_lastOfRounds 83 = .ok (.istore_n 1, 1) := by decide +kernel
theorem dX5_lastOfRounds_84 : decode cX5_lastOfRounds 84 = .ok (.iinc 2 1, 3) := by decide +kernel
theorem dX5_lastOfRounds_87 : decode cX5_lastOfRounds 87 = .ok (.goto (-80), 3) := by decide +kernel
theorem dX5_lastOfRounds_90 : decode cX5_lastOfRounds 90 = .ok (.iload_n 1, 1) := by decide +kernel
theorem dX5_lastOfRounds_91 : decode cX5_lastOfRounds 91 = .ok (.invokestatic 119, 3) := by decide +kernel
theorem dX5_lastOfRounds_94 : decode cX5_lastOfRounds 94 = .ok (.ireturn, 1) := by decide +kernel
def q5_lastOfRounds (σ : St) : Option (Int32 × St) :=
  lt (σ 6 7) fun left1_ =>
  Option.bind (loop3 (fun rec6_ (left9_ : Int32) (round10_ : Int32) (σ11_ : St) =>
  if round10_ < (σ11_ 6 8) then
  Option.bind (q5_countFirst σ11_ left9_) fun x18_ =>
  Option.bind (loop2 (fun rec23_ (goes26_ : Int32) (r27_ : Int32) =>
  if r27_ < (x18_ 6 6) then
  Option.bind (Option.bind (if q11_isIn left9_ r27_ = true then (if goes26_ = (-1) then (some true) else (Option.bind (ag x18_ 10 6 r27_) fun x43_ =>
  Option.bind (ag x18_ 10 6 goes26_) fun x45_ =>
  if x43_ ≤ x45_ then (some true) else (some false))) else (some false)) fun t39_ =>
  if t39_ = true then (some (r27_)) else (some (goes26_))) fun y34_ =>
  lt (r27_ + 1) fun r49_ =>
  rec23_ y34_ r49_
  else (some (goes26_, r27_))) fuelN (-1 : Int32) (0 : Int32)) fun y20_ =>
  lt (if ¬ y20_.1 = (-1) then (lt (q11_without left9_ y20_.1) fun left58_ =>
  left58_) else left9_) fun y51_ =>
  lt (round10_ + 1) fun round60_ =>
  rec6_ y51_ round60_ x18_
  else (some (left9_, round10_, σ11_))) fuelN left1_ (1 : Int32) σ) fun y3_ =>
  Option.bind (q11_leastOf y3_.1) fun x62_ =>
  some (x62_, y3_.2.2)
abbrev rm5_lastOfRounds : Room := { frames := 2, cells := 0, slots := 0, locals := 47 }
set_option maxHeartbeats 4000000 in
set_option maxRecDepth 100000 in
theorem p5_lastOfRounds {Θ : Tz} {σ : St} {ρ : Option Value × St} (C : Zc Θ cX5_lastOfRounds 5 RX5 (some .int) rm5_lastOfRounds) (hkd : Θ.2.2.2.2.1 = kdC) {r : (Int32 × St)} (hf : q5_lastOfRounds σ = some r) (hρ : ρ = (some (.int r.1), r.2)) : Z Θ 5 0 0 (zQ Θ ρ) σ 0 [(0, .ref (zA Θ 6))] [] := by
  unfold q5_lastOfRounds at hf
  refine z_aload_n C 0 dX5_lastOfRounds_0 rfl rfl ?_
  refine fg5_34 C hkd dX5_lastOfRounds_1 ?_
  obtain ⟨left1_, h2_, hf⟩ := lt_ hf
  refine z_istN C dX5_lastOfRounds_4 h2_ rfl (Nat.le_of_ble_eq_true rfl) rfl ?_
  refine z_iconst (v := 1) C dX5_lastOfRounds_5 ic_1 ?_
  refine z_istN C dX5_lastOfRounds_6 rfl rfl (Nat.le_of_ble_eq_true rfl) rfl ?_
  refine Z.sub [2, 1, 0] rfl ?_
  obtain ⟨y3_, h4_, hf⟩ := ob hf
  suffices K5_ : Z Θ 5 0 0 (zQ Θ ρ) y3_.2.2 90 [(0, .ref (zA Θ 6)), (1, .int y3_.1), (2, .int y3_.2.1)] [] by
    refine loop3_Z (P := fun (left9_ : Int32) (round10_ : Int32) (σ11_ : St) => Z Θ 5 0 0 (zQ Θ ρ) σ11_ 7 [(0, .ref (zA Θ 6)), (1, .int left9_), (2, .int round10_)] []) ?_ fuelN left1_ (1 : Int32) σ h4_
    clear h4_
    intro rec6_ left9_ round10_ σ11_ h7_ h8_
    have K14_ : round10_ < (σ11_ 6 8) → Z Θ 5 0 0 (zQ Θ ρ) σ11_ 15 [(0, .ref (zA Θ 6)), (1, .int left9_), (2, .int round10_)] [] := by
      intro h17_
      rw [if_pos h17_] at h8_
      refine z_aload_n C 0 dX5_lastOfRounds_15 rfl rfl ?_
      refine z_iload_n C 1 dX5_lastOfRounds_16 rfl rfl ?_
      obtain ⟨x18_, h19_, h8_⟩ := ob h8_
      refine cr5_92 (among_a := left9_) C hkd  h19_ ⟨(Nat.le_of_ble_eq_true rfl), (Nat.le_of_ble_eq_true rfl)⟩ (Nat.le_of_ble_eq_true rfl) ⟨Nat.zero_le _, Nat.zero_le _⟩ dX5_lastOfRounds_17 ?_
      refine z_iconst (v := (-1)) C dX5_lastOfRounds_20 ic_m1 ?_
      refine z_istN C dX5_lastOfRounds_21 rfl rfl (Nat.le_of_ble_eq_true rfl) rfl ?_
      refine z_iconst (v := 0) C dX5_lastOfRounds_22 ic_0 ?_
      refine z_ist C dX5_lastOfRounds_23 rfl (Nat.le_of_ble_eq_true rfl) rfl ?_
      refine Z.sub [2, 3, 4, 1, 0] rfl ?_
      obtain ⟨y20_, h21_, h8_⟩ := ob h8_
      suffices K22_ : Z Θ 5 0 0 (zQ Θ ρ) x18_ 73 [(0, .ref (zA Θ 6)), (1, .int left9_), (2, .int round10_), (3, .int y20_.1), (4, .int y20_.2)] [] by
        refine loop2_Z (P := fun (goes26_ : Int32) (r27_ : Int32) => Z Θ 5 0 0 (zQ Θ ρ) x18_ 25 [(0, .ref (zA Θ 6)), (1, .int left9_), (2, .int round10_), (3, .int goes26_), (4, .int r27_)] []) ?_ fuelN (-1 : Int32) (0 : Int32) h21_
        clear h21_
        intro rec23_ goes26_ r27_ h24_ h25_
        have K30_ : r27_ < (x18_ 6 6) → Z Θ 5 0 0 (zQ Θ ρ) x18_ 34 [(0, .ref (zA Θ 6)), (1, .int left9_), (2, .int round10_), (3, .int goes26_), (4, .int r27_)] [] := by
          intro h33_
          rw [if_pos h33_] at h25_
          obtain ⟨y34_, h35_, h25_⟩ := ob h25_
          suffices K36_ : Z Θ 5 0 0 (zQ Θ ρ) x18_ 67 [(0, .ref (zA Θ 6)), (1, .int left9_), (2, .int round10_), (3, .int y34_), (4, .int r27_)] [] by
            obtain ⟨t39_, h40_, h35_⟩ := ob h35_
            have K37_ : t39_ = true → Z Θ 5 0 0 (zQ Θ ρ) x18_ 64 [(0, .ref (zA Θ 6)), (1, .int left9_), (2, .int round10_), (3, .int goes26_), (4, .int r27_)] [] := by
              intro h48_
              rw [if_pos h48_] at h35_
              refine z_iload C 4 dX5_lastOfRounds_64 rfl ?_
              refine z_istN C dX5_lastOfRounds_66 rfl rfl (Nat.le_of_ble_eq_true rfl) rfl ?_
              cases h35_
              refine Z.sub [1, 2, 3, 0, 4] rfl ?_
              exact K36_
            have K38_ : ¬ (t39_ = true) → Z Θ 5 0 0 (zQ Θ ρ) x18_ 67 [(0, .ref (zA Θ 6)), (1, .int left9_), (2, .int round10_), (3, .int goes26_), (4, .int r27_)] [] := by
              intro h48_
              rw [if_neg h48_] at h35_
              cases h35_
              exact K36_
            refine z_iload_n C 1 dX5_lastOfRounds_34 rfl rfl ?_
            refine z_iload C 4 dX5_lastOfRounds_35 rfl ?_
            refine cr5_58 (set_a := left9_) (person_a := r27_) C hkd  ⟨(Nat.le_of_ble_eq_true rfl), (Nat.le_of_ble_eq_true rfl)⟩ (Nat.le_of_ble_eq_true rfl) ⟨Nat.zero_le _, Nat.zero_le _⟩ dX5_lastOfRounds_37 ?_
            refine cb_f C 67 dX5_lastOfRounds_40 (by decide) (fun h41_ => ?_) (fun h41_ => ?_)
            · rw [if_pos h41_] at h40_
              refine z_iload_n C 3 dX5_lastOfRounds_43 rfl rfl ?_
              refine z_iconst (v := (-1)) C dX5_lastOfRounds_44 ic_m1 ?_
              refine c_eq_t C 64 dX5_lastOfRounds_45 (by decide) (fun h42_ => ?_) (fun h42_ => ?_)
              · rw [if_pos h42_] at h40_
                cases h40_
                exact K37_ rfl
              · rw [if_neg h42_] at h40_
                refine z_aload_n C 0 dX5_lastOfRounds_48 rfl rfl ?_
                refine fg5_21 C hkd dX5_lastOfRounds_49 ?_
                refine z_iload C 4 dX5_lastOfRounds_52 rfl ?_
                obtain ⟨x43_, h44_, h40_⟩ := ob h40_
                refine z_ag C h44_ (kC_10 hkd) dX5_lastOfRounds_54 ?_
                refine z_aload_n C 0 dX5_lastOfRounds_55 rfl rfl ?_
                refine fg5_21 C hkd dX5_lastOfRounds_56 ?_
                refine z_iload_n C 3 dX5_lastOfRounds_59 rfl rfl ?_
                obtain ⟨x45_, h46_, h40_⟩ := ob h40_
                refine z_ag C h46_ (kC_10 hkd) dX5_lastOfRounds_60 ?_
                refine c_le_f C 67 dX5_lastOfRounds_61 (by decide) (fun h47_ => ?_) (fun h47_ => ?_)
                · rw [if_pos h47_] at h40_
                  cases h40_
                  exact K37_ rfl
                · rw [if_neg h47_] at h40_
                  cases h40_
                  exact K38_ Bool.false_ne_true
            · rw [if_neg h41_] at h40_
              cases h40_
              exact K38_ Bool.false_ne_true
          obtain ⟨r49_, h50_, h25_⟩ := lt_ h25_
          refine z_inc C 4 dX5_lastOfRounds_67 rfl ic_1 h50_ (Nat.le_of_ble_eq_true rfl) rfl ?_
          refine z_goto C 25 dX5_lastOfRounds_70 (by decide) ?_
          refine Z.sub [1, 2, 3, 4, 0] rfl ?_
          exact h24_ _ _ h25_
        have K31_ : ¬ (r27_ < (x18_ 6 6)) → Z Θ 5 0 0 (zQ Θ ρ) x18_ 73 [(0, .ref (zA Θ 6)), (1, .int left9_), (2, .int round10_), (3, .int goes26_), (4, .int r27_)] [] := by
          intro h33_
          rw [if_neg h33_] at h25_
          cases h25_
          exact K22_
        refine z_iload C 4 dX5_lastOfRounds_25 rfl ?_
        refine z_aload_n C 0 dX5_lastOfRounds_27 rfl rfl ?_
        refine fg5_30 C hkd dX5_lastOfRounds_28 ?_
        refine c_lt_f C 73 dX5_lastOfRounds_31 (by decide) (fun h32_ => ?_) (fun h32_ => ?_)
        · exact K30_ h32_
        · exact K31_ h32_
      obtain ⟨y51_, h52_, h8_⟩ := lt_ h8_
      have h52_ := h52_.symm
      suffices K53_ : Z Θ 5 0 0 (zQ Θ ρ) x18_ 84 [(0, .ref (zA Θ 6)), (1, .int y51_), (2, .int round10_), (3, .int y20_.1)] [] by
        have K54_ : ¬ y20_.1 = (-1) → Z Θ 5 0 0 (zQ Θ ρ) x18_ 78 [(0, .ref (zA Θ 6)), (1, .int left9_), (2, .int round10_), (3, .int y20_.1), (4, .int y20_.2)] [] := by
          intro h57_
          rw [if_pos h57_] at h52_
          refine z_iload_n C 1 dX5_lastOfRounds_78 rfl rfl ?_
          refine z_iload_n C 3 dX5_lastOfRounds_79 rfl rfl ?_
          refine cr5_116 (set_a := left9_) (person_a := y20_.1) C hkd  ⟨(Nat.le_of_ble_eq_true rfl), (Nat.le_of_ble_eq_true rfl)⟩ (Nat.le_of_ble_eq_true rfl) ⟨Nat.zero_le _, Nat.zero_le _⟩ dX5_lastOfRounds_80 ?_
          obtain ⟨left58_, h59_, h52_⟩ := lt_ h52_
          refine z_istN C dX5_lastOfRounds_83 h59_ rfl (Nat.le_of_ble_eq_true rfl) rfl ?_
          subst h52_
          refine Z.sub [1, 0, 2, 3] rfl ?_
          exact K53_
        have K55_ : ¬ (¬ y20_.1 = (-1)) → Z Θ 5 0 0 (zQ Θ ρ) x18_ 84 [(0, .ref (zA Θ 6)), (1, .int left9_), (2, .int round10_), (3, .int y20_.1), (4, .int y20_.2)] [] := by
          intro h57_
          rw [if_neg h57_] at h52_
          subst h52_
          refine Z.sub [0, 1, 2, 3] rfl ?_
          exact K53_
        refine z_iload_n C 3 dX5_lastOfRounds_73 rfl rfl ?_
        refine z_iconst (v := (-1)) C dX5_lastOfRounds_74 ic_m1 ?_
        refine c_ne_f C 84 dX5_lastOfRounds_75 (by decide) (fun h56_ => ?_) (fun h56_ => ?_)
        · exact K54_ h56_
        · exact K55_ h56_
      obtain ⟨round60_, h61_, h8_⟩ := lt_ h8_
      refine z_inc C 2 dX5_lastOfRounds_84 rfl ic_1 h61_ (Nat.le_of_ble_eq_true rfl) rfl ?_
      refine z_goto C 7 dX5_lastOfRounds_87 (by decide) ?_
      refine Z.sub [1, 2, 0] rfl ?_
      exact h7_ _ _ _ h8_
    have K15_ : ¬ (round10_ < (σ11_ 6 8)) → Z Θ 5 0 0 (zQ Θ ρ) σ11_ 90 [(0, .ref (zA Θ 6)), (1, .int left9_), (2, .int round10_)] [] := by
      intro h17_
      rw [if_neg h17_] at h8_
      cases h8_
      exact K5_
    refine z_iload_n C 2 dX5_lastOfRounds_7 rfl rfl ?_
    refine z_aload_n C 0 dX5_lastOfRounds_8 rfl rfl ?_
    refine fg5_37 C hkd dX5_lastOfRounds_9 ?_
    refine c_lt_f C 90 dX5_lastOfRounds_12 (by decide) (fun h16_ => ?_) (fun h16_ => ?_)
    · exact K14_ h16_
    · exact K15_ h16_
  refine z_iload_n C 1 dX5_lastOfRounds_90 rfl rfl ?_
  obtain ⟨x62_, h63_, hf⟩ := ob hf
  refine cr5_119 (set_a := y3_.1) C hkd  h63_ ⟨(Nat.le_of_ble_eq_true rfl), (Nat.le_of_ble_eq_true rfl)⟩ (Nat.le_of_ble_eq_true rfl) ⟨Nat.zero_le _, Nat.zero_le _⟩ dX5_lastOfRounds_91 ?_
  cases hf
  subst hρ
  exact z_iret C dX5_lastOfRounds_94
theorem c5_lastOfRounds {l : Launch} {kd : List KD} {w : Wp} {σ : St} (hkd : kd = kdC) (hi : zI kd w) {r : (Int32 × St)} (hf : q5_lastOfRounds σ = some r) : zM l kd w yX5_lastOfRounds cX5_lastOfRounds 5 (some .int) rm5_lastOfRounds [.ref (w.2.2.1 6)] σ (some (.int r.1), r.2) := zM_of rfl hi (Nat.le_of_ble_eq_true rfl) (fun Θ hl hw C => by
  obtain ⟨Θ1, Θ2, Θ3, Θ4, Θ5⟩ := Θ
  cases hw
  exact p5_lastOfRounds C hkd  hf rfl)
/-! LastLoaf$Poll.winnerBy -/
theorem w_3_153 : Cond.code ({ cls := "LastLoaf$Poll", name := "lastOfRounds", desc := "()I" } : MethodName) prog_7_method_16_code (5 : Nat) (Option.some ClassFile.FieldType.int) ∈ TB := tb_in (lwt_3 (List.mem_of_getElem? (i := 153) (by decide +kernel))) rfl
theorem w_3_150 : Cond.methodLink "LastLoaf$Poll" (86 : Nat) ({ cls := "LastLoaf$Poll", name := "lastOfRounds", desc := "()I" } : MethodName) ∈ TB := tb_in (lwt_3 (List.mem_of_getElem? (i := 150) (by decide +kernel))) rfl
theorem w_3_151 : Cond.instanceMethod ({ cls := "LastLoaf$Poll", name := "lastOfRounds", desc := "()I" } : MethodName) ∈ TB := tb_in (lwt_3 (List.mem_of_getElem? (i := 151) (by decide +kernel))) rfl
theorem w_3_152 : Cond.selects "LastLoaf$Poll" ({ cls := "LastLoaf$Poll", name := "lastOfRounds", desc := "()I" } : MethodName) ({ cls := "LastLoaf$Poll", name := "lastOfRounds", desc := "()I" } : MethodName) ∈ TB := tb_in (lwt_3 (List.mem_of_getElem? (i := 152) (by decide +kernel))) rfl
theorem cr5_86 {Θ : Tz} {cc : ByteArray} {nL kc ks : Nat} {ret : Option FieldType} {rm : Room} {Q : State → Prop} {σ : St} {pc : Nat} {lv : List (Nat × Value)} {st : List Value} (C : Zc Θ cc nL RX5 ret rm) (hkd : Θ.2.2.2.2.1 = kdC) {r : Int32 × St} (hx : q5_lastOfRounds σ = some r) (hrm : rm5_lastOfRounds.frames + 1 ≤ rm.frames ∧ 8 + (5 + 11) + rm5_lastOfRounds.locals ≤ rm.locals) (hcat : (st.map fun v => v.category).sum ≤ 8) (hk : kc ≤ rm.cells ∧ ks ≤ rm.slots) (hd : decode cc pc = .ok (.invokevirtual 86, 3)) (kk : Z Θ nL kc ks Q r.2 (pc + 3) lv (.int r.1 :: st)) : Z Θ nL kc ks Q σ pc lv (.ref (zA Θ 6) :: st) := z_callV C 6 [] (some (.int r.1), r.2) 0 (kC_6 hkd) rfl (c5_lastOfRounds hkd (zc_inj C) hx) w_3_153 w_3_150 w_3_151 w_3_152 w_1_9 ⟨rfl, rfl, hrm.1, hrm.2⟩ (by decide +kernel) rfl rfl hcat hk hd kk
theorem w_3_169 : Cond.code ({ cls := "LastLoaf$Poll", name := "betterOfTwo", desc := "()I" } : MethodName) prog_7_method_17_code (6 : Nat) (Option.some ClassFile.FieldType.int) ∈ TB := tb_in (lwt_3 (List.mem_of_getElem? (i := 169) (by decide +kernel))) rfl
theorem w_3_166 : Cond.methodLink "LastLoaf$Poll" (89 : Nat) ({ cls := "LastLoaf$Poll", name := "betterOfTwo", desc := "()I" } : MethodName) ∈ TB := tb_in (lwt_3 (List.mem_of_getElem? (i := 166) (by decide +kernel))) rfl
theorem w_3_167 : Cond.instanceMethod ({ cls := "LastLoaf$Poll", name := "betterOfTwo", desc := "()I" } : MethodName) ∈ TB := tb_in (lwt_3 (List.mem_of_getElem? (i := 167) (by decide +kernel))) rfl
theorem w_3_168 : Cond.selects "LastLoaf$Poll" ({ cls := "LastLoaf$Poll", name := "betterOfTwo", desc := "()I" } : MethodName) ({ cls := "LastLoaf$Poll", name := "betterOfTwo", desc := "()I" } : MethodName) ∈ TB := tb_in (lwt_3 (List.mem_of_getElem? (i := 168) (by decide +kernel))) rfl
theorem cr5_89 {Θ : Tz} {cc : ByteArray} {nL kc ks : Nat} {ret : Option FieldType} {rm : Room} {Q : State → Prop} {σ : St} {pc : Nat} {lv : List (Nat × Value)} {st : List Value} (C : Zc Θ cc nL RX5 ret rm) (hkd : Θ.2.2.2.2.1 = kdC) {r : Int32 × St} (hx : q5_betterOfTwo σ = some r) (hrm : rm5_betterOfTwo.frames + 1 ≤ rm.frames ∧ 8 + (6 + 11) + rm5_betterOfTwo.locals ≤ rm.locals) (hcat : (st.map fun v => v.category).sum ≤ 8) (hk : kc ≤ rm.cells ∧ ks ≤ rm.slots) (hd : decode cc pc = .ok (.invokevirtual 89, 3)) (kk : Z Θ nL kc ks Q r.2 (pc + 3) lv (.int r.1 :: st)) : Z Θ nL kc ks Q σ pc lv (.ref (zA Θ 6) :: st) := z_callV C 6 [] (some (.int r.1), r.2) 0 (kC_6 hkd) rfl (c5_betterOfTwo hkd (zc_inj C) hx) w_3_169 w_3_166 w_3_167 w_3_168 w_1_9 ⟨rfl, rfl, hrm.1, hrm.2⟩ (by decide +kernel) rfl rfl hcat hk hd kk
theorem w_3_181 : Cond.code ({ cls := "LastLoaf$Poll", name := "countLast", desc := "()V" } : MethodName) prog_7_method_13_code (3 : Nat) (Option.none : Option ClassFile.FieldType) ∈ TB := tb_in (lwt_3 (List.mem_of_getElem? (i := 181) (by decide +kernel))) rfl
theorem w_3_178 : Cond.methodLink "LastLoaf$Poll" (95 : Nat) ({ cls := "LastLoaf$Poll", name := "countLast", desc := "()V" } : MethodName) ∈ TB := tb_in (lwt_3 (List.mem_of_getElem? (i := 178) (by decide +kernel))) rfl
theorem w_3_179 : Cond.instanceMethod ({ cls := "LastLoaf$Poll", name := "countLast", desc := "()V" } : MethodName) ∈ TB := tb_in (lwt_3 (List.mem_of_getElem? (i := 179) (by decide +kernel))) rfl
theorem w_3_180 : Cond.selects "LastLoaf$Poll" ({ cls := "LastLoaf$Poll", name := "countLast", desc := "()V" } : MethodName) ({ cls := "LastLoaf$Poll", name := "countLast", desc := "()V" } : MethodName) ∈ TB := tb_in (lwt_3 (List.mem_of_getElem? (i := 180) (by decide +kernel))) rfl
theorem cr5_95 {Θ : Tz} {cc : ByteArray} {nL kc ks : Nat} {ret : Option FieldType} {rm : Room} {Q : State → Prop} {σ : St} {pc : Nat} {lv : List (Nat × Value)} {st : List Value} (C : Zc Θ cc nL RX5 ret rm) (hkd : Θ.2.2.2.2.1 = kdC) {r : St} (hx : q5_countLast σ = some r) (hrm : rm5_countLast.frames + 1 ≤ rm.frames ∧ 8 + (3 + 11) + rm5_countLast.locals ≤ rm.locals) (hcat : (st.map fun v => v.category).sum ≤ 8) (hk : kc ≤ rm.cells ∧ ks ≤ rm.slots) (hd : decode cc pc = .ok (.invokevirtual 95, 3)) (kk : Z Θ nL kc ks Q r (pc + 3) lv st) : Z Θ nL kc ks Q σ pc lv (.ref (zA Θ 6) :: st) := z_callV C 6 [] (none, r) 0 (kC_6 hkd) rfl (c5_countLast hkd (zc_inj C) hx) w_3_181 w_3_178 w_3_179 w_3_180 w_1_9 ⟨rfl, rfl, hrm.1, hrm.2⟩ (by decide +kernel) rfl rfl hcat hk hd kk
theorem w_3_189 : Cond.code ({ cls := "LastLoaf$Poll", name := "countPoints", desc := "()V" } : MethodName) prog_7_method_14_code (2 : Nat) (Option.none : Option ClassFile.FieldType) ∈ TB := tb_in (lwt_3 (List.mem_of_getElem? (i := 189) (by decide +kernel))) rfl
theorem w_3_186 : Cond.methodLink "LastLoaf$Poll" (98 : Nat) ({ cls := "LastLoaf$Poll", name := "countPoints", desc := "()V" } : MethodName) ∈ TB := tb_in (lwt_3 (List.mem_of_getElem? (i := 186) (by decide +kernel))) rfl
theorem w_3_187 : Cond.instanceMethod ({ cls := "LastLoaf$Poll", name := "countPoints", desc := "()V" } : MethodName) ∈ TB := tb_in (lwt_3 (List.mem_of_getElem? (i := 187) (by decide +kernel))) rfl
theorem w_3_188 : Cond.selects "LastLoaf$Poll" ({ cls := "LastLoaf$Poll", name := "countPoints", desc := "()V" } : MethodName) ({ cls := "LastLoaf$Poll", name := "countPoints", desc := "()V" } : MethodName) ∈ TB := tb_in (lwt_3 (List.mem_of_getElem? (i := 188) (by decide +kernel))) rfl
theorem cr5_98 {Θ : Tz} {cc : ByteArray} {nL kc ks : Nat} {ret : Option FieldType} {rm : Room} {Q : State → Prop} {σ : St} {pc : Nat} {lv : List (Nat × Value)} {st : List Value} (C : Zc Θ cc nL RX5 ret rm) (hkd : Θ.2.2.2.2.1 = kdC) {r : St} (hx : q5_countPoints σ = some r) (hrm : rm5_countPoints.frames + 1 ≤ rm.frames ∧ 8 + (2 + 11) + rm5_countPoints.locals ≤ rm.locals) (hcat : (st.map fun v => v.category).sum ≤ 8) (hk : kc ≤ rm.cells ∧ ks ≤ rm.slots) (hd : decode cc pc = .ok (.invokevirtual 98, 3)) (kk : Z Θ nL kc ks Q r (pc + 3) lv st) : Z Θ nL kc ks Q σ pc lv (.ref (zA Θ 6) :: st) := z_callV C 6 [] (none, r) 0 (kC_6 hkd) rfl (c5_countPoints hkd (zc_inj C) hx) w_3_189 w_3_186 w_3_187 w_3_188 w_1_9 ⟨rfl, rfl, hrm.1, hrm.2⟩ (by decide +kernel) rfl rfl hcat hk hd kk
theorem w_3_197 : Cond.code ({ cls := "LastLoaf$Poll", name := "countDuels", desc := "()V" } : MethodName) prog_7_method_15_code (3 : Nat) (Option.none : Option ClassFile.FieldType) ∈ TB := tb_in (lwt_3 (List.mem_of_getElem? (i := 197) (by decide +kernel))) rfl
theorem w_3_194 : Cond.methodLink "LastLoaf$Poll" (101 : Nat) ({ cls := "LastLoaf$Poll", name := "countDuels", desc := "()V" } : MethodName) ∈ TB := tb_in (lwt_3 (List.mem_of_getElem? (i := 194) (by decide +kernel))) rfl
theorem w_3_195 : Cond.instanceMethod ({ cls := "LastLoaf$Poll", name := "countDuels", desc := "()V" } : MethodName) ∈ TB := tb_in (lwt_3 (List.mem_of_getElem? (i := 195) (by decide +kernel))) rfl
theorem w_3_196 : Cond.selects "LastLoaf$Poll" ({ cls := "LastLoaf$Poll", name := "countDuels", desc := "()V" } : MethodName) ({ cls := "LastLoaf$Poll", name := "countDuels", desc := "()V" } : MethodName) ∈ TB := tb_in (lwt_3 (List.mem_of_getElem? (i := 196) (by decide +kernel))) rfl
theorem cr5_101 {Θ : Tz} {cc : ByteArray} {nL kc ks : Nat} {ret : Option FieldType} {rm : Room} {Q : State → Prop} {σ : St} {pc : Nat} {lv : List (Nat × Value)} {st : List Value} (C : Zc Θ cc nL RX5 ret rm) (hkd : Θ.2.2.2.2.1 = kdC) {r : St} (hx : q5_countDuels σ = some r) (hrm : rm5_countDuels.frames + 1 ≤ rm.frames ∧ 8 + (3 + 11) + rm5_countDuels.locals ≤ rm.locals) (hcat : (st.map fun v => v.category).sum ≤ 8) (hk : kc ≤ rm.cells ∧ ks ≤ rm.slots) (hd : decode cc pc = .ok (.invokevirtual 101, 3)) (kk : Z Θ nL kc ks Q r (pc + 3) lv st) : Z Θ nL kc ks Q σ pc lv (.ref (zA Θ 6) :: st) := z_callV C 6 [] (none, r) 0 (kC_6 hkd) rfl (c5_countDuels hkd (zc_inj C) hx) w_3_197 w_3_194 w_3_195 w_3_196 w_1_9 ⟨rfl, rfl, hrm.1, hrm.2⟩ (by decide +kernel) rfl rfl hcat hk hd kk
theorem dX5_winnerBy_0 : decode cX5_winnerBy 0 = .ok (.iload_n 1, 1) := by decide +kernel
theorem dX5_winnerBy_1 : decode cX5_winnerBy 1 = .ok (.iconst 4, 1) := by decide +kernel
theorem dX5_winnerBy_2 : decode cX5_winnerBy 2 = .ok (.if_icmp .ne 8, 3) := by decide +kernel
theorem dX5_winnerBy_5 : decode cX5_winnerBy 5 = .ok (.aload_n 0, 1) := by decide +kernel
theorem dX5_winnerBy_6 : decode cX5_winnerBy 6 = .ok (.invokevirtual 86, 3) := by decide +kernel
theorem dX5_winnerBy_9 : decode cX5_winnerBy 9 = .ok (.ireturn, 1) := by decide +kernel
theorem dX5_winnerBy_10 : decode cX5_winnerBy 10 = .ok (.iload_n 1, 1) := by decide +kernel
theorem dX5_winnerBy_11 : decode cX5_winnerBy 11 = .ok (.iconst 5, 1) := by decide +kernel
theorem dX5_winnerBy_12 : decode cX5_winnerBy 12 = .ok (.if_icmp .ne 8, 3) := by decide +kernel
theorem dX5_winnerBy_15 : decode cX5_winnerBy 15 = .ok (.aload_n 0, 1) := by decide +kernel
theorem dX5_winnerBy_16 : decode cX5_winnerBy 16 = .ok (.invokevirtual 89, 3) := by decide +kernel
theorem dX5_winnerBy_19 : decode cX5_winnerBy 19 = .ok (.ireturn, 1) := by decide +kernel
theorem dX5_winnerBy_20 : decode cX5_winnerBy 20 = .ok (.iload_n 1, 1) := by decide +kernel
theorem dX5_winnerBy_21 : decode cX5_winnerBy 21 = .ok (.tableswitch 52 0 2 #[27, 38, 45], 27) := by decide +kernel
theorem dX5_winnerBy_48 : decode cX5_winnerBy 48 = .ok (.aload_n 0, 1) := by decide +kernel
theorem dX5_winnerBy_49 : decode cX5_winnerBy 49 = .ok (.aload_n 0, 1) := by decide +kernel
theorem dX5_winnerBy_50 : decode cX5_winnerBy 50 = .ok (.getfield 34, 3) := by decide +kernel
theorem dX5_winnerBy_53 : decode cX5_winnerBy 53 = .ok (.invokevirtual 92, 3) := by decide +kernel
theorem dX5_winnerBy_56 : decode cX5_winnerBy 56 = .ok (.goto 21, 3) := by decide +kernel
theorem dX5_winnerBy_59 : decode cX5_winnerBy 59 = .ok (.aload_n 0, 1) := by decide +kernel
theorem dX5_winnerBy_60 : decode cX5_winnerBy 60 = .ok (.invokevirtual 95, 3) := by decide +kernel
theorem dX5_winnerBy_63 : decode cX5_winnerBy 63 = .ok (.goto 14, 3) := by decide +kernel
theorem dX5_winnerBy_66 : decode cX5_winnerBy 66 = .ok (.aload_n 0, 1) := by decide +kernel
theorem dX5_winnerBy_67 : decode cX5_winnerBy 67 = .ok (.invokevirtual 98, 3) := by decide +kernel
theorem dX5_winnerBy_70 : decode cX5_winnerBy 70 = .ok (.goto 7, 3) := by decide +kernel
theorem dX5_winnerBy_73 : decode cX5_winnerBy 73 = .ok (.aload_n 0, 1) := by decide +kernel
theorem dX5_winnerBy_74 : decode cX5_winnerBy 74 = .ok (.invokevirtual 101, 3) := by decide +kernel
theorem dX5_winnerBy_77 : decode cX5_winnerBy 77 = .ok (.aload_n 0, 1) := by decide +kernel
theorem dX5_winnerBy_78 : decode cX5_winnerBy 78 = .ok (.aload_n 0, 1) := by decide +kernel
theorem dX5_winnerBy_79 : decode cX5_winnerBy 79 = .ok (.getfield 34, 3) := by decide +kernel
theorem dX5_winnerBy_82 : decode cX5_winnerBy 82 = .ok (.invokevirtual 104, 3) := by decide +kernel
theorem dX5_winnerBy_85 : decode cX5_winnerBy 85 = .ok (.ireturn, 1) := by decide +kernel
def q5_winnerBy (σ : St) (way_a : Int32) : Option (Int32 × St) :=
  if way_a = 4 then (Option.bind (q5_lastOfRounds σ) fun x5_ =>
  some (x5_.1, x5_.2)) else
  if way_a = 5 then (Option.bind (q5_betterOfTwo σ) fun x11_ =>
  some (x11_.1, x11_.2)) else
  Option.bind (
  if way_a = 0 then (Option.bind (q5_countFirst σ (σ 6 7)) fun x16_ =>
  some (x16_)) else
  if way_a = 1 then (Option.bind (q5_countLast σ) fun x18_ =>
  some (x18_)) else
  if way_a = 2 then (Option.bind (q5_countPoints σ) fun x20_ =>
  some (x20_)) else
  Option.bind (q5_countDuels σ) fun x22_ =>
  some (x22_)) fun y13_ =>
  Option.bind (q5_greatest y13_ (y13_ 6 7)) fun x27_ =>
  some (x27_, y13_)
abbrev rm5_winnerBy : Room := { frames := 3, cells := 0, slots := 0, locals := 72 }
set_option maxHeartbeats 4000000 in
set_option maxRecDepth 100000 in
theorem p5_winnerBy {Θ : Tz} {σ : St} {ρ : Option Value × St} (C : Zc Θ cX5_winnerBy 2 RX5 (some .int) rm5_winnerBy) (hkd : Θ.2.2.2.2.1 = kdC) {way_a : Int32} {r : (Int32 × St)} (hf : q5_winnerBy σ way_a = some r) (hρ : ρ = (some (.int r.1), r.2)) : Z Θ 2 0 0 (zQ Θ ρ) σ 0 [(0, .ref (zA Θ 6)), (1, .int way_a)] [] := by
  unfold q5_winnerBy at hf
  have K1_ : way_a = 4 → Z Θ 2 0 0 (zQ Θ ρ) σ 5 [(0, .ref (zA Θ 6)), (1, .int way_a)] [] := by
    intro h4_
    rw [if_pos h4_] at hf
    refine z_aload_n C 0 dX5_winnerBy_5 rfl rfl ?_
    obtain ⟨x5_, h6_, hf⟩ := ob hf
    refine cr5_86 C hkd  h6_ ⟨(Nat.le_of_ble_eq_true rfl), (Nat.le_of_ble_eq_true rfl)⟩ (Nat.le_of_ble_eq_true rfl) ⟨Nat.zero_le _, Nat.zero_le _⟩ dX5_winnerBy_6 ?_
    cases hf
    subst hρ
    exact z_iret C dX5_winnerBy_9
  suffices K2_ : ¬ (way_a = 4) → Z Θ 2 0 0 (zQ Θ ρ) σ 10 [(0, .ref (zA Θ 6)), (1, .int way_a)] [] by
    refine z_iload_n C 1 dX5_winnerBy_0 rfl rfl ?_
    refine z_iconst (v := 4) C dX5_winnerBy_1 ic_4 ?_
    refine c_eq_f C 10 dX5_winnerBy_2 (by decide) (fun h3_ => ?_) (fun h3_ => ?_)
    · exact K1_ h3_
    · exact K2_ h3_
  intro h4_
  rw [if_neg h4_] at hf
  have K7_ : way_a = 5 → Z Θ 2 0 0 (zQ Θ ρ) σ 15 [(0, .ref (zA Θ 6)), (1, .int way_a)] [] := by
    intro h10_
    rw [if_pos h10_] at hf
    refine z_aload_n C 0 dX5_winnerBy_15 rfl rfl ?_
    obtain ⟨x11_, h12_, hf⟩ := ob hf
    refine cr5_89 C hkd  h12_ ⟨(Nat.le_of_ble_eq_true rfl), (Nat.le_of_ble_eq_true rfl)⟩ (Nat.le_of_ble_eq_true rfl) ⟨Nat.zero_le _, Nat.zero_le _⟩ dX5_winnerBy_16 ?_
    cases hf
    subst hρ
    exact z_iret C dX5_winnerBy_19
  suffices K8_ : ¬ (way_a = 5) → Z Θ 2 0 0 (zQ Θ ρ) σ 20 [(0, .ref (zA Θ 6)), (1, .int way_a)] [] by
    refine z_iload_n C 1 dX5_winnerBy_10 rfl rfl ?_
    refine z_iconst (v := 5) C dX5_winnerBy_11 ic_5 ?_
    refine c_eq_f C 20 dX5_winnerBy_12 (by decide) (fun h9_ => ?_) (fun h9_ => ?_)
    · exact K7_ h9_
    · exact K8_ h9_
  intro h10_
  rw [if_neg h10_] at hf
  refine z_iload_n C 1 dX5_winnerBy_20 rfl rfl ?_
  obtain ⟨y13_, h14_, hf⟩ := ob hf
  suffices K15_ : Z Θ 2 0 0 (zQ Θ ρ) y13_ 77 [(0, .ref (zA Θ 6)), (1, .int way_a)] [] by
    by_cases h24_ : way_a = 0
    · rw [if_pos h24_] at h14_
      refine z_tswIn (off := 27) C 48 dX5_winnerBy_21 (by rw [h24_]; decide) (by rw [h24_]; decide) (by rw [h24_]; decide) (by decide) ?_
      refine z_aload_n C 0 dX5_winnerBy_48 rfl rfl ?_
      refine z_aload_n C 0 dX5_winnerBy_49 rfl rfl ?_
      refine fg5_34 C hkd dX5_winnerBy_50 ?_
      obtain ⟨x16_, h17_, h14_⟩ := ob h14_
      refine cr5_92 (among_a := (σ 6 7)) C hkd  h17_ ⟨(Nat.le_of_ble_eq_true rfl), (Nat.le_of_ble_eq_true rfl)⟩ (Nat.le_of_ble_eq_true rfl) ⟨Nat.zero_le _, Nat.zero_le _⟩ dX5_winnerBy_53 ?_
      refine z_goto C 77 dX5_winnerBy_56 (by decide) ?_
      cases h14_
      exact K15_
    rw [if_neg h24_] at h14_
    by_cases h25_ : way_a = 1
    · rw [if_pos h25_] at h14_
      refine z_tswIn (off := 38) C 59 dX5_winnerBy_21 (by rw [h25_]; decide) (by rw [h25_]; decide) (by rw [h25_]; decide) (by decide) ?_
      refine z_aload_n C 0 dX5_winnerBy_59 rfl rfl ?_
      obtain ⟨x18_, h19_, h14_⟩ := ob h14_
      refine cr5_95 C hkd  h19_ ⟨(Nat.le_of_ble_eq_true rfl), (Nat.le_of_ble_eq_true rfl)⟩ (Nat.le_of_ble_eq_true rfl) ⟨Nat.zero_le _, Nat.zero_le _⟩ dX5_winnerBy_60 ?_
      refine z_goto C 77 dX5_winnerBy_63 (by decide) ?_
      cases h14_
      exact K15_
    rw [if_neg h25_] at h14_
    by_cases h26_ : way_a = 2
    · rw [if_pos h26_] at h14_
      refine z_tswIn (off := 45) C 66 dX5_winnerBy_21 (by rw [h26_]; decide) (by rw [h26_]; decide) (by rw [h26_]; decide) (by decide) ?_
      refine z_aload_n C 0 dX5_winnerBy_66 rfl rfl ?_
      obtain ⟨x20_, h21_, h14_⟩ := ob h14_
      refine cr5_98 C hkd  h21_ ⟨(Nat.le_of_ble_eq_true rfl), (Nat.le_of_ble_eq_true rfl)⟩ (Nat.le_of_ble_eq_true rfl) ⟨Nat.zero_le _, Nat.zero_le _⟩ dX5_winnerBy_67 ?_
      refine z_goto C 77 dX5_winnerBy_70 (by decide) ?_
      cases h14_
      exact K15_
    rw [if_neg h26_] at h14_
    refine z_tswOut C 73 dX5_winnerBy_21 (sw_out2 (x := way_a) _ _ 0 2 (by decide) (by decide) (by decide) (fun j9 hj9 => by (have q8 : j9 = 0 ∨ j9 = 1 ∨ j9 = 2 := by omega); rcases q8 with rfl | rfl | rfl <;> first | exact h24_ | exact h25_ | exact h26_)) (by decide) ?_
    refine z_aload_n C 0 dX5_winnerBy_73 rfl rfl ?_
    obtain ⟨x22_, h23_, h14_⟩ := ob h14_
    refine cr5_101 C hkd  h23_ ⟨(Nat.le_of_ble_eq_true rfl), (Nat.le_of_ble_eq_true rfl)⟩ (Nat.le_of_ble_eq_true rfl) ⟨Nat.zero_le _, Nat.zero_le _⟩ dX5_winnerBy_74 ?_
    cases h14_
    exact K15_
  refine z_aload_n C 0 dX5_winnerBy_77 rfl rfl ?_
  refine z_aload_n C 0 dX5_winnerBy_78 rfl rfl ?_
  refine fg5_34 C hkd dX5_winnerBy_79 ?_
  obtain ⟨x27_, h28_, hf⟩ := ob hf
  refine cr5_104 (among_a := (y13_ 6 7)) C hkd  h28_ ⟨(Nat.le_of_ble_eq_true rfl), (Nat.le_of_ble_eq_true rfl)⟩ (Nat.le_of_ble_eq_true rfl) ⟨Nat.zero_le _, Nat.zero_le _⟩ dX5_winnerBy_82 ?_
  cases hf
  subst hρ
  exact z_iret C dX5_winnerBy_85
theorem c5_winnerBy {l : Launch} {kd : List KD} {w : Wp} {σ : St} {way_a : Int32} (hkd : kd = kdC) (hi : zI kd w) {r : (Int32 × St)} (hf : q5_winnerBy σ way_a = some r) : zM l kd w yX5_winnerBy cX5_winnerBy 2 (some .int) rm5_winnerBy [.ref (w.2.2.1 6), .int way_a] σ (some (.int r.1), r.2) := zM_of rfl hi (Nat.le_of_ble_eq_true rfl) (fun Θ hl hw C => by
  obtain ⟨Θ1, Θ2, Θ3, Θ4, Θ5⟩ := Θ
  cases hw
  exact p5_winnerBy C hkd  hf rfl)
/-! LastLoaf$Baker.giveLastLoaf -/
theorem w_2_81 : Cond.fieldLink "LastLoaf$Baker" (9 : Nat) "LastLoaf$Baker" "poll" "LLastLoaf$Poll;" ∈ TB := tb_in (lwt_2 (List.mem_of_getElem? (i := 81) (by decide +kernel))) rfl
theorem fg0_9 {Θ : Tz} {cc : ByteArray} {nL kc ks : Nat} {ret : Option FieldType} {rm : Room} {Q : State → Prop} {σ : St} {pc : Nat} {lv : List (Nat × Value)} {st : List Value} (C : Zc Θ cc nL RX0 ret rm) (hkd : Θ.2.2.2.2.1 = kdC) (hd : decode cc pc = .ok (.getfield 9, 3)) (kk : Z Θ nL kc ks Q σ (pc + 3) lv (.ref (zA Θ 6) :: st)) : Z Θ nL kc ks Q σ pc lv (.ref (zA Θ 13) :: st) := z_get C inT0 13 (kC_13 hkd) rfl 0 (by decide) w_2_81 rfl hd kk
theorem w_2_82 : Cond.fieldLink "LastLoaf$Baker" (15 : Nat) "LastLoaf$Baker" "law" "LLastLoaf$Law;" ∈ TB := tb_in (lwt_2 (List.mem_of_getElem? (i := 82) (by decide +kernel))) rfl
theorem fg0_15 {Θ : Tz} {cc : ByteArray} {nL kc ks : Nat} {ret : Option FieldType} {rm : Room} {Q : State → Prop} {σ : St} {pc : Nat} {lv : List (Nat × Value)} {st : List Value} (C : Zc Θ cc nL RX0 ret rm) (hkd : Θ.2.2.2.2.1 = kdC) (hd : decode cc pc = .ok (.getfield 15, 3)) (kk : Z Θ nL kc ks Q σ (pc + 3) lv (.ref (zA Θ 32) :: st)) : Z Θ nL kc ks Q σ pc lv (.ref (zA Θ 13) :: st) := z_get C inT0 13 (kC_13 hkd) rfl 1 (by decide) w_2_82 rfl hd kk
theorem w_3_145 : Cond.methodLink "LastLoaf$Baker" (74 : Nat) ({ cls := "LastLoaf$Poll", name := "hold", desc := "(LLastLoaf$Village;LLastLoaf$Law;)V" } : MethodName) ∈ TB := tb_in (lwt_3 (List.mem_of_getElem? (i := 145) (by decide +kernel))) rfl
theorem cr0_74 {Θ : Tz} {cc : ByteArray} {nL kc ks : Nat} {ret : Option FieldType} {rm : Room} {Q : State → Prop} {σ : St} {pc : Nat} {lv : List (Nat × Value)} {st : List Value} (C : Zc Θ cc nL RX0 ret rm) (hkd : Θ.2.2.2.2.1 = kdC) {village_a : Nat} {law_a : Nat} (h_village : isV village_a) (h_law : isLaw law_a) {r : St} (hx : q5_hold σ village_a law_a = some r) (hrm : rm5_hold.frames + 1 ≤ rm.frames ∧ 8 + (5 + 11) + rm5_hold.locals ≤ rm.locals) (hcat : (st.map fun v => v.category).sum ≤ 8) (hk : kc ≤ rm.cells ∧ ks ≤ rm.slots) (hd : decode cc pc = .ok (.invokevirtual 74, 3)) (kk : Z Θ nL kc ks Q r (pc + 3) lv st) : Z Θ nL kc ks Q σ pc lv (.ref (zA Θ law_a) :: .ref (zA Θ village_a) :: .ref (zA Θ 6) :: st) := z_callV C 6 [.ref (zA Θ village_a), .ref (zA Θ law_a)] (none, r) 2 (kC_6 hkd) rfl (c5_hold (village_a := village_a) (law_a := law_a) hkd (zc_inj C) h_village h_law hx) w_3_23 w_3_145 w_3_21 w_3_22 w_1_9 ⟨rfl, rfl, hrm.1, hrm.2⟩ (by decide +kernel) rfl rfl hcat hk hd kk
theorem w_1_154 : Cond.fieldLink "LastLoaf$Baker" (80 : Nat) "LastLoaf$Village" "way" "I" ∈ TB := tb_in (lwt_1 (List.mem_of_getElem? (i := 154) (by decide +kernel))) rfl
theorem fg0_80 {Θ : Tz} {cc : ByteArray} {nL kc ks : Nat} {ret : Option FieldType} {rm : Room} {Q : State → Prop} {σ : St} {pc : Nat} {lv : List (Nat × Value)} {st : List Value} (C : Zc Θ cc nL RX0 ret rm) (hkd : Θ.2.2.2.2.1 = kdC) {th : Nat} (hth : isV th) (hd : decode cc pc = .ok (.getfield 80, 3)) (kk : Z Θ nL kc ks Q σ (pc + 3) lv (.int (σ th 13) :: st)) : Z Θ nL kc ks Q σ pc lv (.ref (zA Θ th) :: st) := z_get C inT10 th (kV_0 hkd hth) rfl 13 (by decide) w_1_154 rfl hd kk
theorem w_3_149 : Cond.code ({ cls := "LastLoaf$Poll", name := "winnerBy", desc := "(I)I" } : MethodName) prog_7_method_10_code (2 : Nat) (Option.some ClassFile.FieldType.int) ∈ TB := tb_in (lwt_3 (List.mem_of_getElem? (i := 149) (by decide +kernel))) rfl
theorem w_3_146 : Cond.methodLink "LastLoaf$Baker" (83 : Nat) ({ cls := "LastLoaf$Poll", name := "winnerBy", desc := "(I)I" } : MethodName) ∈ TB := tb_in (lwt_3 (List.mem_of_getElem? (i := 146) (by decide +kernel))) rfl
theorem w_3_147 : Cond.instanceMethod ({ cls := "LastLoaf$Poll", name := "winnerBy", desc := "(I)I" } : MethodName) ∈ TB := tb_in (lwt_3 (List.mem_of_getElem? (i := 147) (by decide +kernel))) rfl
theorem w_3_148 : Cond.selects "LastLoaf$Poll" ({ cls := "LastLoaf$Poll", name := "winnerBy", desc := "(I)I" } : MethodName) ({ cls := "LastLoaf$Poll", name := "winnerBy", desc := "(I)I" } : MethodName) ∈ TB := tb_in (lwt_3 (List.mem_of_getElem? (i := 148) (by decide +kernel))) rfl
theorem cr0_83 {Θ : Tz} {cc : ByteArray} {nL kc ks : Nat} {ret : Option FieldType} {rm : Room} {Q : State → Prop} {σ : St} {pc : Nat} {lv : List (Nat × Value)} {st : List Value} (C : Zc Θ cc nL RX0 ret rm) (hkd : Θ.2.2.2.2.1 = kdC) {way_a : Int32} {r : Int32 × St} (hx : q5_winnerBy σ way_a = some r) (hrm : rm5_winnerBy.frames + 1 ≤ rm.frames ∧ 8 + (2 + 11) + rm5_winnerBy.locals ≤ rm.locals) (hcat : (st.map fun v => v.category).sum ≤ 8) (hk : kc ≤ rm.cells ∧ ks ≤ rm.slots) (hd : decode cc pc = .ok (.invokevirtual 83, 3)) (kk : Z Θ nL kc ks Q r.2 (pc + 3) lv (.int r.1 :: st)) : Z Θ nL kc ks Q σ pc lv (.int way_a :: .ref (zA Θ 6) :: st) := z_callV C 6 [.int way_a] (some (.int r.1), r.2) 1 (kC_6 hkd) rfl (c5_winnerBy (way_a := way_a) hkd (zc_inj C) hx) w_3_149 w_3_146 w_3_147 w_3_148 w_1_9 ⟨rfl, rfl, hrm.1, hrm.2⟩ (by decide +kernel) rfl rfl hcat hk hd kk
theorem w_1_109 : Cond.fieldLink "LastLoaf$Baker" (87 : Nat) "LastLoaf$Village" "run" "[I" ∈ TB := tb_in (lwt_1 (List.mem_of_getElem? (i := 109) (by decide +kernel))) rfl
theorem fg0_87 {Θ : Tz} {cc : ByteArray} {nL kc ks : Nat} {ret : Option FieldType} {rm : Room} {Q : State → Prop} {σ : St} {pc : Nat} {lv : List (Nat × Value)} {st : List Value} (C : Zc Θ cc nL RX0 ret rm) (hkd : Θ.2.2.2.2.1 = kdC) {th : Nat} (hth : isV th) (hd : decode cc pc = .ok (.getfield 87, 3)) (kk : Z Θ nL kc ks Q σ (pc + 3) lv (.ref (zA Θ (th + 5)) :: st)) : Z Θ nL kc ks Q σ pc lv (.ref (zA Θ th) :: st) := z_get C inT10 th (kV_0 hkd hth) rfl 4 (by decide) w_1_109 rfl hd kk
theorem w_3_198 : Cond.methodLink "LastLoaf$Baker" (90 : Nat) ({ cls := "LastLoaf$Village", name := "runners", desc := "()I" } : MethodName) ∈ TB := tb_in (lwt_3 (List.mem_of_getElem? (i := 198) (by decide +kernel))) rfl
theorem cr0_90 {Θ : Tz} {cc : ByteArray} {nL kc ks : Nat} {ret : Option FieldType} {rm : Room} {Q : State → Prop} {σ : St} {pc : Nat} {lv : List (Nat × Value)} {st : List Value} (C : Zc Θ cc nL RX0 ret rm) (hkd : Θ.2.2.2.2.1 = kdC) {th : Nat} (hth : isV th) (hrm : rm10_runners.frames + 1 ≤ rm.frames ∧ 8 + (1 + 11) + rm10_runners.locals ≤ rm.locals) (hcat : (st.map fun v => v.category).sum ≤ 8) (hk : kc ≤ rm.cells ∧ ks ≤ rm.slots) (hd : decode cc pc = .ok (.invokevirtual 90, 3)) (kk : Z Θ nL kc ks Q σ (pc + 3) lv (.int (q10_runners σ th) :: st)) : Z Θ nL kc ks Q σ pc lv (.ref (zA Θ th) :: st) := z_callV C th [] (some (.int (q10_runners σ th)), σ) 0 (kV_0 hkd hth) rfl (c10_runners (th := th) hkd (zc_inj C) hth) w_3_27 w_3_198 w_3_25 w_3_26 w_1_3 ⟨rfl, rfl, hrm.1, hrm.2⟩ (by decide +kernel) rfl rfl hcat hk hd kk
theorem w_1_105 : Cond.fieldLink "LastLoaf$Baker" (94 : Nat) "LastLoaf$Village" "had" "[I" ∈ TB := tb_in (lwt_1 (List.mem_of_getElem? (i := 105) (by decide +kernel))) rfl
theorem fg0_94 {Θ : Tz} {cc : ByteArray} {nL kc ks : Nat} {ret : Option FieldType} {rm : Room} {Q : State → Prop} {σ : St} {pc : Nat} {lv : List (Nat × Value)} {st : List Value} (C : Zc Θ cc nL RX0 ret rm) (hkd : Θ.2.2.2.2.1 = kdC) {th : Nat} (hth : isV th) (hd : decode cc pc = .ok (.getfield 94, 3)) (kk : Z Θ nL kc ks Q σ (pc + 3) lv (.ref (zA Θ (th + 4)) :: st)) : Z Θ nL kc ks Q σ pc lv (.ref (zA Θ th) :: st) := z_get C inT10 th (kV_0 hkd hth) rfl 3 (by decide) w_1_105 rfl hd kk
theorem w_3_128 : Cond.methodLink "LastLoaf$Baker" (38 : Nat) ({ cls := "java/lang/Math", name := "min", desc := "(II)I" } : MethodName) ∈ TB := tb_in (lwt_3 (List.mem_of_getElem? (i := 128) (by decide +kernel))) rfl
theorem w_1_121 : Cond.fieldLink "LastLoaf$Baker" (97 : Nat) "LastLoaf$Village" "rows" "LLastLoaf$Log;" ∈ TB := tb_in (lwt_1 (List.mem_of_getElem? (i := 121) (by decide +kernel))) rfl
theorem fg0_97 {Θ : Tz} {cc : ByteArray} {nL kc ks : Nat} {ret : Option FieldType} {rm : Room} {Q : State → Prop} {σ : St} {pc : Nat} {lv : List (Nat × Value)} {st : List Value} (C : Zc Θ cc nL RX0 ret rm) (hkd : Θ.2.2.2.2.1 = kdC) {th : Nat} (hth : isV th) (hd : decode cc pc = .ok (.getfield 97, 3)) (kk : Z Θ nL kc ks Q σ (pc + 3) lv (.ref (zA Θ (th + 8)) :: st)) : Z Θ nL kc ks Q σ pc lv (.ref (zA Θ th) :: st) := z_get C inT10 th (kV_0 hkd hth) rfl 7 (by decide) w_1_121 rfl hd kk
theorem w_1_148 : Cond.fieldLink "LastLoaf$Baker" (19 : Nat) "LastLoaf$Village" "week" "I" ∈ TB := tb_in (lwt_1 (List.mem_of_getElem? (i := 148) (by decide +kernel))) rfl
theorem fg0_19 {Θ : Tz} {cc : ByteArray} {nL kc ks : Nat} {ret : Option FieldType} {rm : Room} {Q : State → Prop} {σ : St} {pc : Nat} {lv : List (Nat × Value)} {st : List Value} (C : Zc Θ cc nL RX0 ret rm) (hkd : Θ.2.2.2.2.1 = kdC) {th : Nat} (hth : isV th) (hd : decode cc pc = .ok (.getfield 19, 3)) (kk : Z Θ nL kc ks Q σ (pc + 3) lv (.int (σ th 12) :: st)) : Z Θ nL kc ks Q σ pc lv (.ref (zA Θ th) :: st) := z_get C inT10 th (kV_0 hkd hth) rfl 12 (by decide) w_1_148 rfl hd kk
theorem w_3_199 : Cond.methodLink "LastLoaf$Baker" (101 : Nat) ({ cls := "LastLoaf$Poll", name := "votesOf", desc := "(I)I" } : MethodName) ∈ TB := tb_in (lwt_3 (List.mem_of_getElem? (i := 199) (by decide +kernel))) rfl
theorem cr0_101 {Θ : Tz} {cc : ByteArray} {nL kc ks : Nat} {ret : Option FieldType} {rm : Room} {Q : State → Prop} {σ : St} {pc : Nat} {lv : List (Nat × Value)} {st : List Value} (C : Zc Θ cc nL RX0 ret rm) (hkd : Θ.2.2.2.2.1 = kdC) {person_a : Int32} {r : Int32} (hx : q5_votesOf σ person_a = some r) (hrm : rm5_votesOf.frames + 1 ≤ rm.frames ∧ 8 + (4 + 11) + rm5_votesOf.locals ≤ rm.locals) (hcat : (st.map fun v => v.category).sum ≤ 8) (hk : kc ≤ rm.cells ∧ ks ≤ rm.slots) (hd : decode cc pc = .ok (.invokevirtual 101, 3)) (kk : Z Θ nL kc ks Q σ (pc + 3) lv (.int r :: st)) : Z Θ nL kc ks Q σ pc lv (.int person_a :: .ref (zA Θ 6) :: st) := z_callV C 6 [.int person_a] (some (.int r), σ) 1 (kC_6 hkd) rfl (c5_votesOf (person_a := person_a) hkd (zc_inj C) hx) w_3_202 w_3_199 w_3_200 w_3_201 w_1_9 ⟨rfl, rfl, hrm.1, hrm.2⟩ (by decide +kernel) rfl rfl hcat hk hd kk
theorem w_3_206 : Cond.code ({ cls := "LastLoaf$Log", name := "write", desc := "(IIII)V" } : MethodName) prog_5_method_3_code (6 : Nat) (Option.none : Option ClassFile.FieldType) ∈ TB := tb_in (lwt_3 (List.mem_of_getElem? (i := 206) (by decide +kernel))) rfl
theorem w_3_203 : Cond.methodLink "LastLoaf$Baker" (104 : Nat) ({ cls := "LastLoaf$Log", name := "write", desc := "(IIII)V" } : MethodName) ∈ TB := tb_in (lwt_3 (List.mem_of_getElem? (i := 203) (by decide +kernel))) rfl
theorem w_3_204 : Cond.instanceMethod ({ cls := "LastLoaf$Log", name := "write", desc := "(IIII)V" } : MethodName) ∈ TB := tb_in (lwt_3 (List.mem_of_getElem? (i := 204) (by decide +kernel))) rfl
theorem w_3_205 : Cond.selects "LastLoaf$Log" ({ cls := "LastLoaf$Log", name := "write", desc := "(IIII)V" } : MethodName) ({ cls := "LastLoaf$Log", name := "write", desc := "(IIII)V" } : MethodName) ∈ TB := tb_in (lwt_3 (List.mem_of_getElem? (i := 205) (by decide +kernel))) rfl
theorem cr0_104 {Θ : Tz} {cc : ByteArray} {nL kc ks : Nat} {ret : Option FieldType} {rm : Room} {Q : State → Prop} {σ : St} {pc : Nat} {lv : List (Nat × Value)} {st : List Value} (C : Zc Θ cc nL RX0 ret rm) (hkd : Θ.2.2.2.2.1 = kdC) {th : Nat} {week_a : Int32} {kind_a : Int32} {person_a : Int32} {votes_a : Int32} (hth : isLog th) {r : St} (hx : q3_write σ th week_a kind_a person_a votes_a = some r) (hrm : rm3_write.frames + 1 ≤ rm.frames ∧ 8 + (6 + 11) + rm3_write.locals ≤ rm.locals) (hcat : (st.map fun v => v.category).sum ≤ 8) (hk : kc ≤ rm.cells ∧ ks ≤ rm.slots) (hd : decode cc pc = .ok (.invokevirtual 104, 3)) (kk : Z Θ nL kc ks Q r (pc + 3) lv st) : Z Θ nL kc ks Q σ pc lv (.int votes_a :: .int person_a :: .int kind_a :: .int week_a :: .ref (zA Θ th) :: st) := z_callV C th [.int week_a, .int kind_a, .int person_a, .int votes_a] (none, r) 4 (kLog_0 hkd hth) rfl (c3_write (th := th) (week_a := week_a) (kind_a := kind_a) (person_a := person_a) (votes_a := votes_a) hkd (zc_inj C) hth hx) w_3_206 w_3_203 w_3_204 w_3_205 w_1_4 ⟨rfl, rfl, hrm.1, hrm.2⟩ (by decide +kernel) rfl rfl hcat hk hd kk
theorem dX0_giveLastLoaf_0 : decode cX0_giveLastLoaf 0 = .ok (.iconst (-1), 1) := by decide +kernel
theorem dX0_giveLastLoaf_1 : decode cX0_giveLastLoaf 1 = .ok (.istore_n 2, 1) := by decide +kernel
theorem dX0_giveLastLoaf_2 : decode cX0_giveLastLoaf 2 = .ok (.aload_n 1, 1) := by decide +kernel
theorem dX0_giveLastLoaf_3 : decode cX0_giveLastLoaf 3 = .ok (.getfield 31, 3) := by decide +kernel
theorem dX0_giveLastLoaf_6 : decode cX0_giveLastLoaf 6 = .ok (.ifCond .le 27, 3) := by decide +kernel
theorem dX0_giveLastLoaf_9 : decode cX0_giveLastLoaf 9 = .ok (.aload_n 0, 1) := by decide +kernel
theorem dX0_giveLastLoaf_10 : decode cX0_giveLastLoaf 10 = .ok (.getfield 9, 3) := by decide +kernel
theorem dX0_giveLastLoaf_13 : decode cX0_giveLastLoaf 13 = .ok (.aload_n 1, 1) := by decide +kernel
theorem dX0_giveLastLoaf_14 : decode cX0_giveLastLoaf 14 = .ok (.aload_n 0, 1) := by decide +kernel
theorem dX0_giveLastLoaf_15 : decode cX0_giveLastLoaf 15 = .ok (.getfield 15, 3) := by decide +kernel
theorem dX0_giveLastLoaf_18 : decode cX0_giveLastLoaf 18 = .ok (.invokevirtual 74, 3) := by decide +kernel
theorem dX0_giveLastLoaf_21 : decode cX0_giveLastLoaf 21 = .ok (.aload_n 0, 1) := by decide +kernel
theorem dX0_giveLastLoaf_22 : decode cX0_giveLastLoaf 22 = .ok (.getfield 9, 3) := by decide +kernel
theorem dX0_giveLastLoaf_25 : decode cX0_giveLastLoaf 25 = .ok (.aload_n 1, 1) := by decide +kernel
theorem dX0_giveLastLoaf_26 : decode cX0_giveLastLoaf 26 = .ok (.getfield 80, 3) := by decide +kernel
theorem dX0_giveLastLoaf_29 : decode cX0_giveLastLoaf 29 = .ok (.invokevirtual 83, 3) := by decide +kernel
theorem dX0_giveLastLoaf_32 : decode cX0_giveLastLoaf 32 = .ok (.istore_n 2, 1) := by decide +kernel
theorem dX0_giveLastLoaf_33 : decode cX0_giveLastLoaf 33 = .ok (.iconst 0, 1) := by decide +kernel
theorem dX0_giveLastLoaf_34 : decode cX0_giveLastLoaf 34 = .ok (.istore_n 3, 1) := by decide +kernel
theorem dX0_giveLastLoaf_35 : decode cX0_giveLastLoaf 35 = .ok (.iload_n 3, 1) := by decide +kernel
theorem dX0_giveLastLoaf_36 : decode cX0_giveLastLoaf 36 = .ok (.aload_n 1, 1) := by decide +kernel
theorem dX0_giveLastLoaf_37 : decode cX0_giveLastLoaf 37 = .ok (.getfield 54, 3) := by decide +kernel
theorem dX0_giveLastLoaf_40 : decode cX0_giveLastLoaf 40 = .ok (.if_icmp .ge 37, 3) := by decide +kernel
theorem dX0_giveLastLoaf_43 : decode cX0_giveLastLoaf 43 = .ok (.iload_n 3, 1) := by decide +kernel
theorem dX0_giveLastLoaf_44 : decode cX0_giveLastLoaf 44 = .ok (.iload_n 2, 1) := by decide +kernel
theorem dX0_giveLastLoaf_45 : decode cX0_giveLastLoaf 45 = .ok (.if_icmp .eq 26, 3) := by decide +kernel
theorem dX0_giveLastLoaf_48 : decode cX0_giveLastLoaf 48 = .ok (.aload_n 1, 1) := by decide +kernel
theorem dX0_giveLastLoaf_49 : decode cX0_giveLastLoaf 49 = .ok (.getfield 87, 3) := by decide +kernel
theorem dX0_giveLastLoaf_52 : decode cX0_giveLastLoaf 52 = .ok (.iload_n 3, 1) := by decide +kernel
theorem dX0_giveLastLoaf_53 : decode cX0_giveLastLoaf 53 = .ok (.iconst 0, 1) := by decide +kernel
theorem dX0_giveLastLoaf_54 : decode cX0_giveLastLoaf 54 = .ok (.iastore, 1) := by decide +kernel
theorem dX0_giveLastLoaf_55 : decode cX0_giveLastLoaf 55 = .ok (.aload_n 1, 1) := by decide +kernel
theorem dX0_giveLastLoaf_56 : decode cX0_giveLastLoaf 56 = .ok (.invokevirtual 90, 3) := by decide +kernel
theorem dX0_giveLastLoaf_59 : decode cX0_giveLastLoaf 59 = .ok (.iload_n 3, 1) := by decide +kernel
theorem dX0_giveLastLoaf_60 : decode cX0_giveLastLoaf 60 = .ok (.invokestatic 63, 3) := by decide +kernel
theorem dX0_giveLastLoaf_63 : decode cX0_giveLastLoaf 63 = .ok (.ifCond .eq 8, 3) := by decide +kernel
theorem dX0_giveLastLoaf_66 : decode cX0_giveLastLoaf 66 = .ok (.aload_n 1, 1) := by decide +kernel
theorem dX0_giveLastLoaf_67 : decode cX0_giveLastLoaf 67 = .ok (.iload_n 3, 1) := by decide +kernel
theorem dX0_giveLastLoaf_68 : decode cX0_giveLastLoaf 68 = .ok (.invokevirtual 70, 3) := by decide +kernel
theorem dX0_giveLastLoaf_71 : decode cX0_giveLastLoaf 71 = .ok (.iinc 3 1, 3) := by decide +kernel
theorem dX0_giveLastLoaf_74 : decode cX0_giveLastLoaf 74 = .ok (.goto (-39), 3) := by decide +kernel
theorem dX0_giveLastLoaf_77 : decode cX0_giveLastLoaf 77 = .ok (.iload_n 2, 1) := by decide +kernel
theorem dX0_giveLastLoaf_78 : decode cX0_giveLastLoaf 78 = .ok (.iconst (-1), 1) := by decide +kernel
theorem dX0_giveLastLoaf_79 : decode cX0_giveLastLoaf 79 = .ok (.if_icmp .eq 80, 3) := by decide +kernel
theorem dX0_giveLastLoaf_82 : decode cX0_giveLastLoaf 82 = .ok (.aload_n 1, 1) := by decide +kernel
theorem dX0_giveLastLoaf_83 : decode cX0_giveLastLoaf 83 = .ok (.dup, 1) := by decide +kernel
theorem dX0_giveLastLoaf_84 : decode cX0_giveLastLoaf 84 = .ok (.getfield 31, 3) := by decide +kernel
theorem dX0_giveLastLoaf_87 : decode cX0_giveLastLoaf 87 = .ok (.iconst 1, 1) := by decide +kernel
theorem dX0_giveLastLoaf_88 : decode cX0_giveLastLoaf 88 = .ok (.isub, 1) := by decide +kernel
theorem dX0_giveLastLoaf_89 : decode cX0_giveLastLoaf 89 = .ok (.putfield 31, 3) := by decide +kernel
theorem dX0_giveLastLoaf_92 : decode cX0_giveLastLoaf 92 = .ok (.aload_n 1, 1) := by decide +kernel
theorem dX0_giveLastLoaf_93 : decode cX0_giveLastLoaf 93 = .ok (.getfield 67, 3) := by decide +kernel
theorem dX0_giveLastLoaf_96 : decode cX0_giveLastLoaf 96 = .ok (.iload_n 2, 1) := by decide +kernel
theorem dX0_giveLastLoaf_97 : decode cX0_giveLastLoaf 97 = .ok (.iconst 0, 1) := by decide +kernel
theorem dX0_giveLastLoaf_98 : decode cX0_giveLastLoaf 98 = .ok (.iastore, 1) := by decide +kernel
theorem dX0_giveLastLoaf_99 : decode cX0_giveLastLoaf 99 = .ok (.aload_n 1, 1) := by decide +kernel
theorem dX0_giveLastLoaf_100 : decode cX0_giveLastLoaf 100 = .ok (.getfield 94, 3) := by decide +kernel
theorem dX0_giveLastLoaf_103 : decode cX0_giveLastLoaf 103 = .ok (.iload_n 2, 1) := by decide +kernel
theorem dX0_giveLastLoaf_104 : decode cX0_giveLastLoaf 104 = .ok (.sipush 999, 3) := by decide +kernel
theorem dX0_giveLastLoaf_107 : decode cX0_giveLastLoaf 107 = .ok (.aload_n 1, 1) := by decide +kernel
theorem dX0_giveLastLoaf_108 : decode cX0_giveLastLoaf 108 = .ok (.getfield 94, 3) := by decide +kernel
theorem dX0_giveLastLoaf_111 : decode cX0_giveLastLoaf 111 = .ok (.iload_n 2, 1) := by decide +kernel
theorem dX0_giveLastLoaf_112 : decode cX0_giveLastLoaf 112 = .ok (.iaload, 1) := by decide +kernel
theorem dX0_giveLastLoaf_113 : decode cX0_giveLastLoaf 113 = .ok (.iconst 1, 1) := by decide +kernel
theorem dX0_giveLastLoaf_114 : decode cX0_giveLastLoaf 114 = .ok (.iadd, 1) := by decide +kernel
theorem dX0_giveLastLoaf_115 : decode cX0_giveLastLoaf 115 = .ok (.invokestatic 38, 3) := by decide +kernel
theorem dX0_giveLastLoaf_118 : decode cX0_giveLastLoaf 118 = .ok (.iastore, 1) := by decide +kernel
theorem dX0_giveLastLoaf_119 : decode cX0_giveLastLoaf 119 = .ok (.aload_n 1, 1) := by decide +kernel
theorem dX0_giveLastLoaf_120 : decode cX0_giveLastLoaf 120 = .ok (.getfield 87, 3) := by decide +kernel
theorem dX0_giveLastLoaf_123 : decode cX0_giveLastLoaf 123 = .ok (.iload_n 2, 1) := by decide +kernel
theorem dX0_giveLastLoaf_124 : decode cX0_giveLastLoaf 124 = .ok (.bipush 99, 2) := by decide +kernel
theorem dX0_giveLastLoaf_126 : decode cX0_giveLastLoaf 126 = .ok (.aload_n 1, 1) := by decide +kernel
theorem dX0_giveLastLoaf_127 : decode cX0_giveLastLoaf 127 = .ok (.getfield 87, 3) := by decide +kernel
theorem dX0_giveLastLoaf_130 : decode cX0_giveLastLoaf 130 = .ok (.iload_n 2, 1) := by decide +kernel
theorem dX0_giveLastLoaf_131 : decode cX0_giveLastLoaf 131 = .ok (.iaload, 1) := by decide +kernel
theorem dX0_giveLastLoaf_132 : decode cX0_giveLastLoaf 132 = .ok (.iconst 1, 1) := by decide +kernel
theorem dX0_giveLastLoaf_133 : decode cX0_giveLastLoaf 133 = .ok (.iadd, 1) := by decide +kernel
theorem dX0_giveLastLoaf_134 : decode cX0_giveLastLoaf 134 = .ok (.invokestatic 38, 3) := by decide +kernel
theorem dX0_giveLastLoaf_137 : decode cX0_giveLastLoaf 137 = .ok (.iastore, 1) := by decide +kernel
theorem dX0_giveLastLoaf_138 : decode cX0_giveLastLoaf 138 = .ok (.aload_n 1, 1) := by decide +kernel
theorem dX0_giveLastLoaf_139 : decode cX0_giveLastLoaf 139 = .ok (.getfield 97, 3) := by decide +kernel
theorem dX0_giveLastLoaf_142 : decode cX0_giveLastLoaf 142 = .ok (.aload_n 1, 1) := by decide +kernel
theorem dX0_giveLastLoaf_143 : decode cX0_giveLastLoaf 143 = .ok (.getfield 19, 3) := by decide +kernel
theorem dX0_giveLastLoaf_146 : decode cX0_giveLastLoaf 146 = .ok (.iconst 0, 1) := by decide +kernel
theorem dX0_giveLastLoaf_147 : decode cX0_giveLastLoaf 147 = .ok (.iload_n 2, 1) := by decide +kernel
theorem dX0_giveLastLoaf_148 : decode cX0_giveLastLoaf 148 = .ok (.aload_n 0, 1) := by decide +kernel
theorem dX0_giveLastLoaf_149 : decode cX0_giveLastLoaf 149 = .ok (.getfield 9, 3) := by decide +kernel
theorem dX0_giveLastLoaf_152 : decode cX0_giveLastLoaf 152 = .ok (.iload_n 2, 1) := by decide +kernel
theorem dX0_giveLastLoaf_153 : decode cX0_giveLastLoaf 153 = .ok (.invokevirtual 101, 3) := by decide +kernel
theorem dX0_giveLastLoaf_156 : decode cX0_giveLastLoaf 156 = .ok (.invokevirtual 104, 3) := by decide +kernel
theorem dX0_giveLastLoaf_159 : decode cX0_giveLastLoaf 159 = .ok (.return_, 1) := by decide +kernel
def q0_giveLastLoaf (σ : St) (village_a : Nat) : Option St :=
  Option.bind (if 0 < (σ village_a 11) then (Option.bind (q5_hold σ village_a 32) fun x8_ =>
  Option.bind (q5_winnerBy x8_ (x8_ village_a 13)) fun x10_ =>
  some (x10_.1, x10_.2)) else (some ((-1 : Int32), σ))) fun y1_ =>
  Option.bind (loop2 (fun rec15_ (p18_ : Int32) (σ19_ : St) =>
  if p18_ < (σ19_ village_a 8) then
  Option.bind (if ¬ p18_ = y1_.1 then (Option.bind (sa σ19_ (village_a + 5) 6 p18_ 0) fun σ33_ =>
  Option.bind (if q11_isIn (q10_runners σ33_ village_a) p18_ = true then (Option.bind (q10_hungerMore σ33_ village_a p18_) fun x42_ =>
  some (x42_)) else (some (σ33_))) fun y35_ =>
  some (y35_)) else (some (σ19_))) fun y26_ =>
  lt (p18_ + 1) fun p44_ =>
  rec15_ p44_ y26_
  else (some (p18_, σ19_))) fuelN (0 : Int32) y1_.2) fun y12_ =>
  Option.bind (if ¬ y1_.1 = (-1) then (lt (up y12_.2 village_a 11 ((y12_.2 village_a 11) - 1)) fun σ53_ =>
  Option.bind (sa σ53_ (village_a + 1) 6 y1_.1 0) fun σ55_ =>
  Option.bind (ag σ55_ (village_a + 4) 6 y1_.1) fun x57_ =>
  Option.bind (sa σ55_ (village_a + 4) 6 y1_.1 (imin 999 (x57_ + 1))) fun σ59_ =>
  Option.bind (ag σ59_ (village_a + 5) 6 y1_.1) fun x61_ =>
  Option.bind (sa σ59_ (village_a + 5) 6 y1_.1 (imin 99 (x61_ + 1))) fun σ63_ =>
  Option.bind (q5_votesOf σ63_ y1_.1) fun x65_ =>
  Option.bind (q3_write σ63_ (village_a + 8) (σ63_ village_a 12) 0 y1_.1 x65_) fun x67_ =>
  some (x67_)) else (some (y12_.2))) fun y46_ =>
  some y46_
abbrev rm0_giveLastLoaf : Room := { frames := 4, cells := 0, slots := 0, locals := 96 }
set_option maxHeartbeats 4000000 in
set_option maxRecDepth 100000 in
theorem p0_giveLastLoaf {Θ : Tz} {σ : St} {ρ : Option Value × St} (C : Zc Θ cX0_giveLastLoaf 4 RX0 none rm0_giveLastLoaf) (hkd : Θ.2.2.2.2.1 = kdC) {village_a : Nat} (h_village : isV village_a) {r : St} (hf : q0_giveLastLoaf σ village_a = some r) (hρ : ρ = (none, r)) : Z Θ 4 0 0 (zQ Θ ρ) σ 0 [(0, .ref (zA Θ 13)), (1, .ref (zA Θ village_a))] [] := by
  unfold q0_giveLastLoaf at hf
  refine z_iconst (v := (-1)) C dX0_giveLastLoaf_0 ic_m1 ?_
  refine z_istN C dX0_giveLastLoaf_1 rfl rfl (Nat.le_of_ble_eq_true rfl) rfl ?_
  obtain ⟨y1_, h2_, hf⟩ := ob hf
  suffices K3_ : Z Θ 4 0 0 (zQ Θ ρ) y1_.2 33 [(0, .ref (zA Θ 13)), (1, .ref (zA Θ village_a)), (2, .int y1_.1)] [] by
    have K4_ : 0 < (σ village_a 11) → Z Θ 4 0 0 (zQ Θ ρ) σ 9 [(2, .int (-1)), (0, .ref (zA Θ 13)), (1, .ref (zA Θ village_a))] [] := by
      intro h7_
      rw [if_pos h7_] at h2_
      refine z_aload_n C 1 dX0_giveLastLoaf_9 rfl rfl ?_
      refine fg0_9 C hkd dX0_giveLastLoaf_10 ?_
      refine z_aload_n C 2 dX0_giveLastLoaf_13 rfl rfl ?_
      refine z_aload_n C 1 dX0_giveLastLoaf_14 rfl rfl ?_
      refine fg0_15 C hkd dX0_giveLastLoaf_15 ?_
      obtain ⟨x8_, h9_, h2_⟩ := ob h2_
      refine cr0_74 (village_a := village_a) (law_a := 32) C hkd h_village isLaw_32 h9_ ⟨(Nat.le_of_ble_eq_true rfl), (Nat.le_of_ble_eq_true rfl)⟩ (Nat.le_of_ble_eq_true rfl) ⟨Nat.zero_le _, Nat.zero_le _⟩ dX0_giveLastLoaf_18 ?_
      refine z_aload_n C 1 dX0_giveLastLoaf_21 rfl rfl ?_
      refine fg0_9 C hkd dX0_giveLastLoaf_22 ?_
      refine z_aload_n C 2 dX0_giveLastLoaf_25 rfl rfl ?_
      refine fg0_80 C hkd h_village dX0_giveLastLoaf_26 ?_
      obtain ⟨x10_, h11_, h2_⟩ := ob h2_
      refine cr0_83 (way_a := (x8_ village_a 13)) C hkd  h11_ ⟨(Nat.le_of_ble_eq_true rfl), (Nat.le_of_ble_eq_true rfl)⟩ (Nat.le_of_ble_eq_true rfl) ⟨Nat.zero_le _, Nat.zero_le _⟩ dX0_giveLastLoaf_29 ?_
      refine z_istN C dX0_giveLastLoaf_32 rfl rfl (Nat.le_of_ble_eq_true rfl) rfl ?_
      cases h2_
      refine Z.sub [1, 2, 0] rfl ?_
      exact K3_
    have K5_ : ¬ (0 < (σ village_a 11)) → Z Θ 4 0 0 (zQ Θ ρ) σ 33 [(2, .int (-1)), (0, .ref (zA Θ 13)), (1, .ref (zA Θ village_a))] [] := by
      intro h7_
      rw [if_neg h7_] at h2_
      cases h2_
      refine Z.sub [1, 2, 0] rfl ?_
      exact K3_
    refine z_aload_n C 2 dX0_giveLastLoaf_2 rfl rfl ?_
    refine fg0_31 C hkd h_village dX0_giveLastLoaf_3 ?_
    refine c0_gt_f C 33 dX0_giveLastLoaf_6 (by decide) (fun h6_ => ?_) (fun h6_ => ?_)
    · exact K4_ h6_
    · exact K5_ h6_
  refine z_iconst (v := 0) C dX0_giveLastLoaf_33 ic_0 ?_
  refine z_istN C dX0_giveLastLoaf_34 rfl rfl (Nat.le_of_ble_eq_true rfl) rfl ?_
  refine Z.sub [1, 2, 3, 0] rfl ?_
  obtain ⟨y12_, h13_, hf⟩ := ob hf
  suffices K14_ : Z Θ 4 0 0 (zQ Θ ρ) y12_.2 77 [(0, .ref (zA Θ 13)), (1, .ref (zA Θ village_a)), (2, .int y1_.1), (3, .int y12_.1)] [] by
    refine loop2_Z (P := fun (p18_ : Int32) (σ19_ : St) => Z Θ 4 0 0 (zQ Θ ρ) σ19_ 35 [(0, .ref (zA Θ 13)), (1, .ref (zA Θ village_a)), (2, .int y1_.1), (3, .int p18_)] []) ?_ fuelN (0 : Int32) y1_.2 h13_
    clear h13_
    intro rec15_ p18_ σ19_ h16_ h17_
    have K22_ : p18_ < (σ19_ village_a 8) → Z Θ 4 0 0 (zQ Θ ρ) σ19_ 43 [(0, .ref (zA Θ 13)), (1, .ref (zA Θ village_a)), (2, .int y1_.1), (3, .int p18_)] [] := by
      intro h25_
      rw [if_pos h25_] at h17_
      obtain ⟨y26_, h27_, h17_⟩ := ob h17_
      suffices K28_ : Z Θ 4 0 0 (zQ Θ ρ) y26_ 71 [(0, .ref (zA Θ 13)), (1, .ref (zA Θ village_a)), (2, .int y1_.1), (3, .int p18_)] [] by
        have K29_ : ¬ p18_ = y1_.1 → Z Θ 4 0 0 (zQ Θ ρ) σ19_ 48 [(0, .ref (zA Θ 13)), (1, .ref (zA Θ village_a)), (2, .int y1_.1), (3, .int p18_)] [] := by
          intro h32_
          rw [if_pos h32_] at h27_
          refine z_aload_n C 1 dX0_giveLastLoaf_48 rfl rfl ?_
          refine fg0_87 C hkd h_village dX0_giveLastLoaf_49 ?_
          refine z_iload_n C 3 dX0_giveLastLoaf_52 rfl rfl ?_
          refine z_iconst (v := 0) C dX0_giveLastLoaf_53 ic_0 ?_
          obtain ⟨σ33_, h34_, h27_⟩ := ob h27_
          refine z_sa C h34_ (kV_5 hkd h_village) dX0_giveLastLoaf_54 ?_
          obtain ⟨y35_, h36_, h27_⟩ := ob h27_
          suffices K37_ : Z Θ 4 0 0 (zQ Θ ρ) y35_ 71 [(0, .ref (zA Θ 13)), (1, .ref (zA Θ village_a)), (2, .int y1_.1), (3, .int p18_)] [] by
            have K38_ : q11_isIn (q10_runners σ33_ village_a) p18_ = true → Z Θ 4 0 0 (zQ Θ ρ) σ33_ 66 [(0, .ref (zA Θ 13)), (1, .ref (zA Θ village_a)), (2, .int y1_.1), (3, .int p18_)] [] := by
              intro h41_
              rw [if_pos h41_] at h36_
              refine z_aload_n C 1 dX0_giveLastLoaf_66 rfl rfl ?_
              refine z_iload_n C 3 dX0_giveLastLoaf_67 rfl rfl ?_
              obtain ⟨x42_, h43_, h36_⟩ := ob h36_
              refine cr0_70 (th := village_a) (person_a := p18_) C hkd h_village h43_ ⟨(Nat.le_of_ble_eq_true rfl), (Nat.le_of_ble_eq_true rfl)⟩ (Nat.le_of_ble_eq_true rfl) ⟨Nat.zero_le _, Nat.zero_le _⟩ dX0_giveLastLoaf_68 ?_
              cases h36_
              exact K37_
            have K39_ : ¬ (q11_isIn (q10_runners σ33_ village_a) p18_ = true) → Z Θ 4 0 0 (zQ Θ ρ) σ33_ 71 [(0, .ref (zA Θ 13)), (1, .ref (zA Θ village_a)), (2, .int y1_.1), (3, .int p18_)] [] := by
              intro h41_
              rw [if_neg h41_] at h36_
              cases h36_
              exact K37_
            refine z_aload_n C 1 dX0_giveLastLoaf_55 rfl rfl ?_
            refine cr0_90 (th := village_a) C hkd h_village ⟨(Nat.le_of_ble_eq_true rfl), (Nat.le_of_ble_eq_true rfl)⟩ (Nat.le_of_ble_eq_true rfl) ⟨Nat.zero_le _, Nat.zero_le _⟩ dX0_giveLastLoaf_56 ?_
            refine z_iload_n C 3 dX0_giveLastLoaf_59 rfl rfl ?_
            refine cr0_63 (set_a := (q10_runners σ33_ village_a)) (person_a := p18_) C hkd  ⟨(Nat.le_of_ble_eq_true rfl), (Nat.le_of_ble_eq_true rfl)⟩ (Nat.le_of_ble_eq_true rfl) ⟨Nat.zero_le _, Nat.zero_le _⟩ dX0_giveLastLoaf_60 ?_
            refine cb_f C 71 dX0_giveLastLoaf_63 (by decide) (fun h40_ => ?_) (fun h40_ => ?_)
            · exact K38_ h40_
            · exact K39_ h40_
          cases h27_
          exact K28_
        have K30_ : ¬ (¬ p18_ = y1_.1) → Z Θ 4 0 0 (zQ Θ ρ) σ19_ 71 [(0, .ref (zA Θ 13)), (1, .ref (zA Θ village_a)), (2, .int y1_.1), (3, .int p18_)] [] := by
          intro h32_
          rw [if_neg h32_] at h27_
          cases h27_
          exact K28_
        refine z_iload_n C 3 dX0_giveLastLoaf_43 rfl rfl ?_
        refine z_iload_n C 2 dX0_giveLastLoaf_44 rfl rfl ?_
        refine c_ne_f C 71 dX0_giveLastLoaf_45 (by decide) (fun h31_ => ?_) (fun h31_ => ?_)
        · exact K29_ h31_
        · exact K30_ h31_
      obtain ⟨p44_, h45_, h17_⟩ := lt_ h17_
      refine z_inc C 3 dX0_giveLastLoaf_71 rfl ic_1 h45_ (Nat.le_of_ble_eq_true rfl) rfl ?_
      refine z_goto C 35 dX0_giveLastLoaf_74 (by decide) ?_
      refine Z.sub [1, 2, 3, 0] rfl ?_
      exact h16_ _ _ h17_
    have K23_ : ¬ (p18_ < (σ19_ village_a 8)) → Z Θ 4 0 0 (zQ Θ ρ) σ19_ 77 [(0, .ref (zA Θ 13)), (1, .ref (zA Θ village_a)), (2, .int y1_.1), (3, .int p18_)] [] := by
      intro h25_
      rw [if_neg h25_] at h17_
      cases h17_
      exact K14_
    refine z_iload_n C 3 dX0_giveLastLoaf_35 rfl rfl ?_
    refine z_aload_n C 1 dX0_giveLastLoaf_36 rfl rfl ?_
    refine fg0_54 C hkd h_village dX0_giveLastLoaf_37 ?_
    refine c_lt_f C 77 dX0_giveLastLoaf_40 (by decide) (fun h24_ => ?_) (fun h24_ => ?_)
    · exact K22_ h24_
    · exact K23_ h24_
  obtain ⟨y46_, h47_, hf⟩ := ob hf
  suffices K48_ : Z Θ 4 0 0 (zQ Θ ρ) y46_ 159 [(0, .ref (zA Θ 13)), (1, .ref (zA Θ village_a)), (2, .int y1_.1)] [] by
    have K49_ : ¬ y1_.1 = (-1) → Z Θ 4 0 0 (zQ Θ ρ) y12_.2 82 [(0, .ref (zA Θ 13)), (1, .ref (zA Θ village_a)), (2, .int y1_.1), (3, .int y12_.1)] [] := by
      intro h52_
      rw [if_pos h52_] at h47_
      refine z_aload_n C 1 dX0_giveLastLoaf_82 rfl rfl ?_
      refine z_dup C dX0_giveLastLoaf_83 rfl ?_
      refine fg0_31 C hkd h_village dX0_giveLastLoaf_84 ?_
      refine z_iconst (v := 1) C dX0_giveLastLoaf_87 ic_1 ?_
      refine z_isub C dX0_giveLastLoaf_88 ?_
      obtain ⟨σ53_, h54_, h47_⟩ := lt_ h47_
      refine fp0_31 C hkd h_village h54_ dX0_giveLastLoaf_89 ?_
      refine z_aload_n C 1 dX0_giveLastLoaf_92 rfl rfl ?_
      refine fg0_67 C hkd h_village dX0_giveLastLoaf_93 ?_
      refine z_iload_n C 2 dX0_giveLastLoaf_96 rfl rfl ?_
      refine z_iconst (v := 0) C dX0_giveLastLoaf_97 ic_0 ?_
      obtain ⟨σ55_, h56_, h47_⟩ := ob h47_
      refine z_sa C h56_ (kV_1 hkd h_village) dX0_giveLastLoaf_98 ?_
      refine z_aload_n C 1 dX0_giveLastLoaf_99 rfl rfl ?_
      refine fg0_94 C hkd h_village dX0_giveLastLoaf_100 ?_
      refine z_iload_n C 2 dX0_giveLastLoaf_103 rfl rfl ?_
      refine z_sipush (v := 999) C dX0_giveLastLoaf_104 sp_999 ?_
      refine z_aload_n C 1 dX0_giveLastLoaf_107 rfl rfl ?_
      refine fg0_94 C hkd h_village dX0_giveLastLoaf_108 ?_
      refine z_iload_n C 2 dX0_giveLastLoaf_111 rfl rfl ?_
      obtain ⟨x57_, h58_, h47_⟩ := ob h47_
      refine z_ag C h58_ (kV_4 hkd h_village) dX0_giveLastLoaf_112 ?_
      refine z_iconst (v := 1) C dX0_giveLastLoaf_113 ic_1 ?_
      refine z_iadd C dX0_giveLastLoaf_114 ?_
      refine z_min C w_3_128 w_3_129 w_1_28 w_3_130 ⟨(Nat.le_of_ble_eq_true rfl), (Nat.le_of_ble_eq_true rfl)⟩ (Nat.le_of_ble_eq_true rfl) ⟨Nat.zero_le _, Nat.zero_le _⟩ dX0_giveLastLoaf_115 ?_
      obtain ⟨σ59_, h60_, h47_⟩ := ob h47_
      refine z_sa C h60_ (kV_4 hkd h_village) dX0_giveLastLoaf_118 ?_
      refine z_aload_n C 1 dX0_giveLastLoaf_119 rfl rfl ?_
      refine fg0_87 C hkd h_village dX0_giveLastLoaf_120 ?_
      refine z_iload_n C 2 dX0_giveLastLoaf_123 rfl rfl ?_
      refine z_bipush (v := 99) C dX0_giveLastLoaf_124 bp_99 ?_
      refine z_aload_n C 1 dX0_giveLastLoaf_126 rfl rfl ?_
      refine fg0_87 C hkd h_village dX0_giveLastLoaf_127 ?_
      refine z_iload_n C 2 dX0_giveLastLoaf_130 rfl rfl ?_
      obtain ⟨x61_, h62_, h47_⟩ := ob h47_
      refine z_ag C h62_ (kV_5 hkd h_village) dX0_giveLastLoaf_131 ?_
      refine z_iconst (v := 1) C dX0_giveLastLoaf_132 ic_1 ?_
      refine z_iadd C dX0_giveLastLoaf_133 ?_
      refine z_min C w_3_128 w_3_129 w_1_28 w_3_130 ⟨(Nat.le_of_ble_eq_true rfl), (Nat.le_of_ble_eq_true rfl)⟩ (Nat.le_of_ble_eq_true rfl) ⟨Nat.zero_le _, Nat.zero_le _⟩ dX0_giveLastLoaf_134 ?_
      obtain ⟨σ63_, h64_, h47_⟩ := ob h47_
      refine z_sa C h64_ (kV_5 hkd h_village) dX0_giveLastLoaf_137 ?_
      refine z_aload_n C 1 dX0_giveLastLoaf_138 rfl rfl ?_
      refine fg0_97 C hkd h_village dX0_giveLastLoaf_139 ?_
      refine z_aload_n C 1 dX0_giveLastLoaf_142 rfl rfl ?_
      refine fg0_19 C hkd h_village dX0_giveLastLoaf_143 ?_
      refine z_iconst (v := 0) C dX0_giveLastLoaf_146 ic_0 ?_
      refine z_iload_n C 2 dX0_giveLastLoaf_147 rfl rfl ?_
      refine z_aload_n C 0 dX0_giveLastLoaf_148 rfl rfl ?_
      refine fg0_9 C hkd dX0_giveLastLoaf_149 ?_
      refine z_iload_n C 2 dX0_giveLastLoaf_152 rfl rfl ?_
      obtain ⟨x65_, h66_, h47_⟩ := ob h47_
      refine cr0_101 (person_a := y1_.1) C hkd  h66_ ⟨(Nat.le_of_ble_eq_true rfl), (Nat.le_of_ble_eq_true rfl)⟩ (Nat.le_of_ble_eq_true rfl) ⟨Nat.zero_le _, Nat.zero_le _⟩ dX0_giveLastLoaf_153 ?_
      obtain ⟨x67_, h68_, h47_⟩ := ob h47_
      refine cr0_104 (th := (village_a + 8)) (week_a := (σ63_ village_a 12)) (kind_a := 0) (person_a := y1_.1) (votes_a := x65_) C hkd (isLog_of h_village) h68_ ⟨(Nat.le_of_ble_eq_true rfl), (Nat.le_of_ble_eq_true rfl)⟩ (Nat.le_of_ble_eq_true rfl) ⟨Nat.zero_le _, Nat.zero_le _⟩ dX0_giveLastLoaf_156 ?_
      cases h47_
      refine Z.sub [0, 1, 2] rfl ?_
      exact K48_
    have K50_ : ¬ (¬ y1_.1 = (-1)) → Z Θ 4 0 0 (zQ Θ ρ) y12_.2 159 [(0, .ref (zA Θ 13)), (1, .ref (zA Θ village_a)), (2, .int y1_.1), (3, .int y12_.1)] [] := by
      intro h52_
      rw [if_neg h52_] at h47_
      cases h47_
      refine Z.sub [0, 1, 2] rfl ?_
      exact K48_
    refine z_iload_n C 2 dX0_giveLastLoaf_77 rfl rfl ?_
    refine z_iconst (v := (-1)) C dX0_giveLastLoaf_78 ic_m1 ?_
    refine c_ne_f C 159 dX0_giveLastLoaf_79 (by decide) (fun h51_ => ?_) (fun h51_ => ?_)
    · exact K49_ h51_
    · exact K50_ h51_
  cases hf
  subst hρ
  exact z_vret C dX0_giveLastLoaf_159
theorem c0_giveLastLoaf {l : Launch} {kd : List KD} {w : Wp} {σ : St} {village_a : Nat} (hkd : kd = kdC) (hi : zI kd w) (h_village : isV village_a) {r : St} (hf : q0_giveLastLoaf σ village_a = some r) : zM l kd w yX0_giveLastLoaf cX0_giveLastLoaf 4 none rm0_giveLastLoaf [.ref (w.2.2.1 13), .ref (w.2.2.1 village_a)] σ (none, r) := zM_of rfl hi (Nat.le_of_ble_eq_true rfl) (fun Θ hl hw C => by
  obtain ⟨Θ1, Θ2, Θ3, Θ4, Θ5⟩ := Θ
  cases hw
  exact p0_giveLastLoaf C hkd h_village hf rfl)
/-! LastLoaf$Village.warm -/
theorem dX10_warm_0 : decode cX10_warm 0 = .ok (.iload_n 1, 1) := by decide +kernel
theorem dX10_warm_1 : decode cX10_warm 1 = .ok (.bipush 6, 2) := by decide +kernel
theorem dX10_warm_3 : decode cX10_warm 3 = .ok (.imul, 1) := by decide +kernel
theorem dX10_warm_4 : decode cX10_warm 4 = .ok (.iload_n 2, 1) := by decide +kernel
theorem dX10_warm_5 : decode cX10_warm 5 = .ok (.iadd, 1) := by decide +kernel
theorem dX10_warm_6 : decode cX10_warm 6 = .ok (.istore_n 3, 1) := by decide +kernel
theorem dX10_warm_7 : decode cX10_warm 7 = .ok (.aload_n 0, 1) := by decide +kernel
theorem dX10_warm_8 : decode cX10_warm 8 = .ok (.getfield 27, 3) := by decide +kernel
theorem dX10_warm_11 : decode cX10_warm 11 = .ok (.iload_n 3, 1) := by decide +kernel
theorem dX10_warm_12 : decode cX10_warm 12 = .ok (.bipush 9, 2) := by decide +kernel
theorem dX10_warm_14 : decode cX10_warm 14 = .ok (.aload_n 0, 1) := by decide +kernel
theorem dX10_warm_15 : decode cX10_warm 15 = .ok (.getfield 27, 3) := by decide +kernel
theorem dX10_warm_18 : decode cX10_warm 18 = .ok (.iload_n 3, 1) := by decide +kernel
theorem dX10_warm_19 : decode cX10_warm 19 = .ok (.iaload, 1) := by decide +kernel
theorem dX10_warm_20 : decode cX10_warm 20 = .ok (.iconst 1, 1) := by decide +kernel
theorem dX10_warm_21 : decode cX10_warm 21 = .ok (.iadd, 1) := by decide +kernel
theorem dX10_warm_22 : decode cX10_warm 22 = .ok (.invokestatic 88, 3) := by decide +kernel
theorem dX10_warm_25 : decode cX10_warm 25 = .ok (.iastore, 1) := by decide +kernel
theorem dX10_warm_26 : decode cX10_warm 26 = .ok (.return_, 1) := by decide +kernel
def q10_warm (σ : St) (th : Nat) (person_a : Int32) (other_a : Int32) : Option St :=
  lt ((person_a * 6) + other_a) fun at1_ =>
  Option.bind (ag σ (th + 6) 36 at1_) fun x3_ =>
  Option.bind (sa σ (th + 6) 36 at1_ (imin 9 (x3_ + 1))) fun σ5_ =>
  some σ5_
abbrev rm10_warm : Room := { frames := 1, cells := 0, slots := 0, locals := 21 }
set_option maxHeartbeats 4000000 in
set_option maxRecDepth 100000 in
theorem p10_warm {Θ : Tz} {σ : St} {ρ : Option Value × St} (C : Zc Θ cX10_warm 4 RX10 none rm10_warm) (hkd : Θ.2.2.2.2.1 = kdC) {th : Nat} {person_a : Int32} {other_a : Int32} (hth : isV th) {r : St} (hf : q10_warm σ th person_a other_a = some r) (hρ : ρ = (none, r)) : Z Θ 4 0 0 (zQ Θ ρ) σ 0 [(0, .ref (zA Θ th)), (1, .int person_a), (2, .int other_a)] [] := by
  unfold q10_warm at hf
  refine z_iload_n C 1 dX10_warm_0 rfl rfl ?_
  refine z_bipush (v := 6) C dX10_warm_1 bp_6 ?_
  refine z_imul C dX10_warm_3 ?_
  refine z_iload_n C 2 dX10_warm_4 rfl rfl ?_
  refine z_iadd C dX10_warm_5 ?_
  obtain ⟨at1_, h2_, hf⟩ := lt_ hf
  refine z_istN C dX10_warm_6 h2_ rfl (Nat.le_of_ble_eq_true rfl) rfl ?_
  refine z_aload_n C 1 dX10_warm_7 rfl rfl ?_
  refine fg10_27 C hkd hth dX10_warm_8 ?_
  refine z_iload_n C 0 dX10_warm_11 rfl rfl ?_
  refine z_bipush (v := 9) C dX10_warm_12 bp_9 ?_
  refine z_aload_n C 1 dX10_warm_14 rfl rfl ?_
  refine fg10_27 C hkd hth dX10_warm_15 ?_
  refine z_iload_n C 0 dX10_warm_18 rfl rfl ?_
  obtain ⟨x3_, h4_, hf⟩ := ob hf
  refine z_ag C h4_ (kV_6 hkd hth) dX10_warm_19 ?_
  refine z_iconst (v := 1) C dX10_warm_20 ic_1 ?_
  refine z_iadd C dX10_warm_21 ?_
  refine z_min C w_3_140 w_3_129 w_1_28 w_3_130 ⟨(Nat.le_of_ble_eq_true rfl), (Nat.le_of_ble_eq_true rfl)⟩ (Nat.le_of_ble_eq_true rfl) ⟨Nat.zero_le _, Nat.zero_le _⟩ dX10_warm_22 ?_
  obtain ⟨σ5_, h6_, hf⟩ := ob hf
  refine z_sa C h6_ (kV_6 hkd hth) dX10_warm_25 ?_
  cases hf
  subst hρ
  exact z_vret C dX10_warm_26
theorem c10_warm {l : Launch} {kd : List KD} {w : Wp} {σ : St} {th : Nat} {person_a : Int32} {other_a : Int32} (hkd : kd = kdC) (hi : zI kd w) (hth : isV th) {r : St} (hf : q10_warm σ th person_a other_a = some r) : zM l kd w yX10_warm cX10_warm 4 none rm10_warm [.ref (w.2.2.1 th), .int person_a, .int other_a] σ (none, r) := zM_of rfl hi (Nat.le_of_ble_eq_true rfl) (fun Θ hl hw C => by
  obtain ⟨Θ1, Θ2, Θ3, Θ4, Θ5⟩ := Θ
  cases hw
  exact p10_warm C hkd hth hf rfl)
/-! LastLoaf$Baker.warmAll -/
theorem w_3_229 : Cond.code ({ cls := "LastLoaf$Village", name := "warm", desc := "(II)V" } : MethodName) prog_12_method_8_code (4 : Nat) (Option.none : Option ClassFile.FieldType) ∈ TB := tb_in (lwt_3 (List.mem_of_getElem? (i := 229) (by decide +kernel))) rfl
theorem w_3_226 : Cond.methodLink "LastLoaf$Baker" (125 : Nat) ({ cls := "LastLoaf$Village", name := "warm", desc := "(II)V" } : MethodName) ∈ TB := tb_in (lwt_3 (List.mem_of_getElem? (i := 226) (by decide +kernel))) rfl
theorem w_3_227 : Cond.instanceMethod ({ cls := "LastLoaf$Village", name := "warm", desc := "(II)V" } : MethodName) ∈ TB := tb_in (lwt_3 (List.mem_of_getElem? (i := 227) (by decide +kernel))) rfl
theorem w_3_228 : Cond.selects "LastLoaf$Village" ({ cls := "LastLoaf$Village", name := "warm", desc := "(II)V" } : MethodName) ({ cls := "LastLoaf$Village", name := "warm", desc := "(II)V" } : MethodName) ∈ TB := tb_in (lwt_3 (List.mem_of_getElem? (i := 228) (by decide +kernel))) rfl
theorem cr0_125 {Θ : Tz} {cc : ByteArray} {nL kc ks : Nat} {ret : Option FieldType} {rm : Room} {Q : State → Prop} {σ : St} {pc : Nat} {lv : List (Nat × Value)} {st : List Value} (C : Zc Θ cc nL RX0 ret rm) (hkd : Θ.2.2.2.2.1 = kdC) {th : Nat} {person_a : Int32} {other_a : Int32} (hth : isV th) {r : St} (hx : q10_warm σ th person_a other_a = some r) (hrm : rm10_warm.frames + 1 ≤ rm.frames ∧ 8 + (4 + 11) + rm10_warm.locals ≤ rm.locals) (hcat : (st.map fun v => v.category).sum ≤ 8) (hk : kc ≤ rm.cells ∧ ks ≤ rm.slots) (hd : decode cc pc = .ok (.invokevirtual 125, 3)) (kk : Z Θ nL kc ks Q r (pc + 3) lv st) : Z Θ nL kc ks Q σ pc lv (.int other_a :: .int person_a :: .ref (zA Θ th) :: st) := z_callV C th [.int person_a, .int other_a] (none, r) 2 (kV_0 hkd hth) rfl (c10_warm (th := th) (person_a := person_a) (other_a := other_a) hkd (zc_inj C) hth hx) w_3_229 w_3_226 w_3_227 w_3_228 w_1_3 ⟨rfl, rfl, hrm.1, hrm.2⟩ (by decide +kernel) rfl rfl hcat hk hd kk
theorem dX0_warmAll_0 : decode cX0_warmAll 0 = .ok (.iconst 0, 1) := by decide +kernel
theorem dX0_warmAll_1 : decode cX0_warmAll 1 = .ok (.istore_n 3, 1) := by decide +kernel
theorem dX0_warmAll_2 : decode cX0_warmAll 2 = .ok (.iload_n 3, 1) := by decide +kernel
theorem dX0_warmAll_3 : decode cX0_warmAll 3 = .ok (.aload_n 1, 1) := by decide +kernel
theorem dX0_warmAll_4 : decode cX0_warmAll 4 = .ok (.getfield 54, 3) := by decide +kernel
theorem dX0_warmAll_7 : decode cX0_warmAll 7 = .ok (.if_icmp .ge 20, 3) := by decide +kernel
theorem dX0_warmAll_10 : decode cX0_warmAll 10 = .ok (.iload_n 3, 1) := by decide +kernel
theorem dX0_warmAll_11 : decode cX0_warmAll 11 = .ok (.iload_n 2, 1) := by decide +kernel
theorem dX0_warmAll_12 : decode cX0_warmAll 12 = .ok (.if_icmp .eq 9, 3) := by decide +kernel
theorem dX0_warmAll_15 : decode cX0_warmAll 15 = .ok (.aload_n 1, 1) := by decide +kernel
theorem dX0_warmAll_16 : decode cX0_warmAll 16 = .ok (.iload_n 3, 1) := by decide +kernel
theorem dX0_warmAll_17 : decode cX0_warmAll 17 = .ok (.iload_n 2, 1) := by decide +kernel
theorem dX0_warmAll_18 : decode cX0_warmAll 18 = .ok (.invokevirtual 125, 3) := by decide +kernel
theorem dX0_warmAll_21 : decode cX0_warmAll 21 = .ok (.iinc 3 1, 3) := by decide +kernel
theorem dX0_warmAll_24 : decode cX0_warmAll 24 = .ok (.goto (-22), 3) := by decide +kernel
theorem dX0_warmAll_27 : decode cX0_warmAll 27 = .ok (.return_, 1) := by decide +kernel
def q0_warmAll (σ : St) (village_a : Nat) (speaker_a : Int32) : Option St :=
  Option.bind (loop2 (fun rec4_ (p7_ : Int32) (σ8_ : St) =>
  if p7_ < (σ8_ village_a 8) then
  Option.bind (if ¬ p7_ = speaker_a then (Option.bind (q10_warm σ8_ village_a p7_ speaker_a) fun x22_ =>
  some (x22_)) else (some (σ8_))) fun y15_ =>
  lt (p7_ + 1) fun p24_ =>
  rec4_ p24_ y15_
  else (some (p7_, σ8_))) fuelN (0 : Int32) σ) fun y1_ =>
  some y1_.2
abbrev rm0_warmAll : Room := { frames := 2, cells := 0, slots := 0, locals := 44 }
set_option maxHeartbeats 4000000 in
set_option maxRecDepth 100000 in
theorem p0_warmAll {Θ : Tz} {σ : St} {ρ : Option Value × St} (C : Zc Θ cX0_warmAll 4 RX0 none rm0_warmAll) (hkd : Θ.2.2.2.2.1 = kdC) {village_a : Nat} {speaker_a : Int32} (h_village : isV village_a) {r : St} (hf : q0_warmAll σ village_a speaker_a = some r) (hρ : ρ = (none, r)) : Z Θ 4 0 0 (zQ Θ ρ) σ 0 [(0, .ref (zA Θ 13)), (1, .ref (zA Θ village_a)), (2, .int speaker_a)] [] := by
  unfold q0_warmAll at hf
  refine z_iconst (v := 0) C dX0_warmAll_0 ic_0 ?_
  refine z_istN C dX0_warmAll_1 rfl rfl (Nat.le_of_ble_eq_true rfl) rfl ?_
  refine Z.sub [1, 2, 3, 0] rfl ?_
  obtain ⟨y1_, h2_, hf⟩ := ob hf
  suffices K3_ : Z Θ 4 0 0 (zQ Θ ρ) y1_.2 27 [(0, .ref (zA Θ 13)), (1, .ref (zA Θ village_a)), (2, .int speaker_a), (3, .int y1_.1)] [] by
    refine loop2_Z (P := fun (p7_ : Int32) (σ8_ : St) => Z Θ 4 0 0 (zQ Θ ρ) σ8_ 2 [(0, .ref (zA Θ 13)), (1, .ref (zA Θ village_a)), (2, .int speaker_a), (3, .int p7_)] []) ?_ fuelN (0 : Int32) σ h2_
    clear h2_
    intro rec4_ p7_ σ8_ h5_ h6_
    have K11_ : p7_ < (σ8_ village_a 8) → Z Θ 4 0 0 (zQ Θ ρ) σ8_ 10 [(0, .ref (zA Θ 13)), (1, .ref (zA Θ village_a)), (2, .int speaker_a), (3, .int p7_)] [] := by
      intro h14_
      rw [if_pos h14_] at h6_
      obtain ⟨y15_, h16_, h6_⟩ := ob h6_
      suffices K17_ : Z Θ 4 0 0 (zQ Θ ρ) y15_ 21 [(0, .ref (zA Θ 13)), (1, .ref (zA Θ village_a)), (2, .int speaker_a), (3, .int p7_)] [] by
        have K18_ : ¬ p7_ = speaker_a → Z Θ 4 0 0 (zQ Θ ρ) σ8_ 15 [(0, .ref (zA Θ 13)), (1, .ref (zA Θ village_a)), (2, .int speaker_a), (3, .int p7_)] [] := by
          intro h21_
          rw [if_pos h21_] at h16_
          refine z_aload_n C 1 dX0_warmAll_15 rfl rfl ?_
          refine z_iload_n C 3 dX0_warmAll_16 rfl rfl ?_
          refine z_iload_n C 2 dX0_warmAll_17 rfl rfl ?_
          obtain ⟨x22_, h23_, h16_⟩ := ob h16_
          refine cr0_125 (th := village_a) (person_a := p7_) (other_a := speaker_a) C hkd h_village h23_ ⟨(Nat.le_of_ble_eq_true rfl), (Nat.le_of_ble_eq_true rfl)⟩ (Nat.le_of_ble_eq_true rfl) ⟨Nat.zero_le _, Nat.zero_le _⟩ dX0_warmAll_18 ?_
          cases h16_
          exact K17_
        have K19_ : ¬ (¬ p7_ = speaker_a) → Z Θ 4 0 0 (zQ Θ ρ) σ8_ 21 [(0, .ref (zA Θ 13)), (1, .ref (zA Θ village_a)), (2, .int speaker_a), (3, .int p7_)] [] := by
          intro h21_
          rw [if_neg h21_] at h16_
          cases h16_
          exact K17_
        refine z_iload_n C 3 dX0_warmAll_10 rfl rfl ?_
        refine z_iload_n C 2 dX0_warmAll_11 rfl rfl ?_
        refine c_ne_f C 21 dX0_warmAll_12 (by decide) (fun h20_ => ?_) (fun h20_ => ?_)
        · exact K18_ h20_
        · exact K19_ h20_
      obtain ⟨p24_, h25_, h6_⟩ := lt_ h6_
      refine z_inc C 3 dX0_warmAll_21 rfl ic_1 h25_ (Nat.le_of_ble_eq_true rfl) rfl ?_
      refine z_goto C 2 dX0_warmAll_24 (by decide) ?_
      refine Z.sub [1, 2, 3, 0] rfl ?_
      exact h5_ _ _ h6_
    have K12_ : ¬ (p7_ < (σ8_ village_a 8)) → Z Θ 4 0 0 (zQ Θ ρ) σ8_ 27 [(0, .ref (zA Θ 13)), (1, .ref (zA Θ village_a)), (2, .int speaker_a), (3, .int p7_)] [] := by
      intro h14_
      rw [if_neg h14_] at h6_
      cases h6_
      exact K3_
    refine z_iload_n C 3 dX0_warmAll_2 rfl rfl ?_
    refine z_aload_n C 1 dX0_warmAll_3 rfl rfl ?_
    refine fg0_54 C hkd h_village dX0_warmAll_4 ?_
    refine c_lt_f C 27 dX0_warmAll_7 (by decide) (fun h13_ => ?_) (fun h13_ => ?_)
    · exact K11_ h13_
    · exact K12_ h13_
  cases hf
  subst hρ
  exact z_vret C dX0_warmAll_27
theorem c0_warmAll {l : Launch} {kd : List KD} {w : Wp} {σ : St} {village_a : Nat} {speaker_a : Int32} (hkd : kd = kdC) (hi : zI kd w) (h_village : isV village_a) {r : St} (hf : q0_warmAll σ village_a speaker_a = some r) : zM l kd w yX0_warmAll cX0_warmAll 4 none rm0_warmAll [.ref (w.2.2.1 13), .ref (w.2.2.1 village_a), .int speaker_a] σ (none, r) := zM_of rfl hi (Nat.le_of_ble_eq_true rfl) (fun Θ hl hw C => by
  obtain ⟨Θ1, Θ2, Θ3, Θ4, Θ5⟩ := Θ
  cases hw
  exact p0_warmAll C hkd h_village hf rfl)
/-! LastLoaf$Village.draw -/
theorem w_3_221 : Cond.constant "LastLoaf$Village" (94 : Nat) (1103515245 : Int32) ∈ TB := tb_in (lwt_3 (List.mem_of_getElem? (i := 221) (by decide +kernel))) rfl
theorem dX10_draw_0 : decode cX10_draw 0 = .ok (.aload_n 0, 1) := by decide +kernel
theorem dX10_draw_1 : decode cX10_draw 1 = .ok (.ldc 94, 2) := by decide +kernel
theorem dX10_draw_3 : decode cX10_draw 3 = .ok (.aload_n 0, 1) := by decide +kernel
theorem dX10_draw_4 : decode cX10_draw 4 = .ok (.getfield 62, 3) := by decide +kernel
theorem dX10_draw_7 : decode cX10_draw 7 = .ok (.imul, 1) := by decide +kernel
theorem dX10_draw_8 : decode cX10_draw 8 = .ok (.sipush 12345, 3) := by decide +kernel
theorem dX10_draw_11 : decode cX10_draw 11 = .ok (.iadd, 1) := by decide +kernel
theorem dX10_draw_12 : decode cX10_draw 12 = .ok (.putfield 62, 3) := by decide +kernel
theorem dX10_draw_15 : decode cX10_draw 15 = .ok (.aload_n 0, 1) := by decide +kernel
theorem dX10_draw_16 : decode cX10_draw 16 = .ok (.getfield 62, 3) := by decide +kernel
theorem dX10_draw_19 : decode cX10_draw 19 = .ok (.bipush 16, 2) := by decide +kernel
theorem dX10_draw_21 : decode cX10_draw 21 = .ok (.iushr, 1) := by decide +kernel
theorem dX10_draw_22 : decode cX10_draw 22 = .ok (.sipush 32767, 3) := by decide +kernel
theorem dX10_draw_25 : decode cX10_draw 25 = .ok (.iand, 1) := by decide +kernel
theorem dX10_draw_26 : decode cX10_draw 26 = .ok (.ireturn, 1) := by decide +kernel
def q10_draw (σ : St) (th : Nat) : Option (Int32 × St) :=
  lt (up σ th 15 ((1103515245 * (σ th 15)) + 12345)) fun σ1_ =>
  some ((ushr (σ1_ th 15) 16) &&& 32767, σ1_)
abbrev rm10_draw : Room := { frames := 0, cells := 0, slots := 0, locals := 0 }
set_option maxHeartbeats 4000000 in
set_option maxRecDepth 100000 in
theorem p10_draw {Θ : Tz} {σ : St} {ρ : Option Value × St} (C : Zc Θ cX10_draw 1 RX10 (some .int) rm10_draw) (hkd : Θ.2.2.2.2.1 = kdC) {th : Nat} (hth : isV th) {r : (Int32 × St)} (hf : q10_draw σ th = some r) (hρ : ρ = (some (.int r.1), r.2)) : Z Θ 1 0 0 (zQ Θ ρ) σ 0 [(0, .ref (zA Θ th))] [] := by
  unfold q10_draw at hf
  refine z_aload_n C 0 dX10_draw_0 rfl rfl ?_
  refine z_ldc (v := 1103515245) C w_3_221 dX10_draw_1 ?_
  refine z_aload_n C 0 dX10_draw_3 rfl rfl ?_
  refine fg10_62 C hkd hth dX10_draw_4 ?_
  refine z_imul C dX10_draw_7 ?_
  refine z_sipush (v := 12345) C dX10_draw_8 sp_12345 ?_
  refine z_iadd C dX10_draw_11 ?_
  obtain ⟨σ1_, h2_, hf⟩ := lt_ hf
  refine fp10_62 C hkd hth h2_ dX10_draw_12 ?_
  refine z_aload_n C 0 dX10_draw_15 rfl rfl ?_
  refine fg10_62 C hkd hth dX10_draw_16 ?_
  refine z_bipush (v := 16) C dX10_draw_19 bp_16 ?_
  refine z_ushr C dX10_draw_21 ?_
  refine z_sipush (v := 32767) C dX10_draw_22 sp_32767 ?_
  refine z_iand C dX10_draw_25 ?_
  cases hf
  subst hρ
  exact z_iret C dX10_draw_26
theorem c10_draw {l : Launch} {kd : List KD} {w : Wp} {σ : St} {th : Nat} (hkd : kd = kdC) (hi : zI kd w) (hth : isV th) {r : (Int32 × St)} (hf : q10_draw σ th = some r) : zM l kd w yX10_draw cX10_draw 1 (some .int) rm10_draw [.ref (w.2.2.1 th)] σ (some (.int r.1), r.2) := zM_of rfl hi (Nat.le_of_ble_eq_true rfl) (fun Θ hl hw C => by
  obtain ⟨Θ1, Θ2, Θ3, Θ4, Θ5⟩ := Θ
  cases hw
  exact p10_draw C hkd hth hf rfl)

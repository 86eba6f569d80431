/-! LastLoaf$Friends.sitDown -/
theorem w_4_63 : Cond.code ({ cls := "LastLoaf$Friends", name := "tourFrom", desc := "(II)I" } : MethodName) prog_3_method_11_code (5 : Nat) (Option.some ClassFile.FieldType.int) ∈ TB := tb_in (lwt_4 (List.mem_of_getElem? (i := 63) (by decide +kernel))) rfl
theorem w_4_60 : Cond.methodLink "LastLoaf$Friends" (64 : Nat) ({ cls := "LastLoaf$Friends", name := "tourFrom", desc := "(II)I" } : MethodName) ∈ TB := tb_in (lwt_4 (List.mem_of_getElem? (i := 60) (by decide +kernel))) rfl
theorem w_4_61 : Cond.instanceMethod ({ cls := "LastLoaf$Friends", name := "tourFrom", desc := "(II)I" } : MethodName) ∈ TB := tb_in (lwt_4 (List.mem_of_getElem? (i := 61) (by decide +kernel))) rfl
theorem w_4_62 : Cond.selects "LastLoaf$Friends" ({ cls := "LastLoaf$Friends", name := "tourFrom", desc := "(II)I" } : MethodName) ({ cls := "LastLoaf$Friends", name := "tourFrom", desc := "(II)I" } : MethodName) ∈ TB := tb_in (lwt_4 (List.mem_of_getElem? (i := 62) (by decide +kernel))) rfl
theorem cr1_64 {Θ : Tz} {cc : ByteArray} {nL kc ks : Nat} {ret : Option FieldType} {rm : Room} {Q : State → Prop} {σ : St} {pc : Nat} {lv : List (Nat × Value)} {st : List Value} (C : Zc Θ cc nL RX1 ret rm) (hkd : Θ.2.2.2.2.1 = kdC) {sitting_a : Int32} {last_a : Int32} {r : Int32} (hx : q1_tourFrom σ sitting_a last_a = some r) (hrm : rm1_tourFrom.frames + 1 ≤ rm.frames ∧ 8 + (5 + 11) + rm1_tourFrom.locals ≤ rm.locals) (hcat : (st.map fun v => v.category).sum ≤ 8) (hk : kc ≤ rm.cells ∧ ks ≤ rm.slots) (hd : decode cc pc = .ok (.invokevirtual 64, 3)) (kk : Z Θ nL kc ks Q σ (pc + 3) lv (.int r :: st)) : Z Θ nL kc ks Q σ pc lv (.int last_a :: .int sitting_a :: .ref (zA Θ 27) :: st) := z_callV C 27 [.int sitting_a, .int last_a] (some (.int r), σ) 2 (kC_27 hkd) rfl (c1_tourFrom (sitting_a := sitting_a) (last_a := last_a) hkd (zc_inj C) hx) w_4_63 w_4_60 w_4_61 w_4_62 w_1_13 ⟨rfl, rfl, hrm.1, hrm.2⟩ (by decide +kernel) rfl rfl hcat hk hd kk
theorem dX1_sitDown_0 : decode cX1_sitDown 0 = .ok (.aload_n 0, 1) := by decide +kernel
theorem dX1_sitDown_1 : decode cX1_sitDown 1 = .ok (.getfield 25, 3) := by decide +kernel
theorem dX1_sitDown_4 : decode cX1_sitDown 4 = .ok (.istore_n 1, 1) := by decide +kernel
theorem dX1_sitDown_5 : decode cX1_sitDown 5 = .ok (.iload_n 1, 1) := by decide +kernel
theorem dX1_sitDown_6 : decode cX1_sitDown 6 = .ok (.ifCond .le 42, 3) := by decide +kernel
theorem dX1_sitDown_9 : decode cX1_sitDown 9 = .ok (.iconst 0, 1) := by decide +kernel
theorem dX1_sitDown_10 : decode cX1_sitDown 10 = .ok (.istore_n 2, 1) := by decide +kernel
theorem dX1_sitDown_11 : decode cX1_sitDown 11 = .ok (.iload_n 2, 1) := by decide +kernel
theorem dX1_sitDown_12 : decode cX1_sitDown 12 = .ok (.aload_n 0, 1) := by decide +kernel
theorem dX1_sitDown_13 : decode cX1_sitDown 13 = .ok (.getfield 21, 3) := by decide +kernel
theorem dX1_sitDown_16 : decode cX1_sitDown 16 = .ok (.if_icmp .ge 26, 3) := by decide +kernel
theorem dX1_sitDown_19 : decode cX1_sitDown 19 = .ok (.aload_n 0, 1) := by decide +kernel
theorem dX1_sitDown_20 : decode cX1_sitDown 20 = .ok (.getfield 18, 3) := by decide +kernel
theorem dX1_sitDown_23 : decode cX1_sitDown 23 = .ok (.iload_n 1, 1) := by decide +kernel
theorem dX1_sitDown_24 : decode cX1_sitDown 24 = .ok (.bipush 6, 2) := by decide +kernel
theorem dX1_sitDown_26 : decode cX1_sitDown 26 = .ok (.imul, 1) := by decide +kernel
theorem dX1_sitDown_27 : decode cX1_sitDown 27 = .ok (.iload_n 2, 1) := by decide +kernel
theorem dX1_sitDown_28 : decode cX1_sitDown 28 = .ok (.iadd, 1) := by decide +kernel
theorem dX1_sitDown_29 : decode cX1_sitDown 29 = .ok (.aload_n 0, 1) := by decide +kernel
theorem dX1_sitDown_30 : decode cX1_sitDown 30 = .ok (.iload_n 1, 1) := by decide +kernel
theorem dX1_sitDown_31 : decode cX1_sitDown 31 = .ok (.iload_n 2, 1) := by decide +kernel
theorem dX1_sitDown_32 : decode cX1_sitDown 32 = .ok (.invokevirtual 64, 3) := by decide +kernel
theorem dX1_sitDown_35 : decode cX1_sitDown 35 = .ok (.iastore, 1) := by decide +kernel
theorem dX1_sitDown_36 : decode cX1_sitDown 36 = .ok (.iinc 2 1, 3) := by decide +kernel
theorem dX1_sitDown_39 : decode cX1_sitDown 39 = .ok (.goto (-28), 3) := by decide +kernel
theorem dX1_sitDown_42 : decode cX1_sitDown 42 = .ok (.iinc 1 (-1), 3) := by decide +kernel
theorem dX1_sitDown_45 : decode cX1_sitDown 45 = .ok (.goto (-40), 3) := by decide +kernel
theorem dX1_sitDown_48 : decode cX1_sitDown 48 = .ok (.return_, 1) := by decide +kernel
def q1_sitDown (σ : St) : Option St :=
  lt (σ 27 4) fun sitting1_ =>
  Option.bind (loop2 (fun rec6_ (sitting9_ : Int32) (σ10_ : St) =>
  if 0 < sitting9_ then
  Option.bind (loop2 (fun rec20_ (last23_ : Int32) (σ24_ : St) =>
  if last23_ < (σ24_ 27 3) then
  Option.bind (q1_tourFrom σ24_ sitting9_ last23_) fun x31_ =>
  Option.bind (sa σ24_ 30 384 ((sitting9_ * 6) + last23_) x31_) fun σ33_ =>
  lt (last23_ + 1) fun last35_ =>
  rec20_ last35_ σ33_
  else (some (last23_, σ24_))) fuelN (0 : Int32) σ10_) fun y17_ =>
  lt (sitting9_ + (-1)) fun sitting37_ =>
  rec6_ sitting37_ y17_.2
  else (some (sitting9_, σ10_))) fuelN sitting1_ σ) fun y3_ =>
  some y3_.2
abbrev rm1_sitDown : Room := { frames := 2, cells := 0, slots := 0, locals := 48 }
set_option maxHeartbeats 4000000 in
set_option maxRecDepth 100000 in
theorem p1_sitDown {Θ : Tz} {σ : St} {ρ : Option Value × St} (C : Zc Θ cX1_sitDown 3 RX1 none rm1_sitDown) (hkd : Θ.2.2.2.2.1 = kdC) {r : St} (hf : q1_sitDown σ = some r) (hρ : ρ = (none, r)) : Z Θ 3 0 0 (zQ Θ ρ) σ 0 [(0, .ref (zA Θ 27))] [] := by
  unfold q1_sitDown at hf
  refine z_aload_n C 0 dX1_sitDown_0 rfl rfl ?_
  refine fg1_25 C hkd dX1_sitDown_1 ?_
  obtain ⟨sitting1_, h2_, hf⟩ := lt_ hf
  refine z_istN C dX1_sitDown_4 h2_ rfl (Nat.le_of_ble_eq_true rfl) rfl ?_
  refine Z.sub [1, 0] rfl ?_
  obtain ⟨y3_, h4_, hf⟩ := ob hf
  suffices K5_ : Z Θ 3 0 0 (zQ Θ ρ) y3_.2 48 [(0, .ref (zA Θ 27)), (1, .int y3_.1)] [] by
    refine loop2_Z (P := fun (sitting9_ : Int32) (σ10_ : St) => Z Θ 3 0 0 (zQ Θ ρ) σ10_ 5 [(0, .ref (zA Θ 27)), (1, .int sitting9_)] []) ?_ fuelN sitting1_ σ h4_
    clear h4_
    intro rec6_ sitting9_ σ10_ h7_ h8_
    have K13_ : 0 < sitting9_ → Z Θ 3 0 0 (zQ Θ ρ) σ10_ 9 [(0, .ref (zA Θ 27)), (1, .int sitting9_)] [] := by
      intro h16_
      rw [if_pos h16_] at h8_
      refine z_iconst (v := 0) C dX1_sitDown_9 ic_0 ?_
      refine z_istN C dX1_sitDown_10 rfl rfl (Nat.le_of_ble_eq_true rfl) rfl ?_
      refine Z.sub [1, 2, 0] rfl ?_
      obtain ⟨y17_, h18_, h8_⟩ := ob h8_
      suffices K19_ : Z Θ 3 0 0 (zQ Θ ρ) y17_.2 42 [(0, .ref (zA Θ 27)), (1, .int sitting9_), (2, .int y17_.1)] [] by
        refine loop2_Z (P := fun (last23_ : Int32) (σ24_ : St) => Z Θ 3 0 0 (zQ Θ ρ) σ24_ 11 [(0, .ref (zA Θ 27)), (1, .int sitting9_), (2, .int last23_)] []) ?_ fuelN (0 : Int32) σ10_ h18_
        clear h18_
        intro rec20_ last23_ σ24_ h21_ h22_
        have K27_ : last23_ < (σ24_ 27 3) → Z Θ 3 0 0 (zQ Θ ρ) σ24_ 19 [(0, .ref (zA Θ 27)), (1, .int sitting9_), (2, .int last23_)] [] := by
          intro h30_
          rw [if_pos h30_] at h22_
          refine z_aload_n C 0 dX1_sitDown_19 rfl rfl ?_
          refine fg1_18 C hkd dX1_sitDown_20 ?_
          refine z_iload_n C 1 dX1_sitDown_23 rfl rfl ?_
          refine z_bipush (v := 6) C dX1_sitDown_24 bp_6 ?_
          refine z_imul C dX1_sitDown_26 ?_
          refine z_iload_n C 2 dX1_sitDown_27 rfl rfl ?_
          refine z_iadd C dX1_sitDown_28 ?_
          refine z_aload_n C 0 dX1_sitDown_29 rfl rfl ?_
          refine z_iload_n C 1 dX1_sitDown_30 rfl rfl ?_
          refine z_iload_n C 2 dX1_sitDown_31 rfl rfl ?_
          obtain ⟨x31_, h32_, h22_⟩ := ob h22_
          refine cr1_64 (sitting_a := sitting9_) (last_a := last23_) C hkd  h32_ ⟨(Nat.le_of_ble_eq_true rfl), (Nat.le_of_ble_eq_true rfl)⟩ (Nat.le_of_ble_eq_true rfl) ⟨Nat.zero_le _, Nat.zero_le _⟩ dX1_sitDown_32 ?_
          obtain ⟨σ33_, h34_, h22_⟩ := ob h22_
          refine z_sa C h34_ (kC_30 hkd) dX1_sitDown_35 ?_
          obtain ⟨last35_, h36_, h22_⟩ := lt_ h22_
          refine z_inc C 2 dX1_sitDown_36 rfl ic_1 h36_ (Nat.le_of_ble_eq_true rfl) rfl ?_
          refine z_goto C 11 dX1_sitDown_39 (by decide) ?_
          refine Z.sub [1, 2, 0] rfl ?_
          exact h21_ _ _ h22_
        have K28_ : ¬ (last23_ < (σ24_ 27 3)) → Z Θ 3 0 0 (zQ Θ ρ) σ24_ 42 [(0, .ref (zA Θ 27)), (1, .int sitting9_), (2, .int last23_)] [] := by
          intro h30_
          rw [if_neg h30_] at h22_
          cases h22_
          exact K19_
        refine z_iload_n C 2 dX1_sitDown_11 rfl rfl ?_
        refine z_aload_n C 0 dX1_sitDown_12 rfl rfl ?_
        refine fg1_21 C hkd dX1_sitDown_13 ?_
        refine c_lt_f C 42 dX1_sitDown_16 (by decide) (fun h29_ => ?_) (fun h29_ => ?_)
        · exact K27_ h29_
        · exact K28_ h29_
      obtain ⟨sitting37_, h38_, h8_⟩ := lt_ h8_
      refine z_inc C 1 dX1_sitDown_42 rfl ic_m1 h38_ (Nat.le_of_ble_eq_true rfl) rfl ?_
      refine z_goto C 5 dX1_sitDown_45 (by decide) ?_
      refine Z.sub [1, 0] rfl ?_
      exact h7_ _ _ h8_
    have K14_ : ¬ (0 < sitting9_) → Z Θ 3 0 0 (zQ Θ ρ) σ10_ 48 [(0, .ref (zA Θ 27)), (1, .int sitting9_)] [] := by
      intro h16_
      rw [if_neg h16_] at h8_
      cases h8_
      exact K5_
    refine z_iload_n C 1 dX1_sitDown_5 rfl rfl ?_
    refine c0_gt_f C 48 dX1_sitDown_6 (by decide) (fun h15_ => ?_) (fun h15_ => ?_)
    · exact K13_ h15_
    · exact K14_ h15_
  cases hf
  subst hρ
  exact z_vret C dX1_sitDown_48
theorem c1_sitDown {l : Launch} {kd : List KD} {w : Wp} {σ : St} (hkd : kd = kdC) (hi : zI kd w) {r : St} (hf : q1_sitDown σ = some r) : zM l kd w yX1_sitDown cX1_sitDown 3 none rm1_sitDown [.ref (w.2.2.1 27)] σ (none, r) := zM_of rfl hi (Nat.le_of_ble_eq_true rfl) (fun Θ hl hw C => by
  obtain ⟨Θ1, Θ2, Θ3, Θ4, Θ5⟩ := Θ
  cases hw
  exact p1_sitDown C hkd  hf rfl)
/-! LastLoaf$Friends.tableWarmth -/
theorem dX1_tableWarmth_0 : decode cX1_tableWarmth 0 = .ok (.aload_n 0, 1) := by decide +kernel
theorem dX1_tableWarmth_1 : decode cX1_tableWarmth 1 = .ok (.getfield 21, 3) := by decide +kernel
theorem dX1_tableWarmth_4 : decode cX1_tableWarmth 4 = .ok (.ifCond .ne 7, 3) := by decide +kernel
theorem dX1_tableWarmth_7 : decode cX1_tableWarmth 7 = .ok (.iconst 0, 1) := by decide +kernel
theorem dX1_tableWarmth_8 : decode cX1_tableWarmth 8 = .ok (.goto 10, 3) := by decide +kernel
theorem dX1_tableWarmth_11 : decode cX1_tableWarmth 11 = .ok (.aload_n 0, 1) := by decide +kernel
theorem dX1_tableWarmth_12 : decode cX1_tableWarmth 12 = .ok (.getfield 18, 3) := by decide +kernel
theorem dX1_tableWarmth_15 : decode cX1_tableWarmth 15 = .ok (.bipush 6, 2) := by decide +kernel
theorem dX1_tableWarmth_17 : decode cX1_tableWarmth 17 = .ok (.iaload, 1) := by decide +kernel
theorem dX1_tableWarmth_18 : decode cX1_tableWarmth 18 = .ok (.ireturn, 1) := by decide +kernel
def q1_tableWarmth (σ : St) : Option Int32 :=
  Option.bind (if (σ 27 3) = 0 then (some (0 : Int32)) else (Option.bind (ag σ 30 384 6) fun x7_ =>
  some x7_)) fun x1_ =>
  some x1_
abbrev rm1_tableWarmth : Room := { frames := 0, cells := 0, slots := 0, locals := 0 }
set_option maxHeartbeats 4000000 in
set_option maxRecDepth 100000 in
theorem p1_tableWarmth {Θ : Tz} {σ : St} {ρ : Option Value × St} (C : Zc Θ cX1_tableWarmth 1 RX1 (some .int) rm1_tableWarmth) (hkd : Θ.2.2.2.2.1 = kdC) {r : Int32} (hf : q1_tableWarmth σ = some r) (hρ : ρ = (some (.int r), σ)) : Z Θ 1 0 0 (zQ Θ ρ) σ 0 [(0, .ref (zA Θ 27))] [] := by
  unfold q1_tableWarmth at hf
  obtain ⟨x1_, h2_, hf⟩ := ob hf
  suffices K3_ : Z Θ 1 0 0 (zQ Θ ρ) σ 18 [(0, .ref (zA Θ 27))] [.int x1_] by
    have K4_ : (σ 27 3) = 0 → Z Θ 1 0 0 (zQ Θ ρ) σ 7 [(0, .ref (zA Θ 27))] [] := by
      intro h9_
      rw [if_pos h9_] at h2_
      refine z_iconst (v := 0) C dX1_tableWarmth_7 ic_0 ?_
      refine z_goto C 18 dX1_tableWarmth_8 (by decide) ?_
      cases h2_
      exact K3_
    have K5_ : ¬ ((σ 27 3) = 0) → Z Θ 1 0 0 (zQ Θ ρ) σ 11 [(0, .ref (zA Θ 27))] [] := by
      intro h9_
      rw [if_neg h9_] at h2_
      refine z_aload_n C 0 dX1_tableWarmth_11 rfl rfl ?_
      refine fg1_18 C hkd dX1_tableWarmth_12 ?_
      refine z_bipush (v := 6) C dX1_tableWarmth_15 bp_6 ?_
      obtain ⟨x7_, h8_, h2_⟩ := ob h2_
      refine z_ag C h8_ (kC_30 hkd) dX1_tableWarmth_17 ?_
      cases h2_
      exact K3_
    refine z_aload_n C 0 dX1_tableWarmth_0 rfl rfl ?_
    refine fg1_21 C hkd dX1_tableWarmth_1 ?_
    refine c0_eq_f C 11 dX1_tableWarmth_4 (by decide) (fun h6_ => ?_) (fun h6_ => ?_)
    · exact K4_ h6_
    · exact K5_ h6_
  cases hf
  subst hρ
  exact z_iret C dX1_tableWarmth_18
theorem c1_tableWarmth {l : Launch} {kd : List KD} {w : Wp} {σ : St} (hkd : kd = kdC) (hi : zI kd w) {r : Int32} (hf : q1_tableWarmth σ = some r) : zM l kd w yX1_tableWarmth cX1_tableWarmth 1 (some .int) rm1_tableWarmth [.ref (w.2.2.1 27)] σ (some (.int r), σ) := zM_of rfl hi (Nat.le_of_ble_eq_true rfl) (fun Θ hl hw C => by
  obtain ⟨Θ1, Θ2, Θ3, Θ4, Θ5⟩ := Θ
  cases hw
  exact p1_tableWarmth C hkd  hf rfl)
/-! LastLoaf.table -/
theorem w_4_59 : Cond.code ({ cls := "LastLoaf$Friends", name := "sitDown", desc := "()V" } : MethodName) prog_3_method_10_code (3 : Nat) (Option.none : Option ClassFile.FieldType) ∈ TB := tb_in (lwt_4 (List.mem_of_getElem? (i := 59) (by decide +kernel))) rfl
theorem w_4_56 : Cond.methodLink "LastLoaf" (376 : Nat) ({ cls := "LastLoaf$Friends", name := "sitDown", desc := "()V" } : MethodName) ∈ TB := tb_in (lwt_4 (List.mem_of_getElem? (i := 56) (by decide +kernel))) rfl
theorem w_4_57 : Cond.instanceMethod ({ cls := "LastLoaf$Friends", name := "sitDown", desc := "()V" } : MethodName) ∈ TB := tb_in (lwt_4 (List.mem_of_getElem? (i := 57) (by decide +kernel))) rfl
theorem w_4_58 : Cond.selects "LastLoaf$Friends" ({ cls := "LastLoaf$Friends", name := "sitDown", desc := "()V" } : MethodName) ({ cls := "LastLoaf$Friends", name := "sitDown", desc := "()V" } : MethodName) ∈ TB := tb_in (lwt_4 (List.mem_of_getElem? (i := 58) (by decide +kernel))) rfl
theorem cr11_376 {Θ : Tz} {cc : ByteArray} {nL kc ks : Nat} {ret : Option FieldType} {rm : Room} {Q : State → Prop} {σ : St} {pc : Nat} {lv : List (Nat × Value)} {st : List Value} (C : Zc Θ cc nL RX11 ret rm) (hkd : Θ.2.2.2.2.1 = kdC) {r : St} (hx : q1_sitDown σ = some r) (hrm : rm1_sitDown.frames + 1 ≤ rm.frames ∧ 8 + (3 + 11) + rm1_sitDown.locals ≤ rm.locals) (hcat : (st.map fun v => v.category).sum ≤ 8) (hk : kc ≤ rm.cells ∧ ks ≤ rm.slots) (hd : decode cc pc = .ok (.invokevirtual 376, 3)) (kk : Z Θ nL kc ks Q r (pc + 3) lv st) : Z Θ nL kc ks Q σ pc lv (.ref (zA Θ 27) :: st) := z_callV C 27 [] (none, r) 0 (kC_27 hkd) rfl (c1_sitDown hkd (zc_inj C) hx) w_4_59 w_4_56 w_4_57 w_4_58 w_1_13 ⟨rfl, rfl, hrm.1, hrm.2⟩ (by decide +kernel) rfl rfl hcat hk hd kk
theorem w_4_72 : Cond.code ({ cls := "LastLoaf$Friends", name := "tableWarmth", desc := "()I" } : MethodName) prog_3_method_13_code (1 : Nat) (Option.some ClassFile.FieldType.int) ∈ TB := tb_in (lwt_4 (List.mem_of_getElem? (i := 72) (by decide +kernel))) rfl
theorem w_4_69 : Cond.methodLink "LastLoaf" (379 : Nat) ({ cls := "LastLoaf$Friends", name := "tableWarmth", desc := "()I" } : MethodName) ∈ TB := tb_in (lwt_4 (List.mem_of_getElem? (i := 69) (by decide +kernel))) rfl
theorem w_4_70 : Cond.instanceMethod ({ cls := "LastLoaf$Friends", name := "tableWarmth", desc := "()I" } : MethodName) ∈ TB := tb_in (lwt_4 (List.mem_of_getElem? (i := 70) (by decide +kernel))) rfl
theorem w_4_71 : Cond.selects "LastLoaf$Friends" ({ cls := "LastLoaf$Friends", name := "tableWarmth", desc := "()I" } : MethodName) ({ cls := "LastLoaf$Friends", name := "tableWarmth", desc := "()I" } : MethodName) ∈ TB := tb_in (lwt_4 (List.mem_of_getElem? (i := 71) (by decide +kernel))) rfl
theorem cr11_379 {Θ : Tz} {cc : ByteArray} {nL kc ks : Nat} {ret : Option FieldType} {rm : Room} {Q : State → Prop} {σ : St} {pc : Nat} {lv : List (Nat × Value)} {st : List Value} (C : Zc Θ cc nL RX11 ret rm) (hkd : Θ.2.2.2.2.1 = kdC) {r : Int32} (hx : q1_tableWarmth σ = some r) (hrm : rm1_tableWarmth.frames + 1 ≤ rm.frames ∧ 8 + (1 + 11) + rm1_tableWarmth.locals ≤ rm.locals) (hcat : (st.map fun v => v.category).sum ≤ 8) (hk : kc ≤ rm.cells ∧ ks ≤ rm.slots) (hd : decode cc pc = .ok (.invokevirtual 379, 3)) (kk : Z Θ nL kc ks Q σ (pc + 3) lv (.int r :: st)) : Z Θ nL kc ks Q σ pc lv (.ref (zA Θ 27) :: st) := z_callV C 27 [] (some (.int r), σ) 0 (kC_27 hkd) rfl (c1_tableWarmth hkd (zc_inj C) hx) w_4_72 w_4_69 w_4_70 w_4_71 w_1_13 ⟨rfl, rfl, hrm.1, hrm.2⟩ (by decide +kernel) rfl rfl hcat hk hd kk
theorem w_4_76 : Cond.code ({ cls := "LastLoaf$Friends", name := "seatAt", desc := "(I)I" } : MethodName) prog_3_method_14_code (5 : Nat) (Option.some ClassFile.FieldType.int) ∈ TB := tb_in (lwt_4 (List.mem_of_getElem? (i := 76) (by decide +kernel))) rfl
theorem w_4_73 : Cond.methodLink "LastLoaf" (382 : Nat) ({ cls := "LastLoaf$Friends", name := "seatAt", desc := "(I)I" } : MethodName) ∈ TB := tb_in (lwt_4 (List.mem_of_getElem? (i := 73) (by decide +kernel))) rfl
theorem w_4_74 : Cond.instanceMethod ({ cls := "LastLoaf$Friends", name := "seatAt", desc := "(I)I" } : MethodName) ∈ TB := tb_in (lwt_4 (List.mem_of_getElem? (i := 74) (by decide +kernel))) rfl
theorem w_4_75 : Cond.selects "LastLoaf$Friends" ({ cls := "LastLoaf$Friends", name := "seatAt", desc := "(I)I" } : MethodName) ({ cls := "LastLoaf$Friends", name := "seatAt", desc := "(I)I" } : MethodName) ∈ TB := tb_in (lwt_4 (List.mem_of_getElem? (i := 75) (by decide +kernel))) rfl
theorem cr11_382 {Θ : Tz} {cc : ByteArray} {nL kc ks : Nat} {ret : Option FieldType} {rm : Room} {Q : State → Prop} {σ : St} {pc : Nat} {lv : List (Nat × Value)} {st : List Value} (C : Zc Θ cc nL RX11 ret rm) (hkd : Θ.2.2.2.2.1 = kdC) {k_a : Int32} {r : Int32} (hx : q1_seatAt σ k_a = some r) (hrm : rm1_seatAt.frames + 1 ≤ rm.frames ∧ 8 + (5 + 11) + rm1_seatAt.locals ≤ rm.locals) (hcat : (st.map fun v => v.category).sum ≤ 8) (hk : kc ≤ rm.cells ∧ ks ≤ rm.slots) (hd : decode cc pc = .ok (.invokevirtual 382, 3)) (kk : Z Θ nL kc ks Q σ (pc + 3) lv (.int r :: st)) : Z Θ nL kc ks Q σ pc lv (.int k_a :: .ref (zA Θ 27) :: st) := z_callV C 27 [.int k_a] (some (.int r), σ) 1 (kC_27 hkd) rfl (c1_seatAt (k_a := k_a) hkd (zc_inj C) hx) w_4_76 w_4_73 w_4_74 w_4_75 w_1_13 ⟨rfl, rfl, hrm.1, hrm.2⟩ (by decide +kernel) rfl rfl hcat hk hd kk
theorem dX11_table_0 : decode cX11_table 0 = .ok (.aload_n 0, 1) := by decide +kernel
theorem dX11_table_1 : decode cX11_table 1 = .ok (.getfield 91, 3) := by decide +kernel
theorem dX11_table_4 : decode cX11_table 4 = .ok (.aload_n 0, 1) := by decide +kernel
theorem dX11_table_5 : decode cX11_table 5 = .ok (.getfield 19, 3) := by decide +kernel
theorem dX11_table_8 : decode cX11_table 8 = .ok (.invokevirtual 361, 3) := by decide +kernel
theorem dX11_table_11 : decode cX11_table 11 = .ok (.aload_n 0, 1) := by decide +kernel
theorem dX11_table_12 : decode cX11_table 12 = .ok (.getfield 91, 3) := by decide +kernel
theorem dX11_table_15 : decode cX11_table 15 = .ok (.invokevirtual 376, 3) := by decide +kernel
theorem dX11_table_18 : decode cX11_table 18 = .ok (.iload_n 1, 1) := by decide +kernel
theorem dX11_table_19 : decode cX11_table 19 = .ok (.iconst (-1), 1) := by decide +kernel
theorem dX11_table_20 : decode cX11_table 20 = .ok (.if_icmp .ne 13, 3) := by decide +kernel
theorem dX11_table_23 : decode cX11_table 23 = .ok (.aload_n 0, 1) := by decide +kernel
theorem dX11_table_24 : decode cX11_table 24 = .ok (.getfield 91, 3) := by decide +kernel
theorem dX11_table_27 : decode cX11_table 27 = .ok (.invokevirtual 379, 3) := by decide +kernel
theorem dX11_table_30 : decode cX11_table 30 = .ok (.goto 11, 3) := by decide +kernel
theorem dX11_table_33 : decode cX11_table 33 = .ok (.aload_n 0, 1) := by decide +kernel
theorem dX11_table_34 : decode cX11_table 34 = .ok (.getfield 91, 3) := by decide +kernel
theorem dX11_table_37 : decode cX11_table 37 = .ok (.iload_n 1, 1) := by decide +kernel
theorem dX11_table_38 : decode cX11_table 38 = .ok (.invokevirtual 382, 3) := by decide +kernel
theorem dX11_table_41 : decode cX11_table 41 = .ok (.ireturn, 1) := by decide +kernel
def q11_table (σ : St) (k_a : Int32) : Option (Int32 × St) :=
  Option.bind (q1_meet σ 44) fun x1_ =>
  Option.bind (q1_sitDown x1_) fun x3_ =>
  Option.bind (if k_a = (-1) then (Option.bind (q1_tableWarmth x3_) fun x11_ =>
  some x11_) else (Option.bind (q1_seatAt x3_ k_a) fun x13_ =>
  some x13_)) fun x5_ =>
  some (x5_, x3_)
abbrev rm11_table : Room := { frames := 3, cells := 0, slots := 0, locals := 72 }
set_option maxHeartbeats 4000000 in
set_option maxRecDepth 100000 in
theorem p11_table {Θ : Tz} {σ : St} {ρ : Option Value × St} (C : Zc Θ cX11_table 2 RX11 (some .int) rm11_table) (hkd : Θ.2.2.2.2.1 = kdC) {k_a : Int32} {r : (Int32 × St)} (hf : q11_table σ k_a = some r) (hρ : ρ = (some (.int r.1), r.2)) : Z Θ 2 0 0 (zQ Θ ρ) σ 0 [(0, .ref (zA Θ 0)), (1, .int k_a)] [] := by
  unfold q11_table at hf
  refine z_aload_n C 0 dX11_table_0 rfl rfl ?_
  refine fg11_91 C hkd dX11_table_1 ?_
  refine z_aload_n C 0 dX11_table_4 rfl rfl ?_
  refine fg11_19 C hkd dX11_table_5 ?_
  obtain ⟨x1_, h2_, hf⟩ := ob hf
  refine cr11_361 (village_a := 44) C hkd isV_44 h2_ ⟨(Nat.le_of_ble_eq_true rfl), (Nat.le_of_ble_eq_true rfl)⟩ (Nat.le_of_ble_eq_true rfl) ⟨Nat.zero_le _, Nat.zero_le _⟩ dX11_table_8 ?_
  refine z_aload_n C 0 dX11_table_11 rfl rfl ?_
  refine fg11_91 C hkd dX11_table_12 ?_
  obtain ⟨x3_, h4_, hf⟩ := ob hf
  refine cr11_376 C hkd  h4_ ⟨(Nat.le_of_ble_eq_true rfl), (Nat.le_of_ble_eq_true rfl)⟩ (Nat.le_of_ble_eq_true rfl) ⟨Nat.zero_le _, Nat.zero_le _⟩ dX11_table_15 ?_
  obtain ⟨x5_, h6_, hf⟩ := ob hf
  suffices K7_ : Z Θ 2 0 0 (zQ Θ ρ) x3_ 41 [(0, .ref (zA Θ 0)), (1, .int k_a)] [.int x5_] by
    have K8_ : k_a = (-1) → Z Θ 2 0 0 (zQ Θ ρ) x3_ 23 [(0, .ref (zA Θ 0)), (1, .int k_a)] [] := by
      intro h15_
      rw [if_pos h15_] at h6_
      refine z_aload_n C 0 dX11_table_23 rfl rfl ?_
      refine fg11_91 C hkd dX11_table_24 ?_
      obtain ⟨x11_, h12_, h6_⟩ := ob h6_
      refine cr11_379 C hkd  h12_ ⟨(Nat.le_of_ble_eq_true rfl), (Nat.le_of_ble_eq_true rfl)⟩ (Nat.le_of_ble_eq_true rfl) ⟨Nat.zero_le _, Nat.zero_le _⟩ dX11_table_27 ?_
      refine z_goto C 41 dX11_table_30 (by decide) ?_
      cases h6_
      exact K7_
    have K9_ : ¬ (k_a = (-1)) → Z Θ 2 0 0 (zQ Θ ρ) x3_ 33 [(0, .ref (zA Θ 0)), (1, .int k_a)] [] := by
      intro h15_
      rw [if_neg h15_] at h6_
      refine z_aload_n C 0 dX11_table_33 rfl rfl ?_
      refine fg11_91 C hkd dX11_table_34 ?_
      refine z_iload_n C 1 dX11_table_37 rfl rfl ?_
      obtain ⟨x13_, h14_, h6_⟩ := ob h6_
      refine cr11_382 (k_a := k_a) C hkd  h14_ ⟨(Nat.le_of_ble_eq_true rfl), (Nat.le_of_ble_eq_true rfl)⟩ (Nat.le_of_ble_eq_true rfl) ⟨Nat.zero_le _, Nat.zero_le _⟩ dX11_table_38 ?_
      cases h6_
      exact K7_
    refine z_iload_n C 1 dX11_table_18 rfl rfl ?_
    refine z_iconst (v := (-1)) C dX11_table_19 ic_m1 ?_
    refine c_eq_f C 33 dX11_table_20 (by decide) (fun h10_ => ?_) (fun h10_ => ?_)
    · exact K8_ h10_
    · exact K9_ h10_
  cases hf
  subst hρ
  exact z_iret C dX11_table_41
theorem c11_table {l : Launch} {kd : List KD} {w : Wp} {σ : St} {k_a : Int32} (hkd : kd = kdC) (hi : zI kd w) {r : (Int32 × St)} (hf : q11_table σ k_a = some r) : zM l kd w yX11_table cX11_table 2 (some .int) rm11_table [.ref (w.2.2.1 0), .int k_a] σ (some (.int r.1), r.2) := zM_of rfl hi (Nat.le_of_ble_eq_true rfl) (fun Θ hl hw C => by
  obtain ⟨Θ1, Θ2, Θ3, Θ4, Θ5⟩ := Θ
  cases hw
  exact p11_table C hkd  hf rfl)
/-! LastLoaf$Village.hungerOfAll -/
theorem dX10_hungerOfAll_0 : decode cX10_hungerOfAll 0 = .ok (.iconst 0, 1) := by decide +kernel
theorem dX10_hungerOfAll_1 : decode cX10_hungerOfAll 1 = .ok (.istore_n 1, 1) := by decide +kernel
theorem dX10_hungerOfAll_2 : decode cX10_hungerOfAll 2 = .ok (.iconst 0, 1) := by decide +kernel
theorem dX10_hungerOfAll_3 : decode cX10_hungerOfAll 3 = .ok (.istore_n 2, 1) := by decide +kernel
theorem dX10_hungerOfAll_4 : decode cX10_hungerOfAll 4 = .ok (.iload_n 2, 1) := by decide +kernel
theorem dX10_hungerOfAll_5 : decode cX10_hungerOfAll 5 = .ok (.aload_n 0, 1) := by decide +kernel
theorem dX10_hungerOfAll_6 : decode cX10_hungerOfAll 6 = .ok (.getfield 40, 3) := by decide +kernel
theorem dX10_hungerOfAll_9 : decode cX10_hungerOfAll 9 = .ok (.if_icmp .ge 18, 3) := by decide +kernel
theorem dX10_hungerOfAll_12 : decode cX10_hungerOfAll 12 = .ok (.iload_n 1, 1) := by decide +kernel
theorem dX10_hungerOfAll_13 : decode cX10_hungerOfAll 13 = .ok (.aload_n 0, 1) := by decide +kernel
theorem dX10_hungerOfAll_14 : decode cX10_hungerOfAll 14 = .ok (.getfield 9, 3) := by decide +kernel
theorem dX10_hungerOfAll_17 : decode cX10_hungerOfAll 17 = .ok (.iload_n 2, 1) := by decide +kernel
theorem dX10_hungerOfAll_18 : decode cX10_hungerOfAll 18 = .ok (.iaload, 1) := by decide +kernel
theorem dX10_hungerOfAll_19 : decode cX10_hungerOfAll 19 = .ok (.iadd, 1) := by decide +kernel
theorem dX10_hungerOfAll_20 : decode cX10_hungerOfAll 20 = .ok (.istore_n 1, 1) := by decide +kernel
theorem dX10_hungerOfAll_21 : decode cX10_hungerOfAll 21 = .ok (.iinc 2 1, 3) := by decide +kernel
theorem dX10_hungerOfAll_24 : decode cX10_hungerOfAll 24 = .ok (.goto (-20), 3) := by decide +kernel
theorem dX10_hungerOfAll_27 : decode cX10_hungerOfAll 27 = .ok (.iload_n 1, 1) := by decide +kernel
theorem dX10_hungerOfAll_28 : decode cX10_hungerOfAll 28 = .ok (.ireturn, 1) := by decide +kernel
def q10_hungerOfAll (σ : St) (th : Nat) : Option Int32 :=
  Option.bind (loop2 (fun rec4_ (sum7_ : Int32) (p8_ : Int32) =>
  if p8_ < (σ th 8) then
  Option.bind (ag σ (th + 1) 6 p8_) fun x15_ =>
  lt (sum7_ + x15_) fun sum17_ =>
  lt (p8_ + 1) fun p19_ =>
  rec4_ sum17_ p19_
  else (some (sum7_, p8_))) fuelN (0 : Int32) (0 : Int32)) fun y1_ =>
  some y1_.1
abbrev rm10_hungerOfAll : Room := { frames := 0, cells := 0, slots := 0, locals := 0 }
set_option maxHeartbeats 4000000 in
set_option maxRecDepth 100000 in
theorem p10_hungerOfAll {Θ : Tz} {σ : St} {ρ : Option Value × St} (C : Zc Θ cX10_hungerOfAll 3 RX10 (some .int) rm10_hungerOfAll) (hkd : Θ.2.2.2.2.1 = kdC) {th : Nat} (hth : isV th) {r : Int32} (hf : q10_hungerOfAll σ th = some r) (hρ : ρ = (some (.int r), σ)) : Z Θ 3 0 0 (zQ Θ ρ) σ 0 [(0, .ref (zA Θ th))] [] := by
  unfold q10_hungerOfAll at hf
  refine z_iconst (v := 0) C dX10_hungerOfAll_0 ic_0 ?_
  refine z_istN C dX10_hungerOfAll_1 rfl rfl (Nat.le_of_ble_eq_true rfl) rfl ?_
  refine z_iconst (v := 0) C dX10_hungerOfAll_2 ic_0 ?_
  refine z_istN C dX10_hungerOfAll_3 rfl rfl (Nat.le_of_ble_eq_true rfl) rfl ?_
  refine Z.sub [2, 1, 0] rfl ?_
  obtain ⟨y1_, h2_, hf⟩ := ob hf
  suffices K3_ : Z Θ 3 0 0 (zQ Θ ρ) σ 27 [(0, .ref (zA Θ th)), (1, .int y1_.1), (2, .int y1_.2)] [] by
    refine loop2_Z (P := fun (sum7_ : Int32) (p8_ : Int32) => Z Θ 3 0 0 (zQ Θ ρ) σ 4 [(0, .ref (zA Θ th)), (1, .int sum7_), (2, .int p8_)] []) ?_ fuelN (0 : Int32) (0 : Int32) h2_
    clear h2_
    intro rec4_ sum7_ p8_ h5_ h6_
    have K11_ : p8_ < (σ th 8) → Z Θ 3 0 0 (zQ Θ ρ) σ 12 [(0, .ref (zA Θ th)), (1, .int sum7_), (2, .int p8_)] [] := by
      intro h14_
      rw [if_pos h14_] at h6_
      refine z_iload_n C 1 dX10_hungerOfAll_12 rfl rfl ?_
      refine z_aload_n C 0 dX10_hungerOfAll_13 rfl rfl ?_
      refine fg10_9 C hkd hth dX10_hungerOfAll_14 ?_
      refine z_iload_n C 2 dX10_hungerOfAll_17 rfl rfl ?_
      obtain ⟨x15_, h16_, h6_⟩ := ob h6_
      refine z_ag C h16_ (kV_1 hkd hth) dX10_hungerOfAll_18 ?_
      refine z_iadd C dX10_hungerOfAll_19 ?_
      obtain ⟨sum17_, h18_, h6_⟩ := lt_ h6_
      refine z_istN C dX10_hungerOfAll_20 h18_ rfl (Nat.le_of_ble_eq_true rfl) rfl ?_
      obtain ⟨p19_, h20_, h6_⟩ := lt_ h6_
      refine z_inc C 2 dX10_hungerOfAll_21 rfl ic_1 h20_ (Nat.le_of_ble_eq_true rfl) rfl ?_
      refine z_goto C 4 dX10_hungerOfAll_24 (by decide) ?_
      refine Z.sub [2, 1, 0] rfl ?_
      exact h5_ _ _ h6_
    have K12_ : ¬ (p8_ < (σ th 8)) → Z Θ 3 0 0 (zQ Θ ρ) σ 27 [(0, .ref (zA Θ th)), (1, .int sum7_), (2, .int p8_)] [] := by
      intro h14_
      rw [if_neg h14_] at h6_
      cases h6_
      exact K3_
    refine z_iload_n C 2 dX10_hungerOfAll_4 rfl rfl ?_
    refine z_aload_n C 0 dX10_hungerOfAll_5 rfl rfl ?_
    refine fg10_40 C hkd hth dX10_hungerOfAll_6 ?_
    refine c_lt_f C 27 dX10_hungerOfAll_9 (by decide) (fun h13_ => ?_) (fun h13_ => ?_)
    · exact K11_ h13_
    · exact K12_ h13_
  refine z_iload_n C 1 dX10_hungerOfAll_27 rfl rfl ?_
  cases hf
  subst hρ
  exact z_iret C dX10_hungerOfAll_28
theorem c10_hungerOfAll {l : Launch} {kd : List KD} {w : Wp} {σ : St} {th : Nat} (hkd : kd = kdC) (hi : zI kd w) (hth : isV th) {r : Int32} (hf : q10_hungerOfAll σ th = some r) : zM l kd w yX10_hungerOfAll cX10_hungerOfAll 3 (some .int) rm10_hungerOfAll [.ref (w.2.2.1 th)] σ (some (.int r), σ) := zM_of rfl hi (Nat.le_of_ble_eq_true rfl) (fun Θ hl hw C => by
  obtain ⟨Θ1, Θ2, Θ3, Θ4, Θ5⟩ := Θ
  cases hw
  exact p10_hungerOfAll C hkd hth hf rfl)
/-! LastLoaf.slices -/
theorem w_4_153 : Cond.code ({ cls := "LastLoaf$Village", name := "hungerOfAll", desc := "()I" } : MethodName) prog_12_method_11_code (3 : Nat) (Option.some ClassFile.FieldType.int) ∈ TB := tb_in (lwt_4 (List.mem_of_getElem? (i := 153) (by decide +kernel))) rfl
theorem w_4_150 : Cond.methodLink "LastLoaf" (385 : Nat) ({ cls := "LastLoaf$Village", name := "hungerOfAll", desc := "()I" } : MethodName) ∈ TB := tb_in (lwt_4 (List.mem_of_getElem? (i := 150) (by decide +kernel))) rfl
theorem w_4_151 : Cond.instanceMethod ({ cls := "LastLoaf$Village", name := "hungerOfAll", desc := "()I" } : MethodName) ∈ TB := tb_in (lwt_4 (List.mem_of_getElem? (i := 151) (by decide +kernel))) rfl
theorem w_4_152 : Cond.selects "LastLoaf$Village" ({ cls := "LastLoaf$Village", name := "hungerOfAll", desc := "()I" } : MethodName) ({ cls := "LastLoaf$Village", name := "hungerOfAll", desc := "()I" } : MethodName) ∈ TB := tb_in (lwt_4 (List.mem_of_getElem? (i := 152) (by decide +kernel))) rfl
theorem cr11_385 {Θ : Tz} {cc : ByteArray} {nL kc ks : Nat} {ret : Option FieldType} {rm : Room} {Q : State → Prop} {σ : St} {pc : Nat} {lv : List (Nat × Value)} {st : List Value} (C : Zc Θ cc nL RX11 ret rm) (hkd : Θ.2.2.2.2.1 = kdC) {th : Nat} (hth : isV th) {r : Int32} (hx : q10_hungerOfAll σ th = some r) (hrm : rm10_hungerOfAll.frames + 1 ≤ rm.frames ∧ 8 + (3 + 11) + rm10_hungerOfAll.locals ≤ rm.locals) (hcat : (st.map fun v => v.category).sum ≤ 8) (hk : kc ≤ rm.cells ∧ ks ≤ rm.slots) (hd : decode cc pc = .ok (.invokevirtual 385, 3)) (kk : Z Θ nL kc ks Q σ (pc + 3) lv (.int r :: st)) : Z Θ nL kc ks Q σ pc lv (.ref (zA Θ th) :: st) := z_callV C th [] (some (.int r), σ) 0 (kV_0 hkd hth) rfl (c10_hungerOfAll (th := th) hkd (zc_inj C) hth hx) w_4_153 w_4_150 w_4_151 w_4_152 w_1_3 ⟨rfl, rfl, hrm.1, hrm.2⟩ (by decide +kernel) rfl rfl hcat hk hd kk
theorem dX11_slices_0 : decode cX11_slices 0 = .ok (.aload_n 0, 1) := by decide +kernel
theorem dX11_slices_1 : decode cX11_slices 1 = .ok (.iload_n 1, 1) := by decide +kernel
theorem dX11_slices_2 : decode cX11_slices 2 = .ok (.invokevirtual 151, 3) := by decide +kernel
theorem dX11_slices_5 : decode cX11_slices 5 = .ok (.iload_n 2, 1) := by decide +kernel
theorem dX11_slices_6 : decode cX11_slices 6 = .ok (.iconst 0, 1) := by decide +kernel
theorem dX11_slices_7 : decode cX11_slices 7 = .ok (.sipush 999, 3) := by decide +kernel
theorem dX11_slices_10 : decode cX11_slices 10 = .ok (.invokestatic 231, 3) := by decide +kernel
theorem dX11_slices_13 : decode cX11_slices 13 = .ok (.aload_n 0, 1) := by decide +kernel
theorem dX11_slices_14 : decode cX11_slices 14 = .ok (.getfield 19, 3) := by decide +kernel
theorem dX11_slices_17 : decode cX11_slices 17 = .ok (.invokevirtual 385, 3) := by decide +kernel
theorem dX11_slices_20 : decode cX11_slices 20 = .ok (.istore_n 3, 1) := by decide +kernel
theorem dX11_slices_21 : decode cX11_slices 21 = .ok (.iload_n 3, 1) := by decide +kernel
theorem dX11_slices_22 : decode cX11_slices 22 = .ok (.ifCond .ne 5, 3) := by decide +kernel
theorem dX11_slices_25 : decode cX11_slices 25 = .ok (.iconst 0, 1) := by decide +kernel
theorem dX11_slices_26 : decode cX11_slices 26 = .ok (.ireturn, 1) := by decide +kernel
theorem dX11_slices_27 : decode cX11_slices 27 = .ok (.iload_n 2, 1) := by decide +kernel
theorem dX11_slices_28 : decode cX11_slices 28 = .ok (.istore 4, 2) := by decide +kernel
theorem dX11_slices_30 : decode cX11_slices 30 = .ok (.iconst 0, 1) := by decide +kernel
theorem dX11_slices_31 : decode cX11_slices 31 = .ok (.istore 5, 2) := by decide +kernel
theorem dX11_slices_33 : decode cX11_slices 33 = .ok (.iload 5, 2) := by decide +kernel
theorem dX11_slices_35 : decode cX11_slices 35 = .ok (.aload_n 0, 1) := by decide +kernel
theorem dX11_slices_36 : decode cX11_slices 36 = .ok (.getfield 19, 3) := by decide +kernel
theorem dX11_slices_39 : decode cX11_slices 39 = .ok (.getfield 355, 3) := by decide +kernel
theorem dX11_slices_42 : decode cX11_slices 42 = .ok (.if_icmp .ge 28, 3) := by decide +kernel
theorem dX11_slices_45 : decode cX11_slices 45 = .ok (.iload 4, 2) := by decide +kernel
theorem dX11_slices_47 : decode cX11_slices 47 = .ok (.iload_n 2, 1) := by decide +kernel
theorem dX11_slices_48 : decode cX11_slices 48 = .ok (.aload_n 0, 1) := by decide +kernel
theorem dX11_slices_49 : decode cX11_slices 49 = .ok (.getfield 19, 3) := by decide +kernel
theorem dX11_slices_52 : decode cX11_slices 52 = .ok (.getfield 154, 3) := by decide +kernel
theorem dX11_slices_55 : decode cX11_slices 55 = .ok (.iload 5, 2) := by decide +kernel
theorem dX11_slices_57 : decode cX11_slices 57 = .ok (.iaload, 1) := by decide +kernel
theorem dX11_slices_58 : decode cX11_slices 58 = .ok (.imul, 1) := by decide +kernel
theorem dX11_slices_59 : decode cX11_slices 59 = .ok (.iload_n 3, 1) := by decide +kernel
theorem dX11_slices_60 : decode cX11_slices 60 = .ok (.idiv, 1) := by decide +kernel
theorem dX11_slices_61 : decode cX11_slices 61 = .ok (.isub, 1) := by decide +kernel
theorem dX11_slices_62 : decode cX11_slices 62 = .ok (.istore 4, 2) := by decide +kernel
theorem dX11_slices_64 : decode cX11_slices 64 = .ok (.iinc 5 1, 3) := by decide +kernel
theorem dX11_slices_67 : decode cX11_slices 67 = .ok (.goto (-34), 3) := by decide +kernel
theorem dX11_slices_70 : decode cX11_slices 70 = .ok (.iload_n 2, 1) := by decide +kernel
theorem dX11_slices_71 : decode cX11_slices 71 = .ok (.aload_n 0, 1) := by decide +kernel
theorem dX11_slices_72 : decode cX11_slices 72 = .ok (.getfield 19, 3) := by decide +kernel
theorem dX11_slices_75 : decode cX11_slices 75 = .ok (.getfield 154, 3) := by decide +kernel
theorem dX11_slices_78 : decode cX11_slices 78 = .ok (.iload_n 1, 1) := by decide +kernel
theorem dX11_slices_79 : decode cX11_slices 79 = .ok (.iaload, 1) := by decide +kernel
theorem dX11_slices_80 : decode cX11_slices 80 = .ok (.imul, 1) := by decide +kernel
theorem dX11_slices_81 : decode cX11_slices 81 = .ok (.iload_n 3, 1) := by decide +kernel
theorem dX11_slices_82 : decode cX11_slices 82 = .ok (.idiv, 1) := by decide +kernel
theorem dX11_slices_83 : decode cX11_slices 83 = .ok (.iload_n 1, 1) := by decide +kernel
theorem dX11_slices_84 : decode cX11_slices 84 = .ok (.iload 4, 2) := by decide +kernel
theorem dX11_slices_86 : decode cX11_slices 86 = .ok (.if_icmp .ge 7, 3) := by decide +kernel
theorem dX11_slices_89 : decode cX11_slices 89 = .ok (.iconst 1, 1) := by decide +kernel
theorem dX11_slices_90 : decode cX11_slices 90 = .ok (.goto 4, 3) := by decide +kernel
theorem dX11_slices_93 : decode cX11_slices 93 = .ok (.iconst 0, 1) := by decide +kernel
theorem dX11_slices_94 : decode cX11_slices 94 = .ok (.iadd, 1) := by decide +kernel
theorem dX11_slices_95 : decode cX11_slices 95 = .ok (.ireturn, 1) := by decide +kernel
def q11_slices (σ : St) (person_a : Int32) (n_a : Int32) : Option (Sum Nat Int32 × St) :=
  thn (q11_needPerson σ person_a) σ
  (thn (q11_needNumber n_a 0 999) σ
  (Option.bind (q10_hungerOfAll σ 44) fun x5_ =>
  if x5_ = 0 then (some (.inr 0, σ)) else
  Option.bind (loop2 (fun rec14_ (left17_ : Int32) (p18_ : Int32) =>
  if p18_ < (σ 44 8) then
  Option.bind (ag σ (44 + 1) 6 p18_) fun x25_ =>
  Option.bind (dv (n_a * x25_) x5_) fun x27_ =>
  lt (left17_ - x27_) fun left29_ =>
  lt (p18_ + 1) fun p31_ =>
  rec14_ left29_ p31_
  else (some (left17_, p18_))) fuelN n_a (0 : Int32)) fun y11_ =>
  Option.bind (ag σ (44 + 1) 6 person_a) fun x33_ =>
  Option.bind (dv (n_a * x33_) x5_) fun x35_ =>
  some (.inr (x35_ + (if person_a < y11_.1 then 1 else 0)), σ)))
abbrev rm11_slices : Room := { frames := 7, cells := 2, slots := 12, locals := 112 }
set_option maxHeartbeats 4000000 in
set_option maxRecDepth 100000 in
theorem p11_slices {Θ : Tz} {σ : St} {ω : Om} (C : Zc Θ cX11_slices 6 RX11 (some .int) rm11_slices) (hkd : Θ.2.2.2.2.1 = kdC) (hlt : Θ.1.2.1.stackTraces = false) (het : ∀ x ∈ Θ.2.2.1.2.exceptionTable.toList, False) {person_a : Int32} {n_a : Int32} {r : (Sum Nat Int32 × St)} (hf : q11_slices σ person_a n_a = some r) (hω : ω = om (fun v => some (.int v)) r) : Z Θ 6 0 0 (zQX Θ ω 2 12) σ 0 [(0, .ref (zA Θ 0)), (1, .int person_a), (2, .int n_a)] [] := by
  unfold q11_slices at hf
  refine z_aload_n C 0 dX11_slices_0 rfl rfl ?_
  refine z_iload_n C 1 dX11_slices_1 rfl rfl ?_
  refine zx_callV C het 0 [.int person_a] (q11_needPerson σ person_a) 1 6 1 (kC_0 hkd) rfl (c11_needPerson (person_a := person_a) hkd (zc_inj C) hlt) w_5_227 w_5_224 w_5_226 ws_LastLoaf_needPerson_I_V w_1_1 ⟨rfl, rfl, (Nat.le_of_ble_eq_true rfl), (Nat.le_of_ble_eq_true rfl)⟩ (by decide +kernel) rfl rfl (Nat.le_of_ble_eq_true rfl) ⟨(Nat.le_of_ble_eq_true rfl), (Nat.le_of_ble_eq_true rfl)⟩ dX11_slices_2 ⟨(Nat.le_of_ble_eq_true rfl), (Nat.le_of_ble_eq_true rfl)⟩ (fun e9 h2_ => by rw [h2_] at hf; cases hf; exact hω) (fun h1_ => ?_)
  rw [h1_] at hf
  replace hf := thn_x hf
  refine z_iload_n C 2 dX11_slices_5 rfl rfl ?_
  refine z_iconst (v := 0) C dX11_slices_6 ic_0 ?_
  refine z_sipush (v := 999) C dX11_slices_7 sp_999 ?_
  refine zx_callS C het [.int n_a, .int 0, .int 999] (q11_needNumber n_a 0 999) 1 6 3 (c11_needNumber (n_a := n_a) (least_a := 0) (most_a := 999) hkd (zc_inj C) hlt) w_6_83 w_6_81 w_6_82 w_1_1 ⟨rfl, rfl, (Nat.le_of_ble_eq_true rfl), (Nat.le_of_ble_eq_true rfl)⟩ (by decide +kernel) rfl rfl (Nat.le_of_ble_eq_true rfl) ⟨(Nat.le_of_ble_eq_true rfl), (Nat.le_of_ble_eq_true rfl)⟩ dX11_slices_10 ⟨(Nat.le_of_ble_eq_true rfl), (Nat.le_of_ble_eq_true rfl)⟩ (fun e9 h4_ => by rw [h4_] at hf; cases hf; exact hω) (fun h3_ => ?_)
  rw [h3_] at hf
  replace hf := thn_x hf
  refine z_aload_n C 0 dX11_slices_13 rfl rfl ?_
  refine fg11_19 C hkd dX11_slices_14 ?_
  obtain ⟨x5_, h6_, hf⟩ := ob hf
  refine cr11_385 (th := 44) C hkd isV_44 h6_ ⟨(Nat.le_of_ble_eq_true rfl), (Nat.le_of_ble_eq_true rfl)⟩ (Nat.le_of_ble_eq_true rfl) ⟨(Nat.le_of_ble_eq_true rfl), (Nat.le_of_ble_eq_true rfl)⟩ dX11_slices_17 ?_
  refine z_istN C dX11_slices_20 rfl rfl (Nat.le_of_ble_eq_true rfl) rfl ?_
  have K7_ : x5_ = 0 → Z Θ 6 2 12 (zQX Θ ω 2 12) σ 25 [(3, .int x5_), (0, .ref (zA Θ 0)), (1, .int person_a), (2, .int n_a)] [] := by
    intro h10_
    rw [if_pos h10_] at hf
    refine z_iconst (v := 0) C dX11_slices_25 ic_0 ?_
    cases hf
    subst hω
    exact zx_iret C ⟨(Nat.le_of_ble_eq_true rfl), (Nat.le_of_ble_eq_true rfl)⟩ dX11_slices_26
  suffices K8_ : ¬ (x5_ = 0) → Z Θ 6 2 12 (zQX Θ ω 2 12) σ 27 [(3, .int x5_), (0, .ref (zA Θ 0)), (1, .int person_a), (2, .int n_a)] [] by
    refine z_iload_n C 0 dX11_slices_21 rfl rfl ?_
    refine c0_eq_f C 27 dX11_slices_22 (by decide) (fun h9_ => ?_) (fun h9_ => ?_)
    · exact K7_ h9_
    · exact K8_ h9_
  intro h10_
  rw [if_neg h10_] at hf
  refine z_iload_n C 3 dX11_slices_27 rfl rfl ?_
  refine z_ist C dX11_slices_28 rfl (Nat.le_of_ble_eq_true rfl) rfl ?_
  refine z_iconst (v := 0) C dX11_slices_30 ic_0 ?_
  refine z_ist C dX11_slices_31 rfl (Nat.le_of_ble_eq_true rfl) rfl ?_
  refine Z.sub [3, 4, 5, 2, 1, 0] rfl ?_
  obtain ⟨y11_, h12_, hf⟩ := ob hf
  suffices K13_ : Z Θ 6 2 12 (zQX Θ ω 2 12) σ 70 [(0, .ref (zA Θ 0)), (1, .int person_a), (2, .int n_a), (3, .int x5_), (4, .int y11_.1), (5, .int y11_.2)] [] by
    refine loop2_Z (P := fun (left17_ : Int32) (p18_ : Int32) => Z Θ 6 2 12 (zQX Θ ω 2 12) σ 33 [(0, .ref (zA Θ 0)), (1, .int person_a), (2, .int n_a), (3, .int x5_), (4, .int left17_), (5, .int p18_)] []) ?_ fuelN n_a (0 : Int32) h12_
    clear h12_
    intro rec14_ left17_ p18_ h15_ h16_
    have K21_ : p18_ < (σ 44 8) → Z Θ 6 2 12 (zQX Θ ω 2 12) σ 45 [(0, .ref (zA Θ 0)), (1, .int person_a), (2, .int n_a), (3, .int x5_), (4, .int left17_), (5, .int p18_)] [] := by
      intro h24_
      rw [if_pos h24_] at h16_
      refine z_iload C 4 dX11_slices_45 rfl ?_
      refine z_iload_n C 2 dX11_slices_47 rfl rfl ?_
      refine z_aload_n C 0 dX11_slices_48 rfl rfl ?_
      refine fg11_19 C hkd dX11_slices_49 ?_
      refine fg11_154 C hkd isV_44 dX11_slices_52 ?_
      refine z_iload C 5 dX11_slices_55 rfl ?_
      obtain ⟨x25_, h26_, h16_⟩ := ob h16_
      refine z_ag C h26_ (kV_1 hkd isV_44) dX11_slices_57 ?_
      refine z_imul C dX11_slices_58 ?_
      refine z_iload_n C 3 dX11_slices_59 rfl rfl ?_
      obtain ⟨x27_, h28_, h16_⟩ := ob h16_
      refine z_dv C h28_ dX11_slices_60 ?_
      refine z_isub C dX11_slices_61 ?_
      obtain ⟨left29_, h30_, h16_⟩ := lt_ h16_
      refine z_ist C dX11_slices_62 h30_ (Nat.le_of_ble_eq_true rfl) rfl ?_
      obtain ⟨p31_, h32_, h16_⟩ := lt_ h16_
      refine z_inc C 5 dX11_slices_64 rfl ic_1 h32_ (Nat.le_of_ble_eq_true rfl) rfl ?_
      refine z_goto C 33 dX11_slices_67 (by decide) ?_
      refine Z.sub [2, 3, 4, 5, 1, 0] rfl ?_
      exact h15_ _ _ h16_
    have K22_ : ¬ (p18_ < (σ 44 8)) → Z Θ 6 2 12 (zQX Θ ω 2 12) σ 70 [(0, .ref (zA Θ 0)), (1, .int person_a), (2, .int n_a), (3, .int x5_), (4, .int left17_), (5, .int p18_)] [] := by
      intro h24_
      rw [if_neg h24_] at h16_
      cases h16_
      exact K13_
    refine z_iload C 5 dX11_slices_33 rfl ?_
    refine z_aload_n C 0 dX11_slices_35 rfl rfl ?_
    refine fg11_19 C hkd dX11_slices_36 ?_
    refine fg11_355 C hkd isV_44 dX11_slices_39 ?_
    refine c_lt_f C 70 dX11_slices_42 (by decide) (fun h23_ => ?_) (fun h23_ => ?_)
    · exact K21_ h23_
    · exact K22_ h23_
  refine z_iload_n C 2 dX11_slices_70 rfl rfl ?_
  refine z_aload_n C 0 dX11_slices_71 rfl rfl ?_
  refine fg11_19 C hkd dX11_slices_72 ?_
  refine fg11_154 C hkd isV_44 dX11_slices_75 ?_
  refine z_iload_n C 1 dX11_slices_78 rfl rfl ?_
  obtain ⟨x33_, h34_, hf⟩ := ob hf
  refine z_ag C h34_ (kV_1 hkd isV_44) dX11_slices_79 ?_
  refine z_imul C dX11_slices_80 ?_
  refine z_iload_n C 3 dX11_slices_81 rfl rfl ?_
  obtain ⟨x35_, h36_, hf⟩ := ob hf
  refine z_dv C h36_ dX11_slices_82 ?_
  suffices K37_ : Z Θ 6 2 12 (zQX Θ ω 2 12) σ 94 [(0, .ref (zA Θ 0)), (1, .int person_a), (2, .int n_a), (3, .int x5_), (4, .int y11_.1), (5, .int y11_.2)] [.int (if person_a < y11_.1 then 1 else 0), .int x35_] by
    have K38_ : person_a < y11_.1 → Z Θ 6 2 12 (zQX Θ ω 2 12) σ 89 [(0, .ref (zA Θ 0)), (1, .int person_a), (2, .int n_a), (3, .int x5_), (4, .int y11_.1), (5, .int y11_.2)] [.int x35_] := by
      intro h41_
      rw [if_pos h41_] at K37_
      refine z_iconst (v := 1) C dX11_slices_89 ic_1 ?_
      refine z_goto C 94 dX11_slices_90 (by decide) ?_
      exact K37_
    have K39_ : ¬ (person_a < y11_.1) → Z Θ 6 2 12 (zQX Θ ω 2 12) σ 93 [(0, .ref (zA Θ 0)), (1, .int person_a), (2, .int n_a), (3, .int x5_), (4, .int y11_.1), (5, .int y11_.2)] [.int x35_] := by
      intro h41_
      rw [if_neg h41_] at K37_
      refine z_iconst (v := 0) C dX11_slices_93 ic_0 ?_
      exact K37_
    refine z_iload_n C 1 dX11_slices_83 rfl rfl ?_
    refine z_iload C 4 dX11_slices_84 rfl ?_
    refine c_lt_f C 93 dX11_slices_86 (by decide) (fun h40_ => ?_) (fun h40_ => ?_)
    · exact K38_ h40_
    · exact K39_ h40_
  refine z_iadd C dX11_slices_94 ?_
  cases hf
  subst hω
  exact zx_iret C ⟨(Nat.le_of_ble_eq_true rfl), (Nat.le_of_ble_eq_true rfl)⟩ dX11_slices_95
theorem c11_slices {l : Launch} {kd : List KD} {w : Wp} {σ : St} {person_a : Int32} {n_a : Int32} (hkd : kd = kdC) (hi : zI kd w) (hlt : l.stackTraces = false) {r : (Sum Nat Int32 × St)} (hf : q11_slices σ person_a n_a = some r) : zX l kd w yX11_slices cX11_slices 6 (some .int) rm11_slices [.ref (w.2.2.1 0), .int person_a, .int n_a] σ (om (fun v => some (.int v)) r) 2 12 := zX_of rfl hi (Nat.le_of_ble_eq_true rfl) (fun Θ hl hw C het => by
  obtain ⟨Θ1, Θ2, Θ3, Θ4, Θ5⟩ := Θ
  cases hw
  cases hl
  exact p11_slices C hkd hlt het  hf rfl)
/-! LastLoaf.ring -/
theorem dX11_ring_0 : decode cX11_ring 0 = .ok (.aload_n 0, 1) := by decide +kernel
theorem dX11_ring_1 : decode cX11_ring 1 = .ok (.iload_n 1, 1) := by decide +kernel
theorem dX11_ring_2 : decode cX11_ring 2 = .ok (.invokevirtual 151, 3) := by decide +kernel
theorem dX11_ring_5 : decode cX11_ring 5 = .ok (.iload_n 1, 1) := by decide +kernel
theorem dX11_ring_6 : decode cX11_ring 6 = .ok (.istore_n 2, 1) := by decide +kernel
theorem dX11_ring_7 : decode cX11_ring 7 = .ok (.iconst 0, 1) := by decide +kernel
theorem dX11_ring_8 : decode cX11_ring 8 = .ok (.istore_n 3, 1) := by decide +kernel
theorem dX11_ring_9 : decode cX11_ring 9 = .ok (.iload_n 3, 1) := by decide +kernel
theorem dX11_ring_10 : decode cX11_ring 10 = .ok (.bipush 6, 2) := by decide +kernel
theorem dX11_ring_12 : decode cX11_ring 12 = .ok (.if_icmp .ge 30, 3) := by decide +kernel
theorem dX11_ring_15 : decode cX11_ring 15 = .ok (.iload_n 2, 1) := by decide +kernel
theorem dX11_ring_16 : decode cX11_ring 16 = .ok (.iconst (-1), 1) := by decide +kernel
theorem dX11_ring_17 : decode cX11_ring 17 = .ok (.if_icmp .eq 25, 3) := by decide +kernel
theorem dX11_ring_20 : decode cX11_ring 20 = .ok (.aload_n 0, 1) := by decide +kernel
theorem dX11_ring_21 : decode cX11_ring 21 = .ok (.getfield 19, 3) := by decide +kernel
theorem dX11_ring_24 : decode cX11_ring 24 = .ok (.iload_n 2, 1) := by decide +kernel
theorem dX11_ring_25 : decode cX11_ring 25 = .ok (.invokevirtual 204, 3) := by decide +kernel
theorem dX11_ring_28 : decode cX11_ring 28 = .ok (.istore_n 2, 1) := by decide +kernel
theorem dX11_ring_29 : decode cX11_ring 29 = .ok (.iload_n 2, 1) := by decide +kernel
theorem dX11_ring_30 : decode cX11_ring 30 = .ok (.iload_n 1, 1) := by decide +kernel
theorem dX11_ring_31 : decode cX11_ring 31 = .ok (.if_icmp .ne 5, 3) := by decide +kernel
theorem dX11_ring_34 : decode cX11_ring 34 = .ok (.iconst 1, 1) := by decide +kernel
theorem dX11_ring_35 : decode cX11_ring 35 = .ok (.ireturn, 1) := by decide +kernel
theorem dX11_ring_36 : decode cX11_ring 36 = .ok (.iinc 3 1, 3) := by decide +kernel
theorem dX11_ring_39 : decode cX11_ring 39 = .ok (.goto (-30), 3) := by decide +kernel
theorem dX11_ring_42 : decode cX11_ring 42 = .ok (.iconst 0, 1) := by decide +kernel
theorem dX11_ring_43 : decode cX11_ring 43 = .ok (.ireturn, 1) := by decide +kernel
def q11_ring (σ : St) (person_a : Int32) : Option (Sum Nat Bool × St) :=
  thn (q11_needPerson σ person_a) σ
  (Option.bind (loop2 (fun rec6_ (at9_ : Int32) (step10_ : Int32) =>
  if (step10_ < 6) ∧ (¬ at9_ = (-1)) then
  Option.bind (q10_wouldPass σ 44 at9_) fun x18_ =>
  if x18_ = person_a then (some (.inl (.inr true, σ))) else
  lt (step10_ + 1) fun step24_ =>
  rec6_ x18_ step24_
  else (some (.inr (at9_, step10_)))) fuelN person_a (0 : Int32)) fun y3_ =>
  Sum.elim (fun x9 => some x9) (fun y3_r =>
  some (.inr false, σ)) y3_)
abbrev rm11_ring : Room := { frames := 7, cells := 1, slots := 6, locals := 111 }
set_option maxHeartbeats 4000000 in
set_option maxRecDepth 100000 in
theorem p11_ring {Θ : Tz} {σ : St} {ω : Om} (C : Zc Θ cX11_ring 4 RX11 (some .boolean) rm11_ring) (hkd : Θ.2.2.2.2.1 = kdC) (hlt : Θ.1.2.1.stackTraces = false) (het : ∀ x ∈ Θ.2.2.1.2.exceptionTable.toList, False) {person_a : Int32} {r : (Sum Nat Bool × St)} (hf : q11_ring σ person_a = some r) (hω : ω = om (fun v => some (.int (b2i v))) r) : Z Θ 4 0 0 (zQX Θ ω 1 6) σ 0 [(0, .ref (zA Θ 0)), (1, .int person_a)] [] := by
  unfold q11_ring at hf
  refine z_aload_n C 0 dX11_ring_0 rfl rfl ?_
  refine z_iload_n C 1 dX11_ring_1 rfl rfl ?_
  refine zx_callV C het 0 [.int person_a] (q11_needPerson σ person_a) 1 6 1 (kC_0 hkd) rfl (c11_needPerson (person_a := person_a) hkd (zc_inj C) hlt) w_5_227 w_5_224 w_5_226 ws_LastLoaf_needPerson_I_V w_1_1 ⟨rfl, rfl, (Nat.le_of_ble_eq_true rfl), (Nat.le_of_ble_eq_true rfl)⟩ (by decide +kernel) rfl rfl (Nat.le_of_ble_eq_true rfl) ⟨(Nat.le_of_ble_eq_true rfl), (Nat.le_of_ble_eq_true rfl)⟩ dX11_ring_2 ⟨(Nat.le_of_ble_eq_true rfl), (Nat.le_of_ble_eq_true rfl)⟩ (fun e9 h2_ => by rw [h2_] at hf; cases hf; exact hω) (fun h1_ => ?_)
  rw [h1_] at hf
  replace hf := thn_x hf
  refine z_iload_n C 1 dX11_ring_5 rfl rfl ?_
  refine z_istN C dX11_ring_6 rfl rfl (Nat.le_of_ble_eq_true rfl) rfl ?_
  refine z_iconst (v := 0) C dX11_ring_7 ic_0 ?_
  refine z_istN C dX11_ring_8 rfl rfl (Nat.le_of_ble_eq_true rfl) rfl ?_
  refine Z.sub [2, 3, 1, 0] rfl ?_
  obtain ⟨y3_, h4_, hf⟩ := ob hf
  suffices K5_ : ∀ y3_r, y3_ = .inr y3_r → Z Θ 4 1 6 (zQX Θ ω 1 6) σ 42 [(0, .ref (zA Θ 0)), (1, .int person_a), (2, .int y3_r.1), (3, .int y3_r.2)] [] by
    refine loop2_Z (P := fun (at9_ : Int32) (step10_ : Int32) => Z Θ 4 1 6 (zQX Θ ω 1 6) σ 9 [(0, .ref (zA Θ 0)), (1, .int person_a), (2, .int at9_), (3, .int step10_)] []) ?_ fuelN person_a (0 : Int32) h4_
    clear h4_
    intro rec6_ at9_ step10_ h7_ h8_
    have K13_ : (step10_ < 6) ∧ (¬ at9_ = (-1)) → Z Θ 4 1 6 (zQX Θ ω 1 6) σ 20 [(0, .ref (zA Θ 0)), (1, .int person_a), (2, .int at9_), (3, .int step10_)] [] := by
      intro h17_
      rw [if_pos h17_] at h8_
      refine z_aload_n C 0 dX11_ring_20 rfl rfl ?_
      refine fg11_19 C hkd dX11_ring_21 ?_
      refine z_iload_n C 2 dX11_ring_24 rfl rfl ?_
      obtain ⟨x18_, h19_, h8_⟩ := ob h8_
      refine cr11_204 (th := 44) (person_a := at9_) C hkd isV_44 h19_ ⟨(Nat.le_of_ble_eq_true rfl), (Nat.le_of_ble_eq_true rfl)⟩ (Nat.le_of_ble_eq_true rfl) ⟨(Nat.le_of_ble_eq_true rfl), (Nat.le_of_ble_eq_true rfl)⟩ dX11_ring_25 ?_
      refine z_istN C dX11_ring_28 rfl rfl (Nat.le_of_ble_eq_true rfl) rfl ?_
      have K20_ : x18_ = person_a → Z Θ 4 1 6 (zQX Θ ω 1 6) σ 34 [(2, .int x18_), (0, .ref (zA Θ 0)), (1, .int person_a), (3, .int step10_)] [] := by
        intro h23_
        rw [if_pos h23_] at h8_
        refine z_iconst (v := 1) C dX11_ring_34 ic_1 ?_
        rw [← Option.some.inj h8_] at hf
        replace hf : some (.inr true, σ) = some r := hf
        cases hf
        subst hω
        exact zx_zret C ⟨(Nat.le_of_ble_eq_true rfl), (Nat.le_of_ble_eq_true rfl)⟩ (b2i_narrow _) dX11_ring_35
      suffices K21_ : ¬ (x18_ = person_a) → Z Θ 4 1 6 (zQX Θ ω 1 6) σ 36 [(2, .int x18_), (0, .ref (zA Θ 0)), (1, .int person_a), (3, .int step10_)] [] by
        refine z_iload_n C 0 dX11_ring_29 rfl rfl ?_
        refine z_iload_n C 2 dX11_ring_30 rfl rfl ?_
        refine c_eq_f C 36 dX11_ring_31 (by decide) (fun h22_ => ?_) (fun h22_ => ?_)
        · exact K20_ h22_
        · exact K21_ h22_
      intro h23_
      rw [if_neg h23_] at h8_
      obtain ⟨step24_, h25_, h8_⟩ := lt_ h8_
      refine z_inc C 3 dX11_ring_36 rfl ic_1 h25_ (Nat.le_of_ble_eq_true rfl) rfl ?_
      refine z_goto C 9 dX11_ring_39 (by decide) ?_
      refine Z.sub [2, 3, 1, 0] rfl ?_
      exact h7_ _ _ h8_
    have K14_ : ¬ ((step10_ < 6) ∧ (¬ at9_ = (-1))) → Z Θ 4 1 6 (zQX Θ ω 1 6) σ 42 [(0, .ref (zA Θ 0)), (1, .int person_a), (2, .int at9_), (3, .int step10_)] [] := by
      intro h17_
      rw [if_neg h17_] at h8_
      exact K5_ _ (Option.some.inj h8_).symm
    refine z_iload_n C 3 dX11_ring_9 rfl rfl ?_
    refine z_bipush (v := 6) C dX11_ring_10 bp_6 ?_
    refine c_lt_f C 42 dX11_ring_12 (by decide) (fun h15_ => ?_) (fun h15_ => ?_)
    · refine z_iload_n C 2 dX11_ring_15 rfl rfl ?_
      refine z_iconst (v := (-1)) C dX11_ring_16 ic_m1 ?_
      refine c_ne_f C 42 dX11_ring_17 (by decide) (fun h16_ => ?_) (fun h16_ => ?_)
      · exact K13_ ⟨h15_, h16_⟩
      · exact K14_ (fun n => h16_ n.2)
    · exact K14_ (fun n => h15_ n.1)
  intro y3_r e9
  subst e9
  simp only [Sum.elim_inr] at hf
  refine z_iconst (v := 0) C dX11_ring_42 ic_0 ?_
  cases hf
  subst hω
  exact zx_zret C ⟨(Nat.le_of_ble_eq_true rfl), (Nat.le_of_ble_eq_true rfl)⟩ (b2i_narrow _) dX11_ring_43
theorem c11_ring {l : Launch} {kd : List KD} {w : Wp} {σ : St} {person_a : Int32} (hkd : kd = kdC) (hi : zI kd w) (hlt : l.stackTraces = false) {r : (Sum Nat Bool × St)} (hf : q11_ring σ person_a = some r) : zX l kd w yX11_ring cX11_ring 4 (some .boolean) rm11_ring [.ref (w.2.2.1 0), .int person_a] σ (om (fun v => some (.int (b2i v))) r) 1 6 := zX_of rfl hi (Nat.le_of_ble_eq_true rfl) (fun Θ hl hw C het => by
  obtain ⟨Θ1, Θ2, Θ3, Θ4, Θ5⟩ := Θ
  cases hw
  cases hl
  exact p11_ring C hkd hlt het  hf rfl)
/-! LastLoaf.hecklerHas -/
theorem dX11_hecklerHas_0 : decode cX11_hecklerHas 0 = .ok (.iload_n 1, 1) := by decide +kernel
theorem dX11_hecklerHas_1 : decode cX11_hecklerHas 1 = .ok (.tableswitch 45 0 2 #[27, 40, 42], 27) := by decide +kernel
theorem dX11_hecklerHas_28 : decode cX11_hecklerHas 28 = .ok (.bipush 9, 2) := by decide +kernel
theorem dX11_hecklerHas_30 : decode cX11_hecklerHas 30 = .ok (.aload_n 0, 1) := by decide +kernel
theorem dX11_hecklerHas_31 : decode cX11_hecklerHas 31 = .ok (.getfield 19, 3) := by decide +kernel
theorem dX11_hecklerHas_34 : decode cX11_hecklerHas 34 = .ok (.getfield 161, 3) := by decide +kernel
theorem dX11_hecklerHas_37 : decode cX11_hecklerHas 37 = .ok (.iload_n 2, 1) := by decide +kernel
theorem dX11_hecklerHas_38 : decode cX11_hecklerHas 38 = .ok (.iaload, 1) := by decide +kernel
theorem dX11_hecklerHas_39 : decode cX11_hecklerHas 39 = .ok (.isub, 1) := by decide +kernel
theorem dX11_hecklerHas_40 : decode cX11_hecklerHas 40 = .ok (.ireturn, 1) := by decide +kernel
theorem dX11_hecklerHas_41 : decode cX11_hecklerHas 41 = .ok (.iconst 1, 1) := by decide +kernel
theorem dX11_hecklerHas_42 : decode cX11_hecklerHas 42 = .ok (.ireturn, 1) := by decide +kernel
theorem dX11_hecklerHas_43 : decode cX11_hecklerHas 43 = .ok (.bipush (-2), 2) := by decide +kernel
theorem dX11_hecklerHas_45 : decode cX11_hecklerHas 45 = .ok (.ireturn, 1) := by decide +kernel
theorem dX11_hecklerHas_46 : decode cX11_hecklerHas 46 = .ok (.iconst 0, 1) := by decide +kernel
theorem dX11_hecklerHas_47 : decode cX11_hecklerHas 47 = .ok (.ireturn, 1) := by decide +kernel
def q11_hecklerHas (σ : St) (choice_a : Int32) (heckler_a : Int32) : Option Int32 :=
  if choice_a = 0 then (Option.bind (ag σ (44 + 3) 6 heckler_a) fun x4_ =>
  some (9 - x4_)) else
  if choice_a = 1 then (some 1) else
  if choice_a = 2 then (some (-2)) else
  some 0
abbrev rm11_hecklerHas : Room := { frames := 0, cells := 0, slots := 0, locals := 0 }
set_option maxHeartbeats 4000000 in
set_option maxRecDepth 100000 in
theorem p11_hecklerHas {Θ : Tz} {σ : St} {ρ : Option Value × St} (C : Zc Θ cX11_hecklerHas 3 RX11 (some .int) rm11_hecklerHas) (hkd : Θ.2.2.2.2.1 = kdC) {choice_a : Int32} {heckler_a : Int32} {r : Int32} (hf : q11_hecklerHas σ choice_a heckler_a = some r) (hρ : ρ = (some (.int r), σ)) : Z Θ 3 0 0 (zQ Θ ρ) σ 0 [(0, .ref (zA Θ 0)), (1, .int choice_a), (2, .int heckler_a)] [] := by
  unfold q11_hecklerHas at hf
  refine z_iload_n C 1 dX11_hecklerHas_0 rfl rfl ?_
  by_cases h6_ : choice_a = 0
  · rw [if_pos h6_] at hf
    refine z_tswIn (off := 27) C 28 dX11_hecklerHas_1 (by rw [h6_]; decide) (by rw [h6_]; decide) (by rw [h6_]; decide) (by decide) ?_
    refine z_bipush (v := 9) C dX11_hecklerHas_28 bp_9 ?_
    refine z_aload_n C 0 dX11_hecklerHas_30 rfl rfl ?_
    refine fg11_19 C hkd dX11_hecklerHas_31 ?_
    refine fg11_161 C hkd isV_44 dX11_hecklerHas_34 ?_
    refine z_iload_n C 2 dX11_hecklerHas_37 rfl rfl ?_
    obtain ⟨x4_, h5_, hf⟩ := ob hf
    refine z_ag C h5_ (kV_3 hkd isV_44) dX11_hecklerHas_38 ?_
    refine z_isub C dX11_hecklerHas_39 ?_
    cases hf
    subst hρ
    exact z_iret C dX11_hecklerHas_40
  rw [if_neg h6_] at hf
  by_cases h7_ : choice_a = 1
  · rw [if_pos h7_] at hf
    refine z_tswIn (off := 40) C 41 dX11_hecklerHas_1 (by rw [h7_]; decide) (by rw [h7_]; decide) (by rw [h7_]; decide) (by decide) ?_
    refine z_iconst (v := 1) C dX11_hecklerHas_41 ic_1 ?_
    cases hf
    subst hρ
    exact z_iret C dX11_hecklerHas_42
  rw [if_neg h7_] at hf
  by_cases h8_ : choice_a = 2
  · rw [if_pos h8_] at hf
    refine z_tswIn (off := 42) C 43 dX11_hecklerHas_1 (by rw [h8_]; decide) (by rw [h8_]; decide) (by rw [h8_]; decide) (by decide) ?_
    refine z_bipush (v := (-2)) C dX11_hecklerHas_43 bp_m2 ?_
    cases hf
    subst hρ
    exact z_iret C dX11_hecklerHas_45
  rw [if_neg h8_] at hf
  refine z_tswOut C 46 dX11_hecklerHas_1 (sw_out2 (x := choice_a) _ _ 0 2 (by decide) (by decide) (by decide) (fun j9 hj9 => by (have q8 : j9 = 0 ∨ j9 = 1 ∨ j9 = 2 := by omega); rcases q8 with rfl | rfl | rfl <;> first | exact h6_ | exact h7_ | exact h8_)) (by decide) ?_
  refine z_iconst (v := 0) C dX11_hecklerHas_46 ic_0 ?_
  cases hf
  subst hρ
  exact z_iret C dX11_hecklerHas_47
theorem c11_hecklerHas {l : Launch} {kd : List KD} {w : Wp} {σ : St} {choice_a : Int32} {heckler_a : Int32} (hkd : kd = kdC) (hi : zI kd w) {r : Int32} (hf : q11_hecklerHas σ choice_a heckler_a = some r) : zM l kd w yX11_hecklerHas cX11_hecklerHas 3 (some .int) rm11_hecklerHas [.ref (w.2.2.1 0), .int choice_a, .int heckler_a] σ (some (.int r), σ) := zM_of rfl hi (Nat.le_of_ble_eq_true rfl) (fun Θ hl hw C => by
  obtain ⟨Θ1, Θ2, Θ3, Θ4, Θ5⟩ := Θ
  cases hw
  exact p11_hecklerHas C hkd  hf rfl)
/-! LastLoaf.speakerHas -/
theorem dX11_speakerHas_0 : decode cX11_speakerHas 0 = .ok (.iload_n 1, 1) := by decide +kernel
theorem dX11_speakerHas_1 : decode cX11_speakerHas 1 = .ok (.iconst 2, 1) := by decide +kernel
theorem dX11_speakerHas_2 : decode cX11_speakerHas 2 = .ok (.if_icmp .lt 5, 3) := by decide +kernel
theorem dX11_speakerHas_5 : decode cX11_speakerHas 5 = .ok (.iconst 0, 1) := by decide +kernel
theorem dX11_speakerHas_6 : decode cX11_speakerHas 6 = .ok (.ireturn, 1) := by decide +kernel
theorem dX11_speakerHas_7 : decode cX11_speakerHas 7 = .ok (.iload_n 1, 1) := by decide +kernel
theorem dX11_speakerHas_8 : decode cX11_speakerHas 8 = .ok (.ifCond .ne 17, 3) := by decide +kernel
theorem dX11_speakerHas_11 : decode cX11_speakerHas 11 = .ok (.aload_n 0, 1) := by decide +kernel
theorem dX11_speakerHas_12 : decode cX11_speakerHas 12 = .ok (.getfield 19, 3) := by decide +kernel
theorem dX11_speakerHas_15 : decode cX11_speakerHas 15 = .ok (.iload_n 3, 1) := by decide +kernel
theorem dX11_speakerHas_16 : decode cX11_speakerHas 16 = .ok (.iload_n 2, 1) := by decide +kernel
theorem dX11_speakerHas_17 : decode cX11_speakerHas 17 = .ok (.invokevirtual 216, 3) := by decide +kernel
theorem dX11_speakerHas_20 : decode cX11_speakerHas 20 = .ok (.iconst 5, 1) := by decide +kernel
theorem dX11_speakerHas_21 : decode cX11_speakerHas 21 = .ok (.isub, 1) := by decide +kernel
theorem dX11_speakerHas_22 : decode cX11_speakerHas 22 = .ok (.goto 4, 3) := by decide +kernel
theorem dX11_speakerHas_25 : decode cX11_speakerHas 25 = .ok (.iconst 3, 1) := by decide +kernel
theorem dX11_speakerHas_26 : decode cX11_speakerHas 26 = .ok (.ireturn, 1) := by decide +kernel
def q11_speakerHas (σ : St) (choice_a : Int32) (speaker_a : Int32) (heckler_a : Int32) : Option Int32 :=
  if 2 ≤ choice_a then (some 0) else
  Option.bind (if choice_a = 0 then (Option.bind (q10_likingOf σ 44 heckler_a speaker_a) fun x11_ =>
  some (x11_ - 5)) else (some (3 : Int32))) fun x5_ =>
  some x5_
abbrev rm11_speakerHas : Room := { frames := 1, cells := 0, slots := 0, locals := 22 }
set_option maxHeartbeats 4000000 in
set_option maxRecDepth 100000 in
theorem p11_speakerHas {Θ : Tz} {σ : St} {ρ : Option Value × St} (C : Zc Θ cX11_speakerHas 4 RX11 (some .int) rm11_speakerHas) (hkd : Θ.2.2.2.2.1 = kdC) {choice_a : Int32} {speaker_a : Int32} {heckler_a : Int32} {r : Int32} (hf : q11_speakerHas σ choice_a speaker_a heckler_a = some r) (hρ : ρ = (some (.int r), σ)) : Z Θ 4 0 0 (zQ Θ ρ) σ 0 [(0, .ref (zA Θ 0)), (1, .int choice_a), (2, .int speaker_a), (3, .int heckler_a)] [] := by
  unfold q11_speakerHas at hf
  have K1_ : 2 ≤ choice_a → Z Θ 4 0 0 (zQ Θ ρ) σ 5 [(0, .ref (zA Θ 0)), (1, .int choice_a), (2, .int speaker_a), (3, .int heckler_a)] [] := by
    intro h4_
    rw [if_pos h4_] at hf
    refine z_iconst (v := 0) C dX11_speakerHas_5 ic_0 ?_
    cases hf
    subst hρ
    exact z_iret C dX11_speakerHas_6
  suffices K2_ : ¬ (2 ≤ choice_a) → Z Θ 4 0 0 (zQ Θ ρ) σ 7 [(0, .ref (zA Θ 0)), (1, .int choice_a), (2, .int speaker_a), (3, .int heckler_a)] [] by
    refine z_iload_n C 1 dX11_speakerHas_0 rfl rfl ?_
    refine z_iconst (v := 2) C dX11_speakerHas_1 ic_2 ?_
    refine c_ge_f C 7 dX11_speakerHas_2 (by decide) (fun h3_ => ?_) (fun h3_ => ?_)
    · exact K1_ h3_
    · exact K2_ h3_
  intro h4_
  rw [if_neg h4_] at hf
  obtain ⟨x5_, h6_, hf⟩ := ob hf
  suffices K7_ : Z Θ 4 0 0 (zQ Θ ρ) σ 26 [(0, .ref (zA Θ 0)), (1, .int choice_a), (2, .int speaker_a), (3, .int heckler_a)] [.int x5_] by
    have K8_ : choice_a = 0 → Z Θ 4 0 0 (zQ Θ ρ) σ 11 [(0, .ref (zA Θ 0)), (1, .int choice_a), (2, .int speaker_a), (3, .int heckler_a)] [] := by
      intro h13_
      rw [if_pos h13_] at h6_
      refine z_aload_n C 0 dX11_speakerHas_11 rfl rfl ?_
      refine fg11_19 C hkd dX11_speakerHas_12 ?_
      refine z_iload_n C 3 dX11_speakerHas_15 rfl rfl ?_
      refine z_iload_n C 2 dX11_speakerHas_16 rfl rfl ?_
      obtain ⟨x11_, h12_, h6_⟩ := ob h6_
      refine cr11_216 (th := 44) (person_a := heckler_a) (other_a := speaker_a) C hkd isV_44 h12_ ⟨(Nat.le_of_ble_eq_true rfl), (Nat.le_of_ble_eq_true rfl)⟩ (Nat.le_of_ble_eq_true rfl) ⟨Nat.zero_le _, Nat.zero_le _⟩ dX11_speakerHas_17 ?_
      refine z_iconst (v := 5) C dX11_speakerHas_20 ic_5 ?_
      refine z_isub C dX11_speakerHas_21 ?_
      refine z_goto C 26 dX11_speakerHas_22 (by decide) ?_
      cases h6_
      exact K7_
    have K9_ : ¬ (choice_a = 0) → Z Θ 4 0 0 (zQ Θ ρ) σ 25 [(0, .ref (zA Θ 0)), (1, .int choice_a), (2, .int speaker_a), (3, .int heckler_a)] [] := by
      intro h13_
      rw [if_neg h13_] at h6_
      refine z_iconst (v := 3) C dX11_speakerHas_25 ic_3 ?_
      cases h6_
      exact K7_
    refine z_iload_n C 1 dX11_speakerHas_7 rfl rfl ?_
    refine c0_eq_f C 25 dX11_speakerHas_8 (by decide) (fun h10_ => ?_) (fun h10_ => ?_)
    · exact K8_ h10_
    · exact K9_ h10_
  cases hf
  subst hρ
  exact z_iret C dX11_speakerHas_26
theorem c11_speakerHas {l : Launch} {kd : List KD} {w : Wp} {σ : St} {choice_a : Int32} {speaker_a : Int32} {heckler_a : Int32} (hkd : kd = kdC) (hi : zI kd w) {r : Int32} (hf : q11_speakerHas σ choice_a speaker_a heckler_a = some r) : zM l kd w yX11_speakerHas cX11_speakerHas 4 (some .int) rm11_speakerHas [.ref (w.2.2.1 0), .int choice_a, .int speaker_a, .int heckler_a] σ (some (.int r), σ) := zM_of rfl hi (Nat.le_of_ble_eq_true rfl) (fun Θ hl hw C => by
  obtain ⟨Θ1, Θ2, Θ3, Θ4, Θ5⟩ := Θ
  cases hw
  exact p11_speakerHas C hkd  hf rfl)
/-! LastLoaf.rests -/
theorem w_4_149 : Cond.methodLink "LastLoaf" (388 : Nat) ({ cls := "LastLoaf$Village", name := "runners", desc := "()I" } : MethodName) ∈ TB := tb_in (lwt_4 (List.mem_of_getElem? (i := 149) (by decide +kernel))) rfl
theorem cr11_388 {Θ : Tz} {cc : ByteArray} {nL kc ks : Nat} {ret : Option FieldType} {rm : Room} {Q : State → Prop} {σ : St} {pc : Nat} {lv : List (Nat × Value)} {st : List Value} (C : Zc Θ cc nL RX11 ret rm) (hkd : Θ.2.2.2.2.1 = kdC) {th : Nat} (hth : isV th) (hrm : rm10_runners.frames + 1 ≤ rm.frames ∧ 8 + (1 + 11) + rm10_runners.locals ≤ rm.locals) (hcat : (st.map fun v => v.category).sum ≤ 8) (hk : kc ≤ rm.cells ∧ ks ≤ rm.slots) (hd : decode cc pc = .ok (.invokevirtual 388, 3)) (kk : Z Θ nL kc ks Q σ (pc + 3) lv (.int (q10_runners σ th) :: st)) : Z Θ nL kc ks Q σ pc lv (.ref (zA Θ th) :: st) := z_callV C th [] (some (.int (q10_runners σ th)), σ) 0 (kV_0 hkd hth) rfl (c10_runners (th := th) hkd (zc_inj C) hth) w_3_27 w_4_149 w_3_25 w_3_26 w_1_3 ⟨rfl, rfl, hrm.1, hrm.2⟩ (by decide +kernel) rfl rfl hcat hk hd kk
theorem w_7_189 : Cond.code ({ cls := "LastLoaf", name := "speakerHas", desc := "(III)I" } : MethodName) prog_1_method_86_code (4 : Nat) (Option.some ClassFile.FieldType.int) ∈ TB := tb_in (lwt_7 (List.mem_of_getElem? (i := 189) (by decide +kernel))) rfl
theorem w_7_186 : Cond.methodLink "LastLoaf" (393 : Nat) ({ cls := "LastLoaf", name := "speakerHas", desc := "(III)I" } : MethodName) ∈ TB := tb_in (lwt_7 (List.mem_of_getElem? (i := 186) (by decide +kernel))) rfl
theorem w_7_188 : Cond.instanceMethod ({ cls := "LastLoaf", name := "speakerHas", desc := "(III)I" } : MethodName) ∈ TB := tb_in (lwt_7 (List.mem_of_getElem? (i := 188) (by decide +kernel))) rfl
theorem ws_LastLoaf_speakerHas_III_I : Cond.selects "LastLoaf" (⟨"LastLoaf", "speakerHas", "(III)I"⟩ : MethodName) (⟨"LastLoaf", "speakerHas", "(III)I"⟩ : MethodName) ∈ TB := tb_in (List.mem_append_left _ (List.mem_of_getElem? (i := 15) (by decide +kernel))) rfl
theorem cr11_393 {Θ : Tz} {cc : ByteArray} {nL kc ks : Nat} {ret : Option FieldType} {rm : Room} {Q : State → Prop} {σ : St} {pc : Nat} {lv : List (Nat × Value)} {st : List Value} (C : Zc Θ cc nL RX11 ret rm) (hkd : Θ.2.2.2.2.1 = kdC) {choice_a : Int32} {speaker_a : Int32} {heckler_a : Int32} {r : Int32} (hx : q11_speakerHas σ choice_a speaker_a heckler_a = some r) (hrm : rm11_speakerHas.frames + 1 ≤ rm.frames ∧ 8 + (4 + 11) + rm11_speakerHas.locals ≤ rm.locals) (hcat : (st.map fun v => v.category).sum ≤ 8) (hk : kc ≤ rm.cells ∧ ks ≤ rm.slots) (hd : decode cc pc = .ok (.invokevirtual 393, 3)) (kk : Z Θ nL kc ks Q σ (pc + 3) lv (.int r :: st)) : Z Θ nL kc ks Q σ pc lv (.int heckler_a :: .int speaker_a :: .int choice_a :: .ref (zA Θ 0) :: st) := z_callV C 0 [.int choice_a, .int speaker_a, .int heckler_a] (some (.int r), σ) 3 (kC_0 hkd) rfl (c11_speakerHas (choice_a := choice_a) (speaker_a := speaker_a) (heckler_a := heckler_a) hkd (zc_inj C) hx) w_7_189 w_7_186 w_7_188 ws_LastLoaf_speakerHas_III_I w_1_1 ⟨rfl, rfl, hrm.1, hrm.2⟩ (by decide +kernel) rfl rfl hcat hk hd kk
theorem w_7_193 : Cond.code ({ cls := "LastLoaf", name := "hecklerHas", desc := "(II)I" } : MethodName) prog_1_method_87_code (3 : Nat) (Option.some ClassFile.FieldType.int) ∈ TB := tb_in (lwt_7 (List.mem_of_getElem? (i := 193) (by decide +kernel))) rfl
theorem w_7_190 : Cond.methodLink "LastLoaf" (397 : Nat) ({ cls := "LastLoaf", name := "hecklerHas", desc := "(II)I" } : MethodName) ∈ TB := tb_in (lwt_7 (List.mem_of_getElem? (i := 190) (by decide +kernel))) rfl
theorem w_7_192 : Cond.instanceMethod ({ cls := "LastLoaf", name := "hecklerHas", desc := "(II)I" } : MethodName) ∈ TB := tb_in (lwt_7 (List.mem_of_getElem? (i := 192) (by decide +kernel))) rfl
theorem ws_LastLoaf_hecklerHas_II_I : Cond.selects "LastLoaf" (⟨"LastLoaf", "hecklerHas", "(II)I"⟩ : MethodName) (⟨"LastLoaf", "hecklerHas", "(II)I"⟩ : MethodName) ∈ TB := tb_in (List.mem_append_left _ (List.mem_of_getElem? (i := 16) (by decide +kernel))) rfl
theorem cr11_397 {Θ : Tz} {cc : ByteArray} {nL kc ks : Nat} {ret : Option FieldType} {rm : Room} {Q : State → Prop} {σ : St} {pc : Nat} {lv : List (Nat × Value)} {st : List Value} (C : Zc Θ cc nL RX11 ret rm) (hkd : Θ.2.2.2.2.1 = kdC) {choice_a : Int32} {heckler_a : Int32} {r : Int32} (hx : q11_hecklerHas σ choice_a heckler_a = some r) (hrm : rm11_hecklerHas.frames + 1 ≤ rm.frames ∧ 8 + (3 + 11) + rm11_hecklerHas.locals ≤ rm.locals) (hcat : (st.map fun v => v.category).sum ≤ 8) (hk : kc ≤ rm.cells ∧ ks ≤ rm.slots) (hd : decode cc pc = .ok (.invokevirtual 397, 3)) (kk : Z Θ nL kc ks Q σ (pc + 3) lv (.int r :: st)) : Z Θ nL kc ks Q σ pc lv (.int heckler_a :: .int choice_a :: .ref (zA Θ 0) :: st) := z_callV C 0 [.int choice_a, .int heckler_a] (some (.int r), σ) 2 (kC_0 hkd) rfl (c11_hecklerHas (choice_a := choice_a) (heckler_a := heckler_a) hkd (zc_inj C) hx) w_7_193 w_7_190 w_7_192 ws_LastLoaf_hecklerHas_II_I w_1_1 ⟨rfl, rfl, hrm.1, hrm.2⟩ (by decide +kernel) rfl rfl hcat hk hd kk
theorem dX11_rests_0 : decode cX11_rests 0 = .ok (.aload_n 0, 1) := by decide +kernel
theorem dX11_rests_1 : decode cX11_rests 1 = .ok (.iload_n 1, 1) := by decide +kernel
theorem dX11_rests_2 : decode cX11_rests 2 = .ok (.iload_n 2, 1) := by decide +kernel
theorem dX11_rests_3 : decode cX11_rests 3 = .ok (.invokevirtual 212, 3) := by decide +kernel
theorem dX11_rests_6 : decode cX11_rests 6 = .ok (.aload_n 0, 1) := by decide +kernel
theorem dX11_rests_7 : decode cX11_rests 7 = .ok (.getfield 19, 3) := by decide +kernel
theorem dX11_rests_10 : decode cX11_rests 10 = .ok (.invokevirtual 388, 3) := by decide +kernel
theorem dX11_rests_13 : decode cX11_rests 13 = .ok (.iload_n 1, 1) := by decide +kernel
theorem dX11_rests_14 : decode cX11_rests 14 = .ok (.invokestatic 167, 3) := by decide +kernel
theorem dX11_rests_17 : decode cX11_rests 17 = .ok (.ifCond .ne 14, 3) := by decide +kernel
theorem dX11_rests_20 : decode cX11_rests 20 = .ok (.new 247, 3) := by decide +kernel
theorem dX11_rests_23 : decode cX11_rests 23 = .ok (.dup, 1) := by decide +kernel
theorem dX11_rests_24 : decode cX11_rests 24 = .ok (.ldc_w 391, 3) := by decide +kernel
theorem dX11_rests_27 : decode cX11_rests 27 = .ok (.invokespecial 251, 3) := by decide +kernel
theorem dX11_rests_30 : decode cX11_rests 30 = .ok (.athrow, 1) := by decide +kernel
theorem dX11_rests_31 : decode cX11_rests 31 = .ok (.iconst 0, 1) := by decide +kernel
theorem dX11_rests_32 : decode cX11_rests 32 = .ok (.istore_n 3, 1) := by decide +kernel
theorem dX11_rests_33 : decode cX11_rests 33 = .ok (.iconst 0, 1) := by decide +kernel
theorem dX11_rests_34 : decode cX11_rests 34 = .ok (.istore 4, 2) := by decide +kernel
theorem dX11_rests_36 : decode cX11_rests 36 = .ok (.iload 4, 2) := by decide +kernel
theorem dX11_rests_38 : decode cX11_rests 38 = .ok (.iconst 4, 1) := by decide +kernel
theorem dX11_rests_39 : decode cX11_rests 39 = .ok (.if_icmp .ge 80, 3) := by decide +kernel
theorem dX11_rests_42 : decode cX11_rests 42 = .ok (.aload_n 0, 1) := by decide +kernel
theorem dX11_rests_43 : decode cX11_rests 43 = .ok (.iload 4, 2) := by decide +kernel
theorem dX11_rests_45 : decode cX11_rests 45 = .ok (.iload_n 1, 1) := by decide +kernel
theorem dX11_rests_46 : decode cX11_rests 46 = .ok (.iload_n 2, 1) := by decide +kernel
theorem dX11_rests_47 : decode cX11_rests 47 = .ok (.invokevirtual 393, 3) := by decide +kernel
theorem dX11_rests_50 : decode cX11_rests 50 = .ok (.aload_n 0, 1) := by decide +kernel
theorem dX11_rests_51 : decode cX11_rests 51 = .ok (.iload 4, 2) := by decide +kernel
theorem dX11_rests_53 : decode cX11_rests 53 = .ok (.iconst 2, 1) := by decide +kernel
theorem dX11_rests_54 : decode cX11_rests 54 = .ok (.ixor, 1) := by decide +kernel
theorem dX11_rests_55 : decode cX11_rests 55 = .ok (.iload_n 1, 1) := by decide +kernel
theorem dX11_rests_56 : decode cX11_rests 56 = .ok (.iload_n 2, 1) := by decide +kernel
theorem dX11_rests_57 : decode cX11_rests 57 = .ok (.invokevirtual 393, 3) := by decide +kernel
theorem dX11_rests_60 : decode cX11_rests 60 = .ok (.if_icmp .lt 7, 3) := by decide +kernel
theorem dX11_rests_63 : decode cX11_rests 63 = .ok (.iconst 1, 1) := by decide +kernel
theorem dX11_rests_64 : decode cX11_rests 64 = .ok (.goto 4, 3) := by decide +kernel
theorem dX11_rests_67 : decode cX11_rests 67 = .ok (.iconst 0, 1) := by decide +kernel
theorem dX11_rests_68 : decode cX11_rests 68 = .ok (.istore 5, 2) := by decide +kernel
theorem dX11_rests_70 : decode cX11_rests 70 = .ok (.aload_n 0, 1) := by decide +kernel
theorem dX11_rests_71 : decode cX11_rests 71 = .ok (.iload 4, 2) := by decide +kernel
theorem dX11_rests_73 : decode cX11_rests 73 = .ok (.iload_n 2, 1) := by decide +kernel
theorem dX11_rests_74 : decode cX11_rests 74 = .ok (.invokevirtual 397, 3) := by decide +kernel
theorem dX11_rests_77 : decode cX11_rests 77 = .ok (.aload_n 0, 1) := by decide +kernel
theorem dX11_rests_78 : decode cX11_rests 78 = .ok (.iload 4, 2) := by decide +kernel
theorem dX11_rests_80 : decode cX11_rests 80 = .ok (.iconst 1, 1) := by decide +kernel
theorem dX11_rests_81 : decode cX11_rests 81 = .ok (.ixor, 1) := by decide +kernel
theorem dX11_rests_82 : decode cX11_rests 82 = .ok (.iload_n 2, 1) := by decide +kernel
theorem dX11_rests_83 : decode cX11_rests 83 = .ok (.invokevirtual 397, 3) := by decide +kernel
theorem dX11_rests_86 : decode cX11_rests 86 = .ok (.if_icmp .lt 7, 3) := by decide +kernel
theorem dX11_rests_89 : decode cX11_rests 89 = .ok (.iconst 1, 1) := by decide +kernel
theorem dX11_rests_90 : decode cX11_rests 90 = .ok (.goto 4, 3) := by decide +kernel
theorem dX11_rests_93 : decode cX11_rests 93 = .ok (.iconst 0, 1) := by decide +kernel
theorem dX11_rests_94 : decode cX11_rests 94 = .ok (.istore 6, 2) := by decide +kernel
theorem dX11_rests_96 : decode cX11_rests 96 = .ok (.iload 5, 2) := by decide +kernel
theorem dX11_rests_98 : decode cX11_rests 98 = .ok (.ifCond .eq 15, 3) := by decide +kernel
theorem dX11_rests_101 : decode cX11_rests 101 = .ok (.iload 6, 2) := by decide +kernel
theorem dX11_rests_103 : decode cX11_rests 103 = .ok (.ifCond .eq 10, 3) := by decide +kernel
theorem dX11_rests_106 : decode cX11_rests 106 = .ok (.iload_n 3, 1) := by decide +kernel
theorem dX11_rests_107 : decode cX11_rests 107 = .ok (.iconst 1, 1) := by decide +kernel
theorem dX11_rests_108 : decode cX11_rests 108 = .ok (.iload 4, 2) := by decide +kernel
theorem dX11_rests_110 : decode cX11_rests 110 = .ok (.ishl, 1) := by decide +kernel
theorem dX11_rests_111 : decode cX11_rests 111 = .ok (.ior, 1) := by decide +kernel
theorem dX11_rests_112 : decode cX11_rests 112 = .ok (.istore_n 3, 1) := by decide +kernel
theorem dX11_rests_113 : decode cX11_rests 113 = .ok (.iinc 4 1, 3) := by decide +kernel
theorem dX11_rests_116 : decode cX11_rests 116 = .ok (.goto (-80), 3) := by decide +kernel
theorem dX11_rests_119 : decode cX11_rests 119 = .ok (.iload_n 3, 1) := by decide +kernel
theorem dX11_rests_120 : decode cX11_rests 120 = .ok (.ireturn, 1) := by decide +kernel
def q11_rests (σ : St) (person_a : Int32) (other_a : Int32) : Option (Sum Nat Int32 × St) :=
  thn (q11_needTwo σ person_a other_a) σ
  (if ¬ (q11_isIn (q10_runners σ 44) person_a = true) then (some (.inl 1, σ)) else
  Option.bind (loop2 (fun rec10_ (bits13_ : Int32) (choice14_ : Int32) =>
  if choice14_ < 4 then
  Option.bind (Option.bind (q11_speakerHas σ choice14_ person_a other_a) fun x26_ =>
  Option.bind (q11_speakerHas σ (choice14_ ^^^ 2) person_a other_a) fun x28_ =>
  if x28_ ≤ x26_ then (some true) else (some false)) fun x21_ =>
  Option.bind (Option.bind (q11_hecklerHas σ choice14_ other_a) fun x37_ =>
  Option.bind (q11_hecklerHas σ (choice14_ ^^^ 1) other_a) fun x39_ =>
  if x39_ ≤ x37_ then (some true) else (some false)) fun x32_ =>
  lt (if (x21_ = true) ∧ (x32_ = true) then (lt (bits13_ ||| (shl 1 choice14_)) fun bits51_ =>
  bits51_) else bits13_) fun y43_ =>
  lt (choice14_ + 1) fun choice53_ =>
  rec10_ y43_ choice53_
  else (some (bits13_, choice14_))) fuelN (0 : Int32) (0 : Int32)) fun y7_ =>
  some (.inr y7_.1, σ))
abbrev rm11_rests : Room := { frames := 8, cells := 4, slots := 24, locals := 133 }
set_option maxHeartbeats 4000000 in
set_option maxRecDepth 100000 in
theorem p11_rests {Θ : Tz} {σ : St} {ω : Om} (C : Zc Θ cX11_rests 7 RX11 (some .int) rm11_rests) (hkd : Θ.2.2.2.2.1 = kdC) (hlt : Θ.1.2.1.stackTraces = false) (het : ∀ x ∈ Θ.2.2.1.2.exceptionTable.toList, False) {person_a : Int32} {other_a : Int32} {r : (Sum Nat Int32 × St)} (hf : q11_rests σ person_a other_a = some r) (hω : ω = om (fun v => some (.int v)) r) : Z Θ 7 0 0 (zQX Θ ω 4 24) σ 0 [(0, .ref (zA Θ 0)), (1, .int person_a), (2, .int other_a)] [] := by
  unfold q11_rests at hf
  refine z_aload_n C 0 dX11_rests_0 rfl rfl ?_
  refine z_iload_n C 1 dX11_rests_1 rfl rfl ?_
  refine z_iload_n C 2 dX11_rests_2 rfl rfl ?_
  refine zx_callV C het 0 [.int person_a, .int other_a] (q11_needTwo σ person_a other_a) 3 18 2 (kC_0 hkd) rfl (c11_needTwo (person_a := person_a) (other_a := other_a) hkd (zc_inj C) hlt) w_6_55 w_6_52 w_6_54 ws_LastLoaf_needTwo_II_V w_1_1 ⟨rfl, rfl, (Nat.le_of_ble_eq_true rfl), (Nat.le_of_ble_eq_true rfl)⟩ (by decide +kernel) rfl rfl (Nat.le_of_ble_eq_true rfl) ⟨(Nat.le_of_ble_eq_true rfl), (Nat.le_of_ble_eq_true rfl)⟩ dX11_rests_3 ⟨(Nat.le_of_ble_eq_true rfl), (Nat.le_of_ble_eq_true rfl)⟩ (fun e9 h2_ => by rw [h2_] at hf; cases hf; exact hω) (fun h1_ => ?_)
  rw [h1_] at hf
  replace hf := thn_x hf
  have K3_ : ¬ (q11_isIn (q10_runners σ 44) person_a = true) → Z Θ 7 3 18 (zQX Θ ω 4 24) σ 20 [(0, .ref (zA Θ 0)), (1, .int person_a), (2, .int other_a)] [] := by
    intro h6_
    rw [if_pos h6_] at hf
    cases hf
    subst hω
    exact zx_throwW (tx := "who speaks must be a runner") C hlt het 1 (by decide +kernel) w_6_98 w_1_29 (List.mem_of_getElem? (i := 43) rfl) th11_1_251g th11_1_251n th11_1_251o dX11_rests_20 dX11_rests_23 dX11_rests_24 dX11_rests_27 dX11_rests_30 ⟨(Nat.le_of_ble_eq_true rfl), (Nat.le_of_ble_eq_true rfl), (Nat.le_of_ble_eq_true rfl), (Nat.le_of_ble_eq_true rfl)⟩ (Nat.le_of_ble_eq_true rfl) ⟨(Nat.le_of_ble_eq_true rfl), (Nat.le_of_ble_eq_true rfl)⟩
  suffices K4_ : ¬ (¬ (q11_isIn (q10_runners σ 44) person_a = true)) → Z Θ 7 3 18 (zQX Θ ω 4 24) σ 31 [(0, .ref (zA Θ 0)), (1, .int person_a), (2, .int other_a)] [] by
    refine z_aload_n C 0 dX11_rests_6 rfl rfl ?_
    refine fg11_19 C hkd dX11_rests_7 ?_
    refine cr11_388 (th := 44) C hkd isV_44 ⟨(Nat.le_of_ble_eq_true rfl), (Nat.le_of_ble_eq_true rfl)⟩ (Nat.le_of_ble_eq_true rfl) ⟨(Nat.le_of_ble_eq_true rfl), (Nat.le_of_ble_eq_true rfl)⟩ dX11_rests_10 ?_
    refine z_iload_n C 1 dX11_rests_13 rfl rfl ?_
    refine cr11_167 (set_a := (q10_runners σ 44)) (person_a := person_a) C hkd  ⟨(Nat.le_of_ble_eq_true rfl), (Nat.le_of_ble_eq_true rfl)⟩ (Nat.le_of_ble_eq_true rfl) ⟨(Nat.le_of_ble_eq_true rfl), (Nat.le_of_ble_eq_true rfl)⟩ dX11_rests_14 ?_
    refine cb_t C 31 dX11_rests_17 (by decide) (fun h5_ => ?_) (fun h5_ => ?_)
    · exact K4_ (fun n => n h5_)
    · exact K3_ h5_
  intro h6_
  rw [if_neg h6_] at hf
  refine z_iconst (v := 0) C dX11_rests_31 ic_0 ?_
  refine z_istN C dX11_rests_32 rfl rfl (Nat.le_of_ble_eq_true rfl) rfl ?_
  refine z_iconst (v := 0) C dX11_rests_33 ic_0 ?_
  refine z_ist C dX11_rests_34 rfl (Nat.le_of_ble_eq_true rfl) rfl ?_
  refine Z.sub [2, 3, 4, 1, 0] rfl ?_
  obtain ⟨y7_, h8_, hf⟩ := ob hf
  suffices K9_ : Z Θ 7 3 18 (zQX Θ ω 4 24) σ 119 [(0, .ref (zA Θ 0)), (1, .int person_a), (2, .int other_a), (3, .int y7_.1), (4, .int y7_.2)] [] by
    refine loop2_Z (P := fun (bits13_ : Int32) (choice14_ : Int32) => Z Θ 7 3 18 (zQX Θ ω 4 24) σ 36 [(0, .ref (zA Θ 0)), (1, .int person_a), (2, .int other_a), (3, .int bits13_), (4, .int choice14_)] []) ?_ fuelN (0 : Int32) (0 : Int32) h8_
    clear h8_
    intro rec10_ bits13_ choice14_ h11_ h12_
    have K17_ : choice14_ < 4 → Z Θ 7 3 18 (zQX Θ ω 4 24) σ 42 [(0, .ref (zA Θ 0)), (1, .int person_a), (2, .int other_a), (3, .int bits13_), (4, .int choice14_)] [] := by
      intro h20_
      rw [if_pos h20_] at h12_
      obtain ⟨x21_, h22_, h12_⟩ := ob h12_
      suffices K23_ : Z Θ 7 3 18 (zQX Θ ω 4 24) σ 68 [(0, .ref (zA Θ 0)), (1, .int person_a), (2, .int other_a), (3, .int bits13_), (4, .int choice14_)] [.int (b2i x21_)] by
        refine z_aload_n C 0 dX11_rests_42 rfl rfl ?_
        refine z_iload C 4 dX11_rests_43 rfl ?_
        refine z_iload_n C 1 dX11_rests_45 rfl rfl ?_
        refine z_iload_n C 2 dX11_rests_46 rfl rfl ?_
        obtain ⟨x26_, h27_, h22_⟩ := ob h22_
        refine cr11_393 (choice_a := choice14_) (speaker_a := person_a) (heckler_a := other_a) C hkd  h27_ ⟨(Nat.le_of_ble_eq_true rfl), (Nat.le_of_ble_eq_true rfl)⟩ (Nat.le_of_ble_eq_true rfl) ⟨(Nat.le_of_ble_eq_true rfl), (Nat.le_of_ble_eq_true rfl)⟩ dX11_rests_47 ?_
        refine z_aload_n C 0 dX11_rests_50 rfl rfl ?_
        refine z_iload C 4 dX11_rests_51 rfl ?_
        refine z_iconst (v := 2) C dX11_rests_53 ic_2 ?_
        refine z_ixor C dX11_rests_54 ?_
        refine z_iload_n C 1 dX11_rests_55 rfl rfl ?_
        refine z_iload_n C 2 dX11_rests_56 rfl rfl ?_
        obtain ⟨x28_, h29_, h22_⟩ := ob h22_
        refine cr11_393 (choice_a := (choice14_ ^^^ 2)) (speaker_a := person_a) (heckler_a := other_a) C hkd  h29_ ⟨(Nat.le_of_ble_eq_true rfl), (Nat.le_of_ble_eq_true rfl)⟩ (Nat.le_of_ble_eq_true rfl) ⟨(Nat.le_of_ble_eq_true rfl), (Nat.le_of_ble_eq_true rfl)⟩ dX11_rests_57 ?_
        have K24_ : x28_ ≤ x26_ → Z Θ 7 3 18 (zQX Θ ω 4 24) σ 63 [(0, .ref (zA Θ 0)), (1, .int person_a), (2, .int other_a), (3, .int bits13_), (4, .int choice14_)] [] := by
          intro h31_
          rw [if_pos h31_] at h22_
          refine z_iconst (v := 1) C dX11_rests_63 ic_1 ?_
          refine z_goto C 68 dX11_rests_64 (by decide) ?_
          cases h22_
          exact K23_
        have K25_ : ¬ (x28_ ≤ x26_) → Z Θ 7 3 18 (zQX Θ ω 4 24) σ 67 [(0, .ref (zA Θ 0)), (1, .int person_a), (2, .int other_a), (3, .int bits13_), (4, .int choice14_)] [] := by
          intro h31_
          rw [if_neg h31_] at h22_
          refine z_iconst (v := 0) C dX11_rests_67 ic_0 ?_
          cases h22_
          exact K23_
        refine c_ge_f C 67 dX11_rests_60 (by decide) (fun h30_ => ?_) (fun h30_ => ?_)
        · exact K24_ h30_
        · exact K25_ h30_
      refine z_ist C dX11_rests_68 rfl (Nat.le_of_ble_eq_true rfl) rfl ?_
      obtain ⟨x32_, h33_, h12_⟩ := ob h12_
      suffices K34_ : Z Θ 7 3 18 (zQX Θ ω 4 24) σ 94 [(5, .int (b2i x21_)), (0, .ref (zA Θ 0)), (1, .int person_a), (2, .int other_a), (3, .int bits13_), (4, .int choice14_)] [.int (b2i x32_)] by
        refine z_aload_n C 1 dX11_rests_70 rfl rfl ?_
        refine z_iload C 5 dX11_rests_71 rfl ?_
        refine z_iload_n C 3 dX11_rests_73 rfl rfl ?_
        obtain ⟨x37_, h38_, h33_⟩ := ob h33_
        refine cr11_397 (choice_a := choice14_) (heckler_a := other_a) C hkd  h38_ ⟨(Nat.le_of_ble_eq_true rfl), (Nat.le_of_ble_eq_true rfl)⟩ (Nat.le_of_ble_eq_true rfl) ⟨(Nat.le_of_ble_eq_true rfl), (Nat.le_of_ble_eq_true rfl)⟩ dX11_rests_74 ?_
        refine z_aload_n C 1 dX11_rests_77 rfl rfl ?_
        refine z_iload C 5 dX11_rests_78 rfl ?_
        refine z_iconst (v := 1) C dX11_rests_80 ic_1 ?_
        refine z_ixor C dX11_rests_81 ?_
        refine z_iload_n C 3 dX11_rests_82 rfl rfl ?_
        obtain ⟨x39_, h40_, h33_⟩ := ob h33_
        refine cr11_397 (choice_a := (choice14_ ^^^ 1)) (heckler_a := other_a) C hkd  h40_ ⟨(Nat.le_of_ble_eq_true rfl), (Nat.le_of_ble_eq_true rfl)⟩ (Nat.le_of_ble_eq_true rfl) ⟨(Nat.le_of_ble_eq_true rfl), (Nat.le_of_ble_eq_true rfl)⟩ dX11_rests_83 ?_
        have K35_ : x39_ ≤ x37_ → Z Θ 7 3 18 (zQX Θ ω 4 24) σ 89 [(5, .int (b2i x21_)), (0, .ref (zA Θ 0)), (1, .int person_a), (2, .int other_a), (3, .int bits13_), (4, .int choice14_)] [] := by
          intro h42_
          rw [if_pos h42_] at h33_
          refine z_iconst (v := 1) C dX11_rests_89 ic_1 ?_
          refine z_goto C 94 dX11_rests_90 (by decide) ?_
          cases h33_
          exact K34_
        have K36_ : ¬ (x39_ ≤ x37_) → Z Θ 7 3 18 (zQX Θ ω 4 24) σ 93 [(5, .int (b2i x21_)), (0, .ref (zA Θ 0)), (1, .int person_a), (2, .int other_a), (3, .int bits13_), (4, .int choice14_)] [] := by
          intro h42_
          rw [if_neg h42_] at h33_
          refine z_iconst (v := 0) C dX11_rests_93 ic_0 ?_
          cases h33_
          exact K34_
        refine c_ge_f C 93 dX11_rests_86 (by decide) (fun h41_ => ?_) (fun h41_ => ?_)
        · exact K35_ h41_
        · exact K36_ h41_
      refine z_ist C dX11_rests_94 rfl (Nat.le_of_ble_eq_true rfl) rfl ?_
      obtain ⟨y43_, h44_, h12_⟩ := lt_ h12_
      have h44_ := h44_.symm
      suffices K45_ : Z Θ 7 3 18 (zQX Θ ω 4 24) σ 113 [(0, .ref (zA Θ 0)), (1, .int person_a), (2, .int other_a), (3, .int y43_), (4, .int choice14_), (5, .int (b2i x21_)), (6, .int (b2i x32_))] [] by
        have K46_ : (x21_ = true) ∧ (x32_ = true) → Z Θ 7 3 18 (zQX Θ ω 4 24) σ 106 [(6, .int (b2i x32_)), (5, .int (b2i x21_)), (0, .ref (zA Θ 0)), (1, .int person_a), (2, .int other_a), (3, .int bits13_), (4, .int choice14_)] [] := by
          intro h50_
          rw [if_pos h50_] at h44_
          refine z_iload_n C 5 dX11_rests_106 rfl rfl ?_
          refine z_iconst (v := 1) C dX11_rests_107 ic_1 ?_
          refine z_iload C 6 dX11_rests_108 rfl ?_
          refine z_shl C dX11_rests_110 ?_
          refine z_ior C dX11_rests_111 ?_
          obtain ⟨bits51_, h52_, h44_⟩ := lt_ h44_
          refine z_istN C dX11_rests_112 h52_ rfl (Nat.le_of_ble_eq_true rfl) rfl ?_
          subst h44_
          refine Z.sub [3, 4, 5, 0, 6, 2, 1] rfl ?_
          exact K45_
        have K47_ : ¬ ((x21_ = true) ∧ (x32_ = true)) → Z Θ 7 3 18 (zQX Θ ω 4 24) σ 113 [(6, .int (b2i x32_)), (5, .int (b2i x21_)), (0, .ref (zA Θ 0)), (1, .int person_a), (2, .int other_a), (3, .int bits13_), (4, .int choice14_)] [] := by
          intro h50_
          rw [if_neg h50_] at h44_
          subst h44_
          refine Z.sub [2, 3, 4, 5, 6, 1, 0] rfl ?_
          exact K45_
        refine z_iload C 1 dX11_rests_96 rfl ?_
        refine cb_f C 113 dX11_rests_98 (by decide) (fun h48_ => ?_) (fun h48_ => ?_)
        · refine z_iload C 0 dX11_rests_101 rfl ?_
          refine cb_f C 113 dX11_rests_103 (by decide) (fun h49_ => ?_) (fun h49_ => ?_)
          · exact K46_ ⟨h48_, h49_⟩
          · exact K47_ (fun n => h49_ n.2)
        · exact K47_ (fun n => h48_ n.1)
      obtain ⟨choice53_, h54_, h12_⟩ := lt_ h12_
      refine z_inc C 4 dX11_rests_113 rfl ic_1 h54_ (Nat.le_of_ble_eq_true rfl) rfl ?_
      refine z_goto C 36 dX11_rests_116 (by decide) ?_
      refine Z.sub [1, 2, 3, 4, 0] rfl ?_
      exact h11_ _ _ h12_
    have K18_ : ¬ (choice14_ < 4) → Z Θ 7 3 18 (zQX Θ ω 4 24) σ 119 [(0, .ref (zA Θ 0)), (1, .int person_a), (2, .int other_a), (3, .int bits13_), (4, .int choice14_)] [] := by
      intro h20_
      rw [if_neg h20_] at h12_
      cases h12_
      exact K9_
    refine z_iload C 4 dX11_rests_36 rfl ?_
    refine z_iconst (v := 4) C dX11_rests_38 ic_4 ?_
    refine c_lt_f C 119 dX11_rests_39 (by decide) (fun h19_ => ?_) (fun h19_ => ?_)
    · exact K17_ h19_
    · exact K18_ h19_
  refine z_iload_n C 3 dX11_rests_119 rfl rfl ?_
  cases hf
  subst hω
  exact zx_iret C ⟨(Nat.le_of_ble_eq_true rfl), (Nat.le_of_ble_eq_true rfl)⟩ dX11_rests_120
theorem c11_rests {l : Launch} {kd : List KD} {w : Wp} {σ : St} {person_a : Int32} {other_a : Int32} (hkd : kd = kdC) (hi : zI kd w) (hlt : l.stackTraces = false) {r : (Sum Nat Int32 × St)} (hf : q11_rests σ person_a other_a = some r) : zX l kd w yX11_rests cX11_rests 7 (some .int) rm11_rests [.ref (w.2.2.1 0), .int person_a, .int other_a] σ (om (fun v => some (.int v)) r) 4 24 := zX_of rfl hi (Nat.le_of_ble_eq_true rfl) (fun Θ hl hw C het => by
  obtain ⟨Θ1, Θ2, Θ3, Θ4, Θ5⟩ := Θ
  cases hw
  cases hl
  exact p11_rests C hkd hlt het  hf rfl)
/-! LastLoaf.choose -/
theorem dX11_choose_0 : decode cX11_choose 0 = .ok (.lconst 1, 1) := by decide +kernel
theorem dX11_choose_1 : decode cX11_choose 1 = .ok (.lstore_n 2, 1) := by decide +kernel
theorem dX11_choose_2 : decode cX11_choose 2 = .ok (.iconst 1, 1) := by decide +kernel
theorem dX11_choose_3 : decode cX11_choose 3 = .ok (.istore 4, 2) := by decide +kernel
theorem dX11_choose_5 : decode cX11_choose 5 = .ok (.iload 4, 2) := by decide +kernel
theorem dX11_choose_7 : decode cX11_choose 7 = .ok (.iload_n 1, 1) := by decide +kernel
theorem dX11_choose_8 : decode cX11_choose 8 = .ok (.if_icmp .gt 23, 3) := by decide +kernel
theorem dX11_choose_11 : decode cX11_choose 11 = .ok (.lload_n 2, 1) := by decide +kernel
theorem dX11_choose_12 : decode cX11_choose 12 = .ok (.iload_n 0, 1) := by decide +kernel
theorem dX11_choose_13 : decode cX11_choose 13 = .ok (.iload_n 1, 1) := by decide +kernel
theorem dX11_choose_14 : decode cX11_choose 14 = .ok (.isub, 1) := by decide +kernel
theorem dX11_choose_15 : decode cX11_choose 15 = .ok (.iload 4, 2) := by decide +kernel
theorem dX11_choose_17 : decode cX11_choose 17 = .ok (.iadd, 1) := by decide +kernel
theorem dX11_choose_18 : decode cX11_choose 18 = .ok (.i2l, 1) := by decide +kernel
theorem dX11_choose_19 : decode cX11_choose 19 = .ok (.lmul, 1) := by decide +kernel
theorem dX11_choose_20 : decode cX11_choose 20 = .ok (.iload 4, 2) := by decide +kernel
theorem dX11_choose_22 : decode cX11_choose 22 = .ok (.i2l, 1) := by decide +kernel
theorem dX11_choose_23 : decode cX11_choose 23 = .ok (.ldiv, 1) := by decide +kernel
theorem dX11_choose_24 : decode cX11_choose 24 = .ok (.lstore_n 2, 1) := by decide +kernel
theorem dX11_choose_25 : decode cX11_choose 25 = .ok (.iinc 4 1, 3) := by decide +kernel
theorem dX11_choose_28 : decode cX11_choose 28 = .ok (.goto (-23), 3) := by decide +kernel
theorem dX11_choose_31 : decode cX11_choose 31 = .ok (.lload_n 2, 1) := by decide +kernel
theorem dX11_choose_32 : decode cX11_choose 32 = .ok (.lreturn, 1) := by decide +kernel
def q11_choose (n_a : Int32) (k_a : Int32) : Option Int64 :=
  Option.bind (loop2 (fun rec4_ (ways7_ : Int64) (i8_ : Int32) =>
  if i8_ ≤ k_a then
  Option.bind (dvl (ways7_ * (((n_a - k_a) + i8_).toInt64)) i8_.toInt64) fun x15_ =>
  lt (i8_ + 1) fun i17_ =>
  rec4_ x15_ i17_
  else (some (ways7_, i8_))) fuelN (1 : Int64) (1 : Int32)) fun y1_ =>
  some y1_.1
abbrev rm11_choose : Room := { frames := 0, cells := 0, slots := 0, locals := 0 }
set_option maxHeartbeats 4000000 in
set_option maxRecDepth 100000 in
theorem p11_choose {Θ : Tz} {σ : St} {ρ : Option Value × St} (C : Zc Θ cX11_choose 5 RX11 (some .long) rm11_choose) (hkd : Θ.2.2.2.2.1 = kdC) {n_a : Int32} {k_a : Int32} {r : Int64} (hf : q11_choose n_a k_a = some r) (hρ : ρ = (some (.long r), σ)) : Z Θ 5 0 0 (zQ Θ ρ) σ 0 [(0, .int n_a), (1, .int k_a)] [] := by
  unfold q11_choose at hf
  refine z_lconst (v := 1) C dX11_choose_0 (by decide +kernel) ?_
  refine z_lstN C dX11_choose_1 rfl rfl (Nat.le_of_ble_eq_true rfl) rfl ?_
  refine z_iconst (v := 1) C dX11_choose_2 ic_1 ?_
  refine z_ist C dX11_choose_3 rfl (Nat.le_of_ble_eq_true rfl) rfl ?_
  refine Z.sub [2, 3, 1, 0] rfl ?_
  obtain ⟨y1_, h2_, hf⟩ := ob hf
  suffices K3_ : Z Θ 5 0 0 (zQ Θ ρ) σ 31 [(0, .int n_a), (1, .int k_a), (2, .long y1_.1), (4, .int y1_.2)] [] by
    refine loop2_Z (P := fun (ways7_ : Int64) (i8_ : Int32) => Z Θ 5 0 0 (zQ Θ ρ) σ 5 [(0, .int n_a), (1, .int k_a), (2, .long ways7_), (4, .int i8_)] []) ?_ fuelN (1 : Int64) (1 : Int32) h2_
    clear h2_
    intro rec4_ ways7_ i8_ h5_ h6_
    have K11_ : i8_ ≤ k_a → Z Θ 5 0 0 (zQ Θ ρ) σ 11 [(0, .int n_a), (1, .int k_a), (2, .long ways7_), (4, .int i8_)] [] := by
      intro h14_
      rw [if_pos h14_] at h6_
      refine z_lload_n C 2 dX11_choose_11 rfl rfl ?_
      refine z_iload_n C 0 dX11_choose_12 rfl rfl ?_
      refine z_iload_n C 1 dX11_choose_13 rfl rfl ?_
      refine z_isub C dX11_choose_14 ?_
      refine z_iload C 3 dX11_choose_15 rfl ?_
      refine z_iadd C dX11_choose_17 ?_
      refine z_i2l C dX11_choose_18 ?_
      refine z_lmul C dX11_choose_19 ?_
      refine z_iload C 3 dX11_choose_20 rfl ?_
      refine z_i2l C dX11_choose_22 ?_
      obtain ⟨x15_, h16_, h6_⟩ := ob h6_
      refine z_dvl C h16_ dX11_choose_23 ?_
      refine z_lstN C dX11_choose_24 rfl rfl (Nat.le_of_ble_eq_true rfl) rfl ?_
      obtain ⟨i17_, h18_, h6_⟩ := lt_ h6_
      refine z_inc C 3 dX11_choose_25 rfl ic_1 h18_ (Nat.le_of_ble_eq_true rfl) rfl ?_
      refine z_goto C 5 dX11_choose_28 (by decide) ?_
      refine Z.sub [2, 3, 1, 0] rfl ?_
      exact h5_ _ _ h6_
    have K12_ : ¬ (i8_ ≤ k_a) → Z Θ 5 0 0 (zQ Θ ρ) σ 31 [(0, .int n_a), (1, .int k_a), (2, .long ways7_), (4, .int i8_)] [] := by
      intro h14_
      rw [if_neg h14_] at h6_
      cases h6_
      exact K3_
    refine z_iload C 3 dX11_choose_5 rfl ?_
    refine z_iload_n C 1 dX11_choose_7 rfl rfl ?_
    refine c_le_f C 31 dX11_choose_8 (by decide) (fun h13_ => ?_) (fun h13_ => ?_)
    · exact K11_ h13_
    · exact K12_ h13_
  refine z_lload_n C 2 dX11_choose_31 rfl rfl ?_
  cases hf
  subst hρ
  exact z_lret C dX11_choose_32
theorem c11_choose {l : Launch} {kd : List KD} {w : Wp} {σ : St} {n_a : Int32} {k_a : Int32} (hkd : kd = kdC) (hi : zI kd w) {r : Int64} (hf : q11_choose n_a k_a = some r) : zM l kd w yX11_choose cX11_choose 5 (some .long) rm11_choose [.int n_a, .int k_a] σ (some (.long r), σ) := zM_of rfl hi (Nat.le_of_ble_eq_true rfl) (fun Θ hl hw C => by
  obtain ⟨Θ1, Θ2, Θ3, Θ4, Θ5⟩ := Θ
  cases hw
  exact p11_choose C hkd  hf rfl)
/-! LastLoaf.power -/
theorem dX11_power_0 : decode cX11_power 0 = .ok (.lconst 1, 1) := by decide +kernel
theorem dX11_power_1 : decode cX11_power 1 = .ok (.lstore_n 3, 1) := by decide +kernel
theorem dX11_power_2 : decode cX11_power 2 = .ok (.iconst 0, 1) := by decide +kernel
theorem dX11_power_3 : decode cX11_power 3 = .ok (.istore 5, 2) := by decide +kernel
theorem dX11_power_5 : decode cX11_power 5 = .ok (.iload 5, 2) := by decide +kernel
theorem dX11_power_7 : decode cX11_power 7 = .ok (.iload_n 2, 1) := by decide +kernel
theorem dX11_power_8 : decode cX11_power 8 = .ok (.if_icmp .ge 13, 3) := by decide +kernel
theorem dX11_power_11 : decode cX11_power 11 = .ok (.lload_n 3, 1) := by decide +kernel
theorem dX11_power_12 : decode cX11_power 12 = .ok (.lload_n 0, 1) := by decide +kernel
theorem dX11_power_13 : decode cX11_power 13 = .ok (.lmul, 1) := by decide +kernel
theorem dX11_power_14 : decode cX11_power 14 = .ok (.lstore_n 3, 1) := by decide +kernel
theorem dX11_power_15 : decode cX11_power 15 = .ok (.iinc 5 1, 3) := by decide +kernel
theorem dX11_power_18 : decode cX11_power 18 = .ok (.goto (-13), 3) := by decide +kernel
theorem dX11_power_21 : decode cX11_power 21 = .ok (.lload_n 3, 1) := by decide +kernel
theorem dX11_power_22 : decode cX11_power 22 = .ok (.lreturn, 1) := by decide +kernel
def q11_power (base_a : Int64) (exponent_a : Int32) : Option Int64 :=
  Option.bind (loop2 (fun rec4_ (product7_ : Int64) (i8_ : Int32) =>
  if i8_ < exponent_a then
  lt (product7_ * base_a) fun product15_ =>
  lt (i8_ + 1) fun i17_ =>
  rec4_ product15_ i17_
  else (some (product7_, i8_))) fuelN (1 : Int64) (0 : Int32)) fun y1_ =>
  some y1_.1
abbrev rm11_power : Room := { frames := 0, cells := 0, slots := 0, locals := 0 }
set_option maxHeartbeats 4000000 in
set_option maxRecDepth 100000 in
theorem p11_power {Θ : Tz} {σ : St} {ρ : Option Value × St} (C : Zc Θ cX11_power 6 RX11 (some .long) rm11_power) (hkd : Θ.2.2.2.2.1 = kdC) {base_a : Int64} {exponent_a : Int32} {r : Int64} (hf : q11_power base_a exponent_a = some r) (hρ : ρ = (some (.long r), σ)) : Z Θ 6 0 0 (zQ Θ ρ) σ 0 [(0, .long base_a), (2, .int exponent_a)] [] := by
  unfold q11_power at hf
  refine z_lconst (v := 1) C dX11_power_0 (by decide +kernel) ?_
  refine z_lstN C dX11_power_1 rfl rfl (Nat.le_of_ble_eq_true rfl) rfl ?_
  refine z_iconst (v := 0) C dX11_power_2 ic_0 ?_
  refine z_ist C dX11_power_3 rfl (Nat.le_of_ble_eq_true rfl) rfl ?_
  refine Z.sub [2, 3, 1, 0] rfl ?_
  obtain ⟨y1_, h2_, hf⟩ := ob hf
  suffices K3_ : Z Θ 6 0 0 (zQ Θ ρ) σ 21 [(0, .long base_a), (2, .int exponent_a), (3, .long y1_.1), (5, .int y1_.2)] [] by
    refine loop2_Z (P := fun (product7_ : Int64) (i8_ : Int32) => Z Θ 6 0 0 (zQ Θ ρ) σ 5 [(0, .long base_a), (2, .int exponent_a), (3, .long product7_), (5, .int i8_)] []) ?_ fuelN (1 : Int64) (0 : Int32) h2_
    clear h2_
    intro rec4_ product7_ i8_ h5_ h6_
    have K11_ : i8_ < exponent_a → Z Θ 6 0 0 (zQ Θ ρ) σ 11 [(0, .long base_a), (2, .int exponent_a), (3, .long product7_), (5, .int i8_)] [] := by
      intro h14_
      rw [if_pos h14_] at h6_
      refine z_lload_n C 2 dX11_power_11 rfl rfl ?_
      refine z_lload_n C 0 dX11_power_12 rfl rfl ?_
      refine z_lmul C dX11_power_13 ?_
      obtain ⟨product15_, h16_, h6_⟩ := lt_ h6_
      refine z_lstN C dX11_power_14 h16_ rfl (Nat.le_of_ble_eq_true rfl) rfl ?_
      obtain ⟨i17_, h18_, h6_⟩ := lt_ h6_
      refine z_inc C 3 dX11_power_15 rfl ic_1 h18_ (Nat.le_of_ble_eq_true rfl) rfl ?_
      refine z_goto C 5 dX11_power_18 (by decide) ?_
      refine Z.sub [2, 3, 1, 0] rfl ?_
      exact h5_ _ _ h6_
    have K12_ : ¬ (i8_ < exponent_a) → Z Θ 6 0 0 (zQ Θ ρ) σ 21 [(0, .long base_a), (2, .int exponent_a), (3, .long product7_), (5, .int i8_)] [] := by
      intro h14_
      rw [if_neg h14_] at h6_
      cases h6_
      exact K3_
    refine z_iload C 3 dX11_power_5 rfl ?_
    refine z_iload_n C 1 dX11_power_7 rfl rfl ?_
    refine c_lt_f C 21 dX11_power_8 (by decide) (fun h13_ => ?_) (fun h13_ => ?_)
    · exact K11_ h13_
    · exact K12_ h13_
  refine z_lload_n C 2 dX11_power_21 rfl rfl ?_
  cases hf
  subst hρ
  exact z_lret C dX11_power_22
theorem c11_power {l : Launch} {kd : List KD} {w : Wp} {σ : St} {base_a : Int64} {exponent_a : Int32} (hkd : kd = kdC) (hi : zI kd w) {r : Int64} (hf : q11_power base_a exponent_a = some r) : zM l kd w yX11_power cX11_power 6 (some .long) rm11_power [.long base_a, .int exponent_a] σ (some (.long r), σ) := zM_of rfl hi (Nat.le_of_ble_eq_true rfl) (fun Θ hl hw C => by
  obtain ⟨Θ1, Θ2, Θ3, Θ4, Θ5⟩ := Θ
  cases hw
  exact p11_power C hkd  hf rfl)
/-! LastLoaf.odds -/
theorem w_7_203 : Cond.code ({ cls := "LastLoaf", name := "choose", desc := "(II)J" } : MethodName) prog_1_method_68_code (5 : Nat) (Option.some ClassFile.FieldType.long) ∈ TB := tb_in (lwt_7 (List.mem_of_getElem? (i := 203) (by decide +kernel))) rfl
theorem w_7_202 : Cond.static ({ cls := "LastLoaf", name := "choose", desc := "(II)J" } : MethodName) ∈ TB := tb_in (lwt_7 (List.mem_of_getElem? (i := 202) (by decide +kernel))) rfl
theorem w_7_201 : Cond.methodLink "LastLoaf" (400 : Nat) ({ cls := "LastLoaf", name := "choose", desc := "(II)J" } : MethodName) ∈ TB := tb_in (lwt_7 (List.mem_of_getElem? (i := 201) (by decide +kernel))) rfl
theorem cr11_400 {Θ : Tz} {cc : ByteArray} {nL kc ks : Nat} {ret : Option FieldType} {rm : Room} {Q : State → Prop} {σ : St} {pc : Nat} {lv : List (Nat × Value)} {st : List Value} (C : Zc Θ cc nL RX11 ret rm) (hkd : Θ.2.2.2.2.1 = kdC) {n_a : Int32} {k_a : Int32} {r : Int64} (hx : q11_choose n_a k_a = some r) (hrm : rm11_choose.frames + 1 ≤ rm.frames ∧ 8 + (5 + 11) + rm11_choose.locals ≤ rm.locals) (hcat : (st.map fun v => v.category).sum ≤ 8) (hk : kc ≤ rm.cells ∧ ks ≤ rm.slots) (hd : decode cc pc = .ok (.invokestatic 400, 3)) (kk : Z Θ nL kc ks Q σ (pc + 3) lv (.long r :: st)) : Z Θ nL kc ks Q σ pc lv (.int k_a :: .int n_a :: st) := z_callS C [.int n_a, .int k_a] (some (.long r), σ) 2 (c11_choose (n_a := n_a) (k_a := k_a) hkd (zc_inj C) hx) w_7_203 w_7_201 w_7_202 w_1_1 ⟨rfl, rfl, hrm.1, hrm.2⟩ (by decide +kernel) rfl rfl hcat hk hd kk
theorem w_1_159 : Cond.fieldLink "LastLoaf" (404 : Nat) "LastLoaf$Village" "speech" "I" ∈ TB := tb_in (lwt_1 (List.mem_of_getElem? (i := 159) (by decide +kernel))) rfl
theorem fg11_404 {Θ : Tz} {cc : ByteArray} {nL kc ks : Nat} {ret : Option FieldType} {rm : Room} {Q : State → Prop} {σ : St} {pc : Nat} {lv : List (Nat × Value)} {st : List Value} (C : Zc Θ cc nL RX11 ret rm) (hkd : Θ.2.2.2.2.1 = kdC) {th : Nat} (hth : isV th) (hd : decode cc pc = .ok (.getfield 404, 3)) (kk : Z Θ nL kc ks Q σ (pc + 3) lv (.int (σ th 14) :: st)) : Z Θ nL kc ks Q σ pc lv (.ref (zA Θ th) :: st) := z_get C inT10 th (kV_0 hkd hth) rfl 14 (by decide) w_1_159 rfl hd kk
theorem w_7_206 : Cond.code ({ cls := "LastLoaf", name := "power", desc := "(JI)J" } : MethodName) prog_1_method_69_code (6 : Nat) (Option.some ClassFile.FieldType.long) ∈ TB := tb_in (lwt_7 (List.mem_of_getElem? (i := 206) (by decide +kernel))) rfl
theorem w_7_205 : Cond.static ({ cls := "LastLoaf", name := "power", desc := "(JI)J" } : MethodName) ∈ TB := tb_in (lwt_7 (List.mem_of_getElem? (i := 205) (by decide +kernel))) rfl
theorem w_7_204 : Cond.methodLink "LastLoaf" (407 : Nat) ({ cls := "LastLoaf", name := "power", desc := "(JI)J" } : MethodName) ∈ TB := tb_in (lwt_7 (List.mem_of_getElem? (i := 204) (by decide +kernel))) rfl
theorem cr11_407 {Θ : Tz} {cc : ByteArray} {nL kc ks : Nat} {ret : Option FieldType} {rm : Room} {Q : State → Prop} {σ : St} {pc : Nat} {lv : List (Nat × Value)} {st : List Value} (C : Zc Θ cc nL RX11 ret rm) (hkd : Θ.2.2.2.2.1 = kdC) {base_a : Int64} {exponent_a : Int32} {r : Int64} (hx : q11_power base_a exponent_a = some r) (hrm : rm11_power.frames + 1 ≤ rm.frames ∧ 8 + (6 + 11) + rm11_power.locals ≤ rm.locals) (hcat : (st.map fun v => v.category).sum ≤ 8) (hk : kc ≤ rm.cells ∧ ks ≤ rm.slots) (hd : decode cc pc = .ok (.invokestatic 407, 3)) (kk : Z Θ nL kc ks Q σ (pc + 3) lv (.long r :: st)) : Z Θ nL kc ks Q σ pc lv (.int exponent_a :: .long base_a :: st) := z_callS C [.long base_a, .int exponent_a] (some (.long r), σ) 2 (c11_power (base_a := base_a) (exponent_a := exponent_a) hkd (zc_inj C) hx) w_7_206 w_7_204 w_7_205 w_1_1 ⟨rfl, rfl, hrm.1, hrm.2⟩ (by decide +kernel) rfl rfl hcat hk hd kk
theorem w_7_207 : Cond.constantLong "LastLoaf" (411 : Nat) (100 : Int64) ∈ TB := tb_in (lwt_7 (List.mem_of_getElem? (i := 207) (by decide +kernel))) rfl
theorem w_7_208 : Cond.constantLong "LastLoaf" (413 : Nat) (10000 : Int64) ∈ TB := tb_in (lwt_7 (List.mem_of_getElem? (i := 208) (by decide +kernel))) rfl
theorem dX11_odds_0 : decode cX11_odds 0 = .ok (.iload_n 1, 1) := by decide +kernel
theorem dX11_odds_1 : decode cX11_odds 1 = .ok (.iconst 0, 1) := by decide +kernel
theorem dX11_odds_2 : decode cX11_odds 2 = .ok (.bipush 6, 2) := by decide +kernel
theorem dX11_odds_4 : decode cX11_odds 4 = .ok (.invokestatic 231, 3) := by decide +kernel
theorem dX11_odds_7 : decode cX11_odds 7 = .ok (.iload_n 2, 1) := by decide +kernel
theorem dX11_odds_8 : decode cX11_odds 8 = .ok (.iconst 0, 1) := by decide +kernel
theorem dX11_odds_9 : decode cX11_odds 9 = .ok (.bipush 6, 2) := by decide +kernel
theorem dX11_odds_11 : decode cX11_odds 11 = .ok (.invokestatic 231, 3) := by decide +kernel
theorem dX11_odds_14 : decode cX11_odds 14 = .ok (.lconst 0, 1) := by decide +kernel
theorem dX11_odds_15 : decode cX11_odds 15 = .ok (.lstore_n 3, 1) := by decide +kernel
theorem dX11_odds_16 : decode cX11_odds 16 = .ok (.iload_n 2, 1) := by decide +kernel
theorem dX11_odds_17 : decode cX11_odds 17 = .ok (.istore 5, 2) := by decide +kernel
theorem dX11_odds_19 : decode cX11_odds 19 = .ok (.iload 5, 2) := by decide +kernel
theorem dX11_odds_21 : decode cX11_odds 21 = .ok (.iload_n 1, 1) := by decide +kernel
theorem dX11_odds_22 : decode cX11_odds 22 = .ok (.if_icmp .gt 51, 3) := by decide +kernel
theorem dX11_odds_25 : decode cX11_odds 25 = .ok (.lload_n 3, 1) := by decide +kernel
theorem dX11_odds_26 : decode cX11_odds 26 = .ok (.iload_n 1, 1) := by decide +kernel
theorem dX11_odds_27 : decode cX11_odds 27 = .ok (.iload 5, 2) := by decide +kernel
theorem dX11_odds_29 : decode cX11_odds 29 = .ok (.invokestatic 400, 3) := by decide +kernel
theorem dX11_odds_32 : decode cX11_odds 32 = .ok (.aload_n 0, 1) := by decide +kernel
theorem dX11_odds_33 : decode cX11_odds 33 = .ok (.getfield 19, 3) := by decide +kernel
theorem dX11_odds_36 : decode cX11_odds 36 = .ok (.getfield 404, 3) := by decide +kernel
theorem dX11_odds_39 : decode cX11_odds 39 = .ok (.i2l, 1) := by decide +kernel
theorem dX11_odds_40 : decode cX11_odds 40 = .ok (.iload 5, 2) := by decide +kernel
theorem dX11_odds_42 : decode cX11_odds 42 = .ok (.invokestatic 407, 3) := by decide +kernel
theorem dX11_odds_45 : decode cX11_odds 45 = .ok (.lmul, 1) := by decide +kernel
theorem dX11_odds_46 : decode cX11_odds 46 = .ok (.bipush 100, 2) := by decide +kernel
theorem dX11_odds_48 : decode cX11_odds 48 = .ok (.aload_n 0, 1) := by decide +kernel
theorem dX11_odds_49 : decode cX11_odds 49 = .ok (.getfield 19, 3) := by decide +kernel
theorem dX11_odds_52 : decode cX11_odds 52 = .ok (.getfield 404, 3) := by decide +kernel
theorem dX11_odds_55 : decode cX11_odds 55 = .ok (.isub, 1) := by decide +kernel
theorem dX11_odds_56 : decode cX11_odds 56 = .ok (.i2l, 1) := by decide +kernel
theorem dX11_odds_57 : decode cX11_odds 57 = .ok (.iload_n 1, 1) := by decide +kernel
theorem dX11_odds_58 : decode cX11_odds 58 = .ok (.iload 5, 2) := by decide +kernel
theorem dX11_odds_60 : decode cX11_odds 60 = .ok (.isub, 1) := by decide +kernel
theorem dX11_odds_61 : decode cX11_odds 61 = .ok (.invokestatic 407, 3) := by decide +kernel
theorem dX11_odds_64 : decode cX11_odds 64 = .ok (.lmul, 1) := by decide +kernel
theorem dX11_odds_65 : decode cX11_odds 65 = .ok (.ladd, 1) := by decide +kernel
theorem dX11_odds_66 : decode cX11_odds 66 = .ok (.lstore_n 3, 1) := by decide +kernel
theorem dX11_odds_67 : decode cX11_odds 67 = .ok (.iinc 5 1, 3) := by decide +kernel
theorem dX11_odds_70 : decode cX11_odds 70 = .ok (.goto (-51), 3) := by decide +kernel
theorem dX11_odds_73 : decode cX11_odds 73 = .ok (.ldc2_w 411, 3) := by decide +kernel
theorem dX11_odds_76 : decode cX11_odds 76 = .ok (.iload_n 1, 1) := by decide +kernel
theorem dX11_odds_77 : decode cX11_odds 77 = .ok (.invokestatic 407, 3) := by decide +kernel
theorem dX11_odds_80 : decode cX11_odds 80 = .ok (.lstore 5, 2) := by decide +kernel
theorem dX11_odds_82 : decode cX11_odds 82 = .ok (.lload 5, 2) := by decide +kernel
theorem dX11_odds_84 : decode cX11_odds 84 = .ok (.lconst 0, 1) := by decide +kernel
theorem dX11_odds_85 : decode cX11_odds 85 = .ok (.lcmp, 1) := by decide +kernel
theorem dX11_odds_86 : decode cX11_odds 86 = .ok (.ifCond .le 15, 3) := by decide +kernel
theorem dX11_odds_89 : decode cX11_odds 89 = .ok (.lload_n 3, 1) := by decide +kernel
theorem dX11_odds_90 : decode cX11_odds 90 = .ok (.ldc2_w 413, 3) := by decide +kernel
theorem dX11_odds_93 : decode cX11_odds 93 = .ok (.lmul, 1) := by decide +kernel
theorem dX11_odds_94 : decode cX11_odds 94 = .ok (.lload 5, 2) := by decide +kernel
theorem dX11_odds_96 : decode cX11_odds 96 = .ok (.ldiv, 1) := by decide +kernel
theorem dX11_odds_97 : decode cX11_odds 97 = .ok (.l2i, 1) := by decide +kernel
theorem dX11_odds_98 : decode cX11_odds 98 = .ok (.goto 4, 3) := by decide +kernel
theorem dX11_odds_101 : decode cX11_odds 101 = .ok (.iconst 0, 1) := by decide +kernel
theorem dX11_odds_102 : decode cX11_odds 102 = .ok (.ireturn, 1) := by decide +kernel
def q11_odds (σ : St) (n_a : Int32) (k_a : Int32) : Option (Sum Nat Int32 × St) :=
  thn (q11_needNumber n_a 0 6) σ
  (thn (q11_needNumber k_a 0 6) σ
  (Option.bind (loop2 (fun rec8_ (hits11_ : Int64) (j12_ : Int32) =>
  if j12_ ≤ n_a then
  Option.bind (q11_choose n_a j12_) fun x19_ =>
  Option.bind (q11_power ((σ 44 14).toInt64) j12_) fun x21_ =>
  Option.bind (q11_power ((100 - (σ 44 14)).toInt64) (n_a - j12_)) fun x23_ =>
  lt (hits11_ + ((x19_ * x21_) * x23_)) fun hits25_ =>
  lt (j12_ + 1) fun j27_ =>
  rec8_ hits25_ j27_
  else (some (hits11_, j12_))) fuelN (0 : Int64) k_a) fun y5_ =>
  Option.bind (q11_power 100 n_a) fun x29_ =>
  Option.bind (if 0 < (lg_cmp x29_ 0) then (Option.bind (dvl (y5_.1 * 10000) x29_) fun x37_ =>
  some x37_.toInt32) else (some (0 : Int32))) fun x31_ =>
  some (.inr x31_, σ)))
abbrev rm11_odds : Room := { frames := 7, cells := 2, slots := 12, locals := 112 }
set_option maxHeartbeats 4000000 in
set_option maxRecDepth 100000 in
theorem p11_odds {Θ : Tz} {σ : St} {ω : Om} (C : Zc Θ cX11_odds 7 RX11 (some .int) rm11_odds) (hkd : Θ.2.2.2.2.1 = kdC) (hlt : Θ.1.2.1.stackTraces = false) (het : ∀ x ∈ Θ.2.2.1.2.exceptionTable.toList, False) {n_a : Int32} {k_a : Int32} {r : (Sum Nat Int32 × St)} (hf : q11_odds σ n_a k_a = some r) (hω : ω = om (fun v => some (.int v)) r) : Z Θ 7 0 0 (zQX Θ ω 2 12) σ 0 [(0, .ref (zA Θ 0)), (1, .int n_a), (2, .int k_a)] [] := by
  unfold q11_odds at hf
  refine z_iload_n C 1 dX11_odds_0 rfl rfl ?_
  refine z_iconst (v := 0) C dX11_odds_1 ic_0 ?_
  refine z_bipush (v := 6) C dX11_odds_2 bp_6 ?_
  refine zx_callS C het [.int n_a, .int 0, .int 6] (q11_needNumber n_a 0 6) 1 6 3 (c11_needNumber (n_a := n_a) (least_a := 0) (most_a := 6) hkd (zc_inj C) hlt) w_6_83 w_6_81 w_6_82 w_1_1 ⟨rfl, rfl, (Nat.le_of_ble_eq_true rfl), (Nat.le_of_ble_eq_true rfl)⟩ (by decide +kernel) rfl rfl (Nat.le_of_ble_eq_true rfl) ⟨(Nat.le_of_ble_eq_true rfl), (Nat.le_of_ble_eq_true rfl)⟩ dX11_odds_4 ⟨(Nat.le_of_ble_eq_true rfl), (Nat.le_of_ble_eq_true rfl)⟩ (fun e9 h2_ => by rw [h2_] at hf; cases hf; exact hω) (fun h1_ => ?_)
  rw [h1_] at hf
  replace hf := thn_x hf
  refine z_iload_n C 2 dX11_odds_7 rfl rfl ?_
  refine z_iconst (v := 0) C dX11_odds_8 ic_0 ?_
  refine z_bipush (v := 6) C dX11_odds_9 bp_6 ?_
  refine zx_callS C het [.int k_a, .int 0, .int 6] (q11_needNumber k_a 0 6) 1 6 3 (c11_needNumber (n_a := k_a) (least_a := 0) (most_a := 6) hkd (zc_inj C) hlt) w_6_83 w_6_81 w_6_82 w_1_1 ⟨rfl, rfl, (Nat.le_of_ble_eq_true rfl), (Nat.le_of_ble_eq_true rfl)⟩ (by decide +kernel) rfl rfl (Nat.le_of_ble_eq_true rfl) ⟨(Nat.le_of_ble_eq_true rfl), (Nat.le_of_ble_eq_true rfl)⟩ dX11_odds_11 ⟨(Nat.le_of_ble_eq_true rfl), (Nat.le_of_ble_eq_true rfl)⟩ (fun e9 h4_ => by rw [h4_] at hf; cases hf; exact hω) (fun h3_ => ?_)
  rw [h3_] at hf
  replace hf := thn_x hf
  refine z_lconst (v := 0) C dX11_odds_14 (by decide +kernel) ?_
  refine z_lstN C dX11_odds_15 rfl rfl (Nat.le_of_ble_eq_true rfl) rfl ?_
  refine z_iload_n C 3 dX11_odds_16 rfl rfl ?_
  refine z_ist C dX11_odds_17 rfl (Nat.le_of_ble_eq_true rfl) rfl ?_
  refine Z.sub [2, 3, 4, 1, 0] rfl ?_
  obtain ⟨y5_, h6_, hf⟩ := ob hf
  suffices K7_ : Z Θ 7 2 12 (zQX Θ ω 2 12) σ 73 [(0, .ref (zA Θ 0)), (1, .int n_a), (2, .int k_a), (3, .long y5_.1), (5, .int y5_.2)] [] by
    refine loop2_Z (P := fun (hits11_ : Int64) (j12_ : Int32) => Z Θ 7 2 12 (zQX Θ ω 2 12) σ 19 [(0, .ref (zA Θ 0)), (1, .int n_a), (2, .int k_a), (3, .long hits11_), (5, .int j12_)] []) ?_ fuelN (0 : Int64) k_a h6_
    clear h6_
    intro rec8_ hits11_ j12_ h9_ h10_
    have K15_ : j12_ ≤ n_a → Z Θ 7 2 12 (zQX Θ ω 2 12) σ 25 [(0, .ref (zA Θ 0)), (1, .int n_a), (2, .int k_a), (3, .long hits11_), (5, .int j12_)] [] := by
      intro h18_
      rw [if_pos h18_] at h10_
      refine z_lload_n C 3 dX11_odds_25 rfl rfl ?_
      refine z_iload_n C 1 dX11_odds_26 rfl rfl ?_
      refine z_iload C 4 dX11_odds_27 rfl ?_
      obtain ⟨x19_, h20_, h10_⟩ := ob h10_
      refine cr11_400 (n_a := n_a) (k_a := j12_) C hkd  h20_ ⟨(Nat.le_of_ble_eq_true rfl), (Nat.le_of_ble_eq_true rfl)⟩ (Nat.le_of_ble_eq_true rfl) ⟨(Nat.le_of_ble_eq_true rfl), (Nat.le_of_ble_eq_true rfl)⟩ dX11_odds_29 ?_
      refine z_aload_n C 0 dX11_odds_32 rfl rfl ?_
      refine fg11_19 C hkd dX11_odds_33 ?_
      refine fg11_404 C hkd isV_44 dX11_odds_36 ?_
      refine z_i2l C dX11_odds_39 ?_
      refine z_iload C 4 dX11_odds_40 rfl ?_
      obtain ⟨x21_, h22_, h10_⟩ := ob h10_
      refine cr11_407 (base_a := ((σ 44 14).toInt64)) (exponent_a := j12_) C hkd  h22_ ⟨(Nat.le_of_ble_eq_true rfl), (Nat.le_of_ble_eq_true rfl)⟩ (Nat.le_of_ble_eq_true rfl) ⟨(Nat.le_of_ble_eq_true rfl), (Nat.le_of_ble_eq_true rfl)⟩ dX11_odds_42 ?_
      refine z_lmul C dX11_odds_45 ?_
      refine z_bipush (v := 100) C dX11_odds_46 bp_100 ?_
      refine z_aload_n C 0 dX11_odds_48 rfl rfl ?_
      refine fg11_19 C hkd dX11_odds_49 ?_
      refine fg11_404 C hkd isV_44 dX11_odds_52 ?_
      refine z_isub C dX11_odds_55 ?_
      refine z_i2l C dX11_odds_56 ?_
      refine z_iload_n C 1 dX11_odds_57 rfl rfl ?_
      refine z_iload C 4 dX11_odds_58 rfl ?_
      refine z_isub C dX11_odds_60 ?_
      obtain ⟨x23_, h24_, h10_⟩ := ob h10_
      refine cr11_407 (base_a := ((100 - (σ 44 14)).toInt64)) (exponent_a := (n_a - j12_)) C hkd  h24_ ⟨(Nat.le_of_ble_eq_true rfl), (Nat.le_of_ble_eq_true rfl)⟩ (Nat.le_of_ble_eq_true rfl) ⟨(Nat.le_of_ble_eq_true rfl), (Nat.le_of_ble_eq_true rfl)⟩ dX11_odds_61 ?_
      refine z_lmul C dX11_odds_64 ?_
      refine z_ladd C dX11_odds_65 ?_
      obtain ⟨hits25_, h26_, h10_⟩ := lt_ h10_
      refine z_lstN C dX11_odds_66 h26_ rfl (Nat.le_of_ble_eq_true rfl) rfl ?_
      obtain ⟨j27_, h28_, h10_⟩ := lt_ h10_
      refine z_inc C 4 dX11_odds_67 rfl ic_1 h28_ (Nat.le_of_ble_eq_true rfl) rfl ?_
      refine z_goto C 19 dX11_odds_70 (by decide) ?_
      refine Z.sub [2, 3, 4, 1, 0] rfl ?_
      exact h9_ _ _ h10_
    have K16_ : ¬ (j12_ ≤ n_a) → Z Θ 7 2 12 (zQX Θ ω 2 12) σ 73 [(0, .ref (zA Θ 0)), (1, .int n_a), (2, .int k_a), (3, .long hits11_), (5, .int j12_)] [] := by
      intro h18_
      rw [if_neg h18_] at h10_
      cases h10_
      exact K7_
    refine z_iload C 4 dX11_odds_19 rfl ?_
    refine z_iload_n C 1 dX11_odds_21 rfl rfl ?_
    refine c_le_f C 73 dX11_odds_22 (by decide) (fun h17_ => ?_) (fun h17_ => ?_)
    · exact K15_ h17_
    · exact K16_ h17_
  refine z_ldc2 (v := 100) C w_7_207 dX11_odds_73 ?_
  refine z_iload_n C 1 dX11_odds_76 rfl rfl ?_
  obtain ⟨x29_, h30_, hf⟩ := ob hf
  refine cr11_407 (base_a := 100) (exponent_a := n_a) C hkd  h30_ ⟨(Nat.le_of_ble_eq_true rfl), (Nat.le_of_ble_eq_true rfl)⟩ (Nat.le_of_ble_eq_true rfl) ⟨(Nat.le_of_ble_eq_true rfl), (Nat.le_of_ble_eq_true rfl)⟩ dX11_odds_77 ?_
  refine z_lst C dX11_odds_80 rfl (Nat.le_of_ble_eq_true rfl) rfl ?_
  obtain ⟨x31_, h32_, hf⟩ := ob hf
  suffices K33_ : Z Θ 7 2 12 (zQX Θ ω 2 12) σ 102 [(5, .long x29_), (0, .ref (zA Θ 0)), (1, .int n_a), (2, .int k_a), (3, .long y5_.1)] [.int x31_] by
    have K34_ : 0 < (lg_cmp x29_ 0) → Z Θ 7 2 12 (zQX Θ ω 2 12) σ 89 [(5, .long x29_), (0, .ref (zA Θ 0)), (1, .int n_a), (2, .int k_a), (3, .long y5_.1)] [] := by
      intro h39_
      rw [if_pos h39_] at h32_
      refine z_lload_n C 4 dX11_odds_89 rfl rfl ?_
      refine z_ldc2 (v := 10000) C w_7_208 dX11_odds_90 ?_
      refine z_lmul C dX11_odds_93 ?_
      refine z_lload C 0 dX11_odds_94 rfl ?_
      obtain ⟨x37_, h38_, h32_⟩ := ob h32_
      refine z_dvl C h38_ dX11_odds_96 ?_
      refine z_l2i C dX11_odds_97 ?_
      refine z_goto C 102 dX11_odds_98 (by decide) ?_
      cases h32_
      exact K33_
    have K35_ : ¬ (0 < (lg_cmp x29_ 0)) → Z Θ 7 2 12 (zQX Θ ω 2 12) σ 101 [(5, .long x29_), (0, .ref (zA Θ 0)), (1, .int n_a), (2, .int k_a), (3, .long y5_.1)] [] := by
      intro h39_
      rw [if_neg h39_] at h32_
      refine z_iconst (v := 0) C dX11_odds_101 ic_0 ?_
      cases h32_
      exact K33_
    refine z_lload C 0 dX11_odds_82 rfl ?_
    refine z_lconst (v := 0) C dX11_odds_84 (by decide +kernel) ?_
    refine z_lcmp C dX11_odds_85 ?_
    refine c0_gt_f C 101 dX11_odds_86 (by decide) (fun h36_ => ?_) (fun h36_ => ?_)
    · exact K34_ h36_
    · exact K35_ h36_
  cases hf
  subst hω
  exact zx_iret C ⟨(Nat.le_of_ble_eq_true rfl), (Nat.le_of_ble_eq_true rfl)⟩ dX11_odds_102
theorem c11_odds {l : Launch} {kd : List KD} {w : Wp} {σ : St} {n_a : Int32} {k_a : Int32} (hkd : kd = kdC) (hi : zI kd w) (hlt : l.stackTraces = false) {r : (Sum Nat Int32 × St)} (hf : q11_odds σ n_a k_a = some r) : zX l kd w yX11_odds cX11_odds 7 (some .int) rm11_odds [.ref (w.2.2.1 0), .int n_a, .int k_a] σ (om (fun v => some (.int v)) r) 2 12 := zX_of rfl hi (Nat.le_of_ble_eq_true rfl) (fun Θ hl hw C het => by
  obtain ⟨Θ1, Θ2, Θ3, Θ4, Θ5⟩ := Θ
  cases hw
  cases hl
  exact p11_odds C hkd hlt het  hf rfl)
/-! LastLoaf.hungriest -/
theorem dX11_hungriest_0 : decode cX11_hungriest 0 = .ok (.iconst (-1), 1) := by decide +kernel
theorem dX11_hungriest_1 : decode cX11_hungriest 1 = .ok (.istore_n 1, 1) := by decide +kernel
theorem dX11_hungriest_2 : decode cX11_hungriest 2 = .ok (.iconst 0, 1) := by decide +kernel
theorem dX11_hungriest_3 : decode cX11_hungriest 3 = .ok (.istore_n 2, 1) := by decide +kernel
theorem dX11_hungriest_4 : decode cX11_hungriest 4 = .ok (.iload_n 2, 1) := by decide +kernel
theorem dX11_hungriest_5 : decode cX11_hungriest 5 = .ok (.aload_n 0, 1) := by decide +kernel
theorem dX11_hungriest_6 : decode cX11_hungriest 6 = .ok (.getfield 19, 3) := by decide +kernel
theorem dX11_hungriest_9 : decode cX11_hungriest 9 = .ok (.getfield 355, 3) := by decide +kernel
theorem dX11_hungriest_12 : decode cX11_hungriest 12 = .ok (.if_icmp .ge 51, 3) := by decide +kernel
theorem dX11_hungriest_15 : decode cX11_hungriest 15 = .ok (.aload_n 0, 1) := by decide +kernel
theorem dX11_hungriest_16 : decode cX11_hungriest 16 = .ok (.getfield 19, 3) := by decide +kernel
theorem dX11_hungriest_19 : decode cX11_hungriest 19 = .ok (.getfield 171, 3) := by decide +kernel
theorem dX11_hungriest_22 : decode cX11_hungriest 22 = .ok (.iload_n 2, 1) := by decide +kernel
theorem dX11_hungriest_23 : decode cX11_hungriest 23 = .ok (.invokestatic 167, 3) := by decide +kernel
theorem dX11_hungriest_26 : decode cX11_hungriest 26 = .ok (.ifCond .ne 31, 3) := by decide +kernel
theorem dX11_hungriest_29 : decode cX11_hungriest 29 = .ok (.iload_n 1, 1) := by decide +kernel
theorem dX11_hungriest_30 : decode cX11_hungriest 30 = .ok (.iconst (-1), 1) := by decide +kernel
theorem dX11_hungriest_31 : decode cX11_hungriest 31 = .ok (.if_icmp .eq 24, 3) := by decide +kernel
theorem dX11_hungriest_34 : decode cX11_hungriest 34 = .ok (.aload_n 0, 1) := by decide +kernel
theorem dX11_hungriest_35 : decode cX11_hungriest 35 = .ok (.getfield 19, 3) := by decide +kernel
theorem dX11_hungriest_38 : decode cX11_hungriest 38 = .ok (.getfield 154, 3) := by decide +kernel
theorem dX11_hungriest_41 : decode cX11_hungriest 41 = .ok (.iload_n 2, 1) := by decide +kernel
theorem dX11_hungriest_42 : decode cX11_hungriest 42 = .ok (.iaload, 1) := by decide +kernel
theorem dX11_hungriest_43 : decode cX11_hungriest 43 = .ok (.aload_n 0, 1) := by decide +kernel
theorem dX11_hungriest_44 : decode cX11_hungriest 44 = .ok (.getfield 19, 3) := by decide +kernel
theorem dX11_hungriest_47 : decode cX11_hungriest 47 = .ok (.getfield 154, 3) := by decide +kernel
theorem dX11_hungriest_50 : decode cX11_hungriest 50 = .ok (.iload_n 1, 1) := by decide +kernel
theorem dX11_hungriest_51 : decode cX11_hungriest 51 = .ok (.iaload, 1) := by decide +kernel
theorem dX11_hungriest_52 : decode cX11_hungriest 52 = .ok (.if_icmp .le 5, 3) := by decide +kernel
theorem dX11_hungriest_55 : decode cX11_hungriest 55 = .ok (.iload_n 2, 1) := by decide +kernel
theorem dX11_hungriest_56 : decode cX11_hungriest 56 = .ok (.istore_n 1, 1) := by decide +kernel
theorem dX11_hungriest_57 : decode cX11_hungriest 57 = .ok (.iinc 2 1, 3) := by decide +kernel
theorem dX11_hungriest_60 : decode cX11_hungriest 60 = .ok (.goto (-56), 3) := by decide +kernel
theorem dX11_hungriest_63 : decode cX11_hungriest 63 = .ok (.iload_n 1, 1) := by decide +kernel
theorem dX11_hungriest_64 : decode cX11_hungriest 64 = .ok (.ireturn, 1) := by decide +kernel
def q11_hungriest (σ : St) : Option Int32 :=
  Option.bind (loop2 (fun rec4_ (best7_ : Int32) (p8_ : Int32) =>
  if p8_ < (σ 44 8) then
  Option.bind (Option.bind (if q11_isIn (σ 44 10) p8_ = true then (some false) else (if best7_ = (-1) then (some true) else (Option.bind (ag σ (44 + 1) 6 p8_) fun x24_ =>
  Option.bind (ag σ (44 + 1) 6 best7_) fun x26_ =>
  if x26_ < x24_ then (some true) else (some false)))) fun t20_ =>
  if t20_ = true then (some (p8_)) else (some (best7_))) fun y15_ =>
  lt (p8_ + 1) fun p30_ =>
  rec4_ y15_ p30_
  else (some (best7_, p8_))) fuelN (-1 : Int32) (0 : Int32)) fun y1_ =>
  some y1_.1
abbrev rm11_hungriest : Room := { frames := 1, cells := 0, slots := 0, locals := 21 }
set_option maxHeartbeats 4000000 in
set_option maxRecDepth 100000 in
theorem p11_hungriest {Θ : Tz} {σ : St} {ρ : Option Value × St} (C : Zc Θ cX11_hungriest 3 RX11 (some .int) rm11_hungriest) (hkd : Θ.2.2.2.2.1 = kdC) {r : Int32} (hf : q11_hungriest σ = some r) (hρ : ρ = (some (.int r), σ)) : Z Θ 3 0 0 (zQ Θ ρ) σ 0 [(0, .ref (zA Θ 0))] [] := by
  unfold q11_hungriest at hf
  refine z_iconst (v := (-1)) C dX11_hungriest_0 ic_m1 ?_
  refine z_istN C dX11_hungriest_1 rfl rfl (Nat.le_of_ble_eq_true rfl) rfl ?_
  refine z_iconst (v := 0) C dX11_hungriest_2 ic_0 ?_
  refine z_istN C dX11_hungriest_3 rfl rfl (Nat.le_of_ble_eq_true rfl) rfl ?_
  refine Z.sub [2, 1, 0] rfl ?_
  obtain ⟨y1_, h2_, hf⟩ := ob hf
  suffices K3_ : Z Θ 3 0 0 (zQ Θ ρ) σ 63 [(0, .ref (zA Θ 0)), (1, .int y1_.1), (2, .int y1_.2)] [] by
    refine loop2_Z (P := fun (best7_ : Int32) (p8_ : Int32) => Z Θ 3 0 0 (zQ Θ ρ) σ 4 [(0, .ref (zA Θ 0)), (1, .int best7_), (2, .int p8_)] []) ?_ fuelN (-1 : Int32) (0 : Int32) h2_
    clear h2_
    intro rec4_ best7_ p8_ h5_ h6_
    have K11_ : p8_ < (σ 44 8) → Z Θ 3 0 0 (zQ Θ ρ) σ 15 [(0, .ref (zA Θ 0)), (1, .int best7_), (2, .int p8_)] [] := by
      intro h14_
      rw [if_pos h14_] at h6_
      obtain ⟨y15_, h16_, h6_⟩ := ob h6_
      suffices K17_ : Z Θ 3 0 0 (zQ Θ ρ) σ 57 [(0, .ref (zA Θ 0)), (1, .int y15_), (2, .int p8_)] [] by
        obtain ⟨t20_, h21_, h16_⟩ := ob h16_
        have K18_ : t20_ = true → Z Θ 3 0 0 (zQ Θ ρ) σ 55 [(0, .ref (zA Θ 0)), (1, .int best7_), (2, .int p8_)] [] := by
          intro h29_
          rw [if_pos h29_] at h16_
          refine z_iload_n C 2 dX11_hungriest_55 rfl rfl ?_
          refine z_istN C dX11_hungriest_56 rfl rfl (Nat.le_of_ble_eq_true rfl) rfl ?_
          cases h16_
          refine Z.sub [1, 0, 2] rfl ?_
          exact K17_
        have K19_ : ¬ (t20_ = true) → Z Θ 3 0 0 (zQ Θ ρ) σ 57 [(0, .ref (zA Θ 0)), (1, .int best7_), (2, .int p8_)] [] := by
          intro h29_
          rw [if_neg h29_] at h16_
          cases h16_
          exact K17_
        refine z_aload_n C 0 dX11_hungriest_15 rfl rfl ?_
        refine fg11_19 C hkd dX11_hungriest_16 ?_
        refine fg11_171 C hkd isV_44 dX11_hungriest_19 ?_
        refine z_iload_n C 2 dX11_hungriest_22 rfl rfl ?_
        refine cr11_167 (set_a := (σ 44 10)) (person_a := p8_) C hkd  ⟨(Nat.le_of_ble_eq_true rfl), (Nat.le_of_ble_eq_true rfl)⟩ (Nat.le_of_ble_eq_true rfl) ⟨Nat.zero_le _, Nat.zero_le _⟩ dX11_hungriest_23 ?_
        refine cb_t C 57 dX11_hungriest_26 (by decide) (fun h22_ => ?_) (fun h22_ => ?_)
        · rw [if_pos h22_] at h21_
          cases h21_
          exact K19_ Bool.false_ne_true
        · rw [if_neg h22_] at h21_
          refine z_iload_n C 1 dX11_hungriest_29 rfl rfl ?_
          refine z_iconst (v := (-1)) C dX11_hungriest_30 ic_m1 ?_
          refine c_eq_t C 55 dX11_hungriest_31 (by decide) (fun h23_ => ?_) (fun h23_ => ?_)
          · rw [if_pos h23_] at h21_
            cases h21_
            exact K18_ rfl
          · rw [if_neg h23_] at h21_
            refine z_aload_n C 0 dX11_hungriest_34 rfl rfl ?_
            refine fg11_19 C hkd dX11_hungriest_35 ?_
            refine fg11_154 C hkd isV_44 dX11_hungriest_38 ?_
            refine z_iload_n C 2 dX11_hungriest_41 rfl rfl ?_
            obtain ⟨x24_, h25_, h21_⟩ := ob h21_
            refine z_ag C h25_ (kV_1 hkd isV_44) dX11_hungriest_42 ?_
            refine z_aload_n C 0 dX11_hungriest_43 rfl rfl ?_
            refine fg11_19 C hkd dX11_hungriest_44 ?_
            refine fg11_154 C hkd isV_44 dX11_hungriest_47 ?_
            refine z_iload_n C 1 dX11_hungriest_50 rfl rfl ?_
            obtain ⟨x26_, h27_, h21_⟩ := ob h21_
            refine z_ag C h27_ (kV_1 hkd isV_44) dX11_hungriest_51 ?_
            refine c_gt_f C 57 dX11_hungriest_52 (by decide) (fun h28_ => ?_) (fun h28_ => ?_)
            · rw [if_pos h28_] at h21_
              cases h21_
              exact K18_ rfl
            · rw [if_neg h28_] at h21_
              cases h21_
              exact K19_ Bool.false_ne_true
      obtain ⟨p30_, h31_, h6_⟩ := lt_ h6_
      refine z_inc C 2 dX11_hungriest_57 rfl ic_1 h31_ (Nat.le_of_ble_eq_true rfl) rfl ?_
      refine z_goto C 4 dX11_hungriest_60 (by decide) ?_
      refine Z.sub [1, 2, 0] rfl ?_
      exact h5_ _ _ h6_
    have K12_ : ¬ (p8_ < (σ 44 8)) → Z Θ 3 0 0 (zQ Θ ρ) σ 63 [(0, .ref (zA Θ 0)), (1, .int best7_), (2, .int p8_)] [] := by
      intro h14_
      rw [if_neg h14_] at h6_
      cases h6_
      exact K3_
    refine z_iload_n C 2 dX11_hungriest_4 rfl rfl ?_
    refine z_aload_n C 0 dX11_hungriest_5 rfl rfl ?_
    refine fg11_19 C hkd dX11_hungriest_6 ?_
    refine fg11_355 C hkd isV_44 dX11_hungriest_9 ?_
    refine c_lt_f C 63 dX11_hungriest_12 (by decide) (fun h13_ => ?_) (fun h13_ => ?_)
    · exact K11_ h13_
    · exact K12_ h13_
  refine z_iload_n C 1 dX11_hungriest_63 rfl rfl ?_
  cases hf
  subst hρ
  exact z_iret C dX11_hungriest_64
theorem c11_hungriest {l : Launch} {kd : List KD} {w : Wp} {σ : St} (hkd : kd = kdC) (hi : zI kd w) {r : Int32} (hf : q11_hungriest σ = some r) : zM l kd w yX11_hungriest cX11_hungriest 3 (some .int) rm11_hungriest [.ref (w.2.2.1 0)] σ (some (.int r), σ) := zM_of rfl hi (Nat.le_of_ble_eq_true rfl) (fun Θ hl hw C => by
  obtain ⟨Θ1, Θ2, Θ3, Θ4, Θ5⟩ := Θ
  cases hw
  exact p11_hungriest C hkd  hf rfl)
/-! LastLoaf$Village.loveFor -/
theorem dX10_loveFor_0 : decode cX10_loveFor 0 = .ok (.iconst 0, 1) := by decide +kernel
theorem dX10_loveFor_1 : decode cX10_loveFor 1 = .ok (.istore_n 2, 1) := by decide +kernel
theorem dX10_loveFor_2 : decode cX10_loveFor 2 = .ok (.iconst 0, 1) := by decide +kernel
theorem dX10_loveFor_3 : decode cX10_loveFor 3 = .ok (.istore_n 3, 1) := by decide +kernel
theorem dX10_loveFor_4 : decode cX10_loveFor 4 = .ok (.iload_n 3, 1) := by decide +kernel
theorem dX10_loveFor_5 : decode cX10_loveFor 5 = .ok (.aload_n 0, 1) := by decide +kernel
theorem dX10_loveFor_6 : decode cX10_loveFor 6 = .ok (.getfield 40, 3) := by decide +kernel
theorem dX10_loveFor_9 : decode cX10_loveFor 9 = .ok (.if_icmp .ge 27, 3) := by decide +kernel
theorem dX10_loveFor_12 : decode cX10_loveFor 12 = .ok (.iload_n 2, 1) := by decide +kernel
theorem dX10_loveFor_13 : decode cX10_loveFor 13 = .ok (.iload_n 3, 1) := by decide +kernel
theorem dX10_loveFor_14 : decode cX10_loveFor 14 = .ok (.iload_n 1, 1) := by decide +kernel
theorem dX10_loveFor_15 : decode cX10_loveFor 15 = .ok (.if_icmp .ne 7, 3) := by decide +kernel
theorem dX10_loveFor_18 : decode cX10_loveFor 18 = .ok (.iconst 0, 1) := by decide +kernel
theorem dX10_loveFor_19 : decode cX10_loveFor 19 = .ok (.goto 9, 3) := by decide +kernel
theorem dX10_loveFor_22 : decode cX10_loveFor 22 = .ok (.aload_n 0, 1) := by decide +kernel
theorem dX10_loveFor_23 : decode cX10_loveFor 23 = .ok (.iload_n 3, 1) := by decide +kernel
theorem dX10_loveFor_24 : decode cX10_loveFor 24 = .ok (.iload_n 1, 1) := by decide +kernel
theorem dX10_loveFor_25 : decode cX10_loveFor 25 = .ok (.invokevirtual 95, 3) := by decide +kernel
theorem dX10_loveFor_28 : decode cX10_loveFor 28 = .ok (.iadd, 1) := by decide +kernel
theorem dX10_loveFor_29 : decode cX10_loveFor 29 = .ok (.istore_n 2, 1) := by decide +kernel
theorem dX10_loveFor_30 : decode cX10_loveFor 30 = .ok (.iinc 3 1, 3) := by decide +kernel
theorem dX10_loveFor_33 : decode cX10_loveFor 33 = .ok (.goto (-29), 3) := by decide +kernel
theorem dX10_loveFor_36 : decode cX10_loveFor 36 = .ok (.iload_n 2, 1) := by decide +kernel
theorem dX10_loveFor_37 : decode cX10_loveFor 37 = .ok (.ireturn, 1) := by decide +kernel
def q10_loveFor (σ : St) (th : Nat) (person_a : Int32) : Option Int32 :=
  Option.bind (loop2 (fun rec4_ (sum7_ : Int32) (p8_ : Int32) =>
  if p8_ < (σ th 8) then
  Option.bind (if p8_ = person_a then (some (0 : Int32)) else (Option.bind (q10_likingOf σ th p8_ person_a) fun x21_ =>
  some x21_)) fun x15_ =>
  lt (sum7_ + x15_) fun sum24_ =>
  lt (p8_ + 1) fun p26_ =>
  rec4_ sum24_ p26_
  else (some (sum7_, p8_))) fuelN (0 : Int32) (0 : Int32)) fun y1_ =>
  some y1_.1
abbrev rm10_loveFor : Room := { frames := 1, cells := 0, slots := 0, locals := 22 }
set_option maxHeartbeats 4000000 in
set_option maxRecDepth 100000 in
theorem p10_loveFor {Θ : Tz} {σ : St} {ρ : Option Value × St} (C : Zc Θ cX10_loveFor 4 RX10 (some .int) rm10_loveFor) (hkd : Θ.2.2.2.2.1 = kdC) {th : Nat} {person_a : Int32} (hth : isV th) {r : Int32} (hf : q10_loveFor σ th person_a = some r) (hρ : ρ = (some (.int r), σ)) : Z Θ 4 0 0 (zQ Θ ρ) σ 0 [(0, .ref (zA Θ th)), (1, .int person_a)] [] := by
  unfold q10_loveFor at hf
  refine z_iconst (v := 0) C dX10_loveFor_0 ic_0 ?_
  refine z_istN C dX10_loveFor_1 rfl rfl (Nat.le_of_ble_eq_true rfl) rfl ?_
  refine z_iconst (v := 0) C dX10_loveFor_2 ic_0 ?_
  refine z_istN C dX10_loveFor_3 rfl rfl (Nat.le_of_ble_eq_true rfl) rfl ?_
  refine Z.sub [2, 3, 1, 0] rfl ?_
  obtain ⟨y1_, h2_, hf⟩ := ob hf
  suffices K3_ : Z Θ 4 0 0 (zQ Θ ρ) σ 36 [(0, .ref (zA Θ th)), (1, .int person_a), (2, .int y1_.1), (3, .int y1_.2)] [] by
    refine loop2_Z (P := fun (sum7_ : Int32) (p8_ : Int32) => Z Θ 4 0 0 (zQ Θ ρ) σ 4 [(0, .ref (zA Θ th)), (1, .int person_a), (2, .int sum7_), (3, .int p8_)] []) ?_ fuelN (0 : Int32) (0 : Int32) h2_
    clear h2_
    intro rec4_ sum7_ p8_ h5_ h6_
    have K11_ : p8_ < (σ th 8) → Z Θ 4 0 0 (zQ Θ ρ) σ 12 [(0, .ref (zA Θ th)), (1, .int person_a), (2, .int sum7_), (3, .int p8_)] [] := by
      intro h14_
      rw [if_pos h14_] at h6_
      refine z_iload_n C 2 dX10_loveFor_12 rfl rfl ?_
      obtain ⟨x15_, h16_, h6_⟩ := ob h6_
      suffices K17_ : Z Θ 4 0 0 (zQ Θ ρ) σ 28 [(0, .ref (zA Θ th)), (1, .int person_a), (2, .int sum7_), (3, .int p8_)] [.int x15_, .int sum7_] by
        have K18_ : p8_ = person_a → Z Θ 4 0 0 (zQ Θ ρ) σ 18 [(0, .ref (zA Θ th)), (1, .int person_a), (2, .int sum7_), (3, .int p8_)] [.int sum7_] := by
          intro h23_
          rw [if_pos h23_] at h16_
          refine z_iconst (v := 0) C dX10_loveFor_18 ic_0 ?_
          refine z_goto C 28 dX10_loveFor_19 (by decide) ?_
          cases h16_
          exact K17_
        have K19_ : ¬ (p8_ = person_a) → Z Θ 4 0 0 (zQ Θ ρ) σ 22 [(0, .ref (zA Θ th)), (1, .int person_a), (2, .int sum7_), (3, .int p8_)] [.int sum7_] := by
          intro h23_
          rw [if_neg h23_] at h16_
          refine z_aload_n C 0 dX10_loveFor_22 rfl rfl ?_
          refine z_iload_n C 3 dX10_loveFor_23 rfl rfl ?_
          refine z_iload_n C 1 dX10_loveFor_24 rfl rfl ?_
          obtain ⟨x21_, h22_, h16_⟩ := ob h16_
          refine cr10_95 (th := th) (person_a := p8_) (other_a := person_a) C hkd hth h22_ ⟨(Nat.le_of_ble_eq_true rfl), (Nat.le_of_ble_eq_true rfl)⟩ (Nat.le_of_ble_eq_true rfl) ⟨Nat.zero_le _, Nat.zero_le _⟩ dX10_loveFor_25 ?_
          cases h16_
          exact K17_
        refine z_iload_n C 3 dX10_loveFor_13 rfl rfl ?_
        refine z_iload_n C 1 dX10_loveFor_14 rfl rfl ?_
        refine c_eq_f C 22 dX10_loveFor_15 (by decide) (fun h20_ => ?_) (fun h20_ => ?_)
        · exact K18_ h20_
        · exact K19_ h20_
      refine z_iadd C dX10_loveFor_28 ?_
      obtain ⟨sum24_, h25_, h6_⟩ := lt_ h6_
      refine z_istN C dX10_loveFor_29 h25_ rfl (Nat.le_of_ble_eq_true rfl) rfl ?_
      obtain ⟨p26_, h27_, h6_⟩ := lt_ h6_
      refine z_inc C 3 dX10_loveFor_30 rfl ic_1 h27_ (Nat.le_of_ble_eq_true rfl) rfl ?_
      refine z_goto C 4 dX10_loveFor_33 (by decide) ?_
      refine Z.sub [2, 3, 1, 0] rfl ?_
      exact h5_ _ _ h6_
    have K12_ : ¬ (p8_ < (σ th 8)) → Z Θ 4 0 0 (zQ Θ ρ) σ 36 [(0, .ref (zA Θ th)), (1, .int person_a), (2, .int sum7_), (3, .int p8_)] [] := by
      intro h14_
      rw [if_neg h14_] at h6_
      cases h6_
      exact K3_
    refine z_iload_n C 3 dX10_loveFor_4 rfl rfl ?_
    refine z_aload_n C 0 dX10_loveFor_5 rfl rfl ?_
    refine fg10_40 C hkd hth dX10_loveFor_6 ?_
    refine c_lt_f C 36 dX10_loveFor_9 (by decide) (fun h13_ => ?_) (fun h13_ => ?_)
    · exact K11_ h13_
    · exact K12_ h13_
  refine z_iload_n C 2 dX10_loveFor_36 rfl rfl ?_
  cases hf
  subst hρ
  exact z_iret C dX10_loveFor_37
theorem c10_loveFor {l : Launch} {kd : List KD} {w : Wp} {σ : St} {th : Nat} {person_a : Int32} (hkd : kd = kdC) (hi : zI kd w) (hth : isV th) {r : Int32} (hf : q10_loveFor σ th person_a = some r) : zM l kd w yX10_loveFor cX10_loveFor 4 (some .int) rm10_loveFor [.ref (w.2.2.1 th), .int person_a] σ (some (.int r), σ) := zM_of rfl hi (Nat.le_of_ble_eq_true rfl) (fun Θ hl hw C => by
  obtain ⟨Θ1, Θ2, Θ3, Θ4, Θ5⟩ := Θ
  cases hw
  exact p10_loveFor C hkd hth hf rfl)
/-! LastLoaf.loved -/
theorem w_4_92 : Cond.code ({ cls := "LastLoaf$Village", name := "loveFor", desc := "(I)I" } : MethodName) prog_12_method_13_code (4 : Nat) (Option.some ClassFile.FieldType.int) ∈ TB := tb_in (lwt_4 (List.mem_of_getElem? (i := 92) (by decide +kernel))) rfl
theorem w_4_89 : Cond.methodLink "LastLoaf" (415 : Nat) ({ cls := "LastLoaf$Village", name := "loveFor", desc := "(I)I" } : MethodName) ∈ TB := tb_in (lwt_4 (List.mem_of_getElem? (i := 89) (by decide +kernel))) rfl
theorem w_4_90 : Cond.instanceMethod ({ cls := "LastLoaf$Village", name := "loveFor", desc := "(I)I" } : MethodName) ∈ TB := tb_in (lwt_4 (List.mem_of_getElem? (i := 90) (by decide +kernel))) rfl
theorem w_4_91 : Cond.selects "LastLoaf$Village" ({ cls := "LastLoaf$Village", name := "loveFor", desc := "(I)I" } : MethodName) ({ cls := "LastLoaf$Village", name := "loveFor", desc := "(I)I" } : MethodName) ∈ TB := tb_in (lwt_4 (List.mem_of_getElem? (i := 91) (by decide +kernel))) rfl
theorem cr11_415 {Θ : Tz} {cc : ByteArray} {nL kc ks : Nat} {ret : Option FieldType} {rm : Room} {Q : State → Prop} {σ : St} {pc : Nat} {lv : List (Nat × Value)} {st : List Value} (C : Zc Θ cc nL RX11 ret rm) (hkd : Θ.2.2.2.2.1 = kdC) {th : Nat} {person_a : Int32} (hth : isV th) {r : Int32} (hx : q10_loveFor σ th person_a = some r) (hrm : rm10_loveFor.frames + 1 ≤ rm.frames ∧ 8 + (4 + 11) + rm10_loveFor.locals ≤ rm.locals) (hcat : (st.map fun v => v.category).sum ≤ 8) (hk : kc ≤ rm.cells ∧ ks ≤ rm.slots) (hd : decode cc pc = .ok (.invokevirtual 415, 3)) (kk : Z Θ nL kc ks Q σ (pc + 3) lv (.int r :: st)) : Z Θ nL kc ks Q σ pc lv (.int person_a :: .ref (zA Θ th) :: st) := z_callV C th [.int person_a] (some (.int r), σ) 1 (kV_0 hkd hth) rfl (c10_loveFor (th := th) (person_a := person_a) hkd (zc_inj C) hth hx) w_4_92 w_4_89 w_4_90 w_4_91 w_1_3 ⟨rfl, rfl, hrm.1, hrm.2⟩ (by decide +kernel) rfl rfl hcat hk hd kk
theorem dX11_loved_0 : decode cX11_loved 0 = .ok (.iconst (-1), 1) := by decide +kernel
theorem dX11_loved_1 : decode cX11_loved 1 = .ok (.istore_n 1, 1) := by decide +kernel
theorem dX11_loved_2 : decode cX11_loved 2 = .ok (.iconst (-1), 1) := by decide +kernel
theorem dX11_loved_3 : decode cX11_loved 3 = .ok (.istore_n 2, 1) := by decide +kernel
theorem dX11_loved_4 : decode cX11_loved 4 = .ok (.iconst 0, 1) := by decide +kernel
theorem dX11_loved_5 : decode cX11_loved 5 = .ok (.istore_n 3, 1) := by decide +kernel
theorem dX11_loved_6 : decode cX11_loved 6 = .ok (.iload_n 3, 1) := by decide +kernel
theorem dX11_loved_7 : decode cX11_loved 7 = .ok (.aload_n 0, 1) := by decide +kernel
theorem dX11_loved_8 : decode cX11_loved 8 = .ok (.getfield 19, 3) := by decide +kernel
theorem dX11_loved_11 : decode cX11_loved 11 = .ok (.getfield 355, 3) := by decide +kernel
theorem dX11_loved_14 : decode cX11_loved 14 = .ok (.if_icmp .ge 30, 3) := by decide +kernel
theorem dX11_loved_17 : decode cX11_loved 17 = .ok (.aload_n 0, 1) := by decide +kernel
theorem dX11_loved_18 : decode cX11_loved 18 = .ok (.getfield 19, 3) := by decide +kernel
theorem dX11_loved_21 : decode cX11_loved 21 = .ok (.iload_n 3, 1) := by decide +kernel
theorem dX11_loved_22 : decode cX11_loved 22 = .ok (.invokevirtual 415, 3) := by decide +kernel
theorem dX11_loved_25 : decode cX11_loved 25 = .ok (.istore 4, 2) := by decide +kernel
theorem dX11_loved_27 : decode cX11_loved 27 = .ok (.iload 4, 2) := by decide +kernel
theorem dX11_loved_29 : decode cX11_loved 29 = .ok (.iload_n 2, 1) := by decide +kernel
theorem dX11_loved_30 : decode cX11_loved 30 = .ok (.if_icmp .le 8, 3) := by decide +kernel
theorem dX11_loved_33 : decode cX11_loved 33 = .ok (.iload 4, 2) := by decide +kernel
theorem dX11_loved_35 : decode cX11_loved 35 = .ok (.istore_n 2, 1) := by decide +kernel
theorem dX11_loved_36 : decode cX11_loved 36 = .ok (.iload_n 3, 1) := by decide +kernel
theorem dX11_loved_37 : decode cX11_loved 37 = .ok (.istore_n 1, 1) := by decide +kernel
theorem dX11_loved_38 : decode cX11_loved 38 = .ok (.iinc 3 1, 3) := by decide +kernel
theorem dX11_loved_41 : decode cX11_loved 41 = .ok (.goto (-35), 3) := by decide +kernel
theorem dX11_loved_44 : decode cX11_loved 44 = .ok (.iload_n 1, 1) := by decide +kernel
theorem dX11_loved_45 : decode cX11_loved 45 = .ok (.ireturn, 1) := by decide +kernel
def q11_loved (σ : St) : Option Int32 :=
  Option.bind (loop3 (fun rec4_ (best7_ : Int32) (most8_ : Int32) (p9_ : Int32) =>
  if p9_ < (σ 44 8) then
  Option.bind (q10_loveFor σ 44 p9_) fun x16_ =>
  lt (if most8_ < x16_ then ((p9_, x16_)) else ((best7_, most8_))) fun y18_ =>
  lt (p9_ + 1) fun p25_ =>
  rec4_ y18_.1 y18_.2 p25_
  else (some (best7_, most8_, p9_))) fuelN (-1 : Int32) (-1 : Int32) (0 : Int32)) fun y1_ =>
  some y1_.1
abbrev rm11_loved : Room := { frames := 2, cells := 0, slots := 0, locals := 45 }
set_option maxHeartbeats 4000000 in
set_option maxRecDepth 100000 in
theorem p11_loved {Θ : Tz} {σ : St} {ρ : Option Value × St} (C : Zc Θ cX11_loved 5 RX11 (some .int) rm11_loved) (hkd : Θ.2.2.2.2.1 = kdC) {r : Int32} (hf : q11_loved σ = some r) (hρ : ρ = (some (.int r), σ)) : Z Θ 5 0 0 (zQ Θ ρ) σ 0 [(0, .ref (zA Θ 0))] [] := by
  unfold q11_loved at hf
  refine z_iconst (v := (-1)) C dX11_loved_0 ic_m1 ?_
  refine z_istN C dX11_loved_1 rfl rfl (Nat.le_of_ble_eq_true rfl) rfl ?_
  refine z_iconst (v := (-1)) C dX11_loved_2 ic_m1 ?_
  refine z_istN C dX11_loved_3 rfl rfl (Nat.le_of_ble_eq_true rfl) rfl ?_
  refine z_iconst (v := 0) C dX11_loved_4 ic_0 ?_
  refine z_istN C dX11_loved_5 rfl rfl (Nat.le_of_ble_eq_true rfl) rfl ?_
  refine Z.sub [3, 2, 1, 0] rfl ?_
  obtain ⟨y1_, h2_, hf⟩ := ob hf
  suffices K3_ : Z Θ 5 0 0 (zQ Θ ρ) σ 44 [(0, .ref (zA Θ 0)), (1, .int y1_.1), (2, .int y1_.2.1), (3, .int y1_.2.2)] [] by
    refine loop3_Z (P := fun (best7_ : Int32) (most8_ : Int32) (p9_ : Int32) => Z Θ 5 0 0 (zQ Θ ρ) σ 6 [(0, .ref (zA Θ 0)), (1, .int best7_), (2, .int most8_), (3, .int p9_)] []) ?_ fuelN (-1 : Int32) (-1 : Int32) (0 : Int32) h2_
    clear h2_
    intro rec4_ best7_ most8_ p9_ h5_ h6_
    have K12_ : p9_ < (σ 44 8) → Z Θ 5 0 0 (zQ Θ ρ) σ 17 [(0, .ref (zA Θ 0)), (1, .int best7_), (2, .int most8_), (3, .int p9_)] [] := by
      intro h15_
      rw [if_pos h15_] at h6_
      refine z_aload_n C 0 dX11_loved_17 rfl rfl ?_
      refine fg11_19 C hkd dX11_loved_18 ?_
      refine z_iload_n C 3 dX11_loved_21 rfl rfl ?_
      obtain ⟨x16_, h17_, h6_⟩ := ob h6_
      refine cr11_415 (th := 44) (person_a := p9_) C hkd isV_44 h17_ ⟨(Nat.le_of_ble_eq_true rfl), (Nat.le_of_ble_eq_true rfl)⟩ (Nat.le_of_ble_eq_true rfl) ⟨Nat.zero_le _, Nat.zero_le _⟩ dX11_loved_22 ?_
      refine z_ist C dX11_loved_25 rfl (Nat.le_of_ble_eq_true rfl) rfl ?_
      obtain ⟨y18_, h19_, h6_⟩ := lt_ h6_
      have h19_ := h19_.symm
      suffices K20_ : Z Θ 5 0 0 (zQ Θ ρ) σ 38 [(0, .ref (zA Θ 0)), (1, .int y18_.1), (2, .int y18_.2), (3, .int p9_), (4, .int x16_)] [] by
        have K21_ : most8_ < x16_ → Z Θ 5 0 0 (zQ Θ ρ) σ 33 [(4, .int x16_), (0, .ref (zA Θ 0)), (1, .int best7_), (2, .int most8_), (3, .int p9_)] [] := by
          intro h24_
          rw [if_pos h24_] at h19_
          refine z_iload C 0 dX11_loved_33 rfl ?_
          refine z_istN C dX11_loved_35 rfl rfl (Nat.le_of_ble_eq_true rfl) rfl ?_
          refine z_iload_n C 4 dX11_loved_36 rfl rfl ?_
          refine z_istN C dX11_loved_37 rfl rfl (Nat.le_of_ble_eq_true rfl) rfl ?_
          subst h19_
          refine Z.sub [3, 0, 1, 4, 2] rfl ?_
          exact K20_
        have K22_ : ¬ (most8_ < x16_) → Z Θ 5 0 0 (zQ Θ ρ) σ 38 [(4, .int x16_), (0, .ref (zA Θ 0)), (1, .int best7_), (2, .int most8_), (3, .int p9_)] [] := by
          intro h24_
          rw [if_neg h24_] at h19_
          subst h19_
          refine Z.sub [1, 2, 3, 4, 0] rfl ?_
          exact K20_
        refine z_iload C 0 dX11_loved_27 rfl ?_
        refine z_iload_n C 3 dX11_loved_29 rfl rfl ?_
        refine c_gt_f C 38 dX11_loved_30 (by decide) (fun h23_ => ?_) (fun h23_ => ?_)
        · exact K21_ h23_
        · exact K22_ h23_
      obtain ⟨p25_, h26_, h6_⟩ := lt_ h6_
      refine z_inc C 3 dX11_loved_38 rfl ic_1 h26_ (Nat.le_of_ble_eq_true rfl) rfl ?_
      refine z_goto C 6 dX11_loved_41 (by decide) ?_
      refine Z.sub [1, 2, 3, 0] rfl ?_
      exact h5_ _ _ _ h6_
    have K13_ : ¬ (p9_ < (σ 44 8)) → Z Θ 5 0 0 (zQ Θ ρ) σ 44 [(0, .ref (zA Θ 0)), (1, .int best7_), (2, .int most8_), (3, .int p9_)] [] := by
      intro h15_
      rw [if_neg h15_] at h6_
      cases h6_
      exact K3_
    refine z_iload_n C 3 dX11_loved_6 rfl rfl ?_
    refine z_aload_n C 0 dX11_loved_7 rfl rfl ?_
    refine fg11_19 C hkd dX11_loved_8 ?_
    refine fg11_355 C hkd isV_44 dX11_loved_11 ?_
    refine c_lt_f C 44 dX11_loved_14 (by decide) (fun h14_ => ?_) (fun h14_ => ?_)
    · exact K12_ h14_
    · exact K13_ h14_
  refine z_iload_n C 1 dX11_loved_44 rfl rfl ?_
  cases hf
  subst hρ
  exact z_iret C dX11_loved_45
theorem c11_loved {l : Launch} {kd : List KD} {w : Wp} {σ : St} (hkd : kd = kdC) (hi : zI kd w) {r : Int32} (hf : q11_loved σ = some r) : zM l kd w yX11_loved cX11_loved 5 (some .int) rm11_loved [.ref (w.2.2.1 0)] σ (some (.int r), σ) := zM_of rfl hi (Nat.le_of_ble_eq_true rfl) (fun Θ hl hw C => by
  obtain ⟨Θ1, Θ2, Θ3, Θ4, Θ5⟩ := Θ
  cases hw
  exact p11_loved C hkd  hf rfl)
/-! LastLoaf.thick -/
theorem dX11_thick_0 : decode cX11_thick 0 = .ok (.iconst 0, 1) := by decide +kernel
theorem dX11_thick_1 : decode cX11_thick 1 = .ok (.istore_n 1, 1) := by decide +kernel
theorem dX11_thick_2 : decode cX11_thick 2 = .ok (.iconst 0, 1) := by decide +kernel
theorem dX11_thick_3 : decode cX11_thick 3 = .ok (.istore_n 2, 1) := by decide +kernel
theorem dX11_thick_4 : decode cX11_thick 4 = .ok (.iload_n 2, 1) := by decide +kernel
theorem dX11_thick_5 : decode cX11_thick 5 = .ok (.aload_n 0, 1) := by decide +kernel
theorem dX11_thick_6 : decode cX11_thick 6 = .ok (.getfield 19, 3) := by decide +kernel
theorem dX11_thick_9 : decode cX11_thick 9 = .ok (.getfield 355, 3) := by decide +kernel
theorem dX11_thick_12 : decode cX11_thick 12 = .ok (.if_icmp .ge 40, 3) := by decide +kernel
theorem dX11_thick_15 : decode cX11_thick 15 = .ok (.aload_n 0, 1) := by decide +kernel
theorem dX11_thick_16 : decode cX11_thick 16 = .ok (.getfield 19, 3) := by decide +kernel
theorem dX11_thick_19 : decode cX11_thick 19 = .ok (.getfield 177, 3) := by decide +kernel
theorem dX11_thick_22 : decode cX11_thick 22 = .ok (.iload_n 2, 1) := by decide +kernel
theorem dX11_thick_23 : decode cX11_thick 23 = .ok (.iaload, 1) := by decide +kernel
theorem dX11_thick_24 : decode cX11_thick 24 = .ok (.iconst 2, 1) := by decide +kernel
theorem dX11_thick_25 : decode cX11_thick 25 = .ok (.if_icmp .lt 21, 3) := by decide +kernel
theorem dX11_thick_28 : decode cX11_thick 28 = .ok (.aload_n 0, 1) := by decide +kernel
theorem dX11_thick_29 : decode cX11_thick 29 = .ok (.getfield 19, 3) := by decide +kernel
theorem dX11_thick_32 : decode cX11_thick 32 = .ok (.getfield 161, 3) := by decide +kernel
theorem dX11_thick_35 : decode cX11_thick 35 = .ok (.iload_n 2, 1) := by decide +kernel
theorem dX11_thick_36 : decode cX11_thick 36 = .ok (.iaload, 1) := by decide +kernel
theorem dX11_thick_37 : decode cX11_thick 37 = .ok (.ifCond .ne 9, 3) := by decide +kernel
theorem dX11_thick_40 : decode cX11_thick 40 = .ok (.iload_n 1, 1) := by decide +kernel
theorem dX11_thick_41 : decode cX11_thick 41 = .ok (.iconst 1, 1) := by decide +kernel
theorem dX11_thick_42 : decode cX11_thick 42 = .ok (.iload_n 2, 1) := by decide +kernel
theorem dX11_thick_43 : decode cX11_thick 43 = .ok (.ishl, 1) := by decide +kernel
theorem dX11_thick_44 : decode cX11_thick 44 = .ok (.ior, 1) := by decide +kernel
theorem dX11_thick_45 : decode cX11_thick 45 = .ok (.istore_n 1, 1) := by decide +kernel
theorem dX11_thick_46 : decode cX11_thick 46 = .ok (.iinc 2 1, 3) := by decide +kernel
theorem dX11_thick_49 : decode cX11_thick 49 = .ok (.goto (-45), 3) := by decide +kernel
theorem dX11_thick_52 : decode cX11_thick 52 = .ok (.iload_n 1, 1) := by decide +kernel
theorem dX11_thick_53 : decode cX11_thick 53 = .ok (.ireturn, 1) := by decide +kernel
def q11_thick (σ : St) : Option Int32 :=
  Option.bind (loop2 (fun rec4_ (bits7_ : Int32) (p8_ : Int32) =>
  if p8_ < (σ 44 8) then
  Option.bind (Option.bind (Option.bind (ag σ (44 + 5) 6 p8_) fun x22_ =>
  if 2 ≤ x22_ then (Option.bind (ag σ (44 + 3) 6 p8_) fun x25_ =>
  if x25_ = 0 then (some true) else (some false)) else (some false)) fun t20_ =>
  if t20_ = true then (lt (bits7_ ||| (shl 1 p8_)) fun bits29_ =>
  some (bits29_)) else (some (bits7_))) fun y15_ =>
  lt (p8_ + 1) fun p31_ =>
  rec4_ y15_ p31_
  else (some (bits7_, p8_))) fuelN (0 : Int32) (0 : Int32)) fun y1_ =>
  some y1_.1
abbrev rm11_thick : Room := { frames := 0, cells := 0, slots := 0, locals := 0 }
set_option maxHeartbeats 4000000 in
set_option maxRecDepth 100000 in
theorem p11_thick {Θ : Tz} {σ : St} {ρ : Option Value × St} (C : Zc Θ cX11_thick 3 RX11 (some .int) rm11_thick) (hkd : Θ.2.2.2.2.1 = kdC) {r : Int32} (hf : q11_thick σ = some r) (hρ : ρ = (some (.int r), σ)) : Z Θ 3 0 0 (zQ Θ ρ) σ 0 [(0, .ref (zA Θ 0))] [] := by
  unfold q11_thick at hf
  refine z_iconst (v := 0) C dX11_thick_0 ic_0 ?_
  refine z_istN C dX11_thick_1 rfl rfl (Nat.le_of_ble_eq_true rfl) rfl ?_
  refine z_iconst (v := 0) C dX11_thick_2 ic_0 ?_
  refine z_istN C dX11_thick_3 rfl rfl (Nat.le_of_ble_eq_true rfl) rfl ?_
  refine Z.sub [2, 1, 0] rfl ?_
  obtain ⟨y1_, h2_, hf⟩ := ob hf
  suffices K3_ : Z Θ 3 0 0 (zQ Θ ρ) σ 52 [(0, .ref (zA Θ 0)), (1, .int y1_.1), (2, .int y1_.2)] [] by
    refine loop2_Z (P := fun (bits7_ : Int32) (p8_ : Int32) => Z Θ 3 0 0 (zQ Θ ρ) σ 4 [(0, .ref (zA Θ 0)), (1, .int bits7_), (2, .int p8_)] []) ?_ fuelN (0 : Int32) (0 : Int32) h2_
    clear h2_
    intro rec4_ bits7_ p8_ h5_ h6_
    have K11_ : p8_ < (σ 44 8) → Z Θ 3 0 0 (zQ Θ ρ) σ 15 [(0, .ref (zA Θ 0)), (1, .int bits7_), (2, .int p8_)] [] := by
      intro h14_
      rw [if_pos h14_] at h6_
      obtain ⟨y15_, h16_, h6_⟩ := ob h6_
      suffices K17_ : Z Θ 3 0 0 (zQ Θ ρ) σ 46 [(0, .ref (zA Θ 0)), (1, .int y15_), (2, .int p8_)] [] by
        obtain ⟨t20_, h21_, h16_⟩ := ob h16_
        have K18_ : t20_ = true → Z Θ 3 0 0 (zQ Θ ρ) σ 40 [(0, .ref (zA Θ 0)), (1, .int bits7_), (2, .int p8_)] [] := by
          intro h28_
          rw [if_pos h28_] at h16_
          refine z_iload_n C 1 dX11_thick_40 rfl rfl ?_
          refine z_iconst (v := 1) C dX11_thick_41 ic_1 ?_
          refine z_iload_n C 2 dX11_thick_42 rfl rfl ?_
          refine z_shl C dX11_thick_43 ?_
          refine z_ior C dX11_thick_44 ?_
          obtain ⟨bits29_, h30_, h16_⟩ := lt_ h16_
          refine z_istN C dX11_thick_45 h30_ rfl (Nat.le_of_ble_eq_true rfl) rfl ?_
          cases h16_
          refine Z.sub [1, 0, 2] rfl ?_
          exact K17_
        have K19_ : ¬ (t20_ = true) → Z Θ 3 0 0 (zQ Θ ρ) σ 46 [(0, .ref (zA Θ 0)), (1, .int bits7_), (2, .int p8_)] [] := by
          intro h28_
          rw [if_neg h28_] at h16_
          cases h16_
          exact K17_
        refine z_aload_n C 0 dX11_thick_15 rfl rfl ?_
        refine fg11_19 C hkd dX11_thick_16 ?_
        refine fg11_177 C hkd isV_44 dX11_thick_19 ?_
        refine z_iload_n C 2 dX11_thick_22 rfl rfl ?_
        obtain ⟨x22_, h23_, h21_⟩ := ob h21_
        refine z_ag C h23_ (kV_5 hkd isV_44) dX11_thick_23 ?_
        refine z_iconst (v := 2) C dX11_thick_24 ic_2 ?_
        refine c_ge_f C 46 dX11_thick_25 (by decide) (fun h24_ => ?_) (fun h24_ => ?_)
        · rw [if_pos h24_] at h21_
          refine z_aload_n C 0 dX11_thick_28 rfl rfl ?_
          refine fg11_19 C hkd dX11_thick_29 ?_
          refine fg11_161 C hkd isV_44 dX11_thick_32 ?_
          refine z_iload_n C 2 dX11_thick_35 rfl rfl ?_
          obtain ⟨x25_, h26_, h21_⟩ := ob h21_
          refine z_ag C h26_ (kV_3 hkd isV_44) dX11_thick_36 ?_
          refine c0_eq_f C 46 dX11_thick_37 (by decide) (fun h27_ => ?_) (fun h27_ => ?_)
          · rw [if_pos h27_] at h21_
            cases h21_
            exact K18_ rfl
          · rw [if_neg h27_] at h21_
            cases h21_
            exact K19_ Bool.false_ne_true
        · rw [if_neg h24_] at h21_
          cases h21_
          exact K19_ Bool.false_ne_true
      obtain ⟨p31_, h32_, h6_⟩ := lt_ h6_
      refine z_inc C 2 dX11_thick_46 rfl ic_1 h32_ (Nat.le_of_ble_eq_true rfl) rfl ?_
      refine z_goto C 4 dX11_thick_49 (by decide) ?_
      refine Z.sub [1, 2, 0] rfl ?_
      exact h5_ _ _ h6_
    have K12_ : ¬ (p8_ < (σ 44 8)) → Z Θ 3 0 0 (zQ Θ ρ) σ 52 [(0, .ref (zA Θ 0)), (1, .int bits7_), (2, .int p8_)] [] := by
      intro h14_
      rw [if_neg h14_] at h6_
      cases h6_
      exact K3_
    refine z_iload_n C 2 dX11_thick_4 rfl rfl ?_
    refine z_aload_n C 0 dX11_thick_5 rfl rfl ?_
    refine fg11_19 C hkd dX11_thick_6 ?_
    refine fg11_355 C hkd isV_44 dX11_thick_9 ?_
    refine c_lt_f C 52 dX11_thick_12 (by decide) (fun h13_ => ?_) (fun h13_ => ?_)
    · exact K11_ h13_
    · exact K12_ h13_
  refine z_iload_n C 1 dX11_thick_52 rfl rfl ?_
  cases hf
  subst hρ
  exact z_iret C dX11_thick_53
theorem c11_thick {l : Launch} {kd : List KD} {w : Wp} {σ : St} (hkd : kd = kdC) (hi : zI kd w) {r : Int32} (hf : q11_thick σ = some r) : zM l kd w yX11_thick cX11_thick 3 (some .int) rm11_thick [.ref (w.2.2.1 0)] σ (some (.int r), σ) := zM_of rfl hi (Nat.le_of_ble_eq_true rfl) (fun Θ hl hw C => by
  obtain ⟨Θ1, Θ2, Θ3, Θ4, Θ5⟩ := Θ
  cases hw
  exact p11_thick C hkd  hf rfl)
/-! LastLoaf.bench -/
theorem dX11_bench_0 : decode cX11_bench 0 = .ok (.aload_n 0, 1) := by decide +kernel
theorem dX11_bench_1 : decode cX11_bench 1 = .ok (.getfield 19, 3) := by decide +kernel
theorem dX11_bench_4 : decode cX11_bench 4 = .ok (.getfield 171, 3) := by decide +kernel
theorem dX11_bench_7 : decode cX11_bench 7 = .ok (.ireturn, 1) := by decide +kernel
def q11_bench (σ : St) : Int32 :=
  σ 44 10
abbrev rm11_bench : Room := { frames := 0, cells := 0, slots := 0, locals := 0 }
set_option maxHeartbeats 4000000 in
set_option maxRecDepth 100000 in
theorem p11_bench {Θ : Tz} {σ : St} {ρ : Option Value × St} (C : Zc Θ cX11_bench 1 RX11 (some .int) rm11_bench) (hkd : Θ.2.2.2.2.1 = kdC) {r : Int32} (hf : q11_bench σ = r) (hρ : ρ = (some (.int r), σ)) : Z Θ 1 0 0 (zQ Θ ρ) σ 0 [(0, .ref (zA Θ 0))] [] := by
  unfold q11_bench at hf
  refine z_aload_n C 0 dX11_bench_0 rfl rfl ?_
  refine fg11_19 C hkd dX11_bench_1 ?_
  refine fg11_171 C hkd isV_44 dX11_bench_4 ?_
  subst hf
  subst hρ
  exact z_iret C dX11_bench_7
theorem c11_bench {l : Launch} {kd : List KD} {w : Wp} {σ : St} (hkd : kd = kdC) (hi : zI kd w) : zM l kd w yX11_bench cX11_bench 1 (some .int) rm11_bench [.ref (w.2.2.1 0)] σ (some (.int (q11_bench σ)), σ) := zM_of rfl hi (Nat.le_of_ble_eq_true rfl) (fun Θ hl hw C => by
  obtain ⟨Θ1, Θ2, Θ3, Θ4, Θ5⟩ := Θ
  cases hw
  exact p11_bench C hkd  rfl rfl)
/-! LastLoaf.crowd -/
theorem dX11_crowd_0 : decode cX11_crowd 0 = .ok (.aload_n 0, 1) := by decide +kernel
theorem dX11_crowd_1 : decode cX11_crowd 1 = .ok (.getfield 19, 3) := by decide +kernel
theorem dX11_crowd_4 : decode cX11_crowd 4 = .ok (.getfield 164, 3) := by decide +kernel
theorem dX11_crowd_7 : decode cX11_crowd 7 = .ok (.ireturn, 1) := by decide +kernel
def q11_crowd (σ : St) : Int32 :=
  σ 44 9
abbrev rm11_crowd : Room := { frames := 0, cells := 0, slots := 0, locals := 0 }
set_option maxHeartbeats 4000000 in
set_option maxRecDepth 100000 in
theorem p11_crowd {Θ : Tz} {σ : St} {ρ : Option Value × St} (C : Zc Θ cX11_crowd 1 RX11 (some .int) rm11_crowd) (hkd : Θ.2.2.2.2.1 = kdC) {r : Int32} (hf : q11_crowd σ = r) (hρ : ρ = (some (.int r), σ)) : Z Θ 1 0 0 (zQ Θ ρ) σ 0 [(0, .ref (zA Θ 0))] [] := by
  unfold q11_crowd at hf
  refine z_aload_n C 0 dX11_crowd_0 rfl rfl ?_
  refine fg11_19 C hkd dX11_crowd_1 ?_
  refine fg11_164 C hkd isV_44 dX11_crowd_4 ?_
  subst hf
  subst hρ
  exact z_iret C dX11_crowd_7
theorem c11_crowd {l : Launch} {kd : List KD} {w : Wp} {σ : St} (hkd : kd = kdC) (hi : zI kd w) : zM l kd w yX11_crowd cX11_crowd 1 (some .int) rm11_crowd [.ref (w.2.2.1 0)] σ (some (.int (q11_crowd σ)), σ) := zM_of rfl hi (Nat.le_of_ble_eq_true rfl) (fun Θ hl hw C => by
  obtain ⟨Θ1, Θ2, Θ3, Θ4, Θ5⟩ := Θ
  cases hw
  exact p11_crowd C hkd  rfl rfl)
/-! LastLoaf.never -/
theorem dX11_never_0 : decode cX11_never 0 = .ok (.iconst 0, 1) := by decide +kernel
theorem dX11_never_1 : decode cX11_never 1 = .ok (.istore_n 1, 1) := by decide +kernel
theorem dX11_never_2 : decode cX11_never 2 = .ok (.iconst 0, 1) := by decide +kernel
theorem dX11_never_3 : decode cX11_never 3 = .ok (.istore_n 2, 1) := by decide +kernel
theorem dX11_never_4 : decode cX11_never 4 = .ok (.iload_n 2, 1) := by decide +kernel
theorem dX11_never_5 : decode cX11_never 5 = .ok (.aload_n 0, 1) := by decide +kernel
theorem dX11_never_6 : decode cX11_never 6 = .ok (.getfield 19, 3) := by decide +kernel
theorem dX11_never_9 : decode cX11_never 9 = .ok (.getfield 355, 3) := by decide +kernel
theorem dX11_never_12 : decode cX11_never 12 = .ok (.if_icmp .ge 27, 3) := by decide +kernel
theorem dX11_never_15 : decode cX11_never 15 = .ok (.aload_n 0, 1) := by decide +kernel
theorem dX11_never_16 : decode cX11_never 16 = .ok (.getfield 19, 3) := by decide +kernel
theorem dX11_never_19 : decode cX11_never 19 = .ok (.getfield 174, 3) := by decide +kernel
theorem dX11_never_22 : decode cX11_never 22 = .ok (.iload_n 2, 1) := by decide +kernel
theorem dX11_never_23 : decode cX11_never 23 = .ok (.iaload, 1) := by decide +kernel
theorem dX11_never_24 : decode cX11_never 24 = .ok (.ifCond .ne 9, 3) := by decide +kernel
theorem dX11_never_27 : decode cX11_never 27 = .ok (.iload_n 1, 1) := by decide +kernel
theorem dX11_never_28 : decode cX11_never 28 = .ok (.iconst 1, 1) := by decide +kernel
theorem dX11_never_29 : decode cX11_never 29 = .ok (.iload_n 2, 1) := by decide +kernel
theorem dX11_never_30 : decode cX11_never 30 = .ok (.ishl, 1) := by decide +kernel
theorem dX11_never_31 : decode cX11_never 31 = .ok (.ior, 1) := by decide +kernel
theorem dX11_never_32 : decode cX11_never 32 = .ok (.istore_n 1, 1) := by decide +kernel
theorem dX11_never_33 : decode cX11_never 33 = .ok (.iinc 2 1, 3) := by decide +kernel
theorem dX11_never_36 : decode cX11_never 36 = .ok (.goto (-32), 3) := by decide +kernel
theorem dX11_never_39 : decode cX11_never 39 = .ok (.iload_n 1, 1) := by decide +kernel
theorem dX11_never_40 : decode cX11_never 40 = .ok (.ireturn, 1) := by decide +kernel
def q11_never (σ : St) : Option Int32 :=
  Option.bind (loop2 (fun rec4_ (bits7_ : Int32) (p8_ : Int32) =>
  if p8_ < (σ 44 8) then
  Option.bind (Option.bind (ag σ (44 + 4) 6 p8_) fun x20_ =>
  if x20_ = 0 then (lt (bits7_ ||| (shl 1 p8_)) fun bits24_ =>
  some (bits24_)) else (some (bits7_))) fun y15_ =>
  lt (p8_ + 1) fun p26_ =>
  rec4_ y15_ p26_
  else (some (bits7_, p8_))) fuelN (0 : Int32) (0 : Int32)) fun y1_ =>
  some y1_.1
abbrev rm11_never : Room := { frames := 0, cells := 0, slots := 0, locals := 0 }
set_option maxHeartbeats 4000000 in
set_option maxRecDepth 100000 in
theorem p11_never {Θ : Tz} {σ : St} {ρ : Option Value × St} (C : Zc Θ cX11_never 3 RX11 (some .int) rm11_never) (hkd : Θ.2.2.2.2.1 = kdC) {r : Int32} (hf : q11_never σ = some r) (hρ : ρ = (some (.int r), σ)) : Z Θ 3 0 0 (zQ Θ ρ) σ 0 [(0, .ref (zA Θ 0))] [] := by
  unfold q11_never at hf
  refine z_iconst (v := 0) C dX11_never_0 ic_0 ?_
  refine z_istN C dX11_never_1 rfl rfl (Nat.le_of_ble_eq_true rfl) rfl ?_
  refine z_iconst (v := 0) C dX11_never_2 ic_0 ?_
  refine z_istN C dX11_never_3 rfl rfl (Nat.le_of_ble_eq_true rfl) rfl ?_
  refine Z.sub [2, 1, 0] rfl ?_
  obtain ⟨y1_, h2_, hf⟩ := ob hf
  suffices K3_ : Z Θ 3 0 0 (zQ Θ ρ) σ 39 [(0, .ref (zA Θ 0)), (1, .int y1_.1), (2, .int y1_.2)] [] by
    refine loop2_Z (P := fun (bits7_ : Int32) (p8_ : Int32) => Z Θ 3 0 0 (zQ Θ ρ) σ 4 [(0, .ref (zA Θ 0)), (1, .int bits7_), (2, .int p8_)] []) ?_ fuelN (0 : Int32) (0 : Int32) h2_
    clear h2_
    intro rec4_ bits7_ p8_ h5_ h6_
    have K11_ : p8_ < (σ 44 8) → Z Θ 3 0 0 (zQ Θ ρ) σ 15 [(0, .ref (zA Θ 0)), (1, .int bits7_), (2, .int p8_)] [] := by
      intro h14_
      rw [if_pos h14_] at h6_
      obtain ⟨y15_, h16_, h6_⟩ := ob h6_
      suffices K17_ : Z Θ 3 0 0 (zQ Θ ρ) σ 33 [(0, .ref (zA Θ 0)), (1, .int y15_), (2, .int p8_)] [] by
        refine z_aload_n C 0 dX11_never_15 rfl rfl ?_
        refine fg11_19 C hkd dX11_never_16 ?_
        refine fg11_174 C hkd isV_44 dX11_never_19 ?_
        refine z_iload_n C 2 dX11_never_22 rfl rfl ?_
        obtain ⟨x20_, h21_, h16_⟩ := ob h16_
        refine z_ag C h21_ (kV_4 hkd isV_44) dX11_never_23 ?_
        have K18_ : x20_ = 0 → Z Θ 3 0 0 (zQ Θ ρ) σ 27 [(0, .ref (zA Θ 0)), (1, .int bits7_), (2, .int p8_)] [] := by
          intro h23_
          rw [if_pos h23_] at h16_
          refine z_iload_n C 1 dX11_never_27 rfl rfl ?_
          refine z_iconst (v := 1) C dX11_never_28 ic_1 ?_
          refine z_iload_n C 2 dX11_never_29 rfl rfl ?_
          refine z_shl C dX11_never_30 ?_
          refine z_ior C dX11_never_31 ?_
          obtain ⟨bits24_, h25_, h16_⟩ := lt_ h16_
          refine z_istN C dX11_never_32 h25_ rfl (Nat.le_of_ble_eq_true rfl) rfl ?_
          cases h16_
          refine Z.sub [1, 0, 2] rfl ?_
          exact K17_
        have K19_ : ¬ (x20_ = 0) → Z Θ 3 0 0 (zQ Θ ρ) σ 33 [(0, .ref (zA Θ 0)), (1, .int bits7_), (2, .int p8_)] [] := by
          intro h23_
          rw [if_neg h23_] at h16_
          cases h16_
          exact K17_
        refine c0_eq_f C 33 dX11_never_24 (by decide) (fun h22_ => ?_) (fun h22_ => ?_)
        · exact K18_ h22_
        · exact K19_ h22_
      obtain ⟨p26_, h27_, h6_⟩ := lt_ h6_
      refine z_inc C 2 dX11_never_33 rfl ic_1 h27_ (Nat.le_of_ble_eq_true rfl) rfl ?_
      refine z_goto C 4 dX11_never_36 (by decide) ?_
      refine Z.sub [1, 2, 0] rfl ?_
      exact h5_ _ _ h6_
    have K12_ : ¬ (p8_ < (σ 44 8)) → Z Θ 3 0 0 (zQ Θ ρ) σ 39 [(0, .ref (zA Θ 0)), (1, .int bits7_), (2, .int p8_)] [] := by
      intro h14_
      rw [if_neg h14_] at h6_
      cases h6_
      exact K3_
    refine z_iload_n C 2 dX11_never_4 rfl rfl ?_
    refine z_aload_n C 0 dX11_never_5 rfl rfl ?_
    refine fg11_19 C hkd dX11_never_6 ?_
    refine fg11_355 C hkd isV_44 dX11_never_9 ?_
    refine c_lt_f C 39 dX11_never_12 (by decide) (fun h13_ => ?_) (fun h13_ => ?_)
    · exact K11_ h13_
    · exact K12_ h13_
  refine z_iload_n C 1 dX11_never_39 rfl rfl ?_
  cases hf
  subst hρ
  exact z_iret C dX11_never_40
theorem c11_never {l : Launch} {kd : List KD} {w : Wp} {σ : St} (hkd : kd = kdC) (hi : zI kd w) {r : Int32} (hf : q11_never σ = some r) : zM l kd w yX11_never cX11_never 3 (some .int) rm11_never [.ref (w.2.2.1 0)] σ (some (.int r), σ) := zM_of rfl hi (Nat.le_of_ble_eq_true rfl) (fun Θ hl hw C => by
  obtain ⟨Θ1, Θ2, Θ3, Θ4, Θ5⟩ := Θ
  cases hw
  exact p11_never C hkd  hf rfl)
/-! LastLoaf.alike -/
theorem dX11_alike_0 : decode cX11_alike 0 = .ok (.iconst 0, 1) := by decide +kernel
theorem dX11_alike_1 : decode cX11_alike 1 = .ok (.istore_n 1, 1) := by decide +kernel
theorem dX11_alike_2 : decode cX11_alike 2 = .ok (.iconst 0, 1) := by decide +kernel
theorem dX11_alike_3 : decode cX11_alike 3 = .ok (.istore_n 2, 1) := by decide +kernel
theorem dX11_alike_4 : decode cX11_alike 4 = .ok (.iload_n 2, 1) := by decide +kernel
theorem dX11_alike_5 : decode cX11_alike 5 = .ok (.aload_n 0, 1) := by decide +kernel
theorem dX11_alike_6 : decode cX11_alike 6 = .ok (.getfield 19, 3) := by decide +kernel
theorem dX11_alike_9 : decode cX11_alike 9 = .ok (.getfield 355, 3) := by decide +kernel
theorem dX11_alike_12 : decode cX11_alike 12 = .ok (.if_icmp .ge 75, 3) := by decide +kernel
theorem dX11_alike_15 : decode cX11_alike 15 = .ok (.iload_n 2, 1) := by decide +kernel
theorem dX11_alike_16 : decode cX11_alike 16 = .ok (.iconst 1, 1) := by decide +kernel
theorem dX11_alike_17 : decode cX11_alike 17 = .ok (.iadd, 1) := by decide +kernel
theorem dX11_alike_18 : decode cX11_alike 18 = .ok (.istore_n 3, 1) := by decide +kernel
theorem dX11_alike_19 : decode cX11_alike 19 = .ok (.iload_n 3, 1) := by decide +kernel
theorem dX11_alike_20 : decode cX11_alike 20 = .ok (.aload_n 0, 1) := by decide +kernel
theorem dX11_alike_21 : decode cX11_alike 21 = .ok (.getfield 19, 3) := by decide +kernel
theorem dX11_alike_24 : decode cX11_alike 24 = .ok (.getfield 355, 3) := by decide +kernel
theorem dX11_alike_27 : decode cX11_alike 27 = .ok (.if_icmp .ge 54, 3) := by decide +kernel
theorem dX11_alike_30 : decode cX11_alike 30 = .ok (.aload_n 0, 1) := by decide +kernel
theorem dX11_alike_31 : decode cX11_alike 31 = .ok (.getfield 19, 3) := by decide +kernel
theorem dX11_alike_34 : decode cX11_alike 34 = .ok (.getfield 158, 3) := by decide +kernel
theorem dX11_alike_37 : decode cX11_alike 37 = .ok (.iload_n 2, 1) := by decide +kernel
theorem dX11_alike_38 : decode cX11_alike 38 = .ok (.iaload, 1) := by decide +kernel
theorem dX11_alike_39 : decode cX11_alike 39 = .ok (.aload_n 0, 1) := by decide +kernel
theorem dX11_alike_40 : decode cX11_alike 40 = .ok (.getfield 19, 3) := by decide +kernel
theorem dX11_alike_43 : decode cX11_alike 43 = .ok (.getfield 158, 3) := by decide +kernel
theorem dX11_alike_46 : decode cX11_alike 46 = .ok (.iload_n 3, 1) := by decide +kernel
theorem dX11_alike_47 : decode cX11_alike 47 = .ok (.iaload, 1) := by decide +kernel
theorem dX11_alike_48 : decode cX11_alike 48 = .ok (.if_icmp .ne 27, 3) := by decide +kernel
theorem dX11_alike_51 : decode cX11_alike 51 = .ok (.aload_n 0, 1) := by decide +kernel
theorem dX11_alike_52 : decode cX11_alike 52 = .ok (.getfield 19, 3) := by decide +kernel
theorem dX11_alike_55 : decode cX11_alike 55 = .ok (.getfield 161, 3) := by decide +kernel
theorem dX11_alike_58 : decode cX11_alike 58 = .ok (.iload_n 2, 1) := by decide +kernel
theorem dX11_alike_59 : decode cX11_alike 59 = .ok (.iaload, 1) := by decide +kernel
theorem dX11_alike_60 : decode cX11_alike 60 = .ok (.aload_n 0, 1) := by decide +kernel
theorem dX11_alike_61 : decode cX11_alike 61 = .ok (.getfield 19, 3) := by decide +kernel
theorem dX11_alike_64 : decode cX11_alike 64 = .ok (.getfield 161, 3) := by decide +kernel
theorem dX11_alike_67 : decode cX11_alike 67 = .ok (.iload_n 3, 1) := by decide +kernel
theorem dX11_alike_68 : decode cX11_alike 68 = .ok (.iaload, 1) := by decide +kernel
theorem dX11_alike_69 : decode cX11_alike 69 = .ok (.if_icmp .ne 6, 3) := by decide +kernel
theorem dX11_alike_72 : decode cX11_alike 72 = .ok (.iinc 1 1, 3) := by decide +kernel
theorem dX11_alike_75 : decode cX11_alike 75 = .ok (.iinc 3 1, 3) := by decide +kernel
theorem dX11_alike_78 : decode cX11_alike 78 = .ok (.goto (-59), 3) := by decide +kernel
theorem dX11_alike_81 : decode cX11_alike 81 = .ok (.iinc 2 1, 3) := by decide +kernel
theorem dX11_alike_84 : decode cX11_alike 84 = .ok (.goto (-80), 3) := by decide +kernel
theorem dX11_alike_87 : decode cX11_alike 87 = .ok (.iload_n 1, 1) := by decide +kernel
theorem dX11_alike_88 : decode cX11_alike 88 = .ok (.ireturn, 1) := by decide +kernel
def q11_alike (σ : St) : Option Int32 :=
  Option.bind (loop2 (fun rec4_ (pairs7_ : Int32) (p8_ : Int32) =>
  if p8_ < (σ 44 8) then
  lt (p8_ + 1) fun q15_ =>
  Option.bind (loop2 (fun rec20_ (pairs23_ : Int32) (q24_ : Int32) =>
  if q24_ < (σ 44 8) then
  Option.bind (Option.bind (Option.bind (ag σ (44 + 2) 6 p8_) fun x38_ =>
  Option.bind (ag σ (44 + 2) 6 q24_) fun x40_ =>
  if x38_ = x40_ then (Option.bind (ag σ (44 + 3) 6 p8_) fun x43_ =>
  Option.bind (ag σ (44 + 3) 6 q24_) fun x45_ =>
  if x43_ = x45_ then (some true) else (some false)) else (some false)) fun t36_ =>
  if t36_ = true then (lt (pairs23_ + 1) fun pairs49_ =>
  some (pairs49_)) else (some (pairs23_))) fun y31_ =>
  lt (q24_ + 1) fun q51_ =>
  rec20_ y31_ q51_
  else (some (pairs23_, q24_))) fuelN pairs7_ q15_) fun y17_ =>
  lt (p8_ + 1) fun p53_ =>
  rec4_ y17_.1 p53_
  else (some (pairs7_, p8_))) fuelN (0 : Int32) (0 : Int32)) fun y1_ =>
  some y1_.1
abbrev rm11_alike : Room := { frames := 0, cells := 0, slots := 0, locals := 0 }
set_option maxHeartbeats 4000000 in
set_option maxRecDepth 100000 in
theorem p11_alike {Θ : Tz} {σ : St} {ρ : Option Value × St} (C : Zc Θ cX11_alike 4 RX11 (some .int) rm11_alike) (hkd : Θ.2.2.2.2.1 = kdC) {r : Int32} (hf : q11_alike σ = some r) (hρ : ρ = (some (.int r), σ)) : Z Θ 4 0 0 (zQ Θ ρ) σ 0 [(0, .ref (zA Θ 0))] [] := by
  unfold q11_alike at hf
  refine z_iconst (v := 0) C dX11_alike_0 ic_0 ?_
  refine z_istN C dX11_alike_1 rfl rfl (Nat.le_of_ble_eq_true rfl) rfl ?_
  refine z_iconst (v := 0) C dX11_alike_2 ic_0 ?_
  refine z_istN C dX11_alike_3 rfl rfl (Nat.le_of_ble_eq_true rfl) rfl ?_
  refine Z.sub [2, 1, 0] rfl ?_
  obtain ⟨y1_, h2_, hf⟩ := ob hf
  suffices K3_ : Z Θ 4 0 0 (zQ Θ ρ) σ 87 [(0, .ref (zA Θ 0)), (1, .int y1_.1), (2, .int y1_.2)] [] by
    refine loop2_Z (P := fun (pairs7_ : Int32) (p8_ : Int32) => Z Θ 4 0 0 (zQ Θ ρ) σ 4 [(0, .ref (zA Θ 0)), (1, .int pairs7_), (2, .int p8_)] []) ?_ fuelN (0 : Int32) (0 : Int32) h2_
    clear h2_
    intro rec4_ pairs7_ p8_ h5_ h6_
    have K11_ : p8_ < (σ 44 8) → Z Θ 4 0 0 (zQ Θ ρ) σ 15 [(0, .ref (zA Θ 0)), (1, .int pairs7_), (2, .int p8_)] [] := by
      intro h14_
      rw [if_pos h14_] at h6_
      refine z_iload_n C 2 dX11_alike_15 rfl rfl ?_
      refine z_iconst (v := 1) C dX11_alike_16 ic_1 ?_
      refine z_iadd C dX11_alike_17 ?_
      obtain ⟨q15_, h16_, h6_⟩ := lt_ h6_
      refine z_istN C dX11_alike_18 h16_ rfl (Nat.le_of_ble_eq_true rfl) rfl ?_
      refine Z.sub [1, 2, 3, 0] rfl ?_
      obtain ⟨y17_, h18_, h6_⟩ := ob h6_
      suffices K19_ : Z Θ 4 0 0 (zQ Θ ρ) σ 81 [(0, .ref (zA Θ 0)), (1, .int y17_.1), (2, .int p8_), (3, .int y17_.2)] [] by
        refine loop2_Z (P := fun (pairs23_ : Int32) (q24_ : Int32) => Z Θ 4 0 0 (zQ Θ ρ) σ 19 [(0, .ref (zA Θ 0)), (1, .int pairs23_), (2, .int p8_), (3, .int q24_)] []) ?_ fuelN pairs7_ q15_ h18_
        clear h18_
        intro rec20_ pairs23_ q24_ h21_ h22_
        have K27_ : q24_ < (σ 44 8) → Z Θ 4 0 0 (zQ Θ ρ) σ 30 [(0, .ref (zA Θ 0)), (1, .int pairs23_), (2, .int p8_), (3, .int q24_)] [] := by
          intro h30_
          rw [if_pos h30_] at h22_
          obtain ⟨y31_, h32_, h22_⟩ := ob h22_
          suffices K33_ : Z Θ 4 0 0 (zQ Θ ρ) σ 75 [(0, .ref (zA Θ 0)), (1, .int y31_), (2, .int p8_), (3, .int q24_)] [] by
            obtain ⟨t36_, h37_, h32_⟩ := ob h32_
            have K34_ : t36_ = true → Z Θ 4 0 0 (zQ Θ ρ) σ 72 [(0, .ref (zA Θ 0)), (1, .int pairs23_), (2, .int p8_), (3, .int q24_)] [] := by
              intro h48_
              rw [if_pos h48_] at h32_
              obtain ⟨pairs49_, h50_, h32_⟩ := lt_ h32_
              refine z_inc C 1 dX11_alike_72 rfl ic_1 h50_ (Nat.le_of_ble_eq_true rfl) rfl ?_
              cases h32_
              refine Z.sub [1, 0, 2, 3] rfl ?_
              exact K33_
            have K35_ : ¬ (t36_ = true) → Z Θ 4 0 0 (zQ Θ ρ) σ 75 [(0, .ref (zA Θ 0)), (1, .int pairs23_), (2, .int p8_), (3, .int q24_)] [] := by
              intro h48_
              rw [if_neg h48_] at h32_
              cases h32_
              exact K33_
            refine z_aload_n C 0 dX11_alike_30 rfl rfl ?_
            refine fg11_19 C hkd dX11_alike_31 ?_
            refine fg11_158 C hkd isV_44 dX11_alike_34 ?_
            refine z_iload_n C 2 dX11_alike_37 rfl rfl ?_
            obtain ⟨x38_, h39_, h37_⟩ := ob h37_
            refine z_ag C h39_ (kV_2 hkd isV_44) dX11_alike_38 ?_
            refine z_aload_n C 0 dX11_alike_39 rfl rfl ?_
            refine fg11_19 C hkd dX11_alike_40 ?_
            refine fg11_158 C hkd isV_44 dX11_alike_43 ?_
            refine z_iload_n C 3 dX11_alike_46 rfl rfl ?_
            obtain ⟨x40_, h41_, h37_⟩ := ob h37_
            refine z_ag C h41_ (kV_2 hkd isV_44) dX11_alike_47 ?_
            refine c_eq_f C 75 dX11_alike_48 (by decide) (fun h42_ => ?_) (fun h42_ => ?_)
            · rw [if_pos h42_] at h37_
              refine z_aload_n C 0 dX11_alike_51 rfl rfl ?_
              refine fg11_19 C hkd dX11_alike_52 ?_
              refine fg11_161 C hkd isV_44 dX11_alike_55 ?_
              refine z_iload_n C 2 dX11_alike_58 rfl rfl ?_
              obtain ⟨x43_, h44_, h37_⟩ := ob h37_
              refine z_ag C h44_ (kV_3 hkd isV_44) dX11_alike_59 ?_
              refine z_aload_n C 0 dX11_alike_60 rfl rfl ?_
              refine fg11_19 C hkd dX11_alike_61 ?_
              refine fg11_161 C hkd isV_44 dX11_alike_64 ?_
              refine z_iload_n C 3 dX11_alike_67 rfl rfl ?_
              obtain ⟨x45_, h46_, h37_⟩ := ob h37_
              refine z_ag C h46_ (kV_3 hkd isV_44) dX11_alike_68 ?_
              refine c_eq_f C 75 dX11_alike_69 (by decide) (fun h47_ => ?_) (fun h47_ => ?_)
              · rw [if_pos h47_] at h37_
                cases h37_
                exact K34_ rfl
              · rw [if_neg h47_] at h37_
                cases h37_
                exact K35_ Bool.false_ne_true
            · rw [if_neg h42_] at h37_
              cases h37_
              exact K35_ Bool.false_ne_true
          obtain ⟨q51_, h52_, h22_⟩ := lt_ h22_
          refine z_inc C 3 dX11_alike_75 rfl ic_1 h52_ (Nat.le_of_ble_eq_true rfl) rfl ?_
          refine z_goto C 19 dX11_alike_78 (by decide) ?_
          refine Z.sub [1, 2, 3, 0] rfl ?_
          exact h21_ _ _ h22_
        have K28_ : ¬ (q24_ < (σ 44 8)) → Z Θ 4 0 0 (zQ Θ ρ) σ 81 [(0, .ref (zA Θ 0)), (1, .int pairs23_), (2, .int p8_), (3, .int q24_)] [] := by
          intro h30_
          rw [if_neg h30_] at h22_
          cases h22_
          exact K19_
        refine z_iload_n C 3 dX11_alike_19 rfl rfl ?_
        refine z_aload_n C 0 dX11_alike_20 rfl rfl ?_
        refine fg11_19 C hkd dX11_alike_21 ?_
        refine fg11_355 C hkd isV_44 dX11_alike_24 ?_
        refine c_lt_f C 81 dX11_alike_27 (by decide) (fun h29_ => ?_) (fun h29_ => ?_)
        · exact K27_ h29_
        · exact K28_ h29_
      obtain ⟨p53_, h54_, h6_⟩ := lt_ h6_
      refine z_inc C 2 dX11_alike_81 rfl ic_1 h54_ (Nat.le_of_ble_eq_true rfl) rfl ?_
      refine z_goto C 4 dX11_alike_84 (by decide) ?_
      refine Z.sub [1, 2, 0] rfl ?_
      exact h5_ _ _ h6_
    have K12_ : ¬ (p8_ < (σ 44 8)) → Z Θ 4 0 0 (zQ Θ ρ) σ 87 [(0, .ref (zA Θ 0)), (1, .int pairs7_), (2, .int p8_)] [] := by
      intro h14_
      rw [if_neg h14_] at h6_
      cases h6_
      exact K3_
    refine z_iload_n C 2 dX11_alike_4 rfl rfl ?_
    refine z_aload_n C 0 dX11_alike_5 rfl rfl ?_
    refine fg11_19 C hkd dX11_alike_6 ?_
    refine fg11_355 C hkd isV_44 dX11_alike_9 ?_
    refine c_lt_f C 87 dX11_alike_12 (by decide) (fun h13_ => ?_) (fun h13_ => ?_)
    · exact K11_ h13_
    · exact K12_ h13_
  refine z_iload_n C 1 dX11_alike_87 rfl rfl ?_
  cases hf
  subst hρ
  exact z_iret C dX11_alike_88
theorem c11_alike {l : Launch} {kd : List KD} {w : Wp} {σ : St} (hkd : kd = kdC) (hi : zI kd w) {r : Int32} (hf : q11_alike σ = some r) : zM l kd w yX11_alike cX11_alike 4 (some .int) rm11_alike [.ref (w.2.2.1 0)] σ (some (.int r), σ) := zM_of rfl hi (Nat.le_of_ble_eq_true rfl) (fun Θ hl hw C => by
  obtain ⟨Θ1, Θ2, Θ3, Θ4, Θ5⟩ := Θ
  cases hw
  exact p11_alike C hkd  hf rfl)

/-! LastLoaf.kindest -/
theorem dX11_kindest_0 : decode cX11_kindest 0 = .ok (.iload_n 1, 1) := by decide +kernel
theorem dX11_kindest_1 : decode cX11_kindest 1 = .ok (.iconst 0, 1) := by decide +kernel
theorem dX11_kindest_2 : decode cX11_kindest 2 = .ok (.bipush 60, 2) := by decide +kernel
theorem dX11_kindest_4 : decode cX11_kindest 4 = .ok (.invokestatic 231, 3) := by decide +kernel
theorem dX11_kindest_7 : decode cX11_kindest 7 = .ok (.iconst 0, 1) := by decide +kernel
theorem dX11_kindest_8 : decode cX11_kindest 8 = .ok (.istore_n 2, 1) := by decide +kernel
theorem dX11_kindest_9 : decode cX11_kindest 9 = .ok (.bipush 7, 2) := by decide +kernel
theorem dX11_kindest_11 : decode cX11_kindest 11 = .ok (.istore_n 3, 1) := by decide +kernel
theorem dX11_kindest_12 : decode cX11_kindest 12 = .ok (.iconst 0, 1) := by decide +kernel
theorem dX11_kindest_13 : decode cX11_kindest 13 = .ok (.istore 4, 2) := by decide +kernel
theorem dX11_kindest_15 : decode cX11_kindest 15 = .ok (.iload 4, 2) := by decide +kernel
theorem dX11_kindest_17 : decode cX11_kindest 17 = .ok (.bipush 6, 2) := by decide +kernel
theorem dX11_kindest_19 : decode cX11_kindest 19 = .ok (.if_icmp .ge 30, 3) := by decide +kernel
theorem dX11_kindest_22 : decode cX11_kindest 22 = .ok (.aload_n 0, 1) := by decide +kernel
theorem dX11_kindest_23 : decode cX11_kindest 23 = .ok (.iload 4, 2) := by decide +kernel
theorem dX11_kindest_25 : decode cX11_kindest 25 = .ok (.iload_n 1, 1) := by decide +kernel
theorem dX11_kindest_26 : decode cX11_kindest 26 = .ok (.invokevirtual 289, 3) := by decide +kernel
theorem dX11_kindest_29 : decode cX11_kindest 29 = .ok (.istore 5, 2) := by decide +kernel
theorem dX11_kindest_31 : decode cX11_kindest 31 = .ok (.iload 5, 2) := by decide +kernel
theorem dX11_kindest_33 : decode cX11_kindest 33 = .ok (.iload_n 3, 1) := by decide +kernel
theorem dX11_kindest_34 : decode cX11_kindest 34 = .ok (.if_icmp .ge 9, 3) := by decide +kernel
theorem dX11_kindest_37 : decode cX11_kindest 37 = .ok (.iload 5, 2) := by decide +kernel
theorem dX11_kindest_39 : decode cX11_kindest 39 = .ok (.istore_n 3, 1) := by decide +kernel
theorem dX11_kindest_40 : decode cX11_kindest 40 = .ok (.iload 4, 2) := by decide +kernel
theorem dX11_kindest_42 : decode cX11_kindest 42 = .ok (.istore_n 2, 1) := by decide +kernel
theorem dX11_kindest_43 : decode cX11_kindest 43 = .ok (.iinc 4 1, 3) := by decide +kernel
theorem dX11_kindest_46 : decode cX11_kindest 46 = .ok (.goto (-31), 3) := by decide +kernel
theorem dX11_kindest_49 : decode cX11_kindest 49 = .ok (.iload_n 2, 1) := by decide +kernel
theorem dX11_kindest_50 : decode cX11_kindest 50 = .ok (.ireturn, 1) := by decide +kernel
def q11_kindest (σ : St) (n_a : Int32) : Option (Sum Nat Int32 × St) :=
  thn (q11_needNumber n_a 0 60) σ
  (Option.bind (loop4 (fun rec6_ (best9_ : Int32) (fewest10_ : Int32) (way11_ : Int32) (σ12_ : St) =>
  if way11_ < 6 then
  Option.bind (q11_leftHungry σ12_ way11_ n_a) fun x19_ =>
  lt (if x19_.1 < fewest10_ then ((way11_, x19_.1)) else ((best9_, fewest10_))) fun y21_ =>
  lt (way11_ + 1) fun way28_ =>
  rec6_ y21_.1 y21_.2 way28_ x19_.2
  else (some (best9_, fewest10_, way11_, σ12_))) fuelN (0 : Int32) (7 : Int32) (0 : Int32) σ) fun y3_ =>
  some (.inr y3_.1, y3_.2.2.2))
abbrev rm11_kindest : Room := { frames := 7, cells := 1, slots := 6, locals := 166 }
set_option maxHeartbeats 4000000 in
set_option maxRecDepth 100000 in
theorem p11_kindest {Θ : Tz} {σ : St} {ω : Om} (C : Zc Θ cX11_kindest 6 RX11 (some .int) rm11_kindest) (hkd : Θ.2.2.2.2.1 = kdC) (hlt : Θ.1.2.1.stackTraces = false) (het : ∀ x ∈ Θ.2.2.1.2.exceptionTable.toList, False) {n_a : Int32} {r : (Sum Nat Int32 × St)} (hf : q11_kindest σ n_a = some r) (hω : ω = om (fun v => some (.int v)) r) : Z Θ 6 0 0 (zQX Θ ω 1 6) σ 0 [(0, .ref (zA Θ 0)), (1, .int n_a)] [] := by
  unfold q11_kindest at hf
  refine z_iload_n C 1 dX11_kindest_0 rfl rfl ?_
  refine z_iconst (v := 0) C dX11_kindest_1 ic_0 ?_
  refine z_bipush (v := 60) C dX11_kindest_2 bp_60 ?_
  refine zx_callS C het [.int n_a, .int 0, .int 60] (q11_needNumber n_a 0 60) 1 6 3 (c11_needNumber (n_a := n_a) (least_a := 0) (most_a := 60) hkd (zc_inj C) hlt) w_6_83 w_6_81 w_6_82 w_1_1 ⟨rfl, rfl, (Nat.le_of_ble_eq_true rfl), (Nat.le_of_ble_eq_true rfl)⟩ (by decide +kernel) rfl rfl (Nat.le_of_ble_eq_true rfl) ⟨(Nat.le_of_ble_eq_true rfl), (Nat.le_of_ble_eq_true rfl)⟩ dX11_kindest_4 ⟨(Nat.le_of_ble_eq_true rfl), (Nat.le_of_ble_eq_true rfl)⟩ (fun e9 h2_ => by rw [h2_] at hf; cases hf; exact hω) (fun h1_ => ?_)
  rw [h1_] at hf
  replace hf := thn_x hf
  refine z_iconst (v := 0) C dX11_kindest_7 ic_0 ?_
  refine z_istN C dX11_kindest_8 rfl rfl (Nat.le_of_ble_eq_true rfl) rfl ?_
  refine z_bipush (v := 7) C dX11_kindest_9 bp_7 ?_
  refine z_istN C dX11_kindest_11 rfl rfl (Nat.le_of_ble_eq_true rfl) rfl ?_
  refine z_iconst (v := 0) C dX11_kindest_12 ic_0 ?_
  refine z_ist C dX11_kindest_13 rfl (Nat.le_of_ble_eq_true rfl) rfl ?_
  refine Z.sub [3, 4, 2, 1, 0] rfl ?_
  obtain ⟨y3_, h4_, hf⟩ := ob hf
  suffices K5_ : Z Θ 6 1 6 (zQX Θ ω 1 6) y3_.2.2.2 49 [(0, .ref (zA Θ 0)), (1, .int n_a), (2, .int y3_.1), (3, .int y3_.2.1), (4, .int y3_.2.2.1)] [] by
    refine loop4_Z (P := fun (best9_ : Int32) (fewest10_ : Int32) (way11_ : Int32) (σ12_ : St) => Z Θ 6 1 6 (zQX Θ ω 1 6) σ12_ 15 [(0, .ref (zA Θ 0)), (1, .int n_a), (2, .int best9_), (3, .int fewest10_), (4, .int way11_)] []) ?_ fuelN (0 : Int32) (7 : Int32) (0 : Int32) σ h4_
    clear h4_
    intro rec6_ best9_ fewest10_ way11_ σ12_ h7_ h8_
    have K15_ : way11_ < 6 → Z Θ 6 1 6 (zQX Θ ω 1 6) σ12_ 22 [(0, .ref (zA Θ 0)), (1, .int n_a), (2, .int best9_), (3, .int fewest10_), (4, .int way11_)] [] := by
      intro h18_
      rw [if_pos h18_] at h8_
      refine z_aload_n C 0 dX11_kindest_22 rfl rfl ?_
      refine z_iload C 4 dX11_kindest_23 rfl ?_
      refine z_iload_n C 1 dX11_kindest_25 rfl rfl ?_
      obtain ⟨x19_, h20_, h8_⟩ := ob h8_
      refine cr11_289 (way_a := way11_) (n_a := n_a) C hkd  h20_ ⟨(Nat.le_of_ble_eq_true rfl), (Nat.le_of_ble_eq_true rfl)⟩ (Nat.le_of_ble_eq_true rfl) ⟨(Nat.le_of_ble_eq_true rfl), (Nat.le_of_ble_eq_true rfl)⟩ dX11_kindest_26 ?_
      refine z_ist C dX11_kindest_29 rfl (Nat.le_of_ble_eq_true rfl) rfl ?_
      obtain ⟨y21_, h22_, h8_⟩ := lt_ h8_
      have h22_ := h22_.symm
      suffices K23_ : Z Θ 6 1 6 (zQX Θ ω 1 6) x19_.2 43 [(0, .ref (zA Θ 0)), (1, .int n_a), (2, .int y21_.1), (3, .int y21_.2), (4, .int way11_), (5, .int x19_.1)] [] by
        have K24_ : x19_.1 < fewest10_ → Z Θ 6 1 6 (zQX Θ ω 1 6) x19_.2 37 [(5, .int x19_.1), (0, .ref (zA Θ 0)), (1, .int n_a), (2, .int best9_), (3, .int fewest10_), (4, .int way11_)] [] := by
          intro h27_
          rw [if_pos h27_] at h22_
          refine z_iload C 0 dX11_kindest_37 rfl ?_
          refine z_istN C dX11_kindest_39 rfl rfl (Nat.le_of_ble_eq_true rfl) rfl ?_
          refine z_iload C 5 dX11_kindest_40 rfl ?_
          refine z_istN C dX11_kindest_42 rfl rfl (Nat.le_of_ble_eq_true rfl) rfl ?_
          subst h22_
          refine Z.sub [3, 4, 0, 1, 5, 2] rfl ?_
          exact K23_
        have K25_ : ¬ (x19_.1 < fewest10_) → Z Θ 6 1 6 (zQX Θ ω 1 6) x19_.2 43 [(5, .int x19_.1), (0, .ref (zA Θ 0)), (1, .int n_a), (2, .int best9_), (3, .int fewest10_), (4, .int way11_)] [] := by
          intro h27_
          rw [if_neg h27_] at h22_
          subst h22_
          refine Z.sub [1, 2, 3, 4, 5, 0] rfl ?_
          exact K23_
        refine z_iload C 0 dX11_kindest_31 rfl ?_
        refine z_iload_n C 4 dX11_kindest_33 rfl rfl ?_
        refine c_lt_f C 43 dX11_kindest_34 (by decide) (fun h26_ => ?_) (fun h26_ => ?_)
        · exact K24_ h26_
        · exact K25_ h26_
      obtain ⟨way28_, h29_, h8_⟩ := lt_ h8_
      refine z_inc C 4 dX11_kindest_43 rfl ic_1 h29_ (Nat.le_of_ble_eq_true rfl) rfl ?_
      refine z_goto C 15 dX11_kindest_46 (by decide) ?_
      refine Z.sub [1, 2, 3, 4, 0] rfl ?_
      exact h7_ _ _ _ _ h8_
    have K16_ : ¬ (way11_ < 6) → Z Θ 6 1 6 (zQX Θ ω 1 6) σ12_ 49 [(0, .ref (zA Θ 0)), (1, .int n_a), (2, .int best9_), (3, .int fewest10_), (4, .int way11_)] [] := by
      intro h18_
      rw [if_neg h18_] at h8_
      cases h8_
      exact K5_
    refine z_iload C 4 dX11_kindest_15 rfl ?_
    refine z_bipush (v := 6) C dX11_kindest_17 bp_6 ?_
    refine c_lt_f C 49 dX11_kindest_19 (by decide) (fun h17_ => ?_) (fun h17_ => ?_)
    · exact K15_ h17_
    · exact K16_ h17_
  refine z_iload_n C 2 dX11_kindest_49 rfl rfl ?_
  cases hf
  subst hω
  exact zx_iret C ⟨(Nat.le_of_ble_eq_true rfl), (Nat.le_of_ble_eq_true rfl)⟩ dX11_kindest_50
theorem c11_kindest {l : Launch} {kd : List KD} {w : Wp} {σ : St} {n_a : Int32} (hkd : kd = kdC) (hi : zI kd w) (hlt : l.stackTraces = false) {r : (Sum Nat Int32 × St)} (hf : q11_kindest σ n_a = some r) : zX l kd w yX11_kindest cX11_kindest 6 (some .int) rm11_kindest [.ref (w.2.2.1 0), .int n_a] σ (om (fun v => some (.int v)) r) 1 6 := zX_of rfl hi (Nat.le_of_ble_eq_true rfl) (fun Θ hl hw C het => by
  obtain ⟨Θ1, Θ2, Θ3, Θ4, Θ5⟩ := Θ
  cases hw
  cases hl
  exact p11_kindest C hkd hlt het  hf rfl)
/-! LastLoaf.lookAhead -/
theorem dX11_lookAhead_0 : decode cX11_lookAhead 0 = .ok (.aload_n 0, 1) := by decide +kernel
theorem dX11_lookAhead_1 : decode cX11_lookAhead 1 = .ok (.getfield 23, 3) := by decide +kernel
theorem dX11_lookAhead_4 : decode cX11_lookAhead 4 = .ok (.aload_n 0, 1) := by decide +kernel
theorem dX11_lookAhead_5 : decode cX11_lookAhead 5 = .ok (.getfield 19, 3) := by decide +kernel
theorem dX11_lookAhead_8 : decode cX11_lookAhead 8 = .ok (.invokevirtual 110, 3) := by decide +kernel
theorem dX11_lookAhead_11 : decode cX11_lookAhead 11 = .ok (.aload_n 0, 1) := by decide +kernel
theorem dX11_lookAhead_12 : decode cX11_lookAhead 12 = .ok (.getfield 70, 3) := by decide +kernel
theorem dX11_lookAhead_15 : decode cX11_lookAhead 15 = .ok (.aload_n 0, 1) := by decide +kernel
theorem dX11_lookAhead_16 : decode cX11_lookAhead 16 = .ok (.getfield 23, 3) := by decide +kernel
theorem dX11_lookAhead_19 : decode cX11_lookAhead 19 = .ok (.iload_n 1, 1) := by decide +kernel
theorem dX11_lookAhead_20 : decode cX11_lookAhead 20 = .ok (.iconst 0, 1) := by decide +kernel
theorem dX11_lookAhead_21 : decode cX11_lookAhead 21 = .ok (.invokevirtual 243, 3) := by decide +kernel
theorem dX11_lookAhead_24 : decode cX11_lookAhead 24 = .ok (.return_, 1) := by decide +kernel
def q11_lookAhead (σ : St) (n_a : Int32) : Option St :=
  Option.bind (q10_become σ 54 44) fun x1_ =>
  Option.bind (q0_bakeWeeks x1_ 54 n_a false) fun x3_ =>
  some x3_
abbrev rm11_lookAhead : Room := { frames := 6, cells := 0, slots := 0, locals := 144 }
set_option maxHeartbeats 4000000 in
set_option maxRecDepth 100000 in
theorem p11_lookAhead {Θ : Tz} {σ : St} {ρ : Option Value × St} (C : Zc Θ cX11_lookAhead 2 RX11 none rm11_lookAhead) (hkd : Θ.2.2.2.2.1 = kdC) {n_a : Int32} {r : St} (hf : q11_lookAhead σ n_a = some r) (hρ : ρ = (none, r)) : Z Θ 2 0 0 (zQ Θ ρ) σ 0 [(0, .ref (zA Θ 0)), (1, .int n_a)] [] := by
  unfold q11_lookAhead at hf
  refine z_aload_n C 0 dX11_lookAhead_0 rfl rfl ?_
  refine fg11_23 C hkd dX11_lookAhead_1 ?_
  refine z_aload_n C 0 dX11_lookAhead_4 rfl rfl ?_
  refine fg11_19 C hkd dX11_lookAhead_5 ?_
  obtain ⟨x1_, h2_, hf⟩ := ob hf
  refine cr11_110 (th := 54) (other_a := 44) C hkd isV_54 isV_44 h2_ ⟨(Nat.le_of_ble_eq_true rfl), (Nat.le_of_ble_eq_true rfl)⟩ (Nat.le_of_ble_eq_true rfl) ⟨Nat.zero_le _, Nat.zero_le _⟩ dX11_lookAhead_8 ?_
  refine z_aload_n C 0 dX11_lookAhead_11 rfl rfl ?_
  refine fg11_70 C hkd dX11_lookAhead_12 ?_
  refine z_aload_n C 0 dX11_lookAhead_15 rfl rfl ?_
  refine fg11_23 C hkd dX11_lookAhead_16 ?_
  refine z_iload_n C 1 dX11_lookAhead_19 rfl rfl ?_
  refine z_iconst (v := 0) C dX11_lookAhead_20 ic_0 ?_
  obtain ⟨x3_, h4_, hf⟩ := ob hf
  refine cr11_243 (village_a := 54) (n_a := n_a) (speeches_a := false) C hkd isV_54 h4_ ⟨(Nat.le_of_ble_eq_true rfl), (Nat.le_of_ble_eq_true rfl)⟩ (Nat.le_of_ble_eq_true rfl) ⟨Nat.zero_le _, Nat.zero_le _⟩ dX11_lookAhead_21 ?_
  cases hf
  subst hρ
  exact z_vret C dX11_lookAhead_24
theorem c11_lookAhead {l : Launch} {kd : List KD} {w : Wp} {σ : St} {n_a : Int32} (hkd : kd = kdC) (hi : zI kd w) {r : St} (hf : q11_lookAhead σ n_a = some r) : zM l kd w yX11_lookAhead cX11_lookAhead 2 none rm11_lookAhead [.ref (w.2.2.1 0), .int n_a] σ (none, r) := zM_of rfl hi (Nat.le_of_ble_eq_true rfl) (fun Θ hl hw C => by
  obtain ⟨Θ1, Θ2, Θ3, Θ4, Θ5⟩ := Θ
  cases hw
  exact p11_lookAhead C hkd  hf rfl)
/-! LastLoaf.next -/
theorem w_6_215 : Cond.code ({ cls := "LastLoaf", name := "lookAhead", desc := "(I)V" } : MethodName) prog_1_method_78_code (2 : Nat) (Option.none : Option ClassFile.FieldType) ∈ TB := tb_in (lwt_6 (List.mem_of_getElem? (i := 215) (by decide +kernel))) rfl
theorem w_6_212 : Cond.methodLink "LastLoaf" (292 : Nat) ({ cls := "LastLoaf", name := "lookAhead", desc := "(I)V" } : MethodName) ∈ TB := tb_in (lwt_6 (List.mem_of_getElem? (i := 212) (by decide +kernel))) rfl
theorem w_6_214 : Cond.instanceMethod ({ cls := "LastLoaf", name := "lookAhead", desc := "(I)V" } : MethodName) ∈ TB := tb_in (lwt_6 (List.mem_of_getElem? (i := 214) (by decide +kernel))) rfl
theorem ws_LastLoaf_lookAhead_I_V : Cond.selects "LastLoaf" (⟨"LastLoaf", "lookAhead", "(I)V"⟩ : MethodName) (⟨"LastLoaf", "lookAhead", "(I)V"⟩ : MethodName) ∈ TB := tb_in (List.mem_append_left _ (List.mem_of_getElem? (i := 12) (by decide +kernel))) rfl
theorem cr11_292 {Θ : Tz} {cc : ByteArray} {nL kc ks : Nat} {ret : Option FieldType} {rm : Room} {Q : State → Prop} {σ : St} {pc : Nat} {lv : List (Nat × Value)} {st : List Value} (C : Zc Θ cc nL RX11 ret rm) (hkd : Θ.2.2.2.2.1 = kdC) {n_a : Int32} {r : St} (hx : q11_lookAhead σ n_a = some r) (hrm : rm11_lookAhead.frames + 1 ≤ rm.frames ∧ 8 + (2 + 11) + rm11_lookAhead.locals ≤ rm.locals) (hcat : (st.map fun v => v.category).sum ≤ 8) (hk : kc ≤ rm.cells ∧ ks ≤ rm.slots) (hd : decode cc pc = .ok (.invokevirtual 292, 3)) (kk : Z Θ nL kc ks Q r (pc + 3) lv st) : Z Θ nL kc ks Q σ pc lv (.int n_a :: .ref (zA Θ 0) :: st) := z_callV C 0 [.int n_a] (none, r) 1 (kC_0 hkd) rfl (c11_lookAhead (n_a := n_a) hkd (zc_inj C) hx) w_6_215 w_6_212 w_6_214 ws_LastLoaf_lookAhead_I_V w_1_1 ⟨rfl, rfl, hrm.1, hrm.2⟩ (by decide +kernel) rfl rfl hcat hk hd kk
theorem dX11_next_0 : decode cX11_next 0 = .ok (.iload_n 1, 1) := by decide +kernel
theorem dX11_next_1 : decode cX11_next 1 = .ok (.iconst 0, 1) := by decide +kernel
theorem dX11_next_2 : decode cX11_next 2 = .ok (.bipush 60, 2) := by decide +kernel
theorem dX11_next_4 : decode cX11_next 4 = .ok (.invokestatic 231, 3) := by decide +kernel
theorem dX11_next_7 : decode cX11_next 7 = .ok (.aload_n 0, 1) := by decide +kernel
theorem dX11_next_8 : decode cX11_next 8 = .ok (.iload_n 1, 1) := by decide +kernel
theorem dX11_next_9 : decode cX11_next 9 = .ok (.invokevirtual 292, 3) := by decide +kernel
theorem dX11_next_12 : decode cX11_next 12 = .ok (.aload_n 0, 1) := by decide +kernel
theorem dX11_next_13 : decode cX11_next 13 = .ok (.getfield 61, 3) := by decide +kernel
theorem dX11_next_16 : decode cX11_next 16 = .ok (.aload_n 0, 1) := by decide +kernel
theorem dX11_next_17 : decode cX11_next 17 = .ok (.getfield 23, 3) := by decide +kernel
theorem dX11_next_20 : decode cX11_next 20 = .ok (.aload_n 0, 1) := by decide +kernel
theorem dX11_next_21 : decode cX11_next 21 = .ok (.getfield 29, 3) := by decide +kernel
theorem dX11_next_24 : decode cX11_next 24 = .ok (.invokevirtual 295, 3) := by decide +kernel
theorem dX11_next_27 : decode cX11_next 27 = .ok (.aload_n 0, 1) := by decide +kernel
theorem dX11_next_28 : decode cX11_next 28 = .ok (.getfield 61, 3) := by decide +kernel
theorem dX11_next_31 : decode cX11_next 31 = .ok (.aload_n 0, 1) := by decide +kernel
theorem dX11_next_32 : decode cX11_next 32 = .ok (.getfield 23, 3) := by decide +kernel
theorem dX11_next_35 : decode cX11_next 35 = .ok (.getfield 269, 3) := by decide +kernel
theorem dX11_next_38 : decode cX11_next 38 = .ok (.invokevirtual 279, 3) := by decide +kernel
theorem dX11_next_41 : decode cX11_next 41 = .ok (.ireturn, 1) := by decide +kernel
def q11_next (σ : St) (n_a : Int32) : Option (Sum Nat Int32 × St) :=
  thn (q11_needNumber n_a 0 60) σ
  (Option.bind (q11_lookAhead σ n_a) fun x3_ =>
  Option.bind (q5_hold x3_ 54 32) fun x5_ =>
  Option.bind (q5_winnerBy x5_ (x5_ 54 13)) fun x7_ =>
  some (.inr x7_.1, x7_.2))
abbrev rm11_next : Room := { frames := 7, cells := 1, slots := 6, locals := 165 }
set_option maxHeartbeats 4000000 in
set_option maxRecDepth 100000 in
theorem p11_next {Θ : Tz} {σ : St} {ω : Om} (C : Zc Θ cX11_next 2 RX11 (some .int) rm11_next) (hkd : Θ.2.2.2.2.1 = kdC) (hlt : Θ.1.2.1.stackTraces = false) (het : ∀ x ∈ Θ.2.2.1.2.exceptionTable.toList, False) {n_a : Int32} {r : (Sum Nat Int32 × St)} (hf : q11_next σ n_a = some r) (hω : ω = om (fun v => some (.int v)) r) : Z Θ 2 0 0 (zQX Θ ω 1 6) σ 0 [(0, .ref (zA Θ 0)), (1, .int n_a)] [] := by
  unfold q11_next at hf
  refine z_iload_n C 1 dX11_next_0 rfl rfl ?_
  refine z_iconst (v := 0) C dX11_next_1 ic_0 ?_
  refine z_bipush (v := 60) C dX11_next_2 bp_60 ?_
  refine zx_callS C het [.int n_a, .int 0, .int 60] (q11_needNumber n_a 0 60) 1 6 3 (c11_needNumber (n_a := n_a) (least_a := 0) (most_a := 60) hkd (zc_inj C) hlt) w_6_83 w_6_81 w_6_82 w_1_1 ⟨rfl, rfl, (Nat.le_of_ble_eq_true rfl), (Nat.le_of_ble_eq_true rfl)⟩ (by decide +kernel) rfl rfl (Nat.le_of_ble_eq_true rfl) ⟨(Nat.le_of_ble_eq_true rfl), (Nat.le_of_ble_eq_true rfl)⟩ dX11_next_4 ⟨(Nat.le_of_ble_eq_true rfl), (Nat.le_of_ble_eq_true rfl)⟩ (fun e9 h2_ => by rw [h2_] at hf; cases hf; exact hω) (fun h1_ => ?_)
  rw [h1_] at hf
  replace hf := thn_x hf
  refine z_aload_n C 0 dX11_next_7 rfl rfl ?_
  refine z_iload_n C 1 dX11_next_8 rfl rfl ?_
  obtain ⟨x3_, h4_, hf⟩ := ob hf
  refine cr11_292 (n_a := n_a) C hkd  h4_ ⟨(Nat.le_of_ble_eq_true rfl), (Nat.le_of_ble_eq_true rfl)⟩ (Nat.le_of_ble_eq_true rfl) ⟨(Nat.le_of_ble_eq_true rfl), (Nat.le_of_ble_eq_true rfl)⟩ dX11_next_9 ?_
  refine z_aload_n C 0 dX11_next_12 rfl rfl ?_
  refine fg11_61 C hkd dX11_next_13 ?_
  refine z_aload_n C 0 dX11_next_16 rfl rfl ?_
  refine fg11_23 C hkd dX11_next_17 ?_
  refine z_aload_n C 0 dX11_next_20 rfl rfl ?_
  refine fg11_29 C hkd dX11_next_21 ?_
  obtain ⟨x5_, h6_, hf⟩ := ob hf
  refine cr11_295 (village_a := 54) (law_a := 32) C hkd isV_54 isLaw_32 h6_ ⟨(Nat.le_of_ble_eq_true rfl), (Nat.le_of_ble_eq_true rfl)⟩ (Nat.le_of_ble_eq_true rfl) ⟨(Nat.le_of_ble_eq_true rfl), (Nat.le_of_ble_eq_true rfl)⟩ dX11_next_24 ?_
  refine z_aload_n C 0 dX11_next_27 rfl rfl ?_
  refine fg11_61 C hkd dX11_next_28 ?_
  refine z_aload_n C 0 dX11_next_31 rfl rfl ?_
  refine fg11_23 C hkd dX11_next_32 ?_
  refine fg11_269 C hkd isV_54 dX11_next_35 ?_
  obtain ⟨x7_, h8_, hf⟩ := ob hf
  refine cr11_279 (way_a := (x5_ 54 13)) C hkd  h8_ ⟨(Nat.le_of_ble_eq_true rfl), (Nat.le_of_ble_eq_true rfl)⟩ (Nat.le_of_ble_eq_true rfl) ⟨(Nat.le_of_ble_eq_true rfl), (Nat.le_of_ble_eq_true rfl)⟩ dX11_next_38 ?_
  cases hf
  subst hω
  exact zx_iret C ⟨(Nat.le_of_ble_eq_true rfl), (Nat.le_of_ble_eq_true rfl)⟩ dX11_next_41
theorem c11_next {l : Launch} {kd : List KD} {w : Wp} {σ : St} {n_a : Int32} (hkd : kd = kdC) (hi : zI kd w) (hlt : l.stackTraces = false) {r : (Sum Nat Int32 × St)} (hf : q11_next σ n_a = some r) : zX l kd w yX11_next cX11_next 2 (some .int) rm11_next [.ref (w.2.2.1 0), .int n_a] σ (om (fun v => some (.int v)) r) 1 6 := zX_of rfl hi (Nat.le_of_ble_eq_true rfl) (fun Θ hl hw C het => by
  obtain ⟨Θ1, Θ2, Θ3, Θ4, Θ5⟩ := Θ
  cases hw
  cases hl
  exact p11_next C hkd hlt het  hf rfl)
/-! LastLoaf.woo -/
theorem dX11_woo_0 : decode cX11_woo 0 = .ok (.aload_n 0, 1) := by decide +kernel
theorem dX11_woo_1 : decode cX11_woo 1 = .ok (.iload_n 1, 1) := by decide +kernel
theorem dX11_woo_2 : decode cX11_woo 2 = .ok (.invokevirtual 151, 3) := by decide +kernel
theorem dX11_woo_5 : decode cX11_woo 5 = .ok (.aload_n 0, 1) := by decide +kernel
theorem dX11_woo_6 : decode cX11_woo 6 = .ok (.invokevirtual 180, 3) := by decide +kernel
theorem dX11_woo_9 : decode cX11_woo 9 = .ok (.iload_n 1, 1) := by decide +kernel
theorem dX11_woo_10 : decode cX11_woo 10 = .ok (.invokevirtual 299, 3) := by decide +kernel
theorem dX11_woo_13 : decode cX11_woo 13 = .ok (.ireturn, 1) := by decide +kernel
def q11_woo (σ : St) (person_a : Int32) : Option (Sum Nat Int32 × St) :=
  thn (q11_needPerson σ person_a) σ
  (Option.bind (q11_pollNow σ) fun x3_ =>
  Option.bind (q5_wonOver x3_.2 person_a) fun x5_ =>
  some (.inr x5_.1, x5_.2))
abbrev rm11_woo : Room := { frames := 7, cells := 1, slots := 6, locals := 116 }
set_option maxHeartbeats 4000000 in
set_option maxRecDepth 100000 in
theorem p11_woo {Θ : Tz} {σ : St} {ω : Om} (C : Zc Θ cX11_woo 2 RX11 (some .int) rm11_woo) (hkd : Θ.2.2.2.2.1 = kdC) (hlt : Θ.1.2.1.stackTraces = false) (het : ∀ x ∈ Θ.2.2.1.2.exceptionTable.toList, False) {person_a : Int32} {r : (Sum Nat Int32 × St)} (hf : q11_woo σ person_a = some r) (hω : ω = om (fun v => some (.int v)) r) : Z Θ 2 0 0 (zQX Θ ω 1 6) σ 0 [(0, .ref (zA Θ 0)), (1, .int person_a)] [] := by
  unfold q11_woo at hf
  refine z_aload_n C 0 dX11_woo_0 rfl rfl ?_
  refine z_iload_n C 1 dX11_woo_1 rfl rfl ?_
  refine zx_callV C het 0 [.int person_a] (q11_needPerson σ person_a) 1 6 1 (kC_0 hkd) rfl (c11_needPerson (person_a := person_a) hkd (zc_inj C) hlt) w_5_227 w_5_224 w_5_226 ws_LastLoaf_needPerson_I_V w_1_1 ⟨rfl, rfl, (Nat.le_of_ble_eq_true rfl), (Nat.le_of_ble_eq_true rfl)⟩ (by decide +kernel) rfl rfl (Nat.le_of_ble_eq_true rfl) ⟨(Nat.le_of_ble_eq_true rfl), (Nat.le_of_ble_eq_true rfl)⟩ dX11_woo_2 ⟨(Nat.le_of_ble_eq_true rfl), (Nat.le_of_ble_eq_true rfl)⟩ (fun e9 h2_ => by rw [h2_] at hf; cases hf; exact hω) (fun h1_ => ?_)
  rw [h1_] at hf
  replace hf := thn_x hf
  refine z_aload_n C 0 dX11_woo_5 rfl rfl ?_
  obtain ⟨x3_, h4_, hf⟩ := ob hf
  refine cr11_180 C hkd  h4_ ⟨(Nat.le_of_ble_eq_true rfl), (Nat.le_of_ble_eq_true rfl)⟩ (Nat.le_of_ble_eq_true rfl) ⟨(Nat.le_of_ble_eq_true rfl), (Nat.le_of_ble_eq_true rfl)⟩ dX11_woo_6 ?_
  rw [rp11_pollNow h4_]
  refine z_iload_n C 1 dX11_woo_9 rfl rfl ?_
  obtain ⟨x5_, h6_, hf⟩ := ob hf
  refine cr11_299 (person_a := person_a) C hkd  h6_ ⟨(Nat.le_of_ble_eq_true rfl), (Nat.le_of_ble_eq_true rfl)⟩ (Nat.le_of_ble_eq_true rfl) ⟨(Nat.le_of_ble_eq_true rfl), (Nat.le_of_ble_eq_true rfl)⟩ dX11_woo_10 ?_
  cases hf
  subst hω
  exact zx_iret C ⟨(Nat.le_of_ble_eq_true rfl), (Nat.le_of_ble_eq_true rfl)⟩ dX11_woo_13
theorem c11_woo {l : Launch} {kd : List KD} {w : Wp} {σ : St} {person_a : Int32} (hkd : kd = kdC) (hi : zI kd w) (hlt : l.stackTraces = false) {r : (Sum Nat Int32 × St)} (hf : q11_woo σ person_a = some r) : zX l kd w yX11_woo cX11_woo 2 (some .int) rm11_woo [.ref (w.2.2.1 0), .int person_a] σ (om (fun v => some (.int v)) r) 1 6 := zX_of rfl hi (Nat.le_of_ble_eq_true rfl) (fun Θ hl hw C het => by
  obtain ⟨Θ1, Θ2, Θ3, Θ4, Θ5⟩ := Θ
  cases hw
  cases hl
  exact p11_woo C hkd hlt het  hf rfl)
/-! LastLoaf$Poll.holderAfter -/
theorem w_2_45 : Cond.fieldLink "LastLoaf$Poll" (24 : Nat) "LastLoaf$Poll" "beaten" "[I" ∈ TB := tb_in (lwt_2 (List.mem_of_getElem? (i := 45) (by decide +kernel))) rfl
theorem fg5_24 {Θ : Tz} {cc : ByteArray} {nL kc ks : Nat} {ret : Option FieldType} {rm : Room} {Q : State → Prop} {σ : St} {pc : Nat} {lv : List (Nat × Value)} {st : List Value} (C : Zc Θ cc nL RX5 ret rm) (hkd : Θ.2.2.2.2.1 = kdC) (hd : decode cc pc = .ok (.getfield 24, 3)) (kk : Z Θ nL kc ks Q σ (pc + 3) lv (.ref (zA Θ 11) :: st)) : Z Θ nL kc ks Q σ pc lv (.ref (zA Θ 6) :: st) := z_get C inT5 6 (kC_6 hkd) rfl 4 (by decide) w_2_45 rfl hd kk
theorem dX5_holderAfter_0 : decode cX5_holderAfter 0 = .ok (.iload_n 1, 1) := by decide +kernel
theorem dX5_holderAfter_1 : decode cX5_holderAfter 1 = .ok (.iconst (-1), 1) := by decide +kernel
theorem dX5_holderAfter_2 : decode cX5_holderAfter 2 = .ok (.if_icmp .eq 16, 3) := by decide +kernel
theorem dX5_holderAfter_5 : decode cX5_holderAfter 5 = .ok (.aload_n 0, 1) := by decide +kernel
theorem dX5_holderAfter_6 : decode cX5_holderAfter 6 = .ok (.getfield 24, 3) := by decide +kernel
theorem dX5_holderAfter_9 : decode cX5_holderAfter 9 = .ok (.iload_n 2, 1) := by decide +kernel
theorem dX5_holderAfter_10 : decode cX5_holderAfter 10 = .ok (.iaload, 1) := by decide +kernel
theorem dX5_holderAfter_11 : decode cX5_holderAfter 11 = .ok (.iload_n 1, 1) := by decide +kernel
theorem dX5_holderAfter_12 : decode cX5_holderAfter 12 = .ok (.invokestatic 58, 3) := by decide +kernel
theorem dX5_holderAfter_15 : decode cX5_holderAfter 15 = .ok (.ifCond .eq 7, 3) := by decide +kernel
theorem dX5_holderAfter_18 : decode cX5_holderAfter 18 = .ok (.iload_n 2, 1) := by decide +kernel
theorem dX5_holderAfter_19 : decode cX5_holderAfter 19 = .ok (.goto 4, 3) := by decide +kernel
theorem dX5_holderAfter_22 : decode cX5_holderAfter 22 = .ok (.iload_n 1, 1) := by decide +kernel
theorem dX5_holderAfter_23 : decode cX5_holderAfter 23 = .ok (.ireturn, 1) := by decide +kernel
def q5_holderAfter (σ : St) (holder_a : Int32) (coming_a : Int32) : Option Int32 :=
  Option.bind (Option.bind (if holder_a = (-1) then (some true) else (Option.bind (ag σ 11 6 coming_a) fun x9_ =>
  if q11_isIn x9_ holder_a = true then (some true) else (some false))) fun t6_ =>
  if t6_ = true then (some coming_a) else (some holder_a)) fun x1_ =>
  some x1_
abbrev rm5_holderAfter : Room := { frames := 1, cells := 0, slots := 0, locals := 21 }
set_option maxHeartbeats 4000000 in
set_option maxRecDepth 100000 in
theorem p5_holderAfter {Θ : Tz} {σ : St} {ρ : Option Value × St} (C : Zc Θ cX5_holderAfter 3 RX5 (some .int) rm5_holderAfter) (hkd : Θ.2.2.2.2.1 = kdC) {holder_a : Int32} {coming_a : Int32} {r : Int32} (hf : q5_holderAfter σ holder_a coming_a = some r) (hρ : ρ = (some (.int r), σ)) : Z Θ 3 0 0 (zQ Θ ρ) σ 0 [(0, .ref (zA Θ 6)), (1, .int holder_a), (2, .int coming_a)] [] := by
  unfold q5_holderAfter at hf
  obtain ⟨x1_, h2_, hf⟩ := ob hf
  suffices K3_ : Z Θ 3 0 0 (zQ Θ ρ) σ 23 [(0, .ref (zA Θ 6)), (1, .int holder_a), (2, .int coming_a)] [.int x1_] by
    obtain ⟨t6_, h7_, h2_⟩ := ob h2_
    have K4_ : t6_ = true → Z Θ 3 0 0 (zQ Θ ρ) σ 18 [(0, .ref (zA Θ 6)), (1, .int holder_a), (2, .int coming_a)] [] := by
      intro h12_
      rw [if_pos h12_] at h2_
      refine z_iload_n C 2 dX5_holderAfter_18 rfl rfl ?_
      refine z_goto C 23 dX5_holderAfter_19 (by decide) ?_
      cases h2_
      exact K3_
    have K5_ : ¬ (t6_ = true) → Z Θ 3 0 0 (zQ Θ ρ) σ 22 [(0, .ref (zA Θ 6)), (1, .int holder_a), (2, .int coming_a)] [] := by
      intro h12_
      rw [if_neg h12_] at h2_
      refine z_iload_n C 1 dX5_holderAfter_22 rfl rfl ?_
      cases h2_
      exact K3_
    refine z_iload_n C 1 dX5_holderAfter_0 rfl rfl ?_
    refine z_iconst (v := (-1)) C dX5_holderAfter_1 ic_m1 ?_
    refine c_eq_t C 18 dX5_holderAfter_2 (by decide) (fun h8_ => ?_) (fun h8_ => ?_)
    · rw [if_pos h8_] at h7_
      cases h7_
      exact K4_ rfl
    · rw [if_neg h8_] at h7_
      refine z_aload_n C 0 dX5_holderAfter_5 rfl rfl ?_
      refine fg5_24 C hkd dX5_holderAfter_6 ?_
      refine z_iload_n C 2 dX5_holderAfter_9 rfl rfl ?_
      obtain ⟨x9_, h10_, h7_⟩ := ob h7_
      refine z_ag C h10_ (kC_11 hkd) dX5_holderAfter_10 ?_
      refine z_iload_n C 1 dX5_holderAfter_11 rfl rfl ?_
      refine cr5_58 (set_a := x9_) (person_a := holder_a) C hkd  ⟨(Nat.le_of_ble_eq_true rfl), (Nat.le_of_ble_eq_true rfl)⟩ (Nat.le_of_ble_eq_true rfl) ⟨Nat.zero_le _, Nat.zero_le _⟩ dX5_holderAfter_12 ?_
      refine cb_f C 22 dX5_holderAfter_15 (by decide) (fun h11_ => ?_) (fun h11_ => ?_)
      · rw [if_pos h11_] at h7_
        cases h7_
        exact K4_ rfl
      · rw [if_neg h11_] at h7_
        cases h7_
        exact K5_ Bool.false_ne_true
  cases hf
  subst hρ
  exact z_iret C dX5_holderAfter_23
theorem c5_holderAfter {l : Launch} {kd : List KD} {w : Wp} {σ : St} {holder_a : Int32} {coming_a : Int32} (hkd : kd = kdC) (hi : zI kd w) {r : Int32} (hf : q5_holderAfter σ holder_a coming_a = some r) : zM l kd w yX5_holderAfter cX5_holderAfter 3 (some .int) rm5_holderAfter [.ref (w.2.2.1 6), .int holder_a, .int coming_a] σ (some (.int r), σ) := zM_of rfl hi (Nat.le_of_ble_eq_true rfl) (fun Θ hl hw C => by
  obtain ⟨Θ1, Θ2, Θ3, Θ4, Θ5⟩ := Θ
  cases hw
  exact p5_holderAfter C hkd  hf rfl)
/-! LastLoaf$Poll.endsWith -/
theorem w_2_46 : Cond.fieldLink "LastLoaf$Poll" (27 : Nat) "LastLoaf$Poll" "ends" "[I" ∈ TB := tb_in (lwt_2 (List.mem_of_getElem? (i := 46) (by decide +kernel))) rfl
theorem fg5_27 {Θ : Tz} {cc : ByteArray} {nL kc ks : Nat} {ret : Option FieldType} {rm : Room} {Q : State → Prop} {σ : St} {pc : Nat} {lv : List (Nat × Value)} {st : List Value} (C : Zc Θ cc nL RX5 ret rm) (hkd : Θ.2.2.2.2.1 = kdC) (hd : decode cc pc = .ok (.getfield 27, 3)) (kk : Z Θ nL kc ks Q σ (pc + 3) lv (.ref (zA Θ 12) :: st)) : Z Θ nL kc ks Q σ pc lv (.ref (zA Θ 6) :: st) := z_get C inT5 6 (kC_6 hkd) rfl 5 (by decide) w_2_46 rfl hd kk
theorem w_3_100 : Cond.code ({ cls := "LastLoaf$Poll", name := "holderAfter", desc := "(II)I" } : MethodName) prog_7_method_21_code (3 : Nat) (Option.some ClassFile.FieldType.int) ∈ TB := tb_in (lwt_3 (List.mem_of_getElem? (i := 100) (by decide +kernel))) rfl
theorem w_3_97 : Cond.methodLink "LastLoaf$Poll" (137 : Nat) ({ cls := "LastLoaf$Poll", name := "holderAfter", desc := "(II)I" } : MethodName) ∈ TB := tb_in (lwt_3 (List.mem_of_getElem? (i := 97) (by decide +kernel))) rfl
theorem w_3_98 : Cond.instanceMethod ({ cls := "LastLoaf$Poll", name := "holderAfter", desc := "(II)I" } : MethodName) ∈ TB := tb_in (lwt_3 (List.mem_of_getElem? (i := 98) (by decide +kernel))) rfl
theorem w_3_99 : Cond.selects "LastLoaf$Poll" ({ cls := "LastLoaf$Poll", name := "holderAfter", desc := "(II)I" } : MethodName) ({ cls := "LastLoaf$Poll", name := "holderAfter", desc := "(II)I" } : MethodName) ∈ TB := tb_in (lwt_3 (List.mem_of_getElem? (i := 99) (by decide +kernel))) rfl
theorem cr5_137 {Θ : Tz} {cc : ByteArray} {nL kc ks : Nat} {ret : Option FieldType} {rm : Room} {Q : State → Prop} {σ : St} {pc : Nat} {lv : List (Nat × Value)} {st : List Value} (C : Zc Θ cc nL RX5 ret rm) (hkd : Θ.2.2.2.2.1 = kdC) {holder_a : Int32} {coming_a : Int32} {r : Int32} (hx : q5_holderAfter σ holder_a coming_a = some r) (hrm : rm5_holderAfter.frames + 1 ≤ rm.frames ∧ 8 + (3 + 11) + rm5_holderAfter.locals ≤ rm.locals) (hcat : (st.map fun v => v.category).sum ≤ 8) (hk : kc ≤ rm.cells ∧ ks ≤ rm.slots) (hd : decode cc pc = .ok (.invokevirtual 137, 3)) (kk : Z Θ nL kc ks Q σ (pc + 3) lv (.int r :: st)) : Z Θ nL kc ks Q σ pc lv (.int coming_a :: .int holder_a :: .ref (zA Θ 6) :: st) := z_callV C 6 [.int holder_a, .int coming_a] (some (.int r), σ) 2 (kC_6 hkd) rfl (c5_holderAfter (holder_a := holder_a) (coming_a := coming_a) hkd (zc_inj C) hx) w_3_100 w_3_97 w_3_98 w_3_99 w_1_9 ⟨rfl, rfl, hrm.1, hrm.2⟩ (by decide +kernel) rfl rfl hcat hk hd kk
theorem dX5_endsWith_0 : decode cX5_endsWith 0 = .ok (.aload_n 0, 1) := by decide +kernel
theorem dX5_endsWith_1 : decode cX5_endsWith 1 = .ok (.getfield 27, 3) := by decide +kernel
theorem dX5_endsWith_4 : decode cX5_endsWith 4 = .ok (.iload_n 1, 1) := by decide +kernel
theorem dX5_endsWith_5 : decode cX5_endsWith 5 = .ok (.iconst 1, 1) := by decide +kernel
theorem dX5_endsWith_6 : decode cX5_endsWith 6 = .ok (.iload_n 3, 1) := by decide +kernel
theorem dX5_endsWith_7 : decode cX5_endsWith 7 = .ok (.ishl, 1) := by decide +kernel
theorem dX5_endsWith_8 : decode cX5_endsWith 8 = .ok (.ior, 1) := by decide +kernel
theorem dX5_endsWith_9 : decode cX5_endsWith 9 = .ok (.bipush 6, 2) := by decide +kernel
theorem dX5_endsWith_11 : decode cX5_endsWith 11 = .ok (.imul, 1) := by decide +kernel
theorem dX5_endsWith_12 : decode cX5_endsWith 12 = .ok (.aload_n 0, 1) := by decide +kernel
theorem dX5_endsWith_13 : decode cX5_endsWith 13 = .ok (.iload_n 2, 1) := by decide +kernel
theorem dX5_endsWith_14 : decode cX5_endsWith 14 = .ok (.iload_n 3, 1) := by decide +kernel
theorem dX5_endsWith_15 : decode cX5_endsWith 15 = .ok (.invokevirtual 137, 3) := by decide +kernel
theorem dX5_endsWith_18 : decode cX5_endsWith 18 = .ok (.iadd, 1) := by decide +kernel
theorem dX5_endsWith_19 : decode cX5_endsWith 19 = .ok (.iaload, 1) := by decide +kernel
theorem dX5_endsWith_20 : decode cX5_endsWith 20 = .ok (.ireturn, 1) := by decide +kernel
def q5_endsWith (σ : St) (met_a : Int32) (holder_a : Int32) (coming_a : Int32) : Option Int32 :=
  Option.bind (q5_holderAfter σ holder_a coming_a) fun x1_ =>
  Option.bind (ag σ 12 384 (((met_a ||| (shl 1 coming_a)) * 6) + x1_)) fun x3_ =>
  some x3_
abbrev rm5_endsWith : Room := { frames := 2, cells := 0, slots := 0, locals := 43 }
set_option maxHeartbeats 4000000 in
set_option maxRecDepth 100000 in
theorem p5_endsWith {Θ : Tz} {σ : St} {ρ : Option Value × St} (C : Zc Θ cX5_endsWith 4 RX5 (some .int) rm5_endsWith) (hkd : Θ.2.2.2.2.1 = kdC) {met_a : Int32} {holder_a : Int32} {coming_a : Int32} {r : Int32} (hf : q5_endsWith σ met_a holder_a coming_a = some r) (hρ : ρ = (some (.int r), σ)) : Z Θ 4 0 0 (zQ Θ ρ) σ 0 [(0, .ref (zA Θ 6)), (1, .int met_a), (2, .int holder_a), (3, .int coming_a)] [] := by
  unfold q5_endsWith at hf
  refine z_aload_n C 0 dX5_endsWith_0 rfl rfl ?_
  refine fg5_27 C hkd dX5_endsWith_1 ?_
  refine z_iload_n C 1 dX5_endsWith_4 rfl rfl ?_
  refine z_iconst (v := 1) C dX5_endsWith_5 ic_1 ?_
  refine z_iload_n C 3 dX5_endsWith_6 rfl rfl ?_
  refine z_shl C dX5_endsWith_7 ?_
  refine z_ior C dX5_endsWith_8 ?_
  refine z_bipush (v := 6) C dX5_endsWith_9 bp_6 ?_
  refine z_imul C dX5_endsWith_11 ?_
  refine z_aload_n C 0 dX5_endsWith_12 rfl rfl ?_
  refine z_iload_n C 2 dX5_endsWith_13 rfl rfl ?_
  refine z_iload_n C 3 dX5_endsWith_14 rfl rfl ?_
  obtain ⟨x1_, h2_, hf⟩ := ob hf
  refine cr5_137 (holder_a := holder_a) (coming_a := coming_a) C hkd  h2_ ⟨(Nat.le_of_ble_eq_true rfl), (Nat.le_of_ble_eq_true rfl)⟩ (Nat.le_of_ble_eq_true rfl) ⟨Nat.zero_le _, Nat.zero_le _⟩ dX5_endsWith_15 ?_
  refine z_iadd C dX5_endsWith_18 ?_
  obtain ⟨x3_, h4_, hf⟩ := ob hf
  refine z_ag C h4_ (kC_12 hkd) dX5_endsWith_19 ?_
  cases hf
  subst hρ
  exact z_iret C dX5_endsWith_20
theorem c5_endsWith {l : Launch} {kd : List KD} {w : Wp} {σ : St} {met_a : Int32} {holder_a : Int32} {coming_a : Int32} (hkd : kd = kdC) (hi : zI kd w) {r : Int32} (hf : q5_endsWith σ met_a holder_a coming_a = some r) : zM l kd w yX5_endsWith cX5_endsWith 4 (some .int) rm5_endsWith [.ref (w.2.2.1 6), .int met_a, .int holder_a, .int coming_a] σ (some (.int r), σ) := zM_of rfl hi (Nat.le_of_ble_eq_true rfl) (fun Θ hl hw C => by
  obtain ⟨Θ1, Θ2, Θ3, Θ4, Θ5⟩ := Θ
  cases hw
  exact p5_endsWith C hkd  hf rfl)
/-! LastLoaf$Poll.endsOf -/
theorem w_3_96 : Cond.code ({ cls := "LastLoaf$Poll", name := "endsWith", desc := "(III)I" } : MethodName) prog_7_method_20_code (4 : Nat) (Option.some ClassFile.FieldType.int) ∈ TB := tb_in (lwt_3 (List.mem_of_getElem? (i := 96) (by decide +kernel))) rfl
theorem w_3_93 : Cond.methodLink "LastLoaf$Poll" (133 : Nat) ({ cls := "LastLoaf$Poll", name := "endsWith", desc := "(III)I" } : MethodName) ∈ TB := tb_in (lwt_3 (List.mem_of_getElem? (i := 93) (by decide +kernel))) rfl
theorem w_3_94 : Cond.instanceMethod ({ cls := "LastLoaf$Poll", name := "endsWith", desc := "(III)I" } : MethodName) ∈ TB := tb_in (lwt_3 (List.mem_of_getElem? (i := 94) (by decide +kernel))) rfl
theorem w_3_95 : Cond.selects "LastLoaf$Poll" ({ cls := "LastLoaf$Poll", name := "endsWith", desc := "(III)I" } : MethodName) ({ cls := "LastLoaf$Poll", name := "endsWith", desc := "(III)I" } : MethodName) ∈ TB := tb_in (lwt_3 (List.mem_of_getElem? (i := 95) (by decide +kernel))) rfl
theorem cr5_133 {Θ : Tz} {cc : ByteArray} {nL kc ks : Nat} {ret : Option FieldType} {rm : Room} {Q : State → Prop} {σ : St} {pc : Nat} {lv : List (Nat × Value)} {st : List Value} (C : Zc Θ cc nL RX5 ret rm) (hkd : Θ.2.2.2.2.1 = kdC) {met_a : Int32} {holder_a : Int32} {coming_a : Int32} {r : Int32} (hx : q5_endsWith σ met_a holder_a coming_a = some r) (hrm : rm5_endsWith.frames + 1 ≤ rm.frames ∧ 8 + (4 + 11) + rm5_endsWith.locals ≤ rm.locals) (hcat : (st.map fun v => v.category).sum ≤ 8) (hk : kc ≤ rm.cells ∧ ks ≤ rm.slots) (hd : decode cc pc = .ok (.invokevirtual 133, 3)) (kk : Z Θ nL kc ks Q σ (pc + 3) lv (.int r :: st)) : Z Θ nL kc ks Q σ pc lv (.int coming_a :: .int holder_a :: .int met_a :: .ref (zA Θ 6) :: st) := z_callV C 6 [.int met_a, .int holder_a, .int coming_a] (some (.int r), σ) 3 (kC_6 hkd) rfl (c5_endsWith (met_a := met_a) (holder_a := holder_a) (coming_a := coming_a) hkd (zc_inj C) hx) w_3_96 w_3_93 w_3_94 w_3_95 w_1_9 ⟨rfl, rfl, hrm.1, hrm.2⟩ (by decide +kernel) rfl rfl hcat hk hd kk
theorem dX5_endsOf_0 : decode cX5_endsOf 0 = .ok (.iload_n 1, 1) := by decide +kernel
theorem dX5_endsOf_1 : decode cX5_endsOf 1 = .ok (.aload_n 0, 1) := by decide +kernel
theorem dX5_endsOf_2 : decode cX5_endsOf 2 = .ok (.getfield 34, 3) := by decide +kernel
theorem dX5_endsOf_5 : decode cX5_endsOf 5 = .ok (.iconst (-1), 1) := by decide +kernel
theorem dX5_endsOf_6 : decode cX5_endsOf 6 = .ok (.ixor, 1) := by decide +kernel
theorem dX5_endsOf_7 : decode cX5_endsOf 7 = .ok (.iand, 1) := by decide +kernel
theorem dX5_endsOf_8 : decode cX5_endsOf 8 = .ok (.ifCond .ne 11, 3) := by decide +kernel
theorem dX5_endsOf_11 : decode cX5_endsOf 11 = .ok (.iload_n 1, 1) := by decide +kernel
theorem dX5_endsOf_12 : decode cX5_endsOf 12 = .ok (.iload_n 2, 1) := by decide +kernel
theorem dX5_endsOf_13 : decode cX5_endsOf 13 = .ok (.invokestatic 58, 3) := by decide +kernel
theorem dX5_endsOf_16 : decode cX5_endsOf 16 = .ok (.ifCond .ne 5, 3) := by decide +kernel
theorem dX5_endsOf_19 : decode cX5_endsOf 19 = .ok (.iconst 0, 1) := by decide +kernel
theorem dX5_endsOf_20 : decode cX5_endsOf 20 = .ok (.ireturn, 1) := by decide +kernel
theorem dX5_endsOf_21 : decode cX5_endsOf 21 = .ok (.iload_n 1, 1) := by decide +kernel
theorem dX5_endsOf_22 : decode cX5_endsOf 22 = .ok (.aload_n 0, 1) := by decide +kernel
theorem dX5_endsOf_23 : decode cX5_endsOf 23 = .ok (.getfield 34, 3) := by decide +kernel
theorem dX5_endsOf_26 : decode cX5_endsOf 26 = .ok (.if_icmp .ne 7, 3) := by decide +kernel
theorem dX5_endsOf_29 : decode cX5_endsOf 29 = .ok (.iconst 1, 1) := by decide +kernel
theorem dX5_endsOf_30 : decode cX5_endsOf 30 = .ok (.iload_n 2, 1) := by decide +kernel
theorem dX5_endsOf_31 : decode cX5_endsOf 31 = .ok (.ishl, 1) := by decide +kernel
theorem dX5_endsOf_32 : decode cX5_endsOf 32 = .ok (.ireturn, 1) := by decide +kernel
theorem dX5_endsOf_33 : decode cX5_endsOf 33 = .ok (.iconst 0, 1) := by decide +kernel
theorem dX5_endsOf_34 : decode cX5_endsOf 34 = .ok (.istore_n 3, 1) := by decide +kernel
theorem dX5_endsOf_35 : decode cX5_endsOf 35 = .ok (.iconst 0, 1) := by decide +kernel
theorem dX5_endsOf_36 : decode cX5_endsOf 36 = .ok (.istore 4, 2) := by decide +kernel
theorem dX5_endsOf_38 : decode cX5_endsOf 38 = .ok (.iload 4, 2) := by decide +kernel
theorem dX5_endsOf_40 : decode cX5_endsOf 40 = .ok (.aload_n 0, 1) := by decide +kernel
theorem dX5_endsOf_41 : decode cX5_endsOf 41 = .ok (.getfield 30, 3) := by decide +kernel
theorem dX5_endsOf_44 : decode cX5_endsOf 44 = .ok (.if_icmp .ge 36, 3) := by decide +kernel
theorem dX5_endsOf_47 : decode cX5_endsOf 47 = .ok (.aload_n 0, 1) := by decide +kernel
theorem dX5_endsOf_48 : decode cX5_endsOf 48 = .ok (.getfield 34, 3) := by decide +kernel
theorem dX5_endsOf_51 : decode cX5_endsOf 51 = .ok (.iload_n 1, 1) := by decide +kernel
theorem dX5_endsOf_52 : decode cX5_endsOf 52 = .ok (.iconst (-1), 1) := by decide +kernel
theorem dX5_endsOf_53 : decode cX5_endsOf 53 = .ok (.ixor, 1) := by decide +kernel
theorem dX5_endsOf_54 : decode cX5_endsOf 54 = .ok (.iand, 1) := by decide +kernel
theorem dX5_endsOf_55 : decode cX5_endsOf 55 = .ok (.iload 4, 2) := by decide +kernel
theorem dX5_endsOf_57 : decode cX5_endsOf 57 = .ok (.invokestatic 58, 3) := by decide +kernel
theorem dX5_endsOf_60 : decode cX5_endsOf 60 = .ok (.ifCond .eq 14, 3) := by decide +kernel
theorem dX5_endsOf_63 : decode cX5_endsOf 63 = .ok (.iload_n 3, 1) := by decide +kernel
theorem dX5_endsOf_64 : decode cX5_endsOf 64 = .ok (.aload_n 0, 1) := by decide +kernel
theorem dX5_endsOf_65 : decode cX5_endsOf 65 = .ok (.iload_n 1, 1) := by decide +kernel
theorem dX5_endsOf_66 : decode cX5_endsOf 66 = .ok (.iload_n 2, 1) := by decide +kernel
theorem dX5_endsOf_67 : decode cX5_endsOf 67 = .ok (.iload 4, 2) := by decide +kernel
theorem dX5_endsOf_69 : decode cX5_endsOf 69 = .ok (.invokevirtual 133, 3) := by decide +kernel
theorem dX5_endsOf_72 : decode cX5_endsOf 72 = .ok (.ior, 1) := by decide +kernel
theorem dX5_endsOf_73 : decode cX5_endsOf 73 = .ok (.istore_n 3, 1) := by decide +kernel
theorem dX5_endsOf_74 : decode cX5_endsOf 74 = .ok (.iinc 4 1, 3) := by decide +kernel
theorem dX5_endsOf_77 : decode cX5_endsOf 77 = .ok (.goto (-39), 3) := by decide +kernel
theorem dX5_endsOf_80 : decode cX5_endsOf 80 = .ok (.iload_n 3, 1) := by decide +kernel
theorem dX5_endsOf_81 : decode cX5_endsOf 81 = .ok (.ireturn, 1) := by decide +kernel
def q5_endsOf (σ : St) (met_a : Int32) (holder_a : Int32) : Option Int32 :=
  if (¬ (met_a &&& ((σ 6 7) ^^^ (-1))) = 0) ∨ (¬ (q11_isIn met_a holder_a = true)) then (some 0) else
  if met_a = (σ 6 7) then (some (shl 1 holder_a)) else
  Option.bind (loop2 (fun rec13_ (bits16_ : Int32) (r17_ : Int32) =>
  if r17_ < (σ 6 6) then
  Option.bind (if q11_isIn ((σ 6 7) &&& (met_a ^^^ (-1))) r17_ = true then (Option.bind (q5_endsWith σ met_a holder_a r17_) fun x31_ =>
  lt (bits16_ ||| x31_) fun bits33_ =>
  some (bits33_)) else (some (bits16_))) fun y24_ =>
  lt (r17_ + 1) fun r35_ =>
  rec13_ y24_ r35_
  else (some (bits16_, r17_))) fuelN (0 : Int32) (0 : Int32)) fun y10_ =>
  some y10_.1
abbrev rm5_endsOf : Room := { frames := 3, cells := 0, slots := 0, locals := 66 }
set_option maxHeartbeats 4000000 in
set_option maxRecDepth 100000 in
theorem p5_endsOf {Θ : Tz} {σ : St} {ρ : Option Value × St} (C : Zc Θ cX5_endsOf 5 RX5 (some .int) rm5_endsOf) (hkd : Θ.2.2.2.2.1 = kdC) {met_a : Int32} {holder_a : Int32} {r : Int32} (hf : q5_endsOf σ met_a holder_a = some r) (hρ : ρ = (some (.int r), σ)) : Z Θ 5 0 0 (zQ Θ ρ) σ 0 [(0, .ref (zA Θ 6)), (1, .int met_a), (2, .int holder_a)] [] := by
  unfold q5_endsOf at hf
  have K1_ : (¬ (met_a &&& ((σ 6 7) ^^^ (-1))) = 0) ∨ (¬ (q11_isIn met_a holder_a = true)) → Z Θ 5 0 0 (zQ Θ ρ) σ 19 [(0, .ref (zA Θ 6)), (1, .int met_a), (2, .int holder_a)] [] := by
    intro h5_
    rw [if_pos h5_] at hf
    refine z_iconst (v := 0) C dX5_endsOf_19 ic_0 ?_
    cases hf
    subst hρ
    exact z_iret C dX5_endsOf_20
  suffices K2_ : ¬ ((¬ (met_a &&& ((σ 6 7) ^^^ (-1))) = 0) ∨ (¬ (q11_isIn met_a holder_a = true))) → Z Θ 5 0 0 (zQ Θ ρ) σ 21 [(0, .ref (zA Θ 6)), (1, .int met_a), (2, .int holder_a)] [] by
    refine z_iload_n C 1 dX5_endsOf_0 rfl rfl ?_
    refine z_aload_n C 0 dX5_endsOf_1 rfl rfl ?_
    refine fg5_34 C hkd dX5_endsOf_2 ?_
    refine z_iconst (v := (-1)) C dX5_endsOf_5 ic_m1 ?_
    refine z_ixor C dX5_endsOf_6 ?_
    refine z_iand C dX5_endsOf_7 ?_
    refine c0_ne_t C 19 dX5_endsOf_8 (by decide) (fun h3_ => ?_) (fun h3_ => ?_)
    · exact K1_ (Or.inl h3_)
    · refine z_iload_n C 1 dX5_endsOf_11 rfl rfl ?_
      refine z_iload_n C 2 dX5_endsOf_12 rfl rfl ?_
      refine cr5_58 (set_a := met_a) (person_a := holder_a) C hkd  ⟨(Nat.le_of_ble_eq_true rfl), (Nat.le_of_ble_eq_true rfl)⟩ (Nat.le_of_ble_eq_true rfl) ⟨Nat.zero_le _, Nat.zero_le _⟩ dX5_endsOf_13 ?_
      refine cb_t C 21 dX5_endsOf_16 (by decide) (fun h4_ => ?_) (fun h4_ => ?_)
      · exact K2_ (fun n => n.elim h3_ (fun n => n h4_))
      · exact K1_ (Or.inr h4_)
  intro h5_
  rw [if_neg h5_] at hf
  have K6_ : met_a = (σ 6 7) → Z Θ 5 0 0 (zQ Θ ρ) σ 29 [(0, .ref (zA Θ 6)), (1, .int met_a), (2, .int holder_a)] [] := by
    intro h9_
    rw [if_pos h9_] at hf
    refine z_iconst (v := 1) C dX5_endsOf_29 ic_1 ?_
    refine z_iload_n C 2 dX5_endsOf_30 rfl rfl ?_
    refine z_shl C dX5_endsOf_31 ?_
    cases hf
    subst hρ
    exact z_iret C dX5_endsOf_32
  suffices K7_ : ¬ (met_a = (σ 6 7)) → Z Θ 5 0 0 (zQ Θ ρ) σ 33 [(0, .ref (zA Θ 6)), (1, .int met_a), (2, .int holder_a)] [] by
    refine z_iload_n C 1 dX5_endsOf_21 rfl rfl ?_
    refine z_aload_n C 0 dX5_endsOf_22 rfl rfl ?_
    refine fg5_34 C hkd dX5_endsOf_23 ?_
    refine c_eq_f C 33 dX5_endsOf_26 (by decide) (fun h8_ => ?_) (fun h8_ => ?_)
    · exact K6_ h8_
    · exact K7_ h8_
  intro h9_
  rw [if_neg h9_] at hf
  refine z_iconst (v := 0) C dX5_endsOf_33 ic_0 ?_
  refine z_istN C dX5_endsOf_34 rfl rfl (Nat.le_of_ble_eq_true rfl) rfl ?_
  refine z_iconst (v := 0) C dX5_endsOf_35 ic_0 ?_
  refine z_ist C dX5_endsOf_36 rfl (Nat.le_of_ble_eq_true rfl) rfl ?_
  refine Z.sub [2, 3, 4, 1, 0] rfl ?_
  obtain ⟨y10_, h11_, hf⟩ := ob hf
  suffices K12_ : Z Θ 5 0 0 (zQ Θ ρ) σ 80 [(0, .ref (zA Θ 6)), (1, .int met_a), (2, .int holder_a), (3, .int y10_.1), (4, .int y10_.2)] [] by
    refine loop2_Z (P := fun (bits16_ : Int32) (r17_ : Int32) => Z Θ 5 0 0 (zQ Θ ρ) σ 38 [(0, .ref (zA Θ 6)), (1, .int met_a), (2, .int holder_a), (3, .int bits16_), (4, .int r17_)] []) ?_ fuelN (0 : Int32) (0 : Int32) h11_
    clear h11_
    intro rec13_ bits16_ r17_ h14_ h15_
    have K20_ : r17_ < (σ 6 6) → Z Θ 5 0 0 (zQ Θ ρ) σ 47 [(0, .ref (zA Θ 6)), (1, .int met_a), (2, .int holder_a), (3, .int bits16_), (4, .int r17_)] [] := by
      intro h23_
      rw [if_pos h23_] at h15_
      obtain ⟨y24_, h25_, h15_⟩ := ob h15_
      suffices K26_ : Z Θ 5 0 0 (zQ Θ ρ) σ 74 [(0, .ref (zA Θ 6)), (1, .int met_a), (2, .int holder_a), (3, .int y24_), (4, .int r17_)] [] by
        have K27_ : q11_isIn ((σ 6 7) &&& (met_a ^^^ (-1))) r17_ = true → Z Θ 5 0 0 (zQ Θ ρ) σ 63 [(0, .ref (zA Θ 6)), (1, .int met_a), (2, .int holder_a), (3, .int bits16_), (4, .int r17_)] [] := by
          intro h30_
          rw [if_pos h30_] at h25_
          refine z_iload_n C 3 dX5_endsOf_63 rfl rfl ?_
          refine z_aload_n C 0 dX5_endsOf_64 rfl rfl ?_
          refine z_iload_n C 1 dX5_endsOf_65 rfl rfl ?_
          refine z_iload_n C 2 dX5_endsOf_66 rfl rfl ?_
          refine z_iload C 4 dX5_endsOf_67 rfl ?_
          obtain ⟨x31_, h32_, h25_⟩ := ob h25_
          refine cr5_133 (met_a := met_a) (holder_a := holder_a) (coming_a := r17_) C hkd  h32_ ⟨(Nat.le_of_ble_eq_true rfl), (Nat.le_of_ble_eq_true rfl)⟩ (Nat.le_of_ble_eq_true rfl) ⟨Nat.zero_le _, Nat.zero_le _⟩ dX5_endsOf_69 ?_
          refine z_ior C dX5_endsOf_72 ?_
          obtain ⟨bits33_, h34_, h25_⟩ := lt_ h25_
          refine z_istN C dX5_endsOf_73 h34_ rfl (Nat.le_of_ble_eq_true rfl) rfl ?_
          cases h25_
          refine Z.sub [1, 2, 3, 0, 4] rfl ?_
          exact K26_
        have K28_ : ¬ (q11_isIn ((σ 6 7) &&& (met_a ^^^ (-1))) r17_ = true) → Z Θ 5 0 0 (zQ Θ ρ) σ 74 [(0, .ref (zA Θ 6)), (1, .int met_a), (2, .int holder_a), (3, .int bits16_), (4, .int r17_)] [] := by
          intro h30_
          rw [if_neg h30_] at h25_
          cases h25_
          exact K26_
        refine z_aload_n C 0 dX5_endsOf_47 rfl rfl ?_
        refine fg5_34 C hkd dX5_endsOf_48 ?_
        refine z_iload_n C 1 dX5_endsOf_51 rfl rfl ?_
        refine z_iconst (v := (-1)) C dX5_endsOf_52 ic_m1 ?_
        refine z_ixor C dX5_endsOf_53 ?_
        refine z_iand C dX5_endsOf_54 ?_
        refine z_iload C 4 dX5_endsOf_55 rfl ?_
        refine cr5_58 (set_a := ((σ 6 7) &&& (met_a ^^^ (-1)))) (person_a := r17_) C hkd  ⟨(Nat.le_of_ble_eq_true rfl), (Nat.le_of_ble_eq_true rfl)⟩ (Nat.le_of_ble_eq_true rfl) ⟨Nat.zero_le _, Nat.zero_le _⟩ dX5_endsOf_57 ?_
        refine cb_f C 74 dX5_endsOf_60 (by decide) (fun h29_ => ?_) (fun h29_ => ?_)
        · exact K27_ h29_
        · exact K28_ h29_
      obtain ⟨r35_, h36_, h15_⟩ := lt_ h15_
      refine z_inc C 4 dX5_endsOf_74 rfl ic_1 h36_ (Nat.le_of_ble_eq_true rfl) rfl ?_
      refine z_goto C 38 dX5_endsOf_77 (by decide) ?_
      refine Z.sub [1, 2, 3, 4, 0] rfl ?_
      exact h14_ _ _ h15_
    have K21_ : ¬ (r17_ < (σ 6 6)) → Z Θ 5 0 0 (zQ Θ ρ) σ 80 [(0, .ref (zA Θ 6)), (1, .int met_a), (2, .int holder_a), (3, .int bits16_), (4, .int r17_)] [] := by
      intro h23_
      rw [if_neg h23_] at h15_
      cases h15_
      exact K12_
    refine z_iload C 4 dX5_endsOf_38 rfl ?_
    refine z_aload_n C 0 dX5_endsOf_40 rfl rfl ?_
    refine fg5_30 C hkd dX5_endsOf_41 ?_
    refine c_lt_f C 80 dX5_endsOf_44 (by decide) (fun h22_ => ?_) (fun h22_ => ?_)
    · exact K20_ h22_
    · exact K21_ h22_
  refine z_iload_n C 3 dX5_endsOf_80 rfl rfl ?_
  cases hf
  subst hρ
  exact z_iret C dX5_endsOf_81
theorem c5_endsOf {l : Launch} {kd : List KD} {w : Wp} {σ : St} {met_a : Int32} {holder_a : Int32} (hkd : kd = kdC) (hi : zI kd w) {r : Int32} (hf : q5_endsOf σ met_a holder_a = some r) : zM l kd w yX5_endsOf cX5_endsOf 5 (some .int) rm5_endsOf [.ref (w.2.2.1 6), .int met_a, .int holder_a] σ (some (.int r), σ) := zM_of rfl hi (Nat.le_of_ble_eq_true rfl) (fun Θ hl hw C => by
  obtain ⟨Θ1, Θ2, Θ3, Θ4, Θ5⟩ := Θ
  cases hw
  exact p5_endsOf C hkd  hf rfl)
/-! LastLoaf$Poll.meetInAllOrders -/
theorem w_3_92 : Cond.code ({ cls := "LastLoaf$Poll", name := "endsOf", desc := "(II)I" } : MethodName) prog_7_method_19_code (5 : Nat) (Option.some ClassFile.FieldType.int) ∈ TB := tb_in (lwt_3 (List.mem_of_getElem? (i := 92) (by decide +kernel))) rfl
theorem w_3_89 : Cond.methodLink "LastLoaf$Poll" (130 : Nat) ({ cls := "LastLoaf$Poll", name := "endsOf", desc := "(II)I" } : MethodName) ∈ TB := tb_in (lwt_3 (List.mem_of_getElem? (i := 89) (by decide +kernel))) rfl
theorem w_3_90 : Cond.instanceMethod ({ cls := "LastLoaf$Poll", name := "endsOf", desc := "(II)I" } : MethodName) ∈ TB := tb_in (lwt_3 (List.mem_of_getElem? (i := 90) (by decide +kernel))) rfl
theorem w_3_91 : Cond.selects "LastLoaf$Poll" ({ cls := "LastLoaf$Poll", name := "endsOf", desc := "(II)I" } : MethodName) ({ cls := "LastLoaf$Poll", name := "endsOf", desc := "(II)I" } : MethodName) ∈ TB := tb_in (lwt_3 (List.mem_of_getElem? (i := 91) (by decide +kernel))) rfl
theorem cr5_130 {Θ : Tz} {cc : ByteArray} {nL kc ks : Nat} {ret : Option FieldType} {rm : Room} {Q : State → Prop} {σ : St} {pc : Nat} {lv : List (Nat × Value)} {st : List Value} (C : Zc Θ cc nL RX5 ret rm) (hkd : Θ.2.2.2.2.1 = kdC) {met_a : Int32} {holder_a : Int32} {r : Int32} (hx : q5_endsOf σ met_a holder_a = some r) (hrm : rm5_endsOf.frames + 1 ≤ rm.frames ∧ 8 + (5 + 11) + rm5_endsOf.locals ≤ rm.locals) (hcat : (st.map fun v => v.category).sum ≤ 8) (hk : kc ≤ rm.cells ∧ ks ≤ rm.slots) (hd : decode cc pc = .ok (.invokevirtual 130, 3)) (kk : Z Θ nL kc ks Q σ (pc + 3) lv (.int r :: st)) : Z Θ nL kc ks Q σ pc lv (.int holder_a :: .int met_a :: .ref (zA Θ 6) :: st) := z_callV C 6 [.int met_a, .int holder_a] (some (.int r), σ) 2 (kC_6 hkd) rfl (c5_endsOf (met_a := met_a) (holder_a := holder_a) hkd (zc_inj C) hx) w_3_92 w_3_89 w_3_90 w_3_91 w_1_9 ⟨rfl, rfl, hrm.1, hrm.2⟩ (by decide +kernel) rfl rfl hcat hk hd kk
theorem dX5_meetInAllOrders_0 : decode cX5_meetInAllOrders 0 = .ok (.iconst 0, 1) := by decide +kernel
theorem dX5_meetInAllOrders_1 : decode cX5_meetInAllOrders 1 = .ok (.istore_n 1, 1) := by decide +kernel
theorem dX5_meetInAllOrders_2 : decode cX5_meetInAllOrders 2 = .ok (.iload_n 1, 1) := by decide +kernel
theorem dX5_meetInAllOrders_3 : decode cX5_meetInAllOrders 3 = .ok (.aload_n 0, 1) := by decide +kernel
theorem dX5_meetInAllOrders_4 : decode cX5_meetInAllOrders 4 = .ok (.getfield 30, 3) := by decide +kernel
theorem dX5_meetInAllOrders_7 : decode cX5_meetInAllOrders 7 = .ok (.if_icmp .ge 58, 3) := by decide +kernel
theorem dX5_meetInAllOrders_10 : decode cX5_meetInAllOrders 10 = .ok (.aload_n 0, 1) := by decide +kernel
theorem dX5_meetInAllOrders_11 : decode cX5_meetInAllOrders 11 = .ok (.getfield 24, 3) := by decide +kernel
theorem dX5_meetInAllOrders_14 : decode cX5_meetInAllOrders 14 = .ok (.iload_n 1, 1) := by decide +kernel
theorem dX5_meetInAllOrders_15 : decode cX5_meetInAllOrders 15 = .ok (.iconst 0, 1) := by decide +kernel
theorem dX5_meetInAllOrders_16 : decode cX5_meetInAllOrders 16 = .ok (.iastore, 1) := by decide +kernel
theorem dX5_meetInAllOrders_17 : decode cX5_meetInAllOrders 17 = .ok (.iconst 0, 1) := by decide +kernel
theorem dX5_meetInAllOrders_18 : decode cX5_meetInAllOrders 18 = .ok (.istore_n 2, 1) := by decide +kernel
theorem dX5_meetInAllOrders_19 : decode cX5_meetInAllOrders 19 = .ok (.iload_n 2, 1) := by decide +kernel
theorem dX5_meetInAllOrders_20 : decode cX5_meetInAllOrders 20 = .ok (.aload_n 0, 1) := by decide +kernel
theorem dX5_meetInAllOrders_21 : decode cX5_meetInAllOrders 21 = .ok (.getfield 30, 3) := by decide +kernel
theorem dX5_meetInAllOrders_24 : decode cX5_meetInAllOrders 24 = .ok (.if_icmp .ge 35, 3) := by decide +kernel
theorem dX5_meetInAllOrders_27 : decode cX5_meetInAllOrders 27 = .ok (.iload_n 1, 1) := by decide +kernel
theorem dX5_meetInAllOrders_28 : decode cX5_meetInAllOrders 28 = .ok (.iload_n 2, 1) := by decide +kernel
theorem dX5_meetInAllOrders_29 : decode cX5_meetInAllOrders 29 = .ok (.if_icmp .eq 24, 3) := by decide +kernel
theorem dX5_meetInAllOrders_32 : decode cX5_meetInAllOrders 32 = .ok (.aload_n 0, 1) := by decide +kernel
theorem dX5_meetInAllOrders_33 : decode cX5_meetInAllOrders 33 = .ok (.iload_n 1, 1) := by decide +kernel
theorem dX5_meetInAllOrders_34 : decode cX5_meetInAllOrders 34 = .ok (.iload_n 2, 1) := by decide +kernel
theorem dX5_meetInAllOrders_35 : decode cX5_meetInAllOrders 35 = .ok (.invokevirtual 80, 3) := by decide +kernel
theorem dX5_meetInAllOrders_38 : decode cX5_meetInAllOrders 38 = .ok (.ifCond .eq 15, 3) := by decide +kernel
theorem dX5_meetInAllOrders_41 : decode cX5_meetInAllOrders 41 = .ok (.aload_n 0, 1) := by decide +kernel
theorem dX5_meetInAllOrders_42 : decode cX5_meetInAllOrders 42 = .ok (.getfield 24, 3) := by decide +kernel
theorem dX5_meetInAllOrders_45 : decode cX5_meetInAllOrders 45 = .ok (.iload_n 1, 1) := by decide +kernel
theorem dX5_meetInAllOrders_46 : decode cX5_meetInAllOrders 46 = .ok (.dup2, 1) := by decide +kernel
theorem dX5_meetInAllOrders_47 : decode cX5_meetInAllOrders 47 = .ok (.iaload, 1) := by decide +kernel
theorem dX5_meetInAllOrders_48 : decode cX5_meetInAllOrders 48 = .ok (.iconst 1, 1) := by decide +kernel
theorem dX5_meetInAllOrders_49 : decode cX5_meetInAllOrders 49 = .ok (.iload_n 2, 1) := by decide +kernel
theorem dX5_meetInAllOrders_50 : decode cX5_meetInAllOrders 50 = .ok (.ishl, 1) := by decide +kernel
theorem dX5_meetInAllOrders_51 : decode cX5_meetInAllOrders 51 = .ok (.ior, 1) := by decide +kernel
theorem dX5_meetInAllOrders_52 : decode cX5_meetInAllOrders 52 = .ok (.iastore, 1) := by decide +kernel
theorem dX5_meetInAllOrders_53 : decode cX5_meetInAllOrders 53 = .ok (.iinc 2 1, 3) := by decide +kernel
theorem dX5_meetInAllOrders_56 : decode cX5_meetInAllOrders 56 = .ok (.goto (-37), 3) := by decide +kernel
theorem dX5_meetInAllOrders_59 : decode cX5_meetInAllOrders 59 = .ok (.iinc 1 1, 3) := by decide +kernel
theorem dX5_meetInAllOrders_62 : decode cX5_meetInAllOrders 62 = .ok (.goto (-60), 3) := by decide +kernel
theorem dX5_meetInAllOrders_65 : decode cX5_meetInAllOrders 65 = .ok (.aload_n 0, 1) := by decide +kernel
theorem dX5_meetInAllOrders_66 : decode cX5_meetInAllOrders 66 = .ok (.getfield 34, 3) := by decide +kernel
theorem dX5_meetInAllOrders_69 : decode cX5_meetInAllOrders 69 = .ok (.istore_n 1, 1) := by decide +kernel
theorem dX5_meetInAllOrders_70 : decode cX5_meetInAllOrders 70 = .ok (.iload_n 1, 1) := by decide +kernel
theorem dX5_meetInAllOrders_71 : decode cX5_meetInAllOrders 71 = .ok (.ifCond .le 42, 3) := by decide +kernel
theorem dX5_meetInAllOrders_74 : decode cX5_meetInAllOrders 74 = .ok (.iconst 0, 1) := by decide +kernel
theorem dX5_meetInAllOrders_75 : decode cX5_meetInAllOrders 75 = .ok (.istore_n 2, 1) := by decide +kernel
theorem dX5_meetInAllOrders_76 : decode cX5_meetInAllOrders 76 = .ok (.iload_n 2, 1) := by decide +kernel
theorem dX5_meetInAllOrders_77 : decode cX5_meetInAllOrders 77 = .ok (.aload_n 0, 1) := by decide +kernel
theorem dX5_meetInAllOrders_78 : decode cX5_meetInAllOrders 78 = .ok (.getfield 30, 3) := by decide +kernel
theorem dX5_meetInAllOrders_81 : decode cX5_meetInAllOrders 81 = .ok (.if_icmp .ge 26, 3) := by decide +kernel
theorem dX5_meetInAllOrders_84 : decode cX5_meetInAllOrders 84 = .ok (.aload_n 0, 1) := by decide +kernel
theorem dX5_meetInAllOrders_85 : decode cX5_meetInAllOrders 85 = .ok (.getfield 27, 3) := by decide +kernel
theorem dX5_meetInAllOrders_88 : decode cX5_meetInAllOrders 88 = .ok (.iload_n 1, 1) := by decide +kernel
theorem dX5_meetInAllOrders_89 : decode cX5_meetInAllOrders 89 = .ok (.bipush 6, 2) := by decide +kernel
theorem dX5_meetInAllOrders_91 : decode cX5_meetInAllOrders 91 = .ok (.imul, 1) := by decide +kernel
theorem dX5_meetInAllOrders_92 : decode cX5_meetInAllOrders 92 = .ok (.iload_n 2, 1) := by decide +kernel
theorem dX5_meetInAllOrders_93 : decode cX5_meetInAllOrders 93 = .ok (.iadd, 1) := by decide +kernel
theorem dX5_meetInAllOrders_94 : decode cX5_meetInAllOrders 94 = .ok (.aload_n 0, 1) := by decide +kernel
theorem dX5_meetInAllOrders_95 : decode cX5_meetInAllOrders 95 = .ok (.iload_n 1, 1) := by decide +kernel
theorem dX5_meetInAllOrders_96 : decode cX5_meetInAllOrders 96 = .ok (.iload_n 2, 1) := by decide +kernel
theorem dX5_meetInAllOrders_97 : decode cX5_meetInAllOrders 97 = .ok (.invokevirtual 130, 3) := by decide +kernel
theorem dX5_meetInAllOrders_100 : decode cX5_meetInAllOrders 100 = .ok (.iastore, 1) := by decide +kernel
theorem dX5_meetInAllOrders_101 : decode cX5_meetInAllOrders 101 = .ok (.iinc 2 1, 3) := by decide +kernel
theorem dX5_meetInAllOrders_104 : decode cX5_meetInAllOrders 104 = .ok (.goto (-28), 3) := by decide +kernel
theorem dX5_meetInAllOrders_107 : decode cX5_meetInAllOrders 107 = .ok (.iinc 1 (-1), 3) := by decide +kernel
theorem dX5_meetInAllOrders_110 : decode cX5_meetInAllOrders 110 = .ok (.goto (-40), 3) := by decide +kernel
theorem dX5_meetInAllOrders_113 : decode cX5_meetInAllOrders 113 = .ok (.return_, 1) := by decide +kernel
def q5_meetInAllOrders (σ : St) : Option St :=
  Option.bind (loop2 (fun rec4_ (a7_ : Int32) (σ8_ : St) =>
  if a7_ < (σ8_ 6 6) then
  Option.bind (sa σ8_ 11 6 a7_ 0) fun σ15_ =>
  Option.bind (loop2 (fun rec20_ (b23_ : Int32) (σ24_ : St) =>
  if b23_ < (σ24_ 6 6) then
  Option.bind (Option.bind (if ¬ a7_ = b23_ then (Option.bind (q5_isAhead σ24_ a7_ b23_) fun x39_ =>
  if x39_ = true then (some true) else (some false)) else (some false)) fun t36_ =>
  if t36_ = true then (Option.bind (ag σ24_ 11 6 a7_) fun x43_ =>
  Option.bind (sa σ24_ 11 6 a7_ (x43_ ||| (shl 1 b23_))) fun σ45_ =>
  some (σ45_)) else (some (σ24_))) fun y31_ =>
  lt (b23_ + 1) fun b47_ =>
  rec20_ b47_ y31_
  else (some (b23_, σ24_))) fuelN (0 : Int32) σ15_) fun y17_ =>
  lt (a7_ + 1) fun a49_ =>
  rec4_ a49_ y17_.2
  else (some (a7_, σ8_))) fuelN (0 : Int32) σ) fun y1_ =>
  lt (y1_.2 6 7) fun met51_ =>
  Option.bind (loop2 (fun rec56_ (met59_ : Int32) (σ60_ : St) =>
  if 0 < met59_ then
  Option.bind (loop2 (fun rec70_ (holder73_ : Int32) (σ74_ : St) =>
  if holder73_ < (σ74_ 6 6) then
  Option.bind (q5_endsOf σ74_ met59_ holder73_) fun x81_ =>
  Option.bind (sa σ74_ 12 384 ((met59_ * 6) + holder73_) x81_) fun σ83_ =>
  lt (holder73_ + 1) fun holder85_ =>
  rec70_ holder85_ σ83_
  else (some (holder73_, σ74_))) fuelN (0 : Int32) σ60_) fun y67_ =>
  lt (met59_ + (-1)) fun met87_ =>
  rec56_ met87_ y67_.2
  else (some (met59_, σ60_))) fuelN met51_ y1_.2) fun y53_ =>
  some y53_.2
abbrev rm5_meetInAllOrders : Room := { frames := 4, cells := 0, slots := 0, locals := 90 }
set_option maxHeartbeats 4000000 in
set_option maxRecDepth 100000 in
theorem p5_meetInAllOrders {Θ : Tz} {σ : St} {ρ : Option Value × St} (C : Zc Θ cX5_meetInAllOrders 3 RX5 none rm5_meetInAllOrders) (hkd : Θ.2.2.2.2.1 = kdC) {r : St} (hf : q5_meetInAllOrders σ = some r) (hρ : ρ = (none, r)) : Z Θ 3 0 0 (zQ Θ ρ) σ 0 [(0, .ref (zA Θ 6))] [] := by
  unfold q5_meetInAllOrders at hf
  refine z_iconst (v := 0) C dX5_meetInAllOrders_0 ic_0 ?_
  refine z_istN C dX5_meetInAllOrders_1 rfl rfl (Nat.le_of_ble_eq_true rfl) rfl ?_
  refine Z.sub [1, 0] rfl ?_
  obtain ⟨y1_, h2_, hf⟩ := ob hf
  suffices K3_ : Z Θ 3 0 0 (zQ Θ ρ) y1_.2 65 [(0, .ref (zA Θ 6)), (1, .int y1_.1)] [] by
    refine loop2_Z (P := fun (a7_ : Int32) (σ8_ : St) => Z Θ 3 0 0 (zQ Θ ρ) σ8_ 2 [(0, .ref (zA Θ 6)), (1, .int a7_)] []) ?_ fuelN (0 : Int32) σ h2_
    clear h2_
    intro rec4_ a7_ σ8_ h5_ h6_
    have K11_ : a7_ < (σ8_ 6 6) → Z Θ 3 0 0 (zQ Θ ρ) σ8_ 10 [(0, .ref (zA Θ 6)), (1, .int a7_)] [] := by
      intro h14_
      rw [if_pos h14_] at h6_
      refine z_aload_n C 0 dX5_meetInAllOrders_10 rfl rfl ?_
      refine fg5_24 C hkd dX5_meetInAllOrders_11 ?_
      refine z_iload_n C 1 dX5_meetInAllOrders_14 rfl rfl ?_
      refine z_iconst (v := 0) C dX5_meetInAllOrders_15 ic_0 ?_
      obtain ⟨σ15_, h16_, h6_⟩ := ob h6_
      refine z_sa C h16_ (kC_11 hkd) dX5_meetInAllOrders_16 ?_
      refine z_iconst (v := 0) C dX5_meetInAllOrders_17 ic_0 ?_
      refine z_istN C dX5_meetInAllOrders_18 rfl rfl (Nat.le_of_ble_eq_true rfl) rfl ?_
      refine Z.sub [1, 2, 0] rfl ?_
      obtain ⟨y17_, h18_, h6_⟩ := ob h6_
      suffices K19_ : Z Θ 3 0 0 (zQ Θ ρ) y17_.2 59 [(0, .ref (zA Θ 6)), (1, .int a7_), (2, .int y17_.1)] [] by
        refine loop2_Z (P := fun (b23_ : Int32) (σ24_ : St) => Z Θ 3 0 0 (zQ Θ ρ) σ24_ 19 [(0, .ref (zA Θ 6)), (1, .int a7_), (2, .int b23_)] []) ?_ fuelN (0 : Int32) σ15_ h18_
        clear h18_
        intro rec20_ b23_ σ24_ h21_ h22_
        have K27_ : b23_ < (σ24_ 6 6) → Z Θ 3 0 0 (zQ Θ ρ) σ24_ 27 [(0, .ref (zA Θ 6)), (1, .int a7_), (2, .int b23_)] [] := by
          intro h30_
          rw [if_pos h30_] at h22_
          obtain ⟨y31_, h32_, h22_⟩ := ob h22_
          suffices K33_ : Z Θ 3 0 0 (zQ Θ ρ) y31_ 53 [(0, .ref (zA Θ 6)), (1, .int a7_), (2, .int b23_)] [] by
            obtain ⟨t36_, h37_, h32_⟩ := ob h32_
            have K34_ : t36_ = true → Z Θ 3 0 0 (zQ Θ ρ) σ24_ 41 [(0, .ref (zA Θ 6)), (1, .int a7_), (2, .int b23_)] [] := by
              intro h42_
              rw [if_pos h42_] at h32_
              refine z_aload_n C 0 dX5_meetInAllOrders_41 rfl rfl ?_
              refine fg5_24 C hkd dX5_meetInAllOrders_42 ?_
              refine z_iload_n C 1 dX5_meetInAllOrders_45 rfl rfl ?_
              refine z_dup2 C dX5_meetInAllOrders_46 rfl rfl ?_
              obtain ⟨x43_, h44_, h32_⟩ := ob h32_
              refine z_ag C h44_ (kC_11 hkd) dX5_meetInAllOrders_47 ?_
              refine z_iconst (v := 1) C dX5_meetInAllOrders_48 ic_1 ?_
              refine z_iload_n C 2 dX5_meetInAllOrders_49 rfl rfl ?_
              refine z_shl C dX5_meetInAllOrders_50 ?_
              refine z_ior C dX5_meetInAllOrders_51 ?_
              obtain ⟨σ45_, h46_, h32_⟩ := ob h32_
              refine z_sa C h46_ (kC_11 hkd) dX5_meetInAllOrders_52 ?_
              cases h32_
              exact K33_
            have K35_ : ¬ (t36_ = true) → Z Θ 3 0 0 (zQ Θ ρ) σ24_ 53 [(0, .ref (zA Θ 6)), (1, .int a7_), (2, .int b23_)] [] := by
              intro h42_
              rw [if_neg h42_] at h32_
              cases h32_
              exact K33_
            refine z_iload_n C 1 dX5_meetInAllOrders_27 rfl rfl ?_
            refine z_iload_n C 2 dX5_meetInAllOrders_28 rfl rfl ?_
            refine c_ne_f C 53 dX5_meetInAllOrders_29 (by decide) (fun h38_ => ?_) (fun h38_ => ?_)
            · rw [if_pos h38_] at h37_
              refine z_aload_n C 0 dX5_meetInAllOrders_32 rfl rfl ?_
              refine z_iload_n C 1 dX5_meetInAllOrders_33 rfl rfl ?_
              refine z_iload_n C 2 dX5_meetInAllOrders_34 rfl rfl ?_
              obtain ⟨x39_, h40_, h37_⟩ := ob h37_
              refine cr5_80 (person_a := a7_) (other_a := b23_) C hkd  h40_ ⟨(Nat.le_of_ble_eq_true rfl), (Nat.le_of_ble_eq_true rfl)⟩ (Nat.le_of_ble_eq_true rfl) ⟨Nat.zero_le _, Nat.zero_le _⟩ dX5_meetInAllOrders_35 ?_
              refine cb_f C 53 dX5_meetInAllOrders_38 (by decide) (fun h41_ => ?_) (fun h41_ => ?_)
              · rw [if_pos h41_] at h37_
                cases h37_
                exact K34_ rfl
              · rw [if_neg h41_] at h37_
                cases h37_
                exact K35_ Bool.false_ne_true
            · rw [if_neg h38_] at h37_
              cases h37_
              exact K35_ Bool.false_ne_true
          obtain ⟨b47_, h48_, h22_⟩ := lt_ h22_
          refine z_inc C 2 dX5_meetInAllOrders_53 rfl ic_1 h48_ (Nat.le_of_ble_eq_true rfl) rfl ?_
          refine z_goto C 19 dX5_meetInAllOrders_56 (by decide) ?_
          refine Z.sub [1, 2, 0] rfl ?_
          exact h21_ _ _ h22_
        have K28_ : ¬ (b23_ < (σ24_ 6 6)) → Z Θ 3 0 0 (zQ Θ ρ) σ24_ 59 [(0, .ref (zA Θ 6)), (1, .int a7_), (2, .int b23_)] [] := by
          intro h30_
          rw [if_neg h30_] at h22_
          cases h22_
          exact K19_
        refine z_iload_n C 2 dX5_meetInAllOrders_19 rfl rfl ?_
        refine z_aload_n C 0 dX5_meetInAllOrders_20 rfl rfl ?_
        refine fg5_30 C hkd dX5_meetInAllOrders_21 ?_
        refine c_lt_f C 59 dX5_meetInAllOrders_24 (by decide) (fun h29_ => ?_) (fun h29_ => ?_)
        · exact K27_ h29_
        · exact K28_ h29_
      obtain ⟨a49_, h50_, h6_⟩ := lt_ h6_
      refine z_inc C 1 dX5_meetInAllOrders_59 rfl ic_1 h50_ (Nat.le_of_ble_eq_true rfl) rfl ?_
      refine z_goto C 2 dX5_meetInAllOrders_62 (by decide) ?_
      refine Z.sub [1, 0] rfl ?_
      exact h5_ _ _ h6_
    have K12_ : ¬ (a7_ < (σ8_ 6 6)) → Z Θ 3 0 0 (zQ Θ ρ) σ8_ 65 [(0, .ref (zA Θ 6)), (1, .int a7_)] [] := by
      intro h14_
      rw [if_neg h14_] at h6_
      cases h6_
      exact K3_
    refine z_iload_n C 1 dX5_meetInAllOrders_2 rfl rfl ?_
    refine z_aload_n C 0 dX5_meetInAllOrders_3 rfl rfl ?_
    refine fg5_30 C hkd dX5_meetInAllOrders_4 ?_
    refine c_lt_f C 65 dX5_meetInAllOrders_7 (by decide) (fun h13_ => ?_) (fun h13_ => ?_)
    · exact K11_ h13_
    · exact K12_ h13_
  refine z_aload_n C 0 dX5_meetInAllOrders_65 rfl rfl ?_
  refine fg5_34 C hkd dX5_meetInAllOrders_66 ?_
  obtain ⟨met51_, h52_, hf⟩ := lt_ hf
  refine z_istN C dX5_meetInAllOrders_69 h52_ rfl (Nat.le_of_ble_eq_true rfl) rfl ?_
  refine Z.sub [1, 0] rfl ?_
  obtain ⟨y53_, h54_, hf⟩ := ob hf
  suffices K55_ : Z Θ 3 0 0 (zQ Θ ρ) y53_.2 113 [(0, .ref (zA Θ 6)), (1, .int y53_.1)] [] by
    refine loop2_Z (P := fun (met59_ : Int32) (σ60_ : St) => Z Θ 3 0 0 (zQ Θ ρ) σ60_ 70 [(0, .ref (zA Θ 6)), (1, .int met59_)] []) ?_ fuelN met51_ y1_.2 h54_
    clear h54_
    intro rec56_ met59_ σ60_ h57_ h58_
    have K63_ : 0 < met59_ → Z Θ 3 0 0 (zQ Θ ρ) σ60_ 74 [(0, .ref (zA Θ 6)), (1, .int met59_)] [] := by
      intro h66_
      rw [if_pos h66_] at h58_
      refine z_iconst (v := 0) C dX5_meetInAllOrders_74 ic_0 ?_
      refine z_istN C dX5_meetInAllOrders_75 rfl rfl (Nat.le_of_ble_eq_true rfl) rfl ?_
      refine Z.sub [1, 2, 0] rfl ?_
      obtain ⟨y67_, h68_, h58_⟩ := ob h58_
      suffices K69_ : Z Θ 3 0 0 (zQ Θ ρ) y67_.2 107 [(0, .ref (zA Θ 6)), (1, .int met59_), (2, .int y67_.1)] [] by
        refine loop2_Z (P := fun (holder73_ : Int32) (σ74_ : St) => Z Θ 3 0 0 (zQ Θ ρ) σ74_ 76 [(0, .ref (zA Θ 6)), (1, .int met59_), (2, .int holder73_)] []) ?_ fuelN (0 : Int32) σ60_ h68_
        clear h68_
        intro rec70_ holder73_ σ74_ h71_ h72_
        have K77_ : holder73_ < (σ74_ 6 6) → Z Θ 3 0 0 (zQ Θ ρ) σ74_ 84 [(0, .ref (zA Θ 6)), (1, .int met59_), (2, .int holder73_)] [] := by
          intro h80_
          rw [if_pos h80_] at h72_
          refine z_aload_n C 0 dX5_meetInAllOrders_84 rfl rfl ?_
          refine fg5_27 C hkd dX5_meetInAllOrders_85 ?_
          refine z_iload_n C 1 dX5_meetInAllOrders_88 rfl rfl ?_
          refine z_bipush (v := 6) C dX5_meetInAllOrders_89 bp_6 ?_
          refine z_imul C dX5_meetInAllOrders_91 ?_
          refine z_iload_n C 2 dX5_meetInAllOrders_92 rfl rfl ?_
          refine z_iadd C dX5_meetInAllOrders_93 ?_
          refine z_aload_n C 0 dX5_meetInAllOrders_94 rfl rfl ?_
          refine z_iload_n C 1 dX5_meetInAllOrders_95 rfl rfl ?_
          refine z_iload_n C 2 dX5_meetInAllOrders_96 rfl rfl ?_
          obtain ⟨x81_, h82_, h72_⟩ := ob h72_
          refine cr5_130 (met_a := met59_) (holder_a := holder73_) C hkd  h82_ ⟨(Nat.le_of_ble_eq_true rfl), (Nat.le_of_ble_eq_true rfl)⟩ (Nat.le_of_ble_eq_true rfl) ⟨Nat.zero_le _, Nat.zero_le _⟩ dX5_meetInAllOrders_97 ?_
          obtain ⟨σ83_, h84_, h72_⟩ := ob h72_
          refine z_sa C h84_ (kC_12 hkd) dX5_meetInAllOrders_100 ?_
          obtain ⟨holder85_, h86_, h72_⟩ := lt_ h72_
          refine z_inc C 2 dX5_meetInAllOrders_101 rfl ic_1 h86_ (Nat.le_of_ble_eq_true rfl) rfl ?_
          refine z_goto C 76 dX5_meetInAllOrders_104 (by decide) ?_
          refine Z.sub [1, 2, 0] rfl ?_
          exact h71_ _ _ h72_
        have K78_ : ¬ (holder73_ < (σ74_ 6 6)) → Z Θ 3 0 0 (zQ Θ ρ) σ74_ 107 [(0, .ref (zA Θ 6)), (1, .int met59_), (2, .int holder73_)] [] := by
          intro h80_
          rw [if_neg h80_] at h72_
          cases h72_
          exact K69_
        refine z_iload_n C 2 dX5_meetInAllOrders_76 rfl rfl ?_
        refine z_aload_n C 0 dX5_meetInAllOrders_77 rfl rfl ?_
        refine fg5_30 C hkd dX5_meetInAllOrders_78 ?_
        refine c_lt_f C 107 dX5_meetInAllOrders_81 (by decide) (fun h79_ => ?_) (fun h79_ => ?_)
        · exact K77_ h79_
        · exact K78_ h79_
      obtain ⟨met87_, h88_, h58_⟩ := lt_ h58_
      refine z_inc C 1 dX5_meetInAllOrders_107 rfl ic_m1 h88_ (Nat.le_of_ble_eq_true rfl) rfl ?_
      refine z_goto C 70 dX5_meetInAllOrders_110 (by decide) ?_
      refine Z.sub [1, 0] rfl ?_
      exact h57_ _ _ h58_
    have K64_ : ¬ (0 < met59_) → Z Θ 3 0 0 (zQ Θ ρ) σ60_ 113 [(0, .ref (zA Θ 6)), (1, .int met59_)] [] := by
      intro h66_
      rw [if_neg h66_] at h58_
      cases h58_
      exact K55_
    refine z_iload_n C 1 dX5_meetInAllOrders_70 rfl rfl ?_
    refine c0_gt_f C 113 dX5_meetInAllOrders_71 (by decide) (fun h65_ => ?_) (fun h65_ => ?_)
    · exact K63_ h65_
    · exact K64_ h65_
  cases hf
  subst hρ
  exact z_vret C dX5_meetInAllOrders_113
theorem c5_meetInAllOrders {l : Launch} {kd : List KD} {w : Wp} {σ : St} (hkd : kd = kdC) (hi : zI kd w) {r : St} (hf : q5_meetInAllOrders σ = some r) : zM l kd w yX5_meetInAllOrders cX5_meetInAllOrders 3 none rm5_meetInAllOrders [.ref (w.2.2.1 6)] σ (none, r) := zM_of rfl hi (Nat.le_of_ble_eq_true rfl) (fun Θ hl hw C => by
  obtain ⟨Θ1, Θ2, Θ3, Θ4, Θ5⟩ := Θ
  cases hw
  exact p5_meetInAllOrders C hkd  hf rfl)
/-! LastLoaf$Poll.possibleLast -/
theorem dX5_possibleLast_0 : decode cX5_possibleLast 0 = .ok (.iconst 0, 1) := by decide +kernel
theorem dX5_possibleLast_1 : decode cX5_possibleLast 1 = .ok (.istore_n 1, 1) := by decide +kernel
theorem dX5_possibleLast_2 : decode cX5_possibleLast 2 = .ok (.iconst 0, 1) := by decide +kernel
theorem dX5_possibleLast_3 : decode cX5_possibleLast 3 = .ok (.istore_n 2, 1) := by decide +kernel
theorem dX5_possibleLast_4 : decode cX5_possibleLast 4 = .ok (.iload_n 2, 1) := by decide +kernel
theorem dX5_possibleLast_5 : decode cX5_possibleLast 5 = .ok (.aload_n 0, 1) := by decide +kernel
theorem dX5_possibleLast_6 : decode cX5_possibleLast 6 = .ok (.getfield 30, 3) := by decide +kernel
theorem dX5_possibleLast_9 : decode cX5_possibleLast 9 = .ok (.if_icmp .ge 30, 3) := by decide +kernel
theorem dX5_possibleLast_12 : decode cX5_possibleLast 12 = .ok (.aload_n 0, 1) := by decide +kernel
theorem dX5_possibleLast_13 : decode cX5_possibleLast 13 = .ok (.getfield 34, 3) := by decide +kernel
theorem dX5_possibleLast_16 : decode cX5_possibleLast 16 = .ok (.iload_n 2, 1) := by decide +kernel
theorem dX5_possibleLast_17 : decode cX5_possibleLast 17 = .ok (.invokestatic 58, 3) := by decide +kernel
theorem dX5_possibleLast_20 : decode cX5_possibleLast 20 = .ok (.ifCond .eq 13, 3) := by decide +kernel
theorem dX5_possibleLast_23 : decode cX5_possibleLast 23 = .ok (.iload_n 1, 1) := by decide +kernel
theorem dX5_possibleLast_24 : decode cX5_possibleLast 24 = .ok (.aload_n 0, 1) := by decide +kernel
theorem dX5_possibleLast_25 : decode cX5_possibleLast 25 = .ok (.iconst 0, 1) := by decide +kernel
theorem dX5_possibleLast_26 : decode cX5_possibleLast 26 = .ok (.iconst (-1), 1) := by decide +kernel
theorem dX5_possibleLast_27 : decode cX5_possibleLast 27 = .ok (.iload_n 2, 1) := by decide +kernel
theorem dX5_possibleLast_28 : decode cX5_possibleLast 28 = .ok (.invokevirtual 133, 3) := by decide +kernel
theorem dX5_possibleLast_31 : decode cX5_possibleLast 31 = .ok (.ior, 1) := by decide +kernel
theorem dX5_possibleLast_32 : decode cX5_possibleLast 32 = .ok (.istore_n 1, 1) := by decide +kernel
theorem dX5_possibleLast_33 : decode cX5_possibleLast 33 = .ok (.iinc 2 1, 3) := by decide +kernel
theorem dX5_possibleLast_36 : decode cX5_possibleLast 36 = .ok (.goto (-32), 3) := by decide +kernel
theorem dX5_possibleLast_39 : decode cX5_possibleLast 39 = .ok (.iload_n 1, 1) := by decide +kernel
theorem dX5_possibleLast_40 : decode cX5_possibleLast 40 = .ok (.ireturn, 1) := by decide +kernel
def q5_possibleLast (σ : St) : Option Int32 :=
  Option.bind (loop2 (fun rec4_ (bits7_ : Int32) (r8_ : Int32) =>
  if r8_ < (σ 6 6) then
  Option.bind (if q11_isIn (σ 6 7) r8_ = true then (Option.bind (q5_endsWith σ 0 (-1) r8_) fun x22_ =>
  lt (bits7_ ||| x22_) fun bits24_ =>
  some (bits24_)) else (some (bits7_))) fun y15_ =>
  lt (r8_ + 1) fun r26_ =>
  rec4_ y15_ r26_
  else (some (bits7_, r8_))) fuelN (0 : Int32) (0 : Int32)) fun y1_ =>
  some y1_.1
abbrev rm5_possibleLast : Room := { frames := 3, cells := 0, slots := 0, locals := 66 }
set_option maxHeartbeats 4000000 in
set_option maxRecDepth 100000 in
theorem p5_possibleLast {Θ : Tz} {σ : St} {ρ : Option Value × St} (C : Zc Θ cX5_possibleLast 3 RX5 (some .int) rm5_possibleLast) (hkd : Θ.2.2.2.2.1 = kdC) {r : Int32} (hf : q5_possibleLast σ = some r) (hρ : ρ = (some (.int r), σ)) : Z Θ 3 0 0 (zQ Θ ρ) σ 0 [(0, .ref (zA Θ 6))] [] := by
  unfold q5_possibleLast at hf
  refine z_iconst (v := 0) C dX5_possibleLast_0 ic_0 ?_
  refine z_istN C dX5_possibleLast_1 rfl rfl (Nat.le_of_ble_eq_true rfl) rfl ?_
  refine z_iconst (v := 0) C dX5_possibleLast_2 ic_0 ?_
  refine z_istN C dX5_possibleLast_3 rfl rfl (Nat.le_of_ble_eq_true rfl) rfl ?_
  refine Z.sub [2, 1, 0] rfl ?_
  obtain ⟨y1_, h2_, hf⟩ := ob hf
  suffices K3_ : Z Θ 3 0 0 (zQ Θ ρ) σ 39 [(0, .ref (zA Θ 6)), (1, .int y1_.1), (2, .int y1_.2)] [] by
    refine loop2_Z (P := fun (bits7_ : Int32) (r8_ : Int32) => Z Θ 3 0 0 (zQ Θ ρ) σ 4 [(0, .ref (zA Θ 6)), (1, .int bits7_), (2, .int r8_)] []) ?_ fuelN (0 : Int32) (0 : Int32) h2_
    clear h2_
    intro rec4_ bits7_ r8_ h5_ h6_
    have K11_ : r8_ < (σ 6 6) → Z Θ 3 0 0 (zQ Θ ρ) σ 12 [(0, .ref (zA Θ 6)), (1, .int bits7_), (2, .int r8_)] [] := by
      intro h14_
      rw [if_pos h14_] at h6_
      obtain ⟨y15_, h16_, h6_⟩ := ob h6_
      suffices K17_ : Z Θ 3 0 0 (zQ Θ ρ) σ 33 [(0, .ref (zA Θ 6)), (1, .int y15_), (2, .int r8_)] [] by
        have K18_ : q11_isIn (σ 6 7) r8_ = true → Z Θ 3 0 0 (zQ Θ ρ) σ 23 [(0, .ref (zA Θ 6)), (1, .int bits7_), (2, .int r8_)] [] := by
          intro h21_
          rw [if_pos h21_] at h16_
          refine z_iload_n C 1 dX5_possibleLast_23 rfl rfl ?_
          refine z_aload_n C 0 dX5_possibleLast_24 rfl rfl ?_
          refine z_iconst (v := 0) C dX5_possibleLast_25 ic_0 ?_
          refine z_iconst (v := (-1)) C dX5_possibleLast_26 ic_m1 ?_
          refine z_iload_n C 2 dX5_possibleLast_27 rfl rfl ?_
          obtain ⟨x22_, h23_, h16_⟩ := ob h16_
          refine cr5_133 (met_a := 0) (holder_a := (-1)) (coming_a := r8_) C hkd  h23_ ⟨(Nat.le_of_ble_eq_true rfl), (Nat.le_of_ble_eq_true rfl)⟩ (Nat.le_of_ble_eq_true rfl) ⟨Nat.zero_le _, Nat.zero_le _⟩ dX5_possibleLast_28 ?_
          refine z_ior C dX5_possibleLast_31 ?_
          obtain ⟨bits24_, h25_, h16_⟩ := lt_ h16_
          refine z_istN C dX5_possibleLast_32 h25_ rfl (Nat.le_of_ble_eq_true rfl) rfl ?_
          cases h16_
          refine Z.sub [1, 0, 2] rfl ?_
          exact K17_
        have K19_ : ¬ (q11_isIn (σ 6 7) r8_ = true) → Z Θ 3 0 0 (zQ Θ ρ) σ 33 [(0, .ref (zA Θ 6)), (1, .int bits7_), (2, .int r8_)] [] := by
          intro h21_
          rw [if_neg h21_] at h16_
          cases h16_
          exact K17_
        refine z_aload_n C 0 dX5_possibleLast_12 rfl rfl ?_
        refine fg5_34 C hkd dX5_possibleLast_13 ?_
        refine z_iload_n C 2 dX5_possibleLast_16 rfl rfl ?_
        refine cr5_58 (set_a := (σ 6 7)) (person_a := r8_) C hkd  ⟨(Nat.le_of_ble_eq_true rfl), (Nat.le_of_ble_eq_true rfl)⟩ (Nat.le_of_ble_eq_true rfl) ⟨Nat.zero_le _, Nat.zero_le _⟩ dX5_possibleLast_17 ?_
        refine cb_f C 33 dX5_possibleLast_20 (by decide) (fun h20_ => ?_) (fun h20_ => ?_)
        · exact K18_ h20_
        · exact K19_ h20_
      obtain ⟨r26_, h27_, h6_⟩ := lt_ h6_
      refine z_inc C 2 dX5_possibleLast_33 rfl ic_1 h27_ (Nat.le_of_ble_eq_true rfl) rfl ?_
      refine z_goto C 4 dX5_possibleLast_36 (by decide) ?_
      refine Z.sub [1, 2, 0] rfl ?_
      exact h5_ _ _ h6_
    have K12_ : ¬ (r8_ < (σ 6 6)) → Z Θ 3 0 0 (zQ Θ ρ) σ 39 [(0, .ref (zA Θ 6)), (1, .int bits7_), (2, .int r8_)] [] := by
      intro h14_
      rw [if_neg h14_] at h6_
      cases h6_
      exact K3_
    refine z_iload_n C 2 dX5_possibleLast_4 rfl rfl ?_
    refine z_aload_n C 0 dX5_possibleLast_5 rfl rfl ?_
    refine fg5_30 C hkd dX5_possibleLast_6 ?_
    refine c_lt_f C 39 dX5_possibleLast_9 (by decide) (fun h13_ => ?_) (fun h13_ => ?_)
    · exact K11_ h13_
    · exact K12_ h13_
  refine z_iload_n C 1 dX5_possibleLast_39 rfl rfl ?_
  cases hf
  subst hρ
  exact z_iret C dX5_possibleLast_40
theorem c5_possibleLast {l : Launch} {kd : List KD} {w : Wp} {σ : St} (hkd : kd = kdC) (hi : zI kd w) {r : Int32} (hf : q5_possibleLast σ = some r) : zM l kd w yX5_possibleLast cX5_possibleLast 3 (some .int) rm5_possibleLast [.ref (w.2.2.1 6)] σ (some (.int r), σ) := zM_of rfl hi (Nat.le_of_ble_eq_true rfl) (fun Θ hl hw C => by
  obtain ⟨Θ1, Θ2, Θ3, Θ4, Θ5⟩ := Θ
  cases hw
  exact p5_possibleLast C hkd  hf rfl)
/-! LastLoaf.orders -/
theorem w_3_88 : Cond.code ({ cls := "LastLoaf$Poll", name := "meetInAllOrders", desc := "()V" } : MethodName) prog_7_method_18_code (3 : Nat) (Option.none : Option ClassFile.FieldType) ∈ TB := tb_in (lwt_3 (List.mem_of_getElem? (i := 88) (by decide +kernel))) rfl
theorem w_3_85 : Cond.methodLink "LastLoaf" (302 : Nat) ({ cls := "LastLoaf$Poll", name := "meetInAllOrders", desc := "()V" } : MethodName) ∈ TB := tb_in (lwt_3 (List.mem_of_getElem? (i := 85) (by decide +kernel))) rfl
theorem w_3_86 : Cond.instanceMethod ({ cls := "LastLoaf$Poll", name := "meetInAllOrders", desc := "()V" } : MethodName) ∈ TB := tb_in (lwt_3 (List.mem_of_getElem? (i := 86) (by decide +kernel))) rfl
theorem w_3_87 : Cond.selects "LastLoaf$Poll" ({ cls := "LastLoaf$Poll", name := "meetInAllOrders", desc := "()V" } : MethodName) ({ cls := "LastLoaf$Poll", name := "meetInAllOrders", desc := "()V" } : MethodName) ∈ TB := tb_in (lwt_3 (List.mem_of_getElem? (i := 87) (by decide +kernel))) rfl
theorem cr11_302 {Θ : Tz} {cc : ByteArray} {nL kc ks : Nat} {ret : Option FieldType} {rm : Room} {Q : State → Prop} {σ : St} {pc : Nat} {lv : List (Nat × Value)} {st : List Value} (C : Zc Θ cc nL RX11 ret rm) (hkd : Θ.2.2.2.2.1 = kdC) {r : St} (hx : q5_meetInAllOrders σ = some r) (hrm : rm5_meetInAllOrders.frames + 1 ≤ rm.frames ∧ 8 + (3 + 11) + rm5_meetInAllOrders.locals ≤ rm.locals) (hcat : (st.map fun v => v.category).sum ≤ 8) (hk : kc ≤ rm.cells ∧ ks ≤ rm.slots) (hd : decode cc pc = .ok (.invokevirtual 302, 3)) (kk : Z Θ nL kc ks Q r (pc + 3) lv st) : Z Θ nL kc ks Q σ pc lv (.ref (zA Θ 6) :: st) := z_callV C 6 [] (none, r) 0 (kC_6 hkd) rfl (c5_meetInAllOrders hkd (zc_inj C) hx) w_3_88 w_3_85 w_3_86 w_3_87 w_1_9 ⟨rfl, rfl, hrm.1, hrm.2⟩ (by decide +kernel) rfl rfl hcat hk hd kk
theorem w_3_104 : Cond.code ({ cls := "LastLoaf$Poll", name := "possibleLast", desc := "()I" } : MethodName) prog_7_method_22_code (3 : Nat) (Option.some ClassFile.FieldType.int) ∈ TB := tb_in (lwt_3 (List.mem_of_getElem? (i := 104) (by decide +kernel))) rfl
theorem w_3_101 : Cond.methodLink "LastLoaf" (305 : Nat) ({ cls := "LastLoaf$Poll", name := "possibleLast", desc := "()I" } : MethodName) ∈ TB := tb_in (lwt_3 (List.mem_of_getElem? (i := 101) (by decide +kernel))) rfl
theorem w_3_102 : Cond.instanceMethod ({ cls := "LastLoaf$Poll", name := "possibleLast", desc := "()I" } : MethodName) ∈ TB := tb_in (lwt_3 (List.mem_of_getElem? (i := 102) (by decide +kernel))) rfl
theorem w_3_103 : Cond.selects "LastLoaf$Poll" ({ cls := "LastLoaf$Poll", name := "possibleLast", desc := "()I" } : MethodName) ({ cls := "LastLoaf$Poll", name := "possibleLast", desc := "()I" } : MethodName) ∈ TB := tb_in (lwt_3 (List.mem_of_getElem? (i := 103) (by decide +kernel))) rfl
theorem cr11_305 {Θ : Tz} {cc : ByteArray} {nL kc ks : Nat} {ret : Option FieldType} {rm : Room} {Q : State → Prop} {σ : St} {pc : Nat} {lv : List (Nat × Value)} {st : List Value} (C : Zc Θ cc nL RX11 ret rm) (hkd : Θ.2.2.2.2.1 = kdC) {r : Int32} (hx : q5_possibleLast σ = some r) (hrm : rm5_possibleLast.frames + 1 ≤ rm.frames ∧ 8 + (3 + 11) + rm5_possibleLast.locals ≤ rm.locals) (hcat : (st.map fun v => v.category).sum ≤ 8) (hk : kc ≤ rm.cells ∧ ks ≤ rm.slots) (hd : decode cc pc = .ok (.invokevirtual 305, 3)) (kk : Z Θ nL kc ks Q σ (pc + 3) lv (.int r :: st)) : Z Θ nL kc ks Q σ pc lv (.ref (zA Θ 6) :: st) := z_callV C 6 [] (some (.int r), σ) 0 (kC_6 hkd) rfl (c5_possibleLast hkd (zc_inj C) hx) w_3_104 w_3_101 w_3_102 w_3_103 w_1_9 ⟨rfl, rfl, hrm.1, hrm.2⟩ (by decide +kernel) rfl rfl hcat hk hd kk
theorem dX11_orders_0 : decode cX11_orders 0 = .ok (.aload_n 0, 1) := by decide +kernel
theorem dX11_orders_1 : decode cX11_orders 1 = .ok (.invokevirtual 180, 3) := by decide +kernel
theorem dX11_orders_4 : decode cX11_orders 4 = .ok (.invokevirtual 302, 3) := by decide +kernel
theorem dX11_orders_7 : decode cX11_orders 7 = .ok (.aload_n 0, 1) := by decide +kernel
theorem dX11_orders_8 : decode cX11_orders 8 = .ok (.getfield 61, 3) := by decide +kernel
theorem dX11_orders_11 : decode cX11_orders 11 = .ok (.invokevirtual 305, 3) := by decide +kernel
theorem dX11_orders_14 : decode cX11_orders 14 = .ok (.ireturn, 1) := by decide +kernel
def q11_orders (σ : St) : Option (Int32 × St) :=
  Option.bind (q11_pollNow σ) fun x1_ =>
  Option.bind (q5_meetInAllOrders x1_.2) fun x3_ =>
  Option.bind (q5_possibleLast x3_) fun x5_ =>
  some (x5_, x3_)
abbrev rm11_orders : Room := { frames := 5, cells := 0, slots := 0, locals := 116 }
set_option maxHeartbeats 4000000 in
set_option maxRecDepth 100000 in
theorem p11_orders {Θ : Tz} {σ : St} {ρ : Option Value × St} (C : Zc Θ cX11_orders 1 RX11 (some .int) rm11_orders) (hkd : Θ.2.2.2.2.1 = kdC) {r : (Int32 × St)} (hf : q11_orders σ = some r) (hρ : ρ = (some (.int r.1), r.2)) : Z Θ 1 0 0 (zQ Θ ρ) σ 0 [(0, .ref (zA Θ 0))] [] := by
  unfold q11_orders at hf
  refine z_aload_n C 0 dX11_orders_0 rfl rfl ?_
  obtain ⟨x1_, h2_, hf⟩ := ob hf
  refine cr11_180 C hkd  h2_ ⟨(Nat.le_of_ble_eq_true rfl), (Nat.le_of_ble_eq_true rfl)⟩ (Nat.le_of_ble_eq_true rfl) ⟨Nat.zero_le _, Nat.zero_le _⟩ dX11_orders_1 ?_
  rw [rp11_pollNow h2_]
  obtain ⟨x3_, h4_, hf⟩ := ob hf
  refine cr11_302 C hkd  h4_ ⟨(Nat.le_of_ble_eq_true rfl), (Nat.le_of_ble_eq_true rfl)⟩ (Nat.le_of_ble_eq_true rfl) ⟨Nat.zero_le _, Nat.zero_le _⟩ dX11_orders_4 ?_
  refine z_aload_n C 0 dX11_orders_7 rfl rfl ?_
  refine fg11_61 C hkd dX11_orders_8 ?_
  obtain ⟨x5_, h6_, hf⟩ := ob hf
  refine cr11_305 C hkd  h6_ ⟨(Nat.le_of_ble_eq_true rfl), (Nat.le_of_ble_eq_true rfl)⟩ (Nat.le_of_ble_eq_true rfl) ⟨Nat.zero_le _, Nat.zero_le _⟩ dX11_orders_11 ?_
  cases hf
  subst hρ
  exact z_iret C dX11_orders_14
theorem c11_orders {l : Launch} {kd : List KD} {w : Wp} {σ : St} (hkd : kd = kdC) (hi : zI kd w) {r : (Int32 × St)} (hf : q11_orders σ = some r) : zM l kd w yX11_orders cX11_orders 1 (some .int) rm11_orders [.ref (w.2.2.1 0)] σ (some (.int r.1), r.2) := zM_of rfl hi (Nat.le_of_ble_eq_true rfl) (fun Θ hl hw C => by
  obtain ⟨Θ1, Θ2, Θ3, Θ4, Θ5⟩ := Θ
  cases hw
  exact p11_orders C hkd  hf rfl)
/-! LastLoaf$Poll.leastTowards -/
theorem dX5_leastTowards_0 : decode cX5_leastTowards 0 = .ok (.iconst 0, 1) := by decide +kernel
theorem dX5_leastTowards_1 : decode cX5_leastTowards 1 = .ok (.istore 4, 2) := by decide +kernel
theorem dX5_leastTowards_3 : decode cX5_leastTowards 3 = .ok (.iload 4, 2) := by decide +kernel
theorem dX5_leastTowards_5 : decode cX5_leastTowards 5 = .ok (.aload_n 0, 1) := by decide +kernel
theorem dX5_leastTowards_6 : decode cX5_leastTowards 6 = .ok (.getfield 30, 3) := by decide +kernel
theorem dX5_leastTowards_9 : decode cX5_leastTowards 9 = .ok (.if_icmp .ge 43, 3) := by decide +kernel
theorem dX5_leastTowards_12 : decode cX5_leastTowards 12 = .ok (.aload_n 0, 1) := by decide +kernel
theorem dX5_leastTowards_13 : decode cX5_leastTowards 13 = .ok (.getfield 34, 3) := by decide +kernel
theorem dX5_leastTowards_16 : decode cX5_leastTowards 16 = .ok (.iload_n 2, 1) := by decide +kernel
theorem dX5_leastTowards_17 : decode cX5_leastTowards 17 = .ok (.iconst (-1), 1) := by decide +kernel
theorem dX5_leastTowards_18 : decode cX5_leastTowards 18 = .ok (.ixor, 1) := by decide +kernel
theorem dX5_leastTowards_19 : decode cX5_leastTowards 19 = .ok (.iand, 1) := by decide +kernel
theorem dX5_leastTowards_20 : decode cX5_leastTowards 20 = .ok (.iload 4, 2) := by decide +kernel
theorem dX5_leastTowards_22 : decode cX5_leastTowards 22 = .ok (.invokestatic 58, 3) := by decide +kernel
theorem dX5_leastTowards_25 : decode cX5_leastTowards 25 = .ok (.ifCond .eq 21, 3) := by decide +kernel
theorem dX5_leastTowards_28 : decode cX5_leastTowards 28 = .ok (.aload_n 0, 1) := by decide +kernel
theorem dX5_leastTowards_29 : decode cX5_leastTowards 29 = .ok (.iload_n 2, 1) := by decide +kernel
theorem dX5_leastTowards_30 : decode cX5_leastTowards 30 = .ok (.iload_n 3, 1) := by decide +kernel
theorem dX5_leastTowards_31 : decode cX5_leastTowards 31 = .ok (.iload 4, 2) := by decide +kernel
theorem dX5_leastTowards_33 : decode cX5_leastTowards 33 = .ok (.invokevirtual 133, 3) := by decide +kernel
theorem dX5_leastTowards_36 : decode cX5_leastTowards 36 = .ok (.iload_n 1, 1) := by decide +kernel
theorem dX5_leastTowards_37 : decode cX5_leastTowards 37 = .ok (.invokestatic 58, 3) := by decide +kernel
theorem dX5_leastTowards_40 : decode cX5_leastTowards 40 = .ok (.ifCond .eq 6, 3) := by decide +kernel
theorem dX5_leastTowards_43 : decode cX5_leastTowards 43 = .ok (.iload 4, 2) := by decide +kernel
theorem dX5_leastTowards_45 : decode cX5_leastTowards 45 = .ok (.ireturn, 1) := by decide +kernel
theorem dX5_leastTowards_46 : decode cX5_leastTowards 46 = .ok (.iinc 4 1, 3) := by decide +kernel
theorem dX5_leastTowards_49 : decode cX5_leastTowards 49 = .ok (.goto (-46), 3) := by decide +kernel
theorem dX5_leastTowards_52 : decode cX5_leastTowards 52 = .ok (.iconst (-1), 1) := by decide +kernel
theorem dX5_leastTowards_53 : decode cX5_leastTowards 53 = .ok (.ireturn, 1) := by decide +kernel
def q5_leastTowards (σ : St) (person_a : Int32) (met_a : Int32) (holder_a : Int32) : Option Int32 :=
  Option.bind (loop1 (fun rec4_ (r7_ : Int32) =>
  if r7_ < (σ 6 6) then
  Option.bind (if q11_isIn ((σ 6 7) &&& (met_a ^^^ (-1))) r7_ = true then (Option.bind (q5_endsWith σ met_a holder_a r7_) fun x19_ =>
  if q11_isIn x19_ person_a = true then (some true) else (some false)) else (some false)) fun t16_ =>
  if t16_ = true then (some (.inl r7_)) else
  lt (r7_ + 1) fun r23_ =>
  rec4_ r23_
  else (some (.inr r7_))) fuelN (0 : Int32)) fun y1_ =>
  Sum.elim (fun x9 => some x9) (fun y1_r =>
  some (-1)) y1_
abbrev rm5_leastTowards : Room := { frames := 3, cells := 0, slots := 0, locals := 66 }
set_option maxHeartbeats 4000000 in
set_option maxRecDepth 100000 in
theorem p5_leastTowards {Θ : Tz} {σ : St} {ρ : Option Value × St} (C : Zc Θ cX5_leastTowards 5 RX5 (some .int) rm5_leastTowards) (hkd : Θ.2.2.2.2.1 = kdC) {person_a : Int32} {met_a : Int32} {holder_a : Int32} {r : Int32} (hf : q5_leastTowards σ person_a met_a holder_a = some r) (hρ : ρ = (some (.int r), σ)) : Z Θ 5 0 0 (zQ Θ ρ) σ 0 [(0, .ref (zA Θ 6)), (1, .int person_a), (2, .int met_a), (3, .int holder_a)] [] := by
  unfold q5_leastTowards at hf
  refine z_iconst (v := 0) C dX5_leastTowards_0 ic_0 ?_
  refine z_ist C dX5_leastTowards_1 rfl (Nat.le_of_ble_eq_true rfl) rfl ?_
  refine Z.sub [1, 2, 3, 4, 0] rfl ?_
  obtain ⟨y1_, h2_, hf⟩ := ob hf
  suffices K3_ : ∀ y1_r, y1_ = .inr y1_r → Z Θ 5 0 0 (zQ Θ ρ) σ 52 [(0, .ref (zA Θ 6)), (1, .int person_a), (2, .int met_a), (3, .int holder_a), (4, .int y1_r)] [] by
    refine loop1_Z (P := fun (r7_ : Int32) => Z Θ 5 0 0 (zQ Θ ρ) σ 3 [(0, .ref (zA Θ 6)), (1, .int person_a), (2, .int met_a), (3, .int holder_a), (4, .int r7_)] []) ?_ fuelN (0 : Int32) h2_
    clear h2_
    intro rec4_ r7_ h5_ h6_
    have K10_ : r7_ < (σ 6 6) → Z Θ 5 0 0 (zQ Θ ρ) σ 12 [(0, .ref (zA Θ 6)), (1, .int person_a), (2, .int met_a), (3, .int holder_a), (4, .int r7_)] [] := by
      intro h13_
      rw [if_pos h13_] at h6_
      obtain ⟨t16_, h17_, h6_⟩ := ob h6_
      have K14_ : t16_ = true → Z Θ 5 0 0 (zQ Θ ρ) σ 43 [(0, .ref (zA Θ 6)), (1, .int person_a), (2, .int met_a), (3, .int holder_a), (4, .int r7_)] [] := by
        intro h22_
        rw [if_pos h22_] at h6_
        refine z_iload C 4 dX5_leastTowards_43 rfl ?_
        rw [← Option.some.inj h6_] at hf
        replace hf : some r7_ = some r := hf
        cases hf
        subst hρ
        exact z_iret C dX5_leastTowards_45
      suffices K15_ : ¬ (t16_ = true) → Z Θ 5 0 0 (zQ Θ ρ) σ 46 [(0, .ref (zA Θ 6)), (1, .int person_a), (2, .int met_a), (3, .int holder_a), (4, .int r7_)] [] by
        refine z_aload_n C 0 dX5_leastTowards_12 rfl rfl ?_
        refine fg5_34 C hkd dX5_leastTowards_13 ?_
        refine z_iload_n C 2 dX5_leastTowards_16 rfl rfl ?_
        refine z_iconst (v := (-1)) C dX5_leastTowards_17 ic_m1 ?_
        refine z_ixor C dX5_leastTowards_18 ?_
        refine z_iand C dX5_leastTowards_19 ?_
        refine z_iload C 4 dX5_leastTowards_20 rfl ?_
        refine cr5_58 (set_a := ((σ 6 7) &&& (met_a ^^^ (-1)))) (person_a := r7_) C hkd  ⟨(Nat.le_of_ble_eq_true rfl), (Nat.le_of_ble_eq_true rfl)⟩ (Nat.le_of_ble_eq_true rfl) ⟨Nat.zero_le _, Nat.zero_le _⟩ dX5_leastTowards_22 ?_
        refine cb_f C 46 dX5_leastTowards_25 (by decide) (fun h18_ => ?_) (fun h18_ => ?_)
        · rw [if_pos h18_] at h17_
          refine z_aload_n C 0 dX5_leastTowards_28 rfl rfl ?_
          refine z_iload_n C 2 dX5_leastTowards_29 rfl rfl ?_
          refine z_iload_n C 3 dX5_leastTowards_30 rfl rfl ?_
          refine z_iload C 4 dX5_leastTowards_31 rfl ?_
          obtain ⟨x19_, h20_, h17_⟩ := ob h17_
          refine cr5_133 (met_a := met_a) (holder_a := holder_a) (coming_a := r7_) C hkd  h20_ ⟨(Nat.le_of_ble_eq_true rfl), (Nat.le_of_ble_eq_true rfl)⟩ (Nat.le_of_ble_eq_true rfl) ⟨Nat.zero_le _, Nat.zero_le _⟩ dX5_leastTowards_33 ?_
          refine z_iload_n C 1 dX5_leastTowards_36 rfl rfl ?_
          refine cr5_58 (set_a := x19_) (person_a := person_a) C hkd  ⟨(Nat.le_of_ble_eq_true rfl), (Nat.le_of_ble_eq_true rfl)⟩ (Nat.le_of_ble_eq_true rfl) ⟨Nat.zero_le _, Nat.zero_le _⟩ dX5_leastTowards_37 ?_
          refine cb_f C 46 dX5_leastTowards_40 (by decide) (fun h21_ => ?_) (fun h21_ => ?_)
          · rw [if_pos h21_] at h17_
            cases h17_
            exact K14_ rfl
          · rw [if_neg h21_] at h17_
            cases h17_
            exact K15_ Bool.false_ne_true
        · rw [if_neg h18_] at h17_
          cases h17_
          exact K15_ Bool.false_ne_true
      intro h22_
      rw [if_neg h22_] at h6_
      obtain ⟨r23_, h24_, h6_⟩ := lt_ h6_
      refine z_inc C 4 dX5_leastTowards_46 rfl ic_1 h24_ (Nat.le_of_ble_eq_true rfl) rfl ?_
      refine z_goto C 3 dX5_leastTowards_49 (by decide) ?_
      refine Z.sub [1, 2, 3, 4, 0] rfl ?_
      exact h5_ _ h6_
    have K11_ : ¬ (r7_ < (σ 6 6)) → Z Θ 5 0 0 (zQ Θ ρ) σ 52 [(0, .ref (zA Θ 6)), (1, .int person_a), (2, .int met_a), (3, .int holder_a), (4, .int r7_)] [] := by
      intro h13_
      rw [if_neg h13_] at h6_
      exact K3_ _ (Option.some.inj h6_).symm
    refine z_iload C 4 dX5_leastTowards_3 rfl ?_
    refine z_aload_n C 0 dX5_leastTowards_5 rfl rfl ?_
    refine fg5_30 C hkd dX5_leastTowards_6 ?_
    refine c_lt_f C 52 dX5_leastTowards_9 (by decide) (fun h12_ => ?_) (fun h12_ => ?_)
    · exact K10_ h12_
    · exact K11_ h12_
  intro y1_r e9
  subst e9
  simp only [Sum.elim_inr] at hf
  refine z_iconst (v := (-1)) C dX5_leastTowards_52 ic_m1 ?_
  cases hf
  subst hρ
  exact z_iret C dX5_leastTowards_53
theorem c5_leastTowards {l : Launch} {kd : List KD} {w : Wp} {σ : St} {person_a : Int32} {met_a : Int32} {holder_a : Int32} (hkd : kd = kdC) (hi : zI kd w) {r : Int32} (hf : q5_leastTowards σ person_a met_a holder_a = some r) : zM l kd w yX5_leastTowards cX5_leastTowards 5 (some .int) rm5_leastTowards [.ref (w.2.2.1 6), .int person_a, .int met_a, .int holder_a] σ (some (.int r), σ) := zM_of rfl hi (Nat.le_of_ble_eq_true rfl) (fun Θ hl hw C => by
  obtain ⟨Θ1, Θ2, Θ3, Θ4, Θ5⟩ := Θ
  cases hw
  exact p5_leastTowards C hkd  hf rfl)
/-! LastLoaf$Poll.placeInOrder -/
theorem w_6_237 : Cond.code ({ cls := "LastLoaf$Poll", name := "leastTowards", desc := "(III)I" } : MethodName) prog_7_method_24_code (5 : Nat) (Option.some ClassFile.FieldType.int) ∈ TB := tb_in (lwt_6 (List.mem_of_getElem? (i := 237) (by decide +kernel))) rfl
theorem w_6_234 : Cond.methodLink "LastLoaf$Poll" (140 : Nat) ({ cls := "LastLoaf$Poll", name := "leastTowards", desc := "(III)I" } : MethodName) ∈ TB := tb_in (lwt_6 (List.mem_of_getElem? (i := 234) (by decide +kernel))) rfl
theorem w_6_235 : Cond.instanceMethod ({ cls := "LastLoaf$Poll", name := "leastTowards", desc := "(III)I" } : MethodName) ∈ TB := tb_in (lwt_6 (List.mem_of_getElem? (i := 235) (by decide +kernel))) rfl
theorem w_6_236 : Cond.selects "LastLoaf$Poll" ({ cls := "LastLoaf$Poll", name := "leastTowards", desc := "(III)I" } : MethodName) ({ cls := "LastLoaf$Poll", name := "leastTowards", desc := "(III)I" } : MethodName) ∈ TB := tb_in (lwt_6 (List.mem_of_getElem? (i := 236) (by decide +kernel))) rfl
theorem cr5_140 {Θ : Tz} {cc : ByteArray} {nL kc ks : Nat} {ret : Option FieldType} {rm : Room} {Q : State → Prop} {σ : St} {pc : Nat} {lv : List (Nat × Value)} {st : List Value} (C : Zc Θ cc nL RX5 ret rm) (hkd : Θ.2.2.2.2.1 = kdC) {person_a : Int32} {met_a : Int32} {holder_a : Int32} {r : Int32} (hx : q5_leastTowards σ person_a met_a holder_a = some r) (hrm : rm5_leastTowards.frames + 1 ≤ rm.frames ∧ 8 + (5 + 11) + rm5_leastTowards.locals ≤ rm.locals) (hcat : (st.map fun v => v.category).sum ≤ 8) (hk : kc ≤ rm.cells ∧ ks ≤ rm.slots) (hd : decode cc pc = .ok (.invokevirtual 140, 3)) (kk : Z Θ nL kc ks Q σ (pc + 3) lv (.int r :: st)) : Z Θ nL kc ks Q σ pc lv (.int holder_a :: .int met_a :: .int person_a :: .ref (zA Θ 6) :: st) := z_callV C 6 [.int person_a, .int met_a, .int holder_a] (some (.int r), σ) 3 (kC_6 hkd) rfl (c5_leastTowards (person_a := person_a) (met_a := met_a) (holder_a := holder_a) hkd (zc_inj C) hx) w_6_237 w_6_234 w_6_235 w_6_236 w_1_9 ⟨rfl, rfl, hrm.1, hrm.2⟩ (by decide +kernel) rfl rfl hcat hk hd kk
theorem dX5_placeInOrder_0 : decode cX5_placeInOrder 0 = .ok (.iconst 0, 1) := by decide +kernel
theorem dX5_placeInOrder_1 : decode cX5_placeInOrder 1 = .ok (.istore_n 3, 1) := by decide +kernel
theorem dX5_placeInOrder_2 : decode cX5_placeInOrder 2 = .ok (.iconst (-1), 1) := by decide +kernel
theorem dX5_placeInOrder_3 : decode cX5_placeInOrder 3 = .ok (.istore 4, 2) := by decide +kernel
theorem dX5_placeInOrder_5 : decode cX5_placeInOrder 5 = .ok (.iconst (-1), 1) := by decide +kernel
theorem dX5_placeInOrder_6 : decode cX5_placeInOrder 6 = .ok (.istore 5, 2) := by decide +kernel
theorem dX5_placeInOrder_8 : decode cX5_placeInOrder 8 = .ok (.iload_n 2, 1) := by decide +kernel
theorem dX5_placeInOrder_9 : decode cX5_placeInOrder 9 = .ok (.ifCond .lt 11, 3) := by decide +kernel
theorem dX5_placeInOrder_12 : decode cX5_placeInOrder 12 = .ok (.iload_n 2, 1) := by decide +kernel
theorem dX5_placeInOrder_13 : decode cX5_placeInOrder 13 = .ok (.aload_n 0, 1) := by decide +kernel
theorem dX5_placeInOrder_14 : decode cX5_placeInOrder 14 = .ok (.getfield 37, 3) := by decide +kernel
theorem dX5_placeInOrder_17 : decode cX5_placeInOrder 17 = .ok (.if_icmp .lt 5, 3) := by decide +kernel
theorem dX5_placeInOrder_20 : decode cX5_placeInOrder 20 = .ok (.iconst (-1), 1) := by decide +kernel
theorem dX5_placeInOrder_21 : decode cX5_placeInOrder 21 = .ok (.ireturn, 1) := by decide +kernel
theorem dX5_placeInOrder_22 : decode cX5_placeInOrder 22 = .ok (.iconst 0, 1) := by decide +kernel
theorem dX5_placeInOrder_23 : decode cX5_placeInOrder 23 = .ok (.istore 6, 2) := by decide +kernel
theorem dX5_placeInOrder_25 : decode cX5_placeInOrder 25 = .ok (.iload 6, 2) := by decide +kernel
theorem dX5_placeInOrder_27 : decode cX5_placeInOrder 27 = .ok (.iload_n 2, 1) := by decide +kernel
theorem dX5_placeInOrder_28 : decode cX5_placeInOrder 28 = .ok (.if_icmp .gt 44, 3) := by decide +kernel
theorem dX5_placeInOrder_31 : decode cX5_placeInOrder 31 = .ok (.aload_n 0, 1) := by decide +kernel
theorem dX5_placeInOrder_32 : decode cX5_placeInOrder 32 = .ok (.iload_n 1, 1) := by decide +kernel
theorem dX5_placeInOrder_33 : decode cX5_placeInOrder 33 = .ok (.iload_n 3, 1) := by decide +kernel
theorem dX5_placeInOrder_34 : decode cX5_placeInOrder 34 = .ok (.iload 4, 2) := by decide +kernel
theorem dX5_placeInOrder_36 : decode cX5_placeInOrder 36 = .ok (.invokevirtual 140, 3) := by decide +kernel
theorem dX5_placeInOrder_39 : decode cX5_placeInOrder 39 = .ok (.istore 5, 2) := by decide +kernel
theorem dX5_placeInOrder_41 : decode cX5_placeInOrder 41 = .ok (.iload 5, 2) := by decide +kernel
theorem dX5_placeInOrder_43 : decode cX5_placeInOrder 43 = .ok (.iconst (-1), 1) := by decide +kernel
theorem dX5_placeInOrder_44 : decode cX5_placeInOrder 44 = .ok (.if_icmp .ne 5, 3) := by decide +kernel
theorem dX5_placeInOrder_47 : decode cX5_placeInOrder 47 = .ok (.iconst (-1), 1) := by decide +kernel
theorem dX5_placeInOrder_48 : decode cX5_placeInOrder 48 = .ok (.ireturn, 1) := by decide +kernel
theorem dX5_placeInOrder_49 : decode cX5_placeInOrder 49 = .ok (.aload_n 0, 1) := by decide +kernel
theorem dX5_placeInOrder_50 : decode cX5_placeInOrder 50 = .ok (.iload 4, 2) := by decide +kernel
theorem dX5_placeInOrder_52 : decode cX5_placeInOrder 52 = .ok (.iload 5, 2) := by decide +kernel
theorem dX5_placeInOrder_54 : decode cX5_placeInOrder 54 = .ok (.invokevirtual 137, 3) := by decide +kernel
theorem dX5_placeInOrder_57 : decode cX5_placeInOrder 57 = .ok (.istore 4, 2) := by decide +kernel
theorem dX5_placeInOrder_59 : decode cX5_placeInOrder 59 = .ok (.iload_n 3, 1) := by decide +kernel
theorem dX5_placeInOrder_60 : decode cX5_placeInOrder 60 = .ok (.iconst 1, 1) := by decide +kernel
theorem dX5_placeInOrder_61 : decode cX5_placeInOrder 61 = .ok (.iload 5, 2) := by decide +kernel
theorem dX5_placeInOrder_63 : decode cX5_placeInOrder 63 = .ok (.ishl, 1) := by decide +kernel
theorem dX5_placeInOrder_64 : decode cX5_placeInOrder 64 = .ok (.ior, 1) := by decide +kernel
theorem dX5_placeInOrder_65 : decode cX5_placeInOrder 65 = .ok (.istore_n 3, 1) := by decide +kernel
theorem dX5_placeInOrder_66 : decode cX5_placeInOrder 66 = .ok (.iinc 6 1, 3) := by decide +kernel
theorem dX5_placeInOrder_69 : decode cX5_placeInOrder 69 = .ok (.goto (-44), 3) := by decide +kernel
theorem dX5_placeInOrder_72 : decode cX5_placeInOrder 72 = .ok (.iload 5, 2) := by decide +kernel
theorem dX5_placeInOrder_74 : decode cX5_placeInOrder 74 = .ok (.ireturn, 1) := by decide +kernel
def q5_placeInOrder (σ : St) (person_a : Int32) (k_a : Int32) : Option Int32 :=
  if (k_a < 0) ∨ ((σ 6 8) ≤ k_a) then (some (-1)) else
  Option.bind (loop4 (fun rec9_ (met12_ : Int32) (holder13_ : Int32) (coming14_ : Int32) (i15_ : Int32) =>
  if i15_ ≤ k_a then
  Option.bind (q5_leastTowards σ person_a met12_ holder13_) fun x22_ =>
  if x22_ = (-1) then (some (.inl (-1))) else
  Option.bind (q5_holderAfter σ holder13_ x22_) fun x28_ =>
  lt (met12_ ||| (shl 1 x22_)) fun met30_ =>
  lt (i15_ + 1) fun i32_ =>
  rec9_ met30_ x28_ x22_ i32_
  else (some (.inr (met12_, holder13_, coming14_, i15_)))) fuelN (0 : Int32) (-1 : Int32) (-1 : Int32) (0 : Int32)) fun y6_ =>
  Sum.elim (fun x9 => some x9) (fun y6_r =>
  some y6_r.2.2.1) y6_
abbrev rm5_placeInOrder : Room := { frames := 4, cells := 0, slots := 0, locals := 90 }
set_option maxHeartbeats 4000000 in
set_option maxRecDepth 100000 in
theorem p5_placeInOrder {Θ : Tz} {σ : St} {ρ : Option Value × St} (C : Zc Θ cX5_placeInOrder 7 RX5 (some .int) rm5_placeInOrder) (hkd : Θ.2.2.2.2.1 = kdC) {person_a : Int32} {k_a : Int32} {r : Int32} (hf : q5_placeInOrder σ person_a k_a = some r) (hρ : ρ = (some (.int r), σ)) : Z Θ 7 0 0 (zQ Θ ρ) σ 0 [(0, .ref (zA Θ 6)), (1, .int person_a), (2, .int k_a)] [] := by
  unfold q5_placeInOrder at hf
  refine z_iconst (v := 0) C dX5_placeInOrder_0 ic_0 ?_
  refine z_istN C dX5_placeInOrder_1 rfl rfl (Nat.le_of_ble_eq_true rfl) rfl ?_
  refine z_iconst (v := (-1)) C dX5_placeInOrder_2 ic_m1 ?_
  refine z_ist C dX5_placeInOrder_3 rfl (Nat.le_of_ble_eq_true rfl) rfl ?_
  refine z_iconst (v := (-1)) C dX5_placeInOrder_5 ic_m1 ?_
  refine z_ist C dX5_placeInOrder_6 rfl (Nat.le_of_ble_eq_true rfl) rfl ?_
  have K1_ : (k_a < 0) ∨ ((σ 6 8) ≤ k_a) → Z Θ 7 0 0 (zQ Θ ρ) σ 20 [(5, .int (-1)), (4, .int (-1)), (3, .int 0), (0, .ref (zA Θ 6)), (1, .int person_a), (2, .int k_a)] [] := by
    intro h5_
    rw [if_pos h5_] at hf
    refine z_iconst (v := (-1)) C dX5_placeInOrder_20 ic_m1 ?_
    cases hf
    subst hρ
    exact z_iret C dX5_placeInOrder_21
  suffices K2_ : ¬ ((k_a < 0) ∨ ((σ 6 8) ≤ k_a)) → Z Θ 7 0 0 (zQ Θ ρ) σ 22 [(5, .int (-1)), (4, .int (-1)), (3, .int 0), (0, .ref (zA Θ 6)), (1, .int person_a), (2, .int k_a)] [] by
    refine z_iload_n C 5 dX5_placeInOrder_8 rfl rfl ?_
    refine c0_lt_t C 20 dX5_placeInOrder_9 (by decide) (fun h3_ => ?_) (fun h3_ => ?_)
    · exact K1_ (Or.inl h3_)
    · refine z_iload_n C 5 dX5_placeInOrder_12 rfl rfl ?_
      refine z_aload_n C 3 dX5_placeInOrder_13 rfl rfl ?_
      refine fg5_37 C hkd dX5_placeInOrder_14 ?_
      refine c_ge_f C 22 dX5_placeInOrder_17 (by decide) (fun h4_ => ?_) (fun h4_ => ?_)
      · exact K1_ (Or.inr h4_)
      · exact K2_ (fun n => n.elim h3_ h4_)
  intro h5_
  rw [if_neg h5_] at hf
  refine z_iconst (v := 0) C dX5_placeInOrder_22 ic_0 ?_
  refine z_ist C dX5_placeInOrder_23 rfl (Nat.le_of_ble_eq_true rfl) rfl ?_
  refine Z.sub [4, 5, 6, 3, 2, 1, 0] rfl ?_
  obtain ⟨y6_, h7_, hf⟩ := ob hf
  suffices K8_ : ∀ y6_r, y6_ = .inr y6_r → Z Θ 7 0 0 (zQ Θ ρ) σ 72 [(0, .ref (zA Θ 6)), (1, .int person_a), (2, .int k_a), (3, .int y6_r.1), (4, .int y6_r.2.1), (5, .int y6_r.2.2.1), (6, .int y6_r.2.2.2)] [] by
    refine loop4_Z (P := fun (met12_ : Int32) (holder13_ : Int32) (coming14_ : Int32) (i15_ : Int32) => Z Θ 7 0 0 (zQ Θ ρ) σ 25 [(0, .ref (zA Θ 6)), (1, .int person_a), (2, .int k_a), (3, .int met12_), (4, .int holder13_), (5, .int coming14_), (6, .int i15_)] []) ?_ fuelN (0 : Int32) (-1 : Int32) (-1 : Int32) (0 : Int32) h7_
    clear h7_
    intro rec9_ met12_ holder13_ coming14_ i15_ h10_ h11_
    have K18_ : i15_ ≤ k_a → Z Θ 7 0 0 (zQ Θ ρ) σ 31 [(0, .ref (zA Θ 6)), (1, .int person_a), (2, .int k_a), (3, .int met12_), (4, .int holder13_), (5, .int coming14_), (6, .int i15_)] [] := by
      intro h21_
      rw [if_pos h21_] at h11_
      refine z_aload_n C 0 dX5_placeInOrder_31 rfl rfl ?_
      refine z_iload_n C 1 dX5_placeInOrder_32 rfl rfl ?_
      refine z_iload_n C 3 dX5_placeInOrder_33 rfl rfl ?_
      refine z_iload C 4 dX5_placeInOrder_34 rfl ?_
      obtain ⟨x22_, h23_, h11_⟩ := ob h11_
      refine cr5_140 (person_a := person_a) (met_a := met12_) (holder_a := holder13_) C hkd  h23_ ⟨(Nat.le_of_ble_eq_true rfl), (Nat.le_of_ble_eq_true rfl)⟩ (Nat.le_of_ble_eq_true rfl) ⟨Nat.zero_le _, Nat.zero_le _⟩ dX5_placeInOrder_36 ?_
      refine z_ist C dX5_placeInOrder_39 rfl (Nat.le_of_ble_eq_true rfl) rfl ?_
      have K24_ : x22_ = (-1) → Z Θ 7 0 0 (zQ Θ ρ) σ 47 [(5, .int x22_), (0, .ref (zA Θ 6)), (1, .int person_a), (2, .int k_a), (3, .int met12_), (4, .int holder13_), (6, .int i15_)] [] := by
        intro h27_
        rw [if_pos h27_] at h11_
        refine z_iconst (v := (-1)) C dX5_placeInOrder_47 ic_m1 ?_
        rw [← Option.some.inj h11_] at hf
        replace hf : some (-1) = some r := hf
        cases hf
        subst hρ
        exact z_iret C dX5_placeInOrder_48
      suffices K25_ : ¬ (x22_ = (-1)) → Z Θ 7 0 0 (zQ Θ ρ) σ 49 [(5, .int x22_), (0, .ref (zA Θ 6)), (1, .int person_a), (2, .int k_a), (3, .int met12_), (4, .int holder13_), (6, .int i15_)] [] by
        refine z_iload C 0 dX5_placeInOrder_41 rfl ?_
        refine z_iconst (v := (-1)) C dX5_placeInOrder_43 ic_m1 ?_
        refine c_eq_f C 49 dX5_placeInOrder_44 (by decide) (fun h26_ => ?_) (fun h26_ => ?_)
        · exact K24_ h26_
        · exact K25_ h26_
      intro h27_
      rw [if_neg h27_] at h11_
      refine z_aload_n C 1 dX5_placeInOrder_49 rfl rfl ?_
      refine z_iload C 5 dX5_placeInOrder_50 rfl ?_
      refine z_iload C 0 dX5_placeInOrder_52 rfl ?_
      obtain ⟨x28_, h29_, h11_⟩ := ob h11_
      refine cr5_137 (holder_a := holder13_) (coming_a := x22_) C hkd  h29_ ⟨(Nat.le_of_ble_eq_true rfl), (Nat.le_of_ble_eq_true rfl)⟩ (Nat.le_of_ble_eq_true rfl) ⟨Nat.zero_le _, Nat.zero_le _⟩ dX5_placeInOrder_54 ?_
      refine z_ist C dX5_placeInOrder_57 rfl (Nat.le_of_ble_eq_true rfl) rfl ?_
      refine z_iload_n C 5 dX5_placeInOrder_59 rfl rfl ?_
      refine z_iconst (v := 1) C dX5_placeInOrder_60 ic_1 ?_
      refine z_iload C 1 dX5_placeInOrder_61 rfl ?_
      refine z_shl C dX5_placeInOrder_63 ?_
      refine z_ior C dX5_placeInOrder_64 ?_
      obtain ⟨met30_, h31_, h11_⟩ := lt_ h11_
      refine z_istN C dX5_placeInOrder_65 h31_ rfl (Nat.le_of_ble_eq_true rfl) rfl ?_
      obtain ⟨i32_, h33_, h11_⟩ := lt_ h11_
      refine z_inc C 6 dX5_placeInOrder_66 rfl ic_1 h33_ (Nat.le_of_ble_eq_true rfl) rfl ?_
      refine z_goto C 25 dX5_placeInOrder_69 (by decide) ?_
      refine Z.sub [4, 5, 6, 1, 2, 3, 0] rfl ?_
      exact h10_ _ _ _ _ h11_
    have K19_ : ¬ (i15_ ≤ k_a) → Z Θ 7 0 0 (zQ Θ ρ) σ 72 [(0, .ref (zA Θ 6)), (1, .int person_a), (2, .int k_a), (3, .int met12_), (4, .int holder13_), (5, .int coming14_), (6, .int i15_)] [] := by
      intro h21_
      rw [if_neg h21_] at h11_
      exact K8_ _ (Option.some.inj h11_).symm
    refine z_iload C 6 dX5_placeInOrder_25 rfl ?_
    refine z_iload_n C 2 dX5_placeInOrder_27 rfl rfl ?_
    refine c_le_f C 72 dX5_placeInOrder_28 (by decide) (fun h20_ => ?_) (fun h20_ => ?_)
    · exact K18_ h20_
    · exact K19_ h20_
  intro y6_r e9
  subst e9
  simp only [Sum.elim_inr] at hf
  refine z_iload C 5 dX5_placeInOrder_72 rfl ?_
  cases hf
  subst hρ
  exact z_iret C dX5_placeInOrder_74
theorem c5_placeInOrder {l : Launch} {kd : List KD} {w : Wp} {σ : St} {person_a : Int32} {k_a : Int32} (hkd : kd = kdC) (hi : zI kd w) {r : Int32} (hf : q5_placeInOrder σ person_a k_a = some r) : zM l kd w yX5_placeInOrder cX5_placeInOrder 7 (some .int) rm5_placeInOrder [.ref (w.2.2.1 6), .int person_a, .int k_a] σ (some (.int r), σ) := zM_of rfl hi (Nat.le_of_ble_eq_true rfl) (fun Θ hl hw C => by
  obtain ⟨Θ1, Θ2, Θ3, Θ4, Θ5⟩ := Θ
  cases hw
  exact p5_placeInOrder C hkd  hf rfl)
/-! LastLoaf.order -/
theorem w_6_233 : Cond.code ({ cls := "LastLoaf$Poll", name := "placeInOrder", desc := "(II)I" } : MethodName) prog_7_method_23_code (7 : Nat) (Option.some ClassFile.FieldType.int) ∈ TB := tb_in (lwt_6 (List.mem_of_getElem? (i := 233) (by decide +kernel))) rfl
theorem w_6_230 : Cond.methodLink "LastLoaf" (308 : Nat) ({ cls := "LastLoaf$Poll", name := "placeInOrder", desc := "(II)I" } : MethodName) ∈ TB := tb_in (lwt_6 (List.mem_of_getElem? (i := 230) (by decide +kernel))) rfl
theorem w_6_231 : Cond.instanceMethod ({ cls := "LastLoaf$Poll", name := "placeInOrder", desc := "(II)I" } : MethodName) ∈ TB := tb_in (lwt_6 (List.mem_of_getElem? (i := 231) (by decide +kernel))) rfl
theorem w_6_232 : Cond.selects "LastLoaf$Poll" ({ cls := "LastLoaf$Poll", name := "placeInOrder", desc := "(II)I" } : MethodName) ({ cls := "LastLoaf$Poll", name := "placeInOrder", desc := "(II)I" } : MethodName) ∈ TB := tb_in (lwt_6 (List.mem_of_getElem? (i := 232) (by decide +kernel))) rfl
theorem cr11_308 {Θ : Tz} {cc : ByteArray} {nL kc ks : Nat} {ret : Option FieldType} {rm : Room} {Q : State → Prop} {σ : St} {pc : Nat} {lv : List (Nat × Value)} {st : List Value} (C : Zc Θ cc nL RX11 ret rm) (hkd : Θ.2.2.2.2.1 = kdC) {person_a : Int32} {k_a : Int32} {r : Int32} (hx : q5_placeInOrder σ person_a k_a = some r) (hrm : rm5_placeInOrder.frames + 1 ≤ rm.frames ∧ 8 + (7 + 11) + rm5_placeInOrder.locals ≤ rm.locals) (hcat : (st.map fun v => v.category).sum ≤ 8) (hk : kc ≤ rm.cells ∧ ks ≤ rm.slots) (hd : decode cc pc = .ok (.invokevirtual 308, 3)) (kk : Z Θ nL kc ks Q σ (pc + 3) lv (.int r :: st)) : Z Θ nL kc ks Q σ pc lv (.int k_a :: .int person_a :: .ref (zA Θ 6) :: st) := z_callV C 6 [.int person_a, .int k_a] (some (.int r), σ) 2 (kC_6 hkd) rfl (c5_placeInOrder (person_a := person_a) (k_a := k_a) hkd (zc_inj C) hx) w_6_233 w_6_230 w_6_231 w_6_232 w_1_9 ⟨rfl, rfl, hrm.1, hrm.2⟩ (by decide +kernel) rfl rfl hcat hk hd kk
theorem dX11_order_0 : decode cX11_order 0 = .ok (.aload_n 0, 1) := by decide +kernel
theorem dX11_order_1 : decode cX11_order 1 = .ok (.iload_n 1, 1) := by decide +kernel
theorem dX11_order_2 : decode cX11_order 2 = .ok (.invokevirtual 151, 3) := by decide +kernel
theorem dX11_order_5 : decode cX11_order 5 = .ok (.aload_n 0, 1) := by decide +kernel
theorem dX11_order_6 : decode cX11_order 6 = .ok (.invokevirtual 180, 3) := by decide +kernel
theorem dX11_order_9 : decode cX11_order 9 = .ok (.invokevirtual 302, 3) := by decide +kernel
theorem dX11_order_12 : decode cX11_order 12 = .ok (.aload_n 0, 1) := by decide +kernel
theorem dX11_order_13 : decode cX11_order 13 = .ok (.getfield 61, 3) := by decide +kernel
theorem dX11_order_16 : decode cX11_order 16 = .ok (.iload_n 1, 1) := by decide +kernel
theorem dX11_order_17 : decode cX11_order 17 = .ok (.iload_n 2, 1) := by decide +kernel
theorem dX11_order_18 : decode cX11_order 18 = .ok (.invokevirtual 308, 3) := by decide +kernel
theorem dX11_order_21 : decode cX11_order 21 = .ok (.ireturn, 1) := by decide +kernel
def q11_order (σ : St) (person_a : Int32) (k_a : Int32) : Option (Sum Nat Int32 × St) :=
  thn (q11_needPerson σ person_a) σ
  (Option.bind (q11_pollNow σ) fun x3_ =>
  Option.bind (q5_meetInAllOrders x3_.2) fun x5_ =>
  Option.bind (q5_placeInOrder x5_ person_a k_a) fun x7_ =>
  some (.inr x7_, x5_))
abbrev rm11_order : Room := { frames := 7, cells := 1, slots := 6, locals := 116 }
set_option maxHeartbeats 4000000 in
set_option maxRecDepth 100000 in
theorem p11_order {Θ : Tz} {σ : St} {ω : Om} (C : Zc Θ cX11_order 3 RX11 (some .int) rm11_order) (hkd : Θ.2.2.2.2.1 = kdC) (hlt : Θ.1.2.1.stackTraces = false) (het : ∀ x ∈ Θ.2.2.1.2.exceptionTable.toList, False) {person_a : Int32} {k_a : Int32} {r : (Sum Nat Int32 × St)} (hf : q11_order σ person_a k_a = some r) (hω : ω = om (fun v => some (.int v)) r) : Z Θ 3 0 0 (zQX Θ ω 1 6) σ 0 [(0, .ref (zA Θ 0)), (1, .int person_a), (2, .int k_a)] [] := by
  unfold q11_order at hf
  refine z_aload_n C 0 dX11_order_0 rfl rfl ?_
  refine z_iload_n C 1 dX11_order_1 rfl rfl ?_
  refine zx_callV C het 0 [.int person_a] (q11_needPerson σ person_a) 1 6 1 (kC_0 hkd) rfl (c11_needPerson (person_a := person_a) hkd (zc_inj C) hlt) w_5_227 w_5_224 w_5_226 ws_LastLoaf_needPerson_I_V w_1_1 ⟨rfl, rfl, (Nat.le_of_ble_eq_true rfl), (Nat.le_of_ble_eq_true rfl)⟩ (by decide +kernel) rfl rfl (Nat.le_of_ble_eq_true rfl) ⟨(Nat.le_of_ble_eq_true rfl), (Nat.le_of_ble_eq_true rfl)⟩ dX11_order_2 ⟨(Nat.le_of_ble_eq_true rfl), (Nat.le_of_ble_eq_true rfl)⟩ (fun e9 h2_ => by rw [h2_] at hf; cases hf; exact hω) (fun h1_ => ?_)
  rw [h1_] at hf
  replace hf := thn_x hf
  refine z_aload_n C 0 dX11_order_5 rfl rfl ?_
  obtain ⟨x3_, h4_, hf⟩ := ob hf
  refine cr11_180 C hkd  h4_ ⟨(Nat.le_of_ble_eq_true rfl), (Nat.le_of_ble_eq_true rfl)⟩ (Nat.le_of_ble_eq_true rfl) ⟨(Nat.le_of_ble_eq_true rfl), (Nat.le_of_ble_eq_true rfl)⟩ dX11_order_6 ?_
  rw [rp11_pollNow h4_]
  obtain ⟨x5_, h6_, hf⟩ := ob hf
  refine cr11_302 C hkd  h6_ ⟨(Nat.le_of_ble_eq_true rfl), (Nat.le_of_ble_eq_true rfl)⟩ (Nat.le_of_ble_eq_true rfl) ⟨(Nat.le_of_ble_eq_true rfl), (Nat.le_of_ble_eq_true rfl)⟩ dX11_order_9 ?_
  refine z_aload_n C 0 dX11_order_12 rfl rfl ?_
  refine fg11_61 C hkd dX11_order_13 ?_
  refine z_iload_n C 1 dX11_order_16 rfl rfl ?_
  refine z_iload_n C 2 dX11_order_17 rfl rfl ?_
  obtain ⟨x7_, h8_, hf⟩ := ob hf
  refine cr11_308 (person_a := person_a) (k_a := k_a) C hkd  h8_ ⟨(Nat.le_of_ble_eq_true rfl), (Nat.le_of_ble_eq_true rfl)⟩ (Nat.le_of_ble_eq_true rfl) ⟨(Nat.le_of_ble_eq_true rfl), (Nat.le_of_ble_eq_true rfl)⟩ dX11_order_18 ?_
  cases hf
  subst hω
  exact zx_iret C ⟨(Nat.le_of_ble_eq_true rfl), (Nat.le_of_ble_eq_true rfl)⟩ dX11_order_21
theorem c11_order {l : Launch} {kd : List KD} {w : Wp} {σ : St} {person_a : Int32} {k_a : Int32} (hkd : kd = kdC) (hi : zI kd w) (hlt : l.stackTraces = false) {r : (Sum Nat Int32 × St)} (hf : q11_order σ person_a k_a = some r) : zX l kd w yX11_order cX11_order 3 (some .int) rm11_order [.ref (w.2.2.1 0), .int person_a, .int k_a] σ (om (fun v => some (.int v)) r) 1 6 := zX_of rfl hi (Nat.le_of_ble_eq_true rfl) (fun Θ hl hw C het => by
  obtain ⟨Θ1, Θ2, Θ3, Θ4, Θ5⟩ := Θ
  cases hw
  cases hl
  exact p11_order C hkd hlt het  hf rfl)
/-! LastLoaf$Turns.bake -/
theorem w_2_95 : Cond.fieldLink "LastLoaf$Turns" (15 : Nat) "LastLoaf$Turns" "flours" "[I" ∈ TB := tb_in (lwt_2 (List.mem_of_getElem? (i := 95) (by decide +kernel))) rfl
theorem fg9_15 {Θ : Tz} {cc : ByteArray} {nL kc ks : Nat} {ret : Option FieldType} {rm : Room} {Q : State → Prop} {σ : St} {pc : Nat} {lv : List (Nat × Value)} {st : List Value} (C : Zc Θ cc nL RX9 ret rm) (hkd : Θ.2.2.2.2.1 = kdC) (hd : decode cc pc = .ok (.getfield 15, 3)) (kk : Z Θ nL kc ks Q σ (pc + 3) lv (.ref (zA Θ 16) :: st)) : Z Θ nL kc ks Q σ pc lv (.ref (zA Θ 14) :: st) := z_get C inT9 14 (kC_14 hkd) rfl 1 (by decide) w_2_95 rfl hd kk
theorem w_2_97 : Cond.fieldLink "LastLoaf$Turns" (21 : Nat) "LastLoaf$Turns" "grists" "[I" ∈ TB := tb_in (lwt_2 (List.mem_of_getElem? (i := 97) (by decide +kernel))) rfl
theorem fg9_21 {Θ : Tz} {cc : ByteArray} {nL kc ks : Nat} {ret : Option FieldType} {rm : Room} {Q : State → Prop} {σ : St} {pc : Nat} {lv : List (Nat × Value)} {st : List Value} (C : Zc Θ cc nL RX9 ret rm) (hkd : Θ.2.2.2.2.1 = kdC) (hd : decode cc pc = .ok (.getfield 21, 3)) (kk : Z Θ nL kc ks Q σ (pc + 3) lv (.ref (zA Θ 18) :: st)) : Z Θ nL kc ks Q σ pc lv (.ref (zA Θ 14) :: st) := z_get C inT9 14 (kC_14 hkd) rfl 3 (by decide) w_2_97 rfl hd kk
theorem w_7_10 : Cond.methodLink "LastLoaf$Turns" (53 : Nat) ({ cls := "java/lang/Math", name := "min", desc := "(II)I" } : MethodName) ∈ TB := tb_in (lwt_7 (List.mem_of_getElem? (i := 10) (by decide +kernel))) rfl
theorem w_2_101 : Cond.fieldLink "LastLoaf$Turns" (30 : Nat) "LastLoaf$Turns" "people" "I" ∈ TB := tb_in (lwt_2 (List.mem_of_getElem? (i := 101) (by decide +kernel))) rfl
theorem fg9_30 {Θ : Tz} {cc : ByteArray} {nL kc ks : Nat} {ret : Option FieldType} {rm : Room} {Q : State → Prop} {σ : St} {pc : Nat} {lv : List (Nat × Value)} {st : List Value} (C : Zc Θ cc nL RX9 ret rm) (hkd : Θ.2.2.2.2.1 = kdC) (hd : decode cc pc = .ok (.getfield 30, 3)) (kk : Z Θ nL kc ks Q σ (pc + 3) lv (.int (σ 14 6) :: st)) : Z Θ nL kc ks Q σ pc lv (.ref (zA Θ 14) :: st) := z_get C inT9 14 (kC_14 hkd) rfl 6 (by decide) w_2_101 rfl hd kk
theorem w_2_94 : Cond.fieldLink "LastLoaf$Turns" (9 : Nat) "LastLoaf$Turns" "hungers" "[I" ∈ TB := tb_in (lwt_2 (List.mem_of_getElem? (i := 94) (by decide +kernel))) rfl
theorem fg9_9 {Θ : Tz} {cc : ByteArray} {nL kc ks : Nat} {ret : Option FieldType} {rm : Room} {Q : State → Prop} {σ : St} {pc : Nat} {lv : List (Nat × Value)} {st : List Value} (C : Zc Θ cc nL RX9 ret rm) (hkd : Θ.2.2.2.2.1 = kdC) (hd : decode cc pc = .ok (.getfield 9, 3)) (kk : Z Θ nL kc ks Q σ (pc + 3) lv (.ref (zA Θ 15) :: st)) : Z Θ nL kc ks Q σ pc lv (.ref (zA Θ 14) :: st) := z_get C inT9 14 (kC_14 hkd) rfl 0 (by decide) w_2_94 rfl hd kk
theorem w_2_96 : Cond.fieldLink "LastLoaf$Turns" (18 : Nat) "LastLoaf$Turns" "benches" "[I" ∈ TB := tb_in (lwt_2 (List.mem_of_getElem? (i := 96) (by decide +kernel))) rfl
theorem fg9_18 {Θ : Tz} {cc : ByteArray} {nL kc ks : Nat} {ret : Option FieldType} {rm : Room} {Q : State → Prop} {σ : St} {pc : Nat} {lv : List (Nat × Value)} {st : List Value} (C : Zc Θ cc nL RX9 ret rm) (hkd : Θ.2.2.2.2.1 = kdC) (hd : decode cc pc = .ok (.getfield 18, 3)) (kk : Z Θ nL kc ks Q σ (pc + 3) lv (.ref (zA Θ 17) :: st)) : Z Θ nL kc ks Q σ pc lv (.ref (zA Θ 14) :: st) := z_get C inT9 14 (kC_14 hkd) rfl 2 (by decide) w_2_96 rfl hd kk
theorem cr9_90 {Θ : Tz} {cc : ByteArray} {nL kc ks : Nat} {ret : Option FieldType} {rm : Room} {Q : State → Prop} {σ : St} {pc : Nat} {lv : List (Nat × Value)} {st : List Value} (C : Zc Θ cc nL RX9 ret rm) (hkd : Θ.2.2.2.2.1 = kdC) {set_a : Int32} {person_a : Int32} (hrm : rm11_isIn.frames + 1 ≤ rm.frames ∧ 8 + (2 + 11) + rm11_isIn.locals ≤ rm.locals) (hcat : (st.map fun v => v.category).sum ≤ 8) (hk : kc ≤ rm.cells ∧ ks ≤ rm.slots) (hd : decode cc pc = .ok (.invokestatic 90, 3)) (kk : Z Θ nL kc ks Q σ (pc + 3) lv (.int (b2i (q11_isIn set_a person_a)) :: st)) : Z Θ nL kc ks Q σ pc lv (.int person_a :: .int set_a :: st) := z_callSN (host := "LastLoaf") C [.int set_a, .int person_a] (some (.int (b2i (q11_isIn set_a person_a))), σ) 2 (c11_isIn (set_a := set_a) (person_a := person_a) hkd (zc_inj C)) w_3_36 (List.mem_of_getElem? (i := 25) rfl) w_3_35 w_1_1 ⟨rfl, rfl, hrm.1, hrm.2⟩ (by decide +kernel) rfl rfl hcat hk hd kk
theorem w_2_102 : Cond.fieldLink "LastLoaf$Turns" (34 : Nat) "LastLoaf$Turns" "standing" "I" ∈ TB := tb_in (lwt_2 (List.mem_of_getElem? (i := 102) (by decide +kernel))) rfl
theorem fg9_34 {Θ : Tz} {cc : ByteArray} {nL kc ks : Nat} {ret : Option FieldType} {rm : Room} {Q : State → Prop} {σ : St} {pc : Nat} {lv : List (Nat × Value)} {st : List Value} (C : Zc Θ cc nL RX9 ret rm) (hkd : Θ.2.2.2.2.1 = kdC) (hd : decode cc pc = .ok (.getfield 34, 3)) (kk : Z Θ nL kc ks Q σ (pc + 3) lv (.int (σ 14 7) :: st)) : Z Θ nL kc ks Q σ pc lv (.ref (zA Θ 14) :: st) := z_get C inT9 14 (kC_14 hkd) rfl 7 (by decide) w_2_102 rfl hd kk
theorem w_7_22 : Cond.methodLink "LastLoaf$Turns" (97 : Nat) ({ cls := "java/lang/Math", name := "max", desc := "(II)I" } : MethodName) ∈ TB := tb_in (lwt_7 (List.mem_of_getElem? (i := 22) (by decide +kernel))) rfl
theorem dX9_bake_0 : decode cX9_bake 0 = .ok (.iload_n 1, 1) := by decide +kernel
theorem dX9_bake_1 : decode cX9_bake 1 = .ok (.bipush 6, 2) := by decide +kernel
theorem dX9_bake_3 : decode cX9_bake 3 = .ok (.imul, 1) := by decide +kernel
theorem dX9_bake_4 : decode cX9_bake 4 = .ok (.istore_n 3, 1) := by decide +kernel
theorem dX9_bake_5 : decode cX9_bake 5 = .ok (.iload_n 3, 1) := by decide +kernel
theorem dX9_bake_6 : decode cX9_bake 6 = .ok (.bipush 6, 2) := by decide +kernel
theorem dX9_bake_8 : decode cX9_bake 8 = .ok (.iadd, 1) := by decide +kernel
theorem dX9_bake_9 : decode cX9_bake 9 = .ok (.istore 4, 2) := by decide +kernel
theorem dX9_bake_11 : decode cX9_bake 11 = .ok (.sipush 9999, 3) := by decide +kernel
theorem dX9_bake_14 : decode cX9_bake 14 = .ok (.aload_n 0, 1) := by decide +kernel
theorem dX9_bake_15 : decode cX9_bake 15 = .ok (.getfield 15, 3) := by decide +kernel
theorem dX9_bake_18 : decode cX9_bake 18 = .ok (.iload_n 1, 1) := by decide +kernel
theorem dX9_bake_19 : decode cX9_bake 19 = .ok (.iaload, 1) := by decide +kernel
theorem dX9_bake_20 : decode cX9_bake 20 = .ok (.aload_n 0, 1) := by decide +kernel
theorem dX9_bake_21 : decode cX9_bake 21 = .ok (.getfield 21, 3) := by decide +kernel
theorem dX9_bake_24 : decode cX9_bake 24 = .ok (.iload_n 1, 1) := by decide +kernel
theorem dX9_bake_25 : decode cX9_bake 25 = .ok (.iaload, 1) := by decide +kernel
theorem dX9_bake_26 : decode cX9_bake 26 = .ok (.iadd, 1) := by decide +kernel
theorem dX9_bake_27 : decode cX9_bake 27 = .ok (.invokestatic 53, 3) := by decide +kernel
theorem dX9_bake_30 : decode cX9_bake 30 = .ok (.istore 5, 2) := by decide +kernel
theorem dX9_bake_32 : decode cX9_bake 32 = .ok (.iconst 0, 1) := by decide +kernel
theorem dX9_bake_33 : decode cX9_bake 33 = .ok (.istore 6, 2) := by decide +kernel
theorem dX9_bake_35 : decode cX9_bake 35 = .ok (.iload 6, 2) := by decide +kernel
theorem dX9_bake_37 : decode cX9_bake 37 = .ok (.aload_n 0, 1) := by decide +kernel
theorem dX9_bake_38 : decode cX9_bake 38 = .ok (.getfield 30, 3) := by decide +kernel
theorem dX9_bake_41 : decode cX9_bake 41 = .ok (.if_icmp .ge 131, 3) := by decide +kernel
theorem dX9_bake_44 : decode cX9_bake 44 = .ok (.bipush 9, 2) := by decide +kernel
theorem dX9_bake_46 : decode cX9_bake 46 = .ok (.aload_n 0, 1) := by decide +kernel
theorem dX9_bake_47 : decode cX9_bake 47 = .ok (.getfield 9, 3) := by decide +kernel
theorem dX9_bake_50 : decode cX9_bake 50 = .ok (.iload_n 3, 1) := by decide +kernel
theorem dX9_bake_51 : decode cX9_bake 51 = .ok (.iload 6, 2) := by decide +kernel
theorem dX9_bake_53 : decode cX9_bake 53 = .ok (.iadd, 1) := by decide +kernel
theorem dX9_bake_54 : decode cX9_bake 54 = .ok (.iaload, 1) := by decide +kernel
theorem dX9_bake_55 : decode cX9_bake 55 = .ok (.iconst 1, 1) := by decide +kernel
theorem dX9_bake_56 : decode cX9_bake 56 = .ok (.iadd, 1) := by decide +kernel
theorem dX9_bake_57 : decode cX9_bake 57 = .ok (.invokestatic 53, 3) := by decide +kernel
theorem dX9_bake_60 : decode cX9_bake 60 = .ok (.istore 7, 2) := by decide +kernel
theorem dX9_bake_62 : decode cX9_bake 62 = .ok (.aload_n 0, 1) := by decide +kernel
theorem dX9_bake_63 : decode cX9_bake 63 = .ok (.getfield 18, 3) := by decide +kernel
theorem dX9_bake_66 : decode cX9_bake 66 = .ok (.iload_n 1, 1) := by decide +kernel
theorem dX9_bake_67 : decode cX9_bake 67 = .ok (.iaload, 1) := by decide +kernel
theorem dX9_bake_68 : decode cX9_bake 68 = .ok (.iload 6, 2) := by decide +kernel
theorem dX9_bake_70 : decode cX9_bake 70 = .ok (.invokestatic 90, 3) := by decide +kernel
theorem dX9_bake_73 : decode cX9_bake 73 = .ok (.ifCond .eq 25, 3) := by decide +kernel
theorem dX9_bake_76 : decode cX9_bake 76 = .ok (.aload_n 0, 1) := by decide +kernel
theorem dX9_bake_77 : decode cX9_bake 77 = .ok (.getfield 9, 3) := by decide +kernel
theorem dX9_bake_80 : decode cX9_bake 80 = .ok (.iload 4, 2) := by decide +kernel
theorem dX9_bake_82 : decode cX9_bake 82 = .ok (.iload 6, 2) := by decide +kernel
theorem dX9_bake_84 : decode cX9_bake 84 = .ok (.iadd, 1) := by decide +kernel
theorem dX9_bake_85 : decode cX9_bake 85 = .ok (.aload_n 0, 1) := by decide +kernel
theorem dX9_bake_86 : decode cX9_bake 86 = .ok (.getfield 9, 3) := by decide +kernel
theorem dX9_bake_89 : decode cX9_bake 89 = .ok (.iload_n 3, 1) := by decide +kernel
theorem dX9_bake_90 : decode cX9_bake 90 = .ok (.iload 6, 2) := by decide +kernel
theorem dX9_bake_92 : decode cX9_bake 92 = .ok (.iadd, 1) := by decide +kernel
theorem dX9_bake_93 : decode cX9_bake 93 = .ok (.iaload, 1) := by decide +kernel
theorem dX9_bake_94 : decode cX9_bake 94 = .ok (.iastore, 1) := by decide +kernel
theorem dX9_bake_95 : decode cX9_bake 95 = .ok (.goto 71, 3) := by decide +kernel
theorem dX9_bake_98 : decode cX9_bake 98 = .ok (.aload_n 0, 1) := by decide +kernel
theorem dX9_bake_99 : decode cX9_bake 99 = .ok (.getfield 34, 3) := by decide +kernel
theorem dX9_bake_102 : decode cX9_bake 102 = .ok (.iload 6, 2) := by decide +kernel
theorem dX9_bake_104 : decode cX9_bake 104 = .ok (.invokestatic 90, 3) := by decide +kernel
theorem dX9_bake_107 : decode cX9_bake 107 = .ok (.ifCond .eq 28, 3) := by decide +kernel
theorem dX9_bake_110 : decode cX9_bake 110 = .ok (.aload_n 0, 1) := by decide +kernel
theorem dX9_bake_111 : decode cX9_bake 111 = .ok (.getfield 9, 3) := by decide +kernel
theorem dX9_bake_114 : decode cX9_bake 114 = .ok (.iload 4, 2) := by decide +kernel
theorem dX9_bake_116 : decode cX9_bake 116 = .ok (.iload 6, 2) := by decide +kernel
theorem dX9_bake_118 : decode cX9_bake 118 = .ok (.iadd, 1) := by decide +kernel
theorem dX9_bake_119 : decode cX9_bake 119 = .ok (.iload 6, 2) := by decide +kernel
theorem dX9_bake_121 : decode cX9_bake 121 = .ok (.iload_n 2, 1) := by decide +kernel
theorem dX9_bake_122 : decode cX9_bake 122 = .ok (.if_icmp .ne 7, 3) := by decide +kernel
theorem dX9_bake_125 : decode cX9_bake 125 = .ok (.iconst 0, 1) := by decide +kernel
theorem dX9_bake_126 : decode cX9_bake 126 = .ok (.goto 5, 3) := by decide +kernel
theorem dX9_bake_129 : decode cX9_bake 129 = .ok (.iload 7, 2) := by decide +kernel
theorem dX9_bake_131 : decode cX9_bake 131 = .ok (.iastore, 1) := by decide +kernel
theorem dX9_bake_132 : decode cX9_bake 132 = .ok (.goto 34, 3) := by decide +kernel
theorem dX9_bake_135 : decode cX9_bake 135 = .ok (.aload_n 0, 1) := by decide +kernel
theorem dX9_bake_136 : decode cX9_bake 136 = .ok (.getfield 9, 3) := by decide +kernel
theorem dX9_bake_139 : decode cX9_bake 139 = .ok (.iload 4, 2) := by decide +kernel
theorem dX9_bake_141 : decode cX9_bake 141 = .ok (.iload 6, 2) := by decide +kernel
theorem dX9_bake_143 : decode cX9_bake 143 = .ok (.iadd, 1) := by decide +kernel
theorem dX9_bake_144 : decode cX9_bake 144 = .ok (.iload 5, 2) := by decide +kernel
theorem dX9_bake_146 : decode cX9_bake 146 = .ok (.ifCond .le 7, 3) := by decide +kernel
theorem dX9_bake_149 : decode cX9_bake 149 = .ok (.iconst 0, 1) := by decide +kernel
theorem dX9_bake_150 : decode cX9_bake 150 = .ok (.goto 5, 3) := by decide +kernel
theorem dX9_bake_153 : decode cX9_bake 153 = .ok (.iload 7, 2) := by decide +kernel
theorem dX9_bake_155 : decode cX9_bake 155 = .ok (.iastore, 1) := by decide +kernel
theorem dX9_bake_156 : decode cX9_bake 156 = .ok (.iconst 0, 1) := by decide +kernel
theorem dX9_bake_157 : decode cX9_bake 157 = .ok (.iload 5, 2) := by decide +kernel
theorem dX9_bake_159 : decode cX9_bake 159 = .ok (.iconst 1, 1) := by decide +kernel
theorem dX9_bake_160 : decode cX9_bake 160 = .ok (.isub, 1) := by decide +kernel
theorem dX9_bake_161 : decode cX9_bake 161 = .ok (.invokestatic 97, 3) := by decide +kernel
theorem dX9_bake_164 : decode cX9_bake 164 = .ok (.istore 5, 2) := by decide +kernel
theorem dX9_bake_166 : decode cX9_bake 166 = .ok (.iinc 6 1, 3) := by decide +kernel
theorem dX9_bake_169 : decode cX9_bake 169 = .ok (.goto (-134), 3) := by decide +kernel
theorem dX9_bake_172 : decode cX9_bake 172 = .ok (.iload_n 2, 1) := by decide +kernel
theorem dX9_bake_173 : decode cX9_bake 173 = .ok (.iconst (-1), 1) := by decide +kernel
theorem dX9_bake_174 : decode cX9_bake 174 = .ok (.if_icmp .eq 10, 3) := by decide +kernel
theorem dX9_bake_177 : decode cX9_bake 177 = .ok (.iload 5, 2) := by decide +kernel
theorem dX9_bake_179 : decode cX9_bake 179 = .ok (.ifCond .ne 5, 3) := by decide +kernel
theorem dX9_bake_182 : decode cX9_bake 182 = .ok (.iconst 0, 1) := by decide +kernel
theorem dX9_bake_183 : decode cX9_bake 183 = .ok (.ireturn, 1) := by decide +kernel
theorem dX9_bake_184 : decode cX9_bake 184 = .ok (.aload_n 0, 1) := by decide +kernel
theorem dX9_bake_185 : decode cX9_bake 185 = .ok (.getfield 15, 3) := by decide +kernel
theorem dX9_bake_188 : decode cX9_bake 188 = .ok (.iload_n 1, 1) := by decide +kernel
theorem dX9_bake_189 : decode cX9_bake 189 = .ok (.iconst 1, 1) := by decide +kernel
theorem dX9_bake_190 : decode cX9_bake 190 = .ok (.iadd, 1) := by decide +kernel
theorem dX9_bake_191 : decode cX9_bake 191 = .ok (.iload_n 2, 1) := by decide +kernel
theorem dX9_bake_192 : decode cX9_bake 192 = .ok (.iconst (-1), 1) := by decide +kernel
theorem dX9_bake_193 : decode cX9_bake 193 = .ok (.if_icmp .ne 8, 3) := by decide +kernel
theorem dX9_bake_196 : decode cX9_bake 196 = .ok (.iload 5, 2) := by decide +kernel
theorem dX9_bake_198 : decode cX9_bake 198 = .ok (.goto 7, 3) := by decide +kernel
theorem dX9_bake_201 : decode cX9_bake 201 = .ok (.iload 5, 2) := by decide +kernel
theorem dX9_bake_203 : decode cX9_bake 203 = .ok (.iconst 1, 1) := by decide +kernel
theorem dX9_bake_204 : decode cX9_bake 204 = .ok (.isub, 1) := by decide +kernel
theorem dX9_bake_205 : decode cX9_bake 205 = .ok (.iastore, 1) := by decide +kernel
theorem dX9_bake_206 : decode cX9_bake 206 = .ok (.aload_n 0, 1) := by decide +kernel
theorem dX9_bake_207 : decode cX9_bake 207 = .ok (.getfield 18, 3) := by decide +kernel
theorem dX9_bake_210 : decode cX9_bake 210 = .ok (.iload_n 1, 1) := by decide +kernel
theorem dX9_bake_211 : decode cX9_bake 211 = .ok (.iconst 1, 1) := by decide +kernel
theorem dX9_bake_212 : decode cX9_bake 212 = .ok (.iadd, 1) := by decide +kernel
theorem dX9_bake_213 : decode cX9_bake 213 = .ok (.aload_n 0, 1) := by decide +kernel
theorem dX9_bake_214 : decode cX9_bake 214 = .ok (.getfield 18, 3) := by decide +kernel
theorem dX9_bake_217 : decode cX9_bake 217 = .ok (.iload_n 1, 1) := by decide +kernel
theorem dX9_bake_218 : decode cX9_bake 218 = .ok (.iaload, 1) := by decide +kernel
theorem dX9_bake_219 : decode cX9_bake 219 = .ok (.iastore, 1) := by decide +kernel
theorem dX9_bake_220 : decode cX9_bake 220 = .ok (.iconst 0, 1) := by decide +kernel
theorem dX9_bake_221 : decode cX9_bake 221 = .ok (.istore 6, 2) := by decide +kernel
theorem dX9_bake_223 : decode cX9_bake 223 = .ok (.iload 6, 2) := by decide +kernel
theorem dX9_bake_225 : decode cX9_bake 225 = .ok (.aload_n 0, 1) := by decide +kernel
theorem dX9_bake_226 : decode cX9_bake 226 = .ok (.getfield 30, 3) := by decide +kernel
theorem dX9_bake_229 : decode cX9_bake 229 = .ok (.if_icmp .ge 39, 3) := by decide +kernel
theorem dX9_bake_232 : decode cX9_bake 232 = .ok (.aload_n 0, 1) := by decide +kernel
theorem dX9_bake_233 : decode cX9_bake 233 = .ok (.getfield 9, 3) := by decide +kernel
theorem dX9_bake_236 : decode cX9_bake 236 = .ok (.iload 4, 2) := by decide +kernel
theorem dX9_bake_238 : decode cX9_bake 238 = .ok (.iload 6, 2) := by decide +kernel
theorem dX9_bake_240 : decode cX9_bake 240 = .ok (.iadd, 1) := by decide +kernel
theorem dX9_bake_241 : decode cX9_bake 241 = .ok (.iaload, 1) := by decide +kernel
theorem dX9_bake_242 : decode cX9_bake 242 = .ok (.bipush 9, 2) := by decide +kernel
theorem dX9_bake_244 : decode cX9_bake 244 = .ok (.if_icmp .ne 18, 3) := by decide +kernel
theorem dX9_bake_247 : decode cX9_bake 247 = .ok (.aload_n 0, 1) := by decide +kernel
theorem dX9_bake_248 : decode cX9_bake 248 = .ok (.getfield 18, 3) := by decide +kernel
theorem dX9_bake_251 : decode cX9_bake 251 = .ok (.iload_n 1, 1) := by decide +kernel
theorem dX9_bake_252 : decode cX9_bake 252 = .ok (.iconst 1, 1) := by decide +kernel
theorem dX9_bake_253 : decode cX9_bake 253 = .ok (.iadd, 1) := by decide +kernel
theorem dX9_bake_254 : decode cX9_bake 254 = .ok (.dup2, 1) := by decide +kernel
theorem dX9_bake_255 : decode cX9_bake 255 = .ok (.iaload, 1) := by decide +kernel
theorem dX9_bake_256 : decode cX9_bake 256 = .ok (.iconst 1, 1) := by decide +kernel
theorem dX9_bake_257 : decode cX9_bake 257 = .ok (.iload 6, 2) := by decide +kernel
theorem dX9_bake_259 : decode cX9_bake 259 = .ok (.ishl, 1) := by decide +kernel
theorem dX9_bake_260 : decode cX9_bake 260 = .ok (.ior, 1) := by decide +kernel
theorem dX9_bake_261 : decode cX9_bake 261 = .ok (.iastore, 1) := by decide +kernel
theorem dX9_bake_262 : decode cX9_bake 262 = .ok (.iinc 6 1, 3) := by decide +kernel
theorem dX9_bake_265 : decode cX9_bake 265 = .ok (.goto (-42), 3) := by decide +kernel
theorem dX9_bake_268 : decode cX9_bake 268 = .ok (.iconst 1, 1) := by decide +kernel
theorem dX9_bake_269 : decode cX9_bake 269 = .ok (.ireturn, 1) := by decide +kernel
def q9_bake (σ : St) (depth_a : Int32) (eater_a : Int32) : Option (Bool × St) :=
  lt (depth_a * 6) fun from1_ =>
  lt (from1_ + 6) fun to3_ =>
  Option.bind (ag σ 16 6 depth_a) fun x5_ =>
  Option.bind (ag σ 18 5 depth_a) fun x7_ =>
  lt (imin 9999 (x5_ + x7_)) fun flour9_ =>
  Option.bind (loop3 (fun rec14_ (flour17_ : Int32) (p18_ : Int32) (σ19_ : St) =>
  if p18_ < (σ19_ 14 6) then
  Option.bind (ag σ19_ 15 36 (from1_ + p18_)) fun x26_ =>
  lt (imin 9 (x26_ + 1)) fun hungerMore28_ =>
  Option.bind (Option.bind (ag σ19_ 17 6 depth_a) fun x35_ =>
  if q11_isIn x35_ p18_ = true then (Option.bind (ag σ19_ 15 36 (from1_ + p18_)) fun x39_ =>
  Option.bind (sa σ19_ 15 36 (to3_ + p18_) x39_) fun σ41_ =>
  some (flour17_, σ41_)) else (Option.bind (if q11_isIn (σ19_ 14 7) p18_ = true then (Option.bind (sa σ19_ 15 36 (to3_ + p18_) (if p18_ = eater_a then 0 else hungerMore28_)) fun σ55_ =>
  some (flour17_, σ55_)) else (Option.bind (sa σ19_ 15 36 (to3_ + p18_) (if 0 < flour17_ then 0 else hungerMore28_)) fun σ62_ =>
  lt (imax 0 (flour17_ - 1)) fun flour64_ =>
  some (flour64_, σ62_))) fun y43_ =>
  some (y43_.1, y43_.2))) fun y30_ =>
  lt (p18_ + 1) fun p66_ =>
  rec14_ y30_.1 p66_ y30_.2
  else (some (flour17_, p18_, σ19_))) fuelN flour9_ (0 : Int32) σ) fun y11_ =>
  if (¬ eater_a = (-1)) ∧ (y11_.1 = 0) then (some (false, y11_.2.2)) else
  Option.bind (sa y11_.2.2 16 6 (depth_a + 1) (if eater_a = (-1) then y11_.1 else y11_.1 - 1)) fun σ78_ =>
  Option.bind (ag σ78_ 17 6 depth_a) fun x80_ =>
  Option.bind (sa σ78_ 17 6 (depth_a + 1) x80_) fun σ82_ =>
  Option.bind (loop2 (fun rec87_ (p90_ : Int32) (σ91_ : St) =>
  if p90_ < (σ91_ 14 6) then
  Option.bind (Option.bind (ag σ91_ 15 36 (to3_ + p90_)) fun x103_ =>
  if x103_ = 9 then (Option.bind (ag σ91_ 17 6 (depth_a + 1)) fun x107_ =>
  Option.bind (sa σ91_ 17 6 (depth_a + 1) (x107_ ||| (shl 1 p90_))) fun σ109_ =>
  some (σ109_)) else (some (σ91_))) fun y98_ =>
  lt (p90_ + 1) fun p111_ =>
  rec87_ p111_ y98_
  else (some (p90_, σ91_))) fuelN (0 : Int32) σ82_) fun y84_ =>
  some (true, y84_.2)
abbrev rm9_bake : Room := { frames := 1, cells := 0, slots := 0, locals := 21 }
set_option maxHeartbeats 4000000 in
set_option maxRecDepth 100000 in
theorem p9_bake {Θ : Tz} {σ : St} {ρ : Option Value × St} (C : Zc Θ cX9_bake 8 RX9 (some .boolean) rm9_bake) (hkd : Θ.2.2.2.2.1 = kdC) {depth_a : Int32} {eater_a : Int32} {r : (Bool × St)} (hf : q9_bake σ depth_a eater_a = some r) (hρ : ρ = (some (.int (b2i r.1)), r.2)) : Z Θ 8 0 0 (zQ Θ ρ) σ 0 [(0, .ref (zA Θ 14)), (1, .int depth_a), (2, .int eater_a)] [] := by
  unfold q9_bake at hf
  refine z_iload_n C 1 dX9_bake_0 rfl rfl ?_
  refine z_bipush (v := 6) C dX9_bake_1 bp_6 ?_
  refine z_imul C dX9_bake_3 ?_
  obtain ⟨from1_, h2_, hf⟩ := lt_ hf
  refine z_istN C dX9_bake_4 h2_ rfl (Nat.le_of_ble_eq_true rfl) rfl ?_
  refine z_iload_n C 0 dX9_bake_5 rfl rfl ?_
  refine z_bipush (v := 6) C dX9_bake_6 bp_6 ?_
  refine z_iadd C dX9_bake_8 ?_
  obtain ⟨to3_, h4_, hf⟩ := lt_ hf
  refine z_ist C dX9_bake_9 h4_ (Nat.le_of_ble_eq_true rfl) rfl ?_
  refine z_sipush (v := 9999) C dX9_bake_11 sp_9999 ?_
  refine z_aload_n C 2 dX9_bake_14 rfl rfl ?_
  refine fg9_15 C hkd dX9_bake_15 ?_
  refine z_iload_n C 3 dX9_bake_18 rfl rfl ?_
  obtain ⟨x5_, h6_, hf⟩ := ob hf
  refine z_ag C h6_ (kC_16 hkd) dX9_bake_19 ?_
  refine z_aload_n C 2 dX9_bake_20 rfl rfl ?_
  refine fg9_21 C hkd dX9_bake_21 ?_
  refine z_iload_n C 3 dX9_bake_24 rfl rfl ?_
  obtain ⟨x7_, h8_, hf⟩ := ob hf
  refine z_ag C h8_ (kC_18 hkd) dX9_bake_25 ?_
  refine z_iadd C dX9_bake_26 ?_
  refine z_min C w_7_10 w_3_129 w_1_28 w_3_130 ⟨(Nat.le_of_ble_eq_true rfl), (Nat.le_of_ble_eq_true rfl)⟩ (Nat.le_of_ble_eq_true rfl) ⟨Nat.zero_le _, Nat.zero_le _⟩ dX9_bake_27 ?_
  obtain ⟨flour9_, h10_, hf⟩ := lt_ hf
  refine z_ist C dX9_bake_30 h10_ (Nat.le_of_ble_eq_true rfl) rfl ?_
  refine z_iconst (v := 0) C dX9_bake_32 ic_0 ?_
  refine z_ist C dX9_bake_33 rfl (Nat.le_of_ble_eq_true rfl) rfl ?_
  refine Z.sub [4, 5, 6, 3, 2, 1, 0] rfl ?_
  obtain ⟨y11_, h12_, hf⟩ := ob hf
  suffices K13_ : Z Θ 8 0 0 (zQ Θ ρ) y11_.2.2 172 [(0, .ref (zA Θ 14)), (1, .int depth_a), (2, .int eater_a), (3, .int from1_), (4, .int to3_), (5, .int y11_.1), (6, .int y11_.2.1)] [] by
    refine loop3_Z (P := fun (flour17_ : Int32) (p18_ : Int32) (σ19_ : St) => Z Θ 8 0 0 (zQ Θ ρ) σ19_ 35 [(0, .ref (zA Θ 14)), (1, .int depth_a), (2, .int eater_a), (3, .int from1_), (4, .int to3_), (5, .int flour17_), (6, .int p18_)] []) ?_ fuelN flour9_ (0 : Int32) σ h12_
    clear h12_
    intro rec14_ flour17_ p18_ σ19_ h15_ h16_
    have K22_ : p18_ < (σ19_ 14 6) → Z Θ 8 0 0 (zQ Θ ρ) σ19_ 44 [(0, .ref (zA Θ 14)), (1, .int depth_a), (2, .int eater_a), (3, .int from1_), (4, .int to3_), (5, .int flour17_), (6, .int p18_)] [] := by
      intro h25_
      rw [if_pos h25_] at h16_
      refine z_bipush (v := 9) C dX9_bake_44 bp_9 ?_
      refine z_aload_n C 0 dX9_bake_46 rfl rfl ?_
      refine fg9_9 C hkd dX9_bake_47 ?_
      refine z_iload_n C 3 dX9_bake_50 rfl rfl ?_
      refine z_iload C 6 dX9_bake_51 rfl ?_
      refine z_iadd C dX9_bake_53 ?_
      obtain ⟨x26_, h27_, h16_⟩ := ob h16_
      refine z_ag C h27_ (kC_15 hkd) dX9_bake_54 ?_
      refine z_iconst (v := 1) C dX9_bake_55 ic_1 ?_
      refine z_iadd C dX9_bake_56 ?_
      refine z_min C w_7_10 w_3_129 w_1_28 w_3_130 ⟨(Nat.le_of_ble_eq_true rfl), (Nat.le_of_ble_eq_true rfl)⟩ (Nat.le_of_ble_eq_true rfl) ⟨Nat.zero_le _, Nat.zero_le _⟩ dX9_bake_57 ?_
      obtain ⟨hungerMore28_, h29_, h16_⟩ := lt_ h16_
      refine z_ist C dX9_bake_60 h29_ (Nat.le_of_ble_eq_true rfl) rfl ?_
      obtain ⟨y30_, h31_, h16_⟩ := ob h16_
      suffices K32_ : Z Θ 8 0 0 (zQ Θ ρ) y30_.2 166 [(0, .ref (zA Θ 14)), (1, .int depth_a), (2, .int eater_a), (3, .int from1_), (4, .int to3_), (5, .int y30_.1), (6, .int p18_), (7, .int hungerMore28_)] [] by
        refine z_aload_n C 1 dX9_bake_62 rfl rfl ?_
        refine fg9_18 C hkd dX9_bake_63 ?_
        refine z_iload_n C 2 dX9_bake_66 rfl rfl ?_
        obtain ⟨x35_, h36_, h31_⟩ := ob h31_
        refine z_ag C h36_ (kC_17 hkd) dX9_bake_67 ?_
        refine z_iload C 7 dX9_bake_68 rfl ?_
        refine cr9_90 (set_a := x35_) (person_a := p18_) C hkd  ⟨(Nat.le_of_ble_eq_true rfl), (Nat.le_of_ble_eq_true rfl)⟩ (Nat.le_of_ble_eq_true rfl) ⟨Nat.zero_le _, Nat.zero_le _⟩ dX9_bake_70 ?_
        have K33_ : q11_isIn x35_ p18_ = true → Z Θ 8 0 0 (zQ Θ ρ) σ19_ 76 [(7, .int hungerMore28_), (0, .ref (zA Θ 14)), (1, .int depth_a), (2, .int eater_a), (3, .int from1_), (4, .int to3_), (5, .int flour17_), (6, .int p18_)] [] := by
          intro h38_
          rw [if_pos h38_] at h31_
          refine z_aload_n C 1 dX9_bake_76 rfl rfl ?_
          refine fg9_9 C hkd dX9_bake_77 ?_
          refine z_iload C 5 dX9_bake_80 rfl ?_
          refine z_iload C 7 dX9_bake_82 rfl ?_
          refine z_iadd C dX9_bake_84 ?_
          refine z_aload_n C 1 dX9_bake_85 rfl rfl ?_
          refine fg9_9 C hkd dX9_bake_86 ?_
          refine z_iload_n C 4 dX9_bake_89 rfl rfl ?_
          refine z_iload C 7 dX9_bake_90 rfl ?_
          refine z_iadd C dX9_bake_92 ?_
          obtain ⟨x39_, h40_, h31_⟩ := ob h31_
          refine z_ag C h40_ (kC_15 hkd) dX9_bake_93 ?_
          obtain ⟨σ41_, h42_, h31_⟩ := ob h31_
          refine z_sa C h42_ (kC_15 hkd) dX9_bake_94 ?_
          refine z_goto C 166 dX9_bake_95 (by decide) ?_
          cases h31_
          refine Z.sub [1, 2, 3, 4, 5, 6, 7, 0] rfl ?_
          exact K32_
        have K34_ : ¬ (q11_isIn x35_ p18_ = true) → Z Θ 8 0 0 (zQ Θ ρ) σ19_ 98 [(7, .int hungerMore28_), (0, .ref (zA Θ 14)), (1, .int depth_a), (2, .int eater_a), (3, .int from1_), (4, .int to3_), (5, .int flour17_), (6, .int p18_)] [] := by
          intro h38_
          rw [if_neg h38_] at h31_
          obtain ⟨y43_, h44_, h31_⟩ := ob h31_
          suffices K45_ : Z Θ 8 0 0 (zQ Θ ρ) y43_.2 166 [(0, .ref (zA Θ 14)), (1, .int depth_a), (2, .int eater_a), (3, .int from1_), (4, .int to3_), (5, .int y43_.1), (6, .int p18_), (7, .int hungerMore28_)] [] by
            have K46_ : q11_isIn (σ19_ 14 7) p18_ = true → Z Θ 8 0 0 (zQ Θ ρ) σ19_ 110 [(7, .int hungerMore28_), (0, .ref (zA Θ 14)), (1, .int depth_a), (2, .int eater_a), (3, .int from1_), (4, .int to3_), (5, .int flour17_), (6, .int p18_)] [] := by
              intro h49_
              rw [if_pos h49_] at h44_
              refine z_aload_n C 1 dX9_bake_110 rfl rfl ?_
              refine fg9_9 C hkd dX9_bake_111 ?_
              refine z_iload C 5 dX9_bake_114 rfl ?_
              refine z_iload C 7 dX9_bake_116 rfl ?_
              refine z_iadd C dX9_bake_118 ?_
              suffices K50_ : Z Θ 8 0 0 (zQ Θ ρ) σ19_ 131 [(7, .int hungerMore28_), (0, .ref (zA Θ 14)), (1, .int depth_a), (2, .int eater_a), (3, .int from1_), (4, .int to3_), (5, .int flour17_), (6, .int p18_)] [.int (if p18_ = eater_a then 0 else hungerMore28_), .int (to3_ + p18_), .ref (zA Θ 15)] by
                have K51_ : p18_ = eater_a → Z Θ 8 0 0 (zQ Θ ρ) σ19_ 125 [(7, .int hungerMore28_), (0, .ref (zA Θ 14)), (1, .int depth_a), (2, .int eater_a), (3, .int from1_), (4, .int to3_), (5, .int flour17_), (6, .int p18_)] [.int (to3_ + p18_), .ref (zA Θ 15)] := by
                  intro h54_
                  rw [if_pos h54_] at K50_
                  refine z_iconst (v := 0) C dX9_bake_125 ic_0 ?_
                  refine z_goto C 131 dX9_bake_126 (by decide) ?_
                  exact K50_
                have K52_ : ¬ (p18_ = eater_a) → Z Θ 8 0 0 (zQ Θ ρ) σ19_ 129 [(7, .int hungerMore28_), (0, .ref (zA Θ 14)), (1, .int depth_a), (2, .int eater_a), (3, .int from1_), (4, .int to3_), (5, .int flour17_), (6, .int p18_)] [.int (to3_ + p18_), .ref (zA Θ 15)] := by
                  intro h54_
                  rw [if_neg h54_] at K50_
                  refine z_iload C 0 dX9_bake_129 rfl ?_
                  exact K50_
                refine z_iload C 7 dX9_bake_119 rfl ?_
                refine z_iload_n C 3 dX9_bake_121 rfl rfl ?_
                refine c_eq_f C 129 dX9_bake_122 (by decide) (fun h53_ => ?_) (fun h53_ => ?_)
                · exact K51_ h53_
                · exact K52_ h53_
              obtain ⟨σ55_, h56_, h44_⟩ := ob h44_
              refine z_sa C h56_ (kC_15 hkd) dX9_bake_131 ?_
              refine z_goto C 166 dX9_bake_132 (by decide) ?_
              cases h44_
              refine Z.sub [1, 2, 3, 4, 5, 6, 7, 0] rfl ?_
              exact K45_
            have K47_ : ¬ (q11_isIn (σ19_ 14 7) p18_ = true) → Z Θ 8 0 0 (zQ Θ ρ) σ19_ 135 [(7, .int hungerMore28_), (0, .ref (zA Θ 14)), (1, .int depth_a), (2, .int eater_a), (3, .int from1_), (4, .int to3_), (5, .int flour17_), (6, .int p18_)] [] := by
              intro h49_
              rw [if_neg h49_] at h44_
              refine z_aload_n C 1 dX9_bake_135 rfl rfl ?_
              refine fg9_9 C hkd dX9_bake_136 ?_
              refine z_iload C 5 dX9_bake_139 rfl ?_
              refine z_iload C 7 dX9_bake_141 rfl ?_
              refine z_iadd C dX9_bake_143 ?_
              suffices K57_ : Z Θ 8 0 0 (zQ Θ ρ) σ19_ 155 [(7, .int hungerMore28_), (0, .ref (zA Θ 14)), (1, .int depth_a), (2, .int eater_a), (3, .int from1_), (4, .int to3_), (5, .int flour17_), (6, .int p18_)] [.int (if 0 < flour17_ then 0 else hungerMore28_), .int (to3_ + p18_), .ref (zA Θ 15)] by
                have K58_ : 0 < flour17_ → Z Θ 8 0 0 (zQ Θ ρ) σ19_ 149 [(7, .int hungerMore28_), (0, .ref (zA Θ 14)), (1, .int depth_a), (2, .int eater_a), (3, .int from1_), (4, .int to3_), (5, .int flour17_), (6, .int p18_)] [.int (to3_ + p18_), .ref (zA Θ 15)] := by
                  intro h61_
                  rw [if_pos h61_] at K57_
                  refine z_iconst (v := 0) C dX9_bake_149 ic_0 ?_
                  refine z_goto C 155 dX9_bake_150 (by decide) ?_
                  exact K57_
                have K59_ : ¬ (0 < flour17_) → Z Θ 8 0 0 (zQ Θ ρ) σ19_ 153 [(7, .int hungerMore28_), (0, .ref (zA Θ 14)), (1, .int depth_a), (2, .int eater_a), (3, .int from1_), (4, .int to3_), (5, .int flour17_), (6, .int p18_)] [.int (to3_ + p18_), .ref (zA Θ 15)] := by
                  intro h61_
                  rw [if_neg h61_] at K57_
                  refine z_iload C 0 dX9_bake_153 rfl ?_
                  exact K57_
                refine z_iload C 6 dX9_bake_144 rfl ?_
                refine c0_gt_f C 153 dX9_bake_146 (by decide) (fun h60_ => ?_) (fun h60_ => ?_)
                · exact K58_ h60_
                · exact K59_ h60_
              obtain ⟨σ62_, h63_, h44_⟩ := ob h44_
              refine z_sa C h63_ (kC_15 hkd) dX9_bake_155 ?_
              refine z_iconst (v := 0) C dX9_bake_156 ic_0 ?_
              refine z_iload C 6 dX9_bake_157 rfl ?_
              refine z_iconst (v := 1) C dX9_bake_159 ic_1 ?_
              refine z_isub C dX9_bake_160 ?_
              refine z_max C w_7_22 w_3_176 w_1_28 w_3_177 ⟨(Nat.le_of_ble_eq_true rfl), (Nat.le_of_ble_eq_true rfl)⟩ (Nat.le_of_ble_eq_true rfl) ⟨Nat.zero_le _, Nat.zero_le _⟩ dX9_bake_161 ?_
              obtain ⟨flour64_, h65_, h44_⟩ := lt_ h44_
              refine z_ist C dX9_bake_164 h65_ (Nat.le_of_ble_eq_true rfl) rfl ?_
              cases h44_
              refine Z.sub [2, 3, 4, 5, 6, 0, 7, 1] rfl ?_
              exact K45_
            refine z_aload_n C 1 dX9_bake_98 rfl rfl ?_
            refine fg9_34 C hkd dX9_bake_99 ?_
            refine z_iload C 7 dX9_bake_102 rfl ?_
            refine cr9_90 (set_a := (σ19_ 14 7)) (person_a := p18_) C hkd  ⟨(Nat.le_of_ble_eq_true rfl), (Nat.le_of_ble_eq_true rfl)⟩ (Nat.le_of_ble_eq_true rfl) ⟨Nat.zero_le _, Nat.zero_le _⟩ dX9_bake_104 ?_
            refine cb_f C 135 dX9_bake_107 (by decide) (fun h48_ => ?_) (fun h48_ => ?_)
            · exact K46_ h48_
            · exact K47_ h48_
          cases h31_
          exact K32_
        refine cb_f C 98 dX9_bake_73 (by decide) (fun h37_ => ?_) (fun h37_ => ?_)
        · exact K33_ h37_
        · exact K34_ h37_
      obtain ⟨p66_, h67_, h16_⟩ := lt_ h16_
      refine z_inc C 6 dX9_bake_166 rfl ic_1 h67_ (Nat.le_of_ble_eq_true rfl) rfl ?_
      refine z_goto C 35 dX9_bake_169 (by decide) ?_
      refine Z.sub [1, 2, 3, 4, 5, 6, 0] rfl ?_
      exact h15_ _ _ _ h16_
    have K23_ : ¬ (p18_ < (σ19_ 14 6)) → Z Θ 8 0 0 (zQ Θ ρ) σ19_ 172 [(0, .ref (zA Θ 14)), (1, .int depth_a), (2, .int eater_a), (3, .int from1_), (4, .int to3_), (5, .int flour17_), (6, .int p18_)] [] := by
      intro h25_
      rw [if_neg h25_] at h16_
      cases h16_
      exact K13_
    refine z_iload C 6 dX9_bake_35 rfl ?_
    refine z_aload_n C 0 dX9_bake_37 rfl rfl ?_
    refine fg9_30 C hkd dX9_bake_38 ?_
    refine c_lt_f C 172 dX9_bake_41 (by decide) (fun h24_ => ?_) (fun h24_ => ?_)
    · exact K22_ h24_
    · exact K23_ h24_
  have K68_ : (¬ eater_a = (-1)) ∧ (y11_.1 = 0) → Z Θ 8 0 0 (zQ Θ ρ) y11_.2.2 182 [(0, .ref (zA Θ 14)), (1, .int depth_a), (2, .int eater_a), (3, .int from1_), (4, .int to3_), (5, .int y11_.1), (6, .int y11_.2.1)] [] := by
    intro h72_
    rw [if_pos h72_] at hf
    refine z_iconst (v := 0) C dX9_bake_182 ic_0 ?_
    cases hf
    subst hρ
    exact z_zret C (b2i_narrow _) dX9_bake_183
  suffices K69_ : ¬ ((¬ eater_a = (-1)) ∧ (y11_.1 = 0)) → Z Θ 8 0 0 (zQ Θ ρ) y11_.2.2 184 [(0, .ref (zA Θ 14)), (1, .int depth_a), (2, .int eater_a), (3, .int from1_), (4, .int to3_), (5, .int y11_.1), (6, .int y11_.2.1)] [] by
    refine z_iload_n C 2 dX9_bake_172 rfl rfl ?_
    refine z_iconst (v := (-1)) C dX9_bake_173 ic_m1 ?_
    refine c_ne_f C 184 dX9_bake_174 (by decide) (fun h70_ => ?_) (fun h70_ => ?_)
    · refine z_iload C 5 dX9_bake_177 rfl ?_
      refine c0_eq_f C 184 dX9_bake_179 (by decide) (fun h71_ => ?_) (fun h71_ => ?_)
      · exact K68_ ⟨h70_, h71_⟩
      · exact K69_ (fun n => h71_ n.2)
    · exact K69_ (fun n => h70_ n.1)
  intro h72_
  rw [if_neg h72_] at hf
  refine z_aload_n C 0 dX9_bake_184 rfl rfl ?_
  refine fg9_15 C hkd dX9_bake_185 ?_
  refine z_iload_n C 1 dX9_bake_188 rfl rfl ?_
  refine z_iconst (v := 1) C dX9_bake_189 ic_1 ?_
  refine z_iadd C dX9_bake_190 ?_
  suffices K73_ : Z Θ 8 0 0 (zQ Θ ρ) y11_.2.2 205 [(0, .ref (zA Θ 14)), (1, .int depth_a), (2, .int eater_a), (3, .int from1_), (4, .int to3_), (5, .int y11_.1), (6, .int y11_.2.1)] [.int (if eater_a = (-1) then y11_.1 else y11_.1 - 1), .int (depth_a + 1), .ref (zA Θ 16)] by
    have K74_ : eater_a = (-1) → Z Θ 8 0 0 (zQ Θ ρ) y11_.2.2 196 [(0, .ref (zA Θ 14)), (1, .int depth_a), (2, .int eater_a), (3, .int from1_), (4, .int to3_), (5, .int y11_.1), (6, .int y11_.2.1)] [.int (depth_a + 1), .ref (zA Θ 16)] := by
      intro h77_
      rw [if_pos h77_] at K73_
      refine z_iload C 5 dX9_bake_196 rfl ?_
      refine z_goto C 205 dX9_bake_198 (by decide) ?_
      exact K73_
    have K75_ : ¬ (eater_a = (-1)) → Z Θ 8 0 0 (zQ Θ ρ) y11_.2.2 201 [(0, .ref (zA Θ 14)), (1, .int depth_a), (2, .int eater_a), (3, .int from1_), (4, .int to3_), (5, .int y11_.1), (6, .int y11_.2.1)] [.int (depth_a + 1), .ref (zA Θ 16)] := by
      intro h77_
      rw [if_neg h77_] at K73_
      refine z_iload C 5 dX9_bake_201 rfl ?_
      refine z_iconst (v := 1) C dX9_bake_203 ic_1 ?_
      refine z_isub C dX9_bake_204 ?_
      exact K73_
    refine z_iload_n C 2 dX9_bake_191 rfl rfl ?_
    refine z_iconst (v := (-1)) C dX9_bake_192 ic_m1 ?_
    refine c_eq_f C 201 dX9_bake_193 (by decide) (fun h76_ => ?_) (fun h76_ => ?_)
    · exact K74_ h76_
    · exact K75_ h76_
  obtain ⟨σ78_, h79_, hf⟩ := ob hf
  refine z_sa C h79_ (kC_16 hkd) dX9_bake_205 ?_
  refine z_aload_n C 0 dX9_bake_206 rfl rfl ?_
  refine fg9_18 C hkd dX9_bake_207 ?_
  refine z_iload_n C 1 dX9_bake_210 rfl rfl ?_
  refine z_iconst (v := 1) C dX9_bake_211 ic_1 ?_
  refine z_iadd C dX9_bake_212 ?_
  refine z_aload_n C 0 dX9_bake_213 rfl rfl ?_
  refine fg9_18 C hkd dX9_bake_214 ?_
  refine z_iload_n C 1 dX9_bake_217 rfl rfl ?_
  obtain ⟨x80_, h81_, hf⟩ := ob hf
  refine z_ag C h81_ (kC_17 hkd) dX9_bake_218 ?_
  obtain ⟨σ82_, h83_, hf⟩ := ob hf
  refine z_sa C h83_ (kC_17 hkd) dX9_bake_219 ?_
  refine z_iconst (v := 0) C dX9_bake_220 ic_0 ?_
  refine z_ist C dX9_bake_221 rfl (Nat.le_of_ble_eq_true rfl) rfl ?_
  refine Z.sub [1, 2, 3, 4, 5, 6, 0] rfl ?_
  obtain ⟨y84_, h85_, hf⟩ := ob hf
  suffices K86_ : Z Θ 8 0 0 (zQ Θ ρ) y84_.2 268 [(0, .ref (zA Θ 14)), (1, .int depth_a), (2, .int eater_a), (3, .int from1_), (4, .int to3_), (5, .int y11_.1), (6, .int y84_.1)] [] by
    refine loop2_Z (P := fun (p90_ : Int32) (σ91_ : St) => Z Θ 8 0 0 (zQ Θ ρ) σ91_ 223 [(0, .ref (zA Θ 14)), (1, .int depth_a), (2, .int eater_a), (3, .int from1_), (4, .int to3_), (5, .int y11_.1), (6, .int p90_)] []) ?_ fuelN (0 : Int32) σ82_ h85_
    clear h85_
    intro rec87_ p90_ σ91_ h88_ h89_
    have K94_ : p90_ < (σ91_ 14 6) → Z Θ 8 0 0 (zQ Θ ρ) σ91_ 232 [(0, .ref (zA Θ 14)), (1, .int depth_a), (2, .int eater_a), (3, .int from1_), (4, .int to3_), (5, .int y11_.1), (6, .int p90_)] [] := by
      intro h97_
      rw [if_pos h97_] at h89_
      obtain ⟨y98_, h99_, h89_⟩ := ob h89_
      suffices K100_ : Z Θ 8 0 0 (zQ Θ ρ) y98_ 262 [(0, .ref (zA Θ 14)), (1, .int depth_a), (2, .int eater_a), (3, .int from1_), (4, .int to3_), (5, .int y11_.1), (6, .int p90_)] [] by
        refine z_aload_n C 0 dX9_bake_232 rfl rfl ?_
        refine fg9_9 C hkd dX9_bake_233 ?_
        refine z_iload C 4 dX9_bake_236 rfl ?_
        refine z_iload C 6 dX9_bake_238 rfl ?_
        refine z_iadd C dX9_bake_240 ?_
        obtain ⟨x103_, h104_, h99_⟩ := ob h99_
        refine z_ag C h104_ (kC_15 hkd) dX9_bake_241 ?_
        refine z_bipush (v := 9) C dX9_bake_242 bp_9 ?_
        have K101_ : x103_ = 9 → Z Θ 8 0 0 (zQ Θ ρ) σ91_ 247 [(0, .ref (zA Θ 14)), (1, .int depth_a), (2, .int eater_a), (3, .int from1_), (4, .int to3_), (5, .int y11_.1), (6, .int p90_)] [] := by
          intro h106_
          rw [if_pos h106_] at h99_
          refine z_aload_n C 0 dX9_bake_247 rfl rfl ?_
          refine fg9_18 C hkd dX9_bake_248 ?_
          refine z_iload_n C 1 dX9_bake_251 rfl rfl ?_
          refine z_iconst (v := 1) C dX9_bake_252 ic_1 ?_
          refine z_iadd C dX9_bake_253 ?_
          refine z_dup2 C dX9_bake_254 rfl rfl ?_
          obtain ⟨x107_, h108_, h99_⟩ := ob h99_
          refine z_ag C h108_ (kC_17 hkd) dX9_bake_255 ?_
          refine z_iconst (v := 1) C dX9_bake_256 ic_1 ?_
          refine z_iload C 6 dX9_bake_257 rfl ?_
          refine z_shl C dX9_bake_259 ?_
          refine z_ior C dX9_bake_260 ?_
          obtain ⟨σ109_, h110_, h99_⟩ := ob h99_
          refine z_sa C h110_ (kC_17 hkd) dX9_bake_261 ?_
          cases h99_
          exact K100_
        have K102_ : ¬ (x103_ = 9) → Z Θ 8 0 0 (zQ Θ ρ) σ91_ 262 [(0, .ref (zA Θ 14)), (1, .int depth_a), (2, .int eater_a), (3, .int from1_), (4, .int to3_), (5, .int y11_.1), (6, .int p90_)] [] := by
          intro h106_
          rw [if_neg h106_] at h99_
          cases h99_
          exact K100_
        refine c_eq_f C 262 dX9_bake_244 (by decide) (fun h105_ => ?_) (fun h105_ => ?_)
        · exact K101_ h105_
        · exact K102_ h105_
      obtain ⟨p111_, h112_, h89_⟩ := lt_ h89_
      refine z_inc C 6 dX9_bake_262 rfl ic_1 h112_ (Nat.le_of_ble_eq_true rfl) rfl ?_
      refine z_goto C 223 dX9_bake_265 (by decide) ?_
      refine Z.sub [1, 2, 3, 4, 5, 6, 0] rfl ?_
      exact h88_ _ _ h89_
    have K95_ : ¬ (p90_ < (σ91_ 14 6)) → Z Θ 8 0 0 (zQ Θ ρ) σ91_ 268 [(0, .ref (zA Θ 14)), (1, .int depth_a), (2, .int eater_a), (3, .int from1_), (4, .int to3_), (5, .int y11_.1), (6, .int p90_)] [] := by
      intro h97_
      rw [if_neg h97_] at h89_
      cases h89_
      exact K86_
    refine z_iload C 6 dX9_bake_223 rfl ?_
    refine z_aload_n C 0 dX9_bake_225 rfl rfl ?_
    refine fg9_30 C hkd dX9_bake_226 ?_
    refine c_lt_f C 268 dX9_bake_229 (by decide) (fun h96_ => ?_) (fun h96_ => ?_)
    · exact K94_ h96_
    · exact K95_ h96_
  refine z_iconst (v := 1) C dX9_bake_268 ic_1 ?_
  cases hf
  subst hρ
  exact z_zret C (b2i_narrow _) dX9_bake_269
theorem c9_bake {l : Launch} {kd : List KD} {w : Wp} {σ : St} {depth_a : Int32} {eater_a : Int32} (hkd : kd = kdC) (hi : zI kd w) {r : (Bool × St)} (hf : q9_bake σ depth_a eater_a = some r) : zM l kd w yX9_bake cX9_bake 8 (some .boolean) rm9_bake [.ref (w.2.2.1 14), .int depth_a, .int eater_a] σ (some (.int (b2i r.1)), r.2) := zM_of rfl hi (Nat.le_of_ble_eq_true rfl) (fun Θ hl hw C => by
  obtain ⟨Θ1, Θ2, Θ3, Θ4, Θ5⟩ := Θ
  cases hw
  exact p9_bake C hkd  hf rfl)

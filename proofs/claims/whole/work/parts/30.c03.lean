/-! LastLoaf$Reader.waitFor -/
theorem dX6_waitFor_0 : decode cX6_waitFor 0 = .ok (.aload_n 0, 1) := by decide +kernel
theorem dX6_waitFor_1 : decode cX6_waitFor 1 = .ok (.getfield 15, 3) := by decide +kernel
theorem dX6_waitFor_4 : decode cX6_waitFor 4 = .ok (.bipush 32, 2) := by decide +kernel
theorem dX6_waitFor_6 : decode cX6_waitFor 6 = .ok (.if_icmp .ge 23, 3) := by decide +kernel
theorem dX6_waitFor_9 : decode cX6_waitFor 9 = .ok (.aload_n 0, 1) := by decide +kernel
theorem dX6_waitFor_10 : decode cX6_waitFor 10 = .ok (.getfield 9, 3) := by decide +kernel
theorem dX6_waitFor_13 : decode cX6_waitFor 13 = .ok (.aload_n 0, 1) := by decide +kernel
theorem dX6_waitFor_14 : decode cX6_waitFor 14 = .ok (.getfield 15, 3) := by decide +kernel
theorem dX6_waitFor_17 : decode cX6_waitFor 17 = .ok (.iload_n 1, 1) := by decide +kernel
theorem dX6_waitFor_18 : decode cX6_waitFor 18 = .ok (.iastore, 1) := by decide +kernel
theorem dX6_waitFor_19 : decode cX6_waitFor 19 = .ok (.aload_n 0, 1) := by decide +kernel
theorem dX6_waitFor_20 : decode cX6_waitFor 20 = .ok (.dup, 1) := by decide +kernel
theorem dX6_waitFor_21 : decode cX6_waitFor 21 = .ok (.getfield 15, 3) := by decide +kernel
theorem dX6_waitFor_24 : decode cX6_waitFor 24 = .ok (.iconst 1, 1) := by decide +kernel
theorem dX6_waitFor_25 : decode cX6_waitFor 25 = .ok (.iadd, 1) := by decide +kernel
theorem dX6_waitFor_26 : decode cX6_waitFor 26 = .ok (.putfield 15, 3) := by decide +kernel
theorem dX6_waitFor_29 : decode cX6_waitFor 29 = .ok (.return_, 1) := by decide +kernel
def q6_waitFor (σ : St) (sign_a : Int32) : Option St :=
  Option.bind (if (σ 3 4) < 32 then (Option.bind (sa σ 4 32 (σ 3 4) sign_a) fun σ8_ =>
  lt (up σ8_ 3 4 ((σ8_ 3 4) + 1)) fun σ10_ =>
  some (σ10_)) else (some (σ))) fun y1_ =>
  some y1_
abbrev rm6_waitFor : Room := { frames := 0, cells := 0, slots := 0, locals := 0 }
set_option maxHeartbeats 4000000 in
set_option maxRecDepth 100000 in
theorem p6_waitFor {Θ : Tz} {σ : St} {ρ : Option Value × St} (C : Zc Θ cX6_waitFor 2 RX6 none rm6_waitFor) (hkd : Θ.2.2.2.2.1 = kdC) {sign_a : Int32} {r : St} (hf : q6_waitFor σ sign_a = some r) (hρ : ρ = (none, r)) : Z Θ 2 0 0 (zQ Θ ρ) σ 0 [(0, .ref (zA Θ 3)), (1, .int sign_a)] [] := by
  unfold q6_waitFor at hf
  obtain ⟨y1_, h2_, hf⟩ := ob hf
  suffices K3_ : Z Θ 2 0 0 (zQ Θ ρ) y1_ 29 [(0, .ref (zA Θ 3)), (1, .int sign_a)] [] by
    have K4_ : (σ 3 4) < 32 → Z Θ 2 0 0 (zQ Θ ρ) σ 9 [(0, .ref (zA Θ 3)), (1, .int sign_a)] [] := by
      intro h7_
      rw [if_pos h7_] at h2_
      refine z_aload_n C 0 dX6_waitFor_9 rfl rfl ?_
      refine fg6_9 C hkd dX6_waitFor_10 ?_
      refine z_aload_n C 0 dX6_waitFor_13 rfl rfl ?_
      refine fg6_15 C hkd dX6_waitFor_14 ?_
      refine z_iload_n C 1 dX6_waitFor_17 rfl rfl ?_
      obtain ⟨σ8_, h9_, h2_⟩ := ob h2_
      refine z_sa C h9_ (kC_4 hkd) dX6_waitFor_18 ?_
      refine z_aload_n C 0 dX6_waitFor_19 rfl rfl ?_
      refine z_dup C dX6_waitFor_20 rfl ?_
      refine fg6_15 C hkd dX6_waitFor_21 ?_
      refine z_iconst (v := 1) C dX6_waitFor_24 ic_1 ?_
      refine z_iadd C dX6_waitFor_25 ?_
      obtain ⟨σ10_, h11_, h2_⟩ := lt_ h2_
      refine fp6_15 C hkd h11_ dX6_waitFor_26 ?_
      cases h2_
      exact K3_
    have K5_ : ¬ ((σ 3 4) < 32) → Z Θ 2 0 0 (zQ Θ ρ) σ 29 [(0, .ref (zA Θ 3)), (1, .int sign_a)] [] := by
      intro h7_
      rw [if_neg h7_] at h2_
      cases h2_
      exact K3_
    refine z_aload_n C 0 dX6_waitFor_0 rfl rfl ?_
    refine fg6_15 C hkd dX6_waitFor_1 ?_
    refine z_bipush (v := 32) C dX6_waitFor_4 bp_32 ?_
    refine c_lt_f C 29 dX6_waitFor_6 (by decide) (fun h6_ => ?_) (fun h6_ => ?_)
    · exact K4_ h6_
    · exact K5_ h6_
  cases hf
  subst hρ
  exact z_vret C dX6_waitFor_29
theorem c6_waitFor {l : Launch} {kd : List KD} {w : Wp} {σ : St} {sign_a : Int32} (hkd : kd = kdC) (hi : zI kd w) {r : St} (hf : q6_waitFor σ sign_a = some r) : zM l kd w yX6_waitFor cX6_waitFor 2 none rm6_waitFor [.ref (w.2.2.1 3), .int sign_a] σ (none, r) := zM_of rfl hi (Nat.le_of_ble_eq_true rfl) (fun Θ hl hw C => by
  obtain ⟨Θ1, Θ2, Θ3, Θ4, Θ5⟩ := Θ
  cases hw
  exact p6_waitFor C hkd  hf rfl)
/-! LastLoaf$Reader.openAtoms -/
theorem sp_1106 : (Int16.ofInt (1106)).toInt32 = 1106 := by decide +kernel
theorem w_5_177 : Cond.code ({ cls := "LastLoaf$Reader", name := "waitFor", desc := "(I)V" } : MethodName) prog_8_method_17_code (2 : Nat) (Option.none : Option ClassFile.FieldType) ∈ TB := tb_in (lwt_5 (List.mem_of_getElem? (i := 177) (by decide +kernel))) rfl
theorem w_5_174 : Cond.methodLink "LastLoaf$Reader" (182 : Nat) ({ cls := "LastLoaf$Reader", name := "waitFor", desc := "(I)V" } : MethodName) ∈ TB := tb_in (lwt_5 (List.mem_of_getElem? (i := 174) (by decide +kernel))) rfl
theorem w_5_175 : Cond.instanceMethod ({ cls := "LastLoaf$Reader", name := "waitFor", desc := "(I)V" } : MethodName) ∈ TB := tb_in (lwt_5 (List.mem_of_getElem? (i := 175) (by decide +kernel))) rfl
theorem w_5_176 : Cond.selects "LastLoaf$Reader" ({ cls := "LastLoaf$Reader", name := "waitFor", desc := "(I)V" } : MethodName) ({ cls := "LastLoaf$Reader", name := "waitFor", desc := "(I)V" } : MethodName) ∈ TB := tb_in (lwt_5 (List.mem_of_getElem? (i := 176) (by decide +kernel))) rfl
theorem cr6_182 {Θ : Tz} {cc : ByteArray} {nL kc ks : Nat} {ret : Option FieldType} {rm : Room} {Q : State → Prop} {σ : St} {pc : Nat} {lv : List (Nat × Value)} {st : List Value} (C : Zc Θ cc nL RX6 ret rm) (hkd : Θ.2.2.2.2.1 = kdC) {sign_a : Int32} {r : St} (hx : q6_waitFor σ sign_a = some r) (hrm : rm6_waitFor.frames + 1 ≤ rm.frames ∧ 8 + (2 + 11) + rm6_waitFor.locals ≤ rm.locals) (hcat : (st.map fun v => v.category).sum ≤ 8) (hk : kc ≤ rm.cells ∧ ks ≤ rm.slots) (hd : decode cc pc = .ok (.invokevirtual 182, 3)) (kk : Z Θ nL kc ks Q r (pc + 3) lv st) : Z Θ nL kc ks Q σ pc lv (.int sign_a :: .ref (zA Θ 3) :: st) := z_callV C 3 [.int sign_a] (none, r) 1 (kC_3 hkd) rfl (c6_waitFor (sign_a := sign_a) hkd (zc_inj C) hx) w_5_177 w_5_174 w_5_175 w_5_176 w_1_7 ⟨rfl, rfl, hrm.1, hrm.2⟩ (by decide +kernel) rfl rfl hcat hk hd kk
theorem dX6_openAtoms_0 : decode cX6_openAtoms 0 = .ok (.iconst 0, 1) := by decide +kernel
theorem dX6_openAtoms_1 : decode cX6_openAtoms 1 = .ok (.istore_n 1, 1) := by decide +kernel
theorem dX6_openAtoms_2 : decode cX6_openAtoms 2 = .ok (.iload_n 1, 1) := by decide +kernel
theorem dX6_openAtoms_3 : decode cX6_openAtoms 3 = .ok (.bipush 6, 2) := by decide +kernel
theorem dX6_openAtoms_5 : decode cX6_openAtoms 5 = .ok (.if_icmp .gt 82, 3) := by decide +kernel
theorem dX6_openAtoms_8 : decode cX6_openAtoms 8 = .ok (.aload_n 0, 1) := by decide +kernel
theorem dX6_openAtoms_9 : decode cX6_openAtoms 9 = .ok (.getfield 22, 3) := by decide +kernel
theorem dX6_openAtoms_12 : decode cX6_openAtoms 12 = .ok (.ldc 187, 2) := by decide +kernel
theorem dX6_openAtoms_14 : decode cX6_openAtoms 14 = .ok (.invokevirtual 55, 3) := by decide +kernel
theorem dX6_openAtoms_17 : decode cX6_openAtoms 17 = .ok (.istore_n 2, 1) := by decide +kernel
theorem dX6_openAtoms_18 : decode cX6_openAtoms 18 = .ok (.iload_n 2, 1) := by decide +kernel
theorem dX6_openAtoms_19 : decode cX6_openAtoms 19 = .ok (.ifCond .ne 17, 3) := by decide +kernel
theorem dX6_openAtoms_22 : decode cX6_openAtoms 22 = .ok (.aload_n 0, 1) := by decide +kernel
theorem dX6_openAtoms_23 : decode cX6_openAtoms 23 = .ok (.getfield 22, 3) := by decide +kernel
theorem dX6_openAtoms_26 : decode cX6_openAtoms 26 = .ok (.bipush 40, 2) := by decide +kernel
theorem dX6_openAtoms_28 : decode cX6_openAtoms 28 = .ok (.invokevirtual 46, 3) := by decide +kernel
theorem dX6_openAtoms_31 : decode cX6_openAtoms 31 = .ok (.ifCond .ne 5, 3) := by decide +kernel
theorem dX6_openAtoms_34 : decode cX6_openAtoms 34 = .ok (.iconst 1, 1) := by decide +kernel
theorem dX6_openAtoms_35 : decode cX6_openAtoms 35 = .ok (.ireturn, 1) := by decide +kernel
theorem dX6_openAtoms_36 : decode cX6_openAtoms 36 = .ok (.aload_n 0, 1) := by decide +kernel
theorem dX6_openAtoms_37 : decode cX6_openAtoms 37 = .ok (.getfield 19, 3) := by decide +kernel
theorem dX6_openAtoms_40 : decode cX6_openAtoms 40 = .ok (.bipush 6, 2) := by decide +kernel
theorem dX6_openAtoms_42 : decode cX6_openAtoms 42 = .ok (.if_icmp .lt 5, 3) := by decide +kernel
theorem dX6_openAtoms_45 : decode cX6_openAtoms 45 = .ok (.iconst 0, 1) := by decide +kernel
theorem dX6_openAtoms_46 : decode cX6_openAtoms 46 = .ok (.ireturn, 1) := by decide +kernel
theorem dX6_openAtoms_47 : decode cX6_openAtoms 47 = .ok (.aload_n 0, 1) := by decide +kernel
theorem dX6_openAtoms_48 : decode cX6_openAtoms 48 = .ok (.dup, 1) := by decide +kernel
theorem dX6_openAtoms_49 : decode cX6_openAtoms 49 = .ok (.getfield 19, 3) := by decide +kernel
theorem dX6_openAtoms_52 : decode cX6_openAtoms 52 = .ok (.iconst 1, 1) := by decide +kernel
theorem dX6_openAtoms_53 : decode cX6_openAtoms 53 = .ok (.iadd, 1) := by decide +kernel
theorem dX6_openAtoms_54 : decode cX6_openAtoms 54 = .ok (.putfield 19, 3) := by decide +kernel
theorem dX6_openAtoms_57 : decode cX6_openAtoms 57 = .ok (.aload_n 0, 1) := by decide +kernel
theorem dX6_openAtoms_58 : decode cX6_openAtoms 58 = .ok (.iload_n 2, 1) := by decide +kernel
theorem dX6_openAtoms_59 : decode cX6_openAtoms 59 = .ok (.ifCond .eq 9, 3) := by decide +kernel
theorem dX6_openAtoms_62 : decode cX6_openAtoms 62 = .ok (.sipush 1105, 3) := by decide +kernel
theorem dX6_openAtoms_65 : decode cX6_openAtoms 65 = .ok (.goto 6, 3) := by decide +kernel
theorem dX6_openAtoms_68 : decode cX6_openAtoms 68 = .ok (.sipush 1106, 3) := by decide +kernel
theorem dX6_openAtoms_71 : decode cX6_openAtoms 71 = .ok (.invokevirtual 182, 3) := by decide +kernel
theorem dX6_openAtoms_74 : decode cX6_openAtoms 74 = .ok (.aload_n 0, 1) := by decide +kernel
theorem dX6_openAtoms_75 : decode cX6_openAtoms 75 = .ok (.getfield 22, 3) := by decide +kernel
theorem dX6_openAtoms_78 : decode cX6_openAtoms 78 = .ok (.invokevirtual 50, 3) := by decide +kernel
theorem dX6_openAtoms_81 : decode cX6_openAtoms 81 = .ok (.iinc 1 1, 3) := by decide +kernel
theorem dX6_openAtoms_84 : decode cX6_openAtoms 84 = .ok (.goto (-82), 3) := by decide +kernel
theorem dX6_openAtoms_87 : decode cX6_openAtoms 87 = .ok (.iconst 0, 1) := by decide +kernel
theorem dX6_openAtoms_88 : decode cX6_openAtoms 88 = .ok (.ireturn, 1) := by decide +kernel
def q6_openAtoms (σ : St) : Option (Bool × St) :=
  Option.bind (loop2 (fun rec4_ (opened7_ : Int32) (σ8_ : St) =>
  if opened7_ ≤ 6 then
  Option.bind (q8_isWord σ8_ 23) fun x15_ =>
  Option.bind (if x15_ = true then (some false) else (Option.bind (q8_isSign σ8_ 40) fun x22_ =>
  if x22_ = true then (some false) else (some true))) fun t19_ =>
  if t19_ = true then (some (.inl (true, σ8_))) else
  if 6 ≤ (σ8_ 3 5) then (some (.inl (false, σ8_))) else
  lt (up σ8_ 3 5 ((σ8_ 3 5) + 1)) fun σ30_ =>
  Option.bind (q6_waitFor σ30_ (if x15_ = true then 1105 else 1106)) fun x37_ =>
  Option.bind (q8_advance x37_) fun x39_ =>
  lt (opened7_ + 1) fun opened41_ =>
  rec4_ opened41_ x39_
  else (some (.inr (opened7_, σ8_)))) fuelN (0 : Int32) σ) fun y1_ =>
  Sum.elim (fun x9 => some x9) (fun y1_r =>
  some (false, y1_r.2)) y1_
abbrev rm6_openAtoms : Room := { frames := 5, cells := 0, slots := 0, locals := 107 }
set_option maxHeartbeats 4000000 in
set_option maxRecDepth 100000 in
theorem p6_openAtoms {Θ : Tz} {σ : St} {ρ : Option Value × St} (C : Zc Θ cX6_openAtoms 3 RX6 (some .boolean) rm6_openAtoms) (hkd : Θ.2.2.2.2.1 = kdC) {r : (Bool × St)} (hf : q6_openAtoms σ = some r) (hρ : ρ = (some (.int (b2i r.1)), r.2)) : Z Θ 3 0 0 (zQ Θ ρ) σ 0 [(0, .ref (zA Θ 3))] [] := by
  unfold q6_openAtoms at hf
  refine z_iconst (v := 0) C dX6_openAtoms_0 ic_0 ?_
  refine z_istN C dX6_openAtoms_1 rfl rfl (Nat.le_of_ble_eq_true rfl) rfl ?_
  refine Z.sub [1, 0] rfl ?_
  obtain ⟨y1_, h2_, hf⟩ := ob hf
  suffices K3_ : ∀ y1_r, y1_ = .inr y1_r → Z Θ 3 0 0 (zQ Θ ρ) y1_r.2 87 [(0, .ref (zA Θ 3)), (1, .int y1_r.1)] [] by
    refine loop2_Z (P := fun (opened7_ : Int32) (σ8_ : St) => Z Θ 3 0 0 (zQ Θ ρ) σ8_ 2 [(0, .ref (zA Θ 3)), (1, .int opened7_)] []) ?_ fuelN (0 : Int32) σ h2_
    clear h2_
    intro rec4_ opened7_ σ8_ h5_ h6_
    have K11_ : opened7_ ≤ 6 → Z Θ 3 0 0 (zQ Θ ρ) σ8_ 8 [(0, .ref (zA Θ 3)), (1, .int opened7_)] [] := by
      intro h14_
      rw [if_pos h14_] at h6_
      refine z_aload_n C 0 dX6_openAtoms_8 rfl rfl ?_
      refine fg6_22 C hkd dX6_openAtoms_9 ?_
      refine z_ldcs (k := 23) (tx := "not") C (List.mem_of_getElem? (i := 23) rfl) dX6_openAtoms_12 ?_
      obtain ⟨x15_, h16_, h6_⟩ := ob h6_
      refine cr6_55 (word_a := 23) C hkd (Nat.le_of_ble_eq_true rfl) h16_ ⟨(Nat.le_of_ble_eq_true rfl), (Nat.le_of_ble_eq_true rfl)⟩ (Nat.le_of_ble_eq_true rfl) ⟨Nat.zero_le _, Nat.zero_le _⟩ dX6_openAtoms_14 ?_
      refine z_istN C dX6_openAtoms_17 rfl rfl (Nat.le_of_ble_eq_true rfl) rfl ?_
      obtain ⟨t19_, h20_, h6_⟩ := ob h6_
      have K17_ : t19_ = true → Z Θ 3 0 0 (zQ Θ ρ) σ8_ 34 [(2, .int (b2i x15_)), (0, .ref (zA Θ 3)), (1, .int opened7_)] [] := by
        intro h25_
        rw [if_pos h25_] at h6_
        refine z_iconst (v := 1) C dX6_openAtoms_34 ic_1 ?_
        rw [← Option.some.inj h6_] at hf
        replace hf : some (true, σ8_) = some r := hf
        cases hf
        subst hρ
        exact z_zret C (b2i_narrow _) dX6_openAtoms_35
      suffices K18_ : ¬ (t19_ = true) → Z Θ 3 0 0 (zQ Θ ρ) σ8_ 36 [(2, .int (b2i x15_)), (0, .ref (zA Θ 3)), (1, .int opened7_)] [] by
        refine z_iload_n C 0 dX6_openAtoms_18 rfl rfl ?_
        refine cb_t C 36 dX6_openAtoms_19 (by decide) (fun h21_ => ?_) (fun h21_ => ?_)
        · rw [if_pos h21_] at h20_
          cases h20_
          exact K18_ Bool.false_ne_true
        · rw [if_neg h21_] at h20_
          refine z_aload_n C 1 dX6_openAtoms_22 rfl rfl ?_
          refine fg6_22 C hkd dX6_openAtoms_23 ?_
          refine z_bipush (v := 40) C dX6_openAtoms_26 bp_40 ?_
          obtain ⟨x22_, h23_, h20_⟩ := ob h20_
          refine cr6_46 (sign_a := 40) C hkd  h23_ ⟨(Nat.le_of_ble_eq_true rfl), (Nat.le_of_ble_eq_true rfl)⟩ (Nat.le_of_ble_eq_true rfl) ⟨Nat.zero_le _, Nat.zero_le _⟩ dX6_openAtoms_28 ?_
          refine cb_t C 36 dX6_openAtoms_31 (by decide) (fun h24_ => ?_) (fun h24_ => ?_)
          · rw [if_pos h24_] at h20_
            cases h20_
            exact K18_ Bool.false_ne_true
          · rw [if_neg h24_] at h20_
            cases h20_
            exact K17_ rfl
      intro h25_
      rw [if_neg h25_] at h6_
      have K26_ : 6 ≤ (σ8_ 3 5) → Z Θ 3 0 0 (zQ Θ ρ) σ8_ 45 [(2, .int (b2i x15_)), (0, .ref (zA Θ 3)), (1, .int opened7_)] [] := by
        intro h29_
        rw [if_pos h29_] at h6_
        refine z_iconst (v := 0) C dX6_openAtoms_45 ic_0 ?_
        rw [← Option.some.inj h6_] at hf
        replace hf : some (false, σ8_) = some r := hf
        cases hf
        subst hρ
        exact z_zret C (b2i_narrow _) dX6_openAtoms_46
      suffices K27_ : ¬ (6 ≤ (σ8_ 3 5)) → Z Θ 3 0 0 (zQ Θ ρ) σ8_ 47 [(2, .int (b2i x15_)), (0, .ref (zA Θ 3)), (1, .int opened7_)] [] by
        refine z_aload_n C 1 dX6_openAtoms_36 rfl rfl ?_
        refine fg6_19 C hkd dX6_openAtoms_37 ?_
        refine z_bipush (v := 6) C dX6_openAtoms_40 bp_6 ?_
        refine c_ge_f C 47 dX6_openAtoms_42 (by decide) (fun h28_ => ?_) (fun h28_ => ?_)
        · exact K26_ h28_
        · exact K27_ h28_
      intro h29_
      rw [if_neg h29_] at h6_
      refine z_aload_n C 1 dX6_openAtoms_47 rfl rfl ?_
      refine z_dup C dX6_openAtoms_48 rfl ?_
      refine fg6_19 C hkd dX6_openAtoms_49 ?_
      refine z_iconst (v := 1) C dX6_openAtoms_52 ic_1 ?_
      refine z_iadd C dX6_openAtoms_53 ?_
      obtain ⟨σ30_, h31_, h6_⟩ := lt_ h6_
      refine fp6_19 C hkd h31_ dX6_openAtoms_54 ?_
      refine z_aload_n C 1 dX6_openAtoms_57 rfl rfl ?_
      suffices K32_ : Z Θ 3 0 0 (zQ Θ ρ) σ30_ 71 [(2, .int (b2i x15_)), (0, .ref (zA Θ 3)), (1, .int opened7_)] [.int (if x15_ = true then 1105 else 1106), .ref (zA Θ 3)] by
        have K33_ : x15_ = true → Z Θ 3 0 0 (zQ Θ ρ) σ30_ 62 [(2, .int (b2i x15_)), (0, .ref (zA Θ 3)), (1, .int opened7_)] [.ref (zA Θ 3)] := by
          intro h36_
          rw [if_pos h36_] at K32_
          refine z_sipush (v := 1105) C dX6_openAtoms_62 sp_1105 ?_
          refine z_goto C 71 dX6_openAtoms_65 (by decide) ?_
          exact K32_
        have K34_ : ¬ (x15_ = true) → Z Θ 3 0 0 (zQ Θ ρ) σ30_ 68 [(2, .int (b2i x15_)), (0, .ref (zA Θ 3)), (1, .int opened7_)] [.ref (zA Θ 3)] := by
          intro h36_
          rw [if_neg h36_] at K32_
          refine z_sipush (v := 1106) C dX6_openAtoms_68 sp_1106 ?_
          exact K32_
        refine z_iload_n C 0 dX6_openAtoms_58 rfl rfl ?_
        refine cb_f C 68 dX6_openAtoms_59 (by decide) (fun h35_ => ?_) (fun h35_ => ?_)
        · exact K33_ h35_
        · exact K34_ h35_
      obtain ⟨x37_, h38_, h6_⟩ := ob h6_
      refine cr6_182 (sign_a := (if x15_ = true then 1105 else 1106)) C hkd  h38_ ⟨(Nat.le_of_ble_eq_true rfl), (Nat.le_of_ble_eq_true rfl)⟩ (Nat.le_of_ble_eq_true rfl) ⟨Nat.zero_le _, Nat.zero_le _⟩ dX6_openAtoms_71 ?_
      refine z_aload_n C 1 dX6_openAtoms_74 rfl rfl ?_
      refine fg6_22 C hkd dX6_openAtoms_75 ?_
      obtain ⟨x39_, h40_, h6_⟩ := ob h6_
      refine cr6_50 C hkd  h40_ ⟨(Nat.le_of_ble_eq_true rfl), (Nat.le_of_ble_eq_true rfl)⟩ (Nat.le_of_ble_eq_true rfl) ⟨Nat.zero_le _, Nat.zero_le _⟩ dX6_openAtoms_78 ?_
      obtain ⟨opened41_, h42_, h6_⟩ := lt_ h6_
      refine z_inc C 2 dX6_openAtoms_81 rfl ic_1 h42_ (Nat.le_of_ble_eq_true rfl) rfl ?_
      refine z_goto C 2 dX6_openAtoms_84 (by decide) ?_
      refine Z.sub [2, 0] rfl ?_
      exact h5_ _ _ h6_
    have K12_ : ¬ (opened7_ ≤ 6) → Z Θ 3 0 0 (zQ Θ ρ) σ8_ 87 [(0, .ref (zA Θ 3)), (1, .int opened7_)] [] := by
      intro h14_
      rw [if_neg h14_] at h6_
      exact K3_ _ (Option.some.inj h6_).symm
    refine z_iload_n C 1 dX6_openAtoms_2 rfl rfl ?_
    refine z_bipush (v := 6) C dX6_openAtoms_3 bp_6 ?_
    refine c_le_f C 87 dX6_openAtoms_5 (by decide) (fun h13_ => ?_) (fun h13_ => ?_)
    · exact K11_ h13_
    · exact K12_ h13_
  intro y1_r e9
  subst e9
  simp only [Sum.elim_inr] at hf
  refine z_iconst (v := 0) C dX6_openAtoms_87 ic_0 ?_
  cases hf
  subst hρ
  exact z_zret C (b2i_narrow _) dX6_openAtoms_88
theorem c6_openAtoms {l : Launch} {kd : List KD} {w : Wp} {σ : St} (hkd : kd = kdC) (hi : zI kd w) {r : (Bool × St)} (hf : q6_openAtoms σ = some r) : zM l kd w yX6_openAtoms cX6_openAtoms 3 (some .boolean) rm6_openAtoms [.ref (w.2.2.1 3)] σ (some (.int (b2i r.1)), r.2) := zM_of rfl hi (Nat.le_of_ble_eq_true rfl) (fun Θ hl hw C => by
  obtain ⟨Θ1, Θ2, Θ3, Θ4, Θ5⟩ := Θ
  cases hw
  exact p6_openAtoms C hkd  hf rfl)
/-! LastLoaf$Reader.comparisonHere -/
theorem sp_1101 : (Int16.ofInt (1101)).toInt32 = 1101 := by decide +kernel
theorem sp_1102 : (Int16.ofInt (1102)).toInt32 = 1102 := by decide +kernel
theorem dX6_comparisonHere_0 : decode cX6_comparisonHere 0 = .ok (.aload_n 0, 1) := by decide +kernel
theorem dX6_comparisonHere_1 : decode cX6_comparisonHere 1 = .ok (.getfield 22, 3) := by decide +kernel
theorem dX6_comparisonHere_4 : decode cX6_comparisonHere 4 = .ok (.bipush 60, 2) := by decide +kernel
theorem dX6_comparisonHere_6 : decode cX6_comparisonHere 6 = .ok (.invokevirtual 46, 3) := by decide +kernel
theorem dX6_comparisonHere_9 : decode cX6_comparisonHere 9 = .ok (.ifCond .eq 7, 3) := by decide +kernel
theorem dX6_comparisonHere_12 : decode cX6_comparisonHere 12 = .ok (.sipush 1101, 3) := by decide +kernel
theorem dX6_comparisonHere_15 : decode cX6_comparisonHere 15 = .ok (.ireturn, 1) := by decide +kernel
theorem dX6_comparisonHere_16 : decode cX6_comparisonHere 16 = .ok (.aload_n 0, 1) := by decide +kernel
theorem dX6_comparisonHere_17 : decode cX6_comparisonHere 17 = .ok (.getfield 22, 3) := by decide +kernel
theorem dX6_comparisonHere_20 : decode cX6_comparisonHere 20 = .ok (.bipush 62, 2) := by decide +kernel
theorem dX6_comparisonHere_22 : decode cX6_comparisonHere 22 = .ok (.invokevirtual 46, 3) := by decide +kernel
theorem dX6_comparisonHere_25 : decode cX6_comparisonHere 25 = .ok (.ifCond .eq 9, 3) := by decide +kernel
theorem dX6_comparisonHere_28 : decode cX6_comparisonHere 28 = .ok (.sipush 1102, 3) := by decide +kernel
theorem dX6_comparisonHere_31 : decode cX6_comparisonHere 31 = .ok (.goto 4, 3) := by decide +kernel
theorem dX6_comparisonHere_34 : decode cX6_comparisonHere 34 = .ok (.iconst (-1), 1) := by decide +kernel
theorem dX6_comparisonHere_35 : decode cX6_comparisonHere 35 = .ok (.ireturn, 1) := by decide +kernel
def q6_comparisonHere (σ : St) : Option Int32 :=
  Option.bind (q8_isSign σ 60) fun x3_ =>
  if x3_ = true then (some 1101) else
  Option.bind (Option.bind (q8_isSign σ 62) fun x12_ =>
  if x12_ = true then (some (1102 : Int32)) else (some (-1 : Int32))) fun x7_ =>
  some x7_
abbrev rm6_comparisonHere : Room := { frames := 1, cells := 0, slots := 0, locals := 21 }
set_option maxHeartbeats 4000000 in
set_option maxRecDepth 100000 in
theorem p6_comparisonHere {Θ : Tz} {σ : St} {ρ : Option Value × St} (C : Zc Θ cX6_comparisonHere 1 RX6 (some .int) rm6_comparisonHere) (hkd : Θ.2.2.2.2.1 = kdC) {r : Int32} (hf : q6_comparisonHere σ = some r) (hρ : ρ = (some (.int r), σ)) : Z Θ 1 0 0 (zQ Θ ρ) σ 0 [(0, .ref (zA Θ 3))] [] := by
  unfold q6_comparisonHere at hf
  refine z_aload_n C 0 dX6_comparisonHere_0 rfl rfl ?_
  refine fg6_22 C hkd dX6_comparisonHere_1 ?_
  refine z_bipush (v := 60) C dX6_comparisonHere_4 bp_60 ?_
  obtain ⟨x3_, h4_, hf⟩ := ob hf
  refine cr6_46 (sign_a := 60) C hkd  h4_ ⟨(Nat.le_of_ble_eq_true rfl), (Nat.le_of_ble_eq_true rfl)⟩ (Nat.le_of_ble_eq_true rfl) ⟨Nat.zero_le _, Nat.zero_le _⟩ dX6_comparisonHere_6 ?_
  have K1_ : x3_ = true → Z Θ 1 0 0 (zQ Θ ρ) σ 12 [(0, .ref (zA Θ 3))] [] := by
    intro h6_
    rw [if_pos h6_] at hf
    refine z_sipush (v := 1101) C dX6_comparisonHere_12 sp_1101 ?_
    cases hf
    subst hρ
    exact z_iret C dX6_comparisonHere_15
  suffices K2_ : ¬ (x3_ = true) → Z Θ 1 0 0 (zQ Θ ρ) σ 16 [(0, .ref (zA Θ 3))] [] by
    refine cb_f C 16 dX6_comparisonHere_9 (by decide) (fun h5_ => ?_) (fun h5_ => ?_)
    · exact K1_ h5_
    · exact K2_ h5_
  intro h6_
  rw [if_neg h6_] at hf
  obtain ⟨x7_, h8_, hf⟩ := ob hf
  suffices K9_ : Z Θ 1 0 0 (zQ Θ ρ) σ 35 [(0, .ref (zA Θ 3))] [.int x7_] by
    refine z_aload_n C 0 dX6_comparisonHere_16 rfl rfl ?_
    refine fg6_22 C hkd dX6_comparisonHere_17 ?_
    refine z_bipush (v := 62) C dX6_comparisonHere_20 bp_62 ?_
    obtain ⟨x12_, h13_, h8_⟩ := ob h8_
    refine cr6_46 (sign_a := 62) C hkd  h13_ ⟨(Nat.le_of_ble_eq_true rfl), (Nat.le_of_ble_eq_true rfl)⟩ (Nat.le_of_ble_eq_true rfl) ⟨Nat.zero_le _, Nat.zero_le _⟩ dX6_comparisonHere_22 ?_
    have K10_ : x12_ = true → Z Θ 1 0 0 (zQ Θ ρ) σ 28 [(0, .ref (zA Θ 3))] [] := by
      intro h15_
      rw [if_pos h15_] at h8_
      refine z_sipush (v := 1102) C dX6_comparisonHere_28 sp_1102 ?_
      refine z_goto C 35 dX6_comparisonHere_31 (by decide) ?_
      cases h8_
      exact K9_
    have K11_ : ¬ (x12_ = true) → Z Θ 1 0 0 (zQ Θ ρ) σ 34 [(0, .ref (zA Θ 3))] [] := by
      intro h15_
      rw [if_neg h15_] at h8_
      refine z_iconst (v := (-1)) C dX6_comparisonHere_34 ic_m1 ?_
      cases h8_
      exact K9_
    refine cb_f C 34 dX6_comparisonHere_25 (by decide) (fun h14_ => ?_) (fun h14_ => ?_)
    · exact K10_ h14_
    · exact K11_ h14_
  cases hf
  subst hρ
  exact z_iret C dX6_comparisonHere_35
theorem c6_comparisonHere {l : Launch} {kd : List KD} {w : Wp} {σ : St} (hkd : kd = kdC) (hi : zI kd w) {r : Int32} (hf : q6_comparisonHere σ = some r) : zM l kd w yX6_comparisonHere cX6_comparisonHere 1 (some .int) rm6_comparisonHere [.ref (w.2.2.1 3)] σ (some (.int r), σ) := zM_of rfl hi (Nat.le_of_ble_eq_true rfl) (fun Θ hl hw C => by
  obtain ⟨Θ1, Θ2, Θ3, Θ4, Θ5⟩ := Θ
  cases hw
  exact p6_comparisonHere C hkd  hf rfl)
/-! LastLoaf$Reader.partHere -/
theorem sp_1000 : (Int16.ofInt (1000)).toInt32 = 1000 := by decide +kernel
theorem sp_1001 : (Int16.ofInt (1001)).toInt32 = 1001 := by decide +kernel
theorem sp_1002 : (Int16.ofInt (1002)).toInt32 = 1002 := by decide +kernel
theorem sp_1003 : (Int16.ofInt (1003)).toInt32 = 1003 := by decide +kernel
theorem sp_1004 : (Int16.ofInt (1004)).toInt32 = 1004 := by decide +kernel
theorem sp_1005 : (Int16.ofInt (1005)).toInt32 = 1005 := by decide +kernel
theorem sp_1006 : (Int16.ofInt (1006)).toInt32 = 1006 := by decide +kernel
theorem dX6_partHere_0 : decode cX6_partHere 0 = .ok (.aload_n 0, 1) := by decide +kernel
theorem dX6_partHere_1 : decode cX6_partHere 1 = .ok (.getfield 22, 3) := by decide +kernel
theorem dX6_partHere_4 : decode cX6_partHere 4 = .ok (.ldc 204, 2) := by decide +kernel
theorem dX6_partHere_6 : decode cX6_partHere 6 = .ok (.invokevirtual 55, 3) := by decide +kernel
theorem dX6_partHere_9 : decode cX6_partHere 9 = .ok (.ifCond .eq 7, 3) := by decide +kernel
theorem dX6_partHere_12 : decode cX6_partHere 12 = .ok (.sipush 1000, 3) := by decide +kernel
theorem dX6_partHere_15 : decode cX6_partHere 15 = .ok (.ireturn, 1) := by decide +kernel
theorem dX6_partHere_16 : decode cX6_partHere 16 = .ok (.aload_n 0, 1) := by decide +kernel
theorem dX6_partHere_17 : decode cX6_partHere 17 = .ok (.getfield 22, 3) := by decide +kernel
theorem dX6_partHere_20 : decode cX6_partHere 20 = .ok (.ldc 206, 2) := by decide +kernel
theorem dX6_partHere_22 : decode cX6_partHere 22 = .ok (.invokevirtual 55, 3) := by decide +kernel
theorem dX6_partHere_25 : decode cX6_partHere 25 = .ok (.ifCond .eq 7, 3) := by decide +kernel
theorem dX6_partHere_28 : decode cX6_partHere 28 = .ok (.sipush 1001, 3) := by decide +kernel
theorem dX6_partHere_31 : decode cX6_partHere 31 = .ok (.ireturn, 1) := by decide +kernel
theorem dX6_partHere_32 : decode cX6_partHere 32 = .ok (.aload_n 0, 1) := by decide +kernel
theorem dX6_partHere_33 : decode cX6_partHere 33 = .ok (.getfield 22, 3) := by decide +kernel
theorem dX6_partHere_36 : decode cX6_partHere 36 = .ok (.ldc 62, 2) := by decide +kernel
theorem dX6_partHere_38 : decode cX6_partHere 38 = .ok (.invokevirtual 55, 3) := by decide +kernel
theorem dX6_partHere_41 : decode cX6_partHere 41 = .ok (.ifCond .eq 7, 3) := by decide +kernel
theorem dX6_partHere_44 : decode cX6_partHere 44 = .ok (.sipush 1002, 3) := by decide +kernel
theorem dX6_partHere_47 : decode cX6_partHere 47 = .ok (.ireturn, 1) := by decide +kernel
theorem dX6_partHere_48 : decode cX6_partHere 48 = .ok (.aload_n 0, 1) := by decide +kernel
theorem dX6_partHere_49 : decode cX6_partHere 49 = .ok (.getfield 22, 3) := by decide +kernel
theorem dX6_partHere_52 : decode cX6_partHere 52 = .ok (.ldc 103, 2) := by decide +kernel
theorem dX6_partHere_54 : decode cX6_partHere 54 = .ok (.invokevirtual 55, 3) := by decide +kernel
theorem dX6_partHere_57 : decode cX6_partHere 57 = .ok (.ifCond .eq 7, 3) := by decide +kernel
theorem dX6_partHere_60 : decode cX6_partHere 60 = .ok (.sipush 1003, 3) := by decide +kernel
theorem dX6_partHere_63 : decode cX6_partHere 63 = .ok (.ireturn, 1) := by decide +kernel
theorem dX6_partHere_64 : decode cX6_partHere 64 = .ok (.aload_n 0, 1) := by decide +kernel
theorem dX6_partHere_65 : decode cX6_partHere 65 = .ok (.getfield 22, 3) := by decide +kernel
theorem dX6_partHere_68 : decode cX6_partHere 68 = .ok (.ldc 208, 2) := by decide +kernel
theorem dX6_partHere_70 : decode cX6_partHere 70 = .ok (.invokevirtual 55, 3) := by decide +kernel
theorem dX6_partHere_73 : decode cX6_partHere 73 = .ok (.ifCond .eq 7, 3) := by decide +kernel
theorem dX6_partHere_76 : decode cX6_partHere 76 = .ok (.sipush 1004, 3) := by decide +kernel
theorem dX6_partHere_79 : decode cX6_partHere 79 = .ok (.ireturn, 1) := by decide +kernel
theorem dX6_partHere_80 : decode cX6_partHere 80 = .ok (.aload_n 0, 1) := by decide +kernel
theorem dX6_partHere_81 : decode cX6_partHere 81 = .ok (.getfield 22, 3) := by decide +kernel
theorem dX6_partHere_84 : decode cX6_partHere 84 = .ok (.ldc 210, 2) := by decide +kernel
theorem dX6_partHere_86 : decode cX6_partHere 86 = .ok (.invokevirtual 55, 3) := by decide +kernel
theorem dX6_partHere_89 : decode cX6_partHere 89 = .ok (.ifCond .eq 7, 3) := by decide +kernel
theorem dX6_partHere_92 : decode cX6_partHere 92 = .ok (.sipush 1005, 3) := by decide +kernel
theorem dX6_partHere_95 : decode cX6_partHere 95 = .ok (.ireturn, 1) := by decide +kernel
theorem dX6_partHere_96 : decode cX6_partHere 96 = .ok (.aload_n 0, 1) := by decide +kernel
theorem dX6_partHere_97 : decode cX6_partHere 97 = .ok (.getfield 22, 3) := by decide +kernel
theorem dX6_partHere_100 : decode cX6_partHere 100 = .ok (.ldc 112, 2) := by decide +kernel
theorem dX6_partHere_102 : decode cX6_partHere 102 = .ok (.invokevirtual 55, 3) := by decide +kernel
theorem dX6_partHere_105 : decode cX6_partHere 105 = .ok (.ifCond .eq 9, 3) := by decide +kernel
theorem dX6_partHere_108 : decode cX6_partHere 108 = .ok (.sipush 1006, 3) := by decide +kernel
theorem dX6_partHere_111 : decode cX6_partHere 111 = .ok (.goto 4, 3) := by decide +kernel
theorem dX6_partHere_114 : decode cX6_partHere 114 = .ok (.iconst (-1), 1) := by decide +kernel
theorem dX6_partHere_115 : decode cX6_partHere 115 = .ok (.ireturn, 1) := by decide +kernel
def q6_partHere (σ : St) : Option Int32 :=
  Option.bind (q8_isWord σ 26) fun x3_ =>
  if x3_ = true then (some 1000) else
  Option.bind (q8_isWord σ 27) fun x9_ =>
  if x9_ = true then (some 1001) else
  Option.bind (q8_isWord σ 7) fun x15_ =>
  if x15_ = true then (some 1002) else
  Option.bind (q8_isWord σ 1) fun x21_ =>
  if x21_ = true then (some 1003) else
  Option.bind (q8_isWord σ 28) fun x27_ =>
  if x27_ = true then (some 1004) else
  Option.bind (q8_isWord σ 29) fun x33_ =>
  if x33_ = true then (some 1005) else
  Option.bind (Option.bind (q8_isWord σ 5) fun x42_ =>
  if x42_ = true then (some (1006 : Int32)) else (some (-1 : Int32))) fun x37_ =>
  some x37_
abbrev rm6_partHere : Room := { frames := 5, cells := 0, slots := 0, locals := 107 }
set_option maxHeartbeats 4000000 in
set_option maxRecDepth 100000 in
theorem p6_partHere {Θ : Tz} {σ : St} {ρ : Option Value × St} (C : Zc Θ cX6_partHere 1 RX6 (some .int) rm6_partHere) (hkd : Θ.2.2.2.2.1 = kdC) {r : Int32} (hf : q6_partHere σ = some r) (hρ : ρ = (some (.int r), σ)) : Z Θ 1 0 0 (zQ Θ ρ) σ 0 [(0, .ref (zA Θ 3))] [] := by
  unfold q6_partHere at hf
  refine z_aload_n C 0 dX6_partHere_0 rfl rfl ?_
  refine fg6_22 C hkd dX6_partHere_1 ?_
  refine z_ldcs (k := 26) (tx := "voter") C (List.mem_of_getElem? (i := 26) rfl) dX6_partHere_4 ?_
  obtain ⟨x3_, h4_, hf⟩ := ob hf
  refine cr6_55 (word_a := 26) C hkd (Nat.le_of_ble_eq_true rfl) h4_ ⟨(Nat.le_of_ble_eq_true rfl), (Nat.le_of_ble_eq_true rfl)⟩ (Nat.le_of_ble_eq_true rfl) ⟨Nat.zero_le _, Nat.zero_le _⟩ dX6_partHere_6 ?_
  have K1_ : x3_ = true → Z Θ 1 0 0 (zQ Θ ρ) σ 12 [(0, .ref (zA Θ 3))] [] := by
    intro h6_
    rw [if_pos h6_] at hf
    refine z_sipush (v := 1000) C dX6_partHere_12 sp_1000 ?_
    cases hf
    subst hρ
    exact z_iret C dX6_partHere_15
  suffices K2_ : ¬ (x3_ = true) → Z Θ 1 0 0 (zQ Θ ρ) σ 16 [(0, .ref (zA Θ 3))] [] by
    refine cb_f C 16 dX6_partHere_9 (by decide) (fun h5_ => ?_) (fun h5_ => ?_)
    · exact K1_ h5_
    · exact K2_ h5_
  intro h6_
  rw [if_neg h6_] at hf
  refine z_aload_n C 0 dX6_partHere_16 rfl rfl ?_
  refine fg6_22 C hkd dX6_partHere_17 ?_
  refine z_ldcs (k := 27) (tx := "other") C (List.mem_of_getElem? (i := 27) rfl) dX6_partHere_20 ?_
  obtain ⟨x9_, h10_, hf⟩ := ob hf
  refine cr6_55 (word_a := 27) C hkd (Nat.le_of_ble_eq_true rfl) h10_ ⟨(Nat.le_of_ble_eq_true rfl), (Nat.le_of_ble_eq_true rfl)⟩ (Nat.le_of_ble_eq_true rfl) ⟨Nat.zero_le _, Nat.zero_le _⟩ dX6_partHere_22 ?_
  have K7_ : x9_ = true → Z Θ 1 0 0 (zQ Θ ρ) σ 28 [(0, .ref (zA Θ 3))] [] := by
    intro h12_
    rw [if_pos h12_] at hf
    refine z_sipush (v := 1001) C dX6_partHere_28 sp_1001 ?_
    cases hf
    subst hρ
    exact z_iret C dX6_partHere_31
  suffices K8_ : ¬ (x9_ = true) → Z Θ 1 0 0 (zQ Θ ρ) σ 32 [(0, .ref (zA Θ 3))] [] by
    refine cb_f C 32 dX6_partHere_25 (by decide) (fun h11_ => ?_) (fun h11_ => ?_)
    · exact K7_ h11_
    · exact K8_ h11_
  intro h12_
  rw [if_neg h12_] at hf
  refine z_aload_n C 0 dX6_partHere_32 rfl rfl ?_
  refine fg6_22 C hkd dX6_partHere_33 ?_
  refine z_ldcs (k := 7) (tx := "likes") C (List.mem_of_getElem? (i := 7) rfl) dX6_partHere_36 ?_
  obtain ⟨x15_, h16_, hf⟩ := ob hf
  refine cr6_55 (word_a := 7) C hkd (Nat.le_of_ble_eq_true rfl) h16_ ⟨(Nat.le_of_ble_eq_true rfl), (Nat.le_of_ble_eq_true rfl)⟩ (Nat.le_of_ble_eq_true rfl) ⟨Nat.zero_le _, Nat.zero_le _⟩ dX6_partHere_38 ?_
  have K13_ : x15_ = true → Z Θ 1 0 0 (zQ Θ ρ) σ 44 [(0, .ref (zA Θ 3))] [] := by
    intro h18_
    rw [if_pos h18_] at hf
    refine z_sipush (v := 1002) C dX6_partHere_44 sp_1002 ?_
    cases hf
    subst hρ
    exact z_iret C dX6_partHere_47
  suffices K14_ : ¬ (x15_ = true) → Z Θ 1 0 0 (zQ Θ ρ) σ 48 [(0, .ref (zA Θ 3))] [] by
    refine cb_f C 48 dX6_partHere_41 (by decide) (fun h17_ => ?_) (fun h17_ => ?_)
    · exact K13_ h17_
    · exact K14_ h17_
  intro h18_
  rw [if_neg h18_] at hf
  refine z_aload_n C 0 dX6_partHere_48 rfl rfl ?_
  refine fg6_22 C hkd dX6_partHere_49 ?_
  refine z_ldcs (k := 1) (tx := "hunger") C (List.mem_of_getElem? (i := 1) rfl) dX6_partHere_52 ?_
  obtain ⟨x21_, h22_, hf⟩ := ob hf
  refine cr6_55 (word_a := 1) C hkd (Nat.le_of_ble_eq_true rfl) h22_ ⟨(Nat.le_of_ble_eq_true rfl), (Nat.le_of_ble_eq_true rfl)⟩ (Nat.le_of_ble_eq_true rfl) ⟨Nat.zero_le _, Nat.zero_le _⟩ dX6_partHere_54 ?_
  have K19_ : x21_ = true → Z Θ 1 0 0 (zQ Θ ρ) σ 60 [(0, .ref (zA Θ 3))] [] := by
    intro h24_
    rw [if_pos h24_] at hf
    refine z_sipush (v := 1003) C dX6_partHere_60 sp_1003 ?_
    cases hf
    subst hρ
    exact z_iret C dX6_partHere_63
  suffices K20_ : ¬ (x21_ = true) → Z Θ 1 0 0 (zQ Θ ρ) σ 64 [(0, .ref (zA Θ 3))] [] by
    refine cb_f C 64 dX6_partHere_57 (by decide) (fun h23_ => ?_) (fun h23_ => ?_)
    · exact K19_ h23_
    · exact K20_ h23_
  intro h24_
  rw [if_neg h24_] at hf
  refine z_aload_n C 0 dX6_partHere_64 rfl rfl ?_
  refine fg6_22 C hkd dX6_partHere_65 ?_
  refine z_ldcs (k := 28) (tx := "had") C (List.mem_of_getElem? (i := 28) rfl) dX6_partHere_68 ?_
  obtain ⟨x27_, h28_, hf⟩ := ob hf
  refine cr6_55 (word_a := 28) C hkd (Nat.le_of_ble_eq_true rfl) h28_ ⟨(Nat.le_of_ble_eq_true rfl), (Nat.le_of_ble_eq_true rfl)⟩ (Nat.le_of_ble_eq_true rfl) ⟨Nat.zero_le _, Nat.zero_le _⟩ dX6_partHere_70 ?_
  have K25_ : x27_ = true → Z Θ 1 0 0 (zQ Θ ρ) σ 76 [(0, .ref (zA Θ 3))] [] := by
    intro h30_
    rw [if_pos h30_] at hf
    refine z_sipush (v := 1004) C dX6_partHere_76 sp_1004 ?_
    cases hf
    subst hρ
    exact z_iret C dX6_partHere_79
  suffices K26_ : ¬ (x27_ = true) → Z Θ 1 0 0 (zQ Θ ρ) σ 80 [(0, .ref (zA Θ 3))] [] by
    refine cb_f C 80 dX6_partHere_73 (by decide) (fun h29_ => ?_) (fun h29_ => ?_)
    · exact K25_ h29_
    · exact K26_ h29_
  intro h30_
  rw [if_neg h30_] at hf
  refine z_aload_n C 0 dX6_partHere_80 rfl rfl ?_
  refine fg6_22 C hkd dX6_partHere_81 ?_
  refine z_ldcs (k := 29) (tx := "run") C (List.mem_of_getElem? (i := 29) rfl) dX6_partHere_84 ?_
  obtain ⟨x33_, h34_, hf⟩ := ob hf
  refine cr6_55 (word_a := 29) C hkd (Nat.le_of_ble_eq_true rfl) h34_ ⟨(Nat.le_of_ble_eq_true rfl), (Nat.le_of_ble_eq_true rfl)⟩ (Nat.le_of_ble_eq_true rfl) ⟨Nat.zero_le _, Nat.zero_le _⟩ dX6_partHere_86 ?_
  have K31_ : x33_ = true → Z Θ 1 0 0 (zQ Θ ρ) σ 92 [(0, .ref (zA Θ 3))] [] := by
    intro h36_
    rw [if_pos h36_] at hf
    refine z_sipush (v := 1005) C dX6_partHere_92 sp_1005 ?_
    cases hf
    subst hρ
    exact z_iret C dX6_partHere_95
  suffices K32_ : ¬ (x33_ = true) → Z Θ 1 0 0 (zQ Θ ρ) σ 96 [(0, .ref (zA Θ 3))] [] by
    refine cb_f C 96 dX6_partHere_89 (by decide) (fun h35_ => ?_) (fun h35_ => ?_)
    · exact K31_ h35_
    · exact K32_ h35_
  intro h36_
  rw [if_neg h36_] at hf
  obtain ⟨x37_, h38_, hf⟩ := ob hf
  suffices K39_ : Z Θ 1 0 0 (zQ Θ ρ) σ 115 [(0, .ref (zA Θ 3))] [.int x37_] by
    refine z_aload_n C 0 dX6_partHere_96 rfl rfl ?_
    refine fg6_22 C hkd dX6_partHere_97 ?_
    refine z_ldcs (k := 5) (tx := "skin") C (List.mem_of_getElem? (i := 5) rfl) dX6_partHere_100 ?_
    obtain ⟨x42_, h43_, h38_⟩ := ob h38_
    refine cr6_55 (word_a := 5) C hkd (Nat.le_of_ble_eq_true rfl) h43_ ⟨(Nat.le_of_ble_eq_true rfl), (Nat.le_of_ble_eq_true rfl)⟩ (Nat.le_of_ble_eq_true rfl) ⟨Nat.zero_le _, Nat.zero_le _⟩ dX6_partHere_102 ?_
    have K40_ : x42_ = true → Z Θ 1 0 0 (zQ Θ ρ) σ 108 [(0, .ref (zA Θ 3))] [] := by
      intro h45_
      rw [if_pos h45_] at h38_
      refine z_sipush (v := 1006) C dX6_partHere_108 sp_1006 ?_
      refine z_goto C 115 dX6_partHere_111 (by decide) ?_
      cases h38_
      exact K39_
    have K41_ : ¬ (x42_ = true) → Z Θ 1 0 0 (zQ Θ ρ) σ 114 [(0, .ref (zA Θ 3))] [] := by
      intro h45_
      rw [if_neg h45_] at h38_
      refine z_iconst (v := (-1)) C dX6_partHere_114 ic_m1 ?_
      cases h38_
      exact K39_
    refine cb_f C 114 dX6_partHere_105 (by decide) (fun h44_ => ?_) (fun h44_ => ?_)
    · exact K40_ h44_
    · exact K41_ h44_
  cases hf
  subst hρ
  exact z_iret C dX6_partHere_115
theorem c6_partHere {l : Launch} {kd : List KD} {w : Wp} {σ : St} (hkd : kd = kdC) (hi : zI kd w) {r : Int32} (hf : q6_partHere σ = some r) : zM l kd w yX6_partHere cX6_partHere 1 (some .int) rm6_partHere [.ref (w.2.2.1 3)] σ (some (.int r), σ) := zM_of rfl hi (Nat.le_of_ble_eq_true rfl) (fun Θ hl hw C => by
  obtain ⟨Θ1, Θ2, Θ3, Θ4, Θ5⟩ := Θ
  cases hw
  exact p6_partHere C hkd  hf rfl)
/-! LastLoaf$Reader.readPart -/
theorem w_5_191 : Cond.code ({ cls := "LastLoaf$Reader", name := "partHere", desc := "()I" } : MethodName) prog_8_method_21_code (1 : Nat) (Option.some ClassFile.FieldType.int) ∈ TB := tb_in (lwt_5 (List.mem_of_getElem? (i := 191) (by decide +kernel))) rfl
theorem w_5_188 : Cond.methodLink "LastLoaf$Reader" (201 : Nat) ({ cls := "LastLoaf$Reader", name := "partHere", desc := "()I" } : MethodName) ∈ TB := tb_in (lwt_5 (List.mem_of_getElem? (i := 188) (by decide +kernel))) rfl
theorem w_5_189 : Cond.instanceMethod ({ cls := "LastLoaf$Reader", name := "partHere", desc := "()I" } : MethodName) ∈ TB := tb_in (lwt_5 (List.mem_of_getElem? (i := 189) (by decide +kernel))) rfl
theorem w_5_190 : Cond.selects "LastLoaf$Reader" ({ cls := "LastLoaf$Reader", name := "partHere", desc := "()I" } : MethodName) ({ cls := "LastLoaf$Reader", name := "partHere", desc := "()I" } : MethodName) ∈ TB := tb_in (lwt_5 (List.mem_of_getElem? (i := 190) (by decide +kernel))) rfl
theorem cr6_201 {Θ : Tz} {cc : ByteArray} {nL kc ks : Nat} {ret : Option FieldType} {rm : Room} {Q : State → Prop} {σ : St} {pc : Nat} {lv : List (Nat × Value)} {st : List Value} (C : Zc Θ cc nL RX6 ret rm) (hkd : Θ.2.2.2.2.1 = kdC) {r : Int32} (hx : q6_partHere σ = some r) (hrm : rm6_partHere.frames + 1 ≤ rm.frames ∧ 8 + (1 + 11) + rm6_partHere.locals ≤ rm.locals) (hcat : (st.map fun v => v.category).sum ≤ 8) (hk : kc ≤ rm.cells ∧ ks ≤ rm.slots) (hd : decode cc pc = .ok (.invokevirtual 201, 3)) (kk : Z Θ nL kc ks Q σ (pc + 3) lv (.int r :: st)) : Z Θ nL kc ks Q σ pc lv (.ref (zA Θ 3) :: st) := z_callV C 3 [] (some (.int r), σ) 0 (kC_3 hkd) rfl (c6_partHere hkd (zc_inj C) hx) w_5_191 w_5_188 w_5_189 w_5_190 w_1_7 ⟨rfl, rfl, hrm.1, hrm.2⟩ (by decide +kernel) rfl rfl hcat hk hd kk
theorem dX6_readPart_0 : decode cX6_readPart 0 = .ok (.aload_n 0, 1) := by decide +kernel
theorem dX6_readPart_1 : decode cX6_readPart 1 = .ok (.getfield 22, 3) := by decide +kernel
theorem dX6_readPart_4 : decode cX6_readPart 4 = .ok (.sipush 999, 3) := by decide +kernel
theorem dX6_readPart_7 : decode cX6_readPart 7 = .ok (.invokevirtual 94, 3) := by decide +kernel
theorem dX6_readPart_10 : decode cX6_readPart 10 = .ok (.istore_n 1, 1) := by decide +kernel
theorem dX6_readPart_11 : decode cX6_readPart 11 = .ok (.iload_n 1, 1) := by decide +kernel
theorem dX6_readPart_12 : decode cX6_readPart 12 = .ok (.iconst (-1), 1) := by decide +kernel
theorem dX6_readPart_13 : decode cX6_readPart 13 = .ok (.if_icmp .ne 10, 3) := by decide +kernel
theorem dX6_readPart_16 : decode cX6_readPart 16 = .ok (.aload_n 0, 1) := by decide +kernel
theorem dX6_readPart_17 : decode cX6_readPart 17 = .ok (.invokevirtual 201, 3) := by decide +kernel
theorem dX6_readPart_20 : decode cX6_readPart 20 = .ok (.goto 4, 3) := by decide +kernel
theorem dX6_readPart_23 : decode cX6_readPart 23 = .ok (.iload_n 1, 1) := by decide +kernel
theorem dX6_readPart_24 : decode cX6_readPart 24 = .ok (.istore_n 2, 1) := by decide +kernel
theorem dX6_readPart_25 : decode cX6_readPart 25 = .ok (.iload_n 2, 1) := by decide +kernel
theorem dX6_readPart_26 : decode cX6_readPart 26 = .ok (.iconst (-1), 1) := by decide +kernel
theorem dX6_readPart_27 : decode cX6_readPart 27 = .ok (.if_icmp .ne 5, 3) := by decide +kernel
theorem dX6_readPart_30 : decode cX6_readPart 30 = .ok (.iconst 0, 1) := by decide +kernel
theorem dX6_readPart_31 : decode cX6_readPart 31 = .ok (.ireturn, 1) := by decide +kernel
theorem dX6_readPart_32 : decode cX6_readPart 32 = .ok (.aload_n 0, 1) := by decide +kernel
theorem dX6_readPart_33 : decode cX6_readPart 33 = .ok (.getfield 30, 3) := by decide +kernel
theorem dX6_readPart_36 : decode cX6_readPart 36 = .ok (.iload_n 2, 1) := by decide +kernel
theorem dX6_readPart_37 : decode cX6_readPart 37 = .ok (.invokevirtual 160, 3) := by decide +kernel
theorem dX6_readPart_40 : decode cX6_readPart 40 = .ok (.aload_n 0, 1) := by decide +kernel
theorem dX6_readPart_41 : decode cX6_readPart 41 = .ok (.getfield 22, 3) := by decide +kernel
theorem dX6_readPart_44 : decode cX6_readPart 44 = .ok (.invokevirtual 50, 3) := by decide +kernel
theorem dX6_readPart_47 : decode cX6_readPart 47 = .ok (.iconst 1, 1) := by decide +kernel
theorem dX6_readPart_48 : decode cX6_readPart 48 = .ok (.ireturn, 1) := by decide +kernel
def q6_readPart (σ : St) : Option (Bool × St) :=
  Option.bind (q8_numberUpTo σ 999) fun x1_ =>
  Option.bind (if x1_ = (-1) then (Option.bind (q6_partHere σ) fun x9_ =>
  some x9_) else (some x1_)) fun x3_ =>
  if x3_ = (-1) then (some (false, σ)) else
  Option.bind (q2_emit σ 36 x3_) fun x16_ =>
  Option.bind (q8_advance x16_) fun x18_ =>
  some (true, x18_)
abbrev rm6_readPart : Room := { frames := 6, cells := 0, slots := 0, locals := 127 }
set_option maxHeartbeats 4000000 in
set_option maxRecDepth 100000 in
theorem p6_readPart {Θ : Tz} {σ : St} {ρ : Option Value × St} (C : Zc Θ cX6_readPart 3 RX6 (some .boolean) rm6_readPart) (hkd : Θ.2.2.2.2.1 = kdC) {r : (Bool × St)} (hf : q6_readPart σ = some r) (hρ : ρ = (some (.int (b2i r.1)), r.2)) : Z Θ 3 0 0 (zQ Θ ρ) σ 0 [(0, .ref (zA Θ 3))] [] := by
  unfold q6_readPart at hf
  refine z_aload_n C 0 dX6_readPart_0 rfl rfl ?_
  refine fg6_22 C hkd dX6_readPart_1 ?_
  refine z_sipush (v := 999) C dX6_readPart_4 sp_999 ?_
  obtain ⟨x1_, h2_, hf⟩ := ob hf
  refine cr6_94 (most_a := 999) C hkd  h2_ ⟨(Nat.le_of_ble_eq_true rfl), (Nat.le_of_ble_eq_true rfl)⟩ (Nat.le_of_ble_eq_true rfl) ⟨Nat.zero_le _, Nat.zero_le _⟩ dX6_readPart_7 ?_
  refine z_istN C dX6_readPart_10 rfl rfl (Nat.le_of_ble_eq_true rfl) rfl ?_
  obtain ⟨x3_, h4_, hf⟩ := ob hf
  suffices K5_ : Z Θ 3 0 0 (zQ Θ ρ) σ 24 [(1, .int x1_), (0, .ref (zA Θ 3))] [.int x3_] by
    have K6_ : x1_ = (-1) → Z Θ 3 0 0 (zQ Θ ρ) σ 16 [(1, .int x1_), (0, .ref (zA Θ 3))] [] := by
      intro h11_
      rw [if_pos h11_] at h4_
      refine z_aload_n C 1 dX6_readPart_16 rfl rfl ?_
      obtain ⟨x9_, h10_, h4_⟩ := ob h4_
      refine cr6_201 C hkd  h10_ ⟨(Nat.le_of_ble_eq_true rfl), (Nat.le_of_ble_eq_true rfl)⟩ (Nat.le_of_ble_eq_true rfl) ⟨Nat.zero_le _, Nat.zero_le _⟩ dX6_readPart_17 ?_
      refine z_goto C 24 dX6_readPart_20 (by decide) ?_
      cases h4_
      exact K5_
    have K7_ : ¬ (x1_ = (-1)) → Z Θ 3 0 0 (zQ Θ ρ) σ 23 [(1, .int x1_), (0, .ref (zA Θ 3))] [] := by
      intro h11_
      rw [if_neg h11_] at h4_
      refine z_iload_n C 0 dX6_readPart_23 rfl rfl ?_
      cases h4_
      exact K5_
    refine z_iload_n C 0 dX6_readPart_11 rfl rfl ?_
    refine z_iconst (v := (-1)) C dX6_readPart_12 ic_m1 ?_
    refine c_eq_f C 23 dX6_readPart_13 (by decide) (fun h8_ => ?_) (fun h8_ => ?_)
    · exact K6_ h8_
    · exact K7_ h8_
  refine z_istN C dX6_readPart_24 rfl rfl (Nat.le_of_ble_eq_true rfl) rfl ?_
  have K12_ : x3_ = (-1) → Z Θ 3 0 0 (zQ Θ ρ) σ 30 [(2, .int x3_), (1, .int x1_), (0, .ref (zA Θ 3))] [] := by
    intro h15_
    rw [if_pos h15_] at hf
    refine z_iconst (v := 0) C dX6_readPart_30 ic_0 ?_
    cases hf
    subst hρ
    exact z_zret C (b2i_narrow _) dX6_readPart_31
  suffices K13_ : ¬ (x3_ = (-1)) → Z Θ 3 0 0 (zQ Θ ρ) σ 32 [(2, .int x3_), (1, .int x1_), (0, .ref (zA Θ 3))] [] by
    refine z_iload_n C 0 dX6_readPart_25 rfl rfl ?_
    refine z_iconst (v := (-1)) C dX6_readPart_26 ic_m1 ?_
    refine c_eq_f C 32 dX6_readPart_27 (by decide) (fun h14_ => ?_) (fun h14_ => ?_)
    · exact K12_ h14_
    · exact K13_ h14_
  intro h15_
  rw [if_neg h15_] at hf
  refine z_aload_n C 2 dX6_readPart_32 rfl rfl ?_
  refine fg6_30 C hkd dX6_readPart_33 ?_
  refine z_iload_n C 0 dX6_readPart_36 rfl rfl ?_
  obtain ⟨x16_, h17_, hf⟩ := ob hf
  refine cr6_160 (th := 36) (word_a := x3_) C hkd isLaw_36 h17_ ⟨(Nat.le_of_ble_eq_true rfl), (Nat.le_of_ble_eq_true rfl)⟩ (Nat.le_of_ble_eq_true rfl) ⟨Nat.zero_le _, Nat.zero_le _⟩ dX6_readPart_37 ?_
  refine z_aload_n C 2 dX6_readPart_40 rfl rfl ?_
  refine fg6_22 C hkd dX6_readPart_41 ?_
  obtain ⟨x18_, h19_, hf⟩ := ob hf
  refine cr6_50 C hkd  h19_ ⟨(Nat.le_of_ble_eq_true rfl), (Nat.le_of_ble_eq_true rfl)⟩ (Nat.le_of_ble_eq_true rfl) ⟨Nat.zero_le _, Nat.zero_le _⟩ dX6_readPart_44 ?_
  refine z_iconst (v := 1) C dX6_readPart_47 ic_1 ?_
  cases hf
  subst hρ
  exact z_zret C (b2i_narrow _) dX6_readPart_48
theorem c6_readPart {l : Launch} {kd : List KD} {w : Wp} {σ : St} (hkd : kd = kdC) (hi : zI kd w) {r : (Bool × St)} (hf : q6_readPart σ = some r) : zM l kd w yX6_readPart cX6_readPart 3 (some .boolean) rm6_readPart [.ref (w.2.2.1 3)] σ (some (.int (b2i r.1)), r.2) := zM_of rfl hi (Nat.le_of_ble_eq_true rfl) (fun Θ hl hw C => by
  obtain ⟨Θ1, Θ2, Θ3, Θ4, Θ5⟩ := Θ
  cases hw
  exact p6_readPart C hkd  hf rfl)
/-! LastLoaf$Reader.readAtom -/
theorem sp_1007 : (Int16.ofInt (1007)).toInt32 = 1007 := by decide +kernel
theorem sp_1008 : (Int16.ofInt (1008)).toInt32 = 1008 := by decide +kernel
theorem w_5_187 : Cond.code ({ cls := "LastLoaf$Reader", name := "readPart", desc := "()Z" } : MethodName) prog_8_method_19_code (3 : Nat) (Option.some ClassFile.FieldType.boolean) ∈ TB := tb_in (lwt_5 (List.mem_of_getElem? (i := 187) (by decide +kernel))) rfl
theorem w_5_184 : Cond.methodLink "LastLoaf$Reader" (195 : Nat) ({ cls := "LastLoaf$Reader", name := "readPart", desc := "()Z" } : MethodName) ∈ TB := tb_in (lwt_5 (List.mem_of_getElem? (i := 184) (by decide +kernel))) rfl
theorem w_5_185 : Cond.instanceMethod ({ cls := "LastLoaf$Reader", name := "readPart", desc := "()Z" } : MethodName) ∈ TB := tb_in (lwt_5 (List.mem_of_getElem? (i := 185) (by decide +kernel))) rfl
theorem w_5_186 : Cond.selects "LastLoaf$Reader" ({ cls := "LastLoaf$Reader", name := "readPart", desc := "()Z" } : MethodName) ({ cls := "LastLoaf$Reader", name := "readPart", desc := "()Z" } : MethodName) ∈ TB := tb_in (lwt_5 (List.mem_of_getElem? (i := 186) (by decide +kernel))) rfl
theorem cr6_195 {Θ : Tz} {cc : ByteArray} {nL kc ks : Nat} {ret : Option FieldType} {rm : Room} {Q : State → Prop} {σ : St} {pc : Nat} {lv : List (Nat × Value)} {st : List Value} (C : Zc Θ cc nL RX6 ret rm) (hkd : Θ.2.2.2.2.1 = kdC) {r : Bool × St} (hx : q6_readPart σ = some r) (hrm : rm6_readPart.frames + 1 ≤ rm.frames ∧ 8 + (3 + 11) + rm6_readPart.locals ≤ rm.locals) (hcat : (st.map fun v => v.category).sum ≤ 8) (hk : kc ≤ rm.cells ∧ ks ≤ rm.slots) (hd : decode cc pc = .ok (.invokevirtual 195, 3)) (kk : Z Θ nL kc ks Q r.2 (pc + 3) lv (.int (b2i r.1) :: st)) : Z Θ nL kc ks Q σ pc lv (.ref (zA Θ 3) :: st) := z_callV C 3 [] (some (.int (b2i r.1)), r.2) 0 (kC_3 hkd) rfl (c6_readPart hkd (zc_inj C) hx) w_5_187 w_5_184 w_5_185 w_5_186 w_1_7 ⟨rfl, rfl, hrm.1, hrm.2⟩ (by decide +kernel) rfl rfl hcat hk hd kk
theorem sp_1100 : (Int16.ofInt (1100)).toInt32 = 1100 := by decide +kernel
theorem w_5_199 : Cond.code ({ cls := "LastLoaf$Reader", name := "comparisonHere", desc := "()I" } : MethodName) prog_8_method_20_code (1 : Nat) (Option.some ClassFile.FieldType.int) ∈ TB := tb_in (lwt_5 (List.mem_of_getElem? (i := 199) (by decide +kernel))) rfl
theorem w_5_196 : Cond.methodLink "LastLoaf$Reader" (198 : Nat) ({ cls := "LastLoaf$Reader", name := "comparisonHere", desc := "()I" } : MethodName) ∈ TB := tb_in (lwt_5 (List.mem_of_getElem? (i := 196) (by decide +kernel))) rfl
theorem w_5_197 : Cond.instanceMethod ({ cls := "LastLoaf$Reader", name := "comparisonHere", desc := "()I" } : MethodName) ∈ TB := tb_in (lwt_5 (List.mem_of_getElem? (i := 197) (by decide +kernel))) rfl
theorem w_5_198 : Cond.selects "LastLoaf$Reader" ({ cls := "LastLoaf$Reader", name := "comparisonHere", desc := "()I" } : MethodName) ({ cls := "LastLoaf$Reader", name := "comparisonHere", desc := "()I" } : MethodName) ∈ TB := tb_in (lwt_5 (List.mem_of_getElem? (i := 198) (by decide +kernel))) rfl
theorem cr6_198 {Θ : Tz} {cc : ByteArray} {nL kc ks : Nat} {ret : Option FieldType} {rm : Room} {Q : State → Prop} {σ : St} {pc : Nat} {lv : List (Nat × Value)} {st : List Value} (C : Zc Θ cc nL RX6 ret rm) (hkd : Θ.2.2.2.2.1 = kdC) {r : Int32} (hx : q6_comparisonHere σ = some r) (hrm : rm6_comparisonHere.frames + 1 ≤ rm.frames ∧ 8 + (1 + 11) + rm6_comparisonHere.locals ≤ rm.locals) (hcat : (st.map fun v => v.category).sum ≤ 8) (hk : kc ≤ rm.cells ∧ ks ≤ rm.slots) (hd : decode cc pc = .ok (.invokevirtual 198, 3)) (kk : Z Θ nL kc ks Q σ (pc + 3) lv (.int r :: st)) : Z Θ nL kc ks Q σ pc lv (.ref (zA Θ 3) :: st) := z_callV C 3 [] (some (.int r), σ) 0 (kC_3 hkd) rfl (c6_comparisonHere hkd (zc_inj C) hx) w_5_199 w_5_196 w_5_197 w_5_198 w_1_7 ⟨rfl, rfl, hrm.1, hrm.2⟩ (by decide +kernel) rfl rfl hcat hk hd kk
theorem dX6_readAtom_0 : decode cX6_readAtom 0 = .ok (.aload_n 0, 1) := by decide +kernel
theorem dX6_readAtom_1 : decode cX6_readAtom 1 = .ok (.getfield 22, 3) := by decide +kernel
theorem dX6_readAtom_4 : decode cX6_readAtom 4 = .ok (.ldc 192, 2) := by decide +kernel
theorem dX6_readAtom_6 : decode cX6_readAtom 6 = .ok (.invokevirtual 55, 3) := by decide +kernel
theorem dX6_readAtom_9 : decode cX6_readAtom 9 = .ok (.ifCond .ne 15, 3) := by decide +kernel
theorem dX6_readAtom_12 : decode cX6_readAtom 12 = .ok (.aload_n 0, 1) := by decide +kernel
theorem dX6_readAtom_13 : decode cX6_readAtom 13 = .ok (.getfield 22, 3) := by decide +kernel
theorem dX6_readAtom_16 : decode cX6_readAtom 16 = .ok (.ldc 194, 2) := by decide +kernel
theorem dX6_readAtom_18 : decode cX6_readAtom 18 = .ok (.invokevirtual 55, 3) := by decide +kernel
theorem dX6_readAtom_21 : decode cX6_readAtom 21 = .ok (.ifCond .eq 40, 3) := by decide +kernel
theorem dX6_readAtom_24 : decode cX6_readAtom 24 = .ok (.aload_n 0, 1) := by decide +kernel
theorem dX6_readAtom_25 : decode cX6_readAtom 25 = .ok (.getfield 30, 3) := by decide +kernel
theorem dX6_readAtom_28 : decode cX6_readAtom 28 = .ok (.aload_n 0, 1) := by decide +kernel
theorem dX6_readAtom_29 : decode cX6_readAtom 29 = .ok (.getfield 22, 3) := by decide +kernel
theorem dX6_readAtom_32 : decode cX6_readAtom 32 = .ok (.ldc 192, 2) := by decide +kernel
theorem dX6_readAtom_34 : decode cX6_readAtom 34 = .ok (.invokevirtual 55, 3) := by decide +kernel
theorem dX6_readAtom_37 : decode cX6_readAtom 37 = .ok (.ifCond .eq 9, 3) := by decide +kernel
theorem dX6_readAtom_40 : decode cX6_readAtom 40 = .ok (.sipush 1007, 3) := by decide +kernel
theorem dX6_readAtom_43 : decode cX6_readAtom 43 = .ok (.goto 6, 3) := by decide +kernel
theorem dX6_readAtom_46 : decode cX6_readAtom 46 = .ok (.sipush 1008, 3) := by decide +kernel
theorem dX6_readAtom_49 : decode cX6_readAtom 49 = .ok (.invokevirtual 160, 3) := by decide +kernel
theorem dX6_readAtom_52 : decode cX6_readAtom 52 = .ok (.aload_n 0, 1) := by decide +kernel
theorem dX6_readAtom_53 : decode cX6_readAtom 53 = .ok (.getfield 22, 3) := by decide +kernel
theorem dX6_readAtom_56 : decode cX6_readAtom 56 = .ok (.invokevirtual 50, 3) := by decide +kernel
theorem dX6_readAtom_59 : decode cX6_readAtom 59 = .ok (.iconst 1, 1) := by decide +kernel
theorem dX6_readAtom_60 : decode cX6_readAtom 60 = .ok (.ireturn, 1) := by decide +kernel
theorem dX6_readAtom_61 : decode cX6_readAtom 61 = .ok (.iconst (-1), 1) := by decide +kernel
theorem dX6_readAtom_62 : decode cX6_readAtom 62 = .ok (.istore_n 1, 1) := by decide +kernel
theorem dX6_readAtom_63 : decode cX6_readAtom 63 = .ok (.iconst 0, 1) := by decide +kernel
theorem dX6_readAtom_64 : decode cX6_readAtom 64 = .ok (.istore_n 2, 1) := by decide +kernel
theorem dX6_readAtom_65 : decode cX6_readAtom 65 = .ok (.iconst 0, 1) := by decide +kernel
theorem dX6_readAtom_66 : decode cX6_readAtom 66 = .ok (.istore_n 3, 1) := by decide +kernel
theorem dX6_readAtom_67 : decode cX6_readAtom 67 = .ok (.iload_n 3, 1) := by decide +kernel
theorem dX6_readAtom_68 : decode cX6_readAtom 68 = .ok (.sipush 400, 3) := by decide +kernel
theorem dX6_readAtom_71 : decode cX6_readAtom 71 = .ok (.if_icmp .ge 84, 3) := by decide +kernel
theorem dX6_readAtom_74 : decode cX6_readAtom 74 = .ok (.aload_n 0, 1) := by decide +kernel
theorem dX6_readAtom_75 : decode cX6_readAtom 75 = .ok (.invokevirtual 195, 3) := by decide +kernel
theorem dX6_readAtom_78 : decode cX6_readAtom 78 = .ok (.ifCond .ne 5, 3) := by decide +kernel
theorem dX6_readAtom_81 : decode cX6_readAtom 81 = .ok (.iconst 0, 1) := by decide +kernel
theorem dX6_readAtom_82 : decode cX6_readAtom 82 = .ok (.ireturn, 1) := by decide +kernel
theorem dX6_readAtom_83 : decode cX6_readAtom 83 = .ok (.iload_n 2, 1) := by decide +kernel
theorem dX6_readAtom_84 : decode cX6_readAtom 84 = .ok (.ifCond .eq 13, 3) := by decide +kernel
theorem dX6_readAtom_87 : decode cX6_readAtom 87 = .ok (.aload_n 0, 1) := by decide +kernel
theorem dX6_readAtom_88 : decode cX6_readAtom 88 = .ok (.getfield 30, 3) := by decide +kernel
theorem dX6_readAtom_91 : decode cX6_readAtom 91 = .ok (.sipush 1100, 3) := by decide +kernel
theorem dX6_readAtom_94 : decode cX6_readAtom 94 = .ok (.invokevirtual 160, 3) := by decide +kernel
theorem dX6_readAtom_97 : decode cX6_readAtom 97 = .ok (.aload_n 0, 1) := by decide +kernel
theorem dX6_readAtom_98 : decode cX6_readAtom 98 = .ok (.getfield 22, 3) := by decide +kernel
theorem dX6_readAtom_101 : decode cX6_readAtom 101 = .ok (.bipush 43, 2) := by decide +kernel
theorem dX6_readAtom_103 : decode cX6_readAtom 103 = .ok (.invokevirtual 46, 3) := by decide +kernel
theorem dX6_readAtom_106 : decode cX6_readAtom 106 = .ok (.istore_n 2, 1) := by decide +kernel
theorem dX6_readAtom_107 : decode cX6_readAtom 107 = .ok (.iload_n 2, 1) := by decide +kernel
theorem dX6_readAtom_108 : decode cX6_readAtom 108 = .ok (.ifCond .ne 18, 3) := by decide +kernel
theorem dX6_readAtom_111 : decode cX6_readAtom 111 = .ok (.iload_n 1, 1) := by decide +kernel
theorem dX6_readAtom_112 : decode cX6_readAtom 112 = .ok (.iconst (-1), 1) := by decide +kernel
theorem dX6_readAtom_113 : decode cX6_readAtom 113 = .ok (.if_icmp .eq 13, 3) := by decide +kernel
theorem dX6_readAtom_116 : decode cX6_readAtom 116 = .ok (.aload_n 0, 1) := by decide +kernel
theorem dX6_readAtom_117 : decode cX6_readAtom 117 = .ok (.getfield 30, 3) := by decide +kernel
theorem dX6_readAtom_120 : decode cX6_readAtom 120 = .ok (.iload_n 1, 1) := by decide +kernel
theorem dX6_readAtom_121 : decode cX6_readAtom 121 = .ok (.invokevirtual 160, 3) := by decide +kernel
theorem dX6_readAtom_124 : decode cX6_readAtom 124 = .ok (.iconst 1, 1) := by decide +kernel
theorem dX6_readAtom_125 : decode cX6_readAtom 125 = .ok (.ireturn, 1) := by decide +kernel
theorem dX6_readAtom_126 : decode cX6_readAtom 126 = .ok (.iload_n 2, 1) := by decide +kernel
theorem dX6_readAtom_127 : decode cX6_readAtom 127 = .ok (.ifCond .ne 15, 3) := by decide +kernel
theorem dX6_readAtom_130 : decode cX6_readAtom 130 = .ok (.aload_n 0, 1) := by decide +kernel
theorem dX6_readAtom_131 : decode cX6_readAtom 131 = .ok (.invokevirtual 198, 3) := by decide +kernel
theorem dX6_readAtom_134 : decode cX6_readAtom 134 = .ok (.istore_n 1, 1) := by decide +kernel
theorem dX6_readAtom_135 : decode cX6_readAtom 135 = .ok (.iload_n 1, 1) := by decide +kernel
theorem dX6_readAtom_136 : decode cX6_readAtom 136 = .ok (.iconst (-1), 1) := by decide +kernel
theorem dX6_readAtom_137 : decode cX6_readAtom 137 = .ok (.if_icmp .ne 5, 3) := by decide +kernel
theorem dX6_readAtom_140 : decode cX6_readAtom 140 = .ok (.iconst 0, 1) := by decide +kernel
theorem dX6_readAtom_141 : decode cX6_readAtom 141 = .ok (.ireturn, 1) := by decide +kernel
theorem dX6_readAtom_142 : decode cX6_readAtom 142 = .ok (.aload_n 0, 1) := by decide +kernel
theorem dX6_readAtom_143 : decode cX6_readAtom 143 = .ok (.getfield 22, 3) := by decide +kernel
theorem dX6_readAtom_146 : decode cX6_readAtom 146 = .ok (.invokevirtual 50, 3) := by decide +kernel
theorem dX6_readAtom_149 : decode cX6_readAtom 149 = .ok (.iinc 3 1, 3) := by decide +kernel
theorem dX6_readAtom_152 : decode cX6_readAtom 152 = .ok (.goto (-85), 3) := by decide +kernel
theorem dX6_readAtom_155 : decode cX6_readAtom 155 = .ok (.iconst 0, 1) := by decide +kernel
theorem dX6_readAtom_156 : decode cX6_readAtom 156 = .ok (.ireturn, 1) := by decide +kernel
def q6_readAtom (σ : St) : Option (Bool × St) :=
  Option.bind (Option.bind (q8_isWord σ 24) fun x5_ =>
  if x5_ = true then (some true) else (Option.bind (q8_isWord σ 25) fun x8_ =>
  if x8_ = true then (some true) else (some false))) fun t3_ =>
  if t3_ = true then (Option.bind (Option.bind (q8_isWord σ 24) fun x17_ =>
  if x17_ = true then (some (1007 : Int32)) else (some (1008 : Int32))) fun x12_ =>
  Option.bind (q2_emit σ 36 x12_) fun x21_ =>
  Option.bind (q8_advance x21_) fun x23_ =>
  some (true, x23_)) else
  Option.bind (loop4 (fun rec28_ (comparing31_ : Int32) (adding32_ : Bool) (parts33_ : Int32) (σ34_ : St) =>
  if parts33_ < 400 then
  Option.bind (q6_readPart σ34_) fun x43_ =>
  if ¬ (x43_.1 = true) then (some (.inl (false, x43_.2))) else
  Option.bind (if adding32_ = true then (Option.bind (q2_emit x43_.2 36 1100) fun x54_ =>
  some (x54_)) else (some (x43_.2))) fun y47_ =>
  Option.bind (q8_isSign y47_ 43) fun x56_ =>
  if (¬ (x56_ = true)) ∧ (¬ comparing31_ = (-1)) then (Option.bind (q2_emit y47_ 36 comparing31_) fun x63_ =>
  some (.inl (true, x63_))) else
  lt (fun (comparing68_ : Int32) =>
  Option.bind (q8_advance y47_) fun x79_ =>
  lt (parts33_ + 1) fun parts81_ =>
  rec28_ comparing68_ x56_ parts81_ x79_) fun k65_ =>
  if ¬ (x56_ = true) then (Option.bind (q6_comparisonHere y47_) fun x73_ =>
  if x73_ = (-1) then (some (.inl (false, y47_))) else
  k65_ x73_) else (k65_ comparing31_)
  else (some (.inr (comparing31_, adding32_, parts33_, σ34_)))) fuelN (-1 : Int32) false (0 : Int32) σ) fun y25_ =>
  Sum.elim (fun x9 => some x9) (fun y25_r =>
  some (false, y25_r.2.2.2)) y25_
abbrev rm6_readAtom : Room := { frames := 7, cells := 0, slots := 0, locals := 149 }
set_option maxHeartbeats 4000000 in
set_option maxRecDepth 100000 in
theorem p6_readAtom {Θ : Tz} {σ : St} {ρ : Option Value × St} (C : Zc Θ cX6_readAtom 4 RX6 (some .boolean) rm6_readAtom) (hkd : Θ.2.2.2.2.1 = kdC) {r : (Bool × St)} (hf : q6_readAtom σ = some r) (hρ : ρ = (some (.int (b2i r.1)), r.2)) : Z Θ 4 0 0 (zQ Θ ρ) σ 0 [(0, .ref (zA Θ 3))] [] := by
  unfold q6_readAtom at hf
  obtain ⟨t3_, h4_, hf⟩ := ob hf
  have K1_ : t3_ = true → Z Θ 4 0 0 (zQ Θ ρ) σ 24 [(0, .ref (zA Θ 3))] [] := by
    intro h11_
    rw [if_pos h11_] at hf
    refine z_aload_n C 0 dX6_readAtom_24 rfl rfl ?_
    refine fg6_30 C hkd dX6_readAtom_25 ?_
    obtain ⟨x12_, h13_, hf⟩ := ob hf
    suffices K14_ : Z Θ 4 0 0 (zQ Θ ρ) σ 49 [(0, .ref (zA Θ 3))] [.int x12_, .ref (zA Θ 36)] by
      refine z_aload_n C 0 dX6_readAtom_28 rfl rfl ?_
      refine fg6_22 C hkd dX6_readAtom_29 ?_
      refine z_ldcs (k := 24) (tx := "same") C (List.mem_of_getElem? (i := 24) rfl) dX6_readAtom_32 ?_
      obtain ⟨x17_, h18_, h13_⟩ := ob h13_
      refine cr6_55 (word_a := 24) C hkd (Nat.le_of_ble_eq_true rfl) h18_ ⟨(Nat.le_of_ble_eq_true rfl), (Nat.le_of_ble_eq_true rfl)⟩ (Nat.le_of_ble_eq_true rfl) ⟨Nat.zero_le _, Nat.zero_le _⟩ dX6_readAtom_34 ?_
      have K15_ : x17_ = true → Z Θ 4 0 0 (zQ Θ ρ) σ 40 [(0, .ref (zA Θ 3))] [.ref (zA Θ 36)] := by
        intro h20_
        rw [if_pos h20_] at h13_
        refine z_sipush (v := 1007) C dX6_readAtom_40 sp_1007 ?_
        refine z_goto C 49 dX6_readAtom_43 (by decide) ?_
        cases h13_
        exact K14_
      have K16_ : ¬ (x17_ = true) → Z Θ 4 0 0 (zQ Θ ρ) σ 46 [(0, .ref (zA Θ 3))] [.ref (zA Θ 36)] := by
        intro h20_
        rw [if_neg h20_] at h13_
        refine z_sipush (v := 1008) C dX6_readAtom_46 sp_1008 ?_
        cases h13_
        exact K14_
      refine cb_f C 46 dX6_readAtom_37 (by decide) (fun h19_ => ?_) (fun h19_ => ?_)
      · exact K15_ h19_
      · exact K16_ h19_
    obtain ⟨x21_, h22_, hf⟩ := ob hf
    refine cr6_160 (th := 36) (word_a := x12_) C hkd isLaw_36 h22_ ⟨(Nat.le_of_ble_eq_true rfl), (Nat.le_of_ble_eq_true rfl)⟩ (Nat.le_of_ble_eq_true rfl) ⟨Nat.zero_le _, Nat.zero_le _⟩ dX6_readAtom_49 ?_
    refine z_aload_n C 0 dX6_readAtom_52 rfl rfl ?_
    refine fg6_22 C hkd dX6_readAtom_53 ?_
    obtain ⟨x23_, h24_, hf⟩ := ob hf
    refine cr6_50 C hkd  h24_ ⟨(Nat.le_of_ble_eq_true rfl), (Nat.le_of_ble_eq_true rfl)⟩ (Nat.le_of_ble_eq_true rfl) ⟨Nat.zero_le _, Nat.zero_le _⟩ dX6_readAtom_56 ?_
    refine z_iconst (v := 1) C dX6_readAtom_59 ic_1 ?_
    cases hf
    subst hρ
    exact z_zret C (b2i_narrow _) dX6_readAtom_60
  suffices K2_ : ¬ (t3_ = true) → Z Θ 4 0 0 (zQ Θ ρ) σ 61 [(0, .ref (zA Θ 3))] [] by
    refine z_aload_n C 0 dX6_readAtom_0 rfl rfl ?_
    refine fg6_22 C hkd dX6_readAtom_1 ?_
    refine z_ldcs (k := 24) (tx := "same") C (List.mem_of_getElem? (i := 24) rfl) dX6_readAtom_4 ?_
    obtain ⟨x5_, h6_, h4_⟩ := ob h4_
    refine cr6_55 (word_a := 24) C hkd (Nat.le_of_ble_eq_true rfl) h6_ ⟨(Nat.le_of_ble_eq_true rfl), (Nat.le_of_ble_eq_true rfl)⟩ (Nat.le_of_ble_eq_true rfl) ⟨Nat.zero_le _, Nat.zero_le _⟩ dX6_readAtom_6 ?_
    refine cb_t C 24 dX6_readAtom_9 (by decide) (fun h7_ => ?_) (fun h7_ => ?_)
    · rw [if_pos h7_] at h4_
      cases h4_
      exact K1_ rfl
    · rw [if_neg h7_] at h4_
      refine z_aload_n C 0 dX6_readAtom_12 rfl rfl ?_
      refine fg6_22 C hkd dX6_readAtom_13 ?_
      refine z_ldcs (k := 25) (tx := "standing") C (List.mem_of_getElem? (i := 25) rfl) dX6_readAtom_16 ?_
      obtain ⟨x8_, h9_, h4_⟩ := ob h4_
      refine cr6_55 (word_a := 25) C hkd (Nat.le_of_ble_eq_true rfl) h9_ ⟨(Nat.le_of_ble_eq_true rfl), (Nat.le_of_ble_eq_true rfl)⟩ (Nat.le_of_ble_eq_true rfl) ⟨Nat.zero_le _, Nat.zero_le _⟩ dX6_readAtom_18 ?_
      refine cb_f C 61 dX6_readAtom_21 (by decide) (fun h10_ => ?_) (fun h10_ => ?_)
      · rw [if_pos h10_] at h4_
        cases h4_
        exact K1_ rfl
      · rw [if_neg h10_] at h4_
        cases h4_
        exact K2_ Bool.false_ne_true
  intro h11_
  rw [if_neg h11_] at hf
  refine z_iconst (v := (-1)) C dX6_readAtom_61 ic_m1 ?_
  refine z_istN C dX6_readAtom_62 rfl rfl (Nat.le_of_ble_eq_true rfl) rfl ?_
  refine z_iconst (v := 0) C dX6_readAtom_63 ic_0 ?_
  refine z_istN C dX6_readAtom_64 rfl rfl (Nat.le_of_ble_eq_true rfl) rfl ?_
  refine z_iconst (v := 0) C dX6_readAtom_65 ic_0 ?_
  refine z_istN C dX6_readAtom_66 rfl rfl (Nat.le_of_ble_eq_true rfl) rfl ?_
  refine Z.sub [3, 2, 1, 0] rfl ?_
  obtain ⟨y25_, h26_, hf⟩ := ob hf
  suffices K27_ : ∀ y25_r, y25_ = .inr y25_r → Z Θ 4 0 0 (zQ Θ ρ) y25_r.2.2.2 155 [(0, .ref (zA Θ 3)), (1, .int y25_r.1), (2, .int (b2i y25_r.2.1)), (3, .int y25_r.2.2.1)] [] by
    refine loop4_Z (P := fun (comparing31_ : Int32) (adding32_ : Bool) (parts33_ : Int32) (σ34_ : St) => Z Θ 4 0 0 (zQ Θ ρ) σ34_ 67 [(0, .ref (zA Θ 3)), (1, .int comparing31_), (2, .int (b2i adding32_)), (3, .int parts33_)] []) ?_ fuelN (-1 : Int32) false (0 : Int32) σ h26_
    clear h26_
    intro rec28_ comparing31_ adding32_ parts33_ σ34_ h29_ h30_
    have K37_ : parts33_ < 400 → Z Θ 4 0 0 (zQ Θ ρ) σ34_ 74 [(0, .ref (zA Θ 3)), (1, .int comparing31_), (2, .int (b2i adding32_)), (3, .int parts33_)] [] := by
      intro h40_
      rw [if_pos h40_] at h30_
      refine z_aload_n C 0 dX6_readAtom_74 rfl rfl ?_
      obtain ⟨x43_, h44_, h30_⟩ := ob h30_
      refine cr6_195 C hkd  h44_ ⟨(Nat.le_of_ble_eq_true rfl), (Nat.le_of_ble_eq_true rfl)⟩ (Nat.le_of_ble_eq_true rfl) ⟨Nat.zero_le _, Nat.zero_le _⟩ dX6_readAtom_75 ?_
      have K41_ : ¬ (x43_.1 = true) → Z Θ 4 0 0 (zQ Θ ρ) x43_.2 81 [(0, .ref (zA Θ 3)), (1, .int comparing31_), (2, .int (b2i adding32_)), (3, .int parts33_)] [] := by
        intro h46_
        rw [if_pos h46_] at h30_
        refine z_iconst (v := 0) C dX6_readAtom_81 ic_0 ?_
        rw [← Option.some.inj h30_] at hf
        replace hf : some (false, x43_.2) = some r := hf
        cases hf
        subst hρ
        exact z_zret C (b2i_narrow _) dX6_readAtom_82
      suffices K42_ : ¬ (¬ (x43_.1 = true)) → Z Θ 4 0 0 (zQ Θ ρ) x43_.2 83 [(0, .ref (zA Θ 3)), (1, .int comparing31_), (2, .int (b2i adding32_)), (3, .int parts33_)] [] by
        refine cb_t C 83 dX6_readAtom_78 (by decide) (fun h45_ => ?_) (fun h45_ => ?_)
        · exact K42_ (fun n => n h45_)
        · exact K41_ h45_
      intro h46_
      rw [if_neg h46_] at h30_
      obtain ⟨y47_, h48_, h30_⟩ := ob h30_
      suffices K49_ : Z Θ 4 0 0 (zQ Θ ρ) y47_ 97 [(0, .ref (zA Θ 3)), (1, .int comparing31_), (2, .int (b2i adding32_)), (3, .int parts33_)] [] by
        have K50_ : adding32_ = true → Z Θ 4 0 0 (zQ Θ ρ) x43_.2 87 [(0, .ref (zA Θ 3)), (1, .int comparing31_), (2, .int (b2i adding32_)), (3, .int parts33_)] [] := by
          intro h53_
          rw [if_pos h53_] at h48_
          refine z_aload_n C 0 dX6_readAtom_87 rfl rfl ?_
          refine fg6_30 C hkd dX6_readAtom_88 ?_
          refine z_sipush (v := 1100) C dX6_readAtom_91 sp_1100 ?_
          obtain ⟨x54_, h55_, h48_⟩ := ob h48_
          refine cr6_160 (th := 36) (word_a := 1100) C hkd isLaw_36 h55_ ⟨(Nat.le_of_ble_eq_true rfl), (Nat.le_of_ble_eq_true rfl)⟩ (Nat.le_of_ble_eq_true rfl) ⟨Nat.zero_le _, Nat.zero_le _⟩ dX6_readAtom_94 ?_
          cases h48_
          exact K49_
        have K51_ : ¬ (adding32_ = true) → Z Θ 4 0 0 (zQ Θ ρ) x43_.2 97 [(0, .ref (zA Θ 3)), (1, .int comparing31_), (2, .int (b2i adding32_)), (3, .int parts33_)] [] := by
          intro h53_
          rw [if_neg h53_] at h48_
          cases h48_
          exact K49_
        refine z_iload_n C 2 dX6_readAtom_83 rfl rfl ?_
        refine cb_f C 97 dX6_readAtom_84 (by decide) (fun h52_ => ?_) (fun h52_ => ?_)
        · exact K50_ h52_
        · exact K51_ h52_
      refine z_aload_n C 0 dX6_readAtom_97 rfl rfl ?_
      refine fg6_22 C hkd dX6_readAtom_98 ?_
      refine z_bipush (v := 43) C dX6_readAtom_101 bp_43 ?_
      obtain ⟨x56_, h57_, h30_⟩ := ob h30_
      refine cr6_46 (sign_a := 43) C hkd  h57_ ⟨(Nat.le_of_ble_eq_true rfl), (Nat.le_of_ble_eq_true rfl)⟩ (Nat.le_of_ble_eq_true rfl) ⟨Nat.zero_le _, Nat.zero_le _⟩ dX6_readAtom_103 ?_
      refine z_istN C dX6_readAtom_106 rfl rfl (Nat.le_of_ble_eq_true rfl) rfl ?_
      have K58_ : (¬ (x56_ = true)) ∧ (¬ comparing31_ = (-1)) → Z Θ 4 0 0 (zQ Θ ρ) y47_ 116 [(2, .int (b2i x56_)), (0, .ref (zA Θ 3)), (1, .int comparing31_), (3, .int parts33_)] [] := by
        intro h62_
        rw [if_pos h62_] at h30_
        refine z_aload_n C 1 dX6_readAtom_116 rfl rfl ?_
        refine fg6_30 C hkd dX6_readAtom_117 ?_
        refine z_iload_n C 2 dX6_readAtom_120 rfl rfl ?_
        obtain ⟨x63_, h64_, h30_⟩ := ob h30_
        refine cr6_160 (th := 36) (word_a := comparing31_) C hkd isLaw_36 h64_ ⟨(Nat.le_of_ble_eq_true rfl), (Nat.le_of_ble_eq_true rfl)⟩ (Nat.le_of_ble_eq_true rfl) ⟨Nat.zero_le _, Nat.zero_le _⟩ dX6_readAtom_121 ?_
        refine z_iconst (v := 1) C dX6_readAtom_124 ic_1 ?_
        rw [← Option.some.inj h30_] at hf
        replace hf : some (true, x63_) = some r := hf
        cases hf
        subst hρ
        exact z_zret C (b2i_narrow _) dX6_readAtom_125
      suffices K59_ : ¬ ((¬ (x56_ = true)) ∧ (¬ comparing31_ = (-1))) → Z Θ 4 0 0 (zQ Θ ρ) y47_ 126 [(2, .int (b2i x56_)), (0, .ref (zA Θ 3)), (1, .int comparing31_), (3, .int parts33_)] [] by
        refine z_iload_n C 0 dX6_readAtom_107 rfl rfl ?_
        refine cb_t C 126 dX6_readAtom_108 (by decide) (fun h60_ => ?_) (fun h60_ => ?_)
        · exact K59_ (fun n => (fun n => n h60_) n.1)
        · refine z_iload_n C 2 dX6_readAtom_111 rfl rfl ?_
          refine z_iconst (v := (-1)) C dX6_readAtom_112 ic_m1 ?_
          refine c_ne_f C 126 dX6_readAtom_113 (by decide) (fun h61_ => ?_) (fun h61_ => ?_)
          · exact K58_ ⟨h60_, h61_⟩
          · exact K59_ (fun n => h61_ n.2)
      intro h62_
      rw [if_neg h62_] at h30_
      obtain ⟨k65_, h66_, h30_⟩ := lt_ h30_
      suffices K67_ : ∀ (comparing68_ : Int32), k65_ comparing68_ = some y25_ → Z Θ 4 0 0 (zQ Θ ρ) y47_ 142 [(0, .ref (zA Θ 3)), (1, .int comparing68_), (2, .int (b2i x56_)), (3, .int parts33_)] [] by
        have K69_ : ¬ (x56_ = true) → Z Θ 4 0 0 (zQ Θ ρ) y47_ 130 [(2, .int (b2i x56_)), (0, .ref (zA Θ 3)), (1, .int comparing31_), (3, .int parts33_)] [] := by
          intro h72_
          rw [if_pos h72_] at h30_
          refine z_aload_n C 1 dX6_readAtom_130 rfl rfl ?_
          obtain ⟨x73_, h74_, h30_⟩ := ob h30_
          refine cr6_198 C hkd  h74_ ⟨(Nat.le_of_ble_eq_true rfl), (Nat.le_of_ble_eq_true rfl)⟩ (Nat.le_of_ble_eq_true rfl) ⟨Nat.zero_le _, Nat.zero_le _⟩ dX6_readAtom_131 ?_
          refine z_istN C dX6_readAtom_134 rfl rfl (Nat.le_of_ble_eq_true rfl) rfl ?_
          have K75_ : x73_ = (-1) → Z Θ 4 0 0 (zQ Θ ρ) y47_ 140 [(1, .int x73_), (2, .int (b2i x56_)), (0, .ref (zA Θ 3)), (3, .int parts33_)] [] := by
            intro h78_
            rw [if_pos h78_] at h30_
            refine z_iconst (v := 0) C dX6_readAtom_140 ic_0 ?_
            rw [← Option.some.inj h30_] at hf
            replace hf : some (false, y47_) = some r := hf
            cases hf
            subst hρ
            exact z_zret C (b2i_narrow _) dX6_readAtom_141
          suffices K76_ : ¬ (x73_ = (-1)) → Z Θ 4 0 0 (zQ Θ ρ) y47_ 142 [(1, .int x73_), (2, .int (b2i x56_)), (0, .ref (zA Θ 3)), (3, .int parts33_)] [] by
            refine z_iload_n C 0 dX6_readAtom_135 rfl rfl ?_
            refine z_iconst (v := (-1)) C dX6_readAtom_136 ic_m1 ?_
            refine c_eq_f C 142 dX6_readAtom_137 (by decide) (fun h77_ => ?_) (fun h77_ => ?_)
            · exact K75_ h77_
            · exact K76_ h77_
          intro h78_
          rw [if_neg h78_] at h30_
          refine Z.sub [2, 0, 1, 3] rfl ?_
          exact K67_ _ h30_
        have K70_ : ¬ (¬ (x56_ = true)) → Z Θ 4 0 0 (zQ Θ ρ) y47_ 142 [(2, .int (b2i x56_)), (0, .ref (zA Θ 3)), (1, .int comparing31_), (3, .int parts33_)] [] := by
          intro h72_
          rw [if_neg h72_] at h30_
          refine Z.sub [1, 2, 0, 3] rfl ?_
          exact K67_ _ h30_
        refine z_iload_n C 0 dX6_readAtom_126 rfl rfl ?_
        refine cb_t C 142 dX6_readAtom_127 (by decide) (fun h71_ => ?_) (fun h71_ => ?_)
        · exact K70_ (fun n => n h71_)
        · exact K69_ h71_
      intro comparing68_ h30_9
      clear h30_
      have h30_ := h30_9
      subst h66_
      dsimp only at h30_
      refine z_aload_n C 0 dX6_readAtom_142 rfl rfl ?_
      refine fg6_22 C hkd dX6_readAtom_143 ?_
      obtain ⟨x79_, h80_, h30_⟩ := ob h30_
      refine cr6_50 C hkd  h80_ ⟨(Nat.le_of_ble_eq_true rfl), (Nat.le_of_ble_eq_true rfl)⟩ (Nat.le_of_ble_eq_true rfl) ⟨Nat.zero_le _, Nat.zero_le _⟩ dX6_readAtom_146 ?_
      obtain ⟨parts81_, h82_, h30_⟩ := lt_ h30_
      refine z_inc C 3 dX6_readAtom_149 rfl ic_1 h82_ (Nat.le_of_ble_eq_true rfl) rfl ?_
      refine z_goto C 67 dX6_readAtom_152 (by decide) ?_
      refine Z.sub [1, 2, 3, 0] rfl ?_
      exact h29_ _ _ _ _ h30_
    have K38_ : ¬ (parts33_ < 400) → Z Θ 4 0 0 (zQ Θ ρ) σ34_ 155 [(0, .ref (zA Θ 3)), (1, .int comparing31_), (2, .int (b2i adding32_)), (3, .int parts33_)] [] := by
      intro h40_
      rw [if_neg h40_] at h30_
      exact K27_ _ (Option.some.inj h30_).symm
    refine z_iload_n C 3 dX6_readAtom_67 rfl rfl ?_
    refine z_sipush (v := 400) C dX6_readAtom_68 sp_400 ?_
    refine c_lt_f C 155 dX6_readAtom_71 (by decide) (fun h39_ => ?_) (fun h39_ => ?_)
    · exact K37_ h39_
    · exact K38_ h39_
  intro y25_r e9
  subst e9
  simp only [Sum.elim_inr] at hf
  refine z_iconst (v := 0) C dX6_readAtom_155 ic_0 ?_
  cases hf
  subst hρ
  exact z_zret C (b2i_narrow _) dX6_readAtom_156
theorem c6_readAtom {l : Launch} {kd : List KD} {w : Wp} {σ : St} (hkd : kd = kdC) (hi : zI kd w) {r : (Bool × St)} (hf : q6_readAtom σ = some r) : zM l kd w yX6_readAtom cX6_readAtom 4 (some .boolean) rm6_readAtom [.ref (w.2.2.1 3)] σ (some (.int (b2i r.1)), r.2) := zM_of rfl hi (Nat.le_of_ble_eq_true rfl) (fun Θ hl hw C => by
  obtain ⟨Θ1, Θ2, Θ3, Θ4, Θ5⟩ := Θ
  cases hw
  exact p6_readAtom C hkd  hf rfl)
/-! LastLoaf$Reader.readCondition -/
theorem w_5_172 : Cond.code ({ cls := "LastLoaf$Reader", name := "openAtoms", desc := "()Z" } : MethodName) prog_8_method_13_code (3 : Nat) (Option.some ClassFile.FieldType.boolean) ∈ TB := tb_in (lwt_5 (List.mem_of_getElem? (i := 172) (by decide +kernel))) rfl
theorem w_5_169 : Cond.methodLink "LastLoaf$Reader" (167 : Nat) ({ cls := "LastLoaf$Reader", name := "openAtoms", desc := "()Z" } : MethodName) ∈ TB := tb_in (lwt_5 (List.mem_of_getElem? (i := 169) (by decide +kernel))) rfl
theorem w_5_170 : Cond.instanceMethod ({ cls := "LastLoaf$Reader", name := "openAtoms", desc := "()Z" } : MethodName) ∈ TB := tb_in (lwt_5 (List.mem_of_getElem? (i := 170) (by decide +kernel))) rfl
theorem w_5_171 : Cond.selects "LastLoaf$Reader" ({ cls := "LastLoaf$Reader", name := "openAtoms", desc := "()Z" } : MethodName) ({ cls := "LastLoaf$Reader", name := "openAtoms", desc := "()Z" } : MethodName) ∈ TB := tb_in (lwt_5 (List.mem_of_getElem? (i := 171) (by decide +kernel))) rfl
theorem cr6_167 {Θ : Tz} {cc : ByteArray} {nL kc ks : Nat} {ret : Option FieldType} {rm : Room} {Q : State → Prop} {σ : St} {pc : Nat} {lv : List (Nat × Value)} {st : List Value} (C : Zc Θ cc nL RX6 ret rm) (hkd : Θ.2.2.2.2.1 = kdC) {r : Bool × St} (hx : q6_openAtoms σ = some r) (hrm : rm6_openAtoms.frames + 1 ≤ rm.frames ∧ 8 + (3 + 11) + rm6_openAtoms.locals ≤ rm.locals) (hcat : (st.map fun v => v.category).sum ≤ 8) (hk : kc ≤ rm.cells ∧ ks ≤ rm.slots) (hd : decode cc pc = .ok (.invokevirtual 167, 3)) (kk : Z Θ nL kc ks Q r.2 (pc + 3) lv (.int (b2i r.1) :: st)) : Z Θ nL kc ks Q σ pc lv (.ref (zA Θ 3) :: st) := z_callV C 3 [] (some (.int (b2i r.1)), r.2) 0 (kC_3 hkd) rfl (c6_openAtoms hkd (zc_inj C) hx) w_5_172 w_5_169 w_5_170 w_5_171 w_1_7 ⟨rfl, rfl, hrm.1, hrm.2⟩ (by decide +kernel) rfl rfl hcat hk hd kk
theorem w_5_181 : Cond.code ({ cls := "LastLoaf$Reader", name := "readAtom", desc := "()Z" } : MethodName) prog_8_method_18_code (4 : Nat) (Option.some ClassFile.FieldType.boolean) ∈ TB := tb_in (lwt_5 (List.mem_of_getElem? (i := 181) (by decide +kernel))) rfl
theorem w_5_178 : Cond.methodLink "LastLoaf$Reader" (170 : Nat) ({ cls := "LastLoaf$Reader", name := "readAtom", desc := "()Z" } : MethodName) ∈ TB := tb_in (lwt_5 (List.mem_of_getElem? (i := 178) (by decide +kernel))) rfl
theorem w_5_179 : Cond.instanceMethod ({ cls := "LastLoaf$Reader", name := "readAtom", desc := "()Z" } : MethodName) ∈ TB := tb_in (lwt_5 (List.mem_of_getElem? (i := 179) (by decide +kernel))) rfl
theorem w_5_180 : Cond.selects "LastLoaf$Reader" ({ cls := "LastLoaf$Reader", name := "readAtom", desc := "()Z" } : MethodName) ({ cls := "LastLoaf$Reader", name := "readAtom", desc := "()Z" } : MethodName) ∈ TB := tb_in (lwt_5 (List.mem_of_getElem? (i := 180) (by decide +kernel))) rfl
theorem cr6_170 {Θ : Tz} {cc : ByteArray} {nL kc ks : Nat} {ret : Option FieldType} {rm : Room} {Q : State → Prop} {σ : St} {pc : Nat} {lv : List (Nat × Value)} {st : List Value} (C : Zc Θ cc nL RX6 ret rm) (hkd : Θ.2.2.2.2.1 = kdC) {r : Bool × St} (hx : q6_readAtom σ = some r) (hrm : rm6_readAtom.frames + 1 ≤ rm.frames ∧ 8 + (4 + 11) + rm6_readAtom.locals ≤ rm.locals) (hcat : (st.map fun v => v.category).sum ≤ 8) (hk : kc ≤ rm.cells ∧ ks ≤ rm.slots) (hd : decode cc pc = .ok (.invokevirtual 170, 3)) (kk : Z Θ nL kc ks Q r.2 (pc + 3) lv (.int (b2i r.1) :: st)) : Z Θ nL kc ks Q σ pc lv (.ref (zA Θ 3) :: st) := z_callV C 3 [] (some (.int (b2i r.1)), r.2) 0 (kC_3 hkd) rfl (c6_readAtom hkd (zc_inj C) hx) w_5_181 w_5_178 w_5_179 w_5_180 w_1_7 ⟨rfl, rfl, hrm.1, hrm.2⟩ (by decide +kernel) rfl rfl hcat hk hd kk
theorem w_5_203 : Cond.code ({ cls := "LastLoaf$Reader", name := "closeAtoms", desc := "()V" } : MethodName) prog_8_method_14_code (2 : Nat) (Option.none : Option ClassFile.FieldType) ∈ TB := tb_in (lwt_5 (List.mem_of_getElem? (i := 203) (by decide +kernel))) rfl
theorem w_5_200 : Cond.methodLink "LastLoaf$Reader" (173 : Nat) ({ cls := "LastLoaf$Reader", name := "closeAtoms", desc := "()V" } : MethodName) ∈ TB := tb_in (lwt_5 (List.mem_of_getElem? (i := 200) (by decide +kernel))) rfl
theorem w_5_201 : Cond.instanceMethod ({ cls := "LastLoaf$Reader", name := "closeAtoms", desc := "()V" } : MethodName) ∈ TB := tb_in (lwt_5 (List.mem_of_getElem? (i := 201) (by decide +kernel))) rfl
theorem w_5_202 : Cond.selects "LastLoaf$Reader" ({ cls := "LastLoaf$Reader", name := "closeAtoms", desc := "()V" } : MethodName) ({ cls := "LastLoaf$Reader", name := "closeAtoms", desc := "()V" } : MethodName) ∈ TB := tb_in (lwt_5 (List.mem_of_getElem? (i := 202) (by decide +kernel))) rfl
theorem cr6_173 {Θ : Tz} {cc : ByteArray} {nL kc ks : Nat} {ret : Option FieldType} {rm : Room} {Q : State → Prop} {σ : St} {pc : Nat} {lv : List (Nat × Value)} {st : List Value} (C : Zc Θ cc nL RX6 ret rm) (hkd : Θ.2.2.2.2.1 = kdC) {r : St} (hx : q6_closeAtoms σ = some r) (hrm : rm6_closeAtoms.frames + 1 ≤ rm.frames ∧ 8 + (2 + 11) + rm6_closeAtoms.locals ≤ rm.locals) (hcat : (st.map fun v => v.category).sum ≤ 8) (hk : kc ≤ rm.cells ∧ ks ≤ rm.slots) (hd : decode cc pc = .ok (.invokevirtual 173, 3)) (kk : Z Θ nL kc ks Q r (pc + 3) lv st) : Z Θ nL kc ks Q σ pc lv (.ref (zA Θ 3) :: st) := z_callV C 3 [] (none, r) 0 (kC_3 hkd) rfl (c6_closeAtoms hkd (zc_inj C) hx) w_5_203 w_5_200 w_5_201 w_5_202 w_1_7 ⟨rfl, rfl, hrm.1, hrm.2⟩ (by decide +kernel) rfl rfl hcat hk hd kk
theorem dX6_readCondition_0 : decode cX6_readCondition 0 = .ok (.aload_n 0, 1) := by decide +kernel
theorem dX6_readCondition_1 : decode cX6_readCondition 1 = .ok (.iconst 0, 1) := by decide +kernel
theorem dX6_readCondition_2 : decode cX6_readCondition 2 = .ok (.putfield 15, 3) := by decide +kernel
theorem dX6_readCondition_5 : decode cX6_readCondition 5 = .ok (.aload_n 0, 1) := by decide +kernel
theorem dX6_readCondition_6 : decode cX6_readCondition 6 = .ok (.iconst 0, 1) := by decide +kernel
theorem dX6_readCondition_7 : decode cX6_readCondition 7 = .ok (.putfield 19, 3) := by decide +kernel
theorem dX6_readCondition_10 : decode cX6_readCondition 10 = .ok (.aload_n 0, 1) := by decide +kernel
theorem dX6_readCondition_11 : decode cX6_readCondition 11 = .ok (.getfield 22, 3) := by decide +kernel
theorem dX6_readCondition_14 : decode cX6_readCondition 14 = .ok (.invokevirtual 50, 3) := by decide +kernel
theorem dX6_readCondition_17 : decode cX6_readCondition 17 = .ok (.iconst 0, 1) := by decide +kernel
theorem dX6_readCondition_18 : decode cX6_readCondition 18 = .ok (.istore_n 1, 1) := by decide +kernel
theorem dX6_readCondition_19 : decode cX6_readCondition 19 = .ok (.iload_n 1, 1) := by decide +kernel
theorem dX6_readCondition_20 : decode cX6_readCondition 20 = .ok (.sipush 400, 3) := by decide +kernel
theorem dX6_readCondition_23 : decode cX6_readCondition 23 = .ok (.if_icmp .ge 123, 3) := by decide +kernel
theorem dX6_readCondition_26 : decode cX6_readCondition 26 = .ok (.aload_n 0, 1) := by decide +kernel
theorem dX6_readCondition_27 : decode cX6_readCondition 27 = .ok (.invokevirtual 167, 3) := by decide +kernel
theorem dX6_readCondition_30 : decode cX6_readCondition 30 = .ok (.ifCond .eq 10, 3) := by decide +kernel
theorem dX6_readCondition_33 : decode cX6_readCondition 33 = .ok (.aload_n 0, 1) := by decide +kernel
theorem dX6_readCondition_34 : decode cX6_readCondition 34 = .ok (.invokevirtual 170, 3) := by decide +kernel
theorem dX6_readCondition_37 : decode cX6_readCondition 37 = .ok (.ifCond .ne 5, 3) := by decide +kernel
theorem dX6_readCondition_40 : decode cX6_readCondition 40 = .ok (.iconst 0, 1) := by decide +kernel
theorem dX6_readCondition_41 : decode cX6_readCondition 41 = .ok (.ireturn, 1) := by decide +kernel
theorem dX6_readCondition_42 : decode cX6_readCondition 42 = .ok (.aload_n 0, 1) := by decide +kernel
theorem dX6_readCondition_43 : decode cX6_readCondition 43 = .ok (.invokevirtual 173, 3) := by decide +kernel
theorem dX6_readCondition_46 : decode cX6_readCondition 46 = .ok (.aload_n 0, 1) := by decide +kernel
theorem dX6_readCondition_47 : decode cX6_readCondition 47 = .ok (.getfield 22, 3) := by decide +kernel
theorem dX6_readCondition_50 : decode cX6_readCondition 50 = .ok (.ldc 176, 2) := by decide +kernel
theorem dX6_readCondition_52 : decode cX6_readCondition 52 = .ok (.invokevirtual 55, 3) := by decide +kernel
theorem dX6_readCondition_55 : decode cX6_readCondition 55 = .ok (.ifCond .eq 23, 3) := by decide +kernel
theorem dX6_readCondition_58 : decode cX6_readCondition 58 = .ok (.aload_n 0, 1) := by decide +kernel
theorem dX6_readCondition_59 : decode cX6_readCondition 59 = .ok (.sipush 1103, 3) := by decide +kernel
theorem dX6_readCondition_62 : decode cX6_readCondition 62 = .ok (.sipush 1103, 3) := by decide +kernel
theorem dX6_readCondition_65 : decode cX6_readCondition 65 = .ok (.invokevirtual 178, 3) := by decide +kernel
theorem dX6_readCondition_68 : decode cX6_readCondition 68 = .ok (.aload_n 0, 1) := by decide +kernel
theorem dX6_readCondition_69 : decode cX6_readCondition 69 = .ok (.sipush 1103, 3) := by decide +kernel
theorem dX6_readCondition_72 : decode cX6_readCondition 72 = .ok (.invokevirtual 182, 3) := by decide +kernel
theorem dX6_readCondition_75 : decode cX6_readCondition 75 = .ok (.goto 58, 3) := by decide +kernel
theorem dX6_readCondition_78 : decode cX6_readCondition 78 = .ok (.aload_n 0, 1) := by decide +kernel
theorem dX6_readCondition_79 : decode cX6_readCondition 79 = .ok (.getfield 22, 3) := by decide +kernel
theorem dX6_readCondition_82 : decode cX6_readCondition 82 = .ok (.ldc 185, 2) := by decide +kernel
theorem dX6_readCondition_84 : decode cX6_readCondition 84 = .ok (.invokevirtual 55, 3) := by decide +kernel
theorem dX6_readCondition_87 : decode cX6_readCondition 87 = .ok (.ifCond .eq 23, 3) := by decide +kernel
theorem dX6_readCondition_90 : decode cX6_readCondition 90 = .ok (.aload_n 0, 1) := by decide +kernel
theorem dX6_readCondition_91 : decode cX6_readCondition 91 = .ok (.sipush 1103, 3) := by decide +kernel
theorem dX6_readCondition_94 : decode cX6_readCondition 94 = .ok (.sipush 1104, 3) := by decide +kernel
theorem dX6_readCondition_97 : decode cX6_readCondition 97 = .ok (.invokevirtual 178, 3) := by decide +kernel
theorem dX6_readCondition_100 : decode cX6_readCondition 100 = .ok (.aload_n 0, 1) := by decide +kernel
theorem dX6_readCondition_101 : decode cX6_readCondition 101 = .ok (.sipush 1104, 3) := by decide +kernel
theorem dX6_readCondition_104 : decode cX6_readCondition 104 = .ok (.invokevirtual 182, 3) := by decide +kernel
theorem dX6_readCondition_107 : decode cX6_readCondition 107 = .ok (.goto 26, 3) := by decide +kernel
theorem dX6_readCondition_110 : decode cX6_readCondition 110 = .ok (.aload_n 0, 1) := by decide +kernel
theorem dX6_readCondition_111 : decode cX6_readCondition 111 = .ok (.sipush 1103, 3) := by decide +kernel
theorem dX6_readCondition_114 : decode cX6_readCondition 114 = .ok (.sipush 1104, 3) := by decide +kernel
theorem dX6_readCondition_117 : decode cX6_readCondition 117 = .ok (.invokevirtual 178, 3) := by decide +kernel
theorem dX6_readCondition_120 : decode cX6_readCondition 120 = .ok (.aload_n 0, 1) := by decide +kernel
theorem dX6_readCondition_121 : decode cX6_readCondition 121 = .ok (.getfield 15, 3) := by decide +kernel
theorem dX6_readCondition_124 : decode cX6_readCondition 124 = .ok (.ifCond .ne 7, 3) := by decide +kernel
theorem dX6_readCondition_127 : decode cX6_readCondition 127 = .ok (.iconst 1, 1) := by decide +kernel
theorem dX6_readCondition_128 : decode cX6_readCondition 128 = .ok (.goto 4, 3) := by decide +kernel
theorem dX6_readCondition_131 : decode cX6_readCondition 131 = .ok (.iconst 0, 1) := by decide +kernel
theorem dX6_readCondition_132 : decode cX6_readCondition 132 = .ok (.ireturn, 1) := by decide +kernel
theorem dX6_readCondition_133 : decode cX6_readCondition 133 = .ok (.aload_n 0, 1) := by decide +kernel
theorem dX6_readCondition_134 : decode cX6_readCondition 134 = .ok (.getfield 22, 3) := by decide +kernel
theorem dX6_readCondition_137 : decode cX6_readCondition 137 = .ok (.invokevirtual 50, 3) := by decide +kernel
theorem dX6_readCondition_140 : decode cX6_readCondition 140 = .ok (.iinc 1 1, 3) := by decide +kernel
theorem dX6_readCondition_143 : decode cX6_readCondition 143 = .ok (.goto (-124), 3) := by decide +kernel
theorem dX6_readCondition_146 : decode cX6_readCondition 146 = .ok (.iconst 0, 1) := by decide +kernel
theorem dX6_readCondition_147 : decode cX6_readCondition 147 = .ok (.ireturn, 1) := by decide +kernel
def q6_readCondition (σ : St) : Option (Bool × St) :=
  lt (up σ 3 4 0) fun σ1_ =>
  lt (up σ1_ 3 5 0) fun σ3_ =>
  Option.bind (q8_advance σ3_) fun x5_ =>
  Option.bind (loop2 (fun rec10_ (atoms13_ : Int32) (σ14_ : St) =>
  if atoms13_ < 400 then
  Option.bind (Option.bind (q6_openAtoms σ14_) fun x25_ =>
  if x25_.1 = true then (Option.bind (q6_readAtom x25_.2) fun x28_ =>
  if x28_.1 = true then (some (false, x28_.2)) else (some (true, x28_.2))) else (some (true, x25_.2))) fun t23_ =>
  if t23_.1 = true then (some (.inl (false, t23_.2))) else
  Option.bind (q6_closeAtoms t23_.2) fun x32_ =>
  lt (fun (σ37_ : St) =>
  Option.bind (q8_advance σ37_) fun x65_ =>
  lt (atoms13_ + 1) fun atoms67_ =>
  rec10_ atoms67_ x65_) fun k34_ =>
  Option.bind (q8_isWord x32_ 30) fun x40_ =>
  if x40_ = true then (Option.bind (q6_emitWaiting x32_ 1103 1103) fun x44_ =>
  Option.bind (q6_waitFor x44_ 1103) fun x46_ =>
  k34_ x46_) else (Option.bind (q8_isWord x32_ 31) fun x50_ =>
  if x50_ = true then (Option.bind (q6_emitWaiting x32_ 1103 1104) fun x54_ =>
  Option.bind (q6_waitFor x54_ 1104) fun x56_ =>
  k34_ x56_) else
  Option.bind (q6_emitWaiting x32_ 1103 1104) fun x58_ =>
  some (.inl (decide ((x58_ 3 4) = 0), x58_)))
  else (some (.inr (atoms13_, σ14_)))) fuelN (0 : Int32) x5_) fun y7_ =>
  Sum.elim (fun x9 => some x9) (fun y7_r =>
  some (false, y7_r.2)) y7_
abbrev rm6_readCondition : Room := { frames := 8, cells := 0, slots := 0, locals := 172 }
set_option maxHeartbeats 4000000 in
set_option maxRecDepth 100000 in
theorem p6_readCondition {Θ : Tz} {σ : St} {ρ : Option Value × St} (C : Zc Θ cX6_readCondition 2 RX6 (some .boolean) rm6_readCondition) (hkd : Θ.2.2.2.2.1 = kdC) {r : (Bool × St)} (hf : q6_readCondition σ = some r) (hρ : ρ = (some (.int (b2i r.1)), r.2)) : Z Θ 2 0 0 (zQ Θ ρ) σ 0 [(0, .ref (zA Θ 3))] [] := by
  unfold q6_readCondition at hf
  refine z_aload_n C 0 dX6_readCondition_0 rfl rfl ?_
  refine z_iconst (v := 0) C dX6_readCondition_1 ic_0 ?_
  obtain ⟨σ1_, h2_, hf⟩ := lt_ hf
  refine fp6_15 C hkd h2_ dX6_readCondition_2 ?_
  refine z_aload_n C 0 dX6_readCondition_5 rfl rfl ?_
  refine z_iconst (v := 0) C dX6_readCondition_6 ic_0 ?_
  obtain ⟨σ3_, h4_, hf⟩ := lt_ hf
  refine fp6_19 C hkd h4_ dX6_readCondition_7 ?_
  refine z_aload_n C 0 dX6_readCondition_10 rfl rfl ?_
  refine fg6_22 C hkd dX6_readCondition_11 ?_
  obtain ⟨x5_, h6_, hf⟩ := ob hf
  refine cr6_50 C hkd  h6_ ⟨(Nat.le_of_ble_eq_true rfl), (Nat.le_of_ble_eq_true rfl)⟩ (Nat.le_of_ble_eq_true rfl) ⟨Nat.zero_le _, Nat.zero_le _⟩ dX6_readCondition_14 ?_
  refine z_iconst (v := 0) C dX6_readCondition_17 ic_0 ?_
  refine z_istN C dX6_readCondition_18 rfl rfl (Nat.le_of_ble_eq_true rfl) rfl ?_
  refine Z.sub [1, 0] rfl ?_
  obtain ⟨y7_, h8_, hf⟩ := ob hf
  suffices K9_ : ∀ y7_r, y7_ = .inr y7_r → Z Θ 2 0 0 (zQ Θ ρ) y7_r.2 146 [(0, .ref (zA Θ 3)), (1, .int y7_r.1)] [] by
    refine loop2_Z (P := fun (atoms13_ : Int32) (σ14_ : St) => Z Θ 2 0 0 (zQ Θ ρ) σ14_ 19 [(0, .ref (zA Θ 3)), (1, .int atoms13_)] []) ?_ fuelN (0 : Int32) x5_ h8_
    clear h8_
    intro rec10_ atoms13_ σ14_ h11_ h12_
    have K17_ : atoms13_ < 400 → Z Θ 2 0 0 (zQ Θ ρ) σ14_ 26 [(0, .ref (zA Θ 3)), (1, .int atoms13_)] [] := by
      intro h20_
      rw [if_pos h20_] at h12_
      obtain ⟨t23_, h24_, h12_⟩ := ob h12_
      have K21_ : t23_.1 = true → Z Θ 2 0 0 (zQ Θ ρ) t23_.2 40 [(0, .ref (zA Θ 3)), (1, .int atoms13_)] [] := by
        intro h31_
        rw [if_pos h31_] at h12_
        refine z_iconst (v := 0) C dX6_readCondition_40 ic_0 ?_
        rw [← Option.some.inj h12_] at hf
        replace hf : some (false, t23_.2) = some r := hf
        cases hf
        subst hρ
        exact z_zret C (b2i_narrow _) dX6_readCondition_41
      suffices K22_ : ¬ (t23_.1 = true) → Z Θ 2 0 0 (zQ Θ ρ) t23_.2 42 [(0, .ref (zA Θ 3)), (1, .int atoms13_)] [] by
        refine z_aload_n C 0 dX6_readCondition_26 rfl rfl ?_
        obtain ⟨x25_, h26_, h24_⟩ := ob h24_
        refine cr6_167 C hkd  h26_ ⟨(Nat.le_of_ble_eq_true rfl), (Nat.le_of_ble_eq_true rfl)⟩ (Nat.le_of_ble_eq_true rfl) ⟨Nat.zero_le _, Nat.zero_le _⟩ dX6_readCondition_27 ?_
        refine cb_f C 40 dX6_readCondition_30 (by decide) (fun h27_ => ?_) (fun h27_ => ?_)
        · rw [if_pos h27_] at h24_
          refine z_aload_n C 0 dX6_readCondition_33 rfl rfl ?_
          obtain ⟨x28_, h29_, h24_⟩ := ob h24_
          refine cr6_170 C hkd  h29_ ⟨(Nat.le_of_ble_eq_true rfl), (Nat.le_of_ble_eq_true rfl)⟩ (Nat.le_of_ble_eq_true rfl) ⟨Nat.zero_le _, Nat.zero_le _⟩ dX6_readCondition_34 ?_
          refine cb_t C 42 dX6_readCondition_37 (by decide) (fun h30_ => ?_) (fun h30_ => ?_)
          · rw [if_pos h30_] at h24_
            cases h24_
            exact K22_ Bool.false_ne_true
          · rw [if_neg h30_] at h24_
            cases h24_
            exact K21_ rfl
        · rw [if_neg h27_] at h24_
          cases h24_
          exact K21_ rfl
      intro h31_
      rw [if_neg h31_] at h12_
      refine z_aload_n C 0 dX6_readCondition_42 rfl rfl ?_
      obtain ⟨x32_, h33_, h12_⟩ := ob h12_
      refine cr6_173 C hkd  h33_ ⟨(Nat.le_of_ble_eq_true rfl), (Nat.le_of_ble_eq_true rfl)⟩ (Nat.le_of_ble_eq_true rfl) ⟨Nat.zero_le _, Nat.zero_le _⟩ dX6_readCondition_43 ?_
      obtain ⟨k34_, h35_, h12_⟩ := lt_ h12_
      suffices K36_ : ∀ (σ37_ : St), k34_ σ37_ = some y7_ → Z Θ 2 0 0 (zQ Θ ρ) σ37_ 133 [(0, .ref (zA Θ 3)), (1, .int atoms13_)] [] by
        refine z_aload_n C 0 dX6_readCondition_46 rfl rfl ?_
        refine fg6_22 C hkd dX6_readCondition_47 ?_
        refine z_ldcs (k := 30) (tx := "and") C (List.mem_of_getElem? (i := 30) rfl) dX6_readCondition_50 ?_
        obtain ⟨x40_, h41_, h12_⟩ := ob h12_
        refine cr6_55 (word_a := 30) C hkd (Nat.le_of_ble_eq_true rfl) h41_ ⟨(Nat.le_of_ble_eq_true rfl), (Nat.le_of_ble_eq_true rfl)⟩ (Nat.le_of_ble_eq_true rfl) ⟨Nat.zero_le _, Nat.zero_le _⟩ dX6_readCondition_52 ?_
        have K38_ : x40_ = true → Z Θ 2 0 0 (zQ Θ ρ) x32_ 58 [(0, .ref (zA Θ 3)), (1, .int atoms13_)] [] := by
          intro h43_
          rw [if_pos h43_] at h12_
          refine z_aload_n C 0 dX6_readCondition_58 rfl rfl ?_
          refine z_sipush (v := 1103) C dX6_readCondition_59 sp_1103 ?_
          refine z_sipush (v := 1103) C dX6_readCondition_62 sp_1103 ?_
          obtain ⟨x44_, h45_, h12_⟩ := ob h12_
          refine cr6_178 (least_a := 1103) (most_a := 1103) C hkd  h45_ ⟨(Nat.le_of_ble_eq_true rfl), (Nat.le_of_ble_eq_true rfl)⟩ (Nat.le_of_ble_eq_true rfl) ⟨Nat.zero_le _, Nat.zero_le _⟩ dX6_readCondition_65 ?_
          refine z_aload_n C 0 dX6_readCondition_68 rfl rfl ?_
          refine z_sipush (v := 1103) C dX6_readCondition_69 sp_1103 ?_
          obtain ⟨x46_, h47_, h12_⟩ := ob h12_
          refine cr6_182 (sign_a := 1103) C hkd  h47_ ⟨(Nat.le_of_ble_eq_true rfl), (Nat.le_of_ble_eq_true rfl)⟩ (Nat.le_of_ble_eq_true rfl) ⟨Nat.zero_le _, Nat.zero_le _⟩ dX6_readCondition_72 ?_
          refine z_goto C 133 dX6_readCondition_75 (by decide) ?_
          exact K36_ _ h12_
        have K39_ : ¬ (x40_ = true) → Z Θ 2 0 0 (zQ Θ ρ) x32_ 78 [(0, .ref (zA Θ 3)), (1, .int atoms13_)] [] := by
          intro h43_
          rw [if_neg h43_] at h12_
          refine z_aload_n C 0 dX6_readCondition_78 rfl rfl ?_
          refine fg6_22 C hkd dX6_readCondition_79 ?_
          refine z_ldcs (k := 31) (tx := "or") C (List.mem_of_getElem? (i := 31) rfl) dX6_readCondition_82 ?_
          obtain ⟨x50_, h51_, h12_⟩ := ob h12_
          refine cr6_55 (word_a := 31) C hkd (Nat.le_of_ble_eq_true rfl) h51_ ⟨(Nat.le_of_ble_eq_true rfl), (Nat.le_of_ble_eq_true rfl)⟩ (Nat.le_of_ble_eq_true rfl) ⟨Nat.zero_le _, Nat.zero_le _⟩ dX6_readCondition_84 ?_
          have K49_ : ¬ (x50_ = true) → Z Θ 2 0 0 (zQ Θ ρ) x32_ 110 [(0, .ref (zA Θ 3)), (1, .int atoms13_)] [] := by
            intro h53_
            rw [if_neg h53_] at h12_
            refine z_aload_n C 0 dX6_readCondition_110 rfl rfl ?_
            refine z_sipush (v := 1103) C dX6_readCondition_111 sp_1103 ?_
            refine z_sipush (v := 1104) C dX6_readCondition_114 sp_1104 ?_
            obtain ⟨x58_, h59_, h12_⟩ := ob h12_
            refine cr6_178 (least_a := 1103) (most_a := 1104) C hkd  h59_ ⟨(Nat.le_of_ble_eq_true rfl), (Nat.le_of_ble_eq_true rfl)⟩ (Nat.le_of_ble_eq_true rfl) ⟨Nat.zero_le _, Nat.zero_le _⟩ dX6_readCondition_117 ?_
            suffices K60_ : Z Θ 2 0 0 (zQ Θ ρ) x58_ 132 [(0, .ref (zA Θ 3)), (1, .int atoms13_)] [.int (b2i (decide ((x58_ 3 4) = 0)))] by
              have K61_ : (x58_ 3 4) = 0 → Z Θ 2 0 0 (zQ Θ ρ) x58_ 127 [(0, .ref (zA Θ 3)), (1, .int atoms13_)] [] := by
                intro h64_
                rw [decide_eq_true h64_] at K60_
                refine z_iconst (v := 1) C dX6_readCondition_127 ic_1 ?_
                refine z_goto C 132 dX6_readCondition_128 (by decide) ?_
                exact K60_
              have K62_ : ¬ ((x58_ 3 4) = 0) → Z Θ 2 0 0 (zQ Θ ρ) x58_ 131 [(0, .ref (zA Θ 3)), (1, .int atoms13_)] [] := by
                intro h64_
                rw [decide_eq_false h64_] at K60_
                refine z_iconst (v := 0) C dX6_readCondition_131 ic_0 ?_
                exact K60_
              refine z_aload_n C 0 dX6_readCondition_120 rfl rfl ?_
              refine fg6_15 C hkd dX6_readCondition_121 ?_
              refine c0_eq_f C 131 dX6_readCondition_124 (by decide) (fun h63_ => ?_) (fun h63_ => ?_)
              · exact K61_ h63_
              · exact K62_ h63_
            rw [← Option.some.inj h12_] at hf
            replace hf : some (decide ((x58_ 3 4) = 0), x58_) = some r := hf
            cases hf
            subst hρ
            exact z_zret C (b2i_narrow _) dX6_readCondition_132
          suffices K48_ : x50_ = true → Z Θ 2 0 0 (zQ Θ ρ) x32_ 90 [(0, .ref (zA Θ 3)), (1, .int atoms13_)] [] by
            refine cb_f C 110 dX6_readCondition_87 (by decide) (fun h52_ => ?_) (fun h52_ => ?_)
            · exact K48_ h52_
            · exact K49_ h52_
          intro h53_
          rw [if_pos h53_] at h12_
          refine z_aload_n C 0 dX6_readCondition_90 rfl rfl ?_
          refine z_sipush (v := 1103) C dX6_readCondition_91 sp_1103 ?_
          refine z_sipush (v := 1104) C dX6_readCondition_94 sp_1104 ?_
          obtain ⟨x54_, h55_, h12_⟩ := ob h12_
          refine cr6_178 (least_a := 1103) (most_a := 1104) C hkd  h55_ ⟨(Nat.le_of_ble_eq_true rfl), (Nat.le_of_ble_eq_true rfl)⟩ (Nat.le_of_ble_eq_true rfl) ⟨Nat.zero_le _, Nat.zero_le _⟩ dX6_readCondition_97 ?_
          refine z_aload_n C 0 dX6_readCondition_100 rfl rfl ?_
          refine z_sipush (v := 1104) C dX6_readCondition_101 sp_1104 ?_
          obtain ⟨x56_, h57_, h12_⟩ := ob h12_
          refine cr6_182 (sign_a := 1104) C hkd  h57_ ⟨(Nat.le_of_ble_eq_true rfl), (Nat.le_of_ble_eq_true rfl)⟩ (Nat.le_of_ble_eq_true rfl) ⟨Nat.zero_le _, Nat.zero_le _⟩ dX6_readCondition_104 ?_
          refine z_goto C 133 dX6_readCondition_107 (by decide) ?_
          exact K36_ _ h12_
        refine cb_f C 78 dX6_readCondition_55 (by decide) (fun h42_ => ?_) (fun h42_ => ?_)
        · exact K38_ h42_
        · exact K39_ h42_
      intro σ37_ h12_9
      clear h12_
      have h12_ := h12_9
      subst h35_
      dsimp only at h12_
      refine z_aload_n C 0 dX6_readCondition_133 rfl rfl ?_
      refine fg6_22 C hkd dX6_readCondition_134 ?_
      obtain ⟨x65_, h66_, h12_⟩ := ob h12_
      refine cr6_50 C hkd  h66_ ⟨(Nat.le_of_ble_eq_true rfl), (Nat.le_of_ble_eq_true rfl)⟩ (Nat.le_of_ble_eq_true rfl) ⟨Nat.zero_le _, Nat.zero_le _⟩ dX6_readCondition_137 ?_
      obtain ⟨atoms67_, h68_, h12_⟩ := lt_ h12_
      refine z_inc C 1 dX6_readCondition_140 rfl ic_1 h68_ (Nat.le_of_ble_eq_true rfl) rfl ?_
      refine z_goto C 19 dX6_readCondition_143 (by decide) ?_
      refine Z.sub [1, 0] rfl ?_
      exact h11_ _ _ h12_
    have K18_ : ¬ (atoms13_ < 400) → Z Θ 2 0 0 (zQ Θ ρ) σ14_ 146 [(0, .ref (zA Θ 3)), (1, .int atoms13_)] [] := by
      intro h20_
      rw [if_neg h20_] at h12_
      exact K9_ _ (Option.some.inj h12_).symm
    refine z_iload_n C 1 dX6_readCondition_19 rfl rfl ?_
    refine z_sipush (v := 400) C dX6_readCondition_20 sp_400 ?_
    refine c_lt_f C 146 dX6_readCondition_23 (by decide) (fun h19_ => ?_) (fun h19_ => ?_)
    · exact K17_ h19_
    · exact K18_ h19_
  intro y7_r e9
  subst e9
  simp only [Sum.elim_inr] at hf
  refine z_iconst (v := 0) C dX6_readCondition_146 ic_0 ?_
  cases hf
  subst hρ
  exact z_zret C (b2i_narrow _) dX6_readCondition_147
theorem c6_readCondition {l : Launch} {kd : List KD} {w : Wp} {σ : St} (hkd : kd = kdC) (hi : zI kd w) {r : (Bool × St)} (hf : q6_readCondition σ = some r) : zM l kd w yX6_readCondition cX6_readCondition 2 (some .boolean) rm6_readCondition [.ref (w.2.2.1 3)] σ (some (.int (b2i r.1)), r.2) := zM_of rfl hi (Nat.le_of_ble_eq_true rfl) (fun Θ hl hw C => by
  obtain ⟨Θ1, Θ2, Θ3, Θ4, Θ5⟩ := Θ
  cases hw
  exact p6_readCondition C hkd  hf rfl)
/-! LastLoaf$Reader.readLawLine -/
theorem sp_4000 : (Int16.ofInt (4000)).toInt32 = 4000 := by decide +kernel
theorem sp_2000 : (Int16.ofInt (2000)).toInt32 = 2000 := by decide +kernel
theorem sp_3000 : (Int16.ofInt (3000)).toInt32 = 3000 := by decide +kernel
theorem w_5_168 : Cond.code ({ cls := "LastLoaf$Reader", name := "readCondition", desc := "()Z" } : MethodName) prog_8_method_12_code (2 : Nat) (Option.some ClassFile.FieldType.boolean) ∈ TB := tb_in (lwt_5 (List.mem_of_getElem? (i := 168) (by decide +kernel))) rfl
theorem w_5_165 : Cond.methodLink "LastLoaf$Reader" (164 : Nat) ({ cls := "LastLoaf$Reader", name := "readCondition", desc := "()Z" } : MethodName) ∈ TB := tb_in (lwt_5 (List.mem_of_getElem? (i := 165) (by decide +kernel))) rfl
theorem w_5_166 : Cond.instanceMethod ({ cls := "LastLoaf$Reader", name := "readCondition", desc := "()Z" } : MethodName) ∈ TB := tb_in (lwt_5 (List.mem_of_getElem? (i := 166) (by decide +kernel))) rfl
theorem w_5_167 : Cond.selects "LastLoaf$Reader" ({ cls := "LastLoaf$Reader", name := "readCondition", desc := "()Z" } : MethodName) ({ cls := "LastLoaf$Reader", name := "readCondition", desc := "()Z" } : MethodName) ∈ TB := tb_in (lwt_5 (List.mem_of_getElem? (i := 167) (by decide +kernel))) rfl
theorem cr6_164 {Θ : Tz} {cc : ByteArray} {nL kc ks : Nat} {ret : Option FieldType} {rm : Room} {Q : State → Prop} {σ : St} {pc : Nat} {lv : List (Nat × Value)} {st : List Value} (C : Zc Θ cc nL RX6 ret rm) (hkd : Θ.2.2.2.2.1 = kdC) {r : Bool × St} (hx : q6_readCondition σ = some r) (hrm : rm6_readCondition.frames + 1 ≤ rm.frames ∧ 8 + (2 + 11) + rm6_readCondition.locals ≤ rm.locals) (hcat : (st.map fun v => v.category).sum ≤ 8) (hk : kc ≤ rm.cells ∧ ks ≤ rm.slots) (hd : decode cc pc = .ok (.invokevirtual 164, 3)) (kk : Z Θ nL kc ks Q r.2 (pc + 3) lv (.int (b2i r.1) :: st)) : Z Θ nL kc ks Q σ pc lv (.ref (zA Θ 3) :: st) := z_callV C 3 [] (some (.int (b2i r.1)), r.2) 0 (kC_3 hkd) rfl (c6_readCondition hkd (zc_inj C) hx) w_5_168 w_5_165 w_5_166 w_5_167 w_1_7 ⟨rfl, rfl, hrm.1, hrm.2⟩ (by decide +kernel) rfl rfl hcat hk hd kk
theorem dX6_readLawLine_0 : decode cX6_readLawLine 0 = .ok (.sipush 4000, 3) := by decide +kernel
theorem dX6_readLawLine_3 : decode cX6_readLawLine 3 = .ok (.istore_n 1, 1) := by decide +kernel
theorem dX6_readLawLine_4 : decode cX6_readLawLine 4 = .ok (.aload_n 0, 1) := by decide +kernel
theorem dX6_readLawLine_5 : decode cX6_readLawLine 5 = .ok (.getfield 22, 3) := by decide +kernel
theorem dX6_readLawLine_8 : decode cX6_readLawLine 8 = .ok (.ldc 152, 2) := by decide +kernel
theorem dX6_readLawLine_10 : decode cX6_readLawLine 10 = .ok (.invokevirtual 55, 3) := by decide +kernel
theorem dX6_readLawLine_13 : decode cX6_readLawLine 13 = .ok (.ifCond .ne 15, 3) := by decide +kernel
theorem dX6_readLawLine_16 : decode cX6_readLawLine 16 = .ok (.aload_n 0, 1) := by decide +kernel
theorem dX6_readLawLine_17 : decode cX6_readLawLine 17 = .ok (.getfield 22, 3) := by decide +kernel
theorem dX6_readLawLine_20 : decode cX6_readLawLine 20 = .ok (.ldc 154, 2) := by decide +kernel
theorem dX6_readLawLine_22 : decode cX6_readLawLine 22 = .ok (.invokevirtual 55, 3) := by decide +kernel
theorem dX6_readLawLine_25 : decode cX6_readLawLine 25 = .ok (.ifCond .eq 46, 3) := by decide +kernel
theorem dX6_readLawLine_28 : decode cX6_readLawLine 28 = .ok (.aload_n 0, 1) := by decide +kernel
theorem dX6_readLawLine_29 : decode cX6_readLawLine 29 = .ok (.getfield 22, 3) := by decide +kernel
theorem dX6_readLawLine_32 : decode cX6_readLawLine 32 = .ok (.ldc 152, 2) := by decide +kernel
theorem dX6_readLawLine_34 : decode cX6_readLawLine 34 = .ok (.invokevirtual 55, 3) := by decide +kernel
theorem dX6_readLawLine_37 : decode cX6_readLawLine 37 = .ok (.ifCond .eq 9, 3) := by decide +kernel
theorem dX6_readLawLine_40 : decode cX6_readLawLine 40 = .ok (.sipush 2000, 3) := by decide +kernel
theorem dX6_readLawLine_43 : decode cX6_readLawLine 43 = .ok (.goto 6, 3) := by decide +kernel
theorem dX6_readLawLine_46 : decode cX6_readLawLine 46 = .ok (.sipush 3000, 3) := by decide +kernel
theorem dX6_readLawLine_49 : decode cX6_readLawLine 49 = .ok (.istore_n 1, 1) := by decide +kernel
theorem dX6_readLawLine_50 : decode cX6_readLawLine 50 = .ok (.aload_n 0, 1) := by decide +kernel
theorem dX6_readLawLine_51 : decode cX6_readLawLine 51 = .ok (.bipush 20, 2) := by decide +kernel
theorem dX6_readLawLine_53 : decode cX6_readLawLine 53 = .ok (.invokevirtual 74, 3) := by decide +kernel
theorem dX6_readLawLine_56 : decode cX6_readLawLine 56 = .ok (.istore_n 2, 1) := by decide +kernel
theorem dX6_readLawLine_57 : decode cX6_readLawLine 57 = .ok (.iload_n 2, 1) := by decide +kernel
theorem dX6_readLawLine_58 : decode cX6_readLawLine 58 = .ok (.iconst (-1), 1) := by decide +kernel
theorem dX6_readLawLine_59 : decode cX6_readLawLine 59 = .ok (.if_icmp .ne 5, 3) := by decide +kernel
theorem dX6_readLawLine_62 : decode cX6_readLawLine 62 = .ok (.iconst 0, 1) := by decide +kernel
theorem dX6_readLawLine_63 : decode cX6_readLawLine 63 = .ok (.ireturn, 1) := by decide +kernel
theorem dX6_readLawLine_64 : decode cX6_readLawLine 64 = .ok (.iload_n 1, 1) := by decide +kernel
theorem dX6_readLawLine_65 : decode cX6_readLawLine 65 = .ok (.iload_n 2, 1) := by decide +kernel
theorem dX6_readLawLine_66 : decode cX6_readLawLine 66 = .ok (.iadd, 1) := by decide +kernel
theorem dX6_readLawLine_67 : decode cX6_readLawLine 67 = .ok (.istore_n 1, 1) := by decide +kernel
theorem dX6_readLawLine_68 : decode cX6_readLawLine 68 = .ok (.goto 27, 3) := by decide +kernel
theorem dX6_readLawLine_71 : decode cX6_readLawLine 71 = .ok (.aload_n 0, 1) := by decide +kernel
theorem dX6_readLawLine_72 : decode cX6_readLawLine 72 = .ok (.getfield 22, 3) := by decide +kernel
theorem dX6_readLawLine_75 : decode cX6_readLawLine 75 = .ok (.ldc 156, 2) := by decide +kernel
theorem dX6_readLawLine_77 : decode cX6_readLawLine 77 = .ok (.invokevirtual 55, 3) := by decide +kernel
theorem dX6_readLawLine_80 : decode cX6_readLawLine 80 = .ok (.ifCond .eq 13, 3) := by decide +kernel
theorem dX6_readLawLine_83 : decode cX6_readLawLine 83 = .ok (.aload_n 0, 1) := by decide +kernel
theorem dX6_readLawLine_84 : decode cX6_readLawLine 84 = .ok (.getfield 22, 3) := by decide +kernel
theorem dX6_readLawLine_87 : decode cX6_readLawLine 87 = .ok (.invokevirtual 50, 3) := by decide +kernel
theorem dX6_readLawLine_90 : decode cX6_readLawLine 90 = .ok (.goto 5, 3) := by decide +kernel
theorem dX6_readLawLine_93 : decode cX6_readLawLine 93 = .ok (.iconst 0, 1) := by decide +kernel
theorem dX6_readLawLine_94 : decode cX6_readLawLine 94 = .ok (.ireturn, 1) := by decide +kernel
theorem dX6_readLawLine_95 : decode cX6_readLawLine 95 = .ok (.aload_n 0, 1) := by decide +kernel
theorem dX6_readLawLine_96 : decode cX6_readLawLine 96 = .ok (.getfield 22, 3) := by decide +kernel
theorem dX6_readLawLine_99 : decode cX6_readLawLine 99 = .ok (.ldc 158, 2) := by decide +kernel
theorem dX6_readLawLine_101 : decode cX6_readLawLine 101 = .ok (.invokevirtual 55, 3) := by decide +kernel
theorem dX6_readLawLine_104 : decode cX6_readLawLine 104 = .ok (.ifCond .ne 14, 3) := by decide +kernel
theorem dX6_readLawLine_107 : decode cX6_readLawLine 107 = .ok (.aload_n 0, 1) := by decide +kernel
theorem dX6_readLawLine_108 : decode cX6_readLawLine 108 = .ok (.getfield 30, 3) := by decide +kernel
theorem dX6_readLawLine_111 : decode cX6_readLawLine 111 = .ok (.iconst 1, 1) := by decide +kernel
theorem dX6_readLawLine_112 : decode cX6_readLawLine 112 = .ok (.invokevirtual 160, 3) := by decide +kernel
theorem dX6_readLawLine_115 : decode cX6_readLawLine 115 = .ok (.goto 12, 3) := by decide +kernel
theorem dX6_readLawLine_118 : decode cX6_readLawLine 118 = .ok (.aload_n 0, 1) := by decide +kernel
theorem dX6_readLawLine_119 : decode cX6_readLawLine 119 = .ok (.invokevirtual 164, 3) := by decide +kernel
theorem dX6_readLawLine_122 : decode cX6_readLawLine 122 = .ok (.ifCond .ne 5, 3) := by decide +kernel
theorem dX6_readLawLine_125 : decode cX6_readLawLine 125 = .ok (.iconst 0, 1) := by decide +kernel
theorem dX6_readLawLine_126 : decode cX6_readLawLine 126 = .ok (.ireturn, 1) := by decide +kernel
theorem dX6_readLawLine_127 : decode cX6_readLawLine 127 = .ok (.aload_n 0, 1) := by decide +kernel
theorem dX6_readLawLine_128 : decode cX6_readLawLine 128 = .ok (.getfield 30, 3) := by decide +kernel
theorem dX6_readLawLine_131 : decode cX6_readLawLine 131 = .ok (.iload_n 1, 1) := by decide +kernel
theorem dX6_readLawLine_132 : decode cX6_readLawLine 132 = .ok (.invokevirtual 160, 3) := by decide +kernel
theorem dX6_readLawLine_135 : decode cX6_readLawLine 135 = .ok (.iconst 1, 1) := by decide +kernel
theorem dX6_readLawLine_136 : decode cX6_readLawLine 136 = .ok (.ireturn, 1) := by decide +kernel
def q6_readLawLine (σ : St) : Option (Bool × St) :=
  lt (fun (line4_ : Int32) (σ5_ : St) =>
  lt (fun (σ45_ : St) =>
  Option.bind (q2_emit σ45_ 36 line4_) fun x60_ =>
  some (true, x60_)) fun k42_ =>
  Option.bind (q8_isWord σ5_ 22) fun x48_ =>
  if ¬ (x48_ = true) then (Option.bind (q2_emit σ5_ 36 1) fun x52_ =>
  k42_ x52_) else (Option.bind (q6_readCondition σ5_) fun x56_ =>
  if ¬ (x56_.1 = true) then (some (false, x56_.2)) else
  k42_ x56_.2)) fun k1_ =>
  Option.bind (Option.bind (q8_isWord σ 19) fun x10_ =>
  if x10_ = true then (some true) else (Option.bind (q8_isWord σ 20) fun x13_ =>
  if x13_ = true then (some true) else (some false))) fun t8_ =>
  if t8_ = true then (Option.bind (Option.bind (q8_isWord σ 19) fun x22_ =>
  if x22_ = true then (some (2000 : Int32)) else (some (3000 : Int32))) fun x17_ =>
  Option.bind (q6_numberFollows σ 20) fun x26_ =>
  if x26_.1 = (-1) then (some (false, x26_.2)) else
  lt (x17_ + x26_.1) fun line32_ =>
  k1_ line32_ x26_.2) else (Option.bind (q8_isWord σ 21) fun x36_ =>
  if x36_ = true then (Option.bind (q8_advance σ) fun x40_ =>
  k1_ (4000 : Int32) x40_) else
  some (false, σ))
abbrev rm6_readLawLine : Room := { frames := 9, cells := 0, slots := 0, locals := 193 }
set_option maxHeartbeats 4000000 in
set_option maxRecDepth 100000 in
theorem p6_readLawLine {Θ : Tz} {σ : St} {ρ : Option Value × St} (C : Zc Θ cX6_readLawLine 3 RX6 (some .boolean) rm6_readLawLine) (hkd : Θ.2.2.2.2.1 = kdC) {r : (Bool × St)} (hf : q6_readLawLine σ = some r) (hρ : ρ = (some (.int (b2i r.1)), r.2)) : Z Θ 3 0 0 (zQ Θ ρ) σ 0 [(0, .ref (zA Θ 3))] [] := by
  unfold q6_readLawLine at hf
  refine z_sipush (v := 4000) C dX6_readLawLine_0 sp_4000 ?_
  refine z_istN C dX6_readLawLine_3 rfl rfl (Nat.le_of_ble_eq_true rfl) rfl ?_
  obtain ⟨k1_, h2_, hf⟩ := lt_ hf
  suffices K3_ : ∀ (line4_ : Int32) (σ5_ : St), k1_ line4_ σ5_ = some r → Z Θ 3 0 0 (zQ Θ ρ) σ5_ 95 [(0, .ref (zA Θ 3)), (1, .int line4_)] [] by
    obtain ⟨t8_, h9_, hf⟩ := ob hf
    have K6_ : t8_ = true → Z Θ 3 0 0 (zQ Θ ρ) σ 28 [(1, .int 4000), (0, .ref (zA Θ 3))] [] := by
      intro h16_
      rw [if_pos h16_] at hf
      obtain ⟨x17_, h18_, hf⟩ := ob hf
      suffices K19_ : Z Θ 3 0 0 (zQ Θ ρ) σ 49 [(1, .int 4000), (0, .ref (zA Θ 3))] [.int x17_] by
        refine z_aload_n C 1 dX6_readLawLine_28 rfl rfl ?_
        refine fg6_22 C hkd dX6_readLawLine_29 ?_
        refine z_ldcs (k := 19) (tx := "sway") C (List.mem_of_getElem? (i := 19) rfl) dX6_readLawLine_32 ?_
        obtain ⟨x22_, h23_, h18_⟩ := ob h18_
        refine cr6_55 (word_a := 19) C hkd (Nat.le_of_ble_eq_true rfl) h23_ ⟨(Nat.le_of_ble_eq_true rfl), (Nat.le_of_ble_eq_true rfl)⟩ (Nat.le_of_ble_eq_true rfl) ⟨Nat.zero_le _, Nat.zero_le _⟩ dX6_readLawLine_34 ?_
        have K20_ : x22_ = true → Z Θ 3 0 0 (zQ Θ ρ) σ 40 [(1, .int 4000), (0, .ref (zA Θ 3))] [] := by
          intro h25_
          rw [if_pos h25_] at h18_
          refine z_sipush (v := 2000) C dX6_readLawLine_40 sp_2000 ?_
          refine z_goto C 49 dX6_readLawLine_43 (by decide) ?_
          cases h18_
          exact K19_
        have K21_ : ¬ (x22_ = true) → Z Θ 3 0 0 (zQ Θ ρ) σ 46 [(1, .int 4000), (0, .ref (zA Θ 3))] [] := by
          intro h25_
          rw [if_neg h25_] at h18_
          refine z_sipush (v := 3000) C dX6_readLawLine_46 sp_3000 ?_
          cases h18_
          exact K19_
        refine cb_f C 46 dX6_readLawLine_37 (by decide) (fun h24_ => ?_) (fun h24_ => ?_)
        · exact K20_ h24_
        · exact K21_ h24_
      refine z_istN C dX6_readLawLine_49 rfl rfl (Nat.le_of_ble_eq_true rfl) rfl ?_
      refine z_aload_n C 1 dX6_readLawLine_50 rfl rfl ?_
      refine z_bipush (v := 20) C dX6_readLawLine_51 bp_20 ?_
      obtain ⟨x26_, h27_, hf⟩ := ob hf
      refine cr6_74 (most_a := 20) C hkd  h27_ ⟨(Nat.le_of_ble_eq_true rfl), (Nat.le_of_ble_eq_true rfl)⟩ (Nat.le_of_ble_eq_true rfl) ⟨Nat.zero_le _, Nat.zero_le _⟩ dX6_readLawLine_53 ?_
      refine z_istN C dX6_readLawLine_56 rfl rfl (Nat.le_of_ble_eq_true rfl) rfl ?_
      have K28_ : x26_.1 = (-1) → Z Θ 3 0 0 (zQ Θ ρ) x26_.2 62 [(2, .int x26_.1), (1, .int x17_), (0, .ref (zA Θ 3))] [] := by
        intro h31_
        rw [if_pos h31_] at hf
        refine z_iconst (v := 0) C dX6_readLawLine_62 ic_0 ?_
        cases hf
        subst hρ
        exact z_zret C (b2i_narrow _) dX6_readLawLine_63
      suffices K29_ : ¬ (x26_.1 = (-1)) → Z Θ 3 0 0 (zQ Θ ρ) x26_.2 64 [(2, .int x26_.1), (1, .int x17_), (0, .ref (zA Θ 3))] [] by
        refine z_iload_n C 0 dX6_readLawLine_57 rfl rfl ?_
        refine z_iconst (v := (-1)) C dX6_readLawLine_58 ic_m1 ?_
        refine c_eq_f C 64 dX6_readLawLine_59 (by decide) (fun h30_ => ?_) (fun h30_ => ?_)
        · exact K28_ h30_
        · exact K29_ h30_
      intro h31_
      rw [if_neg h31_] at hf
      refine z_iload_n C 1 dX6_readLawLine_64 rfl rfl ?_
      refine z_iload_n C 0 dX6_readLawLine_65 rfl rfl ?_
      refine z_iadd C dX6_readLawLine_66 ?_
      obtain ⟨line32_, h33_, hf⟩ := lt_ hf
      refine z_istN C dX6_readLawLine_67 h33_ rfl (Nat.le_of_ble_eq_true rfl) rfl ?_
      refine z_goto C 95 dX6_readLawLine_68 (by decide) ?_
      refine Z.sub [2, 0] rfl ?_
      exact K3_ _ _ hf
    have K7_ : ¬ (t8_ = true) → Z Θ 3 0 0 (zQ Θ ρ) σ 71 [(1, .int 4000), (0, .ref (zA Θ 3))] [] := by
      intro h16_
      rw [if_neg h16_] at hf
      refine z_aload_n C 1 dX6_readLawLine_71 rfl rfl ?_
      refine fg6_22 C hkd dX6_readLawLine_72 ?_
      refine z_ldcs (k := 21) (tx := "abstain") C (List.mem_of_getElem? (i := 21) rfl) dX6_readLawLine_75 ?_
      obtain ⟨x36_, h37_, hf⟩ := ob hf
      refine cr6_55 (word_a := 21) C hkd (Nat.le_of_ble_eq_true rfl) h37_ ⟨(Nat.le_of_ble_eq_true rfl), (Nat.le_of_ble_eq_true rfl)⟩ (Nat.le_of_ble_eq_true rfl) ⟨Nat.zero_le _, Nat.zero_le _⟩ dX6_readLawLine_77 ?_
      have K35_ : ¬ (x36_ = true) → Z Θ 3 0 0 (zQ Θ ρ) σ 93 [(1, .int 4000), (0, .ref (zA Θ 3))] [] := by
        intro h39_
        rw [if_neg h39_] at hf
        refine z_iconst (v := 0) C dX6_readLawLine_93 ic_0 ?_
        cases hf
        subst hρ
        exact z_zret C (b2i_narrow _) dX6_readLawLine_94
      suffices K34_ : x36_ = true → Z Θ 3 0 0 (zQ Θ ρ) σ 83 [(1, .int 4000), (0, .ref (zA Θ 3))] [] by
        refine cb_f C 93 dX6_readLawLine_80 (by decide) (fun h38_ => ?_) (fun h38_ => ?_)
        · exact K34_ h38_
        · exact K35_ h38_
      intro h39_
      rw [if_pos h39_] at hf
      refine z_aload_n C 1 dX6_readLawLine_83 rfl rfl ?_
      refine fg6_22 C hkd dX6_readLawLine_84 ?_
      obtain ⟨x40_, h41_, hf⟩ := ob hf
      refine cr6_50 C hkd  h41_ ⟨(Nat.le_of_ble_eq_true rfl), (Nat.le_of_ble_eq_true rfl)⟩ (Nat.le_of_ble_eq_true rfl) ⟨Nat.zero_le _, Nat.zero_le _⟩ dX6_readLawLine_87 ?_
      refine z_goto C 95 dX6_readLawLine_90 (by decide) ?_
      refine Z.sub [1, 0] rfl ?_
      exact K3_ _ _ hf
    refine z_aload_n C 1 dX6_readLawLine_4 rfl rfl ?_
    refine fg6_22 C hkd dX6_readLawLine_5 ?_
    refine z_ldcs (k := 19) (tx := "sway") C (List.mem_of_getElem? (i := 19) rfl) dX6_readLawLine_8 ?_
    obtain ⟨x10_, h11_, h9_⟩ := ob h9_
    refine cr6_55 (word_a := 19) C hkd (Nat.le_of_ble_eq_true rfl) h11_ ⟨(Nat.le_of_ble_eq_true rfl), (Nat.le_of_ble_eq_true rfl)⟩ (Nat.le_of_ble_eq_true rfl) ⟨Nat.zero_le _, Nat.zero_le _⟩ dX6_readLawLine_10 ?_
    refine cb_t C 28 dX6_readLawLine_13 (by decide) (fun h12_ => ?_) (fun h12_ => ?_)
    · rw [if_pos h12_] at h9_
      cases h9_
      exact K6_ rfl
    · rw [if_neg h12_] at h9_
      refine z_aload_n C 1 dX6_readLawLine_16 rfl rfl ?_
      refine fg6_22 C hkd dX6_readLawLine_17 ?_
      refine z_ldcs (k := 20) (tx := "spite") C (List.mem_of_getElem? (i := 20) rfl) dX6_readLawLine_20 ?_
      obtain ⟨x13_, h14_, h9_⟩ := ob h9_
      refine cr6_55 (word_a := 20) C hkd (Nat.le_of_ble_eq_true rfl) h14_ ⟨(Nat.le_of_ble_eq_true rfl), (Nat.le_of_ble_eq_true rfl)⟩ (Nat.le_of_ble_eq_true rfl) ⟨Nat.zero_le _, Nat.zero_le _⟩ dX6_readLawLine_22 ?_
      refine cb_f C 71 dX6_readLawLine_25 (by decide) (fun h15_ => ?_) (fun h15_ => ?_)
      · rw [if_pos h15_] at h9_
        cases h9_
        exact K6_ rfl
      · rw [if_neg h15_] at h9_
        cases h9_
        exact K7_ Bool.false_ne_true
  intro line4_ σ5_ hf9
  clear hf
  have hf := hf9
  subst h2_
  dsimp only at hf
  obtain ⟨k42_, h43_, hf⟩ := lt_ hf
  suffices K44_ : ∀ (σ45_ : St), k42_ σ45_ = some r → Z Θ 3 0 0 (zQ Θ ρ) σ45_ 127 [(0, .ref (zA Θ 3)), (1, .int line4_)] [] by
    refine z_aload_n C 0 dX6_readLawLine_95 rfl rfl ?_
    refine fg6_22 C hkd dX6_readLawLine_96 ?_
    refine z_ldcs (k := 22) (tx := "if") C (List.mem_of_getElem? (i := 22) rfl) dX6_readLawLine_99 ?_
    obtain ⟨x48_, h49_, hf⟩ := ob hf
    refine cr6_55 (word_a := 22) C hkd (Nat.le_of_ble_eq_true rfl) h49_ ⟨(Nat.le_of_ble_eq_true rfl), (Nat.le_of_ble_eq_true rfl)⟩ (Nat.le_of_ble_eq_true rfl) ⟨Nat.zero_le _, Nat.zero_le _⟩ dX6_readLawLine_101 ?_
    have K46_ : ¬ (x48_ = true) → Z Θ 3 0 0 (zQ Θ ρ) σ5_ 107 [(0, .ref (zA Θ 3)), (1, .int line4_)] [] := by
      intro h51_
      rw [if_pos h51_] at hf
      refine z_aload_n C 0 dX6_readLawLine_107 rfl rfl ?_
      refine fg6_30 C hkd dX6_readLawLine_108 ?_
      refine z_iconst (v := 1) C dX6_readLawLine_111 ic_1 ?_
      obtain ⟨x52_, h53_, hf⟩ := ob hf
      refine cr6_160 (th := 36) (word_a := 1) C hkd isLaw_36 h53_ ⟨(Nat.le_of_ble_eq_true rfl), (Nat.le_of_ble_eq_true rfl)⟩ (Nat.le_of_ble_eq_true rfl) ⟨Nat.zero_le _, Nat.zero_le _⟩ dX6_readLawLine_112 ?_
      refine z_goto C 127 dX6_readLawLine_115 (by decide) ?_
      exact K44_ _ hf
    have K47_ : ¬ (¬ (x48_ = true)) → Z Θ 3 0 0 (zQ Θ ρ) σ5_ 118 [(0, .ref (zA Θ 3)), (1, .int line4_)] [] := by
      intro h51_
      rw [if_neg h51_] at hf
      refine z_aload_n C 0 dX6_readLawLine_118 rfl rfl ?_
      obtain ⟨x56_, h57_, hf⟩ := ob hf
      refine cr6_164 C hkd  h57_ ⟨(Nat.le_of_ble_eq_true rfl), (Nat.le_of_ble_eq_true rfl)⟩ (Nat.le_of_ble_eq_true rfl) ⟨Nat.zero_le _, Nat.zero_le _⟩ dX6_readLawLine_119 ?_
      have K54_ : ¬ (x56_.1 = true) → Z Θ 3 0 0 (zQ Θ ρ) x56_.2 125 [(0, .ref (zA Θ 3)), (1, .int line4_)] [] := by
        intro h59_
        rw [if_pos h59_] at hf
        refine z_iconst (v := 0) C dX6_readLawLine_125 ic_0 ?_
        cases hf
        subst hρ
        exact z_zret C (b2i_narrow _) dX6_readLawLine_126
      suffices K55_ : ¬ (¬ (x56_.1 = true)) → Z Θ 3 0 0 (zQ Θ ρ) x56_.2 127 [(0, .ref (zA Θ 3)), (1, .int line4_)] [] by
        refine cb_t C 127 dX6_readLawLine_122 (by decide) (fun h58_ => ?_) (fun h58_ => ?_)
        · exact K55_ (fun n => n h58_)
        · exact K54_ h58_
      intro h59_
      rw [if_neg h59_] at hf
      exact K44_ _ hf
    refine cb_t C 118 dX6_readLawLine_104 (by decide) (fun h50_ => ?_) (fun h50_ => ?_)
    · exact K47_ (fun n => n h50_)
    · exact K46_ h50_
  intro σ45_ hf9
  clear hf
  have hf := hf9
  subst h43_
  dsimp only at hf
  refine z_aload_n C 0 dX6_readLawLine_127 rfl rfl ?_
  refine fg6_30 C hkd dX6_readLawLine_128 ?_
  refine z_iload_n C 1 dX6_readLawLine_131 rfl rfl ?_
  obtain ⟨x60_, h61_, hf⟩ := ob hf
  refine cr6_160 (th := 36) (word_a := line4_) C hkd isLaw_36 h61_ ⟨(Nat.le_of_ble_eq_true rfl), (Nat.le_of_ble_eq_true rfl)⟩ (Nat.le_of_ble_eq_true rfl) ⟨Nat.zero_le _, Nat.zero_le _⟩ dX6_readLawLine_132 ?_
  refine z_iconst (v := 1) C dX6_readLawLine_135 ic_1 ?_
  cases hf
  subst hρ
  exact z_zret C (b2i_narrow _) dX6_readLawLine_136
theorem c6_readLawLine {l : Launch} {kd : List KD} {w : Wp} {σ : St} (hkd : kd = kdC) (hi : zI kd w) {r : (Bool × St)} (hf : q6_readLawLine σ = some r) : zM l kd w yX6_readLawLine cX6_readLawLine 3 (some .boolean) rm6_readLawLine [.ref (w.2.2.1 3)] σ (some (.int (b2i r.1)), r.2) := zM_of rfl hi (Nat.le_of_ble_eq_true rfl) (fun Θ hl hw C => by
  obtain ⟨Θ1, Θ2, Θ3, Θ4, Θ5⟩ := Θ
  cases hw
  exact p6_readLawLine C hkd  hf rfl)
/-! LastLoaf$Reader.readLaw -/
theorem w_1_209 : Cond.fieldLink "LastLoaf$Reader" (141 : Nat) "LastLoaf$Law" "length" "I" ∈ TB := tb_in (lwt_1 (List.mem_of_getElem? (i := 209) (by decide +kernel))) rfl
theorem fp6_141 {Θ : Tz} {cc : ByteArray} {nL kc ks : Nat} {ret : Option FieldType} {rm : Room} {Q : State → Prop} {σ : St} {pc : Nat} {lv : List (Nat × Value)} {st : List Value} (C : Zc Θ cc nL RX6 ret rm) (hkd : Θ.2.2.2.2.1 = kdC) {th : Nat} (hth : isLaw th) {x : Int32} {σ1 : St} (he : σ1 = up σ th 3 x) (hd : decode cc pc = .ok (.putfield 141, 3)) (kk : Z Θ nL kc ks Q σ1 (pc + 3) lv st) : Z Θ nL kc ks Q σ pc lv (.int x :: .ref (zA Θ th) :: st) := by subst he; exact z_put C inT2 tyX2_ok nmX2 th (kLaw_0 hkd hth) rfl 3 (by decide) w_1_209 rfl rfl rfl rfl hd kk
theorem w_1_212 : Cond.fieldLink "LastLoaf$Reader" (146 : Nat) "LastLoaf$Law" "lines" "I" ∈ TB := tb_in (lwt_1 (List.mem_of_getElem? (i := 212) (by decide +kernel))) rfl
theorem fp6_146 {Θ : Tz} {cc : ByteArray} {nL kc ks : Nat} {ret : Option FieldType} {rm : Room} {Q : State → Prop} {σ : St} {pc : Nat} {lv : List (Nat × Value)} {st : List Value} (C : Zc Θ cc nL RX6 ret rm) (hkd : Θ.2.2.2.2.1 = kdC) {th : Nat} (hth : isLaw th) {x : Int32} {σ1 : St} (he : σ1 = up σ th 4 x) (hd : decode cc pc = .ok (.putfield 146, 3)) (kk : Z Θ nL kc ks Q σ1 (pc + 3) lv st) : Z Θ nL kc ks Q σ pc lv (.int x :: .ref (zA Θ th) :: st) := by subst he; exact z_put C inT2 tyX2_ok nmX2 th (kLaw_0 hkd hth) rfl 4 (by decide) w_1_212 rfl rfl rfl rfl hd kk
theorem w_5_156 : Cond.code ({ cls := "LastLoaf$Reader", name := "readLawLine", desc := "()Z" } : MethodName) prog_8_method_11_code (3 : Nat) (Option.some ClassFile.FieldType.boolean) ∈ TB := tb_in (lwt_5 (List.mem_of_getElem? (i := 156) (by decide +kernel))) rfl
theorem w_5_153 : Cond.methodLink "LastLoaf$Reader" (149 : Nat) ({ cls := "LastLoaf$Reader", name := "readLawLine", desc := "()Z" } : MethodName) ∈ TB := tb_in (lwt_5 (List.mem_of_getElem? (i := 153) (by decide +kernel))) rfl
theorem w_5_154 : Cond.instanceMethod ({ cls := "LastLoaf$Reader", name := "readLawLine", desc := "()Z" } : MethodName) ∈ TB := tb_in (lwt_5 (List.mem_of_getElem? (i := 154) (by decide +kernel))) rfl
theorem w_5_155 : Cond.selects "LastLoaf$Reader" ({ cls := "LastLoaf$Reader", name := "readLawLine", desc := "()Z" } : MethodName) ({ cls := "LastLoaf$Reader", name := "readLawLine", desc := "()Z" } : MethodName) ∈ TB := tb_in (lwt_5 (List.mem_of_getElem? (i := 155) (by decide +kernel))) rfl
theorem cr6_149 {Θ : Tz} {cc : ByteArray} {nL kc ks : Nat} {ret : Option FieldType} {rm : Room} {Q : State → Prop} {σ : St} {pc : Nat} {lv : List (Nat × Value)} {st : List Value} (C : Zc Θ cc nL RX6 ret rm) (hkd : Θ.2.2.2.2.1 = kdC) {r : Bool × St} (hx : q6_readLawLine σ = some r) (hrm : rm6_readLawLine.frames + 1 ≤ rm.frames ∧ 8 + (3 + 11) + rm6_readLawLine.locals ≤ rm.locals) (hcat : (st.map fun v => v.category).sum ≤ 8) (hk : kc ≤ rm.cells ∧ ks ≤ rm.slots) (hd : decode cc pc = .ok (.invokevirtual 149, 3)) (kk : Z Θ nL kc ks Q r.2 (pc + 3) lv (.int (b2i r.1) :: st)) : Z Θ nL kc ks Q σ pc lv (.ref (zA Θ 3) :: st) := z_callV C 3 [] (some (.int (b2i r.1)), r.2) 0 (kC_3 hkd) rfl (c6_readLawLine hkd (zc_inj C) hx) w_5_156 w_5_153 w_5_154 w_5_155 w_1_7 ⟨rfl, rfl, hrm.1, hrm.2⟩ (by decide +kernel) rfl rfl hcat hk hd kk
theorem fg6_146 {Θ : Tz} {cc : ByteArray} {nL kc ks : Nat} {ret : Option FieldType} {rm : Room} {Q : State → Prop} {σ : St} {pc : Nat} {lv : List (Nat × Value)} {st : List Value} (C : Zc Θ cc nL RX6 ret rm) (hkd : Θ.2.2.2.2.1 = kdC) {th : Nat} (hth : isLaw th) (hd : decode cc pc = .ok (.getfield 146, 3)) (kk : Z Θ nL kc ks Q σ (pc + 3) lv (.int (σ th 4) :: st)) : Z Θ nL kc ks Q σ pc lv (.ref (zA Θ th) :: st) := z_get C inT2 th (kLaw_0 hkd hth) rfl 4 (by decide) w_1_212 rfl hd kk
theorem dX6_readLaw_0 : decode cX6_readLaw 0 = .ok (.aload_n 0, 1) := by decide +kernel
theorem dX6_readLaw_1 : decode cX6_readLaw 1 = .ok (.getfield 30, 3) := by decide +kernel
theorem dX6_readLaw_4 : decode cX6_readLaw 4 = .ok (.iconst 0, 1) := by decide +kernel
theorem dX6_readLaw_5 : decode cX6_readLaw 5 = .ok (.putfield 141, 3) := by decide +kernel
theorem dX6_readLaw_8 : decode cX6_readLaw 8 = .ok (.aload_n 0, 1) := by decide +kernel
theorem dX6_readLaw_9 : decode cX6_readLaw 9 = .ok (.getfield 30, 3) := by decide +kernel
theorem dX6_readLaw_12 : decode cX6_readLaw 12 = .ok (.iconst 0, 1) := by decide +kernel
theorem dX6_readLaw_13 : decode cX6_readLaw 13 = .ok (.putfield 146, 3) := by decide +kernel
theorem dX6_readLaw_16 : decode cX6_readLaw 16 = .ok (.aload_n 0, 1) := by decide +kernel
theorem dX6_readLaw_17 : decode cX6_readLaw 17 = .ok (.getfield 22, 3) := by decide +kernel
theorem dX6_readLaw_20 : decode cX6_readLaw 20 = .ok (.invokevirtual 34, 3) := by decide +kernel
theorem dX6_readLaw_23 : decode cX6_readLaw 23 = .ok (.aload_n 0, 1) := by decide +kernel
theorem dX6_readLaw_24 : decode cX6_readLaw 24 = .ok (.getfield 22, 3) := by decide +kernel
theorem dX6_readLaw_27 : decode cX6_readLaw 27 = .ok (.invokevirtual 39, 3) := by decide +kernel
theorem dX6_readLaw_30 : decode cX6_readLaw 30 = .ok (.ifCond .eq 5, 3) := by decide +kernel
theorem dX6_readLaw_33 : decode cX6_readLaw 33 = .ok (.iconst 1, 1) := by decide +kernel
theorem dX6_readLaw_34 : decode cX6_readLaw 34 = .ok (.ireturn, 1) := by decide +kernel
theorem dX6_readLaw_35 : decode cX6_readLaw 35 = .ok (.iconst 0, 1) := by decide +kernel
theorem dX6_readLaw_36 : decode cX6_readLaw 36 = .ok (.istore_n 1, 1) := by decide +kernel
theorem dX6_readLaw_37 : decode cX6_readLaw 37 = .ok (.iload_n 1, 1) := by decide +kernel
theorem dX6_readLaw_38 : decode cX6_readLaw 38 = .ok (.bipush 12, 2) := by decide +kernel
theorem dX6_readLaw_40 : decode cX6_readLaw 40 = .ok (.if_icmp .ge 64, 3) := by decide +kernel
theorem dX6_readLaw_43 : decode cX6_readLaw 43 = .ok (.aload_n 0, 1) := by decide +kernel
theorem dX6_readLaw_44 : decode cX6_readLaw 44 = .ok (.invokevirtual 149, 3) := by decide +kernel
theorem dX6_readLaw_47 : decode cX6_readLaw 47 = .ok (.ifCond .ne 5, 3) := by decide +kernel
theorem dX6_readLaw_50 : decode cX6_readLaw 50 = .ok (.iconst 0, 1) := by decide +kernel
theorem dX6_readLaw_51 : decode cX6_readLaw 51 = .ok (.ireturn, 1) := by decide +kernel
theorem dX6_readLaw_52 : decode cX6_readLaw 52 = .ok (.aload_n 0, 1) := by decide +kernel
theorem dX6_readLaw_53 : decode cX6_readLaw 53 = .ok (.getfield 30, 3) := by decide +kernel
theorem dX6_readLaw_56 : decode cX6_readLaw 56 = .ok (.dup, 1) := by decide +kernel
theorem dX6_readLaw_57 : decode cX6_readLaw 57 = .ok (.getfield 146, 3) := by decide +kernel
theorem dX6_readLaw_60 : decode cX6_readLaw 60 = .ok (.iconst 1, 1) := by decide +kernel
theorem dX6_readLaw_61 : decode cX6_readLaw 61 = .ok (.iadd, 1) := by decide +kernel
theorem dX6_readLaw_62 : decode cX6_readLaw 62 = .ok (.putfield 146, 3) := by decide +kernel
theorem dX6_readLaw_65 : decode cX6_readLaw 65 = .ok (.aload_n 0, 1) := by decide +kernel
theorem dX6_readLaw_66 : decode cX6_readLaw 66 = .ok (.getfield 22, 3) := by decide +kernel
theorem dX6_readLaw_69 : decode cX6_readLaw 69 = .ok (.invokevirtual 39, 3) := by decide +kernel
theorem dX6_readLaw_72 : decode cX6_readLaw 72 = .ok (.ifCond .eq 5, 3) := by decide +kernel
theorem dX6_readLaw_75 : decode cX6_readLaw 75 = .ok (.iconst 1, 1) := by decide +kernel
theorem dX6_readLaw_76 : decode cX6_readLaw 76 = .ok (.ireturn, 1) := by decide +kernel
theorem dX6_readLaw_77 : decode cX6_readLaw 77 = .ok (.aload_n 0, 1) := by decide +kernel
theorem dX6_readLaw_78 : decode cX6_readLaw 78 = .ok (.getfield 22, 3) := by decide +kernel
theorem dX6_readLaw_81 : decode cX6_readLaw 81 = .ok (.bipush 59, 2) := by decide +kernel
theorem dX6_readLaw_83 : decode cX6_readLaw 83 = .ok (.invokevirtual 46, 3) := by decide +kernel
theorem dX6_readLaw_86 : decode cX6_readLaw 86 = .ok (.ifCond .ne 5, 3) := by decide +kernel
theorem dX6_readLaw_89 : decode cX6_readLaw 89 = .ok (.iconst 0, 1) := by decide +kernel
theorem dX6_readLaw_90 : decode cX6_readLaw 90 = .ok (.ireturn, 1) := by decide +kernel
theorem dX6_readLaw_91 : decode cX6_readLaw 91 = .ok (.aload_n 0, 1) := by decide +kernel
theorem dX6_readLaw_92 : decode cX6_readLaw 92 = .ok (.getfield 22, 3) := by decide +kernel
theorem dX6_readLaw_95 : decode cX6_readLaw 95 = .ok (.invokevirtual 50, 3) := by decide +kernel
theorem dX6_readLaw_98 : decode cX6_readLaw 98 = .ok (.iinc 1 1, 3) := by decide +kernel
theorem dX6_readLaw_101 : decode cX6_readLaw 101 = .ok (.goto (-64), 3) := by decide +kernel
theorem dX6_readLaw_104 : decode cX6_readLaw 104 = .ok (.iconst 0, 1) := by decide +kernel
theorem dX6_readLaw_105 : decode cX6_readLaw 105 = .ok (.ireturn, 1) := by decide +kernel
def q6_readLaw (σ : St) : Option (Bool × St) :=
  lt (up σ 36 3 0) fun σ1_ =>
  lt (up σ1_ 36 4 0) fun σ3_ =>
  Option.bind (q8_open σ3_) fun x5_ =>
  if q8_isAtEnd x5_ = true then (some (true, x5_)) else
  Option.bind (loop2 (fun rec14_ (lines17_ : Int32) (σ18_ : St) =>
  if lines17_ < 12 then
  Option.bind (q6_readLawLine σ18_) fun x27_ =>
  if ¬ (x27_.1 = true) then (some (.inl (false, x27_.2))) else
  lt (up x27_.2 36 4 ((x27_.2 36 4) + 1)) fun σ31_ =>
  if q8_isAtEnd σ31_ = true then (some (.inl (true, σ31_))) else
  Option.bind (q8_isSign σ31_ 59) fun x39_ =>
  if ¬ (x39_ = true) then (some (.inl (false, σ31_))) else
  Option.bind (q8_advance σ31_) fun x43_ =>
  lt (lines17_ + 1) fun lines45_ =>
  rec14_ lines45_ x43_
  else (some (.inr (lines17_, σ18_)))) fuelN (0 : Int32) x5_) fun y11_ =>
  Sum.elim (fun x9 => some x9) (fun y11_r =>
  some (false, y11_r.2)) y11_
abbrev rm6_readLaw : Room := { frames := 10, cells := 0, slots := 0, locals := 215 }
set_option maxHeartbeats 4000000 in
set_option maxRecDepth 100000 in
theorem p6_readLaw {Θ : Tz} {σ : St} {ρ : Option Value × St} (C : Zc Θ cX6_readLaw 2 RX6 (some .boolean) rm6_readLaw) (hkd : Θ.2.2.2.2.1 = kdC) {r : (Bool × St)} (hf : q6_readLaw σ = some r) (hρ : ρ = (some (.int (b2i r.1)), r.2)) : Z Θ 2 0 0 (zQ Θ ρ) σ 0 [(0, .ref (zA Θ 3))] [] := by
  unfold q6_readLaw at hf
  refine z_aload_n C 0 dX6_readLaw_0 rfl rfl ?_
  refine fg6_30 C hkd dX6_readLaw_1 ?_
  refine z_iconst (v := 0) C dX6_readLaw_4 ic_0 ?_
  obtain ⟨σ1_, h2_, hf⟩ := lt_ hf
  refine fp6_141 C hkd isLaw_36 h2_ dX6_readLaw_5 ?_
  refine z_aload_n C 0 dX6_readLaw_8 rfl rfl ?_
  refine fg6_30 C hkd dX6_readLaw_9 ?_
  refine z_iconst (v := 0) C dX6_readLaw_12 ic_0 ?_
  obtain ⟨σ3_, h4_, hf⟩ := lt_ hf
  refine fp6_146 C hkd isLaw_36 h4_ dX6_readLaw_13 ?_
  refine z_aload_n C 0 dX6_readLaw_16 rfl rfl ?_
  refine fg6_22 C hkd dX6_readLaw_17 ?_
  obtain ⟨x5_, h6_, hf⟩ := ob hf
  refine cr6_34 C hkd  h6_ ⟨(Nat.le_of_ble_eq_true rfl), (Nat.le_of_ble_eq_true rfl)⟩ (Nat.le_of_ble_eq_true rfl) ⟨Nat.zero_le _, Nat.zero_le _⟩ dX6_readLaw_20 ?_
  have K7_ : q8_isAtEnd x5_ = true → Z Θ 2 0 0 (zQ Θ ρ) x5_ 33 [(0, .ref (zA Θ 3))] [] := by
    intro h10_
    rw [if_pos h10_] at hf
    refine z_iconst (v := 1) C dX6_readLaw_33 ic_1 ?_
    cases hf
    subst hρ
    exact z_zret C (b2i_narrow _) dX6_readLaw_34
  suffices K8_ : ¬ (q8_isAtEnd x5_ = true) → Z Θ 2 0 0 (zQ Θ ρ) x5_ 35 [(0, .ref (zA Θ 3))] [] by
    refine z_aload_n C 0 dX6_readLaw_23 rfl rfl ?_
    refine fg6_22 C hkd dX6_readLaw_24 ?_
    refine cr6_39 C hkd  ⟨(Nat.le_of_ble_eq_true rfl), (Nat.le_of_ble_eq_true rfl)⟩ (Nat.le_of_ble_eq_true rfl) ⟨Nat.zero_le _, Nat.zero_le _⟩ dX6_readLaw_27 ?_
    refine cb_f C 35 dX6_readLaw_30 (by decide) (fun h9_ => ?_) (fun h9_ => ?_)
    · exact K7_ h9_
    · exact K8_ h9_
  intro h10_
  rw [if_neg h10_] at hf
  refine z_iconst (v := 0) C dX6_readLaw_35 ic_0 ?_
  refine z_istN C dX6_readLaw_36 rfl rfl (Nat.le_of_ble_eq_true rfl) rfl ?_
  refine Z.sub [1, 0] rfl ?_
  obtain ⟨y11_, h12_, hf⟩ := ob hf
  suffices K13_ : ∀ y11_r, y11_ = .inr y11_r → Z Θ 2 0 0 (zQ Θ ρ) y11_r.2 104 [(0, .ref (zA Θ 3)), (1, .int y11_r.1)] [] by
    refine loop2_Z (P := fun (lines17_ : Int32) (σ18_ : St) => Z Θ 2 0 0 (zQ Θ ρ) σ18_ 37 [(0, .ref (zA Θ 3)), (1, .int lines17_)] []) ?_ fuelN (0 : Int32) x5_ h12_
    clear h12_
    intro rec14_ lines17_ σ18_ h15_ h16_
    have K21_ : lines17_ < 12 → Z Θ 2 0 0 (zQ Θ ρ) σ18_ 43 [(0, .ref (zA Θ 3)), (1, .int lines17_)] [] := by
      intro h24_
      rw [if_pos h24_] at h16_
      refine z_aload_n C 0 dX6_readLaw_43 rfl rfl ?_
      obtain ⟨x27_, h28_, h16_⟩ := ob h16_
      refine cr6_149 C hkd  h28_ ⟨(Nat.le_of_ble_eq_true rfl), (Nat.le_of_ble_eq_true rfl)⟩ (Nat.le_of_ble_eq_true rfl) ⟨Nat.zero_le _, Nat.zero_le _⟩ dX6_readLaw_44 ?_
      have K25_ : ¬ (x27_.1 = true) → Z Θ 2 0 0 (zQ Θ ρ) x27_.2 50 [(0, .ref (zA Θ 3)), (1, .int lines17_)] [] := by
        intro h30_
        rw [if_pos h30_] at h16_
        refine z_iconst (v := 0) C dX6_readLaw_50 ic_0 ?_
        rw [← Option.some.inj h16_] at hf
        replace hf : some (false, x27_.2) = some r := hf
        cases hf
        subst hρ
        exact z_zret C (b2i_narrow _) dX6_readLaw_51
      suffices K26_ : ¬ (¬ (x27_.1 = true)) → Z Θ 2 0 0 (zQ Θ ρ) x27_.2 52 [(0, .ref (zA Θ 3)), (1, .int lines17_)] [] by
        refine cb_t C 52 dX6_readLaw_47 (by decide) (fun h29_ => ?_) (fun h29_ => ?_)
        · exact K26_ (fun n => n h29_)
        · exact K25_ h29_
      intro h30_
      rw [if_neg h30_] at h16_
      refine z_aload_n C 0 dX6_readLaw_52 rfl rfl ?_
      refine fg6_30 C hkd dX6_readLaw_53 ?_
      refine z_dup C dX6_readLaw_56 rfl ?_
      refine fg6_146 C hkd isLaw_36 dX6_readLaw_57 ?_
      refine z_iconst (v := 1) C dX6_readLaw_60 ic_1 ?_
      refine z_iadd C dX6_readLaw_61 ?_
      obtain ⟨σ31_, h32_, h16_⟩ := lt_ h16_
      refine fp6_146 C hkd isLaw_36 h32_ dX6_readLaw_62 ?_
      have K33_ : q8_isAtEnd σ31_ = true → Z Θ 2 0 0 (zQ Θ ρ) σ31_ 75 [(0, .ref (zA Θ 3)), (1, .int lines17_)] [] := by
        intro h36_
        rw [if_pos h36_] at h16_
        refine z_iconst (v := 1) C dX6_readLaw_75 ic_1 ?_
        rw [← Option.some.inj h16_] at hf
        replace hf : some (true, σ31_) = some r := hf
        cases hf
        subst hρ
        exact z_zret C (b2i_narrow _) dX6_readLaw_76
      suffices K34_ : ¬ (q8_isAtEnd σ31_ = true) → Z Θ 2 0 0 (zQ Θ ρ) σ31_ 77 [(0, .ref (zA Θ 3)), (1, .int lines17_)] [] by
        refine z_aload_n C 0 dX6_readLaw_65 rfl rfl ?_
        refine fg6_22 C hkd dX6_readLaw_66 ?_
        refine cr6_39 C hkd  ⟨(Nat.le_of_ble_eq_true rfl), (Nat.le_of_ble_eq_true rfl)⟩ (Nat.le_of_ble_eq_true rfl) ⟨Nat.zero_le _, Nat.zero_le _⟩ dX6_readLaw_69 ?_
        refine cb_f C 77 dX6_readLaw_72 (by decide) (fun h35_ => ?_) (fun h35_ => ?_)
        · exact K33_ h35_
        · exact K34_ h35_
      intro h36_
      rw [if_neg h36_] at h16_
      refine z_aload_n C 0 dX6_readLaw_77 rfl rfl ?_
      refine fg6_22 C hkd dX6_readLaw_78 ?_
      refine z_bipush (v := 59) C dX6_readLaw_81 bp_59 ?_
      obtain ⟨x39_, h40_, h16_⟩ := ob h16_
      refine cr6_46 (sign_a := 59) C hkd  h40_ ⟨(Nat.le_of_ble_eq_true rfl), (Nat.le_of_ble_eq_true rfl)⟩ (Nat.le_of_ble_eq_true rfl) ⟨Nat.zero_le _, Nat.zero_le _⟩ dX6_readLaw_83 ?_
      have K37_ : ¬ (x39_ = true) → Z Θ 2 0 0 (zQ Θ ρ) σ31_ 89 [(0, .ref (zA Θ 3)), (1, .int lines17_)] [] := by
        intro h42_
        rw [if_pos h42_] at h16_
        refine z_iconst (v := 0) C dX6_readLaw_89 ic_0 ?_
        rw [← Option.some.inj h16_] at hf
        replace hf : some (false, σ31_) = some r := hf
        cases hf
        subst hρ
        exact z_zret C (b2i_narrow _) dX6_readLaw_90
      suffices K38_ : ¬ (¬ (x39_ = true)) → Z Θ 2 0 0 (zQ Θ ρ) σ31_ 91 [(0, .ref (zA Θ 3)), (1, .int lines17_)] [] by
        refine cb_t C 91 dX6_readLaw_86 (by decide) (fun h41_ => ?_) (fun h41_ => ?_)
        · exact K38_ (fun n => n h41_)
        · exact K37_ h41_
      intro h42_
      rw [if_neg h42_] at h16_
      refine z_aload_n C 0 dX6_readLaw_91 rfl rfl ?_
      refine fg6_22 C hkd dX6_readLaw_92 ?_
      obtain ⟨x43_, h44_, h16_⟩ := ob h16_
      refine cr6_50 C hkd  h44_ ⟨(Nat.le_of_ble_eq_true rfl), (Nat.le_of_ble_eq_true rfl)⟩ (Nat.le_of_ble_eq_true rfl) ⟨Nat.zero_le _, Nat.zero_le _⟩ dX6_readLaw_95 ?_
      obtain ⟨lines45_, h46_, h16_⟩ := lt_ h16_
      refine z_inc C 1 dX6_readLaw_98 rfl ic_1 h46_ (Nat.le_of_ble_eq_true rfl) rfl ?_
      refine z_goto C 37 dX6_readLaw_101 (by decide) ?_
      refine Z.sub [1, 0] rfl ?_
      exact h15_ _ _ h16_
    have K22_ : ¬ (lines17_ < 12) → Z Θ 2 0 0 (zQ Θ ρ) σ18_ 104 [(0, .ref (zA Θ 3)), (1, .int lines17_)] [] := by
      intro h24_
      rw [if_neg h24_] at h16_
      exact K13_ _ (Option.some.inj h16_).symm
    refine z_iload_n C 1 dX6_readLaw_37 rfl rfl ?_
    refine z_bipush (v := 12) C dX6_readLaw_38 bp_12 ?_
    refine c_lt_f C 104 dX6_readLaw_40 (by decide) (fun h23_ => ?_) (fun h23_ => ?_)
    · exact K21_ h23_
    · exact K22_ h23_
  intro y11_r e9
  subst e9
  simp only [Sum.elim_inr] at hf
  refine z_iconst (v := 0) C dX6_readLaw_104 ic_0 ?_
  cases hf
  subst hρ
  exact z_zret C (b2i_narrow _) dX6_readLaw_105
theorem c6_readLaw {l : Launch} {kd : List KD} {w : Wp} {σ : St} (hkd : kd = kdC) (hi : zI kd w) {r : (Bool × St)} (hf : q6_readLaw σ = some r) : zM l kd w yX6_readLaw cX6_readLaw 2 (some .boolean) rm6_readLaw [.ref (w.2.2.1 3)] σ (some (.int (b2i r.1)), r.2) := zM_of rfl hi (Nat.le_of_ble_eq_true rfl) (fun Θ hl hw C => by
  obtain ⟨Θ1, Θ2, Θ3, Θ4, Θ5⟩ := Θ
  cases hw
  exact p6_readLaw C hkd  hf rfl)
/-! LastLoaf.law -/
theorem w_5_152 : Cond.code ({ cls := "LastLoaf$Reader", name := "readLaw", desc := "()Z" } : MethodName) prog_8_method_10_code (2 : Nat) (Option.some ClassFile.FieldType.boolean) ∈ TB := tb_in (lwt_5 (List.mem_of_getElem? (i := 152) (by decide +kernel))) rfl
theorem w_5_149 : Cond.methodLink "LastLoaf" (140 : Nat) ({ cls := "LastLoaf$Reader", name := "readLaw", desc := "()Z" } : MethodName) ∈ TB := tb_in (lwt_5 (List.mem_of_getElem? (i := 149) (by decide +kernel))) rfl
theorem w_5_150 : Cond.instanceMethod ({ cls := "LastLoaf$Reader", name := "readLaw", desc := "()Z" } : MethodName) ∈ TB := tb_in (lwt_5 (List.mem_of_getElem? (i := 150) (by decide +kernel))) rfl
theorem w_5_151 : Cond.selects "LastLoaf$Reader" ({ cls := "LastLoaf$Reader", name := "readLaw", desc := "()Z" } : MethodName) ({ cls := "LastLoaf$Reader", name := "readLaw", desc := "()Z" } : MethodName) ∈ TB := tb_in (lwt_5 (List.mem_of_getElem? (i := 151) (by decide +kernel))) rfl
theorem cr11_140 {Θ : Tz} {cc : ByteArray} {nL kc ks : Nat} {ret : Option FieldType} {rm : Room} {Q : State → Prop} {σ : St} {pc : Nat} {lv : List (Nat × Value)} {st : List Value} (C : Zc Θ cc nL RX11 ret rm) (hkd : Θ.2.2.2.2.1 = kdC) {r : Bool × St} (hx : q6_readLaw σ = some r) (hrm : rm6_readLaw.frames + 1 ≤ rm.frames ∧ 8 + (2 + 11) + rm6_readLaw.locals ≤ rm.locals) (hcat : (st.map fun v => v.category).sum ≤ 8) (hk : kc ≤ rm.cells ∧ ks ≤ rm.slots) (hd : decode cc pc = .ok (.invokevirtual 140, 3)) (kk : Z Θ nL kc ks Q r.2 (pc + 3) lv (.int (b2i r.1) :: st)) : Z Θ nL kc ks Q σ pc lv (.ref (zA Θ 3) :: st) := z_callV C 3 [] (some (.int (b2i r.1)), r.2) 0 (kC_3 hkd) rfl (c6_readLaw hkd (zc_inj C) hx) w_5_152 w_5_149 w_5_150 w_5_151 w_1_7 ⟨rfl, rfl, hrm.1, hrm.2⟩ (by decide +kernel) rfl rfl hcat hk hd kk
theorem w_2_190 : Cond.fieldLink "LastLoaf" (29 : Nat) "LastLoaf" "lawNow" "LLastLoaf$Law;" ∈ TB := tb_in (lwt_2 (List.mem_of_getElem? (i := 190) (by decide +kernel))) rfl
theorem fg11_29 {Θ : Tz} {cc : ByteArray} {nL kc ks : Nat} {ret : Option FieldType} {rm : Room} {Q : State → Prop} {σ : St} {pc : Nat} {lv : List (Nat × Value)} {st : List Value} (C : Zc Θ cc nL RX11 ret rm) (hkd : Θ.2.2.2.2.1 = kdC) (hd : decode cc pc = .ok (.getfield 29, 3)) (kk : Z Θ nL kc ks Q σ (pc + 3) lv (.ref (zA Θ 32) :: st)) : Z Θ nL kc ks Q σ pc lv (.ref (zA Θ 0) :: st) := z_get C inT11 0 (kC_0 hkd) rfl 3 (by decide) w_2_190 rfl hd kk
theorem w_2_191 : Cond.fieldLink "LastLoaf" (33 : Nat) "LastLoaf" "draft" "LLastLoaf$Law;" ∈ TB := tb_in (lwt_2 (List.mem_of_getElem? (i := 191) (by decide +kernel))) rfl
theorem fg11_33 {Θ : Tz} {cc : ByteArray} {nL kc ks : Nat} {ret : Option FieldType} {rm : Room} {Q : State → Prop} {σ : St} {pc : Nat} {lv : List (Nat × Value)} {st : List Value} (C : Zc Θ cc nL RX11 ret rm) (hkd : Θ.2.2.2.2.1 = kdC) (hd : decode cc pc = .ok (.getfield 33, 3)) (kk : Z Θ nL kc ks Q σ (pc + 3) lv (.ref (zA Θ 36) :: st)) : Z Θ nL kc ks Q σ pc lv (.ref (zA Θ 0) :: st) := z_get C inT11 0 (kC_0 hkd) rfl 4 (by decide) w_2_191 rfl hd kk
theorem w_4_135 : Cond.code ({ cls := "LastLoaf$Law", name := "become", desc := "(LLastLoaf$Law;)V" } : MethodName) prog_4_method_2_code (2 : Nat) (Option.none : Option ClassFile.FieldType) ∈ TB := tb_in (lwt_4 (List.mem_of_getElem? (i := 135) (by decide +kernel))) rfl
theorem w_4_132 : Cond.methodLink "LastLoaf" (145 : Nat) ({ cls := "LastLoaf$Law", name := "become", desc := "(LLastLoaf$Law;)V" } : MethodName) ∈ TB := tb_in (lwt_4 (List.mem_of_getElem? (i := 132) (by decide +kernel))) rfl
theorem w_4_133 : Cond.instanceMethod ({ cls := "LastLoaf$Law", name := "become", desc := "(LLastLoaf$Law;)V" } : MethodName) ∈ TB := tb_in (lwt_4 (List.mem_of_getElem? (i := 133) (by decide +kernel))) rfl
theorem w_4_134 : Cond.selects "LastLoaf$Law" ({ cls := "LastLoaf$Law", name := "become", desc := "(LLastLoaf$Law;)V" } : MethodName) ({ cls := "LastLoaf$Law", name := "become", desc := "(LLastLoaf$Law;)V" } : MethodName) ∈ TB := tb_in (lwt_4 (List.mem_of_getElem? (i := 134) (by decide +kernel))) rfl
theorem cr11_145 {Θ : Tz} {cc : ByteArray} {nL kc ks : Nat} {ret : Option FieldType} {rm : Room} {Q : State → Prop} {σ : St} {pc : Nat} {lv : List (Nat × Value)} {st : List Value} (C : Zc Θ cc nL RX11 ret rm) (hkd : Θ.2.2.2.2.1 = kdC) {th : Nat} {other_a : Nat} (hth : isLaw th) (h_other : isLaw other_a) {r : St} (hx : q2_become σ th other_a = some r) (hrm : rm2_become.frames + 1 ≤ rm.frames ∧ 8 + (2 + 11) + rm2_become.locals ≤ rm.locals) (hcat : (st.map fun v => v.category).sum ≤ 8) (hk : kc ≤ rm.cells ∧ ks ≤ rm.slots) (hd : decode cc pc = .ok (.invokevirtual 145, 3)) (kk : Z Θ nL kc ks Q r (pc + 3) lv st) : Z Θ nL kc ks Q σ pc lv (.ref (zA Θ other_a) :: .ref (zA Θ th) :: st) := z_callV C th [.ref (zA Θ other_a)] (none, r) 1 (kLaw_0 hkd hth) rfl (c2_become (th := th) (other_a := other_a) hkd (zc_inj C) hth h_other hx) w_4_135 w_4_132 w_4_133 w_4_134 w_1_6 ⟨rfl, rfl, hrm.1, hrm.2⟩ (by decide +kernel) rfl rfl hcat hk hd kk
theorem w_1_211 : Cond.fieldLink "LastLoaf" (148 : Nat) "LastLoaf$Law" "lines" "I" ∈ TB := tb_in (lwt_1 (List.mem_of_getElem? (i := 211) (by decide +kernel))) rfl
theorem fg11_148 {Θ : Tz} {cc : ByteArray} {nL kc ks : Nat} {ret : Option FieldType} {rm : Room} {Q : State → Prop} {σ : St} {pc : Nat} {lv : List (Nat × Value)} {st : List Value} (C : Zc Θ cc nL RX11 ret rm) (hkd : Θ.2.2.2.2.1 = kdC) {th : Nat} (hth : isLaw th) (hd : decode cc pc = .ok (.getfield 148, 3)) (kk : Z Θ nL kc ks Q σ (pc + 3) lv (.int (σ th 4) :: st)) : Z Θ nL kc ks Q σ pc lv (.ref (zA Θ th) :: st) := z_get C inT2 th (kLaw_0 hkd hth) rfl 4 (by decide) w_1_211 rfl hd kk
theorem dX11_law_0 : decode cX11_law 0 = .ok (.aload_n 0, 1) := by decide +kernel
theorem dX11_law_1 : decode cX11_law 1 = .ok (.getfield 41, 3) := by decide +kernel
theorem dX11_law_4 : decode cX11_law 4 = .ok (.invokevirtual 140, 3) := by decide +kernel
theorem dX11_law_7 : decode cX11_law 7 = .ok (.istore_n 1, 1) := by decide +kernel
theorem dX11_law_8 : decode cX11_law 8 = .ok (.aload_n 0, 1) := by decide +kernel
theorem dX11_law_9 : decode cX11_law 9 = .ok (.iload_n 1, 1) := by decide +kernel
theorem dX11_law_10 : decode cX11_law 10 = .ok (.invokevirtual 118, 3) := by decide +kernel
theorem dX11_law_13 : decode cX11_law 13 = .ok (.iload_n 1, 1) := by decide +kernel
theorem dX11_law_14 : decode cX11_law 14 = .ok (.ifCond .ne 13, 3) := by decide +kernel
theorem dX11_law_17 : decode cX11_law 17 = .ok (.new 122, 3) := by decide +kernel
theorem dX11_law_20 : decode cX11_law 20 = .ok (.dup, 1) := by decide +kernel
theorem dX11_law_21 : decode cX11_law 21 = .ok (.ldc 143, 2) := by decide +kernel
theorem dX11_law_23 : decode cX11_law 23 = .ok (.invokespecial 126, 3) := by decide +kernel
theorem dX11_law_26 : decode cX11_law 26 = .ok (.athrow, 1) := by decide +kernel
theorem dX11_law_27 : decode cX11_law 27 = .ok (.aload_n 0, 1) := by decide +kernel
theorem dX11_law_28 : decode cX11_law 28 = .ok (.getfield 29, 3) := by decide +kernel
theorem dX11_law_31 : decode cX11_law 31 = .ok (.aload_n 0, 1) := by decide +kernel
theorem dX11_law_32 : decode cX11_law 32 = .ok (.getfield 33, 3) := by decide +kernel
theorem dX11_law_35 : decode cX11_law 35 = .ok (.invokevirtual 145, 3) := by decide +kernel
theorem dX11_law_38 : decode cX11_law 38 = .ok (.aload_n 0, 1) := by decide +kernel
theorem dX11_law_39 : decode cX11_law 39 = .ok (.getfield 54, 3) := by decide +kernel
theorem dX11_law_42 : decode cX11_law 42 = .ok (.invokevirtual 137, 3) := by decide +kernel
theorem dX11_law_45 : decode cX11_law 45 = .ok (.aload_n 0, 1) := by decide +kernel
theorem dX11_law_46 : decode cX11_law 46 = .ok (.getfield 29, 3) := by decide +kernel
theorem dX11_law_49 : decode cX11_law 49 = .ok (.getfield 148, 3) := by decide +kernel
theorem dX11_law_52 : decode cX11_law 52 = .ok (.ireturn, 1) := by decide +kernel
def q11_law (σ : St) : Option (Sum Nat Int32 × St) :=
  Option.bind (q6_readLaw σ) fun x1_ =>
  Option.bind (q11_closeText x1_.2 x1_.1) fun x3_ =>
  if ¬ (x1_.1 = true) then (some (.inl 0, x3_)) else
  Option.bind (q2_become x3_ 32 36) fun x9_ =>
  Option.bind (q4_forget x9_) fun x11_ =>
  some (.inr (x11_ 32 4), x11_)
abbrev rm11_law : Room := { frames := 11, cells := 1, slots := 6, locals := 236 }
set_option maxHeartbeats 4000000 in
set_option maxRecDepth 100000 in
theorem p11_law {Θ : Tz} {σ : St} {ω : Om} (C : Zc Θ cX11_law 2 RX11 (some .int) rm11_law) (hkd : Θ.2.2.2.2.1 = kdC) (hlt : Θ.1.2.1.stackTraces = false) (het : ∀ x ∈ Θ.2.2.1.2.exceptionTable.toList, False) {r : (Sum Nat Int32 × St)} (hf : q11_law σ = some r) (hω : ω = om (fun v => some (.int v)) r) : Z Θ 2 0 0 (zQX Θ ω 1 6) σ 0 [(0, .ref (zA Θ 0))] [] := by
  unfold q11_law at hf
  refine z_aload_n C 0 dX11_law_0 rfl rfl ?_
  refine fg11_41 C hkd dX11_law_1 ?_
  obtain ⟨x1_, h2_, hf⟩ := ob hf
  refine cr11_140 C hkd  h2_ ⟨(Nat.le_of_ble_eq_true rfl), (Nat.le_of_ble_eq_true rfl)⟩ (Nat.le_of_ble_eq_true rfl) ⟨(Nat.le_of_ble_eq_true rfl), (Nat.le_of_ble_eq_true rfl)⟩ dX11_law_4 ?_
  refine z_istN C dX11_law_7 rfl rfl (Nat.le_of_ble_eq_true rfl) rfl ?_
  refine z_aload_n C 1 dX11_law_8 rfl rfl ?_
  refine z_iload_n C 0 dX11_law_9 rfl rfl ?_
  obtain ⟨x3_, h4_, hf⟩ := ob hf
  refine cr11_118 (right_a := x1_.1) C hkd  h4_ ⟨(Nat.le_of_ble_eq_true rfl), (Nat.le_of_ble_eq_true rfl)⟩ (Nat.le_of_ble_eq_true rfl) ⟨(Nat.le_of_ble_eq_true rfl), (Nat.le_of_ble_eq_true rfl)⟩ dX11_law_10 ?_
  have K5_ : ¬ (x1_.1 = true) → Z Θ 2 0 0 (zQX Θ ω 1 6) x3_ 17 [(1, .int (b2i x1_.1)), (0, .ref (zA Θ 0))] [] := by
    intro h8_
    rw [if_pos h8_] at hf
    cases hf
    subst hω
    exact zx_throw (tx := "the text of the law is wrong") C hlt het 0 (by decide +kernel) w_5_56 w_1_23 (List.mem_of_getElem? (i := 32) rfl) th11_0_126g th11_0_126n th11_0_126o dX11_law_17 dX11_law_20 dX11_law_21 dX11_law_23 dX11_law_26 ⟨(Nat.le_of_ble_eq_true rfl), (Nat.le_of_ble_eq_true rfl), (Nat.le_of_ble_eq_true rfl), (Nat.le_of_ble_eq_true rfl)⟩ (Nat.le_of_ble_eq_true rfl) ⟨(Nat.le_of_ble_eq_true rfl), (Nat.le_of_ble_eq_true rfl)⟩
  suffices K6_ : ¬ (¬ (x1_.1 = true)) → Z Θ 2 0 0 (zQX Θ ω 1 6) x3_ 27 [(1, .int (b2i x1_.1)), (0, .ref (zA Θ 0))] [] by
    refine z_iload_n C 0 dX11_law_13 rfl rfl ?_
    refine cb_t C 27 dX11_law_14 (by decide) (fun h7_ => ?_) (fun h7_ => ?_)
    · exact K6_ (fun n => n h7_)
    · exact K5_ h7_
  intro h8_
  rw [if_neg h8_] at hf
  refine z_aload_n C 1 dX11_law_27 rfl rfl ?_
  refine fg11_29 C hkd dX11_law_28 ?_
  refine z_aload_n C 1 dX11_law_31 rfl rfl ?_
  refine fg11_33 C hkd dX11_law_32 ?_
  obtain ⟨x9_, h10_, hf⟩ := ob hf
  refine cr11_145 (th := 32) (other_a := 36) C hkd isLaw_32 isLaw_36 h10_ ⟨(Nat.le_of_ble_eq_true rfl), (Nat.le_of_ble_eq_true rfl)⟩ (Nat.le_of_ble_eq_true rfl) ⟨(Nat.le_of_ble_eq_true rfl), (Nat.le_of_ble_eq_true rfl)⟩ dX11_law_35 ?_
  refine z_aload_n C 1 dX11_law_38 rfl rfl ?_
  refine fg11_54 C hkd dX11_law_39 ?_
  obtain ⟨x11_, h12_, hf⟩ := ob hf
  refine cr11_137 C hkd  h12_ ⟨(Nat.le_of_ble_eq_true rfl), (Nat.le_of_ble_eq_true rfl)⟩ (Nat.le_of_ble_eq_true rfl) ⟨(Nat.le_of_ble_eq_true rfl), (Nat.le_of_ble_eq_true rfl)⟩ dX11_law_42 ?_
  refine z_aload_n C 1 dX11_law_45 rfl rfl ?_
  refine fg11_29 C hkd dX11_law_46 ?_
  refine fg11_148 C hkd isLaw_32 dX11_law_49 ?_
  cases hf
  subst hω
  exact zx_iret C ⟨(Nat.le_of_ble_eq_true rfl), (Nat.le_of_ble_eq_true rfl)⟩ dX11_law_52
theorem c11_law {l : Launch} {kd : List KD} {w : Wp} {σ : St} (hkd : kd = kdC) (hi : zI kd w) (hlt : l.stackTraces = false) {r : (Sum Nat Int32 × St)} (hf : q11_law σ = some r) : zX l kd w yX11_law cX11_law 2 (some .int) rm11_law [.ref (w.2.2.1 0)] σ (om (fun v => some (.int v)) r) 1 6 := zX_of rfl hi (Nat.le_of_ble_eq_true rfl) (fun Θ hl hw C het => by
  obtain ⟨Θ1, Θ2, Θ3, Θ4, Θ5⟩ := Θ
  cases hw
  cases hl
  exact p11_law C hkd hlt het  hf rfl)
/-! LastLoaf.fault -/
theorem fg11_99 {Θ : Tz} {cc : ByteArray} {nL kc ks : Nat} {ret : Option FieldType} {rm : Room} {Q : State → Prop} {σ : St} {pc : Nat} {lv : List (Nat × Value)} {st : List Value} (C : Zc Θ cc nL RX11 ret rm) (hkd : Θ.2.2.2.2.1 = kdC) (hd : decode cc pc = .ok (.getfield 99, 3)) (kk : Z Θ nL kc ks Q σ (pc + 3) lv (.int (σ 0 15) :: st)) : Z Θ nL kc ks Q σ pc lv (.ref (zA Θ 0) :: st) := z_get C inT11 0 (kC_0 hkd) rfl 15 (by decide) w_2_202 rfl hd kk
theorem dX11_fault_0 : decode cX11_fault 0 = .ok (.aload_n 0, 1) := by decide +kernel
theorem dX11_fault_1 : decode cX11_fault 1 = .ok (.getfield 99, 3) := by decide +kernel
theorem dX11_fault_4 : decode cX11_fault 4 = .ok (.ireturn, 1) := by decide +kernel
def q11_fault (σ : St) : Int32 :=
  σ 0 15
abbrev rm11_fault : Room := { frames := 0, cells := 0, slots := 0, locals := 0 }
set_option maxHeartbeats 4000000 in
set_option maxRecDepth 100000 in
theorem p11_fault {Θ : Tz} {σ : St} {ρ : Option Value × St} (C : Zc Θ cX11_fault 1 RX11 (some .int) rm11_fault) (hkd : Θ.2.2.2.2.1 = kdC) {r : Int32} (hf : q11_fault σ = r) (hρ : ρ = (some (.int r), σ)) : Z Θ 1 0 0 (zQ Θ ρ) σ 0 [(0, .ref (zA Θ 0))] [] := by
  unfold q11_fault at hf
  refine z_aload_n C 0 dX11_fault_0 rfl rfl ?_
  refine fg11_99 C hkd dX11_fault_1 ?_
  subst hf
  subst hρ
  exact z_iret C dX11_fault_4
theorem c11_fault {l : Launch} {kd : List KD} {w : Wp} {σ : St} (hkd : kd = kdC) (hi : zI kd w) : zM l kd w yX11_fault cX11_fault 1 (some .int) rm11_fault [.ref (w.2.2.1 0)] σ (some (.int (q11_fault σ)), σ) := zM_of rfl hi (Nat.le_of_ble_eq_true rfl) (fun Θ hl hw C => by
  obtain ⟨Θ1, Θ2, Θ3, Θ4, Θ5⟩ := Θ
  cases hw
  exact p11_fault C hkd  rfl rfl)
/-! LastLoaf.isIn -/
theorem dX11_isIn_0 : decode cX11_isIn 0 = .ok (.iload_n 0, 1) := by decide +kernel
theorem dX11_isIn_1 : decode cX11_isIn 1 = .ok (.iload_n 1, 1) := by decide +kernel
theorem dX11_isIn_2 : decode cX11_isIn 2 = .ok (.ishr, 1) := by decide +kernel
theorem dX11_isIn_3 : decode cX11_isIn 3 = .ok (.iconst 1, 1) := by decide +kernel
theorem dX11_isIn_4 : decode cX11_isIn 4 = .ok (.iand, 1) := by decide +kernel
theorem dX11_isIn_5 : decode cX11_isIn 5 = .ok (.iconst 1, 1) := by decide +kernel
theorem dX11_isIn_6 : decode cX11_isIn 6 = .ok (.if_icmp .ne 7, 3) := by decide +kernel
theorem dX11_isIn_9 : decode cX11_isIn 9 = .ok (.iconst 1, 1) := by decide +kernel
theorem dX11_isIn_10 : decode cX11_isIn 10 = .ok (.goto 4, 3) := by decide +kernel
theorem dX11_isIn_13 : decode cX11_isIn 13 = .ok (.iconst 0, 1) := by decide +kernel
theorem dX11_isIn_14 : decode cX11_isIn 14 = .ok (.ireturn, 1) := by decide +kernel
def q11_isIn (set_a : Int32) (person_a : Int32) : Bool :=
  decide (((shr set_a person_a) &&& 1) = 1)
abbrev rm11_isIn : Room := { frames := 0, cells := 0, slots := 0, locals := 0 }
set_option maxHeartbeats 4000000 in
set_option maxRecDepth 100000 in
theorem p11_isIn {Θ : Tz} {σ : St} {ρ : Option Value × St} (C : Zc Θ cX11_isIn 2 RX11 (some .boolean) rm11_isIn) (hkd : Θ.2.2.2.2.1 = kdC) {set_a : Int32} {person_a : Int32} {r : Bool} (hf : q11_isIn set_a person_a = r) (hρ : ρ = (some (.int (b2i r)), σ)) : Z Θ 2 0 0 (zQ Θ ρ) σ 0 [(0, .int set_a), (1, .int person_a)] [] := by
  unfold q11_isIn at hf
  suffices K1_ : Z Θ 2 0 0 (zQ Θ ρ) σ 14 [(0, .int set_a), (1, .int person_a)] [.int (b2i (decide (((shr set_a person_a) &&& 1) = 1)))] by
    have K2_ : ((shr set_a person_a) &&& 1) = 1 → Z Θ 2 0 0 (zQ Θ ρ) σ 9 [(0, .int set_a), (1, .int person_a)] [] := by
      intro h5_
      rw [decide_eq_true h5_] at K1_
      refine z_iconst (v := 1) C dX11_isIn_9 ic_1 ?_
      refine z_goto C 14 dX11_isIn_10 (by decide) ?_
      exact K1_
    have K3_ : ¬ (((shr set_a person_a) &&& 1) = 1) → Z Θ 2 0 0 (zQ Θ ρ) σ 13 [(0, .int set_a), (1, .int person_a)] [] := by
      intro h5_
      rw [decide_eq_false h5_] at K1_
      refine z_iconst (v := 0) C dX11_isIn_13 ic_0 ?_
      exact K1_
    refine z_iload_n C 0 dX11_isIn_0 rfl rfl ?_
    refine z_iload_n C 1 dX11_isIn_1 rfl rfl ?_
    refine z_shr C dX11_isIn_2 ?_
    refine z_iconst (v := 1) C dX11_isIn_3 ic_1 ?_
    refine z_iand C dX11_isIn_4 ?_
    refine z_iconst (v := 1) C dX11_isIn_5 ic_1 ?_
    refine c_eq_f C 13 dX11_isIn_6 (by decide) (fun h4_ => ?_) (fun h4_ => ?_)
    · exact K2_ h4_
    · exact K3_ h4_
  subst hf
  subst hρ
  exact z_zret C (b2i_narrow _) dX11_isIn_14
theorem c11_isIn {l : Launch} {kd : List KD} {w : Wp} {σ : St} {set_a : Int32} {person_a : Int32} (hkd : kd = kdC) (hi : zI kd w) : zM l kd w yX11_isIn cX11_isIn 2 (some .boolean) rm11_isIn [.int set_a, .int person_a] σ (some (.int (b2i (q11_isIn set_a person_a))), σ) := zM_of rfl hi (Nat.le_of_ble_eq_true rfl) (fun Θ hl hw C => by
  obtain ⟨Θ1, Θ2, Θ3, Θ4, Θ5⟩ := Θ
  cases hw
  exact p11_isIn C hkd  rfl rfl)
/-! LastLoaf.needPerson -/
theorem w_1_130 : Cond.fieldLink "LastLoaf" (355 : Nat) "LastLoaf$Village" "people" "I" ∈ TB := tb_in (lwt_1 (List.mem_of_getElem? (i := 130) (by decide +kernel))) rfl
theorem fg11_355 {Θ : Tz} {cc : ByteArray} {nL kc ks : Nat} {ret : Option FieldType} {rm : Room} {Q : State → Prop} {σ : St} {pc : Nat} {lv : List (Nat × Value)} {st : List Value} (C : Zc Θ cc nL RX11 ret rm) (hkd : Θ.2.2.2.2.1 = kdC) {th : Nat} (hth : isV th) (hd : decode cc pc = .ok (.getfield 355, 3)) (kk : Z Θ nL kc ks Q σ (pc + 3) lv (.int (σ th 8) :: st)) : Z Θ nL kc ks Q σ pc lv (.ref (zA Θ th) :: st) := z_get C inT10 th (kV_0 hkd hth) rfl 8 (by decide) w_1_130 rfl hd kk
theorem th11_2_227g : ∀ w ∈ (vx_atS RX11 227 (exn 2) ["java/lang/RuntimeException", "java/lang/Exception"]).filter goodWord, w ∈ TB := fun w h => tb_in ((by decide +kernel : ∀ w ∈ (vx_atS RX11 227 (exn 2) ["java/lang/RuntimeException", "java/lang/Exception"]).filter goodWord, w ∈ lw_tbl) w h) ((List.mem_filter.mp h).2)
theorem th11_2_227n : ∀ w ∈ (vx_atS RX11 227 (exn 2) ["java/lang/RuntimeException", "java/lang/Exception"]).filter (fun w => !goodWord w), w ∈ nestW := by decide +kernel
theorem th11_2_227o : ∀ w ∈ Cond.classLink RX11 223 (exn 2) :: Cond.initialized (exn 2) :: vx_atS RX11 227 (exn 2) ["java/lang/RuntimeException", "java/lang/Exception"], vx_ot w = true := by decide +kernel
theorem w_5_228 : Cond.classLink "LastLoaf" (223 : Nat) "java/lang/IndexOutOfBoundsException" ∈ TB := tb_in (lwt_5 (List.mem_of_getElem? (i := 228) (by decide +kernel))) rfl
theorem w_1_25 : Cond.initialized "java/lang/IndexOutOfBoundsException" ∈ TB := tb_in (lwt_1 (List.mem_of_getElem? (i := 25) (by decide +kernel))) rfl
theorem dX11_needPerson_0 : decode cX11_needPerson 0 = .ok (.iload_n 1, 1) := by decide +kernel
theorem dX11_needPerson_1 : decode cX11_needPerson 1 = .ok (.ifCond .lt 14, 3) := by decide +kernel
theorem dX11_needPerson_4 : decode cX11_needPerson 4 = .ok (.iload_n 1, 1) := by decide +kernel
theorem dX11_needPerson_5 : decode cX11_needPerson 5 = .ok (.aload_n 0, 1) := by decide +kernel
theorem dX11_needPerson_6 : decode cX11_needPerson 6 = .ok (.getfield 19, 3) := by decide +kernel
theorem dX11_needPerson_9 : decode cX11_needPerson 9 = .ok (.getfield 355, 3) := by decide +kernel
theorem dX11_needPerson_12 : decode cX11_needPerson 12 = .ok (.if_icmp .lt 14, 3) := by decide +kernel
theorem dX11_needPerson_15 : decode cX11_needPerson 15 = .ok (.new 223, 3) := by decide +kernel
theorem dX11_needPerson_18 : decode cX11_needPerson 18 = .ok (.dup, 1) := by decide +kernel
theorem dX11_needPerson_19 : decode cX11_needPerson 19 = .ok (.ldc_w 466, 3) := by decide +kernel
theorem dX11_needPerson_22 : decode cX11_needPerson 22 = .ok (.invokespecial 227, 3) := by decide +kernel
theorem dX11_needPerson_25 : decode cX11_needPerson 25 = .ok (.athrow, 1) := by decide +kernel
theorem dX11_needPerson_26 : decode cX11_needPerson 26 = .ok (.return_, 1) := by decide +kernel
def q11_needPerson (σ : St) (person_a : Int32) : Option Nat :=
  if (person_a < 0) ∨ ((σ 44 8) ≤ person_a) then (some 2) else
  none
abbrev rm11_needPerson : Room := { frames := 6, cells := 1, slots := 6, locals := 90 }
set_option maxHeartbeats 4000000 in
set_option maxRecDepth 100000 in
theorem p11_needPerson {Θ : Tz} {σ : St} {ω : Om} (C : Zc Θ cX11_needPerson 2 RX11 none rm11_needPerson) (hkd : Θ.2.2.2.2.1 = kdC) (hlt : Θ.1.2.1.stackTraces = false) (het : ∀ x ∈ Θ.2.2.1.2.exceptionTable.toList, False) {person_a : Int32} {r : Option Nat} (hf : q11_needPerson σ person_a = r) (hω : ω = omN r σ) : Z Θ 2 0 0 (zQX Θ ω 1 6) σ 0 [(0, .ref (zA Θ 0)), (1, .int person_a)] [] := by
  unfold q11_needPerson at hf
  have K1_ : (person_a < 0) ∨ ((σ 44 8) ≤ person_a) → Z Θ 2 0 0 (zQX Θ ω 1 6) σ 15 [(0, .ref (zA Θ 0)), (1, .int person_a)] [] := by
    intro h5_
    rw [if_pos h5_] at hf
    subst hf
    subst hω
    exact zx_throwW (tx := "there is no such person") C hlt het 2 (by decide +kernel) w_5_228 w_1_25 (List.mem_of_getElem? (i := 33) rfl) th11_2_227g th11_2_227n th11_2_227o dX11_needPerson_15 dX11_needPerson_18 dX11_needPerson_19 dX11_needPerson_22 dX11_needPerson_25 ⟨(Nat.le_of_ble_eq_true rfl), (Nat.le_of_ble_eq_true rfl), (Nat.le_of_ble_eq_true rfl), (Nat.le_of_ble_eq_true rfl)⟩ (Nat.le_of_ble_eq_true rfl) ⟨(Nat.le_of_ble_eq_true rfl), (Nat.le_of_ble_eq_true rfl)⟩
  suffices K2_ : ¬ ((person_a < 0) ∨ ((σ 44 8) ≤ person_a)) → Z Θ 2 0 0 (zQX Θ ω 1 6) σ 26 [(0, .ref (zA Θ 0)), (1, .int person_a)] [] by
    refine z_iload_n C 1 dX11_needPerson_0 rfl rfl ?_
    refine c0_lt_t C 15 dX11_needPerson_1 (by decide) (fun h3_ => ?_) (fun h3_ => ?_)
    · exact K1_ (Or.inl h3_)
    · refine z_iload_n C 1 dX11_needPerson_4 rfl rfl ?_
      refine z_aload_n C 0 dX11_needPerson_5 rfl rfl ?_
      refine fg11_19 C hkd dX11_needPerson_6 ?_
      refine fg11_355 C hkd isV_44 dX11_needPerson_9 ?_
      refine c_ge_f C 26 dX11_needPerson_12 (by decide) (fun h4_ => ?_) (fun h4_ => ?_)
      · exact K1_ (Or.inr h4_)
      · exact K2_ (fun n => n.elim h3_ h4_)
  intro h5_
  rw [if_neg h5_] at hf
  subst hf
  subst hω
  exact zx_vret C ⟨(Nat.le_of_ble_eq_true rfl), (Nat.le_of_ble_eq_true rfl)⟩ dX11_needPerson_26
theorem c11_needPerson {l : Launch} {kd : List KD} {w : Wp} {σ : St} {person_a : Int32} (hkd : kd = kdC) (hi : zI kd w) (hlt : l.stackTraces = false) : zX l kd w yX11_needPerson cX11_needPerson 2 none rm11_needPerson [.ref (w.2.2.1 0), .int person_a] σ (omN (q11_needPerson σ person_a) σ) 1 6 := zX_of rfl hi (Nat.le_of_ble_eq_true rfl) (fun Θ hl hw C het => by
  obtain ⟨Θ1, Θ2, Θ3, Θ4, Θ5⟩ := Θ
  cases hw
  cases hl
  exact p11_needPerson C hkd hlt het  rfl rfl)
/-! LastLoaf$Law.hold -/
theorem w_1_214 : Cond.fieldLink "LastLoaf$Law" (31 : Nat) "LastLoaf$Law" "abstains" "Z" ∈ TB := tb_in (lwt_1 (List.mem_of_getElem? (i := 214) (by decide +kernel))) rfl
theorem fp2_31 {Θ : Tz} {cc : ByteArray} {nL kc ks : Nat} {ret : Option FieldType} {rm : Room} {Q : State → Prop} {σ : St} {pc : Nat} {lv : List (Nat × Value)} {st : List Value} (C : Zc Θ cc nL RX2 ret rm) (hkd : Θ.2.2.2.2.1 = kdC) {th : Nat} (hth : isLaw th) {b : Bool} {σ1 : St} (he : σ1 = up σ th 6 (b2i b)) (hd : decode cc pc = .ok (.putfield 31, 3)) (kk : Z Θ nL kc ks Q σ1 (pc + 3) lv st) : Z Θ nL kc ks Q σ pc lv (.int (b2i b) :: .ref (zA Θ th) :: st) := by subst he; exact z_put C inT2 tyX2_ok nmX2 th (kLaw_0 hkd hth) rfl 6 (by decide) w_1_214 rfl rfl (b2i_narrow b) (b2i_fits b) hd kk
theorem w_1_213 : Cond.fieldLink "LastLoaf$Law" (28 : Nat) "LastLoaf$Law" "swayed" "I" ∈ TB := tb_in (lwt_1 (List.mem_of_getElem? (i := 213) (by decide +kernel))) rfl
theorem fg2_28 {Θ : Tz} {cc : ByteArray} {nL kc ks : Nat} {ret : Option FieldType} {rm : Room} {Q : State → Prop} {σ : St} {pc : Nat} {lv : List (Nat × Value)} {st : List Value} (C : Zc Θ cc nL RX2 ret rm) (hkd : Θ.2.2.2.2.1 = kdC) {th : Nat} (hth : isLaw th) (hd : decode cc pc = .ok (.getfield 28, 3)) (kk : Z Θ nL kc ks Q σ (pc + 3) lv (.int (σ th 5) :: st)) : Z Θ nL kc ks Q σ pc lv (.ref (zA Θ th) :: st) := z_get C inT2 th (kLaw_0 hkd hth) rfl 5 (by decide) w_1_213 rfl hd kk
theorem fp2_28 {Θ : Tz} {cc : ByteArray} {nL kc ks : Nat} {ret : Option FieldType} {rm : Room} {Q : State → Prop} {σ : St} {pc : Nat} {lv : List (Nat × Value)} {st : List Value} (C : Zc Θ cc nL RX2 ret rm) (hkd : Θ.2.2.2.2.1 = kdC) {th : Nat} (hth : isLaw th) {x : Int32} {σ1 : St} (he : σ1 = up σ th 5 x) (hd : decode cc pc = .ok (.putfield 28, 3)) (kk : Z Θ nL kc ks Q σ1 (pc + 3) lv st) : Z Θ nL kc ks Q σ pc lv (.int x :: .ref (zA Θ th) :: st) := by subst he; exact z_put C inT2 tyX2_ok nmX2 th (kLaw_0 hkd hth) rfl 5 (by decide) w_1_213 rfl rfl rfl rfl hd kk
theorem dX2_hold_0 : decode cX2_hold 0 = .ok (.iload_n 1, 1) := by decide +kernel
theorem dX2_hold_1 : decode cX2_hold 1 = .ok (.sipush 4000, 3) := by decide +kernel
theorem dX2_hold_4 : decode cX2_hold 4 = .ok (.if_icmp .lt 11, 3) := by decide +kernel
theorem dX2_hold_7 : decode cX2_hold 7 = .ok (.aload_n 0, 1) := by decide +kernel
theorem dX2_hold_8 : decode cX2_hold 8 = .ok (.iconst 1, 1) := by decide +kernel
theorem dX2_hold_9 : decode cX2_hold 9 = .ok (.putfield 31, 3) := by decide +kernel
theorem dX2_hold_12 : decode cX2_hold 12 = .ok (.goto 41, 3) := by decide +kernel
theorem dX2_hold_15 : decode cX2_hold 15 = .ok (.iload_n 1, 1) := by decide +kernel
theorem dX2_hold_16 : decode cX2_hold 16 = .ok (.sipush 3000, 3) := by decide +kernel
theorem dX2_hold_19 : decode cX2_hold 19 = .ok (.if_icmp .lt 20, 3) := by decide +kernel
theorem dX2_hold_22 : decode cX2_hold 22 = .ok (.aload_n 0, 1) := by decide +kernel
theorem dX2_hold_23 : decode cX2_hold 23 = .ok (.dup, 1) := by decide +kernel
theorem dX2_hold_24 : decode cX2_hold 24 = .ok (.getfield 28, 3) := by decide +kernel
theorem dX2_hold_27 : decode cX2_hold 27 = .ok (.iload_n 1, 1) := by decide +kernel
theorem dX2_hold_28 : decode cX2_hold 28 = .ok (.sipush 3000, 3) := by decide +kernel
theorem dX2_hold_31 : decode cX2_hold 31 = .ok (.isub, 1) := by decide +kernel
theorem dX2_hold_32 : decode cX2_hold 32 = .ok (.isub, 1) := by decide +kernel
theorem dX2_hold_33 : decode cX2_hold 33 = .ok (.putfield 28, 3) := by decide +kernel
theorem dX2_hold_36 : decode cX2_hold 36 = .ok (.goto 17, 3) := by decide +kernel
theorem dX2_hold_39 : decode cX2_hold 39 = .ok (.aload_n 0, 1) := by decide +kernel
theorem dX2_hold_40 : decode cX2_hold 40 = .ok (.dup, 1) := by decide +kernel
theorem dX2_hold_41 : decode cX2_hold 41 = .ok (.getfield 28, 3) := by decide +kernel
theorem dX2_hold_44 : decode cX2_hold 44 = .ok (.iload_n 1, 1) := by decide +kernel
theorem dX2_hold_45 : decode cX2_hold 45 = .ok (.sipush 2000, 3) := by decide +kernel
theorem dX2_hold_48 : decode cX2_hold 48 = .ok (.isub, 1) := by decide +kernel
theorem dX2_hold_49 : decode cX2_hold 49 = .ok (.iadd, 1) := by decide +kernel
theorem dX2_hold_50 : decode cX2_hold 50 = .ok (.putfield 28, 3) := by decide +kernel
theorem dX2_hold_53 : decode cX2_hold 53 = .ok (.return_, 1) := by decide +kernel
def q2_hold (σ : St) (th : Nat) (line_a : Int32) : Option St :=
  lt (if 4000 ≤ line_a then (lt (up σ th 6 (b2i true)) fun σ8_ =>
  σ8_) else (lt (if 3000 ≤ line_a then (lt (up σ th 5 ((σ th 5) - (line_a - 3000))) fun σ17_ =>
  σ17_) else (lt (up σ th 5 ((σ th 5) + (line_a - 2000))) fun σ19_ =>
  σ19_)) fun y10_ =>
  y10_)) fun y1_ =>
  some y1_
abbrev rm2_hold : Room := { frames := 0, cells := 0, slots := 0, locals := 0 }
set_option maxHeartbeats 4000000 in
set_option maxRecDepth 100000 in
theorem p2_hold {Θ : Tz} {σ : St} {ρ : Option Value × St} (C : Zc Θ cX2_hold 2 RX2 none rm2_hold) (hkd : Θ.2.2.2.2.1 = kdC) {th : Nat} {line_a : Int32} (hth : isLaw th) {r : St} (hf : q2_hold σ th line_a = some r) (hρ : ρ = (none, r)) : Z Θ 2 0 0 (zQ Θ ρ) σ 0 [(0, .ref (zA Θ th)), (1, .int line_a)] [] := by
  unfold q2_hold at hf
  obtain ⟨y1_, h2_, hf⟩ := lt_ hf
  have h2_ := h2_.symm
  suffices K3_ : Z Θ 2 0 0 (zQ Θ ρ) y1_ 53 [(0, .ref (zA Θ th)), (1, .int line_a)] [] by
    have K4_ : 4000 ≤ line_a → Z Θ 2 0 0 (zQ Θ ρ) σ 7 [(0, .ref (zA Θ th)), (1, .int line_a)] [] := by
      intro h7_
      rw [if_pos h7_] at h2_
      refine z_aload_n C 0 dX2_hold_7 rfl rfl ?_
      refine z_iconst (v := 1) C dX2_hold_8 ic_1 ?_
      obtain ⟨σ8_, h9_, h2_⟩ := lt_ h2_
      refine fp2_31 (b := true) C hkd hth h9_ dX2_hold_9 ?_
      refine z_goto C 53 dX2_hold_12 (by decide) ?_
      subst h2_
      exact K3_
    have K5_ : ¬ (4000 ≤ line_a) → Z Θ 2 0 0 (zQ Θ ρ) σ 15 [(0, .ref (zA Θ th)), (1, .int line_a)] [] := by
      intro h7_
      rw [if_neg h7_] at h2_
      obtain ⟨y10_, h11_, h2_⟩ := lt_ h2_
      have h11_ := h11_.symm
      suffices K12_ : Z Θ 2 0 0 (zQ Θ ρ) y10_ 53 [(0, .ref (zA Θ th)), (1, .int line_a)] [] by
        have K13_ : 3000 ≤ line_a → Z Θ 2 0 0 (zQ Θ ρ) σ 22 [(0, .ref (zA Θ th)), (1, .int line_a)] [] := by
          intro h16_
          rw [if_pos h16_] at h11_
          refine z_aload_n C 0 dX2_hold_22 rfl rfl ?_
          refine z_dup C dX2_hold_23 rfl ?_
          refine fg2_28 C hkd hth dX2_hold_24 ?_
          refine z_iload_n C 1 dX2_hold_27 rfl rfl ?_
          refine z_sipush (v := 3000) C dX2_hold_28 sp_3000 ?_
          refine z_isub C dX2_hold_31 ?_
          refine z_isub C dX2_hold_32 ?_
          obtain ⟨σ17_, h18_, h11_⟩ := lt_ h11_
          refine fp2_28 C hkd hth h18_ dX2_hold_33 ?_
          refine z_goto C 53 dX2_hold_36 (by decide) ?_
          subst h11_
          exact K12_
        have K14_ : ¬ (3000 ≤ line_a) → Z Θ 2 0 0 (zQ Θ ρ) σ 39 [(0, .ref (zA Θ th)), (1, .int line_a)] [] := by
          intro h16_
          rw [if_neg h16_] at h11_
          refine z_aload_n C 0 dX2_hold_39 rfl rfl ?_
          refine z_dup C dX2_hold_40 rfl ?_
          refine fg2_28 C hkd hth dX2_hold_41 ?_
          refine z_iload_n C 1 dX2_hold_44 rfl rfl ?_
          refine z_sipush (v := 2000) C dX2_hold_45 sp_2000 ?_
          refine z_isub C dX2_hold_48 ?_
          refine z_iadd C dX2_hold_49 ?_
          obtain ⟨σ19_, h20_, h11_⟩ := lt_ h11_
          refine fp2_28 C hkd hth h20_ dX2_hold_50 ?_
          subst h11_
          exact K12_
        refine z_iload_n C 1 dX2_hold_15 rfl rfl ?_
        refine z_sipush (v := 3000) C dX2_hold_16 sp_3000 ?_
        refine c_ge_f C 39 dX2_hold_19 (by decide) (fun h15_ => ?_) (fun h15_ => ?_)
        · exact K13_ h15_
        · exact K14_ h15_
      subst h2_
      exact K3_
    refine z_iload_n C 1 dX2_hold_0 rfl rfl ?_
    refine z_sipush (v := 4000) C dX2_hold_1 sp_4000 ?_
    refine c_ge_f C 15 dX2_hold_4 (by decide) (fun h6_ => ?_) (fun h6_ => ?_)
    · exact K4_ h6_
    · exact K5_ h6_
  cases hf
  subst hρ
  exact z_vret C dX2_hold_53
theorem c2_hold {l : Launch} {kd : List KD} {w : Wp} {σ : St} {th : Nat} {line_a : Int32} (hkd : kd = kdC) (hi : zI kd w) (hth : isLaw th) {r : St} (hf : q2_hold σ th line_a = some r) : zM l kd w yX2_hold cX2_hold 2 none rm2_hold [.ref (w.2.2.1 th), .int line_a] σ (none, r) := zM_of rfl hi (Nat.le_of_ble_eq_true rfl) (fun Θ hl hw C => by
  obtain ⟨Θ1, Θ2, Θ3, Θ4, Θ5⟩ := Θ
  cases hw
  exact p2_hold C hkd hth hf rfl)
/-! LastLoaf$Law.joined -/
theorem dX2_joined_0 : decode cX2_joined 0 = .ok (.iload_n 0, 1) := by decide +kernel
theorem dX2_joined_1 : decode cX2_joined 1 = .ok (.tableswitch 61 1100 1103 #[31, 35, 46, 57], 31) := by decide +kernel
theorem dX2_joined_32 : decode cX2_joined 32 = .ok (.iload_n 1, 1) := by decide +kernel
theorem dX2_joined_33 : decode cX2_joined 33 = .ok (.iload_n 2, 1) := by decide +kernel
theorem dX2_joined_34 : decode cX2_joined 34 = .ok (.iadd, 1) := by decide +kernel
theorem dX2_joined_35 : decode cX2_joined 35 = .ok (.ireturn, 1) := by decide +kernel
theorem dX2_joined_36 : decode cX2_joined 36 = .ok (.iload_n 1, 1) := by decide +kernel
theorem dX2_joined_37 : decode cX2_joined 37 = .ok (.iload_n 2, 1) := by decide +kernel
theorem dX2_joined_38 : decode cX2_joined 38 = .ok (.if_icmp .ge 7, 3) := by decide +kernel
theorem dX2_joined_41 : decode cX2_joined 41 = .ok (.iconst 1, 1) := by decide +kernel
theorem dX2_joined_42 : decode cX2_joined 42 = .ok (.goto 4, 3) := by decide +kernel
theorem dX2_joined_45 : decode cX2_joined 45 = .ok (.iconst 0, 1) := by decide +kernel
theorem dX2_joined_46 : decode cX2_joined 46 = .ok (.ireturn, 1) := by decide +kernel
theorem dX2_joined_47 : decode cX2_joined 47 = .ok (.iload_n 1, 1) := by decide +kernel
theorem dX2_joined_48 : decode cX2_joined 48 = .ok (.iload_n 2, 1) := by decide +kernel
theorem dX2_joined_49 : decode cX2_joined 49 = .ok (.if_icmp .le 7, 3) := by decide +kernel
theorem dX2_joined_52 : decode cX2_joined 52 = .ok (.iconst 1, 1) := by decide +kernel
theorem dX2_joined_53 : decode cX2_joined 53 = .ok (.goto 4, 3) := by decide +kernel
theorem dX2_joined_56 : decode cX2_joined 56 = .ok (.iconst 0, 1) := by decide +kernel
theorem dX2_joined_57 : decode cX2_joined 57 = .ok (.ireturn, 1) := by decide +kernel
theorem dX2_joined_58 : decode cX2_joined 58 = .ok (.iload_n 1, 1) := by decide +kernel
theorem dX2_joined_59 : decode cX2_joined 59 = .ok (.iload_n 2, 1) := by decide +kernel
theorem dX2_joined_60 : decode cX2_joined 60 = .ok (.iand, 1) := by decide +kernel
theorem dX2_joined_61 : decode cX2_joined 61 = .ok (.ireturn, 1) := by decide +kernel
theorem dX2_joined_62 : decode cX2_joined 62 = .ok (.iload_n 1, 1) := by decide +kernel
theorem dX2_joined_63 : decode cX2_joined 63 = .ok (.iload_n 2, 1) := by decide +kernel
theorem dX2_joined_64 : decode cX2_joined 64 = .ok (.ior, 1) := by decide +kernel
theorem dX2_joined_65 : decode cX2_joined 65 = .ok (.ireturn, 1) := by decide +kernel
def q2_joined (sign_a : Int32) (first_a : Int32) (second_a : Int32) : Int32 :=
  if sign_a = 1100 then (first_a + second_a) else
  if sign_a = 1101 then (if first_a < second_a then 1 else 0) else
  if sign_a = 1102 then (if second_a < first_a then 1 else 0) else
  if sign_a = 1103 then (first_a &&& second_a) else
  first_a ||| second_a
abbrev rm2_joined : Room := { frames := 0, cells := 0, slots := 0, locals := 0 }
set_option maxHeartbeats 4000000 in
set_option maxRecDepth 100000 in
theorem p2_joined {Θ : Tz} {σ : St} {ρ : Option Value × St} (C : Zc Θ cX2_joined 3 RX2 (some .int) rm2_joined) (hkd : Θ.2.2.2.2.1 = kdC) {sign_a : Int32} {first_a : Int32} {second_a : Int32} {r : Int32} (hf : q2_joined sign_a first_a second_a = r) (hρ : ρ = (some (.int r), σ)) : Z Θ 3 0 0 (zQ Θ ρ) σ 0 [(0, .int sign_a), (1, .int first_a), (2, .int second_a)] [] := by
  unfold q2_joined at hf
  refine z_iload_n C 0 dX2_joined_0 rfl rfl ?_
  by_cases h14_ : sign_a = 1100
  · rw [if_pos h14_] at hf
    refine z_tswIn (off := 31) C 32 dX2_joined_1 (by rw [h14_]; decide) (by rw [h14_]; decide) (by rw [h14_]; decide) (by decide) ?_
    refine z_iload_n C 1 dX2_joined_32 rfl rfl ?_
    refine z_iload_n C 2 dX2_joined_33 rfl rfl ?_
    refine z_iadd C dX2_joined_34 ?_
    subst hf
    subst hρ
    exact z_iret C dX2_joined_35
  rw [if_neg h14_] at hf
  by_cases h15_ : sign_a = 1101
  · rw [if_pos h15_] at hf
    refine z_tswIn (off := 35) C 36 dX2_joined_1 (by rw [h15_]; decide) (by rw [h15_]; decide) (by rw [h15_]; decide) (by decide) ?_
    suffices K4_ : Z Θ 3 0 0 (zQ Θ ρ) σ 46 [(0, .int sign_a), (1, .int first_a), (2, .int second_a)] [.int (if first_a < second_a then 1 else 0)] by
      have K5_ : first_a < second_a → Z Θ 3 0 0 (zQ Θ ρ) σ 41 [(0, .int sign_a), (1, .int first_a), (2, .int second_a)] [] := by
        intro h8_
        rw [if_pos h8_] at K4_
        refine z_iconst (v := 1) C dX2_joined_41 ic_1 ?_
        refine z_goto C 46 dX2_joined_42 (by decide) ?_
        exact K4_
      have K6_ : ¬ (first_a < second_a) → Z Θ 3 0 0 (zQ Θ ρ) σ 45 [(0, .int sign_a), (1, .int first_a), (2, .int second_a)] [] := by
        intro h8_
        rw [if_neg h8_] at K4_
        refine z_iconst (v := 0) C dX2_joined_45 ic_0 ?_
        exact K4_
      refine z_iload_n C 1 dX2_joined_36 rfl rfl ?_
      refine z_iload_n C 2 dX2_joined_37 rfl rfl ?_
      refine c_lt_f C 45 dX2_joined_38 (by decide) (fun h7_ => ?_) (fun h7_ => ?_)
      · exact K5_ h7_
      · exact K6_ h7_
    subst hf
    subst hρ
    exact z_iret C dX2_joined_46
  rw [if_neg h15_] at hf
  by_cases h16_ : sign_a = 1102
  · rw [if_pos h16_] at hf
    refine z_tswIn (off := 46) C 47 dX2_joined_1 (by rw [h16_]; decide) (by rw [h16_]; decide) (by rw [h16_]; decide) (by decide) ?_
    suffices K9_ : Z Θ 3 0 0 (zQ Θ ρ) σ 57 [(0, .int sign_a), (1, .int first_a), (2, .int second_a)] [.int (if second_a < first_a then 1 else 0)] by
      have K10_ : second_a < first_a → Z Θ 3 0 0 (zQ Θ ρ) σ 52 [(0, .int sign_a), (1, .int first_a), (2, .int second_a)] [] := by
        intro h13_
        rw [if_pos h13_] at K9_
        refine z_iconst (v := 1) C dX2_joined_52 ic_1 ?_
        refine z_goto C 57 dX2_joined_53 (by decide) ?_
        exact K9_
      have K11_ : ¬ (second_a < first_a) → Z Θ 3 0 0 (zQ Θ ρ) σ 56 [(0, .int sign_a), (1, .int first_a), (2, .int second_a)] [] := by
        intro h13_
        rw [if_neg h13_] at K9_
        refine z_iconst (v := 0) C dX2_joined_56 ic_0 ?_
        exact K9_
      refine z_iload_n C 1 dX2_joined_47 rfl rfl ?_
      refine z_iload_n C 2 dX2_joined_48 rfl rfl ?_
      refine c_gt_f C 56 dX2_joined_49 (by decide) (fun h12_ => ?_) (fun h12_ => ?_)
      · exact K10_ h12_
      · exact K11_ h12_
    subst hf
    subst hρ
    exact z_iret C dX2_joined_57
  rw [if_neg h16_] at hf
  by_cases h17_ : sign_a = 1103
  · rw [if_pos h17_] at hf
    refine z_tswIn (off := 57) C 58 dX2_joined_1 (by rw [h17_]; decide) (by rw [h17_]; decide) (by rw [h17_]; decide) (by decide) ?_
    refine z_iload_n C 1 dX2_joined_58 rfl rfl ?_
    refine z_iload_n C 2 dX2_joined_59 rfl rfl ?_
    refine z_iand C dX2_joined_60 ?_
    subst hf
    subst hρ
    exact z_iret C dX2_joined_61
  rw [if_neg h17_] at hf
  refine z_tswOut C 62 dX2_joined_1 (sw_out2 (x := sign_a) _ _ 1100 3 (by decide) (by decide) (by decide) (fun j9 hj9 => by (have q8 : j9 = 0 ∨ j9 = 1 ∨ j9 = 2 ∨ j9 = 3 := by omega); rcases q8 with rfl | rfl | rfl | rfl <;> first | exact h14_ | exact h15_ | exact h16_ | exact h17_)) (by decide) ?_
  refine z_iload_n C 1 dX2_joined_62 rfl rfl ?_
  refine z_iload_n C 2 dX2_joined_63 rfl rfl ?_
  refine z_ior C dX2_joined_64 ?_
  subst hf
  subst hρ
  exact z_iret C dX2_joined_65
theorem c2_joined {l : Launch} {kd : List KD} {w : Wp} {σ : St} {sign_a : Int32} {first_a : Int32} {second_a : Int32} (hkd : kd = kdC) (hi : zI kd w) : zM l kd w yX2_joined cX2_joined 3 (some .int) rm2_joined [.int sign_a, .int first_a, .int second_a] σ (some (.int (q2_joined sign_a first_a second_a)), σ) := zM_of rfl hi (Nat.le_of_ble_eq_true rfl) (fun Θ hl hw C => by
  obtain ⟨Θ1, Θ2, Θ3, Θ4, Θ5⟩ := Θ
  cases hw
  exact p2_joined C hkd  rfl rfl)
/-! LastLoaf$Village.areOfOneParty -/
theorem dX10_areOfOneParty_0 : decode cX10_areOfOneParty 0 = .ok (.aload_n 0, 1) := by decide +kernel
theorem dX10_areOfOneParty_1 : decode cX10_areOfOneParty 1 = .ok (.getfield 15, 3) := by decide +kernel
theorem dX10_areOfOneParty_4 : decode cX10_areOfOneParty 4 = .ok (.iload_n 1, 1) := by decide +kernel
theorem dX10_areOfOneParty_5 : decode cX10_areOfOneParty 5 = .ok (.iaload, 1) := by decide +kernel
theorem dX10_areOfOneParty_6 : decode cX10_areOfOneParty 6 = .ok (.aload_n 0, 1) := by decide +kernel
theorem dX10_areOfOneParty_7 : decode cX10_areOfOneParty 7 = .ok (.getfield 15, 3) := by decide +kernel
theorem dX10_areOfOneParty_10 : decode cX10_areOfOneParty 10 = .ok (.iload_n 2, 1) := by decide +kernel
theorem dX10_areOfOneParty_11 : decode cX10_areOfOneParty 11 = .ok (.iaload, 1) := by decide +kernel
theorem dX10_areOfOneParty_12 : decode cX10_areOfOneParty 12 = .ok (.if_icmp .ne 17, 3) := by decide +kernel
theorem dX10_areOfOneParty_15 : decode cX10_areOfOneParty 15 = .ok (.aload_n 0, 1) := by decide +kernel
theorem dX10_areOfOneParty_16 : decode cX10_areOfOneParty 16 = .ok (.getfield 15, 3) := by decide +kernel
theorem dX10_areOfOneParty_19 : decode cX10_areOfOneParty 19 = .ok (.iload_n 1, 1) := by decide +kernel
theorem dX10_areOfOneParty_20 : decode cX10_areOfOneParty 20 = .ok (.iaload, 1) := by decide +kernel
theorem dX10_areOfOneParty_21 : decode cX10_areOfOneParty 21 = .ok (.iconst 2, 1) := by decide +kernel
theorem dX10_areOfOneParty_22 : decode cX10_areOfOneParty 22 = .ok (.if_icmp .eq 7, 3) := by decide +kernel
theorem dX10_areOfOneParty_25 : decode cX10_areOfOneParty 25 = .ok (.iconst 1, 1) := by decide +kernel
theorem dX10_areOfOneParty_26 : decode cX10_areOfOneParty 26 = .ok (.goto 4, 3) := by decide +kernel
theorem dX10_areOfOneParty_29 : decode cX10_areOfOneParty 29 = .ok (.iconst 0, 1) := by decide +kernel
theorem dX10_areOfOneParty_30 : decode cX10_areOfOneParty 30 = .ok (.ireturn, 1) := by decide +kernel
def q10_areOfOneParty (σ : St) (th : Nat) (person_a : Int32) (other_a : Int32) : Option Bool :=
  Option.bind (Option.bind (Option.bind (ag σ (th + 2) 6 person_a) fun x8_ =>
  Option.bind (ag σ (th + 2) 6 other_a) fun x10_ =>
  if x8_ = x10_ then (Option.bind (ag σ (th + 2) 6 person_a) fun x13_ =>
  if ¬ x13_ = 2 then (some true) else (some false)) else (some false)) fun t6_ =>
  if t6_ = true then (some true) else (some false)) fun x1_ =>
  some x1_
abbrev rm10_areOfOneParty : Room := { frames := 0, cells := 0, slots := 0, locals := 0 }
set_option maxHeartbeats 4000000 in
set_option maxRecDepth 100000 in
theorem p10_areOfOneParty {Θ : Tz} {σ : St} {ρ : Option Value × St} (C : Zc Θ cX10_areOfOneParty 3 RX10 (some .boolean) rm10_areOfOneParty) (hkd : Θ.2.2.2.2.1 = kdC) {th : Nat} {person_a : Int32} {other_a : Int32} (hth : isV th) {r : Bool} (hf : q10_areOfOneParty σ th person_a other_a = some r) (hρ : ρ = (some (.int (b2i r)), σ)) : Z Θ 3 0 0 (zQ Θ ρ) σ 0 [(0, .ref (zA Θ th)), (1, .int person_a), (2, .int other_a)] [] := by
  unfold q10_areOfOneParty at hf
  obtain ⟨x1_, h2_, hf⟩ := ob hf
  suffices K3_ : Z Θ 3 0 0 (zQ Θ ρ) σ 30 [(0, .ref (zA Θ th)), (1, .int person_a), (2, .int other_a)] [.int (b2i x1_)] by
    obtain ⟨t6_, h7_, h2_⟩ := ob h2_
    have K4_ : t6_ = true → Z Θ 3 0 0 (zQ Θ ρ) σ 25 [(0, .ref (zA Θ th)), (1, .int person_a), (2, .int other_a)] [] := by
      intro h16_
      rw [if_pos h16_] at h2_
      refine z_iconst (v := 1) C dX10_areOfOneParty_25 ic_1 ?_
      refine z_goto C 30 dX10_areOfOneParty_26 (by decide) ?_
      cases h2_
      exact K3_
    have K5_ : ¬ (t6_ = true) → Z Θ 3 0 0 (zQ Θ ρ) σ 29 [(0, .ref (zA Θ th)), (1, .int person_a), (2, .int other_a)] [] := by
      intro h16_
      rw [if_neg h16_] at h2_
      refine z_iconst (v := 0) C dX10_areOfOneParty_29 ic_0 ?_
      cases h2_
      exact K3_
    refine z_aload_n C 0 dX10_areOfOneParty_0 rfl rfl ?_
    refine fg10_15 C hkd hth dX10_areOfOneParty_1 ?_
    refine z_iload_n C 1 dX10_areOfOneParty_4 rfl rfl ?_
    obtain ⟨x8_, h9_, h7_⟩ := ob h7_
    refine z_ag C h9_ (kV_2 hkd hth) dX10_areOfOneParty_5 ?_
    refine z_aload_n C 0 dX10_areOfOneParty_6 rfl rfl ?_
    refine fg10_15 C hkd hth dX10_areOfOneParty_7 ?_
    refine z_iload_n C 2 dX10_areOfOneParty_10 rfl rfl ?_
    obtain ⟨x10_, h11_, h7_⟩ := ob h7_
    refine z_ag C h11_ (kV_2 hkd hth) dX10_areOfOneParty_11 ?_
    refine c_eq_f C 29 dX10_areOfOneParty_12 (by decide) (fun h12_ => ?_) (fun h12_ => ?_)
    · rw [if_pos h12_] at h7_
      refine z_aload_n C 0 dX10_areOfOneParty_15 rfl rfl ?_
      refine fg10_15 C hkd hth dX10_areOfOneParty_16 ?_
      refine z_iload_n C 1 dX10_areOfOneParty_19 rfl rfl ?_
      obtain ⟨x13_, h14_, h7_⟩ := ob h7_
      refine z_ag C h14_ (kV_2 hkd hth) dX10_areOfOneParty_20 ?_
      refine z_iconst (v := 2) C dX10_areOfOneParty_21 ic_2 ?_
      refine c_ne_f C 29 dX10_areOfOneParty_22 (by decide) (fun h15_ => ?_) (fun h15_ => ?_)
      · rw [if_pos h15_] at h7_
        cases h7_
        exact K4_ rfl
      · rw [if_neg h15_] at h7_
        cases h7_
        exact K5_ Bool.false_ne_true
    · rw [if_neg h12_] at h7_
      cases h7_
      exact K5_ Bool.false_ne_true
  cases hf
  subst hρ
  exact z_zret C (b2i_narrow _) dX10_areOfOneParty_30
theorem c10_areOfOneParty {l : Launch} {kd : List KD} {w : Wp} {σ : St} {th : Nat} {person_a : Int32} {other_a : Int32} (hkd : kd = kdC) (hi : zI kd w) (hth : isV th) {r : Bool} (hf : q10_areOfOneParty σ th person_a other_a = some r) : zM l kd w yX10_areOfOneParty cX10_areOfOneParty 3 (some .boolean) rm10_areOfOneParty [.ref (w.2.2.1 th), .int person_a, .int other_a] σ (some (.int (b2i r)), σ) := zM_of rfl hi (Nat.le_of_ble_eq_true rfl) (fun Θ hl hw C => by
  obtain ⟨Θ1, Θ2, Θ3, Θ4, Θ5⟩ := Θ
  cases hw
  exact p10_areOfOneParty C hkd hth hf rfl)

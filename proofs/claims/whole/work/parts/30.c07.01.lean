/-! LastLoaf$Baker.holdSpeech -/
theorem w_3_216 : Cond.methodLink "LastLoaf$Baker" (110 : Nat) ({ cls := "java/lang/Integer", name := "bitCount", desc := "(I)I" } : MethodName) ∈ TB := tb_in (lwt_3 (List.mem_of_getElem? (i := 216) (by decide +kernel))) rfl
theorem w_3_220 : Cond.code ({ cls := "LastLoaf$Village", name := "draw", desc := "()I" } : MethodName) prog_12_method_10_code (1 : Nat) (Option.some ClassFile.FieldType.int) ∈ TB := tb_in (lwt_3 (List.mem_of_getElem? (i := 220) (by decide +kernel))) rfl
theorem w_3_217 : Cond.methodLink "LastLoaf$Baker" (115 : Nat) ({ cls := "LastLoaf$Village", name := "draw", desc := "()I" } : MethodName) ∈ TB := tb_in (lwt_3 (List.mem_of_getElem? (i := 217) (by decide +kernel))) rfl
theorem w_3_218 : Cond.instanceMethod ({ cls := "LastLoaf$Village", name := "draw", desc := "()I" } : MethodName) ∈ TB := tb_in (lwt_3 (List.mem_of_getElem? (i := 218) (by decide +kernel))) rfl
theorem w_3_219 : Cond.selects "LastLoaf$Village" ({ cls := "LastLoaf$Village", name := "draw", desc := "()I" } : MethodName) ({ cls := "LastLoaf$Village", name := "draw", desc := "()I" } : MethodName) ∈ TB := tb_in (lwt_3 (List.mem_of_getElem? (i := 219) (by decide +kernel))) rfl
theorem cr0_115 {Θ : Tz} {cc : ByteArray} {nL kc ks : Nat} {ret : Option FieldType} {rm : Room} {Q : State → Prop} {σ : St} {pc : Nat} {lv : List (Nat × Value)} {st : List Value} (C : Zc Θ cc nL RX0 ret rm) (hkd : Θ.2.2.2.2.1 = kdC) {th : Nat} (hth : isV th) {r : Int32 × St} (hx : q10_draw σ th = some r) (hrm : rm10_draw.frames + 1 ≤ rm.frames ∧ 8 + (1 + 11) + rm10_draw.locals ≤ rm.locals) (hcat : (st.map fun v => v.category).sum ≤ 8) (hk : kc ≤ rm.cells ∧ ks ≤ rm.slots) (hd : decode cc pc = .ok (.invokevirtual 115, 3)) (kk : Z Θ nL kc ks Q r.2 (pc + 3) lv (.int r.1 :: st)) : Z Θ nL kc ks Q σ pc lv (.ref (zA Θ th) :: st) := z_callV C th [] (some (.int r.1), r.2) 0 (kV_0 hkd hth) rfl (c10_draw (th := th) hkd (zc_inj C) hth hx) w_3_220 w_3_217 w_3_218 w_3_219 w_1_3 ⟨rfl, rfl, hrm.1, hrm.2⟩ (by decide +kernel) rfl rfl hcat hk hd kk
theorem w_1_158 : Cond.fieldLink "LastLoaf$Baker" (118 : Nat) "LastLoaf$Village" "speech" "I" ∈ TB := tb_in (lwt_1 (List.mem_of_getElem? (i := 158) (by decide +kernel))) rfl
theorem fg0_118 {Θ : Tz} {cc : ByteArray} {nL kc ks : Nat} {ret : Option FieldType} {rm : Room} {Q : State → Prop} {σ : St} {pc : Nat} {lv : List (Nat × Value)} {st : List Value} (C : Zc Θ cc nL RX0 ret rm) (hkd : Θ.2.2.2.2.1 = kdC) {th : Nat} (hth : isV th) (hd : decode cc pc = .ok (.getfield 118, 3)) (kk : Z Θ nL kc ks Q σ (pc + 3) lv (.int (σ th 14) :: st)) : Z Θ nL kc ks Q σ pc lv (.ref (zA Θ th) :: st) := z_get C inT10 th (kV_0 hkd hth) rfl 14 (by decide) w_1_158 rfl hd kk
theorem w_3_225 : Cond.code ({ cls := "LastLoaf$Baker", name := "warmAll", desc := "(LLastLoaf$Village;I)V" } : MethodName) prog_2_method_7_code (4 : Nat) (Option.none : Option ClassFile.FieldType) ∈ TB := tb_in (lwt_3 (List.mem_of_getElem? (i := 225) (by decide +kernel))) rfl
theorem w_1_10 : Cond.initialized "LastLoaf$Baker" ∈ TB := tb_in (lwt_1 (List.mem_of_getElem? (i := 10) (by decide +kernel))) rfl
theorem w_3_222 : Cond.methodLink "LastLoaf$Baker" (121 : Nat) ({ cls := "LastLoaf$Baker", name := "warmAll", desc := "(LLastLoaf$Village;I)V" } : MethodName) ∈ TB := tb_in (lwt_3 (List.mem_of_getElem? (i := 222) (by decide +kernel))) rfl
theorem w_3_223 : Cond.instanceMethod ({ cls := "LastLoaf$Baker", name := "warmAll", desc := "(LLastLoaf$Village;I)V" } : MethodName) ∈ TB := tb_in (lwt_3 (List.mem_of_getElem? (i := 223) (by decide +kernel))) rfl
theorem w_3_224 : Cond.selects "LastLoaf$Baker" ({ cls := "LastLoaf$Baker", name := "warmAll", desc := "(LLastLoaf$Village;I)V" } : MethodName) ({ cls := "LastLoaf$Baker", name := "warmAll", desc := "(LLastLoaf$Village;I)V" } : MethodName) ∈ TB := tb_in (lwt_3 (List.mem_of_getElem? (i := 224) (by decide +kernel))) rfl
theorem cr0_121 {Θ : Tz} {cc : ByteArray} {nL kc ks : Nat} {ret : Option FieldType} {rm : Room} {Q : State → Prop} {σ : St} {pc : Nat} {lv : List (Nat × Value)} {st : List Value} (C : Zc Θ cc nL RX0 ret rm) (hkd : Θ.2.2.2.2.1 = kdC) {village_a : Nat} {speaker_a : Int32} (h_village : isV village_a) {r : St} (hx : q0_warmAll σ village_a speaker_a = some r) (hrm : rm0_warmAll.frames + 1 ≤ rm.frames ∧ 8 + (4 + 11) + rm0_warmAll.locals ≤ rm.locals) (hcat : (st.map fun v => v.category).sum ≤ 8) (hk : kc ≤ rm.cells ∧ ks ≤ rm.slots) (hd : decode cc pc = .ok (.invokevirtual 121, 3)) (kk : Z Θ nL kc ks Q r (pc + 3) lv st) : Z Θ nL kc ks Q σ pc lv (.int speaker_a :: .ref (zA Θ village_a) :: .ref (zA Θ 13) :: st) := z_callV C 13 [.ref (zA Θ village_a), .int speaker_a] (none, r) 2 (kC_13 hkd) rfl (c0_warmAll (village_a := village_a) (speaker_a := speaker_a) hkd (zc_inj C) h_village hx) w_3_225 w_3_222 w_3_223 w_3_224 w_1_10 ⟨rfl, rfl, hrm.1, hrm.2⟩ (by decide +kernel) rfl rfl hcat hk hd kk
theorem dX0_holdSpeech_0 : decode cX0_holdSpeech 0 = .ok (.aload_n 1, 1) := by decide +kernel
theorem dX0_holdSpeech_1 : decode cX0_holdSpeech 1 = .ok (.invokevirtual 90, 3) := by decide +kernel
theorem dX0_holdSpeech_4 : decode cX0_holdSpeech 4 = .ok (.istore_n 2, 1) := by decide +kernel
theorem dX0_holdSpeech_5 : decode cX0_holdSpeech 5 = .ok (.iload_n 2, 1) := by decide +kernel
theorem dX0_holdSpeech_6 : decode cX0_holdSpeech 6 = .ok (.invokestatic 110, 3) := by decide +kernel
theorem dX0_holdSpeech_9 : decode cX0_holdSpeech 9 = .ok (.istore_n 3, 1) := by decide +kernel
theorem dX0_holdSpeech_10 : decode cX0_holdSpeech 10 = .ok (.aload_n 1, 1) := by decide +kernel
theorem dX0_holdSpeech_11 : decode cX0_holdSpeech 11 = .ok (.invokevirtual 115, 3) := by decide +kernel
theorem dX0_holdSpeech_14 : decode cX0_holdSpeech 14 = .ok (.bipush 100, 2) := by decide +kernel
theorem dX0_holdSpeech_16 : decode cX0_holdSpeech 16 = .ok (.irem, 1) := by decide +kernel
theorem dX0_holdSpeech_17 : decode cX0_holdSpeech 17 = .ok (.aload_n 1, 1) := by decide +kernel
theorem dX0_holdSpeech_18 : decode cX0_holdSpeech 18 = .ok (.getfield 118, 3) := by decide +kernel
theorem dX0_holdSpeech_21 : decode cX0_holdSpeech 21 = .ok (.if_icmp .ge 7, 3) := by decide +kernel
theorem dX0_holdSpeech_24 : decode cX0_holdSpeech 24 = .ok (.iload_n 3, 1) := by decide +kernel
theorem dX0_holdSpeech_25 : decode cX0_holdSpeech 25 = .ok (.ifCond .ne 4, 3) := by decide +kernel
theorem dX0_holdSpeech_28 : decode cX0_holdSpeech 28 = .ok (.return_, 1) := by decide +kernel
theorem dX0_holdSpeech_29 : decode cX0_holdSpeech 29 = .ok (.aload_n 1, 1) := by decide +kernel
theorem dX0_holdSpeech_30 : decode cX0_holdSpeech 30 = .ok (.invokevirtual 115, 3) := by decide +kernel
theorem dX0_holdSpeech_33 : decode cX0_holdSpeech 33 = .ok (.iload_n 3, 1) := by decide +kernel
theorem dX0_holdSpeech_34 : decode cX0_holdSpeech 34 = .ok (.irem, 1) := by decide +kernel
theorem dX0_holdSpeech_35 : decode cX0_holdSpeech 35 = .ok (.istore 4, 2) := by decide +kernel
theorem dX0_holdSpeech_37 : decode cX0_holdSpeech 37 = .ok (.iconst 0, 1) := by decide +kernel
theorem dX0_holdSpeech_38 : decode cX0_holdSpeech 38 = .ok (.istore 5, 2) := by decide +kernel
theorem dX0_holdSpeech_40 : decode cX0_holdSpeech 40 = .ok (.iload 5, 2) := by decide +kernel
theorem dX0_holdSpeech_42 : decode cX0_holdSpeech 42 = .ok (.aload_n 1, 1) := by decide +kernel
theorem dX0_holdSpeech_43 : decode cX0_holdSpeech 43 = .ok (.getfield 54, 3) := by decide +kernel
theorem dX0_holdSpeech_46 : decode cX0_holdSpeech 46 = .ok (.if_icmp .ge 33, 3) := by decide +kernel
theorem dX0_holdSpeech_49 : decode cX0_holdSpeech 49 = .ok (.iload_n 2, 1) := by decide +kernel
theorem dX0_holdSpeech_50 : decode cX0_holdSpeech 50 = .ok (.iload 5, 2) := by decide +kernel
theorem dX0_holdSpeech_52 : decode cX0_holdSpeech 52 = .ok (.invokestatic 63, 3) := by decide +kernel
theorem dX0_holdSpeech_55 : decode cX0_holdSpeech 55 = .ok (.ifCond .eq 18, 3) := by decide +kernel
theorem dX0_holdSpeech_58 : decode cX0_holdSpeech 58 = .ok (.iload 4, 2) := by decide +kernel
theorem dX0_holdSpeech_60 : decode cX0_holdSpeech 60 = .ok (.ifCond .ne 10, 3) := by decide +kernel
theorem dX0_holdSpeech_63 : decode cX0_holdSpeech 63 = .ok (.aload_n 0, 1) := by decide +kernel
theorem dX0_holdSpeech_64 : decode cX0_holdSpeech 64 = .ok (.aload_n 1, 1) := by decide +kernel
theorem dX0_holdSpeech_65 : decode cX0_holdSpeech 65 = .ok (.iload 5, 2) := by decide +kernel
theorem dX0_holdSpeech_67 : decode cX0_holdSpeech 67 = .ok (.invokevirtual 121, 3) := by decide +kernel
theorem dX0_holdSpeech_70 : decode cX0_holdSpeech 70 = .ok (.iinc 4 (-1), 3) := by decide +kernel
theorem dX0_holdSpeech_73 : decode cX0_holdSpeech 73 = .ok (.iinc 5 1, 3) := by decide +kernel
theorem dX0_holdSpeech_76 : decode cX0_holdSpeech 76 = .ok (.goto (-36), 3) := by decide +kernel
theorem dX0_holdSpeech_79 : decode cX0_holdSpeech 79 = .ok (.return_, 1) := by decide +kernel
def q0_holdSpeech (σ : St) (village_a : Nat) : Option St :=
  lt (q10_runners σ village_a) fun runners1_ =>
  lt (bcount runners1_) fun running3_ =>
  Option.bind (q10_draw σ village_a) fun x7_ =>
  if ((x7_.2 village_a 14) ≤ (irm x7_.1 100)) ∨ (running3_ = 0) then (some x7_.2) else
  Option.bind (q10_draw x7_.2 village_a) fun x12_ =>
  Option.bind (rmd x12_.1 running3_) fun x14_ =>
  Option.bind (loop3 (fun rec19_ (place22_ : Int32) (r23_ : Int32) (σ24_ : St) =>
  if r23_ < (σ24_ village_a 8) then
  Option.bind (if q11_isIn runners1_ r23_ = true then (Option.bind (if place22_ = 0 then (Option.bind (q0_warmAll σ24_ village_a r23_) fun x45_ =>
  some (x45_)) else (some (σ24_))) fun y38_ =>
  lt (place22_ + (-1)) fun place47_ =>
  some (place47_, y38_)) else (some (place22_, σ24_))) fun y31_ =>
  lt (r23_ + 1) fun r49_ =>
  rec19_ y31_.1 r49_ y31_.2
  else (some (place22_, r23_, σ24_))) fuelN x14_ (0 : Int32) x12_.2) fun y16_ =>
  some y16_.2.2
abbrev rm0_holdSpeech : Room := { frames := 3, cells := 0, slots := 0, locals := 67 }
set_option maxHeartbeats 4000000 in
set_option maxRecDepth 100000 in
theorem p0_holdSpeech {Θ : Tz} {σ : St} {ρ : Option Value × St} (C : Zc Θ cX0_holdSpeech 6 RX0 none rm0_holdSpeech) (hkd : Θ.2.2.2.2.1 = kdC) {village_a : Nat} (h_village : isV village_a) {r : St} (hf : q0_holdSpeech σ village_a = some r) (hρ : ρ = (none, r)) : Z Θ 6 0 0 (zQ Θ ρ) σ 0 [(0, .ref (zA Θ 13)), (1, .ref (zA Θ village_a))] [] := by
  unfold q0_holdSpeech at hf
  refine z_aload_n C 1 dX0_holdSpeech_0 rfl rfl ?_
  refine cr0_90 (th := village_a) C hkd h_village ⟨(Nat.le_of_ble_eq_true rfl), (Nat.le_of_ble_eq_true rfl)⟩ (Nat.le_of_ble_eq_true rfl) ⟨Nat.zero_le _, Nat.zero_le _⟩ dX0_holdSpeech_1 ?_
  obtain ⟨runners1_, h2_, hf⟩ := lt_ hf
  refine z_istN C dX0_holdSpeech_4 h2_ rfl (Nat.le_of_ble_eq_true rfl) rfl ?_
  refine z_iload_n C 0 dX0_holdSpeech_5 rfl rfl ?_
  refine z_callS C [.int runners1_] (some (.int (bcount runners1_)), σ) 1 (cJ_bitCount (zc_inj C)) w_3_30 w_3_216 w_3_29 w_1_26 ⟨rfl, rfl, (Nat.le_of_ble_eq_true rfl), (Nat.le_of_ble_eq_true rfl)⟩ (by decide +kernel) rfl rfl (Nat.le_of_ble_eq_true rfl) ⟨Nat.zero_le _, Nat.zero_le _⟩ dX0_holdSpeech_6 ?_
  obtain ⟨running3_, h4_, hf⟩ := lt_ hf
  refine z_istN C dX0_holdSpeech_9 h4_ rfl (Nat.le_of_ble_eq_true rfl) rfl ?_
  refine z_aload_n C 3 dX0_holdSpeech_10 rfl rfl ?_
  obtain ⟨x7_, h8_, hf⟩ := ob hf
  refine cr0_115 (th := village_a) C hkd h_village h8_ ⟨(Nat.le_of_ble_eq_true rfl), (Nat.le_of_ble_eq_true rfl)⟩ (Nat.le_of_ble_eq_true rfl) ⟨Nat.zero_le _, Nat.zero_le _⟩ dX0_holdSpeech_11 ?_
  refine z_bipush (v := 100) C dX0_holdSpeech_14 bp_100 ?_
  refine z_irm C (by decide) dX0_holdSpeech_16 ?_
  refine z_aload_n C 3 dX0_holdSpeech_17 rfl rfl ?_
  refine fg0_118 C hkd h_village dX0_holdSpeech_18 ?_
  have K5_ : ((x7_.2 village_a 14) ≤ (irm x7_.1 100)) ∨ (running3_ = 0) → Z Θ 6 0 0 (zQ Θ ρ) x7_.2 28 [(3, .int running3_), (2, .int runners1_), (0, .ref (zA Θ 13)), (1, .ref (zA Θ village_a))] [] := by
    intro h11_
    rw [if_pos h11_] at hf
    cases hf
    subst hρ
    exact z_vret C dX0_holdSpeech_28
  suffices K6_ : ¬ (((x7_.2 village_a 14) ≤ (irm x7_.1 100)) ∨ (running3_ = 0)) → Z Θ 6 0 0 (zQ Θ ρ) x7_.2 29 [(3, .int running3_), (2, .int runners1_), (0, .ref (zA Θ 13)), (1, .ref (zA Θ village_a))] [] by
    refine c_ge_t C 28 dX0_holdSpeech_21 (by decide) (fun h9_ => ?_) (fun h9_ => ?_)
    · exact K5_ (Or.inl h9_)
    · refine z_iload_n C 0 dX0_holdSpeech_24 rfl rfl ?_
      refine c0_eq_f C 29 dX0_holdSpeech_25 (by decide) (fun h10_ => ?_) (fun h10_ => ?_)
      · exact K5_ (Or.inr h10_)
      · exact K6_ (fun n => n.elim h9_ h10_)
  intro h11_
  rw [if_neg h11_] at hf
  refine z_aload_n C 3 dX0_holdSpeech_29 rfl rfl ?_
  obtain ⟨x12_, h13_, hf⟩ := ob hf
  refine cr0_115 (th := village_a) C hkd h_village h13_ ⟨(Nat.le_of_ble_eq_true rfl), (Nat.le_of_ble_eq_true rfl)⟩ (Nat.le_of_ble_eq_true rfl) ⟨Nat.zero_le _, Nat.zero_le _⟩ dX0_holdSpeech_30 ?_
  refine z_iload_n C 0 dX0_holdSpeech_33 rfl rfl ?_
  obtain ⟨x14_, h15_, hf⟩ := ob hf
  refine z_rmd C h15_ dX0_holdSpeech_34 ?_
  refine z_ist C dX0_holdSpeech_35 rfl (Nat.le_of_ble_eq_true rfl) rfl ?_
  refine z_iconst (v := 0) C dX0_holdSpeech_37 ic_0 ?_
  refine z_ist C dX0_holdSpeech_38 rfl (Nat.le_of_ble_eq_true rfl) rfl ?_
  refine Z.sub [4, 5, 3, 2, 1, 0] rfl ?_
  obtain ⟨y16_, h17_, hf⟩ := ob hf
  suffices K18_ : Z Θ 6 0 0 (zQ Θ ρ) y16_.2.2 79 [(0, .ref (zA Θ 13)), (1, .ref (zA Θ village_a)), (2, .int runners1_), (3, .int running3_), (4, .int y16_.1), (5, .int y16_.2.1)] [] by
    refine loop3_Z (P := fun (place22_ : Int32) (r23_ : Int32) (σ24_ : St) => Z Θ 6 0 0 (zQ Θ ρ) σ24_ 40 [(0, .ref (zA Θ 13)), (1, .ref (zA Θ village_a)), (2, .int runners1_), (3, .int running3_), (4, .int place22_), (5, .int r23_)] []) ?_ fuelN x14_ (0 : Int32) x12_.2 h17_
    clear h17_
    intro rec19_ place22_ r23_ σ24_ h20_ h21_
    have K27_ : r23_ < (σ24_ village_a 8) → Z Θ 6 0 0 (zQ Θ ρ) σ24_ 49 [(0, .ref (zA Θ 13)), (1, .ref (zA Θ village_a)), (2, .int runners1_), (3, .int running3_), (4, .int place22_), (5, .int r23_)] [] := by
      intro h30_
      rw [if_pos h30_] at h21_
      obtain ⟨y31_, h32_, h21_⟩ := ob h21_
      suffices K33_ : Z Θ 6 0 0 (zQ Θ ρ) y31_.2 73 [(0, .ref (zA Θ 13)), (1, .ref (zA Θ village_a)), (2, .int runners1_), (3, .int running3_), (4, .int y31_.1), (5, .int r23_)] [] by
        have K34_ : q11_isIn runners1_ r23_ = true → Z Θ 6 0 0 (zQ Θ ρ) σ24_ 58 [(0, .ref (zA Θ 13)), (1, .ref (zA Θ village_a)), (2, .int runners1_), (3, .int running3_), (4, .int place22_), (5, .int r23_)] [] := by
          intro h37_
          rw [if_pos h37_] at h32_
          obtain ⟨y38_, h39_, h32_⟩ := ob h32_
          suffices K40_ : Z Θ 6 0 0 (zQ Θ ρ) y38_ 70 [(0, .ref (zA Θ 13)), (1, .ref (zA Θ village_a)), (2, .int runners1_), (3, .int running3_), (4, .int place22_), (5, .int r23_)] [] by
            have K41_ : place22_ = 0 → Z Θ 6 0 0 (zQ Θ ρ) σ24_ 63 [(0, .ref (zA Θ 13)), (1, .ref (zA Θ village_a)), (2, .int runners1_), (3, .int running3_), (4, .int place22_), (5, .int r23_)] [] := by
              intro h44_
              rw [if_pos h44_] at h39_
              refine z_aload_n C 0 dX0_holdSpeech_63 rfl rfl ?_
              refine z_aload_n C 1 dX0_holdSpeech_64 rfl rfl ?_
              refine z_iload C 5 dX0_holdSpeech_65 rfl ?_
              obtain ⟨x45_, h46_, h39_⟩ := ob h39_
              refine cr0_121 (village_a := village_a) (speaker_a := r23_) C hkd h_village h46_ ⟨(Nat.le_of_ble_eq_true rfl), (Nat.le_of_ble_eq_true rfl)⟩ (Nat.le_of_ble_eq_true rfl) ⟨Nat.zero_le _, Nat.zero_le _⟩ dX0_holdSpeech_67 ?_
              cases h39_
              exact K40_
            have K42_ : ¬ (place22_ = 0) → Z Θ 6 0 0 (zQ Θ ρ) σ24_ 70 [(0, .ref (zA Θ 13)), (1, .ref (zA Θ village_a)), (2, .int runners1_), (3, .int running3_), (4, .int place22_), (5, .int r23_)] [] := by
              intro h44_
              rw [if_neg h44_] at h39_
              cases h39_
              exact K40_
            refine z_iload C 4 dX0_holdSpeech_58 rfl ?_
            refine c0_eq_f C 70 dX0_holdSpeech_60 (by decide) (fun h43_ => ?_) (fun h43_ => ?_)
            · exact K41_ h43_
            · exact K42_ h43_
          obtain ⟨place47_, h48_, h32_⟩ := lt_ h32_
          refine z_inc C 4 dX0_holdSpeech_70 rfl ic_m1 h48_ (Nat.le_of_ble_eq_true rfl) rfl ?_
          cases h32_
          refine Z.sub [1, 2, 3, 4, 0, 5] rfl ?_
          exact K33_
        have K35_ : ¬ (q11_isIn runners1_ r23_ = true) → Z Θ 6 0 0 (zQ Θ ρ) σ24_ 73 [(0, .ref (zA Θ 13)), (1, .ref (zA Θ village_a)), (2, .int runners1_), (3, .int running3_), (4, .int place22_), (5, .int r23_)] [] := by
          intro h37_
          rw [if_neg h37_] at h32_
          cases h32_
          exact K33_
        refine z_iload_n C 2 dX0_holdSpeech_49 rfl rfl ?_
        refine z_iload C 5 dX0_holdSpeech_50 rfl ?_
        refine cr0_63 (set_a := runners1_) (person_a := r23_) C hkd  ⟨(Nat.le_of_ble_eq_true rfl), (Nat.le_of_ble_eq_true rfl)⟩ (Nat.le_of_ble_eq_true rfl) ⟨Nat.zero_le _, Nat.zero_le _⟩ dX0_holdSpeech_52 ?_
        refine cb_f C 73 dX0_holdSpeech_55 (by decide) (fun h36_ => ?_) (fun h36_ => ?_)
        · exact K34_ h36_
        · exact K35_ h36_
      obtain ⟨r49_, h50_, h21_⟩ := lt_ h21_
      refine z_inc C 5 dX0_holdSpeech_73 rfl ic_1 h50_ (Nat.le_of_ble_eq_true rfl) rfl ?_
      refine z_goto C 40 dX0_holdSpeech_76 (by decide) ?_
      refine Z.sub [1, 2, 3, 4, 5, 0] rfl ?_
      exact h20_ _ _ _ h21_
    have K28_ : ¬ (r23_ < (σ24_ village_a 8)) → Z Θ 6 0 0 (zQ Θ ρ) σ24_ 79 [(0, .ref (zA Θ 13)), (1, .ref (zA Θ village_a)), (2, .int runners1_), (3, .int running3_), (4, .int place22_), (5, .int r23_)] [] := by
      intro h30_
      rw [if_neg h30_] at h21_
      cases h21_
      exact K18_
    refine z_iload C 5 dX0_holdSpeech_40 rfl ?_
    refine z_aload_n C 1 dX0_holdSpeech_42 rfl rfl ?_
    refine fg0_54 C hkd h_village dX0_holdSpeech_43 ?_
    refine c_lt_f C 79 dX0_holdSpeech_46 (by decide) (fun h29_ => ?_) (fun h29_ => ?_)
    · exact K27_ h29_
    · exact K28_ h29_
  cases hf
  subst hρ
  exact z_vret C dX0_holdSpeech_79
theorem c0_holdSpeech {l : Launch} {kd : List KD} {w : Wp} {σ : St} {village_a : Nat} (hkd : kd = kdC) (hi : zI kd w) (h_village : isV village_a) {r : St} (hf : q0_holdSpeech σ village_a = some r) : zM l kd w yX0_holdSpeech cX0_holdSpeech 6 none rm0_holdSpeech [.ref (w.2.2.1 13), .ref (w.2.2.1 village_a)] σ (none, r) := zM_of rfl hi (Nat.le_of_ble_eq_true rfl) (fun Θ hl hw C => by
  obtain ⟨Θ1, Θ2, Θ3, Θ4, Θ5⟩ := Θ
  cases hw
  exact p0_holdSpeech C hkd h_village hf rfl)

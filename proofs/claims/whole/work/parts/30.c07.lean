/-! LastLoaf$Baker.holdSpeech -/
theorem w_3_216 : Cond.methodLink "LastLoaf$Baker" (110 : Nat) ({ cls := "java/lang/Integer", name := "bitCount", desc := "(I)I" } : MethodName) ∈ TB := tb_in (lwt_3 (List.mem_of_getElem? (i := 216) (by decide +kernel))) rfl
theorem w_3_220 : Cond.code ({ cls := "LastLoaf$Village", name := "draw", desc := "()I" } : MethodName) prog_12_method_10_code (1 : Nat) (Option.some ClassFile.FieldType.int) ∈ TB := tb_in (lwt_3 (List.mem_of_getElem? (i := 220) (by decide +kernel))) rfl
theorem w_3_217 : Cond.methodLink "LastLoaf$Baker" (115 : Nat) ({ cls := "LastLoaf$Village", name := "draw", desc := "()I" } : MethodName) ∈ TB := tb_in (lwt_3 (List.mem_of_getElem? (i := 217) (by decide +kernel))) rfl
theorem w_3_218 : Cond.instanceMethod ({ cls := "LastLoaf$Village", name := "draw", desc := "()I" } : MethodName) ∈ TB := tb_in (lwt_3 (List.mem_of_getElem? (i := 218) (by decide +kernel))) rfl
theorem w_3_219 : Cond.selects "LastLoaf$Village" ({ cls := "LastLoaf$Village", name := "draw", desc := "()I" } : MethodName) ({ cls := "LastLoaf$Village", name := "draw", desc := "()I" } : MethodName) ∈ TB := tb_in (lwt_3 (List.mem_of_getElem? (i := 219) (by decide +kernel))) rfl
theorem cr0_115 {Θ : Tz} {cc : ByteArray} {nL kc ks : Nat} {ret : Option FieldType} {rm : Room} {Q : State → Prop} {σ : St} {pc : Nat} {lv : List (Nat × Value)} {st : List Value} (C : Zc Θ cc nL RX0 ret rm) (hkd : Θ.2.2.2.2.1 = kdC) {th : Nat} (hth : isV th) {r : Int32 × St} (hx : q10_draw σ th = some r) (hrm : rm10_draw.frames + 1 ≤ rm.frames ∧ 8 + (1 + 11) + rm10_draw.locals ≤ rm.locals) (hcat : (st.map fun v => v.category).sum ≤ 8) (hk : kc ≤ rm.cells ∧ ks ≤ rm.slots) (hd : decode cc pc = .ok (.invokevirtual 115, 3)) (kk : Z Θ nL kc ks Q r.2 (pc + 3) lv (.int r.1 :: st)) : Z Θ nL kc ks Q σ pc lv (.ref (zA Θ th) :: st) := z_callV C th [] (some (.int r.1), r.2) 0 (kV_0 hkd hth) rfl (c10_draw (th := th) hkd (zc_inj C) hth hx) w_3_220 w_3_217 w_3_218 w_3_219 w_1_3 ⟨rfl, rfl, hrm.1, hrm.2⟩ (by decide +kernel) rfl rfl hcat hk hd kk
theorem w_1_158 : Cond.fieldLink "LastLoaf$Baker" (118 : Nat) "LastLoaf$Village" "speech" "I" ∈ TB := tb_in (lwt_1 (List.mem_of_getElem? (i := 158) (by decide +kernel))) rfl
theorem fg0_118 {Θ : Tz} {cc : ByteArray} {nL kc ks : Nat} {ret : Option FieldType} {rm : Room} {Q : State → Prop} {σ : St} {pc : Nat} {lv : List (Nat × Value)} {st : List Value} (C : Zc Θ cc nL RX0 ret rm) (hkd : Θ.2.2.2.2.1 = kdC) {th : Nat} (hth : isV th) (hd : decode cc pc = .ok (.getfield 118, 3)) (kk : Z Θ nL kc ks Q σ (pc + 3) lv (.int (σ th 14) :: st)) : Z Θ nL kc ks Q σ pc lv (.ref (zA Θ th) :: st) := z_get C inT10 th (kV_0 hkd hth) rfl 14 (by decide) w_1_158 rfl hd kk
theorem w_3_225 : Cond.code ({ cls := "LastLoaf$Baker", name := "warmAll", desc := "(LLastLoaf$Village;I)V" } : MethodName) prog_2_method_7_code (4 : Nat) (Option.none : Option ClassFile.FieldType) ∈ TB := tb_in (lwt_3 (List.mem_of_getElem? (i := 225) (by decide +kernel))) rfl
theorem w_1_10 : Cond.initialized "LastLoaf$Baker" ∈ TB := tb_in (lwt_1 (List.mem_of_getElem? (i := 10) (by decide +kernel))) rfl
theorem w_3_222 : Cond.methodLink "LastLoaf$Baker" (121 : Nat) ({ cls := "LastLoaf$Baker", name := "warmAll", desc := "(LLastLoaf$Village;I)V" } : MethodName) ∈ TB := tb_in (lwt_3 (List.mem_of_getElem? (i := 222) (by decide +kernel))) rfl
theorem w_3_223 : Cond.instanceMethod ({ cls := "LastLoaf$Baker", name := "warmAll", desc := "(LLastLoaf$Village;I)V" } : MethodName) ∈ TB := tb_in (lwt_3 (List.mem_of_getElem? (i := 223) (by decide +kernel))) rfl
theorem w_3_224 : Cond.selects "LastLoaf$Baker" ({ cls := "LastLoaf$Baker", name := "warmAll", desc := "(LLastLoaf$Village;I)V" } : MethodName) ({ cls := "LastLoaf$Baker", name := "warmAll", desc := "(LLastLoaf$Village;I)V" } : MethodName) ∈ TB := tb_in (lwt_3 (List.mem_of_getElem? (i := 224) (by decide +kernel))) rfl
theorem cr0_121 {Θ : Tz} {cc : ByteArray} {nL kc ks : Nat} {ret : Option FieldType} {rm : Room} {Q : State → Prop} {σ : St} {pc : Nat} {lv : List (Nat × Value)} {st : List Value} (C : Zc Θ cc nL RX0 ret rm) (hkd : Θ.2.2.2.2.1 = kdC) {village_a : Nat} {speaker_a : Int32} (h_village : isV village_a) {r : St} (hx : q0_warmAll σ village_a speaker_a = some r) (hrm : rm0_warmAll.frames + 1 ≤ rm.frames ∧ 8 + (4 + 11) + rm0_warmAll.locals ≤ rm.locals) (hcat : (st.map fun v => v.category).sum ≤ 8) (hk : kc ≤ rm.cells ∧ ks ≤ rm.slots) (hd : decode cc pc = .ok (.invokevirtual 121, 3)) (kk : Z Θ nL kc ks Q r (pc + 3) lv st) : Z Θ nL kc ks Q σ pc lv (.int speaker_a :: .ref (zA Θ village_a) :: .ref (zA Θ 13) :: st) := z_callV C 13 [.ref (zA Θ village_a), .int speaker_a] (none, r) 2 (kC_13 hkd) rfl (c0_warmAll (village_a := village_a) (speaker_a := speaker_a) hkd (zc_inj C) h_village hx) w_3_225 w_3_222 w_3_223 w_3_224 w_1_10 ⟨rfl, rfl, hrm.1, hrm.2⟩ (by decide +kernel) rfl rfl hcat hk hd kk
theorem dX0_holdSpeech_0 : decode cX0_holdSpeech 0 = .ok (.aload_n 1, 1) := by decide +kernel
theorem dX0_holdSpeech_1 : decode cX0_holdSpeech 1 = .ok (.invokevirtual 90, 3) := by decide +kernel
theorem dX0_holdSpeech_4 : decode cX0_holdSpeech 4 = .ok (.istore_n 2, 1) := by decide +kernel
theorem dX0_holdSpeech_5 : decode cX0_holdSpeech 5 = .ok (.iload_n 2, 1) := by decide +kernel
theorem dX0_holdSpeech_6 : decode cX0_holdSpeech 6 = .ok (.invokestatic 110, 3) := by decide +kernel
theorem dX0_holdSpeech_9 : decode cX0_holdSpeech 9 = .ok (.istore_n 3, 1) := by decide +kernel
theorem dX0_holdSpeech_10 : decode cX0_holdSpeech 10 = .ok (.aload_n 1, 1) := by decide +kernel
theorem dX0_holdSpeech_11 : decode cX0_holdSpeech 11 = .ok (.invokevirtual 115, 3) := by decide +kernel
theorem dX0_holdSpeech_14 : decode cX0_holdSpeech 14 = .ok (.bipush 100, 2) := by decide +kernel
theorem dX0_holdSpeech_16 : decode cX0_holdSpeech 16 = .ok (.irem, 1) := by decide +kernel
theorem dX0_holdSpeech_17 : decode cX0_holdSpeech 17 = .ok (.aload_n 1, 1) := by decide +kernel
theorem dX0_holdSpeech_18 : decode cX0_holdSpeech 18 = .ok (.getfield 118, 3) := by decide +kernel
theorem dX0_holdSpeech_21 : decode cX0_holdSpeech 21 = .ok (.if_icmp .ge 7, 3) := by decide +kernel
theorem dX0_holdSpeech_24 : decode cX0_holdSpeech 24 = .ok (.iload_n 3, 1) := by decide +kernel
theorem dX0_holdSpeech_25 : decode cX0_holdSpeech 25 = .ok (.ifCond .ne 4, 3) := by decide +kernel
theorem dX0_holdSpeech_28 : decode cX0_holdSpeech 28 = .ok (.return_, 1) := by decide +kernel
theorem dX0_holdSpeech_29 : decode cX0_holdSpeech 29 = .ok (.aload_n 1, 1) := by decide +kernel
theorem dX0_holdSpeech_30 : decode cX0_holdSpeech 30 = .ok (.invokevirtual 115, 3) := by decide +kernel
theorem dX0_holdSpeech_33 : decode cX0_holdSpeech 33 = .ok (.iload_n 3, 1) := by decide +kernel
theorem dX0_holdSpeech_34 : decode cX0_holdSpeech 34 = .ok (.irem, 1) := by decide +kernel
theorem dX0_holdSpeech_35 : decode cX0_holdSpeech 35 = .ok (.istore 4, 2) := by decide +kernel
theorem dX0_holdSpeech_37 : decode cX0_holdSpeech 37 = .ok (.iconst 0, 1) := by decide +kernel
theorem dX0_holdSpeech_38 : decode cX0_holdSpeech 38 = .ok (.istore 5, 2) := by decide +kernel
theorem dX0_holdSpeech_40 : decode cX0_holdSpeech 40 = .ok (.iload 5, 2) := by decide +kernel
theorem dX0_holdSpeech_42 : decode cX0_holdSpeech 42 = .ok (.aload_n 1, 1) := by decide +kernel
theorem dX0_holdSpeech_43 : decode cX0_holdSpeech 43 = .ok (.getfield 54, 3) := by decide +kernel
theorem dX0_holdSpeech_46 : decode cX0_holdSpeech 46 = .ok (.if_icmp .ge 33, 3) := by decide +kernel
theorem dX0_holdSpeech_49 : decode cX0_holdSpeech 49 = .ok (.iload_n 2, 1) := by decide +kernel
theorem dX0_holdSpeech_50 : decode cX0_holdSpeech 50 = .ok (.iload 5, 2) := by decide +kernel
theorem dX0_holdSpeech_52 : decode cX0_holdSpeech 52 = .ok (.invokestatic 63, 3) := by decide +kernel
theorem dX0_holdSpeech_55 : decode cX0_holdSpeech 55 = .ok (.ifCond .eq 18, 3) := by decide +kernel
theorem dX0_holdSpeech_58 : decode cX0_holdSpeech 58 = .ok (.iload 4, 2) := by decide +kernel
theorem dX0_holdSpeech_60 : decode cX0_holdSpeech 60 = .ok (.ifCond .ne 10, 3) := by decide +kernel
theorem dX0_holdSpeech_63 : decode cX0_holdSpeech 63 = .ok (.aload_n 0, 1) := by decide +kernel
theorem dX0_holdSpeech_64 : decode cX0_holdSpeech 64 = .ok (.aload_n 1, 1) := by decide +kernel
theorem dX0_holdSpeech_65 : decode cX0_holdSpeech 65 = .ok (.iload 5, 2) := by decide +kernel
theorem dX0_holdSpeech_67 : decode cX0_holdSpeech 67 = .ok (.invokevirtual 121, 3) := by decide +kernel
theorem dX0_holdSpeech_70 : decode cX0_holdSpeech 70 = .ok (.iinc 4 (-1), 3) := by decide +kernel
theorem dX0_holdSpeech_73 : decode cX0_holdSpeech 73 = .ok (.iinc 5 1, 3) := by decide +kernel
theorem dX0_holdSpeech_76 : decode cX0_holdSpeech 76 = .ok (.goto (-36), 3) := by decide +kernel
theorem dX0_holdSpeech_79 : decode cX0_holdSpeech 79 = .ok (.return_, 1) := by decide +kernel
def q0_holdSpeech (σ : St) (village_a : Nat) : Option St :=
  lt (q10_runners σ village_a) fun runners1_ =>
  lt (bcount runners1_) fun running3_ =>
  Option.bind (q10_draw σ village_a) fun x7_ =>
  if ((x7_.2 village_a 14) ≤ (irm x7_.1 100)) ∨ (running3_ = 0) then (some x7_.2) else
  Option.bind (q10_draw x7_.2 village_a) fun x12_ =>
  Option.bind (rmd x12_.1 running3_) fun x14_ =>
  Option.bind (loop3 (fun rec19_ (place22_ : Int32) (r23_ : Int32) (σ24_ : St) =>
  if r23_ < (σ24_ village_a 8) then
  Option.bind (if q11_isIn runners1_ r23_ = true then (Option.bind (if place22_ = 0 then (Option.bind (q0_warmAll σ24_ village_a r23_) fun x45_ =>
  some (x45_)) else (some (σ24_))) fun y38_ =>
  lt (place22_ + (-1)) fun place47_ =>
  some (place47_, y38_)) else (some (place22_, σ24_))) fun y31_ =>
  lt (r23_ + 1) fun r49_ =>
  rec19_ y31_.1 r49_ y31_.2
  else (some (place22_, r23_, σ24_))) fuelN x14_ (0 : Int32) x12_.2) fun y16_ =>
  some y16_.2.2
abbrev rm0_holdSpeech : Room := { frames := 3, cells := 0, slots := 0, locals := 67 }
set_option maxHeartbeats 4000000 in
set_option maxRecDepth 100000 in
theorem p0_holdSpeech {Θ : Tz} {σ : St} {ρ : Option Value × St} (C : Zc Θ cX0_holdSpeech 6 RX0 none rm0_holdSpeech) (hkd : Θ.2.2.2.2.1 = kdC) {village_a : Nat} (h_village : isV village_a) {r : St} (hf : q0_holdSpeech σ village_a = some r) (hρ : ρ = (none, r)) : Z Θ 6 0 0 (zQ Θ ρ) σ 0 [(0, .ref (zA Θ 13)), (1, .ref (zA Θ village_a))] [] := by
  unfold q0_holdSpeech at hf
  refine z_aload_n C 1 dX0_holdSpeech_0 rfl rfl ?_
  refine cr0_90 (th := village_a) C hkd h_village ⟨(Nat.le_of_ble_eq_true rfl), (Nat.le_of_ble_eq_true rfl)⟩ (Nat.le_of_ble_eq_true rfl) ⟨Nat.zero_le _, Nat.zero_le _⟩ dX0_holdSpeech_1 ?_
  obtain ⟨runners1_, h2_, hf⟩ := lt_ hf
  refine z_istN C dX0_holdSpeech_4 h2_ rfl (Nat.le_of_ble_eq_true rfl) rfl ?_
  refine z_iload_n C 0 dX0_holdSpeech_5 rfl rfl ?_
  refine z_callS C [.int runners1_] (some (.int (bcount runners1_)), σ) 1 (cJ_bitCount (zc_inj C)) w_3_30 w_3_216 w_3_29 w_1_26 ⟨rfl, rfl, (Nat.le_of_ble_eq_true rfl), (Nat.le_of_ble_eq_true rfl)⟩ (by decide +kernel) rfl rfl (Nat.le_of_ble_eq_true rfl) ⟨Nat.zero_le _, Nat.zero_le _⟩ dX0_holdSpeech_6 ?_
  obtain ⟨running3_, h4_, hf⟩ := lt_ hf
  refine z_istN C dX0_holdSpeech_9 h4_ rfl (Nat.le_of_ble_eq_true rfl) rfl ?_
  refine z_aload_n C 3 dX0_holdSpeech_10 rfl rfl ?_
  obtain ⟨x7_, h8_, hf⟩ := ob hf
  refine cr0_115 (th := village_a) C hkd h_village h8_ ⟨(Nat.le_of_ble_eq_true rfl), (Nat.le_of_ble_eq_true rfl)⟩ (Nat.le_of_ble_eq_true rfl) ⟨Nat.zero_le _, Nat.zero_le _⟩ dX0_holdSpeech_11 ?_
  refine z_bipush (v := 100) C dX0_holdSpeech_14 bp_100 ?_
  refine z_irm C (by decide) dX0_holdSpeech_16 ?_
  refine z_aload_n C 3 dX0_holdSpeech_17 rfl rfl ?_
  refine fg0_118 C hkd h_village dX0_holdSpeech_18 ?_
  have K5_ : ((x7_.2 village_a 14) ≤ (irm x7_.1 100)) ∨ (running3_ = 0) → Z Θ 6 0 0 (zQ Θ ρ) x7_.2 28 [(3, .int running3_), (2, .int runners1_), (0, .ref (zA Θ 13)), (1, .ref (zA Θ village_a))] [] := by
    intro h11_
    rw [if_pos h11_] at hf
    cases hf
    subst hρ
    exact z_vret C dX0_holdSpeech_28
  suffices K6_ : ¬ (((x7_.2 village_a 14) ≤ (irm x7_.1 100)) ∨ (running3_ = 0)) → Z Θ 6 0 0 (zQ Θ ρ) x7_.2 29 [(3, .int running3_), (2, .int runners1_), (0, .ref (zA Θ 13)), (1, .ref (zA Θ village_a))] [] by
    refine c_ge_t C 28 dX0_holdSpeech_21 (by decide) (fun h9_ => ?_) (fun h9_ => ?_)
    · exact K5_ (Or.inl h9_)
    · refine z_iload_n C 0 dX0_holdSpeech_24 rfl rfl ?_
      refine c0_eq_f C 29 dX0_holdSpeech_25 (by decide) (fun h10_ => ?_) (fun h10_ => ?_)
      · exact K5_ (Or.inr h10_)
      · exact K6_ (fun n => n.elim h9_ h10_)
  intro h11_
  rw [if_neg h11_] at hf
  refine z_aload_n C 3 dX0_holdSpeech_29 rfl rfl ?_
  obtain ⟨x12_, h13_, hf⟩ := ob hf
  refine cr0_115 (th := village_a) C hkd h_village h13_ ⟨(Nat.le_of_ble_eq_true rfl), (Nat.le_of_ble_eq_true rfl)⟩ (Nat.le_of_ble_eq_true rfl) ⟨Nat.zero_le _, Nat.zero_le _⟩ dX0_holdSpeech_30 ?_
  refine z_iload_n C 0 dX0_holdSpeech_33 rfl rfl ?_
  obtain ⟨x14_, h15_, hf⟩ := ob hf
  refine z_rmd C h15_ dX0_holdSpeech_34 ?_
  refine z_ist C dX0_holdSpeech_35 rfl (Nat.le_of_ble_eq_true rfl) rfl ?_
  refine z_iconst (v := 0) C dX0_holdSpeech_37 ic_0 ?_
  refine z_ist C dX0_holdSpeech_38 rfl (Nat.le_of_ble_eq_true rfl) rfl ?_
  refine Z.sub [4, 5, 3, 2, 1, 0] rfl ?_
  obtain ⟨y16_, h17_, hf⟩ := ob hf
  suffices K18_ : Z Θ 6 0 0 (zQ Θ ρ) y16_.2.2 79 [(0, .ref (zA Θ 13)), (1, .ref (zA Θ village_a)), (2, .int runners1_), (3, .int running3_), (4, .int y16_.1), (5, .int y16_.2.1)] [] by
    refine loop3_Z (P := fun (place22_ : Int32) (r23_ : Int32) (σ24_ : St) => Z Θ 6 0 0 (zQ Θ ρ) σ24_ 40 [(0, .ref (zA Θ 13)), (1, .ref (zA Θ village_a)), (2, .int runners1_), (3, .int running3_), (4, .int place22_), (5, .int r23_)] []) ?_ fuelN x14_ (0 : Int32) x12_.2 h17_
    clear h17_
    intro rec19_ place22_ r23_ σ24_ h20_ h21_
    have K27_ : r23_ < (σ24_ village_a 8) → Z Θ 6 0 0 (zQ Θ ρ) σ24_ 49 [(0, .ref (zA Θ 13)), (1, .ref (zA Θ village_a)), (2, .int runners1_), (3, .int running3_), (4, .int place22_), (5, .int r23_)] [] := by
      intro h30_
      rw [if_pos h30_] at h21_
      obtain ⟨y31_, h32_, h21_⟩ := ob h21_
      suffices K33_ : Z Θ 6 0 0 (zQ Θ ρ) y31_.2 73 [(0, .ref (zA Θ 13)), (1, .ref (zA Θ village_a)), (2, .int runners1_), (3, .int running3_), (4, .int y31_.1), (5, .int r23_)] [] by
        have K34_ : q11_isIn runners1_ r23_ = true → Z Θ 6 0 0 (zQ Θ ρ) σ24_ 58 [(0, .ref (zA Θ 13)), (1, .ref (zA Θ village_a)), (2, .int runners1_), (3, .int running3_), (4, .int place22_), (5, .int r23_)] [] := by
          intro h37_
          rw [if_pos h37_] at h32_
          obtain ⟨y38_, h39_, h32_⟩ := ob h32_
          suffices K40_ : Z Θ 6 0 0 (zQ Θ ρ) y38_ 70 [(0, .ref (zA Θ 13)), (1, .ref (zA Θ village_a)), (2, .int runners1_), (3, .int running3_), (4, .int place22_), (5, .int r23_)] [] by
            have K41_ : place22_ = 0 → Z Θ 6 0 0 (zQ Θ ρ) σ24_ 63 [(0, .ref (zA Θ 13)), (1, .ref (zA Θ village_a)), (2, .int runners1_), (3, .int running3_), (4, .int place22_), (5, .int r23_)] [] := by
              intro h44_
              rw [if_pos h44_] at h39_
              refine z_aload_n C 0 dX0_holdSpeech_63 rfl rfl ?_
              refine z_aload_n C 1 dX0_holdSpeech_64 rfl rfl ?_
              refine z_iload C 5 dX0_holdSpeech_65 rfl ?_
              obtain ⟨x45_, h46_, h39_⟩ := ob h39_
              refine cr0_121 (village_a := village_a) (speaker_a := r23_) C hkd h_village h46_ ⟨(Nat.le_of_ble_eq_true rfl), (Nat.le_of_ble_eq_true rfl)⟩ (Nat.le_of_ble_eq_true rfl) ⟨Nat.zero_le _, Nat.zero_le _⟩ dX0_holdSpeech_67 ?_
              cases h39_
              exact K40_
            have K42_ : ¬ (place22_ = 0) → Z Θ 6 0 0 (zQ Θ ρ) σ24_ 70 [(0, .ref (zA Θ 13)), (1, .ref (zA Θ village_a)), (2, .int runners1_), (3, .int running3_), (4, .int place22_), (5, .int r23_)] [] := by
              intro h44_
              rw [if_neg h44_] at h39_
              cases h39_
              exact K40_
            refine z_iload C 4 dX0_holdSpeech_58 rfl ?_
            refine c0_eq_f C 70 dX0_holdSpeech_60 (by decide) (fun h43_ => ?_) (fun h43_ => ?_)
            · exact K41_ h43_
            · exact K42_ h43_
          obtain ⟨place47_, h48_, h32_⟩ := lt_ h32_
          refine z_inc C 4 dX0_holdSpeech_70 rfl ic_m1 h48_ (Nat.le_of_ble_eq_true rfl) rfl ?_
          cases h32_
          refine Z.sub [1, 2, 3, 4, 0, 5] rfl ?_
          exact K33_
        have K35_ : ¬ (q11_isIn runners1_ r23_ = true) → Z Θ 6 0 0 (zQ Θ ρ) σ24_ 73 [(0, .ref (zA Θ 13)), (1, .ref (zA Θ village_a)), (2, .int runners1_), (3, .int running3_), (4, .int place22_), (5, .int r23_)] [] := by
          intro h37_
          rw [if_neg h37_] at h32_
          cases h32_
          exact K33_
        refine z_iload_n C 2 dX0_holdSpeech_49 rfl rfl ?_
        refine z_iload C 5 dX0_holdSpeech_50 rfl ?_
        refine cr0_63 (set_a := runners1_) (person_a := r23_) C hkd  ⟨(Nat.le_of_ble_eq_true rfl), (Nat.le_of_ble_eq_true rfl)⟩ (Nat.le_of_ble_eq_true rfl) ⟨Nat.zero_le _, Nat.zero_le _⟩ dX0_holdSpeech_52 ?_
        refine cb_f C 73 dX0_holdSpeech_55 (by decide) (fun h36_ => ?_) (fun h36_ => ?_)
        · exact K34_ h36_
        · exact K35_ h36_
      obtain ⟨r49_, h50_, h21_⟩ := lt_ h21_
      refine z_inc C 5 dX0_holdSpeech_73 rfl ic_1 h50_ (Nat.le_of_ble_eq_true rfl) rfl ?_
      refine z_goto C 40 dX0_holdSpeech_76 (by decide) ?_
      refine Z.sub [1, 2, 3, 4, 5, 0] rfl ?_
      exact h20_ _ _ _ h21_
    have K28_ : ¬ (r23_ < (σ24_ village_a 8)) → Z Θ 6 0 0 (zQ Θ ρ) σ24_ 79 [(0, .ref (zA Θ 13)), (1, .ref (zA Θ village_a)), (2, .int runners1_), (3, .int running3_), (4, .int place22_), (5, .int r23_)] [] := by
      intro h30_
      rw [if_neg h30_] at h21_
      cases h21_
      exact K18_
    refine z_iload C 5 dX0_holdSpeech_40 rfl ?_
    refine z_aload_n C 1 dX0_holdSpeech_42 rfl rfl ?_
    refine fg0_54 C hkd h_village dX0_holdSpeech_43 ?_
    refine c_lt_f C 79 dX0_holdSpeech_46 (by decide) (fun h29_ => ?_) (fun h29_ => ?_)
    · exact K27_ h29_
    · exact K28_ h29_
  cases hf
  subst hρ
  exact z_vret C dX0_holdSpeech_79
theorem c0_holdSpeech {l : Launch} {kd : List KD} {w : Wp} {σ : St} {village_a : Nat} (hkd : kd = kdC) (hi : zI kd w) (h_village : isV village_a) {r : St} (hf : q0_holdSpeech σ village_a = some r) : zM l kd w yX0_holdSpeech cX0_holdSpeech 6 none rm0_holdSpeech [.ref (w.2.2.1 13), .ref (w.2.2.1 village_a)] σ (none, r) := zM_of rfl hi (Nat.le_of_ble_eq_true rfl) (fun Θ hl hw C => by
  obtain ⟨Θ1, Θ2, Θ3, Θ4, Θ5⟩ := Θ
  cases hw
  exact p0_holdSpeech C hkd h_village hf rfl)
/-! LastLoaf$Baker.seatStarved -/
theorem fp0_60 {Θ : Tz} {cc : ByteArray} {nL kc ks : Nat} {ret : Option FieldType} {rm : Room} {Q : State → Prop} {σ : St} {pc : Nat} {lv : List (Nat × Value)} {st : List Value} (C : Zc Θ cc nL RX0 ret rm) (hkd : Θ.2.2.2.2.1 = kdC) {th : Nat} (hth : isV th) {x : Int32} {σ1 : St} (he : σ1 = up σ th 10 x) (hd : decode cc pc = .ok (.putfield 60, 3)) (kk : Z Θ nL kc ks Q σ1 (pc + 3) lv st) : Z Θ nL kc ks Q σ pc lv (.int x :: .ref (zA Θ th) :: st) := by subst he; exact z_put C inT10 tyX10_ok nmX10 th (kV_0 hkd hth) rfl 10 (by decide) w_1_140 rfl rfl rfl rfl hd kk
theorem dX0_seatStarved_0 : decode cX0_seatStarved 0 = .ok (.iconst 0, 1) := by decide +kernel
theorem dX0_seatStarved_1 : decode cX0_seatStarved 1 = .ok (.istore_n 2, 1) := by decide +kernel
theorem dX0_seatStarved_2 : decode cX0_seatStarved 2 = .ok (.iload_n 2, 1) := by decide +kernel
theorem dX0_seatStarved_3 : decode cX0_seatStarved 3 = .ok (.aload_n 1, 1) := by decide +kernel
theorem dX0_seatStarved_4 : decode cX0_seatStarved 4 = .ok (.getfield 54, 3) := by decide +kernel
theorem dX0_seatStarved_7 : decode cX0_seatStarved 7 = .ok (.if_icmp .ge 57, 3) := by decide +kernel
theorem dX0_seatStarved_10 : decode cX0_seatStarved 10 = .ok (.aload_n 1, 1) := by decide +kernel
theorem dX0_seatStarved_11 : decode cX0_seatStarved 11 = .ok (.getfield 60, 3) := by decide +kernel
theorem dX0_seatStarved_14 : decode cX0_seatStarved 14 = .ok (.iload_n 2, 1) := by decide +kernel
theorem dX0_seatStarved_15 : decode cX0_seatStarved 15 = .ok (.invokestatic 63, 3) := by decide +kernel
theorem dX0_seatStarved_18 : decode cX0_seatStarved 18 = .ok (.ifCond .ne 40, 3) := by decide +kernel
theorem dX0_seatStarved_21 : decode cX0_seatStarved 21 = .ok (.aload_n 1, 1) := by decide +kernel
theorem dX0_seatStarved_22 : decode cX0_seatStarved 22 = .ok (.getfield 67, 3) := by decide +kernel
theorem dX0_seatStarved_25 : decode cX0_seatStarved 25 = .ok (.iload_n 2, 1) := by decide +kernel
theorem dX0_seatStarved_26 : decode cX0_seatStarved 26 = .ok (.iaload, 1) := by decide +kernel
theorem dX0_seatStarved_27 : decode cX0_seatStarved 27 = .ok (.bipush 9, 2) := by decide +kernel
theorem dX0_seatStarved_29 : decode cX0_seatStarved 29 = .ok (.if_icmp .ne 29, 3) := by decide +kernel
theorem dX0_seatStarved_32 : decode cX0_seatStarved 32 = .ok (.aload_n 1, 1) := by decide +kernel
theorem dX0_seatStarved_33 : decode cX0_seatStarved 33 = .ok (.dup, 1) := by decide +kernel
theorem dX0_seatStarved_34 : decode cX0_seatStarved 34 = .ok (.getfield 60, 3) := by decide +kernel
theorem dX0_seatStarved_37 : decode cX0_seatStarved 37 = .ok (.iconst 1, 1) := by decide +kernel
theorem dX0_seatStarved_38 : decode cX0_seatStarved 38 = .ok (.iload_n 2, 1) := by decide +kernel
theorem dX0_seatStarved_39 : decode cX0_seatStarved 39 = .ok (.ishl, 1) := by decide +kernel
theorem dX0_seatStarved_40 : decode cX0_seatStarved 40 = .ok (.ior, 1) := by decide +kernel
theorem dX0_seatStarved_41 : decode cX0_seatStarved 41 = .ok (.putfield 60, 3) := by decide +kernel
theorem dX0_seatStarved_44 : decode cX0_seatStarved 44 = .ok (.aload_n 1, 1) := by decide +kernel
theorem dX0_seatStarved_45 : decode cX0_seatStarved 45 = .ok (.getfield 97, 3) := by decide +kernel
theorem dX0_seatStarved_48 : decode cX0_seatStarved 48 = .ok (.aload_n 1, 1) := by decide +kernel
theorem dX0_seatStarved_49 : decode cX0_seatStarved 49 = .ok (.getfield 19, 3) := by decide +kernel
theorem dX0_seatStarved_52 : decode cX0_seatStarved 52 = .ok (.iconst 1, 1) := by decide +kernel
theorem dX0_seatStarved_53 : decode cX0_seatStarved 53 = .ok (.iload_n 2, 1) := by decide +kernel
theorem dX0_seatStarved_54 : decode cX0_seatStarved 54 = .ok (.iconst 0, 1) := by decide +kernel
theorem dX0_seatStarved_55 : decode cX0_seatStarved 55 = .ok (.invokevirtual 104, 3) := by decide +kernel
theorem dX0_seatStarved_58 : decode cX0_seatStarved 58 = .ok (.iinc 2 1, 3) := by decide +kernel
theorem dX0_seatStarved_61 : decode cX0_seatStarved 61 = .ok (.goto (-59), 3) := by decide +kernel
theorem dX0_seatStarved_64 : decode cX0_seatStarved 64 = .ok (.return_, 1) := by decide +kernel
def q0_seatStarved (σ : St) (village_a : Nat) : Option St :=
  Option.bind (loop2 (fun rec4_ (p7_ : Int32) (σ8_ : St) =>
  if p7_ < (σ8_ village_a 8) then
  Option.bind (Option.bind (if q11_isIn (σ8_ village_a 10) p7_ = true then (some false) else (Option.bind (ag σ8_ (village_a + 1) 6 p7_) fun x23_ =>
  if x23_ = 9 then (some true) else (some false))) fun t20_ =>
  if t20_ = true then (lt (up σ8_ village_a 10 ((σ8_ village_a 10) ||| (shl 1 p7_))) fun σ27_ =>
  Option.bind (q3_write σ27_ (village_a + 8) (σ27_ village_a 12) 1 p7_ 0) fun x29_ =>
  some (x29_)) else (some (σ8_))) fun y15_ =>
  lt (p7_ + 1) fun p31_ =>
  rec4_ p31_ y15_
  else (some (p7_, σ8_))) fuelN (0 : Int32) σ) fun y1_ =>
  some y1_.2
abbrev rm0_seatStarved : Room := { frames := 2, cells := 0, slots := 0, locals := 46 }
set_option maxHeartbeats 4000000 in
set_option maxRecDepth 100000 in
theorem p0_seatStarved {Θ : Tz} {σ : St} {ρ : Option Value × St} (C : Zc Θ cX0_seatStarved 3 RX0 none rm0_seatStarved) (hkd : Θ.2.2.2.2.1 = kdC) {village_a : Nat} (h_village : isV village_a) {r : St} (hf : q0_seatStarved σ village_a = some r) (hρ : ρ = (none, r)) : Z Θ 3 0 0 (zQ Θ ρ) σ 0 [(0, .ref (zA Θ 13)), (1, .ref (zA Θ village_a))] [] := by
  unfold q0_seatStarved at hf
  refine z_iconst (v := 0) C dX0_seatStarved_0 ic_0 ?_
  refine z_istN C dX0_seatStarved_1 rfl rfl (Nat.le_of_ble_eq_true rfl) rfl ?_
  refine Z.sub [1, 2, 0] rfl ?_
  obtain ⟨y1_, h2_, hf⟩ := ob hf
  suffices K3_ : Z Θ 3 0 0 (zQ Θ ρ) y1_.2 64 [(0, .ref (zA Θ 13)), (1, .ref (zA Θ village_a)), (2, .int y1_.1)] [] by
    refine loop2_Z (P := fun (p7_ : Int32) (σ8_ : St) => Z Θ 3 0 0 (zQ Θ ρ) σ8_ 2 [(0, .ref (zA Θ 13)), (1, .ref (zA Θ village_a)), (2, .int p7_)] []) ?_ fuelN (0 : Int32) σ h2_
    clear h2_
    intro rec4_ p7_ σ8_ h5_ h6_
    have K11_ : p7_ < (σ8_ village_a 8) → Z Θ 3 0 0 (zQ Θ ρ) σ8_ 10 [(0, .ref (zA Θ 13)), (1, .ref (zA Θ village_a)), (2, .int p7_)] [] := by
      intro h14_
      rw [if_pos h14_] at h6_
      obtain ⟨y15_, h16_, h6_⟩ := ob h6_
      suffices K17_ : Z Θ 3 0 0 (zQ Θ ρ) y15_ 58 [(0, .ref (zA Θ 13)), (1, .ref (zA Θ village_a)), (2, .int p7_)] [] by
        obtain ⟨t20_, h21_, h16_⟩ := ob h16_
        have K18_ : t20_ = true → Z Θ 3 0 0 (zQ Θ ρ) σ8_ 32 [(0, .ref (zA Θ 13)), (1, .ref (zA Θ village_a)), (2, .int p7_)] [] := by
          intro h26_
          rw [if_pos h26_] at h16_
          refine z_aload_n C 1 dX0_seatStarved_32 rfl rfl ?_
          refine z_dup C dX0_seatStarved_33 rfl ?_
          refine fg0_60 C hkd h_village dX0_seatStarved_34 ?_
          refine z_iconst (v := 1) C dX0_seatStarved_37 ic_1 ?_
          refine z_iload_n C 2 dX0_seatStarved_38 rfl rfl ?_
          refine z_shl C dX0_seatStarved_39 ?_
          refine z_ior C dX0_seatStarved_40 ?_
          obtain ⟨σ27_, h28_, h16_⟩ := lt_ h16_
          refine fp0_60 C hkd h_village h28_ dX0_seatStarved_41 ?_
          refine z_aload_n C 1 dX0_seatStarved_44 rfl rfl ?_
          refine fg0_97 C hkd h_village dX0_seatStarved_45 ?_
          refine z_aload_n C 1 dX0_seatStarved_48 rfl rfl ?_
          refine fg0_19 C hkd h_village dX0_seatStarved_49 ?_
          refine z_iconst (v := 1) C dX0_seatStarved_52 ic_1 ?_
          refine z_iload_n C 2 dX0_seatStarved_53 rfl rfl ?_
          refine z_iconst (v := 0) C dX0_seatStarved_54 ic_0 ?_
          obtain ⟨x29_, h30_, h16_⟩ := ob h16_
          refine cr0_104 (th := (village_a + 8)) (week_a := (σ27_ village_a 12)) (kind_a := 1) (person_a := p7_) (votes_a := 0) C hkd (isLog_of h_village) h30_ ⟨(Nat.le_of_ble_eq_true rfl), (Nat.le_of_ble_eq_true rfl)⟩ (Nat.le_of_ble_eq_true rfl) ⟨Nat.zero_le _, Nat.zero_le _⟩ dX0_seatStarved_55 ?_
          cases h16_
          exact K17_
        have K19_ : ¬ (t20_ = true) → Z Θ 3 0 0 (zQ Θ ρ) σ8_ 58 [(0, .ref (zA Θ 13)), (1, .ref (zA Θ village_a)), (2, .int p7_)] [] := by
          intro h26_
          rw [if_neg h26_] at h16_
          cases h16_
          exact K17_
        refine z_aload_n C 1 dX0_seatStarved_10 rfl rfl ?_
        refine fg0_60 C hkd h_village dX0_seatStarved_11 ?_
        refine z_iload_n C 2 dX0_seatStarved_14 rfl rfl ?_
        refine cr0_63 (set_a := (σ8_ village_a 10)) (person_a := p7_) C hkd  ⟨(Nat.le_of_ble_eq_true rfl), (Nat.le_of_ble_eq_true rfl)⟩ (Nat.le_of_ble_eq_true rfl) ⟨Nat.zero_le _, Nat.zero_le _⟩ dX0_seatStarved_15 ?_
        refine cb_t C 58 dX0_seatStarved_18 (by decide) (fun h22_ => ?_) (fun h22_ => ?_)
        · rw [if_pos h22_] at h21_
          cases h21_
          exact K19_ Bool.false_ne_true
        · rw [if_neg h22_] at h21_
          refine z_aload_n C 1 dX0_seatStarved_21 rfl rfl ?_
          refine fg0_67 C hkd h_village dX0_seatStarved_22 ?_
          refine z_iload_n C 2 dX0_seatStarved_25 rfl rfl ?_
          obtain ⟨x23_, h24_, h21_⟩ := ob h21_
          refine z_ag C h24_ (kV_1 hkd h_village) dX0_seatStarved_26 ?_
          refine z_bipush (v := 9) C dX0_seatStarved_27 bp_9 ?_
          refine c_eq_f C 58 dX0_seatStarved_29 (by decide) (fun h25_ => ?_) (fun h25_ => ?_)
          · rw [if_pos h25_] at h21_
            cases h21_
            exact K18_ rfl
          · rw [if_neg h25_] at h21_
            cases h21_
            exact K19_ Bool.false_ne_true
      obtain ⟨p31_, h32_, h6_⟩ := lt_ h6_
      refine z_inc C 2 dX0_seatStarved_58 rfl ic_1 h32_ (Nat.le_of_ble_eq_true rfl) rfl ?_
      refine z_goto C 2 dX0_seatStarved_61 (by decide) ?_
      refine Z.sub [1, 2, 0] rfl ?_
      exact h5_ _ _ h6_
    have K12_ : ¬ (p7_ < (σ8_ village_a 8)) → Z Θ 3 0 0 (zQ Θ ρ) σ8_ 64 [(0, .ref (zA Θ 13)), (1, .ref (zA Θ village_a)), (2, .int p7_)] [] := by
      intro h14_
      rw [if_neg h14_] at h6_
      cases h6_
      exact K3_
    refine z_iload_n C 2 dX0_seatStarved_2 rfl rfl ?_
    refine z_aload_n C 1 dX0_seatStarved_3 rfl rfl ?_
    refine fg0_54 C hkd h_village dX0_seatStarved_4 ?_
    refine c_lt_f C 64 dX0_seatStarved_7 (by decide) (fun h13_ => ?_) (fun h13_ => ?_)
    · exact K11_ h13_
    · exact K12_ h13_
  cases hf
  subst hρ
  exact z_vret C dX0_seatStarved_64
theorem c0_seatStarved {l : Launch} {kd : List KD} {w : Wp} {σ : St} {village_a : Nat} (hkd : kd = kdC) (hi : zI kd w) (h_village : isV village_a) {r : St} (hf : q0_seatStarved σ village_a = some r) : zM l kd w yX0_seatStarved cX0_seatStarved 3 none rm0_seatStarved [.ref (w.2.2.1 13), .ref (w.2.2.1 village_a)] σ (none, r) := zM_of rfl hi (Nat.le_of_ble_eq_true rfl) (fun Θ hl hw C => by
  obtain ⟨Θ1, Θ2, Θ3, Θ4, Θ5⟩ := Θ
  cases hw
  exact p0_seatStarved C hkd h_village hf rfl)
/-! LastLoaf$Baker.bakeWeeks -/
theorem w_3_127 : Cond.code ({ cls := "java/lang/Math", name := "floorMod", desc := "(II)I" } : MethodName) prog_23_method_50_code (3 : Nat) (Option.some ClassFile.FieldType.int) ∈ TB := tb_in (lwt_3 (List.mem_of_getElem? (i := 127) (by decide +kernel))) rfl
theorem w_3_125 : Cond.methodLink "LastLoaf$Baker" (25 : Nat) ({ cls := "java/lang/Math", name := "floorMod", desc := "(II)I" } : MethodName) ∈ TB := tb_in (lwt_3 (List.mem_of_getElem? (i := 125) (by decide +kernel))) rfl
theorem w_3_126 : Cond.static ({ cls := "java/lang/Math", name := "floorMod", desc := "(II)I" } : MethodName) ∈ TB := tb_in (lwt_3 (List.mem_of_getElem? (i := 126) (by decide +kernel))) rfl
theorem w_1_116 : Cond.fieldLink "LastLoaf$Baker" (34 : Nat) "LastLoaf$Village" "grist" "[I" ∈ TB := tb_in (lwt_1 (List.mem_of_getElem? (i := 116) (by decide +kernel))) rfl
theorem fg0_34 {Θ : Tz} {cc : ByteArray} {nL kc ks : Nat} {ret : Option FieldType} {rm : Room} {Q : State → Prop} {σ : St} {pc : Nat} {lv : List (Nat × Value)} {st : List Value} (C : Zc Θ cc nL RX0 ret rm) (hkd : Θ.2.2.2.2.1 = kdC) {th : Nat} (hth : isV th) (hd : decode cc pc = .ok (.getfield 34, 3)) (kk : Z Θ nL kc ks Q σ (pc + 3) lv (.ref (zA Θ (th + 7)) :: st)) : Z Θ nL kc ks Q σ pc lv (.ref (zA Θ th) :: st) := z_get C inT10 th (kV_0 hkd hth) rfl 6 (by decide) w_1_116 rfl hd kk
theorem w_3_134 : Cond.code ({ cls := "LastLoaf$Baker", name := "feedOthers", desc := "(LLastLoaf$Village;)V" } : MethodName) prog_2_method_3_code (3 : Nat) (Option.none : Option ClassFile.FieldType) ∈ TB := tb_in (lwt_3 (List.mem_of_getElem? (i := 134) (by decide +kernel))) rfl
theorem w_3_131 : Cond.methodLink "LastLoaf$Baker" (41 : Nat) ({ cls := "LastLoaf$Baker", name := "feedOthers", desc := "(LLastLoaf$Village;)V" } : MethodName) ∈ TB := tb_in (lwt_3 (List.mem_of_getElem? (i := 131) (by decide +kernel))) rfl
theorem w_3_132 : Cond.instanceMethod ({ cls := "LastLoaf$Baker", name := "feedOthers", desc := "(LLastLoaf$Village;)V" } : MethodName) ∈ TB := tb_in (lwt_3 (List.mem_of_getElem? (i := 132) (by decide +kernel))) rfl
theorem w_3_133 : Cond.selects "LastLoaf$Baker" ({ cls := "LastLoaf$Baker", name := "feedOthers", desc := "(LLastLoaf$Village;)V" } : MethodName) ({ cls := "LastLoaf$Baker", name := "feedOthers", desc := "(LLastLoaf$Village;)V" } : MethodName) ∈ TB := tb_in (lwt_3 (List.mem_of_getElem? (i := 133) (by decide +kernel))) rfl
theorem cr0_41 {Θ : Tz} {cc : ByteArray} {nL kc ks : Nat} {ret : Option FieldType} {rm : Room} {Q : State → Prop} {σ : St} {pc : Nat} {lv : List (Nat × Value)} {st : List Value} (C : Zc Θ cc nL RX0 ret rm) (hkd : Θ.2.2.2.2.1 = kdC) {village_a : Nat} (h_village : isV village_a) {r : St} (hx : q0_feedOthers σ village_a = some r) (hrm : rm0_feedOthers.frames + 1 ≤ rm.frames ∧ 8 + (3 + 11) + rm0_feedOthers.locals ≤ rm.locals) (hcat : (st.map fun v => v.category).sum ≤ 8) (hk : kc ≤ rm.cells ∧ ks ≤ rm.slots) (hd : decode cc pc = .ok (.invokevirtual 41, 3)) (kk : Z Θ nL kc ks Q r (pc + 3) lv st) : Z Θ nL kc ks Q σ pc lv (.ref (zA Θ village_a) :: .ref (zA Θ 13) :: st) := z_callV C 13 [.ref (zA Θ village_a)] (none, r) 1 (kC_13 hkd) rfl (c0_feedOthers (village_a := village_a) hkd (zc_inj C) h_village hx) w_3_134 w_3_131 w_3_132 w_3_133 w_1_10 ⟨rfl, rfl, hrm.1, hrm.2⟩ (by decide +kernel) rfl rfl hcat hk hd kk
theorem w_3_144 : Cond.code ({ cls := "LastLoaf$Baker", name := "giveLastLoaf", desc := "(LLastLoaf$Village;)V" } : MethodName) prog_2_method_4_code (4 : Nat) (Option.none : Option ClassFile.FieldType) ∈ TB := tb_in (lwt_3 (List.mem_of_getElem? (i := 144) (by decide +kernel))) rfl
theorem w_3_141 : Cond.methodLink "LastLoaf$Baker" (45 : Nat) ({ cls := "LastLoaf$Baker", name := "giveLastLoaf", desc := "(LLastLoaf$Village;)V" } : MethodName) ∈ TB := tb_in (lwt_3 (List.mem_of_getElem? (i := 141) (by decide +kernel))) rfl
theorem w_3_142 : Cond.instanceMethod ({ cls := "LastLoaf$Baker", name := "giveLastLoaf", desc := "(LLastLoaf$Village;)V" } : MethodName) ∈ TB := tb_in (lwt_3 (List.mem_of_getElem? (i := 142) (by decide +kernel))) rfl
theorem w_3_143 : Cond.selects "LastLoaf$Baker" ({ cls := "LastLoaf$Baker", name := "giveLastLoaf", desc := "(LLastLoaf$Village;)V" } : MethodName) ({ cls := "LastLoaf$Baker", name := "giveLastLoaf", desc := "(LLastLoaf$Village;)V" } : MethodName) ∈ TB := tb_in (lwt_3 (List.mem_of_getElem? (i := 143) (by decide +kernel))) rfl
theorem cr0_45 {Θ : Tz} {cc : ByteArray} {nL kc ks : Nat} {ret : Option FieldType} {rm : Room} {Q : State → Prop} {σ : St} {pc : Nat} {lv : List (Nat × Value)} {st : List Value} (C : Zc Θ cc nL RX0 ret rm) (hkd : Θ.2.2.2.2.1 = kdC) {village_a : Nat} (h_village : isV village_a) {r : St} (hx : q0_giveLastLoaf σ village_a = some r) (hrm : rm0_giveLastLoaf.frames + 1 ≤ rm.frames ∧ 8 + (4 + 11) + rm0_giveLastLoaf.locals ≤ rm.locals) (hcat : (st.map fun v => v.category).sum ≤ 8) (hk : kc ≤ rm.cells ∧ ks ≤ rm.slots) (hd : decode cc pc = .ok (.invokevirtual 45, 3)) (kk : Z Θ nL kc ks Q r (pc + 3) lv st) : Z Θ nL kc ks Q σ pc lv (.ref (zA Θ village_a) :: .ref (zA Θ 13) :: st) := z_callV C 13 [.ref (zA Θ village_a)] (none, r) 1 (kC_13 hkd) rfl (c0_giveLastLoaf (village_a := village_a) hkd (zc_inj C) h_village hx) w_3_144 w_3_141 w_3_142 w_3_143 w_1_10 ⟨rfl, rfl, hrm.1, hrm.2⟩ (by decide +kernel) rfl rfl hcat hk hd kk
theorem w_3_211 : Cond.code ({ cls := "LastLoaf$Baker", name := "seatStarved", desc := "(LLastLoaf$Village;)V" } : MethodName) prog_2_method_5_code (3 : Nat) (Option.none : Option ClassFile.FieldType) ∈ TB := tb_in (lwt_3 (List.mem_of_getElem? (i := 211) (by decide +kernel))) rfl
theorem w_3_208 : Cond.methodLink "LastLoaf$Baker" (48 : Nat) ({ cls := "LastLoaf$Baker", name := "seatStarved", desc := "(LLastLoaf$Village;)V" } : MethodName) ∈ TB := tb_in (lwt_3 (List.mem_of_getElem? (i := 208) (by decide +kernel))) rfl
theorem w_3_209 : Cond.instanceMethod ({ cls := "LastLoaf$Baker", name := "seatStarved", desc := "(LLastLoaf$Village;)V" } : MethodName) ∈ TB := tb_in (lwt_3 (List.mem_of_getElem? (i := 209) (by decide +kernel))) rfl
theorem w_3_210 : Cond.selects "LastLoaf$Baker" ({ cls := "LastLoaf$Baker", name := "seatStarved", desc := "(LLastLoaf$Village;)V" } : MethodName) ({ cls := "LastLoaf$Baker", name := "seatStarved", desc := "(LLastLoaf$Village;)V" } : MethodName) ∈ TB := tb_in (lwt_3 (List.mem_of_getElem? (i := 210) (by decide +kernel))) rfl
theorem cr0_48 {Θ : Tz} {cc : ByteArray} {nL kc ks : Nat} {ret : Option FieldType} {rm : Room} {Q : State → Prop} {σ : St} {pc : Nat} {lv : List (Nat × Value)} {st : List Value} (C : Zc Θ cc nL RX0 ret rm) (hkd : Θ.2.2.2.2.1 = kdC) {village_a : Nat} (h_village : isV village_a) {r : St} (hx : q0_seatStarved σ village_a = some r) (hrm : rm0_seatStarved.frames + 1 ≤ rm.frames ∧ 8 + (3 + 11) + rm0_seatStarved.locals ≤ rm.locals) (hcat : (st.map fun v => v.category).sum ≤ 8) (hk : kc ≤ rm.cells ∧ ks ≤ rm.slots) (hd : decode cc pc = .ok (.invokevirtual 48, 3)) (kk : Z Θ nL kc ks Q r (pc + 3) lv st) : Z Θ nL kc ks Q σ pc lv (.ref (zA Θ village_a) :: .ref (zA Θ 13) :: st) := z_callV C 13 [.ref (zA Θ village_a)] (none, r) 1 (kC_13 hkd) rfl (c0_seatStarved (village_a := village_a) hkd (zc_inj C) h_village hx) w_3_211 w_3_208 w_3_209 w_3_210 w_1_10 ⟨rfl, rfl, hrm.1, hrm.2⟩ (by decide +kernel) rfl rfl hcat hk hd kk
theorem w_3_215 : Cond.code ({ cls := "LastLoaf$Baker", name := "holdSpeech", desc := "(LLastLoaf$Village;)V" } : MethodName) prog_2_method_6_code (6 : Nat) (Option.none : Option ClassFile.FieldType) ∈ TB := tb_in (lwt_3 (List.mem_of_getElem? (i := 215) (by decide +kernel))) rfl
theorem w_3_212 : Cond.methodLink "LastLoaf$Baker" (51 : Nat) ({ cls := "LastLoaf$Baker", name := "holdSpeech", desc := "(LLastLoaf$Village;)V" } : MethodName) ∈ TB := tb_in (lwt_3 (List.mem_of_getElem? (i := 212) (by decide +kernel))) rfl
theorem w_3_213 : Cond.instanceMethod ({ cls := "LastLoaf$Baker", name := "holdSpeech", desc := "(LLastLoaf$Village;)V" } : MethodName) ∈ TB := tb_in (lwt_3 (List.mem_of_getElem? (i := 213) (by decide +kernel))) rfl
theorem w_3_214 : Cond.selects "LastLoaf$Baker" ({ cls := "LastLoaf$Baker", name := "holdSpeech", desc := "(LLastLoaf$Village;)V" } : MethodName) ({ cls := "LastLoaf$Baker", name := "holdSpeech", desc := "(LLastLoaf$Village;)V" } : MethodName) ∈ TB := tb_in (lwt_3 (List.mem_of_getElem? (i := 214) (by decide +kernel))) rfl
theorem cr0_51 {Θ : Tz} {cc : ByteArray} {nL kc ks : Nat} {ret : Option FieldType} {rm : Room} {Q : State → Prop} {σ : St} {pc : Nat} {lv : List (Nat × Value)} {st : List Value} (C : Zc Θ cc nL RX0 ret rm) (hkd : Θ.2.2.2.2.1 = kdC) {village_a : Nat} (h_village : isV village_a) {r : St} (hx : q0_holdSpeech σ village_a = some r) (hrm : rm0_holdSpeech.frames + 1 ≤ rm.frames ∧ 8 + (6 + 11) + rm0_holdSpeech.locals ≤ rm.locals) (hcat : (st.map fun v => v.category).sum ≤ 8) (hk : kc ≤ rm.cells ∧ ks ≤ rm.slots) (hd : decode cc pc = .ok (.invokevirtual 51, 3)) (kk : Z Θ nL kc ks Q r (pc + 3) lv st) : Z Θ nL kc ks Q σ pc lv (.ref (zA Θ village_a) :: .ref (zA Θ 13) :: st) := z_callV C 13 [.ref (zA Θ village_a)] (none, r) 1 (kC_13 hkd) rfl (c0_holdSpeech (village_a := village_a) hkd (zc_inj C) h_village hx) w_3_215 w_3_212 w_3_213 w_3_214 w_1_10 ⟨rfl, rfl, hrm.1, hrm.2⟩ (by decide +kernel) rfl rfl hcat hk hd kk
theorem fp0_19 {Θ : Tz} {cc : ByteArray} {nL kc ks : Nat} {ret : Option FieldType} {rm : Room} {Q : State → Prop} {σ : St} {pc : Nat} {lv : List (Nat × Value)} {st : List Value} (C : Zc Θ cc nL RX0 ret rm) (hkd : Θ.2.2.2.2.1 = kdC) {th : Nat} (hth : isV th) {x : Int32} {σ1 : St} (he : σ1 = up σ th 12 x) (hd : decode cc pc = .ok (.putfield 19, 3)) (kk : Z Θ nL kc ks Q σ1 (pc + 3) lv st) : Z Θ nL kc ks Q σ pc lv (.int x :: .ref (zA Θ th) :: st) := by subst he; exact z_put C inT10 tyX10_ok nmX10 th (kV_0 hkd hth) rfl 12 (by decide) w_1_148 rfl rfl rfl rfl hd kk
theorem dX0_bakeWeeks_0 : decode cX0_bakeWeeks 0 = .ok (.iconst 0, 1) := by decide +kernel
theorem dX0_bakeWeeks_1 : decode cX0_bakeWeeks 1 = .ok (.istore 4, 2) := by decide +kernel
theorem dX0_bakeWeeks_3 : decode cX0_bakeWeeks 3 = .ok (.iload 4, 2) := by decide +kernel
theorem dX0_bakeWeeks_5 : decode cX0_bakeWeeks 5 = .ok (.iload_n 2, 1) := by decide +kernel
theorem dX0_bakeWeeks_6 : decode cX0_bakeWeeks 6 = .ok (.if_icmp .ge 81, 3) := by decide +kernel
theorem dX0_bakeWeeks_9 : decode cX0_bakeWeeks 9 = .ok (.aload_n 1, 1) := by decide +kernel
theorem dX0_bakeWeeks_10 : decode cX0_bakeWeeks 10 = .ok (.getfield 19, 3) := by decide +kernel
theorem dX0_bakeWeeks_13 : decode cX0_bakeWeeks 13 = .ok (.iconst 4, 1) := by decide +kernel
theorem dX0_bakeWeeks_14 : decode cX0_bakeWeeks 14 = .ok (.invokestatic 25, 3) := by decide +kernel
theorem dX0_bakeWeeks_17 : decode cX0_bakeWeeks 17 = .ok (.istore 5, 2) := by decide +kernel
theorem dX0_bakeWeeks_19 : decode cX0_bakeWeeks 19 = .ok (.aload_n 1, 1) := by decide +kernel
theorem dX0_bakeWeeks_20 : decode cX0_bakeWeeks 20 = .ok (.sipush 9999, 3) := by decide +kernel
theorem dX0_bakeWeeks_23 : decode cX0_bakeWeeks 23 = .ok (.aload_n 1, 1) := by decide +kernel
theorem dX0_bakeWeeks_24 : decode cX0_bakeWeeks 24 = .ok (.getfield 31, 3) := by decide +kernel
theorem dX0_bakeWeeks_27 : decode cX0_bakeWeeks 27 = .ok (.aload_n 1, 1) := by decide +kernel
theorem dX0_bakeWeeks_28 : decode cX0_bakeWeeks 28 = .ok (.getfield 34, 3) := by decide +kernel
theorem dX0_bakeWeeks_31 : decode cX0_bakeWeeks 31 = .ok (.iload 5, 2) := by decide +kernel
theorem dX0_bakeWeeks_33 : decode cX0_bakeWeeks 33 = .ok (.iaload, 1) := by decide +kernel
theorem dX0_bakeWeeks_34 : decode cX0_bakeWeeks 34 = .ok (.iadd, 1) := by decide +kernel
theorem dX0_bakeWeeks_35 : decode cX0_bakeWeeks 35 = .ok (.invokestatic 38, 3) := by decide +kernel
theorem dX0_bakeWeeks_38 : decode cX0_bakeWeeks 38 = .ok (.putfield 31, 3) := by decide +kernel
theorem dX0_bakeWeeks_41 : decode cX0_bakeWeeks 41 = .ok (.aload_n 0, 1) := by decide +kernel
theorem dX0_bakeWeeks_42 : decode cX0_bakeWeeks 42 = .ok (.aload_n 1, 1) := by decide +kernel
theorem dX0_bakeWeeks_43 : decode cX0_bakeWeeks 43 = .ok (.invokevirtual 41, 3) := by decide +kernel
theorem dX0_bakeWeeks_46 : decode cX0_bakeWeeks 46 = .ok (.aload_n 0, 1) := by decide +kernel
theorem dX0_bakeWeeks_47 : decode cX0_bakeWeeks 47 = .ok (.aload_n 1, 1) := by decide +kernel
theorem dX0_bakeWeeks_48 : decode cX0_bakeWeeks 48 = .ok (.invokevirtual 45, 3) := by decide +kernel
theorem dX0_bakeWeeks_51 : decode cX0_bakeWeeks 51 = .ok (.aload_n 0, 1) := by decide +kernel
theorem dX0_bakeWeeks_52 : decode cX0_bakeWeeks 52 = .ok (.aload_n 1, 1) := by decide +kernel
theorem dX0_bakeWeeks_53 : decode cX0_bakeWeeks 53 = .ok (.invokevirtual 48, 3) := by decide +kernel
theorem dX0_bakeWeeks_56 : decode cX0_bakeWeeks 56 = .ok (.iload_n 3, 1) := by decide +kernel
theorem dX0_bakeWeeks_57 : decode cX0_bakeWeeks 57 = .ok (.ifCond .eq 8, 3) := by decide +kernel
theorem dX0_bakeWeeks_60 : decode cX0_bakeWeeks 60 = .ok (.aload_n 0, 1) := by decide +kernel
theorem dX0_bakeWeeks_61 : decode cX0_bakeWeeks 61 = .ok (.aload_n 1, 1) := by decide +kernel
theorem dX0_bakeWeeks_62 : decode cX0_bakeWeeks 62 = .ok (.invokevirtual 51, 3) := by decide +kernel
theorem dX0_bakeWeeks_65 : decode cX0_bakeWeeks 65 = .ok (.aload_n 1, 1) := by decide +kernel
theorem dX0_bakeWeeks_66 : decode cX0_bakeWeeks 66 = .ok (.sipush 9999, 3) := by decide +kernel
theorem dX0_bakeWeeks_69 : decode cX0_bakeWeeks 69 = .ok (.aload_n 1, 1) := by decide +kernel
theorem dX0_bakeWeeks_70 : decode cX0_bakeWeeks 70 = .ok (.getfield 19, 3) := by decide +kernel
theorem dX0_bakeWeeks_73 : decode cX0_bakeWeeks 73 = .ok (.iconst 1, 1) := by decide +kernel
theorem dX0_bakeWeeks_74 : decode cX0_bakeWeeks 74 = .ok (.iadd, 1) := by decide +kernel
theorem dX0_bakeWeeks_75 : decode cX0_bakeWeeks 75 = .ok (.invokestatic 38, 3) := by decide +kernel
theorem dX0_bakeWeeks_78 : decode cX0_bakeWeeks 78 = .ok (.putfield 19, 3) := by decide +kernel
theorem dX0_bakeWeeks_81 : decode cX0_bakeWeeks 81 = .ok (.iinc 4 1, 3) := by decide +kernel
theorem dX0_bakeWeeks_84 : decode cX0_bakeWeeks 84 = .ok (.goto (-81), 3) := by decide +kernel
theorem dX0_bakeWeeks_87 : decode cX0_bakeWeeks 87 = .ok (.return_, 1) := by decide +kernel
def q0_bakeWeeks (σ : St) (village_a : Nat) (n_a : Int32) (speeches_a : Bool) : Option St :=
  Option.bind (loop2 (fun rec4_ (i7_ : Int32) (σ8_ : St) =>
  if i7_ < n_a then
  lt (fmod (σ8_ village_a 12) 4) fun season15_ =>
  Option.bind (ag σ8_ (village_a + 7) 4 season15_) fun x17_ =>
  lt (up σ8_ village_a 11 (imin 9999 ((σ8_ village_a 11) + x17_))) fun σ19_ =>
  Option.bind (q0_feedOthers σ19_ village_a) fun x21_ =>
  Option.bind (q0_giveLastLoaf x21_ village_a) fun x23_ =>
  Option.bind (q0_seatStarved x23_ village_a) fun x25_ =>
  Option.bind (if speeches_a = true then (Option.bind (q0_holdSpeech x25_ village_a) fun x34_ =>
  some (x34_)) else (some (x25_))) fun y27_ =>
  lt (up y27_ village_a 12 (imin 9999 ((y27_ village_a 12) + 1))) fun σ36_ =>
  lt (i7_ + 1) fun i38_ =>
  rec4_ i38_ σ36_
  else (some (i7_, σ8_))) fuelN (0 : Int32) σ) fun y1_ =>
  some y1_.2
abbrev rm0_bakeWeeks : Room := { frames := 5, cells := 0, slots := 0, locals := 119 }
set_option maxHeartbeats 4000000 in
set_option maxRecDepth 100000 in
theorem p0_bakeWeeks {Θ : Tz} {σ : St} {ρ : Option Value × St} (C : Zc Θ cX0_bakeWeeks 6 RX0 none rm0_bakeWeeks) (hkd : Θ.2.2.2.2.1 = kdC) {village_a : Nat} {n_a : Int32} {speeches_a : Bool} (h_village : isV village_a) {r : St} (hf : q0_bakeWeeks σ village_a n_a speeches_a = some r) (hρ : ρ = (none, r)) : Z Θ 6 0 0 (zQ Θ ρ) σ 0 [(0, .ref (zA Θ 13)), (1, .ref (zA Θ village_a)), (2, .int n_a), (3, .int (b2i speeches_a))] [] := by
  unfold q0_bakeWeeks at hf
  refine z_iconst (v := 0) C dX0_bakeWeeks_0 ic_0 ?_
  refine z_ist C dX0_bakeWeeks_1 rfl (Nat.le_of_ble_eq_true rfl) rfl ?_
  refine Z.sub [1, 2, 3, 4, 0] rfl ?_
  obtain ⟨y1_, h2_, hf⟩ := ob hf
  suffices K3_ : Z Θ 6 0 0 (zQ Θ ρ) y1_.2 87 [(0, .ref (zA Θ 13)), (1, .ref (zA Θ village_a)), (2, .int n_a), (3, .int (b2i speeches_a)), (4, .int y1_.1)] [] by
    refine loop2_Z (P := fun (i7_ : Int32) (σ8_ : St) => Z Θ 6 0 0 (zQ Θ ρ) σ8_ 3 [(0, .ref (zA Θ 13)), (1, .ref (zA Θ village_a)), (2, .int n_a), (3, .int (b2i speeches_a)), (4, .int i7_)] []) ?_ fuelN (0 : Int32) σ h2_
    clear h2_
    intro rec4_ i7_ σ8_ h5_ h6_
    have K11_ : i7_ < n_a → Z Θ 6 0 0 (zQ Θ ρ) σ8_ 9 [(0, .ref (zA Θ 13)), (1, .ref (zA Θ village_a)), (2, .int n_a), (3, .int (b2i speeches_a)), (4, .int i7_)] [] := by
      intro h14_
      rw [if_pos h14_] at h6_
      refine z_aload_n C 1 dX0_bakeWeeks_9 rfl rfl ?_
      refine fg0_19 C hkd h_village dX0_bakeWeeks_10 ?_
      refine z_iconst (v := 4) C dX0_bakeWeeks_13 ic_4 ?_
      refine z_callS C [.int (σ8_ village_a 12), .int 4] (some (.int (fmod (σ8_ village_a 12) 4)), σ8_) 2 (cJ_floorMod (zc_inj C) (by decide)) w_3_127 w_3_125 w_3_126 w_1_28 ⟨rfl, rfl, (Nat.le_of_ble_eq_true rfl), (Nat.le_of_ble_eq_true rfl)⟩ (by decide +kernel) rfl rfl (Nat.le_of_ble_eq_true rfl) ⟨Nat.zero_le _, Nat.zero_le _⟩ dX0_bakeWeeks_14 ?_
      obtain ⟨season15_, h16_, h6_⟩ := lt_ h6_
      refine z_ist C dX0_bakeWeeks_17 h16_ (Nat.le_of_ble_eq_true rfl) rfl ?_
      refine z_aload_n C 2 dX0_bakeWeeks_19 rfl rfl ?_
      refine z_sipush (v := 9999) C dX0_bakeWeeks_20 sp_9999 ?_
      refine z_aload_n C 2 dX0_bakeWeeks_23 rfl rfl ?_
      refine fg0_31 C hkd h_village dX0_bakeWeeks_24 ?_
      refine z_aload_n C 2 dX0_bakeWeeks_27 rfl rfl ?_
      refine fg0_34 C hkd h_village dX0_bakeWeeks_28 ?_
      refine z_iload C 0 dX0_bakeWeeks_31 rfl ?_
      obtain ⟨x17_, h18_, h6_⟩ := ob h6_
      refine z_ag C h18_ (kV_7 hkd h_village) dX0_bakeWeeks_33 ?_
      refine z_iadd C dX0_bakeWeeks_34 ?_
      refine z_min C w_3_128 w_3_129 w_1_28 w_3_130 ⟨(Nat.le_of_ble_eq_true rfl), (Nat.le_of_ble_eq_true rfl)⟩ (Nat.le_of_ble_eq_true rfl) ⟨Nat.zero_le _, Nat.zero_le _⟩ dX0_bakeWeeks_35 ?_
      obtain ⟨σ19_, h20_, h6_⟩ := lt_ h6_
      refine fp0_31 C hkd h_village h20_ dX0_bakeWeeks_38 ?_
      refine z_aload_n C 1 dX0_bakeWeeks_41 rfl rfl ?_
      refine z_aload_n C 2 dX0_bakeWeeks_42 rfl rfl ?_
      obtain ⟨x21_, h22_, h6_⟩ := ob h6_
      refine cr0_41 (village_a := village_a) C hkd h_village h22_ ⟨(Nat.le_of_ble_eq_true rfl), (Nat.le_of_ble_eq_true rfl)⟩ (Nat.le_of_ble_eq_true rfl) ⟨Nat.zero_le _, Nat.zero_le _⟩ dX0_bakeWeeks_43 ?_
      refine z_aload_n C 1 dX0_bakeWeeks_46 rfl rfl ?_
      refine z_aload_n C 2 dX0_bakeWeeks_47 rfl rfl ?_
      obtain ⟨x23_, h24_, h6_⟩ := ob h6_
      refine cr0_45 (village_a := village_a) C hkd h_village h24_ ⟨(Nat.le_of_ble_eq_true rfl), (Nat.le_of_ble_eq_true rfl)⟩ (Nat.le_of_ble_eq_true rfl) ⟨Nat.zero_le _, Nat.zero_le _⟩ dX0_bakeWeeks_48 ?_
      refine z_aload_n C 1 dX0_bakeWeeks_51 rfl rfl ?_
      refine z_aload_n C 2 dX0_bakeWeeks_52 rfl rfl ?_
      obtain ⟨x25_, h26_, h6_⟩ := ob h6_
      refine cr0_48 (village_a := village_a) C hkd h_village h26_ ⟨(Nat.le_of_ble_eq_true rfl), (Nat.le_of_ble_eq_true rfl)⟩ (Nat.le_of_ble_eq_true rfl) ⟨Nat.zero_le _, Nat.zero_le _⟩ dX0_bakeWeeks_53 ?_
      obtain ⟨y27_, h28_, h6_⟩ := ob h6_
      suffices K29_ : Z Θ 6 0 0 (zQ Θ ρ) y27_ 65 [(0, .ref (zA Θ 13)), (1, .ref (zA Θ village_a)), (2, .int n_a), (3, .int (b2i speeches_a)), (4, .int i7_), (5, .int season15_)] [] by
        have K30_ : speeches_a = true → Z Θ 6 0 0 (zQ Θ ρ) x25_ 60 [(5, .int season15_), (0, .ref (zA Θ 13)), (1, .ref (zA Θ village_a)), (2, .int n_a), (3, .int (b2i speeches_a)), (4, .int i7_)] [] := by
          intro h33_
          rw [if_pos h33_] at h28_
          refine z_aload_n C 1 dX0_bakeWeeks_60 rfl rfl ?_
          refine z_aload_n C 2 dX0_bakeWeeks_61 rfl rfl ?_
          obtain ⟨x34_, h35_, h28_⟩ := ob h28_
          refine cr0_51 (village_a := village_a) C hkd h_village h35_ ⟨(Nat.le_of_ble_eq_true rfl), (Nat.le_of_ble_eq_true rfl)⟩ (Nat.le_of_ble_eq_true rfl) ⟨Nat.zero_le _, Nat.zero_le _⟩ dX0_bakeWeeks_62 ?_
          cases h28_
          refine Z.sub [1, 2, 3, 4, 5, 0] rfl ?_
          exact K29_
        have K31_ : ¬ (speeches_a = true) → Z Θ 6 0 0 (zQ Θ ρ) x25_ 65 [(5, .int season15_), (0, .ref (zA Θ 13)), (1, .ref (zA Θ village_a)), (2, .int n_a), (3, .int (b2i speeches_a)), (4, .int i7_)] [] := by
          intro h33_
          rw [if_neg h33_] at h28_
          cases h28_
          refine Z.sub [1, 2, 3, 4, 5, 0] rfl ?_
          exact K29_
        refine z_iload_n C 4 dX0_bakeWeeks_56 rfl rfl ?_
        refine cb_f C 65 dX0_bakeWeeks_57 (by decide) (fun h32_ => ?_) (fun h32_ => ?_)
        · exact K30_ h32_
        · exact K31_ h32_
      refine z_aload_n C 1 dX0_bakeWeeks_65 rfl rfl ?_
      refine z_sipush (v := 9999) C dX0_bakeWeeks_66 sp_9999 ?_
      refine z_aload_n C 1 dX0_bakeWeeks_69 rfl rfl ?_
      refine fg0_19 C hkd h_village dX0_bakeWeeks_70 ?_
      refine z_iconst (v := 1) C dX0_bakeWeeks_73 ic_1 ?_
      refine z_iadd C dX0_bakeWeeks_74 ?_
      refine z_min C w_3_128 w_3_129 w_1_28 w_3_130 ⟨(Nat.le_of_ble_eq_true rfl), (Nat.le_of_ble_eq_true rfl)⟩ (Nat.le_of_ble_eq_true rfl) ⟨Nat.zero_le _, Nat.zero_le _⟩ dX0_bakeWeeks_75 ?_
      obtain ⟨σ36_, h37_, h6_⟩ := lt_ h6_
      refine fp0_19 C hkd h_village h37_ dX0_bakeWeeks_78 ?_
      obtain ⟨i38_, h39_, h6_⟩ := lt_ h6_
      refine z_inc C 4 dX0_bakeWeeks_81 rfl ic_1 h39_ (Nat.le_of_ble_eq_true rfl) rfl ?_
      refine z_goto C 3 dX0_bakeWeeks_84 (by decide) ?_
      refine Z.sub [1, 2, 3, 4, 0] rfl ?_
      exact h5_ _ _ h6_
    have K12_ : ¬ (i7_ < n_a) → Z Θ 6 0 0 (zQ Θ ρ) σ8_ 87 [(0, .ref (zA Θ 13)), (1, .ref (zA Θ village_a)), (2, .int n_a), (3, .int (b2i speeches_a)), (4, .int i7_)] [] := by
      intro h14_
      rw [if_neg h14_] at h6_
      cases h6_
      exact K3_
    refine z_iload C 4 dX0_bakeWeeks_3 rfl ?_
    refine z_iload_n C 2 dX0_bakeWeeks_5 rfl rfl ?_
    refine c_lt_f C 87 dX0_bakeWeeks_6 (by decide) (fun h13_ => ?_) (fun h13_ => ?_)
    · exact K11_ h13_
    · exact K12_ h13_
  cases hf
  subst hρ
  exact z_vret C dX0_bakeWeeks_87
theorem c0_bakeWeeks {l : Launch} {kd : List KD} {w : Wp} {σ : St} {village_a : Nat} {n_a : Int32} {speeches_a : Bool} (hkd : kd = kdC) (hi : zI kd w) (h_village : isV village_a) {r : St} (hf : q0_bakeWeeks σ village_a n_a speeches_a = some r) : zM l kd w yX0_bakeWeeks cX0_bakeWeeks 6 none rm0_bakeWeeks [.ref (w.2.2.1 13), .ref (w.2.2.1 village_a), .int n_a, .int (b2i speeches_a)] σ (none, r) := zM_of rfl hi (Nat.le_of_ble_eq_true rfl) (fun Θ hl hw C => by
  obtain ⟨Θ1, Θ2, Θ3, Θ4, Θ5⟩ := Θ
  cases hw
  exact p0_bakeWeeks C hkd h_village hf rfl)
/-! LastLoaf$Past.remember -/
theorem w_2_24 : Cond.fieldLink "LastLoaf$Past" (11 : Nat) "LastLoaf$Past" "kept" "[LLastLoaf$Village;" ∈ TB := tb_in (lwt_2 (List.mem_of_getElem? (i := 24) (by decide +kernel))) rfl
theorem fg4_11 {Θ : Tz} {cc : ByteArray} {nL kc ks : Nat} {ret : Option FieldType} {rm : Room} {Q : State → Prop} {σ : St} {pc : Nat} {lv : List (Nat × Value)} {st : List Value} (C : Zc Θ cc nL RX4 ret rm) (hkd : Θ.2.2.2.2.1 = kdC) (hd : decode cc pc = .ok (.getfield 11, 3)) (kk : Z Θ nL kc ks Q σ (pc + 3) lv (.ref (zA Θ 31) :: st)) : Z Θ nL kc ks Q σ pc lv (.ref (zA Θ 5) :: st) := z_get C inT4 5 (kC_5 hkd) rfl 0 (by decide) w_2_24 rfl hd kk
theorem w_2_27 : Cond.fieldLink "LastLoaf$Past" (21 : Nat) "LastLoaf$Past" "following" "I" ∈ TB := tb_in (lwt_2 (List.mem_of_getElem? (i := 27) (by decide +kernel))) rfl
theorem fg4_21 {Θ : Tz} {cc : ByteArray} {nL kc ks : Nat} {ret : Option FieldType} {rm : Room} {Q : State → Prop} {σ : St} {pc : Nat} {lv : List (Nat × Value)} {st : List Value} (C : Zc Θ cc nL RX4 ret rm) (hkd : Θ.2.2.2.2.1 = kdC) (hd : decode cc pc = .ok (.getfield 21, 3)) (kk : Z Θ nL kc ks Q σ (pc + 3) lv (.int (σ 5 2) :: st)) : Z Θ nL kc ks Q σ pc lv (.ref (zA Θ 5) :: st) := z_get C inT4 5 (kC_5 hkd) rfl 2 (by decide) w_2_27 rfl hd kk
theorem w_4_127 : Cond.methodLink "LastLoaf$Past" (25 : Nat) ({ cls := "LastLoaf$Village", name := "become", desc := "(LLastLoaf$Village;)V" } : MethodName) ∈ TB := tb_in (lwt_4 (List.mem_of_getElem? (i := 127) (by decide +kernel))) rfl
theorem cr4_25 {Θ : Tz} {cc : ByteArray} {nL kc ks : Nat} {ret : Option FieldType} {rm : Room} {Q : State → Prop} {σ : St} {pc : Nat} {lv : List (Nat × Value)} {st : List Value} (C : Zc Θ cc nL RX4 ret rm) (hkd : Θ.2.2.2.2.1 = kdC) {th : Nat} {other_a : Nat} (hth : isV th) (h_other : isV other_a) {r : St} (hx : q10_become σ th other_a = some r) (hrm : rm10_become.frames + 1 ≤ rm.frames ∧ 8 + (2 + 11) + rm10_become.locals ≤ rm.locals) (hcat : (st.map fun v => v.category).sum ≤ 8) (hk : kc ≤ rm.cells ∧ ks ≤ rm.slots) (hd : decode cc pc = .ok (.invokevirtual 25, 3)) (kk : Z Θ nL kc ks Q r (pc + 3) lv st) : Z Θ nL kc ks Q σ pc lv (.ref (zA Θ other_a) :: .ref (zA Θ th) :: st) := z_callV C th [.ref (zA Θ other_a)] (none, r) 1 (kV_0 hkd hth) rfl (c10_become (th := th) (other_a := other_a) hkd (zc_inj C) hth h_other hx) w_3_112 w_4_127 w_3_110 w_3_111 w_1_3 ⟨rfl, rfl, hrm.1, hrm.2⟩ (by decide +kernel) rfl rfl hcat hk hd kk
theorem fp4_21 {Θ : Tz} {cc : ByteArray} {nL kc ks : Nat} {ret : Option FieldType} {rm : Room} {Q : State → Prop} {σ : St} {pc : Nat} {lv : List (Nat × Value)} {st : List Value} (C : Zc Θ cc nL RX4 ret rm) (hkd : Θ.2.2.2.2.1 = kdC) {x : Int32} {σ1 : St} (he : σ1 = up σ 5 2 x) (hd : decode cc pc = .ok (.putfield 21, 3)) (kk : Z Θ nL kc ks Q σ1 (pc + 3) lv st) : Z Θ nL kc ks Q σ pc lv (.int x :: .ref (zA Θ 5) :: st) := by subst he; exact z_put C inT4 tyX4_ok nmX4 5 (kC_5 hkd) rfl 2 (by decide) w_2_27 rfl rfl rfl rfl hd kk
theorem fg4_17 {Θ : Tz} {cc : ByteArray} {nL kc ks : Nat} {ret : Option FieldType} {rm : Room} {Q : State → Prop} {σ : St} {pc : Nat} {lv : List (Nat × Value)} {st : List Value} (C : Zc Θ cc nL RX4 ret rm) (hkd : Θ.2.2.2.2.1 = kdC) (hd : decode cc pc = .ok (.getfield 17, 3)) (kk : Z Θ nL kc ks Q σ (pc + 3) lv (.int (σ 5 1) :: st)) : Z Θ nL kc ks Q σ pc lv (.ref (zA Θ 5) :: st) := z_get C inT4 5 (kC_5 hkd) rfl 1 (by decide) w_2_25 rfl hd kk
theorem w_6_89 : Cond.methodLink "LastLoaf$Past" (29 : Nat) ({ cls := "java/lang/Math", name := "min", desc := "(II)I" } : MethodName) ∈ TB := tb_in (lwt_6 (List.mem_of_getElem? (i := 89) (by decide +kernel))) rfl
theorem dX4_remember_0 : decode cX4_remember 0 = .ok (.aload_n 0, 1) := by decide +kernel
theorem dX4_remember_1 : decode cX4_remember 1 = .ok (.getfield 11, 3) := by decide +kernel
theorem dX4_remember_4 : decode cX4_remember 4 = .ok (.aload_n 0, 1) := by decide +kernel
theorem dX4_remember_5 : decode cX4_remember 5 = .ok (.getfield 21, 3) := by decide +kernel
theorem dX4_remember_8 : decode cX4_remember 8 = .ok (.aaload, 1) := by decide +kernel
theorem dX4_remember_9 : decode cX4_remember 9 = .ok (.aload_n 1, 1) := by decide +kernel
theorem dX4_remember_10 : decode cX4_remember 10 = .ok (.invokevirtual 25, 3) := by decide +kernel
theorem dX4_remember_13 : decode cX4_remember 13 = .ok (.aload_n 0, 1) := by decide +kernel
theorem dX4_remember_14 : decode cX4_remember 14 = .ok (.aload_n 0, 1) := by decide +kernel
theorem dX4_remember_15 : decode cX4_remember 15 = .ok (.getfield 21, 3) := by decide +kernel
theorem dX4_remember_18 : decode cX4_remember 18 = .ok (.iconst 1, 1) := by decide +kernel
theorem dX4_remember_19 : decode cX4_remember 19 = .ok (.iadd, 1) := by decide +kernel
theorem dX4_remember_20 : decode cX4_remember 20 = .ok (.bipush 12, 2) := by decide +kernel
theorem dX4_remember_22 : decode cX4_remember 22 = .ok (.irem, 1) := by decide +kernel
theorem dX4_remember_23 : decode cX4_remember 23 = .ok (.putfield 21, 3) := by decide +kernel
theorem dX4_remember_26 : decode cX4_remember 26 = .ok (.aload_n 0, 1) := by decide +kernel
theorem dX4_remember_27 : decode cX4_remember 27 = .ok (.bipush 12, 2) := by decide +kernel
theorem dX4_remember_29 : decode cX4_remember 29 = .ok (.aload_n 0, 1) := by decide +kernel
theorem dX4_remember_30 : decode cX4_remember 30 = .ok (.getfield 17, 3) := by decide +kernel
theorem dX4_remember_33 : decode cX4_remember 33 = .ok (.iconst 1, 1) := by decide +kernel
theorem dX4_remember_34 : decode cX4_remember 34 = .ok (.iadd, 1) := by decide +kernel
theorem dX4_remember_35 : decode cX4_remember 35 = .ok (.invokestatic 29, 3) := by decide +kernel
theorem dX4_remember_38 : decode cX4_remember 38 = .ok (.putfield 17, 3) := by decide +kernel
theorem dX4_remember_41 : decode cX4_remember 41 = .ok (.return_, 1) := by decide +kernel
def q4_remember (σ : St) (village_a : Nat) : Option St :=
  Option.bind (kpt (σ 5 2)) fun x1_ =>
  Option.bind (q10_become σ x1_ village_a) fun x3_ =>
  lt (up x3_ 5 2 (irm ((x3_ 5 2) + 1) 12)) fun σ5_ =>
  lt (up σ5_ 5 1 (imin 12 ((σ5_ 5 1) + 1))) fun σ7_ =>
  some σ7_
abbrev rm4_remember : Room := { frames := 3, cells := 0, slots := 0, locals := 82 }
set_option maxHeartbeats 4000000 in
set_option maxRecDepth 100000 in
theorem p4_remember {Θ : Tz} {σ : St} {ρ : Option Value × St} (C : Zc Θ cX4_remember 2 RX4 none rm4_remember) (hkd : Θ.2.2.2.2.1 = kdC) {village_a : Nat} (h_village : isV village_a) {r : St} (hf : q4_remember σ village_a = some r) (hρ : ρ = (none, r)) : Z Θ 2 0 0 (zQ Θ ρ) σ 0 [(0, .ref (zA Θ 5)), (1, .ref (zA Θ village_a))] [] := by
  unfold q4_remember at hf
  refine z_aload_n C 0 dX4_remember_0 rfl rfl ?_
  refine fg4_11 C hkd dX4_remember_1 ?_
  refine z_aload_n C 0 dX4_remember_4 rfl rfl ?_
  refine fg4_21 C hkd dX4_remember_5 ?_
  obtain ⟨x1_, h2_, hf⟩ := ob hf
  refine z_kpt C hkd h2_ dX4_remember_8 ?_
  refine z_aload_n C 1 dX4_remember_9 rfl rfl ?_
  obtain ⟨x3_, h4_, hf⟩ := ob hf
  refine cr4_25 (th := x1_) (other_a := village_a) C hkd (kpt_isV h2_) h_village h4_ ⟨(Nat.le_of_ble_eq_true rfl), (Nat.le_of_ble_eq_true rfl)⟩ (Nat.le_of_ble_eq_true rfl) ⟨Nat.zero_le _, Nat.zero_le _⟩ dX4_remember_10 ?_
  refine z_aload_n C 0 dX4_remember_13 rfl rfl ?_
  refine z_aload_n C 0 dX4_remember_14 rfl rfl ?_
  refine fg4_21 C hkd dX4_remember_15 ?_
  refine z_iconst (v := 1) C dX4_remember_18 ic_1 ?_
  refine z_iadd C dX4_remember_19 ?_
  refine z_bipush (v := 12) C dX4_remember_20 bp_12 ?_
  refine z_irm C (by decide) dX4_remember_22 ?_
  obtain ⟨σ5_, h6_, hf⟩ := lt_ hf
  refine fp4_21 C hkd h6_ dX4_remember_23 ?_
  refine z_aload_n C 0 dX4_remember_26 rfl rfl ?_
  refine z_bipush (v := 12) C dX4_remember_27 bp_12 ?_
  refine z_aload_n C 0 dX4_remember_29 rfl rfl ?_
  refine fg4_17 C hkd dX4_remember_30 ?_
  refine z_iconst (v := 1) C dX4_remember_33 ic_1 ?_
  refine z_iadd C dX4_remember_34 ?_
  refine z_min C w_6_89 w_3_129 w_1_28 w_3_130 ⟨(Nat.le_of_ble_eq_true rfl), (Nat.le_of_ble_eq_true rfl)⟩ (Nat.le_of_ble_eq_true rfl) ⟨Nat.zero_le _, Nat.zero_le _⟩ dX4_remember_35 ?_
  obtain ⟨σ7_, h8_, hf⟩ := lt_ hf
  refine fp4_17 C hkd h8_ dX4_remember_38 ?_
  cases hf
  subst hρ
  exact z_vret C dX4_remember_41
theorem c4_remember {l : Launch} {kd : List KD} {w : Wp} {σ : St} {village_a : Nat} (hkd : kd = kdC) (hi : zI kd w) (h_village : isV village_a) {r : St} (hf : q4_remember σ village_a = some r) : zM l kd w yX4_remember cX4_remember 2 none rm4_remember [.ref (w.2.2.1 5), .ref (w.2.2.1 village_a)] σ (none, r) := zM_of rfl hi (Nat.le_of_ble_eq_true rfl) (fun Θ hl hw C => by
  obtain ⟨Θ1, Θ2, Θ3, Θ4, Θ5⟩ := Θ
  cases hw
  exact p4_remember C hkd h_village hf rfl)
/-! LastLoaf.weeks -/
theorem w_6_83 : Cond.code ({ cls := "LastLoaf", name := "needNumber", desc := "(III)V" } : MethodName) prog_1_method_70_code (3 : Nat) (Option.none : Option ClassFile.FieldType) ∈ TB := tb_in (lwt_6 (List.mem_of_getElem? (i := 83) (by decide +kernel))) rfl
theorem w_6_81 : Cond.methodLink "LastLoaf" (231 : Nat) ({ cls := "LastLoaf", name := "needNumber", desc := "(III)V" } : MethodName) ∈ TB := tb_in (lwt_6 (List.mem_of_getElem? (i := 81) (by decide +kernel))) rfl
theorem w_6_82 : Cond.static ({ cls := "LastLoaf", name := "needNumber", desc := "(III)V" } : MethodName) ∈ TB := tb_in (lwt_6 (List.mem_of_getElem? (i := 82) (by decide +kernel))) rfl
theorem w_6_88 : Cond.code ({ cls := "LastLoaf$Past", name := "remember", desc := "(LLastLoaf$Village;)V" } : MethodName) prog_6_method_2_code (2 : Nat) (Option.none : Option ClassFile.FieldType) ∈ TB := tb_in (lwt_6 (List.mem_of_getElem? (i := 88) (by decide +kernel))) rfl
theorem w_6_85 : Cond.methodLink "LastLoaf" (235 : Nat) ({ cls := "LastLoaf$Past", name := "remember", desc := "(LLastLoaf$Village;)V" } : MethodName) ∈ TB := tb_in (lwt_6 (List.mem_of_getElem? (i := 85) (by decide +kernel))) rfl
theorem w_6_86 : Cond.instanceMethod ({ cls := "LastLoaf$Past", name := "remember", desc := "(LLastLoaf$Village;)V" } : MethodName) ∈ TB := tb_in (lwt_6 (List.mem_of_getElem? (i := 86) (by decide +kernel))) rfl
theorem w_6_87 : Cond.selects "LastLoaf$Past" ({ cls := "LastLoaf$Past", name := "remember", desc := "(LLastLoaf$Village;)V" } : MethodName) ({ cls := "LastLoaf$Past", name := "remember", desc := "(LLastLoaf$Village;)V" } : MethodName) ∈ TB := tb_in (lwt_6 (List.mem_of_getElem? (i := 87) (by decide +kernel))) rfl
theorem cr11_235 {Θ : Tz} {cc : ByteArray} {nL kc ks : Nat} {ret : Option FieldType} {rm : Room} {Q : State → Prop} {σ : St} {pc : Nat} {lv : List (Nat × Value)} {st : List Value} (C : Zc Θ cc nL RX11 ret rm) (hkd : Θ.2.2.2.2.1 = kdC) {village_a : Nat} (h_village : isV village_a) {r : St} (hx : q4_remember σ village_a = some r) (hrm : rm4_remember.frames + 1 ≤ rm.frames ∧ 8 + (2 + 11) + rm4_remember.locals ≤ rm.locals) (hcat : (st.map fun v => v.category).sum ≤ 8) (hk : kc ≤ rm.cells ∧ ks ≤ rm.slots) (hd : decode cc pc = .ok (.invokevirtual 235, 3)) (kk : Z Θ nL kc ks Q r (pc + 3) lv st) : Z Θ nL kc ks Q σ pc lv (.ref (zA Θ village_a) :: .ref (zA Θ 5) :: st) := z_callV C 5 [.ref (zA Θ village_a)] (none, r) 1 (kC_5 hkd) rfl (c4_remember (village_a := village_a) hkd (zc_inj C) h_village hx) w_6_88 w_6_85 w_6_86 w_6_87 w_1_8 ⟨rfl, rfl, hrm.1, hrm.2⟩ (by decide +kernel) rfl rfl hcat hk hd kk
theorem w_2_197 : Cond.fieldLink "LastLoaf" (70 : Nat) "LastLoaf" "baker" "LLastLoaf$Baker;" ∈ TB := tb_in (lwt_2 (List.mem_of_getElem? (i := 197) (by decide +kernel))) rfl
theorem fg11_70 {Θ : Tz} {cc : ByteArray} {nL kc ks : Nat} {ret : Option FieldType} {rm : Room} {Q : State → Prop} {σ : St} {pc : Nat} {lv : List (Nat × Value)} {st : List Value} (C : Zc Θ cc nL RX11 ret rm) (hkd : Θ.2.2.2.2.1 = kdC) (hd : decode cc pc = .ok (.getfield 70, 3)) (kk : Z Θ nL kc ks Q σ (pc + 3) lv (.ref (zA Θ 13) :: st)) : Z Θ nL kc ks Q σ pc lv (.ref (zA Θ 0) :: st) := z_get C inT11 0 (kC_0 hkd) rfl 10 (by decide) w_2_197 rfl hd kk
theorem w_3_124 : Cond.code ({ cls := "LastLoaf$Baker", name := "bakeWeeks", desc := "(LLastLoaf$Village;IZ)V" } : MethodName) prog_2_method_2_code (6 : Nat) (Option.none : Option ClassFile.FieldType) ∈ TB := tb_in (lwt_3 (List.mem_of_getElem? (i := 124) (by decide +kernel))) rfl
theorem w_3_121 : Cond.methodLink "LastLoaf" (243 : Nat) ({ cls := "LastLoaf$Baker", name := "bakeWeeks", desc := "(LLastLoaf$Village;IZ)V" } : MethodName) ∈ TB := tb_in (lwt_3 (List.mem_of_getElem? (i := 121) (by decide +kernel))) rfl
theorem w_3_122 : Cond.instanceMethod ({ cls := "LastLoaf$Baker", name := "bakeWeeks", desc := "(LLastLoaf$Village;IZ)V" } : MethodName) ∈ TB := tb_in (lwt_3 (List.mem_of_getElem? (i := 122) (by decide +kernel))) rfl
theorem w_3_123 : Cond.selects "LastLoaf$Baker" ({ cls := "LastLoaf$Baker", name := "bakeWeeks", desc := "(LLastLoaf$Village;IZ)V" } : MethodName) ({ cls := "LastLoaf$Baker", name := "bakeWeeks", desc := "(LLastLoaf$Village;IZ)V" } : MethodName) ∈ TB := tb_in (lwt_3 (List.mem_of_getElem? (i := 123) (by decide +kernel))) rfl
theorem cr11_243 {Θ : Tz} {cc : ByteArray} {nL kc ks : Nat} {ret : Option FieldType} {rm : Room} {Q : State → Prop} {σ : St} {pc : Nat} {lv : List (Nat × Value)} {st : List Value} (C : Zc Θ cc nL RX11 ret rm) (hkd : Θ.2.2.2.2.1 = kdC) {village_a : Nat} {n_a : Int32} {speeches_a : Bool} (h_village : isV village_a) {r : St} (hx : q0_bakeWeeks σ village_a n_a speeches_a = some r) (hrm : rm0_bakeWeeks.frames + 1 ≤ rm.frames ∧ 8 + (6 + 11) + rm0_bakeWeeks.locals ≤ rm.locals) (hcat : (st.map fun v => v.category).sum ≤ 8) (hk : kc ≤ rm.cells ∧ ks ≤ rm.slots) (hd : decode cc pc = .ok (.invokevirtual 243, 3)) (kk : Z Θ nL kc ks Q r (pc + 3) lv st) : Z Θ nL kc ks Q σ pc lv (.int (b2i speeches_a) :: .int n_a :: .ref (zA Θ village_a) :: .ref (zA Θ 13) :: st) := z_callV C 13 [.ref (zA Θ village_a), .int n_a, .int (b2i speeches_a)] (none, r) 3 (kC_13 hkd) rfl (c0_bakeWeeks (village_a := village_a) (n_a := n_a) (speeches_a := speeches_a) hkd (zc_inj C) h_village hx) w_3_124 w_3_121 w_3_122 w_3_123 w_1_10 ⟨rfl, rfl, hrm.1, hrm.2⟩ (by decide +kernel) rfl rfl hcat hk hd kk
theorem dX11_weeks_0 : decode cX11_weeks 0 = .ok (.iload_n 1, 1) := by decide +kernel
theorem dX11_weeks_1 : decode cX11_weeks 1 = .ok (.iconst 1, 1) := by decide +kernel
theorem dX11_weeks_2 : decode cX11_weeks 2 = .ok (.bipush 60, 2) := by decide +kernel
theorem dX11_weeks_4 : decode cX11_weeks 4 = .ok (.invokestatic 231, 3) := by decide +kernel
theorem dX11_weeks_7 : decode cX11_weeks 7 = .ok (.aload_n 0, 1) := by decide +kernel
theorem dX11_weeks_8 : decode cX11_weeks 8 = .ok (.getfield 54, 3) := by decide +kernel
theorem dX11_weeks_11 : decode cX11_weeks 11 = .ok (.aload_n 0, 1) := by decide +kernel
theorem dX11_weeks_12 : decode cX11_weeks 12 = .ok (.getfield 19, 3) := by decide +kernel
theorem dX11_weeks_15 : decode cX11_weeks 15 = .ok (.invokevirtual 235, 3) := by decide +kernel
theorem dX11_weeks_18 : decode cX11_weeks 18 = .ok (.aload_n 0, 1) := by decide +kernel
theorem dX11_weeks_19 : decode cX11_weeks 19 = .ok (.getfield 19, 3) := by decide +kernel
theorem dX11_weeks_22 : decode cX11_weeks 22 = .ok (.getfield 171, 3) := by decide +kernel
theorem dX11_weeks_25 : decode cX11_weeks 25 = .ok (.invokestatic 238, 3) := by decide +kernel
theorem dX11_weeks_28 : decode cX11_weeks 28 = .ok (.istore_n 2, 1) := by decide +kernel
theorem dX11_weeks_29 : decode cX11_weeks 29 = .ok (.aload_n 0, 1) := by decide +kernel
theorem dX11_weeks_30 : decode cX11_weeks 30 = .ok (.getfield 70, 3) := by decide +kernel
theorem dX11_weeks_33 : decode cX11_weeks 33 = .ok (.aload_n 0, 1) := by decide +kernel
theorem dX11_weeks_34 : decode cX11_weeks 34 = .ok (.getfield 19, 3) := by decide +kernel
theorem dX11_weeks_37 : decode cX11_weeks 37 = .ok (.iload_n 1, 1) := by decide +kernel
theorem dX11_weeks_38 : decode cX11_weeks 38 = .ok (.iconst 1, 1) := by decide +kernel
theorem dX11_weeks_39 : decode cX11_weeks 39 = .ok (.invokevirtual 243, 3) := by decide +kernel
theorem dX11_weeks_42 : decode cX11_weeks 42 = .ok (.aload_n 0, 1) := by decide +kernel
theorem dX11_weeks_43 : decode cX11_weeks 43 = .ok (.getfield 19, 3) := by decide +kernel
theorem dX11_weeks_46 : decode cX11_weeks 46 = .ok (.getfield 171, 3) := by decide +kernel
theorem dX11_weeks_49 : decode cX11_weeks 49 = .ok (.invokestatic 238, 3) := by decide +kernel
theorem dX11_weeks_52 : decode cX11_weeks 52 = .ok (.iload_n 2, 1) := by decide +kernel
theorem dX11_weeks_53 : decode cX11_weeks 53 = .ok (.isub, 1) := by decide +kernel
theorem dX11_weeks_54 : decode cX11_weeks 54 = .ok (.ireturn, 1) := by decide +kernel
def q11_weeks (σ : St) (n_a : Int32) : Option (Sum Nat Int32 × St) :=
  thn (q11_needNumber n_a 1 60) σ
  (Option.bind (q4_remember σ 44) fun x3_ =>
  lt (bcount (x3_ 44 10)) fun benchedAhead5_ =>
  Option.bind (q0_bakeWeeks x3_ 44 n_a true) fun x7_ =>
  some (.inr ((bcount (x7_ 44 10)) - benchedAhead5_), x7_))
abbrev rm11_weeks : Room := { frames := 7, cells := 1, slots := 6, locals := 144 }
set_option maxHeartbeats 4000000 in
set_option maxRecDepth 100000 in
theorem p11_weeks {Θ : Tz} {σ : St} {ω : Om} (C : Zc Θ cX11_weeks 3 RX11 (some .int) rm11_weeks) (hkd : Θ.2.2.2.2.1 = kdC) (hlt : Θ.1.2.1.stackTraces = false) (het : ∀ x ∈ Θ.2.2.1.2.exceptionTable.toList, False) {n_a : Int32} {r : (Sum Nat Int32 × St)} (hf : q11_weeks σ n_a = some r) (hω : ω = om (fun v => some (.int v)) r) : Z Θ 3 0 0 (zQX Θ ω 1 6) σ 0 [(0, .ref (zA Θ 0)), (1, .int n_a)] [] := by
  unfold q11_weeks at hf
  refine z_iload_n C 1 dX11_weeks_0 rfl rfl ?_
  refine z_iconst (v := 1) C dX11_weeks_1 ic_1 ?_
  refine z_bipush (v := 60) C dX11_weeks_2 bp_60 ?_
  refine zx_callS C het [.int n_a, .int 1, .int 60] (q11_needNumber n_a 1 60) 1 6 3 (c11_needNumber (n_a := n_a) (least_a := 1) (most_a := 60) hkd (zc_inj C) hlt) w_6_83 w_6_81 w_6_82 w_1_1 ⟨rfl, rfl, (Nat.le_of_ble_eq_true rfl), (Nat.le_of_ble_eq_true rfl)⟩ (by decide +kernel) rfl rfl (Nat.le_of_ble_eq_true rfl) ⟨(Nat.le_of_ble_eq_true rfl), (Nat.le_of_ble_eq_true rfl)⟩ dX11_weeks_4 ⟨(Nat.le_of_ble_eq_true rfl), (Nat.le_of_ble_eq_true rfl)⟩ (fun e9 h2_ => by rw [h2_] at hf; cases hf; exact hω) (fun h1_ => ?_)
  rw [h1_] at hf
  replace hf := hf
  refine z_aload_n C 0 dX11_weeks_7 rfl rfl ?_
  refine fg11_54 C hkd dX11_weeks_8 ?_
  refine z_aload_n C 0 dX11_weeks_11 rfl rfl ?_
  refine fg11_19 C hkd dX11_weeks_12 ?_
  obtain ⟨x3_, h4_, hf⟩ := ob hf
  refine cr11_235 (village_a := 44) C hkd isV_44 h4_ ⟨(Nat.le_of_ble_eq_true rfl), (Nat.le_of_ble_eq_true rfl)⟩ (Nat.le_of_ble_eq_true rfl) ⟨(Nat.le_of_ble_eq_true rfl), (Nat.le_of_ble_eq_true rfl)⟩ dX11_weeks_15 ?_
  refine z_aload_n C 0 dX11_weeks_18 rfl rfl ?_
  refine fg11_19 C hkd dX11_weeks_19 ?_
  refine fg11_171 C hkd isV_44 dX11_weeks_22 ?_
  refine z_callS C [.int (x3_ 44 10)] (some (.int (bcount (x3_ 44 10))), x3_) 1 (cJ_bitCount (zc_inj C)) w_3_30 w_4_11 w_3_29 w_1_26 ⟨rfl, rfl, (Nat.le_of_ble_eq_true rfl), (Nat.le_of_ble_eq_true rfl)⟩ (by decide +kernel) rfl rfl (Nat.le_of_ble_eq_true rfl) ⟨(Nat.le_of_ble_eq_true rfl), (Nat.le_of_ble_eq_true rfl)⟩ dX11_weeks_25 ?_
  obtain ⟨benchedAhead5_, h6_, hf⟩ := lt_ hf
  refine z_istN C dX11_weeks_28 h6_ rfl (Nat.le_of_ble_eq_true rfl) rfl ?_
  refine z_aload_n C 1 dX11_weeks_29 rfl rfl ?_
  refine fg11_70 C hkd dX11_weeks_30 ?_
  refine z_aload_n C 1 dX11_weeks_33 rfl rfl ?_
  refine fg11_19 C hkd dX11_weeks_34 ?_
  refine z_iload_n C 2 dX11_weeks_37 rfl rfl ?_
  refine z_iconst (v := 1) C dX11_weeks_38 ic_1 ?_
  obtain ⟨x7_, h8_, hf⟩ := ob hf
  refine cr11_243 (village_a := 44) (n_a := n_a) (speeches_a := true) C hkd isV_44 h8_ ⟨(Nat.le_of_ble_eq_true rfl), (Nat.le_of_ble_eq_true rfl)⟩ (Nat.le_of_ble_eq_true rfl) ⟨(Nat.le_of_ble_eq_true rfl), (Nat.le_of_ble_eq_true rfl)⟩ dX11_weeks_39 ?_
  refine z_aload_n C 1 dX11_weeks_42 rfl rfl ?_
  refine fg11_19 C hkd dX11_weeks_43 ?_
  refine fg11_171 C hkd isV_44 dX11_weeks_46 ?_
  refine z_callS C [.int (x7_ 44 10)] (some (.int (bcount (x7_ 44 10))), x7_) 1 (cJ_bitCount (zc_inj C)) w_3_30 w_4_11 w_3_29 w_1_26 ⟨rfl, rfl, (Nat.le_of_ble_eq_true rfl), (Nat.le_of_ble_eq_true rfl)⟩ (by decide +kernel) rfl rfl (Nat.le_of_ble_eq_true rfl) ⟨(Nat.le_of_ble_eq_true rfl), (Nat.le_of_ble_eq_true rfl)⟩ dX11_weeks_49 ?_
  refine z_iload_n C 0 dX11_weeks_52 rfl rfl ?_
  refine z_isub C dX11_weeks_53 ?_
  cases hf
  subst hω
  exact zx_iret C ⟨(Nat.le_of_ble_eq_true rfl), (Nat.le_of_ble_eq_true rfl)⟩ dX11_weeks_54
theorem c11_weeks {l : Launch} {kd : List KD} {w : Wp} {σ : St} {n_a : Int32} (hkd : kd = kdC) (hi : zI kd w) (hlt : l.stackTraces = false) {r : (Sum Nat Int32 × St)} (hf : q11_weeks σ n_a = some r) : zX l kd w yX11_weeks cX11_weeks 3 (some .int) rm11_weeks [.ref (w.2.2.1 0), .int n_a] σ (om (fun v => some (.int v)) r) 1 6 := zX_of rfl hi (Nat.le_of_ble_eq_true rfl) (fun Θ hl hw C het => by
  obtain ⟨Θ1, Θ2, Θ3, Θ4, Θ5⟩ := Θ
  cases hw
  cases hl
  exact p11_weeks C hkd hlt het  hf rfl)
/-! LastLoaf.stand -/
theorem th11_1_251g : ∀ w ∈ (vx_atS RX11 251 (exn 1) ["java/lang/RuntimeException", "java/lang/Exception"]).filter goodWord, w ∈ TB := fun w h => tb_in ((by decide +kernel : ∀ w ∈ (vx_atS RX11 251 (exn 1) ["java/lang/RuntimeException", "java/lang/Exception"]).filter goodWord, w ∈ lw_tbl) w h) ((List.mem_filter.mp h).2)
theorem th11_1_251n : ∀ w ∈ (vx_atS RX11 251 (exn 1) ["java/lang/RuntimeException", "java/lang/Exception"]).filter (fun w => !goodWord w), w ∈ nestW := by decide +kernel
theorem th11_1_251o : ∀ w ∈ Cond.classLink RX11 247 (exn 1) :: Cond.initialized (exn 1) :: vx_atS RX11 251 (exn 1) ["java/lang/RuntimeException", "java/lang/Exception"], vx_ot w = true := by decide +kernel
theorem w_6_98 : Cond.classLink "LastLoaf" (247 : Nat) "java/lang/IllegalStateException" ∈ TB := tb_in (lwt_6 (List.mem_of_getElem? (i := 98) (by decide +kernel))) rfl
theorem w_1_29 : Cond.initialized "java/lang/IllegalStateException" ∈ TB := tb_in (lwt_1 (List.mem_of_getElem? (i := 29) (by decide +kernel))) rfl
theorem w_4_32 : Cond.methodLink "LastLoaf" (252 : Nat) ({ cls := "LastLoaf", name := "without", desc := "(II)I" } : MethodName) ∈ TB := tb_in (lwt_4 (List.mem_of_getElem? (i := 32) (by decide +kernel))) rfl
theorem cr11_252 {Θ : Tz} {cc : ByteArray} {nL kc ks : Nat} {ret : Option FieldType} {rm : Room} {Q : State → Prop} {σ : St} {pc : Nat} {lv : List (Nat × Value)} {st : List Value} (C : Zc Θ cc nL RX11 ret rm) (hkd : Θ.2.2.2.2.1 = kdC) {set_a : Int32} {person_a : Int32} (hrm : rm11_without.frames + 1 ≤ rm.frames ∧ 8 + (2 + 11) + rm11_without.locals ≤ rm.locals) (hcat : (st.map fun v => v.category).sum ≤ 8) (hk : kc ≤ rm.cells ∧ ks ≤ rm.slots) (hd : decode cc pc = .ok (.invokestatic 252, 3)) (kk : Z Θ nL kc ks Q σ (pc + 3) lv (.int (q11_without set_a person_a) :: st)) : Z Θ nL kc ks Q σ pc lv (.int person_a :: .int set_a :: st) := z_callS C [.int set_a, .int person_a] (some (.int (q11_without set_a person_a)), σ) 2 (c11_without (set_a := set_a) (person_a := person_a) hkd (zc_inj C)) w_3_161 w_4_32 w_3_160 w_1_1 ⟨rfl, rfl, hrm.1, hrm.2⟩ (by decide +kernel) rfl rfl hcat hk hd kk
theorem fp11_164 {Θ : Tz} {cc : ByteArray} {nL kc ks : Nat} {ret : Option FieldType} {rm : Room} {Q : State → Prop} {σ : St} {pc : Nat} {lv : List (Nat × Value)} {st : List Value} (C : Zc Θ cc nL RX11 ret rm) (hkd : Θ.2.2.2.2.1 = kdC) {th : Nat} (hth : isV th) {x : Int32} {σ1 : St} (he : σ1 = up σ th 9 x) (hd : decode cc pc = .ok (.putfield 164, 3)) (kk : Z Θ nL kc ks Q σ1 (pc + 3) lv st) : Z Θ nL kc ks Q σ pc lv (.int x :: .ref (zA Θ th) :: st) := by subst he; exact z_put C inT10 tyX10_ok nmX10 th (kV_0 hkd hth) rfl 9 (by decide) w_1_136 rfl rfl rfl rfl hd kk
theorem dX11_stand_0 : decode cX11_stand 0 = .ok (.aload_n 0, 1) := by decide +kernel
theorem dX11_stand_1 : decode cX11_stand 1 = .ok (.iload_n 1, 1) := by decide +kernel
theorem dX11_stand_2 : decode cX11_stand 2 = .ok (.invokevirtual 151, 3) := by decide +kernel
theorem dX11_stand_5 : decode cX11_stand 5 = .ok (.aload_n 0, 1) := by decide +kernel
theorem dX11_stand_6 : decode cX11_stand 6 = .ok (.getfield 19, 3) := by decide +kernel
theorem dX11_stand_9 : decode cX11_stand 9 = .ok (.getfield 171, 3) := by decide +kernel
theorem dX11_stand_12 : decode cX11_stand 12 = .ok (.iload_n 1, 1) := by decide +kernel
theorem dX11_stand_13 : decode cX11_stand 13 = .ok (.invokestatic 167, 3) := by decide +kernel
theorem dX11_stand_16 : decode cX11_stand 16 = .ok (.ifCond .eq 13, 3) := by decide +kernel
theorem dX11_stand_19 : decode cX11_stand 19 = .ok (.new 247, 3) := by decide +kernel
theorem dX11_stand_22 : decode cX11_stand 22 = .ok (.dup, 1) := by decide +kernel
theorem dX11_stand_23 : decode cX11_stand 23 = .ok (.ldc 249, 2) := by decide +kernel
theorem dX11_stand_25 : decode cX11_stand 25 = .ok (.invokespecial 251, 3) := by decide +kernel
theorem dX11_stand_28 : decode cX11_stand 28 = .ok (.athrow, 1) := by decide +kernel
theorem dX11_stand_29 : decode cX11_stand 29 = .ok (.aload_n 0, 1) := by decide +kernel
theorem dX11_stand_30 : decode cX11_stand 30 = .ok (.getfield 54, 3) := by decide +kernel
theorem dX11_stand_33 : decode cX11_stand 33 = .ok (.aload_n 0, 1) := by decide +kernel
theorem dX11_stand_34 : decode cX11_stand 34 = .ok (.getfield 19, 3) := by decide +kernel
theorem dX11_stand_37 : decode cX11_stand 37 = .ok (.invokevirtual 235, 3) := by decide +kernel
theorem dX11_stand_40 : decode cX11_stand 40 = .ok (.aload_n 0, 1) := by decide +kernel
theorem dX11_stand_41 : decode cX11_stand 41 = .ok (.getfield 19, 3) := by decide +kernel
theorem dX11_stand_44 : decode cX11_stand 44 = .ok (.getfield 164, 3) := by decide +kernel
theorem dX11_stand_47 : decode cX11_stand 47 = .ok (.iload_n 1, 1) := by decide +kernel
theorem dX11_stand_48 : decode cX11_stand 48 = .ok (.invokestatic 167, 3) := by decide +kernel
theorem dX11_stand_51 : decode cX11_stand 51 = .ok (.istore_n 3, 1) := by decide +kernel
theorem dX11_stand_52 : decode cX11_stand 52 = .ok (.aload_n 0, 1) := by decide +kernel
theorem dX11_stand_53 : decode cX11_stand 53 = .ok (.getfield 19, 3) := by decide +kernel
theorem dX11_stand_56 : decode cX11_stand 56 = .ok (.iload_n 2, 1) := by decide +kernel
theorem dX11_stand_57 : decode cX11_stand 57 = .ok (.ifCond .eq 17, 3) := by decide +kernel
theorem dX11_stand_60 : decode cX11_stand 60 = .ok (.aload_n 0, 1) := by decide +kernel
theorem dX11_stand_61 : decode cX11_stand 61 = .ok (.getfield 19, 3) := by decide +kernel
theorem dX11_stand_64 : decode cX11_stand 64 = .ok (.getfield 164, 3) := by decide +kernel
theorem dX11_stand_67 : decode cX11_stand 67 = .ok (.iconst 1, 1) := by decide +kernel
theorem dX11_stand_68 : decode cX11_stand 68 = .ok (.iload_n 1, 1) := by decide +kernel
theorem dX11_stand_69 : decode cX11_stand 69 = .ok (.ishl, 1) := by decide +kernel
theorem dX11_stand_70 : decode cX11_stand 70 = .ok (.ior, 1) := by decide +kernel
theorem dX11_stand_71 : decode cX11_stand 71 = .ok (.goto 14, 3) := by decide +kernel
theorem dX11_stand_74 : decode cX11_stand 74 = .ok (.aload_n 0, 1) := by decide +kernel
theorem dX11_stand_75 : decode cX11_stand 75 = .ok (.getfield 19, 3) := by decide +kernel
theorem dX11_stand_78 : decode cX11_stand 78 = .ok (.getfield 164, 3) := by decide +kernel
theorem dX11_stand_81 : decode cX11_stand 81 = .ok (.iload_n 1, 1) := by decide +kernel
theorem dX11_stand_82 : decode cX11_stand 82 = .ok (.invokestatic 252, 3) := by decide +kernel
theorem dX11_stand_85 : decode cX11_stand 85 = .ok (.putfield 164, 3) := by decide +kernel
theorem dX11_stand_88 : decode cX11_stand 88 = .ok (.iload_n 3, 1) := by decide +kernel
theorem dX11_stand_89 : decode cX11_stand 89 = .ok (.iload_n 2, 1) := by decide +kernel
theorem dX11_stand_90 : decode cX11_stand 90 = .ok (.if_icmp .eq 7, 3) := by decide +kernel
theorem dX11_stand_93 : decode cX11_stand 93 = .ok (.iconst 1, 1) := by decide +kernel
theorem dX11_stand_94 : decode cX11_stand 94 = .ok (.goto 4, 3) := by decide +kernel
theorem dX11_stand_97 : decode cX11_stand 97 = .ok (.iconst 0, 1) := by decide +kernel
theorem dX11_stand_98 : decode cX11_stand 98 = .ok (.ireturn, 1) := by decide +kernel
def q11_stand (σ : St) (person_a : Int32) (is_a : Bool) : Option (Sum Nat Bool × St) :=
  thn (q11_needPerson σ person_a) σ
  (if q11_isIn (σ 44 10) person_a = true then (some (.inl 1, σ)) else
  Option.bind (q4_remember σ 44) fun x7_ =>
  lt (q11_isIn (x7_ 44 9) person_a) fun was9_ =>
  lt (up x7_ 44 9 (if is_a = true then (x7_ 44 9) ||| (shl 1 person_a) else q11_without (x7_ 44 9) person_a)) fun σ16_ =>
  some (.inr (decide (¬ (b2i was9_) = (b2i is_a))), σ16_))
abbrev rm11_stand : Room := { frames := 7, cells := 2, slots := 12, locals := 111 }
set_option maxHeartbeats 4000000 in
set_option maxRecDepth 100000 in
theorem p11_stand {Θ : Tz} {σ : St} {ω : Om} (C : Zc Θ cX11_stand 4 RX11 (some .boolean) rm11_stand) (hkd : Θ.2.2.2.2.1 = kdC) (hlt : Θ.1.2.1.stackTraces = false) (het : ∀ x ∈ Θ.2.2.1.2.exceptionTable.toList, False) {person_a : Int32} {is_a : Bool} {r : (Sum Nat Bool × St)} (hf : q11_stand σ person_a is_a = some r) (hω : ω = om (fun v => some (.int (b2i v))) r) : Z Θ 4 0 0 (zQX Θ ω 2 12) σ 0 [(0, .ref (zA Θ 0)), (1, .int person_a), (2, .int (b2i is_a))] [] := by
  unfold q11_stand at hf
  refine z_aload_n C 0 dX11_stand_0 rfl rfl ?_
  refine z_iload_n C 1 dX11_stand_1 rfl rfl ?_
  refine zx_callV C het 0 [.int person_a] (q11_needPerson σ person_a) 1 6 1 (kC_0 hkd) rfl (c11_needPerson (person_a := person_a) hkd (zc_inj C) hlt) w_5_227 w_5_224 w_5_226 ws_LastLoaf_needPerson_I_V w_1_1 ⟨rfl, rfl, (Nat.le_of_ble_eq_true rfl), (Nat.le_of_ble_eq_true rfl)⟩ (by decide +kernel) rfl rfl (Nat.le_of_ble_eq_true rfl) ⟨(Nat.le_of_ble_eq_true rfl), (Nat.le_of_ble_eq_true rfl)⟩ dX11_stand_2 ⟨(Nat.le_of_ble_eq_true rfl), (Nat.le_of_ble_eq_true rfl)⟩ (fun e9 h2_ => by rw [h2_] at hf; cases hf; exact hω) (fun h1_ => ?_)
  rw [h1_] at hf
  replace hf := hf
  have K3_ : q11_isIn (σ 44 10) person_a = true → Z Θ 4 1 6 (zQX Θ ω 2 12) σ 19 [(0, .ref (zA Θ 0)), (1, .int person_a), (2, .int (b2i is_a))] [] := by
    intro h6_
    rw [if_pos h6_] at hf
    cases hf
    subst hω
    exact zx_throw (tx := "who is on the bench cannot stand") C hlt het 1 (by decide +kernel) w_6_98 w_1_29 (List.mem_of_getElem? (i := 38) rfl) th11_1_251g th11_1_251n th11_1_251o dX11_stand_19 dX11_stand_22 dX11_stand_23 dX11_stand_25 dX11_stand_28 ⟨(Nat.le_of_ble_eq_true rfl), (Nat.le_of_ble_eq_true rfl), (Nat.le_of_ble_eq_true rfl), (Nat.le_of_ble_eq_true rfl)⟩ (Nat.le_of_ble_eq_true rfl) ⟨(Nat.le_of_ble_eq_true rfl), (Nat.le_of_ble_eq_true rfl)⟩
  suffices K4_ : ¬ (q11_isIn (σ 44 10) person_a = true) → Z Θ 4 1 6 (zQX Θ ω 2 12) σ 29 [(0, .ref (zA Θ 0)), (1, .int person_a), (2, .int (b2i is_a))] [] by
    refine z_aload_n C 0 dX11_stand_5 rfl rfl ?_
    refine fg11_19 C hkd dX11_stand_6 ?_
    refine fg11_171 C hkd isV_44 dX11_stand_9 ?_
    refine z_iload_n C 1 dX11_stand_12 rfl rfl ?_
    refine cr11_167 (set_a := (σ 44 10)) (person_a := person_a) C hkd  ⟨(Nat.le_of_ble_eq_true rfl), (Nat.le_of_ble_eq_true rfl)⟩ (Nat.le_of_ble_eq_true rfl) ⟨(Nat.le_of_ble_eq_true rfl), (Nat.le_of_ble_eq_true rfl)⟩ dX11_stand_13 ?_
    refine cb_f C 29 dX11_stand_16 (by decide) (fun h5_ => ?_) (fun h5_ => ?_)
    · exact K3_ h5_
    · exact K4_ h5_
  intro h6_
  rw [if_neg h6_] at hf
  refine z_aload_n C 0 dX11_stand_29 rfl rfl ?_
  refine fg11_54 C hkd dX11_stand_30 ?_
  refine z_aload_n C 0 dX11_stand_33 rfl rfl ?_
  refine fg11_19 C hkd dX11_stand_34 ?_
  obtain ⟨x7_, h8_, hf⟩ := ob hf
  refine cr11_235 (village_a := 44) C hkd isV_44 h8_ ⟨(Nat.le_of_ble_eq_true rfl), (Nat.le_of_ble_eq_true rfl)⟩ (Nat.le_of_ble_eq_true rfl) ⟨(Nat.le_of_ble_eq_true rfl), (Nat.le_of_ble_eq_true rfl)⟩ dX11_stand_37 ?_
  refine z_aload_n C 0 dX11_stand_40 rfl rfl ?_
  refine fg11_19 C hkd dX11_stand_41 ?_
  refine fg11_164 C hkd isV_44 dX11_stand_44 ?_
  refine z_iload_n C 1 dX11_stand_47 rfl rfl ?_
  refine cr11_167 (set_a := (x7_ 44 9)) (person_a := person_a) C hkd  ⟨(Nat.le_of_ble_eq_true rfl), (Nat.le_of_ble_eq_true rfl)⟩ (Nat.le_of_ble_eq_true rfl) ⟨(Nat.le_of_ble_eq_true rfl), (Nat.le_of_ble_eq_true rfl)⟩ dX11_stand_48 ?_
  obtain ⟨was9_, h10_, hf⟩ := lt_ hf
  refine z_istN C dX11_stand_51 (congrArg b2i h10_) rfl (Nat.le_of_ble_eq_true rfl) rfl ?_
  refine z_aload_n C 1 dX11_stand_52 rfl rfl ?_
  refine fg11_19 C hkd dX11_stand_53 ?_
  suffices K11_ : Z Θ 4 1 6 (zQX Θ ω 2 12) x7_ 85 [(3, .int (b2i was9_)), (0, .ref (zA Θ 0)), (1, .int person_a), (2, .int (b2i is_a))] [.int (if is_a = true then (x7_ 44 9) ||| (shl 1 person_a) else q11_without (x7_ 44 9) person_a), .ref (zA Θ 44)] by
    have K12_ : is_a = true → Z Θ 4 1 6 (zQX Θ ω 2 12) x7_ 60 [(3, .int (b2i was9_)), (0, .ref (zA Θ 0)), (1, .int person_a), (2, .int (b2i is_a))] [.ref (zA Θ 44)] := by
      intro h15_
      rw [if_pos h15_] at K11_
      refine z_aload_n C 1 dX11_stand_60 rfl rfl ?_
      refine fg11_19 C hkd dX11_stand_61 ?_
      refine fg11_164 C hkd isV_44 dX11_stand_64 ?_
      refine z_iconst (v := 1) C dX11_stand_67 ic_1 ?_
      refine z_iload_n C 2 dX11_stand_68 rfl rfl ?_
      refine z_shl C dX11_stand_69 ?_
      refine z_ior C dX11_stand_70 ?_
      refine z_goto C 85 dX11_stand_71 (by decide) ?_
      exact K11_
    have K13_ : ¬ (is_a = true) → Z Θ 4 1 6 (zQX Θ ω 2 12) x7_ 74 [(3, .int (b2i was9_)), (0, .ref (zA Θ 0)), (1, .int person_a), (2, .int (b2i is_a))] [.ref (zA Θ 44)] := by
      intro h15_
      rw [if_neg h15_] at K11_
      refine z_aload_n C 1 dX11_stand_74 rfl rfl ?_
      refine fg11_19 C hkd dX11_stand_75 ?_
      refine fg11_164 C hkd isV_44 dX11_stand_78 ?_
      refine z_iload_n C 2 dX11_stand_81 rfl rfl ?_
      refine cr11_252 (set_a := (x7_ 44 9)) (person_a := person_a) C hkd  ⟨(Nat.le_of_ble_eq_true rfl), (Nat.le_of_ble_eq_true rfl)⟩ (Nat.le_of_ble_eq_true rfl) ⟨(Nat.le_of_ble_eq_true rfl), (Nat.le_of_ble_eq_true rfl)⟩ dX11_stand_82 ?_
      exact K11_
    refine z_iload_n C 3 dX11_stand_56 rfl rfl ?_
    refine cb_f C 74 dX11_stand_57 (by decide) (fun h14_ => ?_) (fun h14_ => ?_)
    · exact K12_ h14_
    · exact K13_ h14_
  obtain ⟨σ16_, h17_, hf⟩ := lt_ hf
  refine fp11_164 C hkd isV_44 h17_ dX11_stand_85 ?_
  suffices K18_ : Z Θ 4 1 6 (zQX Θ ω 2 12) σ16_ 98 [(3, .int (b2i was9_)), (0, .ref (zA Θ 0)), (1, .int person_a), (2, .int (b2i is_a))] [.int (b2i (decide (¬ (b2i was9_) = (b2i is_a))))] by
    have K19_ : ¬ (b2i was9_) = (b2i is_a) → Z Θ 4 1 6 (zQX Θ ω 2 12) σ16_ 93 [(3, .int (b2i was9_)), (0, .ref (zA Θ 0)), (1, .int person_a), (2, .int (b2i is_a))] [] := by
      intro h22_
      rw [decide_eq_true h22_] at K18_
      refine z_iconst (v := 1) C dX11_stand_93 ic_1 ?_
      refine z_goto C 98 dX11_stand_94 (by decide) ?_
      exact K18_
    have K20_ : ¬ (¬ (b2i was9_) = (b2i is_a)) → Z Θ 4 1 6 (zQX Θ ω 2 12) σ16_ 97 [(3, .int (b2i was9_)), (0, .ref (zA Θ 0)), (1, .int person_a), (2, .int (b2i is_a))] [] := by
      intro h22_
      rw [decide_eq_false h22_] at K18_
      refine z_iconst (v := 0) C dX11_stand_97 ic_0 ?_
      exact K18_
    refine z_iload_n C 0 dX11_stand_88 rfl rfl ?_
    refine z_iload_n C 3 dX11_stand_89 rfl rfl ?_
    refine c_ne_f C 97 dX11_stand_90 (by decide) (fun h21_ => ?_) (fun h21_ => ?_)
    · exact K19_ h21_
    · exact K20_ h21_
  cases hf
  subst hω
  exact zx_zret C ⟨(Nat.le_of_ble_eq_true rfl), (Nat.le_of_ble_eq_true rfl)⟩ (b2i_narrow _) dX11_stand_98
theorem c11_stand {l : Launch} {kd : List KD} {w : Wp} {σ : St} {person_a : Int32} {is_a : Bool} (hkd : kd = kdC) (hi : zI kd w) (hlt : l.stackTraces = false) {r : (Sum Nat Bool × St)} (hf : q11_stand σ person_a is_a = some r) : zX l kd w yX11_stand cX11_stand 4 (some .boolean) rm11_stand [.ref (w.2.2.1 0), .int person_a, .int (b2i is_a)] σ (om (fun v => some (.int (b2i v))) r) 2 12 := zX_of rfl hi (Nat.le_of_ble_eq_true rfl) (fun Θ hl hw C het => by
  obtain ⟨Θ1, Θ2, Θ3, Θ4, Θ5⟩ := Θ
  cases hw
  cases hl
  exact p11_stand C hkd hlt het  hf rfl)
/-! LastLoaf.like -/
theorem w_1_114 : Cond.fieldLink "LastLoaf" (255 : Nat) "LastLoaf$Village" "likes" "[I" ∈ TB := tb_in (lwt_1 (List.mem_of_getElem? (i := 114) (by decide +kernel))) rfl
theorem fg11_255 {Θ : Tz} {cc : ByteArray} {nL kc ks : Nat} {ret : Option FieldType} {rm : Room} {Q : State → Prop} {σ : St} {pc : Nat} {lv : List (Nat × Value)} {st : List Value} (C : Zc Θ cc nL RX11 ret rm) (hkd : Θ.2.2.2.2.1 = kdC) {th : Nat} (hth : isV th) (hd : decode cc pc = .ok (.getfield 255, 3)) (kk : Z Θ nL kc ks Q σ (pc + 3) lv (.ref (zA Θ (th + 6)) :: st)) : Z Θ nL kc ks Q σ pc lv (.ref (zA Θ th) :: st) := z_get C inT10 th (kV_0 hkd hth) rfl 5 (by decide) w_1_114 rfl hd kk
theorem dX11_like_0 : decode cX11_like 0 = .ok (.aload_n 0, 1) := by decide +kernel
theorem dX11_like_1 : decode cX11_like 1 = .ok (.iload_n 1, 1) := by decide +kernel
theorem dX11_like_2 : decode cX11_like 2 = .ok (.iload_n 2, 1) := by decide +kernel
theorem dX11_like_3 : decode cX11_like 3 = .ok (.invokevirtual 212, 3) := by decide +kernel
theorem dX11_like_6 : decode cX11_like 6 = .ok (.iload_n 3, 1) := by decide +kernel
theorem dX11_like_7 : decode cX11_like 7 = .ok (.iconst 0, 1) := by decide +kernel
theorem dX11_like_8 : decode cX11_like 8 = .ok (.bipush 9, 2) := by decide +kernel
theorem dX11_like_10 : decode cX11_like 10 = .ok (.invokestatic 231, 3) := by decide +kernel
theorem dX11_like_13 : decode cX11_like 13 = .ok (.aload_n 0, 1) := by decide +kernel
theorem dX11_like_14 : decode cX11_like 14 = .ok (.getfield 54, 3) := by decide +kernel
theorem dX11_like_17 : decode cX11_like 17 = .ok (.aload_n 0, 1) := by decide +kernel
theorem dX11_like_18 : decode cX11_like 18 = .ok (.getfield 19, 3) := by decide +kernel
theorem dX11_like_21 : decode cX11_like 21 = .ok (.invokevirtual 235, 3) := by decide +kernel
theorem dX11_like_24 : decode cX11_like 24 = .ok (.aload_n 0, 1) := by decide +kernel
theorem dX11_like_25 : decode cX11_like 25 = .ok (.getfield 19, 3) := by decide +kernel
theorem dX11_like_28 : decode cX11_like 28 = .ok (.iload_n 1, 1) := by decide +kernel
theorem dX11_like_29 : decode cX11_like 29 = .ok (.iload_n 2, 1) := by decide +kernel
theorem dX11_like_30 : decode cX11_like 30 = .ok (.invokevirtual 216, 3) := by decide +kernel
theorem dX11_like_33 : decode cX11_like 33 = .ok (.istore 4, 2) := by decide +kernel
theorem dX11_like_35 : decode cX11_like 35 = .ok (.aload_n 0, 1) := by decide +kernel
theorem dX11_like_36 : decode cX11_like 36 = .ok (.getfield 19, 3) := by decide +kernel
theorem dX11_like_39 : decode cX11_like 39 = .ok (.getfield 255, 3) := by decide +kernel
theorem dX11_like_42 : decode cX11_like 42 = .ok (.iload_n 1, 1) := by decide +kernel
theorem dX11_like_43 : decode cX11_like 43 = .ok (.bipush 6, 2) := by decide +kernel
theorem dX11_like_45 : decode cX11_like 45 = .ok (.imul, 1) := by decide +kernel
theorem dX11_like_46 : decode cX11_like 46 = .ok (.iload_n 2, 1) := by decide +kernel
theorem dX11_like_47 : decode cX11_like 47 = .ok (.iadd, 1) := by decide +kernel
theorem dX11_like_48 : decode cX11_like 48 = .ok (.iload_n 3, 1) := by decide +kernel
theorem dX11_like_49 : decode cX11_like 49 = .ok (.iastore, 1) := by decide +kernel
theorem dX11_like_50 : decode cX11_like 50 = .ok (.iload 4, 2) := by decide +kernel
theorem dX11_like_52 : decode cX11_like 52 = .ok (.ireturn, 1) := by decide +kernel
def q11_like (σ : St) (person_a : Int32) (other_a : Int32) (n_a : Int32) : Option (Sum Nat Int32 × St) :=
  thn (q11_needTwo σ person_a other_a) σ
  (thn (q11_needNumber n_a 0 9) σ
  (Option.bind (q4_remember σ 44) fun x5_ =>
  Option.bind (q10_likingOf x5_ 44 person_a other_a) fun x7_ =>
  Option.bind (sa x5_ (44 + 6) 36 ((person_a * 6) + other_a) n_a) fun σ9_ =>
  some (.inr x7_, σ9_)))
abbrev rm11_like : Room := { frames := 8, cells := 4, slots := 24, locals := 133 }
set_option maxHeartbeats 4000000 in
set_option maxRecDepth 100000 in
theorem p11_like {Θ : Tz} {σ : St} {ω : Om} (C : Zc Θ cX11_like 5 RX11 (some .int) rm11_like) (hkd : Θ.2.2.2.2.1 = kdC) (hlt : Θ.1.2.1.stackTraces = false) (het : ∀ x ∈ Θ.2.2.1.2.exceptionTable.toList, False) {person_a : Int32} {other_a : Int32} {n_a : Int32} {r : (Sum Nat Int32 × St)} (hf : q11_like σ person_a other_a n_a = some r) (hω : ω = om (fun v => some (.int v)) r) : Z Θ 5 0 0 (zQX Θ ω 4 24) σ 0 [(0, .ref (zA Θ 0)), (1, .int person_a), (2, .int other_a), (3, .int n_a)] [] := by
  unfold q11_like at hf
  refine z_aload_n C 0 dX11_like_0 rfl rfl ?_
  refine z_iload_n C 1 dX11_like_1 rfl rfl ?_
  refine z_iload_n C 2 dX11_like_2 rfl rfl ?_
  refine zx_callV C het 0 [.int person_a, .int other_a] (q11_needTwo σ person_a other_a) 3 18 2 (kC_0 hkd) rfl (c11_needTwo (person_a := person_a) (other_a := other_a) hkd (zc_inj C) hlt) w_6_55 w_6_52 w_6_54 ws_LastLoaf_needTwo_II_V w_1_1 ⟨rfl, rfl, (Nat.le_of_ble_eq_true rfl), (Nat.le_of_ble_eq_true rfl)⟩ (by decide +kernel) rfl rfl (Nat.le_of_ble_eq_true rfl) ⟨(Nat.le_of_ble_eq_true rfl), (Nat.le_of_ble_eq_true rfl)⟩ dX11_like_3 ⟨(Nat.le_of_ble_eq_true rfl), (Nat.le_of_ble_eq_true rfl)⟩ (fun e9 h2_ => by rw [h2_] at hf; cases hf; exact hω) (fun h1_ => ?_)
  rw [h1_] at hf
  replace hf := hf
  refine z_iload_n C 3 dX11_like_6 rfl rfl ?_
  refine z_iconst (v := 0) C dX11_like_7 ic_0 ?_
  refine z_bipush (v := 9) C dX11_like_8 bp_9 ?_
  refine zx_callS C het [.int n_a, .int 0, .int 9] (q11_needNumber n_a 0 9) 1 6 3 (c11_needNumber (n_a := n_a) (least_a := 0) (most_a := 9) hkd (zc_inj C) hlt) w_6_83 w_6_81 w_6_82 w_1_1 ⟨rfl, rfl, (Nat.le_of_ble_eq_true rfl), (Nat.le_of_ble_eq_true rfl)⟩ (by decide +kernel) rfl rfl (Nat.le_of_ble_eq_true rfl) ⟨(Nat.le_of_ble_eq_true rfl), (Nat.le_of_ble_eq_true rfl)⟩ dX11_like_10 ⟨(Nat.le_of_ble_eq_true rfl), (Nat.le_of_ble_eq_true rfl)⟩ (fun e9 h4_ => by rw [h4_] at hf; cases hf; exact hω) (fun h3_ => ?_)
  rw [h3_] at hf
  replace hf := hf
  refine z_aload_n C 0 dX11_like_13 rfl rfl ?_
  refine fg11_54 C hkd dX11_like_14 ?_
  refine z_aload_n C 0 dX11_like_17 rfl rfl ?_
  refine fg11_19 C hkd dX11_like_18 ?_
  obtain ⟨x5_, h6_, hf⟩ := ob hf
  refine cr11_235 (village_a := 44) C hkd isV_44 h6_ ⟨(Nat.le_of_ble_eq_true rfl), (Nat.le_of_ble_eq_true rfl)⟩ (Nat.le_of_ble_eq_true rfl) ⟨(Nat.le_of_ble_eq_true rfl), (Nat.le_of_ble_eq_true rfl)⟩ dX11_like_21 ?_
  refine z_aload_n C 0 dX11_like_24 rfl rfl ?_
  refine fg11_19 C hkd dX11_like_25 ?_
  refine z_iload_n C 1 dX11_like_28 rfl rfl ?_
  refine z_iload_n C 2 dX11_like_29 rfl rfl ?_
  obtain ⟨x7_, h8_, hf⟩ := ob hf
  refine cr11_216 (th := 44) (person_a := person_a) (other_a := other_a) C hkd isV_44 h8_ ⟨(Nat.le_of_ble_eq_true rfl), (Nat.le_of_ble_eq_true rfl)⟩ (Nat.le_of_ble_eq_true rfl) ⟨(Nat.le_of_ble_eq_true rfl), (Nat.le_of_ble_eq_true rfl)⟩ dX11_like_30 ?_
  refine z_ist C dX11_like_33 rfl (Nat.le_of_ble_eq_true rfl) rfl ?_
  refine z_aload_n C 1 dX11_like_35 rfl rfl ?_
  refine fg11_19 C hkd dX11_like_36 ?_
  refine fg11_255 C hkd isV_44 dX11_like_39 ?_
  refine z_iload_n C 2 dX11_like_42 rfl rfl ?_
  refine z_bipush (v := 6) C dX11_like_43 bp_6 ?_
  refine z_imul C dX11_like_45 ?_
  refine z_iload_n C 3 dX11_like_46 rfl rfl ?_
  refine z_iadd C dX11_like_47 ?_
  refine z_iload_n C 4 dX11_like_48 rfl rfl ?_
  obtain ⟨σ9_, h10_, hf⟩ := ob hf
  refine z_sa C h10_ (kV_6 hkd isV_44) dX11_like_49 ?_
  refine z_iload C 0 dX11_like_50 rfl ?_
  cases hf
  subst hω
  exact zx_iret C ⟨(Nat.le_of_ble_eq_true rfl), (Nat.le_of_ble_eq_true rfl)⟩ dX11_like_52
theorem c11_like {l : Launch} {kd : List KD} {w : Wp} {σ : St} {person_a : Int32} {other_a : Int32} {n_a : Int32} (hkd : kd = kdC) (hi : zI kd w) (hlt : l.stackTraces = false) {r : (Sum Nat Int32 × St)} (hf : q11_like σ person_a other_a n_a = some r) : zX l kd w yX11_like cX11_like 5 (some .int) rm11_like [.ref (w.2.2.1 0), .int person_a, .int other_a, .int n_a] σ (om (fun v => some (.int v)) r) 4 24 := zX_of rfl hi (Nat.le_of_ble_eq_true rfl) (fun Θ hl hw C het => by
  obtain ⟨Θ1, Θ2, Θ3, Θ4, Θ5⟩ := Θ
  cases hw
  cases hl
  exact p11_like C hkd hlt het  hf rfl)
/-! LastLoaf.needParty -/
theorem dX11_needParty_0 : decode cX11_needParty 0 = .ok (.iload_n 0, 1) := by decide +kernel
theorem dX11_needParty_1 : decode cX11_needParty 1 = .ok (.ifCond .lt 8, 3) := by decide +kernel
theorem dX11_needParty_4 : decode cX11_needParty 4 = .ok (.iload_n 0, 1) := by decide +kernel
theorem dX11_needParty_5 : decode cX11_needParty 5 = .ok (.iconst 3, 1) := by decide +kernel
theorem dX11_needParty_6 : decode cX11_needParty 6 = .ok (.if_icmp .lt 14, 3) := by decide +kernel
theorem dX11_needParty_9 : decode cX11_needParty 9 = .ok (.new 223, 3) := by decide +kernel
theorem dX11_needParty_12 : decode cX11_needParty 12 = .ok (.dup, 1) := by decide +kernel
theorem dX11_needParty_13 : decode cX11_needParty 13 = .ok (.ldc_w 462, 3) := by decide +kernel
theorem dX11_needParty_16 : decode cX11_needParty 16 = .ok (.invokespecial 227, 3) := by decide +kernel
theorem dX11_needParty_19 : decode cX11_needParty 19 = .ok (.athrow, 1) := by decide +kernel
theorem dX11_needParty_20 : decode cX11_needParty 20 = .ok (.return_, 1) := by decide +kernel
def q11_needParty (party_a : Int32) : Option Nat :=
  if (party_a < 0) ∨ (3 ≤ party_a) then (some 2) else
  none
abbrev rm11_needParty : Room := { frames := 6, cells := 1, slots := 6, locals := 90 }
set_option maxHeartbeats 4000000 in
set_option maxRecDepth 100000 in
theorem p11_needParty {Θ : Tz} {σ : St} {ω : Om} (C : Zc Θ cX11_needParty 1 RX11 none rm11_needParty) (hkd : Θ.2.2.2.2.1 = kdC) (hlt : Θ.1.2.1.stackTraces = false) (het : ∀ x ∈ Θ.2.2.1.2.exceptionTable.toList, False) {party_a : Int32} {r : Option Nat} (hf : q11_needParty party_a = r) (hω : ω = omN r σ) : Z Θ 1 0 0 (zQX Θ ω 1 6) σ 0 [(0, .int party_a)] [] := by
  unfold q11_needParty at hf
  have K1_ : (party_a < 0) ∨ (3 ≤ party_a) → Z Θ 1 0 0 (zQX Θ ω 1 6) σ 9 [(0, .int party_a)] [] := by
    intro h5_
    rw [if_pos h5_] at hf
    subst hf
    subst hω
    exact zx_throwW (tx := "there is no such party") C hlt het 2 (by decide +kernel) w_5_228 w_1_25 (List.mem_of_getElem? (i := 39) rfl) th11_2_227g th11_2_227n th11_2_227o dX11_needParty_9 dX11_needParty_12 dX11_needParty_13 dX11_needParty_16 dX11_needParty_19 ⟨(Nat.le_of_ble_eq_true rfl), (Nat.le_of_ble_eq_true rfl), (Nat.le_of_ble_eq_true rfl), (Nat.le_of_ble_eq_true rfl)⟩ (Nat.le_of_ble_eq_true rfl) ⟨(Nat.le_of_ble_eq_true rfl), (Nat.le_of_ble_eq_true rfl)⟩
  suffices K2_ : ¬ ((party_a < 0) ∨ (3 ≤ party_a)) → Z Θ 1 0 0 (zQX Θ ω 1 6) σ 20 [(0, .int party_a)] [] by
    refine z_iload_n C 0 dX11_needParty_0 rfl rfl ?_
    refine c0_lt_t C 9 dX11_needParty_1 (by decide) (fun h3_ => ?_) (fun h3_ => ?_)
    · exact K1_ (Or.inl h3_)
    · refine z_iload_n C 0 dX11_needParty_4 rfl rfl ?_
      refine z_iconst (v := 3) C dX11_needParty_5 ic_3 ?_
      refine c_ge_f C 20 dX11_needParty_6 (by decide) (fun h4_ => ?_) (fun h4_ => ?_)
      · exact K1_ (Or.inr h4_)
      · exact K2_ (fun n => n.elim h3_ h4_)
  intro h5_
  rw [if_neg h5_] at hf
  subst hf
  subst hω
  exact zx_vret C ⟨(Nat.le_of_ble_eq_true rfl), (Nat.le_of_ble_eq_true rfl)⟩ dX11_needParty_20
theorem c11_needParty {l : Launch} {kd : List KD} {w : Wp} {σ : St} {party_a : Int32} (hkd : kd = kdC) (hi : zI kd w) (hlt : l.stackTraces = false) : zX l kd w yX11_needParty cX11_needParty 1 none rm11_needParty [.int party_a] σ (omN (q11_needParty party_a) σ) 1 6 := zX_of rfl hi (Nat.le_of_ble_eq_true rfl) (fun Θ hl hw C het => by
  obtain ⟨Θ1, Θ2, Θ3, Θ4, Θ5⟩ := Θ
  cases hw
  cases hl
  exact p11_needParty C hkd hlt het  rfl rfl)
/-! LastLoaf.join -/
theorem w_6_130 : Cond.code ({ cls := "LastLoaf", name := "needParty", desc := "(I)V" } : MethodName) prog_1_method_71_code (1 : Nat) (Option.none : Option ClassFile.FieldType) ∈ TB := tb_in (lwt_6 (List.mem_of_getElem? (i := 130) (by decide +kernel))) rfl
theorem w_6_128 : Cond.methodLink "LastLoaf" (258 : Nat) ({ cls := "LastLoaf", name := "needParty", desc := "(I)V" } : MethodName) ∈ TB := tb_in (lwt_6 (List.mem_of_getElem? (i := 128) (by decide +kernel))) rfl
theorem w_6_129 : Cond.static ({ cls := "LastLoaf", name := "needParty", desc := "(I)V" } : MethodName) ∈ TB := tb_in (lwt_6 (List.mem_of_getElem? (i := 129) (by decide +kernel))) rfl
theorem dX11_join_0 : decode cX11_join 0 = .ok (.aload_n 0, 1) := by decide +kernel
theorem dX11_join_1 : decode cX11_join 1 = .ok (.iload_n 1, 1) := by decide +kernel
theorem dX11_join_2 : decode cX11_join 2 = .ok (.invokevirtual 151, 3) := by decide +kernel
theorem dX11_join_5 : decode cX11_join 5 = .ok (.iload_n 2, 1) := by decide +kernel
theorem dX11_join_6 : decode cX11_join 6 = .ok (.invokestatic 258, 3) := by decide +kernel
theorem dX11_join_9 : decode cX11_join 9 = .ok (.aload_n 0, 1) := by decide +kernel
theorem dX11_join_10 : decode cX11_join 10 = .ok (.getfield 54, 3) := by decide +kernel
theorem dX11_join_13 : decode cX11_join 13 = .ok (.aload_n 0, 1) := by decide +kernel
theorem dX11_join_14 : decode cX11_join 14 = .ok (.getfield 19, 3) := by decide +kernel
theorem dX11_join_17 : decode cX11_join 17 = .ok (.invokevirtual 235, 3) := by decide +kernel
theorem dX11_join_20 : decode cX11_join 20 = .ok (.aload_n 0, 1) := by decide +kernel
theorem dX11_join_21 : decode cX11_join 21 = .ok (.getfield 19, 3) := by decide +kernel
theorem dX11_join_24 : decode cX11_join 24 = .ok (.getfield 158, 3) := by decide +kernel
theorem dX11_join_27 : decode cX11_join 27 = .ok (.iload_n 1, 1) := by decide +kernel
theorem dX11_join_28 : decode cX11_join 28 = .ok (.iaload, 1) := by decide +kernel
theorem dX11_join_29 : decode cX11_join 29 = .ok (.istore_n 3, 1) := by decide +kernel
theorem dX11_join_30 : decode cX11_join 30 = .ok (.aload_n 0, 1) := by decide +kernel
theorem dX11_join_31 : decode cX11_join 31 = .ok (.getfield 19, 3) := by decide +kernel
theorem dX11_join_34 : decode cX11_join 34 = .ok (.getfield 158, 3) := by decide +kernel
theorem dX11_join_37 : decode cX11_join 37 = .ok (.iload_n 1, 1) := by decide +kernel
theorem dX11_join_38 : decode cX11_join 38 = .ok (.iload_n 2, 1) := by decide +kernel
theorem dX11_join_39 : decode cX11_join 39 = .ok (.iastore, 1) := by decide +kernel
theorem dX11_join_40 : decode cX11_join 40 = .ok (.iload_n 3, 1) := by decide +kernel
theorem dX11_join_41 : decode cX11_join 41 = .ok (.ireturn, 1) := by decide +kernel
def q11_join (σ : St) (person_a : Int32) (party_a : Int32) : Option (Sum Nat Int32 × St) :=
  thn (q11_needPerson σ person_a) σ
  (thn (q11_needParty party_a) σ
  (Option.bind (q4_remember σ 44) fun x5_ =>
  Option.bind (ag x5_ (44 + 2) 6 person_a) fun x7_ =>
  Option.bind (sa x5_ (44 + 2) 6 person_a party_a) fun σ9_ =>
  some (.inr x7_, σ9_)))
abbrev rm11_join : Room := { frames := 7, cells := 2, slots := 12, locals := 111 }
set_option maxHeartbeats 4000000 in
set_option maxRecDepth 100000 in
theorem p11_join {Θ : Tz} {σ : St} {ω : Om} (C : Zc Θ cX11_join 4 RX11 (some .int) rm11_join) (hkd : Θ.2.2.2.2.1 = kdC) (hlt : Θ.1.2.1.stackTraces = false) (het : ∀ x ∈ Θ.2.2.1.2.exceptionTable.toList, False) {person_a : Int32} {party_a : Int32} {r : (Sum Nat Int32 × St)} (hf : q11_join σ person_a party_a = some r) (hω : ω = om (fun v => some (.int v)) r) : Z Θ 4 0 0 (zQX Θ ω 2 12) σ 0 [(0, .ref (zA Θ 0)), (1, .int person_a), (2, .int party_a)] [] := by
  unfold q11_join at hf
  refine z_aload_n C 0 dX11_join_0 rfl rfl ?_
  refine z_iload_n C 1 dX11_join_1 rfl rfl ?_
  refine zx_callV C het 0 [.int person_a] (q11_needPerson σ person_a) 1 6 1 (kC_0 hkd) rfl (c11_needPerson (person_a := person_a) hkd (zc_inj C) hlt) w_5_227 w_5_224 w_5_226 ws_LastLoaf_needPerson_I_V w_1_1 ⟨rfl, rfl, (Nat.le_of_ble_eq_true rfl), (Nat.le_of_ble_eq_true rfl)⟩ (by decide +kernel) rfl rfl (Nat.le_of_ble_eq_true rfl) ⟨(Nat.le_of_ble_eq_true rfl), (Nat.le_of_ble_eq_true rfl)⟩ dX11_join_2 ⟨(Nat.le_of_ble_eq_true rfl), (Nat.le_of_ble_eq_true rfl)⟩ (fun e9 h2_ => by rw [h2_] at hf; cases hf; exact hω) (fun h1_ => ?_)
  rw [h1_] at hf
  replace hf := hf
  refine z_iload_n C 2 dX11_join_5 rfl rfl ?_
  refine zx_callS C het [.int party_a] (q11_needParty party_a) 1 6 1 (c11_needParty (party_a := party_a) hkd (zc_inj C) hlt) w_6_130 w_6_128 w_6_129 w_1_1 ⟨rfl, rfl, (Nat.le_of_ble_eq_true rfl), (Nat.le_of_ble_eq_true rfl)⟩ (by decide +kernel) rfl rfl (Nat.le_of_ble_eq_true rfl) ⟨(Nat.le_of_ble_eq_true rfl), (Nat.le_of_ble_eq_true rfl)⟩ dX11_join_6 ⟨(Nat.le_of_ble_eq_true rfl), (Nat.le_of_ble_eq_true rfl)⟩ (fun e9 h4_ => by rw [h4_] at hf; cases hf; exact hω) (fun h3_ => ?_)
  rw [h3_] at hf
  replace hf := hf
  refine z_aload_n C 0 dX11_join_9 rfl rfl ?_
  refine fg11_54 C hkd dX11_join_10 ?_
  refine z_aload_n C 0 dX11_join_13 rfl rfl ?_
  refine fg11_19 C hkd dX11_join_14 ?_
  obtain ⟨x5_, h6_, hf⟩ := ob hf
  refine cr11_235 (village_a := 44) C hkd isV_44 h6_ ⟨(Nat.le_of_ble_eq_true rfl), (Nat.le_of_ble_eq_true rfl)⟩ (Nat.le_of_ble_eq_true rfl) ⟨(Nat.le_of_ble_eq_true rfl), (Nat.le_of_ble_eq_true rfl)⟩ dX11_join_17 ?_
  refine z_aload_n C 0 dX11_join_20 rfl rfl ?_
  refine fg11_19 C hkd dX11_join_21 ?_
  refine fg11_158 C hkd isV_44 dX11_join_24 ?_
  refine z_iload_n C 1 dX11_join_27 rfl rfl ?_
  obtain ⟨x7_, h8_, hf⟩ := ob hf
  refine z_ag C h8_ (kV_2 hkd isV_44) dX11_join_28 ?_
  refine z_istN C dX11_join_29 rfl rfl (Nat.le_of_ble_eq_true rfl) rfl ?_
  refine z_aload_n C 1 dX11_join_30 rfl rfl ?_
  refine fg11_19 C hkd dX11_join_31 ?_
  refine fg11_158 C hkd isV_44 dX11_join_34 ?_
  refine z_iload_n C 2 dX11_join_37 rfl rfl ?_
  refine z_iload_n C 3 dX11_join_38 rfl rfl ?_
  obtain ⟨σ9_, h10_, hf⟩ := ob hf
  refine z_sa C h10_ (kV_2 hkd isV_44) dX11_join_39 ?_
  refine z_iload_n C 0 dX11_join_40 rfl rfl ?_
  cases hf
  subst hω
  exact zx_iret C ⟨(Nat.le_of_ble_eq_true rfl), (Nat.le_of_ble_eq_true rfl)⟩ dX11_join_41
theorem c11_join {l : Launch} {kd : List KD} {w : Wp} {σ : St} {person_a : Int32} {party_a : Int32} (hkd : kd = kdC) (hi : zI kd w) (hlt : l.stackTraces = false) {r : (Sum Nat Int32 × St)} (hf : q11_join σ person_a party_a = some r) : zX l kd w yX11_join cX11_join 4 (some .int) rm11_join [.ref (w.2.2.1 0), .int person_a, .int party_a] σ (om (fun v => some (.int v)) r) 2 12 := zX_of rfl hi (Nat.le_of_ble_eq_true rfl) (fun Θ hl hw C het => by
  obtain ⟨Θ1, Θ2, Θ3, Θ4, Θ5⟩ := Θ
  cases hw
  cases hl
  exact p11_join C hkd hlt het  hf rfl)
/-! LastLoaf.bring -/
theorem w_1_146 : Cond.fieldLink "LastLoaf" (261 : Nat) "LastLoaf$Village" "flour" "I" ∈ TB := tb_in (lwt_1 (List.mem_of_getElem? (i := 146) (by decide +kernel))) rfl
theorem fg11_261 {Θ : Tz} {cc : ByteArray} {nL kc ks : Nat} {ret : Option FieldType} {rm : Room} {Q : State → Prop} {σ : St} {pc : Nat} {lv : List (Nat × Value)} {st : List Value} (C : Zc Θ cc nL RX11 ret rm) (hkd : Θ.2.2.2.2.1 = kdC) {th : Nat} (hth : isV th) (hd : decode cc pc = .ok (.getfield 261, 3)) (kk : Z Θ nL kc ks Q σ (pc + 3) lv (.int (σ th 11) :: st)) : Z Θ nL kc ks Q σ pc lv (.ref (zA Θ th) :: st) := z_get C inT10 th (kV_0 hkd hth) rfl 11 (by decide) w_1_146 rfl hd kk
theorem w_6_139 : Cond.methodLink "LastLoaf" (264 : Nat) ({ cls := "java/lang/Math", name := "min", desc := "(II)I" } : MethodName) ∈ TB := tb_in (lwt_6 (List.mem_of_getElem? (i := 139) (by decide +kernel))) rfl
theorem fp11_261 {Θ : Tz} {cc : ByteArray} {nL kc ks : Nat} {ret : Option FieldType} {rm : Room} {Q : State → Prop} {σ : St} {pc : Nat} {lv : List (Nat × Value)} {st : List Value} (C : Zc Θ cc nL RX11 ret rm) (hkd : Θ.2.2.2.2.1 = kdC) {th : Nat} (hth : isV th) {x : Int32} {σ1 : St} (he : σ1 = up σ th 11 x) (hd : decode cc pc = .ok (.putfield 261, 3)) (kk : Z Θ nL kc ks Q σ1 (pc + 3) lv st) : Z Θ nL kc ks Q σ pc lv (.int x :: .ref (zA Θ th) :: st) := by subst he; exact z_put C inT10 tyX10_ok nmX10 th (kV_0 hkd hth) rfl 11 (by decide) w_1_146 rfl rfl rfl rfl hd kk
theorem dX11_bring_0 : decode cX11_bring 0 = .ok (.iload_n 1, 1) := by decide +kernel
theorem dX11_bring_1 : decode cX11_bring 1 = .ok (.iconst 1, 1) := by decide +kernel
theorem dX11_bring_2 : decode cX11_bring 2 = .ok (.sipush 999, 3) := by decide +kernel
theorem dX11_bring_5 : decode cX11_bring 5 = .ok (.invokestatic 231, 3) := by decide +kernel
theorem dX11_bring_8 : decode cX11_bring 8 = .ok (.aload_n 0, 1) := by decide +kernel
theorem dX11_bring_9 : decode cX11_bring 9 = .ok (.getfield 54, 3) := by decide +kernel
theorem dX11_bring_12 : decode cX11_bring 12 = .ok (.aload_n 0, 1) := by decide +kernel
theorem dX11_bring_13 : decode cX11_bring 13 = .ok (.getfield 19, 3) := by decide +kernel
theorem dX11_bring_16 : decode cX11_bring 16 = .ok (.invokevirtual 235, 3) := by decide +kernel
theorem dX11_bring_19 : decode cX11_bring 19 = .ok (.aload_n 0, 1) := by decide +kernel
theorem dX11_bring_20 : decode cX11_bring 20 = .ok (.getfield 19, 3) := by decide +kernel
theorem dX11_bring_23 : decode cX11_bring 23 = .ok (.sipush 9999, 3) := by decide +kernel
theorem dX11_bring_26 : decode cX11_bring 26 = .ok (.aload_n 0, 1) := by decide +kernel
theorem dX11_bring_27 : decode cX11_bring 27 = .ok (.getfield 19, 3) := by decide +kernel
theorem dX11_bring_30 : decode cX11_bring 30 = .ok (.getfield 261, 3) := by decide +kernel
theorem dX11_bring_33 : decode cX11_bring 33 = .ok (.iload_n 1, 1) := by decide +kernel
theorem dX11_bring_34 : decode cX11_bring 34 = .ok (.iadd, 1) := by decide +kernel
theorem dX11_bring_35 : decode cX11_bring 35 = .ok (.invokestatic 264, 3) := by decide +kernel
theorem dX11_bring_38 : decode cX11_bring 38 = .ok (.putfield 261, 3) := by decide +kernel
theorem dX11_bring_41 : decode cX11_bring 41 = .ok (.aload_n 0, 1) := by decide +kernel
theorem dX11_bring_42 : decode cX11_bring 42 = .ok (.getfield 19, 3) := by decide +kernel
theorem dX11_bring_45 : decode cX11_bring 45 = .ok (.getfield 261, 3) := by decide +kernel
theorem dX11_bring_48 : decode cX11_bring 48 = .ok (.ireturn, 1) := by decide +kernel
def q11_bring (σ : St) (n_a : Int32) : Option (Sum Nat Int32 × St) :=
  thn (q11_needNumber n_a 1 999) σ
  (Option.bind (q4_remember σ 44) fun x3_ =>
  lt (up x3_ 44 11 (imin 9999 ((x3_ 44 11) + n_a))) fun σ5_ =>
  some (.inr (σ5_ 44 11), σ5_))
abbrev rm11_bring : Room := { frames := 7, cells := 1, slots := 6, locals := 112 }
set_option maxHeartbeats 4000000 in
set_option maxRecDepth 100000 in
theorem p11_bring {Θ : Tz} {σ : St} {ω : Om} (C : Zc Θ cX11_bring 2 RX11 (some .int) rm11_bring) (hkd : Θ.2.2.2.2.1 = kdC) (hlt : Θ.1.2.1.stackTraces = false) (het : ∀ x ∈ Θ.2.2.1.2.exceptionTable.toList, False) {n_a : Int32} {r : (Sum Nat Int32 × St)} (hf : q11_bring σ n_a = some r) (hω : ω = om (fun v => some (.int v)) r) : Z Θ 2 0 0 (zQX Θ ω 1 6) σ 0 [(0, .ref (zA Θ 0)), (1, .int n_a)] [] := by
  unfold q11_bring at hf
  refine z_iload_n C 1 dX11_bring_0 rfl rfl ?_
  refine z_iconst (v := 1) C dX11_bring_1 ic_1 ?_
  refine z_sipush (v := 999) C dX11_bring_2 sp_999 ?_
  refine zx_callS C het [.int n_a, .int 1, .int 999] (q11_needNumber n_a 1 999) 1 6 3 (c11_needNumber (n_a := n_a) (least_a := 1) (most_a := 999) hkd (zc_inj C) hlt) w_6_83 w_6_81 w_6_82 w_1_1 ⟨rfl, rfl, (Nat.le_of_ble_eq_true rfl), (Nat.le_of_ble_eq_true rfl)⟩ (by decide +kernel) rfl rfl (Nat.le_of_ble_eq_true rfl) ⟨(Nat.le_of_ble_eq_true rfl), (Nat.le_of_ble_eq_true rfl)⟩ dX11_bring_5 ⟨(Nat.le_of_ble_eq_true rfl), (Nat.le_of_ble_eq_true rfl)⟩ (fun e9 h2_ => by rw [h2_] at hf; cases hf; exact hω) (fun h1_ => ?_)
  rw [h1_] at hf
  replace hf := hf
  refine z_aload_n C 0 dX11_bring_8 rfl rfl ?_
  refine fg11_54 C hkd dX11_bring_9 ?_
  refine z_aload_n C 0 dX11_bring_12 rfl rfl ?_
  refine fg11_19 C hkd dX11_bring_13 ?_
  obtain ⟨x3_, h4_, hf⟩ := ob hf
  refine cr11_235 (village_a := 44) C hkd isV_44 h4_ ⟨(Nat.le_of_ble_eq_true rfl), (Nat.le_of_ble_eq_true rfl)⟩ (Nat.le_of_ble_eq_true rfl) ⟨(Nat.le_of_ble_eq_true rfl), (Nat.le_of_ble_eq_true rfl)⟩ dX11_bring_16 ?_
  refine z_aload_n C 0 dX11_bring_19 rfl rfl ?_
  refine fg11_19 C hkd dX11_bring_20 ?_
  refine z_sipush (v := 9999) C dX11_bring_23 sp_9999 ?_
  refine z_aload_n C 0 dX11_bring_26 rfl rfl ?_
  refine fg11_19 C hkd dX11_bring_27 ?_
  refine fg11_261 C hkd isV_44 dX11_bring_30 ?_
  refine z_iload_n C 1 dX11_bring_33 rfl rfl ?_
  refine z_iadd C dX11_bring_34 ?_
  refine z_min C w_6_139 w_3_129 w_1_28 w_3_130 ⟨(Nat.le_of_ble_eq_true rfl), (Nat.le_of_ble_eq_true rfl)⟩ (Nat.le_of_ble_eq_true rfl) ⟨(Nat.le_of_ble_eq_true rfl), (Nat.le_of_ble_eq_true rfl)⟩ dX11_bring_35 ?_
  obtain ⟨σ5_, h6_, hf⟩ := lt_ hf
  refine fp11_261 C hkd isV_44 h6_ dX11_bring_38 ?_
  refine z_aload_n C 0 dX11_bring_41 rfl rfl ?_
  refine fg11_19 C hkd dX11_bring_42 ?_
  refine fg11_261 C hkd isV_44 dX11_bring_45 ?_
  cases hf
  subst hω
  exact zx_iret C ⟨(Nat.le_of_ble_eq_true rfl), (Nat.le_of_ble_eq_true rfl)⟩ dX11_bring_48
theorem c11_bring {l : Launch} {kd : List KD} {w : Wp} {σ : St} {n_a : Int32} (hkd : kd = kdC) (hi : zI kd w) (hlt : l.stackTraces = false) {r : (Sum Nat Int32 × St)} (hf : q11_bring σ n_a = some r) : zX l kd w yX11_bring cX11_bring 2 (some .int) rm11_bring [.ref (w.2.2.1 0), .int n_a] σ (om (fun v => some (.int v)) r) 1 6 := zX_of rfl hi (Nat.le_of_ble_eq_true rfl) (fun Θ hl hw C het => by
  obtain ⟨Θ1, Θ2, Θ3, Θ4, Θ5⟩ := Θ
  cases hw
  cases hl
  exact p11_bring C hkd hlt het  hf rfl)
/-! LastLoaf.way -/
theorem w_1_155 : Cond.fieldLink "LastLoaf" (269 : Nat) "LastLoaf$Village" "way" "I" ∈ TB := tb_in (lwt_1 (List.mem_of_getElem? (i := 155) (by decide +kernel))) rfl
theorem fg11_269 {Θ : Tz} {cc : ByteArray} {nL kc ks : Nat} {ret : Option FieldType} {rm : Room} {Q : State → Prop} {σ : St} {pc : Nat} {lv : List (Nat × Value)} {st : List Value} (C : Zc Θ cc nL RX11 ret rm) (hkd : Θ.2.2.2.2.1 = kdC) {th : Nat} (hth : isV th) (hd : decode cc pc = .ok (.getfield 269, 3)) (kk : Z Θ nL kc ks Q σ (pc + 3) lv (.int (σ th 13) :: st)) : Z Θ nL kc ks Q σ pc lv (.ref (zA Θ th) :: st) := z_get C inT10 th (kV_0 hkd hth) rfl 13 (by decide) w_1_155 rfl hd kk
theorem fp11_269 {Θ : Tz} {cc : ByteArray} {nL kc ks : Nat} {ret : Option FieldType} {rm : Room} {Q : State → Prop} {σ : St} {pc : Nat} {lv : List (Nat × Value)} {st : List Value} (C : Zc Θ cc nL RX11 ret rm) (hkd : Θ.2.2.2.2.1 = kdC) {th : Nat} (hth : isV th) {x : Int32} {σ1 : St} (he : σ1 = up σ th 13 x) (hd : decode cc pc = .ok (.putfield 269, 3)) (kk : Z Θ nL kc ks Q σ1 (pc + 3) lv st) : Z Θ nL kc ks Q σ pc lv (.int x :: .ref (zA Θ th) :: st) := by subst he; exact z_put C inT10 tyX10_ok nmX10 th (kV_0 hkd hth) rfl 13 (by decide) w_1_155 rfl rfl rfl rfl hd kk
theorem dX11_way_0 : decode cX11_way 0 = .ok (.iload_n 1, 1) := by decide +kernel
theorem dX11_way_1 : decode cX11_way 1 = .ok (.iconst 0, 1) := by decide +kernel
theorem dX11_way_2 : decode cX11_way 2 = .ok (.iconst 5, 1) := by decide +kernel
theorem dX11_way_3 : decode cX11_way 3 = .ok (.invokestatic 231, 3) := by decide +kernel
theorem dX11_way_6 : decode cX11_way 6 = .ok (.aload_n 0, 1) := by decide +kernel
theorem dX11_way_7 : decode cX11_way 7 = .ok (.getfield 54, 3) := by decide +kernel
theorem dX11_way_10 : decode cX11_way 10 = .ok (.aload_n 0, 1) := by decide +kernel
theorem dX11_way_11 : decode cX11_way 11 = .ok (.getfield 19, 3) := by decide +kernel
theorem dX11_way_14 : decode cX11_way 14 = .ok (.invokevirtual 235, 3) := by decide +kernel
theorem dX11_way_17 : decode cX11_way 17 = .ok (.aload_n 0, 1) := by decide +kernel
theorem dX11_way_18 : decode cX11_way 18 = .ok (.getfield 19, 3) := by decide +kernel
theorem dX11_way_21 : decode cX11_way 21 = .ok (.getfield 269, 3) := by decide +kernel
theorem dX11_way_24 : decode cX11_way 24 = .ok (.istore_n 2, 1) := by decide +kernel
theorem dX11_way_25 : decode cX11_way 25 = .ok (.aload_n 0, 1) := by decide +kernel
theorem dX11_way_26 : decode cX11_way 26 = .ok (.getfield 19, 3) := by decide +kernel
theorem dX11_way_29 : decode cX11_way 29 = .ok (.iload_n 1, 1) := by decide +kernel
theorem dX11_way_30 : decode cX11_way 30 = .ok (.putfield 269, 3) := by decide +kernel
theorem dX11_way_33 : decode cX11_way 33 = .ok (.iload_n 2, 1) := by decide +kernel
theorem dX11_way_34 : decode cX11_way 34 = .ok (.ireturn, 1) := by decide +kernel
def q11_way (σ : St) (n_a : Int32) : Option (Sum Nat Int32 × St) :=
  thn (q11_needNumber n_a 0 5) σ
  (Option.bind (q4_remember σ 44) fun x3_ =>
  lt (x3_ 44 13) fun was5_ =>
  lt (up x3_ 44 13 n_a) fun σ7_ =>
  some (.inr was5_, σ7_))
abbrev rm11_way : Room := { frames := 7, cells := 1, slots := 6, locals := 112 }
set_option maxHeartbeats 4000000 in
set_option maxRecDepth 100000 in
theorem p11_way {Θ : Tz} {σ : St} {ω : Om} (C : Zc Θ cX11_way 3 RX11 (some .int) rm11_way) (hkd : Θ.2.2.2.2.1 = kdC) (hlt : Θ.1.2.1.stackTraces = false) (het : ∀ x ∈ Θ.2.2.1.2.exceptionTable.toList, False) {n_a : Int32} {r : (Sum Nat Int32 × St)} (hf : q11_way σ n_a = some r) (hω : ω = om (fun v => some (.int v)) r) : Z Θ 3 0 0 (zQX Θ ω 1 6) σ 0 [(0, .ref (zA Θ 0)), (1, .int n_a)] [] := by
  unfold q11_way at hf
  refine z_iload_n C 1 dX11_way_0 rfl rfl ?_
  refine z_iconst (v := 0) C dX11_way_1 ic_0 ?_
  refine z_iconst (v := 5) C dX11_way_2 ic_5 ?_
  refine zx_callS C het [.int n_a, .int 0, .int 5] (q11_needNumber n_a 0 5) 1 6 3 (c11_needNumber (n_a := n_a) (least_a := 0) (most_a := 5) hkd (zc_inj C) hlt) w_6_83 w_6_81 w_6_82 w_1_1 ⟨rfl, rfl, (Nat.le_of_ble_eq_true rfl), (Nat.le_of_ble_eq_true rfl)⟩ (by decide +kernel) rfl rfl (Nat.le_of_ble_eq_true rfl) ⟨(Nat.le_of_ble_eq_true rfl), (Nat.le_of_ble_eq_true rfl)⟩ dX11_way_3 ⟨(Nat.le_of_ble_eq_true rfl), (Nat.le_of_ble_eq_true rfl)⟩ (fun e9 h2_ => by rw [h2_] at hf; cases hf; exact hω) (fun h1_ => ?_)
  rw [h1_] at hf
  replace hf := hf
  refine z_aload_n C 0 dX11_way_6 rfl rfl ?_
  refine fg11_54 C hkd dX11_way_7 ?_
  refine z_aload_n C 0 dX11_way_10 rfl rfl ?_
  refine fg11_19 C hkd dX11_way_11 ?_
  obtain ⟨x3_, h4_, hf⟩ := ob hf
  refine cr11_235 (village_a := 44) C hkd isV_44 h4_ ⟨(Nat.le_of_ble_eq_true rfl), (Nat.le_of_ble_eq_true rfl)⟩ (Nat.le_of_ble_eq_true rfl) ⟨(Nat.le_of_ble_eq_true rfl), (Nat.le_of_ble_eq_true rfl)⟩ dX11_way_14 ?_
  refine z_aload_n C 0 dX11_way_17 rfl rfl ?_
  refine fg11_19 C hkd dX11_way_18 ?_
  refine fg11_269 C hkd isV_44 dX11_way_21 ?_
  obtain ⟨was5_, h6_, hf⟩ := lt_ hf
  refine z_istN C dX11_way_24 h6_ rfl (Nat.le_of_ble_eq_true rfl) rfl ?_
  refine z_aload_n C 1 dX11_way_25 rfl rfl ?_
  refine fg11_19 C hkd dX11_way_26 ?_
  refine z_iload_n C 2 dX11_way_29 rfl rfl ?_
  obtain ⟨σ7_, h8_, hf⟩ := lt_ hf
  refine fp11_269 C hkd isV_44 h8_ dX11_way_30 ?_
  refine z_iload_n C 0 dX11_way_33 rfl rfl ?_
  cases hf
  subst hω
  exact zx_iret C ⟨(Nat.le_of_ble_eq_true rfl), (Nat.le_of_ble_eq_true rfl)⟩ dX11_way_34
theorem c11_way {l : Launch} {kd : List KD} {w : Wp} {σ : St} {n_a : Int32} (hkd : kd = kdC) (hi : zI kd w) (hlt : l.stackTraces = false) {r : (Sum Nat Int32 × St)} (hf : q11_way σ n_a = some r) : zX l kd w yX11_way cX11_way 3 (some .int) rm11_way [.ref (w.2.2.1 0), .int n_a] σ (om (fun v => some (.int v)) r) 1 6 := zX_of rfl hi (Nat.le_of_ble_eq_true rfl) (fun Θ hl hw C het => by
  obtain ⟨Θ1, Θ2, Θ3, Θ4, Θ5⟩ := Θ
  cases hw
  cases hl
  exact p11_way C hkd hlt het  hf rfl)
/-! LastLoaf.pass -/
theorem w_6_155 : Cond.methodLink "LastLoaf" (274 : Nat) ({ cls := "LastLoaf$Village", name := "warm", desc := "(II)V" } : MethodName) ∈ TB := tb_in (lwt_6 (List.mem_of_getElem? (i := 155) (by decide +kernel))) rfl
theorem cr11_274 {Θ : Tz} {cc : ByteArray} {nL kc ks : Nat} {ret : Option FieldType} {rm : Room} {Q : State → Prop} {σ : St} {pc : Nat} {lv : List (Nat × Value)} {st : List Value} (C : Zc Θ cc nL RX11 ret rm) (hkd : Θ.2.2.2.2.1 = kdC) {th : Nat} {person_a : Int32} {other_a : Int32} (hth : isV th) {r : St} (hx : q10_warm σ th person_a other_a = some r) (hrm : rm10_warm.frames + 1 ≤ rm.frames ∧ 8 + (4 + 11) + rm10_warm.locals ≤ rm.locals) (hcat : (st.map fun v => v.category).sum ≤ 8) (hk : kc ≤ rm.cells ∧ ks ≤ rm.slots) (hd : decode cc pc = .ok (.invokevirtual 274, 3)) (kk : Z Θ nL kc ks Q r (pc + 3) lv st) : Z Θ nL kc ks Q σ pc lv (.int other_a :: .int person_a :: .ref (zA Θ th) :: st) := z_callV C th [.int person_a, .int other_a] (none, r) 2 (kV_0 hkd hth) rfl (c10_warm (th := th) (person_a := person_a) (other_a := other_a) hkd (zc_inj C) hth hx) w_3_229 w_6_155 w_3_227 w_3_228 w_1_3 ⟨rfl, rfl, hrm.1, hrm.2⟩ (by decide +kernel) rfl rfl hcat hk hd kk
theorem dX11_pass_0 : decode cX11_pass 0 = .ok (.aload_n 0, 1) := by decide +kernel
theorem dX11_pass_1 : decode cX11_pass 1 = .ok (.iload_n 1, 1) := by decide +kernel
theorem dX11_pass_2 : decode cX11_pass 2 = .ok (.iload_n 2, 1) := by decide +kernel
theorem dX11_pass_3 : decode cX11_pass 3 = .ok (.invokevirtual 212, 3) := by decide +kernel
theorem dX11_pass_6 : decode cX11_pass 6 = .ok (.aload_n 0, 1) := by decide +kernel
theorem dX11_pass_7 : decode cX11_pass 7 = .ok (.getfield 19, 3) := by decide +kernel
theorem dX11_pass_10 : decode cX11_pass 10 = .ok (.getfield 154, 3) := by decide +kernel
theorem dX11_pass_13 : decode cX11_pass 13 = .ok (.iload_n 1, 1) := by decide +kernel
theorem dX11_pass_14 : decode cX11_pass 14 = .ok (.iaload, 1) := by decide +kernel
theorem dX11_pass_15 : decode cX11_pass 15 = .ok (.ifCond .ne 31, 3) := by decide +kernel
theorem dX11_pass_18 : decode cX11_pass 18 = .ok (.aload_n 0, 1) := by decide +kernel
theorem dX11_pass_19 : decode cX11_pass 19 = .ok (.getfield 19, 3) := by decide +kernel
theorem dX11_pass_22 : decode cX11_pass 22 = .ok (.getfield 171, 3) := by decide +kernel
theorem dX11_pass_25 : decode cX11_pass 25 = .ok (.iload_n 1, 1) := by decide +kernel
theorem dX11_pass_26 : decode cX11_pass 26 = .ok (.invokestatic 167, 3) := by decide +kernel
theorem dX11_pass_29 : decode cX11_pass 29 = .ok (.ifCond .ne 17, 3) := by decide +kernel
theorem dX11_pass_32 : decode cX11_pass 32 = .ok (.aload_n 0, 1) := by decide +kernel
theorem dX11_pass_33 : decode cX11_pass 33 = .ok (.getfield 19, 3) := by decide +kernel
theorem dX11_pass_36 : decode cX11_pass 36 = .ok (.getfield 171, 3) := by decide +kernel
theorem dX11_pass_39 : decode cX11_pass 39 = .ok (.iload_n 2, 1) := by decide +kernel
theorem dX11_pass_40 : decode cX11_pass 40 = .ok (.invokestatic 167, 3) := by decide +kernel
theorem dX11_pass_43 : decode cX11_pass 43 = .ok (.ifCond .eq 14, 3) := by decide +kernel
theorem dX11_pass_46 : decode cX11_pass 46 = .ok (.new 247, 3) := by decide +kernel
theorem dX11_pass_49 : decode cX11_pass 49 = .ok (.dup, 1) := by decide +kernel
theorem dX11_pass_50 : decode cX11_pass 50 = .ok (.ldc_w 272, 3) := by decide +kernel
theorem dX11_pass_53 : decode cX11_pass 53 = .ok (.invokespecial 251, 3) := by decide +kernel
theorem dX11_pass_56 : decode cX11_pass 56 = .ok (.athrow, 1) := by decide +kernel
theorem dX11_pass_57 : decode cX11_pass 57 = .ok (.aload_n 0, 1) := by decide +kernel
theorem dX11_pass_58 : decode cX11_pass 58 = .ok (.getfield 54, 3) := by decide +kernel
theorem dX11_pass_61 : decode cX11_pass 61 = .ok (.aload_n 0, 1) := by decide +kernel
theorem dX11_pass_62 : decode cX11_pass 62 = .ok (.getfield 19, 3) := by decide +kernel
theorem dX11_pass_65 : decode cX11_pass 65 = .ok (.invokevirtual 235, 3) := by decide +kernel
theorem dX11_pass_68 : decode cX11_pass 68 = .ok (.aload_n 0, 1) := by decide +kernel
theorem dX11_pass_69 : decode cX11_pass 69 = .ok (.getfield 19, 3) := by decide +kernel
theorem dX11_pass_72 : decode cX11_pass 72 = .ok (.getfield 154, 3) := by decide +kernel
theorem dX11_pass_75 : decode cX11_pass 75 = .ok (.iload_n 1, 1) := by decide +kernel
theorem dX11_pass_76 : decode cX11_pass 76 = .ok (.iconst 1, 1) := by decide +kernel
theorem dX11_pass_77 : decode cX11_pass 77 = .ok (.iastore, 1) := by decide +kernel
theorem dX11_pass_78 : decode cX11_pass 78 = .ok (.aload_n 0, 1) := by decide +kernel
theorem dX11_pass_79 : decode cX11_pass 79 = .ok (.getfield 19, 3) := by decide +kernel
theorem dX11_pass_82 : decode cX11_pass 82 = .ok (.getfield 154, 3) := by decide +kernel
theorem dX11_pass_85 : decode cX11_pass 85 = .ok (.iload_n 2, 1) := by decide +kernel
theorem dX11_pass_86 : decode cX11_pass 86 = .ok (.iconst 0, 1) := by decide +kernel
theorem dX11_pass_87 : decode cX11_pass 87 = .ok (.iastore, 1) := by decide +kernel
theorem dX11_pass_88 : decode cX11_pass 88 = .ok (.aload_n 0, 1) := by decide +kernel
theorem dX11_pass_89 : decode cX11_pass 89 = .ok (.getfield 19, 3) := by decide +kernel
theorem dX11_pass_92 : decode cX11_pass 92 = .ok (.iload_n 2, 1) := by decide +kernel
theorem dX11_pass_93 : decode cX11_pass 93 = .ok (.iload_n 1, 1) := by decide +kernel
theorem dX11_pass_94 : decode cX11_pass 94 = .ok (.invokevirtual 274, 3) := by decide +kernel
theorem dX11_pass_97 : decode cX11_pass 97 = .ok (.aload_n 0, 1) := by decide +kernel
theorem dX11_pass_98 : decode cX11_pass 98 = .ok (.getfield 19, 3) := by decide +kernel
theorem dX11_pass_101 : decode cX11_pass 101 = .ok (.iload_n 2, 1) := by decide +kernel
theorem dX11_pass_102 : decode cX11_pass 102 = .ok (.iload_n 1, 1) := by decide +kernel
theorem dX11_pass_103 : decode cX11_pass 103 = .ok (.invokevirtual 216, 3) := by decide +kernel
theorem dX11_pass_106 : decode cX11_pass 106 = .ok (.ireturn, 1) := by decide +kernel
def q11_pass (σ : St) (person_a : Int32) (other_a : Int32) : Option (Sum Nat Int32 × St) :=
  thn (q11_needTwo σ person_a other_a) σ
  (Option.bind (ag σ (44 + 1) 6 person_a) fun x5_ =>
  if ((¬ x5_ = 0) ∨ (q11_isIn (σ 44 10) person_a = true)) ∨ (q11_isIn (σ 44 10) other_a = true) then (some (.inl 1, σ)) else
  Option.bind (q4_remember σ 44) fun x11_ =>
  Option.bind (sa x11_ (44 + 1) 6 person_a 1) fun σ13_ =>
  Option.bind (sa σ13_ (44 + 1) 6 other_a 0) fun σ15_ =>
  Option.bind (q10_warm σ15_ 44 other_a person_a) fun x17_ =>
  Option.bind (q10_likingOf x17_ 44 other_a person_a) fun x19_ =>
  some (.inr x19_, x17_))
abbrev rm11_pass : Room := { frames := 8, cells := 4, slots := 24, locals := 133 }
set_option maxHeartbeats 4000000 in
set_option maxRecDepth 100000 in
theorem p11_pass {Θ : Tz} {σ : St} {ω : Om} (C : Zc Θ cX11_pass 3 RX11 (some .int) rm11_pass) (hkd : Θ.2.2.2.2.1 = kdC) (hlt : Θ.1.2.1.stackTraces = false) (het : ∀ x ∈ Θ.2.2.1.2.exceptionTable.toList, False) {person_a : Int32} {other_a : Int32} {r : (Sum Nat Int32 × St)} (hf : q11_pass σ person_a other_a = some r) (hω : ω = om (fun v => some (.int v)) r) : Z Θ 3 0 0 (zQX Θ ω 4 24) σ 0 [(0, .ref (zA Θ 0)), (1, .int person_a), (2, .int other_a)] [] := by
  unfold q11_pass at hf
  refine z_aload_n C 0 dX11_pass_0 rfl rfl ?_
  refine z_iload_n C 1 dX11_pass_1 rfl rfl ?_
  refine z_iload_n C 2 dX11_pass_2 rfl rfl ?_
  refine zx_callV C het 0 [.int person_a, .int other_a] (q11_needTwo σ person_a other_a) 3 18 2 (kC_0 hkd) rfl (c11_needTwo (person_a := person_a) (other_a := other_a) hkd (zc_inj C) hlt) w_6_55 w_6_52 w_6_54 ws_LastLoaf_needTwo_II_V w_1_1 ⟨rfl, rfl, (Nat.le_of_ble_eq_true rfl), (Nat.le_of_ble_eq_true rfl)⟩ (by decide +kernel) rfl rfl (Nat.le_of_ble_eq_true rfl) ⟨(Nat.le_of_ble_eq_true rfl), (Nat.le_of_ble_eq_true rfl)⟩ dX11_pass_3 ⟨(Nat.le_of_ble_eq_true rfl), (Nat.le_of_ble_eq_true rfl)⟩ (fun e9 h2_ => by rw [h2_] at hf; cases hf; exact hω) (fun h1_ => ?_)
  rw [h1_] at hf
  replace hf := hf
  refine z_aload_n C 0 dX11_pass_6 rfl rfl ?_
  refine fg11_19 C hkd dX11_pass_7 ?_
  refine fg11_154 C hkd isV_44 dX11_pass_10 ?_
  refine z_iload_n C 1 dX11_pass_13 rfl rfl ?_
  obtain ⟨x5_, h6_, hf⟩ := ob hf
  refine z_ag C h6_ (kV_1 hkd isV_44) dX11_pass_14 ?_
  have K3_ : ((¬ x5_ = 0) ∨ (q11_isIn (σ 44 10) person_a = true)) ∨ (q11_isIn (σ 44 10) other_a = true) → Z Θ 3 3 18 (zQX Θ ω 4 24) σ 46 [(0, .ref (zA Θ 0)), (1, .int person_a), (2, .int other_a)] [] := by
    intro h10_
    rw [if_pos h10_] at hf
    cases hf
    subst hω
    exact zx_throwW (tx := "no loaf can be passed on") C hlt het 1 (by decide +kernel) w_6_98 w_1_29 (List.mem_of_getElem? (i := 40) rfl) th11_1_251g th11_1_251n th11_1_251o dX11_pass_46 dX11_pass_49 dX11_pass_50 dX11_pass_53 dX11_pass_56 ⟨(Nat.le_of_ble_eq_true rfl), (Nat.le_of_ble_eq_true rfl), (Nat.le_of_ble_eq_true rfl), (Nat.le_of_ble_eq_true rfl)⟩ (Nat.le_of_ble_eq_true rfl) ⟨(Nat.le_of_ble_eq_true rfl), (Nat.le_of_ble_eq_true rfl)⟩
  suffices K4_ : ¬ (((¬ x5_ = 0) ∨ (q11_isIn (σ 44 10) person_a = true)) ∨ (q11_isIn (σ 44 10) other_a = true)) → Z Θ 3 3 18 (zQX Θ ω 4 24) σ 57 [(0, .ref (zA Θ 0)), (1, .int person_a), (2, .int other_a)] [] by
    refine c0_ne_t C 46 dX11_pass_15 (by decide) (fun h7_ => ?_) (fun h7_ => ?_)
    · exact K3_ (Or.inl (Or.inl h7_))
    · refine z_aload_n C 0 dX11_pass_18 rfl rfl ?_
      refine fg11_19 C hkd dX11_pass_19 ?_
      refine fg11_171 C hkd isV_44 dX11_pass_22 ?_
      refine z_iload_n C 1 dX11_pass_25 rfl rfl ?_
      refine cr11_167 (set_a := (σ 44 10)) (person_a := person_a) C hkd  ⟨(Nat.le_of_ble_eq_true rfl), (Nat.le_of_ble_eq_true rfl)⟩ (Nat.le_of_ble_eq_true rfl) ⟨(Nat.le_of_ble_eq_true rfl), (Nat.le_of_ble_eq_true rfl)⟩ dX11_pass_26 ?_
      refine cb_t C 46 dX11_pass_29 (by decide) (fun h8_ => ?_) (fun h8_ => ?_)
      · exact K3_ (Or.inl (Or.inr h8_))
      · refine z_aload_n C 0 dX11_pass_32 rfl rfl ?_
        refine fg11_19 C hkd dX11_pass_33 ?_
        refine fg11_171 C hkd isV_44 dX11_pass_36 ?_
        refine z_iload_n C 2 dX11_pass_39 rfl rfl ?_
        refine cr11_167 (set_a := (σ 44 10)) (person_a := other_a) C hkd  ⟨(Nat.le_of_ble_eq_true rfl), (Nat.le_of_ble_eq_true rfl)⟩ (Nat.le_of_ble_eq_true rfl) ⟨(Nat.le_of_ble_eq_true rfl), (Nat.le_of_ble_eq_true rfl)⟩ dX11_pass_40 ?_
        refine cb_f C 57 dX11_pass_43 (by decide) (fun h9_ => ?_) (fun h9_ => ?_)
        · exact K3_ (Or.inr h9_)
        · exact K4_ (fun n => n.elim (fun n => n.elim h7_ h8_) h9_)
  intro h10_
  rw [if_neg h10_] at hf
  refine z_aload_n C 0 dX11_pass_57 rfl rfl ?_
  refine fg11_54 C hkd dX11_pass_58 ?_
  refine z_aload_n C 0 dX11_pass_61 rfl rfl ?_
  refine fg11_19 C hkd dX11_pass_62 ?_
  obtain ⟨x11_, h12_, hf⟩ := ob hf
  refine cr11_235 (village_a := 44) C hkd isV_44 h12_ ⟨(Nat.le_of_ble_eq_true rfl), (Nat.le_of_ble_eq_true rfl)⟩ (Nat.le_of_ble_eq_true rfl) ⟨(Nat.le_of_ble_eq_true rfl), (Nat.le_of_ble_eq_true rfl)⟩ dX11_pass_65 ?_
  refine z_aload_n C 0 dX11_pass_68 rfl rfl ?_
  refine fg11_19 C hkd dX11_pass_69 ?_
  refine fg11_154 C hkd isV_44 dX11_pass_72 ?_
  refine z_iload_n C 1 dX11_pass_75 rfl rfl ?_
  refine z_iconst (v := 1) C dX11_pass_76 ic_1 ?_
  obtain ⟨σ13_, h14_, hf⟩ := ob hf
  refine z_sa C h14_ (kV_1 hkd isV_44) dX11_pass_77 ?_
  refine z_aload_n C 0 dX11_pass_78 rfl rfl ?_
  refine fg11_19 C hkd dX11_pass_79 ?_
  refine fg11_154 C hkd isV_44 dX11_pass_82 ?_
  refine z_iload_n C 2 dX11_pass_85 rfl rfl ?_
  refine z_iconst (v := 0) C dX11_pass_86 ic_0 ?_
  obtain ⟨σ15_, h16_, hf⟩ := ob hf
  refine z_sa C h16_ (kV_1 hkd isV_44) dX11_pass_87 ?_
  refine z_aload_n C 0 dX11_pass_88 rfl rfl ?_
  refine fg11_19 C hkd dX11_pass_89 ?_
  refine z_iload_n C 2 dX11_pass_92 rfl rfl ?_
  refine z_iload_n C 1 dX11_pass_93 rfl rfl ?_
  obtain ⟨x17_, h18_, hf⟩ := ob hf
  refine cr11_274 (th := 44) (person_a := other_a) (other_a := person_a) C hkd isV_44 h18_ ⟨(Nat.le_of_ble_eq_true rfl), (Nat.le_of_ble_eq_true rfl)⟩ (Nat.le_of_ble_eq_true rfl) ⟨(Nat.le_of_ble_eq_true rfl), (Nat.le_of_ble_eq_true rfl)⟩ dX11_pass_94 ?_
  refine z_aload_n C 0 dX11_pass_97 rfl rfl ?_
  refine fg11_19 C hkd dX11_pass_98 ?_
  refine z_iload_n C 2 dX11_pass_101 rfl rfl ?_
  refine z_iload_n C 1 dX11_pass_102 rfl rfl ?_
  obtain ⟨x19_, h20_, hf⟩ := ob hf
  refine cr11_216 (th := 44) (person_a := other_a) (other_a := person_a) C hkd isV_44 h20_ ⟨(Nat.le_of_ble_eq_true rfl), (Nat.le_of_ble_eq_true rfl)⟩ (Nat.le_of_ble_eq_true rfl) ⟨(Nat.le_of_ble_eq_true rfl), (Nat.le_of_ble_eq_true rfl)⟩ dX11_pass_103 ?_
  cases hf
  subst hω
  exact zx_iret C ⟨(Nat.le_of_ble_eq_true rfl), (Nat.le_of_ble_eq_true rfl)⟩ dX11_pass_106
theorem c11_pass {l : Launch} {kd : List KD} {w : Wp} {σ : St} {person_a : Int32} {other_a : Int32} (hkd : kd = kdC) (hi : zI kd w) (hlt : l.stackTraces = false) {r : (Sum Nat Int32 × St)} (hf : q11_pass σ person_a other_a = some r) : zX l kd w yX11_pass cX11_pass 3 (some .int) rm11_pass [.ref (w.2.2.1 0), .int person_a, .int other_a] σ (om (fun v => some (.int v)) r) 4 24 := zX_of rfl hi (Nat.le_of_ble_eq_true rfl) (fun Θ hl hw C het => by
  obtain ⟨Θ1, Θ2, Θ3, Θ4, Θ5⟩ := Θ
  cases hw
  cases hl
  exact p11_pass C hkd hlt het  hf rfl)
/-! LastLoaf.fetch -/
theorem fp11_171 {Θ : Tz} {cc : ByteArray} {nL kc ks : Nat} {ret : Option FieldType} {rm : Room} {Q : State → Prop} {σ : St} {pc : Nat} {lv : List (Nat × Value)} {st : List Value} (C : Zc Θ cc nL RX11 ret rm) (hkd : Θ.2.2.2.2.1 = kdC) {th : Nat} (hth : isV th) {x : Int32} {σ1 : St} (he : σ1 = up σ th 10 x) (hd : decode cc pc = .ok (.putfield 171, 3)) (kk : Z Θ nL kc ks Q σ1 (pc + 3) lv st) : Z Θ nL kc ks Q σ pc lv (.int x :: .ref (zA Θ th) :: st) := by subst he; exact z_put C inT10 tyX10_ok nmX10 th (kV_0 hkd hth) rfl 10 (by decide) w_1_141 rfl rfl rfl rfl hd kk
theorem dX11_fetch_0 : decode cX11_fetch 0 = .ok (.aload_n 0, 1) := by decide +kernel
theorem dX11_fetch_1 : decode cX11_fetch 1 = .ok (.iload_n 1, 1) := by decide +kernel
theorem dX11_fetch_2 : decode cX11_fetch 2 = .ok (.invokevirtual 151, 3) := by decide +kernel
theorem dX11_fetch_5 : decode cX11_fetch 5 = .ok (.aload_n 0, 1) := by decide +kernel
theorem dX11_fetch_6 : decode cX11_fetch 6 = .ok (.getfield 19, 3) := by decide +kernel
theorem dX11_fetch_9 : decode cX11_fetch 9 = .ok (.getfield 171, 3) := by decide +kernel
theorem dX11_fetch_12 : decode cX11_fetch 12 = .ok (.iload_n 1, 1) := by decide +kernel
theorem dX11_fetch_13 : decode cX11_fetch 13 = .ok (.invokestatic 167, 3) := by decide +kernel
theorem dX11_fetch_16 : decode cX11_fetch 16 = .ok (.ifCond .ne 14, 3) := by decide +kernel
theorem dX11_fetch_19 : decode cX11_fetch 19 = .ok (.new 247, 3) := by decide +kernel
theorem dX11_fetch_22 : decode cX11_fetch 22 = .ok (.dup, 1) := by decide +kernel
theorem dX11_fetch_23 : decode cX11_fetch 23 = .ok (.ldc_w 277, 3) := by decide +kernel
theorem dX11_fetch_26 : decode cX11_fetch 26 = .ok (.invokespecial 251, 3) := by decide +kernel
theorem dX11_fetch_29 : decode cX11_fetch 29 = .ok (.athrow, 1) := by decide +kernel
theorem dX11_fetch_30 : decode cX11_fetch 30 = .ok (.aload_n 0, 1) := by decide +kernel
theorem dX11_fetch_31 : decode cX11_fetch 31 = .ok (.getfield 54, 3) := by decide +kernel
theorem dX11_fetch_34 : decode cX11_fetch 34 = .ok (.aload_n 0, 1) := by decide +kernel
theorem dX11_fetch_35 : decode cX11_fetch 35 = .ok (.getfield 19, 3) := by decide +kernel
theorem dX11_fetch_38 : decode cX11_fetch 38 = .ok (.invokevirtual 235, 3) := by decide +kernel
theorem dX11_fetch_41 : decode cX11_fetch 41 = .ok (.aload_n 0, 1) := by decide +kernel
theorem dX11_fetch_42 : decode cX11_fetch 42 = .ok (.getfield 19, 3) := by decide +kernel
theorem dX11_fetch_45 : decode cX11_fetch 45 = .ok (.aload_n 0, 1) := by decide +kernel
theorem dX11_fetch_46 : decode cX11_fetch 46 = .ok (.getfield 19, 3) := by decide +kernel
theorem dX11_fetch_49 : decode cX11_fetch 49 = .ok (.getfield 171, 3) := by decide +kernel
theorem dX11_fetch_52 : decode cX11_fetch 52 = .ok (.iload_n 1, 1) := by decide +kernel
theorem dX11_fetch_53 : decode cX11_fetch 53 = .ok (.invokestatic 252, 3) := by decide +kernel
theorem dX11_fetch_56 : decode cX11_fetch 56 = .ok (.putfield 171, 3) := by decide +kernel
theorem dX11_fetch_59 : decode cX11_fetch 59 = .ok (.aload_n 0, 1) := by decide +kernel
theorem dX11_fetch_60 : decode cX11_fetch 60 = .ok (.getfield 19, 3) := by decide +kernel
theorem dX11_fetch_63 : decode cX11_fetch 63 = .ok (.getfield 154, 3) := by decide +kernel
theorem dX11_fetch_66 : decode cX11_fetch 66 = .ok (.iload_n 1, 1) := by decide +kernel
theorem dX11_fetch_67 : decode cX11_fetch 67 = .ok (.iconst 5, 1) := by decide +kernel
theorem dX11_fetch_68 : decode cX11_fetch 68 = .ok (.iastore, 1) := by decide +kernel
theorem dX11_fetch_69 : decode cX11_fetch 69 = .ok (.aload_n 0, 1) := by decide +kernel
theorem dX11_fetch_70 : decode cX11_fetch 70 = .ok (.getfield 19, 3) := by decide +kernel
theorem dX11_fetch_73 : decode cX11_fetch 73 = .ok (.getfield 171, 3) := by decide +kernel
theorem dX11_fetch_76 : decode cX11_fetch 76 = .ok (.invokestatic 238, 3) := by decide +kernel
theorem dX11_fetch_79 : decode cX11_fetch 79 = .ok (.ireturn, 1) := by decide +kernel
def q11_fetch (σ : St) (person_a : Int32) : Option (Sum Nat Int32 × St) :=
  thn (q11_needPerson σ person_a) σ
  (if ¬ (q11_isIn (σ 44 10) person_a = true) then (some (.inl 1, σ)) else
  Option.bind (q4_remember σ 44) fun x7_ =>
  lt (up x7_ 44 10 (q11_without (x7_ 44 10) person_a)) fun σ9_ =>
  Option.bind (sa σ9_ (44 + 1) 6 person_a 5) fun σ11_ =>
  some (.inr (bcount (σ11_ 44 10)), σ11_))
abbrev rm11_fetch : Room := { frames := 7, cells := 2, slots := 12, locals := 111 }
set_option maxHeartbeats 4000000 in
set_option maxRecDepth 100000 in
theorem p11_fetch {Θ : Tz} {σ : St} {ω : Om} (C : Zc Θ cX11_fetch 2 RX11 (some .int) rm11_fetch) (hkd : Θ.2.2.2.2.1 = kdC) (hlt : Θ.1.2.1.stackTraces = false) (het : ∀ x ∈ Θ.2.2.1.2.exceptionTable.toList, False) {person_a : Int32} {r : (Sum Nat Int32 × St)} (hf : q11_fetch σ person_a = some r) (hω : ω = om (fun v => some (.int v)) r) : Z Θ 2 0 0 (zQX Θ ω 2 12) σ 0 [(0, .ref (zA Θ 0)), (1, .int person_a)] [] := by
  unfold q11_fetch at hf
  refine z_aload_n C 0 dX11_fetch_0 rfl rfl ?_
  refine z_iload_n C 1 dX11_fetch_1 rfl rfl ?_
  refine zx_callV C het 0 [.int person_a] (q11_needPerson σ person_a) 1 6 1 (kC_0 hkd) rfl (c11_needPerson (person_a := person_a) hkd (zc_inj C) hlt) w_5_227 w_5_224 w_5_226 ws_LastLoaf_needPerson_I_V w_1_1 ⟨rfl, rfl, (Nat.le_of_ble_eq_true rfl), (Nat.le_of_ble_eq_true rfl)⟩ (by decide +kernel) rfl rfl (Nat.le_of_ble_eq_true rfl) ⟨(Nat.le_of_ble_eq_true rfl), (Nat.le_of_ble_eq_true rfl)⟩ dX11_fetch_2 ⟨(Nat.le_of_ble_eq_true rfl), (Nat.le_of_ble_eq_true rfl)⟩ (fun e9 h2_ => by rw [h2_] at hf; cases hf; exact hω) (fun h1_ => ?_)
  rw [h1_] at hf
  replace hf := hf
  have K3_ : ¬ (q11_isIn (σ 44 10) person_a = true) → Z Θ 2 1 6 (zQX Θ ω 2 12) σ 19 [(0, .ref (zA Θ 0)), (1, .int person_a)] [] := by
    intro h6_
    rw [if_pos h6_] at hf
    cases hf
    subst hω
    exact zx_throwW (tx := "who is fetched must be on the bench") C hlt het 1 (by decide +kernel) w_6_98 w_1_29 (List.mem_of_getElem? (i := 41) rfl) th11_1_251g th11_1_251n th11_1_251o dX11_fetch_19 dX11_fetch_22 dX11_fetch_23 dX11_fetch_26 dX11_fetch_29 ⟨(Nat.le_of_ble_eq_true rfl), (Nat.le_of_ble_eq_true rfl), (Nat.le_of_ble_eq_true rfl), (Nat.le_of_ble_eq_true rfl)⟩ (Nat.le_of_ble_eq_true rfl) ⟨(Nat.le_of_ble_eq_true rfl), (Nat.le_of_ble_eq_true rfl)⟩
  suffices K4_ : ¬ (¬ (q11_isIn (σ 44 10) person_a = true)) → Z Θ 2 1 6 (zQX Θ ω 2 12) σ 30 [(0, .ref (zA Θ 0)), (1, .int person_a)] [] by
    refine z_aload_n C 0 dX11_fetch_5 rfl rfl ?_
    refine fg11_19 C hkd dX11_fetch_6 ?_
    refine fg11_171 C hkd isV_44 dX11_fetch_9 ?_
    refine z_iload_n C 1 dX11_fetch_12 rfl rfl ?_
    refine cr11_167 (set_a := (σ 44 10)) (person_a := person_a) C hkd  ⟨(Nat.le_of_ble_eq_true rfl), (Nat.le_of_ble_eq_true rfl)⟩ (Nat.le_of_ble_eq_true rfl) ⟨(Nat.le_of_ble_eq_true rfl), (Nat.le_of_ble_eq_true rfl)⟩ dX11_fetch_13 ?_
    refine cb_t C 30 dX11_fetch_16 (by decide) (fun h5_ => ?_) (fun h5_ => ?_)
    · exact K4_ (fun n => n h5_)
    · exact K3_ h5_
  intro h6_
  rw [if_neg h6_] at hf
  refine z_aload_n C 0 dX11_fetch_30 rfl rfl ?_
  refine fg11_54 C hkd dX11_fetch_31 ?_
  refine z_aload_n C 0 dX11_fetch_34 rfl rfl ?_
  refine fg11_19 C hkd dX11_fetch_35 ?_
  obtain ⟨x7_, h8_, hf⟩ := ob hf
  refine cr11_235 (village_a := 44) C hkd isV_44 h8_ ⟨(Nat.le_of_ble_eq_true rfl), (Nat.le_of_ble_eq_true rfl)⟩ (Nat.le_of_ble_eq_true rfl) ⟨(Nat.le_of_ble_eq_true rfl), (Nat.le_of_ble_eq_true rfl)⟩ dX11_fetch_38 ?_
  refine z_aload_n C 0 dX11_fetch_41 rfl rfl ?_
  refine fg11_19 C hkd dX11_fetch_42 ?_
  refine z_aload_n C 0 dX11_fetch_45 rfl rfl ?_
  refine fg11_19 C hkd dX11_fetch_46 ?_
  refine fg11_171 C hkd isV_44 dX11_fetch_49 ?_
  refine z_iload_n C 1 dX11_fetch_52 rfl rfl ?_
  refine cr11_252 (set_a := (x7_ 44 10)) (person_a := person_a) C hkd  ⟨(Nat.le_of_ble_eq_true rfl), (Nat.le_of_ble_eq_true rfl)⟩ (Nat.le_of_ble_eq_true rfl) ⟨(Nat.le_of_ble_eq_true rfl), (Nat.le_of_ble_eq_true rfl)⟩ dX11_fetch_53 ?_
  obtain ⟨σ9_, h10_, hf⟩ := lt_ hf
  refine fp11_171 C hkd isV_44 h10_ dX11_fetch_56 ?_
  refine z_aload_n C 0 dX11_fetch_59 rfl rfl ?_
  refine fg11_19 C hkd dX11_fetch_60 ?_
  refine fg11_154 C hkd isV_44 dX11_fetch_63 ?_
  refine z_iload_n C 1 dX11_fetch_66 rfl rfl ?_
  refine z_iconst (v := 5) C dX11_fetch_67 ic_5 ?_
  obtain ⟨σ11_, h12_, hf⟩ := ob hf
  refine z_sa C h12_ (kV_1 hkd isV_44) dX11_fetch_68 ?_
  refine z_aload_n C 0 dX11_fetch_69 rfl rfl ?_
  refine fg11_19 C hkd dX11_fetch_70 ?_
  refine fg11_171 C hkd isV_44 dX11_fetch_73 ?_
  refine z_callS C [.int (σ11_ 44 10)] (some (.int (bcount (σ11_ 44 10))), σ11_) 1 (cJ_bitCount (zc_inj C)) w_3_30 w_4_11 w_3_29 w_1_26 ⟨rfl, rfl, (Nat.le_of_ble_eq_true rfl), (Nat.le_of_ble_eq_true rfl)⟩ (by decide +kernel) rfl rfl (Nat.le_of_ble_eq_true rfl) ⟨(Nat.le_of_ble_eq_true rfl), (Nat.le_of_ble_eq_true rfl)⟩ dX11_fetch_76 ?_
  cases hf
  subst hω
  exact zx_iret C ⟨(Nat.le_of_ble_eq_true rfl), (Nat.le_of_ble_eq_true rfl)⟩ dX11_fetch_79
theorem c11_fetch {l : Launch} {kd : List KD} {w : Wp} {σ : St} {person_a : Int32} (hkd : kd = kdC) (hi : zI kd w) (hlt : l.stackTraces = false) {r : (Sum Nat Int32 × St)} (hf : q11_fetch σ person_a = some r) : zX l kd w yX11_fetch cX11_fetch 2 (some .int) rm11_fetch [.ref (w.2.2.1 0), .int person_a] σ (om (fun v => some (.int v)) r) 2 12 := zX_of rfl hi (Nat.le_of_ble_eq_true rfl) (fun Θ hl hw C het => by
  obtain ⟨Θ1, Θ2, Θ3, Θ4, Θ5⟩ := Θ
  cases hw
  cases hl
  exact p11_fetch C hkd hlt het  hf rfl)
/-! LastLoaf.winner -/
theorem w_6_171 : Cond.methodLink "LastLoaf" (279 : Nat) ({ cls := "LastLoaf$Poll", name := "winnerBy", desc := "(I)I" } : MethodName) ∈ TB := tb_in (lwt_6 (List.mem_of_getElem? (i := 171) (by decide +kernel))) rfl
theorem cr11_279 {Θ : Tz} {cc : ByteArray} {nL kc ks : Nat} {ret : Option FieldType} {rm : Room} {Q : State → Prop} {σ : St} {pc : Nat} {lv : List (Nat × Value)} {st : List Value} (C : Zc Θ cc nL RX11 ret rm) (hkd : Θ.2.2.2.2.1 = kdC) {way_a : Int32} {r : Int32 × St} (hx : q5_winnerBy σ way_a = some r) (hrm : rm5_winnerBy.frames + 1 ≤ rm.frames ∧ 8 + (2 + 11) + rm5_winnerBy.locals ≤ rm.locals) (hcat : (st.map fun v => v.category).sum ≤ 8) (hk : kc ≤ rm.cells ∧ ks ≤ rm.slots) (hd : decode cc pc = .ok (.invokevirtual 279, 3)) (kk : Z Θ nL kc ks Q r.2 (pc + 3) lv (.int r.1 :: st)) : Z Θ nL kc ks Q σ pc lv (.int way_a :: .ref (zA Θ 6) :: st) := z_callV C 6 [.int way_a] (some (.int r.1), r.2) 1 (kC_6 hkd) rfl (c5_winnerBy (way_a := way_a) hkd (zc_inj C) hx) w_3_149 w_6_171 w_3_147 w_3_148 w_1_9 ⟨rfl, rfl, hrm.1, hrm.2⟩ (by decide +kernel) rfl rfl hcat hk hd kk
theorem dX11_winner_0 : decode cX11_winner 0 = .ok (.iload_n 1, 1) := by decide +kernel
theorem dX11_winner_1 : decode cX11_winner 1 = .ok (.iconst 0, 1) := by decide +kernel
theorem dX11_winner_2 : decode cX11_winner 2 = .ok (.iconst 5, 1) := by decide +kernel
theorem dX11_winner_3 : decode cX11_winner 3 = .ok (.invokestatic 231, 3) := by decide +kernel
theorem dX11_winner_6 : decode cX11_winner 6 = .ok (.aload_n 0, 1) := by decide +kernel
theorem dX11_winner_7 : decode cX11_winner 7 = .ok (.invokevirtual 180, 3) := by decide +kernel
theorem dX11_winner_10 : decode cX11_winner 10 = .ok (.iload_n 1, 1) := by decide +kernel
theorem dX11_winner_11 : decode cX11_winner 11 = .ok (.invokevirtual 279, 3) := by decide +kernel
theorem dX11_winner_14 : decode cX11_winner 14 = .ok (.ireturn, 1) := by decide +kernel
def q11_winner (σ : St) (way_a : Int32) : Option (Sum Nat Int32 × St) :=
  thn (q11_needNumber way_a 0 5) σ
  (Option.bind (q11_pollNow σ) fun x3_ =>
  Option.bind (q5_winnerBy x3_.2 way_a) fun x5_ =>
  some (.inr x5_.1, x5_.2))
abbrev rm11_winner : Room := { frames := 7, cells := 1, slots := 6, locals := 116 }
set_option maxHeartbeats 4000000 in
set_option maxRecDepth 100000 in
theorem p11_winner {Θ : Tz} {σ : St} {ω : Om} (C : Zc Θ cX11_winner 2 RX11 (some .int) rm11_winner) (hkd : Θ.2.2.2.2.1 = kdC) (hlt : Θ.1.2.1.stackTraces = false) (het : ∀ x ∈ Θ.2.2.1.2.exceptionTable.toList, False) {way_a : Int32} {r : (Sum Nat Int32 × St)} (hf : q11_winner σ way_a = some r) (hω : ω = om (fun v => some (.int v)) r) : Z Θ 2 0 0 (zQX Θ ω 1 6) σ 0 [(0, .ref (zA Θ 0)), (1, .int way_a)] [] := by
  unfold q11_winner at hf
  refine z_iload_n C 1 dX11_winner_0 rfl rfl ?_
  refine z_iconst (v := 0) C dX11_winner_1 ic_0 ?_
  refine z_iconst (v := 5) C dX11_winner_2 ic_5 ?_
  refine zx_callS C het [.int way_a, .int 0, .int 5] (q11_needNumber way_a 0 5) 1 6 3 (c11_needNumber (n_a := way_a) (least_a := 0) (most_a := 5) hkd (zc_inj C) hlt) w_6_83 w_6_81 w_6_82 w_1_1 ⟨rfl, rfl, (Nat.le_of_ble_eq_true rfl), (Nat.le_of_ble_eq_true rfl)⟩ (by decide +kernel) rfl rfl (Nat.le_of_ble_eq_true rfl) ⟨(Nat.le_of_ble_eq_true rfl), (Nat.le_of_ble_eq_true rfl)⟩ dX11_winner_3 ⟨(Nat.le_of_ble_eq_true rfl), (Nat.le_of_ble_eq_true rfl)⟩ (fun e9 h2_ => by rw [h2_] at hf; cases hf; exact hω) (fun h1_ => ?_)
  rw [h1_] at hf
  replace hf := hf
  refine z_aload_n C 0 dX11_winner_6 rfl rfl ?_
  obtain ⟨x3_, h4_, hf⟩ := ob hf
  refine cr11_180 C hkd  h4_ ⟨(Nat.le_of_ble_eq_true rfl), (Nat.le_of_ble_eq_true rfl)⟩ (Nat.le_of_ble_eq_true rfl) ⟨(Nat.le_of_ble_eq_true rfl), (Nat.le_of_ble_eq_true rfl)⟩ dX11_winner_7 ?_
  rw [rp11_pollNow h4_]
  refine z_iload_n C 1 dX11_winner_10 rfl rfl ?_
  obtain ⟨x5_, h6_, hf⟩ := ob hf
  refine cr11_279 (way_a := way_a) C hkd  h6_ ⟨(Nat.le_of_ble_eq_true rfl), (Nat.le_of_ble_eq_true rfl)⟩ (Nat.le_of_ble_eq_true rfl) ⟨(Nat.le_of_ble_eq_true rfl), (Nat.le_of_ble_eq_true rfl)⟩ dX11_winner_11 ?_
  cases hf
  subst hω
  exact zx_iret C ⟨(Nat.le_of_ble_eq_true rfl), (Nat.le_of_ble_eq_true rfl)⟩ dX11_winner_14
theorem c11_winner {l : Launch} {kd : List KD} {w : Wp} {σ : St} {way_a : Int32} (hkd : kd = kdC) (hi : zI kd w) (hlt : l.stackTraces = false) {r : (Sum Nat Int32 × St)} (hf : q11_winner σ way_a = some r) : zX l kd w yX11_winner cX11_winner 2 (some .int) rm11_winner [.ref (w.2.2.1 0), .int way_a] σ (om (fun v => some (.int v)) r) 1 6 := zX_of rfl hi (Nat.le_of_ble_eq_true rfl) (fun Θ hl hw C het => by
  obtain ⟨Θ1, Θ2, Θ3, Θ4, Θ5⟩ := Θ
  cases hw
  cases hl
  exact p11_winner C hkd hlt het  hf rfl)
/-! LastLoaf.rank -/
theorem dX11_rank_0 : decode cX11_rank 0 = .ok (.aload_n 0, 1) := by decide +kernel
theorem dX11_rank_1 : decode cX11_rank 1 = .ok (.iload_n 1, 1) := by decide +kernel
theorem dX11_rank_2 : decode cX11_rank 2 = .ok (.invokevirtual 151, 3) := by decide +kernel
theorem dX11_rank_5 : decode cX11_rank 5 = .ok (.aload_n 0, 1) := by decide +kernel
theorem dX11_rank_6 : decode cX11_rank 6 = .ok (.invokevirtual 180, 3) := by decide +kernel
theorem dX11_rank_9 : decode cX11_rank 9 = .ok (.iload_n 1, 1) := by decide +kernel
theorem dX11_rank_10 : decode cX11_rank 10 = .ok (.iload_n 2, 1) := by decide +kernel
theorem dX11_rank_11 : decode cX11_rank 11 = .ok (.invokevirtual 184, 3) := by decide +kernel
theorem dX11_rank_14 : decode cX11_rank 14 = .ok (.ireturn, 1) := by decide +kernel
def q11_rank (σ : St) (person_a : Int32) (k_a : Int32) : Option (Sum Nat Int32 × St) :=
  thn (q11_needPerson σ person_a) σ
  (Option.bind (q11_pollNow σ) fun x3_ =>
  Option.bind (q5_rankAt x3_.2 person_a k_a) fun x5_ =>
  some (.inr x5_, x3_.2))
abbrev rm11_rank : Room := { frames := 7, cells := 1, slots := 6, locals := 116 }
set_option maxHeartbeats 4000000 in
set_option maxRecDepth 100000 in
theorem p11_rank {Θ : Tz} {σ : St} {ω : Om} (C : Zc Θ cX11_rank 3 RX11 (some .int) rm11_rank) (hkd : Θ.2.2.2.2.1 = kdC) (hlt : Θ.1.2.1.stackTraces = false) (het : ∀ x ∈ Θ.2.2.1.2.exceptionTable.toList, False) {person_a : Int32} {k_a : Int32} {r : (Sum Nat Int32 × St)} (hf : q11_rank σ person_a k_a = some r) (hω : ω = om (fun v => some (.int v)) r) : Z Θ 3 0 0 (zQX Θ ω 1 6) σ 0 [(0, .ref (zA Θ 0)), (1, .int person_a), (2, .int k_a)] [] := by
  unfold q11_rank at hf
  refine z_aload_n C 0 dX11_rank_0 rfl rfl ?_
  refine z_iload_n C 1 dX11_rank_1 rfl rfl ?_
  refine zx_callV C het 0 [.int person_a] (q11_needPerson σ person_a) 1 6 1 (kC_0 hkd) rfl (c11_needPerson (person_a := person_a) hkd (zc_inj C) hlt) w_5_227 w_5_224 w_5_226 ws_LastLoaf_needPerson_I_V w_1_1 ⟨rfl, rfl, (Nat.le_of_ble_eq_true rfl), (Nat.le_of_ble_eq_true rfl)⟩ (by decide +kernel) rfl rfl (Nat.le_of_ble_eq_true rfl) ⟨(Nat.le_of_ble_eq_true rfl), (Nat.le_of_ble_eq_true rfl)⟩ dX11_rank_2 ⟨(Nat.le_of_ble_eq_true rfl), (Nat.le_of_ble_eq_true rfl)⟩ (fun e9 h2_ => by rw [h2_] at hf; cases hf; exact hω) (fun h1_ => ?_)
  rw [h1_] at hf
  replace hf := hf
  refine z_aload_n C 0 dX11_rank_5 rfl rfl ?_
  obtain ⟨x3_, h4_, hf⟩ := ob hf
  refine cr11_180 C hkd  h4_ ⟨(Nat.le_of_ble_eq_true rfl), (Nat.le_of_ble_eq_true rfl)⟩ (Nat.le_of_ble_eq_true rfl) ⟨(Nat.le_of_ble_eq_true rfl), (Nat.le_of_ble_eq_true rfl)⟩ dX11_rank_6 ?_
  rw [rp11_pollNow h4_]
  refine z_iload_n C 1 dX11_rank_9 rfl rfl ?_
  refine z_iload_n C 2 dX11_rank_10 rfl rfl ?_
  obtain ⟨x5_, h6_, hf⟩ := ob hf
  refine cr11_184 (voter_a := person_a) (k_a := k_a) C hkd  h6_ ⟨(Nat.le_of_ble_eq_true rfl), (Nat.le_of_ble_eq_true rfl)⟩ (Nat.le_of_ble_eq_true rfl) ⟨(Nat.le_of_ble_eq_true rfl), (Nat.le_of_ble_eq_true rfl)⟩ dX11_rank_11 ?_
  cases hf
  subst hω
  exact zx_iret C ⟨(Nat.le_of_ble_eq_true rfl), (Nat.le_of_ble_eq_true rfl)⟩ dX11_rank_14
theorem c11_rank {l : Launch} {kd : List KD} {w : Wp} {σ : St} {person_a : Int32} {k_a : Int32} (hkd : kd = kdC) (hi : zI kd w) (hlt : l.stackTraces = false) {r : (Sum Nat Int32 × St)} (hf : q11_rank σ person_a k_a = some r) : zX l kd w yX11_rank cX11_rank 3 (some .int) rm11_rank [.ref (w.2.2.1 0), .int person_a, .int k_a] σ (om (fun v => some (.int v)) r) 1 6 := zX_of rfl hi (Nat.le_of_ble_eq_true rfl) (fun Θ hl hw C het => by
  obtain ⟨Θ1, Θ2, Θ3, Θ4, Θ5⟩ := Θ
  cases hw
  cases hl
  exact p11_rank C hkd hlt het  hf rfl)
/-! LastLoaf.beats -/
theorem w_6_186 : Cond.methodLink "LastLoaf" (282 : Nat) ({ cls := "LastLoaf$Poll", name := "isAhead", desc := "(II)Z" } : MethodName) ∈ TB := tb_in (lwt_6 (List.mem_of_getElem? (i := 186) (by decide +kernel))) rfl
theorem cr11_282 {Θ : Tz} {cc : ByteArray} {nL kc ks : Nat} {ret : Option FieldType} {rm : Room} {Q : State → Prop} {σ : St} {pc : Nat} {lv : List (Nat × Value)} {st : List Value} (C : Zc Θ cc nL RX11 ret rm) (hkd : Θ.2.2.2.2.1 = kdC) {person_a : Int32} {other_a : Int32} {r : Bool} (hx : q5_isAhead σ person_a other_a = some r) (hrm : rm5_isAhead.frames + 1 ≤ rm.frames ∧ 8 + (6 + 11) + rm5_isAhead.locals ≤ rm.locals) (hcat : (st.map fun v => v.category).sum ≤ 8) (hk : kc ≤ rm.cells ∧ ks ≤ rm.slots) (hd : decode cc pc = .ok (.invokevirtual 282, 3)) (kk : Z Θ nL kc ks Q σ (pc + 3) lv (.int (b2i r) :: st)) : Z Θ nL kc ks Q σ pc lv (.int other_a :: .int person_a :: .ref (zA Θ 6) :: st) := z_callV C 6 [.int person_a, .int other_a] (some (.int (b2i r)), σ) 2 (kC_6 hkd) rfl (c5_isAhead (person_a := person_a) (other_a := other_a) hkd (zc_inj C) hx) w_3_80 w_6_186 w_3_78 w_3_79 w_1_9 ⟨rfl, rfl, hrm.1, hrm.2⟩ (by decide +kernel) rfl rfl hcat hk hd kk
theorem dX11_beats_0 : decode cX11_beats 0 = .ok (.aload_n 0, 1) := by decide +kernel
theorem dX11_beats_1 : decode cX11_beats 1 = .ok (.iload_n 1, 1) := by decide +kernel
theorem dX11_beats_2 : decode cX11_beats 2 = .ok (.iload_n 2, 1) := by decide +kernel
theorem dX11_beats_3 : decode cX11_beats 3 = .ok (.invokevirtual 212, 3) := by decide +kernel
theorem dX11_beats_6 : decode cX11_beats 6 = .ok (.aload_n 0, 1) := by decide +kernel
theorem dX11_beats_7 : decode cX11_beats 7 = .ok (.invokevirtual 180, 3) := by decide +kernel
theorem dX11_beats_10 : decode cX11_beats 10 = .ok (.iload_n 1, 1) := by decide +kernel
theorem dX11_beats_11 : decode cX11_beats 11 = .ok (.iload_n 2, 1) := by decide +kernel
theorem dX11_beats_12 : decode cX11_beats 12 = .ok (.invokevirtual 282, 3) := by decide +kernel
theorem dX11_beats_15 : decode cX11_beats 15 = .ok (.ireturn, 1) := by decide +kernel
def q11_beats (σ : St) (person_a : Int32) (other_a : Int32) : Option (Sum Nat Bool × St) :=
  thn (q11_needTwo σ person_a other_a) σ
  (Option.bind (q11_pollNow σ) fun x3_ =>
  Option.bind (q5_isAhead x3_.2 person_a other_a) fun x5_ =>
  some (.inr x5_, x3_.2))
abbrev rm11_beats : Room := { frames := 8, cells := 3, slots := 18, locals := 133 }
set_option maxHeartbeats 4000000 in
set_option maxRecDepth 100000 in
theorem p11_beats {Θ : Tz} {σ : St} {ω : Om} (C : Zc Θ cX11_beats 3 RX11 (some .boolean) rm11_beats) (hkd : Θ.2.2.2.2.1 = kdC) (hlt : Θ.1.2.1.stackTraces = false) (het : ∀ x ∈ Θ.2.2.1.2.exceptionTable.toList, False) {person_a : Int32} {other_a : Int32} {r : (Sum Nat Bool × St)} (hf : q11_beats σ person_a other_a = some r) (hω : ω = om (fun v => some (.int (b2i v))) r) : Z Θ 3 0 0 (zQX Θ ω 3 18) σ 0 [(0, .ref (zA Θ 0)), (1, .int person_a), (2, .int other_a)] [] := by
  unfold q11_beats at hf
  refine z_aload_n C 0 dX11_beats_0 rfl rfl ?_
  refine z_iload_n C 1 dX11_beats_1 rfl rfl ?_
  refine z_iload_n C 2 dX11_beats_2 rfl rfl ?_
  refine zx_callV C het 0 [.int person_a, .int other_a] (q11_needTwo σ person_a other_a) 3 18 2 (kC_0 hkd) rfl (c11_needTwo (person_a := person_a) (other_a := other_a) hkd (zc_inj C) hlt) w_6_55 w_6_52 w_6_54 ws_LastLoaf_needTwo_II_V w_1_1 ⟨rfl, rfl, (Nat.le_of_ble_eq_true rfl), (Nat.le_of_ble_eq_true rfl)⟩ (by decide +kernel) rfl rfl (Nat.le_of_ble_eq_true rfl) ⟨(Nat.le_of_ble_eq_true rfl), (Nat.le_of_ble_eq_true rfl)⟩ dX11_beats_3 ⟨(Nat.le_of_ble_eq_true rfl), (Nat.le_of_ble_eq_true rfl)⟩ (fun e9 h2_ => by rw [h2_] at hf; cases hf; exact hω) (fun h1_ => ?_)
  rw [h1_] at hf
  replace hf := hf
  refine z_aload_n C 0 dX11_beats_6 rfl rfl ?_
  obtain ⟨x3_, h4_, hf⟩ := ob hf
  refine cr11_180 C hkd  h4_ ⟨(Nat.le_of_ble_eq_true rfl), (Nat.le_of_ble_eq_true rfl)⟩ (Nat.le_of_ble_eq_true rfl) ⟨(Nat.le_of_ble_eq_true rfl), (Nat.le_of_ble_eq_true rfl)⟩ dX11_beats_7 ?_
  rw [rp11_pollNow h4_]
  refine z_iload_n C 1 dX11_beats_10 rfl rfl ?_
  refine z_iload_n C 2 dX11_beats_11 rfl rfl ?_
  obtain ⟨x5_, h6_, hf⟩ := ob hf
  refine cr11_282 (person_a := person_a) (other_a := other_a) C hkd  h6_ ⟨(Nat.le_of_ble_eq_true rfl), (Nat.le_of_ble_eq_true rfl)⟩ (Nat.le_of_ble_eq_true rfl) ⟨(Nat.le_of_ble_eq_true rfl), (Nat.le_of_ble_eq_true rfl)⟩ dX11_beats_12 ?_
  cases hf
  subst hω
  exact zx_zret C ⟨(Nat.le_of_ble_eq_true rfl), (Nat.le_of_ble_eq_true rfl)⟩ (b2i_narrow _) dX11_beats_15
theorem c11_beats {l : Launch} {kd : List KD} {w : Wp} {σ : St} {person_a : Int32} {other_a : Int32} (hkd : kd = kdC) (hi : zI kd w) (hlt : l.stackTraces = false) {r : (Sum Nat Bool × St)} (hf : q11_beats σ person_a other_a = some r) : zX l kd w yX11_beats cX11_beats 3 (some .boolean) rm11_beats [.ref (w.2.2.1 0), .int person_a, .int other_a] σ (om (fun v => some (.int (b2i v))) r) 3 18 := zX_of rfl hi (Nat.le_of_ble_eq_true rfl) (fun Θ hl hw C het => by
  obtain ⟨Θ1, Θ2, Θ3, Θ4, Θ5⟩ := Θ
  cases hw
  cases hl
  exact p11_beats C hkd hlt het  hf rfl)
/-! LastLoaf$Poll.beaterOfAll -/
theorem w_3_73 : Cond.methodLink "LastLoaf$Poll" (83 : Nat) ({ cls := "LastLoaf$Poll", name := "duelsOf", desc := "(I)I" } : MethodName) ∈ TB := tb_in (lwt_3 (List.mem_of_getElem? (i := 73) (by decide +kernel))) rfl
theorem cr5_83 {Θ : Tz} {cc : ByteArray} {nL kc ks : Nat} {ret : Option FieldType} {rm : Room} {Q : State → Prop} {σ : St} {pc : Nat} {lv : List (Nat × Value)} {st : List Value} (C : Zc Θ cc nL RX5 ret rm) (hkd : Θ.2.2.2.2.1 = kdC) {person_a : Int32} {r : Int32} (hx : q5_duelsOf σ person_a = some r) (hrm : rm5_duelsOf.frames + 1 ≤ rm.frames ∧ 8 + (4 + 11) + rm5_duelsOf.locals ≤ rm.locals) (hcat : (st.map fun v => v.category).sum ≤ 8) (hk : kc ≤ rm.cells ∧ ks ≤ rm.slots) (hd : decode cc pc = .ok (.invokevirtual 83, 3)) (kk : Z Θ nL kc ks Q σ (pc + 3) lv (.int r :: st)) : Z Θ nL kc ks Q σ pc lv (.int person_a :: .ref (zA Θ 6) :: st) := z_callV C 6 [.int person_a] (some (.int r), σ) 1 (kC_6 hkd) rfl (c5_duelsOf (person_a := person_a) hkd (zc_inj C) hx) w_3_76 w_3_73 w_3_74 w_3_75 w_1_9 ⟨rfl, rfl, hrm.1, hrm.2⟩ (by decide +kernel) rfl rfl hcat hk hd kk
theorem dX5_beaterOfAll_0 : decode cX5_beaterOfAll 0 = .ok (.iconst 0, 1) := by decide +kernel
theorem dX5_beaterOfAll_1 : decode cX5_beaterOfAll 1 = .ok (.istore_n 1, 1) := by decide +kernel
theorem dX5_beaterOfAll_2 : decode cX5_beaterOfAll 2 = .ok (.iload_n 1, 1) := by decide +kernel
theorem dX5_beaterOfAll_3 : decode cX5_beaterOfAll 3 = .ok (.aload_n 0, 1) := by decide +kernel
theorem dX5_beaterOfAll_4 : decode cX5_beaterOfAll 4 = .ok (.getfield 30, 3) := by decide +kernel
theorem dX5_beaterOfAll_7 : decode cX5_beaterOfAll 7 = .ok (.if_icmp .ge 36, 3) := by decide +kernel
theorem dX5_beaterOfAll_10 : decode cX5_beaterOfAll 10 = .ok (.aload_n 0, 1) := by decide +kernel
theorem dX5_beaterOfAll_11 : decode cX5_beaterOfAll 11 = .ok (.getfield 34, 3) := by decide +kernel
theorem dX5_beaterOfAll_14 : decode cX5_beaterOfAll 14 = .ok (.iload_n 1, 1) := by decide +kernel
theorem dX5_beaterOfAll_15 : decode cX5_beaterOfAll 15 = .ok (.invokestatic 58, 3) := by decide +kernel
theorem dX5_beaterOfAll_18 : decode cX5_beaterOfAll 18 = .ok (.ifCond .eq 19, 3) := by decide +kernel
theorem dX5_beaterOfAll_21 : decode cX5_beaterOfAll 21 = .ok (.aload_n 0, 1) := by decide +kernel
theorem dX5_beaterOfAll_22 : decode cX5_beaterOfAll 22 = .ok (.iload_n 1, 1) := by decide +kernel
theorem dX5_beaterOfAll_23 : decode cX5_beaterOfAll 23 = .ok (.invokevirtual 83, 3) := by decide +kernel
theorem dX5_beaterOfAll_26 : decode cX5_beaterOfAll 26 = .ok (.aload_n 0, 1) := by decide +kernel
theorem dX5_beaterOfAll_27 : decode cX5_beaterOfAll 27 = .ok (.getfield 37, 3) := by decide +kernel
theorem dX5_beaterOfAll_30 : decode cX5_beaterOfAll 30 = .ok (.iconst 1, 1) := by decide +kernel
theorem dX5_beaterOfAll_31 : decode cX5_beaterOfAll 31 = .ok (.isub, 1) := by decide +kernel
theorem dX5_beaterOfAll_32 : decode cX5_beaterOfAll 32 = .ok (.if_icmp .ne 5, 3) := by decide +kernel
theorem dX5_beaterOfAll_35 : decode cX5_beaterOfAll 35 = .ok (.iload_n 1, 1) := by decide +kernel
theorem dX5_beaterOfAll_36 : decode cX5_beaterOfAll 36 = .ok (.ireturn, 1) := by decide +kernel
theorem dX5_beaterOfAll_37 : decode cX5_beaterOfAll 37 = .ok (.iinc 1 1, 3) := by decide +kernel
theorem dX5_beaterOfAll_40 : decode cX5_beaterOfAll 40 = .ok (.goto (-38), 3) := by decide +kernel
theorem dX5_beaterOfAll_43 : decode cX5_beaterOfAll 43 = .ok (.iconst (-1), 1) := by decide +kernel
theorem dX5_beaterOfAll_44 : decode cX5_beaterOfAll 44 = .ok (.ireturn, 1) := by decide +kernel
def q5_beaterOfAll (σ : St) : Option Int32 :=
  Option.bind (loop1 (fun rec4_ (r7_ : Int32) =>
  if r7_ < (σ 6 6) then
  Option.bind (if q11_isIn (σ 6 7) r7_ = true then (Option.bind (q5_duelsOf σ r7_) fun x19_ =>
  if x19_ = ((σ 6 8) - 1) then (some true) else (some false)) else (some false)) fun t16_ =>
  if t16_ = true then (some (.inl r7_)) else
  lt (r7_ + 1) fun r23_ =>
  rec4_ r23_
  else (some (.inr r7_))) fuelN (0 : Int32)) fun y1_ =>
  Sum.elim (fun x9 => some x9) (fun y1_r =>
  some (-1)) y1_
abbrev rm5_beaterOfAll : Room := { frames := 3, cells := 0, slots := 0, locals := 69 }
set_option maxHeartbeats 4000000 in
set_option maxRecDepth 100000 in
theorem p5_beaterOfAll {Θ : Tz} {σ : St} {ρ : Option Value × St} (C : Zc Θ cX5_beaterOfAll 2 RX5 (some .int) rm5_beaterOfAll) (hkd : Θ.2.2.2.2.1 = kdC) {r : Int32} (hf : q5_beaterOfAll σ = some r) (hρ : ρ = (some (.int r), σ)) : Z Θ 2 0 0 (zQ Θ ρ) σ 0 [(0, .ref (zA Θ 6))] [] := by
  unfold q5_beaterOfAll at hf
  refine z_iconst (v := 0) C dX5_beaterOfAll_0 ic_0 ?_
  refine z_istN C dX5_beaterOfAll_1 rfl rfl (Nat.le_of_ble_eq_true rfl) rfl ?_
  refine Z.sub [1, 0] rfl ?_
  obtain ⟨y1_, h2_, hf⟩ := ob hf
  suffices K3_ : ∀ y1_r, y1_ = .inr y1_r → Z Θ 2 0 0 (zQ Θ ρ) σ 43 [(0, .ref (zA Θ 6)), (1, .int y1_r)] [] by
    refine loop1_Z (P := fun (r7_ : Int32) => Z Θ 2 0 0 (zQ Θ ρ) σ 2 [(0, .ref (zA Θ 6)), (1, .int r7_)] []) ?_ fuelN (0 : Int32) h2_
    clear h2_
    intro rec4_ r7_ h5_ h6_
    have K10_ : r7_ < (σ 6 6) → Z Θ 2 0 0 (zQ Θ ρ) σ 10 [(0, .ref (zA Θ 6)), (1, .int r7_)] [] := by
      intro h13_
      rw [if_pos h13_] at h6_
      obtain ⟨t16_, h17_, h6_⟩ := ob h6_
      have K14_ : t16_ = true → Z Θ 2 0 0 (zQ Θ ρ) σ 35 [(0, .ref (zA Θ 6)), (1, .int r7_)] [] := by
        intro h22_
        rw [if_pos h22_] at h6_
        refine z_iload_n C 1 dX5_beaterOfAll_35 rfl rfl ?_
        rw [← Option.some.inj h6_] at hf
        replace hf : some r7_ = some r := hf
        cases hf
        subst hρ
        exact z_iret C dX5_beaterOfAll_36
      suffices K15_ : ¬ (t16_ = true) → Z Θ 2 0 0 (zQ Θ ρ) σ 37 [(0, .ref (zA Θ 6)), (1, .int r7_)] [] by
        refine z_aload_n C 0 dX5_beaterOfAll_10 rfl rfl ?_
        refine fg5_34 C hkd dX5_beaterOfAll_11 ?_
        refine z_iload_n C 1 dX5_beaterOfAll_14 rfl rfl ?_
        refine cr5_58 (set_a := (σ 6 7)) (person_a := r7_) C hkd  ⟨(Nat.le_of_ble_eq_true rfl), (Nat.le_of_ble_eq_true rfl)⟩ (Nat.le_of_ble_eq_true rfl) ⟨Nat.zero_le _, Nat.zero_le _⟩ dX5_beaterOfAll_15 ?_
        refine cb_f C 37 dX5_beaterOfAll_18 (by decide) (fun h18_ => ?_) (fun h18_ => ?_)
        · rw [if_pos h18_] at h17_
          refine z_aload_n C 0 dX5_beaterOfAll_21 rfl rfl ?_
          refine z_iload_n C 1 dX5_beaterOfAll_22 rfl rfl ?_
          obtain ⟨x19_, h20_, h17_⟩ := ob h17_
          refine cr5_83 (person_a := r7_) C hkd  h20_ ⟨(Nat.le_of_ble_eq_true rfl), (Nat.le_of_ble_eq_true rfl)⟩ (Nat.le_of_ble_eq_true rfl) ⟨Nat.zero_le _, Nat.zero_le _⟩ dX5_beaterOfAll_23 ?_
          refine z_aload_n C 0 dX5_beaterOfAll_26 rfl rfl ?_
          refine fg5_37 C hkd dX5_beaterOfAll_27 ?_
          refine z_iconst (v := 1) C dX5_beaterOfAll_30 ic_1 ?_
          refine z_isub C dX5_beaterOfAll_31 ?_
          refine c_eq_f C 37 dX5_beaterOfAll_32 (by decide) (fun h21_ => ?_) (fun h21_ => ?_)
          · rw [if_pos h21_] at h17_
            cases h17_
            exact K14_ rfl
          · rw [if_neg h21_] at h17_
            cases h17_
            exact K15_ Bool.false_ne_true
        · rw [if_neg h18_] at h17_
          cases h17_
          exact K15_ Bool.false_ne_true
      intro h22_
      rw [if_neg h22_] at h6_
      obtain ⟨r23_, h24_, h6_⟩ := lt_ h6_
      refine z_inc C 1 dX5_beaterOfAll_37 rfl ic_1 h24_ (Nat.le_of_ble_eq_true rfl) rfl ?_
      refine z_goto C 2 dX5_beaterOfAll_40 (by decide) ?_
      refine Z.sub [1, 0] rfl ?_
      exact h5_ _ h6_
    have K11_ : ¬ (r7_ < (σ 6 6)) → Z Θ 2 0 0 (zQ Θ ρ) σ 43 [(0, .ref (zA Θ 6)), (1, .int r7_)] [] := by
      intro h13_
      rw [if_neg h13_] at h6_
      exact K3_ _ (Option.some.inj h6_).symm
    refine z_iload_n C 1 dX5_beaterOfAll_2 rfl rfl ?_
    refine z_aload_n C 0 dX5_beaterOfAll_3 rfl rfl ?_
    refine fg5_30 C hkd dX5_beaterOfAll_4 ?_
    refine c_lt_f C 43 dX5_beaterOfAll_7 (by decide) (fun h12_ => ?_) (fun h12_ => ?_)
    · exact K10_ h12_
    · exact K11_ h12_
  intro y1_r e9
  subst e9
  simp only [Sum.elim_inr] at hf
  refine z_iconst (v := (-1)) C dX5_beaterOfAll_43 ic_m1 ?_
  cases hf
  subst hρ
  exact z_iret C dX5_beaterOfAll_44
theorem c5_beaterOfAll {l : Launch} {kd : List KD} {w : Wp} {σ : St} (hkd : kd = kdC) (hi : zI kd w) {r : Int32} (hf : q5_beaterOfAll σ = some r) : zM l kd w yX5_beaterOfAll cX5_beaterOfAll 2 (some .int) rm5_beaterOfAll [.ref (w.2.2.1 6)] σ (some (.int r), σ) := zM_of rfl hi (Nat.le_of_ble_eq_true rfl) (fun Θ hl hw C => by
  obtain ⟨Θ1, Θ2, Θ3, Θ4, Θ5⟩ := Θ
  cases hw
  exact p5_beaterOfAll C hkd  hf rfl)
/-! LastLoaf.master -/
theorem w_3_72 : Cond.code ({ cls := "LastLoaf$Poll", name := "beaterOfAll", desc := "()I" } : MethodName) prog_7_method_9_code (2 : Nat) (Option.some ClassFile.FieldType.int) ∈ TB := tb_in (lwt_3 (List.mem_of_getElem? (i := 72) (by decide +kernel))) rfl
theorem w_3_69 : Cond.methodLink "LastLoaf" (285 : Nat) ({ cls := "LastLoaf$Poll", name := "beaterOfAll", desc := "()I" } : MethodName) ∈ TB := tb_in (lwt_3 (List.mem_of_getElem? (i := 69) (by decide +kernel))) rfl
theorem w_3_70 : Cond.instanceMethod ({ cls := "LastLoaf$Poll", name := "beaterOfAll", desc := "()I" } : MethodName) ∈ TB := tb_in (lwt_3 (List.mem_of_getElem? (i := 70) (by decide +kernel))) rfl
theorem w_3_71 : Cond.selects "LastLoaf$Poll" ({ cls := "LastLoaf$Poll", name := "beaterOfAll", desc := "()I" } : MethodName) ({ cls := "LastLoaf$Poll", name := "beaterOfAll", desc := "()I" } : MethodName) ∈ TB := tb_in (lwt_3 (List.mem_of_getElem? (i := 71) (by decide +kernel))) rfl
theorem cr11_285 {Θ : Tz} {cc : ByteArray} {nL kc ks : Nat} {ret : Option FieldType} {rm : Room} {Q : State → Prop} {σ : St} {pc : Nat} {lv : List (Nat × Value)} {st : List Value} (C : Zc Θ cc nL RX11 ret rm) (hkd : Θ.2.2.2.2.1 = kdC) {r : Int32} (hx : q5_beaterOfAll σ = some r) (hrm : rm5_beaterOfAll.frames + 1 ≤ rm.frames ∧ 8 + (2 + 11) + rm5_beaterOfAll.locals ≤ rm.locals) (hcat : (st.map fun v => v.category).sum ≤ 8) (hk : kc ≤ rm.cells ∧ ks ≤ rm.slots) (hd : decode cc pc = .ok (.invokevirtual 285, 3)) (kk : Z Θ nL kc ks Q σ (pc + 3) lv (.int r :: st)) : Z Θ nL kc ks Q σ pc lv (.ref (zA Θ 6) :: st) := z_callV C 6 [] (some (.int r), σ) 0 (kC_6 hkd) rfl (c5_beaterOfAll hkd (zc_inj C) hx) w_3_72 w_3_69 w_3_70 w_3_71 w_1_9 ⟨rfl, rfl, hrm.1, hrm.2⟩ (by decide +kernel) rfl rfl hcat hk hd kk
theorem dX11_master_0 : decode cX11_master 0 = .ok (.aload_n 0, 1) := by decide +kernel
theorem dX11_master_1 : decode cX11_master 1 = .ok (.invokevirtual 180, 3) := by decide +kernel
theorem dX11_master_4 : decode cX11_master 4 = .ok (.invokevirtual 285, 3) := by decide +kernel
theorem dX11_master_7 : decode cX11_master 7 = .ok (.ireturn, 1) := by decide +kernel
def q11_master (σ : St) : Option (Int32 × St) :=
  Option.bind (q11_pollNow σ) fun x1_ =>
  Option.bind (q5_beaterOfAll x1_.2) fun x3_ =>
  some (x3_, x1_.2)
abbrev rm11_master : Room := { frames := 5, cells := 0, slots := 0, locals := 116 }
set_option maxHeartbeats 4000000 in
set_option maxRecDepth 100000 in
theorem p11_master {Θ : Tz} {σ : St} {ρ : Option Value × St} (C : Zc Θ cX11_master 1 RX11 (some .int) rm11_master) (hkd : Θ.2.2.2.2.1 = kdC) {r : (Int32 × St)} (hf : q11_master σ = some r) (hρ : ρ = (some (.int r.1), r.2)) : Z Θ 1 0 0 (zQ Θ ρ) σ 0 [(0, .ref (zA Θ 0))] [] := by
  unfold q11_master at hf
  refine z_aload_n C 0 dX11_master_0 rfl rfl ?_
  obtain ⟨x1_, h2_, hf⟩ := ob hf
  refine cr11_180 C hkd  h2_ ⟨(Nat.le_of_ble_eq_true rfl), (Nat.le_of_ble_eq_true rfl)⟩ (Nat.le_of_ble_eq_true rfl) ⟨Nat.zero_le _, Nat.zero_le _⟩ dX11_master_1 ?_
  rw [rp11_pollNow h2_]
  obtain ⟨x3_, h4_, hf⟩ := ob hf
  refine cr11_285 C hkd  h4_ ⟨(Nat.le_of_ble_eq_true rfl), (Nat.le_of_ble_eq_true rfl)⟩ (Nat.le_of_ble_eq_true rfl) ⟨Nat.zero_le _, Nat.zero_le _⟩ dX11_master_4 ?_
  cases hf
  subst hρ
  exact z_iret C dX11_master_7
theorem c11_master {l : Launch} {kd : List KD} {w : Wp} {σ : St} (hkd : kd = kdC) (hi : zI kd w) {r : (Int32 × St)} (hf : q11_master σ = some r) : zM l kd w yX11_master cX11_master 1 (some .int) rm11_master [.ref (w.2.2.1 0)] σ (some (.int r.1), r.2) := zM_of rfl hi (Nat.le_of_ble_eq_true rfl) (fun Θ hl hw C => by
  obtain ⟨Θ1, Θ2, Θ3, Θ4, Θ5⟩ := Θ
  cases hw
  exact p11_master C hkd  hf rfl)
/-! LastLoaf.leftHungry -/
theorem dX11_leftHungry_0 : decode cX11_leftHungry 0 = .ok (.aload_n 0, 1) := by decide +kernel
theorem dX11_leftHungry_1 : decode cX11_leftHungry 1 = .ok (.getfield 23, 3) := by decide +kernel
theorem dX11_leftHungry_4 : decode cX11_leftHungry 4 = .ok (.aload_n 0, 1) := by decide +kernel
theorem dX11_leftHungry_5 : decode cX11_leftHungry 5 = .ok (.getfield 19, 3) := by decide +kernel
theorem dX11_leftHungry_8 : decode cX11_leftHungry 8 = .ok (.invokevirtual 110, 3) := by decide +kernel
theorem dX11_leftHungry_11 : decode cX11_leftHungry 11 = .ok (.aload_n 0, 1) := by decide +kernel
theorem dX11_leftHungry_12 : decode cX11_leftHungry 12 = .ok (.getfield 23, 3) := by decide +kernel
theorem dX11_leftHungry_15 : decode cX11_leftHungry 15 = .ok (.iload_n 1, 1) := by decide +kernel
theorem dX11_leftHungry_16 : decode cX11_leftHungry 16 = .ok (.putfield 269, 3) := by decide +kernel
theorem dX11_leftHungry_19 : decode cX11_leftHungry 19 = .ok (.aload_n 0, 1) := by decide +kernel
theorem dX11_leftHungry_20 : decode cX11_leftHungry 20 = .ok (.getfield 70, 3) := by decide +kernel
theorem dX11_leftHungry_23 : decode cX11_leftHungry 23 = .ok (.aload_n 0, 1) := by decide +kernel
theorem dX11_leftHungry_24 : decode cX11_leftHungry 24 = .ok (.getfield 23, 3) := by decide +kernel
theorem dX11_leftHungry_27 : decode cX11_leftHungry 27 = .ok (.iload_n 2, 1) := by decide +kernel
theorem dX11_leftHungry_28 : decode cX11_leftHungry 28 = .ok (.iconst 0, 1) := by decide +kernel
theorem dX11_leftHungry_29 : decode cX11_leftHungry 29 = .ok (.invokevirtual 243, 3) := by decide +kernel
theorem dX11_leftHungry_32 : decode cX11_leftHungry 32 = .ok (.aload_n 0, 1) := by decide +kernel
theorem dX11_leftHungry_33 : decode cX11_leftHungry 33 = .ok (.getfield 23, 3) := by decide +kernel
theorem dX11_leftHungry_36 : decode cX11_leftHungry 36 = .ok (.getfield 171, 3) := by decide +kernel
theorem dX11_leftHungry_39 : decode cX11_leftHungry 39 = .ok (.invokestatic 238, 3) := by decide +kernel
theorem dX11_leftHungry_42 : decode cX11_leftHungry 42 = .ok (.ireturn, 1) := by decide +kernel
def q11_leftHungry (σ : St) (way_a : Int32) (n_a : Int32) : Option (Int32 × St) :=
  Option.bind (q10_become σ 54 44) fun x1_ =>
  lt (up x1_ 54 13 way_a) fun σ3_ =>
  Option.bind (q0_bakeWeeks σ3_ 54 n_a false) fun x5_ =>
  some (bcount (x5_ 54 10), x5_)
abbrev rm11_leftHungry : Room := { frames := 6, cells := 0, slots := 0, locals := 144 }
set_option maxHeartbeats 4000000 in
set_option maxRecDepth 100000 in
theorem p11_leftHungry {Θ : Tz} {σ : St} {ρ : Option Value × St} (C : Zc Θ cX11_leftHungry 3 RX11 (some .int) rm11_leftHungry) (hkd : Θ.2.2.2.2.1 = kdC) {way_a : Int32} {n_a : Int32} {r : (Int32 × St)} (hf : q11_leftHungry σ way_a n_a = some r) (hρ : ρ = (some (.int r.1), r.2)) : Z Θ 3 0 0 (zQ Θ ρ) σ 0 [(0, .ref (zA Θ 0)), (1, .int way_a), (2, .int n_a)] [] := by
  unfold q11_leftHungry at hf
  refine z_aload_n C 0 dX11_leftHungry_0 rfl rfl ?_
  refine fg11_23 C hkd dX11_leftHungry_1 ?_
  refine z_aload_n C 0 dX11_leftHungry_4 rfl rfl ?_
  refine fg11_19 C hkd dX11_leftHungry_5 ?_
  obtain ⟨x1_, h2_, hf⟩ := ob hf
  refine cr11_110 (th := 54) (other_a := 44) C hkd isV_54 isV_44 h2_ ⟨(Nat.le_of_ble_eq_true rfl), (Nat.le_of_ble_eq_true rfl)⟩ (Nat.le_of_ble_eq_true rfl) ⟨Nat.zero_le _, Nat.zero_le _⟩ dX11_leftHungry_8 ?_
  refine z_aload_n C 0 dX11_leftHungry_11 rfl rfl ?_
  refine fg11_23 C hkd dX11_leftHungry_12 ?_
  refine z_iload_n C 1 dX11_leftHungry_15 rfl rfl ?_
  obtain ⟨σ3_, h4_, hf⟩ := lt_ hf
  refine fp11_269 C hkd isV_54 h4_ dX11_leftHungry_16 ?_
  refine z_aload_n C 0 dX11_leftHungry_19 rfl rfl ?_
  refine fg11_70 C hkd dX11_leftHungry_20 ?_
  refine z_aload_n C 0 dX11_leftHungry_23 rfl rfl ?_
  refine fg11_23 C hkd dX11_leftHungry_24 ?_
  refine z_iload_n C 2 dX11_leftHungry_27 rfl rfl ?_
  refine z_iconst (v := 0) C dX11_leftHungry_28 ic_0 ?_
  obtain ⟨x5_, h6_, hf⟩ := ob hf
  refine cr11_243 (village_a := 54) (n_a := n_a) (speeches_a := false) C hkd isV_54 h6_ ⟨(Nat.le_of_ble_eq_true rfl), (Nat.le_of_ble_eq_true rfl)⟩ (Nat.le_of_ble_eq_true rfl) ⟨Nat.zero_le _, Nat.zero_le _⟩ dX11_leftHungry_29 ?_
  refine z_aload_n C 0 dX11_leftHungry_32 rfl rfl ?_
  refine fg11_23 C hkd dX11_leftHungry_33 ?_
  refine fg11_171 C hkd isV_54 dX11_leftHungry_36 ?_
  refine z_callS C [.int (x5_ 54 10)] (some (.int (bcount (x5_ 54 10))), x5_) 1 (cJ_bitCount (zc_inj C)) w_3_30 w_4_11 w_3_29 w_1_26 ⟨rfl, rfl, (Nat.le_of_ble_eq_true rfl), (Nat.le_of_ble_eq_true rfl)⟩ (by decide +kernel) rfl rfl (Nat.le_of_ble_eq_true rfl) ⟨Nat.zero_le _, Nat.zero_le _⟩ dX11_leftHungry_39 ?_
  cases hf
  subst hρ
  exact z_iret C dX11_leftHungry_42
theorem c11_leftHungry {l : Launch} {kd : List KD} {w : Wp} {σ : St} {way_a : Int32} {n_a : Int32} (hkd : kd = kdC) (hi : zI kd w) {r : (Int32 × St)} (hf : q11_leftHungry σ way_a n_a = some r) : zM l kd w yX11_leftHungry cX11_leftHungry 3 (some .int) rm11_leftHungry [.ref (w.2.2.1 0), .int way_a, .int n_a] σ (some (.int r.1), r.2) := zM_of rfl hi (Nat.le_of_ble_eq_true rfl) (fun Θ hl hw C => by
  obtain ⟨Θ1, Θ2, Θ3, Θ4, Θ5⟩ := Θ
  cases hw
  exact p11_leftHungry C hkd  hf rfl)
/-! LastLoaf.hungry -/
theorem w_6_197 : Cond.code ({ cls := "LastLoaf", name := "leftHungry", desc := "(II)I" } : MethodName) prog_1_method_79_code (3 : Nat) (Option.some ClassFile.FieldType.int) ∈ TB := tb_in (lwt_6 (List.mem_of_getElem? (i := 197) (by decide +kernel))) rfl
theorem w_6_194 : Cond.methodLink "LastLoaf" (289 : Nat) ({ cls := "LastLoaf", name := "leftHungry", desc := "(II)I" } : MethodName) ∈ TB := tb_in (lwt_6 (List.mem_of_getElem? (i := 194) (by decide +kernel))) rfl
theorem w_6_196 : Cond.instanceMethod ({ cls := "LastLoaf", name := "leftHungry", desc := "(II)I" } : MethodName) ∈ TB := tb_in (lwt_6 (List.mem_of_getElem? (i := 196) (by decide +kernel))) rfl
theorem ws_LastLoaf_leftHungry_II_I : Cond.selects "LastLoaf" (⟨"LastLoaf", "leftHungry", "(II)I"⟩ : MethodName) (⟨"LastLoaf", "leftHungry", "(II)I"⟩ : MethodName) ∈ TB := tb_in (List.mem_append_left _ (List.mem_of_getElem? (i := 11) (by decide +kernel))) rfl
theorem cr11_289 {Θ : Tz} {cc : ByteArray} {nL kc ks : Nat} {ret : Option FieldType} {rm : Room} {Q : State → Prop} {σ : St} {pc : Nat} {lv : List (Nat × Value)} {st : List Value} (C : Zc Θ cc nL RX11 ret rm) (hkd : Θ.2.2.2.2.1 = kdC) {way_a : Int32} {n_a : Int32} {r : Int32 × St} (hx : q11_leftHungry σ way_a n_a = some r) (hrm : rm11_leftHungry.frames + 1 ≤ rm.frames ∧ 8 + (3 + 11) + rm11_leftHungry.locals ≤ rm.locals) (hcat : (st.map fun v => v.category).sum ≤ 8) (hk : kc ≤ rm.cells ∧ ks ≤ rm.slots) (hd : decode cc pc = .ok (.invokevirtual 289, 3)) (kk : Z Θ nL kc ks Q r.2 (pc + 3) lv (.int r.1 :: st)) : Z Θ nL kc ks Q σ pc lv (.int n_a :: .int way_a :: .ref (zA Θ 0) :: st) := z_callV C 0 [.int way_a, .int n_a] (some (.int r.1), r.2) 2 (kC_0 hkd) rfl (c11_leftHungry (way_a := way_a) (n_a := n_a) hkd (zc_inj C) hx) w_6_197 w_6_194 w_6_196 ws_LastLoaf_leftHungry_II_I w_1_1 ⟨rfl, rfl, hrm.1, hrm.2⟩ (by decide +kernel) rfl rfl hcat hk hd kk
theorem dX11_hungry_0 : decode cX11_hungry 0 = .ok (.iload_n 1, 1) := by decide +kernel
theorem dX11_hungry_1 : decode cX11_hungry 1 = .ok (.iconst 0, 1) := by decide +kernel
theorem dX11_hungry_2 : decode cX11_hungry 2 = .ok (.iconst 5, 1) := by decide +kernel
theorem dX11_hungry_3 : decode cX11_hungry 3 = .ok (.invokestatic 231, 3) := by decide +kernel
theorem dX11_hungry_6 : decode cX11_hungry 6 = .ok (.iload_n 2, 1) := by decide +kernel
theorem dX11_hungry_7 : decode cX11_hungry 7 = .ok (.iconst 0, 1) := by decide +kernel
theorem dX11_hungry_8 : decode cX11_hungry 8 = .ok (.bipush 60, 2) := by decide +kernel
theorem dX11_hungry_10 : decode cX11_hungry 10 = .ok (.invokestatic 231, 3) := by decide +kernel
theorem dX11_hungry_13 : decode cX11_hungry 13 = .ok (.aload_n 0, 1) := by decide +kernel
theorem dX11_hungry_14 : decode cX11_hungry 14 = .ok (.iload_n 1, 1) := by decide +kernel
theorem dX11_hungry_15 : decode cX11_hungry 15 = .ok (.iload_n 2, 1) := by decide +kernel
theorem dX11_hungry_16 : decode cX11_hungry 16 = .ok (.invokevirtual 289, 3) := by decide +kernel
theorem dX11_hungry_19 : decode cX11_hungry 19 = .ok (.ireturn, 1) := by decide +kernel
def q11_hungry (σ : St) (way_a : Int32) (n_a : Int32) : Option (Sum Nat Int32 × St) :=
  thn (q11_needNumber way_a 0 5) σ
  (thn (q11_needNumber n_a 0 60) σ
  (Option.bind (q11_leftHungry σ way_a n_a) fun x5_ =>
  some (.inr x5_.1, x5_.2)))
abbrev rm11_hungry : Room := { frames := 7, cells := 2, slots := 12, locals := 166 }
set_option maxHeartbeats 4000000 in
set_option maxRecDepth 100000 in
theorem p11_hungry {Θ : Tz} {σ : St} {ω : Om} (C : Zc Θ cX11_hungry 3 RX11 (some .int) rm11_hungry) (hkd : Θ.2.2.2.2.1 = kdC) (hlt : Θ.1.2.1.stackTraces = false) (het : ∀ x ∈ Θ.2.2.1.2.exceptionTable.toList, False) {way_a : Int32} {n_a : Int32} {r : (Sum Nat Int32 × St)} (hf : q11_hungry σ way_a n_a = some r) (hω : ω = om (fun v => some (.int v)) r) : Z Θ 3 0 0 (zQX Θ ω 2 12) σ 0 [(0, .ref (zA Θ 0)), (1, .int way_a), (2, .int n_a)] [] := by
  unfold q11_hungry at hf
  refine z_iload_n C 1 dX11_hungry_0 rfl rfl ?_
  refine z_iconst (v := 0) C dX11_hungry_1 ic_0 ?_
  refine z_iconst (v := 5) C dX11_hungry_2 ic_5 ?_
  refine zx_callS C het [.int way_a, .int 0, .int 5] (q11_needNumber way_a 0 5) 1 6 3 (c11_needNumber (n_a := way_a) (least_a := 0) (most_a := 5) hkd (zc_inj C) hlt) w_6_83 w_6_81 w_6_82 w_1_1 ⟨rfl, rfl, (Nat.le_of_ble_eq_true rfl), (Nat.le_of_ble_eq_true rfl)⟩ (by decide +kernel) rfl rfl (Nat.le_of_ble_eq_true rfl) ⟨(Nat.le_of_ble_eq_true rfl), (Nat.le_of_ble_eq_true rfl)⟩ dX11_hungry_3 ⟨(Nat.le_of_ble_eq_true rfl), (Nat.le_of_ble_eq_true rfl)⟩ (fun e9 h2_ => by rw [h2_] at hf; cases hf; exact hω) (fun h1_ => ?_)
  rw [h1_] at hf
  replace hf := hf
  refine z_iload_n C 2 dX11_hungry_6 rfl rfl ?_
  refine z_iconst (v := 0) C dX11_hungry_7 ic_0 ?_
  refine z_bipush (v := 60) C dX11_hungry_8 bp_60 ?_
  refine zx_callS C het [.int n_a, .int 0, .int 60] (q11_needNumber n_a 0 60) 1 6 3 (c11_needNumber (n_a := n_a) (least_a := 0) (most_a := 60) hkd (zc_inj C) hlt) w_6_83 w_6_81 w_6_82 w_1_1 ⟨rfl, rfl, (Nat.le_of_ble_eq_true rfl), (Nat.le_of_ble_eq_true rfl)⟩ (by decide +kernel) rfl rfl (Nat.le_of_ble_eq_true rfl) ⟨(Nat.le_of_ble_eq_true rfl), (Nat.le_of_ble_eq_true rfl)⟩ dX11_hungry_10 ⟨(Nat.le_of_ble_eq_true rfl), (Nat.le_of_ble_eq_true rfl)⟩ (fun e9 h4_ => by rw [h4_] at hf; cases hf; exact hω) (fun h3_ => ?_)
  rw [h3_] at hf
  replace hf := hf
  refine z_aload_n C 0 dX11_hungry_13 rfl rfl ?_
  refine z_iload_n C 1 dX11_hungry_14 rfl rfl ?_
  refine z_iload_n C 2 dX11_hungry_15 rfl rfl ?_
  obtain ⟨x5_, h6_, hf⟩ := ob hf
  refine cr11_289 (way_a := way_a) (n_a := n_a) C hkd  h6_ ⟨(Nat.le_of_ble_eq_true rfl), (Nat.le_of_ble_eq_true rfl)⟩ (Nat.le_of_ble_eq_true rfl) ⟨(Nat.le_of_ble_eq_true rfl), (Nat.le_of_ble_eq_true rfl)⟩ dX11_hungry_16 ?_
  cases hf
  subst hω
  exact zx_iret C ⟨(Nat.le_of_ble_eq_true rfl), (Nat.le_of_ble_eq_true rfl)⟩ dX11_hungry_19
theorem c11_hungry {l : Launch} {kd : List KD} {w : Wp} {σ : St} {way_a : Int32} {n_a : Int32} (hkd : kd = kdC) (hi : zI kd w) (hlt : l.stackTraces = false) {r : (Sum Nat Int32 × St)} (hf : q11_hungry σ way_a n_a = some r) : zX l kd w yX11_hungry cX11_hungry 3 (some .int) rm11_hungry [.ref (w.2.2.1 0), .int way_a, .int n_a] σ (om (fun v => some (.int v)) r) 2 12 := zX_of rfl hi (Nat.le_of_ble_eq_true rfl) (fun Θ hl hw C het => by
  obtain ⟨Θ1, Θ2, Θ3, Θ4, Θ5⟩ := Θ
  cases hw
  cases hl
  exact p11_hungry C hkd hlt het  hf rfl)

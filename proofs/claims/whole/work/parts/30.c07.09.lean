/-! LastLoaf.join -/
theorem w_6_130 : Cond.code ({ cls := "LastLoaf", name := "needParty", desc := "(I)V" } : MethodName) prog_1_method_71_code (1 : Nat) (Option.none : Option ClassFile.FieldType) ∈ TB := tb_in (lwt_6 (List.mem_of_getElem? (i := 130) (by decide +kernel))) rfl
theorem w_6_128 : Cond.methodLink "LastLoaf" (258 : Nat) ({ cls := "LastLoaf", name := "needParty", desc := "(I)V" } : MethodName) ∈ TB := tb_in (lwt_6 (List.mem_of_getElem? (i := 128) (by decide +kernel))) rfl
theorem w_6_129 : Cond.static ({ cls := "LastLoaf", name := "needParty", desc := "(I)V" } : MethodName) ∈ TB := tb_in (lwt_6 (List.mem_of_getElem? (i := 129) (by decide +kernel))) rfl
theorem dX11_join_0 : decode cX11_join 0 = .ok (.aload_n 0, 1) := by decide +kernel
theorem dX11_join_1 : decode cX11_join 1 = .ok (.iload_n 1, 1) := by decide +kernel
theorem dX11_join_2 : decode cX11_join 2 = .ok (.invokevirtual 151, 3) := by decide +kernel
theorem dX11_join_5 : decode cX11_join 5 = .ok (.iload_n 2, 1) := by decide +kernel
theorem dX11_join_6 : decode cX11_join 6 = .ok (.invokestatic 258, 3) := by decide +kernel
theorem dX11_join_9 : decode cX11_join 9 = .ok (.aload_n 0, 1) := by decide +kernel
theorem dX11_join_10 : decode cX11_join 10 = .ok (.getfield 54, 3) := by decide +kernel
theorem dX11_join_13 : decode cX11_join 13 = .ok (.aload_n 0, 1) := by decide +kernel
theorem dX11_join_14 : decode cX11_join 14 = .ok (.getfield 19, 3) := by decide +kernel
theorem dX11_join_17 : decode cX11_join 17 = .ok (.invokevirtual 235, 3) := by decide +kernel
theorem dX11_join_20 : decode cX11_join 20 = .ok (.aload_n 0, 1) := by decide +kernel
theorem dX11_join_21 : decode cX11_join 21 = .ok (.getfield 19, 3) := by decide +kernel
theorem dX11_join_24 : decode cX11_join 24 = .ok (.getfield 158, 3) := by decide +kernel
theorem dX11_join_27 : decode cX11_join 27 = .ok (.iload_n 1, 1) := by decide +kernel
theorem dX11_join_28 : decode cX11_join 28 = .ok (.iaload, 1) := by decide +kernel
theorem dX11_join_29 : decode cX11_join 29 = .ok (.istore_n 3, 1) := by decide +kernel
theorem dX11_join_30 : decode cX11_join 30 = .ok (.aload_n 0, 1) := by decide +kernel
theorem dX11_join_31 : decode cX11_join 31 = .ok (.getfield 19, 3) := by decide +kernel
theorem dX11_join_34 : decode cX11_join 34 = .ok (.getfield 158, 3) := by decide +kernel
theorem dX11_join_37 : decode cX11_join 37 = .ok (.iload_n 1, 1) := by decide +kernel
theorem dX11_join_38 : decode cX11_join 38 = .ok (.iload_n 2, 1) := by decide +kernel
theorem dX11_join_39 : decode cX11_join 39 = .ok (.iastore, 1) := by decide +kernel
theorem dX11_join_40 : decode cX11_join 40 = .ok (.iload_n 3, 1) := by decide +kernel
theorem dX11_join_41 : decode cX11_join 41 = .ok (.ireturn, 1) := by decide +kernel
def q11_join (σ : St) (person_a : Int32) (party_a : Int32) : Option (Sum Nat Int32 × St) :=
  thn (q11_needPerson σ person_a) σ
  (thn (q11_needParty party_a) σ
  (Option.bind (q4_remember σ 44) fun x5_ =>
  Option.bind (ag x5_ (44 + 2) 6 person_a) fun x7_ =>
  Option.bind (sa x5_ (44 + 2) 6 person_a party_a) fun σ9_ =>
  some (.inr x7_, σ9_)))
abbrev rm11_join : Room := { frames := 7, cells := 2, slots := 12, locals := 111 }
set_option maxHeartbeats 4000000 in
set_option maxRecDepth 100000 in
theorem p11_join {Θ : Tz} {σ : St} {ω : Om} (C : Zc Θ cX11_join 4 RX11 (some .int) rm11_join) (hkd : Θ.2.2.2.2.1 = kdC) (hlt : Θ.1.2.1.stackTraces = false) (het : ∀ x ∈ Θ.2.2.1.2.exceptionTable.toList, False) {person_a : Int32} {party_a : Int32} {r : (Sum Nat Int32 × St)} (hf : q11_join σ person_a party_a = some r) (hω : ω = om (fun v => some (.int v)) r) : Z Θ 4 0 0 (zQX Θ ω 2 12) σ 0 [(0, .ref (zA Θ 0)), (1, .int person_a), (2, .int party_a)] [] := by
  unfold q11_join at hf
  refine z_aload_n C 0 dX11_join_0 rfl rfl ?_
  refine z_iload_n C 1 dX11_join_1 rfl rfl ?_
  refine zx_callV C het 0 [.int person_a] (q11_needPerson σ person_a) 1 6 1 (kC_0 hkd) rfl (c11_needPerson (person_a := person_a) hkd (zc_inj C) hlt) w_5_227 w_5_224 w_5_226 ws_LastLoaf_needPerson_I_V w_1_1 ⟨rfl, rfl, (Nat.le_of_ble_eq_true rfl), (Nat.le_of_ble_eq_true rfl)⟩ (by decide +kernel) rfl rfl (Nat.le_of_ble_eq_true rfl) ⟨(Nat.le_of_ble_eq_true rfl), (Nat.le_of_ble_eq_true rfl)⟩ dX11_join_2 ⟨(Nat.le_of_ble_eq_true rfl), (Nat.le_of_ble_eq_true rfl)⟩ (fun e9 h2_ => by rw [h2_] at hf; cases hf; exact hω) (fun h1_ => ?_)
  rw [h1_] at hf
  replace hf := thn_x hf
  refine z_iload_n C 2 dX11_join_5 rfl rfl ?_
  refine zx_callS C het [.int party_a] (q11_needParty party_a) 1 6 1 (c11_needParty (party_a := party_a) hkd (zc_inj C) hlt) w_6_130 w_6_128 w_6_129 w_1_1 ⟨rfl, rfl, (Nat.le_of_ble_eq_true rfl), (Nat.le_of_ble_eq_true rfl)⟩ (by decide +kernel) rfl rfl (Nat.le_of_ble_eq_true rfl) ⟨(Nat.le_of_ble_eq_true rfl), (Nat.le_of_ble_eq_true rfl)⟩ dX11_join_6 ⟨(Nat.le_of_ble_eq_true rfl), (Nat.le_of_ble_eq_true rfl)⟩ (fun e9 h4_ => by rw [h4_] at hf; cases hf; exact hω) (fun h3_ => ?_)
  rw [h3_] at hf
  replace hf := thn_x hf
  refine z_aload_n C 0 dX11_join_9 rfl rfl ?_
  refine fg11_54 C hkd dX11_join_10 ?_
  refine z_aload_n C 0 dX11_join_13 rfl rfl ?_
  refine fg11_19 C hkd dX11_join_14 ?_
  obtain ⟨x5_, h6_, hf⟩ := ob hf
  refine cr11_235 (village_a := 44) C hkd isV_44 h6_ ⟨(Nat.le_of_ble_eq_true rfl), (Nat.le_of_ble_eq_true rfl)⟩ (Nat.le_of_ble_eq_true rfl) ⟨(Nat.le_of_ble_eq_true rfl), (Nat.le_of_ble_eq_true rfl)⟩ dX11_join_17 ?_
  refine z_aload_n C 0 dX11_join_20 rfl rfl ?_
  refine fg11_19 C hkd dX11_join_21 ?_
  refine fg11_158 C hkd isV_44 dX11_join_24 ?_
  refine z_iload_n C 1 dX11_join_27 rfl rfl ?_
  obtain ⟨x7_, h8_, hf⟩ := ob hf
  refine z_ag C h8_ (kV_2 hkd isV_44) dX11_join_28 ?_
  refine z_istN C dX11_join_29 rfl rfl (Nat.le_of_ble_eq_true rfl) rfl ?_
  refine z_aload_n C 1 dX11_join_30 rfl rfl ?_
  refine fg11_19 C hkd dX11_join_31 ?_
  refine fg11_158 C hkd isV_44 dX11_join_34 ?_
  refine z_iload_n C 2 dX11_join_37 rfl rfl ?_
  refine z_iload_n C 3 dX11_join_38 rfl rfl ?_
  obtain ⟨σ9_, h10_, hf⟩ := ob hf
  refine z_sa C h10_ (kV_2 hkd isV_44) dX11_join_39 ?_
  refine z_iload_n C 0 dX11_join_40 rfl rfl ?_
  cases hf
  subst hω
  exact zx_iret C ⟨(Nat.le_of_ble_eq_true rfl), (Nat.le_of_ble_eq_true rfl)⟩ dX11_join_41
theorem c11_join {l : Launch} {kd : List KD} {w : Wp} {σ : St} {person_a : Int32} {party_a : Int32} (hkd : kd = kdC) (hi : zI kd w) (hlt : l.stackTraces = false) {r : (Sum Nat Int32 × St)} (hf : q11_join σ person_a party_a = some r) : zX l kd w yX11_join cX11_join 4 (some .int) rm11_join [.ref (w.2.2.1 0), .int person_a, .int party_a] σ (om (fun v => some (.int v)) r) 2 12 := zX_of rfl hi (Nat.le_of_ble_eq_true rfl) (fun Θ hl hw C het => by
  obtain ⟨Θ1, Θ2, Θ3, Θ4, Θ5⟩ := Θ
  cases hw
  cases hl
  exact p11_join C hkd hlt het  hf rfl)

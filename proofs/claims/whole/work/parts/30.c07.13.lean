/-! LastLoaf.fetch -/
theorem fp11_171 {Θ : Tz} {cc : ByteArray} {nL kc ks : Nat} {ret : Option FieldType} {rm : Room} {Q : State → Prop} {σ : St} {pc : Nat} {lv : List (Nat × Value)} {st : List Value} (C : Zc Θ cc nL RX11 ret rm) (hkd : Θ.2.2.2.2.1 = kdC) {th : Nat} (hth : isV th) {x : Int32} {σ1 : St} (he : σ1 = up σ th 10 x) (hd : decode cc pc = .ok (.putfield 171, 3)) (kk : Z Θ nL kc ks Q σ1 (pc + 3) lv st) : Z Θ nL kc ks Q σ pc lv (.int x :: .ref (zA Θ th) :: st) := by subst he; exact z_put C inT10 tyX10_ok nmX10 th (kV_0 hkd hth) rfl 10 (by decide) w_1_141 rfl rfl rfl rfl hd kk
theorem dX11_fetch_0 : decode cX11_fetch 0 = .ok (.aload_n 0, 1) := by decide +kernel
theorem dX11_fetch_1 : decode cX11_fetch 1 = .ok (.iload_n 1, 1) := by decide +kernel
theorem dX11_fetch_2 : decode cX11_fetch 2 = .ok (.invokevirtual 151, 3) := by decide +kernel
theorem dX11_fetch_5 : decode cX11_fetch 5 = .ok (.aload_n 0, 1) := by decide +kernel
theorem dX11_fetch_6 : decode cX11_fetch 6 = .ok (.getfield 19, 3) := by decide +kernel
theorem dX11_fetch_9 : decode cX11_fetch 9 = .ok (.getfield 171, 3) := by decide +kernel
theorem dX11_fetch_12 : decode cX11_fetch 12 = .ok (.iload_n 1, 1) := by decide +kernel
theorem dX11_fetch_13 : decode cX11_fetch 13 = .ok (.invokestatic 167, 3) := by decide +kernel
theorem dX11_fetch_16 : decode cX11_fetch 16 = .ok (.ifCond .ne 14, 3) := by decide +kernel
theorem dX11_fetch_19 : decode cX11_fetch 19 = .ok (.new 247, 3) := by decide +kernel
theorem dX11_fetch_22 : decode cX11_fetch 22 = .ok (.dup, 1) := by decide +kernel
theorem dX11_fetch_23 : decode cX11_fetch 23 = .ok (.ldc_w 277, 3) := by decide +kernel
theorem dX11_fetch_26 : decode cX11_fetch 26 = .ok (.invokespecial 251, 3) := by decide +kernel
theorem dX11_fetch_29 : decode cX11_fetch 29 = .ok (.athrow, 1) := by decide +kernel
theorem dX11_fetch_30 : decode cX11_fetch 30 = .ok (.aload_n 0, 1) := by decide +kernel
theorem dX11_fetch_31 : decode cX11_fetch 31 = .ok (.getfield 54, 3) := by decide +kernel
theorem dX11_fetch_34 : decode cX11_fetch 34 = .ok (.aload_n 0, 1) := by decide +kernel
theorem dX11_fetch_35 : decode cX11_fetch 35 = .ok (.getfield 19, 3) := by decide +kernel
theorem dX11_fetch_38 : decode cX11_fetch 38 = .ok (.invokevirtual 235, 3) := by decide +kernel
theorem dX11_fetch_41 : decode cX11_fetch 41 = .ok (.aload_n 0, 1) := by decide +kernel
theorem dX11_fetch_42 : decode cX11_fetch 42 = .ok (.getfield 19, 3) := by decide +kernel
theorem dX11_fetch_45 : decode cX11_fetch 45 = .ok (.aload_n 0, 1) := by decide +kernel
theorem dX11_fetch_46 : decode cX11_fetch 46 = .ok (.getfield 19, 3) := by decide +kernel
theorem dX11_fetch_49 : decode cX11_fetch 49 = .ok (.getfield 171, 3) := by decide +kernel
theorem dX11_fetch_52 : decode cX11_fetch 52 = .ok (.iload_n 1, 1) := by decide +kernel
theorem dX11_fetch_53 : decode cX11_fetch 53 = .ok (.invokestatic 252, 3) := by decide +kernel
theorem dX11_fetch_56 : decode cX11_fetch 56 = .ok (.putfield 171, 3) := by decide +kernel
theorem dX11_fetch_59 : decode cX11_fetch 59 = .ok (.aload_n 0, 1) := by decide +kernel
theorem dX11_fetch_60 : decode cX11_fetch 60 = .ok (.getfield 19, 3) := by decide +kernel
theorem dX11_fetch_63 : decode cX11_fetch 63 = .ok (.getfield 154, 3) := by decide +kernel
theorem dX11_fetch_66 : decode cX11_fetch 66 = .ok (.iload_n 1, 1) := by decide +kernel
theorem dX11_fetch_67 : decode cX11_fetch 67 = .ok (.iconst 5, 1) := by decide +kernel
theorem dX11_fetch_68 : decode cX11_fetch 68 = .ok (.iastore, 1) := by decide +kernel
theorem dX11_fetch_69 : decode cX11_fetch 69 = .ok (.aload_n 0, 1) := by decide +kernel
theorem dX11_fetch_70 : decode cX11_fetch 70 = .ok (.getfield 19, 3) := by decide +kernel
theorem dX11_fetch_73 : decode cX11_fetch 73 = .ok (.getfield 171, 3) := by decide +kernel
theorem dX11_fetch_76 : decode cX11_fetch 76 = .ok (.invokestatic 238, 3) := by decide +kernel
theorem dX11_fetch_79 : decode cX11_fetch 79 = .ok (.ireturn, 1) := by decide +kernel
def q11_fetch (σ : St) (person_a : Int32) : Option (Sum Nat Int32 × St) :=
  thn (q11_needPerson σ person_a) σ
  (if ¬ (q11_isIn (σ 44 10) person_a = true) then (some (.inl 1, σ)) else
  Option.bind (q4_remember σ 44) fun x7_ =>
  lt (up x7_ 44 10 (q11_without (x7_ 44 10) person_a)) fun σ9_ =>
  Option.bind (sa σ9_ (44 + 1) 6 person_a 5) fun σ11_ =>
  some (.inr (bcount (σ11_ 44 10)), σ11_))
abbrev rm11_fetch : Room := { frames := 7, cells := 2, slots := 12, locals := 111 }
set_option maxHeartbeats 4000000 in
set_option maxRecDepth 100000 in
theorem p11_fetch {Θ : Tz} {σ : St} {ω : Om} (C : Zc Θ cX11_fetch 2 RX11 (some .int) rm11_fetch) (hkd : Θ.2.2.2.2.1 = kdC) (hlt : Θ.1.2.1.stackTraces = false) (het : ∀ x ∈ Θ.2.2.1.2.exceptionTable.toList, False) {person_a : Int32} {r : (Sum Nat Int32 × St)} (hf : q11_fetch σ person_a = some r) (hω : ω = om (fun v => some (.int v)) r) : Z Θ 2 0 0 (zQX Θ ω 2 12) σ 0 [(0, .ref (zA Θ 0)), (1, .int person_a)] [] := by
  unfold q11_fetch at hf
  refine z_aload_n C 0 dX11_fetch_0 rfl rfl ?_
  refine z_iload_n C 1 dX11_fetch_1 rfl rfl ?_
  refine zx_callV C het 0 [.int person_a] (q11_needPerson σ person_a) 1 6 1 (kC_0 hkd) rfl (c11_needPerson (person_a := person_a) hkd (zc_inj C) hlt) w_5_227 w_5_224 w_5_226 ws_LastLoaf_needPerson_I_V w_1_1 ⟨rfl, rfl, (Nat.le_of_ble_eq_true rfl), (Nat.le_of_ble_eq_true rfl)⟩ (by decide +kernel) rfl rfl (Nat.le_of_ble_eq_true rfl) ⟨(Nat.le_of_ble_eq_true rfl), (Nat.le_of_ble_eq_true rfl)⟩ dX11_fetch_2 ⟨(Nat.le_of_ble_eq_true rfl), (Nat.le_of_ble_eq_true rfl)⟩ (fun e9 h2_ => by rw [h2_] at hf; cases hf; exact hω) (fun h1_ => ?_)
  rw [h1_] at hf
  replace hf := thn_x hf
  have K3_ : ¬ (q11_isIn (σ 44 10) person_a = true) → Z Θ 2 1 6 (zQX Θ ω 2 12) σ 19 [(0, .ref (zA Θ 0)), (1, .int person_a)] [] := by
    intro h6_
    rw [if_pos h6_] at hf
    cases hf
    subst hω
    exact zx_throwW (tx := "who is fetched must be on the bench") C hlt het 1 (by decide +kernel) w_6_98 w_1_29 (List.mem_of_getElem? (i := 41) rfl) th11_1_251g th11_1_251n th11_1_251o dX11_fetch_19 dX11_fetch_22 dX11_fetch_23 dX11_fetch_26 dX11_fetch_29 ⟨(Nat.le_of_ble_eq_true rfl), (Nat.le_of_ble_eq_true rfl), (Nat.le_of_ble_eq_true rfl), (Nat.le_of_ble_eq_true rfl)⟩ (Nat.le_of_ble_eq_true rfl) ⟨(Nat.le_of_ble_eq_true rfl), (Nat.le_of_ble_eq_true rfl)⟩
  suffices K4_ : ¬ (¬ (q11_isIn (σ 44 10) person_a = true)) → Z Θ 2 1 6 (zQX Θ ω 2 12) σ 30 [(0, .ref (zA Θ 0)), (1, .int person_a)] [] by
    refine z_aload_n C 0 dX11_fetch_5 rfl rfl ?_
    refine fg11_19 C hkd dX11_fetch_6 ?_
    refine fg11_171 C hkd isV_44 dX11_fetch_9 ?_
    refine z_iload_n C 1 dX11_fetch_12 rfl rfl ?_
    refine cr11_167 (set_a := (σ 44 10)) (person_a := person_a) C hkd  ⟨(Nat.le_of_ble_eq_true rfl), (Nat.le_of_ble_eq_true rfl)⟩ (Nat.le_of_ble_eq_true rfl) ⟨(Nat.le_of_ble_eq_true rfl), (Nat.le_of_ble_eq_true rfl)⟩ dX11_fetch_13 ?_
    refine cb_t C 30 dX11_fetch_16 (by decide) (fun h5_ => ?_) (fun h5_ => ?_)
    · exact K4_ (fun n => n h5_)
    · exact K3_ h5_
  intro h6_
  rw [if_neg h6_] at hf
  refine z_aload_n C 0 dX11_fetch_30 rfl rfl ?_
  refine fg11_54 C hkd dX11_fetch_31 ?_
  refine z_aload_n C 0 dX11_fetch_34 rfl rfl ?_
  refine fg11_19 C hkd dX11_fetch_35 ?_
  obtain ⟨x7_, h8_, hf⟩ := ob hf
  refine cr11_235 (village_a := 44) C hkd isV_44 h8_ ⟨(Nat.le_of_ble_eq_true rfl), (Nat.le_of_ble_eq_true rfl)⟩ (Nat.le_of_ble_eq_true rfl) ⟨(Nat.le_of_ble_eq_true rfl), (Nat.le_of_ble_eq_true rfl)⟩ dX11_fetch_38 ?_
  refine z_aload_n C 0 dX11_fetch_41 rfl rfl ?_
  refine fg11_19 C hkd dX11_fetch_42 ?_
  refine z_aload_n C 0 dX11_fetch_45 rfl rfl ?_
  refine fg11_19 C hkd dX11_fetch_46 ?_
  refine fg11_171 C hkd isV_44 dX11_fetch_49 ?_
  refine z_iload_n C 1 dX11_fetch_52 rfl rfl ?_
  refine cr11_252 (set_a := (x7_ 44 10)) (person_a := person_a) C hkd  ⟨(Nat.le_of_ble_eq_true rfl), (Nat.le_of_ble_eq_true rfl)⟩ (Nat.le_of_ble_eq_true rfl) ⟨(Nat.le_of_ble_eq_true rfl), (Nat.le_of_ble_eq_true rfl)⟩ dX11_fetch_53 ?_
  obtain ⟨σ9_, h10_, hf⟩ := lt_ hf
  refine fp11_171 C hkd isV_44 h10_ dX11_fetch_56 ?_
  refine z_aload_n C 0 dX11_fetch_59 rfl rfl ?_
  refine fg11_19 C hkd dX11_fetch_60 ?_
  refine fg11_154 C hkd isV_44 dX11_fetch_63 ?_
  refine z_iload_n C 1 dX11_fetch_66 rfl rfl ?_
  refine z_iconst (v := 5) C dX11_fetch_67 ic_5 ?_
  obtain ⟨σ11_, h12_, hf⟩ := ob hf
  refine z_sa C h12_ (kV_1 hkd isV_44) dX11_fetch_68 ?_
  refine z_aload_n C 0 dX11_fetch_69 rfl rfl ?_
  refine fg11_19 C hkd dX11_fetch_70 ?_
  refine fg11_171 C hkd isV_44 dX11_fetch_73 ?_
  refine z_callS C [.int (σ11_ 44 10)] (some (.int (bcount (σ11_ 44 10))), σ11_) 1 (cJ_bitCount (zc_inj C)) w_3_30 w_4_11 w_3_29 w_1_26 ⟨rfl, rfl, (Nat.le_of_ble_eq_true rfl), (Nat.le_of_ble_eq_true rfl)⟩ (by decide +kernel) rfl rfl (Nat.le_of_ble_eq_true rfl) ⟨(Nat.le_of_ble_eq_true rfl), (Nat.le_of_ble_eq_true rfl)⟩ dX11_fetch_76 ?_
  cases hf
  subst hω
  exact zx_iret C ⟨(Nat.le_of_ble_eq_true rfl), (Nat.le_of_ble_eq_true rfl)⟩ dX11_fetch_79
theorem c11_fetch {l : Launch} {kd : List KD} {w : Wp} {σ : St} {person_a : Int32} (hkd : kd = kdC) (hi : zI kd w) (hlt : l.stackTraces = false) {r : (Sum Nat Int32 × St)} (hf : q11_fetch σ person_a = some r) : zX l kd w yX11_fetch cX11_fetch 2 (some .int) rm11_fetch [.ref (w.2.2.1 0), .int person_a] σ (om (fun v => some (.int v)) r) 2 12 := zX_of rfl hi (Nat.le_of_ble_eq_true rfl) (fun Θ hl hw C het => by
  obtain ⟨Θ1, Θ2, Θ3, Θ4, Θ5⟩ := Θ
  cases hw
  cases hl
  exact p11_fetch C hkd hlt het  hf rfl)

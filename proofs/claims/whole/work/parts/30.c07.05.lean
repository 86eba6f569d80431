/-! LastLoaf.weeks -/
theorem w_6_83 : Cond.code ({ cls := "LastLoaf", name := "needNumber", desc := "(III)V" } : MethodName) prog_1_method_70_code (3 : Nat) (Option.none : Option ClassFile.FieldType) ∈ TB := tb_in (lwt_6 (List.mem_of_getElem? (i := 83) (by decide +kernel))) rfl
theorem w_6_81 : Cond.methodLink "LastLoaf" (231 : Nat) ({ cls := "LastLoaf", name := "needNumber", desc := "(III)V" } : MethodName) ∈ TB := tb_in (lwt_6 (List.mem_of_getElem? (i := 81) (by decide +kernel))) rfl
theorem w_6_82 : Cond.static ({ cls := "LastLoaf", name := "needNumber", desc := "(III)V" } : MethodName) ∈ TB := tb_in (lwt_6 (List.mem_of_getElem? (i := 82) (by decide +kernel))) rfl
theorem w_6_88 : Cond.code ({ cls := "LastLoaf$Past", name := "remember", desc := "(LLastLoaf$Village;)V" } : MethodName) prog_6_method_2_code (2 : Nat) (Option.none : Option ClassFile.FieldType) ∈ TB := tb_in (lwt_6 (List.mem_of_getElem? (i := 88) (by decide +kernel))) rfl
theorem w_6_85 : Cond.methodLink "LastLoaf" (235 : Nat) ({ cls := "LastLoaf$Past", name := "remember", desc := "(LLastLoaf$Village;)V" } : MethodName) ∈ TB := tb_in (lwt_6 (List.mem_of_getElem? (i := 85) (by decide +kernel))) rfl
theorem w_6_86 : Cond.instanceMethod ({ cls := "LastLoaf$Past", name := "remember", desc := "(LLastLoaf$Village;)V" } : MethodName) ∈ TB := tb_in (lwt_6 (List.mem_of_getElem? (i := 86) (by decide +kernel))) rfl
theorem w_6_87 : Cond.selects "LastLoaf$Past" ({ cls := "LastLoaf$Past", name := "remember", desc := "(LLastLoaf$Village;)V" } : MethodName) ({ cls := "LastLoaf$Past", name := "remember", desc := "(LLastLoaf$Village;)V" } : MethodName) ∈ TB := tb_in (lwt_6 (List.mem_of_getElem? (i := 87) (by decide +kernel))) rfl
theorem cr11_235 {Θ : Tz} {cc : ByteArray} {nL kc ks : Nat} {ret : Option FieldType} {rm : Room} {Q : State → Prop} {σ : St} {pc : Nat} {lv : List (Nat × Value)} {st : List Value} (C : Zc Θ cc nL RX11 ret rm) (hkd : Θ.2.2.2.2.1 = kdC) {village_a : Nat} (h_village : isV village_a) {r : St} (hx : q4_remember σ village_a = some r) (hrm : rm4_remember.frames + 1 ≤ rm.frames ∧ 8 + (2 + 11) + rm4_remember.locals ≤ rm.locals) (hcat : (st.map fun v => v.category).sum ≤ 8) (hk : kc ≤ rm.cells ∧ ks ≤ rm.slots) (hd : decode cc pc = .ok (.invokevirtual 235, 3)) (kk : Z Θ nL kc ks Q r (pc + 3) lv st) : Z Θ nL kc ks Q σ pc lv (.ref (zA Θ village_a) :: .ref (zA Θ 5) :: st) := z_callV C 5 [.ref (zA Θ village_a)] (none, r) 1 (kC_5 hkd) rfl (c4_remember (village_a := village_a) hkd (zc_inj C) h_village hx) w_6_88 w_6_85 w_6_86 w_6_87 w_1_8 ⟨rfl, rfl, hrm.1, hrm.2⟩ (by decide +kernel) rfl rfl hcat hk hd kk
theorem w_2_197 : Cond.fieldLink "LastLoaf" (70 : Nat) "LastLoaf" "baker" "LLastLoaf$Baker;" ∈ TB := tb_in (lwt_2 (List.mem_of_getElem? (i := 197) (by decide +kernel))) rfl
theorem fg11_70 {Θ : Tz} {cc : ByteArray} {nL kc ks : Nat} {ret : Option FieldType} {rm : Room} {Q : State → Prop} {σ : St} {pc : Nat} {lv : List (Nat × Value)} {st : List Value} (C : Zc Θ cc nL RX11 ret rm) (hkd : Θ.2.2.2.2.1 = kdC) (hd : decode cc pc = .ok (.getfield 70, 3)) (kk : Z Θ nL kc ks Q σ (pc + 3) lv (.ref (zA Θ 13) :: st)) : Z Θ nL kc ks Q σ pc lv (.ref (zA Θ 0) :: st) := z_get C inT11 0 (kC_0 hkd) rfl 10 (by decide) w_2_197 rfl hd kk
theorem w_3_124 : Cond.code ({ cls := "LastLoaf$Baker", name := "bakeWeeks", desc := "(LLastLoaf$Village;IZ)V" } : MethodName) prog_2_method_2_code (6 : Nat) (Option.none : Option ClassFile.FieldType) ∈ TB := tb_in (lwt_3 (List.mem_of_getElem? (i := 124) (by decide +kernel))) rfl
theorem w_3_121 : Cond.methodLink "LastLoaf" (243 : Nat) ({ cls := "LastLoaf$Baker", name := "bakeWeeks", desc := "(LLastLoaf$Village;IZ)V" } : MethodName) ∈ TB := tb_in (lwt_3 (List.mem_of_getElem? (i := 121) (by decide +kernel))) rfl
theorem w_3_122 : Cond.instanceMethod ({ cls := "LastLoaf$Baker", name := "bakeWeeks", desc := "(LLastLoaf$Village;IZ)V" } : MethodName) ∈ TB := tb_in (lwt_3 (List.mem_of_getElem? (i := 122) (by decide +kernel))) rfl
theorem w_3_123 : Cond.selects "LastLoaf$Baker" ({ cls := "LastLoaf$Baker", name := "bakeWeeks", desc := "(LLastLoaf$Village;IZ)V" } : MethodName) ({ cls := "LastLoaf$Baker", name := "bakeWeeks", desc := "(LLastLoaf$Village;IZ)V" } : MethodName) ∈ TB := tb_in (lwt_3 (List.mem_of_getElem? (i := 123) (by decide +kernel))) rfl
theorem cr11_243 {Θ : Tz} {cc : ByteArray} {nL kc ks : Nat} {ret : Option FieldType} {rm : Room} {Q : State → Prop} {σ : St} {pc : Nat} {lv : List (Nat × Value)} {st : List Value} (C : Zc Θ cc nL RX11 ret rm) (hkd : Θ.2.2.2.2.1 = kdC) {village_a : Nat} {n_a : Int32} {speeches_a : Bool} (h_village : isV village_a) {r : St} (hx : q0_bakeWeeks σ village_a n_a speeches_a = some r) (hrm : rm0_bakeWeeks.frames + 1 ≤ rm.frames ∧ 8 + (6 + 11) + rm0_bakeWeeks.locals ≤ rm.locals) (hcat : (st.map fun v => v.category).sum ≤ 8) (hk : kc ≤ rm.cells ∧ ks ≤ rm.slots) (hd : decode cc pc = .ok (.invokevirtual 243, 3)) (kk : Z Θ nL kc ks Q r (pc + 3) lv st) : Z Θ nL kc ks Q σ pc lv (.int (b2i speeches_a) :: .int n_a :: .ref (zA Θ village_a) :: .ref (zA Θ 13) :: st) := z_callV C 13 [.ref (zA Θ village_a), .int n_a, .int (b2i speeches_a)] (none, r) 3 (kC_13 hkd) rfl (c0_bakeWeeks (village_a := village_a) (n_a := n_a) (speeches_a := speeches_a) hkd (zc_inj C) h_village hx) w_3_124 w_3_121 w_3_122 w_3_123 w_1_10 ⟨rfl, rfl, hrm.1, hrm.2⟩ (by decide +kernel) rfl rfl hcat hk hd kk
theorem dX11_weeks_0 : decode cX11_weeks 0 = .ok (.iload_n 1, 1) := by decide +kernel
theorem dX11_weeks_1 : decode cX11_weeks 1 = .ok (.iconst 1, 1) := by decide +kernel
theorem dX11_weeks_2 : decode cX11_weeks 2 = .ok (.bipush 60, 2) := by decide +kernel
theorem dX11_weeks_4 : decode cX11_weeks 4 = .ok (.invokestatic 231, 3) := by decide +kernel
theorem dX11_weeks_7 : decode cX11_weeks 7 = .ok (.aload_n 0, 1) := by decide +kernel
theorem dX11_weeks_8 : decode cX11_weeks 8 = .ok (.getfield 54, 3) := by decide +kernel
theorem dX11_weeks_11 : decode cX11_weeks 11 = .ok (.aload_n 0, 1) := by decide +kernel
theorem dX11_weeks_12 : decode cX11_weeks 12 = .ok (.getfield 19, 3) := by decide +kernel
theorem dX11_weeks_15 : decode cX11_weeks 15 = .ok (.invokevirtual 235, 3) := by decide +kernel
theorem dX11_weeks_18 : decode cX11_weeks 18 = .ok (.aload_n 0, 1) := by decide +kernel
theorem dX11_weeks_19 : decode cX11_weeks 19 = .ok (.getfield 19, 3) := by decide +kernel
theorem dX11_weeks_22 : decode cX11_weeks 22 = .ok (.getfield 171, 3) := by decide +kernel
theorem dX11_weeks_25 : decode cX11_weeks 25 = .ok (.invokestatic 238, 3) := by decide +kernel
theorem dX11_weeks_28 : decode cX11_weeks 28 = .ok (.istore_n 2, 1) := by decide +kernel
theorem dX11_weeks_29 : decode cX11_weeks 29 = .ok (.aload_n 0, 1) := by decide +kernel
theorem dX11_weeks_30 : decode cX11_weeks 30 = .ok (.getfield 70, 3) := by decide +kernel
theorem dX11_weeks_33 : decode cX11_weeks 33 = .ok (.aload_n 0, 1) := by decide +kernel
theorem dX11_weeks_34 : decode cX11_weeks 34 = .ok (.getfield 19, 3) := by decide +kernel
theorem dX11_weeks_37 : decode cX11_weeks 37 = .ok (.iload_n 1, 1) := by decide +kernel
theorem dX11_weeks_38 : decode cX11_weeks 38 = .ok (.iconst 1, 1) := by decide +kernel
theorem dX11_weeks_39 : decode cX11_weeks 39 = .ok (.invokevirtual 243, 3) := by decide +kernel
theorem dX11_weeks_42 : decode cX11_weeks 42 = .ok (.aload_n 0, 1) := by decide +kernel
theorem dX11_weeks_43 : decode cX11_weeks 43 = .ok (.getfield 19, 3) := by decide +kernel
theorem dX11_weeks_46 : decode cX11_weeks 46 = .ok (.getfield 171, 3) := by decide +kernel
theorem dX11_weeks_49 : decode cX11_weeks 49 = .ok (.invokestatic 238, 3) := by decide +kernel
theorem dX11_weeks_52 : decode cX11_weeks 52 = .ok (.iload_n 2, 1) := by decide +kernel
theorem dX11_weeks_53 : decode cX11_weeks 53 = .ok (.isub, 1) := by decide +kernel
theorem dX11_weeks_54 : decode cX11_weeks 54 = .ok (.ireturn, 1) := by decide +kernel
def q11_weeks (σ : St) (n_a : Int32) : Option (Sum Nat Int32 × St) :=
  thn (q11_needNumber n_a 1 60) σ
  (Option.bind (q4_remember σ 44) fun x3_ =>
  lt (bcount (x3_ 44 10)) fun benchedAhead5_ =>
  Option.bind (q0_bakeWeeks x3_ 44 n_a true) fun x7_ =>
  some (.inr ((bcount (x7_ 44 10)) - benchedAhead5_), x7_))
abbrev rm11_weeks : Room := { frames := 7, cells := 1, slots := 6, locals := 144 }
set_option maxHeartbeats 4000000 in
set_option maxRecDepth 100000 in
theorem p11_weeks {Θ : Tz} {σ : St} {ω : Om} (C : Zc Θ cX11_weeks 3 RX11 (some .int) rm11_weeks) (hkd : Θ.2.2.2.2.1 = kdC) (hlt : Θ.1.2.1.stackTraces = false) (het : ∀ x ∈ Θ.2.2.1.2.exceptionTable.toList, False) {n_a : Int32} {r : (Sum Nat Int32 × St)} (hf : q11_weeks σ n_a = some r) (hω : ω = om (fun v => some (.int v)) r) : Z Θ 3 0 0 (zQX Θ ω 1 6) σ 0 [(0, .ref (zA Θ 0)), (1, .int n_a)] [] := by
  unfold q11_weeks at hf
  refine z_iload_n C 1 dX11_weeks_0 rfl rfl ?_
  refine z_iconst (v := 1) C dX11_weeks_1 ic_1 ?_
  refine z_bipush (v := 60) C dX11_weeks_2 bp_60 ?_
  refine zx_callS C het [.int n_a, .int 1, .int 60] (q11_needNumber n_a 1 60) 1 6 3 (c11_needNumber (n_a := n_a) (least_a := 1) (most_a := 60) hkd (zc_inj C) hlt) w_6_83 w_6_81 w_6_82 w_1_1 ⟨rfl, rfl, (Nat.le_of_ble_eq_true rfl), (Nat.le_of_ble_eq_true rfl)⟩ (by decide +kernel) rfl rfl (Nat.le_of_ble_eq_true rfl) ⟨(Nat.le_of_ble_eq_true rfl), (Nat.le_of_ble_eq_true rfl)⟩ dX11_weeks_4 ⟨(Nat.le_of_ble_eq_true rfl), (Nat.le_of_ble_eq_true rfl)⟩ (fun e9 h2_ => by rw [h2_] at hf; cases hf; exact hω) (fun h1_ => ?_)
  rw [h1_] at hf
  replace hf := thn_x hf
  refine z_aload_n C 0 dX11_weeks_7 rfl rfl ?_
  refine fg11_54 C hkd dX11_weeks_8 ?_
  refine z_aload_n C 0 dX11_weeks_11 rfl rfl ?_
  refine fg11_19 C hkd dX11_weeks_12 ?_
  obtain ⟨x3_, h4_, hf⟩ := ob hf
  refine cr11_235 (village_a := 44) C hkd isV_44 h4_ ⟨(Nat.le_of_ble_eq_true rfl), (Nat.le_of_ble_eq_true rfl)⟩ (Nat.le_of_ble_eq_true rfl) ⟨(Nat.le_of_ble_eq_true rfl), (Nat.le_of_ble_eq_true rfl)⟩ dX11_weeks_15 ?_
  refine z_aload_n C 0 dX11_weeks_18 rfl rfl ?_
  refine fg11_19 C hkd dX11_weeks_19 ?_
  refine fg11_171 C hkd isV_44 dX11_weeks_22 ?_
  refine z_callS C [.int (x3_ 44 10)] (some (.int (bcount (x3_ 44 10))), x3_) 1 (cJ_bitCount (zc_inj C)) w_3_30 w_4_11 w_3_29 w_1_26 ⟨rfl, rfl, (Nat.le_of_ble_eq_true rfl), (Nat.le_of_ble_eq_true rfl)⟩ (by decide +kernel) rfl rfl (Nat.le_of_ble_eq_true rfl) ⟨(Nat.le_of_ble_eq_true rfl), (Nat.le_of_ble_eq_true rfl)⟩ dX11_weeks_25 ?_
  obtain ⟨benchedAhead5_, h6_, hf⟩ := lt_ hf
  refine z_istN C dX11_weeks_28 h6_ rfl (Nat.le_of_ble_eq_true rfl) rfl ?_
  refine z_aload_n C 1 dX11_weeks_29 rfl rfl ?_
  refine fg11_70 C hkd dX11_weeks_30 ?_
  refine z_aload_n C 1 dX11_weeks_33 rfl rfl ?_
  refine fg11_19 C hkd dX11_weeks_34 ?_
  refine z_iload_n C 2 dX11_weeks_37 rfl rfl ?_
  refine z_iconst (v := 1) C dX11_weeks_38 ic_1 ?_
  obtain ⟨x7_, h8_, hf⟩ := ob hf
  refine cr11_243 (village_a := 44) (n_a := n_a) (speeches_a := true) C hkd isV_44 h8_ ⟨(Nat.le_of_ble_eq_true rfl), (Nat.le_of_ble_eq_true rfl)⟩ (Nat.le_of_ble_eq_true rfl) ⟨(Nat.le_of_ble_eq_true rfl), (Nat.le_of_ble_eq_true rfl)⟩ dX11_weeks_39 ?_
  refine z_aload_n C 1 dX11_weeks_42 rfl rfl ?_
  refine fg11_19 C hkd dX11_weeks_43 ?_
  refine fg11_171 C hkd isV_44 dX11_weeks_46 ?_
  refine z_callS C [.int (x7_ 44 10)] (some (.int (bcount (x7_ 44 10))), x7_) 1 (cJ_bitCount (zc_inj C)) w_3_30 w_4_11 w_3_29 w_1_26 ⟨rfl, rfl, (Nat.le_of_ble_eq_true rfl), (Nat.le_of_ble_eq_true rfl)⟩ (by decide +kernel) rfl rfl (Nat.le_of_ble_eq_true rfl) ⟨(Nat.le_of_ble_eq_true rfl), (Nat.le_of_ble_eq_true rfl)⟩ dX11_weeks_49 ?_
  refine z_iload_n C 0 dX11_weeks_52 rfl rfl ?_
  refine z_isub C dX11_weeks_53 ?_
  cases hf
  subst hω
  exact zx_iret C ⟨(Nat.le_of_ble_eq_true rfl), (Nat.le_of_ble_eq_true rfl)⟩ dX11_weeks_54
theorem c11_weeks {l : Launch} {kd : List KD} {w : Wp} {σ : St} {n_a : Int32} (hkd : kd = kdC) (hi : zI kd w) (hlt : l.stackTraces = false) {r : (Sum Nat Int32 × St)} (hf : q11_weeks σ n_a = some r) : zX l kd w yX11_weeks cX11_weeks 3 (some .int) rm11_weeks [.ref (w.2.2.1 0), .int n_a] σ (om (fun v => some (.int v)) r) 1 6 := zX_of rfl hi (Nat.le_of_ble_eq_true rfl) (fun Θ hl hw C het => by
  obtain ⟨Θ1, Θ2, Θ3, Θ4, Θ5⟩ := Θ
  cases hw
  cases hl
  exact p11_weeks C hkd hlt het  hf rfl)

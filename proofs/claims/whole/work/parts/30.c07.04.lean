/-! LastLoaf$Past.remember -/
theorem w_2_24 : Cond.fieldLink "LastLoaf$Past" (11 : Nat) "LastLoaf$Past" "kept" "[LLastLoaf$Village;" ∈ TB := tb_in (lwt_2 (List.mem_of_getElem? (i := 24) (by decide +kernel))) rfl
theorem fg4_11 {Θ : Tz} {cc : ByteArray} {nL kc ks : Nat} {ret : Option FieldType} {rm : Room} {Q : State → Prop} {σ : St} {pc : Nat} {lv : List (Nat × Value)} {st : List Value} (C : Zc Θ cc nL RX4 ret rm) (hkd : Θ.2.2.2.2.1 = kdC) (hd : decode cc pc = .ok (.getfield 11, 3)) (kk : Z Θ nL kc ks Q σ (pc + 3) lv (.ref (zA Θ 31) :: st)) : Z Θ nL kc ks Q σ pc lv (.ref (zA Θ 5) :: st) := z_get C inT4 5 (kC_5 hkd) rfl 0 (by decide) w_2_24 rfl hd kk
theorem w_2_27 : Cond.fieldLink "LastLoaf$Past" (21 : Nat) "LastLoaf$Past" "following" "I" ∈ TB := tb_in (lwt_2 (List.mem_of_getElem? (i := 27) (by decide +kernel))) rfl
theorem fg4_21 {Θ : Tz} {cc : ByteArray} {nL kc ks : Nat} {ret : Option FieldType} {rm : Room} {Q : State → Prop} {σ : St} {pc : Nat} {lv : List (Nat × Value)} {st : List Value} (C : Zc Θ cc nL RX4 ret rm) (hkd : Θ.2.2.2.2.1 = kdC) (hd : decode cc pc = .ok (.getfield 21, 3)) (kk : Z Θ nL kc ks Q σ (pc + 3) lv (.int (σ 5 2) :: st)) : Z Θ nL kc ks Q σ pc lv (.ref (zA Θ 5) :: st) := z_get C inT4 5 (kC_5 hkd) rfl 2 (by decide) w_2_27 rfl hd kk
theorem w_4_127 : Cond.methodLink "LastLoaf$Past" (25 : Nat) ({ cls := "LastLoaf$Village", name := "become", desc := "(LLastLoaf$Village;)V" } : MethodName) ∈ TB := tb_in (lwt_4 (List.mem_of_getElem? (i := 127) (by decide +kernel))) rfl
theorem cr4_25 {Θ : Tz} {cc : ByteArray} {nL kc ks : Nat} {ret : Option FieldType} {rm : Room} {Q : State → Prop} {σ : St} {pc : Nat} {lv : List (Nat × Value)} {st : List Value} (C : Zc Θ cc nL RX4 ret rm) (hkd : Θ.2.2.2.2.1 = kdC) {th : Nat} {other_a : Nat} (hth : isV th) (h_other : isV other_a) {r : St} (hx : q10_become σ th other_a = some r) (hrm : rm10_become.frames + 1 ≤ rm.frames ∧ 8 + (2 + 11) + rm10_become.locals ≤ rm.locals) (hcat : (st.map fun v => v.category).sum ≤ 8) (hk : kc ≤ rm.cells ∧ ks ≤ rm.slots) (hd : decode cc pc = .ok (.invokevirtual 25, 3)) (kk : Z Θ nL kc ks Q r (pc + 3) lv st) : Z Θ nL kc ks Q σ pc lv (.ref (zA Θ other_a) :: .ref (zA Θ th) :: st) := z_callV C th [.ref (zA Θ other_a)] (none, r) 1 (kV_0 hkd hth) rfl (c10_become (th := th) (other_a := other_a) hkd (zc_inj C) hth h_other hx) w_3_112 w_4_127 w_3_110 w_3_111 w_1_3 ⟨rfl, rfl, hrm.1, hrm.2⟩ (by decide +kernel) rfl rfl hcat hk hd kk
theorem fp4_21 {Θ : Tz} {cc : ByteArray} {nL kc ks : Nat} {ret : Option FieldType} {rm : Room} {Q : State → Prop} {σ : St} {pc : Nat} {lv : List (Nat × Value)} {st : List Value} (C : Zc Θ cc nL RX4 ret rm) (hkd : Θ.2.2.2.2.1 = kdC) {x : Int32} {σ1 : St} (he : σ1 = up σ 5 2 x) (hd : decode cc pc = .ok (.putfield 21, 3)) (kk : Z Θ nL kc ks Q σ1 (pc + 3) lv st) : Z Θ nL kc ks Q σ pc lv (.int x :: .ref (zA Θ 5) :: st) := by subst he; exact z_put C inT4 tyX4_ok nmX4 5 (kC_5 hkd) rfl 2 (by decide) w_2_27 rfl rfl rfl rfl hd kk
theorem fg4_17 {Θ : Tz} {cc : ByteArray} {nL kc ks : Nat} {ret : Option FieldType} {rm : Room} {Q : State → Prop} {σ : St} {pc : Nat} {lv : List (Nat × Value)} {st : List Value} (C : Zc Θ cc nL RX4 ret rm) (hkd : Θ.2.2.2.2.1 = kdC) (hd : decode cc pc = .ok (.getfield 17, 3)) (kk : Z Θ nL kc ks Q σ (pc + 3) lv (.int (σ 5 1) :: st)) : Z Θ nL kc ks Q σ pc lv (.ref (zA Θ 5) :: st) := z_get C inT4 5 (kC_5 hkd) rfl 1 (by decide) w_2_25 rfl hd kk
theorem w_6_89 : Cond.methodLink "LastLoaf$Past" (29 : Nat) ({ cls := "java/lang/Math", name := "min", desc := "(II)I" } : MethodName) ∈ TB := tb_in (lwt_6 (List.mem_of_getElem? (i := 89) (by decide +kernel))) rfl
theorem dX4_remember_0 : decode cX4_remember 0 = .ok (.aload_n 0, 1) := by decide +kernel
theorem dX4_remember_1 : decode cX4_remember 1 = .ok (.getfield 11, 3) := by decide +kernel
theorem dX4_remember_4 : decode cX4_remember 4 = .ok (.aload_n 0, 1) := by decide +kernel
theorem dX4_remember_5 : decode cX4_remember 5 = .ok (.getfield 21, 3) := by decide +kernel
theorem dX4_remember_8 : decode cX4_remember 8 = .ok (.aaload, 1) := by decide +kernel
theorem dX4_remember_9 : decode cX4_remember 9 = .ok (.aload_n 1, 1) := by decide +kernel
theorem dX4_remember_10 : decode cX4_remember 10 = .ok (.invokevirtual 25, 3) := by decide +kernel
theorem dX4_remember_13 : decode cX4_remember 13 = .ok (.aload_n 0, 1) := by decide +kernel
theorem dX4_remember_14 : decode cX4_remember 14 = .ok (.aload_n 0, 1) := by decide +kernel
theorem dX4_remember_15 : decode cX4_remember 15 = .ok (.getfield 21, 3) := by decide +kernel
theorem dX4_remember_18 : decode cX4_remember 18 = .ok (.iconst 1, 1) := by decide +kernel
theorem dX4_remember_19 : decode cX4_remember 19 = .ok (.iadd, 1) := by decide +kernel
theorem dX4_remember_20 : decode cX4_remember 20 = .ok (.bipush 12, 2) := by decide +kernel
theorem dX4_remember_22 : decode cX4_remember 22 = .ok (.irem, 1) := by decide +kernel
theorem dX4_remember_23 : decode cX4_remember 23 = .ok (.putfield 21, 3) := by decide +kernel
theorem dX4_remember_26 : decode cX4_remember 26 = .ok (.aload_n 0, 1) := by decide +kernel
theorem dX4_remember_27 : decode cX4_remember 27 = .ok (.bipush 12, 2) := by decide +kernel
theorem dX4_remember_29 : decode cX4_remember 29 = .ok (.aload_n 0, 1) := by decide +kernel
theorem dX4_remember_30 : decode cX4_remember 30 = .ok (.getfield 17, 3) := by decide +kernel
theorem dX4_remember_33 : decode cX4_remember 33 = .ok (.iconst 1, 1) := by decide +kernel
theorem dX4_remember_34 : decode cX4_remember 34 = .ok (.iadd, 1) := by decide +kernel
theorem dX4_remember_35 : decode cX4_remember 35 = .ok (.invokestatic 29, 3) := by decide +kernel
theorem dX4_remember_38 : decode cX4_remember 38 = .ok (.putfield 17, 3) := by decide +kernel
theorem dX4_remember_41 : decode cX4_remember 41 = .ok (.return_, 1) := by decide +kernel
def q4_remember (σ : St) (village_a : Nat) : Option St :=
  Option.bind (kpt (σ 5 2)) fun x1_ =>
  Option.bind (q10_become σ x1_ village_a) fun x3_ =>
  lt (up x3_ 5 2 (irm ((x3_ 5 2) + 1) 12)) fun σ5_ =>
  lt (up σ5_ 5 1 (imin 12 ((σ5_ 5 1) + 1))) fun σ7_ =>
  some σ7_
abbrev rm4_remember : Room := { frames := 3, cells := 0, slots := 0, locals := 82 }
set_option maxHeartbeats 4000000 in
set_option maxRecDepth 100000 in
theorem p4_remember {Θ : Tz} {σ : St} {ρ : Option Value × St} (C : Zc Θ cX4_remember 2 RX4 none rm4_remember) (hkd : Θ.2.2.2.2.1 = kdC) {village_a : Nat} (h_village : isV village_a) {r : St} (hf : q4_remember σ village_a = some r) (hρ : ρ = (none, r)) : Z Θ 2 0 0 (zQ Θ ρ) σ 0 [(0, .ref (zA Θ 5)), (1, .ref (zA Θ village_a))] [] := by
  unfold q4_remember at hf
  refine z_aload_n C 0 dX4_remember_0 rfl rfl ?_
  refine fg4_11 C hkd dX4_remember_1 ?_
  refine z_aload_n C 0 dX4_remember_4 rfl rfl ?_
  refine fg4_21 C hkd dX4_remember_5 ?_
  obtain ⟨x1_, h2_, hf⟩ := ob hf
  refine z_kpt C hkd h2_ dX4_remember_8 ?_
  refine z_aload_n C 1 dX4_remember_9 rfl rfl ?_
  obtain ⟨x3_, h4_, hf⟩ := ob hf
  refine cr4_25 (th := x1_) (other_a := village_a) C hkd (kpt_isV h2_) h_village h4_ ⟨(Nat.le_of_ble_eq_true rfl), (Nat.le_of_ble_eq_true rfl)⟩ (Nat.le_of_ble_eq_true rfl) ⟨Nat.zero_le _, Nat.zero_le _⟩ dX4_remember_10 ?_
  refine z_aload_n C 0 dX4_remember_13 rfl rfl ?_
  refine z_aload_n C 0 dX4_remember_14 rfl rfl ?_
  refine fg4_21 C hkd dX4_remember_15 ?_
  refine z_iconst (v := 1) C dX4_remember_18 ic_1 ?_
  refine z_iadd C dX4_remember_19 ?_
  refine z_bipush (v := 12) C dX4_remember_20 bp_12 ?_
  refine z_irm C (by decide) dX4_remember_22 ?_
  obtain ⟨σ5_, h6_, hf⟩ := lt_ hf
  refine fp4_21 C hkd h6_ dX4_remember_23 ?_
  refine z_aload_n C 0 dX4_remember_26 rfl rfl ?_
  refine z_bipush (v := 12) C dX4_remember_27 bp_12 ?_
  refine z_aload_n C 0 dX4_remember_29 rfl rfl ?_
  refine fg4_17 C hkd dX4_remember_30 ?_
  refine z_iconst (v := 1) C dX4_remember_33 ic_1 ?_
  refine z_iadd C dX4_remember_34 ?_
  refine z_min C w_6_89 w_3_129 w_1_28 w_3_130 ⟨(Nat.le_of_ble_eq_true rfl), (Nat.le_of_ble_eq_true rfl)⟩ (Nat.le_of_ble_eq_true rfl) ⟨Nat.zero_le _, Nat.zero_le _⟩ dX4_remember_35 ?_
  obtain ⟨σ7_, h8_, hf⟩ := lt_ hf
  refine fp4_17 C hkd h8_ dX4_remember_38 ?_
  cases hf
  subst hρ
  exact z_vret C dX4_remember_41
theorem c4_remember {l : Launch} {kd : List KD} {w : Wp} {σ : St} {village_a : Nat} (hkd : kd = kdC) (hi : zI kd w) (h_village : isV village_a) {r : St} (hf : q4_remember σ village_a = some r) : zM l kd w yX4_remember cX4_remember 2 none rm4_remember [.ref (w.2.2.1 5), .ref (w.2.2.1 village_a)] σ (none, r) := zM_of rfl hi (Nat.le_of_ble_eq_true rfl) (fun Θ hl hw C => by
  obtain ⟨Θ1, Θ2, Θ3, Θ4, Θ5⟩ := Θ
  cases hw
  exact p4_remember C hkd h_village hf rfl)

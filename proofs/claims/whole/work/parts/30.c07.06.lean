/-! LastLoaf.stand -/
theorem th11_1_251g : ∀ w ∈ (vx_atS RX11 251 (exn 1) ["java/lang/RuntimeException", "java/lang/Exception"]).filter goodWord, w ∈ TB := fun w h => tb_in ((by decide +kernel : ∀ w ∈ (vx_atS RX11 251 (exn 1) ["java/lang/RuntimeException", "java/lang/Exception"]).filter goodWord, w ∈ lw_tbl) w h) ((List.mem_filter.mp h).2)
theorem th11_1_251n : ∀ w ∈ (vx_atS RX11 251 (exn 1) ["java/lang/RuntimeException", "java/lang/Exception"]).filter (fun w => !goodWord w), w ∈ nestW := by decide +kernel
theorem th11_1_251o : ∀ w ∈ Cond.classLink RX11 247 (exn 1) :: Cond.initialized (exn 1) :: vx_atS RX11 251 (exn 1) ["java/lang/RuntimeException", "java/lang/Exception"], vx_ot w = true := by decide +kernel
theorem w_6_98 : Cond.classLink "LastLoaf" (247 : Nat) "java/lang/IllegalStateException" ∈ TB := tb_in (lwt_6 (List.mem_of_getElem? (i := 98) (by decide +kernel))) rfl
theorem w_1_29 : Cond.initialized "java/lang/IllegalStateException" ∈ TB := tb_in (lwt_1 (List.mem_of_getElem? (i := 29) (by decide +kernel))) rfl
theorem w_4_32 : Cond.methodLink "LastLoaf" (252 : Nat) ({ cls := "LastLoaf", name := "without", desc := "(II)I" } : MethodName) ∈ TB := tb_in (lwt_4 (List.mem_of_getElem? (i := 32) (by decide +kernel))) rfl
theorem cr11_252 {Θ : Tz} {cc : ByteArray} {nL kc ks : Nat} {ret : Option FieldType} {rm : Room} {Q : State → Prop} {σ : St} {pc : Nat} {lv : List (Nat × Value)} {st : List Value} (C : Zc Θ cc nL RX11 ret rm) (hkd : Θ.2.2.2.2.1 = kdC) {set_a : Int32} {person_a : Int32} (hrm : rm11_without.frames + 1 ≤ rm.frames ∧ 8 + (2 + 11) + rm11_without.locals ≤ rm.locals) (hcat : (st.map fun v => v.category).sum ≤ 8) (hk : kc ≤ rm.cells ∧ ks ≤ rm.slots) (hd : decode cc pc = .ok (.invokestatic 252, 3)) (kk : Z Θ nL kc ks Q σ (pc + 3) lv (.int (q11_without set_a person_a) :: st)) : Z Θ nL kc ks Q σ pc lv (.int person_a :: .int set_a :: st) := z_callS C [.int set_a, .int person_a] (some (.int (q11_without set_a person_a)), σ) 2 (c11_without (set_a := set_a) (person_a := person_a) hkd (zc_inj C)) w_3_161 w_4_32 w_3_160 w_1_1 ⟨rfl, rfl, hrm.1, hrm.2⟩ (by decide +kernel) rfl rfl hcat hk hd kk
theorem fp11_164 {Θ : Tz} {cc : ByteArray} {nL kc ks : Nat} {ret : Option FieldType} {rm : Room} {Q : State → Prop} {σ : St} {pc : Nat} {lv : List (Nat × Value)} {st : List Value} (C : Zc Θ cc nL RX11 ret rm) (hkd : Θ.2.2.2.2.1 = kdC) {th : Nat} (hth : isV th) {x : Int32} {σ1 : St} (he : σ1 = up σ th 9 x) (hd : decode cc pc = .ok (.putfield 164, 3)) (kk : Z Θ nL kc ks Q σ1 (pc + 3) lv st) : Z Θ nL kc ks Q σ pc lv (.int x :: .ref (zA Θ th) :: st) := by subst he; exact z_put C inT10 tyX10_ok nmX10 th (kV_0 hkd hth) rfl 9 (by decide) w_1_136 rfl rfl rfl rfl hd kk
theorem dX11_stand_0 : decode cX11_stand 0 = .ok (.aload_n 0, 1) := by decide +kernel
theorem dX11_stand_1 : decode cX11_stand 1 = .ok (.iload_n 1, 1) := by decide +kernel
theorem dX11_stand_2 : decode cX11_stand 2 = .ok (.invokevirtual 151, 3) := by decide +kernel
theorem dX11_stand_5 : decode cX11_stand 5 = .ok (.aload_n 0, 1) := by decide +kernel
theorem dX11_stand_6 : decode cX11_stand 6 = .ok (.getfield 19, 3) := by decide +kernel
theorem dX11_stand_9 : decode cX11_stand 9 = .ok (.getfield 171, 3) := by decide +kernel
theorem dX11_stand_12 : decode cX11_stand 12 = .ok (.iload_n 1, 1) := by decide +kernel
theorem dX11_stand_13 : decode cX11_stand 13 = .ok (.invokestatic 167, 3) := by decide +kernel
theorem dX11_stand_16 : decode cX11_stand 16 = .ok (.ifCond .eq 13, 3) := by decide +kernel
theorem dX11_stand_19 : decode cX11_stand 19 = .ok (.new 247, 3) := by decide +kernel
theorem dX11_stand_22 : decode cX11_stand 22 = .ok (.dup, 1) := by decide +kernel
theorem dX11_stand_23 : decode cX11_stand 23 = .ok (.ldc 249, 2) := by decide +kernel
theorem dX11_stand_25 : decode cX11_stand 25 = .ok (.invokespecial 251, 3) := by decide +kernel
theorem dX11_stand_28 : decode cX11_stand 28 = .ok (.athrow, 1) := by decide +kernel
theorem dX11_stand_29 : decode cX11_stand 29 = .ok (.aload_n 0, 1) := by decide +kernel
theorem dX11_stand_30 : decode cX11_stand 30 = .ok (.getfield 54, 3) := by decide +kernel
theorem dX11_stand_33 : decode cX11_stand 33 = .ok (.aload_n 0, 1) := by decide +kernel
theorem dX11_stand_34 : decode cX11_stand 34 = .ok (.getfield 19, 3) := by decide +kernel
theorem dX11_stand_37 : decode cX11_stand 37 = .ok (.invokevirtual 235, 3) := by decide +kernel
theorem dX11_stand_40 : decode cX11_stand 40 = .ok (.aload_n 0, 1) := by decide +kernel
theorem dX11_stand_41 : decode cX11_stand 41 = .ok (.getfield 19, 3) := by decide +kernel
theorem dX11_stand_44 : decode cX11_stand 44 = .ok (.getfield 164, 3) := by decide +kernel
theorem dX11_stand_47 : decode cX11_stand 47 = .ok (.iload_n 1, 1) := by decide +kernel
theorem dX11_stand_48 : decode cX11_stand 48 = .ok (.invokestatic 167, 3) := by decide +kernel
theorem dX11_stand_51 : decode cX11_stand 51 = .ok (.istore_n 3, 1) := by decide +kernel
theorem dX11_stand_52 : decode cX11_stand 52 = .ok (.aload_n 0, 1) := by decide +kernel
theorem dX11_stand_53 : decode cX11_stand 53 = .ok (.getfield 19, 3) := by decide +kernel
theorem dX11_stand_56 : decode cX11_stand 56 = .ok (.iload_n 2, 1) := by decide +kernel
theorem dX11_stand_57 : decode cX11_stand 57 = .ok (.ifCond .eq 17, 3) := by decide +kernel
theorem dX11_stand_60 : decode cX11_stand 60 = .ok (.aload_n 0, 1) := by decide +kernel
theorem dX11_stand_61 : decode cX11_stand 61 = .ok (.getfield 19, 3) := by decide +kernel
theorem dX11_stand_64 : decode cX11_stand 64 = .ok (.getfield 164, 3) := by decide +kernel
theorem dX11_stand_67 : decode cX11_stand 67 = .ok (.iconst 1, 1) := by decide +kernel
theorem dX11_stand_68 : decode cX11_stand 68 = .ok (.iload_n 1, 1) := by decide +kernel
theorem dX11_stand_69 : decode cX11_stand 69 = .ok (.ishl, 1) := by decide +kernel
theorem dX11_stand_70 : decode cX11_stand 70 = .ok (.ior, 1) := by decide +kernel
theorem dX11_stand_71 : decode cX11_stand 71 = .ok (.goto 14, 3) := by decide +kernel
theorem dX11_stand_74 : decode cX11_stand 74 = .ok (.aload_n 0, 1) := by decide +kernel
theorem dX11_stand_75 : decode cX11_stand 75 = .ok (.getfield 19, 3) := by decide +kernel
theorem dX11_stand_78 : decode cX11_stand 78 = .ok (.getfield 164, 3) := by decide +kernel
theorem dX11_stand_81 : decode cX11_stand 81 = .ok (.iload_n 1, 1) := by decide +kernel
theorem dX11_stand_82 : decode cX11_stand 82 = .ok (.invokestatic 252, 3) := by decide +kernel
theorem dX11_stand_85 : decode cX11_stand 85 = .ok (.putfield 164, 3) := by decide +kernel
theorem dX11_stand_88 : decode cX11_stand 88 = .ok (.iload_n 3, 1) := by decide +kernel
theorem dX11_stand_89 : decode cX11_stand 89 = .ok (.iload_n 2, 1) := by decide +kernel
theorem dX11_stand_90 : decode cX11_stand 90 = .ok (.if_icmp .eq 7, 3) := by decide +kernel
theorem dX11_stand_93 : decode cX11_stand 93 = .ok (.iconst 1, 1) := by decide +kernel
theorem dX11_stand_94 : decode cX11_stand 94 = .ok (.goto 4, 3) := by decide +kernel
theorem dX11_stand_97 : decode cX11_stand 97 = .ok (.iconst 0, 1) := by decide +kernel
theorem dX11_stand_98 : decode cX11_stand 98 = .ok (.ireturn, 1) := by decide +kernel
def q11_stand (σ : St) (person_a : Int32) (is_a : Bool) : Option (Sum Nat Bool × St) :=
  thn (q11_needPerson σ person_a) σ
  (if q11_isIn (σ 44 10) person_a = true then (some (.inl 1, σ)) else
  Option.bind (q4_remember σ 44) fun x7_ =>
  lt (q11_isIn (x7_ 44 9) person_a) fun was9_ =>
  lt (up x7_ 44 9 (if is_a = true then (x7_ 44 9) ||| (shl 1 person_a) else q11_without (x7_ 44 9) person_a)) fun σ16_ =>
  some (.inr (decide (¬ (b2i was9_) = (b2i is_a))), σ16_))
abbrev rm11_stand : Room := { frames := 7, cells := 2, slots := 12, locals := 111 }
set_option maxHeartbeats 4000000 in
set_option maxRecDepth 100000 in
theorem p11_stand {Θ : Tz} {σ : St} {ω : Om} (C : Zc Θ cX11_stand 4 RX11 (some .boolean) rm11_stand) (hkd : Θ.2.2.2.2.1 = kdC) (hlt : Θ.1.2.1.stackTraces = false) (het : ∀ x ∈ Θ.2.2.1.2.exceptionTable.toList, False) {person_a : Int32} {is_a : Bool} {r : (Sum Nat Bool × St)} (hf : q11_stand σ person_a is_a = some r) (hω : ω = om (fun v => some (.int (b2i v))) r) : Z Θ 4 0 0 (zQX Θ ω 2 12) σ 0 [(0, .ref (zA Θ 0)), (1, .int person_a), (2, .int (b2i is_a))] [] := by
  unfold q11_stand at hf
  refine z_aload_n C 0 dX11_stand_0 rfl rfl ?_
  refine z_iload_n C 1 dX11_stand_1 rfl rfl ?_
  refine zx_callV C het 0 [.int person_a] (q11_needPerson σ person_a) 1 6 1 (kC_0 hkd) rfl (c11_needPerson (person_a := person_a) hkd (zc_inj C) hlt) w_5_227 w_5_224 w_5_226 ws_LastLoaf_needPerson_I_V w_1_1 ⟨rfl, rfl, (Nat.le_of_ble_eq_true rfl), (Nat.le_of_ble_eq_true rfl)⟩ (by decide +kernel) rfl rfl (Nat.le_of_ble_eq_true rfl) ⟨(Nat.le_of_ble_eq_true rfl), (Nat.le_of_ble_eq_true rfl)⟩ dX11_stand_2 ⟨(Nat.le_of_ble_eq_true rfl), (Nat.le_of_ble_eq_true rfl)⟩ (fun e9 h2_ => by rw [h2_] at hf; cases hf; exact hω) (fun h1_ => ?_)
  rw [h1_] at hf
  replace hf := thn_x hf
  have K3_ : q11_isIn (σ 44 10) person_a = true → Z Θ 4 1 6 (zQX Θ ω 2 12) σ 19 [(0, .ref (zA Θ 0)), (1, .int person_a), (2, .int (b2i is_a))] [] := by
    intro h6_
    rw [if_pos h6_] at hf
    cases hf
    subst hω
    exact zx_throw (tx := "who is on the bench cannot stand") C hlt het 1 (by decide +kernel) w_6_98 w_1_29 (List.mem_of_getElem? (i := 38) rfl) th11_1_251g th11_1_251n th11_1_251o dX11_stand_19 dX11_stand_22 dX11_stand_23 dX11_stand_25 dX11_stand_28 ⟨(Nat.le_of_ble_eq_true rfl), (Nat.le_of_ble_eq_true rfl), (Nat.le_of_ble_eq_true rfl), (Nat.le_of_ble_eq_true rfl)⟩ (Nat.le_of_ble_eq_true rfl) ⟨(Nat.le_of_ble_eq_true rfl), (Nat.le_of_ble_eq_true rfl)⟩
  suffices K4_ : ¬ (q11_isIn (σ 44 10) person_a = true) → Z Θ 4 1 6 (zQX Θ ω 2 12) σ 29 [(0, .ref (zA Θ 0)), (1, .int person_a), (2, .int (b2i is_a))] [] by
    refine z_aload_n C 0 dX11_stand_5 rfl rfl ?_
    refine fg11_19 C hkd dX11_stand_6 ?_
    refine fg11_171 C hkd isV_44 dX11_stand_9 ?_
    refine z_iload_n C 1 dX11_stand_12 rfl rfl ?_
    refine cr11_167 (set_a := (σ 44 10)) (person_a := person_a) C hkd  ⟨(Nat.le_of_ble_eq_true rfl), (Nat.le_of_ble_eq_true rfl)⟩ (Nat.le_of_ble_eq_true rfl) ⟨(Nat.le_of_ble_eq_true rfl), (Nat.le_of_ble_eq_true rfl)⟩ dX11_stand_13 ?_
    refine cb_f C 29 dX11_stand_16 (by decide) (fun h5_ => ?_) (fun h5_ => ?_)
    · exact K3_ h5_
    · exact K4_ h5_
  intro h6_
  rw [if_neg h6_] at hf
  refine z_aload_n C 0 dX11_stand_29 rfl rfl ?_
  refine fg11_54 C hkd dX11_stand_30 ?_
  refine z_aload_n C 0 dX11_stand_33 rfl rfl ?_
  refine fg11_19 C hkd dX11_stand_34 ?_
  obtain ⟨x7_, h8_, hf⟩ := ob hf
  refine cr11_235 (village_a := 44) C hkd isV_44 h8_ ⟨(Nat.le_of_ble_eq_true rfl), (Nat.le_of_ble_eq_true rfl)⟩ (Nat.le_of_ble_eq_true rfl) ⟨(Nat.le_of_ble_eq_true rfl), (Nat.le_of_ble_eq_true rfl)⟩ dX11_stand_37 ?_
  refine z_aload_n C 0 dX11_stand_40 rfl rfl ?_
  refine fg11_19 C hkd dX11_stand_41 ?_
  refine fg11_164 C hkd isV_44 dX11_stand_44 ?_
  refine z_iload_n C 1 dX11_stand_47 rfl rfl ?_
  refine cr11_167 (set_a := (x7_ 44 9)) (person_a := person_a) C hkd  ⟨(Nat.le_of_ble_eq_true rfl), (Nat.le_of_ble_eq_true rfl)⟩ (Nat.le_of_ble_eq_true rfl) ⟨(Nat.le_of_ble_eq_true rfl), (Nat.le_of_ble_eq_true rfl)⟩ dX11_stand_48 ?_
  obtain ⟨was9_, h10_, hf⟩ := lt_ hf
  refine z_istN C dX11_stand_51 (congrArg b2i h10_) rfl (Nat.le_of_ble_eq_true rfl) rfl ?_
  refine z_aload_n C 1 dX11_stand_52 rfl rfl ?_
  refine fg11_19 C hkd dX11_stand_53 ?_
  suffices K11_ : Z Θ 4 1 6 (zQX Θ ω 2 12) x7_ 85 [(3, .int (b2i was9_)), (0, .ref (zA Θ 0)), (1, .int person_a), (2, .int (b2i is_a))] [.int (if is_a = true then (x7_ 44 9) ||| (shl 1 person_a) else q11_without (x7_ 44 9) person_a), .ref (zA Θ 44)] by
    have K12_ : is_a = true → Z Θ 4 1 6 (zQX Θ ω 2 12) x7_ 60 [(3, .int (b2i was9_)), (0, .ref (zA Θ 0)), (1, .int person_a), (2, .int (b2i is_a))] [.ref (zA Θ 44)] := by
      intro h15_
      rw [if_pos h15_] at K11_
      refine z_aload_n C 1 dX11_stand_60 rfl rfl ?_
      refine fg11_19 C hkd dX11_stand_61 ?_
      refine fg11_164 C hkd isV_44 dX11_stand_64 ?_
      refine z_iconst (v := 1) C dX11_stand_67 ic_1 ?_
      refine z_iload_n C 2 dX11_stand_68 rfl rfl ?_
      refine z_shl C dX11_stand_69 ?_
      refine z_ior C dX11_stand_70 ?_
      refine z_goto C 85 dX11_stand_71 (by decide) ?_
      exact K11_
    have K13_ : ¬ (is_a = true) → Z Θ 4 1 6 (zQX Θ ω 2 12) x7_ 74 [(3, .int (b2i was9_)), (0, .ref (zA Θ 0)), (1, .int person_a), (2, .int (b2i is_a))] [.ref (zA Θ 44)] := by
      intro h15_
      rw [if_neg h15_] at K11_
      refine z_aload_n C 1 dX11_stand_74 rfl rfl ?_
      refine fg11_19 C hkd dX11_stand_75 ?_
      refine fg11_164 C hkd isV_44 dX11_stand_78 ?_
      refine z_iload_n C 2 dX11_stand_81 rfl rfl ?_
      refine cr11_252 (set_a := (x7_ 44 9)) (person_a := person_a) C hkd  ⟨(Nat.le_of_ble_eq_true rfl), (Nat.le_of_ble_eq_true rfl)⟩ (Nat.le_of_ble_eq_true rfl) ⟨(Nat.le_of_ble_eq_true rfl), (Nat.le_of_ble_eq_true rfl)⟩ dX11_stand_82 ?_
      exact K11_
    refine z_iload_n C 3 dX11_stand_56 rfl rfl ?_
    refine cb_f C 74 dX11_stand_57 (by decide) (fun h14_ => ?_) (fun h14_ => ?_)
    · exact K12_ h14_
    · exact K13_ h14_
  obtain ⟨σ16_, h17_, hf⟩ := lt_ hf
  refine fp11_164 C hkd isV_44 h17_ dX11_stand_85 ?_
  suffices K18_ : Z Θ 4 1 6 (zQX Θ ω 2 12) σ16_ 98 [(3, .int (b2i was9_)), (0, .ref (zA Θ 0)), (1, .int person_a), (2, .int (b2i is_a))] [.int (b2i (decide (¬ (b2i was9_) = (b2i is_a))))] by
    have K19_ : ¬ (b2i was9_) = (b2i is_a) → Z Θ 4 1 6 (zQX Θ ω 2 12) σ16_ 93 [(3, .int (b2i was9_)), (0, .ref (zA Θ 0)), (1, .int person_a), (2, .int (b2i is_a))] [] := by
      intro h22_
      rw [decide_eq_true h22_] at K18_
      refine z_iconst (v := 1) C dX11_stand_93 ic_1 ?_
      refine z_goto C 98 dX11_stand_94 (by decide) ?_
      exact K18_
    have K20_ : ¬ (¬ (b2i was9_) = (b2i is_a)) → Z Θ 4 1 6 (zQX Θ ω 2 12) σ16_ 97 [(3, .int (b2i was9_)), (0, .ref (zA Θ 0)), (1, .int person_a), (2, .int (b2i is_a))] [] := by
      intro h22_
      rw [decide_eq_false h22_] at K18_
      refine z_iconst (v := 0) C dX11_stand_97 ic_0 ?_
      exact K18_
    refine z_iload_n C 0 dX11_stand_88 rfl rfl ?_
    refine z_iload_n C 3 dX11_stand_89 rfl rfl ?_
    refine c_ne_f C 97 dX11_stand_90 (by decide) (fun h21_ => ?_) (fun h21_ => ?_)
    · exact K19_ h21_
    · exact K20_ h21_
  cases hf
  subst hω
  exact zx_zret C ⟨(Nat.le_of_ble_eq_true rfl), (Nat.le_of_ble_eq_true rfl)⟩ (b2i_narrow _) dX11_stand_98
theorem c11_stand {l : Launch} {kd : List KD} {w : Wp} {σ : St} {person_a : Int32} {is_a : Bool} (hkd : kd = kdC) (hi : zI kd w) (hlt : l.stackTraces = false) {r : (Sum Nat Bool × St)} (hf : q11_stand σ person_a is_a = some r) : zX l kd w yX11_stand cX11_stand 4 (some .boolean) rm11_stand [.ref (w.2.2.1 0), .int person_a, .int (b2i is_a)] σ (om (fun v => some (.int (b2i v))) r) 2 12 := zX_of rfl hi (Nat.le_of_ble_eq_true rfl) (fun Θ hl hw C het => by
  obtain ⟨Θ1, Θ2, Θ3, Θ4, Θ5⟩ := Θ
  cases hw
  cases hl
  exact p11_stand C hkd hlt het  hf rfl)

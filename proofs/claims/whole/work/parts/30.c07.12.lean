/-! LastLoaf.pass -/
theorem w_6_155 : Cond.methodLink "LastLoaf" (274 : Nat) ({ cls := "LastLoaf$Village", name := "warm", desc := "(II)V" } : MethodName) ∈ TB := tb_in (lwt_6 (List.mem_of_getElem? (i := 155) (by decide +kernel))) rfl
theorem cr11_274 {Θ : Tz} {cc : ByteArray} {nL kc ks : Nat} {ret : Option FieldType} {rm : Room} {Q : State → Prop} {σ : St} {pc : Nat} {lv : List (Nat × Value)} {st : List Value} (C : Zc Θ cc nL RX11 ret rm) (hkd : Θ.2.2.2.2.1 = kdC) {th : Nat} {person_a : Int32} {other_a : Int32} (hth : isV th) {r : St} (hx : q10_warm σ th person_a other_a = some r) (hrm : rm10_warm.frames + 1 ≤ rm.frames ∧ 8 + (4 + 11) + rm10_warm.locals ≤ rm.locals) (hcat : (st.map fun v => v.category).sum ≤ 8) (hk : kc ≤ rm.cells ∧ ks ≤ rm.slots) (hd : decode cc pc = .ok (.invokevirtual 274, 3)) (kk : Z Θ nL kc ks Q r (pc + 3) lv st) : Z Θ nL kc ks Q σ pc lv (.int other_a :: .int person_a :: .ref (zA Θ th) :: st) := z_callV C th [.int person_a, .int other_a] (none, r) 2 (kV_0 hkd hth) rfl (c10_warm (th := th) (person_a := person_a) (other_a := other_a) hkd (zc_inj C) hth hx) w_3_229 w_6_155 w_3_227 w_3_228 w_1_3 ⟨rfl, rfl, hrm.1, hrm.2⟩ (by decide +kernel) rfl rfl hcat hk hd kk
theorem dX11_pass_0 : decode cX11_pass 0 = .ok (.aload_n 0, 1) := by decide +kernel
theorem dX11_pass_1 : decode cX11_pass 1 = .ok (.iload_n 1, 1) := by decide +kernel
theorem dX11_pass_2 : decode cX11_pass 2 = .ok (.iload_n 2, 1) := by decide +kernel
theorem dX11_pass_3 : decode cX11_pass 3 = .ok (.invokevirtual 212, 3) := by decide +kernel
theorem dX11_pass_6 : decode cX11_pass 6 = .ok (.aload_n 0, 1) := by decide +kernel
theorem dX11_pass_7 : decode cX11_pass 7 = .ok (.getfield 19, 3) := by decide +kernel
theorem dX11_pass_10 : decode cX11_pass 10 = .ok (.getfield 154, 3) := by decide +kernel
theorem dX11_pass_13 : decode cX11_pass 13 = .ok (.iload_n 1, 1) := by decide +kernel
theorem dX11_pass_14 : decode cX11_pass 14 = .ok (.iaload, 1) := by decide +kernel
theorem dX11_pass_15 : decode cX11_pass 15 = .ok (.ifCond .ne 31, 3) := by decide +kernel
theorem dX11_pass_18 : decode cX11_pass 18 = .ok (.aload_n 0, 1) := by decide +kernel
theorem dX11_pass_19 : decode cX11_pass 19 = .ok (.getfield 19, 3) := by decide +kernel
theorem dX11_pass_22 : decode cX11_pass 22 = .ok (.getfield 171, 3) := by decide +kernel
theorem dX11_pass_25 : decode cX11_pass 25 = .ok (.iload_n 1, 1) := by decide +kernel
theorem dX11_pass_26 : decode cX11_pass 26 = .ok (.invokestatic 167, 3) := by decide +kernel
theorem dX11_pass_29 : decode cX11_pass 29 = .ok (.ifCond .ne 17, 3) := by decide +kernel
theorem dX11_pass_32 : decode cX11_pass 32 = .ok (.aload_n 0, 1) := by decide +kernel
theorem dX11_pass_33 : decode cX11_pass 33 = .ok (.getfield 19, 3) := by decide +kernel
theorem dX11_pass_36 : decode cX11_pass 36 = .ok (.getfield 171, 3) := by decide +kernel
theorem dX11_pass_39 : decode cX11_pass 39 = .ok (.iload_n 2, 1) := by decide +kernel
theorem dX11_pass_40 : decode cX11_pass 40 = .ok (.invokestatic 167, 3) := by decide +kernel
theorem dX11_pass_43 : decode cX11_pass 43 = .ok (.ifCond .eq 14, 3) := by decide +kernel
theorem dX11_pass_46 : decode cX11_pass 46 = .ok (.new 247, 3) := by decide +kernel
theorem dX11_pass_49 : decode cX11_pass 49 = .ok (.dup, 1) := by decide +kernel
theorem dX11_pass_50 : decode cX11_pass 50 = .ok (.ldc_w 272, 3) := by decide +kernel
theorem dX11_pass_53 : decode cX11_pass 53 = .ok (.invokespecial 251, 3) := by decide +kernel
theorem dX11_pass_56 : decode cX11_pass 56 = .ok (.athrow, 1) := by decide +kernel
theorem dX11_pass_57 : decode cX11_pass 57 = .ok (.aload_n 0, 1) := by decide +kernel
theorem dX11_pass_58 : decode cX11_pass 58 = .ok (.getfield 54, 3) := by decide +kernel
theorem dX11_pass_61 : decode cX11_pass 61 = .ok (.aload_n 0, 1) := by decide +kernel
theorem dX11_pass_62 : decode cX11_pass 62 = .ok (.getfield 19, 3) := by decide +kernel
theorem dX11_pass_65 : decode cX11_pass 65 = .ok (.invokevirtual 235, 3) := by decide +kernel
theorem dX11_pass_68 : decode cX11_pass 68 = .ok (.aload_n 0, 1) := by decide +kernel
theorem dX11_pass_69 : decode cX11_pass 69 = .ok (.getfield 19, 3) := by decide +kernel
theorem dX11_pass_72 : decode cX11_pass 72 = .ok (.getfield 154, 3) := by decide +kernel
theorem dX11_pass_75 : decode cX11_pass 75 = .ok (.iload_n 1, 1) := by decide +kernel
theorem dX11_pass_76 : decode cX11_pass 76 = .ok (.iconst 1, 1) := by decide +kernel
theorem dX11_pass_77 : decode cX11_pass 77 = .ok (.iastore, 1) := by decide +kernel
theorem dX11_pass_78 : decode cX11_pass 78 = .ok (.aload_n 0, 1) := by decide +kernel
theorem dX11_pass_79 : decode cX11_pass 79 = .ok (.getfield 19, 3) := by decide +kernel
theorem dX11_pass_82 : decode cX11_pass 82 = .ok (.getfield 154, 3) := by decide +kernel
theorem dX11_pass_85 : decode cX11_pass 85 = .ok (.iload_n 2, 1) := by decide +kernel
theorem dX11_pass_86 : decode cX11_pass 86 = .ok (.iconst 0, 1) := by decide +kernel
theorem dX11_pass_87 : decode cX11_pass 87 = .ok (.iastore, 1) := by decide +kernel
theorem dX11_pass_88 : decode cX11_pass 88 = .ok (.aload_n 0, 1) := by decide +kernel
theorem dX11_pass_89 : decode cX11_pass 89 = .ok (.getfield 19, 3) := by decide +kernel
theorem dX11_pass_92 : decode cX11_pass 92 = .ok (.iload_n 2, 1) := by decide +kernel
theorem dX11_pass_93 : decode cX11_pass 93 = .ok (.iload_n 1, 1) := by decide +kernel
theorem dX11_pass_94 : decode cX11_pass 94 = .ok (.invokevirtual 274, 3) := by decide +kernel
theorem dX11_pass_97 : decode cX11_pass 97 = .ok (.aload_n 0, 1) := by decide +kernel
theorem dX11_pass_98 : decode cX11_pass 98 = .ok (.getfield 19, 3) := by decide +kernel
theorem dX11_pass_101 : decode cX11_pass 101 = .ok (.iload_n 2, 1) := by decide +kernel
theorem dX11_pass_102 : decode cX11_pass 102 = .ok (.iload_n 1, 1) := by decide +kernel
theorem dX11_pass_103 : decode cX11_pass 103 = .ok (.invokevirtual 216, 3) := by decide +kernel
theorem dX11_pass_106 : decode cX11_pass 106 = .ok (.ireturn, 1) := by decide +kernel
def q11_pass (σ : St) (person_a : Int32) (other_a : Int32) : Option (Sum Nat Int32 × St) :=
  thn (q11_needTwo σ person_a other_a) σ
  (Option.bind (ag σ (44 + 1) 6 person_a) fun x5_ =>
  if ((¬ x5_ = 0) ∨ (q11_isIn (σ 44 10) person_a = true)) ∨ (q11_isIn (σ 44 10) other_a = true) then (some (.inl 1, σ)) else
  Option.bind (q4_remember σ 44) fun x11_ =>
  Option.bind (sa x11_ (44 + 1) 6 person_a 1) fun σ13_ =>
  Option.bind (sa σ13_ (44 + 1) 6 other_a 0) fun σ15_ =>
  Option.bind (q10_warm σ15_ 44 other_a person_a) fun x17_ =>
  Option.bind (q10_likingOf x17_ 44 other_a person_a) fun x19_ =>
  some (.inr x19_, x17_))
abbrev rm11_pass : Room := { frames := 8, cells := 4, slots := 24, locals := 133 }
set_option maxHeartbeats 4000000 in
set_option maxRecDepth 100000 in
theorem p11_pass {Θ : Tz} {σ : St} {ω : Om} (C : Zc Θ cX11_pass 3 RX11 (some .int) rm11_pass) (hkd : Θ.2.2.2.2.1 = kdC) (hlt : Θ.1.2.1.stackTraces = false) (het : ∀ x ∈ Θ.2.2.1.2.exceptionTable.toList, False) {person_a : Int32} {other_a : Int32} {r : (Sum Nat Int32 × St)} (hf : q11_pass σ person_a other_a = some r) (hω : ω = om (fun v => some (.int v)) r) : Z Θ 3 0 0 (zQX Θ ω 4 24) σ 0 [(0, .ref (zA Θ 0)), (1, .int person_a), (2, .int other_a)] [] := by
  unfold q11_pass at hf
  refine z_aload_n C 0 dX11_pass_0 rfl rfl ?_
  refine z_iload_n C 1 dX11_pass_1 rfl rfl ?_
  refine z_iload_n C 2 dX11_pass_2 rfl rfl ?_
  refine zx_callV C het 0 [.int person_a, .int other_a] (q11_needTwo σ person_a other_a) 3 18 2 (kC_0 hkd) rfl (c11_needTwo (person_a := person_a) (other_a := other_a) hkd (zc_inj C) hlt) w_6_55 w_6_52 w_6_54 ws_LastLoaf_needTwo_II_V w_1_1 ⟨rfl, rfl, (Nat.le_of_ble_eq_true rfl), (Nat.le_of_ble_eq_true rfl)⟩ (by decide +kernel) rfl rfl (Nat.le_of_ble_eq_true rfl) ⟨(Nat.le_of_ble_eq_true rfl), (Nat.le_of_ble_eq_true rfl)⟩ dX11_pass_3 ⟨(Nat.le_of_ble_eq_true rfl), (Nat.le_of_ble_eq_true rfl)⟩ (fun e9 h2_ => by rw [h2_] at hf; cases hf; exact hω) (fun h1_ => ?_)
  rw [h1_] at hf
  replace hf := thn_x hf
  refine z_aload_n C 0 dX11_pass_6 rfl rfl ?_
  refine fg11_19 C hkd dX11_pass_7 ?_
  refine fg11_154 C hkd isV_44 dX11_pass_10 ?_
  refine z_iload_n C 1 dX11_pass_13 rfl rfl ?_
  obtain ⟨x5_, h6_, hf⟩ := ob hf
  refine z_ag C h6_ (kV_1 hkd isV_44) dX11_pass_14 ?_
  have K3_ : ((¬ x5_ = 0) ∨ (q11_isIn (σ 44 10) person_a = true)) ∨ (q11_isIn (σ 44 10) other_a = true) → Z Θ 3 3 18 (zQX Θ ω 4 24) σ 46 [(0, .ref (zA Θ 0)), (1, .int person_a), (2, .int other_a)] [] := by
    intro h10_
    rw [if_pos h10_] at hf
    cases hf
    subst hω
    exact zx_throwW (tx := "no loaf can be passed on") C hlt het 1 (by decide +kernel) w_6_98 w_1_29 (List.mem_of_getElem? (i := 40) rfl) th11_1_251g th11_1_251n th11_1_251o dX11_pass_46 dX11_pass_49 dX11_pass_50 dX11_pass_53 dX11_pass_56 ⟨(Nat.le_of_ble_eq_true rfl), (Nat.le_of_ble_eq_true rfl), (Nat.le_of_ble_eq_true rfl), (Nat.le_of_ble_eq_true rfl)⟩ (Nat.le_of_ble_eq_true rfl) ⟨(Nat.le_of_ble_eq_true rfl), (Nat.le_of_ble_eq_true rfl)⟩
  suffices K4_ : ¬ (((¬ x5_ = 0) ∨ (q11_isIn (σ 44 10) person_a = true)) ∨ (q11_isIn (σ 44 10) other_a = true)) → Z Θ 3 3 18 (zQX Θ ω 4 24) σ 57 [(0, .ref (zA Θ 0)), (1, .int person_a), (2, .int other_a)] [] by
    refine c0_ne_t C 46 dX11_pass_15 (by decide) (fun h7_ => ?_) (fun h7_ => ?_)
    · exact K3_ (Or.inl (Or.inl h7_))
    · refine z_aload_n C 0 dX11_pass_18 rfl rfl ?_
      refine fg11_19 C hkd dX11_pass_19 ?_
      refine fg11_171 C hkd isV_44 dX11_pass_22 ?_
      refine z_iload_n C 1 dX11_pass_25 rfl rfl ?_
      refine cr11_167 (set_a := (σ 44 10)) (person_a := person_a) C hkd  ⟨(Nat.le_of_ble_eq_true rfl), (Nat.le_of_ble_eq_true rfl)⟩ (Nat.le_of_ble_eq_true rfl) ⟨(Nat.le_of_ble_eq_true rfl), (Nat.le_of_ble_eq_true rfl)⟩ dX11_pass_26 ?_
      refine cb_t C 46 dX11_pass_29 (by decide) (fun h8_ => ?_) (fun h8_ => ?_)
      · exact K3_ (Or.inl (Or.inr h8_))
      · refine z_aload_n C 0 dX11_pass_32 rfl rfl ?_
        refine fg11_19 C hkd dX11_pass_33 ?_
        refine fg11_171 C hkd isV_44 dX11_pass_36 ?_
        refine z_iload_n C 2 dX11_pass_39 rfl rfl ?_
        refine cr11_167 (set_a := (σ 44 10)) (person_a := other_a) C hkd  ⟨(Nat.le_of_ble_eq_true rfl), (Nat.le_of_ble_eq_true rfl)⟩ (Nat.le_of_ble_eq_true rfl) ⟨(Nat.le_of_ble_eq_true rfl), (Nat.le_of_ble_eq_true rfl)⟩ dX11_pass_40 ?_
        refine cb_f C 57 dX11_pass_43 (by decide) (fun h9_ => ?_) (fun h9_ => ?_)
        · exact K3_ (Or.inr h9_)
        · exact K4_ (fun n => n.elim (fun n => n.elim h7_ h8_) h9_)
  intro h10_
  rw [if_neg h10_] at hf
  refine z_aload_n C 0 dX11_pass_57 rfl rfl ?_
  refine fg11_54 C hkd dX11_pass_58 ?_
  refine z_aload_n C 0 dX11_pass_61 rfl rfl ?_
  refine fg11_19 C hkd dX11_pass_62 ?_
  obtain ⟨x11_, h12_, hf⟩ := ob hf
  refine cr11_235 (village_a := 44) C hkd isV_44 h12_ ⟨(Nat.le_of_ble_eq_true rfl), (Nat.le_of_ble_eq_true rfl)⟩ (Nat.le_of_ble_eq_true rfl) ⟨(Nat.le_of_ble_eq_true rfl), (Nat.le_of_ble_eq_true rfl)⟩ dX11_pass_65 ?_
  refine z_aload_n C 0 dX11_pass_68 rfl rfl ?_
  refine fg11_19 C hkd dX11_pass_69 ?_
  refine fg11_154 C hkd isV_44 dX11_pass_72 ?_
  refine z_iload_n C 1 dX11_pass_75 rfl rfl ?_
  refine z_iconst (v := 1) C dX11_pass_76 ic_1 ?_
  obtain ⟨σ13_, h14_, hf⟩ := ob hf
  refine z_sa C h14_ (kV_1 hkd isV_44) dX11_pass_77 ?_
  refine z_aload_n C 0 dX11_pass_78 rfl rfl ?_
  refine fg11_19 C hkd dX11_pass_79 ?_
  refine fg11_154 C hkd isV_44 dX11_pass_82 ?_
  refine z_iload_n C 2 dX11_pass_85 rfl rfl ?_
  refine z_iconst (v := 0) C dX11_pass_86 ic_0 ?_
  obtain ⟨σ15_, h16_, hf⟩ := ob hf
  refine z_sa C h16_ (kV_1 hkd isV_44) dX11_pass_87 ?_
  refine z_aload_n C 0 dX11_pass_88 rfl rfl ?_
  refine fg11_19 C hkd dX11_pass_89 ?_
  refine z_iload_n C 2 dX11_pass_92 rfl rfl ?_
  refine z_iload_n C 1 dX11_pass_93 rfl rfl ?_
  obtain ⟨x17_, h18_, hf⟩ := ob hf
  refine cr11_274 (th := 44) (person_a := other_a) (other_a := person_a) C hkd isV_44 h18_ ⟨(Nat.le_of_ble_eq_true rfl), (Nat.le_of_ble_eq_true rfl)⟩ (Nat.le_of_ble_eq_true rfl) ⟨(Nat.le_of_ble_eq_true rfl), (Nat.le_of_ble_eq_true rfl)⟩ dX11_pass_94 ?_
  refine z_aload_n C 0 dX11_pass_97 rfl rfl ?_
  refine fg11_19 C hkd dX11_pass_98 ?_
  refine z_iload_n C 2 dX11_pass_101 rfl rfl ?_
  refine z_iload_n C 1 dX11_pass_102 rfl rfl ?_
  obtain ⟨x19_, h20_, hf⟩ := ob hf
  refine cr11_216 (th := 44) (person_a := other_a) (other_a := person_a) C hkd isV_44 h20_ ⟨(Nat.le_of_ble_eq_true rfl), (Nat.le_of_ble_eq_true rfl)⟩ (Nat.le_of_ble_eq_true rfl) ⟨(Nat.le_of_ble_eq_true rfl), (Nat.le_of_ble_eq_true rfl)⟩ dX11_pass_103 ?_
  cases hf
  subst hω
  exact zx_iret C ⟨(Nat.le_of_ble_eq_true rfl), (Nat.le_of_ble_eq_true rfl)⟩ dX11_pass_106
theorem c11_pass {l : Launch} {kd : List KD} {w : Wp} {σ : St} {person_a : Int32} {other_a : Int32} (hkd : kd = kdC) (hi : zI kd w) (hlt : l.stackTraces = false) {r : (Sum Nat Int32 × St)} (hf : q11_pass σ person_a other_a = some r) : zX l kd w yX11_pass cX11_pass 3 (some .int) rm11_pass [.ref (w.2.2.1 0), .int person_a, .int other_a] σ (om (fun v => some (.int v)) r) 4 24 := zX_of rfl hi (Nat.le_of_ble_eq_true rfl) (fun Θ hl hw C het => by
  obtain ⟨Θ1, Θ2, Θ3, Θ4, Θ5⟩ := Θ
  cases hw
  cases hl
  exact p11_pass C hkd hlt het  hf rfl)

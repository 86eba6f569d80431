/-! LastLoaf.ahead -/
theorem dX11_ahead_0 : decode cX11_ahead 0 = .ok (.aload_n 0, 1) := by decide +kernel
theorem dX11_ahead_1 : decode cX11_ahead 1 = .ok (.iload_n 1, 1) := by decide +kernel
theorem dX11_ahead_2 : decode cX11_ahead 2 = .ok (.invokevirtual 151, 3) := by decide +kernel
theorem dX11_ahead_5 : decode cX11_ahead 5 = .ok (.iload_n 2, 1) := by decide +kernel
theorem dX11_ahead_6 : decode cX11_ahead 6 = .ok (.iconst 0, 1) := by decide +kernel
theorem dX11_ahead_7 : decode cX11_ahead 7 = .ok (.bipush 60, 2) := by decide +kernel
theorem dX11_ahead_9 : decode cX11_ahead 9 = .ok (.invokestatic 231, 3) := by decide +kernel
theorem dX11_ahead_12 : decode cX11_ahead 12 = .ok (.iload_n 3, 1) := by decide +kernel
theorem dX11_ahead_13 : decode cX11_ahead 13 = .ok (.ifCond .lt 8, 3) := by decide +kernel
theorem dX11_ahead_16 : decode cX11_ahead 16 = .ok (.iload_n 3, 1) := by decide +kernel
theorem dX11_ahead_17 : decode cX11_ahead 17 = .ok (.iconst 2, 1) := by decide +kernel
theorem dX11_ahead_18 : decode cX11_ahead 18 = .ok (.if_icmp .le 14, 3) := by decide +kernel
theorem dX11_ahead_21 : decode cX11_ahead 21 = .ok (.new 207, 3) := by decide +kernel
theorem dX11_ahead_24 : decode cX11_ahead 24 = .ok (.dup, 1) := by decide +kernel
theorem dX11_ahead_25 : decode cX11_ahead 25 = .ok (.ldc_w 418, 3) := by decide +kernel
theorem dX11_ahead_28 : decode cX11_ahead 28 = .ok (.invokespecial 211, 3) := by decide +kernel
theorem dX11_ahead_31 : decode cX11_ahead 31 = .ok (.athrow, 1) := by decide +kernel
theorem dX11_ahead_32 : decode cX11_ahead 32 = .ok (.aload_n 0, 1) := by decide +kernel
theorem dX11_ahead_33 : decode cX11_ahead 33 = .ok (.iload_n 2, 1) := by decide +kernel
theorem dX11_ahead_34 : decode cX11_ahead 34 = .ok (.invokevirtual 292, 3) := by decide +kernel
theorem dX11_ahead_37 : decode cX11_ahead 37 = .ok (.iload_n 3, 1) := by decide +kernel
theorem dX11_ahead_38 : decode cX11_ahead 38 = .ok (.lookupswitch 46 #[(0, 26), (1, 36)], 26) := by decide +kernel
theorem dX11_ahead_64 : decode cX11_ahead 64 = .ok (.aload_n 0, 1) := by decide +kernel
theorem dX11_ahead_65 : decode cX11_ahead 65 = .ok (.getfield 23, 3) := by decide +kernel
theorem dX11_ahead_68 : decode cX11_ahead 68 = .ok (.getfield 154, 3) := by decide +kernel
theorem dX11_ahead_71 : decode cX11_ahead 71 = .ok (.iload_n 1, 1) := by decide +kernel
theorem dX11_ahead_72 : decode cX11_ahead 72 = .ok (.iaload, 1) := by decide +kernel
theorem dX11_ahead_73 : decode cX11_ahead 73 = .ok (.ireturn, 1) := by decide +kernel
theorem dX11_ahead_74 : decode cX11_ahead 74 = .ok (.aload_n 0, 1) := by decide +kernel
theorem dX11_ahead_75 : decode cX11_ahead 75 = .ok (.getfield 23, 3) := by decide +kernel
theorem dX11_ahead_78 : decode cX11_ahead 78 = .ok (.getfield 174, 3) := by decide +kernel
theorem dX11_ahead_81 : decode cX11_ahead 81 = .ok (.iload_n 1, 1) := by decide +kernel
theorem dX11_ahead_82 : decode cX11_ahead 82 = .ok (.iaload, 1) := by decide +kernel
theorem dX11_ahead_83 : decode cX11_ahead 83 = .ok (.ireturn, 1) := by decide +kernel
theorem dX11_ahead_84 : decode cX11_ahead 84 = .ok (.aload_n 0, 1) := by decide +kernel
theorem dX11_ahead_85 : decode cX11_ahead 85 = .ok (.getfield 23, 3) := by decide +kernel
theorem dX11_ahead_88 : decode cX11_ahead 88 = .ok (.getfield 171, 3) := by decide +kernel
theorem dX11_ahead_91 : decode cX11_ahead 91 = .ok (.iload_n 1, 1) := by decide +kernel
theorem dX11_ahead_92 : decode cX11_ahead 92 = .ok (.invokestatic 167, 3) := by decide +kernel
theorem dX11_ahead_95 : decode cX11_ahead 95 = .ok (.ifCond .eq 7, 3) := by decide +kernel
theorem dX11_ahead_98 : decode cX11_ahead 98 = .ok (.iconst 1, 1) := by decide +kernel
theorem dX11_ahead_99 : decode cX11_ahead 99 = .ok (.goto 4, 3) := by decide +kernel
theorem dX11_ahead_102 : decode cX11_ahead 102 = .ok (.iconst 0, 1) := by decide +kernel
theorem dX11_ahead_103 : decode cX11_ahead 103 = .ok (.ireturn, 1) := by decide +kernel
def q11_ahead (σ : St) (person_a : Int32) (n_a : Int32) (what_a : Int32) : Option (Sum Nat Int32 × St) :=
  thn (q11_needPerson σ person_a) σ
  (thn (q11_needNumber n_a 0 60) σ
  (if (what_a < 0) ∨ (2 < what_a) then (some (.inl 4, σ)) else
  Option.bind (q11_lookAhead σ n_a) fun x10_ =>
  if what_a = 0 then (Option.bind (ag x10_ (54 + 1) 6 person_a) fun x15_ =>
  some (.inr x15_, x10_)) else
  if what_a = 1 then (Option.bind (ag x10_ (54 + 4) 6 person_a) fun x17_ =>
  some (.inr x17_, x10_)) else
  some (.inr (if q11_isIn (x10_ 54 10) person_a = true then 1 else 0), x10_)))
abbrev rm11_ahead : Room := { frames := 7, cells := 3, slots := 18, locals := 165 }
set_option maxHeartbeats 4000000 in
set_option maxRecDepth 100000 in
theorem p11_ahead {Θ : Tz} {σ : St} {ω : Om} (C : Zc Θ cX11_ahead 4 RX11 (some .int) rm11_ahead) (hkd : Θ.2.2.2.2.1 = kdC) (hlt : Θ.1.2.1.stackTraces = false) (het : ∀ x ∈ Θ.2.2.1.2.exceptionTable.toList, False) {person_a : Int32} {n_a : Int32} {what_a : Int32} {r : (Sum Nat Int32 × St)} (hf : q11_ahead σ person_a n_a what_a = some r) (hω : ω = om (fun v => some (.int v)) r) : Z Θ 4 0 0 (zQX Θ ω 3 18) σ 0 [(0, .ref (zA Θ 0)), (1, .int person_a), (2, .int n_a), (3, .int what_a)] [] := by
  unfold q11_ahead at hf
  refine z_aload_n C 0 dX11_ahead_0 rfl rfl ?_
  refine z_iload_n C 1 dX11_ahead_1 rfl rfl ?_
  refine zx_callV C het 0 [.int person_a] (q11_needPerson σ person_a) 1 6 1 (kC_0 hkd) rfl (c11_needPerson (person_a := person_a) hkd (zc_inj C) hlt) w_5_227 w_5_224 w_5_226 ws_LastLoaf_needPerson_I_V w_1_1 ⟨rfl, rfl, (Nat.le_of_ble_eq_true rfl), (Nat.le_of_ble_eq_true rfl)⟩ (by decide +kernel) rfl rfl (Nat.le_of_ble_eq_true rfl) ⟨(Nat.le_of_ble_eq_true rfl), (Nat.le_of_ble_eq_true rfl)⟩ dX11_ahead_2 ⟨(Nat.le_of_ble_eq_true rfl), (Nat.le_of_ble_eq_true rfl)⟩ (fun e9 h2_ => by rw [h2_] at hf; cases hf; exact hω) (fun h1_ => ?_)
  rw [h1_] at hf
  replace hf := thn_x hf
  refine z_iload_n C 2 dX11_ahead_5 rfl rfl ?_
  refine z_iconst (v := 0) C dX11_ahead_6 ic_0 ?_
  refine z_bipush (v := 60) C dX11_ahead_7 bp_60 ?_
  refine zx_callS C het [.int n_a, .int 0, .int 60] (q11_needNumber n_a 0 60) 1 6 3 (c11_needNumber (n_a := n_a) (least_a := 0) (most_a := 60) hkd (zc_inj C) hlt) w_6_83 w_6_81 w_6_82 w_1_1 ⟨rfl, rfl, (Nat.le_of_ble_eq_true rfl), (Nat.le_of_ble_eq_true rfl)⟩ (by decide +kernel) rfl rfl (Nat.le_of_ble_eq_true rfl) ⟨(Nat.le_of_ble_eq_true rfl), (Nat.le_of_ble_eq_true rfl)⟩ dX11_ahead_9 ⟨(Nat.le_of_ble_eq_true rfl), (Nat.le_of_ble_eq_true rfl)⟩ (fun e9 h4_ => by rw [h4_] at hf; cases hf; exact hω) (fun h3_ => ?_)
  rw [h3_] at hf
  replace hf := thn_x hf
  have K5_ : (what_a < 0) ∨ (2 < what_a) → Z Θ 4 2 12 (zQX Θ ω 3 18) σ 21 [(0, .ref (zA Θ 0)), (1, .int person_a), (2, .int n_a), (3, .int what_a)] [] := by
    intro h9_
    rw [if_pos h9_] at hf
    cases hf
    subst hω
    exact zx_throwWN (tx := "nothing such is told of weeks ahead") C hlt het 4 (by decide +kernel) w_6_29 w_1_27 (List.mem_of_getElem? (i := 44) rfl) th11_4_211g th11_4_211n th11_4_211o dX11_ahead_21 dX11_ahead_24 dX11_ahead_25 dX11_ahead_28 dX11_ahead_31 ⟨(Nat.le_of_ble_eq_true rfl), (Nat.le_of_ble_eq_true rfl), (Nat.le_of_ble_eq_true rfl), (Nat.le_of_ble_eq_true rfl)⟩ (Nat.le_of_ble_eq_true rfl) ⟨(Nat.le_of_ble_eq_true rfl), (Nat.le_of_ble_eq_true rfl)⟩
  suffices K6_ : ¬ ((what_a < 0) ∨ (2 < what_a)) → Z Θ 4 2 12 (zQX Θ ω 3 18) σ 32 [(0, .ref (zA Θ 0)), (1, .int person_a), (2, .int n_a), (3, .int what_a)] [] by
    refine z_iload_n C 3 dX11_ahead_12 rfl rfl ?_
    refine c0_lt_t C 21 dX11_ahead_13 (by decide) (fun h7_ => ?_) (fun h7_ => ?_)
    · exact K5_ (Or.inl h7_)
    · refine z_iload_n C 3 dX11_ahead_16 rfl rfl ?_
      refine z_iconst (v := 2) C dX11_ahead_17 ic_2 ?_
      refine c_gt_f C 32 dX11_ahead_18 (by decide) (fun h8_ => ?_) (fun h8_ => ?_)
      · exact K5_ (Or.inr h8_)
      · exact K6_ (fun n => n.elim h7_ h8_)
  intro h9_
  rw [if_neg h9_] at hf
  refine z_aload_n C 0 dX11_ahead_32 rfl rfl ?_
  refine z_iload_n C 2 dX11_ahead_33 rfl rfl ?_
  obtain ⟨x10_, h11_, hf⟩ := ob hf
  refine cr11_292 (n_a := n_a) C hkd  h11_ ⟨(Nat.le_of_ble_eq_true rfl), (Nat.le_of_ble_eq_true rfl)⟩ (Nat.le_of_ble_eq_true rfl) ⟨(Nat.le_of_ble_eq_true rfl), (Nat.le_of_ble_eq_true rfl)⟩ dX11_ahead_34 ?_
  refine z_iload_n C 3 dX11_ahead_37 rfl rfl ?_
  by_cases h24_ : what_a = 0
  · rw [if_pos h24_] at hf
    refine z_lsw (off := 26) C 64 dX11_ahead_38 (by decide) (by rw [h24_]; decide) (by decide) ?_
    refine z_aload_n C 0 dX11_ahead_64 rfl rfl ?_
    refine fg11_23 C hkd dX11_ahead_65 ?_
    refine fg11_154 C hkd isV_54 dX11_ahead_68 ?_
    refine z_iload_n C 1 dX11_ahead_71 rfl rfl ?_
    obtain ⟨x15_, h16_, hf⟩ := ob hf
    refine z_ag C h16_ (kV_1 hkd isV_54) dX11_ahead_72 ?_
    cases hf
    subst hω
    exact zx_iret C ⟨(Nat.le_of_ble_eq_true rfl), (Nat.le_of_ble_eq_true rfl)⟩ dX11_ahead_73
  rw [if_neg h24_] at hf
  by_cases h25_ : what_a = 1
  · rw [if_pos h25_] at hf
    refine z_lsw (off := 36) C 74 dX11_ahead_38 (by decide) (by rw [h25_]; decide) (by decide) ?_
    refine z_aload_n C 0 dX11_ahead_74 rfl rfl ?_
    refine fg11_23 C hkd dX11_ahead_75 ?_
    refine fg11_174 C hkd isV_54 dX11_ahead_78 ?_
    refine z_iload_n C 1 dX11_ahead_81 rfl rfl ?_
    obtain ⟨x17_, h18_, hf⟩ := ob hf
    refine z_ag C h18_ (kV_4 hkd isV_54) dX11_ahead_82 ?_
    cases hf
    subst hω
    exact zx_iret C ⟨(Nat.le_of_ble_eq_true rfl), (Nat.le_of_ble_eq_true rfl)⟩ dX11_ahead_83
  rw [if_neg h25_] at hf
  refine z_lsw (off := 46) C 84 dX11_ahead_38 (by decide) (by show (if (0 : Int) = (what_a : Int32).toInt then (26 : Int) else if (1 : Int) = (what_a : Int32).toInt then (36 : Int) else (46 : Int)) = 46; rw [if_neg (show ¬ (0 : Int) = what_a.toInt from i32_ne h24_), if_neg (show ¬ (1 : Int) = what_a.toInt from i32_ne h25_)]) (by decide) ?_
  suffices K19_ : Z Θ 4 2 12 (zQX Θ ω 3 18) x10_ 103 [(0, .ref (zA Θ 0)), (1, .int person_a), (2, .int n_a), (3, .int what_a)] [.int (if q11_isIn (x10_ 54 10) person_a = true then 1 else 0)] by
    have K20_ : q11_isIn (x10_ 54 10) person_a = true → Z Θ 4 2 12 (zQX Θ ω 3 18) x10_ 98 [(0, .ref (zA Θ 0)), (1, .int person_a), (2, .int n_a), (3, .int what_a)] [] := by
      intro h23_
      rw [if_pos h23_] at K19_
      refine z_iconst (v := 1) C dX11_ahead_98 ic_1 ?_
      refine z_goto C 103 dX11_ahead_99 (by decide) ?_
      exact K19_
    have K21_ : ¬ (q11_isIn (x10_ 54 10) person_a = true) → Z Θ 4 2 12 (zQX Θ ω 3 18) x10_ 102 [(0, .ref (zA Θ 0)), (1, .int person_a), (2, .int n_a), (3, .int what_a)] [] := by
      intro h23_
      rw [if_neg h23_] at K19_
      refine z_iconst (v := 0) C dX11_ahead_102 ic_0 ?_
      exact K19_
    refine z_aload_n C 0 dX11_ahead_84 rfl rfl ?_
    refine fg11_23 C hkd dX11_ahead_85 ?_
    refine fg11_171 C hkd isV_54 dX11_ahead_88 ?_
    refine z_iload_n C 1 dX11_ahead_91 rfl rfl ?_
    refine cr11_167 (set_a := (x10_ 54 10)) (person_a := person_a) C hkd  ⟨(Nat.le_of_ble_eq_true rfl), (Nat.le_of_ble_eq_true rfl)⟩ (Nat.le_of_ble_eq_true rfl) ⟨(Nat.le_of_ble_eq_true rfl), (Nat.le_of_ble_eq_true rfl)⟩ dX11_ahead_92 ?_
    refine cb_f C 102 dX11_ahead_95 (by decide) (fun h22_ => ?_) (fun h22_ => ?_)
    · exact K20_ h22_
    · exact K21_ h22_
  cases hf
  subst hω
  exact zx_iret C ⟨(Nat.le_of_ble_eq_true rfl), (Nat.le_of_ble_eq_true rfl)⟩ dX11_ahead_103
theorem c11_ahead {l : Launch} {kd : List KD} {w : Wp} {σ : St} {person_a : Int32} {n_a : Int32} {what_a : Int32} (hkd : kd = kdC) (hi : zI kd w) (hlt : l.stackTraces = false) {r : (Sum Nat Int32 × St)} (hf : q11_ahead σ person_a n_a what_a = some r) : zX l kd w yX11_ahead cX11_ahead 4 (some .int) rm11_ahead [.ref (w.2.2.1 0), .int person_a, .int n_a, .int what_a] σ (om (fun v => some (.int v)) r) 3 18 := zX_of rfl hi (Nat.le_of_ble_eq_true rfl) (fun Θ hl hw C het => by
  obtain ⟨Θ1, Θ2, Θ3, Θ4, Θ5⟩ := Θ
  cases hw
  cases hl
  exact p11_ahead C hkd hlt het  hf rfl)
/-! LastLoaf.trial -/
theorem dX11_trial_0 : decode cX11_trial 0 = .ok (.iload_n 1, 1) := by decide +kernel
theorem dX11_trial_1 : decode cX11_trial 1 = .ok (.iconst 0, 1) := by decide +kernel
theorem dX11_trial_2 : decode cX11_trial 2 = .ok (.bipush 60, 2) := by decide +kernel
theorem dX11_trial_4 : decode cX11_trial 4 = .ok (.invokestatic 231, 3) := by decide +kernel
theorem dX11_trial_7 : decode cX11_trial 7 = .ok (.aload_n 0, 1) := by decide +kernel
theorem dX11_trial_8 : decode cX11_trial 8 = .ok (.getfield 23, 3) := by decide +kernel
theorem dX11_trial_11 : decode cX11_trial 11 = .ok (.aload_n 0, 1) := by decide +kernel
theorem dX11_trial_12 : decode cX11_trial 12 = .ok (.getfield 19, 3) := by decide +kernel
theorem dX11_trial_15 : decode cX11_trial 15 = .ok (.invokevirtual 110, 3) := by decide +kernel
theorem dX11_trial_18 : decode cX11_trial 18 = .ok (.aload_n 0, 1) := by decide +kernel
theorem dX11_trial_19 : decode cX11_trial 19 = .ok (.getfield 70, 3) := by decide +kernel
theorem dX11_trial_22 : decode cX11_trial 22 = .ok (.aload_n 0, 1) := by decide +kernel
theorem dX11_trial_23 : decode cX11_trial 23 = .ok (.getfield 23, 3) := by decide +kernel
theorem dX11_trial_26 : decode cX11_trial 26 = .ok (.iload_n 1, 1) := by decide +kernel
theorem dX11_trial_27 : decode cX11_trial 27 = .ok (.iconst 1, 1) := by decide +kernel
theorem dX11_trial_28 : decode cX11_trial 28 = .ok (.invokevirtual 243, 3) := by decide +kernel
theorem dX11_trial_31 : decode cX11_trial 31 = .ok (.iload_n 2, 1) := by decide +kernel
theorem dX11_trial_32 : decode cX11_trial 32 = .ok (.ifCond .eq 13, 3) := by decide +kernel
theorem dX11_trial_35 : decode cX11_trial 35 = .ok (.aload_n 0, 1) := by decide +kernel
theorem dX11_trial_36 : decode cX11_trial 36 = .ok (.getfield 23, 3) := by decide +kernel
theorem dX11_trial_39 : decode cX11_trial 39 = .ok (.invokevirtual 385, 3) := by decide +kernel
theorem dX11_trial_42 : decode cX11_trial 42 = .ok (.goto 10, 3) := by decide +kernel
theorem dX11_trial_45 : decode cX11_trial 45 = .ok (.aload_n 0, 1) := by decide +kernel
theorem dX11_trial_46 : decode cX11_trial 46 = .ok (.getfield 23, 3) := by decide +kernel
theorem dX11_trial_49 : decode cX11_trial 49 = .ok (.getfield 171, 3) := by decide +kernel
theorem dX11_trial_52 : decode cX11_trial 52 = .ok (.ireturn, 1) := by decide +kernel
def q11_trial (σ : St) (n_a : Int32) (hunger_a : Bool) : Option (Sum Nat Int32 × St) :=
  thn (q11_needNumber n_a 0 60) σ
  (Option.bind (q10_become σ 54 44) fun x3_ =>
  Option.bind (q0_bakeWeeks x3_ 54 n_a true) fun x5_ =>
  Option.bind (if hunger_a = true then (Option.bind (q10_hungerOfAll x5_ 54) fun x13_ =>
  some x13_) else (some (x5_ 54 10))) fun x7_ =>
  some (.inr x7_, x5_))
abbrev rm11_trial : Room := { frames := 7, cells := 1, slots := 6, locals := 144 }
set_option maxHeartbeats 4000000 in
set_option maxRecDepth 100000 in
theorem p11_trial {Θ : Tz} {σ : St} {ω : Om} (C : Zc Θ cX11_trial 3 RX11 (some .int) rm11_trial) (hkd : Θ.2.2.2.2.1 = kdC) (hlt : Θ.1.2.1.stackTraces = false) (het : ∀ x ∈ Θ.2.2.1.2.exceptionTable.toList, False) {n_a : Int32} {hunger_a : Bool} {r : (Sum Nat Int32 × St)} (hf : q11_trial σ n_a hunger_a = some r) (hω : ω = om (fun v => some (.int v)) r) : Z Θ 3 0 0 (zQX Θ ω 1 6) σ 0 [(0, .ref (zA Θ 0)), (1, .int n_a), (2, .int (b2i hunger_a))] [] := by
  unfold q11_trial at hf
  refine z_iload_n C 1 dX11_trial_0 rfl rfl ?_
  refine z_iconst (v := 0) C dX11_trial_1 ic_0 ?_
  refine z_bipush (v := 60) C dX11_trial_2 bp_60 ?_
  refine zx_callS C het [.int n_a, .int 0, .int 60] (q11_needNumber n_a 0 60) 1 6 3 (c11_needNumber (n_a := n_a) (least_a := 0) (most_a := 60) hkd (zc_inj C) hlt) w_6_83 w_6_81 w_6_82 w_1_1 ⟨rfl, rfl, (Nat.le_of_ble_eq_true rfl), (Nat.le_of_ble_eq_true rfl)⟩ (by decide +kernel) rfl rfl (Nat.le_of_ble_eq_true rfl) ⟨(Nat.le_of_ble_eq_true rfl), (Nat.le_of_ble_eq_true rfl)⟩ dX11_trial_4 ⟨(Nat.le_of_ble_eq_true rfl), (Nat.le_of_ble_eq_true rfl)⟩ (fun e9 h2_ => by rw [h2_] at hf; cases hf; exact hω) (fun h1_ => ?_)
  rw [h1_] at hf
  replace hf := thn_x hf
  refine z_aload_n C 0 dX11_trial_7 rfl rfl ?_
  refine fg11_23 C hkd dX11_trial_8 ?_
  refine z_aload_n C 0 dX11_trial_11 rfl rfl ?_
  refine fg11_19 C hkd dX11_trial_12 ?_
  obtain ⟨x3_, h4_, hf⟩ := ob hf
  refine cr11_110 (th := 54) (other_a := 44) C hkd isV_54 isV_44 h4_ ⟨(Nat.le_of_ble_eq_true rfl), (Nat.le_of_ble_eq_true rfl)⟩ (Nat.le_of_ble_eq_true rfl) ⟨(Nat.le_of_ble_eq_true rfl), (Nat.le_of_ble_eq_true rfl)⟩ dX11_trial_15 ?_
  refine z_aload_n C 0 dX11_trial_18 rfl rfl ?_
  refine fg11_70 C hkd dX11_trial_19 ?_
  refine z_aload_n C 0 dX11_trial_22 rfl rfl ?_
  refine fg11_23 C hkd dX11_trial_23 ?_
  refine z_iload_n C 1 dX11_trial_26 rfl rfl ?_
  refine z_iconst (v := 1) C dX11_trial_27 ic_1 ?_
  obtain ⟨x5_, h6_, hf⟩ := ob hf
  refine cr11_243 (village_a := 54) (n_a := n_a) (speeches_a := true) C hkd isV_54 h6_ ⟨(Nat.le_of_ble_eq_true rfl), (Nat.le_of_ble_eq_true rfl)⟩ (Nat.le_of_ble_eq_true rfl) ⟨(Nat.le_of_ble_eq_true rfl), (Nat.le_of_ble_eq_true rfl)⟩ dX11_trial_28 ?_
  obtain ⟨x7_, h8_, hf⟩ := ob hf
  suffices K9_ : Z Θ 3 1 6 (zQX Θ ω 1 6) x5_ 52 [(0, .ref (zA Θ 0)), (1, .int n_a), (2, .int (b2i hunger_a))] [.int x7_] by
    have K10_ : hunger_a = true → Z Θ 3 1 6 (zQX Θ ω 1 6) x5_ 35 [(0, .ref (zA Θ 0)), (1, .int n_a), (2, .int (b2i hunger_a))] [] := by
      intro h15_
      rw [if_pos h15_] at h8_
      refine z_aload_n C 0 dX11_trial_35 rfl rfl ?_
      refine fg11_23 C hkd dX11_trial_36 ?_
      obtain ⟨x13_, h14_, h8_⟩ := ob h8_
      refine cr11_385 (th := 54) C hkd isV_54 h14_ ⟨(Nat.le_of_ble_eq_true rfl), (Nat.le_of_ble_eq_true rfl)⟩ (Nat.le_of_ble_eq_true rfl) ⟨(Nat.le_of_ble_eq_true rfl), (Nat.le_of_ble_eq_true rfl)⟩ dX11_trial_39 ?_
      refine z_goto C 52 dX11_trial_42 (by decide) ?_
      cases h8_
      exact K9_
    have K11_ : ¬ (hunger_a = true) → Z Θ 3 1 6 (zQX Θ ω 1 6) x5_ 45 [(0, .ref (zA Θ 0)), (1, .int n_a), (2, .int (b2i hunger_a))] [] := by
      intro h15_
      rw [if_neg h15_] at h8_
      refine z_aload_n C 0 dX11_trial_45 rfl rfl ?_
      refine fg11_23 C hkd dX11_trial_46 ?_
      refine fg11_171 C hkd isV_54 dX11_trial_49 ?_
      cases h8_
      exact K9_
    refine z_iload_n C 2 dX11_trial_31 rfl rfl ?_
    refine cb_f C 45 dX11_trial_32 (by decide) (fun h12_ => ?_) (fun h12_ => ?_)
    · exact K10_ h12_
    · exact K11_ h12_
  cases hf
  subst hω
  exact zx_iret C ⟨(Nat.le_of_ble_eq_true rfl), (Nat.le_of_ble_eq_true rfl)⟩ dX11_trial_52
theorem c11_trial {l : Launch} {kd : List KD} {w : Wp} {σ : St} {n_a : Int32} {hunger_a : Bool} (hkd : kd = kdC) (hi : zI kd w) (hlt : l.stackTraces = false) {r : (Sum Nat Int32 × St)} (hf : q11_trial σ n_a hunger_a = some r) : zX l kd w yX11_trial cX11_trial 3 (some .int) rm11_trial [.ref (w.2.2.1 0), .int n_a, .int (b2i hunger_a)] σ (om (fun v => some (.int v)) r) 1 6 := zX_of rfl hi (Nat.le_of_ble_eq_true rfl) (fun Θ hl hw C het => by
  obtain ⟨Θ1, Θ2, Θ3, Θ4, Θ5⟩ := Θ
  cases hw
  cases hl
  exact p11_trial C hkd hlt het  hf rfl)
/-! LastLoaf.span -/
theorem w_1_161 : Cond.fieldLink "LastLoaf" (420 : Nat) "LastLoaf$Village" "seed" "I" ∈ TB := tb_in (lwt_1 (List.mem_of_getElem? (i := 161) (by decide +kernel))) rfl
theorem fp11_420 {Θ : Tz} {cc : ByteArray} {nL kc ks : Nat} {ret : Option FieldType} {rm : Room} {Q : State → Prop} {σ : St} {pc : Nat} {lv : List (Nat × Value)} {st : List Value} (C : Zc Θ cc nL RX11 ret rm) (hkd : Θ.2.2.2.2.1 = kdC) {th : Nat} (hth : isV th) {x : Int32} {σ1 : St} (he : σ1 = up σ th 15 x) (hd : decode cc pc = .ok (.putfield 420, 3)) (kk : Z Θ nL kc ks Q σ1 (pc + 3) lv st) : Z Θ nL kc ks Q σ pc lv (.int x :: .ref (zA Θ th) :: st) := by subst he; exact z_put C inT10 tyX10_ok nmX10 th (kV_0 hkd hth) rfl 15 (by decide) w_1_161 rfl rfl rfl rfl hd kk
theorem w_7_231 : Cond.methodLink "LastLoaf" (423 : Nat) ({ cls := "java/lang/Math", name := "max", desc := "(II)I" } : MethodName) ∈ TB := tb_in (lwt_7 (List.mem_of_getElem? (i := 231) (by decide +kernel))) rfl
theorem dX11_span_0 : decode cX11_span 0 = .ok (.iload_n 1, 1) := by decide +kernel
theorem dX11_span_1 : decode cX11_span 1 = .ok (.iconst 0, 1) := by decide +kernel
theorem dX11_span_2 : decode cX11_span 2 = .ok (.bipush 60, 2) := by decide +kernel
theorem dX11_span_4 : decode cX11_span 4 = .ok (.invokestatic 231, 3) := by decide +kernel
theorem dX11_span_7 : decode cX11_span 7 = .ok (.bipush 6, 2) := by decide +kernel
theorem dX11_span_9 : decode cX11_span 9 = .ok (.istore_n 3, 1) := by decide +kernel
theorem dX11_span_10 : decode cX11_span 10 = .ok (.iconst 0, 1) := by decide +kernel
theorem dX11_span_11 : decode cX11_span 11 = .ok (.istore 4, 2) := by decide +kernel
theorem dX11_span_13 : decode cX11_span 13 = .ok (.iconst 1, 1) := by decide +kernel
theorem dX11_span_14 : decode cX11_span 14 = .ok (.istore 5, 2) := by decide +kernel
theorem dX11_span_16 : decode cX11_span 16 = .ok (.iload 5, 2) := by decide +kernel
theorem dX11_span_18 : decode cX11_span 18 = .ok (.bipush 6, 2) := by decide +kernel
theorem dX11_span_20 : decode cX11_span 20 = .ok (.if_icmp .gt 70, 3) := by decide +kernel
theorem dX11_span_23 : decode cX11_span 23 = .ok (.aload_n 0, 1) := by decide +kernel
theorem dX11_span_24 : decode cX11_span 24 = .ok (.getfield 23, 3) := by decide +kernel
theorem dX11_span_27 : decode cX11_span 27 = .ok (.aload_n 0, 1) := by decide +kernel
theorem dX11_span_28 : decode cX11_span 28 = .ok (.getfield 19, 3) := by decide +kernel
theorem dX11_span_31 : decode cX11_span 31 = .ok (.invokevirtual 110, 3) := by decide +kernel
theorem dX11_span_34 : decode cX11_span 34 = .ok (.aload_n 0, 1) := by decide +kernel
theorem dX11_span_35 : decode cX11_span 35 = .ok (.getfield 23, 3) := by decide +kernel
theorem dX11_span_38 : decode cX11_span 38 = .ok (.iload 5, 2) := by decide +kernel
theorem dX11_span_40 : decode cX11_span 40 = .ok (.putfield 420, 3) := by decide +kernel
theorem dX11_span_43 : decode cX11_span 43 = .ok (.aload_n 0, 1) := by decide +kernel
theorem dX11_span_44 : decode cX11_span 44 = .ok (.getfield 70, 3) := by decide +kernel
theorem dX11_span_47 : decode cX11_span 47 = .ok (.aload_n 0, 1) := by decide +kernel
theorem dX11_span_48 : decode cX11_span 48 = .ok (.getfield 23, 3) := by decide +kernel
theorem dX11_span_51 : decode cX11_span 51 = .ok (.iload_n 1, 1) := by decide +kernel
theorem dX11_span_52 : decode cX11_span 52 = .ok (.iconst 1, 1) := by decide +kernel
theorem dX11_span_53 : decode cX11_span 53 = .ok (.invokevirtual 243, 3) := by decide +kernel
theorem dX11_span_56 : decode cX11_span 56 = .ok (.aload_n 0, 1) := by decide +kernel
theorem dX11_span_57 : decode cX11_span 57 = .ok (.getfield 23, 3) := by decide +kernel
theorem dX11_span_60 : decode cX11_span 60 = .ok (.getfield 171, 3) := by decide +kernel
theorem dX11_span_63 : decode cX11_span 63 = .ok (.invokestatic 238, 3) := by decide +kernel
theorem dX11_span_66 : decode cX11_span 66 = .ok (.istore 6, 2) := by decide +kernel
theorem dX11_span_68 : decode cX11_span 68 = .ok (.iload_n 3, 1) := by decide +kernel
theorem dX11_span_69 : decode cX11_span 69 = .ok (.iload 6, 2) := by decide +kernel
theorem dX11_span_71 : decode cX11_span 71 = .ok (.invokestatic 264, 3) := by decide +kernel
theorem dX11_span_74 : decode cX11_span 74 = .ok (.istore_n 3, 1) := by decide +kernel
theorem dX11_span_75 : decode cX11_span 75 = .ok (.iload 4, 2) := by decide +kernel
theorem dX11_span_77 : decode cX11_span 77 = .ok (.iload 6, 2) := by decide +kernel
theorem dX11_span_79 : decode cX11_span 79 = .ok (.invokestatic 423, 3) := by decide +kernel
theorem dX11_span_82 : decode cX11_span 82 = .ok (.istore 4, 2) := by decide +kernel
theorem dX11_span_84 : decode cX11_span 84 = .ok (.iinc 5 1, 3) := by decide +kernel
theorem dX11_span_87 : decode cX11_span 87 = .ok (.goto (-71), 3) := by decide +kernel
theorem dX11_span_90 : decode cX11_span 90 = .ok (.iload_n 2, 1) := by decide +kernel
theorem dX11_span_91 : decode cX11_span 91 = .ok (.ifCond .eq 8, 3) := by decide +kernel
theorem dX11_span_94 : decode cX11_span 94 = .ok (.iload 4, 2) := by decide +kernel
theorem dX11_span_96 : decode cX11_span 96 = .ok (.goto 4, 3) := by decide +kernel
theorem dX11_span_99 : decode cX11_span 99 = .ok (.iload_n 3, 1) := by decide +kernel
theorem dX11_span_100 : decode cX11_span 100 = .ok (.ireturn, 1) := by decide +kernel
def q11_span (σ : St) (n_a : Int32) (most_a : Bool) : Option (Sum Nat Int32 × St) :=
  thn (q11_needNumber n_a 0 60) σ
  (Option.bind (loop4 (fun rec6_ (least9_ : Int32) (greatest10_ : Int32) (seed11_ : Int32) (σ12_ : St) =>
  if seed11_ ≤ 6 then
  Option.bind (q10_become σ12_ 54 44) fun x19_ =>
  lt (up x19_ 54 15 seed11_) fun σ21_ =>
  Option.bind (q0_bakeWeeks σ21_ 54 n_a true) fun x23_ =>
  lt (bcount (x23_ 54 10)) fun benched25_ =>
  lt (imin least9_ benched25_) fun least27_ =>
  lt (imax greatest10_ benched25_) fun greatest29_ =>
  lt (seed11_ + 1) fun seed31_ =>
  rec6_ least27_ greatest29_ seed31_ x23_
  else (some (least9_, greatest10_, seed11_, σ12_))) fuelN (6 : Int32) (0 : Int32) (1 : Int32) σ) fun y3_ =>
  some (.inr (if most_a = true then y3_.2.1 else y3_.1), y3_.2.2.2))
abbrev rm11_span : Room := { frames := 7, cells := 1, slots := 6, locals := 144 }
set_option maxHeartbeats 4000000 in
set_option maxRecDepth 100000 in
theorem p11_span {Θ : Tz} {σ : St} {ω : Om} (C : Zc Θ cX11_span 7 RX11 (some .int) rm11_span) (hkd : Θ.2.2.2.2.1 = kdC) (hlt : Θ.1.2.1.stackTraces = false) (het : ∀ x ∈ Θ.2.2.1.2.exceptionTable.toList, False) {n_a : Int32} {most_a : Bool} {r : (Sum Nat Int32 × St)} (hf : q11_span σ n_a most_a = some r) (hω : ω = om (fun v => some (.int v)) r) : Z Θ 7 0 0 (zQX Θ ω 1 6) σ 0 [(0, .ref (zA Θ 0)), (1, .int n_a), (2, .int (b2i most_a))] [] := by
  unfold q11_span at hf
  refine z_iload_n C 1 dX11_span_0 rfl rfl ?_
  refine z_iconst (v := 0) C dX11_span_1 ic_0 ?_
  refine z_bipush (v := 60) C dX11_span_2 bp_60 ?_
  refine zx_callS C het [.int n_a, .int 0, .int 60] (q11_needNumber n_a 0 60) 1 6 3 (c11_needNumber (n_a := n_a) (least_a := 0) (most_a := 60) hkd (zc_inj C) hlt) w_6_83 w_6_81 w_6_82 w_1_1 ⟨rfl, rfl, (Nat.le_of_ble_eq_true rfl), (Nat.le_of_ble_eq_true rfl)⟩ (by decide +kernel) rfl rfl (Nat.le_of_ble_eq_true rfl) ⟨(Nat.le_of_ble_eq_true rfl), (Nat.le_of_ble_eq_true rfl)⟩ dX11_span_4 ⟨(Nat.le_of_ble_eq_true rfl), (Nat.le_of_ble_eq_true rfl)⟩ (fun e9 h2_ => by rw [h2_] at hf; cases hf; exact hω) (fun h1_ => ?_)
  rw [h1_] at hf
  replace hf := thn_x hf
  refine z_bipush (v := 6) C dX11_span_7 bp_6 ?_
  refine z_istN C dX11_span_9 rfl rfl (Nat.le_of_ble_eq_true rfl) rfl ?_
  refine z_iconst (v := 0) C dX11_span_10 ic_0 ?_
  refine z_ist C dX11_span_11 rfl (Nat.le_of_ble_eq_true rfl) rfl ?_
  refine z_iconst (v := 1) C dX11_span_13 ic_1 ?_
  refine z_ist C dX11_span_14 rfl (Nat.le_of_ble_eq_true rfl) rfl ?_
  refine Z.sub [3, 4, 5, 2, 1, 0] rfl ?_
  obtain ⟨y3_, h4_, hf⟩ := ob hf
  suffices K5_ : Z Θ 7 1 6 (zQX Θ ω 1 6) y3_.2.2.2 90 [(0, .ref (zA Θ 0)), (1, .int n_a), (2, .int (b2i most_a)), (3, .int y3_.1), (4, .int y3_.2.1), (5, .int y3_.2.2.1)] [] by
    refine loop4_Z (P := fun (least9_ : Int32) (greatest10_ : Int32) (seed11_ : Int32) (σ12_ : St) => Z Θ 7 1 6 (zQX Θ ω 1 6) σ12_ 16 [(0, .ref (zA Θ 0)), (1, .int n_a), (2, .int (b2i most_a)), (3, .int least9_), (4, .int greatest10_), (5, .int seed11_)] []) ?_ fuelN (6 : Int32) (0 : Int32) (1 : Int32) σ h4_
    clear h4_
    intro rec6_ least9_ greatest10_ seed11_ σ12_ h7_ h8_
    have K15_ : seed11_ ≤ 6 → Z Θ 7 1 6 (zQX Θ ω 1 6) σ12_ 23 [(0, .ref (zA Θ 0)), (1, .int n_a), (2, .int (b2i most_a)), (3, .int least9_), (4, .int greatest10_), (5, .int seed11_)] [] := by
      intro h18_
      rw [if_pos h18_] at h8_
      refine z_aload_n C 0 dX11_span_23 rfl rfl ?_
      refine fg11_23 C hkd dX11_span_24 ?_
      refine z_aload_n C 0 dX11_span_27 rfl rfl ?_
      refine fg11_19 C hkd dX11_span_28 ?_
      obtain ⟨x19_, h20_, h8_⟩ := ob h8_
      refine cr11_110 (th := 54) (other_a := 44) C hkd isV_54 isV_44 h20_ ⟨(Nat.le_of_ble_eq_true rfl), (Nat.le_of_ble_eq_true rfl)⟩ (Nat.le_of_ble_eq_true rfl) ⟨(Nat.le_of_ble_eq_true rfl), (Nat.le_of_ble_eq_true rfl)⟩ dX11_span_31 ?_
      refine z_aload_n C 0 dX11_span_34 rfl rfl ?_
      refine fg11_23 C hkd dX11_span_35 ?_
      refine z_iload C 5 dX11_span_38 rfl ?_
      obtain ⟨σ21_, h22_, h8_⟩ := lt_ h8_
      refine fp11_420 C hkd isV_54 h22_ dX11_span_40 ?_
      refine z_aload_n C 0 dX11_span_43 rfl rfl ?_
      refine fg11_70 C hkd dX11_span_44 ?_
      refine z_aload_n C 0 dX11_span_47 rfl rfl ?_
      refine fg11_23 C hkd dX11_span_48 ?_
      refine z_iload_n C 1 dX11_span_51 rfl rfl ?_
      refine z_iconst (v := 1) C dX11_span_52 ic_1 ?_
      obtain ⟨x23_, h24_, h8_⟩ := ob h8_
      refine cr11_243 (village_a := 54) (n_a := n_a) (speeches_a := true) C hkd isV_54 h24_ ⟨(Nat.le_of_ble_eq_true rfl), (Nat.le_of_ble_eq_true rfl)⟩ (Nat.le_of_ble_eq_true rfl) ⟨(Nat.le_of_ble_eq_true rfl), (Nat.le_of_ble_eq_true rfl)⟩ dX11_span_53 ?_
      refine z_aload_n C 0 dX11_span_56 rfl rfl ?_
      refine fg11_23 C hkd dX11_span_57 ?_
      refine fg11_171 C hkd isV_54 dX11_span_60 ?_
      refine z_callS C [.int (x23_ 54 10)] (some (.int (bcount (x23_ 54 10))), x23_) 1 (cJ_bitCount (zc_inj C)) w_3_30 w_4_11 w_3_29 w_1_26 ⟨rfl, rfl, (Nat.le_of_ble_eq_true rfl), (Nat.le_of_ble_eq_true rfl)⟩ (by decide +kernel) rfl rfl (Nat.le_of_ble_eq_true rfl) ⟨(Nat.le_of_ble_eq_true rfl), (Nat.le_of_ble_eq_true rfl)⟩ dX11_span_63 ?_
      obtain ⟨benched25_, h26_, h8_⟩ := lt_ h8_
      refine z_ist C dX11_span_66 h26_ (Nat.le_of_ble_eq_true rfl) rfl ?_
      refine z_iload_n C 4 dX11_span_68 rfl rfl ?_
      refine z_iload C 0 dX11_span_69 rfl ?_
      refine z_min C w_6_139 w_3_129 w_1_28 w_3_130 ⟨(Nat.le_of_ble_eq_true rfl), (Nat.le_of_ble_eq_true rfl)⟩ (Nat.le_of_ble_eq_true rfl) ⟨(Nat.le_of_ble_eq_true rfl), (Nat.le_of_ble_eq_true rfl)⟩ dX11_span_71 ?_
      obtain ⟨least27_, h28_, h8_⟩ := lt_ h8_
      refine z_istN C dX11_span_74 h28_ rfl (Nat.le_of_ble_eq_true rfl) rfl ?_
      refine z_iload C 5 dX11_span_75 rfl ?_
      refine z_iload C 1 dX11_span_77 rfl ?_
      refine z_max C w_7_231 w_3_176 w_1_28 w_3_177 ⟨(Nat.le_of_ble_eq_true rfl), (Nat.le_of_ble_eq_true rfl)⟩ (Nat.le_of_ble_eq_true rfl) ⟨(Nat.le_of_ble_eq_true rfl), (Nat.le_of_ble_eq_true rfl)⟩ dX11_span_79 ?_
      obtain ⟨greatest29_, h30_, h8_⟩ := lt_ h8_
      refine z_ist C dX11_span_82 h30_ (Nat.le_of_ble_eq_true rfl) rfl ?_
      obtain ⟨seed31_, h32_, h8_⟩ := lt_ h8_
      refine z_inc C 6 dX11_span_84 rfl ic_1 h32_ (Nat.le_of_ble_eq_true rfl) rfl ?_
      refine z_goto C 16 dX11_span_87 (by decide) ?_
      refine Z.sub [4, 5, 6, 2, 1, 0] rfl ?_
      exact h7_ _ _ _ _ h8_
    have K16_ : ¬ (seed11_ ≤ 6) → Z Θ 7 1 6 (zQX Θ ω 1 6) σ12_ 90 [(0, .ref (zA Θ 0)), (1, .int n_a), (2, .int (b2i most_a)), (3, .int least9_), (4, .int greatest10_), (5, .int seed11_)] [] := by
      intro h18_
      rw [if_neg h18_] at h8_
      cases h8_
      exact K5_
    refine z_iload C 5 dX11_span_16 rfl ?_
    refine z_bipush (v := 6) C dX11_span_18 bp_6 ?_
    refine c_le_f C 90 dX11_span_20 (by decide) (fun h17_ => ?_) (fun h17_ => ?_)
    · exact K15_ h17_
    · exact K16_ h17_
  suffices K33_ : Z Θ 7 1 6 (zQX Θ ω 1 6) y3_.2.2.2 100 [(0, .ref (zA Θ 0)), (1, .int n_a), (2, .int (b2i most_a)), (3, .int y3_.1), (4, .int y3_.2.1), (5, .int y3_.2.2.1)] [.int (if most_a = true then y3_.2.1 else y3_.1)] by
    have K34_ : most_a = true → Z Θ 7 1 6 (zQX Θ ω 1 6) y3_.2.2.2 94 [(0, .ref (zA Θ 0)), (1, .int n_a), (2, .int (b2i most_a)), (3, .int y3_.1), (4, .int y3_.2.1), (5, .int y3_.2.2.1)] [] := by
      intro h37_
      rw [if_pos h37_] at K33_
      refine z_iload C 4 dX11_span_94 rfl ?_
      refine z_goto C 100 dX11_span_96 (by decide) ?_
      exact K33_
    have K35_ : ¬ (most_a = true) → Z Θ 7 1 6 (zQX Θ ω 1 6) y3_.2.2.2 99 [(0, .ref (zA Θ 0)), (1, .int n_a), (2, .int (b2i most_a)), (3, .int y3_.1), (4, .int y3_.2.1), (5, .int y3_.2.2.1)] [] := by
      intro h37_
      rw [if_neg h37_] at K33_
      refine z_iload_n C 3 dX11_span_99 rfl rfl ?_
      exact K33_
    refine z_iload_n C 2 dX11_span_90 rfl rfl ?_
    refine cb_f C 99 dX11_span_91 (by decide) (fun h36_ => ?_) (fun h36_ => ?_)
    · exact K34_ h36_
    · exact K35_ h36_
  cases hf
  subst hω
  exact zx_iret C ⟨(Nat.le_of_ble_eq_true rfl), (Nat.le_of_ble_eq_true rfl)⟩ dX11_span_100
theorem c11_span {l : Launch} {kd : List KD} {w : Wp} {σ : St} {n_a : Int32} {most_a : Bool} (hkd : kd = kdC) (hi : zI kd w) (hlt : l.stackTraces = false) {r : (Sum Nat Int32 × St)} (hf : q11_span σ n_a most_a = some r) : zX l kd w yX11_span cX11_span 7 (some .int) rm11_span [.ref (w.2.2.1 0), .int n_a, .int (b2i most_a)] σ (om (fun v => some (.int v)) r) 1 6 := zX_of rfl hi (Nat.le_of_ble_eq_true rfl) (fun Θ hl hw C het => by
  obtain ⟨Θ1, Θ2, Θ3, Θ4, Θ5⟩ := Θ
  cases hw
  cases hl
  exact p11_span C hkd hlt het  hf rfl)
/-! LastLoaf$Log.read -/
theorem w_8_7 : Cond.methodLink "LastLoaf$Log" (34 : Nat) ({ cls := "java/lang/Math", name := "floorMod", desc := "(II)I" } : MethodName) ∈ TB := tb_in (lwt_8 (List.mem_of_getElem? (i := 7) (by decide +kernel))) rfl
theorem dX3_read_0 : decode cX3_read 0 = .ok (.iload_n 1, 1) := by decide +kernel
theorem dX3_read_1 : decode cX3_read 1 = .ok (.ifCond .lt 20, 3) := by decide +kernel
theorem dX3_read_4 : decode cX3_read 4 = .ok (.iload_n 1, 1) := by decide +kernel
theorem dX3_read_5 : decode cX3_read 5 = .ok (.aload_n 0, 1) := by decide +kernel
theorem dX3_read_6 : decode cX3_read 6 = .ok (.getfield 15, 3) := by decide +kernel
theorem dX3_read_9 : decode cX3_read 9 = .ok (.if_icmp .ge 12, 3) := by decide +kernel
theorem dX3_read_12 : decode cX3_read 12 = .ok (.iload_n 2, 1) := by decide +kernel
theorem dX3_read_13 : decode cX3_read 13 = .ok (.ifCond .lt 8, 3) := by decide +kernel
theorem dX3_read_16 : decode cX3_read 16 = .ok (.iload_n 2, 1) := by decide +kernel
theorem dX3_read_17 : decode cX3_read 17 = .ok (.iconst 4, 1) := by decide +kernel
theorem dX3_read_18 : decode cX3_read 18 = .ok (.if_icmp .lt 5, 3) := by decide +kernel
theorem dX3_read_21 : decode cX3_read 21 = .ok (.iconst (-1), 1) := by decide +kernel
theorem dX3_read_22 : decode cX3_read 22 = .ok (.ireturn, 1) := by decide +kernel
theorem dX3_read_23 : decode cX3_read 23 = .ok (.aload_n 0, 1) := by decide +kernel
theorem dX3_read_24 : decode cX3_read 24 = .ok (.getfield 19, 3) := by decide +kernel
theorem dX3_read_27 : decode cX3_read 27 = .ok (.iconst 1, 1) := by decide +kernel
theorem dX3_read_28 : decode cX3_read 28 = .ok (.isub, 1) := by decide +kernel
theorem dX3_read_29 : decode cX3_read 29 = .ok (.iload_n 1, 1) := by decide +kernel
theorem dX3_read_30 : decode cX3_read 30 = .ok (.isub, 1) := by decide +kernel
theorem dX3_read_31 : decode cX3_read 31 = .ok (.bipush 60, 2) := by decide +kernel
theorem dX3_read_33 : decode cX3_read 33 = .ok (.invokestatic 34, 3) := by decide +kernel
theorem dX3_read_36 : decode cX3_read 36 = .ok (.istore_n 3, 1) := by decide +kernel
theorem dX3_read_37 : decode cX3_read 37 = .ok (.aload_n 0, 1) := by decide +kernel
theorem dX3_read_38 : decode cX3_read 38 = .ok (.getfield 9, 3) := by decide +kernel
theorem dX3_read_41 : decode cX3_read 41 = .ok (.iload_n 3, 1) := by decide +kernel
theorem dX3_read_42 : decode cX3_read 42 = .ok (.iconst 4, 1) := by decide +kernel
theorem dX3_read_43 : decode cX3_read 43 = .ok (.imul, 1) := by decide +kernel
theorem dX3_read_44 : decode cX3_read 44 = .ok (.iload_n 2, 1) := by decide +kernel
theorem dX3_read_45 : decode cX3_read 45 = .ok (.iadd, 1) := by decide +kernel
theorem dX3_read_46 : decode cX3_read 46 = .ok (.iaload, 1) := by decide +kernel
theorem dX3_read_47 : decode cX3_read 47 = .ok (.ireturn, 1) := by decide +kernel
def q3_read (σ : St) (th : Nat) (ago_a : Int32) (column_a : Int32) : Option Int32 :=
  if (((ago_a < 0) ∨ ((σ th 1) ≤ ago_a)) ∨ (column_a < 0)) ∨ (4 ≤ column_a) then (some (-1)) else
  lt (fmod (((σ th 2) - 1) - ago_a) 60) fun row8_ =>
  Option.bind (ag σ (th + 1) 240 ((row8_ * 4) + column_a)) fun x10_ =>
  some x10_
abbrev rm3_read : Room := { frames := 1, cells := 0, slots := 0, locals := 22 }
set_option maxHeartbeats 4000000 in
set_option maxRecDepth 100000 in
theorem p3_read {Θ : Tz} {σ : St} {ρ : Option Value × St} (C : Zc Θ cX3_read 4 RX3 (some .int) rm3_read) (hkd : Θ.2.2.2.2.1 = kdC) {th : Nat} {ago_a : Int32} {column_a : Int32} (hth : isLog th) {r : Int32} (hf : q3_read σ th ago_a column_a = some r) (hρ : ρ = (some (.int r), σ)) : Z Θ 4 0 0 (zQ Θ ρ) σ 0 [(0, .ref (zA Θ th)), (1, .int ago_a), (2, .int column_a)] [] := by
  unfold q3_read at hf
  have K1_ : (((ago_a < 0) ∨ ((σ th 1) ≤ ago_a)) ∨ (column_a < 0)) ∨ (4 ≤ column_a) → Z Θ 4 0 0 (zQ Θ ρ) σ 21 [(0, .ref (zA Θ th)), (1, .int ago_a), (2, .int column_a)] [] := by
    intro h7_
    rw [if_pos h7_] at hf
    refine z_iconst (v := (-1)) C dX3_read_21 ic_m1 ?_
    cases hf
    subst hρ
    exact z_iret C dX3_read_22
  suffices K2_ : ¬ ((((ago_a < 0) ∨ ((σ th 1) ≤ ago_a)) ∨ (column_a < 0)) ∨ (4 ≤ column_a)) → Z Θ 4 0 0 (zQ Θ ρ) σ 23 [(0, .ref (zA Θ th)), (1, .int ago_a), (2, .int column_a)] [] by
    refine z_iload_n C 1 dX3_read_0 rfl rfl ?_
    refine c0_lt_t C 21 dX3_read_1 (by decide) (fun h3_ => ?_) (fun h3_ => ?_)
    · exact K1_ (Or.inl (Or.inl (Or.inl h3_)))
    · refine z_iload_n C 1 dX3_read_4 rfl rfl ?_
      refine z_aload_n C 0 dX3_read_5 rfl rfl ?_
      refine fg3_15 C hkd hth dX3_read_6 ?_
      refine c_ge_t C 21 dX3_read_9 (by decide) (fun h4_ => ?_) (fun h4_ => ?_)
      · exact K1_ (Or.inl (Or.inl (Or.inr h4_)))
      · refine z_iload_n C 2 dX3_read_12 rfl rfl ?_
        refine c0_lt_t C 21 dX3_read_13 (by decide) (fun h5_ => ?_) (fun h5_ => ?_)
        · exact K1_ (Or.inl (Or.inr h5_))
        · refine z_iload_n C 2 dX3_read_16 rfl rfl ?_
          refine z_iconst (v := 4) C dX3_read_17 ic_4 ?_
          refine c_ge_f C 23 dX3_read_18 (by decide) (fun h6_ => ?_) (fun h6_ => ?_)
          · exact K1_ (Or.inr h6_)
          · exact K2_ (fun n => n.elim (fun n => n.elim (fun n => n.elim h3_ h4_) h5_) h6_)
  intro h7_
  rw [if_neg h7_] at hf
  refine z_aload_n C 0 dX3_read_23 rfl rfl ?_
  refine fg3_19 C hkd hth dX3_read_24 ?_
  refine z_iconst (v := 1) C dX3_read_27 ic_1 ?_
  refine z_isub C dX3_read_28 ?_
  refine z_iload_n C 1 dX3_read_29 rfl rfl ?_
  refine z_isub C dX3_read_30 ?_
  refine z_bipush (v := 60) C dX3_read_31 bp_60 ?_
  refine z_callS C [.int (((σ th 2) - 1) - ago_a), .int 60] (some (.int (fmod (((σ th 2) - 1) - ago_a) 60)), σ) 2 (cJ_floorMod (zc_inj C) (by decide)) w_3_127 w_8_7 w_3_126 w_1_28 ⟨rfl, rfl, (Nat.le_of_ble_eq_true rfl), (Nat.le_of_ble_eq_true rfl)⟩ (by decide +kernel) rfl rfl (Nat.le_of_ble_eq_true rfl) ⟨Nat.zero_le _, Nat.zero_le _⟩ dX3_read_33 ?_
  obtain ⟨row8_, h9_, hf⟩ := lt_ hf
  refine z_istN C dX3_read_36 h9_ rfl (Nat.le_of_ble_eq_true rfl) rfl ?_
  refine z_aload_n C 1 dX3_read_37 rfl rfl ?_
  refine fg3_9 C hkd hth dX3_read_38 ?_
  refine z_iload_n C 0 dX3_read_41 rfl rfl ?_
  refine z_iconst (v := 4) C dX3_read_42 ic_4 ?_
  refine z_imul C dX3_read_43 ?_
  refine z_iload_n C 3 dX3_read_44 rfl rfl ?_
  refine z_iadd C dX3_read_45 ?_
  obtain ⟨x10_, h11_, hf⟩ := ob hf
  refine z_ag C h11_ (kLog_1 hkd hth) dX3_read_46 ?_
  cases hf
  subst hρ
  exact z_iret C dX3_read_47
theorem c3_read {l : Launch} {kd : List KD} {w : Wp} {σ : St} {th : Nat} {ago_a : Int32} {column_a : Int32} (hkd : kd = kdC) (hi : zI kd w) (hth : isLog th) {r : Int32} (hf : q3_read σ th ago_a column_a = some r) : zM l kd w yX3_read cX3_read 4 (some .int) rm3_read [.ref (w.2.2.1 th), .int ago_a, .int column_a] σ (some (.int r), σ) := zM_of rfl hi (Nat.le_of_ble_eq_true rfl) (fun Θ hl hw C => by
  obtain ⟨Θ1, Θ2, Θ3, Θ4, Θ5⟩ := Θ
  cases hw
  exact p3_read C hkd hth hf rfl)
/-! LastLoaf$Log.latestWeekOf -/
theorem w_8_6 : Cond.code ({ cls := "LastLoaf$Log", name := "read", desc := "(II)I" } : MethodName) prog_5_method_4_code (4 : Nat) (Option.some ClassFile.FieldType.int) ∈ TB := tb_in (lwt_8 (List.mem_of_getElem? (i := 6) (by decide +kernel))) rfl
theorem w_8_3 : Cond.methodLink "LastLoaf$Log" (37 : Nat) ({ cls := "LastLoaf$Log", name := "read", desc := "(II)I" } : MethodName) ∈ TB := tb_in (lwt_8 (List.mem_of_getElem? (i := 3) (by decide +kernel))) rfl
theorem w_8_4 : Cond.instanceMethod ({ cls := "LastLoaf$Log", name := "read", desc := "(II)I" } : MethodName) ∈ TB := tb_in (lwt_8 (List.mem_of_getElem? (i := 4) (by decide +kernel))) rfl
theorem w_8_5 : Cond.selects "LastLoaf$Log" ({ cls := "LastLoaf$Log", name := "read", desc := "(II)I" } : MethodName) ({ cls := "LastLoaf$Log", name := "read", desc := "(II)I" } : MethodName) ∈ TB := tb_in (lwt_8 (List.mem_of_getElem? (i := 5) (by decide +kernel))) rfl
theorem cr3_37 {Θ : Tz} {cc : ByteArray} {nL kc ks : Nat} {ret : Option FieldType} {rm : Room} {Q : State → Prop} {σ : St} {pc : Nat} {lv : List (Nat × Value)} {st : List Value} (C : Zc Θ cc nL RX3 ret rm) (hkd : Θ.2.2.2.2.1 = kdC) {th : Nat} {ago_a : Int32} {column_a : Int32} (hth : isLog th) {r : Int32} (hx : q3_read σ th ago_a column_a = some r) (hrm : rm3_read.frames + 1 ≤ rm.frames ∧ 8 + (4 + 11) + rm3_read.locals ≤ rm.locals) (hcat : (st.map fun v => v.category).sum ≤ 8) (hk : kc ≤ rm.cells ∧ ks ≤ rm.slots) (hd : decode cc pc = .ok (.invokevirtual 37, 3)) (kk : Z Θ nL kc ks Q σ (pc + 3) lv (.int r :: st)) : Z Θ nL kc ks Q σ pc lv (.int column_a :: .int ago_a :: .ref (zA Θ th) :: st) := z_callV C th [.int ago_a, .int column_a] (some (.int r), σ) 2 (kLog_0 hkd hth) rfl (c3_read (th := th) (ago_a := ago_a) (column_a := column_a) hkd (zc_inj C) hth hx) w_8_6 w_8_3 w_8_4 w_8_5 w_1_4 ⟨rfl, rfl, hrm.1, hrm.2⟩ (by decide +kernel) rfl rfl hcat hk hd kk
theorem dX3_latestWeekOf_0 : decode cX3_latestWeekOf 0 = .ok (.iconst 0, 1) := by decide +kernel
theorem dX3_latestWeekOf_1 : decode cX3_latestWeekOf 1 = .ok (.istore_n 2, 1) := by decide +kernel
theorem dX3_latestWeekOf_2 : decode cX3_latestWeekOf 2 = .ok (.iload_n 2, 1) := by decide +kernel
theorem dX3_latestWeekOf_3 : decode cX3_latestWeekOf 3 = .ok (.aload_n 0, 1) := by decide +kernel
theorem dX3_latestWeekOf_4 : decode cX3_latestWeekOf 4 = .ok (.getfield 15, 3) := by decide +kernel
theorem dX3_latestWeekOf_7 : decode cX3_latestWeekOf 7 = .ok (.if_icmp .ge 26, 3) := by decide +kernel
theorem dX3_latestWeekOf_10 : decode cX3_latestWeekOf 10 = .ok (.aload_n 0, 1) := by decide +kernel
theorem dX3_latestWeekOf_11 : decode cX3_latestWeekOf 11 = .ok (.iload_n 2, 1) := by decide +kernel
theorem dX3_latestWeekOf_12 : decode cX3_latestWeekOf 12 = .ok (.iconst 2, 1) := by decide +kernel
theorem dX3_latestWeekOf_13 : decode cX3_latestWeekOf 13 = .ok (.invokevirtual 37, 3) := by decide +kernel
theorem dX3_latestWeekOf_16 : decode cX3_latestWeekOf 16 = .ok (.iload_n 1, 1) := by decide +kernel
theorem dX3_latestWeekOf_17 : decode cX3_latestWeekOf 17 = .ok (.if_icmp .ne 10, 3) := by decide +kernel
theorem dX3_latestWeekOf_20 : decode cX3_latestWeekOf 20 = .ok (.aload_n 0, 1) := by decide +kernel
theorem dX3_latestWeekOf_21 : decode cX3_latestWeekOf 21 = .ok (.iload_n 2, 1) := by decide +kernel
theorem dX3_latestWeekOf_22 : decode cX3_latestWeekOf 22 = .ok (.iconst 0, 1) := by decide +kernel
theorem dX3_latestWeekOf_23 : decode cX3_latestWeekOf 23 = .ok (.invokevirtual 37, 3) := by decide +kernel
theorem dX3_latestWeekOf_26 : decode cX3_latestWeekOf 26 = .ok (.ireturn, 1) := by decide +kernel
theorem dX3_latestWeekOf_27 : decode cX3_latestWeekOf 27 = .ok (.iinc 2 1, 3) := by decide +kernel
theorem dX3_latestWeekOf_30 : decode cX3_latestWeekOf 30 = .ok (.goto (-28), 3) := by decide +kernel
theorem dX3_latestWeekOf_33 : decode cX3_latestWeekOf 33 = .ok (.iconst (-1), 1) := by decide +kernel
theorem dX3_latestWeekOf_34 : decode cX3_latestWeekOf 34 = .ok (.ireturn, 1) := by decide +kernel
def q3_latestWeekOf (σ : St) (th : Nat) (person_a : Int32) : Option Int32 :=
  Option.bind (loop1 (fun rec4_ (ago7_ : Int32) =>
  if ago7_ < (σ th 1) then
  Option.bind (q3_read σ th ago7_ 2) fun x16_ =>
  if x16_ = person_a then (Option.bind (q3_read σ th ago7_ 0) fun x20_ =>
  some (.inl x20_)) else
  lt (ago7_ + 1) fun ago22_ =>
  rec4_ ago22_
  else (some (.inr ago7_))) fuelN (0 : Int32)) fun y1_ =>
  Sum.elim (fun x9 => some x9) (fun y1_r =>
  some (-1)) y1_
abbrev rm3_latestWeekOf : Room := { frames := 2, cells := 0, slots := 0, locals := 45 }
set_option maxHeartbeats 4000000 in
set_option maxRecDepth 100000 in
theorem p3_latestWeekOf {Θ : Tz} {σ : St} {ρ : Option Value × St} (C : Zc Θ cX3_latestWeekOf 3 RX3 (some .int) rm3_latestWeekOf) (hkd : Θ.2.2.2.2.1 = kdC) {th : Nat} {person_a : Int32} (hth : isLog th) {r : Int32} (hf : q3_latestWeekOf σ th person_a = some r) (hρ : ρ = (some (.int r), σ)) : Z Θ 3 0 0 (zQ Θ ρ) σ 0 [(0, .ref (zA Θ th)), (1, .int person_a)] [] := by
  unfold q3_latestWeekOf at hf
  refine z_iconst (v := 0) C dX3_latestWeekOf_0 ic_0 ?_
  refine z_istN C dX3_latestWeekOf_1 rfl rfl (Nat.le_of_ble_eq_true rfl) rfl ?_
  refine Z.sub [1, 2, 0] rfl ?_
  obtain ⟨y1_, h2_, hf⟩ := ob hf
  suffices K3_ : ∀ y1_r, y1_ = .inr y1_r → Z Θ 3 0 0 (zQ Θ ρ) σ 33 [(0, .ref (zA Θ th)), (1, .int person_a), (2, .int y1_r)] [] by
    refine loop1_Z (P := fun (ago7_ : Int32) => Z Θ 3 0 0 (zQ Θ ρ) σ 2 [(0, .ref (zA Θ th)), (1, .int person_a), (2, .int ago7_)] []) ?_ fuelN (0 : Int32) h2_
    clear h2_
    intro rec4_ ago7_ h5_ h6_
    have K10_ : ago7_ < (σ th 1) → Z Θ 3 0 0 (zQ Θ ρ) σ 10 [(0, .ref (zA Θ th)), (1, .int person_a), (2, .int ago7_)] [] := by
      intro h13_
      rw [if_pos h13_] at h6_
      refine z_aload_n C 0 dX3_latestWeekOf_10 rfl rfl ?_
      refine z_iload_n C 2 dX3_latestWeekOf_11 rfl rfl ?_
      refine z_iconst (v := 2) C dX3_latestWeekOf_12 ic_2 ?_
      obtain ⟨x16_, h17_, h6_⟩ := ob h6_
      refine cr3_37 (th := th) (ago_a := ago7_) (column_a := 2) C hkd hth h17_ ⟨(Nat.le_of_ble_eq_true rfl), (Nat.le_of_ble_eq_true rfl)⟩ (Nat.le_of_ble_eq_true rfl) ⟨Nat.zero_le _, Nat.zero_le _⟩ dX3_latestWeekOf_13 ?_
      refine z_iload_n C 1 dX3_latestWeekOf_16 rfl rfl ?_
      have K14_ : x16_ = person_a → Z Θ 3 0 0 (zQ Θ ρ) σ 20 [(0, .ref (zA Θ th)), (1, .int person_a), (2, .int ago7_)] [] := by
        intro h19_
        rw [if_pos h19_] at h6_
        refine z_aload_n C 0 dX3_latestWeekOf_20 rfl rfl ?_
        refine z_iload_n C 2 dX3_latestWeekOf_21 rfl rfl ?_
        refine z_iconst (v := 0) C dX3_latestWeekOf_22 ic_0 ?_
        obtain ⟨x20_, h21_, h6_⟩ := ob h6_
        refine cr3_37 (th := th) (ago_a := ago7_) (column_a := 0) C hkd hth h21_ ⟨(Nat.le_of_ble_eq_true rfl), (Nat.le_of_ble_eq_true rfl)⟩ (Nat.le_of_ble_eq_true rfl) ⟨Nat.zero_le _, Nat.zero_le _⟩ dX3_latestWeekOf_23 ?_
        rw [← Option.some.inj h6_] at hf
        replace hf : some x20_ = some r := hf
        cases hf
        subst hρ
        exact z_iret C dX3_latestWeekOf_26
      suffices K15_ : ¬ (x16_ = person_a) → Z Θ 3 0 0 (zQ Θ ρ) σ 27 [(0, .ref (zA Θ th)), (1, .int person_a), (2, .int ago7_)] [] by
        refine c_eq_f C 27 dX3_latestWeekOf_17 (by decide) (fun h18_ => ?_) (fun h18_ => ?_)
        · exact K14_ h18_
        · exact K15_ h18_
      intro h19_
      rw [if_neg h19_] at h6_
      obtain ⟨ago22_, h23_, h6_⟩ := lt_ h6_
      refine z_inc C 2 dX3_latestWeekOf_27 rfl ic_1 h23_ (Nat.le_of_ble_eq_true rfl) rfl ?_
      refine z_goto C 2 dX3_latestWeekOf_30 (by decide) ?_
      refine Z.sub [1, 2, 0] rfl ?_
      exact h5_ _ h6_
    have K11_ : ¬ (ago7_ < (σ th 1)) → Z Θ 3 0 0 (zQ Θ ρ) σ 33 [(0, .ref (zA Θ th)), (1, .int person_a), (2, .int ago7_)] [] := by
      intro h13_
      rw [if_neg h13_] at h6_
      exact K3_ _ (Option.some.inj h6_).symm
    refine z_iload_n C 2 dX3_latestWeekOf_2 rfl rfl ?_
    refine z_aload_n C 0 dX3_latestWeekOf_3 rfl rfl ?_
    refine fg3_15 C hkd hth dX3_latestWeekOf_4 ?_
    refine c_lt_f C 33 dX3_latestWeekOf_7 (by decide) (fun h12_ => ?_) (fun h12_ => ?_)
    · exact K10_ h12_
    · exact K11_ h12_
  intro y1_r e9
  subst e9
  simp only [Sum.elim_inr] at hf
  refine z_iconst (v := (-1)) C dX3_latestWeekOf_33 ic_m1 ?_
  cases hf
  subst hρ
  exact z_iret C dX3_latestWeekOf_34
theorem c3_latestWeekOf {l : Launch} {kd : List KD} {w : Wp} {σ : St} {th : Nat} {person_a : Int32} (hkd : kd = kdC) (hi : zI kd w) (hth : isLog th) {r : Int32} (hf : q3_latestWeekOf σ th person_a = some r) : zM l kd w yX3_latestWeekOf cX3_latestWeekOf 3 (some .int) rm3_latestWeekOf [.ref (w.2.2.1 th), .int person_a] σ (some (.int r), σ) := zM_of rfl hi (Nat.le_of_ble_eq_true rfl) (fun Θ hl hw C => by
  obtain ⟨Θ1, Θ2, Θ3, Θ4, Θ5⟩ := Θ
  cases hw
  exact p3_latestWeekOf C hkd hth hf rfl)
/-! LastLoaf$Log.rowsOf -/
theorem dX3_rowsOf_0 : decode cX3_rowsOf 0 = .ok (.iconst 0, 1) := by decide +kernel
theorem dX3_rowsOf_1 : decode cX3_rowsOf 1 = .ok (.istore_n 2, 1) := by decide +kernel
theorem dX3_rowsOf_2 : decode cX3_rowsOf 2 = .ok (.iconst 0, 1) := by decide +kernel
theorem dX3_rowsOf_3 : decode cX3_rowsOf 3 = .ok (.istore_n 3, 1) := by decide +kernel
theorem dX3_rowsOf_4 : decode cX3_rowsOf 4 = .ok (.iload_n 3, 1) := by decide +kernel
theorem dX3_rowsOf_5 : decode cX3_rowsOf 5 = .ok (.aload_n 0, 1) := by decide +kernel
theorem dX3_rowsOf_6 : decode cX3_rowsOf 6 = .ok (.getfield 15, 3) := by decide +kernel
theorem dX3_rowsOf_9 : decode cX3_rowsOf 9 = .ok (.if_icmp .ge 22, 3) := by decide +kernel
theorem dX3_rowsOf_12 : decode cX3_rowsOf 12 = .ok (.aload_n 0, 1) := by decide +kernel
theorem dX3_rowsOf_13 : decode cX3_rowsOf 13 = .ok (.iload_n 3, 1) := by decide +kernel
theorem dX3_rowsOf_14 : decode cX3_rowsOf 14 = .ok (.iconst 2, 1) := by decide +kernel
theorem dX3_rowsOf_15 : decode cX3_rowsOf 15 = .ok (.invokevirtual 37, 3) := by decide +kernel
theorem dX3_rowsOf_18 : decode cX3_rowsOf 18 = .ok (.iload_n 1, 1) := by decide +kernel
theorem dX3_rowsOf_19 : decode cX3_rowsOf 19 = .ok (.if_icmp .ne 6, 3) := by decide +kernel
theorem dX3_rowsOf_22 : decode cX3_rowsOf 22 = .ok (.iinc 2 1, 3) := by decide +kernel
theorem dX3_rowsOf_25 : decode cX3_rowsOf 25 = .ok (.iinc 3 1, 3) := by decide +kernel
theorem dX3_rowsOf_28 : decode cX3_rowsOf 28 = .ok (.goto (-24), 3) := by decide +kernel
theorem dX3_rowsOf_31 : decode cX3_rowsOf 31 = .ok (.iload_n 2, 1) := by decide +kernel
theorem dX3_rowsOf_32 : decode cX3_rowsOf 32 = .ok (.ireturn, 1) := by decide +kernel
def q3_rowsOf (σ : St) (th : Nat) (person_a : Int32) : Option Int32 :=
  Option.bind (loop2 (fun rec4_ (rows7_ : Int32) (ago8_ : Int32) =>
  if ago8_ < (σ th 1) then
  Option.bind (Option.bind (q3_read σ th ago8_ 2) fun x20_ =>
  if x20_ = person_a then (lt (rows7_ + 1) fun rows24_ =>
  some (rows24_)) else (some (rows7_))) fun y15_ =>
  lt (ago8_ + 1) fun ago26_ =>
  rec4_ y15_ ago26_
  else (some (rows7_, ago8_))) fuelN (0 : Int32) (0 : Int32)) fun y1_ =>
  some y1_.1
abbrev rm3_rowsOf : Room := { frames := 2, cells := 0, slots := 0, locals := 45 }
set_option maxHeartbeats 4000000 in
set_option maxRecDepth 100000 in
theorem p3_rowsOf {Θ : Tz} {σ : St} {ρ : Option Value × St} (C : Zc Θ cX3_rowsOf 4 RX3 (some .int) rm3_rowsOf) (hkd : Θ.2.2.2.2.1 = kdC) {th : Nat} {person_a : Int32} (hth : isLog th) {r : Int32} (hf : q3_rowsOf σ th person_a = some r) (hρ : ρ = (some (.int r), σ)) : Z Θ 4 0 0 (zQ Θ ρ) σ 0 [(0, .ref (zA Θ th)), (1, .int person_a)] [] := by
  unfold q3_rowsOf at hf
  refine z_iconst (v := 0) C dX3_rowsOf_0 ic_0 ?_
  refine z_istN C dX3_rowsOf_1 rfl rfl (Nat.le_of_ble_eq_true rfl) rfl ?_
  refine z_iconst (v := 0) C dX3_rowsOf_2 ic_0 ?_
  refine z_istN C dX3_rowsOf_3 rfl rfl (Nat.le_of_ble_eq_true rfl) rfl ?_
  refine Z.sub [2, 3, 1, 0] rfl ?_
  obtain ⟨y1_, h2_, hf⟩ := ob hf
  suffices K3_ : Z Θ 4 0 0 (zQ Θ ρ) σ 31 [(0, .ref (zA Θ th)), (1, .int person_a), (2, .int y1_.1), (3, .int y1_.2)] [] by
    refine loop2_Z (P := fun (rows7_ : Int32) (ago8_ : Int32) => Z Θ 4 0 0 (zQ Θ ρ) σ 4 [(0, .ref (zA Θ th)), (1, .int person_a), (2, .int rows7_), (3, .int ago8_)] []) ?_ fuelN (0 : Int32) (0 : Int32) h2_
    clear h2_
    intro rec4_ rows7_ ago8_ h5_ h6_
    have K11_ : ago8_ < (σ th 1) → Z Θ 4 0 0 (zQ Θ ρ) σ 12 [(0, .ref (zA Θ th)), (1, .int person_a), (2, .int rows7_), (3, .int ago8_)] [] := by
      intro h14_
      rw [if_pos h14_] at h6_
      obtain ⟨y15_, h16_, h6_⟩ := ob h6_
      suffices K17_ : Z Θ 4 0 0 (zQ Θ ρ) σ 25 [(0, .ref (zA Θ th)), (1, .int person_a), (2, .int y15_), (3, .int ago8_)] [] by
        refine z_aload_n C 0 dX3_rowsOf_12 rfl rfl ?_
        refine z_iload_n C 3 dX3_rowsOf_13 rfl rfl ?_
        refine z_iconst (v := 2) C dX3_rowsOf_14 ic_2 ?_
        obtain ⟨x20_, h21_, h16_⟩ := ob h16_
        refine cr3_37 (th := th) (ago_a := ago8_) (column_a := 2) C hkd hth h21_ ⟨(Nat.le_of_ble_eq_true rfl), (Nat.le_of_ble_eq_true rfl)⟩ (Nat.le_of_ble_eq_true rfl) ⟨Nat.zero_le _, Nat.zero_le _⟩ dX3_rowsOf_15 ?_
        refine z_iload_n C 1 dX3_rowsOf_18 rfl rfl ?_
        have K18_ : x20_ = person_a → Z Θ 4 0 0 (zQ Θ ρ) σ 22 [(0, .ref (zA Θ th)), (1, .int person_a), (2, .int rows7_), (3, .int ago8_)] [] := by
          intro h23_
          rw [if_pos h23_] at h16_
          obtain ⟨rows24_, h25_, h16_⟩ := lt_ h16_
          refine z_inc C 2 dX3_rowsOf_22 rfl ic_1 h25_ (Nat.le_of_ble_eq_true rfl) rfl ?_
          cases h16_
          refine Z.sub [1, 2, 0, 3] rfl ?_
          exact K17_
        have K19_ : ¬ (x20_ = person_a) → Z Θ 4 0 0 (zQ Θ ρ) σ 25 [(0, .ref (zA Θ th)), (1, .int person_a), (2, .int rows7_), (3, .int ago8_)] [] := by
          intro h23_
          rw [if_neg h23_] at h16_
          cases h16_
          exact K17_
        refine c_eq_f C 25 dX3_rowsOf_19 (by decide) (fun h22_ => ?_) (fun h22_ => ?_)
        · exact K18_ h22_
        · exact K19_ h22_
      obtain ⟨ago26_, h27_, h6_⟩ := lt_ h6_
      refine z_inc C 3 dX3_rowsOf_25 rfl ic_1 h27_ (Nat.le_of_ble_eq_true rfl) rfl ?_
      refine z_goto C 4 dX3_rowsOf_28 (by decide) ?_
      refine Z.sub [1, 2, 3, 0] rfl ?_
      exact h5_ _ _ h6_
    have K12_ : ¬ (ago8_ < (σ th 1)) → Z Θ 4 0 0 (zQ Θ ρ) σ 31 [(0, .ref (zA Θ th)), (1, .int person_a), (2, .int rows7_), (3, .int ago8_)] [] := by
      intro h14_
      rw [if_neg h14_] at h6_
      cases h6_
      exact K3_
    refine z_iload_n C 3 dX3_rowsOf_4 rfl rfl ?_
    refine z_aload_n C 0 dX3_rowsOf_5 rfl rfl ?_
    refine fg3_15 C hkd hth dX3_rowsOf_6 ?_
    refine c_lt_f C 31 dX3_rowsOf_9 (by decide) (fun h13_ => ?_) (fun h13_ => ?_)
    · exact K11_ h13_
    · exact K12_ h13_
  refine z_iload_n C 2 dX3_rowsOf_31 rfl rfl ?_
  cases hf
  subst hρ
  exact z_iret C dX3_rowsOf_32
theorem c3_rowsOf {l : Launch} {kd : List KD} {w : Wp} {σ : St} {th : Nat} {person_a : Int32} (hkd : kd = kdC) (hi : zI kd w) (hth : isLog th) {r : Int32} (hf : q3_rowsOf σ th person_a = some r) : zM l kd w yX3_rowsOf cX3_rowsOf 4 (some .int) rm3_rowsOf [.ref (w.2.2.1 th), .int person_a] σ (some (.int r), σ) := zM_of rfl hi (Nat.le_of_ble_eq_true rfl) (fun Θ hl hw C => by
  obtain ⟨Θ1, Θ2, Θ3, Θ4, Θ5⟩ := Θ
  cases hw
  exact p3_rowsOf C hkd hth hf rfl)
/-! LastLoaf.led -/
theorem w_1_122 : Cond.fieldLink "LastLoaf" (426 : Nat) "LastLoaf$Village" "rows" "LLastLoaf$Log;" ∈ TB := tb_in (lwt_1 (List.mem_of_getElem? (i := 122) (by decide +kernel))) rfl
theorem fg11_426 {Θ : Tz} {cc : ByteArray} {nL kc ks : Nat} {ret : Option FieldType} {rm : Room} {Q : State → Prop} {σ : St} {pc : Nat} {lv : List (Nat × Value)} {st : List Value} (C : Zc Θ cc nL RX11 ret rm) (hkd : Θ.2.2.2.2.1 = kdC) {th : Nat} (hth : isV th) (hd : decode cc pc = .ok (.getfield 426, 3)) (kk : Z Θ nL kc ks Q σ (pc + 3) lv (.ref (zA Θ (th + 8)) :: st)) : Z Θ nL kc ks Q σ pc lv (.ref (zA Θ th) :: st) := z_get C inT10 th (kV_0 hkd hth) rfl 7 (by decide) w_1_122 rfl hd kk
theorem w_8_2 : Cond.code ({ cls := "LastLoaf$Log", name := "latestWeekOf", desc := "(I)I" } : MethodName) prog_5_method_6_code (3 : Nat) (Option.some ClassFile.FieldType.int) ∈ TB := tb_in (lwt_8 (List.mem_of_getElem? (i := 2) (by decide +kernel))) rfl
theorem w_7_239 : Cond.methodLink "LastLoaf" (430 : Nat) ({ cls := "LastLoaf$Log", name := "latestWeekOf", desc := "(I)I" } : MethodName) ∈ TB := tb_in (lwt_7 (List.mem_of_getElem? (i := 239) (by decide +kernel))) rfl
theorem w_8_0 : Cond.instanceMethod ({ cls := "LastLoaf$Log", name := "latestWeekOf", desc := "(I)I" } : MethodName) ∈ TB := tb_in (lwt_8 (List.mem_of_getElem? (i := 0) (by decide +kernel))) rfl
theorem w_8_1 : Cond.selects "LastLoaf$Log" ({ cls := "LastLoaf$Log", name := "latestWeekOf", desc := "(I)I" } : MethodName) ({ cls := "LastLoaf$Log", name := "latestWeekOf", desc := "(I)I" } : MethodName) ∈ TB := tb_in (lwt_8 (List.mem_of_getElem? (i := 1) (by decide +kernel))) rfl
theorem cr11_430 {Θ : Tz} {cc : ByteArray} {nL kc ks : Nat} {ret : Option FieldType} {rm : Room} {Q : State → Prop} {σ : St} {pc : Nat} {lv : List (Nat × Value)} {st : List Value} (C : Zc Θ cc nL RX11 ret rm) (hkd : Θ.2.2.2.2.1 = kdC) {th : Nat} {person_a : Int32} (hth : isLog th) {r : Int32} (hx : q3_latestWeekOf σ th person_a = some r) (hrm : rm3_latestWeekOf.frames + 1 ≤ rm.frames ∧ 8 + (3 + 11) + rm3_latestWeekOf.locals ≤ rm.locals) (hcat : (st.map fun v => v.category).sum ≤ 8) (hk : kc ≤ rm.cells ∧ ks ≤ rm.slots) (hd : decode cc pc = .ok (.invokevirtual 430, 3)) (kk : Z Θ nL kc ks Q σ (pc + 3) lv (.int r :: st)) : Z Θ nL kc ks Q σ pc lv (.int person_a :: .ref (zA Θ th) :: st) := z_callV C th [.int person_a] (some (.int r), σ) 1 (kLog_0 hkd hth) rfl (c3_latestWeekOf (th := th) (person_a := person_a) hkd (zc_inj C) hth hx) w_8_2 w_7_239 w_8_0 w_8_1 w_1_4 ⟨rfl, rfl, hrm.1, hrm.2⟩ (by decide +kernel) rfl rfl hcat hk hd kk
theorem w_8_11 : Cond.code ({ cls := "LastLoaf$Log", name := "rowsOf", desc := "(I)I" } : MethodName) prog_5_method_5_code (4 : Nat) (Option.some ClassFile.FieldType.int) ∈ TB := tb_in (lwt_8 (List.mem_of_getElem? (i := 11) (by decide +kernel))) rfl
theorem w_8_8 : Cond.methodLink "LastLoaf" (435 : Nat) ({ cls := "LastLoaf$Log", name := "rowsOf", desc := "(I)I" } : MethodName) ∈ TB := tb_in (lwt_8 (List.mem_of_getElem? (i := 8) (by decide +kernel))) rfl
theorem w_8_9 : Cond.instanceMethod ({ cls := "LastLoaf$Log", name := "rowsOf", desc := "(I)I" } : MethodName) ∈ TB := tb_in (lwt_8 (List.mem_of_getElem? (i := 9) (by decide +kernel))) rfl
theorem w_8_10 : Cond.selects "LastLoaf$Log" ({ cls := "LastLoaf$Log", name := "rowsOf", desc := "(I)I" } : MethodName) ({ cls := "LastLoaf$Log", name := "rowsOf", desc := "(I)I" } : MethodName) ∈ TB := tb_in (lwt_8 (List.mem_of_getElem? (i := 10) (by decide +kernel))) rfl
theorem cr11_435 {Θ : Tz} {cc : ByteArray} {nL kc ks : Nat} {ret : Option FieldType} {rm : Room} {Q : State → Prop} {σ : St} {pc : Nat} {lv : List (Nat × Value)} {st : List Value} (C : Zc Θ cc nL RX11 ret rm) (hkd : Θ.2.2.2.2.1 = kdC) {th : Nat} {person_a : Int32} (hth : isLog th) {r : Int32} (hx : q3_rowsOf σ th person_a = some r) (hrm : rm3_rowsOf.frames + 1 ≤ rm.frames ∧ 8 + (4 + 11) + rm3_rowsOf.locals ≤ rm.locals) (hcat : (st.map fun v => v.category).sum ≤ 8) (hk : kc ≤ rm.cells ∧ ks ≤ rm.slots) (hd : decode cc pc = .ok (.invokevirtual 435, 3)) (kk : Z Θ nL kc ks Q σ (pc + 3) lv (.int r :: st)) : Z Θ nL kc ks Q σ pc lv (.int person_a :: .ref (zA Θ th) :: st) := z_callV C th [.int person_a] (some (.int r), σ) 1 (kLog_0 hkd hth) rfl (c3_rowsOf (th := th) (person_a := person_a) hkd (zc_inj C) hth hx) w_8_11 w_8_8 w_8_9 w_8_10 w_1_4 ⟨rfl, rfl, hrm.1, hrm.2⟩ (by decide +kernel) rfl rfl hcat hk hd kk
theorem dX11_led_0 : decode cX11_led 0 = .ok (.aload_n 0, 1) := by decide +kernel
theorem dX11_led_1 : decode cX11_led 1 = .ok (.iload_n 1, 1) := by decide +kernel
theorem dX11_led_2 : decode cX11_led 2 = .ok (.invokevirtual 151, 3) := by decide +kernel
theorem dX11_led_5 : decode cX11_led 5 = .ok (.iload_n 2, 1) := by decide +kernel
theorem dX11_led_6 : decode cX11_led 6 = .ok (.ifCond .eq 17, 3) := by decide +kernel
theorem dX11_led_9 : decode cX11_led 9 = .ok (.aload_n 0, 1) := by decide +kernel
theorem dX11_led_10 : decode cX11_led 10 = .ok (.getfield 19, 3) := by decide +kernel
theorem dX11_led_13 : decode cX11_led 13 = .ok (.getfield 426, 3) := by decide +kernel
theorem dX11_led_16 : decode cX11_led 16 = .ok (.iload_n 1, 1) := by decide +kernel
theorem dX11_led_17 : decode cX11_led 17 = .ok (.invokevirtual 430, 3) := by decide +kernel
theorem dX11_led_20 : decode cX11_led 20 = .ok (.goto 14, 3) := by decide +kernel
theorem dX11_led_23 : decode cX11_led 23 = .ok (.aload_n 0, 1) := by decide +kernel
theorem dX11_led_24 : decode cX11_led 24 = .ok (.getfield 19, 3) := by decide +kernel
theorem dX11_led_27 : decode cX11_led 27 = .ok (.getfield 426, 3) := by decide +kernel
theorem dX11_led_30 : decode cX11_led 30 = .ok (.iload_n 1, 1) := by decide +kernel
theorem dX11_led_31 : decode cX11_led 31 = .ok (.invokevirtual 435, 3) := by decide +kernel
theorem dX11_led_34 : decode cX11_led 34 = .ok (.ireturn, 1) := by decide +kernel
def q11_led (σ : St) (person_a : Int32) (week_a : Bool) : Option (Sum Nat Int32 × St) :=
  thn (q11_needPerson σ person_a) σ
  (Option.bind (if week_a = true then (Option.bind (q3_latestWeekOf σ (44 + 8) person_a) fun x9_ =>
  some x9_) else (Option.bind (q3_rowsOf σ (44 + 8) person_a) fun x11_ =>
  some x11_)) fun x3_ =>
  some (.inr x3_, σ))
abbrev rm11_led : Room := { frames := 7, cells := 1, slots := 6, locals := 111 }
set_option maxHeartbeats 4000000 in
set_option maxRecDepth 100000 in
theorem p11_led {Θ : Tz} {σ : St} {ω : Om} (C : Zc Θ cX11_led 3 RX11 (some .int) rm11_led) (hkd : Θ.2.2.2.2.1 = kdC) (hlt : Θ.1.2.1.stackTraces = false) (het : ∀ x ∈ Θ.2.2.1.2.exceptionTable.toList, False) {person_a : Int32} {week_a : Bool} {r : (Sum Nat Int32 × St)} (hf : q11_led σ person_a week_a = some r) (hω : ω = om (fun v => some (.int v)) r) : Z Θ 3 0 0 (zQX Θ ω 1 6) σ 0 [(0, .ref (zA Θ 0)), (1, .int person_a), (2, .int (b2i week_a))] [] := by
  unfold q11_led at hf
  refine z_aload_n C 0 dX11_led_0 rfl rfl ?_
  refine z_iload_n C 1 dX11_led_1 rfl rfl ?_
  refine zx_callV C het 0 [.int person_a] (q11_needPerson σ person_a) 1 6 1 (kC_0 hkd) rfl (c11_needPerson (person_a := person_a) hkd (zc_inj C) hlt) w_5_227 w_5_224 w_5_226 ws_LastLoaf_needPerson_I_V w_1_1 ⟨rfl, rfl, (Nat.le_of_ble_eq_true rfl), (Nat.le_of_ble_eq_true rfl)⟩ (by decide +kernel) rfl rfl (Nat.le_of_ble_eq_true rfl) ⟨(Nat.le_of_ble_eq_true rfl), (Nat.le_of_ble_eq_true rfl)⟩ dX11_led_2 ⟨(Nat.le_of_ble_eq_true rfl), (Nat.le_of_ble_eq_true rfl)⟩ (fun e9 h2_ => by rw [h2_] at hf; cases hf; exact hω) (fun h1_ => ?_)
  rw [h1_] at hf
  replace hf := thn_x hf
  obtain ⟨x3_, h4_, hf⟩ := ob hf
  suffices K5_ : Z Θ 3 1 6 (zQX Θ ω 1 6) σ 34 [(0, .ref (zA Θ 0)), (1, .int person_a), (2, .int (b2i week_a))] [.int x3_] by
    have K6_ : week_a = true → Z Θ 3 1 6 (zQX Θ ω 1 6) σ 9 [(0, .ref (zA Θ 0)), (1, .int person_a), (2, .int (b2i week_a))] [] := by
      intro h13_
      rw [if_pos h13_] at h4_
      refine z_aload_n C 0 dX11_led_9 rfl rfl ?_
      refine fg11_19 C hkd dX11_led_10 ?_
      refine fg11_426 C hkd isV_44 dX11_led_13 ?_
      refine z_iload_n C 1 dX11_led_16 rfl rfl ?_
      obtain ⟨x9_, h10_, h4_⟩ := ob h4_
      refine cr11_430 (th := (44 + 8)) (person_a := person_a) C hkd (isLog_of isV_44) h10_ ⟨(Nat.le_of_ble_eq_true rfl), (Nat.le_of_ble_eq_true rfl)⟩ (Nat.le_of_ble_eq_true rfl) ⟨(Nat.le_of_ble_eq_true rfl), (Nat.le_of_ble_eq_true rfl)⟩ dX11_led_17 ?_
      refine z_goto C 34 dX11_led_20 (by decide) ?_
      cases h4_
      exact K5_
    have K7_ : ¬ (week_a = true) → Z Θ 3 1 6 (zQX Θ ω 1 6) σ 23 [(0, .ref (zA Θ 0)), (1, .int person_a), (2, .int (b2i week_a))] [] := by
      intro h13_
      rw [if_neg h13_] at h4_
      refine z_aload_n C 0 dX11_led_23 rfl rfl ?_
      refine fg11_19 C hkd dX11_led_24 ?_
      refine fg11_426 C hkd isV_44 dX11_led_27 ?_
      refine z_iload_n C 1 dX11_led_30 rfl rfl ?_
      obtain ⟨x11_, h12_, h4_⟩ := ob h4_
      refine cr11_435 (th := (44 + 8)) (person_a := person_a) C hkd (isLog_of isV_44) h12_ ⟨(Nat.le_of_ble_eq_true rfl), (Nat.le_of_ble_eq_true rfl)⟩ (Nat.le_of_ble_eq_true rfl) ⟨(Nat.le_of_ble_eq_true rfl), (Nat.le_of_ble_eq_true rfl)⟩ dX11_led_31 ?_
      cases h4_
      exact K5_
    refine z_iload_n C 2 dX11_led_5 rfl rfl ?_
    refine cb_f C 23 dX11_led_6 (by decide) (fun h8_ => ?_) (fun h8_ => ?_)
    · exact K6_ h8_
    · exact K7_ h8_
  cases hf
  subst hω
  exact zx_iret C ⟨(Nat.le_of_ble_eq_true rfl), (Nat.le_of_ble_eq_true rfl)⟩ dX11_led_34
theorem c11_led {l : Launch} {kd : List KD} {w : Wp} {σ : St} {person_a : Int32} {week_a : Bool} (hkd : kd = kdC) (hi : zI kd w) (hlt : l.stackTraces = false) {r : (Sum Nat Int32 × St)} (hf : q11_led σ person_a week_a = some r) : zX l kd w yX11_led cX11_led 3 (some .int) rm11_led [.ref (w.2.2.1 0), .int person_a, .int (b2i week_a)] σ (om (fun v => some (.int v)) r) 1 6 := zX_of rfl hi (Nat.le_of_ble_eq_true rfl) (fun Θ hl hw C het => by
  obtain ⟨Θ1, Θ2, Θ3, Θ4, Θ5⟩ := Θ
  cases hw
  cases hl
  exact p11_led C hkd hlt het  hf rfl)
/-! LastLoaf.log -/
theorem w_8_20 : Cond.methodLink "LastLoaf" (440 : Nat) ({ cls := "LastLoaf$Log", name := "read", desc := "(II)I" } : MethodName) ∈ TB := tb_in (lwt_8 (List.mem_of_getElem? (i := 20) (by decide +kernel))) rfl
theorem cr11_440 {Θ : Tz} {cc : ByteArray} {nL kc ks : Nat} {ret : Option FieldType} {rm : Room} {Q : State → Prop} {σ : St} {pc : Nat} {lv : List (Nat × Value)} {st : List Value} (C : Zc Θ cc nL RX11 ret rm) (hkd : Θ.2.2.2.2.1 = kdC) {th : Nat} {ago_a : Int32} {column_a : Int32} (hth : isLog th) {r : Int32} (hx : q3_read σ th ago_a column_a = some r) (hrm : rm3_read.frames + 1 ≤ rm.frames ∧ 8 + (4 + 11) + rm3_read.locals ≤ rm.locals) (hcat : (st.map fun v => v.category).sum ≤ 8) (hk : kc ≤ rm.cells ∧ ks ≤ rm.slots) (hd : decode cc pc = .ok (.invokevirtual 440, 3)) (kk : Z Θ nL kc ks Q σ (pc + 3) lv (.int r :: st)) : Z Θ nL kc ks Q σ pc lv (.int column_a :: .int ago_a :: .ref (zA Θ th) :: st) := z_callV C th [.int ago_a, .int column_a] (some (.int r), σ) 2 (kLog_0 hkd hth) rfl (c3_read (th := th) (ago_a := ago_a) (column_a := column_a) hkd (zc_inj C) hth hx) w_8_6 w_8_20 w_8_4 w_8_5 w_1_4 ⟨rfl, rfl, hrm.1, hrm.2⟩ (by decide +kernel) rfl rfl hcat hk hd kk
theorem dX11_log_0 : decode cX11_log 0 = .ok (.iload_n 2, 1) := by decide +kernel
theorem dX11_log_1 : decode cX11_log 1 = .ok (.ifCond .lt 8, 3) := by decide +kernel
theorem dX11_log_4 : decode cX11_log 4 = .ok (.iload_n 2, 1) := by decide +kernel
theorem dX11_log_5 : decode cX11_log 5 = .ok (.iconst 4, 1) := by decide +kernel
theorem dX11_log_6 : decode cX11_log 6 = .ok (.if_icmp .lt 14, 3) := by decide +kernel
theorem dX11_log_9 : decode cX11_log 9 = .ok (.new 207, 3) := by decide +kernel
theorem dX11_log_12 : decode cX11_log 12 = .ok (.dup, 1) := by decide +kernel
theorem dX11_log_13 : decode cX11_log 13 = .ok (.ldc_w 438, 3) := by decide +kernel
theorem dX11_log_16 : decode cX11_log 16 = .ok (.invokespecial 211, 3) := by decide +kernel
theorem dX11_log_19 : decode cX11_log 19 = .ok (.athrow, 1) := by decide +kernel
theorem dX11_log_20 : decode cX11_log 20 = .ok (.aload_n 0, 1) := by decide +kernel
theorem dX11_log_21 : decode cX11_log 21 = .ok (.getfield 19, 3) := by decide +kernel
theorem dX11_log_24 : decode cX11_log 24 = .ok (.getfield 426, 3) := by decide +kernel
theorem dX11_log_27 : decode cX11_log 27 = .ok (.iload_n 1, 1) := by decide +kernel
theorem dX11_log_28 : decode cX11_log 28 = .ok (.iload_n 2, 1) := by decide +kernel
theorem dX11_log_29 : decode cX11_log 29 = .ok (.invokevirtual 440, 3) := by decide +kernel
theorem dX11_log_32 : decode cX11_log 32 = .ok (.ireturn, 1) := by decide +kernel
def q11_log (σ : St) (ago_a : Int32) (what_a : Int32) : Option (Sum Nat Int32 × St) :=
  if (what_a < 0) ∨ (4 ≤ what_a) then (some (.inl 4, σ)) else
  Option.bind (q3_read σ (44 + 8) ago_a what_a) fun x6_ =>
  some (.inr x6_, σ)
abbrev rm11_log : Room := { frames := 6, cells := 1, slots := 6, locals := 90 }
set_option maxHeartbeats 4000000 in
set_option maxRecDepth 100000 in
theorem p11_log {Θ : Tz} {σ : St} {ω : Om} (C : Zc Θ cX11_log 3 RX11 (some .int) rm11_log) (hkd : Θ.2.2.2.2.1 = kdC) (hlt : Θ.1.2.1.stackTraces = false) (het : ∀ x ∈ Θ.2.2.1.2.exceptionTable.toList, False) {ago_a : Int32} {what_a : Int32} {r : (Sum Nat Int32 × St)} (hf : q11_log σ ago_a what_a = some r) (hω : ω = om (fun v => some (.int v)) r) : Z Θ 3 0 0 (zQX Θ ω 1 6) σ 0 [(0, .ref (zA Θ 0)), (1, .int ago_a), (2, .int what_a)] [] := by
  unfold q11_log at hf
  have K1_ : (what_a < 0) ∨ (4 ≤ what_a) → Z Θ 3 0 0 (zQX Θ ω 1 6) σ 9 [(0, .ref (zA Θ 0)), (1, .int ago_a), (2, .int what_a)] [] := by
    intro h5_
    rw [if_pos h5_] at hf
    cases hf
    subst hω
    exact zx_throwWN (tx := "the log has no such column") C hlt het 4 (by decide +kernel) w_6_29 w_1_27 (List.mem_of_getElem? (i := 45) rfl) th11_4_211g th11_4_211n th11_4_211o dX11_log_9 dX11_log_12 dX11_log_13 dX11_log_16 dX11_log_19 ⟨(Nat.le_of_ble_eq_true rfl), (Nat.le_of_ble_eq_true rfl), (Nat.le_of_ble_eq_true rfl), (Nat.le_of_ble_eq_true rfl)⟩ (Nat.le_of_ble_eq_true rfl) ⟨(Nat.le_of_ble_eq_true rfl), (Nat.le_of_ble_eq_true rfl)⟩
  suffices K2_ : ¬ ((what_a < 0) ∨ (4 ≤ what_a)) → Z Θ 3 0 0 (zQX Θ ω 1 6) σ 20 [(0, .ref (zA Θ 0)), (1, .int ago_a), (2, .int what_a)] [] by
    refine z_iload_n C 2 dX11_log_0 rfl rfl ?_
    refine c0_lt_t C 9 dX11_log_1 (by decide) (fun h3_ => ?_) (fun h3_ => ?_)
    · exact K1_ (Or.inl h3_)
    · refine z_iload_n C 2 dX11_log_4 rfl rfl ?_
      refine z_iconst (v := 4) C dX11_log_5 ic_4 ?_
      refine c_ge_f C 20 dX11_log_6 (by decide) (fun h4_ => ?_) (fun h4_ => ?_)
      · exact K1_ (Or.inr h4_)
      · exact K2_ (fun n => n.elim h3_ h4_)
  intro h5_
  rw [if_neg h5_] at hf
  refine z_aload_n C 0 dX11_log_20 rfl rfl ?_
  refine fg11_19 C hkd dX11_log_21 ?_
  refine fg11_426 C hkd isV_44 dX11_log_24 ?_
  refine z_iload_n C 1 dX11_log_27 rfl rfl ?_
  refine z_iload_n C 2 dX11_log_28 rfl rfl ?_
  obtain ⟨x6_, h7_, hf⟩ := ob hf
  refine cr11_440 (th := (44 + 8)) (ago_a := ago_a) (column_a := what_a) C hkd (isLog_of isV_44) h7_ ⟨(Nat.le_of_ble_eq_true rfl), (Nat.le_of_ble_eq_true rfl)⟩ (Nat.le_of_ble_eq_true rfl) ⟨(Nat.le_of_ble_eq_true rfl), (Nat.le_of_ble_eq_true rfl)⟩ dX11_log_29 ?_
  cases hf
  subst hω
  exact zx_iret C ⟨(Nat.le_of_ble_eq_true rfl), (Nat.le_of_ble_eq_true rfl)⟩ dX11_log_32
theorem c11_log {l : Launch} {kd : List KD} {w : Wp} {σ : St} {ago_a : Int32} {what_a : Int32} (hkd : kd = kdC) (hi : zI kd w) (hlt : l.stackTraces = false) {r : (Sum Nat Int32 × St)} (hf : q11_log σ ago_a what_a = some r) : zX l kd w yX11_log cX11_log 3 (some .int) rm11_log [.ref (w.2.2.1 0), .int ago_a, .int what_a] σ (om (fun v => some (.int v)) r) 1 6 := zX_of rfl hi (Nat.le_of_ble_eq_true rfl) (fun Θ hl hw C het => by
  obtain ⟨Θ1, Θ2, Θ3, Θ4, Θ5⟩ := Θ
  cases hw
  cases hl
  exact p11_log C hkd hlt het  hf rfl)
/-! LastLoaf.seed -/
theorem fg11_420 {Θ : Tz} {cc : ByteArray} {nL kc ks : Nat} {ret : Option FieldType} {rm : Room} {Q : State → Prop} {σ : St} {pc : Nat} {lv : List (Nat × Value)} {st : List Value} (C : Zc Θ cc nL RX11 ret rm) (hkd : Θ.2.2.2.2.1 = kdC) {th : Nat} (hth : isV th) (hd : decode cc pc = .ok (.getfield 420, 3)) (kk : Z Θ nL kc ks Q σ (pc + 3) lv (.int (σ th 15) :: st)) : Z Θ nL kc ks Q σ pc lv (.ref (zA Θ th) :: st) := z_get C inT10 th (kV_0 hkd hth) rfl 15 (by decide) w_1_161 rfl hd kk
theorem dX11_seed_0 : decode cX11_seed 0 = .ok (.aload_n 0, 1) := by decide +kernel
theorem dX11_seed_1 : decode cX11_seed 1 = .ok (.getfield 19, 3) := by decide +kernel
theorem dX11_seed_4 : decode cX11_seed 4 = .ok (.getfield 420, 3) := by decide +kernel
theorem dX11_seed_7 : decode cX11_seed 7 = .ok (.istore_n 2, 1) := by decide +kernel
theorem dX11_seed_8 : decode cX11_seed 8 = .ok (.aload_n 0, 1) := by decide +kernel
theorem dX11_seed_9 : decode cX11_seed 9 = .ok (.getfield 19, 3) := by decide +kernel
theorem dX11_seed_12 : decode cX11_seed 12 = .ok (.iload_n 1, 1) := by decide +kernel
theorem dX11_seed_13 : decode cX11_seed 13 = .ok (.putfield 420, 3) := by decide +kernel
theorem dX11_seed_16 : decode cX11_seed 16 = .ok (.iload_n 2, 1) := by decide +kernel
theorem dX11_seed_17 : decode cX11_seed 17 = .ok (.ireturn, 1) := by decide +kernel
def q11_seed (σ : St) (n_a : Int32) : Option (Int32 × St) :=
  lt (σ 44 15) fun was1_ =>
  lt (up σ 44 15 n_a) fun σ3_ =>
  some (was1_, σ3_)
abbrev rm11_seed : Room := { frames := 0, cells := 0, slots := 0, locals := 0 }
set_option maxHeartbeats 4000000 in
set_option maxRecDepth 100000 in
theorem p11_seed {Θ : Tz} {σ : St} {ρ : Option Value × St} (C : Zc Θ cX11_seed 3 RX11 (some .int) rm11_seed) (hkd : Θ.2.2.2.2.1 = kdC) {n_a : Int32} {r : (Int32 × St)} (hf : q11_seed σ n_a = some r) (hρ : ρ = (some (.int r.1), r.2)) : Z Θ 3 0 0 (zQ Θ ρ) σ 0 [(0, .ref (zA Θ 0)), (1, .int n_a)] [] := by
  unfold q11_seed at hf
  refine z_aload_n C 0 dX11_seed_0 rfl rfl ?_
  refine fg11_19 C hkd dX11_seed_1 ?_
  refine fg11_420 C hkd isV_44 dX11_seed_4 ?_
  obtain ⟨was1_, h2_, hf⟩ := lt_ hf
  refine z_istN C dX11_seed_7 h2_ rfl (Nat.le_of_ble_eq_true rfl) rfl ?_
  refine z_aload_n C 1 dX11_seed_8 rfl rfl ?_
  refine fg11_19 C hkd dX11_seed_9 ?_
  refine z_iload_n C 2 dX11_seed_12 rfl rfl ?_
  obtain ⟨σ3_, h4_, hf⟩ := lt_ hf
  refine fp11_420 C hkd isV_44 h4_ dX11_seed_13 ?_
  refine z_iload_n C 0 dX11_seed_16 rfl rfl ?_
  cases hf
  subst hρ
  exact z_iret C dX11_seed_17
theorem c11_seed {l : Launch} {kd : List KD} {w : Wp} {σ : St} {n_a : Int32} (hkd : kd = kdC) (hi : zI kd w) {r : (Int32 × St)} (hf : q11_seed σ n_a = some r) : zM l kd w yX11_seed cX11_seed 3 (some .int) rm11_seed [.ref (w.2.2.1 0), .int n_a] σ (some (.int r.1), r.2) := zM_of rfl hi (Nat.le_of_ble_eq_true rfl) (fun Θ hl hw C => by
  obtain ⟨Θ1, Θ2, Θ3, Θ4, Θ5⟩ := Θ
  cases hw
  exact p11_seed C hkd  hf rfl)
/-! LastLoaf$Past.recall -/
theorem w_4_126 : Cond.methodLink "LastLoaf$Past" (35 : Nat) ({ cls := "java/lang/Math", name := "floorMod", desc := "(II)I" } : MethodName) ∈ TB := tb_in (lwt_4 (List.mem_of_getElem? (i := 126) (by decide +kernel))) rfl
theorem dX4_recall_0 : decode cX4_recall 0 = .ok (.aload_n 0, 1) := by decide +kernel
theorem dX4_recall_1 : decode cX4_recall 1 = .ok (.getfield 17, 3) := by decide +kernel
theorem dX4_recall_4 : decode cX4_recall 4 = .ok (.ifCond .ne 5, 3) := by decide +kernel
theorem dX4_recall_7 : decode cX4_recall 7 = .ok (.iconst 0, 1) := by decide +kernel
theorem dX4_recall_8 : decode cX4_recall 8 = .ok (.ireturn, 1) := by decide +kernel
theorem dX4_recall_9 : decode cX4_recall 9 = .ok (.aload_n 0, 1) := by decide +kernel
theorem dX4_recall_10 : decode cX4_recall 10 = .ok (.aload_n 0, 1) := by decide +kernel
theorem dX4_recall_11 : decode cX4_recall 11 = .ok (.getfield 21, 3) := by decide +kernel
theorem dX4_recall_14 : decode cX4_recall 14 = .ok (.iconst 1, 1) := by decide +kernel
theorem dX4_recall_15 : decode cX4_recall 15 = .ok (.isub, 1) := by decide +kernel
theorem dX4_recall_16 : decode cX4_recall 16 = .ok (.bipush 12, 2) := by decide +kernel
theorem dX4_recall_18 : decode cX4_recall 18 = .ok (.invokestatic 35, 3) := by decide +kernel
theorem dX4_recall_21 : decode cX4_recall 21 = .ok (.putfield 21, 3) := by decide +kernel
theorem dX4_recall_24 : decode cX4_recall 24 = .ok (.aload_n 0, 1) := by decide +kernel
theorem dX4_recall_25 : decode cX4_recall 25 = .ok (.dup, 1) := by decide +kernel
theorem dX4_recall_26 : decode cX4_recall 26 = .ok (.getfield 17, 3) := by decide +kernel
theorem dX4_recall_29 : decode cX4_recall 29 = .ok (.iconst 1, 1) := by decide +kernel
theorem dX4_recall_30 : decode cX4_recall 30 = .ok (.isub, 1) := by decide +kernel
theorem dX4_recall_31 : decode cX4_recall 31 = .ok (.putfield 17, 3) := by decide +kernel
theorem dX4_recall_34 : decode cX4_recall 34 = .ok (.aload_n 1, 1) := by decide +kernel
theorem dX4_recall_35 : decode cX4_recall 35 = .ok (.aload_n 0, 1) := by decide +kernel
theorem dX4_recall_36 : decode cX4_recall 36 = .ok (.getfield 11, 3) := by decide +kernel
theorem dX4_recall_39 : decode cX4_recall 39 = .ok (.aload_n 0, 1) := by decide +kernel
theorem dX4_recall_40 : decode cX4_recall 40 = .ok (.getfield 21, 3) := by decide +kernel
theorem dX4_recall_43 : decode cX4_recall 43 = .ok (.aaload, 1) := by decide +kernel
theorem dX4_recall_44 : decode cX4_recall 44 = .ok (.invokevirtual 25, 3) := by decide +kernel
theorem dX4_recall_47 : decode cX4_recall 47 = .ok (.iconst 1, 1) := by decide +kernel
theorem dX4_recall_48 : decode cX4_recall 48 = .ok (.ireturn, 1) := by decide +kernel
def q4_recall (σ : St) (village_a : Nat) : Option (Bool × St) :=
  if (σ 5 1) = 0 then (some (false, σ)) else
  lt (up σ 5 2 (fmod ((σ 5 2) - 1) 12)) fun σ5_ =>
  lt (up σ5_ 5 1 ((σ5_ 5 1) - 1)) fun σ7_ =>
  Option.bind (kpt (σ7_ 5 2)) fun x9_ =>
  Option.bind (q10_become σ7_ village_a x9_) fun x11_ =>
  some (true, x11_)
abbrev rm4_recall : Room := { frames := 3, cells := 0, slots := 0, locals := 82 }
set_option maxHeartbeats 4000000 in
set_option maxRecDepth 100000 in
theorem p4_recall {Θ : Tz} {σ : St} {ρ : Option Value × St} (C : Zc Θ cX4_recall 2 RX4 (some .boolean) rm4_recall) (hkd : Θ.2.2.2.2.1 = kdC) {village_a : Nat} (h_village : isV village_a) {r : (Bool × St)} (hf : q4_recall σ village_a = some r) (hρ : ρ = (some (.int (b2i r.1)), r.2)) : Z Θ 2 0 0 (zQ Θ ρ) σ 0 [(0, .ref (zA Θ 5)), (1, .ref (zA Θ village_a))] [] := by
  unfold q4_recall at hf
  have K1_ : (σ 5 1) = 0 → Z Θ 2 0 0 (zQ Θ ρ) σ 7 [(0, .ref (zA Θ 5)), (1, .ref (zA Θ village_a))] [] := by
    intro h4_
    rw [if_pos h4_] at hf
    refine z_iconst (v := 0) C dX4_recall_7 ic_0 ?_
    cases hf
    subst hρ
    exact z_zret C (b2i_narrow _) dX4_recall_8
  suffices K2_ : ¬ ((σ 5 1) = 0) → Z Θ 2 0 0 (zQ Θ ρ) σ 9 [(0, .ref (zA Θ 5)), (1, .ref (zA Θ village_a))] [] by
    refine z_aload_n C 0 dX4_recall_0 rfl rfl ?_
    refine fg4_17 C hkd dX4_recall_1 ?_
    refine c0_eq_f C 9 dX4_recall_4 (by decide) (fun h3_ => ?_) (fun h3_ => ?_)
    · exact K1_ h3_
    · exact K2_ h3_
  intro h4_
  rw [if_neg h4_] at hf
  refine z_aload_n C 0 dX4_recall_9 rfl rfl ?_
  refine z_aload_n C 0 dX4_recall_10 rfl rfl ?_
  refine fg4_21 C hkd dX4_recall_11 ?_
  refine z_iconst (v := 1) C dX4_recall_14 ic_1 ?_
  refine z_isub C dX4_recall_15 ?_
  refine z_bipush (v := 12) C dX4_recall_16 bp_12 ?_
  refine z_callS C [.int ((σ 5 2) - 1), .int 12] (some (.int (fmod ((σ 5 2) - 1) 12)), σ) 2 (cJ_floorMod (zc_inj C) (by decide)) w_3_127 w_4_126 w_3_126 w_1_28 ⟨rfl, rfl, (Nat.le_of_ble_eq_true rfl), (Nat.le_of_ble_eq_true rfl)⟩ (by decide +kernel) rfl rfl (Nat.le_of_ble_eq_true rfl) ⟨Nat.zero_le _, Nat.zero_le _⟩ dX4_recall_18 ?_
  obtain ⟨σ5_, h6_, hf⟩ := lt_ hf
  refine fp4_21 C hkd h6_ dX4_recall_21 ?_
  refine z_aload_n C 0 dX4_recall_24 rfl rfl ?_
  refine z_dup C dX4_recall_25 rfl ?_
  refine fg4_17 C hkd dX4_recall_26 ?_
  refine z_iconst (v := 1) C dX4_recall_29 ic_1 ?_
  refine z_isub C dX4_recall_30 ?_
  obtain ⟨σ7_, h8_, hf⟩ := lt_ hf
  refine fp4_17 C hkd h8_ dX4_recall_31 ?_
  refine z_aload_n C 1 dX4_recall_34 rfl rfl ?_
  refine z_aload_n C 0 dX4_recall_35 rfl rfl ?_
  refine fg4_11 C hkd dX4_recall_36 ?_
  refine z_aload_n C 0 dX4_recall_39 rfl rfl ?_
  refine fg4_21 C hkd dX4_recall_40 ?_
  obtain ⟨x9_, h10_, hf⟩ := ob hf
  refine z_kpt C hkd h10_ dX4_recall_43 ?_
  obtain ⟨x11_, h12_, hf⟩ := ob hf
  refine cr4_25 (th := village_a) (other_a := x9_) C hkd h_village (kpt_isV h10_) h12_ ⟨(Nat.le_of_ble_eq_true rfl), (Nat.le_of_ble_eq_true rfl)⟩ (Nat.le_of_ble_eq_true rfl) ⟨Nat.zero_le _, Nat.zero_le _⟩ dX4_recall_44 ?_
  refine z_iconst (v := 1) C dX4_recall_47 ic_1 ?_
  cases hf
  subst hρ
  exact z_zret C (b2i_narrow _) dX4_recall_48
theorem c4_recall {l : Launch} {kd : List KD} {w : Wp} {σ : St} {village_a : Nat} (hkd : kd = kdC) (hi : zI kd w) (h_village : isV village_a) {r : (Bool × St)} (hf : q4_recall σ village_a = some r) : zM l kd w yX4_recall cX4_recall 2 (some .boolean) rm4_recall [.ref (w.2.2.1 5), .ref (w.2.2.1 village_a)] σ (some (.int (b2i r.1)), r.2) := zM_of rfl hi (Nat.le_of_ble_eq_true rfl) (fun Θ hl hw C => by
  obtain ⟨Θ1, Θ2, Θ3, Θ4, Θ5⟩ := Θ
  cases hw
  exact p4_recall C hkd h_village hf rfl)
/-! LastLoaf.undo -/
theorem w_4_125 : Cond.code ({ cls := "LastLoaf$Past", name := "recall", desc := "(LLastLoaf$Village;)Z" } : MethodName) prog_6_method_3_code (2 : Nat) (Option.some ClassFile.FieldType.boolean) ∈ TB := tb_in (lwt_4 (List.mem_of_getElem? (i := 125) (by decide +kernel))) rfl
theorem w_4_122 : Cond.methodLink "LastLoaf" (443 : Nat) ({ cls := "LastLoaf$Past", name := "recall", desc := "(LLastLoaf$Village;)Z" } : MethodName) ∈ TB := tb_in (lwt_4 (List.mem_of_getElem? (i := 122) (by decide +kernel))) rfl
theorem w_4_123 : Cond.instanceMethod ({ cls := "LastLoaf$Past", name := "recall", desc := "(LLastLoaf$Village;)Z" } : MethodName) ∈ TB := tb_in (lwt_4 (List.mem_of_getElem? (i := 123) (by decide +kernel))) rfl
theorem w_4_124 : Cond.selects "LastLoaf$Past" ({ cls := "LastLoaf$Past", name := "recall", desc := "(LLastLoaf$Village;)Z" } : MethodName) ({ cls := "LastLoaf$Past", name := "recall", desc := "(LLastLoaf$Village;)Z" } : MethodName) ∈ TB := tb_in (lwt_4 (List.mem_of_getElem? (i := 124) (by decide +kernel))) rfl
theorem cr11_443 {Θ : Tz} {cc : ByteArray} {nL kc ks : Nat} {ret : Option FieldType} {rm : Room} {Q : State → Prop} {σ : St} {pc : Nat} {lv : List (Nat × Value)} {st : List Value} (C : Zc Θ cc nL RX11 ret rm) (hkd : Θ.2.2.2.2.1 = kdC) {village_a : Nat} (h_village : isV village_a) {r : Bool × St} (hx : q4_recall σ village_a = some r) (hrm : rm4_recall.frames + 1 ≤ rm.frames ∧ 8 + (2 + 11) + rm4_recall.locals ≤ rm.locals) (hcat : (st.map fun v => v.category).sum ≤ 8) (hk : kc ≤ rm.cells ∧ ks ≤ rm.slots) (hd : decode cc pc = .ok (.invokevirtual 443, 3)) (kk : Z Θ nL kc ks Q r.2 (pc + 3) lv (.int (b2i r.1) :: st)) : Z Θ nL kc ks Q σ pc lv (.ref (zA Θ village_a) :: .ref (zA Θ 5) :: st) := z_callV C 5 [.ref (zA Θ village_a)] (some (.int (b2i r.1)), r.2) 1 (kC_5 hkd) rfl (c4_recall (village_a := village_a) hkd (zc_inj C) h_village hx) w_4_125 w_4_122 w_4_123 w_4_124 w_1_8 ⟨rfl, rfl, hrm.1, hrm.2⟩ (by decide +kernel) rfl rfl hcat hk hd kk
theorem dX11_undo_0 : decode cX11_undo 0 = .ok (.aload_n 0, 1) := by decide +kernel
theorem dX11_undo_1 : decode cX11_undo 1 = .ok (.getfield 54, 3) := by decide +kernel
theorem dX11_undo_4 : decode cX11_undo 4 = .ok (.aload_n 0, 1) := by decide +kernel
theorem dX11_undo_5 : decode cX11_undo 5 = .ok (.getfield 19, 3) := by decide +kernel
theorem dX11_undo_8 : decode cX11_undo 8 = .ok (.invokevirtual 443, 3) := by decide +kernel
theorem dX11_undo_11 : decode cX11_undo 11 = .ok (.ireturn, 1) := by decide +kernel
def q11_undo (σ : St) : Option (Bool × St) :=
  Option.bind (q4_recall σ 44) fun x1_ =>
  some (x1_.1, x1_.2)
abbrev rm11_undo : Room := { frames := 4, cells := 0, slots := 0, locals := 103 }
set_option maxHeartbeats 4000000 in
set_option maxRecDepth 100000 in
theorem p11_undo {Θ : Tz} {σ : St} {ρ : Option Value × St} (C : Zc Θ cX11_undo 1 RX11 (some .boolean) rm11_undo) (hkd : Θ.2.2.2.2.1 = kdC) {r : (Bool × St)} (hf : q11_undo σ = some r) (hρ : ρ = (some (.int (b2i r.1)), r.2)) : Z Θ 1 0 0 (zQ Θ ρ) σ 0 [(0, .ref (zA Θ 0))] [] := by
  unfold q11_undo at hf
  refine z_aload_n C 0 dX11_undo_0 rfl rfl ?_
  refine fg11_54 C hkd dX11_undo_1 ?_
  refine z_aload_n C 0 dX11_undo_4 rfl rfl ?_
  refine fg11_19 C hkd dX11_undo_5 ?_
  obtain ⟨x1_, h2_, hf⟩ := ob hf
  refine cr11_443 (village_a := 44) C hkd isV_44 h2_ ⟨(Nat.le_of_ble_eq_true rfl), (Nat.le_of_ble_eq_true rfl)⟩ (Nat.le_of_ble_eq_true rfl) ⟨Nat.zero_le _, Nat.zero_le _⟩ dX11_undo_8 ?_
  cases hf
  subst hρ
  exact z_zret C (b2i_narrow _) dX11_undo_11
theorem c11_undo {l : Launch} {kd : List KD} {w : Wp} {σ : St} (hkd : kd = kdC) (hi : zI kd w) {r : (Bool × St)} (hf : q11_undo σ = some r) : zM l kd w yX11_undo cX11_undo 1 (some .boolean) rm11_undo [.ref (w.2.2.1 0)] σ (some (.int (b2i r.1)), r.2) := zM_of rfl hi (Nat.le_of_ble_eq_true rfl) (fun Θ hl hw C => by
  obtain ⟨Θ1, Θ2, Θ3, Θ4, Θ5⟩ := Θ
  cases hw
  exact p11_undo C hkd  hf rfl)
/-! LastLoaf.image -/
theorem w_2_193 : Cond.fieldLink "LastLoaf" (45 : Nat) "LastLoaf" "imageVillage" "LLastLoaf$Village;" ∈ TB := tb_in (lwt_2 (List.mem_of_getElem? (i := 193) (by decide +kernel))) rfl
theorem fg11_45 {Θ : Tz} {cc : ByteArray} {nL kc ks : Nat} {ret : Option FieldType} {rm : Room} {Q : State → Prop} {σ : St} {pc : Nat} {lv : List (Nat × Value)} {st : List Value} (C : Zc Θ cc nL RX11 ret rm) (hkd : Θ.2.2.2.2.1 = kdC) (hd : decode cc pc = .ok (.getfield 45, 3)) (kk : Z Θ nL kc ks Q σ (pc + 3) lv (.ref (zA Θ 64) :: st)) : Z Θ nL kc ks Q σ pc lv (.ref (zA Θ 0) :: st) := z_get C inT11 0 (kC_0 hkd) rfl 6 (by decide) w_2_193 rfl hd kk
theorem w_2_194 : Cond.fieldLink "LastLoaf" (48 : Nat) "LastLoaf" "imageLaw" "LLastLoaf$Law;" ∈ TB := tb_in (lwt_2 (List.mem_of_getElem? (i := 194) (by decide +kernel))) rfl
theorem fg11_48 {Θ : Tz} {cc : ByteArray} {nL kc ks : Nat} {ret : Option FieldType} {rm : Room} {Q : State → Prop} {σ : St} {pc : Nat} {lv : List (Nat × Value)} {st : List Value} (C : Zc Θ cc nL RX11 ret rm) (hkd : Θ.2.2.2.2.1 = kdC) (hd : decode cc pc = .ok (.getfield 48, 3)) (kk : Z Θ nL kc ks Q σ (pc + 3) lv (.ref (zA Θ 40) :: st)) : Z Θ nL kc ks Q σ pc lv (.ref (zA Θ 0) :: st) := z_get C inT11 0 (kC_0 hkd) rfl 7 (by decide) w_2_194 rfl hd kk
theorem w_2_201 : Cond.fieldLink "LastLoaf" (95 : Nat) "LastLoaf" "imageKept" "Z" ∈ TB := tb_in (lwt_2 (List.mem_of_getElem? (i := 201) (by decide +kernel))) rfl
theorem fp11_95 {Θ : Tz} {cc : ByteArray} {nL kc ks : Nat} {ret : Option FieldType} {rm : Room} {Q : State → Prop} {σ : St} {pc : Nat} {lv : List (Nat × Value)} {st : List Value} (C : Zc Θ cc nL RX11 ret rm) (hkd : Θ.2.2.2.2.1 = kdC) {b : Bool} {σ1 : St} (he : σ1 = up σ 0 14 (b2i b)) (hd : decode cc pc = .ok (.putfield 95, 3)) (kk : Z Θ nL kc ks Q σ1 (pc + 3) lv st) : Z Θ nL kc ks Q σ pc lv (.int (b2i b) :: .ref (zA Θ 0) :: st) := by subst he; exact z_put C inT11 tyX11_ok nmX11 0 (kC_0 hkd) rfl 14 (by decide) w_2_201 rfl rfl (b2i_narrow b) (b2i_fits b) hd kk
theorem dX11_image_0 : decode cX11_image 0 = .ok (.aload_n 0, 1) := by decide +kernel
theorem dX11_image_1 : decode cX11_image 1 = .ok (.getfield 45, 3) := by decide +kernel
theorem dX11_image_4 : decode cX11_image 4 = .ok (.aload_n 0, 1) := by decide +kernel
theorem dX11_image_5 : decode cX11_image 5 = .ok (.getfield 19, 3) := by decide +kernel
theorem dX11_image_8 : decode cX11_image 8 = .ok (.invokevirtual 110, 3) := by decide +kernel
theorem dX11_image_11 : decode cX11_image 11 = .ok (.aload_n 0, 1) := by decide +kernel
theorem dX11_image_12 : decode cX11_image 12 = .ok (.getfield 48, 3) := by decide +kernel
theorem dX11_image_15 : decode cX11_image 15 = .ok (.aload_n 0, 1) := by decide +kernel
theorem dX11_image_16 : decode cX11_image 16 = .ok (.getfield 29, 3) := by decide +kernel
theorem dX11_image_19 : decode cX11_image 19 = .ok (.invokevirtual 145, 3) := by decide +kernel
theorem dX11_image_22 : decode cX11_image 22 = .ok (.aload_n 0, 1) := by decide +kernel
theorem dX11_image_23 : decode cX11_image 23 = .ok (.iconst 1, 1) := by decide +kernel
theorem dX11_image_24 : decode cX11_image 24 = .ok (.putfield 95, 3) := by decide +kernel
theorem dX11_image_27 : decode cX11_image 27 = .ok (.return_, 1) := by decide +kernel
def q11_image (σ : St) : Option St :=
  Option.bind (q10_become σ 64 44) fun x1_ =>
  Option.bind (q2_become x1_ 40 32) fun x3_ =>
  lt (up x3_ 0 14 (b2i true)) fun σ5_ =>
  some σ5_
abbrev rm11_image : Room := { frames := 3, cells := 0, slots := 0, locals := 82 }
set_option maxHeartbeats 4000000 in
set_option maxRecDepth 100000 in
theorem p11_image {Θ : Tz} {σ : St} {ρ : Option Value × St} (C : Zc Θ cX11_image 1 RX11 none rm11_image) (hkd : Θ.2.2.2.2.1 = kdC) {r : St} (hf : q11_image σ = some r) (hρ : ρ = (none, r)) : Z Θ 1 0 0 (zQ Θ ρ) σ 0 [(0, .ref (zA Θ 0))] [] := by
  unfold q11_image at hf
  refine z_aload_n C 0 dX11_image_0 rfl rfl ?_
  refine fg11_45 C hkd dX11_image_1 ?_
  refine z_aload_n C 0 dX11_image_4 rfl rfl ?_
  refine fg11_19 C hkd dX11_image_5 ?_
  obtain ⟨x1_, h2_, hf⟩ := ob hf
  refine cr11_110 (th := 64) (other_a := 44) C hkd isV_64 isV_44 h2_ ⟨(Nat.le_of_ble_eq_true rfl), (Nat.le_of_ble_eq_true rfl)⟩ (Nat.le_of_ble_eq_true rfl) ⟨Nat.zero_le _, Nat.zero_le _⟩ dX11_image_8 ?_
  refine z_aload_n C 0 dX11_image_11 rfl rfl ?_
  refine fg11_48 C hkd dX11_image_12 ?_
  refine z_aload_n C 0 dX11_image_15 rfl rfl ?_
  refine fg11_29 C hkd dX11_image_16 ?_
  obtain ⟨x3_, h4_, hf⟩ := ob hf
  refine cr11_145 (th := 40) (other_a := 32) C hkd isLaw_40 isLaw_32 h4_ ⟨(Nat.le_of_ble_eq_true rfl), (Nat.le_of_ble_eq_true rfl)⟩ (Nat.le_of_ble_eq_true rfl) ⟨Nat.zero_le _, Nat.zero_le _⟩ dX11_image_19 ?_
  refine z_aload_n C 0 dX11_image_22 rfl rfl ?_
  refine z_iconst (v := 1) C dX11_image_23 ic_1 ?_
  obtain ⟨σ5_, h6_, hf⟩ := lt_ hf
  refine fp11_95 (b := true) C hkd h6_ dX11_image_24 ?_
  cases hf
  subst hρ
  exact z_vret C dX11_image_27
theorem c11_image {l : Launch} {kd : List KD} {w : Wp} {σ : St} (hkd : kd = kdC) (hi : zI kd w) {r : St} (hf : q11_image σ = some r) : zM l kd w yX11_image cX11_image 1 none rm11_image [.ref (w.2.2.1 0)] σ (none, r) := zM_of rfl hi (Nat.le_of_ble_eq_true rfl) (fun Θ hl hw C => by
  obtain ⟨Θ1, Θ2, Θ3, Θ4, Θ5⟩ := Θ
  cases hw
  exact p11_image C hkd  hf rfl)
/-! LastLoaf.back -/
theorem fg11_95 {Θ : Tz} {cc : ByteArray} {nL kc ks : Nat} {ret : Option FieldType} {rm : Room} {Q : State → Prop} {σ : St} {pc : Nat} {lv : List (Nat × Value)} {st : List Value} (C : Zc Θ cc nL RX11 ret rm) (hkd : Θ.2.2.2.2.1 = kdC) (hd : decode cc pc = .ok (.getfield 95, 3)) (kk : Z Θ nL kc ks Q σ (pc + 3) lv (.int (σ 0 14) :: st)) : Z Θ nL kc ks Q σ pc lv (.ref (zA Θ 0) :: st) := z_get C inT11 0 (kC_0 hkd) rfl 14 (by decide) w_2_201 rfl hd kk
theorem dX11_back_0 : decode cX11_back 0 = .ok (.aload_n 0, 1) := by decide +kernel
theorem dX11_back_1 : decode cX11_back 1 = .ok (.getfield 95, 3) := by decide +kernel
theorem dX11_back_4 : decode cX11_back 4 = .ok (.ifCond .ne 5, 3) := by decide +kernel
theorem dX11_back_7 : decode cX11_back 7 = .ok (.iconst 0, 1) := by decide +kernel
theorem dX11_back_8 : decode cX11_back 8 = .ok (.ireturn, 1) := by decide +kernel
theorem dX11_back_9 : decode cX11_back 9 = .ok (.aload_n 0, 1) := by decide +kernel
theorem dX11_back_10 : decode cX11_back 10 = .ok (.getfield 19, 3) := by decide +kernel
theorem dX11_back_13 : decode cX11_back 13 = .ok (.aload_n 0, 1) := by decide +kernel
theorem dX11_back_14 : decode cX11_back 14 = .ok (.getfield 45, 3) := by decide +kernel
theorem dX11_back_17 : decode cX11_back 17 = .ok (.invokevirtual 110, 3) := by decide +kernel
theorem dX11_back_20 : decode cX11_back 20 = .ok (.aload_n 0, 1) := by decide +kernel
theorem dX11_back_21 : decode cX11_back 21 = .ok (.getfield 29, 3) := by decide +kernel
theorem dX11_back_24 : decode cX11_back 24 = .ok (.aload_n 0, 1) := by decide +kernel
theorem dX11_back_25 : decode cX11_back 25 = .ok (.getfield 48, 3) := by decide +kernel
theorem dX11_back_28 : decode cX11_back 28 = .ok (.invokevirtual 145, 3) := by decide +kernel
theorem dX11_back_31 : decode cX11_back 31 = .ok (.aload_n 0, 1) := by decide +kernel
theorem dX11_back_32 : decode cX11_back 32 = .ok (.getfield 54, 3) := by decide +kernel
theorem dX11_back_35 : decode cX11_back 35 = .ok (.invokevirtual 137, 3) := by decide +kernel
theorem dX11_back_38 : decode cX11_back 38 = .ok (.iconst 1, 1) := by decide +kernel
theorem dX11_back_39 : decode cX11_back 39 = .ok (.ireturn, 1) := by decide +kernel
def q11_back (σ : St) : Option (Bool × St) :=
  if ¬ (¬ (σ 0 14) = 0) then (some (false, σ)) else
  Option.bind (q10_become σ 44 64) fun x5_ =>
  Option.bind (q2_become x5_ 32 40) fun x7_ =>
  Option.bind (q4_forget x7_) fun x9_ =>
  some (true, x9_)
abbrev rm11_back : Room := { frames := 3, cells := 0, slots := 0, locals := 82 }
set_option maxHeartbeats 4000000 in
set_option maxRecDepth 100000 in
theorem p11_back {Θ : Tz} {σ : St} {ρ : Option Value × St} (C : Zc Θ cX11_back 1 RX11 (some .boolean) rm11_back) (hkd : Θ.2.2.2.2.1 = kdC) {r : (Bool × St)} (hf : q11_back σ = some r) (hρ : ρ = (some (.int (b2i r.1)), r.2)) : Z Θ 1 0 0 (zQ Θ ρ) σ 0 [(0, .ref (zA Θ 0))] [] := by
  unfold q11_back at hf
  have K1_ : ¬ (¬ (σ 0 14) = 0) → Z Θ 1 0 0 (zQ Θ ρ) σ 7 [(0, .ref (zA Θ 0))] [] := by
    intro h4_
    rw [if_pos h4_] at hf
    refine z_iconst (v := 0) C dX11_back_7 ic_0 ?_
    cases hf
    subst hρ
    exact z_zret C (b2i_narrow _) dX11_back_8
  suffices K2_ : ¬ (¬ (¬ (σ 0 14) = 0)) → Z Θ 1 0 0 (zQ Θ ρ) σ 9 [(0, .ref (zA Θ 0))] [] by
    refine z_aload_n C 0 dX11_back_0 rfl rfl ?_
    refine fg11_95 C hkd dX11_back_1 ?_
    refine c0_ne_t C 9 dX11_back_4 (by decide) (fun h3_ => ?_) (fun h3_ => ?_)
    · exact K2_ (fun n => n h3_)
    · exact K1_ h3_
  intro h4_
  rw [if_neg h4_] at hf
  refine z_aload_n C 0 dX11_back_9 rfl rfl ?_
  refine fg11_19 C hkd dX11_back_10 ?_
  refine z_aload_n C 0 dX11_back_13 rfl rfl ?_
  refine fg11_45 C hkd dX11_back_14 ?_
  obtain ⟨x5_, h6_, hf⟩ := ob hf
  refine cr11_110 (th := 44) (other_a := 64) C hkd isV_44 isV_64 h6_ ⟨(Nat.le_of_ble_eq_true rfl), (Nat.le_of_ble_eq_true rfl)⟩ (Nat.le_of_ble_eq_true rfl) ⟨Nat.zero_le _, Nat.zero_le _⟩ dX11_back_17 ?_
  refine z_aload_n C 0 dX11_back_20 rfl rfl ?_
  refine fg11_29 C hkd dX11_back_21 ?_
  refine z_aload_n C 0 dX11_back_24 rfl rfl ?_
  refine fg11_48 C hkd dX11_back_25 ?_
  obtain ⟨x7_, h8_, hf⟩ := ob hf
  refine cr11_145 (th := 32) (other_a := 40) C hkd isLaw_32 isLaw_40 h8_ ⟨(Nat.le_of_ble_eq_true rfl), (Nat.le_of_ble_eq_true rfl)⟩ (Nat.le_of_ble_eq_true rfl) ⟨Nat.zero_le _, Nat.zero_le _⟩ dX11_back_28 ?_
  refine z_aload_n C 0 dX11_back_31 rfl rfl ?_
  refine fg11_54 C hkd dX11_back_32 ?_
  obtain ⟨x9_, h10_, hf⟩ := ob hf
  refine cr11_137 C hkd  h10_ ⟨(Nat.le_of_ble_eq_true rfl), (Nat.le_of_ble_eq_true rfl)⟩ (Nat.le_of_ble_eq_true rfl) ⟨Nat.zero_le _, Nat.zero_le _⟩ dX11_back_35 ?_
  refine z_iconst (v := 1) C dX11_back_38 ic_1 ?_
  cases hf
  subst hρ
  exact z_zret C (b2i_narrow _) dX11_back_39
theorem c11_back {l : Launch} {kd : List KD} {w : Wp} {σ : St} (hkd : kd = kdC) (hi : zI kd w) {r : (Bool × St)} (hf : q11_back σ = some r) : zM l kd w yX11_back cX11_back 1 (some .boolean) rm11_back [.ref (w.2.2.1 0)] σ (some (.int (b2i r.1)), r.2) := zM_of rfl hi (Nat.le_of_ble_eq_true rfl) (fun Θ hl hw C => by
  obtain ⟨Θ1, Θ2, Θ3, Θ4, Θ5⟩ := Θ
  cases hw
  exact p11_back C hkd  hf rfl)
/-! LastLoaf.count -/
theorem w_1_151 : Cond.fieldLink "LastLoaf" (447 : Nat) "LastLoaf$Village" "week" "I" ∈ TB := tb_in (lwt_1 (List.mem_of_getElem? (i := 151) (by decide +kernel))) rfl
theorem fg11_447 {Θ : Tz} {cc : ByteArray} {nL kc ks : Nat} {ret : Option FieldType} {rm : Room} {Q : State → Prop} {σ : St} {pc : Nat} {lv : List (Nat × Value)} {st : List Value} (C : Zc Θ cc nL RX11 ret rm) (hkd : Θ.2.2.2.2.1 = kdC) {th : Nat} (hth : isV th) (hd : decode cc pc = .ok (.getfield 447, 3)) (kk : Z Θ nL kc ks Q σ (pc + 3) lv (.int (σ th 12) :: st)) : Z Θ nL kc ks Q σ pc lv (.ref (zA Θ th) :: st) := z_get C inT10 th (kV_0 hkd hth) rfl 12 (by decide) w_1_151 rfl hd kk
theorem w_2_53 : Cond.fieldLink "LastLoaf" (450 : Nat) "LastLoaf$Poll" "voters" "I" ∈ TB := tb_in (lwt_2 (List.mem_of_getElem? (i := 53) (by decide +kernel))) rfl
theorem fg11_450 {Θ : Tz} {cc : ByteArray} {nL kc ks : Nat} {ret : Option FieldType} {rm : Room} {Q : State → Prop} {σ : St} {pc : Nat} {lv : List (Nat × Value)} {st : List Value} (C : Zc Θ cc nL RX11 ret rm) (hkd : Θ.2.2.2.2.1 = kdC) (hd : decode cc pc = .ok (.getfield 450, 3)) (kk : Z Θ nL kc ks Q σ (pc + 3) lv (.int (σ 6 9) :: st)) : Z Θ nL kc ks Q σ pc lv (.ref (zA Θ 6) :: st) := z_get C inT5 6 (kC_6 hkd) rfl 9 (by decide) w_2_53 rfl hd kk
theorem w_1_79 : Cond.fieldLink "LastLoaf" (456 : Nat) "LastLoaf$Log" "size" "I" ∈ TB := tb_in (lwt_1 (List.mem_of_getElem? (i := 79) (by decide +kernel))) rfl
theorem fg11_456 {Θ : Tz} {cc : ByteArray} {nL kc ks : Nat} {ret : Option FieldType} {rm : Room} {Q : State → Prop} {σ : St} {pc : Nat} {lv : List (Nat × Value)} {st : List Value} (C : Zc Θ cc nL RX11 ret rm) (hkd : Θ.2.2.2.2.1 = kdC) {th : Nat} (hth : isLog th) (hd : decode cc pc = .ok (.getfield 456, 3)) (kk : Z Θ nL kc ks Q σ (pc + 3) lv (.int (σ th 1) :: st)) : Z Θ nL kc ks Q σ pc lv (.ref (zA Θ th) :: st) := z_get C inT3 th (kLog_0 hkd hth) rfl 1 (by decide) w_1_79 rfl hd kk
theorem w_2_26 : Cond.fieldLink "LastLoaf" (459 : Nat) "LastLoaf$Past" "size" "I" ∈ TB := tb_in (lwt_2 (List.mem_of_getElem? (i := 26) (by decide +kernel))) rfl
theorem fg11_459 {Θ : Tz} {cc : ByteArray} {nL kc ks : Nat} {ret : Option FieldType} {rm : Room} {Q : State → Prop} {σ : St} {pc : Nat} {lv : List (Nat × Value)} {st : List Value} (C : Zc Θ cc nL RX11 ret rm) (hkd : Θ.2.2.2.2.1 = kdC) (hd : decode cc pc = .ok (.getfield 459, 3)) (kk : Z Θ nL kc ks Q σ (pc + 3) lv (.int (σ 5 1) :: st)) : Z Θ nL kc ks Q σ pc lv (.ref (zA Θ 5) :: st) := z_get C inT4 5 (kC_5 hkd) rfl 1 (by decide) w_2_26 rfl hd kk
theorem dX11_count_0 : decode cX11_count 0 = .ok (.iload_n 1, 1) := by decide +kernel
theorem dX11_count_1 : decode cX11_count 1 = .ok (.tableswitch 174 0 12 #[67, 75, 83, 91, 99, 107, 115, 123, 131, 139, 147, 155, 166], 67) := by decide +kernel
theorem dX11_count_68 : decode cX11_count 68 = .ok (.aload_n 0, 1) := by decide +kernel
theorem dX11_count_69 : decode cX11_count 69 = .ok (.getfield 19, 3) := by decide +kernel
theorem dX11_count_72 : decode cX11_count 72 = .ok (.getfield 355, 3) := by decide +kernel
theorem dX11_count_75 : decode cX11_count 75 = .ok (.ireturn, 1) := by decide +kernel
theorem dX11_count_76 : decode cX11_count 76 = .ok (.aload_n 0, 1) := by decide +kernel
theorem dX11_count_77 : decode cX11_count 77 = .ok (.getfield 19, 3) := by decide +kernel
theorem dX11_count_80 : decode cX11_count 80 = .ok (.getfield 129, 3) := by decide +kernel
theorem dX11_count_83 : decode cX11_count 83 = .ok (.ireturn, 1) := by decide +kernel
theorem dX11_count_84 : decode cX11_count 84 = .ok (.aload_n 0, 1) := by decide +kernel
theorem dX11_count_85 : decode cX11_count 85 = .ok (.getfield 29, 3) := by decide +kernel
theorem dX11_count_88 : decode cX11_count 88 = .ok (.getfield 148, 3) := by decide +kernel
theorem dX11_count_91 : decode cX11_count 91 = .ok (.ireturn, 1) := by decide +kernel
theorem dX11_count_92 : decode cX11_count 92 = .ok (.aload_n 0, 1) := by decide +kernel
theorem dX11_count_93 : decode cX11_count 93 = .ok (.getfield 19, 3) := by decide +kernel
theorem dX11_count_96 : decode cX11_count 96 = .ok (.getfield 447, 3) := by decide +kernel
theorem dX11_count_99 : decode cX11_count 99 = .ok (.ireturn, 1) := by decide +kernel
theorem dX11_count_100 : decode cX11_count 100 = .ok (.aload_n 0, 1) := by decide +kernel
theorem dX11_count_101 : decode cX11_count 101 = .ok (.getfield 19, 3) := by decide +kernel
theorem dX11_count_104 : decode cX11_count 104 = .ok (.getfield 261, 3) := by decide +kernel
theorem dX11_count_107 : decode cX11_count 107 = .ok (.ireturn, 1) := by decide +kernel
theorem dX11_count_108 : decode cX11_count 108 = .ok (.aload_n 0, 1) := by decide +kernel
theorem dX11_count_109 : decode cX11_count 109 = .ok (.getfield 19, 3) := by decide +kernel
theorem dX11_count_112 : decode cX11_count 112 = .ok (.getfield 269, 3) := by decide +kernel
theorem dX11_count_115 : decode cX11_count 115 = .ok (.ireturn, 1) := by decide +kernel
theorem dX11_count_116 : decode cX11_count 116 = .ok (.aload_n 0, 1) := by decide +kernel
theorem dX11_count_117 : decode cX11_count 117 = .ok (.getfield 19, 3) := by decide +kernel
theorem dX11_count_120 : decode cX11_count 120 = .ok (.getfield 404, 3) := by decide +kernel
theorem dX11_count_123 : decode cX11_count 123 = .ok (.ireturn, 1) := by decide +kernel
theorem dX11_count_124 : decode cX11_count 124 = .ok (.aload_n 0, 1) := by decide +kernel
theorem dX11_count_125 : decode cX11_count 125 = .ok (.invokevirtual 180, 3) := by decide +kernel
theorem dX11_count_128 : decode cX11_count 128 = .ok (.getfield 450, 3) := by decide +kernel
theorem dX11_count_131 : decode cX11_count 131 = .ok (.ireturn, 1) := by decide +kernel
theorem dX11_count_132 : decode cX11_count 132 = .ok (.aload_n 0, 1) := by decide +kernel
theorem dX11_count_133 : decode cX11_count 133 = .ok (.getfield 19, 3) := by decide +kernel
theorem dX11_count_136 : decode cX11_count 136 = .ok (.invokevirtual 388, 3) := by decide +kernel
theorem dX11_count_139 : decode cX11_count 139 = .ok (.ireturn, 1) := by decide +kernel
theorem dX11_count_140 : decode cX11_count 140 = .ok (.aload_n 0, 1) := by decide +kernel
theorem dX11_count_141 : decode cX11_count 141 = .ok (.getfield 19, 3) := by decide +kernel
theorem dX11_count_144 : decode cX11_count 144 = .ok (.invokevirtual 385, 3) := by decide +kernel
theorem dX11_count_147 : decode cX11_count 147 = .ok (.ireturn, 1) := by decide +kernel
theorem dX11_count_148 : decode cX11_count 148 = .ok (.aload_n 0, 1) := by decide +kernel
theorem dX11_count_149 : decode cX11_count 149 = .ok (.getfield 19, 3) := by decide +kernel
theorem dX11_count_152 : decode cX11_count 152 = .ok (.invokevirtual 453, 3) := by decide +kernel
theorem dX11_count_155 : decode cX11_count 155 = .ok (.ireturn, 1) := by decide +kernel
theorem dX11_count_156 : decode cX11_count 156 = .ok (.aload_n 0, 1) := by decide +kernel
theorem dX11_count_157 : decode cX11_count 157 = .ok (.getfield 19, 3) := by decide +kernel
theorem dX11_count_160 : decode cX11_count 160 = .ok (.getfield 426, 3) := by decide +kernel
theorem dX11_count_163 : decode cX11_count 163 = .ok (.getfield 456, 3) := by decide +kernel
theorem dX11_count_166 : decode cX11_count 166 = .ok (.ireturn, 1) := by decide +kernel
theorem dX11_count_167 : decode cX11_count 167 = .ok (.aload_n 0, 1) := by decide +kernel
theorem dX11_count_168 : decode cX11_count 168 = .ok (.getfield 54, 3) := by decide +kernel
theorem dX11_count_171 : decode cX11_count 171 = .ok (.getfield 459, 3) := by decide +kernel
theorem dX11_count_174 : decode cX11_count 174 = .ok (.ireturn, 1) := by decide +kernel
theorem dX11_count_175 : decode cX11_count 175 = .ok (.iconst (-1), 1) := by decide +kernel
theorem dX11_count_176 : decode cX11_count 176 = .ok (.ireturn, 1) := by decide +kernel
def q11_count (σ : St) (what_a : Int32) : Option (Int32 × St) :=
  if what_a = 0 then (some (σ 44 8, σ)) else
  if what_a = 1 then (some (σ 44 16, σ)) else
  if what_a = 2 then (some (σ 32 4, σ)) else
  if what_a = 3 then (some (σ 44 12, σ)) else
  if what_a = 4 then (some (σ 44 11, σ)) else
  if what_a = 5 then (some (σ 44 13, σ)) else
  if what_a = 6 then (some (σ 44 14, σ)) else
  if what_a = 7 then (Option.bind (q11_pollNow σ) fun x4_ =>
  some (x4_.2 6 9, x4_.2)) else
  if what_a = 8 then (some (q10_runners σ 44, σ)) else
  if what_a = 9 then (Option.bind (q10_hungerOfAll σ 44) fun x6_ =>
  some (x6_, σ)) else
  if what_a = 10 then (Option.bind (q10_hadOfAll σ 44) fun x8_ =>
  some (x8_, σ)) else
  if what_a = 11 then (some (σ (44 + 8) 1, σ)) else
  if what_a = 12 then (some (σ 5 1, σ)) else
  some ((-1), σ)
abbrev rm11_count : Room := { frames := 5, cells := 0, slots := 0, locals := 116 }
set_option maxHeartbeats 4000000 in
set_option maxRecDepth 100000 in
theorem p11_count {Θ : Tz} {σ : St} {ρ : Option Value × St} (C : Zc Θ cX11_count 2 RX11 (some .int) rm11_count) (hkd : Θ.2.2.2.2.1 = kdC) {what_a : Int32} {r : (Int32 × St)} (hf : q11_count σ what_a = some r) (hρ : ρ = (some (.int r.1), r.2)) : Z Θ 2 0 0 (zQ Θ ρ) σ 0 [(0, .ref (zA Θ 0)), (1, .int what_a)] [] := by
  unfold q11_count at hf
  refine z_iload_n C 1 dX11_count_0 rfl rfl ?_
  by_cases h10_ : what_a = 0
  · rw [if_pos h10_] at hf
    refine z_tswIn (off := 67) C 68 dX11_count_1 (by rw [h10_]; decide) (by rw [h10_]; decide) (by rw [h10_]; decide) (by decide) ?_
    refine z_aload_n C 0 dX11_count_68 rfl rfl ?_
    refine fg11_19 C hkd dX11_count_69 ?_
    refine fg11_355 C hkd isV_44 dX11_count_72 ?_
    cases hf
    subst hρ
    exact z_iret C dX11_count_75
  rw [if_neg h10_] at hf
  by_cases h11_ : what_a = 1
  · rw [if_pos h11_] at hf
    refine z_tswIn (off := 75) C 76 dX11_count_1 (by rw [h11_]; decide) (by rw [h11_]; decide) (by rw [h11_]; decide) (by decide) ?_
    refine z_aload_n C 0 dX11_count_76 rfl rfl ?_
    refine fg11_19 C hkd dX11_count_77 ?_
    refine fg11_129 C hkd isV_44 dX11_count_80 ?_
    cases hf
    subst hρ
    exact z_iret C dX11_count_83
  rw [if_neg h11_] at hf
  by_cases h12_ : what_a = 2
  · rw [if_pos h12_] at hf
    refine z_tswIn (off := 83) C 84 dX11_count_1 (by rw [h12_]; decide) (by rw [h12_]; decide) (by rw [h12_]; decide) (by decide) ?_
    refine z_aload_n C 0 dX11_count_84 rfl rfl ?_
    refine fg11_29 C hkd dX11_count_85 ?_
    refine fg11_148 C hkd isLaw_32 dX11_count_88 ?_
    cases hf
    subst hρ
    exact z_iret C dX11_count_91
  rw [if_neg h12_] at hf
  by_cases h13_ : what_a = 3
  · rw [if_pos h13_] at hf
    refine z_tswIn (off := 91) C 92 dX11_count_1 (by rw [h13_]; decide) (by rw [h13_]; decide) (by rw [h13_]; decide) (by decide) ?_
    refine z_aload_n C 0 dX11_count_92 rfl rfl ?_
    refine fg11_19 C hkd dX11_count_93 ?_
    refine fg11_447 C hkd isV_44 dX11_count_96 ?_
    cases hf
    subst hρ
    exact z_iret C dX11_count_99
  rw [if_neg h13_] at hf
  by_cases h14_ : what_a = 4
  · rw [if_pos h14_] at hf
    refine z_tswIn (off := 99) C 100 dX11_count_1 (by rw [h14_]; decide) (by rw [h14_]; decide) (by rw [h14_]; decide) (by decide) ?_
    refine z_aload_n C 0 dX11_count_100 rfl rfl ?_
    refine fg11_19 C hkd dX11_count_101 ?_
    refine fg11_261 C hkd isV_44 dX11_count_104 ?_
    cases hf
    subst hρ
    exact z_iret C dX11_count_107
  rw [if_neg h14_] at hf
  by_cases h15_ : what_a = 5
  · rw [if_pos h15_] at hf
    refine z_tswIn (off := 107) C 108 dX11_count_1 (by rw [h15_]; decide) (by rw [h15_]; decide) (by rw [h15_]; decide) (by decide) ?_
    refine z_aload_n C 0 dX11_count_108 rfl rfl ?_
    refine fg11_19 C hkd dX11_count_109 ?_
    refine fg11_269 C hkd isV_44 dX11_count_112 ?_
    cases hf
    subst hρ
    exact z_iret C dX11_count_115
  rw [if_neg h15_] at hf
  by_cases h16_ : what_a = 6
  · rw [if_pos h16_] at hf
    refine z_tswIn (off := 115) C 116 dX11_count_1 (by rw [h16_]; decide) (by rw [h16_]; decide) (by rw [h16_]; decide) (by decide) ?_
    refine z_aload_n C 0 dX11_count_116 rfl rfl ?_
    refine fg11_19 C hkd dX11_count_117 ?_
    refine fg11_404 C hkd isV_44 dX11_count_120 ?_
    cases hf
    subst hρ
    exact z_iret C dX11_count_123
  rw [if_neg h16_] at hf
  by_cases h17_ : what_a = 7
  · rw [if_pos h17_] at hf
    refine z_tswIn (off := 123) C 124 dX11_count_1 (by rw [h17_]; decide) (by rw [h17_]; decide) (by rw [h17_]; decide) (by decide) ?_
    refine z_aload_n C 0 dX11_count_124 rfl rfl ?_
    obtain ⟨x4_, h5_, hf⟩ := ob hf
    refine cr11_180 C hkd  h5_ ⟨(Nat.le_of_ble_eq_true rfl), (Nat.le_of_ble_eq_true rfl)⟩ (Nat.le_of_ble_eq_true rfl) ⟨Nat.zero_le _, Nat.zero_le _⟩ dX11_count_125 ?_
    rw [rp11_pollNow h5_]
    refine fg11_450 C hkd dX11_count_128 ?_
    cases hf
    subst hρ
    exact z_iret C dX11_count_131
  rw [if_neg h17_] at hf
  by_cases h18_ : what_a = 8
  · rw [if_pos h18_] at hf
    refine z_tswIn (off := 131) C 132 dX11_count_1 (by rw [h18_]; decide) (by rw [h18_]; decide) (by rw [h18_]; decide) (by decide) ?_
    refine z_aload_n C 0 dX11_count_132 rfl rfl ?_
    refine fg11_19 C hkd dX11_count_133 ?_
    refine cr11_388 (th := 44) C hkd isV_44 ⟨(Nat.le_of_ble_eq_true rfl), (Nat.le_of_ble_eq_true rfl)⟩ (Nat.le_of_ble_eq_true rfl) ⟨Nat.zero_le _, Nat.zero_le _⟩ dX11_count_136 ?_
    cases hf
    subst hρ
    exact z_iret C dX11_count_139
  rw [if_neg h18_] at hf
  by_cases h19_ : what_a = 9
  · rw [if_pos h19_] at hf
    refine z_tswIn (off := 139) C 140 dX11_count_1 (by rw [h19_]; decide) (by rw [h19_]; decide) (by rw [h19_]; decide) (by decide) ?_
    refine z_aload_n C 0 dX11_count_140 rfl rfl ?_
    refine fg11_19 C hkd dX11_count_141 ?_
    obtain ⟨x6_, h7_, hf⟩ := ob hf
    refine cr11_385 (th := 44) C hkd isV_44 h7_ ⟨(Nat.le_of_ble_eq_true rfl), (Nat.le_of_ble_eq_true rfl)⟩ (Nat.le_of_ble_eq_true rfl) ⟨Nat.zero_le _, Nat.zero_le _⟩ dX11_count_144 ?_
    cases hf
    subst hρ
    exact z_iret C dX11_count_147
  rw [if_neg h19_] at hf
  by_cases h20_ : what_a = 10
  · rw [if_pos h20_] at hf
    refine z_tswIn (off := 147) C 148 dX11_count_1 (by rw [h20_]; decide) (by rw [h20_]; decide) (by rw [h20_]; decide) (by decide) ?_
    refine z_aload_n C 0 dX11_count_148 rfl rfl ?_
    refine fg11_19 C hkd dX11_count_149 ?_
    obtain ⟨x8_, h9_, hf⟩ := ob hf
    refine cr11_453 (th := 44) C hkd isV_44 h9_ ⟨(Nat.le_of_ble_eq_true rfl), (Nat.le_of_ble_eq_true rfl)⟩ (Nat.le_of_ble_eq_true rfl) ⟨Nat.zero_le _, Nat.zero_le _⟩ dX11_count_152 ?_
    cases hf
    subst hρ
    exact z_iret C dX11_count_155
  rw [if_neg h20_] at hf
  by_cases h21_ : what_a = 11
  · rw [if_pos h21_] at hf
    refine z_tswIn (off := 155) C 156 dX11_count_1 (by rw [h21_]; decide) (by rw [h21_]; decide) (by rw [h21_]; decide) (by decide) ?_
    refine z_aload_n C 0 dX11_count_156 rfl rfl ?_
    refine fg11_19 C hkd dX11_count_157 ?_
    refine fg11_426 C hkd isV_44 dX11_count_160 ?_
    refine fg11_456 C hkd (isLog_of isV_44) dX11_count_163 ?_
    cases hf
    subst hρ
    exact z_iret C dX11_count_166
  rw [if_neg h21_] at hf
  by_cases h22_ : what_a = 12
  · rw [if_pos h22_] at hf
    refine z_tswIn (off := 166) C 167 dX11_count_1 (by rw [h22_]; decide) (by rw [h22_]; decide) (by rw [h22_]; decide) (by decide) ?_
    refine z_aload_n C 0 dX11_count_167 rfl rfl ?_
    refine fg11_54 C hkd dX11_count_168 ?_
    refine fg11_459 C hkd dX11_count_171 ?_
    cases hf
    subst hρ
    exact z_iret C dX11_count_174
  rw [if_neg h22_] at hf
  refine z_tswOut C 175 dX11_count_1 (sw_out2 (x := what_a) _ _ 0 12 (by decide) (by decide) (by decide) (fun j9 hj9 => by (have q8 : j9 = 0 ∨ j9 = 1 ∨ j9 = 2 ∨ j9 = 3 ∨ j9 = 4 ∨ j9 = 5 ∨ j9 = 6 ∨ j9 = 7 ∨ j9 = 8 ∨ j9 = 9 ∨ j9 = 10 ∨ j9 = 11 ∨ j9 = 12 := by omega); rcases q8 with rfl | rfl | rfl | rfl | rfl | rfl | rfl | rfl | rfl | rfl | rfl | rfl | rfl <;> first | exact h10_ | exact h11_ | exact h12_ | exact h13_ | exact h14_ | exact h15_ | exact h16_ | exact h17_ | exact h18_ | exact h19_ | exact h20_ | exact h21_ | exact h22_)) (by decide) ?_
  refine z_iconst (v := (-1)) C dX11_count_175 ic_m1 ?_
  cases hf
  subst hρ
  exact z_iret C dX11_count_176
theorem c11_count {l : Launch} {kd : List KD} {w : Wp} {σ : St} {what_a : Int32} (hkd : kd = kdC) (hi : zI kd w) {r : (Int32 × St)} (hf : q11_count σ what_a = some r) : zM l kd w yX11_count cX11_count 2 (some .int) rm11_count [.ref (w.2.2.1 0), .int what_a] σ (some (.int r.1), r.2) := zM_of rfl hi (Nat.le_of_ble_eq_true rfl) (fun Θ hl hw C => by
  obtain ⟨Θ1, Θ2, Θ3, Θ4, Θ5⟩ := Θ
  cases hw
  exact p11_count C hkd  hf rfl)

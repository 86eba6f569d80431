/-! LastLoaf$Poll.wonOver -/
theorem bp_64 : (Int8.ofInt (64)).toInt32 = 64 := by decide +kernel
theorem w_6_19 : Cond.code ({ cls := "LastLoaf$Poll", name := "hasItWith", desc := "(II)Z" } : MethodName) prog_7_method_26_code (5 : Nat) (Option.some ClassFile.FieldType.boolean) ∈ TB := tb_in (lwt_6 (List.mem_of_getElem? (i := 19) (by decide +kernel))) rfl
theorem w_6_16 : Cond.methodLink "LastLoaf$Poll" (143 : Nat) ({ cls := "LastLoaf$Poll", name := "hasItWith", desc := "(II)Z" } : MethodName) ∈ TB := tb_in (lwt_6 (List.mem_of_getElem? (i := 16) (by decide +kernel))) rfl
theorem w_6_17 : Cond.instanceMethod ({ cls := "LastLoaf$Poll", name := "hasItWith", desc := "(II)Z" } : MethodName) ∈ TB := tb_in (lwt_6 (List.mem_of_getElem? (i := 17) (by decide +kernel))) rfl
theorem w_6_18 : Cond.selects "LastLoaf$Poll" ({ cls := "LastLoaf$Poll", name := "hasItWith", desc := "(II)Z" } : MethodName) ({ cls := "LastLoaf$Poll", name := "hasItWith", desc := "(II)Z" } : MethodName) ∈ TB := tb_in (lwt_6 (List.mem_of_getElem? (i := 18) (by decide +kernel))) rfl
theorem cr5_143 {Θ : Tz} {cc : ByteArray} {nL kc ks : Nat} {ret : Option FieldType} {rm : Room} {Q : State → Prop} {σ : St} {pc : Nat} {lv : List (Nat × Value)} {st : List Value} (C : Zc Θ cc nL RX5 ret rm) (hkd : Θ.2.2.2.2.1 = kdC) {person_a : Int32} {turned_a : Int32} {r : Bool × St} (hx : q5_hasItWith σ person_a turned_a = some r) (hrm : rm5_hasItWith.frames + 1 ≤ rm.frames ∧ 8 + (5 + 11) + rm5_hasItWith.locals ≤ rm.locals) (hcat : (st.map fun v => v.category).sum ≤ 8) (hk : kc ≤ rm.cells ∧ ks ≤ rm.slots) (hd : decode cc pc = .ok (.invokevirtual 143, 3)) (kk : Z Θ nL kc ks Q r.2 (pc + 3) lv (.int (b2i r.1) :: st)) : Z Θ nL kc ks Q σ pc lv (.int turned_a :: .int person_a :: .ref (zA Θ 6) :: st) := z_callV C 6 [.int person_a, .int turned_a] (some (.int (b2i r.1)), r.2) 2 (kC_6 hkd) rfl (c5_hasItWith (person_a := person_a) (turned_a := turned_a) hkd (zc_inj C) hx) w_6_19 w_6_16 w_6_17 w_6_18 w_1_9 ⟨rfl, rfl, hrm.1, hrm.2⟩ (by decide +kernel) rfl rfl hcat hk hd kk
theorem dX5_wonOver_0 : decode cX5_wonOver 0 = .ok (.iconst (-1), 1) := by decide +kernel
theorem dX5_wonOver_1 : decode cX5_wonOver 1 = .ok (.istore_n 2, 1) := by decide +kernel
theorem dX5_wonOver_2 : decode cX5_wonOver 2 = .ok (.aload_n 0, 1) := by decide +kernel
theorem dX5_wonOver_3 : decode cX5_wonOver 3 = .ok (.getfield 34, 3) := by decide +kernel
theorem dX5_wonOver_6 : decode cX5_wonOver 6 = .ok (.iload_n 1, 1) := by decide +kernel
theorem dX5_wonOver_7 : decode cX5_wonOver 7 = .ok (.invokestatic 58, 3) := by decide +kernel
theorem dX5_wonOver_10 : decode cX5_wonOver 10 = .ok (.ifCond .ne 5, 3) := by decide +kernel
theorem dX5_wonOver_13 : decode cX5_wonOver 13 = .ok (.iload_n 2, 1) := by decide +kernel
theorem dX5_wonOver_14 : decode cX5_wonOver 14 = .ok (.ireturn, 1) := by decide +kernel
theorem dX5_wonOver_15 : decode cX5_wonOver 15 = .ok (.iconst 0, 1) := by decide +kernel
theorem dX5_wonOver_16 : decode cX5_wonOver 16 = .ok (.istore_n 3, 1) := by decide +kernel
theorem dX5_wonOver_17 : decode cX5_wonOver 17 = .ok (.iload_n 3, 1) := by decide +kernel
theorem dX5_wonOver_18 : decode cX5_wonOver 18 = .ok (.bipush 64, 2) := by decide +kernel
theorem dX5_wonOver_20 : decode cX5_wonOver 20 = .ok (.if_icmp .ge 59, 3) := by decide +kernel
theorem dX5_wonOver_23 : decode cX5_wonOver 23 = .ok (.iload_n 2, 1) := by decide +kernel
theorem dX5_wonOver_24 : decode cX5_wonOver 24 = .ok (.iconst (-1), 1) := by decide +kernel
theorem dX5_wonOver_25 : decode cX5_wonOver 25 = .ok (.if_icmp .eq 14, 3) := by decide +kernel
theorem dX5_wonOver_28 : decode cX5_wonOver 28 = .ok (.iload_n 3, 1) := by decide +kernel
theorem dX5_wonOver_29 : decode cX5_wonOver 29 = .ok (.invokestatic 49, 3) := by decide +kernel
theorem dX5_wonOver_32 : decode cX5_wonOver 32 = .ok (.iload_n 2, 1) := by decide +kernel
theorem dX5_wonOver_33 : decode cX5_wonOver 33 = .ok (.invokestatic 49, 3) := by decide +kernel
theorem dX5_wonOver_36 : decode cX5_wonOver 36 = .ok (.if_icmp .ge 7, 3) := by decide +kernel
theorem dX5_wonOver_39 : decode cX5_wonOver 39 = .ok (.iconst 1, 1) := by decide +kernel
theorem dX5_wonOver_40 : decode cX5_wonOver 40 = .ok (.goto 4, 3) := by decide +kernel
theorem dX5_wonOver_43 : decode cX5_wonOver 43 = .ok (.iconst 0, 1) := by decide +kernel
theorem dX5_wonOver_44 : decode cX5_wonOver 44 = .ok (.istore 4, 2) := by decide +kernel
theorem dX5_wonOver_46 : decode cX5_wonOver 46 = .ok (.iload_n 3, 1) := by decide +kernel
theorem dX5_wonOver_47 : decode cX5_wonOver 47 = .ok (.aload_n 0, 1) := by decide +kernel
theorem dX5_wonOver_48 : decode cX5_wonOver 48 = .ok (.getfield 40, 3) := by decide +kernel
theorem dX5_wonOver_51 : decode cX5_wonOver 51 = .ok (.iconst (-1), 1) := by decide +kernel
theorem dX5_wonOver_52 : decode cX5_wonOver 52 = .ok (.ixor, 1) := by decide +kernel
theorem dX5_wonOver_53 : decode cX5_wonOver 53 = .ok (.iand, 1) := by decide +kernel
theorem dX5_wonOver_54 : decode cX5_wonOver 54 = .ok (.ifCond .ne 19, 3) := by decide +kernel
theorem dX5_wonOver_57 : decode cX5_wonOver 57 = .ok (.iload 4, 2) := by decide +kernel
theorem dX5_wonOver_59 : decode cX5_wonOver 59 = .ok (.ifCond .eq 14, 3) := by decide +kernel
theorem dX5_wonOver_62 : decode cX5_wonOver 62 = .ok (.aload_n 0, 1) := by decide +kernel
theorem dX5_wonOver_63 : decode cX5_wonOver 63 = .ok (.iload_n 1, 1) := by decide +kernel
theorem dX5_wonOver_64 : decode cX5_wonOver 64 = .ok (.iload_n 3, 1) := by decide +kernel
theorem dX5_wonOver_65 : decode cX5_wonOver 65 = .ok (.invokevirtual 143, 3) := by decide +kernel
theorem dX5_wonOver_68 : decode cX5_wonOver 68 = .ok (.ifCond .eq 5, 3) := by decide +kernel
theorem dX5_wonOver_71 : decode cX5_wonOver 71 = .ok (.iload_n 3, 1) := by decide +kernel
theorem dX5_wonOver_72 : decode cX5_wonOver 72 = .ok (.istore_n 2, 1) := by decide +kernel
theorem dX5_wonOver_73 : decode cX5_wonOver 73 = .ok (.iinc 3 1, 3) := by decide +kernel
theorem dX5_wonOver_76 : decode cX5_wonOver 76 = .ok (.goto (-59), 3) := by decide +kernel
theorem dX5_wonOver_79 : decode cX5_wonOver 79 = .ok (.iload_n 2, 1) := by decide +kernel
theorem dX5_wonOver_80 : decode cX5_wonOver 80 = .ok (.ireturn, 1) := by decide +kernel
def q5_wonOver (σ : St) (person_a : Int32) : Option (Int32 × St) :=
  if ¬ (q11_isIn (σ 6 7) person_a = true) then (some ((-1), σ)) else
  Option.bind (loop3 (fun rec8_ (best11_ : Int32) (set12_ : Int32) (σ13_ : St) =>
  if set12_ < 64 then
  lt (decide ((best11_ = (-1)) ∨ ((bcount set12_) < (bcount best11_)))) fun isFewer26_ =>
  Option.bind (Option.bind (if (set12_ &&& ((σ13_ 6 9) ^^^ (-1))) = 0 then (if isFewer26_ = true then (Option.bind (q5_hasItWith σ13_ person_a set12_) fun x37_ =>
  if x37_.1 = true then (some (true, x37_.2)) else (some (false, x37_.2))) else (some (false, σ13_))) else (some (false, σ13_))) fun t33_ =>
  if t33_.1 = true then (some (set12_, t33_.2)) else (some (best11_, t33_.2))) fun y28_ =>
  lt (set12_ + 1) fun set41_ =>
  rec8_ y28_.1 set41_ y28_.2
  else (some (best11_, set12_, σ13_))) fuelN (-1 : Int32) (0 : Int32) σ) fun y5_ =>
  some (y5_.1, y5_.2.2)
abbrev rm5_wonOver : Room := { frames := 3, cells := 0, slots := 0, locals := 68 }
set_option maxHeartbeats 4000000 in
set_option maxRecDepth 100000 in
theorem p5_wonOver {Θ : Tz} {σ : St} {ρ : Option Value × St} (C : Zc Θ cX5_wonOver 5 RX5 (some .int) rm5_wonOver) (hkd : Θ.2.2.2.2.1 = kdC) {person_a : Int32} {r : (Int32 × St)} (hf : q5_wonOver σ person_a = some r) (hρ : ρ = (some (.int r.1), r.2)) : Z Θ 5 0 0 (zQ Θ ρ) σ 0 [(0, .ref (zA Θ 6)), (1, .int person_a)] [] := by
  unfold q5_wonOver at hf
  refine z_iconst (v := (-1)) C dX5_wonOver_0 ic_m1 ?_
  refine z_istN C dX5_wonOver_1 rfl rfl (Nat.le_of_ble_eq_true rfl) rfl ?_
  have K1_ : ¬ (q11_isIn (σ 6 7) person_a = true) → Z Θ 5 0 0 (zQ Θ ρ) σ 13 [(2, .int (-1)), (0, .ref (zA Θ 6)), (1, .int person_a)] [] := by
    intro h4_
    rw [if_pos h4_] at hf
    refine z_iload_n C 0 dX5_wonOver_13 rfl rfl ?_
    cases hf
    subst hρ
    exact z_iret C dX5_wonOver_14
  suffices K2_ : ¬ (¬ (q11_isIn (σ 6 7) person_a = true)) → Z Θ 5 0 0 (zQ Θ ρ) σ 15 [(2, .int (-1)), (0, .ref (zA Θ 6)), (1, .int person_a)] [] by
    refine z_aload_n C 1 dX5_wonOver_2 rfl rfl ?_
    refine fg5_34 C hkd dX5_wonOver_3 ?_
    refine z_iload_n C 2 dX5_wonOver_6 rfl rfl ?_
    refine cr5_58 (set_a := (σ 6 7)) (person_a := person_a) C hkd  ⟨(Nat.le_of_ble_eq_true rfl), (Nat.le_of_ble_eq_true rfl)⟩ (Nat.le_of_ble_eq_true rfl) ⟨Nat.zero_le _, Nat.zero_le _⟩ dX5_wonOver_7 ?_
    refine cb_t C 15 dX5_wonOver_10 (by decide) (fun h3_ => ?_) (fun h3_ => ?_)
    · exact K2_ (fun n => n h3_)
    · exact K1_ h3_
  intro h4_
  rw [if_neg h4_] at hf
  refine z_iconst (v := 0) C dX5_wonOver_15 ic_0 ?_
  refine z_istN C dX5_wonOver_16 rfl rfl (Nat.le_of_ble_eq_true rfl) rfl ?_
  refine Z.sub [2, 3, 1, 0] rfl ?_
  obtain ⟨y5_, h6_, hf⟩ := ob hf
  suffices K7_ : Z Θ 5 0 0 (zQ Θ ρ) y5_.2.2 79 [(0, .ref (zA Θ 6)), (1, .int person_a), (2, .int y5_.1), (3, .int y5_.2.1)] [] by
    refine loop3_Z (P := fun (best11_ : Int32) (set12_ : Int32) (σ13_ : St) => Z Θ 5 0 0 (zQ Θ ρ) σ13_ 17 [(0, .ref (zA Θ 6)), (1, .int person_a), (2, .int best11_), (3, .int set12_)] []) ?_ fuelN (-1 : Int32) (0 : Int32) σ h6_
    clear h6_
    intro rec8_ best11_ set12_ σ13_ h9_ h10_
    have K16_ : set12_ < 64 → Z Θ 5 0 0 (zQ Θ ρ) σ13_ 23 [(0, .ref (zA Θ 6)), (1, .int person_a), (2, .int best11_), (3, .int set12_)] [] := by
      intro h19_
      rw [if_pos h19_] at h10_
      suffices K20_ : Z Θ 5 0 0 (zQ Θ ρ) σ13_ 44 [(0, .ref (zA Θ 6)), (1, .int person_a), (2, .int best11_), (3, .int set12_)] [.int (b2i (decide ((best11_ = (-1)) ∨ ((bcount set12_) < (bcount best11_)))))] by
        have K21_ : (best11_ = (-1)) ∨ ((bcount set12_) < (bcount best11_)) → Z Θ 5 0 0 (zQ Θ ρ) σ13_ 39 [(0, .ref (zA Θ 6)), (1, .int person_a), (2, .int best11_), (3, .int set12_)] [] := by
          intro h25_
          rw [decide_eq_true h25_] at K20_
          refine z_iconst (v := 1) C dX5_wonOver_39 ic_1 ?_
          refine z_goto C 44 dX5_wonOver_40 (by decide) ?_
          exact K20_
        have K22_ : ¬ ((best11_ = (-1)) ∨ ((bcount set12_) < (bcount best11_))) → Z Θ 5 0 0 (zQ Θ ρ) σ13_ 43 [(0, .ref (zA Θ 6)), (1, .int person_a), (2, .int best11_), (3, .int set12_)] [] := by
          intro h25_
          rw [decide_eq_false h25_] at K20_
          refine z_iconst (v := 0) C dX5_wonOver_43 ic_0 ?_
          exact K20_
        refine z_iload_n C 2 dX5_wonOver_23 rfl rfl ?_
        refine z_iconst (v := (-1)) C dX5_wonOver_24 ic_m1 ?_
        refine c_eq_t C 39 dX5_wonOver_25 (by decide) (fun h23_ => ?_) (fun h23_ => ?_)
        · exact K21_ (Or.inl h23_)
        · refine z_iload_n C 3 dX5_wonOver_28 rfl rfl ?_
          refine z_callS C [.int set12_] (some (.int (bcount set12_)), σ13_) 1 (cJ_bitCount (zc_inj C)) w_3_30 w_3_28 w_3_29 w_1_26 ⟨rfl, rfl, (Nat.le_of_ble_eq_true rfl), (Nat.le_of_ble_eq_true rfl)⟩ (by decide +kernel) rfl rfl (Nat.le_of_ble_eq_true rfl) ⟨Nat.zero_le _, Nat.zero_le _⟩ dX5_wonOver_29 ?_
          refine z_iload_n C 2 dX5_wonOver_32 rfl rfl ?_
          refine z_callS C [.int best11_] (some (.int (bcount best11_)), σ13_) 1 (cJ_bitCount (zc_inj C)) w_3_30 w_3_28 w_3_29 w_1_26 ⟨rfl, rfl, (Nat.le_of_ble_eq_true rfl), (Nat.le_of_ble_eq_true rfl)⟩ (by decide +kernel) rfl rfl (Nat.le_of_ble_eq_true rfl) ⟨Nat.zero_le _, Nat.zero_le _⟩ dX5_wonOver_33 ?_
          refine c_lt_f C 43 dX5_wonOver_36 (by decide) (fun h24_ => ?_) (fun h24_ => ?_)
          · exact K21_ (Or.inr h24_)
          · exact K22_ (fun n => n.elim h23_ h24_)
      obtain ⟨isFewer26_, h27_, h10_⟩ := lt_ h10_
      refine z_ist C dX5_wonOver_44 (congrArg b2i h27_) (Nat.le_of_ble_eq_true rfl) rfl ?_
      obtain ⟨y28_, h29_, h10_⟩ := ob h10_
      suffices K30_ : Z Θ 5 0 0 (zQ Θ ρ) y28_.2 73 [(0, .ref (zA Θ 6)), (1, .int person_a), (2, .int y28_.1), (3, .int set12_), (4, .int (b2i isFewer26_))] [] by
        obtain ⟨t33_, h34_, h29_⟩ := ob h29_
        have K31_ : t33_.1 = true → Z Θ 5 0 0 (zQ Θ ρ) t33_.2 71 [(4, .int (b2i isFewer26_)), (0, .ref (zA Θ 6)), (1, .int person_a), (2, .int best11_), (3, .int set12_)] [] := by
          intro h40_
          rw [if_pos h40_] at h29_
          refine z_iload_n C 4 dX5_wonOver_71 rfl rfl ?_
          refine z_istN C dX5_wonOver_72 rfl rfl (Nat.le_of_ble_eq_true rfl) rfl ?_
          cases h29_
          refine Z.sub [2, 3, 0, 4, 1] rfl ?_
          exact K30_
        have K32_ : ¬ (t33_.1 = true) → Z Θ 5 0 0 (zQ Θ ρ) t33_.2 73 [(4, .int (b2i isFewer26_)), (0, .ref (zA Θ 6)), (1, .int person_a), (2, .int best11_), (3, .int set12_)] [] := by
          intro h40_
          rw [if_neg h40_] at h29_
          cases h29_
          refine Z.sub [1, 2, 3, 4, 0] rfl ?_
          exact K30_
        refine z_iload_n C 4 dX5_wonOver_46 rfl rfl ?_
        refine z_aload_n C 1 dX5_wonOver_47 rfl rfl ?_
        refine fg5_40 C hkd dX5_wonOver_48 ?_
        refine z_iconst (v := (-1)) C dX5_wonOver_51 ic_m1 ?_
        refine z_ixor C dX5_wonOver_52 ?_
        refine z_iand C dX5_wonOver_53 ?_
        refine c0_eq_f C 73 dX5_wonOver_54 (by decide) (fun h35_ => ?_) (fun h35_ => ?_)
        · rw [if_pos h35_] at h34_
          refine z_iload C 0 dX5_wonOver_57 rfl ?_
          refine cb_f C 73 dX5_wonOver_59 (by decide) (fun h36_ => ?_) (fun h36_ => ?_)
          · rw [if_pos h36_] at h34_
            refine z_aload_n C 1 dX5_wonOver_62 rfl rfl ?_
            refine z_iload_n C 2 dX5_wonOver_63 rfl rfl ?_
            refine z_iload_n C 4 dX5_wonOver_64 rfl rfl ?_
            obtain ⟨x37_, h38_, h34_⟩ := ob h34_
            refine cr5_143 (person_a := person_a) (turned_a := set12_) C hkd  h38_ ⟨(Nat.le_of_ble_eq_true rfl), (Nat.le_of_ble_eq_true rfl)⟩ (Nat.le_of_ble_eq_true rfl) ⟨Nat.zero_le _, Nat.zero_le _⟩ dX5_wonOver_65 ?_
            refine cb_f C 73 dX5_wonOver_68 (by decide) (fun h39_ => ?_) (fun h39_ => ?_)
            · rw [if_pos h39_] at h34_
              cases h34_
              exact K31_ rfl
            · rw [if_neg h39_] at h34_
              cases h34_
              exact K32_ Bool.false_ne_true
          · rw [if_neg h36_] at h34_
            cases h34_
            exact K32_ Bool.false_ne_true
        · rw [if_neg h35_] at h34_
          cases h34_
          exact K32_ Bool.false_ne_true
      obtain ⟨set41_, h42_, h10_⟩ := lt_ h10_
      refine z_inc C 3 dX5_wonOver_73 rfl ic_1 h42_ (Nat.le_of_ble_eq_true rfl) rfl ?_
      refine z_goto C 17 dX5_wonOver_76 (by decide) ?_
      refine Z.sub [1, 2, 3, 0] rfl ?_
      exact h9_ _ _ _ h10_
    have K17_ : ¬ (set12_ < 64) → Z Θ 5 0 0 (zQ Θ ρ) σ13_ 79 [(0, .ref (zA Θ 6)), (1, .int person_a), (2, .int best11_), (3, .int set12_)] [] := by
      intro h19_
      rw [if_neg h19_] at h10_
      cases h10_
      exact K7_
    refine z_iload_n C 3 dX5_wonOver_17 rfl rfl ?_
    refine z_bipush (v := 64) C dX5_wonOver_18 bp_64 ?_
    refine c_lt_f C 79 dX5_wonOver_20 (by decide) (fun h18_ => ?_) (fun h18_ => ?_)
    · exact K16_ h18_
    · exact K17_ h18_
  refine z_iload_n C 2 dX5_wonOver_79 rfl rfl ?_
  cases hf
  subst hρ
  exact z_iret C dX5_wonOver_80
theorem c5_wonOver {l : Launch} {kd : List KD} {w : Wp} {σ : St} {person_a : Int32} (hkd : kd = kdC) (hi : zI kd w) {r : (Int32 × St)} (hf : q5_wonOver σ person_a = some r) : zM l kd w yX5_wonOver cX5_wonOver 5 (some .int) rm5_wonOver [.ref (w.2.2.1 6), .int person_a] σ (some (.int r.1), r.2) := zM_of rfl hi (Nat.le_of_ble_eq_true rfl) (fun Θ hl hw C => by
  obtain ⟨Θ1, Θ2, Θ3, Θ4, Θ5⟩ := Θ
  cases hw
  exact p5_wonOver C hkd  hf rfl)
/-! LastLoaf.needed -/
theorem w_3_19 : Cond.code ({ cls := "LastLoaf", name := "pollNow", desc := "()LLastLoaf$Poll;" } : MethodName) prog_1_method_76_code (1 : Nat) (Option.some (ClassFile.FieldType.object "LastLoaf$Poll")) ∈ TB := tb_in (lwt_3 (List.mem_of_getElem? (i := 19) (by decide +kernel))) rfl
theorem w_3_16 : Cond.methodLink "LastLoaf" (180 : Nat) ({ cls := "LastLoaf", name := "pollNow", desc := "()LLastLoaf$Poll;" } : MethodName) ∈ TB := tb_in (lwt_3 (List.mem_of_getElem? (i := 16) (by decide +kernel))) rfl
theorem w_3_18 : Cond.instanceMethod ({ cls := "LastLoaf", name := "pollNow", desc := "()LLastLoaf$Poll;" } : MethodName) ∈ TB := tb_in (lwt_3 (List.mem_of_getElem? (i := 18) (by decide +kernel))) rfl
theorem ws_LastLoaf_pollNow__LLastLoaf_Poll_ : Cond.selects "LastLoaf" (⟨"LastLoaf", "pollNow", "()LLastLoaf$Poll;"⟩ : MethodName) (⟨"LastLoaf", "pollNow", "()LLastLoaf$Poll;"⟩ : MethodName) ∈ TB := tb_in (List.mem_append_left _ (List.mem_of_getElem? (i := 0) (by decide +kernel))) rfl
theorem cr11_180 {Θ : Tz} {cc : ByteArray} {nL kc ks : Nat} {ret : Option FieldType} {rm : Room} {Q : State → Prop} {σ : St} {pc : Nat} {lv : List (Nat × Value)} {st : List Value} (C : Zc Θ cc nL RX11 ret rm) (hkd : Θ.2.2.2.2.1 = kdC) {r : Nat × St} (hx : q11_pollNow σ = some r) (hrm : rm11_pollNow.frames + 1 ≤ rm.frames ∧ 8 + (1 + 11) + rm11_pollNow.locals ≤ rm.locals) (hcat : (st.map fun v => v.category).sum ≤ 8) (hk : kc ≤ rm.cells ∧ ks ≤ rm.slots) (hd : decode cc pc = .ok (.invokevirtual 180, 3)) (kk : Z Θ nL kc ks Q r.2 (pc + 3) lv (.ref (zA Θ r.1) :: st)) : Z Θ nL kc ks Q σ pc lv (.ref (zA Θ 0) :: st) := z_callV C 0 [] (some (.ref (zA Θ r.1)), r.2) 0 (kC_0 hkd) rfl (c11_pollNow hkd (zc_inj C) hx) w_3_19 w_3_16 w_3_18 ws_LastLoaf_pollNow__LLastLoaf_Poll_ w_1_1 ⟨rfl, rfl, hrm.1, hrm.2⟩ (by decide +kernel) rfl rfl hcat hk hd kk
theorem w_6_15 : Cond.code ({ cls := "LastLoaf$Poll", name := "wonOver", desc := "(I)I" } : MethodName) prog_7_method_25_code (5 : Nat) (Option.some ClassFile.FieldType.int) ∈ TB := tb_in (lwt_6 (List.mem_of_getElem? (i := 15) (by decide +kernel))) rfl
theorem w_6_12 : Cond.methodLink "LastLoaf" (299 : Nat) ({ cls := "LastLoaf$Poll", name := "wonOver", desc := "(I)I" } : MethodName) ∈ TB := tb_in (lwt_6 (List.mem_of_getElem? (i := 12) (by decide +kernel))) rfl
theorem w_6_13 : Cond.instanceMethod ({ cls := "LastLoaf$Poll", name := "wonOver", desc := "(I)I" } : MethodName) ∈ TB := tb_in (lwt_6 (List.mem_of_getElem? (i := 13) (by decide +kernel))) rfl
theorem w_6_14 : Cond.selects "LastLoaf$Poll" ({ cls := "LastLoaf$Poll", name := "wonOver", desc := "(I)I" } : MethodName) ({ cls := "LastLoaf$Poll", name := "wonOver", desc := "(I)I" } : MethodName) ∈ TB := tb_in (lwt_6 (List.mem_of_getElem? (i := 14) (by decide +kernel))) rfl
theorem cr11_299 {Θ : Tz} {cc : ByteArray} {nL kc ks : Nat} {ret : Option FieldType} {rm : Room} {Q : State → Prop} {σ : St} {pc : Nat} {lv : List (Nat × Value)} {st : List Value} (C : Zc Θ cc nL RX11 ret rm) (hkd : Θ.2.2.2.2.1 = kdC) {person_a : Int32} {r : Int32 × St} (hx : q5_wonOver σ person_a = some r) (hrm : rm5_wonOver.frames + 1 ≤ rm.frames ∧ 8 + (5 + 11) + rm5_wonOver.locals ≤ rm.locals) (hcat : (st.map fun v => v.category).sum ≤ 8) (hk : kc ≤ rm.cells ∧ ks ≤ rm.slots) (hd : decode cc pc = .ok (.invokevirtual 299, 3)) (kk : Z Θ nL kc ks Q r.2 (pc + 3) lv (.int r.1 :: st)) : Z Θ nL kc ks Q σ pc lv (.int person_a :: .ref (zA Θ 6) :: st) := z_callV C 6 [.int person_a] (some (.int r.1), r.2) 1 (kC_6 hkd) rfl (c5_wonOver (person_a := person_a) hkd (zc_inj C) hx) w_6_15 w_6_12 w_6_13 w_6_14 w_1_9 ⟨rfl, rfl, hrm.1, hrm.2⟩ (by decide +kernel) rfl rfl hcat hk hd kk
theorem w_4_11 : Cond.methodLink "LastLoaf" (238 : Nat) ({ cls := "java/lang/Integer", name := "bitCount", desc := "(I)I" } : MethodName) ∈ TB := tb_in (lwt_4 (List.mem_of_getElem? (i := 11) (by decide +kernel))) rfl
theorem dX11_needed_0 : decode cX11_needed 0 = .ok (.aload_n 0, 1) := by decide +kernel
theorem dX11_needed_1 : decode cX11_needed 1 = .ok (.invokevirtual 180, 3) := by decide +kernel
theorem dX11_needed_4 : decode cX11_needed 4 = .ok (.iload_n 1, 1) := by decide +kernel
theorem dX11_needed_5 : decode cX11_needed 5 = .ok (.invokevirtual 299, 3) := by decide +kernel
theorem dX11_needed_8 : decode cX11_needed 8 = .ok (.istore_n 2, 1) := by decide +kernel
theorem dX11_needed_9 : decode cX11_needed 9 = .ok (.iload_n 2, 1) := by decide +kernel
theorem dX11_needed_10 : decode cX11_needed 10 = .ok (.iconst (-1), 1) := by decide +kernel
theorem dX11_needed_11 : decode cX11_needed 11 = .ok (.if_icmp .ne 7, 3) := by decide +kernel
theorem dX11_needed_14 : decode cX11_needed 14 = .ok (.iconst (-1), 1) := by decide +kernel
theorem dX11_needed_15 : decode cX11_needed 15 = .ok (.goto 7, 3) := by decide +kernel
theorem dX11_needed_18 : decode cX11_needed 18 = .ok (.iload_n 2, 1) := by decide +kernel
theorem dX11_needed_19 : decode cX11_needed 19 = .ok (.invokestatic 238, 3) := by decide +kernel
theorem dX11_needed_22 : decode cX11_needed 22 = .ok (.ireturn, 1) := by decide +kernel
def q11_needed (σ : St) (person_a : Int32) : Option (Int32 × St) :=
  Option.bind (q11_pollNow σ) fun x1_ =>
  Option.bind (q5_wonOver x1_.2 person_a) fun x3_ =>
  some (if x3_.1 = (-1) then (-1) else bcount x3_.1, x3_.2)
abbrev rm11_needed : Room := { frames := 5, cells := 0, slots := 0, locals := 116 }
set_option maxHeartbeats 4000000 in
set_option maxRecDepth 100000 in
theorem p11_needed {Θ : Tz} {σ : St} {ρ : Option Value × St} (C : Zc Θ cX11_needed 3 RX11 (some .int) rm11_needed) (hkd : Θ.2.2.2.2.1 = kdC) {person_a : Int32} {r : (Int32 × St)} (hf : q11_needed σ person_a = some r) (hρ : ρ = (some (.int r.1), r.2)) : Z Θ 3 0 0 (zQ Θ ρ) σ 0 [(0, .ref (zA Θ 0)), (1, .int person_a)] [] := by
  unfold q11_needed at hf
  refine z_aload_n C 0 dX11_needed_0 rfl rfl ?_
  obtain ⟨x1_, h2_, hf⟩ := ob hf
  refine cr11_180 C hkd  h2_ ⟨(Nat.le_of_ble_eq_true rfl), (Nat.le_of_ble_eq_true rfl)⟩ (Nat.le_of_ble_eq_true rfl) ⟨Nat.zero_le _, Nat.zero_le _⟩ dX11_needed_1 ?_
  rw [rp11_pollNow h2_]
  refine z_iload_n C 1 dX11_needed_4 rfl rfl ?_
  obtain ⟨x3_, h4_, hf⟩ := ob hf
  refine cr11_299 (person_a := person_a) C hkd  h4_ ⟨(Nat.le_of_ble_eq_true rfl), (Nat.le_of_ble_eq_true rfl)⟩ (Nat.le_of_ble_eq_true rfl) ⟨Nat.zero_le _, Nat.zero_le _⟩ dX11_needed_5 ?_
  refine z_istN C dX11_needed_8 rfl rfl (Nat.le_of_ble_eq_true rfl) rfl ?_
  suffices K5_ : Z Θ 3 0 0 (zQ Θ ρ) x3_.2 22 [(2, .int x3_.1), (0, .ref (zA Θ 0)), (1, .int person_a)] [.int (if x3_.1 = (-1) then (-1) else bcount x3_.1)] by
    have K6_ : x3_.1 = (-1) → Z Θ 3 0 0 (zQ Θ ρ) x3_.2 14 [(2, .int x3_.1), (0, .ref (zA Θ 0)), (1, .int person_a)] [] := by
      intro h9_
      rw [if_pos h9_] at K5_
      refine z_iconst (v := (-1)) C dX11_needed_14 ic_m1 ?_
      refine z_goto C 22 dX11_needed_15 (by decide) ?_
      exact K5_
    have K7_ : ¬ (x3_.1 = (-1)) → Z Θ 3 0 0 (zQ Θ ρ) x3_.2 18 [(2, .int x3_.1), (0, .ref (zA Θ 0)), (1, .int person_a)] [] := by
      intro h9_
      rw [if_neg h9_] at K5_
      refine z_iload_n C 0 dX11_needed_18 rfl rfl ?_
      refine z_callS C [.int x3_.1] (some (.int (bcount x3_.1)), x3_.2) 1 (cJ_bitCount (zc_inj C)) w_3_30 w_4_11 w_3_29 w_1_26 ⟨rfl, rfl, (Nat.le_of_ble_eq_true rfl), (Nat.le_of_ble_eq_true rfl)⟩ (by decide +kernel) rfl rfl (Nat.le_of_ble_eq_true rfl) ⟨Nat.zero_le _, Nat.zero_le _⟩ dX11_needed_19 ?_
      exact K5_
    refine z_iload_n C 0 dX11_needed_9 rfl rfl ?_
    refine z_iconst (v := (-1)) C dX11_needed_10 ic_m1 ?_
    refine c_eq_f C 18 dX11_needed_11 (by decide) (fun h8_ => ?_) (fun h8_ => ?_)
    · exact K6_ h8_
    · exact K7_ h8_
  cases hf
  subst hρ
  exact z_iret C dX11_needed_22
theorem c11_needed {l : Launch} {kd : List KD} {w : Wp} {σ : St} {person_a : Int32} (hkd : kd = kdC) (hi : zI kd w) {r : (Int32 × St)} (hf : q11_needed σ person_a = some r) : zM l kd w yX11_needed cX11_needed 3 (some .int) rm11_needed [.ref (w.2.2.1 0), .int person_a] σ (some (.int r.1), r.2) := zM_of rfl hi (Nat.le_of_ble_eq_true rfl) (fun Θ hl hw C => by
  obtain ⟨Θ1, Θ2, Θ3, Θ4, Θ5⟩ := Θ
  cases hw
  exact p11_needed C hkd  hf rfl)
/-! LastLoaf$Village.hadOfAll -/
theorem dX10_hadOfAll_0 : decode cX10_hadOfAll 0 = .ok (.iconst 0, 1) := by decide +kernel
theorem dX10_hadOfAll_1 : decode cX10_hadOfAll 1 = .ok (.istore_n 1, 1) := by decide +kernel
theorem dX10_hadOfAll_2 : decode cX10_hadOfAll 2 = .ok (.iconst 0, 1) := by decide +kernel
theorem dX10_hadOfAll_3 : decode cX10_hadOfAll 3 = .ok (.istore_n 2, 1) := by decide +kernel
theorem dX10_hadOfAll_4 : decode cX10_hadOfAll 4 = .ok (.iload_n 2, 1) := by decide +kernel
theorem dX10_hadOfAll_5 : decode cX10_hadOfAll 5 = .ok (.aload_n 0, 1) := by decide +kernel
theorem dX10_hadOfAll_6 : decode cX10_hadOfAll 6 = .ok (.getfield 40, 3) := by decide +kernel
theorem dX10_hadOfAll_9 : decode cX10_hadOfAll 9 = .ok (.if_icmp .ge 18, 3) := by decide +kernel
theorem dX10_hadOfAll_12 : decode cX10_hadOfAll 12 = .ok (.iload_n 1, 1) := by decide +kernel
theorem dX10_hadOfAll_13 : decode cX10_hadOfAll 13 = .ok (.aload_n 0, 1) := by decide +kernel
theorem dX10_hadOfAll_14 : decode cX10_hadOfAll 14 = .ok (.getfield 21, 3) := by decide +kernel
theorem dX10_hadOfAll_17 : decode cX10_hadOfAll 17 = .ok (.iload_n 2, 1) := by decide +kernel
theorem dX10_hadOfAll_18 : decode cX10_hadOfAll 18 = .ok (.iaload, 1) := by decide +kernel
theorem dX10_hadOfAll_19 : decode cX10_hadOfAll 19 = .ok (.iadd, 1) := by decide +kernel
theorem dX10_hadOfAll_20 : decode cX10_hadOfAll 20 = .ok (.istore_n 1, 1) := by decide +kernel
theorem dX10_hadOfAll_21 : decode cX10_hadOfAll 21 = .ok (.iinc 2 1, 3) := by decide +kernel
theorem dX10_hadOfAll_24 : decode cX10_hadOfAll 24 = .ok (.goto (-20), 3) := by decide +kernel
theorem dX10_hadOfAll_27 : decode cX10_hadOfAll 27 = .ok (.iload_n 1, 1) := by decide +kernel
theorem dX10_hadOfAll_28 : decode cX10_hadOfAll 28 = .ok (.ireturn, 1) := by decide +kernel
def q10_hadOfAll (σ : St) (th : Nat) : Option Int32 :=
  Option.bind (loop2 (fun rec4_ (sum7_ : Int32) (p8_ : Int32) =>
  if p8_ < (σ th 8) then
  Option.bind (ag σ (th + 4) 6 p8_) fun x15_ =>
  lt (sum7_ + x15_) fun sum17_ =>
  lt (p8_ + 1) fun p19_ =>
  rec4_ sum17_ p19_
  else (some (sum7_, p8_))) fuelN (0 : Int32) (0 : Int32)) fun y1_ =>
  some y1_.1
abbrev rm10_hadOfAll : Room := { frames := 0, cells := 0, slots := 0, locals := 0 }
set_option maxHeartbeats 4000000 in
set_option maxRecDepth 100000 in
theorem p10_hadOfAll {Θ : Tz} {σ : St} {ρ : Option Value × St} (C : Zc Θ cX10_hadOfAll 3 RX10 (some .int) rm10_hadOfAll) (hkd : Θ.2.2.2.2.1 = kdC) {th : Nat} (hth : isV th) {r : Int32} (hf : q10_hadOfAll σ th = some r) (hρ : ρ = (some (.int r), σ)) : Z Θ 3 0 0 (zQ Θ ρ) σ 0 [(0, .ref (zA Θ th))] [] := by
  unfold q10_hadOfAll at hf
  refine z_iconst (v := 0) C dX10_hadOfAll_0 ic_0 ?_
  refine z_istN C dX10_hadOfAll_1 rfl rfl (Nat.le_of_ble_eq_true rfl) rfl ?_
  refine z_iconst (v := 0) C dX10_hadOfAll_2 ic_0 ?_
  refine z_istN C dX10_hadOfAll_3 rfl rfl (Nat.le_of_ble_eq_true rfl) rfl ?_
  refine Z.sub [2, 1, 0] rfl ?_
  obtain ⟨y1_, h2_, hf⟩ := ob hf
  suffices K3_ : Z Θ 3 0 0 (zQ Θ ρ) σ 27 [(0, .ref (zA Θ th)), (1, .int y1_.1), (2, .int y1_.2)] [] by
    refine loop2_Z (P := fun (sum7_ : Int32) (p8_ : Int32) => Z Θ 3 0 0 (zQ Θ ρ) σ 4 [(0, .ref (zA Θ th)), (1, .int sum7_), (2, .int p8_)] []) ?_ fuelN (0 : Int32) (0 : Int32) h2_
    clear h2_
    intro rec4_ sum7_ p8_ h5_ h6_
    have K11_ : p8_ < (σ th 8) → Z Θ 3 0 0 (zQ Θ ρ) σ 12 [(0, .ref (zA Θ th)), (1, .int sum7_), (2, .int p8_)] [] := by
      intro h14_
      rw [if_pos h14_] at h6_
      refine z_iload_n C 1 dX10_hadOfAll_12 rfl rfl ?_
      refine z_aload_n C 0 dX10_hadOfAll_13 rfl rfl ?_
      refine fg10_21 C hkd hth dX10_hadOfAll_14 ?_
      refine z_iload_n C 2 dX10_hadOfAll_17 rfl rfl ?_
      obtain ⟨x15_, h16_, h6_⟩ := ob h6_
      refine z_ag C h16_ (kV_4 hkd hth) dX10_hadOfAll_18 ?_
      refine z_iadd C dX10_hadOfAll_19 ?_
      obtain ⟨sum17_, h18_, h6_⟩ := lt_ h6_
      refine z_istN C dX10_hadOfAll_20 h18_ rfl (Nat.le_of_ble_eq_true rfl) rfl ?_
      obtain ⟨p19_, h20_, h6_⟩ := lt_ h6_
      refine z_inc C 2 dX10_hadOfAll_21 rfl ic_1 h20_ (Nat.le_of_ble_eq_true rfl) rfl ?_
      refine z_goto C 4 dX10_hadOfAll_24 (by decide) ?_
      refine Z.sub [2, 1, 0] rfl ?_
      exact h5_ _ _ h6_
    have K12_ : ¬ (p8_ < (σ th 8)) → Z Θ 3 0 0 (zQ Θ ρ) σ 27 [(0, .ref (zA Θ th)), (1, .int sum7_), (2, .int p8_)] [] := by
      intro h14_
      rw [if_neg h14_] at h6_
      cases h6_
      exact K3_
    refine z_iload_n C 2 dX10_hadOfAll_4 rfl rfl ?_
    refine z_aload_n C 0 dX10_hadOfAll_5 rfl rfl ?_
    refine fg10_40 C hkd hth dX10_hadOfAll_6 ?_
    refine c_lt_f C 27 dX10_hadOfAll_9 (by decide) (fun h13_ => ?_) (fun h13_ => ?_)
    · exact K11_ h13_
    · exact K12_ h13_
  refine z_iload_n C 1 dX10_hadOfAll_27 rfl rfl ?_
  cases hf
  subst hρ
  exact z_iret C dX10_hadOfAll_28
theorem c10_hadOfAll {l : Launch} {kd : List KD} {w : Wp} {σ : St} {th : Nat} (hkd : kd = kdC) (hi : zI kd w) (hth : isV th) {r : Int32} (hf : q10_hadOfAll σ th = some r) : zM l kd w yX10_hadOfAll cX10_hadOfAll 3 (some .int) rm10_hadOfAll [.ref (w.2.2.1 th)] σ (some (.int r), σ) := zM_of rfl hi (Nat.le_of_ble_eq_true rfl) (fun Θ hl hw C => by
  obtain ⟨Θ1, Θ2, Θ3, Θ4, Θ5⟩ := Θ
  cases hw
  exact p10_hadOfAll C hkd hth hf rfl)
/-! LastLoaf.shareOf -/
theorem w_4_157 : Cond.code ({ cls := "LastLoaf$Village", name := "hadOfAll", desc := "()I" } : MethodName) prog_12_method_12_code (3 : Nat) (Option.some ClassFile.FieldType.int) ∈ TB := tb_in (lwt_4 (List.mem_of_getElem? (i := 157) (by decide +kernel))) rfl
theorem w_4_154 : Cond.methodLink "LastLoaf" (453 : Nat) ({ cls := "LastLoaf$Village", name := "hadOfAll", desc := "()I" } : MethodName) ∈ TB := tb_in (lwt_4 (List.mem_of_getElem? (i := 154) (by decide +kernel))) rfl
theorem w_4_155 : Cond.instanceMethod ({ cls := "LastLoaf$Village", name := "hadOfAll", desc := "()I" } : MethodName) ∈ TB := tb_in (lwt_4 (List.mem_of_getElem? (i := 155) (by decide +kernel))) rfl
theorem w_4_156 : Cond.selects "LastLoaf$Village" ({ cls := "LastLoaf$Village", name := "hadOfAll", desc := "()I" } : MethodName) ({ cls := "LastLoaf$Village", name := "hadOfAll", desc := "()I" } : MethodName) ∈ TB := tb_in (lwt_4 (List.mem_of_getElem? (i := 156) (by decide +kernel))) rfl
theorem cr11_453 {Θ : Tz} {cc : ByteArray} {nL kc ks : Nat} {ret : Option FieldType} {rm : Room} {Q : State → Prop} {σ : St} {pc : Nat} {lv : List (Nat × Value)} {st : List Value} (C : Zc Θ cc nL RX11 ret rm) (hkd : Θ.2.2.2.2.1 = kdC) {th : Nat} (hth : isV th) {r : Int32} (hx : q10_hadOfAll σ th = some r) (hrm : rm10_hadOfAll.frames + 1 ≤ rm.frames ∧ 8 + (3 + 11) + rm10_hadOfAll.locals ≤ rm.locals) (hcat : (st.map fun v => v.category).sum ≤ 8) (hk : kc ≤ rm.cells ∧ ks ≤ rm.slots) (hd : decode cc pc = .ok (.invokevirtual 453, 3)) (kk : Z Θ nL kc ks Q σ (pc + 3) lv (.int r :: st)) : Z Θ nL kc ks Q σ pc lv (.ref (zA Θ th) :: st) := z_callV C th [] (some (.int r), σ) 0 (kV_0 hkd hth) rfl (c10_hadOfAll (th := th) hkd (zc_inj C) hth hx) w_4_157 w_4_154 w_4_155 w_4_156 w_1_3 ⟨rfl, rfl, hrm.1, hrm.2⟩ (by decide +kernel) rfl rfl hcat hk hd kk
theorem w_1_107 : Cond.fieldLink "LastLoaf" (174 : Nat) "LastLoaf$Village" "had" "[I" ∈ TB := tb_in (lwt_1 (List.mem_of_getElem? (i := 107) (by decide +kernel))) rfl
theorem fg11_174 {Θ : Tz} {cc : ByteArray} {nL kc ks : Nat} {ret : Option FieldType} {rm : Room} {Q : State → Prop} {σ : St} {pc : Nat} {lv : List (Nat × Value)} {st : List Value} (C : Zc Θ cc nL RX11 ret rm) (hkd : Θ.2.2.2.2.1 = kdC) {th : Nat} (hth : isV th) (hd : decode cc pc = .ok (.getfield 174, 3)) (kk : Z Θ nL kc ks Q σ (pc + 3) lv (.ref (zA Θ (th + 4)) :: st)) : Z Θ nL kc ks Q σ pc lv (.ref (zA Θ th) :: st) := z_get C inT10 th (kV_0 hkd hth) rfl 3 (by decide) w_1_107 rfl hd kk
theorem dX11_shareOf_0 : decode cX11_shareOf 0 = .ok (.aload_n 0, 1) := by decide +kernel
theorem dX11_shareOf_1 : decode cX11_shareOf 1 = .ok (.getfield 19, 3) := by decide +kernel
theorem dX11_shareOf_4 : decode cX11_shareOf 4 = .ok (.invokevirtual 453, 3) := by decide +kernel
theorem dX11_shareOf_7 : decode cX11_shareOf 7 = .ok (.istore_n 2, 1) := by decide +kernel
theorem dX11_shareOf_8 : decode cX11_shareOf 8 = .ok (.iload_n 2, 1) := by decide +kernel
theorem dX11_shareOf_9 : decode cX11_shareOf 9 = .ok (.ifCond .ne 7, 3) := by decide +kernel
theorem dX11_shareOf_12 : decode cX11_shareOf 12 = .ok (.iconst 0, 1) := by decide +kernel
theorem dX11_shareOf_13 : decode cX11_shareOf 13 = .ok (.goto 17, 3) := by decide +kernel
theorem dX11_shareOf_16 : decode cX11_shareOf 16 = .ok (.aload_n 0, 1) := by decide +kernel
theorem dX11_shareOf_17 : decode cX11_shareOf 17 = .ok (.getfield 19, 3) := by decide +kernel
theorem dX11_shareOf_20 : decode cX11_shareOf 20 = .ok (.getfield 174, 3) := by decide +kernel
theorem dX11_shareOf_23 : decode cX11_shareOf 23 = .ok (.iload_n 1, 1) := by decide +kernel
theorem dX11_shareOf_24 : decode cX11_shareOf 24 = .ok (.iaload, 1) := by decide +kernel
theorem dX11_shareOf_25 : decode cX11_shareOf 25 = .ok (.bipush 100, 2) := by decide +kernel
theorem dX11_shareOf_27 : decode cX11_shareOf 27 = .ok (.imul, 1) := by decide +kernel
theorem dX11_shareOf_28 : decode cX11_shareOf 28 = .ok (.iload_n 2, 1) := by decide +kernel
theorem dX11_shareOf_29 : decode cX11_shareOf 29 = .ok (.idiv, 1) := by decide +kernel
theorem dX11_shareOf_30 : decode cX11_shareOf 30 = .ok (.ireturn, 1) := by decide +kernel
def q11_shareOf (σ : St) (person_a : Int32) : Option Int32 :=
  Option.bind (q10_hadOfAll σ 44) fun x1_ =>
  Option.bind (if x1_ = 0 then (some (0 : Int32)) else (Option.bind (ag σ (44 + 4) 6 person_a) fun x9_ =>
  Option.bind (dv (x9_ * 100) x1_) fun x11_ =>
  some x11_)) fun x3_ =>
  some x3_
abbrev rm11_shareOf : Room := { frames := 1, cells := 0, slots := 0, locals := 22 }
set_option maxHeartbeats 4000000 in
set_option maxRecDepth 100000 in
theorem p11_shareOf {Θ : Tz} {σ : St} {ρ : Option Value × St} (C : Zc Θ cX11_shareOf 3 RX11 (some .int) rm11_shareOf) (hkd : Θ.2.2.2.2.1 = kdC) {person_a : Int32} {r : Int32} (hf : q11_shareOf σ person_a = some r) (hρ : ρ = (some (.int r), σ)) : Z Θ 3 0 0 (zQ Θ ρ) σ 0 [(0, .ref (zA Θ 0)), (1, .int person_a)] [] := by
  unfold q11_shareOf at hf
  refine z_aload_n C 0 dX11_shareOf_0 rfl rfl ?_
  refine fg11_19 C hkd dX11_shareOf_1 ?_
  obtain ⟨x1_, h2_, hf⟩ := ob hf
  refine cr11_453 (th := 44) C hkd isV_44 h2_ ⟨(Nat.le_of_ble_eq_true rfl), (Nat.le_of_ble_eq_true rfl)⟩ (Nat.le_of_ble_eq_true rfl) ⟨Nat.zero_le _, Nat.zero_le _⟩ dX11_shareOf_4 ?_
  refine z_istN C dX11_shareOf_7 rfl rfl (Nat.le_of_ble_eq_true rfl) rfl ?_
  obtain ⟨x3_, h4_, hf⟩ := ob hf
  suffices K5_ : Z Θ 3 0 0 (zQ Θ ρ) σ 30 [(2, .int x1_), (0, .ref (zA Θ 0)), (1, .int person_a)] [.int x3_] by
    have K6_ : x1_ = 0 → Z Θ 3 0 0 (zQ Θ ρ) σ 12 [(2, .int x1_), (0, .ref (zA Θ 0)), (1, .int person_a)] [] := by
      intro h13_
      rw [if_pos h13_] at h4_
      refine z_iconst (v := 0) C dX11_shareOf_12 ic_0 ?_
      refine z_goto C 30 dX11_shareOf_13 (by decide) ?_
      cases h4_
      exact K5_
    have K7_ : ¬ (x1_ = 0) → Z Θ 3 0 0 (zQ Θ ρ) σ 16 [(2, .int x1_), (0, .ref (zA Θ 0)), (1, .int person_a)] [] := by
      intro h13_
      rw [if_neg h13_] at h4_
      refine z_aload_n C 1 dX11_shareOf_16 rfl rfl ?_
      refine fg11_19 C hkd dX11_shareOf_17 ?_
      refine fg11_174 C hkd isV_44 dX11_shareOf_20 ?_
      refine z_iload_n C 2 dX11_shareOf_23 rfl rfl ?_
      obtain ⟨x9_, h10_, h4_⟩ := ob h4_
      refine z_ag C h10_ (kV_4 hkd isV_44) dX11_shareOf_24 ?_
      refine z_bipush (v := 100) C dX11_shareOf_25 bp_100 ?_
      refine z_imul C dX11_shareOf_27 ?_
      refine z_iload_n C 0 dX11_shareOf_28 rfl rfl ?_
      obtain ⟨x11_, h12_, h4_⟩ := ob h4_
      refine z_dv C h12_ dX11_shareOf_29 ?_
      cases h4_
      exact K5_
    refine z_iload_n C 0 dX11_shareOf_8 rfl rfl ?_
    refine c0_eq_f C 16 dX11_shareOf_9 (by decide) (fun h8_ => ?_) (fun h8_ => ?_)
    · exact K6_ h8_
    · exact K7_ h8_
  cases hf
  subst hρ
  exact z_iret C dX11_shareOf_30
theorem c11_shareOf {l : Launch} {kd : List KD} {w : Wp} {σ : St} {person_a : Int32} (hkd : kd = kdC) (hi : zI kd w) {r : Int32} (hf : q11_shareOf σ person_a = some r) : zM l kd w yX11_shareOf cX11_shareOf 3 (some .int) rm11_shareOf [.ref (w.2.2.1 0), .int person_a] σ (some (.int r), σ) := zM_of rfl hi (Nat.le_of_ble_eq_true rfl) (fun Θ hl hw C => by
  obtain ⟨Θ1, Θ2, Θ3, Θ4, Θ5⟩ := Θ
  cases hw
  exact p11_shareOf C hkd  hf rfl)
/-! LastLoaf$Poll.isAhead -/
theorem dX5_isAhead_0 : decode cX5_isAhead 0 = .ok (.aload_n 0, 1) := by decide +kernel
theorem dX5_isAhead_1 : decode cX5_isAhead 1 = .ok (.getfield 34, 3) := by decide +kernel
theorem dX5_isAhead_4 : decode cX5_isAhead 4 = .ok (.iload_n 1, 1) := by decide +kernel
theorem dX5_isAhead_5 : decode cX5_isAhead 5 = .ok (.invokestatic 58, 3) := by decide +kernel
theorem dX5_isAhead_8 : decode cX5_isAhead 8 = .ok (.ifCond .eq 14, 3) := by decide +kernel
theorem dX5_isAhead_11 : decode cX5_isAhead 11 = .ok (.aload_n 0, 1) := by decide +kernel
theorem dX5_isAhead_12 : decode cX5_isAhead 12 = .ok (.getfield 34, 3) := by decide +kernel
theorem dX5_isAhead_15 : decode cX5_isAhead 15 = .ok (.iload_n 2, 1) := by decide +kernel
theorem dX5_isAhead_16 : decode cX5_isAhead 16 = .ok (.invokestatic 58, 3) := by decide +kernel
theorem dX5_isAhead_19 : decode cX5_isAhead 19 = .ok (.ifCond .ne 5, 3) := by decide +kernel
theorem dX5_isAhead_22 : decode cX5_isAhead 22 = .ok (.iconst 0, 1) := by decide +kernel
theorem dX5_isAhead_23 : decode cX5_isAhead 23 = .ok (.ireturn, 1) := by decide +kernel
theorem dX5_isAhead_24 : decode cX5_isAhead 24 = .ok (.iconst 0, 1) := by decide +kernel
theorem dX5_isAhead_25 : decode cX5_isAhead 25 = .ok (.istore_n 3, 1) := by decide +kernel
theorem dX5_isAhead_26 : decode cX5_isAhead 26 = .ok (.iconst 0, 1) := by decide +kernel
theorem dX5_isAhead_27 : decode cX5_isAhead 27 = .ok (.istore 4, 2) := by decide +kernel
theorem dX5_isAhead_29 : decode cX5_isAhead 29 = .ok (.iload 4, 2) := by decide +kernel
theorem dX5_isAhead_31 : decode cX5_isAhead 31 = .ok (.aload_n 0, 1) := by decide +kernel
theorem dX5_isAhead_32 : decode cX5_isAhead 32 = .ok (.getfield 30, 3) := by decide +kernel
theorem dX5_isAhead_35 : decode cX5_isAhead 35 = .ok (.if_icmp .ge 57, 3) := by decide +kernel
theorem dX5_isAhead_38 : decode cX5_isAhead 38 = .ok (.aload_n 0, 1) := by decide +kernel
theorem dX5_isAhead_39 : decode cX5_isAhead 39 = .ok (.getfield 40, 3) := by decide +kernel
theorem dX5_isAhead_42 : decode cX5_isAhead 42 = .ok (.iload 4, 2) := by decide +kernel
theorem dX5_isAhead_44 : decode cX5_isAhead 44 = .ok (.invokestatic 58, 3) := by decide +kernel
theorem dX5_isAhead_47 : decode cX5_isAhead 47 = .ok (.ifCond .eq 39, 3) := by decide +kernel
theorem dX5_isAhead_50 : decode cX5_isAhead 50 = .ok (.iload 4, 2) := by decide +kernel
theorem dX5_isAhead_52 : decode cX5_isAhead 52 = .ok (.bipush 6, 2) := by decide +kernel
theorem dX5_isAhead_54 : decode cX5_isAhead 54 = .ok (.imul, 1) := by decide +kernel
theorem dX5_isAhead_55 : decode cX5_isAhead 55 = .ok (.istore 5, 2) := by decide +kernel
theorem dX5_isAhead_57 : decode cX5_isAhead 57 = .ok (.iload_n 3, 1) := by decide +kernel
theorem dX5_isAhead_58 : decode cX5_isAhead 58 = .ok (.aload_n 0, 1) := by decide +kernel
theorem dX5_isAhead_59 : decode cX5_isAhead 59 = .ok (.getfield 15, 3) := by decide +kernel
theorem dX5_isAhead_62 : decode cX5_isAhead 62 = .ok (.iload 5, 2) := by decide +kernel
theorem dX5_isAhead_64 : decode cX5_isAhead 64 = .ok (.iload_n 1, 1) := by decide +kernel
theorem dX5_isAhead_65 : decode cX5_isAhead 65 = .ok (.iadd, 1) := by decide +kernel
theorem dX5_isAhead_66 : decode cX5_isAhead 66 = .ok (.iaload, 1) := by decide +kernel
theorem dX5_isAhead_67 : decode cX5_isAhead 67 = .ok (.aload_n 0, 1) := by decide +kernel
theorem dX5_isAhead_68 : decode cX5_isAhead 68 = .ok (.getfield 15, 3) := by decide +kernel
theorem dX5_isAhead_71 : decode cX5_isAhead 71 = .ok (.iload 5, 2) := by decide +kernel
theorem dX5_isAhead_73 : decode cX5_isAhead 73 = .ok (.iload_n 2, 1) := by decide +kernel
theorem dX5_isAhead_74 : decode cX5_isAhead 74 = .ok (.iadd, 1) := by decide +kernel
theorem dX5_isAhead_75 : decode cX5_isAhead 75 = .ok (.iaload, 1) := by decide +kernel
theorem dX5_isAhead_76 : decode cX5_isAhead 76 = .ok (.if_icmp .ge 7, 3) := by decide +kernel
theorem dX5_isAhead_79 : decode cX5_isAhead 79 = .ok (.iconst 1, 1) := by decide +kernel
theorem dX5_isAhead_80 : decode cX5_isAhead 80 = .ok (.goto 4, 3) := by decide +kernel
theorem dX5_isAhead_83 : decode cX5_isAhead 83 = .ok (.iconst (-1), 1) := by decide +kernel
theorem dX5_isAhead_84 : decode cX5_isAhead 84 = .ok (.iadd, 1) := by decide +kernel
theorem dX5_isAhead_85 : decode cX5_isAhead 85 = .ok (.istore_n 3, 1) := by decide +kernel
theorem dX5_isAhead_86 : decode cX5_isAhead 86 = .ok (.iinc 4 1, 3) := by decide +kernel
theorem dX5_isAhead_89 : decode cX5_isAhead 89 = .ok (.goto (-60), 3) := by decide +kernel
theorem dX5_isAhead_92 : decode cX5_isAhead 92 = .ok (.iload_n 3, 1) := by decide +kernel
theorem dX5_isAhead_93 : decode cX5_isAhead 93 = .ok (.ifCond .le 7, 3) := by decide +kernel
theorem dX5_isAhead_96 : decode cX5_isAhead 96 = .ok (.iconst 1, 1) := by decide +kernel
theorem dX5_isAhead_97 : decode cX5_isAhead 97 = .ok (.goto 4, 3) := by decide +kernel
theorem dX5_isAhead_100 : decode cX5_isAhead 100 = .ok (.iconst 0, 1) := by decide +kernel
theorem dX5_isAhead_101 : decode cX5_isAhead 101 = .ok (.ireturn, 1) := by decide +kernel
def q5_isAhead (σ : St) (person_a : Int32) (other_a : Int32) : Option Bool :=
  if (¬ (q11_isIn (σ 6 7) person_a = true)) ∨ (¬ (q11_isIn (σ 6 7) other_a = true)) then (some false) else
  Option.bind (loop2 (fun rec9_ (lead12_ : Int32) (v13_ : Int32) =>
  if v13_ < (σ 6 6) then
  Option.bind (if q11_isIn (σ 6 9) v13_ = true then (lt (v13_ * 6) fun row27_ =>
  Option.bind (Option.bind (ag σ 8 36 (row27_ + person_a)) fun x34_ =>
  Option.bind (ag σ 8 36 (row27_ + other_a)) fun x36_ =>
  if x34_ < x36_ then (some (1 : Int32)) else (some (-1 : Int32))) fun x29_ =>
  lt (lead12_ + x29_) fun lead40_ =>
  some (lead40_)) else (some (lead12_))) fun y20_ =>
  lt (v13_ + 1) fun v42_ =>
  rec9_ y20_ v42_
  else (some (lead12_, v13_))) fuelN (0 : Int32) (0 : Int32)) fun y6_ =>
  some (decide (0 < y6_.1))
abbrev rm5_isAhead : Room := { frames := 1, cells := 0, slots := 0, locals := 21 }
set_option maxHeartbeats 4000000 in
set_option maxRecDepth 100000 in
theorem p5_isAhead {Θ : Tz} {σ : St} {ρ : Option Value × St} (C : Zc Θ cX5_isAhead 6 RX5 (some .boolean) rm5_isAhead) (hkd : Θ.2.2.2.2.1 = kdC) {person_a : Int32} {other_a : Int32} {r : Bool} (hf : q5_isAhead σ person_a other_a = some r) (hρ : ρ = (some (.int (b2i r)), σ)) : Z Θ 6 0 0 (zQ Θ ρ) σ 0 [(0, .ref (zA Θ 6)), (1, .int person_a), (2, .int other_a)] [] := by
  unfold q5_isAhead at hf
  have K1_ : (¬ (q11_isIn (σ 6 7) person_a = true)) ∨ (¬ (q11_isIn (σ 6 7) other_a = true)) → Z Θ 6 0 0 (zQ Θ ρ) σ 22 [(0, .ref (zA Θ 6)), (1, .int person_a), (2, .int other_a)] [] := by
    intro h5_
    rw [if_pos h5_] at hf
    refine z_iconst (v := 0) C dX5_isAhead_22 ic_0 ?_
    cases hf
    subst hρ
    exact z_zret C (b2i_narrow _) dX5_isAhead_23
  suffices K2_ : ¬ ((¬ (q11_isIn (σ 6 7) person_a = true)) ∨ (¬ (q11_isIn (σ 6 7) other_a = true))) → Z Θ 6 0 0 (zQ Θ ρ) σ 24 [(0, .ref (zA Θ 6)), (1, .int person_a), (2, .int other_a)] [] by
    refine z_aload_n C 0 dX5_isAhead_0 rfl rfl ?_
    refine fg5_34 C hkd dX5_isAhead_1 ?_
    refine z_iload_n C 1 dX5_isAhead_4 rfl rfl ?_
    refine cr5_58 (set_a := (σ 6 7)) (person_a := person_a) C hkd  ⟨(Nat.le_of_ble_eq_true rfl), (Nat.le_of_ble_eq_true rfl)⟩ (Nat.le_of_ble_eq_true rfl) ⟨Nat.zero_le _, Nat.zero_le _⟩ dX5_isAhead_5 ?_
    refine cb_f C 22 dX5_isAhead_8 (by decide) (fun h3_ => ?_) (fun h3_ => ?_)
    · refine z_aload_n C 0 dX5_isAhead_11 rfl rfl ?_
      refine fg5_34 C hkd dX5_isAhead_12 ?_
      refine z_iload_n C 2 dX5_isAhead_15 rfl rfl ?_
      refine cr5_58 (set_a := (σ 6 7)) (person_a := other_a) C hkd  ⟨(Nat.le_of_ble_eq_true rfl), (Nat.le_of_ble_eq_true rfl)⟩ (Nat.le_of_ble_eq_true rfl) ⟨Nat.zero_le _, Nat.zero_le _⟩ dX5_isAhead_16 ?_
      refine cb_t C 24 dX5_isAhead_19 (by decide) (fun h4_ => ?_) (fun h4_ => ?_)
      · exact K2_ (fun n => n.elim (fun n => n h3_) (fun n => n h4_))
      · exact K1_ (Or.inr h4_)
    · exact K1_ (Or.inl h3_)
  intro h5_
  rw [if_neg h5_] at hf
  refine z_iconst (v := 0) C dX5_isAhead_24 ic_0 ?_
  refine z_istN C dX5_isAhead_25 rfl rfl (Nat.le_of_ble_eq_true rfl) rfl ?_
  refine z_iconst (v := 0) C dX5_isAhead_26 ic_0 ?_
  refine z_ist C dX5_isAhead_27 rfl (Nat.le_of_ble_eq_true rfl) rfl ?_
  refine Z.sub [2, 3, 4, 1, 0] rfl ?_
  obtain ⟨y6_, h7_, hf⟩ := ob hf
  suffices K8_ : Z Θ 6 0 0 (zQ Θ ρ) σ 92 [(0, .ref (zA Θ 6)), (1, .int person_a), (2, .int other_a), (3, .int y6_.1), (4, .int y6_.2)] [] by
    refine loop2_Z (P := fun (lead12_ : Int32) (v13_ : Int32) => Z Θ 6 0 0 (zQ Θ ρ) σ 29 [(0, .ref (zA Θ 6)), (1, .int person_a), (2, .int other_a), (3, .int lead12_), (4, .int v13_)] []) ?_ fuelN (0 : Int32) (0 : Int32) h7_
    clear h7_
    intro rec9_ lead12_ v13_ h10_ h11_
    have K16_ : v13_ < (σ 6 6) → Z Θ 6 0 0 (zQ Θ ρ) σ 38 [(0, .ref (zA Θ 6)), (1, .int person_a), (2, .int other_a), (3, .int lead12_), (4, .int v13_)] [] := by
      intro h19_
      rw [if_pos h19_] at h11_
      obtain ⟨y20_, h21_, h11_⟩ := ob h11_
      suffices K22_ : Z Θ 6 0 0 (zQ Θ ρ) σ 86 [(0, .ref (zA Θ 6)), (1, .int person_a), (2, .int other_a), (3, .int y20_), (4, .int v13_)] [] by
        have K23_ : q11_isIn (σ 6 9) v13_ = true → Z Θ 6 0 0 (zQ Θ ρ) σ 50 [(0, .ref (zA Θ 6)), (1, .int person_a), (2, .int other_a), (3, .int lead12_), (4, .int v13_)] [] := by
          intro h26_
          rw [if_pos h26_] at h21_
          refine z_iload C 4 dX5_isAhead_50 rfl ?_
          refine z_bipush (v := 6) C dX5_isAhead_52 bp_6 ?_
          refine z_imul C dX5_isAhead_54 ?_
          obtain ⟨row27_, h28_, h21_⟩ := lt_ h21_
          refine z_ist C dX5_isAhead_55 h28_ (Nat.le_of_ble_eq_true rfl) rfl ?_
          refine z_iload_n C 4 dX5_isAhead_57 rfl rfl ?_
          obtain ⟨x29_, h30_, h21_⟩ := ob h21_
          suffices K31_ : Z Θ 6 0 0 (zQ Θ ρ) σ 84 [(5, .int row27_), (0, .ref (zA Θ 6)), (1, .int person_a), (2, .int other_a), (3, .int lead12_), (4, .int v13_)] [.int x29_, .int lead12_] by
            refine z_aload_n C 1 dX5_isAhead_58 rfl rfl ?_
            refine fg5_15 C hkd dX5_isAhead_59 ?_
            refine z_iload C 0 dX5_isAhead_62 rfl ?_
            refine z_iload_n C 2 dX5_isAhead_64 rfl rfl ?_
            refine z_iadd C dX5_isAhead_65 ?_
            obtain ⟨x34_, h35_, h30_⟩ := ob h30_
            refine z_ag C h35_ (kC_8 hkd) dX5_isAhead_66 ?_
            refine z_aload_n C 1 dX5_isAhead_67 rfl rfl ?_
            refine fg5_15 C hkd dX5_isAhead_68 ?_
            refine z_iload C 0 dX5_isAhead_71 rfl ?_
            refine z_iload_n C 3 dX5_isAhead_73 rfl rfl ?_
            refine z_iadd C dX5_isAhead_74 ?_
            obtain ⟨x36_, h37_, h30_⟩ := ob h30_
            refine z_ag C h37_ (kC_8 hkd) dX5_isAhead_75 ?_
            have K32_ : x34_ < x36_ → Z Θ 6 0 0 (zQ Θ ρ) σ 79 [(5, .int row27_), (0, .ref (zA Θ 6)), (1, .int person_a), (2, .int other_a), (3, .int lead12_), (4, .int v13_)] [.int lead12_] := by
              intro h39_
              rw [if_pos h39_] at h30_
              refine z_iconst (v := 1) C dX5_isAhead_79 ic_1 ?_
              refine z_goto C 84 dX5_isAhead_80 (by decide) ?_
              cases h30_
              exact K31_
            have K33_ : ¬ (x34_ < x36_) → Z Θ 6 0 0 (zQ Θ ρ) σ 83 [(5, .int row27_), (0, .ref (zA Θ 6)), (1, .int person_a), (2, .int other_a), (3, .int lead12_), (4, .int v13_)] [.int lead12_] := by
              intro h39_
              rw [if_neg h39_] at h30_
              refine z_iconst (v := (-1)) C dX5_isAhead_83 ic_m1 ?_
              cases h30_
              exact K31_
            refine c_lt_f C 83 dX5_isAhead_76 (by decide) (fun h38_ => ?_) (fun h38_ => ?_)
            · exact K32_ h38_
            · exact K33_ h38_
          refine z_iadd C dX5_isAhead_84 ?_
          obtain ⟨lead40_, h41_, h21_⟩ := lt_ h21_
          refine z_istN C dX5_isAhead_85 h41_ rfl (Nat.le_of_ble_eq_true rfl) rfl ?_
          cases h21_
          refine Z.sub [2, 3, 4, 0, 5] rfl ?_
          exact K22_
        have K24_ : ¬ (q11_isIn (σ 6 9) v13_ = true) → Z Θ 6 0 0 (zQ Θ ρ) σ 86 [(0, .ref (zA Θ 6)), (1, .int person_a), (2, .int other_a), (3, .int lead12_), (4, .int v13_)] [] := by
          intro h26_
          rw [if_neg h26_] at h21_
          cases h21_
          exact K22_
        refine z_aload_n C 0 dX5_isAhead_38 rfl rfl ?_
        refine fg5_40 C hkd dX5_isAhead_39 ?_
        refine z_iload C 4 dX5_isAhead_42 rfl ?_
        refine cr5_58 (set_a := (σ 6 9)) (person_a := v13_) C hkd  ⟨(Nat.le_of_ble_eq_true rfl), (Nat.le_of_ble_eq_true rfl)⟩ (Nat.le_of_ble_eq_true rfl) ⟨Nat.zero_le _, Nat.zero_le _⟩ dX5_isAhead_44 ?_
        refine cb_f C 86 dX5_isAhead_47 (by decide) (fun h25_ => ?_) (fun h25_ => ?_)
        · exact K23_ h25_
        · exact K24_ h25_
      obtain ⟨v42_, h43_, h11_⟩ := lt_ h11_
      refine z_inc C 4 dX5_isAhead_86 rfl ic_1 h43_ (Nat.le_of_ble_eq_true rfl) rfl ?_
      refine z_goto C 29 dX5_isAhead_89 (by decide) ?_
      refine Z.sub [1, 2, 3, 4, 0] rfl ?_
      exact h10_ _ _ h11_
    have K17_ : ¬ (v13_ < (σ 6 6)) → Z Θ 6 0 0 (zQ Θ ρ) σ 92 [(0, .ref (zA Θ 6)), (1, .int person_a), (2, .int other_a), (3, .int lead12_), (4, .int v13_)] [] := by
      intro h19_
      rw [if_neg h19_] at h11_
      cases h11_
      exact K8_
    refine z_iload C 4 dX5_isAhead_29 rfl ?_
    refine z_aload_n C 0 dX5_isAhead_31 rfl rfl ?_
    refine fg5_30 C hkd dX5_isAhead_32 ?_
    refine c_lt_f C 92 dX5_isAhead_35 (by decide) (fun h18_ => ?_) (fun h18_ => ?_)
    · exact K16_ h18_
    · exact K17_ h18_
  suffices K44_ : Z Θ 6 0 0 (zQ Θ ρ) σ 101 [(0, .ref (zA Θ 6)), (1, .int person_a), (2, .int other_a), (3, .int y6_.1), (4, .int y6_.2)] [.int (b2i (decide (0 < y6_.1)))] by
    have K45_ : 0 < y6_.1 → Z Θ 6 0 0 (zQ Θ ρ) σ 96 [(0, .ref (zA Θ 6)), (1, .int person_a), (2, .int other_a), (3, .int y6_.1), (4, .int y6_.2)] [] := by
      intro h48_
      rw [decide_eq_true h48_] at K44_
      refine z_iconst (v := 1) C dX5_isAhead_96 ic_1 ?_
      refine z_goto C 101 dX5_isAhead_97 (by decide) ?_
      exact K44_
    have K46_ : ¬ (0 < y6_.1) → Z Θ 6 0 0 (zQ Θ ρ) σ 100 [(0, .ref (zA Θ 6)), (1, .int person_a), (2, .int other_a), (3, .int y6_.1), (4, .int y6_.2)] [] := by
      intro h48_
      rw [decide_eq_false h48_] at K44_
      refine z_iconst (v := 0) C dX5_isAhead_100 ic_0 ?_
      exact K44_
    refine z_iload_n C 3 dX5_isAhead_92 rfl rfl ?_
    refine c0_gt_f C 100 dX5_isAhead_93 (by decide) (fun h47_ => ?_) (fun h47_ => ?_)
    · exact K45_ h47_
    · exact K46_ h47_
  cases hf
  subst hρ
  exact z_zret C (b2i_narrow _) dX5_isAhead_101
theorem c5_isAhead {l : Launch} {kd : List KD} {w : Wp} {σ : St} {person_a : Int32} {other_a : Int32} (hkd : kd = kdC) (hi : zI kd w) {r : Bool} (hf : q5_isAhead σ person_a other_a = some r) : zM l kd w yX5_isAhead cX5_isAhead 6 (some .boolean) rm5_isAhead [.ref (w.2.2.1 6), .int person_a, .int other_a] σ (some (.int (b2i r)), σ) := zM_of rfl hi (Nat.le_of_ble_eq_true rfl) (fun Θ hl hw C => by
  obtain ⟨Θ1, Θ2, Θ3, Θ4, Θ5⟩ := Θ
  cases hw
  exact p5_isAhead C hkd  hf rfl)
/-! LastLoaf$Poll.duelsOf -/
theorem w_3_80 : Cond.code ({ cls := "LastLoaf$Poll", name := "isAhead", desc := "(II)Z" } : MethodName) prog_7_method_7_code (6 : Nat) (Option.some ClassFile.FieldType.boolean) ∈ TB := tb_in (lwt_3 (List.mem_of_getElem? (i := 80) (by decide +kernel))) rfl
theorem w_3_77 : Cond.methodLink "LastLoaf$Poll" (80 : Nat) ({ cls := "LastLoaf$Poll", name := "isAhead", desc := "(II)Z" } : MethodName) ∈ TB := tb_in (lwt_3 (List.mem_of_getElem? (i := 77) (by decide +kernel))) rfl
theorem w_3_78 : Cond.instanceMethod ({ cls := "LastLoaf$Poll", name := "isAhead", desc := "(II)Z" } : MethodName) ∈ TB := tb_in (lwt_3 (List.mem_of_getElem? (i := 78) (by decide +kernel))) rfl
theorem w_3_79 : Cond.selects "LastLoaf$Poll" ({ cls := "LastLoaf$Poll", name := "isAhead", desc := "(II)Z" } : MethodName) ({ cls := "LastLoaf$Poll", name := "isAhead", desc := "(II)Z" } : MethodName) ∈ TB := tb_in (lwt_3 (List.mem_of_getElem? (i := 79) (by decide +kernel))) rfl
theorem cr5_80 {Θ : Tz} {cc : ByteArray} {nL kc ks : Nat} {ret : Option FieldType} {rm : Room} {Q : State → Prop} {σ : St} {pc : Nat} {lv : List (Nat × Value)} {st : List Value} (C : Zc Θ cc nL RX5 ret rm) (hkd : Θ.2.2.2.2.1 = kdC) {person_a : Int32} {other_a : Int32} {r : Bool} (hx : q5_isAhead σ person_a other_a = some r) (hrm : rm5_isAhead.frames + 1 ≤ rm.frames ∧ 8 + (6 + 11) + rm5_isAhead.locals ≤ rm.locals) (hcat : (st.map fun v => v.category).sum ≤ 8) (hk : kc ≤ rm.cells ∧ ks ≤ rm.slots) (hd : decode cc pc = .ok (.invokevirtual 80, 3)) (kk : Z Θ nL kc ks Q σ (pc + 3) lv (.int (b2i r) :: st)) : Z Θ nL kc ks Q σ pc lv (.int other_a :: .int person_a :: .ref (zA Θ 6) :: st) := z_callV C 6 [.int person_a, .int other_a] (some (.int (b2i r)), σ) 2 (kC_6 hkd) rfl (c5_isAhead (person_a := person_a) (other_a := other_a) hkd (zc_inj C) hx) w_3_80 w_3_77 w_3_78 w_3_79 w_1_9 ⟨rfl, rfl, hrm.1, hrm.2⟩ (by decide +kernel) rfl rfl hcat hk hd kk
theorem dX5_duelsOf_0 : decode cX5_duelsOf 0 = .ok (.iconst 0, 1) := by decide +kernel
theorem dX5_duelsOf_1 : decode cX5_duelsOf 1 = .ok (.istore_n 2, 1) := by decide +kernel
theorem dX5_duelsOf_2 : decode cX5_duelsOf 2 = .ok (.iconst 0, 1) := by decide +kernel
theorem dX5_duelsOf_3 : decode cX5_duelsOf 3 = .ok (.istore_n 3, 1) := by decide +kernel
theorem dX5_duelsOf_4 : decode cX5_duelsOf 4 = .ok (.iload_n 3, 1) := by decide +kernel
theorem dX5_duelsOf_5 : decode cX5_duelsOf 5 = .ok (.aload_n 0, 1) := by decide +kernel
theorem dX5_duelsOf_6 : decode cX5_duelsOf 6 = .ok (.getfield 30, 3) := by decide +kernel
theorem dX5_duelsOf_9 : decode cX5_duelsOf 9 = .ok (.if_icmp .ge 26, 3) := by decide +kernel
theorem dX5_duelsOf_12 : decode cX5_duelsOf 12 = .ok (.iload_n 3, 1) := by decide +kernel
theorem dX5_duelsOf_13 : decode cX5_duelsOf 13 = .ok (.iload_n 1, 1) := by decide +kernel
theorem dX5_duelsOf_14 : decode cX5_duelsOf 14 = .ok (.if_icmp .eq 15, 3) := by decide +kernel
theorem dX5_duelsOf_17 : decode cX5_duelsOf 17 = .ok (.aload_n 0, 1) := by decide +kernel
theorem dX5_duelsOf_18 : decode cX5_duelsOf 18 = .ok (.iload_n 1, 1) := by decide +kernel
theorem dX5_duelsOf_19 : decode cX5_duelsOf 19 = .ok (.iload_n 3, 1) := by decide +kernel
theorem dX5_duelsOf_20 : decode cX5_duelsOf 20 = .ok (.invokevirtual 80, 3) := by decide +kernel
theorem dX5_duelsOf_23 : decode cX5_duelsOf 23 = .ok (.ifCond .eq 6, 3) := by decide +kernel
theorem dX5_duelsOf_26 : decode cX5_duelsOf 26 = .ok (.iinc 2 1, 3) := by decide +kernel
theorem dX5_duelsOf_29 : decode cX5_duelsOf 29 = .ok (.iinc 3 1, 3) := by decide +kernel
theorem dX5_duelsOf_32 : decode cX5_duelsOf 32 = .ok (.goto (-28), 3) := by decide +kernel
theorem dX5_duelsOf_35 : decode cX5_duelsOf 35 = .ok (.iload_n 2, 1) := by decide +kernel
theorem dX5_duelsOf_36 : decode cX5_duelsOf 36 = .ok (.ireturn, 1) := by decide +kernel
def q5_duelsOf (σ : St) (person_a : Int32) : Option Int32 :=
  Option.bind (loop2 (fun rec4_ (duels7_ : Int32) (r8_ : Int32) =>
  if r8_ < (σ 6 6) then
  Option.bind (Option.bind (if ¬ r8_ = person_a then (Option.bind (q5_isAhead σ person_a r8_) fun x23_ =>
  if x23_ = true then (some true) else (some false)) else (some false)) fun t20_ =>
  if t20_ = true then (lt (duels7_ + 1) fun duels27_ =>
  some (duels27_)) else (some (duels7_))) fun y15_ =>
  lt (r8_ + 1) fun r29_ =>
  rec4_ y15_ r29_
  else (some (duels7_, r8_))) fuelN (0 : Int32) (0 : Int32)) fun y1_ =>
  some y1_.1
abbrev rm5_duelsOf : Room := { frames := 2, cells := 0, slots := 0, locals := 46 }
set_option maxHeartbeats 4000000 in
set_option maxRecDepth 100000 in
theorem p5_duelsOf {Θ : Tz} {σ : St} {ρ : Option Value × St} (C : Zc Θ cX5_duelsOf 4 RX5 (some .int) rm5_duelsOf) (hkd : Θ.2.2.2.2.1 = kdC) {person_a : Int32} {r : Int32} (hf : q5_duelsOf σ person_a = some r) (hρ : ρ = (some (.int r), σ)) : Z Θ 4 0 0 (zQ Θ ρ) σ 0 [(0, .ref (zA Θ 6)), (1, .int person_a)] [] := by
  unfold q5_duelsOf at hf
  refine z_iconst (v := 0) C dX5_duelsOf_0 ic_0 ?_
  refine z_istN C dX5_duelsOf_1 rfl rfl (Nat.le_of_ble_eq_true rfl) rfl ?_
  refine z_iconst (v := 0) C dX5_duelsOf_2 ic_0 ?_
  refine z_istN C dX5_duelsOf_3 rfl rfl (Nat.le_of_ble_eq_true rfl) rfl ?_
  refine Z.sub [2, 3, 1, 0] rfl ?_
  obtain ⟨y1_, h2_, hf⟩ := ob hf
  suffices K3_ : Z Θ 4 0 0 (zQ Θ ρ) σ 35 [(0, .ref (zA Θ 6)), (1, .int person_a), (2, .int y1_.1), (3, .int y1_.2)] [] by
    refine loop2_Z (P := fun (duels7_ : Int32) (r8_ : Int32) => Z Θ 4 0 0 (zQ Θ ρ) σ 4 [(0, .ref (zA Θ 6)), (1, .int person_a), (2, .int duels7_), (3, .int r8_)] []) ?_ fuelN (0 : Int32) (0 : Int32) h2_
    clear h2_
    intro rec4_ duels7_ r8_ h5_ h6_
    have K11_ : r8_ < (σ 6 6) → Z Θ 4 0 0 (zQ Θ ρ) σ 12 [(0, .ref (zA Θ 6)), (1, .int person_a), (2, .int duels7_), (3, .int r8_)] [] := by
      intro h14_
      rw [if_pos h14_] at h6_
      obtain ⟨y15_, h16_, h6_⟩ := ob h6_
      suffices K17_ : Z Θ 4 0 0 (zQ Θ ρ) σ 29 [(0, .ref (zA Θ 6)), (1, .int person_a), (2, .int y15_), (3, .int r8_)] [] by
        obtain ⟨t20_, h21_, h16_⟩ := ob h16_
        have K18_ : t20_ = true → Z Θ 4 0 0 (zQ Θ ρ) σ 26 [(0, .ref (zA Θ 6)), (1, .int person_a), (2, .int duels7_), (3, .int r8_)] [] := by
          intro h26_
          rw [if_pos h26_] at h16_
          obtain ⟨duels27_, h28_, h16_⟩ := lt_ h16_
          refine z_inc C 2 dX5_duelsOf_26 rfl ic_1 h28_ (Nat.le_of_ble_eq_true rfl) rfl ?_
          cases h16_
          refine Z.sub [1, 2, 0, 3] rfl ?_
          exact K17_
        have K19_ : ¬ (t20_ = true) → Z Θ 4 0 0 (zQ Θ ρ) σ 29 [(0, .ref (zA Θ 6)), (1, .int person_a), (2, .int duels7_), (3, .int r8_)] [] := by
          intro h26_
          rw [if_neg h26_] at h16_
          cases h16_
          exact K17_
        refine z_iload_n C 3 dX5_duelsOf_12 rfl rfl ?_
        refine z_iload_n C 1 dX5_duelsOf_13 rfl rfl ?_
        refine c_ne_f C 29 dX5_duelsOf_14 (by decide) (fun h22_ => ?_) (fun h22_ => ?_)
        · rw [if_pos h22_] at h21_
          refine z_aload_n C 0 dX5_duelsOf_17 rfl rfl ?_
          refine z_iload_n C 1 dX5_duelsOf_18 rfl rfl ?_
          refine z_iload_n C 3 dX5_duelsOf_19 rfl rfl ?_
          obtain ⟨x23_, h24_, h21_⟩ := ob h21_
          refine cr5_80 (person_a := person_a) (other_a := r8_) C hkd  h24_ ⟨(Nat.le_of_ble_eq_true rfl), (Nat.le_of_ble_eq_true rfl)⟩ (Nat.le_of_ble_eq_true rfl) ⟨Nat.zero_le _, Nat.zero_le _⟩ dX5_duelsOf_20 ?_
          refine cb_f C 29 dX5_duelsOf_23 (by decide) (fun h25_ => ?_) (fun h25_ => ?_)
          · rw [if_pos h25_] at h21_
            cases h21_
            exact K18_ rfl
          · rw [if_neg h25_] at h21_
            cases h21_
            exact K19_ Bool.false_ne_true
        · rw [if_neg h22_] at h21_
          cases h21_
          exact K19_ Bool.false_ne_true
      obtain ⟨r29_, h30_, h6_⟩ := lt_ h6_
      refine z_inc C 3 dX5_duelsOf_29 rfl ic_1 h30_ (Nat.le_of_ble_eq_true rfl) rfl ?_
      refine z_goto C 4 dX5_duelsOf_32 (by decide) ?_
      refine Z.sub [1, 2, 3, 0] rfl ?_
      exact h5_ _ _ h6_
    have K12_ : ¬ (r8_ < (σ 6 6)) → Z Θ 4 0 0 (zQ Θ ρ) σ 35 [(0, .ref (zA Θ 6)), (1, .int person_a), (2, .int duels7_), (3, .int r8_)] [] := by
      intro h14_
      rw [if_neg h14_] at h6_
      cases h6_
      exact K3_
    refine z_iload_n C 3 dX5_duelsOf_4 rfl rfl ?_
    refine z_aload_n C 0 dX5_duelsOf_5 rfl rfl ?_
    refine fg5_30 C hkd dX5_duelsOf_6 ?_
    refine c_lt_f C 35 dX5_duelsOf_9 (by decide) (fun h13_ => ?_) (fun h13_ => ?_)
    · exact K11_ h13_
    · exact K12_ h13_
  refine z_iload_n C 2 dX5_duelsOf_35 rfl rfl ?_
  cases hf
  subst hρ
  exact z_iret C dX5_duelsOf_36
theorem c5_duelsOf {l : Launch} {kd : List KD} {w : Wp} {σ : St} {person_a : Int32} (hkd : kd = kdC) (hi : zI kd w) {r : Int32} (hf : q5_duelsOf σ person_a = some r) : zM l kd w yX5_duelsOf cX5_duelsOf 4 (some .int) rm5_duelsOf [.ref (w.2.2.1 6), .int person_a] σ (some (.int r), σ) := zM_of rfl hi (Nat.le_of_ble_eq_true rfl) (fun Θ hl hw C => by
  obtain ⟨Θ1, Θ2, Θ3, Θ4, Θ5⟩ := Θ
  cases hw
  exact p5_duelsOf C hkd  hf rfl)
/-! LastLoaf$Poll.pointsOf -/
theorem dX5_pointsOf_0 : decode cX5_pointsOf 0 = .ok (.aload_n 0, 1) := by decide +kernel
theorem dX5_pointsOf_1 : decode cX5_pointsOf 1 = .ok (.getfield 34, 3) := by decide +kernel
theorem dX5_pointsOf_4 : decode cX5_pointsOf 4 = .ok (.iload_n 1, 1) := by decide +kernel
theorem dX5_pointsOf_5 : decode cX5_pointsOf 5 = .ok (.invokestatic 58, 3) := by decide +kernel
theorem dX5_pointsOf_8 : decode cX5_pointsOf 8 = .ok (.ifCond .ne 5, 3) := by decide +kernel
theorem dX5_pointsOf_11 : decode cX5_pointsOf 11 = .ok (.iconst 0, 1) := by decide +kernel
theorem dX5_pointsOf_12 : decode cX5_pointsOf 12 = .ok (.ireturn, 1) := by decide +kernel
theorem dX5_pointsOf_13 : decode cX5_pointsOf 13 = .ok (.iconst 0, 1) := by decide +kernel
theorem dX5_pointsOf_14 : decode cX5_pointsOf 14 = .ok (.istore_n 2, 1) := by decide +kernel
theorem dX5_pointsOf_15 : decode cX5_pointsOf 15 = .ok (.iconst 0, 1) := by decide +kernel
theorem dX5_pointsOf_16 : decode cX5_pointsOf 16 = .ok (.istore_n 3, 1) := by decide +kernel
theorem dX5_pointsOf_17 : decode cX5_pointsOf 17 = .ok (.iload_n 3, 1) := by decide +kernel
theorem dX5_pointsOf_18 : decode cX5_pointsOf 18 = .ok (.aload_n 0, 1) := by decide +kernel
theorem dX5_pointsOf_19 : decode cX5_pointsOf 19 = .ok (.getfield 30, 3) := by decide +kernel
theorem dX5_pointsOf_22 : decode cX5_pointsOf 22 = .ok (.if_icmp .ge 41, 3) := by decide +kernel
theorem dX5_pointsOf_25 : decode cX5_pointsOf 25 = .ok (.aload_n 0, 1) := by decide +kernel
theorem dX5_pointsOf_26 : decode cX5_pointsOf 26 = .ok (.getfield 40, 3) := by decide +kernel
theorem dX5_pointsOf_29 : decode cX5_pointsOf 29 = .ok (.iload_n 3, 1) := by decide +kernel
theorem dX5_pointsOf_30 : decode cX5_pointsOf 30 = .ok (.invokestatic 58, 3) := by decide +kernel
theorem dX5_pointsOf_33 : decode cX5_pointsOf 33 = .ok (.ifCond .eq 24, 3) := by decide +kernel
theorem dX5_pointsOf_36 : decode cX5_pointsOf 36 = .ok (.iload_n 2, 1) := by decide +kernel
theorem dX5_pointsOf_37 : decode cX5_pointsOf 37 = .ok (.aload_n 0, 1) := by decide +kernel
theorem dX5_pointsOf_38 : decode cX5_pointsOf 38 = .ok (.getfield 37, 3) := by decide +kernel
theorem dX5_pointsOf_41 : decode cX5_pointsOf 41 = .ok (.iconst 1, 1) := by decide +kernel
theorem dX5_pointsOf_42 : decode cX5_pointsOf 42 = .ok (.isub, 1) := by decide +kernel
theorem dX5_pointsOf_43 : decode cX5_pointsOf 43 = .ok (.aload_n 0, 1) := by decide +kernel
theorem dX5_pointsOf_44 : decode cX5_pointsOf 44 = .ok (.getfield 15, 3) := by decide +kernel
theorem dX5_pointsOf_47 : decode cX5_pointsOf 47 = .ok (.iload_n 3, 1) := by decide +kernel
theorem dX5_pointsOf_48 : decode cX5_pointsOf 48 = .ok (.bipush 6, 2) := by decide +kernel
theorem dX5_pointsOf_50 : decode cX5_pointsOf 50 = .ok (.imul, 1) := by decide +kernel
theorem dX5_pointsOf_51 : decode cX5_pointsOf 51 = .ok (.iload_n 1, 1) := by decide +kernel
theorem dX5_pointsOf_52 : decode cX5_pointsOf 52 = .ok (.iadd, 1) := by decide +kernel
theorem dX5_pointsOf_53 : decode cX5_pointsOf 53 = .ok (.iaload, 1) := by decide +kernel
theorem dX5_pointsOf_54 : decode cX5_pointsOf 54 = .ok (.isub, 1) := by decide +kernel
theorem dX5_pointsOf_55 : decode cX5_pointsOf 55 = .ok (.iadd, 1) := by decide +kernel
theorem dX5_pointsOf_56 : decode cX5_pointsOf 56 = .ok (.istore_n 2, 1) := by decide +kernel
theorem dX5_pointsOf_57 : decode cX5_pointsOf 57 = .ok (.iinc 3 1, 3) := by decide +kernel
theorem dX5_pointsOf_60 : decode cX5_pointsOf 60 = .ok (.goto (-43), 3) := by decide +kernel
theorem dX5_pointsOf_63 : decode cX5_pointsOf 63 = .ok (.iload_n 2, 1) := by decide +kernel
theorem dX5_pointsOf_64 : decode cX5_pointsOf 64 = .ok (.ireturn, 1) := by decide +kernel
def q5_pointsOf (σ : St) (person_a : Int32) : Option Int32 :=
  if ¬ (q11_isIn (σ 6 7) person_a = true) then (some 0) else
  Option.bind (loop2 (fun rec8_ (points11_ : Int32) (v12_ : Int32) =>
  if v12_ < (σ 6 6) then
  Option.bind (if q11_isIn (σ 6 9) v12_ = true then (Option.bind (ag σ 8 36 ((v12_ * 6) + person_a)) fun x26_ =>
  lt (points11_ + (((σ 6 8) - 1) - x26_)) fun points28_ =>
  some (points28_)) else (some (points11_))) fun y19_ =>
  lt (v12_ + 1) fun v30_ =>
  rec8_ y19_ v30_
  else (some (points11_, v12_))) fuelN (0 : Int32) (0 : Int32)) fun y5_ =>
  some y5_.1
abbrev rm5_pointsOf : Room := { frames := 1, cells := 0, slots := 0, locals := 21 }
set_option maxHeartbeats 4000000 in
set_option maxRecDepth 100000 in
theorem p5_pointsOf {Θ : Tz} {σ : St} {ρ : Option Value × St} (C : Zc Θ cX5_pointsOf 4 RX5 (some .int) rm5_pointsOf) (hkd : Θ.2.2.2.2.1 = kdC) {person_a : Int32} {r : Int32} (hf : q5_pointsOf σ person_a = some r) (hρ : ρ = (some (.int r), σ)) : Z Θ 4 0 0 (zQ Θ ρ) σ 0 [(0, .ref (zA Θ 6)), (1, .int person_a)] [] := by
  unfold q5_pointsOf at hf
  have K1_ : ¬ (q11_isIn (σ 6 7) person_a = true) → Z Θ 4 0 0 (zQ Θ ρ) σ 11 [(0, .ref (zA Θ 6)), (1, .int person_a)] [] := by
    intro h4_
    rw [if_pos h4_] at hf
    refine z_iconst (v := 0) C dX5_pointsOf_11 ic_0 ?_
    cases hf
    subst hρ
    exact z_iret C dX5_pointsOf_12
  suffices K2_ : ¬ (¬ (q11_isIn (σ 6 7) person_a = true)) → Z Θ 4 0 0 (zQ Θ ρ) σ 13 [(0, .ref (zA Θ 6)), (1, .int person_a)] [] by
    refine z_aload_n C 0 dX5_pointsOf_0 rfl rfl ?_
    refine fg5_34 C hkd dX5_pointsOf_1 ?_
    refine z_iload_n C 1 dX5_pointsOf_4 rfl rfl ?_
    refine cr5_58 (set_a := (σ 6 7)) (person_a := person_a) C hkd  ⟨(Nat.le_of_ble_eq_true rfl), (Nat.le_of_ble_eq_true rfl)⟩ (Nat.le_of_ble_eq_true rfl) ⟨Nat.zero_le _, Nat.zero_le _⟩ dX5_pointsOf_5 ?_
    refine cb_t C 13 dX5_pointsOf_8 (by decide) (fun h3_ => ?_) (fun h3_ => ?_)
    · exact K2_ (fun n => n h3_)
    · exact K1_ h3_
  intro h4_
  rw [if_neg h4_] at hf
  refine z_iconst (v := 0) C dX5_pointsOf_13 ic_0 ?_
  refine z_istN C dX5_pointsOf_14 rfl rfl (Nat.le_of_ble_eq_true rfl) rfl ?_
  refine z_iconst (v := 0) C dX5_pointsOf_15 ic_0 ?_
  refine z_istN C dX5_pointsOf_16 rfl rfl (Nat.le_of_ble_eq_true rfl) rfl ?_
  refine Z.sub [2, 3, 1, 0] rfl ?_
  obtain ⟨y5_, h6_, hf⟩ := ob hf
  suffices K7_ : Z Θ 4 0 0 (zQ Θ ρ) σ 63 [(0, .ref (zA Θ 6)), (1, .int person_a), (2, .int y5_.1), (3, .int y5_.2)] [] by
    refine loop2_Z (P := fun (points11_ : Int32) (v12_ : Int32) => Z Θ 4 0 0 (zQ Θ ρ) σ 17 [(0, .ref (zA Θ 6)), (1, .int person_a), (2, .int points11_), (3, .int v12_)] []) ?_ fuelN (0 : Int32) (0 : Int32) h6_
    clear h6_
    intro rec8_ points11_ v12_ h9_ h10_
    have K15_ : v12_ < (σ 6 6) → Z Θ 4 0 0 (zQ Θ ρ) σ 25 [(0, .ref (zA Θ 6)), (1, .int person_a), (2, .int points11_), (3, .int v12_)] [] := by
      intro h18_
      rw [if_pos h18_] at h10_
      obtain ⟨y19_, h20_, h10_⟩ := ob h10_
      suffices K21_ : Z Θ 4 0 0 (zQ Θ ρ) σ 57 [(0, .ref (zA Θ 6)), (1, .int person_a), (2, .int y19_), (3, .int v12_)] [] by
        have K22_ : q11_isIn (σ 6 9) v12_ = true → Z Θ 4 0 0 (zQ Θ ρ) σ 36 [(0, .ref (zA Θ 6)), (1, .int person_a), (2, .int points11_), (3, .int v12_)] [] := by
          intro h25_
          rw [if_pos h25_] at h20_
          refine z_iload_n C 2 dX5_pointsOf_36 rfl rfl ?_
          refine z_aload_n C 0 dX5_pointsOf_37 rfl rfl ?_
          refine fg5_37 C hkd dX5_pointsOf_38 ?_
          refine z_iconst (v := 1) C dX5_pointsOf_41 ic_1 ?_
          refine z_isub C dX5_pointsOf_42 ?_
          refine z_aload_n C 0 dX5_pointsOf_43 rfl rfl ?_
          refine fg5_15 C hkd dX5_pointsOf_44 ?_
          refine z_iload_n C 3 dX5_pointsOf_47 rfl rfl ?_
          refine z_bipush (v := 6) C dX5_pointsOf_48 bp_6 ?_
          refine z_imul C dX5_pointsOf_50 ?_
          refine z_iload_n C 1 dX5_pointsOf_51 rfl rfl ?_
          refine z_iadd C dX5_pointsOf_52 ?_
          obtain ⟨x26_, h27_, h20_⟩ := ob h20_
          refine z_ag C h27_ (kC_8 hkd) dX5_pointsOf_53 ?_
          refine z_isub C dX5_pointsOf_54 ?_
          refine z_iadd C dX5_pointsOf_55 ?_
          obtain ⟨points28_, h29_, h20_⟩ := lt_ h20_
          refine z_istN C dX5_pointsOf_56 h29_ rfl (Nat.le_of_ble_eq_true rfl) rfl ?_
          cases h20_
          refine Z.sub [1, 2, 0, 3] rfl ?_
          exact K21_
        have K23_ : ¬ (q11_isIn (σ 6 9) v12_ = true) → Z Θ 4 0 0 (zQ Θ ρ) σ 57 [(0, .ref (zA Θ 6)), (1, .int person_a), (2, .int points11_), (3, .int v12_)] [] := by
          intro h25_
          rw [if_neg h25_] at h20_
          cases h20_
          exact K21_
        refine z_aload_n C 0 dX5_pointsOf_25 rfl rfl ?_
        refine fg5_40 C hkd dX5_pointsOf_26 ?_
        refine z_iload_n C 3 dX5_pointsOf_29 rfl rfl ?_
        refine cr5_58 (set_a := (σ 6 9)) (person_a := v12_) C hkd  ⟨(Nat.le_of_ble_eq_true rfl), (Nat.le_of_ble_eq_true rfl)⟩ (Nat.le_of_ble_eq_true rfl) ⟨Nat.zero_le _, Nat.zero_le _⟩ dX5_pointsOf_30 ?_
        refine cb_f C 57 dX5_pointsOf_33 (by decide) (fun h24_ => ?_) (fun h24_ => ?_)
        · exact K22_ h24_
        · exact K23_ h24_
      obtain ⟨v30_, h31_, h10_⟩ := lt_ h10_
      refine z_inc C 3 dX5_pointsOf_57 rfl ic_1 h31_ (Nat.le_of_ble_eq_true rfl) rfl ?_
      refine z_goto C 17 dX5_pointsOf_60 (by decide) ?_
      refine Z.sub [1, 2, 3, 0] rfl ?_
      exact h9_ _ _ h10_
    have K16_ : ¬ (v12_ < (σ 6 6)) → Z Θ 4 0 0 (zQ Θ ρ) σ 63 [(0, .ref (zA Θ 6)), (1, .int person_a), (2, .int points11_), (3, .int v12_)] [] := by
      intro h18_
      rw [if_neg h18_] at h10_
      cases h10_
      exact K7_
    refine z_iload_n C 3 dX5_pointsOf_17 rfl rfl ?_
    refine z_aload_n C 0 dX5_pointsOf_18 rfl rfl ?_
    refine fg5_30 C hkd dX5_pointsOf_19 ?_
    refine c_lt_f C 63 dX5_pointsOf_22 (by decide) (fun h17_ => ?_) (fun h17_ => ?_)
    · exact K15_ h17_
    · exact K16_ h17_
  refine z_iload_n C 2 dX5_pointsOf_63 rfl rfl ?_
  cases hf
  subst hρ
  exact z_iret C dX5_pointsOf_64
theorem c5_pointsOf {l : Launch} {kd : List KD} {w : Wp} {σ : St} {person_a : Int32} (hkd : kd = kdC) (hi : zI kd w) {r : Int32} (hf : q5_pointsOf σ person_a = some r) : zM l kd w yX5_pointsOf cX5_pointsOf 4 (some .int) rm5_pointsOf [.ref (w.2.2.1 6), .int person_a] σ (some (.int r), σ) := zM_of rfl hi (Nat.le_of_ble_eq_true rfl) (fun Θ hl hw C => by
  obtain ⟨Θ1, Θ2, Θ3, Θ4, Θ5⟩ := Θ
  cases hw
  exact p5_pointsOf C hkd  hf rfl)
/-! LastLoaf$Poll.votesOf -/
theorem dX5_votesOf_0 : decode cX5_votesOf 0 = .ok (.iconst 0, 1) := by decide +kernel
theorem dX5_votesOf_1 : decode cX5_votesOf 1 = .ok (.istore_n 2, 1) := by decide +kernel
theorem dX5_votesOf_2 : decode cX5_votesOf 2 = .ok (.iconst 0, 1) := by decide +kernel
theorem dX5_votesOf_3 : decode cX5_votesOf 3 = .ok (.istore_n 3, 1) := by decide +kernel
theorem dX5_votesOf_4 : decode cX5_votesOf 4 = .ok (.iload_n 3, 1) := by decide +kernel
theorem dX5_votesOf_5 : decode cX5_votesOf 5 = .ok (.aload_n 0, 1) := by decide +kernel
theorem dX5_votesOf_6 : decode cX5_votesOf 6 = .ok (.getfield 30, 3) := by decide +kernel
theorem dX5_votesOf_9 : decode cX5_votesOf 9 = .ok (.if_icmp .ge 22, 3) := by decide +kernel
theorem dX5_votesOf_12 : decode cX5_votesOf 12 = .ok (.aload_n 0, 1) := by decide +kernel
theorem dX5_votesOf_13 : decode cX5_votesOf 13 = .ok (.iload_n 3, 1) := by decide +kernel
theorem dX5_votesOf_14 : decode cX5_votesOf 14 = .ok (.iconst 0, 1) := by decide +kernel
theorem dX5_votesOf_15 : decode cX5_votesOf 15 = .ok (.invokevirtual 76, 3) := by decide +kernel
theorem dX5_votesOf_18 : decode cX5_votesOf 18 = .ok (.iload_n 1, 1) := by decide +kernel
theorem dX5_votesOf_19 : decode cX5_votesOf 19 = .ok (.if_icmp .ne 6, 3) := by decide +kernel
theorem dX5_votesOf_22 : decode cX5_votesOf 22 = .ok (.iinc 2 1, 3) := by decide +kernel
theorem dX5_votesOf_25 : decode cX5_votesOf 25 = .ok (.iinc 3 1, 3) := by decide +kernel
theorem dX5_votesOf_28 : decode cX5_votesOf 28 = .ok (.goto (-24), 3) := by decide +kernel
theorem dX5_votesOf_31 : decode cX5_votesOf 31 = .ok (.iload_n 2, 1) := by decide +kernel
theorem dX5_votesOf_32 : decode cX5_votesOf 32 = .ok (.ireturn, 1) := by decide +kernel
def q5_votesOf (σ : St) (person_a : Int32) : Option Int32 :=
  Option.bind (loop2 (fun rec4_ (votes7_ : Int32) (v8_ : Int32) =>
  if v8_ < (σ 6 6) then
  Option.bind (Option.bind (q5_rankAt σ v8_ 0) fun x20_ =>
  if x20_ = person_a then (lt (votes7_ + 1) fun votes24_ =>
  some (votes24_)) else (some (votes7_))) fun y15_ =>
  lt (v8_ + 1) fun v26_ =>
  rec4_ y15_ v26_
  else (some (votes7_, v8_))) fuelN (0 : Int32) (0 : Int32)) fun y1_ =>
  some y1_.1
abbrev rm5_votesOf : Room := { frames := 2, cells := 0, slots := 0, locals := 43 }
set_option maxHeartbeats 4000000 in
set_option maxRecDepth 100000 in
theorem p5_votesOf {Θ : Tz} {σ : St} {ρ : Option Value × St} (C : Zc Θ cX5_votesOf 4 RX5 (some .int) rm5_votesOf) (hkd : Θ.2.2.2.2.1 = kdC) {person_a : Int32} {r : Int32} (hf : q5_votesOf σ person_a = some r) (hρ : ρ = (some (.int r), σ)) : Z Θ 4 0 0 (zQ Θ ρ) σ 0 [(0, .ref (zA Θ 6)), (1, .int person_a)] [] := by
  unfold q5_votesOf at hf
  refine z_iconst (v := 0) C dX5_votesOf_0 ic_0 ?_
  refine z_istN C dX5_votesOf_1 rfl rfl (Nat.le_of_ble_eq_true rfl) rfl ?_
  refine z_iconst (v := 0) C dX5_votesOf_2 ic_0 ?_
  refine z_istN C dX5_votesOf_3 rfl rfl (Nat.le_of_ble_eq_true rfl) rfl ?_
  refine Z.sub [2, 3, 1, 0] rfl ?_
  obtain ⟨y1_, h2_, hf⟩ := ob hf
  suffices K3_ : Z Θ 4 0 0 (zQ Θ ρ) σ 31 [(0, .ref (zA Θ 6)), (1, .int person_a), (2, .int y1_.1), (3, .int y1_.2)] [] by
    refine loop2_Z (P := fun (votes7_ : Int32) (v8_ : Int32) => Z Θ 4 0 0 (zQ Θ ρ) σ 4 [(0, .ref (zA Θ 6)), (1, .int person_a), (2, .int votes7_), (3, .int v8_)] []) ?_ fuelN (0 : Int32) (0 : Int32) h2_
    clear h2_
    intro rec4_ votes7_ v8_ h5_ h6_
    have K11_ : v8_ < (σ 6 6) → Z Θ 4 0 0 (zQ Θ ρ) σ 12 [(0, .ref (zA Θ 6)), (1, .int person_a), (2, .int votes7_), (3, .int v8_)] [] := by
      intro h14_
      rw [if_pos h14_] at h6_
      obtain ⟨y15_, h16_, h6_⟩ := ob h6_
      suffices K17_ : Z Θ 4 0 0 (zQ Θ ρ) σ 25 [(0, .ref (zA Θ 6)), (1, .int person_a), (2, .int y15_), (3, .int v8_)] [] by
        refine z_aload_n C 0 dX5_votesOf_12 rfl rfl ?_
        refine z_iload_n C 3 dX5_votesOf_13 rfl rfl ?_
        refine z_iconst (v := 0) C dX5_votesOf_14 ic_0 ?_
        obtain ⟨x20_, h21_, h16_⟩ := ob h16_
        refine cr5_76 (voter_a := v8_) (k_a := 0) C hkd  h21_ ⟨(Nat.le_of_ble_eq_true rfl), (Nat.le_of_ble_eq_true rfl)⟩ (Nat.le_of_ble_eq_true rfl) ⟨Nat.zero_le _, Nat.zero_le _⟩ dX5_votesOf_15 ?_
        refine z_iload_n C 1 dX5_votesOf_18 rfl rfl ?_
        have K18_ : x20_ = person_a → Z Θ 4 0 0 (zQ Θ ρ) σ 22 [(0, .ref (zA Θ 6)), (1, .int person_a), (2, .int votes7_), (3, .int v8_)] [] := by
          intro h23_
          rw [if_pos h23_] at h16_
          obtain ⟨votes24_, h25_, h16_⟩ := lt_ h16_
          refine z_inc C 2 dX5_votesOf_22 rfl ic_1 h25_ (Nat.le_of_ble_eq_true rfl) rfl ?_
          cases h16_
          refine Z.sub [1, 2, 0, 3] rfl ?_
          exact K17_
        have K19_ : ¬ (x20_ = person_a) → Z Θ 4 0 0 (zQ Θ ρ) σ 25 [(0, .ref (zA Θ 6)), (1, .int person_a), (2, .int votes7_), (3, .int v8_)] [] := by
          intro h23_
          rw [if_neg h23_] at h16_
          cases h16_
          exact K17_
        refine c_eq_f C 25 dX5_votesOf_19 (by decide) (fun h22_ => ?_) (fun h22_ => ?_)
        · exact K18_ h22_
        · exact K19_ h22_
      obtain ⟨v26_, h27_, h6_⟩ := lt_ h6_
      refine z_inc C 3 dX5_votesOf_25 rfl ic_1 h27_ (Nat.le_of_ble_eq_true rfl) rfl ?_
      refine z_goto C 4 dX5_votesOf_28 (by decide) ?_
      refine Z.sub [1, 2, 3, 0] rfl ?_
      exact h5_ _ _ h6_
    have K12_ : ¬ (v8_ < (σ 6 6)) → Z Θ 4 0 0 (zQ Θ ρ) σ 31 [(0, .ref (zA Θ 6)), (1, .int person_a), (2, .int votes7_), (3, .int v8_)] [] := by
      intro h14_
      rw [if_neg h14_] at h6_
      cases h6_
      exact K3_
    refine z_iload_n C 3 dX5_votesOf_4 rfl rfl ?_
    refine z_aload_n C 0 dX5_votesOf_5 rfl rfl ?_
    refine fg5_30 C hkd dX5_votesOf_6 ?_
    refine c_lt_f C 31 dX5_votesOf_9 (by decide) (fun h13_ => ?_) (fun h13_ => ?_)
    · exact K11_ h13_
    · exact K12_ h13_
  refine z_iload_n C 2 dX5_votesOf_31 rfl rfl ?_
  cases hf
  subst hρ
  exact z_iret C dX5_votesOf_32
theorem c5_votesOf {l : Launch} {kd : List KD} {w : Wp} {σ : St} {person_a : Int32} (hkd : kd = kdC) (hi : zI kd w) {r : Int32} (hf : q5_votesOf σ person_a = some r) : zM l kd w yX5_votesOf cX5_votesOf 4 (some .int) rm5_votesOf [.ref (w.2.2.1 6), .int person_a] σ (some (.int r), σ) := zM_of rfl hi (Nat.le_of_ble_eq_true rfl) (fun Θ hl hw C => by
  obtain ⟨Θ1, Θ2, Θ3, Θ4, Θ5⟩ := Θ
  cases hw
  exact p5_votesOf C hkd  hf rfl)
/-! LastLoaf$Village.wouldPass -/
theorem w_4_93 : Cond.methodLink "LastLoaf$Village" (95 : Nat) ({ cls := "LastLoaf$Village", name := "likingOf", desc := "(II)I" } : MethodName) ∈ TB := tb_in (lwt_4 (List.mem_of_getElem? (i := 93) (by decide +kernel))) rfl
theorem cr10_95 {Θ : Tz} {cc : ByteArray} {nL kc ks : Nat} {ret : Option FieldType} {rm : Room} {Q : State → Prop} {σ : St} {pc : Nat} {lv : List (Nat × Value)} {st : List Value} (C : Zc Θ cc nL RX10 ret rm) (hkd : Θ.2.2.2.2.1 = kdC) {th : Nat} {person_a : Int32} {other_a : Int32} (hth : isV th) {r : Int32} (hx : q10_likingOf σ th person_a other_a = some r) (hrm : rm10_likingOf.frames + 1 ≤ rm.frames ∧ 8 + (3 + 11) + rm10_likingOf.locals ≤ rm.locals) (hcat : (st.map fun v => v.category).sum ≤ 8) (hk : kc ≤ rm.cells ∧ ks ≤ rm.slots) (hd : decode cc pc = .ok (.invokevirtual 95, 3)) (kk : Z Θ nL kc ks Q σ (pc + 3) lv (.int r :: st)) : Z Θ nL kc ks Q σ pc lv (.int other_a :: .int person_a :: .ref (zA Θ th) :: st) := z_callV C th [.int person_a, .int other_a] (some (.int r), σ) 2 (kV_0 hkd hth) rfl (c10_likingOf (th := th) (person_a := person_a) (other_a := other_a) hkd (zc_inj C) hth hx) w_3_48 w_4_93 w_3_46 w_3_47 w_1_3 ⟨rfl, rfl, hrm.1, hrm.2⟩ (by decide +kernel) rfl rfl hcat hk hd kk
theorem cr10_98 {Θ : Tz} {cc : ByteArray} {nL kc ks : Nat} {ret : Option FieldType} {rm : Room} {Q : State → Prop} {σ : St} {pc : Nat} {lv : List (Nat × Value)} {st : List Value} (C : Zc Θ cc nL RX10 ret rm) (hkd : Θ.2.2.2.2.1 = kdC) {set_a : Int32} {person_a : Int32} (hrm : rm11_isIn.frames + 1 ≤ rm.frames ∧ 8 + (2 + 11) + rm11_isIn.locals ≤ rm.locals) (hcat : (st.map fun v => v.category).sum ≤ 8) (hk : kc ≤ rm.cells ∧ ks ≤ rm.slots) (hd : decode cc pc = .ok (.invokestatic 98, 3)) (kk : Z Θ nL kc ks Q σ (pc + 3) lv (.int (b2i (q11_isIn set_a person_a)) :: st)) : Z Θ nL kc ks Q σ pc lv (.int person_a :: .int set_a :: st) := z_callSN (host := "LastLoaf") C [.int set_a, .int person_a] (some (.int (b2i (q11_isIn set_a person_a))), σ) 2 (c11_isIn (set_a := set_a) (person_a := person_a) hkd (zc_inj C)) w_3_36 (List.mem_of_getElem? (i := 22) rfl) w_3_35 w_1_1 ⟨rfl, rfl, hrm.1, hrm.2⟩ (by decide +kernel) rfl rfl hcat hk hd kk
theorem dX10_wouldPass_0 : decode cX10_wouldPass 0 = .ok (.iconst (-1), 1) := by decide +kernel
theorem dX10_wouldPass_1 : decode cX10_wouldPass 1 = .ok (.istore_n 2, 1) := by decide +kernel
theorem dX10_wouldPass_2 : decode cX10_wouldPass 2 = .ok (.iconst (-1), 1) := by decide +kernel
theorem dX10_wouldPass_3 : decode cX10_wouldPass 3 = .ok (.istore_n 3, 1) := by decide +kernel
theorem dX10_wouldPass_4 : decode cX10_wouldPass 4 = .ok (.iconst 0, 1) := by decide +kernel
theorem dX10_wouldPass_5 : decode cX10_wouldPass 5 = .ok (.istore 4, 2) := by decide +kernel
theorem dX10_wouldPass_7 : decode cX10_wouldPass 7 = .ok (.iload 4, 2) := by decide +kernel
theorem dX10_wouldPass_9 : decode cX10_wouldPass 9 = .ok (.aload_n 0, 1) := by decide +kernel
theorem dX10_wouldPass_10 : decode cX10_wouldPass 10 = .ok (.getfield 40, 3) := by decide +kernel
theorem dX10_wouldPass_13 : decode cX10_wouldPass 13 = .ok (.if_icmp .ge 56, 3) := by decide +kernel
theorem dX10_wouldPass_16 : decode cX10_wouldPass 16 = .ok (.aload_n 0, 1) := by decide +kernel
theorem dX10_wouldPass_17 : decode cX10_wouldPass 17 = .ok (.iload_n 1, 1) := by decide +kernel
theorem dX10_wouldPass_18 : decode cX10_wouldPass 18 = .ok (.iload 4, 2) := by decide +kernel
theorem dX10_wouldPass_20 : decode cX10_wouldPass 20 = .ok (.invokevirtual 95, 3) := by decide +kernel
theorem dX10_wouldPass_23 : decode cX10_wouldPass 23 = .ok (.aload_n 0, 1) := by decide +kernel
theorem dX10_wouldPass_24 : decode cX10_wouldPass 24 = .ok (.getfield 9, 3) := by decide +kernel
theorem dX10_wouldPass_27 : decode cX10_wouldPass 27 = .ok (.iload 4, 2) := by decide +kernel
theorem dX10_wouldPass_29 : decode cX10_wouldPass 29 = .ok (.iaload, 1) := by decide +kernel
theorem dX10_wouldPass_30 : decode cX10_wouldPass 30 = .ok (.iadd, 1) := by decide +kernel
theorem dX10_wouldPass_31 : decode cX10_wouldPass 31 = .ok (.istore 5, 2) := by decide +kernel
theorem dX10_wouldPass_33 : decode cX10_wouldPass 33 = .ok (.iload 4, 2) := by decide +kernel
theorem dX10_wouldPass_35 : decode cX10_wouldPass 35 = .ok (.iload_n 1, 1) := by decide +kernel
theorem dX10_wouldPass_36 : decode cX10_wouldPass 36 = .ok (.if_icmp .eq 27, 3) := by decide +kernel
theorem dX10_wouldPass_39 : decode cX10_wouldPass 39 = .ok (.aload_n 0, 1) := by decide +kernel
theorem dX10_wouldPass_40 : decode cX10_wouldPass 40 = .ok (.getfield 47, 3) := by decide +kernel
theorem dX10_wouldPass_43 : decode cX10_wouldPass 43 = .ok (.iload 4, 2) := by decide +kernel
theorem dX10_wouldPass_45 : decode cX10_wouldPass 45 = .ok (.invokestatic 98, 3) := by decide +kernel
theorem dX10_wouldPass_48 : decode cX10_wouldPass 48 = .ok (.ifCond .ne 15, 3) := by decide +kernel
theorem dX10_wouldPass_51 : decode cX10_wouldPass 51 = .ok (.iload 5, 2) := by decide +kernel
theorem dX10_wouldPass_53 : decode cX10_wouldPass 53 = .ok (.iload_n 3, 1) := by decide +kernel
theorem dX10_wouldPass_54 : decode cX10_wouldPass 54 = .ok (.if_icmp .le 9, 3) := by decide +kernel
theorem dX10_wouldPass_57 : decode cX10_wouldPass 57 = .ok (.iload 5, 2) := by decide +kernel
theorem dX10_wouldPass_59 : decode cX10_wouldPass 59 = .ok (.istore_n 3, 1) := by decide +kernel
theorem dX10_wouldPass_60 : decode cX10_wouldPass 60 = .ok (.iload 4, 2) := by decide +kernel
theorem dX10_wouldPass_62 : decode cX10_wouldPass 62 = .ok (.istore_n 2, 1) := by decide +kernel
theorem dX10_wouldPass_63 : decode cX10_wouldPass 63 = .ok (.iinc 4 1, 3) := by decide +kernel
theorem dX10_wouldPass_66 : decode cX10_wouldPass 66 = .ok (.goto (-59), 3) := by decide +kernel
theorem dX10_wouldPass_69 : decode cX10_wouldPass 69 = .ok (.iload_n 2, 1) := by decide +kernel
theorem dX10_wouldPass_70 : decode cX10_wouldPass 70 = .ok (.ireturn, 1) := by decide +kernel
def q10_wouldPass (σ : St) (th : Nat) (person_a : Int32) : Option Int32 :=
  Option.bind (loop3 (fun rec4_ (best7_ : Int32) (most8_ : Int32) (p9_ : Int32) =>
  if p9_ < (σ th 8) then
  Option.bind (q10_likingOf σ th person_a p9_) fun x16_ =>
  Option.bind (ag σ (th + 1) 6 p9_) fun x18_ =>
  lt (x16_ + x18_) fun pull20_ =>
  lt (if ((¬ p9_ = person_a) ∧ (¬ (q11_isIn (σ th 10) p9_ = true))) ∧ (most8_ < pull20_) then ((p9_, pull20_)) else ((best7_, most8_))) fun y22_ =>
  lt (p9_ + 1) fun p31_ =>
  rec4_ y22_.1 y22_.2 p31_
  else (some (best7_, most8_, p9_))) fuelN (-1 : Int32) (-1 : Int32) (0 : Int32)) fun y1_ =>
  some y1_.1
abbrev rm10_wouldPass : Room := { frames := 1, cells := 0, slots := 0, locals := 22 }
set_option maxHeartbeats 4000000 in
set_option maxRecDepth 100000 in
theorem p10_wouldPass {Θ : Tz} {σ : St} {ρ : Option Value × St} (C : Zc Θ cX10_wouldPass 6 RX10 (some .int) rm10_wouldPass) (hkd : Θ.2.2.2.2.1 = kdC) {th : Nat} {person_a : Int32} (hth : isV th) {r : Int32} (hf : q10_wouldPass σ th person_a = some r) (hρ : ρ = (some (.int r), σ)) : Z Θ 6 0 0 (zQ Θ ρ) σ 0 [(0, .ref (zA Θ th)), (1, .int person_a)] [] := by
  unfold q10_wouldPass at hf
  refine z_iconst (v := (-1)) C dX10_wouldPass_0 ic_m1 ?_
  refine z_istN C dX10_wouldPass_1 rfl rfl (Nat.le_of_ble_eq_true rfl) rfl ?_
  refine z_iconst (v := (-1)) C dX10_wouldPass_2 ic_m1 ?_
  refine z_istN C dX10_wouldPass_3 rfl rfl (Nat.le_of_ble_eq_true rfl) rfl ?_
  refine z_iconst (v := 0) C dX10_wouldPass_4 ic_0 ?_
  refine z_ist C dX10_wouldPass_5 rfl (Nat.le_of_ble_eq_true rfl) rfl ?_
  refine Z.sub [3, 4, 2, 1, 0] rfl ?_
  obtain ⟨y1_, h2_, hf⟩ := ob hf
  suffices K3_ : Z Θ 6 0 0 (zQ Θ ρ) σ 69 [(0, .ref (zA Θ th)), (1, .int person_a), (2, .int y1_.1), (3, .int y1_.2.1), (4, .int y1_.2.2)] [] by
    refine loop3_Z (P := fun (best7_ : Int32) (most8_ : Int32) (p9_ : Int32) => Z Θ 6 0 0 (zQ Θ ρ) σ 7 [(0, .ref (zA Θ th)), (1, .int person_a), (2, .int best7_), (3, .int most8_), (4, .int p9_)] []) ?_ fuelN (-1 : Int32) (-1 : Int32) (0 : Int32) h2_
    clear h2_
    intro rec4_ best7_ most8_ p9_ h5_ h6_
    have K12_ : p9_ < (σ th 8) → Z Θ 6 0 0 (zQ Θ ρ) σ 16 [(0, .ref (zA Θ th)), (1, .int person_a), (2, .int best7_), (3, .int most8_), (4, .int p9_)] [] := by
      intro h15_
      rw [if_pos h15_] at h6_
      refine z_aload_n C 0 dX10_wouldPass_16 rfl rfl ?_
      refine z_iload_n C 1 dX10_wouldPass_17 rfl rfl ?_
      refine z_iload C 4 dX10_wouldPass_18 rfl ?_
      obtain ⟨x16_, h17_, h6_⟩ := ob h6_
      refine cr10_95 (th := th) (person_a := person_a) (other_a := p9_) C hkd hth h17_ ⟨(Nat.le_of_ble_eq_true rfl), (Nat.le_of_ble_eq_true rfl)⟩ (Nat.le_of_ble_eq_true rfl) ⟨Nat.zero_le _, Nat.zero_le _⟩ dX10_wouldPass_20 ?_
      refine z_aload_n C 0 dX10_wouldPass_23 rfl rfl ?_
      refine fg10_9 C hkd hth dX10_wouldPass_24 ?_
      refine z_iload C 4 dX10_wouldPass_27 rfl ?_
      obtain ⟨x18_, h19_, h6_⟩ := ob h6_
      refine z_ag C h19_ (kV_1 hkd hth) dX10_wouldPass_29 ?_
      refine z_iadd C dX10_wouldPass_30 ?_
      obtain ⟨pull20_, h21_, h6_⟩ := lt_ h6_
      refine z_ist C dX10_wouldPass_31 h21_ (Nat.le_of_ble_eq_true rfl) rfl ?_
      obtain ⟨y22_, h23_, h6_⟩ := lt_ h6_
      have h23_ := h23_.symm
      suffices K24_ : Z Θ 6 0 0 (zQ Θ ρ) σ 63 [(0, .ref (zA Θ th)), (1, .int person_a), (2, .int y22_.1), (3, .int y22_.2), (4, .int p9_), (5, .int pull20_)] [] by
        have K25_ : ((¬ p9_ = person_a) ∧ (¬ (q11_isIn (σ th 10) p9_ = true))) ∧ (most8_ < pull20_) → Z Θ 6 0 0 (zQ Θ ρ) σ 57 [(5, .int pull20_), (0, .ref (zA Θ th)), (1, .int person_a), (2, .int best7_), (3, .int most8_), (4, .int p9_)] [] := by
          intro h30_
          rw [if_pos h30_] at h23_
          refine z_iload C 0 dX10_wouldPass_57 rfl ?_
          refine z_istN C dX10_wouldPass_59 rfl rfl (Nat.le_of_ble_eq_true rfl) rfl ?_
          refine z_iload C 5 dX10_wouldPass_60 rfl ?_
          refine z_istN C dX10_wouldPass_62 rfl rfl (Nat.le_of_ble_eq_true rfl) rfl ?_
          subst h23_
          refine Z.sub [3, 4, 0, 1, 5, 2] rfl ?_
          exact K24_
        have K26_ : ¬ (((¬ p9_ = person_a) ∧ (¬ (q11_isIn (σ th 10) p9_ = true))) ∧ (most8_ < pull20_)) → Z Θ 6 0 0 (zQ Θ ρ) σ 63 [(5, .int pull20_), (0, .ref (zA Θ th)), (1, .int person_a), (2, .int best7_), (3, .int most8_), (4, .int p9_)] [] := by
          intro h30_
          rw [if_neg h30_] at h23_
          subst h23_
          refine Z.sub [1, 2, 3, 4, 5, 0] rfl ?_
          exact K24_
        refine z_iload C 5 dX10_wouldPass_33 rfl ?_
        refine z_iload_n C 2 dX10_wouldPass_35 rfl rfl ?_
        refine c_ne_f C 63 dX10_wouldPass_36 (by decide) (fun h27_ => ?_) (fun h27_ => ?_)
        · refine z_aload_n C 1 dX10_wouldPass_39 rfl rfl ?_
          refine fg10_47 C hkd hth dX10_wouldPass_40 ?_
          refine z_iload C 5 dX10_wouldPass_43 rfl ?_
          refine cr10_98 (set_a := (σ th 10)) (person_a := p9_) C hkd  ⟨(Nat.le_of_ble_eq_true rfl), (Nat.le_of_ble_eq_true rfl)⟩ (Nat.le_of_ble_eq_true rfl) ⟨Nat.zero_le _, Nat.zero_le _⟩ dX10_wouldPass_45 ?_
          refine cb_t C 63 dX10_wouldPass_48 (by decide) (fun h28_ => ?_) (fun h28_ => ?_)
          · exact K26_ (fun n => (fun n => (fun n => n h28_) n.2) n.1)
          · refine z_iload C 0 dX10_wouldPass_51 rfl ?_
            refine z_iload_n C 4 dX10_wouldPass_53 rfl rfl ?_
            refine c_gt_f C 63 dX10_wouldPass_54 (by decide) (fun h29_ => ?_) (fun h29_ => ?_)
            · exact K25_ ⟨⟨h27_, h28_⟩, h29_⟩
            · exact K26_ (fun n => h29_ n.2)
        · exact K26_ (fun n => (fun n => h27_ n.1) n.1)
      obtain ⟨p31_, h32_, h6_⟩ := lt_ h6_
      refine z_inc C 4 dX10_wouldPass_63 rfl ic_1 h32_ (Nat.le_of_ble_eq_true rfl) rfl ?_
      refine z_goto C 7 dX10_wouldPass_66 (by decide) ?_
      refine Z.sub [1, 2, 3, 4, 0] rfl ?_
      exact h5_ _ _ _ h6_
    have K13_ : ¬ (p9_ < (σ th 8)) → Z Θ 6 0 0 (zQ Θ ρ) σ 69 [(0, .ref (zA Θ th)), (1, .int person_a), (2, .int best7_), (3, .int most8_), (4, .int p9_)] [] := by
      intro h15_
      rw [if_neg h15_] at h6_
      cases h6_
      exact K3_
    refine z_iload C 4 dX10_wouldPass_7 rfl ?_
    refine z_aload_n C 0 dX10_wouldPass_9 rfl rfl ?_
    refine fg10_40 C hkd hth dX10_wouldPass_10 ?_
    refine c_lt_f C 69 dX10_wouldPass_13 (by decide) (fun h14_ => ?_) (fun h14_ => ?_)
    · exact K12_ h14_
    · exact K13_ h14_
  refine z_iload_n C 2 dX10_wouldPass_69 rfl rfl ?_
  cases hf
  subst hρ
  exact z_iret C dX10_wouldPass_70
theorem c10_wouldPass {l : Launch} {kd : List KD} {w : Wp} {σ : St} {th : Nat} {person_a : Int32} (hkd : kd = kdC) (hi : zI kd w) (hth : isV th) {r : Int32} (hf : q10_wouldPass σ th person_a = some r) : zM l kd w yX10_wouldPass cX10_wouldPass 6 (some .int) rm10_wouldPass [.ref (w.2.2.1 th), .int person_a] σ (some (.int r), σ) := zM_of rfl hi (Nat.le_of_ble_eq_true rfl) (fun Θ hl hw C => by
  obtain ⟨Θ1, Θ2, Θ3, Θ4, Θ5⟩ := Θ
  cases hw
  exact p10_wouldPass C hkd hth hf rfl)
/-! LastLoaf.person -/
theorem w_5_227 : Cond.code ({ cls := "LastLoaf", name := "needPerson", desc := "(I)V" } : MethodName) prog_1_method_73_code (2 : Nat) (Option.none : Option ClassFile.FieldType) ∈ TB := tb_in (lwt_5 (List.mem_of_getElem? (i := 227) (by decide +kernel))) rfl
theorem w_5_224 : Cond.methodLink "LastLoaf" (151 : Nat) ({ cls := "LastLoaf", name := "needPerson", desc := "(I)V" } : MethodName) ∈ TB := tb_in (lwt_5 (List.mem_of_getElem? (i := 224) (by decide +kernel))) rfl
theorem w_5_226 : Cond.instanceMethod ({ cls := "LastLoaf", name := "needPerson", desc := "(I)V" } : MethodName) ∈ TB := tb_in (lwt_5 (List.mem_of_getElem? (i := 226) (by decide +kernel))) rfl
theorem ws_LastLoaf_needPerson_I_V : Cond.selects "LastLoaf" (⟨"LastLoaf", "needPerson", "(I)V"⟩ : MethodName) (⟨"LastLoaf", "needPerson", "(I)V"⟩ : MethodName) ∈ TB := tb_in (List.mem_append_left _ (List.mem_of_getElem? (i := 7) (by decide +kernel))) rfl
theorem w_1_96 : Cond.fieldLink "LastLoaf" (154 : Nat) "LastLoaf$Village" "hunger" "[I" ∈ TB := tb_in (lwt_1 (List.mem_of_getElem? (i := 96) (by decide +kernel))) rfl
theorem fg11_154 {Θ : Tz} {cc : ByteArray} {nL kc ks : Nat} {ret : Option FieldType} {rm : Room} {Q : State → Prop} {σ : St} {pc : Nat} {lv : List (Nat × Value)} {st : List Value} (C : Zc Θ cc nL RX11 ret rm) (hkd : Θ.2.2.2.2.1 = kdC) {th : Nat} (hth : isV th) (hd : decode cc pc = .ok (.getfield 154, 3)) (kk : Z Θ nL kc ks Q σ (pc + 3) lv (.ref (zA Θ (th + 1)) :: st)) : Z Θ nL kc ks Q σ pc lv (.ref (zA Θ th) :: st) := z_get C inT10 th (kV_0 hkd hth) rfl 0 (by decide) w_1_96 rfl hd kk
theorem w_1_99 : Cond.fieldLink "LastLoaf" (158 : Nat) "LastLoaf$Village" "party" "[I" ∈ TB := tb_in (lwt_1 (List.mem_of_getElem? (i := 99) (by decide +kernel))) rfl
theorem fg11_158 {Θ : Tz} {cc : ByteArray} {nL kc ks : Nat} {ret : Option FieldType} {rm : Room} {Q : State → Prop} {σ : St} {pc : Nat} {lv : List (Nat × Value)} {st : List Value} (C : Zc Θ cc nL RX11 ret rm) (hkd : Θ.2.2.2.2.1 = kdC) {th : Nat} (hth : isV th) (hd : decode cc pc = .ok (.getfield 158, 3)) (kk : Z Θ nL kc ks Q σ (pc + 3) lv (.ref (zA Θ (th + 2)) :: st)) : Z Θ nL kc ks Q σ pc lv (.ref (zA Θ th) :: st) := z_get C inT10 th (kV_0 hkd hth) rfl 1 (by decide) w_1_99 rfl hd kk
theorem w_1_103 : Cond.fieldLink "LastLoaf" (161 : Nat) "LastLoaf$Village" "skin" "[I" ∈ TB := tb_in (lwt_1 (List.mem_of_getElem? (i := 103) (by decide +kernel))) rfl
theorem fg11_161 {Θ : Tz} {cc : ByteArray} {nL kc ks : Nat} {ret : Option FieldType} {rm : Room} {Q : State → Prop} {σ : St} {pc : Nat} {lv : List (Nat × Value)} {st : List Value} (C : Zc Θ cc nL RX11 ret rm) (hkd : Θ.2.2.2.2.1 = kdC) {th : Nat} (hth : isV th) (hd : decode cc pc = .ok (.getfield 161, 3)) (kk : Z Θ nL kc ks Q σ (pc + 3) lv (.ref (zA Θ (th + 3)) :: st)) : Z Θ nL kc ks Q σ pc lv (.ref (zA Θ th) :: st) := z_get C inT10 th (kV_0 hkd hth) rfl 2 (by decide) w_1_103 rfl hd kk
theorem w_1_136 : Cond.fieldLink "LastLoaf" (164 : Nat) "LastLoaf$Village" "standing" "I" ∈ TB := tb_in (lwt_1 (List.mem_of_getElem? (i := 136) (by decide +kernel))) rfl
theorem fg11_164 {Θ : Tz} {cc : ByteArray} {nL kc ks : Nat} {ret : Option FieldType} {rm : Room} {Q : State → Prop} {σ : St} {pc : Nat} {lv : List (Nat × Value)} {st : List Value} (C : Zc Θ cc nL RX11 ret rm) (hkd : Θ.2.2.2.2.1 = kdC) {th : Nat} (hth : isV th) (hd : decode cc pc = .ok (.getfield 164, 3)) (kk : Z Θ nL kc ks Q σ (pc + 3) lv (.int (σ th 9) :: st)) : Z Θ nL kc ks Q σ pc lv (.ref (zA Θ th) :: st) := z_get C inT10 th (kV_0 hkd hth) rfl 9 (by decide) w_1_136 rfl hd kk
theorem w_3_165 : Cond.methodLink "LastLoaf" (167 : Nat) ({ cls := "LastLoaf", name := "isIn", desc := "(II)Z" } : MethodName) ∈ TB := tb_in (lwt_3 (List.mem_of_getElem? (i := 165) (by decide +kernel))) rfl
theorem cr11_167 {Θ : Tz} {cc : ByteArray} {nL kc ks : Nat} {ret : Option FieldType} {rm : Room} {Q : State → Prop} {σ : St} {pc : Nat} {lv : List (Nat × Value)} {st : List Value} (C : Zc Θ cc nL RX11 ret rm) (hkd : Θ.2.2.2.2.1 = kdC) {set_a : Int32} {person_a : Int32} (hrm : rm11_isIn.frames + 1 ≤ rm.frames ∧ 8 + (2 + 11) + rm11_isIn.locals ≤ rm.locals) (hcat : (st.map fun v => v.category).sum ≤ 8) (hk : kc ≤ rm.cells ∧ ks ≤ rm.slots) (hd : decode cc pc = .ok (.invokestatic 167, 3)) (kk : Z Θ nL kc ks Q σ (pc + 3) lv (.int (b2i (q11_isIn set_a person_a)) :: st)) : Z Θ nL kc ks Q σ pc lv (.int person_a :: .int set_a :: st) := z_callS C [.int set_a, .int person_a] (some (.int (b2i (q11_isIn set_a person_a))), σ) 2 (c11_isIn (set_a := set_a) (person_a := person_a) hkd (zc_inj C)) w_3_36 w_3_165 w_3_35 w_1_1 ⟨rfl, rfl, hrm.1, hrm.2⟩ (by decide +kernel) rfl rfl hcat hk hd kk
theorem w_1_141 : Cond.fieldLink "LastLoaf" (171 : Nat) "LastLoaf$Village" "benched" "I" ∈ TB := tb_in (lwt_1 (List.mem_of_getElem? (i := 141) (by decide +kernel))) rfl
theorem fg11_171 {Θ : Tz} {cc : ByteArray} {nL kc ks : Nat} {ret : Option FieldType} {rm : Room} {Q : State → Prop} {σ : St} {pc : Nat} {lv : List (Nat × Value)} {st : List Value} (C : Zc Θ cc nL RX11 ret rm) (hkd : Θ.2.2.2.2.1 = kdC) {th : Nat} (hth : isV th) (hd : decode cc pc = .ok (.getfield 171, 3)) (kk : Z Θ nL kc ks Q σ (pc + 3) lv (.int (σ th 10) :: st)) : Z Θ nL kc ks Q σ pc lv (.ref (zA Θ th) :: st) := z_get C inT10 th (kV_0 hkd hth) rfl 10 (by decide) w_1_141 rfl hd kk
theorem w_1_111 : Cond.fieldLink "LastLoaf" (177 : Nat) "LastLoaf$Village" "run" "[I" ∈ TB := tb_in (lwt_1 (List.mem_of_getElem? (i := 111) (by decide +kernel))) rfl
theorem fg11_177 {Θ : Tz} {cc : ByteArray} {nL kc ks : Nat} {ret : Option FieldType} {rm : Room} {Q : State → Prop} {σ : St} {pc : Nat} {lv : List (Nat × Value)} {st : List Value} (C : Zc Θ cc nL RX11 ret rm) (hkd : Θ.2.2.2.2.1 = kdC) {th : Nat} (hth : isV th) (hd : decode cc pc = .ok (.getfield 177, 3)) (kk : Z Θ nL kc ks Q σ (pc + 3) lv (.ref (zA Θ (th + 5)) :: st)) : Z Θ nL kc ks Q σ pc lv (.ref (zA Θ th) :: st) := z_get C inT10 th (kV_0 hkd hth) rfl 4 (by decide) w_1_111 rfl hd kk
theorem w_6_4 : Cond.methodLink "LastLoaf" (184 : Nat) ({ cls := "LastLoaf$Poll", name := "rankAt", desc := "(II)I" } : MethodName) ∈ TB := tb_in (lwt_6 (List.mem_of_getElem? (i := 4) (by decide +kernel))) rfl
theorem cr11_184 {Θ : Tz} {cc : ByteArray} {nL kc ks : Nat} {ret : Option FieldType} {rm : Room} {Q : State → Prop} {σ : St} {pc : Nat} {lv : List (Nat × Value)} {st : List Value} (C : Zc Θ cc nL RX11 ret rm) (hkd : Θ.2.2.2.2.1 = kdC) {voter_a : Int32} {k_a : Int32} {r : Int32} (hx : q5_rankAt σ voter_a k_a = some r) (hrm : rm5_rankAt.frames + 1 ≤ rm.frames ∧ 8 + (3 + 11) + rm5_rankAt.locals ≤ rm.locals) (hcat : (st.map fun v => v.category).sum ≤ 8) (hk : kc ≤ rm.cells ∧ ks ≤ rm.slots) (hd : decode cc pc = .ok (.invokevirtual 184, 3)) (kk : Z Θ nL kc ks Q σ (pc + 3) lv (.int r :: st)) : Z Θ nL kc ks Q σ pc lv (.int k_a :: .int voter_a :: .ref (zA Θ 6) :: st) := z_callV C 6 [.int voter_a, .int k_a] (some (.int r), σ) 2 (kC_6 hkd) rfl (c5_rankAt (voter_a := voter_a) (k_a := k_a) hkd (zc_inj C) hx) w_3_185 w_6_4 w_3_183 w_3_184 w_1_9 ⟨rfl, rfl, hrm.1, hrm.2⟩ (by decide +kernel) rfl rfl hcat hk hd kk
theorem w_3_202 : Cond.code ({ cls := "LastLoaf$Poll", name := "votesOf", desc := "(I)I" } : MethodName) prog_7_method_5_code (4 : Nat) (Option.some ClassFile.FieldType.int) ∈ TB := tb_in (lwt_3 (List.mem_of_getElem? (i := 202) (by decide +kernel))) rfl
theorem w_6_5 : Cond.methodLink "LastLoaf" (188 : Nat) ({ cls := "LastLoaf$Poll", name := "votesOf", desc := "(I)I" } : MethodName) ∈ TB := tb_in (lwt_6 (List.mem_of_getElem? (i := 5) (by decide +kernel))) rfl
theorem w_3_200 : Cond.instanceMethod ({ cls := "LastLoaf$Poll", name := "votesOf", desc := "(I)I" } : MethodName) ∈ TB := tb_in (lwt_3 (List.mem_of_getElem? (i := 200) (by decide +kernel))) rfl
theorem w_3_201 : Cond.selects "LastLoaf$Poll" ({ cls := "LastLoaf$Poll", name := "votesOf", desc := "(I)I" } : MethodName) ({ cls := "LastLoaf$Poll", name := "votesOf", desc := "(I)I" } : MethodName) ∈ TB := tb_in (lwt_3 (List.mem_of_getElem? (i := 201) (by decide +kernel))) rfl
theorem cr11_188 {Θ : Tz} {cc : ByteArray} {nL kc ks : Nat} {ret : Option FieldType} {rm : Room} {Q : State → Prop} {σ : St} {pc : Nat} {lv : List (Nat × Value)} {st : List Value} (C : Zc Θ cc nL RX11 ret rm) (hkd : Θ.2.2.2.2.1 = kdC) {person_a : Int32} {r : Int32} (hx : q5_votesOf σ person_a = some r) (hrm : rm5_votesOf.frames + 1 ≤ rm.frames ∧ 8 + (4 + 11) + rm5_votesOf.locals ≤ rm.locals) (hcat : (st.map fun v => v.category).sum ≤ 8) (hk : kc ≤ rm.cells ∧ ks ≤ rm.slots) (hd : decode cc pc = .ok (.invokevirtual 188, 3)) (kk : Z Θ nL kc ks Q σ (pc + 3) lv (.int r :: st)) : Z Θ nL kc ks Q σ pc lv (.int person_a :: .ref (zA Θ 6) :: st) := z_callV C 6 [.int person_a] (some (.int r), σ) 1 (kC_6 hkd) rfl (c5_votesOf (person_a := person_a) hkd (zc_inj C) hx) w_3_202 w_6_5 w_3_200 w_3_201 w_1_9 ⟨rfl, rfl, hrm.1, hrm.2⟩ (by decide +kernel) rfl rfl hcat hk hd kk
theorem w_3_193 : Cond.code ({ cls := "LastLoaf$Poll", name := "pointsOf", desc := "(I)I" } : MethodName) prog_7_method_6_code (4 : Nat) (Option.some ClassFile.FieldType.int) ∈ TB := tb_in (lwt_3 (List.mem_of_getElem? (i := 193) (by decide +kernel))) rfl
theorem w_6_6 : Cond.methodLink "LastLoaf" (192 : Nat) ({ cls := "LastLoaf$Poll", name := "pointsOf", desc := "(I)I" } : MethodName) ∈ TB := tb_in (lwt_6 (List.mem_of_getElem? (i := 6) (by decide +kernel))) rfl
theorem w_3_191 : Cond.instanceMethod ({ cls := "LastLoaf$Poll", name := "pointsOf", desc := "(I)I" } : MethodName) ∈ TB := tb_in (lwt_3 (List.mem_of_getElem? (i := 191) (by decide +kernel))) rfl
theorem w_3_192 : Cond.selects "LastLoaf$Poll" ({ cls := "LastLoaf$Poll", name := "pointsOf", desc := "(I)I" } : MethodName) ({ cls := "LastLoaf$Poll", name := "pointsOf", desc := "(I)I" } : MethodName) ∈ TB := tb_in (lwt_3 (List.mem_of_getElem? (i := 192) (by decide +kernel))) rfl
theorem cr11_192 {Θ : Tz} {cc : ByteArray} {nL kc ks : Nat} {ret : Option FieldType} {rm : Room} {Q : State → Prop} {σ : St} {pc : Nat} {lv : List (Nat × Value)} {st : List Value} (C : Zc Θ cc nL RX11 ret rm) (hkd : Θ.2.2.2.2.1 = kdC) {person_a : Int32} {r : Int32} (hx : q5_pointsOf σ person_a = some r) (hrm : rm5_pointsOf.frames + 1 ≤ rm.frames ∧ 8 + (4 + 11) + rm5_pointsOf.locals ≤ rm.locals) (hcat : (st.map fun v => v.category).sum ≤ 8) (hk : kc ≤ rm.cells ∧ ks ≤ rm.slots) (hd : decode cc pc = .ok (.invokevirtual 192, 3)) (kk : Z Θ nL kc ks Q σ (pc + 3) lv (.int r :: st)) : Z Θ nL kc ks Q σ pc lv (.int person_a :: .ref (zA Θ 6) :: st) := z_callV C 6 [.int person_a] (some (.int r), σ) 1 (kC_6 hkd) rfl (c5_pointsOf (person_a := person_a) hkd (zc_inj C) hx) w_3_193 w_6_6 w_3_191 w_3_192 w_1_9 ⟨rfl, rfl, hrm.1, hrm.2⟩ (by decide +kernel) rfl rfl hcat hk hd kk
theorem w_3_76 : Cond.code ({ cls := "LastLoaf$Poll", name := "duelsOf", desc := "(I)I" } : MethodName) prog_7_method_8_code (4 : Nat) (Option.some ClassFile.FieldType.int) ∈ TB := tb_in (lwt_3 (List.mem_of_getElem? (i := 76) (by decide +kernel))) rfl
theorem w_6_7 : Cond.methodLink "LastLoaf" (195 : Nat) ({ cls := "LastLoaf$Poll", name := "duelsOf", desc := "(I)I" } : MethodName) ∈ TB := tb_in (lwt_6 (List.mem_of_getElem? (i := 7) (by decide +kernel))) rfl
theorem w_3_74 : Cond.instanceMethod ({ cls := "LastLoaf$Poll", name := "duelsOf", desc := "(I)I" } : MethodName) ∈ TB := tb_in (lwt_3 (List.mem_of_getElem? (i := 74) (by decide +kernel))) rfl
theorem w_3_75 : Cond.selects "LastLoaf$Poll" ({ cls := "LastLoaf$Poll", name := "duelsOf", desc := "(I)I" } : MethodName) ({ cls := "LastLoaf$Poll", name := "duelsOf", desc := "(I)I" } : MethodName) ∈ TB := tb_in (lwt_3 (List.mem_of_getElem? (i := 75) (by decide +kernel))) rfl
theorem cr11_195 {Θ : Tz} {cc : ByteArray} {nL kc ks : Nat} {ret : Option FieldType} {rm : Room} {Q : State → Prop} {σ : St} {pc : Nat} {lv : List (Nat × Value)} {st : List Value} (C : Zc Θ cc nL RX11 ret rm) (hkd : Θ.2.2.2.2.1 = kdC) {person_a : Int32} {r : Int32} (hx : q5_duelsOf σ person_a = some r) (hrm : rm5_duelsOf.frames + 1 ≤ rm.frames ∧ 8 + (4 + 11) + rm5_duelsOf.locals ≤ rm.locals) (hcat : (st.map fun v => v.category).sum ≤ 8) (hk : kc ≤ rm.cells ∧ ks ≤ rm.slots) (hd : decode cc pc = .ok (.invokevirtual 195, 3)) (kk : Z Θ nL kc ks Q σ (pc + 3) lv (.int r :: st)) : Z Θ nL kc ks Q σ pc lv (.int person_a :: .ref (zA Θ 6) :: st) := z_callV C 6 [.int person_a] (some (.int r), σ) 1 (kC_6 hkd) rfl (c5_duelsOf (person_a := person_a) hkd (zc_inj C) hx) w_3_76 w_6_7 w_3_74 w_3_75 w_1_9 ⟨rfl, rfl, hrm.1, hrm.2⟩ (by decide +kernel) rfl rfl hcat hk hd kk
theorem w_6_11 : Cond.code ({ cls := "LastLoaf", name := "needed", desc := "(I)I" } : MethodName) prog_1_method_80_code (3 : Nat) (Option.some ClassFile.FieldType.int) ∈ TB := tb_in (lwt_6 (List.mem_of_getElem? (i := 11) (by decide +kernel))) rfl
theorem w_6_8 : Cond.methodLink "LastLoaf" (198 : Nat) ({ cls := "LastLoaf", name := "needed", desc := "(I)I" } : MethodName) ∈ TB := tb_in (lwt_6 (List.mem_of_getElem? (i := 8) (by decide +kernel))) rfl
theorem w_6_10 : Cond.instanceMethod ({ cls := "LastLoaf", name := "needed", desc := "(I)I" } : MethodName) ∈ TB := tb_in (lwt_6 (List.mem_of_getElem? (i := 10) (by decide +kernel))) rfl
theorem ws_LastLoaf_needed_I_I : Cond.selects "LastLoaf" (⟨"LastLoaf", "needed", "(I)I"⟩ : MethodName) (⟨"LastLoaf", "needed", "(I)I"⟩ : MethodName) ∈ TB := tb_in (List.mem_append_left _ (List.mem_of_getElem? (i := 8) (by decide +kernel))) rfl
theorem cr11_198 {Θ : Tz} {cc : ByteArray} {nL kc ks : Nat} {ret : Option FieldType} {rm : Room} {Q : State → Prop} {σ : St} {pc : Nat} {lv : List (Nat × Value)} {st : List Value} (C : Zc Θ cc nL RX11 ret rm) (hkd : Θ.2.2.2.2.1 = kdC) {person_a : Int32} {r : Int32 × St} (hx : q11_needed σ person_a = some r) (hrm : rm11_needed.frames + 1 ≤ rm.frames ∧ 8 + (3 + 11) + rm11_needed.locals ≤ rm.locals) (hcat : (st.map fun v => v.category).sum ≤ 8) (hk : kc ≤ rm.cells ∧ ks ≤ rm.slots) (hd : decode cc pc = .ok (.invokevirtual 198, 3)) (kk : Z Θ nL kc ks Q r.2 (pc + 3) lv (.int r.1 :: st)) : Z Θ nL kc ks Q σ pc lv (.int person_a :: .ref (zA Θ 0) :: st) := z_callV C 0 [.int person_a] (some (.int r.1), r.2) 1 (kC_0 hkd) rfl (c11_needed (person_a := person_a) hkd (zc_inj C) hx) w_6_11 w_6_8 w_6_10 ws_LastLoaf_needed_I_I w_1_1 ⟨rfl, rfl, hrm.1, hrm.2⟩ (by decide +kernel) rfl rfl hcat hk hd kk
theorem w_6_23 : Cond.code ({ cls := "LastLoaf", name := "shareOf", desc := "(I)I" } : MethodName) prog_1_method_81_code (3 : Nat) (Option.some ClassFile.FieldType.int) ∈ TB := tb_in (lwt_6 (List.mem_of_getElem? (i := 23) (by decide +kernel))) rfl
theorem w_6_20 : Cond.methodLink "LastLoaf" (201 : Nat) ({ cls := "LastLoaf", name := "shareOf", desc := "(I)I" } : MethodName) ∈ TB := tb_in (lwt_6 (List.mem_of_getElem? (i := 20) (by decide +kernel))) rfl
theorem w_6_22 : Cond.instanceMethod ({ cls := "LastLoaf", name := "shareOf", desc := "(I)I" } : MethodName) ∈ TB := tb_in (lwt_6 (List.mem_of_getElem? (i := 22) (by decide +kernel))) rfl
theorem ws_LastLoaf_shareOf_I_I : Cond.selects "LastLoaf" (⟨"LastLoaf", "shareOf", "(I)I"⟩ : MethodName) (⟨"LastLoaf", "shareOf", "(I)I"⟩ : MethodName) ∈ TB := tb_in (List.mem_append_left _ (List.mem_of_getElem? (i := 9) (by decide +kernel))) rfl
theorem cr11_201 {Θ : Tz} {cc : ByteArray} {nL kc ks : Nat} {ret : Option FieldType} {rm : Room} {Q : State → Prop} {σ : St} {pc : Nat} {lv : List (Nat × Value)} {st : List Value} (C : Zc Θ cc nL RX11 ret rm) (hkd : Θ.2.2.2.2.1 = kdC) {person_a : Int32} {r : Int32} (hx : q11_shareOf σ person_a = some r) (hrm : rm11_shareOf.frames + 1 ≤ rm.frames ∧ 8 + (3 + 11) + rm11_shareOf.locals ≤ rm.locals) (hcat : (st.map fun v => v.category).sum ≤ 8) (hk : kc ≤ rm.cells ∧ ks ≤ rm.slots) (hd : decode cc pc = .ok (.invokevirtual 201, 3)) (kk : Z Θ nL kc ks Q σ (pc + 3) lv (.int r :: st)) : Z Θ nL kc ks Q σ pc lv (.int person_a :: .ref (zA Θ 0) :: st) := z_callV C 0 [.int person_a] (some (.int r), σ) 1 (kC_0 hkd) rfl (c11_shareOf (person_a := person_a) hkd (zc_inj C) hx) w_6_23 w_6_20 w_6_22 ws_LastLoaf_shareOf_I_I w_1_1 ⟨rfl, rfl, hrm.1, hrm.2⟩ (by decide +kernel) rfl rfl hcat hk hd kk
theorem w_6_27 : Cond.code ({ cls := "LastLoaf$Village", name := "wouldPass", desc := "(I)I" } : MethodName) prog_12_method_14_code (6 : Nat) (Option.some ClassFile.FieldType.int) ∈ TB := tb_in (lwt_6 (List.mem_of_getElem? (i := 27) (by decide +kernel))) rfl
theorem w_6_24 : Cond.methodLink "LastLoaf" (204 : Nat) ({ cls := "LastLoaf$Village", name := "wouldPass", desc := "(I)I" } : MethodName) ∈ TB := tb_in (lwt_6 (List.mem_of_getElem? (i := 24) (by decide +kernel))) rfl
theorem w_6_25 : Cond.instanceMethod ({ cls := "LastLoaf$Village", name := "wouldPass", desc := "(I)I" } : MethodName) ∈ TB := tb_in (lwt_6 (List.mem_of_getElem? (i := 25) (by decide +kernel))) rfl
theorem w_6_26 : Cond.selects "LastLoaf$Village" ({ cls := "LastLoaf$Village", name := "wouldPass", desc := "(I)I" } : MethodName) ({ cls := "LastLoaf$Village", name := "wouldPass", desc := "(I)I" } : MethodName) ∈ TB := tb_in (lwt_6 (List.mem_of_getElem? (i := 26) (by decide +kernel))) rfl
theorem cr11_204 {Θ : Tz} {cc : ByteArray} {nL kc ks : Nat} {ret : Option FieldType} {rm : Room} {Q : State → Prop} {σ : St} {pc : Nat} {lv : List (Nat × Value)} {st : List Value} (C : Zc Θ cc nL RX11 ret rm) (hkd : Θ.2.2.2.2.1 = kdC) {th : Nat} {person_a : Int32} (hth : isV th) {r : Int32} (hx : q10_wouldPass σ th person_a = some r) (hrm : rm10_wouldPass.frames + 1 ≤ rm.frames ∧ 8 + (6 + 11) + rm10_wouldPass.locals ≤ rm.locals) (hcat : (st.map fun v => v.category).sum ≤ 8) (hk : kc ≤ rm.cells ∧ ks ≤ rm.slots) (hd : decode cc pc = .ok (.invokevirtual 204, 3)) (kk : Z Θ nL kc ks Q σ (pc + 3) lv (.int r :: st)) : Z Θ nL kc ks Q σ pc lv (.int person_a :: .ref (zA Θ th) :: st) := z_callV C th [.int person_a] (some (.int r), σ) 1 (kV_0 hkd hth) rfl (c10_wouldPass (th := th) (person_a := person_a) hkd (zc_inj C) hth hx) w_6_27 w_6_24 w_6_25 w_6_26 w_1_3 ⟨rfl, rfl, hrm.1, hrm.2⟩ (by decide +kernel) rfl rfl hcat hk hd kk
theorem th11_4_211g : ∀ w ∈ (nsAt RX11 211 (exn 4) "java/lang/RuntimeException" ["java/lang/Exception"]).filter goodWord, w ∈ TB := fun w h => tb_in ((by decide +kernel : ∀ w ∈ (nsAt RX11 211 (exn 4) "java/lang/RuntimeException" ["java/lang/Exception"]).filter goodWord, w ∈ lw_tbl) w h) ((List.mem_filter.mp h).2)
theorem th11_4_211n : ∀ w ∈ (nsAt RX11 211 (exn 4) "java/lang/RuntimeException" ["java/lang/Exception"]).filter (fun w => !goodWord w), w ∈ nestW := by decide +kernel
theorem th11_4_211o : ∀ w ∈ Cond.classLink RX11 207 (exn 4) :: Cond.initialized (exn 4) :: nsAt RX11 211 (exn 4) "java/lang/RuntimeException" ["java/lang/Exception"], vx_ot w = true := by decide +kernel
theorem w_6_29 : Cond.classLink "LastLoaf" (207 : Nat) "java/util/NoSuchElementException" ∈ TB := tb_in (lwt_6 (List.mem_of_getElem? (i := 29) (by decide +kernel))) rfl
theorem w_1_27 : Cond.initialized "java/util/NoSuchElementException" ∈ TB := tb_in (lwt_1 (List.mem_of_getElem? (i := 27) (by decide +kernel))) rfl
theorem dX11_person_0 : decode cX11_person 0 = .ok (.aload_n 0, 1) := by decide +kernel
theorem dX11_person_1 : decode cX11_person 1 = .ok (.iload_n 1, 1) := by decide +kernel
theorem dX11_person_2 : decode cX11_person 2 = .ok (.invokevirtual 151, 3) := by decide +kernel
theorem dX11_person_5 : decode cX11_person 5 = .ok (.iload_n 2, 1) := by decide +kernel
theorem dX11_person_6 : decode cX11_person 6 = .ok (.tableswitch 218 0 13 #[70, 80, 90, 100, 120, 140, 150, 160, 170, 179, 188, 197, 203, 209], 70) := by decide +kernel
theorem dX11_person_76 : decode cX11_person 76 = .ok (.aload_n 0, 1) := by decide +kernel
theorem dX11_person_77 : decode cX11_person 77 = .ok (.getfield 19, 3) := by decide +kernel
theorem dX11_person_80 : decode cX11_person 80 = .ok (.getfield 154, 3) := by decide +kernel
theorem dX11_person_83 : decode cX11_person 83 = .ok (.iload_n 1, 1) := by decide +kernel
theorem dX11_person_84 : decode cX11_person 84 = .ok (.iaload, 1) := by decide +kernel
theorem dX11_person_85 : decode cX11_person 85 = .ok (.ireturn, 1) := by decide +kernel
theorem dX11_person_86 : decode cX11_person 86 = .ok (.aload_n 0, 1) := by decide +kernel
theorem dX11_person_87 : decode cX11_person 87 = .ok (.getfield 19, 3) := by decide +kernel
theorem dX11_person_90 : decode cX11_person 90 = .ok (.getfield 158, 3) := by decide +kernel
theorem dX11_person_93 : decode cX11_person 93 = .ok (.iload_n 1, 1) := by decide +kernel
theorem dX11_person_94 : decode cX11_person 94 = .ok (.iaload, 1) := by decide +kernel
theorem dX11_person_95 : decode cX11_person 95 = .ok (.ireturn, 1) := by decide +kernel
theorem dX11_person_96 : decode cX11_person 96 = .ok (.aload_n 0, 1) := by decide +kernel
theorem dX11_person_97 : decode cX11_person 97 = .ok (.getfield 19, 3) := by decide +kernel
theorem dX11_person_100 : decode cX11_person 100 = .ok (.getfield 161, 3) := by decide +kernel
theorem dX11_person_103 : decode cX11_person 103 = .ok (.iload_n 1, 1) := by decide +kernel
theorem dX11_person_104 : decode cX11_person 104 = .ok (.iaload, 1) := by decide +kernel
theorem dX11_person_105 : decode cX11_person 105 = .ok (.ireturn, 1) := by decide +kernel
theorem dX11_person_106 : decode cX11_person 106 = .ok (.aload_n 0, 1) := by decide +kernel
theorem dX11_person_107 : decode cX11_person 107 = .ok (.getfield 19, 3) := by decide +kernel
theorem dX11_person_110 : decode cX11_person 110 = .ok (.getfield 164, 3) := by decide +kernel
theorem dX11_person_113 : decode cX11_person 113 = .ok (.iload_n 1, 1) := by decide +kernel
theorem dX11_person_114 : decode cX11_person 114 = .ok (.invokestatic 167, 3) := by decide +kernel
theorem dX11_person_117 : decode cX11_person 117 = .ok (.ifCond .eq 7, 3) := by decide +kernel
theorem dX11_person_120 : decode cX11_person 120 = .ok (.iconst 1, 1) := by decide +kernel
theorem dX11_person_121 : decode cX11_person 121 = .ok (.goto 4, 3) := by decide +kernel
theorem dX11_person_124 : decode cX11_person 124 = .ok (.iconst 0, 1) := by decide +kernel
theorem dX11_person_125 : decode cX11_person 125 = .ok (.ireturn, 1) := by decide +kernel
theorem dX11_person_126 : decode cX11_person 126 = .ok (.aload_n 0, 1) := by decide +kernel
theorem dX11_person_127 : decode cX11_person 127 = .ok (.getfield 19, 3) := by decide +kernel
theorem dX11_person_130 : decode cX11_person 130 = .ok (.getfield 171, 3) := by decide +kernel
theorem dX11_person_133 : decode cX11_person 133 = .ok (.iload_n 1, 1) := by decide +kernel
theorem dX11_person_134 : decode cX11_person 134 = .ok (.invokestatic 167, 3) := by decide +kernel
theorem dX11_person_137 : decode cX11_person 137 = .ok (.ifCond .eq 7, 3) := by decide +kernel
theorem dX11_person_140 : decode cX11_person 140 = .ok (.iconst 1, 1) := by decide +kernel
theorem dX11_person_141 : decode cX11_person 141 = .ok (.goto 4, 3) := by decide +kernel
theorem dX11_person_144 : decode cX11_person 144 = .ok (.iconst 0, 1) := by decide +kernel
theorem dX11_person_145 : decode cX11_person 145 = .ok (.ireturn, 1) := by decide +kernel
theorem dX11_person_146 : decode cX11_person 146 = .ok (.aload_n 0, 1) := by decide +kernel
theorem dX11_person_147 : decode cX11_person 147 = .ok (.getfield 19, 3) := by decide +kernel
theorem dX11_person_150 : decode cX11_person 150 = .ok (.getfield 174, 3) := by decide +kernel
theorem dX11_person_153 : decode cX11_person 153 = .ok (.iload_n 1, 1) := by decide +kernel
theorem dX11_person_154 : decode cX11_person 154 = .ok (.iaload, 1) := by decide +kernel
theorem dX11_person_155 : decode cX11_person 155 = .ok (.ireturn, 1) := by decide +kernel
theorem dX11_person_156 : decode cX11_person 156 = .ok (.aload_n 0, 1) := by decide +kernel
theorem dX11_person_157 : decode cX11_person 157 = .ok (.getfield 19, 3) := by decide +kernel
theorem dX11_person_160 : decode cX11_person 160 = .ok (.getfield 177, 3) := by decide +kernel
theorem dX11_person_163 : decode cX11_person 163 = .ok (.iload_n 1, 1) := by decide +kernel
theorem dX11_person_164 : decode cX11_person 164 = .ok (.iaload, 1) := by decide +kernel
theorem dX11_person_165 : decode cX11_person 165 = .ok (.ireturn, 1) := by decide +kernel
theorem dX11_person_166 : decode cX11_person 166 = .ok (.aload_n 0, 1) := by decide +kernel
theorem dX11_person_167 : decode cX11_person 167 = .ok (.invokevirtual 180, 3) := by decide +kernel
theorem dX11_person_170 : decode cX11_person 170 = .ok (.iload_n 1, 1) := by decide +kernel
theorem dX11_person_171 : decode cX11_person 171 = .ok (.iconst 0, 1) := by decide +kernel
theorem dX11_person_172 : decode cX11_person 172 = .ok (.invokevirtual 184, 3) := by decide +kernel
theorem dX11_person_175 : decode cX11_person 175 = .ok (.ireturn, 1) := by decide +kernel
theorem dX11_person_176 : decode cX11_person 176 = .ok (.aload_n 0, 1) := by decide +kernel
theorem dX11_person_177 : decode cX11_person 177 = .ok (.invokevirtual 180, 3) := by decide +kernel
theorem dX11_person_180 : decode cX11_person 180 = .ok (.iload_n 1, 1) := by decide +kernel
theorem dX11_person_181 : decode cX11_person 181 = .ok (.invokevirtual 188, 3) := by decide +kernel
theorem dX11_person_184 : decode cX11_person 184 = .ok (.ireturn, 1) := by decide +kernel
theorem dX11_person_185 : decode cX11_person 185 = .ok (.aload_n 0, 1) := by decide +kernel
theorem dX11_person_186 : decode cX11_person 186 = .ok (.invokevirtual 180, 3) := by decide +kernel
theorem dX11_person_189 : decode cX11_person 189 = .ok (.iload_n 1, 1) := by decide +kernel
theorem dX11_person_190 : decode cX11_person 190 = .ok (.invokevirtual 192, 3) := by decide +kernel
theorem dX11_person_193 : decode cX11_person 193 = .ok (.ireturn, 1) := by decide +kernel
theorem dX11_person_194 : decode cX11_person 194 = .ok (.aload_n 0, 1) := by decide +kernel
theorem dX11_person_195 : decode cX11_person 195 = .ok (.invokevirtual 180, 3) := by decide +kernel
theorem dX11_person_198 : decode cX11_person 198 = .ok (.iload_n 1, 1) := by decide +kernel
theorem dX11_person_199 : decode cX11_person 199 = .ok (.invokevirtual 195, 3) := by decide +kernel
theorem dX11_person_202 : decode cX11_person 202 = .ok (.ireturn, 1) := by decide +kernel
theorem dX11_person_203 : decode cX11_person 203 = .ok (.aload_n 0, 1) := by decide +kernel
theorem dX11_person_204 : decode cX11_person 204 = .ok (.iload_n 1, 1) := by decide +kernel
theorem dX11_person_205 : decode cX11_person 205 = .ok (.invokevirtual 198, 3) := by decide +kernel
theorem dX11_person_208 : decode cX11_person 208 = .ok (.ireturn, 1) := by decide +kernel
theorem dX11_person_209 : decode cX11_person 209 = .ok (.aload_n 0, 1) := by decide +kernel
theorem dX11_person_210 : decode cX11_person 210 = .ok (.iload_n 1, 1) := by decide +kernel
theorem dX11_person_211 : decode cX11_person 211 = .ok (.invokevirtual 201, 3) := by decide +kernel
theorem dX11_person_214 : decode cX11_person 214 = .ok (.ireturn, 1) := by decide +kernel
theorem dX11_person_215 : decode cX11_person 215 = .ok (.aload_n 0, 1) := by decide +kernel
theorem dX11_person_216 : decode cX11_person 216 = .ok (.getfield 19, 3) := by decide +kernel
theorem dX11_person_219 : decode cX11_person 219 = .ok (.iload_n 1, 1) := by decide +kernel
theorem dX11_person_220 : decode cX11_person 220 = .ok (.invokevirtual 204, 3) := by decide +kernel
theorem dX11_person_223 : decode cX11_person 223 = .ok (.ireturn, 1) := by decide +kernel
theorem dX11_person_224 : decode cX11_person 224 = .ok (.new 207, 3) := by decide +kernel
theorem dX11_person_227 : decode cX11_person 227 = .ok (.dup, 1) := by decide +kernel
theorem dX11_person_228 : decode cX11_person 228 = .ok (.ldc 209, 2) := by decide +kernel
theorem dX11_person_230 : decode cX11_person 230 = .ok (.invokespecial 211, 3) := by decide +kernel
theorem dX11_person_233 : decode cX11_person 233 = .ok (.athrow, 1) := by decide +kernel
def q11_person (σ : St) (person_a : Int32) (what_a : Int32) : Option (Sum Nat Int32 × St) :=
  thn (q11_needPerson σ person_a) σ
  (if what_a = 0 then (Option.bind (ag σ (44 + 1) 6 person_a) fun x6_ =>
  some (.inr x6_, σ)) else
  if what_a = 1 then (Option.bind (ag σ (44 + 2) 6 person_a) fun x8_ =>
  some (.inr x8_, σ)) else
  if what_a = 2 then (Option.bind (ag σ (44 + 3) 6 person_a) fun x10_ =>
  some (.inr x10_, σ)) else
  if what_a = 3 then (some (.inr (if q11_isIn (σ 44 9) person_a = true then 1 else 0), σ)) else
  if what_a = 4 then (some (.inr (if q11_isIn (σ 44 10) person_a = true then 1 else 0), σ)) else
  if what_a = 5 then (Option.bind (ag σ (44 + 4) 6 person_a) fun x22_ =>
  some (.inr x22_, σ)) else
  if what_a = 6 then (Option.bind (ag σ (44 + 5) 6 person_a) fun x24_ =>
  some (.inr x24_, σ)) else
  if what_a = 7 then (Option.bind (q11_pollNow σ) fun x26_ =>
  Option.bind (q5_rankAt x26_.2 person_a 0) fun x28_ =>
  some (.inr x28_, x26_.2)) else
  if what_a = 8 then (Option.bind (q11_pollNow σ) fun x30_ =>
  Option.bind (q5_votesOf x30_.2 person_a) fun x32_ =>
  some (.inr x32_, x30_.2)) else
  if what_a = 9 then (Option.bind (q11_pollNow σ) fun x34_ =>
  Option.bind (q5_pointsOf x34_.2 person_a) fun x36_ =>
  some (.inr x36_, x34_.2)) else
  if what_a = 10 then (Option.bind (q11_pollNow σ) fun x38_ =>
  Option.bind (q5_duelsOf x38_.2 person_a) fun x40_ =>
  some (.inr x40_, x38_.2)) else
  if what_a = 11 then (Option.bind (q11_needed σ person_a) fun x42_ =>
  some (.inr x42_.1, x42_.2)) else
  if what_a = 12 then (Option.bind (q11_shareOf σ person_a) fun x44_ =>
  some (.inr x44_, σ)) else
  if what_a = 13 then (Option.bind (q10_wouldPass σ 44 person_a) fun x46_ =>
  some (.inr x46_, σ)) else
  some (.inl 4, σ))
abbrev rm11_person : Room := { frames := 7, cells := 2, slots := 12, locals := 138 }
set_option maxHeartbeats 4000000 in
set_option maxRecDepth 100000 in
theorem p11_person {Θ : Tz} {σ : St} {ω : Om} (C : Zc Θ cX11_person 3 RX11 (some .int) rm11_person) (hkd : Θ.2.2.2.2.1 = kdC) (hlt : Θ.1.2.1.stackTraces = false) (het : ∀ x ∈ Θ.2.2.1.2.exceptionTable.toList, False) {person_a : Int32} {what_a : Int32} {r : (Sum Nat Int32 × St)} (hf : q11_person σ person_a what_a = some r) (hω : ω = om (fun v => some (.int v)) r) : Z Θ 3 0 0 (zQX Θ ω 2 12) σ 0 [(0, .ref (zA Θ 0)), (1, .int person_a), (2, .int what_a)] [] := by
  unfold q11_person at hf
  refine z_aload_n C 0 dX11_person_0 rfl rfl ?_
  refine z_iload_n C 1 dX11_person_1 rfl rfl ?_
  refine zx_callV C het 0 [.int person_a] (q11_needPerson σ person_a) 1 6 1 (kC_0 hkd) rfl (c11_needPerson (person_a := person_a) hkd (zc_inj C) hlt) w_5_227 w_5_224 w_5_226 ws_LastLoaf_needPerson_I_V w_1_1 ⟨rfl, rfl, (Nat.le_of_ble_eq_true rfl), (Nat.le_of_ble_eq_true rfl)⟩ (by decide +kernel) rfl rfl (Nat.le_of_ble_eq_true rfl) ⟨(Nat.le_of_ble_eq_true rfl), (Nat.le_of_ble_eq_true rfl)⟩ dX11_person_2 ⟨(Nat.le_of_ble_eq_true rfl), (Nat.le_of_ble_eq_true rfl)⟩ (fun e9 h2_ => by rw [h2_] at hf; cases hf; exact hω) (fun h1_ => ?_)
  rw [h1_] at hf
  replace hf := thn_x hf
  refine z_iload_n C 2 dX11_person_5 rfl rfl ?_
  by_cases h48_ : what_a = 0
  · rw [if_pos h48_] at hf
    refine z_tswIn (off := 70) C 76 dX11_person_6 (by rw [h48_]; decide) (by rw [h48_]; decide) (by rw [h48_]; decide) (by decide) ?_
    refine z_aload_n C 0 dX11_person_76 rfl rfl ?_
    refine fg11_19 C hkd dX11_person_77 ?_
    refine fg11_154 C hkd isV_44 dX11_person_80 ?_
    refine z_iload_n C 1 dX11_person_83 rfl rfl ?_
    obtain ⟨x6_, h7_, hf⟩ := ob hf
    refine z_ag C h7_ (kV_1 hkd isV_44) dX11_person_84 ?_
    cases hf
    subst hω
    exact zx_iret C ⟨(Nat.le_of_ble_eq_true rfl), (Nat.le_of_ble_eq_true rfl)⟩ dX11_person_85
  rw [if_neg h48_] at hf
  by_cases h49_ : what_a = 1
  · rw [if_pos h49_] at hf
    refine z_tswIn (off := 80) C 86 dX11_person_6 (by rw [h49_]; decide) (by rw [h49_]; decide) (by rw [h49_]; decide) (by decide) ?_
    refine z_aload_n C 0 dX11_person_86 rfl rfl ?_
    refine fg11_19 C hkd dX11_person_87 ?_
    refine fg11_158 C hkd isV_44 dX11_person_90 ?_
    refine z_iload_n C 1 dX11_person_93 rfl rfl ?_
    obtain ⟨x8_, h9_, hf⟩ := ob hf
    refine z_ag C h9_ (kV_2 hkd isV_44) dX11_person_94 ?_
    cases hf
    subst hω
    exact zx_iret C ⟨(Nat.le_of_ble_eq_true rfl), (Nat.le_of_ble_eq_true rfl)⟩ dX11_person_95
  rw [if_neg h49_] at hf
  by_cases h50_ : what_a = 2
  · rw [if_pos h50_] at hf
    refine z_tswIn (off := 90) C 96 dX11_person_6 (by rw [h50_]; decide) (by rw [h50_]; decide) (by rw [h50_]; decide) (by decide) ?_
    refine z_aload_n C 0 dX11_person_96 rfl rfl ?_
    refine fg11_19 C hkd dX11_person_97 ?_
    refine fg11_161 C hkd isV_44 dX11_person_100 ?_
    refine z_iload_n C 1 dX11_person_103 rfl rfl ?_
    obtain ⟨x10_, h11_, hf⟩ := ob hf
    refine z_ag C h11_ (kV_3 hkd isV_44) dX11_person_104 ?_
    cases hf
    subst hω
    exact zx_iret C ⟨(Nat.le_of_ble_eq_true rfl), (Nat.le_of_ble_eq_true rfl)⟩ dX11_person_105
  rw [if_neg h50_] at hf
  by_cases h51_ : what_a = 3
  · rw [if_pos h51_] at hf
    refine z_tswIn (off := 100) C 106 dX11_person_6 (by rw [h51_]; decide) (by rw [h51_]; decide) (by rw [h51_]; decide) (by decide) ?_
    suffices K12_ : Z Θ 3 1 6 (zQX Θ ω 2 12) σ 125 [(0, .ref (zA Θ 0)), (1, .int person_a), (2, .int what_a)] [.int (if q11_isIn (σ 44 9) person_a = true then 1 else 0)] by
      have K13_ : q11_isIn (σ 44 9) person_a = true → Z Θ 3 1 6 (zQX Θ ω 2 12) σ 120 [(0, .ref (zA Θ 0)), (1, .int person_a), (2, .int what_a)] [] := by
        intro h16_
        rw [if_pos h16_] at K12_
        refine z_iconst (v := 1) C dX11_person_120 ic_1 ?_
        refine z_goto C 125 dX11_person_121 (by decide) ?_
        exact K12_
      have K14_ : ¬ (q11_isIn (σ 44 9) person_a = true) → Z Θ 3 1 6 (zQX Θ ω 2 12) σ 124 [(0, .ref (zA Θ 0)), (1, .int person_a), (2, .int what_a)] [] := by
        intro h16_
        rw [if_neg h16_] at K12_
        refine z_iconst (v := 0) C dX11_person_124 ic_0 ?_
        exact K12_
      refine z_aload_n C 0 dX11_person_106 rfl rfl ?_
      refine fg11_19 C hkd dX11_person_107 ?_
      refine fg11_164 C hkd isV_44 dX11_person_110 ?_
      refine z_iload_n C 1 dX11_person_113 rfl rfl ?_
      refine cr11_167 (set_a := (σ 44 9)) (person_a := person_a) C hkd  ⟨(Nat.le_of_ble_eq_true rfl), (Nat.le_of_ble_eq_true rfl)⟩ (Nat.le_of_ble_eq_true rfl) ⟨(Nat.le_of_ble_eq_true rfl), (Nat.le_of_ble_eq_true rfl)⟩ dX11_person_114 ?_
      refine cb_f C 124 dX11_person_117 (by decide) (fun h15_ => ?_) (fun h15_ => ?_)
      · exact K13_ h15_
      · exact K14_ h15_
    cases hf
    subst hω
    exact zx_iret C ⟨(Nat.le_of_ble_eq_true rfl), (Nat.le_of_ble_eq_true rfl)⟩ dX11_person_125
  rw [if_neg h51_] at hf
  by_cases h52_ : what_a = 4
  · rw [if_pos h52_] at hf
    refine z_tswIn (off := 120) C 126 dX11_person_6 (by rw [h52_]; decide) (by rw [h52_]; decide) (by rw [h52_]; decide) (by decide) ?_
    suffices K17_ : Z Θ 3 1 6 (zQX Θ ω 2 12) σ 145 [(0, .ref (zA Θ 0)), (1, .int person_a), (2, .int what_a)] [.int (if q11_isIn (σ 44 10) person_a = true then 1 else 0)] by
      have K18_ : q11_isIn (σ 44 10) person_a = true → Z Θ 3 1 6 (zQX Θ ω 2 12) σ 140 [(0, .ref (zA Θ 0)), (1, .int person_a), (2, .int what_a)] [] := by
        intro h21_
        rw [if_pos h21_] at K17_
        refine z_iconst (v := 1) C dX11_person_140 ic_1 ?_
        refine z_goto C 145 dX11_person_141 (by decide) ?_
        exact K17_
      have K19_ : ¬ (q11_isIn (σ 44 10) person_a = true) → Z Θ 3 1 6 (zQX Θ ω 2 12) σ 144 [(0, .ref (zA Θ 0)), (1, .int person_a), (2, .int what_a)] [] := by
        intro h21_
        rw [if_neg h21_] at K17_
        refine z_iconst (v := 0) C dX11_person_144 ic_0 ?_
        exact K17_
      refine z_aload_n C 0 dX11_person_126 rfl rfl ?_
      refine fg11_19 C hkd dX11_person_127 ?_
      refine fg11_171 C hkd isV_44 dX11_person_130 ?_
      refine z_iload_n C 1 dX11_person_133 rfl rfl ?_
      refine cr11_167 (set_a := (σ 44 10)) (person_a := person_a) C hkd  ⟨(Nat.le_of_ble_eq_true rfl), (Nat.le_of_ble_eq_true rfl)⟩ (Nat.le_of_ble_eq_true rfl) ⟨(Nat.le_of_ble_eq_true rfl), (Nat.le_of_ble_eq_true rfl)⟩ dX11_person_134 ?_
      refine cb_f C 144 dX11_person_137 (by decide) (fun h20_ => ?_) (fun h20_ => ?_)
      · exact K18_ h20_
      · exact K19_ h20_
    cases hf
    subst hω
    exact zx_iret C ⟨(Nat.le_of_ble_eq_true rfl), (Nat.le_of_ble_eq_true rfl)⟩ dX11_person_145
  rw [if_neg h52_] at hf
  by_cases h53_ : what_a = 5
  · rw [if_pos h53_] at hf
    refine z_tswIn (off := 140) C 146 dX11_person_6 (by rw [h53_]; decide) (by rw [h53_]; decide) (by rw [h53_]; decide) (by decide) ?_
    refine z_aload_n C 0 dX11_person_146 rfl rfl ?_
    refine fg11_19 C hkd dX11_person_147 ?_
    refine fg11_174 C hkd isV_44 dX11_person_150 ?_
    refine z_iload_n C 1 dX11_person_153 rfl rfl ?_
    obtain ⟨x22_, h23_, hf⟩ := ob hf
    refine z_ag C h23_ (kV_4 hkd isV_44) dX11_person_154 ?_
    cases hf
    subst hω
    exact zx_iret C ⟨(Nat.le_of_ble_eq_true rfl), (Nat.le_of_ble_eq_true rfl)⟩ dX11_person_155
  rw [if_neg h53_] at hf
  by_cases h54_ : what_a = 6
  · rw [if_pos h54_] at hf
    refine z_tswIn (off := 150) C 156 dX11_person_6 (by rw [h54_]; decide) (by rw [h54_]; decide) (by rw [h54_]; decide) (by decide) ?_
    refine z_aload_n C 0 dX11_person_156 rfl rfl ?_
    refine fg11_19 C hkd dX11_person_157 ?_
    refine fg11_177 C hkd isV_44 dX11_person_160 ?_
    refine z_iload_n C 1 dX11_person_163 rfl rfl ?_
    obtain ⟨x24_, h25_, hf⟩ := ob hf
    refine z_ag C h25_ (kV_5 hkd isV_44) dX11_person_164 ?_
    cases hf
    subst hω
    exact zx_iret C ⟨(Nat.le_of_ble_eq_true rfl), (Nat.le_of_ble_eq_true rfl)⟩ dX11_person_165
  rw [if_neg h54_] at hf
  by_cases h55_ : what_a = 7
  · rw [if_pos h55_] at hf
    refine z_tswIn (off := 160) C 166 dX11_person_6 (by rw [h55_]; decide) (by rw [h55_]; decide) (by rw [h55_]; decide) (by decide) ?_
    refine z_aload_n C 0 dX11_person_166 rfl rfl ?_
    obtain ⟨x26_, h27_, hf⟩ := ob hf
    refine cr11_180 C hkd  h27_ ⟨(Nat.le_of_ble_eq_true rfl), (Nat.le_of_ble_eq_true rfl)⟩ (Nat.le_of_ble_eq_true rfl) ⟨(Nat.le_of_ble_eq_true rfl), (Nat.le_of_ble_eq_true rfl)⟩ dX11_person_167 ?_
    rw [rp11_pollNow h27_]
    refine z_iload_n C 1 dX11_person_170 rfl rfl ?_
    refine z_iconst (v := 0) C dX11_person_171 ic_0 ?_
    obtain ⟨x28_, h29_, hf⟩ := ob hf
    refine cr11_184 (voter_a := person_a) (k_a := 0) C hkd  h29_ ⟨(Nat.le_of_ble_eq_true rfl), (Nat.le_of_ble_eq_true rfl)⟩ (Nat.le_of_ble_eq_true rfl) ⟨(Nat.le_of_ble_eq_true rfl), (Nat.le_of_ble_eq_true rfl)⟩ dX11_person_172 ?_
    cases hf
    subst hω
    exact zx_iret C ⟨(Nat.le_of_ble_eq_true rfl), (Nat.le_of_ble_eq_true rfl)⟩ dX11_person_175
  rw [if_neg h55_] at hf
  by_cases h56_ : what_a = 8
  · rw [if_pos h56_] at hf
    refine z_tswIn (off := 170) C 176 dX11_person_6 (by rw [h56_]; decide) (by rw [h56_]; decide) (by rw [h56_]; decide) (by decide) ?_
    refine z_aload_n C 0 dX11_person_176 rfl rfl ?_
    obtain ⟨x30_, h31_, hf⟩ := ob hf
    refine cr11_180 C hkd  h31_ ⟨(Nat.le_of_ble_eq_true rfl), (Nat.le_of_ble_eq_true rfl)⟩ (Nat.le_of_ble_eq_true rfl) ⟨(Nat.le_of_ble_eq_true rfl), (Nat.le_of_ble_eq_true rfl)⟩ dX11_person_177 ?_
    rw [rp11_pollNow h31_]
    refine z_iload_n C 1 dX11_person_180 rfl rfl ?_
    obtain ⟨x32_, h33_, hf⟩ := ob hf
    refine cr11_188 (person_a := person_a) C hkd  h33_ ⟨(Nat.le_of_ble_eq_true rfl), (Nat.le_of_ble_eq_true rfl)⟩ (Nat.le_of_ble_eq_true rfl) ⟨(Nat.le_of_ble_eq_true rfl), (Nat.le_of_ble_eq_true rfl)⟩ dX11_person_181 ?_
    cases hf
    subst hω
    exact zx_iret C ⟨(Nat.le_of_ble_eq_true rfl), (Nat.le_of_ble_eq_true rfl)⟩ dX11_person_184
  rw [if_neg h56_] at hf
  by_cases h57_ : what_a = 9
  · rw [if_pos h57_] at hf
    refine z_tswIn (off := 179) C 185 dX11_person_6 (by rw [h57_]; decide) (by rw [h57_]; decide) (by rw [h57_]; decide) (by decide) ?_
    refine z_aload_n C 0 dX11_person_185 rfl rfl ?_
    obtain ⟨x34_, h35_, hf⟩ := ob hf
    refine cr11_180 C hkd  h35_ ⟨(Nat.le_of_ble_eq_true rfl), (Nat.le_of_ble_eq_true rfl)⟩ (Nat.le_of_ble_eq_true rfl) ⟨(Nat.le_of_ble_eq_true rfl), (Nat.le_of_ble_eq_true rfl)⟩ dX11_person_186 ?_
    rw [rp11_pollNow h35_]
    refine z_iload_n C 1 dX11_person_189 rfl rfl ?_
    obtain ⟨x36_, h37_, hf⟩ := ob hf
    refine cr11_192 (person_a := person_a) C hkd  h37_ ⟨(Nat.le_of_ble_eq_true rfl), (Nat.le_of_ble_eq_true rfl)⟩ (Nat.le_of_ble_eq_true rfl) ⟨(Nat.le_of_ble_eq_true rfl), (Nat.le_of_ble_eq_true rfl)⟩ dX11_person_190 ?_
    cases hf
    subst hω
    exact zx_iret C ⟨(Nat.le_of_ble_eq_true rfl), (Nat.le_of_ble_eq_true rfl)⟩ dX11_person_193
  rw [if_neg h57_] at hf
  by_cases h58_ : what_a = 10
  · rw [if_pos h58_] at hf
    refine z_tswIn (off := 188) C 194 dX11_person_6 (by rw [h58_]; decide) (by rw [h58_]; decide) (by rw [h58_]; decide) (by decide) ?_
    refine z_aload_n C 0 dX11_person_194 rfl rfl ?_
    obtain ⟨x38_, h39_, hf⟩ := ob hf
    refine cr11_180 C hkd  h39_ ⟨(Nat.le_of_ble_eq_true rfl), (Nat.le_of_ble_eq_true rfl)⟩ (Nat.le_of_ble_eq_true rfl) ⟨(Nat.le_of_ble_eq_true rfl), (Nat.le_of_ble_eq_true rfl)⟩ dX11_person_195 ?_
    rw [rp11_pollNow h39_]
    refine z_iload_n C 1 dX11_person_198 rfl rfl ?_
    obtain ⟨x40_, h41_, hf⟩ := ob hf
    refine cr11_195 (person_a := person_a) C hkd  h41_ ⟨(Nat.le_of_ble_eq_true rfl), (Nat.le_of_ble_eq_true rfl)⟩ (Nat.le_of_ble_eq_true rfl) ⟨(Nat.le_of_ble_eq_true rfl), (Nat.le_of_ble_eq_true rfl)⟩ dX11_person_199 ?_
    cases hf
    subst hω
    exact zx_iret C ⟨(Nat.le_of_ble_eq_true rfl), (Nat.le_of_ble_eq_true rfl)⟩ dX11_person_202
  rw [if_neg h58_] at hf
  by_cases h59_ : what_a = 11
  · rw [if_pos h59_] at hf
    refine z_tswIn (off := 197) C 203 dX11_person_6 (by rw [h59_]; decide) (by rw [h59_]; decide) (by rw [h59_]; decide) (by decide) ?_
    refine z_aload_n C 0 dX11_person_203 rfl rfl ?_
    refine z_iload_n C 1 dX11_person_204 rfl rfl ?_
    obtain ⟨x42_, h43_, hf⟩ := ob hf
    refine cr11_198 (person_a := person_a) C hkd  h43_ ⟨(Nat.le_of_ble_eq_true rfl), (Nat.le_of_ble_eq_true rfl)⟩ (Nat.le_of_ble_eq_true rfl) ⟨(Nat.le_of_ble_eq_true rfl), (Nat.le_of_ble_eq_true rfl)⟩ dX11_person_205 ?_
    cases hf
    subst hω
    exact zx_iret C ⟨(Nat.le_of_ble_eq_true rfl), (Nat.le_of_ble_eq_true rfl)⟩ dX11_person_208
  rw [if_neg h59_] at hf
  by_cases h60_ : what_a = 12
  · rw [if_pos h60_] at hf
    refine z_tswIn (off := 203) C 209 dX11_person_6 (by rw [h60_]; decide) (by rw [h60_]; decide) (by rw [h60_]; decide) (by decide) ?_
    refine z_aload_n C 0 dX11_person_209 rfl rfl ?_
    refine z_iload_n C 1 dX11_person_210 rfl rfl ?_
    obtain ⟨x44_, h45_, hf⟩ := ob hf
    refine cr11_201 (person_a := person_a) C hkd  h45_ ⟨(Nat.le_of_ble_eq_true rfl), (Nat.le_of_ble_eq_true rfl)⟩ (Nat.le_of_ble_eq_true rfl) ⟨(Nat.le_of_ble_eq_true rfl), (Nat.le_of_ble_eq_true rfl)⟩ dX11_person_211 ?_
    cases hf
    subst hω
    exact zx_iret C ⟨(Nat.le_of_ble_eq_true rfl), (Nat.le_of_ble_eq_true rfl)⟩ dX11_person_214
  rw [if_neg h60_] at hf
  by_cases h61_ : what_a = 13
  · rw [if_pos h61_] at hf
    refine z_tswIn (off := 209) C 215 dX11_person_6 (by rw [h61_]; decide) (by rw [h61_]; decide) (by rw [h61_]; decide) (by decide) ?_
    refine z_aload_n C 0 dX11_person_215 rfl rfl ?_
    refine fg11_19 C hkd dX11_person_216 ?_
    refine z_iload_n C 1 dX11_person_219 rfl rfl ?_
    obtain ⟨x46_, h47_, hf⟩ := ob hf
    refine cr11_204 (th := 44) (person_a := person_a) C hkd isV_44 h47_ ⟨(Nat.le_of_ble_eq_true rfl), (Nat.le_of_ble_eq_true rfl)⟩ (Nat.le_of_ble_eq_true rfl) ⟨(Nat.le_of_ble_eq_true rfl), (Nat.le_of_ble_eq_true rfl)⟩ dX11_person_220 ?_
    cases hf
    subst hω
    exact zx_iret C ⟨(Nat.le_of_ble_eq_true rfl), (Nat.le_of_ble_eq_true rfl)⟩ dX11_person_223
  rw [if_neg h61_] at hf
  refine z_tswOut C 224 dX11_person_6 (sw_out2 (x := what_a) _ _ 0 13 (by decide) (by decide) (by decide) (fun j9 hj9 => by (have q8 : j9 = 0 ∨ j9 = 1 ∨ j9 = 2 ∨ j9 = 3 ∨ j9 = 4 ∨ j9 = 5 ∨ j9 = 6 ∨ j9 = 7 ∨ j9 = 8 ∨ j9 = 9 ∨ j9 = 10 ∨ j9 = 11 ∨ j9 = 12 ∨ j9 = 13 := by omega); rcases q8 with rfl | rfl | rfl | rfl | rfl | rfl | rfl | rfl | rfl | rfl | rfl | rfl | rfl | rfl <;> first | exact h48_ | exact h49_ | exact h50_ | exact h51_ | exact h52_ | exact h53_ | exact h54_ | exact h55_ | exact h56_ | exact h57_ | exact h58_ | exact h59_ | exact h60_ | exact h61_)) (by decide) ?_
  cases hf
  subst hω
  exact zx_throwN (tx := "nothing such is known of a person") C hlt het 4 (by decide +kernel) w_6_29 w_1_27 (List.mem_of_getElem? (i := 34) rfl) th11_4_211g th11_4_211n th11_4_211o dX11_person_224 dX11_person_227 dX11_person_228 dX11_person_230 dX11_person_233 ⟨(Nat.le_of_ble_eq_true rfl), (Nat.le_of_ble_eq_true rfl), (Nat.le_of_ble_eq_true rfl), (Nat.le_of_ble_eq_true rfl)⟩ (Nat.le_of_ble_eq_true rfl) ⟨(Nat.le_of_ble_eq_true rfl), (Nat.le_of_ble_eq_true rfl)⟩
theorem c11_person {l : Launch} {kd : List KD} {w : Wp} {σ : St} {person_a : Int32} {what_a : Int32} (hkd : kd = kdC) (hi : zI kd w) (hlt : l.stackTraces = false) {r : (Sum Nat Int32 × St)} (hf : q11_person σ person_a what_a = some r) : zX l kd w yX11_person cX11_person 3 (some .int) rm11_person [.ref (w.2.2.1 0), .int person_a, .int what_a] σ (om (fun v => some (.int v)) r) 2 12 := zX_of rfl hi (Nat.le_of_ble_eq_true rfl) (fun Θ hl hw C het => by
  obtain ⟨Θ1, Θ2, Θ3, Θ4, Θ5⟩ := Θ
  cases hw
  cases hl
  exact p11_person C hkd hlt het  hf rfl)
/-! LastLoaf.needTwo -/
theorem dX11_needTwo_0 : decode cX11_needTwo 0 = .ok (.aload_n 0, 1) := by decide +kernel
theorem dX11_needTwo_1 : decode cX11_needTwo 1 = .ok (.iload_n 1, 1) := by decide +kernel
theorem dX11_needTwo_2 : decode cX11_needTwo 2 = .ok (.invokevirtual 151, 3) := by decide +kernel
theorem dX11_needTwo_5 : decode cX11_needTwo 5 = .ok (.aload_n 0, 1) := by decide +kernel
theorem dX11_needTwo_6 : decode cX11_needTwo 6 = .ok (.iload_n 2, 1) := by decide +kernel
theorem dX11_needTwo_7 : decode cX11_needTwo 7 = .ok (.invokevirtual 151, 3) := by decide +kernel
theorem dX11_needTwo_10 : decode cX11_needTwo 10 = .ok (.iload_n 1, 1) := by decide +kernel
theorem dX11_needTwo_11 : decode cX11_needTwo 11 = .ok (.iload_n 2, 1) := by decide +kernel
theorem dX11_needTwo_12 : decode cX11_needTwo 12 = .ok (.if_icmp .ne 14, 3) := by decide +kernel
theorem dX11_needTwo_15 : decode cX11_needTwo 15 = .ok (.new 122, 3) := by decide +kernel
theorem dX11_needTwo_18 : decode cX11_needTwo 18 = .ok (.dup, 1) := by decide +kernel
theorem dX11_needTwo_19 : decode cX11_needTwo 19 = .ok (.ldc_w 468, 3) := by decide +kernel
theorem dX11_needTwo_22 : decode cX11_needTwo 22 = .ok (.invokespecial 126, 3) := by decide +kernel
theorem dX11_needTwo_25 : decode cX11_needTwo 25 = .ok (.athrow, 1) := by decide +kernel
theorem dX11_needTwo_26 : decode cX11_needTwo 26 = .ok (.return_, 1) := by decide +kernel
def q11_needTwo (σ : St) (person_a : Int32) (other_a : Int32) : Option Nat :=
  thN (q11_needPerson σ person_a)
  (thN (q11_needPerson σ other_a)
  (if person_a = other_a then (some 0) else
  none))
abbrev rm11_needTwo : Room := { frames := 7, cells := 3, slots := 18, locals := 111 }
set_option maxHeartbeats 4000000 in
set_option maxRecDepth 100000 in
theorem p11_needTwo {Θ : Tz} {σ : St} {ω : Om} (C : Zc Θ cX11_needTwo 3 RX11 none rm11_needTwo) (hkd : Θ.2.2.2.2.1 = kdC) (hlt : Θ.1.2.1.stackTraces = false) (het : ∀ x ∈ Θ.2.2.1.2.exceptionTable.toList, False) {person_a : Int32} {other_a : Int32} {r : Option Nat} (hf : q11_needTwo σ person_a other_a = r) (hω : ω = omN r σ) : Z Θ 3 0 0 (zQX Θ ω 3 18) σ 0 [(0, .ref (zA Θ 0)), (1, .int person_a), (2, .int other_a)] [] := by
  unfold q11_needTwo at hf
  refine z_aload_n C 0 dX11_needTwo_0 rfl rfl ?_
  refine z_iload_n C 1 dX11_needTwo_1 rfl rfl ?_
  refine zx_callV C het 0 [.int person_a] (q11_needPerson σ person_a) 1 6 1 (kC_0 hkd) rfl (c11_needPerson (person_a := person_a) hkd (zc_inj C) hlt) w_5_227 w_5_224 w_5_226 ws_LastLoaf_needPerson_I_V w_1_1 ⟨rfl, rfl, (Nat.le_of_ble_eq_true rfl), (Nat.le_of_ble_eq_true rfl)⟩ (by decide +kernel) rfl rfl (Nat.le_of_ble_eq_true rfl) ⟨(Nat.le_of_ble_eq_true rfl), (Nat.le_of_ble_eq_true rfl)⟩ dX11_needTwo_2 ⟨(Nat.le_of_ble_eq_true rfl), (Nat.le_of_ble_eq_true rfl)⟩ (fun e9 h2_ => by rw [h2_] at hf; subst hf; exact hω) (fun h1_ => ?_)
  rw [h1_] at hf
  replace hf := hf
  have hf : _ = _ := hf
  refine z_aload_n C 0 dX11_needTwo_5 rfl rfl ?_
  refine z_iload_n C 2 dX11_needTwo_6 rfl rfl ?_
  refine zx_callV C het 0 [.int other_a] (q11_needPerson σ other_a) 1 6 1 (kC_0 hkd) rfl (c11_needPerson (person_a := other_a) hkd (zc_inj C) hlt) w_5_227 w_5_224 w_5_226 ws_LastLoaf_needPerson_I_V w_1_1 ⟨rfl, rfl, (Nat.le_of_ble_eq_true rfl), (Nat.le_of_ble_eq_true rfl)⟩ (by decide +kernel) rfl rfl (Nat.le_of_ble_eq_true rfl) ⟨(Nat.le_of_ble_eq_true rfl), (Nat.le_of_ble_eq_true rfl)⟩ dX11_needTwo_7 ⟨(Nat.le_of_ble_eq_true rfl), (Nat.le_of_ble_eq_true rfl)⟩ (fun e9 h4_ => by rw [h4_] at hf; subst hf; exact hω) (fun h3_ => ?_)
  rw [h3_] at hf
  replace hf := hf
  have hf : _ = _ := hf
  have K5_ : person_a = other_a → Z Θ 3 2 12 (zQX Θ ω 3 18) σ 15 [(0, .ref (zA Θ 0)), (1, .int person_a), (2, .int other_a)] [] := by
    intro h8_
    rw [if_pos h8_] at hf
    subst hf
    subst hω
    exact zx_throwW (tx := "both are one") C hlt het 0 (by decide +kernel) w_5_56 w_1_23 (List.mem_of_getElem? (i := 35) rfl) th11_0_126g th11_0_126n th11_0_126o dX11_needTwo_15 dX11_needTwo_18 dX11_needTwo_19 dX11_needTwo_22 dX11_needTwo_25 ⟨(Nat.le_of_ble_eq_true rfl), (Nat.le_of_ble_eq_true rfl), (Nat.le_of_ble_eq_true rfl), (Nat.le_of_ble_eq_true rfl)⟩ (Nat.le_of_ble_eq_true rfl) ⟨(Nat.le_of_ble_eq_true rfl), (Nat.le_of_ble_eq_true rfl)⟩
  suffices K6_ : ¬ (person_a = other_a) → Z Θ 3 2 12 (zQX Θ ω 3 18) σ 26 [(0, .ref (zA Θ 0)), (1, .int person_a), (2, .int other_a)] [] by
    refine z_iload_n C 1 dX11_needTwo_10 rfl rfl ?_
    refine z_iload_n C 2 dX11_needTwo_11 rfl rfl ?_
    refine c_eq_f C 26 dX11_needTwo_12 (by decide) (fun h7_ => ?_) (fun h7_ => ?_)
    · exact K5_ h7_
    · exact K6_ h7_
  intro h8_
  rw [if_neg h8_] at hf
  subst hf
  subst hω
  exact zx_vret C ⟨(Nat.le_of_ble_eq_true rfl), (Nat.le_of_ble_eq_true rfl)⟩ dX11_needTwo_26
theorem c11_needTwo {l : Launch} {kd : List KD} {w : Wp} {σ : St} {person_a : Int32} {other_a : Int32} (hkd : kd = kdC) (hi : zI kd w) (hlt : l.stackTraces = false) : zX l kd w yX11_needTwo cX11_needTwo 3 none rm11_needTwo [.ref (w.2.2.1 0), .int person_a, .int other_a] σ (omN (q11_needTwo σ person_a other_a) σ) 3 18 := zX_of rfl hi (Nat.le_of_ble_eq_true rfl) (fun Θ hl hw C het => by
  obtain ⟨Θ1, Θ2, Θ3, Θ4, Θ5⟩ := Θ
  cases hw
  cases hl
  exact p11_needTwo C hkd hlt het  rfl rfl)
/-! LastLoaf.likes -/
theorem w_6_55 : Cond.code ({ cls := "LastLoaf", name := "needTwo", desc := "(II)V" } : MethodName) prog_1_method_74_code (3 : Nat) (Option.none : Option ClassFile.FieldType) ∈ TB := tb_in (lwt_6 (List.mem_of_getElem? (i := 55) (by decide +kernel))) rfl
theorem w_6_52 : Cond.methodLink "LastLoaf" (212 : Nat) ({ cls := "LastLoaf", name := "needTwo", desc := "(II)V" } : MethodName) ∈ TB := tb_in (lwt_6 (List.mem_of_getElem? (i := 52) (by decide +kernel))) rfl
theorem w_6_54 : Cond.instanceMethod ({ cls := "LastLoaf", name := "needTwo", desc := "(II)V" } : MethodName) ∈ TB := tb_in (lwt_6 (List.mem_of_getElem? (i := 54) (by decide +kernel))) rfl
theorem ws_LastLoaf_needTwo_II_V : Cond.selects "LastLoaf" (⟨"LastLoaf", "needTwo", "(II)V"⟩ : MethodName) (⟨"LastLoaf", "needTwo", "(II)V"⟩ : MethodName) ∈ TB := tb_in (List.mem_append_left _ (List.mem_of_getElem? (i := 10) (by decide +kernel))) rfl
theorem w_6_57 : Cond.methodLink "LastLoaf" (216 : Nat) ({ cls := "LastLoaf$Village", name := "likingOf", desc := "(II)I" } : MethodName) ∈ TB := tb_in (lwt_6 (List.mem_of_getElem? (i := 57) (by decide +kernel))) rfl
theorem cr11_216 {Θ : Tz} {cc : ByteArray} {nL kc ks : Nat} {ret : Option FieldType} {rm : Room} {Q : State → Prop} {σ : St} {pc : Nat} {lv : List (Nat × Value)} {st : List Value} (C : Zc Θ cc nL RX11 ret rm) (hkd : Θ.2.2.2.2.1 = kdC) {th : Nat} {person_a : Int32} {other_a : Int32} (hth : isV th) {r : Int32} (hx : q10_likingOf σ th person_a other_a = some r) (hrm : rm10_likingOf.frames + 1 ≤ rm.frames ∧ 8 + (3 + 11) + rm10_likingOf.locals ≤ rm.locals) (hcat : (st.map fun v => v.category).sum ≤ 8) (hk : kc ≤ rm.cells ∧ ks ≤ rm.slots) (hd : decode cc pc = .ok (.invokevirtual 216, 3)) (kk : Z Θ nL kc ks Q σ (pc + 3) lv (.int r :: st)) : Z Θ nL kc ks Q σ pc lv (.int other_a :: .int person_a :: .ref (zA Θ th) :: st) := z_callV C th [.int person_a, .int other_a] (some (.int r), σ) 2 (kV_0 hkd hth) rfl (c10_likingOf (th := th) (person_a := person_a) (other_a := other_a) hkd (zc_inj C) hth hx) w_3_48 w_6_57 w_3_46 w_3_47 w_1_3 ⟨rfl, rfl, hrm.1, hrm.2⟩ (by decide +kernel) rfl rfl hcat hk hd kk
theorem dX11_likes_0 : decode cX11_likes 0 = .ok (.aload_n 0, 1) := by decide +kernel
theorem dX11_likes_1 : decode cX11_likes 1 = .ok (.iload_n 1, 1) := by decide +kernel
theorem dX11_likes_2 : decode cX11_likes 2 = .ok (.iload_n 2, 1) := by decide +kernel
theorem dX11_likes_3 : decode cX11_likes 3 = .ok (.invokevirtual 212, 3) := by decide +kernel
theorem dX11_likes_6 : decode cX11_likes 6 = .ok (.aload_n 0, 1) := by decide +kernel
theorem dX11_likes_7 : decode cX11_likes 7 = .ok (.getfield 19, 3) := by decide +kernel
theorem dX11_likes_10 : decode cX11_likes 10 = .ok (.iload_n 1, 1) := by decide +kernel
theorem dX11_likes_11 : decode cX11_likes 11 = .ok (.iload_n 2, 1) := by decide +kernel
theorem dX11_likes_12 : decode cX11_likes 12 = .ok (.invokevirtual 216, 3) := by decide +kernel
theorem dX11_likes_15 : decode cX11_likes 15 = .ok (.ireturn, 1) := by decide +kernel
def q11_likes (σ : St) (person_a : Int32) (other_a : Int32) : Option (Sum Nat Int32 × St) :=
  thn (q11_needTwo σ person_a other_a) σ
  (Option.bind (q10_likingOf σ 44 person_a other_a) fun x3_ =>
  some (.inr x3_, σ))
abbrev rm11_likes : Room := { frames := 8, cells := 3, slots := 18, locals := 133 }
set_option maxHeartbeats 4000000 in
set_option maxRecDepth 100000 in
theorem p11_likes {Θ : Tz} {σ : St} {ω : Om} (C : Zc Θ cX11_likes 3 RX11 (some .int) rm11_likes) (hkd : Θ.2.2.2.2.1 = kdC) (hlt : Θ.1.2.1.stackTraces = false) (het : ∀ x ∈ Θ.2.2.1.2.exceptionTable.toList, False) {person_a : Int32} {other_a : Int32} {r : (Sum Nat Int32 × St)} (hf : q11_likes σ person_a other_a = some r) (hω : ω = om (fun v => some (.int v)) r) : Z Θ 3 0 0 (zQX Θ ω 3 18) σ 0 [(0, .ref (zA Θ 0)), (1, .int person_a), (2, .int other_a)] [] := by
  unfold q11_likes at hf
  refine z_aload_n C 0 dX11_likes_0 rfl rfl ?_
  refine z_iload_n C 1 dX11_likes_1 rfl rfl ?_
  refine z_iload_n C 2 dX11_likes_2 rfl rfl ?_
  refine zx_callV C het 0 [.int person_a, .int other_a] (q11_needTwo σ person_a other_a) 3 18 2 (kC_0 hkd) rfl (c11_needTwo (person_a := person_a) (other_a := other_a) hkd (zc_inj C) hlt) w_6_55 w_6_52 w_6_54 ws_LastLoaf_needTwo_II_V w_1_1 ⟨rfl, rfl, (Nat.le_of_ble_eq_true rfl), (Nat.le_of_ble_eq_true rfl)⟩ (by decide +kernel) rfl rfl (Nat.le_of_ble_eq_true rfl) ⟨(Nat.le_of_ble_eq_true rfl), (Nat.le_of_ble_eq_true rfl)⟩ dX11_likes_3 ⟨(Nat.le_of_ble_eq_true rfl), (Nat.le_of_ble_eq_true rfl)⟩ (fun e9 h2_ => by rw [h2_] at hf; cases hf; exact hω) (fun h1_ => ?_)
  rw [h1_] at hf
  replace hf := thn_x hf
  refine z_aload_n C 0 dX11_likes_6 rfl rfl ?_
  refine fg11_19 C hkd dX11_likes_7 ?_
  refine z_iload_n C 1 dX11_likes_10 rfl rfl ?_
  refine z_iload_n C 2 dX11_likes_11 rfl rfl ?_
  obtain ⟨x3_, h4_, hf⟩ := ob hf
  refine cr11_216 (th := 44) (person_a := person_a) (other_a := other_a) C hkd isV_44 h4_ ⟨(Nat.le_of_ble_eq_true rfl), (Nat.le_of_ble_eq_true rfl)⟩ (Nat.le_of_ble_eq_true rfl) ⟨(Nat.le_of_ble_eq_true rfl), (Nat.le_of_ble_eq_true rfl)⟩ dX11_likes_12 ?_
  cases hf
  subst hω
  exact zx_iret C ⟨(Nat.le_of_ble_eq_true rfl), (Nat.le_of_ble_eq_true rfl)⟩ dX11_likes_15
theorem c11_likes {l : Launch} {kd : List KD} {w : Wp} {σ : St} {person_a : Int32} {other_a : Int32} (hkd : kd = kdC) (hi : zI kd w) (hlt : l.stackTraces = false) {r : (Sum Nat Int32 × St)} (hf : q11_likes σ person_a other_a = some r) : zX l kd w yX11_likes cX11_likes 3 (some .int) rm11_likes [.ref (w.2.2.1 0), .int person_a, .int other_a] σ (om (fun v => some (.int v)) r) 3 18 := zX_of rfl hi (Nat.le_of_ble_eq_true rfl) (fun Θ hl hw C het => by
  obtain ⟨Θ1, Θ2, Θ3, Θ4, Θ5⟩ := Θ
  cases hw
  cases hl
  exact p11_likes C hkd hlt het  hf rfl)
/-! LastLoaf.favour -/
theorem w_6_65 : Cond.methodLink "LastLoaf" (219 : Nat) ({ cls := "LastLoaf$Law", name := "favourOf", desc := "(LLastLoaf$Village;II)I" } : MethodName) ∈ TB := tb_in (lwt_6 (List.mem_of_getElem? (i := 65) (by decide +kernel))) rfl
theorem cr11_219 {Θ : Tz} {cc : ByteArray} {nL kc ks : Nat} {ret : Option FieldType} {rm : Room} {Q : State → Prop} {σ : St} {pc : Nat} {lv : List (Nat × Value)} {st : List Value} (C : Zc Θ cc nL RX11 ret rm) (hkd : Θ.2.2.2.2.1 = kdC) {th : Nat} {village_a : Nat} {voter_a : Int32} {other_a : Int32} (hth : isLaw th) (h_village : isV village_a) {r : Int32 × St} (hx : q2_favourOf σ th village_a voter_a other_a = some r) (hrm : rm2_favourOf.frames + 1 ≤ rm.frames ∧ 8 + (5 + 11) + rm2_favourOf.locals ≤ rm.locals) (hcat : (st.map fun v => v.category).sum ≤ 8) (hk : kc ≤ rm.cells ∧ ks ≤ rm.slots) (hd : decode cc pc = .ok (.invokevirtual 219, 3)) (kk : Z Θ nL kc ks Q r.2 (pc + 3) lv (.int r.1 :: st)) : Z Θ nL kc ks Q σ pc lv (.int other_a :: .int voter_a :: .ref (zA Θ village_a) :: .ref (zA Θ th) :: st) := z_callV C th [.ref (zA Θ village_a), .int voter_a, .int other_a] (some (.int r.1), r.2) 3 (kLaw_0 hkd hth) rfl (c2_favourOf (th := th) (village_a := village_a) (voter_a := voter_a) (other_a := other_a) hkd (zc_inj C) hth h_village hx) w_3_64 w_6_65 w_3_62 w_3_63 w_1_6 ⟨rfl, rfl, hrm.1, hrm.2⟩ (by decide +kernel) rfl rfl hcat hk hd kk
theorem dX11_favour_0 : decode cX11_favour 0 = .ok (.aload_n 0, 1) := by decide +kernel
theorem dX11_favour_1 : decode cX11_favour 1 = .ok (.iload_n 1, 1) := by decide +kernel
theorem dX11_favour_2 : decode cX11_favour 2 = .ok (.invokevirtual 151, 3) := by decide +kernel
theorem dX11_favour_5 : decode cX11_favour 5 = .ok (.aload_n 0, 1) := by decide +kernel
theorem dX11_favour_6 : decode cX11_favour 6 = .ok (.iload_n 2, 1) := by decide +kernel
theorem dX11_favour_7 : decode cX11_favour 7 = .ok (.invokevirtual 151, 3) := by decide +kernel
theorem dX11_favour_10 : decode cX11_favour 10 = .ok (.aload_n 0, 1) := by decide +kernel
theorem dX11_favour_11 : decode cX11_favour 11 = .ok (.getfield 29, 3) := by decide +kernel
theorem dX11_favour_14 : decode cX11_favour 14 = .ok (.aload_n 0, 1) := by decide +kernel
theorem dX11_favour_15 : decode cX11_favour 15 = .ok (.getfield 19, 3) := by decide +kernel
theorem dX11_favour_18 : decode cX11_favour 18 = .ok (.iload_n 1, 1) := by decide +kernel
theorem dX11_favour_19 : decode cX11_favour 19 = .ok (.iload_n 2, 1) := by decide +kernel
theorem dX11_favour_20 : decode cX11_favour 20 = .ok (.invokevirtual 219, 3) := by decide +kernel
theorem dX11_favour_23 : decode cX11_favour 23 = .ok (.ireturn, 1) := by decide +kernel
def q11_favour (σ : St) (person_a : Int32) (other_a : Int32) : Option (Sum Nat Int32 × St) :=
  thn (q11_needPerson σ person_a) σ
  (thn (q11_needPerson σ other_a) σ
  (Option.bind (q2_favourOf σ 32 44 person_a other_a) fun x5_ =>
  some (.inr x5_.1, x5_.2)))
abbrev rm11_favour : Room := { frames := 7, cells := 2, slots := 12, locals := 111 }
set_option maxHeartbeats 4000000 in
set_option maxRecDepth 100000 in
theorem p11_favour {Θ : Tz} {σ : St} {ω : Om} (C : Zc Θ cX11_favour 3 RX11 (some .int) rm11_favour) (hkd : Θ.2.2.2.2.1 = kdC) (hlt : Θ.1.2.1.stackTraces = false) (het : ∀ x ∈ Θ.2.2.1.2.exceptionTable.toList, False) {person_a : Int32} {other_a : Int32} {r : (Sum Nat Int32 × St)} (hf : q11_favour σ person_a other_a = some r) (hω : ω = om (fun v => some (.int v)) r) : Z Θ 3 0 0 (zQX Θ ω 2 12) σ 0 [(0, .ref (zA Θ 0)), (1, .int person_a), (2, .int other_a)] [] := by
  unfold q11_favour at hf
  refine z_aload_n C 0 dX11_favour_0 rfl rfl ?_
  refine z_iload_n C 1 dX11_favour_1 rfl rfl ?_
  refine zx_callV C het 0 [.int person_a] (q11_needPerson σ person_a) 1 6 1 (kC_0 hkd) rfl (c11_needPerson (person_a := person_a) hkd (zc_inj C) hlt) w_5_227 w_5_224 w_5_226 ws_LastLoaf_needPerson_I_V w_1_1 ⟨rfl, rfl, (Nat.le_of_ble_eq_true rfl), (Nat.le_of_ble_eq_true rfl)⟩ (by decide +kernel) rfl rfl (Nat.le_of_ble_eq_true rfl) ⟨(Nat.le_of_ble_eq_true rfl), (Nat.le_of_ble_eq_true rfl)⟩ dX11_favour_2 ⟨(Nat.le_of_ble_eq_true rfl), (Nat.le_of_ble_eq_true rfl)⟩ (fun e9 h2_ => by rw [h2_] at hf; cases hf; exact hω) (fun h1_ => ?_)
  rw [h1_] at hf
  replace hf := thn_x hf
  refine z_aload_n C 0 dX11_favour_5 rfl rfl ?_
  refine z_iload_n C 2 dX11_favour_6 rfl rfl ?_
  refine zx_callV C het 0 [.int other_a] (q11_needPerson σ other_a) 1 6 1 (kC_0 hkd) rfl (c11_needPerson (person_a := other_a) hkd (zc_inj C) hlt) w_5_227 w_5_224 w_5_226 ws_LastLoaf_needPerson_I_V w_1_1 ⟨rfl, rfl, (Nat.le_of_ble_eq_true rfl), (Nat.le_of_ble_eq_true rfl)⟩ (by decide +kernel) rfl rfl (Nat.le_of_ble_eq_true rfl) ⟨(Nat.le_of_ble_eq_true rfl), (Nat.le_of_ble_eq_true rfl)⟩ dX11_favour_7 ⟨(Nat.le_of_ble_eq_true rfl), (Nat.le_of_ble_eq_true rfl)⟩ (fun e9 h4_ => by rw [h4_] at hf; cases hf; exact hω) (fun h3_ => ?_)
  rw [h3_] at hf
  replace hf := thn_x hf
  refine z_aload_n C 0 dX11_favour_10 rfl rfl ?_
  refine fg11_29 C hkd dX11_favour_11 ?_
  refine z_aload_n C 0 dX11_favour_14 rfl rfl ?_
  refine fg11_19 C hkd dX11_favour_15 ?_
  refine z_iload_n C 1 dX11_favour_18 rfl rfl ?_
  refine z_iload_n C 2 dX11_favour_19 rfl rfl ?_
  obtain ⟨x5_, h6_, hf⟩ := ob hf
  refine cr11_219 (th := 32) (village_a := 44) (voter_a := person_a) (other_a := other_a) C hkd isLaw_32 isV_44 h6_ ⟨(Nat.le_of_ble_eq_true rfl), (Nat.le_of_ble_eq_true rfl)⟩ (Nat.le_of_ble_eq_true rfl) ⟨(Nat.le_of_ble_eq_true rfl), (Nat.le_of_ble_eq_true rfl)⟩ dX11_favour_20 ?_
  cases hf
  subst hω
  exact zx_iret C ⟨(Nat.le_of_ble_eq_true rfl), (Nat.le_of_ble_eq_true rfl)⟩ dX11_favour_23
theorem c11_favour {l : Launch} {kd : List KD} {w : Wp} {σ : St} {person_a : Int32} {other_a : Int32} (hkd : kd = kdC) (hi : zI kd w) (hlt : l.stackTraces = false) {r : (Sum Nat Int32 × St)} (hf : q11_favour σ person_a other_a = some r) : zX l kd w yX11_favour cX11_favour 3 (some .int) rm11_favour [.ref (w.2.2.1 0), .int person_a, .int other_a] σ (om (fun v => some (.int v)) r) 2 12 := zX_of rfl hi (Nat.le_of_ble_eq_true rfl) (fun Θ hl hw C het => by
  obtain ⟨Θ1, Θ2, Θ3, Θ4, Θ5⟩ := Θ
  cases hw
  cases hl
  exact p11_favour C hkd hlt het  hf rfl)
/-! LastLoaf.grist -/
theorem w_1_119 : Cond.fieldLink "LastLoaf" (228 : Nat) "LastLoaf$Village" "grist" "[I" ∈ TB := tb_in (lwt_1 (List.mem_of_getElem? (i := 119) (by decide +kernel))) rfl
theorem fg11_228 {Θ : Tz} {cc : ByteArray} {nL kc ks : Nat} {ret : Option FieldType} {rm : Room} {Q : State → Prop} {σ : St} {pc : Nat} {lv : List (Nat × Value)} {st : List Value} (C : Zc Θ cc nL RX11 ret rm) (hkd : Θ.2.2.2.2.1 = kdC) {th : Nat} (hth : isV th) (hd : decode cc pc = .ok (.getfield 228, 3)) (kk : Z Θ nL kc ks Q σ (pc + 3) lv (.ref (zA Θ (th + 7)) :: st)) : Z Θ nL kc ks Q σ pc lv (.ref (zA Θ th) :: st) := z_get C inT10 th (kV_0 hkd hth) rfl 6 (by decide) w_1_119 rfl hd kk
theorem dX11_grist_0 : decode cX11_grist 0 = .ok (.iload_n 1, 1) := by decide +kernel
theorem dX11_grist_1 : decode cX11_grist 1 = .ok (.ifCond .lt 8, 3) := by decide +kernel
theorem dX11_grist_4 : decode cX11_grist 4 = .ok (.iload_n 1, 1) := by decide +kernel
theorem dX11_grist_5 : decode cX11_grist 5 = .ok (.iconst 4, 1) := by decide +kernel
theorem dX11_grist_6 : decode cX11_grist 6 = .ok (.if_icmp .lt 13, 3) := by decide +kernel
theorem dX11_grist_9 : decode cX11_grist 9 = .ok (.new 223, 3) := by decide +kernel
theorem dX11_grist_12 : decode cX11_grist 12 = .ok (.dup, 1) := by decide +kernel
theorem dX11_grist_13 : decode cX11_grist 13 = .ok (.ldc 225, 2) := by decide +kernel
theorem dX11_grist_15 : decode cX11_grist 15 = .ok (.invokespecial 227, 3) := by decide +kernel
theorem dX11_grist_18 : decode cX11_grist 18 = .ok (.athrow, 1) := by decide +kernel
theorem dX11_grist_19 : decode cX11_grist 19 = .ok (.aload_n 0, 1) := by decide +kernel
theorem dX11_grist_20 : decode cX11_grist 20 = .ok (.getfield 19, 3) := by decide +kernel
theorem dX11_grist_23 : decode cX11_grist 23 = .ok (.getfield 228, 3) := by decide +kernel
theorem dX11_grist_26 : decode cX11_grist 26 = .ok (.iload_n 1, 1) := by decide +kernel
theorem dX11_grist_27 : decode cX11_grist 27 = .ok (.iaload, 1) := by decide +kernel
theorem dX11_grist_28 : decode cX11_grist 28 = .ok (.ireturn, 1) := by decide +kernel
def q11_grist (σ : St) (season_a : Int32) : Option (Sum Nat Int32 × St) :=
  if (season_a < 0) ∨ (4 ≤ season_a) then (some (.inl 2, σ)) else
  Option.bind (ag σ (44 + 7) 4 season_a) fun x6_ =>
  some (.inr x6_, σ)
abbrev rm11_grist : Room := { frames := 6, cells := 1, slots := 6, locals := 90 }
set_option maxHeartbeats 4000000 in
set_option maxRecDepth 100000 in
theorem p11_grist {Θ : Tz} {σ : St} {ω : Om} (C : Zc Θ cX11_grist 2 RX11 (some .int) rm11_grist) (hkd : Θ.2.2.2.2.1 = kdC) (hlt : Θ.1.2.1.stackTraces = false) (het : ∀ x ∈ Θ.2.2.1.2.exceptionTable.toList, False) {season_a : Int32} {r : (Sum Nat Int32 × St)} (hf : q11_grist σ season_a = some r) (hω : ω = om (fun v => some (.int v)) r) : Z Θ 2 0 0 (zQX Θ ω 1 6) σ 0 [(0, .ref (zA Θ 0)), (1, .int season_a)] [] := by
  unfold q11_grist at hf
  have K1_ : (season_a < 0) ∨ (4 ≤ season_a) → Z Θ 2 0 0 (zQX Θ ω 1 6) σ 9 [(0, .ref (zA Θ 0)), (1, .int season_a)] [] := by
    intro h5_
    rw [if_pos h5_] at hf
    cases hf
    subst hω
    exact zx_throw (tx := "there is no such season") C hlt het 2 (by decide +kernel) w_5_228 w_1_25 (List.mem_of_getElem? (i := 36) rfl) th11_2_227g th11_2_227n th11_2_227o dX11_grist_9 dX11_grist_12 dX11_grist_13 dX11_grist_15 dX11_grist_18 ⟨(Nat.le_of_ble_eq_true rfl), (Nat.le_of_ble_eq_true rfl), (Nat.le_of_ble_eq_true rfl), (Nat.le_of_ble_eq_true rfl)⟩ (Nat.le_of_ble_eq_true rfl) ⟨(Nat.le_of_ble_eq_true rfl), (Nat.le_of_ble_eq_true rfl)⟩
  suffices K2_ : ¬ ((season_a < 0) ∨ (4 ≤ season_a)) → Z Θ 2 0 0 (zQX Θ ω 1 6) σ 19 [(0, .ref (zA Θ 0)), (1, .int season_a)] [] by
    refine z_iload_n C 1 dX11_grist_0 rfl rfl ?_
    refine c0_lt_t C 9 dX11_grist_1 (by decide) (fun h3_ => ?_) (fun h3_ => ?_)
    · exact K1_ (Or.inl h3_)
    · refine z_iload_n C 1 dX11_grist_4 rfl rfl ?_
      refine z_iconst (v := 4) C dX11_grist_5 ic_4 ?_
      refine c_ge_f C 19 dX11_grist_6 (by decide) (fun h4_ => ?_) (fun h4_ => ?_)
      · exact K1_ (Or.inr h4_)
      · exact K2_ (fun n => n.elim h3_ h4_)
  intro h5_
  rw [if_neg h5_] at hf
  refine z_aload_n C 0 dX11_grist_19 rfl rfl ?_
  refine fg11_19 C hkd dX11_grist_20 ?_
  refine fg11_228 C hkd isV_44 dX11_grist_23 ?_
  refine z_iload_n C 1 dX11_grist_26 rfl rfl ?_
  obtain ⟨x6_, h7_, hf⟩ := ob hf
  refine z_ag C h7_ (kV_7 hkd isV_44) dX11_grist_27 ?_
  cases hf
  subst hω
  exact zx_iret C ⟨(Nat.le_of_ble_eq_true rfl), (Nat.le_of_ble_eq_true rfl)⟩ dX11_grist_28
theorem c11_grist {l : Launch} {kd : List KD} {w : Wp} {σ : St} {season_a : Int32} (hkd : kd = kdC) (hi : zI kd w) (hlt : l.stackTraces = false) {r : (Sum Nat Int32 × St)} (hf : q11_grist σ season_a = some r) : zX l kd w yX11_grist cX11_grist 2 (some .int) rm11_grist [.ref (w.2.2.1 0), .int season_a] σ (om (fun v => some (.int v)) r) 1 6 := zX_of rfl hi (Nat.le_of_ble_eq_true rfl) (fun Θ hl hw C het => by
  obtain ⟨Θ1, Θ2, Θ3, Θ4, Θ5⟩ := Θ
  cases hw
  cases hl
  exact p11_grist C hkd hlt het  hf rfl)
/-! LastLoaf.needNumber -/
theorem dX11_needNumber_0 : decode cX11_needNumber 0 = .ok (.iload_n 0, 1) := by decide +kernel
theorem dX11_needNumber_1 : decode cX11_needNumber 1 = .ok (.iload_n 1, 1) := by decide +kernel
theorem dX11_needNumber_2 : decode cX11_needNumber 2 = .ok (.if_icmp .lt 8, 3) := by decide +kernel
theorem dX11_needNumber_5 : decode cX11_needNumber 5 = .ok (.iload_n 0, 1) := by decide +kernel
theorem dX11_needNumber_6 : decode cX11_needNumber 6 = .ok (.iload_n 2, 1) := by decide +kernel
theorem dX11_needNumber_7 : decode cX11_needNumber 7 = .ok (.if_icmp .le 14, 3) := by decide +kernel
theorem dX11_needNumber_10 : decode cX11_needNumber 10 = .ok (.new 122, 3) := by decide +kernel
theorem dX11_needNumber_13 : decode cX11_needNumber 13 = .ok (.dup, 1) := by decide +kernel
theorem dX11_needNumber_14 : decode cX11_needNumber 14 = .ok (.ldc_w 460, 3) := by decide +kernel
theorem dX11_needNumber_17 : decode cX11_needNumber 17 = .ok (.invokespecial 126, 3) := by decide +kernel
theorem dX11_needNumber_20 : decode cX11_needNumber 20 = .ok (.athrow, 1) := by decide +kernel
theorem dX11_needNumber_21 : decode cX11_needNumber 21 = .ok (.return_, 1) := by decide +kernel
def q11_needNumber (n_a : Int32) (least_a : Int32) (most_a : Int32) : Option Nat :=
  if (n_a < least_a) ∨ (most_a < n_a) then (some 0) else
  none
abbrev rm11_needNumber : Room := { frames := 6, cells := 1, slots := 6, locals := 90 }
set_option maxHeartbeats 4000000 in
set_option maxRecDepth 100000 in
theorem p11_needNumber {Θ : Tz} {σ : St} {ω : Om} (C : Zc Θ cX11_needNumber 3 RX11 none rm11_needNumber) (hkd : Θ.2.2.2.2.1 = kdC) (hlt : Θ.1.2.1.stackTraces = false) (het : ∀ x ∈ Θ.2.2.1.2.exceptionTable.toList, False) {n_a : Int32} {least_a : Int32} {most_a : Int32} {r : Option Nat} (hf : q11_needNumber n_a least_a most_a = r) (hω : ω = omN r σ) : Z Θ 3 0 0 (zQX Θ ω 1 6) σ 0 [(0, .int n_a), (1, .int least_a), (2, .int most_a)] [] := by
  unfold q11_needNumber at hf
  have K1_ : (n_a < least_a) ∨ (most_a < n_a) → Z Θ 3 0 0 (zQX Θ ω 1 6) σ 10 [(0, .int n_a), (1, .int least_a), (2, .int most_a)] [] := by
    intro h5_
    rw [if_pos h5_] at hf
    subst hf
    subst hω
    exact zx_throwW (tx := "the number is none") C hlt het 0 (by decide +kernel) w_5_56 w_1_23 (List.mem_of_getElem? (i := 37) rfl) th11_0_126g th11_0_126n th11_0_126o dX11_needNumber_10 dX11_needNumber_13 dX11_needNumber_14 dX11_needNumber_17 dX11_needNumber_20 ⟨(Nat.le_of_ble_eq_true rfl), (Nat.le_of_ble_eq_true rfl), (Nat.le_of_ble_eq_true rfl), (Nat.le_of_ble_eq_true rfl)⟩ (Nat.le_of_ble_eq_true rfl) ⟨(Nat.le_of_ble_eq_true rfl), (Nat.le_of_ble_eq_true rfl)⟩
  suffices K2_ : ¬ ((n_a < least_a) ∨ (most_a < n_a)) → Z Θ 3 0 0 (zQX Θ ω 1 6) σ 21 [(0, .int n_a), (1, .int least_a), (2, .int most_a)] [] by
    refine z_iload_n C 0 dX11_needNumber_0 rfl rfl ?_
    refine z_iload_n C 1 dX11_needNumber_1 rfl rfl ?_
    refine c_lt_t C 10 dX11_needNumber_2 (by decide) (fun h3_ => ?_) (fun h3_ => ?_)
    · exact K1_ (Or.inl h3_)
    · refine z_iload_n C 0 dX11_needNumber_5 rfl rfl ?_
      refine z_iload_n C 2 dX11_needNumber_6 rfl rfl ?_
      refine c_gt_f C 21 dX11_needNumber_7 (by decide) (fun h4_ => ?_) (fun h4_ => ?_)
      · exact K1_ (Or.inr h4_)
      · exact K2_ (fun n => n.elim h3_ h4_)
  intro h5_
  rw [if_neg h5_] at hf
  subst hf
  subst hω
  exact zx_vret C ⟨(Nat.le_of_ble_eq_true rfl), (Nat.le_of_ble_eq_true rfl)⟩ dX11_needNumber_21
theorem c11_needNumber {l : Launch} {kd : List KD} {w : Wp} {σ : St} {n_a : Int32} {least_a : Int32} {most_a : Int32} (hkd : kd = kdC) (hi : zI kd w) (hlt : l.stackTraces = false) : zX l kd w yX11_needNumber cX11_needNumber 3 none rm11_needNumber [.int n_a, .int least_a, .int most_a] σ (omN (q11_needNumber n_a least_a most_a) σ) 1 6 := zX_of rfl hi (Nat.le_of_ble_eq_true rfl) (fun Θ hl hw C het => by
  obtain ⟨Θ1, Θ2, Θ3, Θ4, Θ5⟩ := Θ
  cases hw
  cases hl
  exact p11_needNumber C hkd hlt het  rfl rfl)
/-! LastLoaf$Village.hungerMore -/
theorem w_3_140 : Cond.methodLink "LastLoaf$Village" (88 : Nat) ({ cls := "java/lang/Math", name := "min", desc := "(II)I" } : MethodName) ∈ TB := tb_in (lwt_3 (List.mem_of_getElem? (i := 140) (by decide +kernel))) rfl
theorem w_3_129 : Cond.static ({ cls := "java/lang/Math", name := "min", desc := "(II)I" } : MethodName) ∈ TB := tb_in (lwt_3 (List.mem_of_getElem? (i := 129) (by decide +kernel))) rfl
theorem w_1_28 : Cond.initialized "java/lang/Math" ∈ TB := tb_in (lwt_1 (List.mem_of_getElem? (i := 28) (by decide +kernel))) rfl
theorem w_3_130 : Cond.code ({ cls := "java/lang/Math", name := "min", desc := "(II)I" } : MethodName) prog_23_method_69_code (2 : Nat) (Option.some ClassFile.FieldType.int) ∈ TB := tb_in (lwt_3 (List.mem_of_getElem? (i := 130) (by decide +kernel))) rfl
theorem dX10_hungerMore_0 : decode cX10_hungerMore 0 = .ok (.aload_n 0, 1) := by decide +kernel
theorem dX10_hungerMore_1 : decode cX10_hungerMore 1 = .ok (.getfield 9, 3) := by decide +kernel
theorem dX10_hungerMore_4 : decode cX10_hungerMore 4 = .ok (.iload_n 1, 1) := by decide +kernel
theorem dX10_hungerMore_5 : decode cX10_hungerMore 5 = .ok (.bipush 9, 2) := by decide +kernel
theorem dX10_hungerMore_7 : decode cX10_hungerMore 7 = .ok (.aload_n 0, 1) := by decide +kernel
theorem dX10_hungerMore_8 : decode cX10_hungerMore 8 = .ok (.getfield 9, 3) := by decide +kernel
theorem dX10_hungerMore_11 : decode cX10_hungerMore 11 = .ok (.iload_n 1, 1) := by decide +kernel
theorem dX10_hungerMore_12 : decode cX10_hungerMore 12 = .ok (.iaload, 1) := by decide +kernel
theorem dX10_hungerMore_13 : decode cX10_hungerMore 13 = .ok (.iconst 1, 1) := by decide +kernel
theorem dX10_hungerMore_14 : decode cX10_hungerMore 14 = .ok (.iadd, 1) := by decide +kernel
theorem dX10_hungerMore_15 : decode cX10_hungerMore 15 = .ok (.invokestatic 88, 3) := by decide +kernel
theorem dX10_hungerMore_18 : decode cX10_hungerMore 18 = .ok (.iastore, 1) := by decide +kernel
theorem dX10_hungerMore_19 : decode cX10_hungerMore 19 = .ok (.return_, 1) := by decide +kernel
def q10_hungerMore (σ : St) (th : Nat) (person_a : Int32) : Option St :=
  Option.bind (ag σ (th + 1) 6 person_a) fun x1_ =>
  Option.bind (sa σ (th + 1) 6 person_a (imin 9 (x1_ + 1))) fun σ3_ =>
  some σ3_
abbrev rm10_hungerMore : Room := { frames := 1, cells := 0, slots := 0, locals := 21 }
set_option maxHeartbeats 4000000 in
set_option maxRecDepth 100000 in
theorem p10_hungerMore {Θ : Tz} {σ : St} {ρ : Option Value × St} (C : Zc Θ cX10_hungerMore 2 RX10 none rm10_hungerMore) (hkd : Θ.2.2.2.2.1 = kdC) {th : Nat} {person_a : Int32} (hth : isV th) {r : St} (hf : q10_hungerMore σ th person_a = some r) (hρ : ρ = (none, r)) : Z Θ 2 0 0 (zQ Θ ρ) σ 0 [(0, .ref (zA Θ th)), (1, .int person_a)] [] := by
  unfold q10_hungerMore at hf
  refine z_aload_n C 0 dX10_hungerMore_0 rfl rfl ?_
  refine fg10_9 C hkd hth dX10_hungerMore_1 ?_
  refine z_iload_n C 1 dX10_hungerMore_4 rfl rfl ?_
  refine z_bipush (v := 9) C dX10_hungerMore_5 bp_9 ?_
  refine z_aload_n C 0 dX10_hungerMore_7 rfl rfl ?_
  refine fg10_9 C hkd hth dX10_hungerMore_8 ?_
  refine z_iload_n C 1 dX10_hungerMore_11 rfl rfl ?_
  obtain ⟨x1_, h2_, hf⟩ := ob hf
  refine z_ag C h2_ (kV_1 hkd hth) dX10_hungerMore_12 ?_
  refine z_iconst (v := 1) C dX10_hungerMore_13 ic_1 ?_
  refine z_iadd C dX10_hungerMore_14 ?_
  refine z_min C w_3_140 w_3_129 w_1_28 w_3_130 ⟨(Nat.le_of_ble_eq_true rfl), (Nat.le_of_ble_eq_true rfl)⟩ (Nat.le_of_ble_eq_true rfl) ⟨Nat.zero_le _, Nat.zero_le _⟩ dX10_hungerMore_15 ?_
  obtain ⟨σ3_, h4_, hf⟩ := ob hf
  refine z_sa C h4_ (kV_1 hkd hth) dX10_hungerMore_18 ?_
  cases hf
  subst hρ
  exact z_vret C dX10_hungerMore_19
theorem c10_hungerMore {l : Launch} {kd : List KD} {w : Wp} {σ : St} {th : Nat} {person_a : Int32} (hkd : kd = kdC) (hi : zI kd w) (hth : isV th) {r : St} (hf : q10_hungerMore σ th person_a = some r) : zM l kd w yX10_hungerMore cX10_hungerMore 2 none rm10_hungerMore [.ref (w.2.2.1 th), .int person_a] σ (none, r) := zM_of rfl hi (Nat.le_of_ble_eq_true rfl) (fun Θ hl hw C => by
  obtain ⟨Θ1, Θ2, Θ3, Θ4, Θ5⟩ := Θ
  cases hw
  exact p10_hungerMore C hkd hth hf rfl)

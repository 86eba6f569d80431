/-! LastLoafModel.master -/
theorem dX12_master_0 : decode cX12_master 0 = .ok (.aload_n 0, 1) := by decide +kernel
theorem dX12_master_1 : decode cX12_master 1 = .ok (.iconst 0, 1) := by decide +kernel
theorem dX12_master_2 : decode cX12_master 2 = .ok (.putfield 65, 3) := by decide +kernel
theorem dX12_master_5 : decode cX12_master 5 = .ok (.aload_n 0, 1) := by decide +kernel
theorem dX12_master_6 : decode cX12_master 6 = .ok (.invokevirtual 320, 3) := by decide +kernel
theorem dX12_master_9 : decode cX12_master 9 = .ok (.iconst 0, 1) := by decide +kernel
theorem dX12_master_10 : decode cX12_master 10 = .ok (.istore_n 1, 1) := by decide +kernel
theorem dX12_master_11 : decode cX12_master 11 = .ok (.iload_n 1, 1) := by decide +kernel
theorem dX12_master_12 : decode cX12_master 12 = .ok (.aload_n 0, 1) := by decide +kernel
theorem dX12_master_13 : decode cX12_master 13 = .ok (.getfield 7, 3) := by decide +kernel
theorem dX12_master_16 : decode cX12_master 16 = .ok (.iconst 3, 1) := by decide +kernel
theorem dX12_master_17 : decode cX12_master 17 = .ok (.iaload, 1) := by decide +kernel
theorem dX12_master_18 : decode cX12_master 18 = .ok (.if_icmp .ge 39, 3) := by decide +kernel
theorem dX12_master_21 : decode cX12_master 21 = .ok (.aload_n 0, 1) := by decide +kernel
theorem dX12_master_22 : decode cX12_master 22 = .ok (.getfield 269, 3) := by decide +kernel
theorem dX12_master_25 : decode cX12_master 25 = .ok (.iload_n 1, 1) := by decide +kernel
theorem dX12_master_26 : decode cX12_master 26 = .ok (.invokestatic 275, 3) := by decide +kernel
theorem dX12_master_29 : decode cX12_master 29 = .ok (.ifCond .eq 22, 3) := by decide +kernel
theorem dX12_master_32 : decode cX12_master 32 = .ok (.aload_n 0, 1) := by decide +kernel
theorem dX12_master_33 : decode cX12_master 33 = .ok (.iload_n 1, 1) := by decide +kernel
theorem dX12_master_34 : decode cX12_master 34 = .ok (.invokevirtual 298, 3) := by decide +kernel
theorem dX12_master_37 : decode cX12_master 37 = .ok (.aload_n 0, 1) := by decide +kernel
theorem dX12_master_38 : decode cX12_master 38 = .ok (.getfield 269, 3) := by decide +kernel
theorem dX12_master_41 : decode cX12_master 41 = .ok (.invokestatic 286, 3) := by decide +kernel
theorem dX12_master_44 : decode cX12_master 44 = .ok (.iconst 1, 1) := by decide +kernel
theorem dX12_master_45 : decode cX12_master 45 = .ok (.isub, 1) := by decide +kernel
theorem dX12_master_46 : decode cX12_master 46 = .ok (.if_icmp .ne 5, 3) := by decide +kernel
theorem dX12_master_49 : decode cX12_master 49 = .ok (.iload_n 1, 1) := by decide +kernel
theorem dX12_master_50 : decode cX12_master 50 = .ok (.ireturn, 1) := by decide +kernel
theorem dX12_master_51 : decode cX12_master 51 = .ok (.iinc 1 1, 3) := by decide +kernel
theorem dX12_master_54 : decode cX12_master 54 = .ok (.goto (-43), 3) := by decide +kernel
theorem dX12_master_57 : decode cX12_master 57 = .ok (.iconst (-1), 1) := by decide +kernel
theorem dX12_master_58 : decode cX12_master 58 = .ok (.ireturn, 1) := by decide +kernel
def q12_master (σ : St) : Option (Int32 × St) :=
  lt (up σ 0 0 0) fun σ1_ =>
  Option.bind (q12_looks σ1_) fun x3_ =>
  Option.bind (loop1 (fun rec8_ (p11_ : Int32) =>
  Option.bind (ag x3_ 1 752 3) fun x16_ =>
  if p11_ < x16_ then
  Option.bind (if q12_isOf (x3_ 0 21) p11_ = true then (Option.bind (q12_duelsOf x3_ p11_) fun x25_ =>
  Option.bind (q12_bits (x3_ 0 21)) fun x27_ =>
  if x25_ = (x27_ - 1) then (some true) else (some false)) else (some false)) fun t22_ =>
  if t22_ = true then (some (.inl (p11_, x3_))) else
  lt (p11_ + 1) fun p31_ =>
  rec8_ p31_
  else (some (.inr p11_))) fuelN (0 : Int32)) fun y5_ =>
  Sum.elim (fun x9 => some x9) (fun y5_r =>
  some ((-1), x3_)) y5_
abbrev rm12_master : Room := { frames := 77, cells := 0, slots := 0, locals := 4194 }
set_option maxHeartbeats 4000000 in
set_option maxRecDepth 100000 in
theorem p12_master {Θ : Tz} {σ : St} {ρ : Option Value × St} (C : Zc Θ cX12_master 2 RX12 (some .int) rm12_master) (hkd : Θ.2.2.2.2.1 = kdM) {r : (Int32 × St)} (hf : q12_master σ = some r) (hρ : ρ = (some (.int r.1), r.2)) : Z Θ 2 0 0 (zQ Θ ρ) σ 0 [(0, .ref (zA Θ 0))] [] := by
  unfold q12_master at hf
  refine z_aload_n C 0 dX12_master_0 rfl rfl ?_
  refine z_iconst (v := 0) C dX12_master_1 ic_0 ?_
  obtain ⟨σ1_, h2_, hf⟩ := lt_ hf
  refine fp12_65 C hkd h2_ dX12_master_2 ?_
  refine z_aload_n C 0 dX12_master_5 rfl rfl ?_
  obtain ⟨x3_, h4_, hf⟩ := ob hf
  refine cr12_320 C hkd  h4_ ⟨(Nat.le_of_ble_eq_true rfl), (Nat.le_of_ble_eq_true rfl)⟩ (Nat.le_of_ble_eq_true rfl) ⟨Nat.zero_le _, Nat.zero_le _⟩ dX12_master_6 ?_
  refine z_iconst (v := 0) C dX12_master_9 ic_0 ?_
  refine z_istN C dX12_master_10 rfl rfl (Nat.le_of_ble_eq_true rfl) rfl ?_
  refine Z.sub [1, 0] rfl ?_
  obtain ⟨y5_, h6_, hf⟩ := ob hf
  suffices K7_ : ∀ y5_r, y5_ = .inr y5_r → Z Θ 2 0 0 (zQ Θ ρ) x3_ 57 [(0, .ref (zA Θ 0)), (1, .int y5_r)] [] by
    refine loop1_Z (P := fun (p11_ : Int32) => Z Θ 2 0 0 (zQ Θ ρ) x3_ 11 [(0, .ref (zA Θ 0)), (1, .int p11_)] []) ?_ fuelN (0 : Int32) h6_
    clear h6_
    intro rec8_ p11_ h9_ h10_
    refine z_iload_n C 1 dX12_master_11 rfl rfl ?_
    refine z_aload_n C 0 dX12_master_12 rfl rfl ?_
    refine fg12_7 C hkd dX12_master_13 ?_
    refine z_iconst (v := 3) C dX12_master_16 ic_3 ?_
    obtain ⟨x16_, h17_, h10_⟩ := ob h10_
    refine z_ag C h17_ (kM_1 hkd) dX12_master_17 ?_
    have K14_ : p11_ < x16_ → Z Θ 2 0 0 (zQ Θ ρ) x3_ 21 [(0, .ref (zA Θ 0)), (1, .int p11_)] [] := by
      intro h19_
      rw [if_pos h19_] at h10_
      obtain ⟨t22_, h23_, h10_⟩ := ob h10_
      have K20_ : t22_ = true → Z Θ 2 0 0 (zQ Θ ρ) x3_ 49 [(0, .ref (zA Θ 0)), (1, .int p11_)] [] := by
        intro h30_
        rw [if_pos h30_] at h10_
        refine z_iload_n C 1 dX12_master_49 rfl rfl ?_
        rw [← Option.some.inj h10_] at hf
        replace hf : some (p11_, x3_) = some r := hf
        cases hf
        subst hρ
        exact z_iret C dX12_master_50
      suffices K21_ : ¬ (t22_ = true) → Z Θ 2 0 0 (zQ Θ ρ) x3_ 51 [(0, .ref (zA Θ 0)), (1, .int p11_)] [] by
        refine z_aload_n C 0 dX12_master_21 rfl rfl ?_
        refine fg12_269 C hkd dX12_master_22 ?_
        refine z_iload_n C 1 dX12_master_25 rfl rfl ?_
        refine cr12_275 (set_a := (x3_ 0 21)) (k_a := p11_) C hkd  ⟨(Nat.le_of_ble_eq_true rfl), (Nat.le_of_ble_eq_true rfl)⟩ (Nat.le_of_ble_eq_true rfl) ⟨Nat.zero_le _, Nat.zero_le _⟩ dX12_master_26 ?_
        refine cb_f C 51 dX12_master_29 (by decide) (fun h24_ => ?_) (fun h24_ => ?_)
        · rw [if_pos h24_] at h23_
          refine z_aload_n C 0 dX12_master_32 rfl rfl ?_
          refine z_iload_n C 1 dX12_master_33 rfl rfl ?_
          obtain ⟨x25_, h26_, h23_⟩ := ob h23_
          refine cr12_298 (a_a := p11_) C hkd  h26_ ⟨(Nat.le_of_ble_eq_true rfl), (Nat.le_of_ble_eq_true rfl)⟩ (Nat.le_of_ble_eq_true rfl) ⟨Nat.zero_le _, Nat.zero_le _⟩ dX12_master_34 ?_
          refine z_aload_n C 0 dX12_master_37 rfl rfl ?_
          refine fg12_269 C hkd dX12_master_38 ?_
          obtain ⟨x27_, h28_, h23_⟩ := ob h23_
          refine cr12_286 (set_a := (x3_ 0 21)) C hkd  h28_ ⟨(Nat.le_of_ble_eq_true rfl), (Nat.le_of_ble_eq_true rfl)⟩ (Nat.le_of_ble_eq_true rfl) ⟨Nat.zero_le _, Nat.zero_le _⟩ dX12_master_41 ?_
          refine z_iconst (v := 1) C dX12_master_44 ic_1 ?_
          refine z_isub C dX12_master_45 ?_
          refine c_eq_f C 51 dX12_master_46 (by decide) (fun h29_ => ?_) (fun h29_ => ?_)
          · rw [if_pos h29_] at h23_
            cases h23_
            exact K20_ rfl
          · rw [if_neg h29_] at h23_
            cases h23_
            exact K21_ Bool.false_ne_true
        · rw [if_neg h24_] at h23_
          cases h23_
          exact K21_ Bool.false_ne_true
      intro h30_
      rw [if_neg h30_] at h10_
      obtain ⟨p31_, h32_, h10_⟩ := lt_ h10_
      refine z_inc C 1 dX12_master_51 rfl ic_1 h32_ (Nat.le_of_ble_eq_true rfl) rfl ?_
      refine z_goto C 11 dX12_master_54 (by decide) ?_
      refine Z.sub [1, 0] rfl ?_
      exact h9_ _ h10_
    have K15_ : ¬ (p11_ < x16_) → Z Θ 2 0 0 (zQ Θ ρ) x3_ 57 [(0, .ref (zA Θ 0)), (1, .int p11_)] [] := by
      intro h19_
      rw [if_neg h19_] at h10_
      exact K7_ _ (Option.some.inj h10_).symm
    refine c_lt_f C 57 dX12_master_18 (by decide) (fun h18_ => ?_) (fun h18_ => ?_)
    · exact K14_ h18_
    · exact K15_ h18_
  intro y5_r e9
  subst e9
  simp only [Sum.elim_inr] at hf
  refine z_iconst (v := (-1)) C dX12_master_57 ic_m1 ?_
  cases hf
  subst hρ
  exact z_iret C dX12_master_58
theorem c12_master {l : Launch} {kd : List KD} {w : Wp} {σ : St} (hkd : kd = kdM) (hi : zI kd w) {r : (Int32 × St)} (hf : q12_master σ = some r) : zM l kd w yX12_master cX12_master 2 (some .int) rm12_master [.ref (w.2.2.1 0)] σ (some (.int r.1), r.2) := zM_of rfl hi (Nat.le_of_ble_eq_true rfl) (fun Θ hl hw C => by
  obtain ⟨Θ1, Θ2, Θ3, Θ4, Θ5⟩ := Θ
  cases hw
  exact p12_master C hkd  hf rfl)
/-! LastLoafModel.hungryBy -/
theorem dX12_hungryBy_0 : decode cX12_hungryBy 0 = .ok (.aload_n 0, 1) := by decide +kernel
theorem dX12_hungryBy_1 : decode cX12_hungryBy 1 = .ok (.invokevirtual 186, 3) := by decide +kernel
theorem dX12_hungryBy_4 : decode cX12_hungryBy 4 = .ok (.aload_n 0, 1) := by decide +kernel
theorem dX12_hungryBy_5 : decode cX12_hungryBy 5 = .ok (.getfield 7, 3) := by decide +kernel
theorem dX12_hungryBy_8 : decode cX12_hungryBy 8 = .ok (.bipush 6, 2) := by decide +kernel
theorem dX12_hungryBy_10 : decode cX12_hungryBy 10 = .ok (.iload_n 1, 1) := by decide +kernel
theorem dX12_hungryBy_11 : decode cX12_hungryBy 11 = .ok (.iastore, 1) := by decide +kernel
theorem dX12_hungryBy_12 : decode cX12_hungryBy 12 = .ok (.aload_n 0, 1) := by decide +kernel
theorem dX12_hungryBy_13 : decode cX12_hungryBy 13 = .ok (.iload_n 2, 1) := by decide +kernel
theorem dX12_hungryBy_14 : decode cX12_hungryBy 14 = .ok (.iconst 0, 1) := by decide +kernel
theorem dX12_hungryBy_15 : decode cX12_hungryBy 15 = .ok (.invokevirtual 369, 3) := by decide +kernel
theorem dX12_hungryBy_18 : decode cX12_hungryBy 18 = .ok (.istore_n 3, 1) := by decide +kernel
theorem dX12_hungryBy_19 : decode cX12_hungryBy 19 = .ok (.aload_n 0, 1) := by decide +kernel
theorem dX12_hungryBy_20 : decode cX12_hungryBy 20 = .ok (.iconst 4, 1) := by decide +kernel
theorem dX12_hungryBy_21 : decode cX12_hungryBy 21 = .ok (.invokevirtual 266, 3) := by decide +kernel
theorem dX12_hungryBy_24 : decode cX12_hungryBy 24 = .ok (.invokestatic 286, 3) := by decide +kernel
theorem dX12_hungryBy_27 : decode cX12_hungryBy 27 = .ok (.istore 4, 2) := by decide +kernel
theorem dX12_hungryBy_29 : decode cX12_hungryBy 29 = .ok (.aload_n 0, 1) := by decide +kernel
theorem dX12_hungryBy_30 : decode cX12_hungryBy 30 = .ok (.invokevirtual 196, 3) := by decide +kernel
theorem dX12_hungryBy_33 : decode cX12_hungryBy 33 = .ok (.iload 4, 2) := by decide +kernel
theorem dX12_hungryBy_35 : decode cX12_hungryBy 35 = .ok (.ireturn, 1) := by decide +kernel
def q12_hungryBy (σ : St) (way_a : Int32) (n_a : Int32) : Option (Int32 × St) :=
  Option.bind (q12_putsAside σ) fun x1_ =>
  Option.bind (sa x1_ 1 752 6 way_a) fun σ3_ =>
  Option.bind (q12_goes σ3_ n_a false) fun x5_ =>
  Option.bind (q12_those x5_.2 4) fun x7_ =>
  Option.bind (q12_bits x7_) fun x9_ =>
  Option.bind (q12_comesBack x5_.2) fun x11_ =>
  some (x9_, x11_)
abbrev rm12_hungryBy : Room := { frames := 80, cells := 0, slots := 0, locals := 4263 }
set_option maxHeartbeats 4000000 in
set_option maxRecDepth 100000 in
theorem p12_hungryBy {Θ : Tz} {σ : St} {ρ : Option Value × St} (C : Zc Θ cX12_hungryBy 5 RX12 (some .int) rm12_hungryBy) (hkd : Θ.2.2.2.2.1 = kdM) {way_a : Int32} {n_a : Int32} {r : (Int32 × St)} (hf : q12_hungryBy σ way_a n_a = some r) (hρ : ρ = (some (.int r.1), r.2)) : Z Θ 5 0 0 (zQ Θ ρ) σ 0 [(0, .ref (zA Θ 0)), (1, .int way_a), (2, .int n_a)] [] := by
  unfold q12_hungryBy at hf
  refine z_aload_n C 0 dX12_hungryBy_0 rfl rfl ?_
  obtain ⟨x1_, h2_, hf⟩ := ob hf
  refine cr12_186 C hkd  h2_ ⟨(Nat.le_of_ble_eq_true rfl), (Nat.le_of_ble_eq_true rfl)⟩ (Nat.le_of_ble_eq_true rfl) ⟨Nat.zero_le _, Nat.zero_le _⟩ dX12_hungryBy_1 ?_
  refine z_aload_n C 0 dX12_hungryBy_4 rfl rfl ?_
  refine fg12_7 C hkd dX12_hungryBy_5 ?_
  refine z_bipush (v := 6) C dX12_hungryBy_8 bp_6 ?_
  refine z_iload_n C 1 dX12_hungryBy_10 rfl rfl ?_
  obtain ⟨σ3_, h4_, hf⟩ := ob hf
  refine z_sa C h4_ (kM_1 hkd) dX12_hungryBy_11 ?_
  refine z_aload_n C 0 dX12_hungryBy_12 rfl rfl ?_
  refine z_iload_n C 2 dX12_hungryBy_13 rfl rfl ?_
  refine z_iconst (v := 0) C dX12_hungryBy_14 ic_0 ?_
  obtain ⟨x5_, h6_, hf⟩ := ob hf
  refine cr12_369 (n_a := n_a) (draws_a := false) C hkd  h6_ ⟨(Nat.le_of_ble_eq_true rfl), (Nat.le_of_ble_eq_true rfl)⟩ (Nat.le_of_ble_eq_true rfl) ⟨Nat.zero_le _, Nat.zero_le _⟩ dX12_hungryBy_15 ?_
  refine z_istN C dX12_hungryBy_18 rfl rfl (Nat.le_of_ble_eq_true rfl) rfl ?_
  refine z_aload_n C 1 dX12_hungryBy_19 rfl rfl ?_
  refine z_iconst (v := 4) C dX12_hungryBy_20 ic_4 ?_
  obtain ⟨x7_, h8_, hf⟩ := ob hf
  refine cr12_266 (what_a := 4) C hkd  h8_ ⟨(Nat.le_of_ble_eq_true rfl), (Nat.le_of_ble_eq_true rfl)⟩ (Nat.le_of_ble_eq_true rfl) ⟨Nat.zero_le _, Nat.zero_le _⟩ dX12_hungryBy_21 ?_
  obtain ⟨x9_, h10_, hf⟩ := ob hf
  refine cr12_286 (set_a := x7_) C hkd  h10_ ⟨(Nat.le_of_ble_eq_true rfl), (Nat.le_of_ble_eq_true rfl)⟩ (Nat.le_of_ble_eq_true rfl) ⟨Nat.zero_le _, Nat.zero_le _⟩ dX12_hungryBy_24 ?_
  refine z_ist C dX12_hungryBy_27 rfl (Nat.le_of_ble_eq_true rfl) rfl ?_
  refine z_aload_n C 2 dX12_hungryBy_29 rfl rfl ?_
  obtain ⟨x11_, h12_, hf⟩ := ob hf
  refine cr12_196 C hkd  h12_ ⟨(Nat.le_of_ble_eq_true rfl), (Nat.le_of_ble_eq_true rfl)⟩ (Nat.le_of_ble_eq_true rfl) ⟨Nat.zero_le _, Nat.zero_le _⟩ dX12_hungryBy_30 ?_
  refine z_iload C 0 dX12_hungryBy_33 rfl ?_
  cases hf
  subst hρ
  exact z_iret C dX12_hungryBy_35
theorem c12_hungryBy {l : Launch} {kd : List KD} {w : Wp} {σ : St} {way_a : Int32} {n_a : Int32} (hkd : kd = kdM) (hi : zI kd w) {r : (Int32 × St)} (hf : q12_hungryBy σ way_a n_a = some r) : zM l kd w yX12_hungryBy cX12_hungryBy 5 (some .int) rm12_hungryBy [.ref (w.2.2.1 0), .int way_a, .int n_a] σ (some (.int r.1), r.2) := zM_of rfl hi (Nat.le_of_ble_eq_true rfl) (fun Θ hl hw C => by
  obtain ⟨Θ1, Θ2, Θ3, Θ4, Θ5⟩ := Θ
  cases hw
  exact p12_hungryBy C hkd  hf rfl)
/-! LastLoafModel.hungry -/
theorem w_10_22 : Cond.code ({ cls := "LastLoafModel", name := "hungryBy", desc := "(II)I" } : MethodName) prog_14_method_86_code (5 : Nat) (Option.some ClassFile.FieldType.int) ∈ TB := tb_in (lwt_10 (List.mem_of_getElem? (i := 22) (by decide +kernel))) rfl
theorem w_10_19 : Cond.methodLink "LastLoafModel" (376 : Nat) ({ cls := "LastLoafModel", name := "hungryBy", desc := "(II)I" } : MethodName) ∈ TB := tb_in (lwt_10 (List.mem_of_getElem? (i := 19) (by decide +kernel))) rfl
theorem w_10_21 : Cond.instanceMethod ({ cls := "LastLoafModel", name := "hungryBy", desc := "(II)I" } : MethodName) ∈ TB := tb_in (lwt_10 (List.mem_of_getElem? (i := 21) (by decide +kernel))) rfl
theorem ws_LastLoafModel_hungryBy_II_I : Cond.selects "LastLoafModel" (⟨"LastLoafModel", "hungryBy", "(II)I"⟩ : MethodName) (⟨"LastLoafModel", "hungryBy", "(II)I"⟩ : MethodName) ∈ TB := tb_in (List.mem_append_left _ (List.mem_of_getElem? (i := 75) (by decide +kernel))) rfl
theorem cr12_376 {Θ : Tz} {cc : ByteArray} {nL kc ks : Nat} {ret : Option FieldType} {rm : Room} {Q : State → Prop} {σ : St} {pc : Nat} {lv : List (Nat × Value)} {st : List Value} (C : Zc Θ cc nL RX12 ret rm) (hkd : Θ.2.2.2.2.1 = kdM) {way_a : Int32} {n_a : Int32} {r : Int32 × St} (hx : q12_hungryBy σ way_a n_a = some r) (hrm : rm12_hungryBy.frames + 1 ≤ rm.frames ∧ 8 + (5 + 11) + rm12_hungryBy.locals ≤ rm.locals) (hcat : (st.map fun v => v.category).sum ≤ 8) (hk : kc ≤ rm.cells ∧ ks ≤ rm.slots) (hd : decode cc pc = .ok (.invokevirtual 376, 3)) (kk : Z Θ nL kc ks Q r.2 (pc + 3) lv (.int r.1 :: st)) : Z Θ nL kc ks Q σ pc lv (.int n_a :: .int way_a :: .ref (zA Θ 0) :: st) := z_callV C 0 [.int way_a, .int n_a] (some (.int r.1), r.2) 2 (kM_0 hkd) rfl (c12_hungryBy (way_a := way_a) (n_a := n_a) hkd (zc_inj C) hx) w_10_22 w_10_19 w_10_21 ws_LastLoafModel_hungryBy_II_I w_1_14 ⟨rfl, rfl, hrm.1, hrm.2⟩ (by decide +kernel) rfl rfl hcat hk hd kk
theorem dX12_hungry_0 : decode cX12_hungry 0 = .ok (.aload_n 0, 1) := by decide +kernel
theorem dX12_hungry_1 : decode cX12_hungry 1 = .ok (.iload_n 1, 1) := by decide +kernel
theorem dX12_hungry_2 : decode cX12_hungry 2 = .ok (.iconst 0, 1) := by decide +kernel
theorem dX12_hungry_3 : decode cX12_hungry 3 = .ok (.iconst 5, 1) := by decide +kernel
theorem dX12_hungry_4 : decode cX12_hungry 4 = .ok (.invokestatic 68, 3) := by decide +kernel
theorem dX12_hungry_7 : decode cX12_hungry 7 = .ok (.ifCond .eq 13, 3) := by decide +kernel
theorem dX12_hungry_10 : decode cX12_hungry 10 = .ok (.iload_n 2, 1) := by decide +kernel
theorem dX12_hungry_11 : decode cX12_hungry 11 = .ok (.iconst 0, 1) := by decide +kernel
theorem dX12_hungry_12 : decode cX12_hungry 12 = .ok (.bipush 60, 2) := by decide +kernel
theorem dX12_hungry_14 : decode cX12_hungry 14 = .ok (.invokestatic 68, 3) := by decide +kernel
theorem dX12_hungry_17 : decode cX12_hungry 17 = .ok (.ifCond .ne 7, 3) := by decide +kernel
theorem dX12_hungry_20 : decode cX12_hungry 20 = .ok (.iconst 1, 1) := by decide +kernel
theorem dX12_hungry_21 : decode cX12_hungry 21 = .ok (.goto 4, 3) := by decide +kernel
theorem dX12_hungry_24 : decode cX12_hungry 24 = .ok (.iconst 0, 1) := by decide +kernel
theorem dX12_hungry_25 : decode cX12_hungry 25 = .ok (.putfield 65, 3) := by decide +kernel
theorem dX12_hungry_28 : decode cX12_hungry 28 = .ok (.aload_n 0, 1) := by decide +kernel
theorem dX12_hungry_29 : decode cX12_hungry 29 = .ok (.getfield 65, 3) := by decide +kernel
theorem dX12_hungry_32 : decode cX12_hungry 32 = .ok (.ifCond .le 7, 3) := by decide +kernel
theorem dX12_hungry_35 : decode cX12_hungry 35 = .ok (.iconst 0, 1) := by decide +kernel
theorem dX12_hungry_36 : decode cX12_hungry 36 = .ok (.goto 9, 3) := by decide +kernel
theorem dX12_hungry_39 : decode cX12_hungry 39 = .ok (.aload_n 0, 1) := by decide +kernel
theorem dX12_hungry_40 : decode cX12_hungry 40 = .ok (.iload_n 1, 1) := by decide +kernel
theorem dX12_hungry_41 : decode cX12_hungry 41 = .ok (.iload_n 2, 1) := by decide +kernel
theorem dX12_hungry_42 : decode cX12_hungry 42 = .ok (.invokevirtual 376, 3) := by decide +kernel
theorem dX12_hungry_45 : decode cX12_hungry 45 = .ok (.ireturn, 1) := by decide +kernel
def q12_hungry (σ : St) (way_a : Int32) (n_a : Int32) : Option (Int32 × St) :=
  lt (up σ 0 0 (if (¬ (q12_isIn way_a 0 5 = true)) ∨ (¬ (q12_isIn n_a 0 60 = true)) then 1 else 0)) fun σ7_ =>
  Option.bind (if 0 < (σ7_ 0 0) then (some ((0 : Int32), σ7_)) else (Option.bind (q12_hungryBy σ7_ way_a n_a) fun x15_ =>
  some (x15_.1, x15_.2))) fun x9_ =>
  some (x9_.1, x9_.2)
abbrev rm12_hungry : Room := { frames := 81, cells := 0, slots := 0, locals := 4287 }
set_option maxHeartbeats 4000000 in
set_option maxRecDepth 100000 in
theorem p12_hungry {Θ : Tz} {σ : St} {ρ : Option Value × St} (C : Zc Θ cX12_hungry 3 RX12 (some .int) rm12_hungry) (hkd : Θ.2.2.2.2.1 = kdM) {way_a : Int32} {n_a : Int32} {r : (Int32 × St)} (hf : q12_hungry σ way_a n_a = some r) (hρ : ρ = (some (.int r.1), r.2)) : Z Θ 3 0 0 (zQ Θ ρ) σ 0 [(0, .ref (zA Θ 0)), (1, .int way_a), (2, .int n_a)] [] := by
  unfold q12_hungry at hf
  refine z_aload_n C 0 dX12_hungry_0 rfl rfl ?_
  suffices K1_ : Z Θ 3 0 0 (zQ Θ ρ) σ 25 [(0, .ref (zA Θ 0)), (1, .int way_a), (2, .int n_a)] [.int (if (¬ (q12_isIn way_a 0 5 = true)) ∨ (¬ (q12_isIn n_a 0 60 = true)) then 1 else 0), .ref (zA Θ 0)] by
    have K2_ : (¬ (q12_isIn way_a 0 5 = true)) ∨ (¬ (q12_isIn n_a 0 60 = true)) → Z Θ 3 0 0 (zQ Θ ρ) σ 20 [(0, .ref (zA Θ 0)), (1, .int way_a), (2, .int n_a)] [.ref (zA Θ 0)] := by
      intro h6_
      rw [if_pos h6_] at K1_
      refine z_iconst (v := 1) C dX12_hungry_20 ic_1 ?_
      refine z_goto C 25 dX12_hungry_21 (by decide) ?_
      exact K1_
    have K3_ : ¬ ((¬ (q12_isIn way_a 0 5 = true)) ∨ (¬ (q12_isIn n_a 0 60 = true))) → Z Θ 3 0 0 (zQ Θ ρ) σ 24 [(0, .ref (zA Θ 0)), (1, .int way_a), (2, .int n_a)] [.ref (zA Θ 0)] := by
      intro h6_
      rw [if_neg h6_] at K1_
      refine z_iconst (v := 0) C dX12_hungry_24 ic_0 ?_
      exact K1_
    refine z_iload_n C 1 dX12_hungry_1 rfl rfl ?_
    refine z_iconst (v := 0) C dX12_hungry_2 ic_0 ?_
    refine z_iconst (v := 5) C dX12_hungry_3 ic_5 ?_
    refine cr12_68 (v_a := way_a) (low_a := 0) (high_a := 5) C hkd  ⟨(Nat.le_of_ble_eq_true rfl), (Nat.le_of_ble_eq_true rfl)⟩ (Nat.le_of_ble_eq_true rfl) ⟨Nat.zero_le _, Nat.zero_le _⟩ dX12_hungry_4 ?_
    refine cb_f C 20 dX12_hungry_7 (by decide) (fun h4_ => ?_) (fun h4_ => ?_)
    · refine z_iload_n C 2 dX12_hungry_10 rfl rfl ?_
      refine z_iconst (v := 0) C dX12_hungry_11 ic_0 ?_
      refine z_bipush (v := 60) C dX12_hungry_12 bp_60 ?_
      refine cr12_68 (v_a := n_a) (low_a := 0) (high_a := 60) C hkd  ⟨(Nat.le_of_ble_eq_true rfl), (Nat.le_of_ble_eq_true rfl)⟩ (Nat.le_of_ble_eq_true rfl) ⟨Nat.zero_le _, Nat.zero_le _⟩ dX12_hungry_14 ?_
      refine cb_t C 24 dX12_hungry_17 (by decide) (fun h5_ => ?_) (fun h5_ => ?_)
      · exact K3_ (fun n => n.elim (fun n => n h4_) (fun n => n h5_))
      · exact K2_ (Or.inr h5_)
    · exact K2_ (Or.inl h4_)
  obtain ⟨σ7_, h8_, hf⟩ := lt_ hf
  refine fp12_65 C hkd h8_ dX12_hungry_25 ?_
  obtain ⟨x9_, h10_, hf⟩ := ob hf
  suffices K11_ : Z Θ 3 0 0 (zQ Θ ρ) x9_.2 45 [(0, .ref (zA Θ 0)), (1, .int way_a), (2, .int n_a)] [.int x9_.1] by
    have K12_ : 0 < (σ7_ 0 0) → Z Θ 3 0 0 (zQ Θ ρ) σ7_ 35 [(0, .ref (zA Θ 0)), (1, .int way_a), (2, .int n_a)] [] := by
      intro h17_
      rw [if_pos h17_] at h10_
      refine z_iconst (v := 0) C dX12_hungry_35 ic_0 ?_
      refine z_goto C 45 dX12_hungry_36 (by decide) ?_
      cases h10_
      exact K11_
    have K13_ : ¬ (0 < (σ7_ 0 0)) → Z Θ 3 0 0 (zQ Θ ρ) σ7_ 39 [(0, .ref (zA Θ 0)), (1, .int way_a), (2, .int n_a)] [] := by
      intro h17_
      rw [if_neg h17_] at h10_
      refine z_aload_n C 0 dX12_hungry_39 rfl rfl ?_
      refine z_iload_n C 1 dX12_hungry_40 rfl rfl ?_
      refine z_iload_n C 2 dX12_hungry_41 rfl rfl ?_
      obtain ⟨x15_, h16_, h10_⟩ := ob h10_
      refine cr12_376 (way_a := way_a) (n_a := n_a) C hkd  h16_ ⟨(Nat.le_of_ble_eq_true rfl), (Nat.le_of_ble_eq_true rfl)⟩ (Nat.le_of_ble_eq_true rfl) ⟨Nat.zero_le _, Nat.zero_le _⟩ dX12_hungry_42 ?_
      cases h10_
      exact K11_
    refine z_aload_n C 0 dX12_hungry_28 rfl rfl ?_
    refine fg12_65 C hkd dX12_hungry_29 ?_
    refine c0_gt_f C 39 dX12_hungry_32 (by decide) (fun h14_ => ?_) (fun h14_ => ?_)
    · exact K12_ h14_
    · exact K13_ h14_
  cases hf
  subst hρ
  exact z_iret C dX12_hungry_45
theorem c12_hungry {l : Launch} {kd : List KD} {w : Wp} {σ : St} {way_a : Int32} {n_a : Int32} (hkd : kd = kdM) (hi : zI kd w) {r : (Int32 × St)} (hf : q12_hungry σ way_a n_a = some r) : zM l kd w yX12_hungry cX12_hungry 3 (some .int) rm12_hungry [.ref (w.2.2.1 0), .int way_a, .int n_a] σ (some (.int r.1), r.2) := zM_of rfl hi (Nat.le_of_ble_eq_true rfl) (fun Θ hl hw C => by
  obtain ⟨Θ1, Θ2, Θ3, Θ4, Θ5⟩ := Θ
  cases hw
  exact p12_hungry C hkd  hf rfl)
/-! LastLoafModel.kindest -/
theorem w_10_27 : Cond.constant "LastLoafModel" (379 : Nat) (2000000000 : Int32) ∈ TB := tb_in (lwt_10 (List.mem_of_getElem? (i := 27) (by decide +kernel))) rfl
theorem dX12_kindest_0 : decode cX12_kindest 0 = .ok (.aload_n 0, 1) := by decide +kernel
theorem dX12_kindest_1 : decode cX12_kindest 1 = .ok (.iload_n 1, 1) := by decide +kernel
theorem dX12_kindest_2 : decode cX12_kindest 2 = .ok (.iconst 0, 1) := by decide +kernel
theorem dX12_kindest_3 : decode cX12_kindest 3 = .ok (.bipush 60, 2) := by decide +kernel
theorem dX12_kindest_5 : decode cX12_kindest 5 = .ok (.invokestatic 68, 3) := by decide +kernel
theorem dX12_kindest_8 : decode cX12_kindest 8 = .ok (.ifCond .ne 7, 3) := by decide +kernel
theorem dX12_kindest_11 : decode cX12_kindest 11 = .ok (.iconst 1, 1) := by decide +kernel
theorem dX12_kindest_12 : decode cX12_kindest 12 = .ok (.goto 4, 3) := by decide +kernel
theorem dX12_kindest_15 : decode cX12_kindest 15 = .ok (.iconst 0, 1) := by decide +kernel
theorem dX12_kindest_16 : decode cX12_kindest 16 = .ok (.putfield 65, 3) := by decide +kernel
theorem dX12_kindest_19 : decode cX12_kindest 19 = .ok (.aload_n 0, 1) := by decide +kernel
theorem dX12_kindest_20 : decode cX12_kindest 20 = .ok (.getfield 65, 3) := by decide +kernel
theorem dX12_kindest_23 : decode cX12_kindest 23 = .ok (.ifCond .le 5, 3) := by decide +kernel
theorem dX12_kindest_26 : decode cX12_kindest 26 = .ok (.iconst 0, 1) := by decide +kernel
theorem dX12_kindest_27 : decode cX12_kindest 27 = .ok (.ireturn, 1) := by decide +kernel
theorem dX12_kindest_28 : decode cX12_kindest 28 = .ok (.iconst 0, 1) := by decide +kernel
theorem dX12_kindest_29 : decode cX12_kindest 29 = .ok (.istore_n 2, 1) := by decide +kernel
theorem dX12_kindest_30 : decode cX12_kindest 30 = .ok (.ldc_w 379, 3) := by decide +kernel
theorem dX12_kindest_33 : decode cX12_kindest 33 = .ok (.istore_n 3, 1) := by decide +kernel
theorem dX12_kindest_34 : decode cX12_kindest 34 = .ok (.iconst 0, 1) := by decide +kernel
theorem dX12_kindest_35 : decode cX12_kindest 35 = .ok (.istore 4, 2) := by decide +kernel
theorem dX12_kindest_37 : decode cX12_kindest 37 = .ok (.iload 4, 2) := by decide +kernel
theorem dX12_kindest_39 : decode cX12_kindest 39 = .ok (.bipush 6, 2) := by decide +kernel
theorem dX12_kindest_41 : decode cX12_kindest 41 = .ok (.if_icmp .ge 33, 3) := by decide +kernel
theorem dX12_kindest_44 : decode cX12_kindest 44 = .ok (.aload_n 0, 1) := by decide +kernel
theorem dX12_kindest_45 : decode cX12_kindest 45 = .ok (.iload 4, 2) := by decide +kernel
theorem dX12_kindest_47 : decode cX12_kindest 47 = .ok (.iload_n 1, 1) := by decide +kernel
theorem dX12_kindest_48 : decode cX12_kindest 48 = .ok (.invokevirtual 376, 3) := by decide +kernel
theorem dX12_kindest_51 : decode cX12_kindest 51 = .ok (.istore 5, 2) := by decide +kernel
theorem dX12_kindest_53 : decode cX12_kindest 53 = .ok (.iload 5, 2) := by decide +kernel
theorem dX12_kindest_55 : decode cX12_kindest 55 = .ok (.iload_n 3, 1) := by decide +kernel
theorem dX12_kindest_56 : decode cX12_kindest 56 = .ok (.if_icmp .lt 6, 3) := by decide +kernel
theorem dX12_kindest_59 : decode cX12_kindest 59 = .ok (.goto 9, 3) := by decide +kernel
theorem dX12_kindest_62 : decode cX12_kindest 62 = .ok (.iload 5, 2) := by decide +kernel
theorem dX12_kindest_64 : decode cX12_kindest 64 = .ok (.istore_n 3, 1) := by decide +kernel
theorem dX12_kindest_65 : decode cX12_kindest 65 = .ok (.iload 4, 2) := by decide +kernel
theorem dX12_kindest_67 : decode cX12_kindest 67 = .ok (.istore_n 2, 1) := by decide +kernel
theorem dX12_kindest_68 : decode cX12_kindest 68 = .ok (.iinc 4 1, 3) := by decide +kernel
theorem dX12_kindest_71 : decode cX12_kindest 71 = .ok (.goto (-34), 3) := by decide +kernel
theorem dX12_kindest_74 : decode cX12_kindest 74 = .ok (.iload_n 2, 1) := by decide +kernel
theorem dX12_kindest_75 : decode cX12_kindest 75 = .ok (.ireturn, 1) := by decide +kernel
def q12_kindest (σ : St) (n_a : Int32) : Option (Int32 × St) :=
  lt (up σ 0 0 (if ¬ (q12_isIn n_a 0 60 = true) then 1 else 0)) fun σ6_ =>
  if 0 < (σ6_ 0 0) then (some (0, σ6_)) else
  Option.bind (loop4 (fun rec15_ (found18_ : Int32) (least19_ : Int32) (way20_ : Int32) (σ21_ : St) =>
  if way20_ < 6 then
  lt (fun (found34_ : Int32) (least35_ : Int32) (way36_ : Int32) (σ37_ : St) =>
  lt (way36_ + 1) fun way39_ =>
  rec15_ found34_ least35_ way39_ σ37_) fun k23_ =>
  Option.bind (q12_hungryBy σ21_ way20_ n_a) fun x28_ =>
  if least19_ ≤ x28_.1 then (k23_ found18_ least19_ way20_ x28_.2) else
  k23_ way20_ x28_.1 way20_ x28_.2
  else (some (found18_, least19_, way20_, σ21_))) fuelN (0 : Int32) (2000000000 : Int32) (0 : Int32) σ6_) fun y12_ =>
  some (y12_.1, y12_.2.2.2)
abbrev rm12_kindest : Room := { frames := 81, cells := 0, slots := 0, locals := 4287 }
set_option maxHeartbeats 4000000 in
set_option maxRecDepth 100000 in
theorem p12_kindest {Θ : Tz} {σ : St} {ρ : Option Value × St} (C : Zc Θ cX12_kindest 6 RX12 (some .int) rm12_kindest) (hkd : Θ.2.2.2.2.1 = kdM) {n_a : Int32} {r : (Int32 × St)} (hf : q12_kindest σ n_a = some r) (hρ : ρ = (some (.int r.1), r.2)) : Z Θ 6 0 0 (zQ Θ ρ) σ 0 [(0, .ref (zA Θ 0)), (1, .int n_a)] [] := by
  unfold q12_kindest at hf
  refine z_aload_n C 0 dX12_kindest_0 rfl rfl ?_
  suffices K1_ : Z Θ 6 0 0 (zQ Θ ρ) σ 16 [(0, .ref (zA Θ 0)), (1, .int n_a)] [.int (if ¬ (q12_isIn n_a 0 60 = true) then 1 else 0), .ref (zA Θ 0)] by
    have K2_ : ¬ (q12_isIn n_a 0 60 = true) → Z Θ 6 0 0 (zQ Θ ρ) σ 11 [(0, .ref (zA Θ 0)), (1, .int n_a)] [.ref (zA Θ 0)] := by
      intro h5_
      rw [if_pos h5_] at K1_
      refine z_iconst (v := 1) C dX12_kindest_11 ic_1 ?_
      refine z_goto C 16 dX12_kindest_12 (by decide) ?_
      exact K1_
    have K3_ : ¬ (¬ (q12_isIn n_a 0 60 = true)) → Z Θ 6 0 0 (zQ Θ ρ) σ 15 [(0, .ref (zA Θ 0)), (1, .int n_a)] [.ref (zA Θ 0)] := by
      intro h5_
      rw [if_neg h5_] at K1_
      refine z_iconst (v := 0) C dX12_kindest_15 ic_0 ?_
      exact K1_
    refine z_iload_n C 1 dX12_kindest_1 rfl rfl ?_
    refine z_iconst (v := 0) C dX12_kindest_2 ic_0 ?_
    refine z_bipush (v := 60) C dX12_kindest_3 bp_60 ?_
    refine cr12_68 (v_a := n_a) (low_a := 0) (high_a := 60) C hkd  ⟨(Nat.le_of_ble_eq_true rfl), (Nat.le_of_ble_eq_true rfl)⟩ (Nat.le_of_ble_eq_true rfl) ⟨Nat.zero_le _, Nat.zero_le _⟩ dX12_kindest_5 ?_
    refine cb_t C 15 dX12_kindest_8 (by decide) (fun h4_ => ?_) (fun h4_ => ?_)
    · exact K3_ (fun n => n h4_)
    · exact K2_ h4_
  obtain ⟨σ6_, h7_, hf⟩ := lt_ hf
  refine fp12_65 C hkd h7_ dX12_kindest_16 ?_
  have K8_ : 0 < (σ6_ 0 0) → Z Θ 6 0 0 (zQ Θ ρ) σ6_ 26 [(0, .ref (zA Θ 0)), (1, .int n_a)] [] := by
    intro h11_
    rw [if_pos h11_] at hf
    refine z_iconst (v := 0) C dX12_kindest_26 ic_0 ?_
    cases hf
    subst hρ
    exact z_iret C dX12_kindest_27
  suffices K9_ : ¬ (0 < (σ6_ 0 0)) → Z Θ 6 0 0 (zQ Θ ρ) σ6_ 28 [(0, .ref (zA Θ 0)), (1, .int n_a)] [] by
    refine z_aload_n C 0 dX12_kindest_19 rfl rfl ?_
    refine fg12_65 C hkd dX12_kindest_20 ?_
    refine c0_gt_f C 28 dX12_kindest_23 (by decide) (fun h10_ => ?_) (fun h10_ => ?_)
    · exact K8_ h10_
    · exact K9_ h10_
  intro h11_
  rw [if_neg h11_] at hf
  refine z_iconst (v := 0) C dX12_kindest_28 ic_0 ?_
  refine z_istN C dX12_kindest_29 rfl rfl (Nat.le_of_ble_eq_true rfl) rfl ?_
  refine z_ldcw (v := 2000000000) C w_10_27 dX12_kindest_30 ?_
  refine z_istN C dX12_kindest_33 rfl rfl (Nat.le_of_ble_eq_true rfl) rfl ?_
  refine z_iconst (v := 0) C dX12_kindest_34 ic_0 ?_
  refine z_ist C dX12_kindest_35 rfl (Nat.le_of_ble_eq_true rfl) rfl ?_
  refine Z.sub [3, 4, 2, 1, 0] rfl ?_
  obtain ⟨y12_, h13_, hf⟩ := ob hf
  suffices K14_ : Z Θ 6 0 0 (zQ Θ ρ) y12_.2.2.2 74 [(0, .ref (zA Θ 0)), (1, .int n_a), (2, .int y12_.1), (3, .int y12_.2.1), (4, .int y12_.2.2.1)] [] by
    refine loop4_Z (P := fun (found18_ : Int32) (least19_ : Int32) (way20_ : Int32) (σ21_ : St) => Z Θ 6 0 0 (zQ Θ ρ) σ21_ 37 [(0, .ref (zA Θ 0)), (1, .int n_a), (2, .int found18_), (3, .int least19_), (4, .int way20_)] []) ?_ fuelN (0 : Int32) (2000000000 : Int32) (0 : Int32) σ6_ h13_
    clear h13_
    intro rec15_ found18_ least19_ way20_ σ21_ h16_ h17_
    have K24_ : way20_ < 6 → Z Θ 6 0 0 (zQ Θ ρ) σ21_ 44 [(0, .ref (zA Θ 0)), (1, .int n_a), (2, .int found18_), (3, .int least19_), (4, .int way20_)] [] := by
      intro h27_
      rw [if_pos h27_] at h17_
      obtain ⟨k23_, h38_, h17_⟩ := lt_ h17_
      have K22_ : ∀ (found34_ : Int32) (least35_ : Int32) (way36_ : Int32) (σ37_ : St), k23_ found34_ least35_ way36_ σ37_ = some y12_ → Z Θ 6 0 0 (zQ Θ ρ) σ37_ 68 [(0, .ref (zA Θ 0)), (1, .int n_a), (2, .int found34_), (3, .int least35_), (4, .int way36_)] [] := by
        intro found34_ least35_ way36_ σ37_ h17_
        subst h38_
        dsimp only at h17_
        obtain ⟨way39_, h40_, h17_⟩ := lt_ h17_
        refine z_inc C 4 dX12_kindest_68 rfl ic_1 h40_ (Nat.le_of_ble_eq_true rfl) rfl ?_
        refine z_goto C 37 dX12_kindest_71 (by decide) ?_
        refine Z.sub [1, 2, 3, 4, 0] rfl ?_
        exact h16_ _ _ _ _ h17_
      refine z_aload_n C 0 dX12_kindest_44 rfl rfl ?_
      refine z_iload C 4 dX12_kindest_45 rfl ?_
      refine z_iload_n C 1 dX12_kindest_47 rfl rfl ?_
      obtain ⟨x28_, h29_, h17_⟩ := ob h17_
      refine cr12_376 (way_a := way20_) (n_a := n_a) C hkd  h29_ ⟨(Nat.le_of_ble_eq_true rfl), (Nat.le_of_ble_eq_true rfl)⟩ (Nat.le_of_ble_eq_true rfl) ⟨Nat.zero_le _, Nat.zero_le _⟩ dX12_kindest_48 ?_
      refine z_ist C dX12_kindest_51 rfl (Nat.le_of_ble_eq_true rfl) rfl ?_
      have K30_ : least19_ ≤ x28_.1 → Z Θ 6 0 0 (zQ Θ ρ) x28_.2 59 [(5, .int x28_.1), (0, .ref (zA Θ 0)), (1, .int n_a), (2, .int found18_), (3, .int least19_), (4, .int way20_)] [] := by
        intro h33_
        rw [if_pos h33_] at h17_
        refine z_goto C 68 dX12_kindest_59 (by decide) ?_
        refine Z.sub [1, 2, 3, 4, 5] rfl ?_
        exact K22_ _ _ _ _ h17_
      suffices K31_ : ¬ (least19_ ≤ x28_.1) → Z Θ 6 0 0 (zQ Θ ρ) x28_.2 62 [(5, .int x28_.1), (0, .ref (zA Θ 0)), (1, .int n_a), (2, .int found18_), (3, .int least19_), (4, .int way20_)] [] by
        refine z_iload C 0 dX12_kindest_53 rfl ?_
        refine z_iload_n C 4 dX12_kindest_55 rfl rfl ?_
        refine c_ge_f C 62 dX12_kindest_56 (by decide) (fun h32_ => ?_) (fun h32_ => ?_)
        · exact K30_ h32_
        · exact K31_ h32_
      intro h33_
      rw [if_neg h33_] at h17_
      refine z_iload C 0 dX12_kindest_62 rfl ?_
      refine z_istN C dX12_kindest_64 rfl rfl (Nat.le_of_ble_eq_true rfl) rfl ?_
      refine z_iload C 5 dX12_kindest_65 rfl ?_
      refine z_istN C dX12_kindest_67 rfl rfl (Nat.le_of_ble_eq_true rfl) rfl ?_
      refine Z.sub [3, 4, 0, 1, 5] rfl ?_
      exact K22_ _ _ _ _ h17_
    have K25_ : ¬ (way20_ < 6) → Z Θ 6 0 0 (zQ Θ ρ) σ21_ 74 [(0, .ref (zA Θ 0)), (1, .int n_a), (2, .int found18_), (3, .int least19_), (4, .int way20_)] [] := by
      intro h27_
      rw [if_neg h27_] at h17_
      cases h17_
      exact K14_
    refine z_iload C 4 dX12_kindest_37 rfl ?_
    refine z_bipush (v := 6) C dX12_kindest_39 bp_6 ?_
    refine c_lt_f C 74 dX12_kindest_41 (by decide) (fun h26_ => ?_) (fun h26_ => ?_)
    · exact K24_ h26_
    · exact K25_ h26_
  refine z_iload_n C 2 dX12_kindest_74 rfl rfl ?_
  cases hf
  subst hρ
  exact z_iret C dX12_kindest_75
theorem c12_kindest {l : Launch} {kd : List KD} {w : Wp} {σ : St} {n_a : Int32} (hkd : kd = kdM) (hi : zI kd w) {r : (Int32 × St)} (hf : q12_kindest σ n_a = some r) : zM l kd w yX12_kindest cX12_kindest 6 (some .int) rm12_kindest [.ref (w.2.2.1 0), .int n_a] σ (some (.int r.1), r.2) := zM_of rfl hi (Nat.le_of_ble_eq_true rfl) (fun Θ hl hw C => by
  obtain ⟨Θ1, Θ2, Θ3, Θ4, Θ5⟩ := Θ
  cases hw
  exact p12_kindest C hkd  hf rfl)
/-! LastLoafModel.next -/
theorem dX12_next_0 : decode cX12_next 0 = .ok (.aload_n 0, 1) := by decide +kernel
theorem dX12_next_1 : decode cX12_next 1 = .ok (.iload_n 1, 1) := by decide +kernel
theorem dX12_next_2 : decode cX12_next 2 = .ok (.iconst 0, 1) := by decide +kernel
theorem dX12_next_3 : decode cX12_next 3 = .ok (.bipush 60, 2) := by decide +kernel
theorem dX12_next_5 : decode cX12_next 5 = .ok (.invokestatic 68, 3) := by decide +kernel
theorem dX12_next_8 : decode cX12_next 8 = .ok (.ifCond .ne 7, 3) := by decide +kernel
theorem dX12_next_11 : decode cX12_next 11 = .ok (.iconst 1, 1) := by decide +kernel
theorem dX12_next_12 : decode cX12_next 12 = .ok (.goto 4, 3) := by decide +kernel
theorem dX12_next_15 : decode cX12_next 15 = .ok (.iconst 0, 1) := by decide +kernel
theorem dX12_next_16 : decode cX12_next 16 = .ok (.putfield 65, 3) := by decide +kernel
theorem dX12_next_19 : decode cX12_next 19 = .ok (.aload_n 0, 1) := by decide +kernel
theorem dX12_next_20 : decode cX12_next 20 = .ok (.getfield 65, 3) := by decide +kernel
theorem dX12_next_23 : decode cX12_next 23 = .ok (.ifCond .le 5, 3) := by decide +kernel
theorem dX12_next_26 : decode cX12_next 26 = .ok (.iconst 0, 1) := by decide +kernel
theorem dX12_next_27 : decode cX12_next 27 = .ok (.ireturn, 1) := by decide +kernel
theorem dX12_next_28 : decode cX12_next 28 = .ok (.aload_n 0, 1) := by decide +kernel
theorem dX12_next_29 : decode cX12_next 29 = .ok (.invokevirtual 186, 3) := by decide +kernel
theorem dX12_next_32 : decode cX12_next 32 = .ok (.aload_n 0, 1) := by decide +kernel
theorem dX12_next_33 : decode cX12_next 33 = .ok (.iload_n 1, 1) := by decide +kernel
theorem dX12_next_34 : decode cX12_next 34 = .ok (.iconst 0, 1) := by decide +kernel
theorem dX12_next_35 : decode cX12_next 35 = .ok (.invokevirtual 369, 3) := by decide +kernel
theorem dX12_next_38 : decode cX12_next 38 = .ok (.istore_n 2, 1) := by decide +kernel
theorem dX12_next_39 : decode cX12_next 39 = .ok (.aload_n 0, 1) := by decide +kernel
theorem dX12_next_40 : decode cX12_next 40 = .ok (.invokevirtual 320, 3) := by decide +kernel
theorem dX12_next_43 : decode cX12_next 43 = .ok (.aload_n 0, 1) := by decide +kernel
theorem dX12_next_44 : decode cX12_next 44 = .ok (.aload_n 0, 1) := by decide +kernel
theorem dX12_next_45 : decode cX12_next 45 = .ok (.getfield 7, 3) := by decide +kernel
theorem dX12_next_48 : decode cX12_next 48 = .ok (.bipush 6, 2) := by decide +kernel
theorem dX12_next_50 : decode cX12_next 50 = .ok (.iaload, 1) := by decide +kernel
theorem dX12_next_51 : decode cX12_next 51 = .ok (.invokevirtual 323, 3) := by decide +kernel
theorem dX12_next_54 : decode cX12_next 54 = .ok (.istore_n 3, 1) := by decide +kernel
theorem dX12_next_55 : decode cX12_next 55 = .ok (.aload_n 0, 1) := by decide +kernel
theorem dX12_next_56 : decode cX12_next 56 = .ok (.invokevirtual 196, 3) := by decide +kernel
theorem dX12_next_59 : decode cX12_next 59 = .ok (.iload_n 3, 1) := by decide +kernel
theorem dX12_next_60 : decode cX12_next 60 = .ok (.ireturn, 1) := by decide +kernel
def q12_next (σ : St) (n_a : Int32) : Option (Int32 × St) :=
  lt (up σ 0 0 (if ¬ (q12_isIn n_a 0 60 = true) then 1 else 0)) fun σ6_ =>
  if 0 < (σ6_ 0 0) then (some (0, σ6_)) else
  Option.bind (q12_putsAside σ6_) fun x12_ =>
  Option.bind (q12_goes x12_ n_a false) fun x14_ =>
  Option.bind (q12_looks x14_.2) fun x16_ =>
  Option.bind (ag x16_ 1 752 6) fun x18_ =>
  Option.bind (q12_winnerBy x16_ x18_) fun x20_ =>
  Option.bind (q12_comesBack x16_) fun x22_ =>
  some (x20_, x22_)
abbrev rm12_next : Room := { frames := 80, cells := 0, slots := 0, locals := 4263 }
set_option maxHeartbeats 4000000 in
set_option maxRecDepth 100000 in
theorem p12_next {Θ : Tz} {σ : St} {ρ : Option Value × St} (C : Zc Θ cX12_next 4 RX12 (some .int) rm12_next) (hkd : Θ.2.2.2.2.1 = kdM) {n_a : Int32} {r : (Int32 × St)} (hf : q12_next σ n_a = some r) (hρ : ρ = (some (.int r.1), r.2)) : Z Θ 4 0 0 (zQ Θ ρ) σ 0 [(0, .ref (zA Θ 0)), (1, .int n_a)] [] := by
  unfold q12_next at hf
  refine z_aload_n C 0 dX12_next_0 rfl rfl ?_
  suffices K1_ : Z Θ 4 0 0 (zQ Θ ρ) σ 16 [(0, .ref (zA Θ 0)), (1, .int n_a)] [.int (if ¬ (q12_isIn n_a 0 60 = true) then 1 else 0), .ref (zA Θ 0)] by
    have K2_ : ¬ (q12_isIn n_a 0 60 = true) → Z Θ 4 0 0 (zQ Θ ρ) σ 11 [(0, .ref (zA Θ 0)), (1, .int n_a)] [.ref (zA Θ 0)] := by
      intro h5_
      rw [if_pos h5_] at K1_
      refine z_iconst (v := 1) C dX12_next_11 ic_1 ?_
      refine z_goto C 16 dX12_next_12 (by decide) ?_
      exact K1_
    have K3_ : ¬ (¬ (q12_isIn n_a 0 60 = true)) → Z Θ 4 0 0 (zQ Θ ρ) σ 15 [(0, .ref (zA Θ 0)), (1, .int n_a)] [.ref (zA Θ 0)] := by
      intro h5_
      rw [if_neg h5_] at K1_
      refine z_iconst (v := 0) C dX12_next_15 ic_0 ?_
      exact K1_
    refine z_iload_n C 1 dX12_next_1 rfl rfl ?_
    refine z_iconst (v := 0) C dX12_next_2 ic_0 ?_
    refine z_bipush (v := 60) C dX12_next_3 bp_60 ?_
    refine cr12_68 (v_a := n_a) (low_a := 0) (high_a := 60) C hkd  ⟨(Nat.le_of_ble_eq_true rfl), (Nat.le_of_ble_eq_true rfl)⟩ (Nat.le_of_ble_eq_true rfl) ⟨Nat.zero_le _, Nat.zero_le _⟩ dX12_next_5 ?_
    refine cb_t C 15 dX12_next_8 (by decide) (fun h4_ => ?_) (fun h4_ => ?_)
    · exact K3_ (fun n => n h4_)
    · exact K2_ h4_
  obtain ⟨σ6_, h7_, hf⟩ := lt_ hf
  refine fp12_65 C hkd h7_ dX12_next_16 ?_
  have K8_ : 0 < (σ6_ 0 0) → Z Θ 4 0 0 (zQ Θ ρ) σ6_ 26 [(0, .ref (zA Θ 0)), (1, .int n_a)] [] := by
    intro h11_
    rw [if_pos h11_] at hf
    refine z_iconst (v := 0) C dX12_next_26 ic_0 ?_
    cases hf
    subst hρ
    exact z_iret C dX12_next_27
  suffices K9_ : ¬ (0 < (σ6_ 0 0)) → Z Θ 4 0 0 (zQ Θ ρ) σ6_ 28 [(0, .ref (zA Θ 0)), (1, .int n_a)] [] by
    refine z_aload_n C 0 dX12_next_19 rfl rfl ?_
    refine fg12_65 C hkd dX12_next_20 ?_
    refine c0_gt_f C 28 dX12_next_23 (by decide) (fun h10_ => ?_) (fun h10_ => ?_)
    · exact K8_ h10_
    · exact K9_ h10_
  intro h11_
  rw [if_neg h11_] at hf
  refine z_aload_n C 0 dX12_next_28 rfl rfl ?_
  obtain ⟨x12_, h13_, hf⟩ := ob hf
  refine cr12_186 C hkd  h13_ ⟨(Nat.le_of_ble_eq_true rfl), (Nat.le_of_ble_eq_true rfl)⟩ (Nat.le_of_ble_eq_true rfl) ⟨Nat.zero_le _, Nat.zero_le _⟩ dX12_next_29 ?_
  refine z_aload_n C 0 dX12_next_32 rfl rfl ?_
  refine z_iload_n C 1 dX12_next_33 rfl rfl ?_
  refine z_iconst (v := 0) C dX12_next_34 ic_0 ?_
  obtain ⟨x14_, h15_, hf⟩ := ob hf
  refine cr12_369 (n_a := n_a) (draws_a := false) C hkd  h15_ ⟨(Nat.le_of_ble_eq_true rfl), (Nat.le_of_ble_eq_true rfl)⟩ (Nat.le_of_ble_eq_true rfl) ⟨Nat.zero_le _, Nat.zero_le _⟩ dX12_next_35 ?_
  refine z_istN C dX12_next_38 rfl rfl (Nat.le_of_ble_eq_true rfl) rfl ?_
  refine z_aload_n C 1 dX12_next_39 rfl rfl ?_
  obtain ⟨x16_, h17_, hf⟩ := ob hf
  refine cr12_320 C hkd  h17_ ⟨(Nat.le_of_ble_eq_true rfl), (Nat.le_of_ble_eq_true rfl)⟩ (Nat.le_of_ble_eq_true rfl) ⟨Nat.zero_le _, Nat.zero_le _⟩ dX12_next_40 ?_
  refine z_aload_n C 1 dX12_next_43 rfl rfl ?_
  refine z_aload_n C 1 dX12_next_44 rfl rfl ?_
  refine fg12_7 C hkd dX12_next_45 ?_
  refine z_bipush (v := 6) C dX12_next_48 bp_6 ?_
  obtain ⟨x18_, h19_, hf⟩ := ob hf
  refine z_ag C h19_ (kM_1 hkd) dX12_next_50 ?_
  obtain ⟨x20_, h21_, hf⟩ := ob hf
  refine cr12_323 (way_a := x18_) C hkd  h21_ ⟨(Nat.le_of_ble_eq_true rfl), (Nat.le_of_ble_eq_true rfl)⟩ (Nat.le_of_ble_eq_true rfl) ⟨Nat.zero_le _, Nat.zero_le _⟩ dX12_next_51 ?_
  refine z_istN C dX12_next_54 rfl rfl (Nat.le_of_ble_eq_true rfl) rfl ?_
  refine z_aload_n C 2 dX12_next_55 rfl rfl ?_
  obtain ⟨x22_, h23_, hf⟩ := ob hf
  refine cr12_196 C hkd  h23_ ⟨(Nat.le_of_ble_eq_true rfl), (Nat.le_of_ble_eq_true rfl)⟩ (Nat.le_of_ble_eq_true rfl) ⟨Nat.zero_le _, Nat.zero_le _⟩ dX12_next_56 ?_
  refine z_iload_n C 0 dX12_next_59 rfl rfl ?_
  cases hf
  subst hρ
  exact z_iret C dX12_next_60
theorem c12_next {l : Launch} {kd : List KD} {w : Wp} {σ : St} {n_a : Int32} (hkd : kd = kdM) (hi : zI kd w) {r : (Int32 × St)} (hf : q12_next σ n_a = some r) : zM l kd w yX12_next cX12_next 4 (some .int) rm12_next [.ref (w.2.2.1 0), .int n_a] σ (some (.int r.1), r.2) := zM_of rfl hi (Nat.le_of_ble_eq_true rfl) (fun Θ hl hw C => by
  obtain ⟨Θ1, Θ2, Θ3, Θ4, Θ5⟩ := Θ
  cases hw
  exact p12_next C hkd  hf rfl)
/-! LastLoafModel.woo -/
theorem dX12_woo_0 : decode cX12_woo 0 = .ok (.aload_n 0, 1) := by decide +kernel
theorem dX12_woo_1 : decode cX12_woo 1 = .ok (.aload_n 0, 1) := by decide +kernel
theorem dX12_woo_2 : decode cX12_woo 2 = .ok (.iload_n 1, 1) := by decide +kernel
theorem dX12_woo_3 : decode cX12_woo 3 = .ok (.invokevirtual 347, 3) := by decide +kernel
theorem dX12_woo_6 : decode cX12_woo 6 = .ok (.ifCond .ne 7, 3) := by decide +kernel
theorem dX12_woo_9 : decode cX12_woo 9 = .ok (.iconst 1, 1) := by decide +kernel
theorem dX12_woo_10 : decode cX12_woo 10 = .ok (.goto 4, 3) := by decide +kernel
theorem dX12_woo_13 : decode cX12_woo 13 = .ok (.iconst 0, 1) := by decide +kernel
theorem dX12_woo_14 : decode cX12_woo 14 = .ok (.putfield 65, 3) := by decide +kernel
theorem dX12_woo_17 : decode cX12_woo 17 = .ok (.aload_n 0, 1) := by decide +kernel
theorem dX12_woo_18 : decode cX12_woo 18 = .ok (.getfield 65, 3) := by decide +kernel
theorem dX12_woo_21 : decode cX12_woo 21 = .ok (.ifCond .le 5, 3) := by decide +kernel
theorem dX12_woo_24 : decode cX12_woo 24 = .ok (.iconst 0, 1) := by decide +kernel
theorem dX12_woo_25 : decode cX12_woo 25 = .ok (.ireturn, 1) := by decide +kernel
theorem dX12_woo_26 : decode cX12_woo 26 = .ok (.aload_n 0, 1) := by decide +kernel
theorem dX12_woo_27 : decode cX12_woo 27 = .ok (.invokevirtual 320, 3) := by decide +kernel
theorem dX12_woo_30 : decode cX12_woo 30 = .ok (.aload_n 0, 1) := by decide +kernel
theorem dX12_woo_31 : decode cX12_woo 31 = .ok (.getfield 269, 3) := by decide +kernel
theorem dX12_woo_34 : decode cX12_woo 34 = .ok (.iload_n 1, 1) := by decide +kernel
theorem dX12_woo_35 : decode cX12_woo 35 = .ok (.invokestatic 275, 3) := by decide +kernel
theorem dX12_woo_38 : decode cX12_woo 38 = .ok (.ifCond .eq 11, 3) := by decide +kernel
theorem dX12_woo_41 : decode cX12_woo 41 = .ok (.aload_n 0, 1) := by decide +kernel
theorem dX12_woo_42 : decode cX12_woo 42 = .ok (.iload_n 1, 1) := by decide +kernel
theorem dX12_woo_43 : decode cX12_woo 43 = .ok (.invokevirtual 353, 3) := by decide +kernel
theorem dX12_woo_46 : decode cX12_woo 46 = .ok (.goto 4, 3) := by decide +kernel
theorem dX12_woo_49 : decode cX12_woo 49 = .ok (.iconst (-1), 1) := by decide +kernel
theorem dX12_woo_50 : decode cX12_woo 50 = .ok (.ireturn, 1) := by decide +kernel
def q12_woo (σ : St) (p_a : Int32) : Option (Int32 × St) :=
  Option.bind (Option.bind (q12_isOne σ p_a) fun x6_ =>
  if ¬ (x6_ = true) then (some (1 : Int32)) else (some (0 : Int32))) fun x1_ =>
  lt (up σ 0 0 x1_) fun σ10_ =>
  if 0 < (σ10_ 0 0) then (some (0, σ10_)) else
  Option.bind (q12_looks σ10_) fun x16_ =>
  Option.bind (if q12_isOf (x16_ 0 21) p_a = true then (Option.bind (q12_wooed x16_ p_a) fun x24_ =>
  some x24_) else (some (-1 : Int32))) fun x18_ =>
  some (x18_, x16_)
abbrev rm12_woo : Room := { frames := 77, cells := 0, slots := 0, locals := 4194 }
set_option maxHeartbeats 4000000 in
set_option maxRecDepth 100000 in
theorem p12_woo {Θ : Tz} {σ : St} {ρ : Option Value × St} (C : Zc Θ cX12_woo 2 RX12 (some .int) rm12_woo) (hkd : Θ.2.2.2.2.1 = kdM) {p_a : Int32} {r : (Int32 × St)} (hf : q12_woo σ p_a = some r) (hρ : ρ = (some (.int r.1), r.2)) : Z Θ 2 0 0 (zQ Θ ρ) σ 0 [(0, .ref (zA Θ 0)), (1, .int p_a)] [] := by
  unfold q12_woo at hf
  refine z_aload_n C 0 dX12_woo_0 rfl rfl ?_
  obtain ⟨x1_, h2_, hf⟩ := ob hf
  suffices K3_ : Z Θ 2 0 0 (zQ Θ ρ) σ 14 [(0, .ref (zA Θ 0)), (1, .int p_a)] [.int x1_, .ref (zA Θ 0)] by
    refine z_aload_n C 0 dX12_woo_1 rfl rfl ?_
    refine z_iload_n C 1 dX12_woo_2 rfl rfl ?_
    obtain ⟨x6_, h7_, h2_⟩ := ob h2_
    refine cr12_347 (p_a := p_a) C hkd  h7_ ⟨(Nat.le_of_ble_eq_true rfl), (Nat.le_of_ble_eq_true rfl)⟩ (Nat.le_of_ble_eq_true rfl) ⟨Nat.zero_le _, Nat.zero_le _⟩ dX12_woo_3 ?_
    have K4_ : ¬ (x6_ = true) → Z Θ 2 0 0 (zQ Θ ρ) σ 9 [(0, .ref (zA Θ 0)), (1, .int p_a)] [.ref (zA Θ 0)] := by
      intro h9_
      rw [if_pos h9_] at h2_
      refine z_iconst (v := 1) C dX12_woo_9 ic_1 ?_
      refine z_goto C 14 dX12_woo_10 (by decide) ?_
      cases h2_
      exact K3_
    have K5_ : ¬ (¬ (x6_ = true)) → Z Θ 2 0 0 (zQ Θ ρ) σ 13 [(0, .ref (zA Θ 0)), (1, .int p_a)] [.ref (zA Θ 0)] := by
      intro h9_
      rw [if_neg h9_] at h2_
      refine z_iconst (v := 0) C dX12_woo_13 ic_0 ?_
      cases h2_
      exact K3_
    refine cb_t C 13 dX12_woo_6 (by decide) (fun h8_ => ?_) (fun h8_ => ?_)
    · exact K5_ (fun n => n h8_)
    · exact K4_ h8_
  obtain ⟨σ10_, h11_, hf⟩ := lt_ hf
  refine fp12_65 C hkd h11_ dX12_woo_14 ?_
  have K12_ : 0 < (σ10_ 0 0) → Z Θ 2 0 0 (zQ Θ ρ) σ10_ 24 [(0, .ref (zA Θ 0)), (1, .int p_a)] [] := by
    intro h15_
    rw [if_pos h15_] at hf
    refine z_iconst (v := 0) C dX12_woo_24 ic_0 ?_
    cases hf
    subst hρ
    exact z_iret C dX12_woo_25
  suffices K13_ : ¬ (0 < (σ10_ 0 0)) → Z Θ 2 0 0 (zQ Θ ρ) σ10_ 26 [(0, .ref (zA Θ 0)), (1, .int p_a)] [] by
    refine z_aload_n C 0 dX12_woo_17 rfl rfl ?_
    refine fg12_65 C hkd dX12_woo_18 ?_
    refine c0_gt_f C 26 dX12_woo_21 (by decide) (fun h14_ => ?_) (fun h14_ => ?_)
    · exact K12_ h14_
    · exact K13_ h14_
  intro h15_
  rw [if_neg h15_] at hf
  refine z_aload_n C 0 dX12_woo_26 rfl rfl ?_
  obtain ⟨x16_, h17_, hf⟩ := ob hf
  refine cr12_320 C hkd  h17_ ⟨(Nat.le_of_ble_eq_true rfl), (Nat.le_of_ble_eq_true rfl)⟩ (Nat.le_of_ble_eq_true rfl) ⟨Nat.zero_le _, Nat.zero_le _⟩ dX12_woo_27 ?_
  obtain ⟨x18_, h19_, hf⟩ := ob hf
  suffices K20_ : Z Θ 2 0 0 (zQ Θ ρ) x16_ 50 [(0, .ref (zA Θ 0)), (1, .int p_a)] [.int x18_] by
    have K21_ : q12_isOf (x16_ 0 21) p_a = true → Z Θ 2 0 0 (zQ Θ ρ) x16_ 41 [(0, .ref (zA Θ 0)), (1, .int p_a)] [] := by
      intro h26_
      rw [if_pos h26_] at h19_
      refine z_aload_n C 0 dX12_woo_41 rfl rfl ?_
      refine z_iload_n C 1 dX12_woo_42 rfl rfl ?_
      obtain ⟨x24_, h25_, h19_⟩ := ob h19_
      refine cr12_353 (one_a := p_a) C hkd  h25_ ⟨(Nat.le_of_ble_eq_true rfl), (Nat.le_of_ble_eq_true rfl)⟩ (Nat.le_of_ble_eq_true rfl) ⟨Nat.zero_le _, Nat.zero_le _⟩ dX12_woo_43 ?_
      refine z_goto C 50 dX12_woo_46 (by decide) ?_
      cases h19_
      exact K20_
    have K22_ : ¬ (q12_isOf (x16_ 0 21) p_a = true) → Z Θ 2 0 0 (zQ Θ ρ) x16_ 49 [(0, .ref (zA Θ 0)), (1, .int p_a)] [] := by
      intro h26_
      rw [if_neg h26_] at h19_
      refine z_iconst (v := (-1)) C dX12_woo_49 ic_m1 ?_
      cases h19_
      exact K20_
    refine z_aload_n C 0 dX12_woo_30 rfl rfl ?_
    refine fg12_269 C hkd dX12_woo_31 ?_
    refine z_iload_n C 1 dX12_woo_34 rfl rfl ?_
    refine cr12_275 (set_a := (x16_ 0 21)) (k_a := p_a) C hkd  ⟨(Nat.le_of_ble_eq_true rfl), (Nat.le_of_ble_eq_true rfl)⟩ (Nat.le_of_ble_eq_true rfl) ⟨Nat.zero_le _, Nat.zero_le _⟩ dX12_woo_35 ?_
    refine cb_f C 49 dX12_woo_38 (by decide) (fun h23_ => ?_) (fun h23_ => ?_)
    · exact K21_ h23_
    · exact K22_ h23_
  cases hf
  subst hρ
  exact z_iret C dX12_woo_50
theorem c12_woo {l : Launch} {kd : List KD} {w : Wp} {σ : St} {p_a : Int32} (hkd : kd = kdM) (hi : zI kd w) {r : (Int32 × St)} (hf : q12_woo σ p_a = some r) : zM l kd w yX12_woo cX12_woo 2 (some .int) rm12_woo [.ref (w.2.2.1 0), .int p_a] σ (some (.int r.1), r.2) := zM_of rfl hi (Nat.le_of_ble_eq_true rfl) (fun Θ hl hw C => by
  obtain ⟨Θ1, Θ2, Θ3, Θ4, Θ5⟩ := Θ
  cases hw
  exact p12_woo C hkd  hf rfl)
/-! LastLoafModel.swaps -/
theorem w_8_49 : Cond.fieldLink "LastLoafModel" (35 : Nat) "LastLoafModel" "place" "[I" ∈ TB := tb_in (lwt_8 (List.mem_of_getElem? (i := 49) (by decide +kernel))) rfl
theorem fg12_35 {Θ : Tz} {cc : ByteArray} {nL kc ks : Nat} {ret : Option FieldType} {rm : Room} {Q : State → Prop} {σ : St} {pc : Nat} {lv : List (Nat × Value)} {st : List Value} (C : Zc Θ cc nL RX12 ret rm) (hkd : Θ.2.2.2.2.1 = kdM) (hd : decode cc pc = .ok (.getfield 35, 3)) (kk : Z Θ nL kc ks Q σ (pc + 3) lv (.ref (zA Θ 8) :: st)) : Z Θ nL kc ks Q σ pc lv (.ref (zA Θ 0) :: st) := z_get C inT12 0 (kM_0 hkd) rfl 22 (by decide) w_8_49 rfl hd kk
theorem dX12_swaps_0 : decode cX12_swaps 0 = .ok (.aload_n 0, 1) := by decide +kernel
theorem dX12_swaps_1 : decode cX12_swaps 1 = .ok (.getfield 35, 3) := by decide +kernel
theorem dX12_swaps_4 : decode cX12_swaps 4 = .ok (.iload_n 1, 1) := by decide +kernel
theorem dX12_swaps_5 : decode cX12_swaps 5 = .ok (.iaload, 1) := by decide +kernel
theorem dX12_swaps_6 : decode cX12_swaps 6 = .ok (.istore_n 3, 1) := by decide +kernel
theorem dX12_swaps_7 : decode cX12_swaps 7 = .ok (.aload_n 0, 1) := by decide +kernel
theorem dX12_swaps_8 : decode cX12_swaps 8 = .ok (.getfield 35, 3) := by decide +kernel
theorem dX12_swaps_11 : decode cX12_swaps 11 = .ok (.iload_n 1, 1) := by decide +kernel
theorem dX12_swaps_12 : decode cX12_swaps 12 = .ok (.aload_n 0, 1) := by decide +kernel
theorem dX12_swaps_13 : decode cX12_swaps 13 = .ok (.getfield 35, 3) := by decide +kernel
theorem dX12_swaps_16 : decode cX12_swaps 16 = .ok (.iload_n 2, 1) := by decide +kernel
theorem dX12_swaps_17 : decode cX12_swaps 17 = .ok (.iaload, 1) := by decide +kernel
theorem dX12_swaps_18 : decode cX12_swaps 18 = .ok (.iastore, 1) := by decide +kernel
theorem dX12_swaps_19 : decode cX12_swaps 19 = .ok (.aload_n 0, 1) := by decide +kernel
theorem dX12_swaps_20 : decode cX12_swaps 20 = .ok (.getfield 35, 3) := by decide +kernel
theorem dX12_swaps_23 : decode cX12_swaps 23 = .ok (.iload_n 2, 1) := by decide +kernel
theorem dX12_swaps_24 : decode cX12_swaps 24 = .ok (.iload_n 3, 1) := by decide +kernel
theorem dX12_swaps_25 : decode cX12_swaps 25 = .ok (.iastore, 1) := by decide +kernel
theorem dX12_swaps_26 : decode cX12_swaps 26 = .ok (.return_, 1) := by decide +kernel
def q12_swaps (σ : St) (a_a : Int32) (b_a : Int32) : Option St :=
  Option.bind (ag σ 8 7 a_a) fun x1_ =>
  Option.bind (ag σ 8 7 b_a) fun x3_ =>
  Option.bind (sa σ 8 7 a_a x3_) fun σ5_ =>
  Option.bind (sa σ5_ 8 7 b_a x1_) fun σ7_ =>
  some σ7_
abbrev rm12_swaps : Room := { frames := 0, cells := 0, slots := 0, locals := 0 }
set_option maxHeartbeats 4000000 in
set_option maxRecDepth 100000 in
theorem p12_swaps {Θ : Tz} {σ : St} {ρ : Option Value × St} (C : Zc Θ cX12_swaps 4 RX12 none rm12_swaps) (hkd : Θ.2.2.2.2.1 = kdM) {a_a : Int32} {b_a : Int32} {r : St} (hf : q12_swaps σ a_a b_a = some r) (hρ : ρ = (none, r)) : Z Θ 4 0 0 (zQ Θ ρ) σ 0 [(0, .ref (zA Θ 0)), (1, .int a_a), (2, .int b_a)] [] := by
  unfold q12_swaps at hf
  refine z_aload_n C 0 dX12_swaps_0 rfl rfl ?_
  refine fg12_35 C hkd dX12_swaps_1 ?_
  refine z_iload_n C 1 dX12_swaps_4 rfl rfl ?_
  obtain ⟨x1_, h2_, hf⟩ := ob hf
  refine z_ag C h2_ (kM_8 hkd) dX12_swaps_5 ?_
  refine z_istN C dX12_swaps_6 rfl rfl (Nat.le_of_ble_eq_true rfl) rfl ?_
  refine z_aload_n C 1 dX12_swaps_7 rfl rfl ?_
  refine fg12_35 C hkd dX12_swaps_8 ?_
  refine z_iload_n C 2 dX12_swaps_11 rfl rfl ?_
  refine z_aload_n C 1 dX12_swaps_12 rfl rfl ?_
  refine fg12_35 C hkd dX12_swaps_13 ?_
  refine z_iload_n C 3 dX12_swaps_16 rfl rfl ?_
  obtain ⟨x3_, h4_, hf⟩ := ob hf
  refine z_ag C h4_ (kM_8 hkd) dX12_swaps_17 ?_
  obtain ⟨σ5_, h6_, hf⟩ := ob hf
  refine z_sa C h6_ (kM_8 hkd) dX12_swaps_18 ?_
  refine z_aload_n C 1 dX12_swaps_19 rfl rfl ?_
  refine fg12_35 C hkd dX12_swaps_20 ?_
  refine z_iload_n C 3 dX12_swaps_23 rfl rfl ?_
  refine z_iload_n C 0 dX12_swaps_24 rfl rfl ?_
  obtain ⟨σ7_, h8_, hf⟩ := ob hf
  refine z_sa C h8_ (kM_8 hkd) dX12_swaps_25 ?_
  cases hf
  subst hρ
  exact z_vret C dX12_swaps_26
theorem c12_swaps {l : Launch} {kd : List KD} {w : Wp} {σ : St} {a_a : Int32} {b_a : Int32} (hkd : kd = kdM) (hi : zI kd w) {r : St} (hf : q12_swaps σ a_a b_a = some r) : zM l kd w yX12_swaps cX12_swaps 4 none rm12_swaps [.ref (w.2.2.1 0), .int a_a, .int b_a] σ (none, r) := zM_of rfl hi (Nat.le_of_ble_eq_true rfl) (fun Θ hl hw C => by
  obtain ⟨Θ1, Θ2, Θ3, Θ4, Θ5⟩ := Θ
  cases hw
  exact p12_swaps C hkd  hf rfl)
/-! LastLoafModel.nextOrder -/
theorem w_10_51 : Cond.code ({ cls := "LastLoafModel", name := "swaps", desc := "(II)V" } : MethodName) prog_14_method_95_code (4 : Nat) (Option.none : Option ClassFile.FieldType) ∈ TB := tb_in (lwt_10 (List.mem_of_getElem? (i := 51) (by decide +kernel))) rfl
theorem w_10_48 : Cond.methodLink "LastLoafModel" (386 : Nat) ({ cls := "LastLoafModel", name := "swaps", desc := "(II)V" } : MethodName) ∈ TB := tb_in (lwt_10 (List.mem_of_getElem? (i := 48) (by decide +kernel))) rfl
theorem w_10_50 : Cond.instanceMethod ({ cls := "LastLoafModel", name := "swaps", desc := "(II)V" } : MethodName) ∈ TB := tb_in (lwt_10 (List.mem_of_getElem? (i := 50) (by decide +kernel))) rfl
theorem ws_LastLoafModel_swaps_II_V : Cond.selects "LastLoafModel" (⟨"LastLoafModel", "swaps", "(II)V"⟩ : MethodName) (⟨"LastLoafModel", "swaps", "(II)V"⟩ : MethodName) ∈ TB := tb_in (List.mem_append_left _ (List.mem_of_getElem? (i := 78) (by decide +kernel))) rfl
theorem cr12_386 {Θ : Tz} {cc : ByteArray} {nL kc ks : Nat} {ret : Option FieldType} {rm : Room} {Q : State → Prop} {σ : St} {pc : Nat} {lv : List (Nat × Value)} {st : List Value} (C : Zc Θ cc nL RX12 ret rm) (hkd : Θ.2.2.2.2.1 = kdM) {a_a : Int32} {b_a : Int32} {r : St} (hx : q12_swaps σ a_a b_a = some r) (hrm : rm12_swaps.frames + 1 ≤ rm.frames ∧ 8 + (4 + 11) + rm12_swaps.locals ≤ rm.locals) (hcat : (st.map fun v => v.category).sum ≤ 8) (hk : kc ≤ rm.cells ∧ ks ≤ rm.slots) (hd : decode cc pc = .ok (.invokevirtual 386, 3)) (kk : Z Θ nL kc ks Q r (pc + 3) lv st) : Z Θ nL kc ks Q σ pc lv (.int b_a :: .int a_a :: .ref (zA Θ 0) :: st) := z_callV C 0 [.int a_a, .int b_a] (none, r) 2 (kM_0 hkd) rfl (c12_swaps (a_a := a_a) (b_a := b_a) hkd (zc_inj C) hx) w_10_51 w_10_48 w_10_50 ws_LastLoafModel_swaps_II_V w_1_14 ⟨rfl, rfl, hrm.1, hrm.2⟩ (by decide +kernel) rfl rfl hcat hk hd kk
theorem dX12_nextOrder_0 : decode cX12_nextOrder 0 = .ok (.iload_n 1, 1) := by decide +kernel
theorem dX12_nextOrder_1 : decode cX12_nextOrder 1 = .ok (.iconst 2, 1) := by decide +kernel
theorem dX12_nextOrder_2 : decode cX12_nextOrder 2 = .ok (.isub, 1) := by decide +kernel
theorem dX12_nextOrder_3 : decode cX12_nextOrder 3 = .ok (.istore_n 2, 1) := by decide +kernel
theorem dX12_nextOrder_4 : decode cX12_nextOrder 4 = .ok (.iload_n 2, 1) := by decide +kernel
theorem dX12_nextOrder_5 : decode cX12_nextOrder 5 = .ok (.ifCond .lt 26, 3) := by decide +kernel
theorem dX12_nextOrder_8 : decode cX12_nextOrder 8 = .ok (.aload_n 0, 1) := by decide +kernel
theorem dX12_nextOrder_9 : decode cX12_nextOrder 9 = .ok (.getfield 35, 3) := by decide +kernel
theorem dX12_nextOrder_12 : decode cX12_nextOrder 12 = .ok (.iload_n 2, 1) := by decide +kernel
theorem dX12_nextOrder_13 : decode cX12_nextOrder 13 = .ok (.iaload, 1) := by decide +kernel
theorem dX12_nextOrder_14 : decode cX12_nextOrder 14 = .ok (.aload_n 0, 1) := by decide +kernel
theorem dX12_nextOrder_15 : decode cX12_nextOrder 15 = .ok (.getfield 35, 3) := by decide +kernel
theorem dX12_nextOrder_18 : decode cX12_nextOrder 18 = .ok (.iload_n 2, 1) := by decide +kernel
theorem dX12_nextOrder_19 : decode cX12_nextOrder 19 = .ok (.iconst 1, 1) := by decide +kernel
theorem dX12_nextOrder_20 : decode cX12_nextOrder 20 = .ok (.iadd, 1) := by decide +kernel
theorem dX12_nextOrder_21 : decode cX12_nextOrder 21 = .ok (.iaload, 1) := by decide +kernel
theorem dX12_nextOrder_22 : decode cX12_nextOrder 22 = .ok (.if_icmp .le 9, 3) := by decide +kernel
theorem dX12_nextOrder_25 : decode cX12_nextOrder 25 = .ok (.iinc 2 (-1), 3) := by decide +kernel
theorem dX12_nextOrder_28 : decode cX12_nextOrder 28 = .ok (.goto (-24), 3) := by decide +kernel
theorem dX12_nextOrder_31 : decode cX12_nextOrder 31 = .ok (.iload_n 2, 1) := by decide +kernel
theorem dX12_nextOrder_32 : decode cX12_nextOrder 32 = .ok (.ifCond .ge 5, 3) := by decide +kernel
theorem dX12_nextOrder_35 : decode cX12_nextOrder 35 = .ok (.iconst 0, 1) := by decide +kernel
theorem dX12_nextOrder_36 : decode cX12_nextOrder 36 = .ok (.ireturn, 1) := by decide +kernel
theorem dX12_nextOrder_37 : decode cX12_nextOrder 37 = .ok (.iload_n 1, 1) := by decide +kernel
theorem dX12_nextOrder_38 : decode cX12_nextOrder 38 = .ok (.iconst 1, 1) := by decide +kernel
theorem dX12_nextOrder_39 : decode cX12_nextOrder 39 = .ok (.isub, 1) := by decide +kernel
theorem dX12_nextOrder_40 : decode cX12_nextOrder 40 = .ok (.istore_n 3, 1) := by decide +kernel
theorem dX12_nextOrder_41 : decode cX12_nextOrder 41 = .ok (.aload_n 0, 1) := by decide +kernel
theorem dX12_nextOrder_42 : decode cX12_nextOrder 42 = .ok (.getfield 35, 3) := by decide +kernel
theorem dX12_nextOrder_45 : decode cX12_nextOrder 45 = .ok (.iload_n 3, 1) := by decide +kernel
theorem dX12_nextOrder_46 : decode cX12_nextOrder 46 = .ok (.iaload, 1) := by decide +kernel
theorem dX12_nextOrder_47 : decode cX12_nextOrder 47 = .ok (.aload_n 0, 1) := by decide +kernel
theorem dX12_nextOrder_48 : decode cX12_nextOrder 48 = .ok (.getfield 35, 3) := by decide +kernel
theorem dX12_nextOrder_51 : decode cX12_nextOrder 51 = .ok (.iload_n 2, 1) := by decide +kernel
theorem dX12_nextOrder_52 : decode cX12_nextOrder 52 = .ok (.iaload, 1) := by decide +kernel
theorem dX12_nextOrder_53 : decode cX12_nextOrder 53 = .ok (.if_icmp .ge 9, 3) := by decide +kernel
theorem dX12_nextOrder_56 : decode cX12_nextOrder 56 = .ok (.iinc 3 (-1), 3) := by decide +kernel
theorem dX12_nextOrder_59 : decode cX12_nextOrder 59 = .ok (.goto (-18), 3) := by decide +kernel
theorem dX12_nextOrder_62 : decode cX12_nextOrder 62 = .ok (.aload_n 0, 1) := by decide +kernel
theorem dX12_nextOrder_63 : decode cX12_nextOrder 63 = .ok (.iload_n 2, 1) := by decide +kernel
theorem dX12_nextOrder_64 : decode cX12_nextOrder 64 = .ok (.iload_n 3, 1) := by decide +kernel
theorem dX12_nextOrder_65 : decode cX12_nextOrder 65 = .ok (.invokevirtual 386, 3) := by decide +kernel
theorem dX12_nextOrder_68 : decode cX12_nextOrder 68 = .ok (.iload_n 2, 1) := by decide +kernel
theorem dX12_nextOrder_69 : decode cX12_nextOrder 69 = .ok (.iconst 1, 1) := by decide +kernel
theorem dX12_nextOrder_70 : decode cX12_nextOrder 70 = .ok (.iadd, 1) := by decide +kernel
theorem dX12_nextOrder_71 : decode cX12_nextOrder 71 = .ok (.istore 4, 2) := by decide +kernel
theorem dX12_nextOrder_73 : decode cX12_nextOrder 73 = .ok (.iload_n 1, 1) := by decide +kernel
theorem dX12_nextOrder_74 : decode cX12_nextOrder 74 = .ok (.iconst 1, 1) := by decide +kernel
theorem dX12_nextOrder_75 : decode cX12_nextOrder 75 = .ok (.isub, 1) := by decide +kernel
theorem dX12_nextOrder_76 : decode cX12_nextOrder 76 = .ok (.istore 5, 2) := by decide +kernel
theorem dX12_nextOrder_78 : decode cX12_nextOrder 78 = .ok (.iload 4, 2) := by decide +kernel
theorem dX12_nextOrder_80 : decode cX12_nextOrder 80 = .ok (.iload 5, 2) := by decide +kernel
theorem dX12_nextOrder_82 : decode cX12_nextOrder 82 = .ok (.if_icmp .ge 20, 3) := by decide +kernel
theorem dX12_nextOrder_85 : decode cX12_nextOrder 85 = .ok (.aload_n 0, 1) := by decide +kernel
theorem dX12_nextOrder_86 : decode cX12_nextOrder 86 = .ok (.iload 4, 2) := by decide +kernel
theorem dX12_nextOrder_88 : decode cX12_nextOrder 88 = .ok (.iload 5, 2) := by decide +kernel
theorem dX12_nextOrder_90 : decode cX12_nextOrder 90 = .ok (.invokevirtual 386, 3) := by decide +kernel
theorem dX12_nextOrder_93 : decode cX12_nextOrder 93 = .ok (.iinc 4 1, 3) := by decide +kernel
theorem dX12_nextOrder_96 : decode cX12_nextOrder 96 = .ok (.iinc 5 (-1), 3) := by decide +kernel
theorem dX12_nextOrder_99 : decode cX12_nextOrder 99 = .ok (.goto (-21), 3) := by decide +kernel
theorem dX12_nextOrder_102 : decode cX12_nextOrder 102 = .ok (.iconst 1, 1) := by decide +kernel
theorem dX12_nextOrder_103 : decode cX12_nextOrder 103 = .ok (.ireturn, 1) := by decide +kernel
def q12_nextOrder (σ : St) (n_a : Int32) : Option (Bool × St) :=
  lt (n_a - 2) fun i1_ =>
  Option.bind (loop1 (fun rec6_ (i9_ : Int32) =>
  Option.bind (if 0 ≤ i9_ then (Option.bind (ag σ 8 7 i9_) fun x17_ =>
  Option.bind (ag σ 8 7 (i9_ + 1)) fun x19_ =>
  if x19_ < x17_ then (some true) else (some false)) else (some false)) fun t14_ =>
  if t14_ = true then
  lt (i9_ + (-1)) fun i23_ =>
  rec6_ i23_
  else (some i9_)) fuelN i1_) fun y3_ =>
  if y3_ < 0 then (some (false, σ)) else
  lt (n_a - 1) fun k29_ =>
  Option.bind (loop1 (fun rec34_ (k37_ : Int32) =>
  Option.bind (ag σ 8 7 k37_) fun x42_ =>
  Option.bind (ag σ 8 7 y3_) fun x44_ =>
  if x42_ < x44_ then
  lt (k37_ + (-1)) fun k48_ =>
  rec34_ k48_
  else (some k37_)) fuelN k29_) fun y31_ =>
  Option.bind (q12_swaps σ y3_ y31_) fun x50_ =>
  lt (y3_ + 1) fun a52_ =>
  lt (n_a - 1) fun b54_ =>
  Option.bind (loop3 (fun rec59_ (a62_ : Int32) (b63_ : Int32) (σ64_ : St) =>
  if a62_ < b63_ then
  Option.bind (q12_swaps σ64_ a62_ b63_) fun x71_ =>
  lt (a62_ + 1) fun a73_ =>
  lt (b63_ + (-1)) fun b75_ =>
  rec59_ a73_ b75_ x71_
  else (some (a62_, b63_, σ64_))) fuelN a52_ b54_ x50_) fun y56_ =>
  some (true, y56_.2.2)
abbrev rm12_nextOrder : Room := { frames := 1, cells := 0, slots := 0, locals := 23 }
set_option maxHeartbeats 4000000 in
set_option maxRecDepth 100000 in
theorem p12_nextOrder {Θ : Tz} {σ : St} {ρ : Option Value × St} (C : Zc Θ cX12_nextOrder 6 RX12 (some .boolean) rm12_nextOrder) (hkd : Θ.2.2.2.2.1 = kdM) {n_a : Int32} {r : (Bool × St)} (hf : q12_nextOrder σ n_a = some r) (hρ : ρ = (some (.int (b2i r.1)), r.2)) : Z Θ 6 0 0 (zQ Θ ρ) σ 0 [(0, .ref (zA Θ 0)), (1, .int n_a)] [] := by
  unfold q12_nextOrder at hf
  refine z_iload_n C 1 dX12_nextOrder_0 rfl rfl ?_
  refine z_iconst (v := 2) C dX12_nextOrder_1 ic_2 ?_
  refine z_isub C dX12_nextOrder_2 ?_
  obtain ⟨i1_, h2_, hf⟩ := lt_ hf
  refine z_istN C dX12_nextOrder_3 h2_ rfl (Nat.le_of_ble_eq_true rfl) rfl ?_
  refine Z.sub [1, 2, 0] rfl ?_
  obtain ⟨y3_, h4_, hf⟩ := ob hf
  suffices K5_ : Z Θ 6 0 0 (zQ Θ ρ) σ 31 [(0, .ref (zA Θ 0)), (1, .int n_a), (2, .int y3_)] [] by
    refine loop1_Z (P := fun (i9_ : Int32) => Z Θ 6 0 0 (zQ Θ ρ) σ 4 [(0, .ref (zA Θ 0)), (1, .int n_a), (2, .int i9_)] []) ?_ fuelN i1_ h4_
    clear h4_
    intro rec6_ i9_ h7_ h8_
    obtain ⟨t14_, h15_, h8_⟩ := ob h8_
    have K12_ : t14_ = true → Z Θ 6 0 0 (zQ Θ ρ) σ 25 [(0, .ref (zA Θ 0)), (1, .int n_a), (2, .int i9_)] [] := by
      intro h22_
      rw [if_pos h22_] at h8_
      obtain ⟨i23_, h24_, h8_⟩ := lt_ h8_
      refine z_inc C 2 dX12_nextOrder_25 rfl ic_m1 h24_ (Nat.le_of_ble_eq_true rfl) rfl ?_
      refine z_goto C 4 dX12_nextOrder_28 (by decide) ?_
      refine Z.sub [1, 2, 0] rfl ?_
      exact h7_ _ h8_
    have K13_ : ¬ (t14_ = true) → Z Θ 6 0 0 (zQ Θ ρ) σ 31 [(0, .ref (zA Θ 0)), (1, .int n_a), (2, .int i9_)] [] := by
      intro h22_
      rw [if_neg h22_] at h8_
      cases h8_
      exact K5_
    refine z_iload_n C 2 dX12_nextOrder_4 rfl rfl ?_
    refine c0_ge_f C 31 dX12_nextOrder_5 (by decide) (fun h16_ => ?_) (fun h16_ => ?_)
    · rw [if_pos h16_] at h15_
      refine z_aload_n C 0 dX12_nextOrder_8 rfl rfl ?_
      refine fg12_35 C hkd dX12_nextOrder_9 ?_
      refine z_iload_n C 2 dX12_nextOrder_12 rfl rfl ?_
      obtain ⟨x17_, h18_, h15_⟩ := ob h15_
      refine z_ag C h18_ (kM_8 hkd) dX12_nextOrder_13 ?_
      refine z_aload_n C 0 dX12_nextOrder_14 rfl rfl ?_
      refine fg12_35 C hkd dX12_nextOrder_15 ?_
      refine z_iload_n C 2 dX12_nextOrder_18 rfl rfl ?_
      refine z_iconst (v := 1) C dX12_nextOrder_19 ic_1 ?_
      refine z_iadd C dX12_nextOrder_20 ?_
      obtain ⟨x19_, h20_, h15_⟩ := ob h15_
      refine z_ag C h20_ (kM_8 hkd) dX12_nextOrder_21 ?_
      refine c_gt_f C 31 dX12_nextOrder_22 (by decide) (fun h21_ => ?_) (fun h21_ => ?_)
      · rw [if_pos h21_] at h15_
        cases h15_
        exact K12_ rfl
      · rw [if_neg h21_] at h15_
        cases h15_
        exact K13_ Bool.false_ne_true
    · rw [if_neg h16_] at h15_
      cases h15_
      exact K13_ Bool.false_ne_true
  have K25_ : y3_ < 0 → Z Θ 6 0 0 (zQ Θ ρ) σ 35 [(0, .ref (zA Θ 0)), (1, .int n_a), (2, .int y3_)] [] := by
    intro h28_
    rw [if_pos h28_] at hf
    refine z_iconst (v := 0) C dX12_nextOrder_35 ic_0 ?_
    cases hf
    subst hρ
    exact z_zret C (b2i_narrow _) dX12_nextOrder_36
  suffices K26_ : ¬ (y3_ < 0) → Z Θ 6 0 0 (zQ Θ ρ) σ 37 [(0, .ref (zA Θ 0)), (1, .int n_a), (2, .int y3_)] [] by
    refine z_iload_n C 2 dX12_nextOrder_31 rfl rfl ?_
    refine c0_lt_f C 37 dX12_nextOrder_32 (by decide) (fun h27_ => ?_) (fun h27_ => ?_)
    · exact K25_ h27_
    · exact K26_ h27_
  intro h28_
  rw [if_neg h28_] at hf
  refine z_iload_n C 1 dX12_nextOrder_37 rfl rfl ?_
  refine z_iconst (v := 1) C dX12_nextOrder_38 ic_1 ?_
  refine z_isub C dX12_nextOrder_39 ?_
  obtain ⟨k29_, h30_, hf⟩ := lt_ hf
  refine z_istN C dX12_nextOrder_40 h30_ rfl (Nat.le_of_ble_eq_true rfl) rfl ?_
  refine Z.sub [1, 2, 3, 0] rfl ?_
  obtain ⟨y31_, h32_, hf⟩ := ob hf
  suffices K33_ : Z Θ 6 0 0 (zQ Θ ρ) σ 62 [(0, .ref (zA Θ 0)), (1, .int n_a), (2, .int y3_), (3, .int y31_)] [] by
    refine loop1_Z (P := fun (k37_ : Int32) => Z Θ 6 0 0 (zQ Θ ρ) σ 41 [(0, .ref (zA Θ 0)), (1, .int n_a), (2, .int y3_), (3, .int k37_)] []) ?_ fuelN k29_ h32_
    clear h32_
    intro rec34_ k37_ h35_ h36_
    refine z_aload_n C 0 dX12_nextOrder_41 rfl rfl ?_
    refine fg12_35 C hkd dX12_nextOrder_42 ?_
    refine z_iload_n C 3 dX12_nextOrder_45 rfl rfl ?_
    obtain ⟨x42_, h43_, h36_⟩ := ob h36_
    refine z_ag C h43_ (kM_8 hkd) dX12_nextOrder_46 ?_
    refine z_aload_n C 0 dX12_nextOrder_47 rfl rfl ?_
    refine fg12_35 C hkd dX12_nextOrder_48 ?_
    refine z_iload_n C 2 dX12_nextOrder_51 rfl rfl ?_
    obtain ⟨x44_, h45_, h36_⟩ := ob h36_
    refine z_ag C h45_ (kM_8 hkd) dX12_nextOrder_52 ?_
    have K40_ : x42_ < x44_ → Z Θ 6 0 0 (zQ Θ ρ) σ 56 [(0, .ref (zA Θ 0)), (1, .int n_a), (2, .int y3_), (3, .int k37_)] [] := by
      intro h47_
      rw [if_pos h47_] at h36_
      obtain ⟨k48_, h49_, h36_⟩ := lt_ h36_
      refine z_inc C 3 dX12_nextOrder_56 rfl ic_m1 h49_ (Nat.le_of_ble_eq_true rfl) rfl ?_
      refine z_goto C 41 dX12_nextOrder_59 (by decide) ?_
      refine Z.sub [1, 2, 3, 0] rfl ?_
      exact h35_ _ h36_
    have K41_ : ¬ (x42_ < x44_) → Z Θ 6 0 0 (zQ Θ ρ) σ 62 [(0, .ref (zA Θ 0)), (1, .int n_a), (2, .int y3_), (3, .int k37_)] [] := by
      intro h47_
      rw [if_neg h47_] at h36_
      cases h36_
      exact K33_
    refine c_lt_f C 62 dX12_nextOrder_53 (by decide) (fun h46_ => ?_) (fun h46_ => ?_)
    · exact K40_ h46_
    · exact K41_ h46_
  refine z_aload_n C 0 dX12_nextOrder_62 rfl rfl ?_
  refine z_iload_n C 2 dX12_nextOrder_63 rfl rfl ?_
  refine z_iload_n C 3 dX12_nextOrder_64 rfl rfl ?_
  obtain ⟨x50_, h51_, hf⟩ := ob hf
  refine cr12_386 (a_a := y3_) (b_a := y31_) C hkd  h51_ ⟨(Nat.le_of_ble_eq_true rfl), (Nat.le_of_ble_eq_true rfl)⟩ (Nat.le_of_ble_eq_true rfl) ⟨Nat.zero_le _, Nat.zero_le _⟩ dX12_nextOrder_65 ?_
  refine z_iload_n C 2 dX12_nextOrder_68 rfl rfl ?_
  refine z_iconst (v := 1) C dX12_nextOrder_69 ic_1 ?_
  refine z_iadd C dX12_nextOrder_70 ?_
  obtain ⟨a52_, h53_, hf⟩ := lt_ hf
  refine z_ist C dX12_nextOrder_71 h53_ (Nat.le_of_ble_eq_true rfl) rfl ?_
  refine z_iload_n C 2 dX12_nextOrder_73 rfl rfl ?_
  refine z_iconst (v := 1) C dX12_nextOrder_74 ic_1 ?_
  refine z_isub C dX12_nextOrder_75 ?_
  obtain ⟨b54_, h55_, hf⟩ := lt_ hf
  refine z_ist C dX12_nextOrder_76 h55_ (Nat.le_of_ble_eq_true rfl) rfl ?_
  refine Z.sub [2, 3, 4, 5, 1, 0] rfl ?_
  obtain ⟨y56_, h57_, hf⟩ := ob hf
  suffices K58_ : Z Θ 6 0 0 (zQ Θ ρ) y56_.2.2 102 [(0, .ref (zA Θ 0)), (1, .int n_a), (2, .int y3_), (3, .int y31_), (4, .int y56_.1), (5, .int y56_.2.1)] [] by
    refine loop3_Z (P := fun (a62_ : Int32) (b63_ : Int32) (σ64_ : St) => Z Θ 6 0 0 (zQ Θ ρ) σ64_ 78 [(0, .ref (zA Θ 0)), (1, .int n_a), (2, .int y3_), (3, .int y31_), (4, .int a62_), (5, .int b63_)] []) ?_ fuelN a52_ b54_ x50_ h57_
    clear h57_
    intro rec59_ a62_ b63_ σ64_ h60_ h61_
    have K67_ : a62_ < b63_ → Z Θ 6 0 0 (zQ Θ ρ) σ64_ 85 [(0, .ref (zA Θ 0)), (1, .int n_a), (2, .int y3_), (3, .int y31_), (4, .int a62_), (5, .int b63_)] [] := by
      intro h70_
      rw [if_pos h70_] at h61_
      refine z_aload_n C 0 dX12_nextOrder_85 rfl rfl ?_
      refine z_iload C 4 dX12_nextOrder_86 rfl ?_
      refine z_iload C 5 dX12_nextOrder_88 rfl ?_
      obtain ⟨x71_, h72_, h61_⟩ := ob h61_
      refine cr12_386 (a_a := a62_) (b_a := b63_) C hkd  h72_ ⟨(Nat.le_of_ble_eq_true rfl), (Nat.le_of_ble_eq_true rfl)⟩ (Nat.le_of_ble_eq_true rfl) ⟨Nat.zero_le _, Nat.zero_le _⟩ dX12_nextOrder_90 ?_
      obtain ⟨a73_, h74_, h61_⟩ := lt_ h61_
      refine z_inc C 4 dX12_nextOrder_93 rfl ic_1 h74_ (Nat.le_of_ble_eq_true rfl) rfl ?_
      obtain ⟨b75_, h76_, h61_⟩ := lt_ h61_
      refine z_inc C 5 dX12_nextOrder_96 rfl ic_m1 h76_ (Nat.le_of_ble_eq_true rfl) rfl ?_
      refine z_goto C 78 dX12_nextOrder_99 (by decide) ?_
      refine Z.sub [2, 3, 4, 5, 1, 0] rfl ?_
      exact h60_ _ _ _ h61_
    have K68_ : ¬ (a62_ < b63_) → Z Θ 6 0 0 (zQ Θ ρ) σ64_ 102 [(0, .ref (zA Θ 0)), (1, .int n_a), (2, .int y3_), (3, .int y31_), (4, .int a62_), (5, .int b63_)] [] := by
      intro h70_
      rw [if_neg h70_] at h61_
      cases h61_
      exact K58_
    refine z_iload C 4 dX12_nextOrder_78 rfl ?_
    refine z_iload C 5 dX12_nextOrder_80 rfl ?_
    refine c_lt_f C 102 dX12_nextOrder_82 (by decide) (fun h69_ => ?_) (fun h69_ => ?_)
    · exact K67_ h69_
    · exact K68_ h69_
  refine z_iconst (v := 1) C dX12_nextOrder_102 ic_1 ?_
  cases hf
  subst hρ
  exact z_zret C (b2i_narrow _) dX12_nextOrder_103
theorem c12_nextOrder {l : Launch} {kd : List KD} {w : Wp} {σ : St} {n_a : Int32} (hkd : kd = kdM) (hi : zI kd w) {r : (Bool × St)} (hf : q12_nextOrder σ n_a = some r) : zM l kd w yX12_nextOrder cX12_nextOrder 6 (some .boolean) rm12_nextOrder [.ref (w.2.2.1 0), .int n_a] σ (some (.int (b2i r.1)), r.2) := zM_of rfl hi (Nat.le_of_ble_eq_true rfl) (fun Θ hl hw C => by
  obtain ⟨Θ1, Θ2, Θ3, Θ4, Θ5⟩ := Θ
  cases hw
  exact p12_nextOrder C hkd  hf rfl)
/-! LastLoafModel.hasOrder -/
theorem w_10_47 : Cond.code ({ cls := "LastLoafModel", name := "nextOrder", desc := "(I)Z" } : MethodName) prog_14_method_94_code (6 : Nat) (Option.some ClassFile.FieldType.boolean) ∈ TB := tb_in (lwt_10 (List.mem_of_getElem? (i := 47) (by decide +kernel))) rfl
theorem w_10_44 : Cond.methodLink "LastLoafModel" (383 : Nat) ({ cls := "LastLoafModel", name := "nextOrder", desc := "(I)Z" } : MethodName) ∈ TB := tb_in (lwt_10 (List.mem_of_getElem? (i := 44) (by decide +kernel))) rfl
theorem w_10_46 : Cond.instanceMethod ({ cls := "LastLoafModel", name := "nextOrder", desc := "(I)Z" } : MethodName) ∈ TB := tb_in (lwt_10 (List.mem_of_getElem? (i := 46) (by decide +kernel))) rfl
theorem ws_LastLoafModel_nextOrder_I_Z : Cond.selects "LastLoafModel" (⟨"LastLoafModel", "nextOrder", "(I)Z"⟩ : MethodName) (⟨"LastLoafModel", "nextOrder", "(I)Z"⟩ : MethodName) ∈ TB := tb_in (List.mem_append_left _ (List.mem_of_getElem? (i := 77) (by decide +kernel))) rfl
theorem cr12_383 {Θ : Tz} {cc : ByteArray} {nL kc ks : Nat} {ret : Option FieldType} {rm : Room} {Q : State → Prop} {σ : St} {pc : Nat} {lv : List (Nat × Value)} {st : List Value} (C : Zc Θ cc nL RX12 ret rm) (hkd : Θ.2.2.2.2.1 = kdM) {n_a : Int32} {r : Bool × St} (hx : q12_nextOrder σ n_a = some r) (hrm : rm12_nextOrder.frames + 1 ≤ rm.frames ∧ 8 + (6 + 11) + rm12_nextOrder.locals ≤ rm.locals) (hcat : (st.map fun v => v.category).sum ≤ 8) (hk : kc ≤ rm.cells ∧ ks ≤ rm.slots) (hd : decode cc pc = .ok (.invokevirtual 383, 3)) (kk : Z Θ nL kc ks Q r.2 (pc + 3) lv (.int (b2i r.1) :: st)) : Z Θ nL kc ks Q σ pc lv (.int n_a :: .ref (zA Θ 0) :: st) := z_callV C 0 [.int n_a] (some (.int (b2i r.1)), r.2) 1 (kM_0 hkd) rfl (c12_nextOrder (n_a := n_a) hkd (zc_inj C) hx) w_10_47 w_10_44 w_10_46 ws_LastLoafModel_nextOrder_I_Z w_1_14 ⟨rfl, rfl, hrm.1, hrm.2⟩ (by decide +kernel) rfl rfl hcat hk hd kk
theorem dX12_hasOrder_0 : decode cX12_hasOrder 0 = .ok (.aload_n 0, 1) := by decide +kernel
theorem dX12_hasOrder_1 : decode cX12_hasOrder 1 = .ok (.getfield 269, 3) := by decide +kernel
theorem dX12_hasOrder_4 : decode cX12_hasOrder 4 = .ok (.invokestatic 286, 3) := by decide +kernel
theorem dX12_hasOrder_7 : decode cX12_hasOrder 7 = .ok (.istore_n 2, 1) := by decide +kernel
theorem dX12_hasOrder_8 : decode cX12_hasOrder 8 = .ok (.aload_n 0, 1) := by decide +kernel
theorem dX12_hasOrder_9 : decode cX12_hasOrder 9 = .ok (.getfield 269, 3) := by decide +kernel
theorem dX12_hasOrder_12 : decode cX12_hasOrder 12 = .ok (.istore_n 3, 1) := by decide +kernel
theorem dX12_hasOrder_13 : decode cX12_hasOrder 13 = .ok (.iconst 0, 1) := by decide +kernel
theorem dX12_hasOrder_14 : decode cX12_hasOrder 14 = .ok (.istore 4, 2) := by decide +kernel
theorem dX12_hasOrder_16 : decode cX12_hasOrder 16 = .ok (.iload 4, 2) := by decide +kernel
theorem dX12_hasOrder_18 : decode cX12_hasOrder 18 = .ok (.iload_n 2, 1) := by decide +kernel
theorem dX12_hasOrder_19 : decode cX12_hasOrder 19 = .ok (.if_icmp .ge 34, 3) := by decide +kernel
theorem dX12_hasOrder_22 : decode cX12_hasOrder 22 = .ok (.aload_n 0, 1) := by decide +kernel
theorem dX12_hasOrder_23 : decode cX12_hasOrder 23 = .ok (.getfield 35, 3) := by decide +kernel
theorem dX12_hasOrder_26 : decode cX12_hasOrder 26 = .ok (.iload 4, 2) := by decide +kernel
theorem dX12_hasOrder_28 : decode cX12_hasOrder 28 = .ok (.iload_n 3, 1) := by decide +kernel
theorem dX12_hasOrder_29 : decode cX12_hasOrder 29 = .ok (.invokestatic 304, 3) := by decide +kernel
theorem dX12_hasOrder_32 : decode cX12_hasOrder 32 = .ok (.iastore, 1) := by decide +kernel
theorem dX12_hasOrder_33 : decode cX12_hasOrder 33 = .ok (.iload_n 3, 1) := by decide +kernel
theorem dX12_hasOrder_34 : decode cX12_hasOrder 34 = .ok (.iconst 1, 1) := by decide +kernel
theorem dX12_hasOrder_35 : decode cX12_hasOrder 35 = .ok (.aload_n 0, 1) := by decide +kernel
theorem dX12_hasOrder_36 : decode cX12_hasOrder 36 = .ok (.getfield 35, 3) := by decide +kernel
theorem dX12_hasOrder_39 : decode cX12_hasOrder 39 = .ok (.iload 4, 2) := by decide +kernel
theorem dX12_hasOrder_41 : decode cX12_hasOrder 41 = .ok (.iaload, 1) := by decide +kernel
theorem dX12_hasOrder_42 : decode cX12_hasOrder 42 = .ok (.ishl, 1) := by decide +kernel
theorem dX12_hasOrder_43 : decode cX12_hasOrder 43 = .ok (.iconst (-1), 1) := by decide +kernel
theorem dX12_hasOrder_44 : decode cX12_hasOrder 44 = .ok (.ixor, 1) := by decide +kernel
theorem dX12_hasOrder_45 : decode cX12_hasOrder 45 = .ok (.iand, 1) := by decide +kernel
theorem dX12_hasOrder_46 : decode cX12_hasOrder 46 = .ok (.istore_n 3, 1) := by decide +kernel
theorem dX12_hasOrder_47 : decode cX12_hasOrder 47 = .ok (.iinc 4 1, 3) := by decide +kernel
theorem dX12_hasOrder_50 : decode cX12_hasOrder 50 = .ok (.goto (-34), 3) := by decide +kernel
theorem dX12_hasOrder_53 : decode cX12_hasOrder 53 = .ok (.iload_n 2, 1) := by decide +kernel
theorem dX12_hasOrder_54 : decode cX12_hasOrder 54 = .ok (.ifCond .le 7, 3) := by decide +kernel
theorem dX12_hasOrder_57 : decode cX12_hasOrder 57 = .ok (.iconst 1, 1) := by decide +kernel
theorem dX12_hasOrder_58 : decode cX12_hasOrder 58 = .ok (.goto 4, 3) := by decide +kernel
theorem dX12_hasOrder_61 : decode cX12_hasOrder 61 = .ok (.iconst 0, 1) := by decide +kernel
theorem dX12_hasOrder_62 : decode cX12_hasOrder 62 = .ok (.istore 4, 2) := by decide +kernel
theorem dX12_hasOrder_64 : decode cX12_hasOrder 64 = .ok (.iload 4, 2) := by decide +kernel
theorem dX12_hasOrder_66 : decode cX12_hasOrder 66 = .ok (.ifCond .eq 69, 3) := by decide +kernel
theorem dX12_hasOrder_69 : decode cX12_hasOrder 69 = .ok (.aload_n 0, 1) := by decide +kernel
theorem dX12_hasOrder_70 : decode cX12_hasOrder 70 = .ok (.getfield 35, 3) := by decide +kernel
theorem dX12_hasOrder_73 : decode cX12_hasOrder 73 = .ok (.iconst 0, 1) := by decide +kernel
theorem dX12_hasOrder_74 : decode cX12_hasOrder 74 = .ok (.iaload, 1) := by decide +kernel
theorem dX12_hasOrder_75 : decode cX12_hasOrder 75 = .ok (.istore 5, 2) := by decide +kernel
theorem dX12_hasOrder_77 : decode cX12_hasOrder 77 = .ok (.iconst 1, 1) := by decide +kernel
theorem dX12_hasOrder_78 : decode cX12_hasOrder 78 = .ok (.istore 6, 2) := by decide +kernel
theorem dX12_hasOrder_80 : decode cX12_hasOrder 80 = .ok (.iload 6, 2) := by decide +kernel
theorem dX12_hasOrder_82 : decode cX12_hasOrder 82 = .ok (.iload_n 2, 1) := by decide +kernel
theorem dX12_hasOrder_83 : decode cX12_hasOrder 83 = .ok (.if_icmp .ge 34, 3) := by decide +kernel
theorem dX12_hasOrder_86 : decode cX12_hasOrder 86 = .ok (.aload_n 0, 1) := by decide +kernel
theorem dX12_hasOrder_87 : decode cX12_hasOrder 87 = .ok (.aload_n 0, 1) := by decide +kernel
theorem dX12_hasOrder_88 : decode cX12_hasOrder 88 = .ok (.getfield 35, 3) := by decide +kernel
theorem dX12_hasOrder_91 : decode cX12_hasOrder 91 = .ok (.iload 6, 2) := by decide +kernel
theorem dX12_hasOrder_93 : decode cX12_hasOrder 93 = .ok (.iaload, 1) := by decide +kernel
theorem dX12_hasOrder_94 : decode cX12_hasOrder 94 = .ok (.iload 5, 2) := by decide +kernel
theorem dX12_hasOrder_96 : decode cX12_hasOrder 96 = .ok (.invokevirtual 289, 3) := by decide +kernel
theorem dX12_hasOrder_99 : decode cX12_hasOrder 99 = .ok (.ifCond .eq 12, 3) := by decide +kernel
theorem dX12_hasOrder_102 : decode cX12_hasOrder 102 = .ok (.aload_n 0, 1) := by decide +kernel
theorem dX12_hasOrder_103 : decode cX12_hasOrder 103 = .ok (.getfield 35, 3) := by decide +kernel
theorem dX12_hasOrder_106 : decode cX12_hasOrder 106 = .ok (.iload 6, 2) := by decide +kernel
theorem dX12_hasOrder_108 : decode cX12_hasOrder 108 = .ok (.iaload, 1) := by decide +kernel
theorem dX12_hasOrder_109 : decode cX12_hasOrder 109 = .ok (.istore 5, 2) := by decide +kernel
theorem dX12_hasOrder_111 : decode cX12_hasOrder 111 = .ok (.iinc 6 1, 3) := by decide +kernel
theorem dX12_hasOrder_114 : decode cX12_hasOrder 114 = .ok (.goto (-34), 3) := by decide +kernel
theorem dX12_hasOrder_117 : decode cX12_hasOrder 117 = .ok (.iload 5, 2) := by decide +kernel
theorem dX12_hasOrder_119 : decode cX12_hasOrder 119 = .ok (.iload_n 1, 1) := by decide +kernel
theorem dX12_hasOrder_120 : decode cX12_hasOrder 120 = .ok (.if_icmp .ne 5, 3) := by decide +kernel
theorem dX12_hasOrder_123 : decode cX12_hasOrder 123 = .ok (.iconst 1, 1) := by decide +kernel
theorem dX12_hasOrder_124 : decode cX12_hasOrder 124 = .ok (.ireturn, 1) := by decide +kernel
theorem dX12_hasOrder_125 : decode cX12_hasOrder 125 = .ok (.aload_n 0, 1) := by decide +kernel
theorem dX12_hasOrder_126 : decode cX12_hasOrder 126 = .ok (.iload_n 2, 1) := by decide +kernel
theorem dX12_hasOrder_127 : decode cX12_hasOrder 127 = .ok (.invokevirtual 383, 3) := by decide +kernel
theorem dX12_hasOrder_130 : decode cX12_hasOrder 130 = .ok (.istore 4, 2) := by decide +kernel
theorem dX12_hasOrder_132 : decode cX12_hasOrder 132 = .ok (.goto (-68), 3) := by decide +kernel
theorem dX12_hasOrder_135 : decode cX12_hasOrder 135 = .ok (.iconst 0, 1) := by decide +kernel
theorem dX12_hasOrder_136 : decode cX12_hasOrder 136 = .ok (.ireturn, 1) := by decide +kernel
def q12_hasOrder (σ : St) (one_a : Int32) : Option (Bool × St) :=
  Option.bind (q12_bits (σ 0 21)) fun x1_ =>
  lt (σ 0 21) fun left3_ =>
  Option.bind (loop3 (fun rec8_ (left11_ : Int32) (i12_ : Int32) (σ13_ : St) =>
  if i12_ < x1_ then
  Option.bind (q12_lowest left11_) fun x20_ =>
  Option.bind (sa σ13_ 8 7 i12_ x20_) fun σ22_ =>
  Option.bind (ag σ22_ 8 7 i12_) fun x24_ =>
  lt (left11_ &&& ((shl 1 x24_) ^^^ (-1))) fun left26_ =>
  lt (i12_ + 1) fun i28_ =>
  rec8_ left26_ i28_ σ22_
  else (some (left11_, i12_, σ13_))) fuelN left3_ (0 : Int32) σ) fun y5_ =>
  lt (decide (0 < x1_)) fun more35_ =>
  Option.bind (loop2 (fun rec40_ (more43_ : Bool) (σ44_ : St) =>
  if more43_ = true then
  Option.bind (ag σ44_ 8 7 0) fun x51_ =>
  Option.bind (loop2 (fun rec56_ (there59_ : Int32) (i60_ : Int32) =>
  if i60_ < x1_ then
  Option.bind (Option.bind (ag σ44_ 8 7 i60_) fun x72_ =>
  Option.bind (q12_doesBeat σ44_ x72_ there59_) fun x74_ =>
  if x74_ = true then (Option.bind (ag σ44_ 8 7 i60_) fun x78_ =>
  some (x78_)) else (some (there59_))) fun y67_ =>
  lt (i60_ + 1) fun i80_ =>
  rec56_ y67_ i80_
  else (some (there59_, i60_))) fuelN x51_ (1 : Int32)) fun y53_ =>
  if y53_.1 = one_a then (some (.inl (true, σ44_))) else
  Option.bind (q12_nextOrder σ44_ x1_) fun x86_ =>
  rec40_ x86_.1 x86_.2
  else (some (.inr (more43_, σ44_)))) fuelN more35_ y5_.2.2) fun y37_ =>
  Sum.elim (fun x9 => some x9) (fun y37_r =>
  some (false, y37_r.2)) y37_
abbrev rm12_hasOrder : Room := { frames := 2, cells := 0, slots := 0, locals := 48 }
set_option maxHeartbeats 4000000 in
set_option maxRecDepth 100000 in
theorem p12_hasOrder {Θ : Tz} {σ : St} {ρ : Option Value × St} (C : Zc Θ cX12_hasOrder 7 RX12 (some .boolean) rm12_hasOrder) (hkd : Θ.2.2.2.2.1 = kdM) {one_a : Int32} {r : (Bool × St)} (hf : q12_hasOrder σ one_a = some r) (hρ : ρ = (some (.int (b2i r.1)), r.2)) : Z Θ 7 0 0 (zQ Θ ρ) σ 0 [(0, .ref (zA Θ 0)), (1, .int one_a)] [] := by
  unfold q12_hasOrder at hf
  refine z_aload_n C 0 dX12_hasOrder_0 rfl rfl ?_
  refine fg12_269 C hkd dX12_hasOrder_1 ?_
  obtain ⟨x1_, h2_, hf⟩ := ob hf
  refine cr12_286 (set_a := (σ 0 21)) C hkd  h2_ ⟨(Nat.le_of_ble_eq_true rfl), (Nat.le_of_ble_eq_true rfl)⟩ (Nat.le_of_ble_eq_true rfl) ⟨Nat.zero_le _, Nat.zero_le _⟩ dX12_hasOrder_4 ?_
  refine z_istN C dX12_hasOrder_7 rfl rfl (Nat.le_of_ble_eq_true rfl) rfl ?_
  refine z_aload_n C 1 dX12_hasOrder_8 rfl rfl ?_
  refine fg12_269 C hkd dX12_hasOrder_9 ?_
  obtain ⟨left3_, h4_, hf⟩ := lt_ hf
  refine z_istN C dX12_hasOrder_12 h4_ rfl (Nat.le_of_ble_eq_true rfl) rfl ?_
  refine z_iconst (v := 0) C dX12_hasOrder_13 ic_0 ?_
  refine z_ist C dX12_hasOrder_14 rfl (Nat.le_of_ble_eq_true rfl) rfl ?_
  refine Z.sub [3, 4, 2, 1, 0] rfl ?_
  obtain ⟨y5_, h6_, hf⟩ := ob hf
  suffices K7_ : Z Θ 7 0 0 (zQ Θ ρ) y5_.2.2 53 [(0, .ref (zA Θ 0)), (1, .int one_a), (2, .int x1_), (3, .int y5_.1), (4, .int y5_.2.1)] [] by
    refine loop3_Z (P := fun (left11_ : Int32) (i12_ : Int32) (σ13_ : St) => Z Θ 7 0 0 (zQ Θ ρ) σ13_ 16 [(0, .ref (zA Θ 0)), (1, .int one_a), (2, .int x1_), (3, .int left11_), (4, .int i12_)] []) ?_ fuelN left3_ (0 : Int32) σ h6_
    clear h6_
    intro rec8_ left11_ i12_ σ13_ h9_ h10_
    have K16_ : i12_ < x1_ → Z Θ 7 0 0 (zQ Θ ρ) σ13_ 22 [(0, .ref (zA Θ 0)), (1, .int one_a), (2, .int x1_), (3, .int left11_), (4, .int i12_)] [] := by
      intro h19_
      rw [if_pos h19_] at h10_
      refine z_aload_n C 0 dX12_hasOrder_22 rfl rfl ?_
      refine fg12_35 C hkd dX12_hasOrder_23 ?_
      refine z_iload C 4 dX12_hasOrder_26 rfl ?_
      refine z_iload_n C 3 dX12_hasOrder_28 rfl rfl ?_
      obtain ⟨x20_, h21_, h10_⟩ := ob h10_
      refine cr12_304 (set_a := left11_) C hkd  h21_ ⟨(Nat.le_of_ble_eq_true rfl), (Nat.le_of_ble_eq_true rfl)⟩ (Nat.le_of_ble_eq_true rfl) ⟨Nat.zero_le _, Nat.zero_le _⟩ dX12_hasOrder_29 ?_
      obtain ⟨σ22_, h23_, h10_⟩ := ob h10_
      refine z_sa C h23_ (kM_8 hkd) dX12_hasOrder_32 ?_
      refine z_iload_n C 3 dX12_hasOrder_33 rfl rfl ?_
      refine z_iconst (v := 1) C dX12_hasOrder_34 ic_1 ?_
      refine z_aload_n C 0 dX12_hasOrder_35 rfl rfl ?_
      refine fg12_35 C hkd dX12_hasOrder_36 ?_
      refine z_iload C 4 dX12_hasOrder_39 rfl ?_
      obtain ⟨x24_, h25_, h10_⟩ := ob h10_
      refine z_ag C h25_ (kM_8 hkd) dX12_hasOrder_41 ?_
      refine z_shl C dX12_hasOrder_42 ?_
      refine z_iconst (v := (-1)) C dX12_hasOrder_43 ic_m1 ?_
      refine z_ixor C dX12_hasOrder_44 ?_
      refine z_iand C dX12_hasOrder_45 ?_
      obtain ⟨left26_, h27_, h10_⟩ := lt_ h10_
      refine z_istN C dX12_hasOrder_46 h27_ rfl (Nat.le_of_ble_eq_true rfl) rfl ?_
      obtain ⟨i28_, h29_, h10_⟩ := lt_ h10_
      refine z_inc C 4 dX12_hasOrder_47 rfl ic_1 h29_ (Nat.le_of_ble_eq_true rfl) rfl ?_
      refine z_goto C 16 dX12_hasOrder_50 (by decide) ?_
      refine Z.sub [2, 3, 4, 1, 0] rfl ?_
      exact h9_ _ _ _ h10_
    have K17_ : ¬ (i12_ < x1_) → Z Θ 7 0 0 (zQ Θ ρ) σ13_ 53 [(0, .ref (zA Θ 0)), (1, .int one_a), (2, .int x1_), (3, .int left11_), (4, .int i12_)] [] := by
      intro h19_
      rw [if_neg h19_] at h10_
      cases h10_
      exact K7_
    refine z_iload C 4 dX12_hasOrder_16 rfl ?_
    refine z_iload_n C 2 dX12_hasOrder_18 rfl rfl ?_
    refine c_lt_f C 53 dX12_hasOrder_19 (by decide) (fun h18_ => ?_) (fun h18_ => ?_)
    · exact K16_ h18_
    · exact K17_ h18_
  suffices K30_ : Z Θ 7 0 0 (zQ Θ ρ) y5_.2.2 62 [(0, .ref (zA Θ 0)), (1, .int one_a), (2, .int x1_), (3, .int y5_.1), (4, .int y5_.2.1)] [.int (b2i (decide (0 < x1_)))] by
    have K31_ : 0 < x1_ → Z Θ 7 0 0 (zQ Θ ρ) y5_.2.2 57 [(0, .ref (zA Θ 0)), (1, .int one_a), (2, .int x1_), (3, .int y5_.1), (4, .int y5_.2.1)] [] := by
      intro h34_
      rw [decide_eq_true h34_] at K30_
      refine z_iconst (v := 1) C dX12_hasOrder_57 ic_1 ?_
      refine z_goto C 62 dX12_hasOrder_58 (by decide) ?_
      exact K30_
    have K32_ : ¬ (0 < x1_) → Z Θ 7 0 0 (zQ Θ ρ) y5_.2.2 61 [(0, .ref (zA Θ 0)), (1, .int one_a), (2, .int x1_), (3, .int y5_.1), (4, .int y5_.2.1)] [] := by
      intro h34_
      rw [decide_eq_false h34_] at K30_
      refine z_iconst (v := 0) C dX12_hasOrder_61 ic_0 ?_
      exact K30_
    refine z_iload_n C 2 dX12_hasOrder_53 rfl rfl ?_
    refine c0_gt_f C 61 dX12_hasOrder_54 (by decide) (fun h33_ => ?_) (fun h33_ => ?_)
    · exact K31_ h33_
    · exact K32_ h33_
  obtain ⟨more35_, h36_, hf⟩ := lt_ hf
  refine z_ist C dX12_hasOrder_62 (congrArg b2i h36_) (Nat.le_of_ble_eq_true rfl) rfl ?_
  refine Z.sub [1, 2, 3, 4, 0] rfl ?_
  obtain ⟨y37_, h38_, hf⟩ := ob hf
  suffices K39_ : ∀ y37_r, y37_ = .inr y37_r → Z Θ 7 0 0 (zQ Θ ρ) y37_r.2 135 [(0, .ref (zA Θ 0)), (1, .int one_a), (2, .int x1_), (3, .int y5_.1), (4, .int (b2i y37_r.1))] [] by
    refine loop2_Z (P := fun (more43_ : Bool) (σ44_ : St) => Z Θ 7 0 0 (zQ Θ ρ) σ44_ 64 [(0, .ref (zA Θ 0)), (1, .int one_a), (2, .int x1_), (3, .int y5_.1), (4, .int (b2i more43_))] []) ?_ fuelN more35_ y5_.2.2 h38_
    clear h38_
    intro rec40_ more43_ σ44_ h41_ h42_
    have K47_ : more43_ = true → Z Θ 7 0 0 (zQ Θ ρ) σ44_ 69 [(0, .ref (zA Θ 0)), (1, .int one_a), (2, .int x1_), (3, .int y5_.1), (4, .int (b2i more43_))] [] := by
      intro h50_
      rw [if_pos h50_] at h42_
      refine z_aload_n C 0 dX12_hasOrder_69 rfl rfl ?_
      refine fg12_35 C hkd dX12_hasOrder_70 ?_
      refine z_iconst (v := 0) C dX12_hasOrder_73 ic_0 ?_
      obtain ⟨x51_, h52_, h42_⟩ := ob h42_
      refine z_ag C h52_ (kM_8 hkd) dX12_hasOrder_74 ?_
      refine z_ist C dX12_hasOrder_75 rfl (Nat.le_of_ble_eq_true rfl) rfl ?_
      refine z_iconst (v := 1) C dX12_hasOrder_77 ic_1 ?_
      refine z_ist C dX12_hasOrder_78 rfl (Nat.le_of_ble_eq_true rfl) rfl ?_
      refine Z.sub [2, 3, 4, 5, 6, 1, 0] rfl ?_
      obtain ⟨y53_, h54_, h42_⟩ := ob h42_
      suffices K55_ : Z Θ 7 0 0 (zQ Θ ρ) σ44_ 117 [(0, .ref (zA Θ 0)), (1, .int one_a), (2, .int x1_), (3, .int y5_.1), (4, .int (b2i more43_)), (5, .int y53_.1), (6, .int y53_.2)] [] by
        refine loop2_Z (P := fun (there59_ : Int32) (i60_ : Int32) => Z Θ 7 0 0 (zQ Θ ρ) σ44_ 80 [(0, .ref (zA Θ 0)), (1, .int one_a), (2, .int x1_), (3, .int y5_.1), (4, .int (b2i more43_)), (5, .int there59_), (6, .int i60_)] []) ?_ fuelN x51_ (1 : Int32) h54_
        clear h54_
        intro rec56_ there59_ i60_ h57_ h58_
        have K63_ : i60_ < x1_ → Z Θ 7 0 0 (zQ Θ ρ) σ44_ 86 [(0, .ref (zA Θ 0)), (1, .int one_a), (2, .int x1_), (3, .int y5_.1), (4, .int (b2i more43_)), (5, .int there59_), (6, .int i60_)] [] := by
          intro h66_
          rw [if_pos h66_] at h58_
          obtain ⟨y67_, h68_, h58_⟩ := ob h58_
          suffices K69_ : Z Θ 7 0 0 (zQ Θ ρ) σ44_ 111 [(0, .ref (zA Θ 0)), (1, .int one_a), (2, .int x1_), (3, .int y5_.1), (4, .int (b2i more43_)), (5, .int y67_), (6, .int i60_)] [] by
            refine z_aload_n C 0 dX12_hasOrder_86 rfl rfl ?_
            refine z_aload_n C 0 dX12_hasOrder_87 rfl rfl ?_
            refine fg12_35 C hkd dX12_hasOrder_88 ?_
            refine z_iload C 6 dX12_hasOrder_91 rfl ?_
            obtain ⟨x72_, h73_, h68_⟩ := ob h68_
            refine z_ag C h73_ (kM_8 hkd) dX12_hasOrder_93 ?_
            refine z_iload C 5 dX12_hasOrder_94 rfl ?_
            obtain ⟨x74_, h75_, h68_⟩ := ob h68_
            refine cr12_289 (a_a := x72_) (b_a := there59_) C hkd  h75_ ⟨(Nat.le_of_ble_eq_true rfl), (Nat.le_of_ble_eq_true rfl)⟩ (Nat.le_of_ble_eq_true rfl) ⟨Nat.zero_le _, Nat.zero_le _⟩ dX12_hasOrder_96 ?_
            have K70_ : x74_ = true → Z Θ 7 0 0 (zQ Θ ρ) σ44_ 102 [(0, .ref (zA Θ 0)), (1, .int one_a), (2, .int x1_), (3, .int y5_.1), (4, .int (b2i more43_)), (5, .int there59_), (6, .int i60_)] [] := by
              intro h77_
              rw [if_pos h77_] at h68_
              refine z_aload_n C 0 dX12_hasOrder_102 rfl rfl ?_
              refine fg12_35 C hkd dX12_hasOrder_103 ?_
              refine z_iload C 6 dX12_hasOrder_106 rfl ?_
              obtain ⟨x78_, h79_, h68_⟩ := ob h68_
              refine z_ag C h79_ (kM_8 hkd) dX12_hasOrder_108 ?_
              refine z_ist C dX12_hasOrder_109 rfl (Nat.le_of_ble_eq_true rfl) rfl ?_
              cases h68_
              refine Z.sub [1, 2, 3, 4, 5, 0, 6] rfl ?_
              exact K69_
            have K71_ : ¬ (x74_ = true) → Z Θ 7 0 0 (zQ Θ ρ) σ44_ 111 [(0, .ref (zA Θ 0)), (1, .int one_a), (2, .int x1_), (3, .int y5_.1), (4, .int (b2i more43_)), (5, .int there59_), (6, .int i60_)] [] := by
              intro h77_
              rw [if_neg h77_] at h68_
              cases h68_
              exact K69_
            refine cb_f C 111 dX12_hasOrder_99 (by decide) (fun h76_ => ?_) (fun h76_ => ?_)
            · exact K70_ h76_
            · exact K71_ h76_
          obtain ⟨i80_, h81_, h58_⟩ := lt_ h58_
          refine z_inc C 6 dX12_hasOrder_111 rfl ic_1 h81_ (Nat.le_of_ble_eq_true rfl) rfl ?_
          refine z_goto C 80 dX12_hasOrder_114 (by decide) ?_
          refine Z.sub [1, 2, 3, 4, 5, 6, 0] rfl ?_
          exact h57_ _ _ h58_
        have K64_ : ¬ (i60_ < x1_) → Z Θ 7 0 0 (zQ Θ ρ) σ44_ 117 [(0, .ref (zA Θ 0)), (1, .int one_a), (2, .int x1_), (3, .int y5_.1), (4, .int (b2i more43_)), (5, .int there59_), (6, .int i60_)] [] := by
          intro h66_
          rw [if_neg h66_] at h58_
          cases h58_
          exact K55_
        refine z_iload C 6 dX12_hasOrder_80 rfl ?_
        refine z_iload_n C 2 dX12_hasOrder_82 rfl rfl ?_
        refine c_lt_f C 117 dX12_hasOrder_83 (by decide) (fun h65_ => ?_) (fun h65_ => ?_)
        · exact K63_ h65_
        · exact K64_ h65_
      have K82_ : y53_.1 = one_a → Z Θ 7 0 0 (zQ Θ ρ) σ44_ 123 [(0, .ref (zA Θ 0)), (1, .int one_a), (2, .int x1_), (3, .int y5_.1), (4, .int (b2i more43_)), (5, .int y53_.1), (6, .int y53_.2)] [] := by
        intro h85_
        rw [if_pos h85_] at h42_
        refine z_iconst (v := 1) C dX12_hasOrder_123 ic_1 ?_
        rw [← Option.some.inj h42_] at hf
        replace hf : some (true, σ44_) = some r := hf
        cases hf
        subst hρ
        exact z_zret C (b2i_narrow _) dX12_hasOrder_124
      suffices K83_ : ¬ (y53_.1 = one_a) → Z Θ 7 0 0 (zQ Θ ρ) σ44_ 125 [(0, .ref (zA Θ 0)), (1, .int one_a), (2, .int x1_), (3, .int y5_.1), (4, .int (b2i more43_)), (5, .int y53_.1), (6, .int y53_.2)] [] by
        refine z_iload C 5 dX12_hasOrder_117 rfl ?_
        refine z_iload_n C 1 dX12_hasOrder_119 rfl rfl ?_
        refine c_eq_f C 125 dX12_hasOrder_120 (by decide) (fun h84_ => ?_) (fun h84_ => ?_)
        · exact K82_ h84_
        · exact K83_ h84_
      intro h85_
      rw [if_neg h85_] at h42_
      refine z_aload_n C 0 dX12_hasOrder_125 rfl rfl ?_
      refine z_iload_n C 2 dX12_hasOrder_126 rfl rfl ?_
      obtain ⟨x86_, h87_, h42_⟩ := ob h42_
      refine cr12_383 (n_a := x1_) C hkd  h87_ ⟨(Nat.le_of_ble_eq_true rfl), (Nat.le_of_ble_eq_true rfl)⟩ (Nat.le_of_ble_eq_true rfl) ⟨Nat.zero_le _, Nat.zero_le _⟩ dX12_hasOrder_127 ?_
      refine z_ist C dX12_hasOrder_130 rfl (Nat.le_of_ble_eq_true rfl) rfl ?_
      refine z_goto C 64 dX12_hasOrder_132 (by decide) ?_
      refine Z.sub [1, 2, 3, 4, 0] rfl ?_
      exact h41_ _ _ h42_
    have K48_ : ¬ (more43_ = true) → Z Θ 7 0 0 (zQ Θ ρ) σ44_ 135 [(0, .ref (zA Θ 0)), (1, .int one_a), (2, .int x1_), (3, .int y5_.1), (4, .int (b2i more43_))] [] := by
      intro h50_
      rw [if_neg h50_] at h42_
      exact K39_ _ (Option.some.inj h42_).symm
    refine z_iload C 4 dX12_hasOrder_64 rfl ?_
    refine cb_f C 135 dX12_hasOrder_66 (by decide) (fun h49_ => ?_) (fun h49_ => ?_)
    · exact K47_ h49_
    · exact K48_ h49_
  intro y37_r e9
  subst e9
  simp only [Sum.elim_inr] at hf
  refine z_iconst (v := 0) C dX12_hasOrder_135 ic_0 ?_
  cases hf
  subst hρ
  exact z_zret C (b2i_narrow _) dX12_hasOrder_136
theorem c12_hasOrder {l : Launch} {kd : List KD} {w : Wp} {σ : St} {one_a : Int32} (hkd : kd = kdM) (hi : zI kd w) {r : (Bool × St)} (hf : q12_hasOrder σ one_a = some r) : zM l kd w yX12_hasOrder cX12_hasOrder 7 (some .boolean) rm12_hasOrder [.ref (w.2.2.1 0), .int one_a] σ (some (.int (b2i r.1)), r.2) := zM_of rfl hi (Nat.le_of_ble_eq_true rfl) (fun Θ hl hw C => by
  obtain ⟨Θ1, Θ2, Θ3, Θ4, Θ5⟩ := Θ
  cases hw
  exact p12_hasOrder C hkd  hf rfl)
/-! LastLoafModel.orders -/
theorem w_10_43 : Cond.code ({ cls := "LastLoafModel", name := "hasOrder", desc := "(I)Z" } : MethodName) prog_14_method_93_code (7 : Nat) (Option.some ClassFile.FieldType.boolean) ∈ TB := tb_in (lwt_10 (List.mem_of_getElem? (i := 43) (by decide +kernel))) rfl
theorem w_10_40 : Cond.methodLink "LastLoafModel" (389 : Nat) ({ cls := "LastLoafModel", name := "hasOrder", desc := "(I)Z" } : MethodName) ∈ TB := tb_in (lwt_10 (List.mem_of_getElem? (i := 40) (by decide +kernel))) rfl
theorem w_10_42 : Cond.instanceMethod ({ cls := "LastLoafModel", name := "hasOrder", desc := "(I)Z" } : MethodName) ∈ TB := tb_in (lwt_10 (List.mem_of_getElem? (i := 42) (by decide +kernel))) rfl
theorem ws_LastLoafModel_hasOrder_I_Z : Cond.selects "LastLoafModel" (⟨"LastLoafModel", "hasOrder", "(I)Z"⟩ : MethodName) (⟨"LastLoafModel", "hasOrder", "(I)Z"⟩ : MethodName) ∈ TB := tb_in (List.mem_append_left _ (List.mem_of_getElem? (i := 76) (by decide +kernel))) rfl
theorem cr12_389 {Θ : Tz} {cc : ByteArray} {nL kc ks : Nat} {ret : Option FieldType} {rm : Room} {Q : State → Prop} {σ : St} {pc : Nat} {lv : List (Nat × Value)} {st : List Value} (C : Zc Θ cc nL RX12 ret rm) (hkd : Θ.2.2.2.2.1 = kdM) {one_a : Int32} {r : Bool × St} (hx : q12_hasOrder σ one_a = some r) (hrm : rm12_hasOrder.frames + 1 ≤ rm.frames ∧ 8 + (7 + 11) + rm12_hasOrder.locals ≤ rm.locals) (hcat : (st.map fun v => v.category).sum ≤ 8) (hk : kc ≤ rm.cells ∧ ks ≤ rm.slots) (hd : decode cc pc = .ok (.invokevirtual 389, 3)) (kk : Z Θ nL kc ks Q r.2 (pc + 3) lv (.int (b2i r.1) :: st)) : Z Θ nL kc ks Q σ pc lv (.int one_a :: .ref (zA Θ 0) :: st) := z_callV C 0 [.int one_a] (some (.int (b2i r.1)), r.2) 1 (kM_0 hkd) rfl (c12_hasOrder (one_a := one_a) hkd (zc_inj C) hx) w_10_43 w_10_40 w_10_42 ws_LastLoafModel_hasOrder_I_Z w_1_14 ⟨rfl, rfl, hrm.1, hrm.2⟩ (by decide +kernel) rfl rfl hcat hk hd kk
theorem dX12_orders_0 : decode cX12_orders 0 = .ok (.aload_n 0, 1) := by decide +kernel
theorem dX12_orders_1 : decode cX12_orders 1 = .ok (.iconst 0, 1) := by decide +kernel
theorem dX12_orders_2 : decode cX12_orders 2 = .ok (.putfield 65, 3) := by decide +kernel
theorem dX12_orders_5 : decode cX12_orders 5 = .ok (.aload_n 0, 1) := by decide +kernel
theorem dX12_orders_6 : decode cX12_orders 6 = .ok (.invokevirtual 320, 3) := by decide +kernel
theorem dX12_orders_9 : decode cX12_orders 9 = .ok (.iconst 0, 1) := by decide +kernel
theorem dX12_orders_10 : decode cX12_orders 10 = .ok (.istore_n 1, 1) := by decide +kernel
theorem dX12_orders_11 : decode cX12_orders 11 = .ok (.iconst 0, 1) := by decide +kernel
theorem dX12_orders_12 : decode cX12_orders 12 = .ok (.istore_n 2, 1) := by decide +kernel
theorem dX12_orders_13 : decode cX12_orders 13 = .ok (.iload_n 2, 1) := by decide +kernel
theorem dX12_orders_14 : decode cX12_orders 14 = .ok (.aload_n 0, 1) := by decide +kernel
theorem dX12_orders_15 : decode cX12_orders 15 = .ok (.getfield 7, 3) := by decide +kernel
theorem dX12_orders_18 : decode cX12_orders 18 = .ok (.iconst 3, 1) := by decide +kernel
theorem dX12_orders_19 : decode cX12_orders 19 = .ok (.iaload, 1) := by decide +kernel
theorem dX12_orders_20 : decode cX12_orders 20 = .ok (.if_icmp .ge 38, 3) := by decide +kernel
theorem dX12_orders_23 : decode cX12_orders 23 = .ok (.iload_n 1, 1) := by decide +kernel
theorem dX12_orders_24 : decode cX12_orders 24 = .ok (.aload_n 0, 1) := by decide +kernel
theorem dX12_orders_25 : decode cX12_orders 25 = .ok (.getfield 269, 3) := by decide +kernel
theorem dX12_orders_28 : decode cX12_orders 28 = .ok (.iload_n 2, 1) := by decide +kernel
theorem dX12_orders_29 : decode cX12_orders 29 = .ok (.invokestatic 275, 3) := by decide +kernel
theorem dX12_orders_32 : decode cX12_orders 32 = .ok (.ifCond .eq 17, 3) := by decide +kernel
theorem dX12_orders_35 : decode cX12_orders 35 = .ok (.aload_n 0, 1) := by decide +kernel
theorem dX12_orders_36 : decode cX12_orders 36 = .ok (.iload_n 2, 1) := by decide +kernel
theorem dX12_orders_37 : decode cX12_orders 37 = .ok (.invokevirtual 389, 3) := by decide +kernel
theorem dX12_orders_40 : decode cX12_orders 40 = .ok (.ifCond .eq 9, 3) := by decide +kernel
theorem dX12_orders_43 : decode cX12_orders 43 = .ok (.iconst 1, 1) := by decide +kernel
theorem dX12_orders_44 : decode cX12_orders 44 = .ok (.iload_n 2, 1) := by decide +kernel
theorem dX12_orders_45 : decode cX12_orders 45 = .ok (.ishl, 1) := by decide +kernel
theorem dX12_orders_46 : decode cX12_orders 46 = .ok (.goto 4, 3) := by decide +kernel
theorem dX12_orders_49 : decode cX12_orders 49 = .ok (.iconst 0, 1) := by decide +kernel
theorem dX12_orders_50 : decode cX12_orders 50 = .ok (.ior, 1) := by decide +kernel
theorem dX12_orders_51 : decode cX12_orders 51 = .ok (.istore_n 1, 1) := by decide +kernel
theorem dX12_orders_52 : decode cX12_orders 52 = .ok (.iinc 2 1, 3) := by decide +kernel
theorem dX12_orders_55 : decode cX12_orders 55 = .ok (.goto (-42), 3) := by decide +kernel
theorem dX12_orders_58 : decode cX12_orders 58 = .ok (.iload_n 1, 1) := by decide +kernel
theorem dX12_orders_59 : decode cX12_orders 59 = .ok (.ireturn, 1) := by decide +kernel
def q12_orders (σ : St) : Option (Int32 × St) :=
  lt (up σ 0 0 0) fun σ1_ =>
  Option.bind (q12_looks σ1_) fun x3_ =>
  Option.bind (loop3 (fun rec8_ (set11_ : Int32) (p12_ : Int32) (σ13_ : St) =>
  Option.bind (ag σ13_ 1 752 3) fun x18_ =>
  if p12_ < x18_ then
  Option.bind (Option.bind (if q12_isOf (σ13_ 0 21) p12_ = true then (Option.bind (q12_hasOrder σ13_ p12_) fun x30_ =>
  if x30_.1 = true then (some (true, x30_.2)) else (some (false, x30_.2))) else (some (false, σ13_))) fun t27_ =>
  if t27_.1 = true then (some (shl 1 p12_, t27_.2)) else (some ((0 : Int32), t27_.2))) fun x22_ =>
  lt (set11_ ||| x22_.1) fun set34_ =>
  lt (p12_ + 1) fun p36_ =>
  rec8_ set34_ p36_ x22_.2
  else (some (set11_, p12_, σ13_))) fuelN (0 : Int32) (0 : Int32) x3_) fun y5_ =>
  some (y5_.1, y5_.2.2)
abbrev rm12_orders : Room := { frames := 77, cells := 0, slots := 0, locals := 4194 }
set_option maxHeartbeats 4000000 in
set_option maxRecDepth 100000 in
theorem p12_orders {Θ : Tz} {σ : St} {ρ : Option Value × St} (C : Zc Θ cX12_orders 3 RX12 (some .int) rm12_orders) (hkd : Θ.2.2.2.2.1 = kdM) {r : (Int32 × St)} (hf : q12_orders σ = some r) (hρ : ρ = (some (.int r.1), r.2)) : Z Θ 3 0 0 (zQ Θ ρ) σ 0 [(0, .ref (zA Θ 0))] [] := by
  unfold q12_orders at hf
  refine z_aload_n C 0 dX12_orders_0 rfl rfl ?_
  refine z_iconst (v := 0) C dX12_orders_1 ic_0 ?_
  obtain ⟨σ1_, h2_, hf⟩ := lt_ hf
  refine fp12_65 C hkd h2_ dX12_orders_2 ?_
  refine z_aload_n C 0 dX12_orders_5 rfl rfl ?_
  obtain ⟨x3_, h4_, hf⟩ := ob hf
  refine cr12_320 C hkd  h4_ ⟨(Nat.le_of_ble_eq_true rfl), (Nat.le_of_ble_eq_true rfl)⟩ (Nat.le_of_ble_eq_true rfl) ⟨Nat.zero_le _, Nat.zero_le _⟩ dX12_orders_6 ?_
  refine z_iconst (v := 0) C dX12_orders_9 ic_0 ?_
  refine z_istN C dX12_orders_10 rfl rfl (Nat.le_of_ble_eq_true rfl) rfl ?_
  refine z_iconst (v := 0) C dX12_orders_11 ic_0 ?_
  refine z_istN C dX12_orders_12 rfl rfl (Nat.le_of_ble_eq_true rfl) rfl ?_
  refine Z.sub [2, 1, 0] rfl ?_
  obtain ⟨y5_, h6_, hf⟩ := ob hf
  suffices K7_ : Z Θ 3 0 0 (zQ Θ ρ) y5_.2.2 58 [(0, .ref (zA Θ 0)), (1, .int y5_.1), (2, .int y5_.2.1)] [] by
    refine loop3_Z (P := fun (set11_ : Int32) (p12_ : Int32) (σ13_ : St) => Z Θ 3 0 0 (zQ Θ ρ) σ13_ 13 [(0, .ref (zA Θ 0)), (1, .int set11_), (2, .int p12_)] []) ?_ fuelN (0 : Int32) (0 : Int32) x3_ h6_
    clear h6_
    intro rec8_ set11_ p12_ σ13_ h9_ h10_
    refine z_iload_n C 2 dX12_orders_13 rfl rfl ?_
    refine z_aload_n C 0 dX12_orders_14 rfl rfl ?_
    refine fg12_7 C hkd dX12_orders_15 ?_
    refine z_iconst (v := 3) C dX12_orders_18 ic_3 ?_
    obtain ⟨x18_, h19_, h10_⟩ := ob h10_
    refine z_ag C h19_ (kM_1 hkd) dX12_orders_19 ?_
    have K16_ : p12_ < x18_ → Z Θ 3 0 0 (zQ Θ ρ) σ13_ 23 [(0, .ref (zA Θ 0)), (1, .int set11_), (2, .int p12_)] [] := by
      intro h21_
      rw [if_pos h21_] at h10_
      refine z_iload_n C 1 dX12_orders_23 rfl rfl ?_
      obtain ⟨x22_, h23_, h10_⟩ := ob h10_
      suffices K24_ : Z Θ 3 0 0 (zQ Θ ρ) x22_.2 50 [(0, .ref (zA Θ 0)), (1, .int set11_), (2, .int p12_)] [.int x22_.1, .int set11_] by
        obtain ⟨t27_, h28_, h23_⟩ := ob h23_
        have K25_ : t27_.1 = true → Z Θ 3 0 0 (zQ Θ ρ) t27_.2 43 [(0, .ref (zA Θ 0)), (1, .int set11_), (2, .int p12_)] [.int set11_] := by
          intro h33_
          rw [if_pos h33_] at h23_
          refine z_iconst (v := 1) C dX12_orders_43 ic_1 ?_
          refine z_iload_n C 2 dX12_orders_44 rfl rfl ?_
          refine z_shl C dX12_orders_45 ?_
          refine z_goto C 50 dX12_orders_46 (by decide) ?_
          cases h23_
          exact K24_
        have K26_ : ¬ (t27_.1 = true) → Z Θ 3 0 0 (zQ Θ ρ) t27_.2 49 [(0, .ref (zA Θ 0)), (1, .int set11_), (2, .int p12_)] [.int set11_] := by
          intro h33_
          rw [if_neg h33_] at h23_
          refine z_iconst (v := 0) C dX12_orders_49 ic_0 ?_
          cases h23_
          exact K24_
        refine z_aload_n C 0 dX12_orders_24 rfl rfl ?_
        refine fg12_269 C hkd dX12_orders_25 ?_
        refine z_iload_n C 2 dX12_orders_28 rfl rfl ?_
        refine cr12_275 (set_a := (σ13_ 0 21)) (k_a := p12_) C hkd  ⟨(Nat.le_of_ble_eq_true rfl), (Nat.le_of_ble_eq_true rfl)⟩ (Nat.le_of_ble_eq_true rfl) ⟨Nat.zero_le _, Nat.zero_le _⟩ dX12_orders_29 ?_
        refine cb_f C 49 dX12_orders_32 (by decide) (fun h29_ => ?_) (fun h29_ => ?_)
        · rw [if_pos h29_] at h28_
          refine z_aload_n C 0 dX12_orders_35 rfl rfl ?_
          refine z_iload_n C 2 dX12_orders_36 rfl rfl ?_
          obtain ⟨x30_, h31_, h28_⟩ := ob h28_
          refine cr12_389 (one_a := p12_) C hkd  h31_ ⟨(Nat.le_of_ble_eq_true rfl), (Nat.le_of_ble_eq_true rfl)⟩ (Nat.le_of_ble_eq_true rfl) ⟨Nat.zero_le _, Nat.zero_le _⟩ dX12_orders_37 ?_
          refine cb_f C 49 dX12_orders_40 (by decide) (fun h32_ => ?_) (fun h32_ => ?_)
          · rw [if_pos h32_] at h28_
            cases h28_
            exact K25_ rfl
          · rw [if_neg h32_] at h28_
            cases h28_
            exact K26_ Bool.false_ne_true
        · rw [if_neg h29_] at h28_
          cases h28_
          exact K26_ Bool.false_ne_true
      refine z_ior C dX12_orders_50 ?_
      obtain ⟨set34_, h35_, h10_⟩ := lt_ h10_
      refine z_istN C dX12_orders_51 h35_ rfl (Nat.le_of_ble_eq_true rfl) rfl ?_
      obtain ⟨p36_, h37_, h10_⟩ := lt_ h10_
      refine z_inc C 2 dX12_orders_52 rfl ic_1 h37_ (Nat.le_of_ble_eq_true rfl) rfl ?_
      refine z_goto C 13 dX12_orders_55 (by decide) ?_
      refine Z.sub [2, 1, 0] rfl ?_
      exact h9_ _ _ _ h10_
    have K17_ : ¬ (p12_ < x18_) → Z Θ 3 0 0 (zQ Θ ρ) σ13_ 58 [(0, .ref (zA Θ 0)), (1, .int set11_), (2, .int p12_)] [] := by
      intro h21_
      rw [if_neg h21_] at h10_
      cases h10_
      exact K7_
    refine c_lt_f C 58 dX12_orders_20 (by decide) (fun h20_ => ?_) (fun h20_ => ?_)
    · exact K16_ h20_
    · exact K17_ h20_
  refine z_iload_n C 1 dX12_orders_58 rfl rfl ?_
  cases hf
  subst hρ
  exact z_iret C dX12_orders_59
theorem c12_orders {l : Launch} {kd : List KD} {w : Wp} {σ : St} (hkd : kd = kdM) (hi : zI kd w) {r : (Int32 × St)} (hf : q12_orders σ = some r) : zM l kd w yX12_orders cX12_orders 3 (some .int) rm12_orders [.ref (w.2.2.1 0)] σ (some (.int r.1), r.2) := zM_of rfl hi (Nat.le_of_ble_eq_true rfl) (fun Θ hl hw C => by
  obtain ⟨Θ1, Θ2, Θ3, Θ4, Θ5⟩ := Θ
  cases hw
  exact p12_orders C hkd  hf rfl)
/-! LastLoafModel.order -/
theorem dX12_order_0 : decode cX12_order 0 = .ok (.aload_n 0, 1) := by decide +kernel
theorem dX12_order_1 : decode cX12_order 1 = .ok (.aload_n 0, 1) := by decide +kernel
theorem dX12_order_2 : decode cX12_order 2 = .ok (.iload_n 1, 1) := by decide +kernel
theorem dX12_order_3 : decode cX12_order 3 = .ok (.invokevirtual 347, 3) := by decide +kernel
theorem dX12_order_6 : decode cX12_order 6 = .ok (.ifCond .ne 7, 3) := by decide +kernel
theorem dX12_order_9 : decode cX12_order 9 = .ok (.iconst 1, 1) := by decide +kernel
theorem dX12_order_10 : decode cX12_order 10 = .ok (.goto 4, 3) := by decide +kernel
theorem dX12_order_13 : decode cX12_order 13 = .ok (.iconst 0, 1) := by decide +kernel
theorem dX12_order_14 : decode cX12_order 14 = .ok (.putfield 65, 3) := by decide +kernel
theorem dX12_order_17 : decode cX12_order 17 = .ok (.aload_n 0, 1) := by decide +kernel
theorem dX12_order_18 : decode cX12_order 18 = .ok (.getfield 65, 3) := by decide +kernel
theorem dX12_order_21 : decode cX12_order 21 = .ok (.ifCond .le 5, 3) := by decide +kernel
theorem dX12_order_24 : decode cX12_order 24 = .ok (.iconst 0, 1) := by decide +kernel
theorem dX12_order_25 : decode cX12_order 25 = .ok (.ireturn, 1) := by decide +kernel
theorem dX12_order_26 : decode cX12_order 26 = .ok (.aload_n 0, 1) := by decide +kernel
theorem dX12_order_27 : decode cX12_order 27 = .ok (.invokevirtual 320, 3) := by decide +kernel
theorem dX12_order_30 : decode cX12_order 30 = .ok (.aload_n 0, 1) := by decide +kernel
theorem dX12_order_31 : decode cX12_order 31 = .ok (.getfield 269, 3) := by decide +kernel
theorem dX12_order_34 : decode cX12_order 34 = .ok (.iload_n 1, 1) := by decide +kernel
theorem dX12_order_35 : decode cX12_order 35 = .ok (.invokestatic 275, 3) := by decide +kernel
theorem dX12_order_38 : decode cX12_order 38 = .ok (.ifCond .eq 37, 3) := by decide +kernel
theorem dX12_order_41 : decode cX12_order 41 = .ok (.aload_n 0, 1) := by decide +kernel
theorem dX12_order_42 : decode cX12_order 42 = .ok (.iload_n 1, 1) := by decide +kernel
theorem dX12_order_43 : decode cX12_order 43 = .ok (.invokevirtual 389, 3) := by decide +kernel
theorem dX12_order_46 : decode cX12_order 46 = .ok (.ifCond .eq 29, 3) := by decide +kernel
theorem dX12_order_49 : decode cX12_order 49 = .ok (.iload_n 2, 1) := by decide +kernel
theorem dX12_order_50 : decode cX12_order 50 = .ok (.iconst 0, 1) := by decide +kernel
theorem dX12_order_51 : decode cX12_order 51 = .ok (.aload_n 0, 1) := by decide +kernel
theorem dX12_order_52 : decode cX12_order 52 = .ok (.getfield 269, 3) := by decide +kernel
theorem dX12_order_55 : decode cX12_order 55 = .ok (.invokestatic 286, 3) := by decide +kernel
theorem dX12_order_58 : decode cX12_order 58 = .ok (.iconst 1, 1) := by decide +kernel
theorem dX12_order_59 : decode cX12_order 59 = .ok (.isub, 1) := by decide +kernel
theorem dX12_order_60 : decode cX12_order 60 = .ok (.invokestatic 68, 3) := by decide +kernel
theorem dX12_order_63 : decode cX12_order 63 = .ok (.ifCond .eq 12, 3) := by decide +kernel
theorem dX12_order_66 : decode cX12_order 66 = .ok (.aload_n 0, 1) := by decide +kernel
theorem dX12_order_67 : decode cX12_order 67 = .ok (.getfield 35, 3) := by decide +kernel
theorem dX12_order_70 : decode cX12_order 70 = .ok (.iload_n 2, 1) := by decide +kernel
theorem dX12_order_71 : decode cX12_order 71 = .ok (.iaload, 1) := by decide +kernel
theorem dX12_order_72 : decode cX12_order 72 = .ok (.goto 4, 3) := by decide +kernel
theorem dX12_order_75 : decode cX12_order 75 = .ok (.iconst (-1), 1) := by decide +kernel
theorem dX12_order_76 : decode cX12_order 76 = .ok (.ireturn, 1) := by decide +kernel
def q12_order (σ : St) (p_a : Int32) (k_a : Int32) : Option (Int32 × St) :=
  Option.bind (Option.bind (q12_isOne σ p_a) fun x6_ =>
  if ¬ (x6_ = true) then (some (1 : Int32)) else (some (0 : Int32))) fun x1_ =>
  lt (up σ 0 0 x1_) fun σ10_ =>
  if 0 < (σ10_ 0 0) then (some (0, σ10_)) else
  Option.bind (q12_looks σ10_) fun x16_ =>
  Option.bind (Option.bind (if q12_isOf (x16_ 0 21) p_a = true then (Option.bind (q12_hasOrder x16_ p_a) fun x26_ =>
  if x26_.1 = true then (Option.bind (q12_bits (x26_.2 0 21)) fun x29_ =>
  if q12_isIn k_a 0 (x29_ - 1) = true then (some (true, x26_.2)) else (some (false, x26_.2))) else (some (false, x26_.2))) else (some (false, x16_))) fun t23_ =>
  if t23_.1 = true then (Option.bind (ag t23_.2 8 7 k_a) fun x32_ =>
  some (x32_, t23_.2)) else (some ((-1 : Int32), t23_.2))) fun x18_ =>
  some (x18_.1, x18_.2)
abbrev rm12_order : Room := { frames := 77, cells := 0, slots := 0, locals := 4194 }
set_option maxHeartbeats 4000000 in
set_option maxRecDepth 100000 in
theorem p12_order {Θ : Tz} {σ : St} {ρ : Option Value × St} (C : Zc Θ cX12_order 3 RX12 (some .int) rm12_order) (hkd : Θ.2.2.2.2.1 = kdM) {p_a : Int32} {k_a : Int32} {r : (Int32 × St)} (hf : q12_order σ p_a k_a = some r) (hρ : ρ = (some (.int r.1), r.2)) : Z Θ 3 0 0 (zQ Θ ρ) σ 0 [(0, .ref (zA Θ 0)), (1, .int p_a), (2, .int k_a)] [] := by
  unfold q12_order at hf
  refine z_aload_n C 0 dX12_order_0 rfl rfl ?_
  obtain ⟨x1_, h2_, hf⟩ := ob hf
  suffices K3_ : Z Θ 3 0 0 (zQ Θ ρ) σ 14 [(0, .ref (zA Θ 0)), (1, .int p_a), (2, .int k_a)] [.int x1_, .ref (zA Θ 0)] by
    refine z_aload_n C 0 dX12_order_1 rfl rfl ?_
    refine z_iload_n C 1 dX12_order_2 rfl rfl ?_
    obtain ⟨x6_, h7_, h2_⟩ := ob h2_
    refine cr12_347 (p_a := p_a) C hkd  h7_ ⟨(Nat.le_of_ble_eq_true rfl), (Nat.le_of_ble_eq_true rfl)⟩ (Nat.le_of_ble_eq_true rfl) ⟨Nat.zero_le _, Nat.zero_le _⟩ dX12_order_3 ?_
    have K4_ : ¬ (x6_ = true) → Z Θ 3 0 0 (zQ Θ ρ) σ 9 [(0, .ref (zA Θ 0)), (1, .int p_a), (2, .int k_a)] [.ref (zA Θ 0)] := by
      intro h9_
      rw [if_pos h9_] at h2_
      refine z_iconst (v := 1) C dX12_order_9 ic_1 ?_
      refine z_goto C 14 dX12_order_10 (by decide) ?_
      cases h2_
      exact K3_
    have K5_ : ¬ (¬ (x6_ = true)) → Z Θ 3 0 0 (zQ Θ ρ) σ 13 [(0, .ref (zA Θ 0)), (1, .int p_a), (2, .int k_a)] [.ref (zA Θ 0)] := by
      intro h9_
      rw [if_neg h9_] at h2_
      refine z_iconst (v := 0) C dX12_order_13 ic_0 ?_
      cases h2_
      exact K3_
    refine cb_t C 13 dX12_order_6 (by decide) (fun h8_ => ?_) (fun h8_ => ?_)
    · exact K5_ (fun n => n h8_)
    · exact K4_ h8_
  obtain ⟨σ10_, h11_, hf⟩ := lt_ hf
  refine fp12_65 C hkd h11_ dX12_order_14 ?_
  have K12_ : 0 < (σ10_ 0 0) → Z Θ 3 0 0 (zQ Θ ρ) σ10_ 24 [(0, .ref (zA Θ 0)), (1, .int p_a), (2, .int k_a)] [] := by
    intro h15_
    rw [if_pos h15_] at hf
    refine z_iconst (v := 0) C dX12_order_24 ic_0 ?_
    cases hf
    subst hρ
    exact z_iret C dX12_order_25
  suffices K13_ : ¬ (0 < (σ10_ 0 0)) → Z Θ 3 0 0 (zQ Θ ρ) σ10_ 26 [(0, .ref (zA Θ 0)), (1, .int p_a), (2, .int k_a)] [] by
    refine z_aload_n C 0 dX12_order_17 rfl rfl ?_
    refine fg12_65 C hkd dX12_order_18 ?_
    refine c0_gt_f C 26 dX12_order_21 (by decide) (fun h14_ => ?_) (fun h14_ => ?_)
    · exact K12_ h14_
    · exact K13_ h14_
  intro h15_
  rw [if_neg h15_] at hf
  refine z_aload_n C 0 dX12_order_26 rfl rfl ?_
  obtain ⟨x16_, h17_, hf⟩ := ob hf
  refine cr12_320 C hkd  h17_ ⟨(Nat.le_of_ble_eq_true rfl), (Nat.le_of_ble_eq_true rfl)⟩ (Nat.le_of_ble_eq_true rfl) ⟨Nat.zero_le _, Nat.zero_le _⟩ dX12_order_27 ?_
  obtain ⟨x18_, h19_, hf⟩ := ob hf
  suffices K20_ : Z Θ 3 0 0 (zQ Θ ρ) x18_.2 76 [(0, .ref (zA Θ 0)), (1, .int p_a), (2, .int k_a)] [.int x18_.1] by
    obtain ⟨t23_, h24_, h19_⟩ := ob h19_
    have K21_ : t23_.1 = true → Z Θ 3 0 0 (zQ Θ ρ) t23_.2 66 [(0, .ref (zA Θ 0)), (1, .int p_a), (2, .int k_a)] [] := by
      intro h34_
      rw [if_pos h34_] at h19_
      refine z_aload_n C 0 dX12_order_66 rfl rfl ?_
      refine fg12_35 C hkd dX12_order_67 ?_
      refine z_iload_n C 2 dX12_order_70 rfl rfl ?_
      obtain ⟨x32_, h33_, h19_⟩ := ob h19_
      refine z_ag C h33_ (kM_8 hkd) dX12_order_71 ?_
      refine z_goto C 76 dX12_order_72 (by decide) ?_
      cases h19_
      exact K20_
    have K22_ : ¬ (t23_.1 = true) → Z Θ 3 0 0 (zQ Θ ρ) t23_.2 75 [(0, .ref (zA Θ 0)), (1, .int p_a), (2, .int k_a)] [] := by
      intro h34_
      rw [if_neg h34_] at h19_
      refine z_iconst (v := (-1)) C dX12_order_75 ic_m1 ?_
      cases h19_
      exact K20_
    refine z_aload_n C 0 dX12_order_30 rfl rfl ?_
    refine fg12_269 C hkd dX12_order_31 ?_
    refine z_iload_n C 1 dX12_order_34 rfl rfl ?_
    refine cr12_275 (set_a := (x16_ 0 21)) (k_a := p_a) C hkd  ⟨(Nat.le_of_ble_eq_true rfl), (Nat.le_of_ble_eq_true rfl)⟩ (Nat.le_of_ble_eq_true rfl) ⟨Nat.zero_le _, Nat.zero_le _⟩ dX12_order_35 ?_
    refine cb_f C 75 dX12_order_38 (by decide) (fun h25_ => ?_) (fun h25_ => ?_)
    · rw [if_pos h25_] at h24_
      refine z_aload_n C 0 dX12_order_41 rfl rfl ?_
      refine z_iload_n C 1 dX12_order_42 rfl rfl ?_
      obtain ⟨x26_, h27_, h24_⟩ := ob h24_
      refine cr12_389 (one_a := p_a) C hkd  h27_ ⟨(Nat.le_of_ble_eq_true rfl), (Nat.le_of_ble_eq_true rfl)⟩ (Nat.le_of_ble_eq_true rfl) ⟨Nat.zero_le _, Nat.zero_le _⟩ dX12_order_43 ?_
      refine cb_f C 75 dX12_order_46 (by decide) (fun h28_ => ?_) (fun h28_ => ?_)
      · rw [if_pos h28_] at h24_
        refine z_iload_n C 2 dX12_order_49 rfl rfl ?_
        refine z_iconst (v := 0) C dX12_order_50 ic_0 ?_
        refine z_aload_n C 0 dX12_order_51 rfl rfl ?_
        refine fg12_269 C hkd dX12_order_52 ?_
        obtain ⟨x29_, h30_, h24_⟩ := ob h24_
        refine cr12_286 (set_a := (x26_.2 0 21)) C hkd  h30_ ⟨(Nat.le_of_ble_eq_true rfl), (Nat.le_of_ble_eq_true rfl)⟩ (Nat.le_of_ble_eq_true rfl) ⟨Nat.zero_le _, Nat.zero_le _⟩ dX12_order_55 ?_
        refine z_iconst (v := 1) C dX12_order_58 ic_1 ?_
        refine z_isub C dX12_order_59 ?_
        refine cr12_68 (v_a := k_a) (low_a := 0) (high_a := (x29_ - 1)) C hkd  ⟨(Nat.le_of_ble_eq_true rfl), (Nat.le_of_ble_eq_true rfl)⟩ (Nat.le_of_ble_eq_true rfl) ⟨Nat.zero_le _, Nat.zero_le _⟩ dX12_order_60 ?_
        refine cb_f C 75 dX12_order_63 (by decide) (fun h31_ => ?_) (fun h31_ => ?_)
        · rw [if_pos h31_] at h24_
          cases h24_
          exact K21_ rfl
        · rw [if_neg h31_] at h24_
          cases h24_
          exact K22_ Bool.false_ne_true
      · rw [if_neg h28_] at h24_
        cases h24_
        exact K22_ Bool.false_ne_true
    · rw [if_neg h25_] at h24_
      cases h24_
      exact K22_ Bool.false_ne_true
  cases hf
  subst hρ
  exact z_iret C dX12_order_76
theorem c12_order {l : Launch} {kd : List KD} {w : Wp} {σ : St} {p_a : Int32} {k_a : Int32} (hkd : kd = kdM) (hi : zI kd w) {r : (Int32 × St)} (hf : q12_order σ p_a k_a = some r) : zM l kd w yX12_order cX12_order 3 (some .int) rm12_order [.ref (w.2.2.1 0), .int p_a, .int k_a] σ (some (.int r.1), r.2) := zM_of rfl hi (Nat.le_of_ble_eq_true rfl) (fun Θ hl hw C => by
  obtain ⟨Θ1, Θ2, Θ3, Θ4, Θ5⟩ := Θ
  cases hw
  exact p12_order C hkd  hf rfl)
/-! LastLoafModel.turns -/
theorem w_8_53 : Cond.fieldLink "LastLoafModel" (47 : Nat) "LastLoafModel" "flours" "[I" ∈ TB := tb_in (lwt_8 (List.mem_of_getElem? (i := 53) (by decide +kernel))) rfl
theorem fg12_47 {Θ : Tz} {cc : ByteArray} {nL kc ks : Nat} {ret : Option FieldType} {rm : Room} {Q : State → Prop} {σ : St} {pc : Nat} {lv : List (Nat × Value)} {st : List Value} (C : Zc Θ cc nL RX12 ret rm) (hkd : Θ.2.2.2.2.1 = kdM) (hd : decode cc pc = .ok (.getfield 47, 3)) (kk : Z Θ nL kc ks Q σ (pc + 3) lv (.ref (zA Θ 12) :: st)) : Z Θ nL kc ks Q σ pc lv (.ref (zA Θ 0) :: st) := z_get C inT12 0 (kM_0 hkd) rfl 26 (by decide) w_8_53 rfl hd kk
theorem w_8_52 : Cond.fieldLink "LastLoafModel" (44 : Nat) "LastLoafModel" "benched" "[I" ∈ TB := tb_in (lwt_8 (List.mem_of_getElem? (i := 52) (by decide +kernel))) rfl
theorem fg12_44 {Θ : Tz} {cc : ByteArray} {nL kc ks : Nat} {ret : Option FieldType} {rm : Room} {Q : State → Prop} {σ : St} {pc : Nat} {lv : List (Nat × Value)} {st : List Value} (C : Zc Θ cc nL RX12 ret rm) (hkd : Θ.2.2.2.2.1 = kdM) (hd : decode cc pc = .ok (.getfield 44, 3)) (kk : Z Θ nL kc ks Q σ (pc + 3) lv (.ref (zA Θ 11) :: st)) : Z Θ nL kc ks Q σ pc lv (.ref (zA Θ 0) :: st) := z_get C inT12 0 (kM_0 hkd) rfl 25 (by decide) w_8_52 rfl hd kk
theorem w_8_51 : Cond.fieldLink "LastLoafModel" (41 : Nat) "LastLoafModel" "hungers" "[I" ∈ TB := tb_in (lwt_8 (List.mem_of_getElem? (i := 51) (by decide +kernel))) rfl
theorem fg12_41 {Θ : Tz} {cc : ByteArray} {nL kc ks : Nat} {ret : Option FieldType} {rm : Room} {Q : State → Prop} {σ : St} {pc : Nat} {lv : List (Nat × Value)} {st : List Value} (C : Zc Θ cc nL RX12 ret rm) (hkd : Θ.2.2.2.2.1 = kdM) (hd : decode cc pc = .ok (.getfield 41, 3)) (kk : Z Θ nL kc ks Q σ (pc + 3) lv (.ref (zA Θ 10) :: st)) : Z Θ nL kc ks Q σ pc lv (.ref (zA Θ 0) :: st) := z_get C inT12 0 (kM_0 hkd) rfl 24 (by decide) w_8_51 rfl hd kk
theorem dX12_turns_0 : decode cX12_turns 0 = .ok (.sipush 9999, 3) := by decide +kernel
theorem dX12_turns_3 : decode cX12_turns 3 = .ok (.aload_n 0, 1) := by decide +kernel
theorem dX12_turns_4 : decode cX12_turns 4 = .ok (.getfield 47, 3) := by decide +kernel
theorem dX12_turns_7 : decode cX12_turns 7 = .ok (.iload_n 1, 1) := by decide +kernel
theorem dX12_turns_8 : decode cX12_turns 8 = .ok (.iaload, 1) := by decide +kernel
theorem dX12_turns_9 : decode cX12_turns 9 = .ok (.aload_n 0, 1) := by decide +kernel
theorem dX12_turns_10 : decode cX12_turns 10 = .ok (.getfield 7, 3) := by decide +kernel
theorem dX12_turns_13 : decode cX12_turns 13 = .ok (.bipush 10, 2) := by decide +kernel
theorem dX12_turns_15 : decode cX12_turns 15 = .ok (.sipush 9999, 3) := by decide +kernel
theorem dX12_turns_18 : decode cX12_turns 18 = .ok (.aload_n 0, 1) := by decide +kernel
theorem dX12_turns_19 : decode cX12_turns 19 = .ok (.getfield 7, 3) := by decide +kernel
theorem dX12_turns_22 : decode cX12_turns 22 = .ok (.iconst 4, 1) := by decide +kernel
theorem dX12_turns_23 : decode cX12_turns 23 = .ok (.iaload, 1) := by decide +kernel
theorem dX12_turns_24 : decode cX12_turns 24 = .ok (.iload_n 1, 1) := by decide +kernel
theorem dX12_turns_25 : decode cX12_turns 25 = .ok (.iadd, 1) := by decide +kernel
theorem dX12_turns_26 : decode cX12_turns 26 = .ok (.invokestatic 313, 3) := by decide +kernel
theorem dX12_turns_29 : decode cX12_turns 29 = .ok (.iconst 4, 1) := by decide +kernel
theorem dX12_turns_30 : decode cX12_turns 30 = .ok (.irem, 1) := by decide +kernel
theorem dX12_turns_31 : decode cX12_turns 31 = .ok (.iadd, 1) := by decide +kernel
theorem dX12_turns_32 : decode cX12_turns 32 = .ok (.iaload, 1) := by decide +kernel
theorem dX12_turns_33 : decode cX12_turns 33 = .ok (.iadd, 1) := by decide +kernel
theorem dX12_turns_34 : decode cX12_turns 34 = .ok (.invokestatic 313, 3) := by decide +kernel
theorem dX12_turns_37 : decode cX12_turns 37 = .ok (.istore_n 3, 1) := by decide +kernel
theorem dX12_turns_38 : decode cX12_turns 38 = .ok (.aload_n 0, 1) := by decide +kernel
theorem dX12_turns_39 : decode cX12_turns 39 = .ok (.getfield 44, 3) := by decide +kernel
theorem dX12_turns_42 : decode cX12_turns 42 = .ok (.iload_n 1, 1) := by decide +kernel
theorem dX12_turns_43 : decode cX12_turns 43 = .ok (.iaload, 1) := by decide +kernel
theorem dX12_turns_44 : decode cX12_turns 44 = .ok (.istore 4, 2) := by decide +kernel
theorem dX12_turns_46 : decode cX12_turns 46 = .ok (.iconst 0, 1) := by decide +kernel
theorem dX12_turns_47 : decode cX12_turns 47 = .ok (.istore 5, 2) := by decide +kernel
theorem dX12_turns_49 : decode cX12_turns 49 = .ok (.iload 5, 2) := by decide +kernel
theorem dX12_turns_51 : decode cX12_turns 51 = .ok (.aload_n 0, 1) := by decide +kernel
theorem dX12_turns_52 : decode cX12_turns 52 = .ok (.getfield 7, 3) := by decide +kernel
theorem dX12_turns_55 : decode cX12_turns 55 = .ok (.iconst 3, 1) := by decide +kernel
theorem dX12_turns_56 : decode cX12_turns 56 = .ok (.iaload, 1) := by decide +kernel
theorem dX12_turns_57 : decode cX12_turns 57 = .ok (.if_icmp .ge 91, 3) := by decide +kernel
theorem dX12_turns_60 : decode cX12_turns 60 = .ok (.aload_n 0, 1) := by decide +kernel
theorem dX12_turns_61 : decode cX12_turns 61 = .ok (.getfield 41, 3) := by decide +kernel
theorem dX12_turns_64 : decode cX12_turns 64 = .ok (.bipush 7, 2) := by decide +kernel
theorem dX12_turns_66 : decode cX12_turns 66 = .ok (.iload_n 1, 1) := by decide +kernel
theorem dX12_turns_67 : decode cX12_turns 67 = .ok (.imul, 1) := by decide +kernel
theorem dX12_turns_68 : decode cX12_turns 68 = .ok (.iload 5, 2) := by decide +kernel
theorem dX12_turns_70 : decode cX12_turns 70 = .ok (.iadd, 1) := by decide +kernel
theorem dX12_turns_71 : decode cX12_turns 71 = .ok (.iaload, 1) := by decide +kernel
theorem dX12_turns_72 : decode cX12_turns 72 = .ok (.istore 6, 2) := by decide +kernel
theorem dX12_turns_74 : decode cX12_turns 74 = .ok (.iload 4, 2) := by decide +kernel
theorem dX12_turns_76 : decode cX12_turns 76 = .ok (.iload 5, 2) := by decide +kernel
theorem dX12_turns_78 : decode cX12_turns 78 = .ok (.invokestatic 275, 3) := by decide +kernel
theorem dX12_turns_81 : decode cX12_turns 81 = .ok (.ifCond .ne 44, 3) := by decide +kernel
theorem dX12_turns_84 : decode cX12_turns 84 = .ok (.aload_n 0, 1) := by decide +kernel
theorem dX12_turns_85 : decode cX12_turns 85 = .ok (.iload 5, 2) := by decide +kernel
theorem dX12_turns_87 : decode cX12_turns 87 = .ok (.iconst 3, 1) := by decide +kernel
theorem dX12_turns_88 : decode cX12_turns 88 = .ok (.invokevirtual 72, 3) := by decide +kernel
theorem dX12_turns_91 : decode cX12_turns 91 = .ok (.ifCond .ne 34, 3) := by decide +kernel
theorem dX12_turns_94 : decode cX12_turns 94 = .ok (.iload_n 3, 1) := by decide +kernel
theorem dX12_turns_95 : decode cX12_turns 95 = .ok (.ifCond .le 7, 3) := by decide +kernel
theorem dX12_turns_98 : decode cX12_turns 98 = .ok (.iconst 0, 1) := by decide +kernel
theorem dX12_turns_99 : decode cX12_turns 99 = .ok (.goto 12, 3) := by decide +kernel
theorem dX12_turns_102 : decode cX12_turns 102 = .ok (.bipush 9, 2) := by decide +kernel
theorem dX12_turns_104 : decode cX12_turns 104 = .ok (.iload 6, 2) := by decide +kernel
theorem dX12_turns_106 : decode cX12_turns 106 = .ok (.iconst 1, 1) := by decide +kernel
theorem dX12_turns_107 : decode cX12_turns 107 = .ok (.iadd, 1) := by decide +kernel
theorem dX12_turns_108 : decode cX12_turns 108 = .ok (.invokestatic 313, 3) := by decide +kernel
theorem dX12_turns_111 : decode cX12_turns 111 = .ok (.istore 6, 2) := by decide +kernel
theorem dX12_turns_113 : decode cX12_turns 113 = .ok (.iload_n 3, 1) := by decide +kernel
theorem dX12_turns_114 : decode cX12_turns 114 = .ok (.iload_n 3, 1) := by decide +kernel
theorem dX12_turns_115 : decode cX12_turns 115 = .ok (.ifCond .le 7, 3) := by decide +kernel
theorem dX12_turns_118 : decode cX12_turns 118 = .ok (.iconst 1, 1) := by decide +kernel
theorem dX12_turns_119 : decode cX12_turns 119 = .ok (.goto 4, 3) := by decide +kernel
theorem dX12_turns_122 : decode cX12_turns 122 = .ok (.iconst 0, 1) := by decide +kernel
theorem dX12_turns_123 : decode cX12_turns 123 = .ok (.isub, 1) := by decide +kernel
theorem dX12_turns_124 : decode cX12_turns 124 = .ok (.istore_n 3, 1) := by decide +kernel
theorem dX12_turns_125 : decode cX12_turns 125 = .ok (.aload_n 0, 1) := by decide +kernel
theorem dX12_turns_126 : decode cX12_turns 126 = .ok (.getfield 41, 3) := by decide +kernel
theorem dX12_turns_129 : decode cX12_turns 129 = .ok (.bipush 7, 2) := by decide +kernel
theorem dX12_turns_131 : decode cX12_turns 131 = .ok (.iload_n 1, 1) := by decide +kernel
theorem dX12_turns_132 : decode cX12_turns 132 = .ok (.imul, 1) := by decide +kernel
theorem dX12_turns_133 : decode cX12_turns 133 = .ok (.bipush 7, 2) := by decide +kernel
theorem dX12_turns_135 : decode cX12_turns 135 = .ok (.iadd, 1) := by decide +kernel
theorem dX12_turns_136 : decode cX12_turns 136 = .ok (.iload 5, 2) := by decide +kernel
theorem dX12_turns_138 : decode cX12_turns 138 = .ok (.iadd, 1) := by decide +kernel
theorem dX12_turns_139 : decode cX12_turns 139 = .ok (.iload 6, 2) := by decide +kernel
theorem dX12_turns_141 : decode cX12_turns 141 = .ok (.iastore, 1) := by decide +kernel
theorem dX12_turns_142 : decode cX12_turns 142 = .ok (.iinc 5 1, 3) := by decide +kernel
theorem dX12_turns_145 : decode cX12_turns 145 = .ok (.goto (-96), 3) := by decide +kernel
theorem dX12_turns_148 : decode cX12_turns 148 = .ok (.iconst 0, 1) := by decide +kernel
theorem dX12_turns_149 : decode cX12_turns 149 = .ok (.istore 5, 2) := by decide +kernel
theorem dX12_turns_151 : decode cX12_turns 151 = .ok (.iload 5, 2) := by decide +kernel
theorem dX12_turns_153 : decode cX12_turns 153 = .ok (.aload_n 0, 1) := by decide +kernel
theorem dX12_turns_154 : decode cX12_turns 154 = .ok (.getfield 7, 3) := by decide +kernel
theorem dX12_turns_157 : decode cX12_turns 157 = .ok (.iconst 3, 1) := by decide +kernel
theorem dX12_turns_158 : decode cX12_turns 158 = .ok (.iaload, 1) := by decide +kernel
theorem dX12_turns_159 : decode cX12_turns 159 = .ok (.if_icmp .ge 88, 3) := by decide +kernel
theorem dX12_turns_162 : decode cX12_turns 162 = .ok (.aload_n 0, 1) := by decide +kernel
theorem dX12_turns_163 : decode cX12_turns 163 = .ok (.getfield 41, 3) := by decide +kernel
theorem dX12_turns_166 : decode cX12_turns 166 = .ok (.bipush 7, 2) := by decide +kernel
theorem dX12_turns_168 : decode cX12_turns 168 = .ok (.iload_n 1, 1) := by decide +kernel
theorem dX12_turns_169 : decode cX12_turns 169 = .ok (.imul, 1) := by decide +kernel
theorem dX12_turns_170 : decode cX12_turns 170 = .ok (.bipush 7, 2) := by decide +kernel
theorem dX12_turns_172 : decode cX12_turns 172 = .ok (.iadd, 1) := by decide +kernel
theorem dX12_turns_173 : decode cX12_turns 173 = .ok (.iload 5, 2) := by decide +kernel
theorem dX12_turns_175 : decode cX12_turns 175 = .ok (.iadd, 1) := by decide +kernel
theorem dX12_turns_176 : decode cX12_turns 176 = .ok (.iaload, 1) := by decide +kernel
theorem dX12_turns_177 : decode cX12_turns 177 = .ok (.istore 6, 2) := by decide +kernel
theorem dX12_turns_179 : decode cX12_turns 179 = .ok (.iload 4, 2) := by decide +kernel
theorem dX12_turns_181 : decode cX12_turns 181 = .ok (.iload 5, 2) := by decide +kernel
theorem dX12_turns_183 : decode cX12_turns 183 = .ok (.invokestatic 275, 3) := by decide +kernel
theorem dX12_turns_186 : decode cX12_turns 186 = .ok (.ifCond .eq 6, 3) := by decide +kernel
theorem dX12_turns_189 : decode cX12_turns 189 = .ok (.goto 52, 3) := by decide +kernel
theorem dX12_turns_192 : decode cX12_turns 192 = .ok (.aload_n 0, 1) := by decide +kernel
theorem dX12_turns_193 : decode cX12_turns 193 = .ok (.iload 5, 2) := by decide +kernel
theorem dX12_turns_195 : decode cX12_turns 195 = .ok (.iconst 3, 1) := by decide +kernel
theorem dX12_turns_196 : decode cX12_turns 196 = .ok (.invokevirtual 72, 3) := by decide +kernel
theorem dX12_turns_199 : decode cX12_turns 199 = .ok (.iconst 1, 1) := by decide +kernel
theorem dX12_turns_200 : decode cX12_turns 200 = .ok (.if_icmp .ne 24, 3) := by decide +kernel
theorem dX12_turns_203 : decode cX12_turns 203 = .ok (.iload 5, 2) := by decide +kernel
theorem dX12_turns_205 : decode cX12_turns 205 = .ok (.iload_n 2, 1) := by decide +kernel
theorem dX12_turns_206 : decode cX12_turns 206 = .ok (.if_icmp .ne 7, 3) := by decide +kernel
theorem dX12_turns_209 : decode cX12_turns 209 = .ok (.iconst 0, 1) := by decide +kernel
theorem dX12_turns_210 : decode cX12_turns 210 = .ok (.goto 12, 3) := by decide +kernel
theorem dX12_turns_213 : decode cX12_turns 213 = .ok (.bipush 9, 2) := by decide +kernel
theorem dX12_turns_215 : decode cX12_turns 215 = .ok (.iload 6, 2) := by decide +kernel
theorem dX12_turns_217 : decode cX12_turns 217 = .ok (.iconst 1, 1) := by decide +kernel
theorem dX12_turns_218 : decode cX12_turns 218 = .ok (.iadd, 1) := by decide +kernel
theorem dX12_turns_219 : decode cX12_turns 219 = .ok (.invokestatic 313, 3) := by decide +kernel
theorem dX12_turns_222 : decode cX12_turns 222 = .ok (.istore 6, 2) := by decide +kernel
theorem dX12_turns_224 : decode cX12_turns 224 = .ok (.aload_n 0, 1) := by decide +kernel
theorem dX12_turns_225 : decode cX12_turns 225 = .ok (.getfield 41, 3) := by decide +kernel
theorem dX12_turns_228 : decode cX12_turns 228 = .ok (.bipush 7, 2) := by decide +kernel
theorem dX12_turns_230 : decode cX12_turns 230 = .ok (.iload_n 1, 1) := by decide +kernel
theorem dX12_turns_231 : decode cX12_turns 231 = .ok (.imul, 1) := by decide +kernel
theorem dX12_turns_232 : decode cX12_turns 232 = .ok (.bipush 7, 2) := by decide +kernel
theorem dX12_turns_234 : decode cX12_turns 234 = .ok (.iadd, 1) := by decide +kernel
theorem dX12_turns_235 : decode cX12_turns 235 = .ok (.iload 5, 2) := by decide +kernel
theorem dX12_turns_237 : decode cX12_turns 237 = .ok (.iadd, 1) := by decide +kernel
theorem dX12_turns_238 : decode cX12_turns 238 = .ok (.iload 6, 2) := by decide +kernel
theorem dX12_turns_240 : decode cX12_turns 240 = .ok (.iastore, 1) := by decide +kernel
theorem dX12_turns_241 : decode cX12_turns 241 = .ok (.iinc 5 1, 3) := by decide +kernel
theorem dX12_turns_244 : decode cX12_turns 244 = .ok (.goto (-93), 3) := by decide +kernel
theorem dX12_turns_247 : decode cX12_turns 247 = .ok (.aload_n 0, 1) := by decide +kernel
theorem dX12_turns_248 : decode cX12_turns 248 = .ok (.getfield 47, 3) := by decide +kernel
theorem dX12_turns_251 : decode cX12_turns 251 = .ok (.iload_n 1, 1) := by decide +kernel
theorem dX12_turns_252 : decode cX12_turns 252 = .ok (.iconst 1, 1) := by decide +kernel
theorem dX12_turns_253 : decode cX12_turns 253 = .ok (.iadd, 1) := by decide +kernel
theorem dX12_turns_254 : decode cX12_turns 254 = .ok (.iload_n 3, 1) := by decide +kernel
theorem dX12_turns_255 : decode cX12_turns 255 = .ok (.iload_n 2, 1) := by decide +kernel
theorem dX12_turns_256 : decode cX12_turns 256 = .ok (.iconst (-1), 1) := by decide +kernel
theorem dX12_turns_257 : decode cX12_turns 257 = .ok (.if_icmp .ne 7, 3) := by decide +kernel
theorem dX12_turns_260 : decode cX12_turns 260 = .ok (.iconst 0, 1) := by decide +kernel
theorem dX12_turns_261 : decode cX12_turns 261 = .ok (.goto 4, 3) := by decide +kernel
theorem dX12_turns_264 : decode cX12_turns 264 = .ok (.iconst 1, 1) := by decide +kernel
theorem dX12_turns_265 : decode cX12_turns 265 = .ok (.isub, 1) := by decide +kernel
theorem dX12_turns_266 : decode cX12_turns 266 = .ok (.iastore, 1) := by decide +kernel
theorem dX12_turns_267 : decode cX12_turns 267 = .ok (.aload_n 0, 1) := by decide +kernel
theorem dX12_turns_268 : decode cX12_turns 268 = .ok (.getfield 44, 3) := by decide +kernel
theorem dX12_turns_271 : decode cX12_turns 271 = .ok (.iload_n 1, 1) := by decide +kernel
theorem dX12_turns_272 : decode cX12_turns 272 = .ok (.iconst 1, 1) := by decide +kernel
theorem dX12_turns_273 : decode cX12_turns 273 = .ok (.iadd, 1) := by decide +kernel
theorem dX12_turns_274 : decode cX12_turns 274 = .ok (.iload 4, 2) := by decide +kernel
theorem dX12_turns_276 : decode cX12_turns 276 = .ok (.iastore, 1) := by decide +kernel
theorem dX12_turns_277 : decode cX12_turns 277 = .ok (.iconst 0, 1) := by decide +kernel
theorem dX12_turns_278 : decode cX12_turns 278 = .ok (.istore 5, 2) := by decide +kernel
theorem dX12_turns_280 : decode cX12_turns 280 = .ok (.iload 5, 2) := by decide +kernel
theorem dX12_turns_282 : decode cX12_turns 282 = .ok (.aload_n 0, 1) := by decide +kernel
theorem dX12_turns_283 : decode cX12_turns 283 = .ok (.getfield 7, 3) := by decide +kernel
theorem dX12_turns_286 : decode cX12_turns 286 = .ok (.iconst 3, 1) := by decide +kernel
theorem dX12_turns_287 : decode cX12_turns 287 = .ok (.iaload, 1) := by decide +kernel
theorem dX12_turns_288 : decode cX12_turns 288 = .ok (.if_icmp .ge 54, 3) := by decide +kernel
theorem dX12_turns_291 : decode cX12_turns 291 = .ok (.iload 4, 2) := by decide +kernel
theorem dX12_turns_293 : decode cX12_turns 293 = .ok (.iload 5, 2) := by decide +kernel
theorem dX12_turns_295 : decode cX12_turns 295 = .ok (.invokestatic 275, 3) := by decide +kernel
theorem dX12_turns_298 : decode cX12_turns 298 = .ok (.ifCond .ne 38, 3) := by decide +kernel
theorem dX12_turns_301 : decode cX12_turns 301 = .ok (.aload_n 0, 1) := by decide +kernel
theorem dX12_turns_302 : decode cX12_turns 302 = .ok (.getfield 41, 3) := by decide +kernel
theorem dX12_turns_305 : decode cX12_turns 305 = .ok (.bipush 7, 2) := by decide +kernel
theorem dX12_turns_307 : decode cX12_turns 307 = .ok (.iload_n 1, 1) := by decide +kernel
theorem dX12_turns_308 : decode cX12_turns 308 = .ok (.imul, 1) := by decide +kernel
theorem dX12_turns_309 : decode cX12_turns 309 = .ok (.bipush 7, 2) := by decide +kernel
theorem dX12_turns_311 : decode cX12_turns 311 = .ok (.iadd, 1) := by decide +kernel
theorem dX12_turns_312 : decode cX12_turns 312 = .ok (.iload 5, 2) := by decide +kernel
theorem dX12_turns_314 : decode cX12_turns 314 = .ok (.iadd, 1) := by decide +kernel
theorem dX12_turns_315 : decode cX12_turns 315 = .ok (.iaload, 1) := by decide +kernel
theorem dX12_turns_316 : decode cX12_turns 316 = .ok (.bipush 9, 2) := by decide +kernel
theorem dX12_turns_318 : decode cX12_turns 318 = .ok (.if_icmp .ne 18, 3) := by decide +kernel
theorem dX12_turns_321 : decode cX12_turns 321 = .ok (.aload_n 0, 1) := by decide +kernel
theorem dX12_turns_322 : decode cX12_turns 322 = .ok (.getfield 44, 3) := by decide +kernel
theorem dX12_turns_325 : decode cX12_turns 325 = .ok (.iload_n 1, 1) := by decide +kernel
theorem dX12_turns_326 : decode cX12_turns 326 = .ok (.iconst 1, 1) := by decide +kernel
theorem dX12_turns_327 : decode cX12_turns 327 = .ok (.iadd, 1) := by decide +kernel
theorem dX12_turns_328 : decode cX12_turns 328 = .ok (.dup2, 1) := by decide +kernel
theorem dX12_turns_329 : decode cX12_turns 329 = .ok (.iaload, 1) := by decide +kernel
theorem dX12_turns_330 : decode cX12_turns 330 = .ok (.iconst 1, 1) := by decide +kernel
theorem dX12_turns_331 : decode cX12_turns 331 = .ok (.iload 5, 2) := by decide +kernel
theorem dX12_turns_333 : decode cX12_turns 333 = .ok (.ishl, 1) := by decide +kernel
theorem dX12_turns_334 : decode cX12_turns 334 = .ok (.ior, 1) := by decide +kernel
theorem dX12_turns_335 : decode cX12_turns 335 = .ok (.iastore, 1) := by decide +kernel
theorem dX12_turns_336 : decode cX12_turns 336 = .ok (.iinc 5 1, 3) := by decide +kernel
theorem dX12_turns_339 : decode cX12_turns 339 = .ok (.goto (-59), 3) := by decide +kernel
theorem dX12_turns_342 : decode cX12_turns 342 = .ok (.return_, 1) := by decide +kernel
def q12_turns (σ : St) (level_a : Int32) (whom_a : Int32) : Option St :=
  Option.bind (ag σ 12 8 level_a) fun x1_ =>
  Option.bind (ag σ 1 752 4) fun x3_ =>
  Option.bind (ag σ 1 752 (10 + (irm (q12_lesser 9999 (x3_ + level_a)) 4))) fun x5_ =>
  lt (q12_lesser 9999 (x1_ + x5_)) fun flour7_ =>
  Option.bind (ag σ 11 8 level_a) fun x9_ =>
  Option.bind (loop3 (fun rec14_ (flour17_ : Int32) (p18_ : Int32) (σ19_ : St) =>
  Option.bind (ag σ19_ 1 752 3) fun x24_ =>
  if p18_ < x24_ then
  Option.bind (ag σ19_ 10 56 ((7 * level_a) + p18_)) fun x28_ =>
  Option.bind (Option.bind (if q12_isOf x9_ p18_ = true then (some false) else (Option.bind (q12_of σ19_ p18_ 3) fun x38_ =>
  if x38_ = 0 then (some true) else (some false))) fun t35_ =>
  if t35_ = true then (lt (if 0 < flour17_ then 0 else q12_lesser 9 (x28_ + 1)) fun h47_ =>
  lt (flour17_ - (if 0 < flour17_ then 1 else 0)) fun flour54_ =>
  some (flour54_, h47_)) else (some (flour17_, x28_))) fun y30_ =>
  Option.bind (sa σ19_ 10 56 (((7 * level_a) + 7) + p18_) y30_.2) fun σ56_ =>
  lt (p18_ + 1) fun p58_ =>
  rec14_ y30_.1 p58_ σ56_
  else (some (flour17_, p18_, σ19_))) fuelN flour7_ (0 : Int32) σ) fun y11_ =>
  Option.bind (loop2 (fun rec63_ (p66_ : Int32) (σ67_ : St) =>
  Option.bind (ag σ67_ 1 752 3) fun x72_ =>
  if p66_ < x72_ then
  lt (fun (p100_ : Int32) (σ101_ : St) =>
  lt (p100_ + 1) fun p103_ =>
  rec63_ p103_ σ101_) fun k69_ =>
  Option.bind (ag σ67_ 10 56 (((7 * level_a) + 7) + p66_)) fun x76_ =>
  if q12_isOf x9_ p66_ = true then (k69_ p66_ σ67_) else
  Option.bind (Option.bind (q12_of σ67_ p66_ 3) fun x87_ =>
  if x87_ = 1 then (lt (if p66_ = whom_a then 0 else q12_lesser 9 (x76_ + 1)) fun h96_ =>
  some (h96_)) else (some (x76_))) fun y82_ =>
  Option.bind (sa σ67_ 10 56 (((7 * level_a) + 7) + p66_) y82_) fun σ98_ =>
  k69_ p66_ σ98_
  else (some (p66_, σ67_))) fuelN (0 : Int32) y11_.2.2) fun y60_ =>
  Option.bind (sa y60_.2 12 8 (level_a + 1) (y11_.1 - (if whom_a = (-1) then 0 else 1))) fun σ110_ =>
  Option.bind (sa σ110_ 11 8 (level_a + 1) x9_) fun σ112_ =>
  Option.bind (loop2 (fun rec117_ (p120_ : Int32) (σ121_ : St) =>
  Option.bind (ag σ121_ 1 752 3) fun x126_ =>
  if p120_ < x126_ then
  Option.bind (Option.bind (if q12_isOf x9_ p120_ = true then (some false) else (Option.bind (ag σ121_ 10 56 (((7 * level_a) + 7) + p120_)) fun x138_ =>
  if x138_ = 9 then (some true) else (some false))) fun t135_ =>
  if t135_ = true then (Option.bind (ag σ121_ 11 8 (level_a + 1)) fun x142_ =>
  Option.bind (sa σ121_ 11 8 (level_a + 1) (x142_ ||| (shl 1 p120_))) fun σ144_ =>
  some (σ144_)) else (some (σ121_))) fun y130_ =>
  lt (p120_ + 1) fun p146_ =>
  rec117_ p146_ y130_
  else (some (p120_, σ121_))) fuelN (0 : Int32) σ112_) fun y114_ =>
  some y114_.2
abbrev rm12_turns : Room := { frames := 1, cells := 0, slots := 0, locals := 22 }
set_option maxHeartbeats 4000000 in
set_option maxRecDepth 100000 in
theorem p12_turns {Θ : Tz} {σ : St} {ρ : Option Value × St} (C : Zc Θ cX12_turns 7 RX12 none rm12_turns) (hkd : Θ.2.2.2.2.1 = kdM) {level_a : Int32} {whom_a : Int32} {r : St} (hf : q12_turns σ level_a whom_a = some r) (hρ : ρ = (none, r)) : Z Θ 7 0 0 (zQ Θ ρ) σ 0 [(0, .ref (zA Θ 0)), (1, .int level_a), (2, .int whom_a)] [] := by
  unfold q12_turns at hf
  refine z_sipush (v := 9999) C dX12_turns_0 sp_9999 ?_
  refine z_aload_n C 0 dX12_turns_3 rfl rfl ?_
  refine fg12_47 C hkd dX12_turns_4 ?_
  refine z_iload_n C 1 dX12_turns_7 rfl rfl ?_
  obtain ⟨x1_, h2_, hf⟩ := ob hf
  refine z_ag C h2_ (kM_12 hkd) dX12_turns_8 ?_
  refine z_aload_n C 0 dX12_turns_9 rfl rfl ?_
  refine fg12_7 C hkd dX12_turns_10 ?_
  refine z_bipush (v := 10) C dX12_turns_13 bp_10 ?_
  refine z_sipush (v := 9999) C dX12_turns_15 sp_9999 ?_
  refine z_aload_n C 0 dX12_turns_18 rfl rfl ?_
  refine fg12_7 C hkd dX12_turns_19 ?_
  refine z_iconst (v := 4) C dX12_turns_22 ic_4 ?_
  obtain ⟨x3_, h4_, hf⟩ := ob hf
  refine z_ag C h4_ (kM_1 hkd) dX12_turns_23 ?_
  refine z_iload_n C 1 dX12_turns_24 rfl rfl ?_
  refine z_iadd C dX12_turns_25 ?_
  refine cr12_313 (a_a := 9999) (b_a := (x3_ + level_a)) C hkd  ⟨(Nat.le_of_ble_eq_true rfl), (Nat.le_of_ble_eq_true rfl)⟩ (Nat.le_of_ble_eq_true rfl) ⟨Nat.zero_le _, Nat.zero_le _⟩ dX12_turns_26 ?_
  refine z_iconst (v := 4) C dX12_turns_29 ic_4 ?_
  refine z_irm C (by decide) dX12_turns_30 ?_
  refine z_iadd C dX12_turns_31 ?_
  obtain ⟨x5_, h6_, hf⟩ := ob hf
  refine z_ag C h6_ (kM_1 hkd) dX12_turns_32 ?_
  refine z_iadd C dX12_turns_33 ?_
  refine cr12_313 (a_a := 9999) (b_a := (x1_ + x5_)) C hkd  ⟨(Nat.le_of_ble_eq_true rfl), (Nat.le_of_ble_eq_true rfl)⟩ (Nat.le_of_ble_eq_true rfl) ⟨Nat.zero_le _, Nat.zero_le _⟩ dX12_turns_34 ?_
  obtain ⟨flour7_, h8_, hf⟩ := lt_ hf
  refine z_istN C dX12_turns_37 h8_ rfl (Nat.le_of_ble_eq_true rfl) rfl ?_
  refine z_aload_n C 1 dX12_turns_38 rfl rfl ?_
  refine fg12_44 C hkd dX12_turns_39 ?_
  refine z_iload_n C 2 dX12_turns_42 rfl rfl ?_
  obtain ⟨x9_, h10_, hf⟩ := ob hf
  refine z_ag C h10_ (kM_11 hkd) dX12_turns_43 ?_
  refine z_ist C dX12_turns_44 rfl (Nat.le_of_ble_eq_true rfl) rfl ?_
  refine z_iconst (v := 0) C dX12_turns_46 ic_0 ?_
  refine z_ist C dX12_turns_47 rfl (Nat.le_of_ble_eq_true rfl) rfl ?_
  refine Z.sub [3, 4, 5, 2, 1, 0] rfl ?_
  obtain ⟨y11_, h12_, hf⟩ := ob hf
  suffices K13_ : Z Θ 7 0 0 (zQ Θ ρ) y11_.2.2 148 [(0, .ref (zA Θ 0)), (1, .int level_a), (2, .int whom_a), (3, .int y11_.1), (4, .int x9_), (5, .int y11_.2.1)] [] by
    refine loop3_Z (P := fun (flour17_ : Int32) (p18_ : Int32) (σ19_ : St) => Z Θ 7 0 0 (zQ Θ ρ) σ19_ 49 [(0, .ref (zA Θ 0)), (1, .int level_a), (2, .int whom_a), (3, .int flour17_), (4, .int x9_), (5, .int p18_)] []) ?_ fuelN flour7_ (0 : Int32) σ h12_
    clear h12_
    intro rec14_ flour17_ p18_ σ19_ h15_ h16_
    refine z_iload C 5 dX12_turns_49 rfl ?_
    refine z_aload_n C 0 dX12_turns_51 rfl rfl ?_
    refine fg12_7 C hkd dX12_turns_52 ?_
    refine z_iconst (v := 3) C dX12_turns_55 ic_3 ?_
    obtain ⟨x24_, h25_, h16_⟩ := ob h16_
    refine z_ag C h25_ (kM_1 hkd) dX12_turns_56 ?_
    have K22_ : p18_ < x24_ → Z Θ 7 0 0 (zQ Θ ρ) σ19_ 60 [(0, .ref (zA Θ 0)), (1, .int level_a), (2, .int whom_a), (3, .int flour17_), (4, .int x9_), (5, .int p18_)] [] := by
      intro h27_
      rw [if_pos h27_] at h16_
      refine z_aload_n C 0 dX12_turns_60 rfl rfl ?_
      refine fg12_41 C hkd dX12_turns_61 ?_
      refine z_bipush (v := 7) C dX12_turns_64 bp_7 ?_
      refine z_iload_n C 1 dX12_turns_66 rfl rfl ?_
      refine z_imul C dX12_turns_67 ?_
      refine z_iload C 5 dX12_turns_68 rfl ?_
      refine z_iadd C dX12_turns_70 ?_
      obtain ⟨x28_, h29_, h16_⟩ := ob h16_
      refine z_ag C h29_ (kM_10 hkd) dX12_turns_71 ?_
      refine z_ist C dX12_turns_72 rfl (Nat.le_of_ble_eq_true rfl) rfl ?_
      obtain ⟨y30_, h31_, h16_⟩ := ob h16_
      suffices K32_ : Z Θ 7 0 0 (zQ Θ ρ) σ19_ 125 [(0, .ref (zA Θ 0)), (1, .int level_a), (2, .int whom_a), (3, .int y30_.1), (4, .int x9_), (5, .int p18_), (6, .int y30_.2)] [] by
        obtain ⟨t35_, h36_, h31_⟩ := ob h31_
        have K33_ : t35_ = true → Z Θ 7 0 0 (zQ Θ ρ) σ19_ 94 [(6, .int x28_), (0, .ref (zA Θ 0)), (1, .int level_a), (2, .int whom_a), (3, .int flour17_), (4, .int x9_), (5, .int p18_)] [] := by
          intro h41_
          rw [if_pos h41_] at h31_
          suffices K42_ : Z Θ 7 0 0 (zQ Θ ρ) σ19_ 111 [(6, .int x28_), (0, .ref (zA Θ 0)), (1, .int level_a), (2, .int whom_a), (3, .int flour17_), (4, .int x9_), (5, .int p18_)] [.int (if 0 < flour17_ then 0 else q12_lesser 9 (x28_ + 1))] by
            have K43_ : 0 < flour17_ → Z Θ 7 0 0 (zQ Θ ρ) σ19_ 98 [(6, .int x28_), (0, .ref (zA Θ 0)), (1, .int level_a), (2, .int whom_a), (3, .int flour17_), (4, .int x9_), (5, .int p18_)] [] := by
              intro h46_
              rw [if_pos h46_] at K42_
              refine z_iconst (v := 0) C dX12_turns_98 ic_0 ?_
              refine z_goto C 111 dX12_turns_99 (by decide) ?_
              exact K42_
            have K44_ : ¬ (0 < flour17_) → Z Θ 7 0 0 (zQ Θ ρ) σ19_ 102 [(6, .int x28_), (0, .ref (zA Θ 0)), (1, .int level_a), (2, .int whom_a), (3, .int flour17_), (4, .int x9_), (5, .int p18_)] [] := by
              intro h46_
              rw [if_neg h46_] at K42_
              refine z_bipush (v := 9) C dX12_turns_102 bp_9 ?_
              refine z_iload C 0 dX12_turns_104 rfl ?_
              refine z_iconst (v := 1) C dX12_turns_106 ic_1 ?_
              refine z_iadd C dX12_turns_107 ?_
              refine cr12_313 (a_a := 9) (b_a := (x28_ + 1)) C hkd  ⟨(Nat.le_of_ble_eq_true rfl), (Nat.le_of_ble_eq_true rfl)⟩ (Nat.le_of_ble_eq_true rfl) ⟨Nat.zero_le _, Nat.zero_le _⟩ dX12_turns_108 ?_
              exact K42_
            refine z_iload_n C 4 dX12_turns_94 rfl rfl ?_
            refine c0_gt_f C 102 dX12_turns_95 (by decide) (fun h45_ => ?_) (fun h45_ => ?_)
            · exact K43_ h45_
            · exact K44_ h45_
          obtain ⟨h47_, h48_, h31_⟩ := lt_ h31_
          refine z_ist C dX12_turns_111 h48_ (Nat.le_of_ble_eq_true rfl) rfl ?_
          refine z_iload_n C 4 dX12_turns_113 rfl rfl ?_
          suffices K49_ : Z Θ 7 0 0 (zQ Θ ρ) σ19_ 123 [(6, .int h47_), (0, .ref (zA Θ 0)), (1, .int level_a), (2, .int whom_a), (3, .int flour17_), (4, .int x9_), (5, .int p18_)] [.int (if 0 < flour17_ then 1 else 0), .int flour17_] by
            have K50_ : 0 < flour17_ → Z Θ 7 0 0 (zQ Θ ρ) σ19_ 118 [(6, .int h47_), (0, .ref (zA Θ 0)), (1, .int level_a), (2, .int whom_a), (3, .int flour17_), (4, .int x9_), (5, .int p18_)] [.int flour17_] := by
              intro h53_
              rw [if_pos h53_] at K49_
              refine z_iconst (v := 1) C dX12_turns_118 ic_1 ?_
              refine z_goto C 123 dX12_turns_119 (by decide) ?_
              exact K49_
            have K51_ : ¬ (0 < flour17_) → Z Θ 7 0 0 (zQ Θ ρ) σ19_ 122 [(6, .int h47_), (0, .ref (zA Θ 0)), (1, .int level_a), (2, .int whom_a), (3, .int flour17_), (4, .int x9_), (5, .int p18_)] [.int flour17_] := by
              intro h53_
              rw [if_neg h53_] at K49_
              refine z_iconst (v := 0) C dX12_turns_122 ic_0 ?_
              exact K49_
            refine z_iload_n C 4 dX12_turns_114 rfl rfl ?_
            refine c0_gt_f C 122 dX12_turns_115 (by decide) (fun h52_ => ?_) (fun h52_ => ?_)
            · exact K50_ h52_
            · exact K51_ h52_
          refine z_isub C dX12_turns_123 ?_
          obtain ⟨flour54_, h55_, h31_⟩ := lt_ h31_
          refine z_istN C dX12_turns_124 h55_ rfl (Nat.le_of_ble_eq_true rfl) rfl ?_
          cases h31_
          refine Z.sub [2, 3, 4, 0, 5, 6, 1] rfl ?_
          exact K32_
        have K34_ : ¬ (t35_ = true) → Z Θ 7 0 0 (zQ Θ ρ) σ19_ 125 [(6, .int x28_), (0, .ref (zA Θ 0)), (1, .int level_a), (2, .int whom_a), (3, .int flour17_), (4, .int x9_), (5, .int p18_)] [] := by
          intro h41_
          rw [if_neg h41_] at h31_
          cases h31_
          refine Z.sub [1, 2, 3, 4, 5, 6, 0] rfl ?_
          exact K32_
        refine z_iload C 5 dX12_turns_74 rfl ?_
        refine z_iload C 6 dX12_turns_76 rfl ?_
        refine cr12_275 (set_a := x9_) (k_a := p18_) C hkd  ⟨(Nat.le_of_ble_eq_true rfl), (Nat.le_of_ble_eq_true rfl)⟩ (Nat.le_of_ble_eq_true rfl) ⟨Nat.zero_le _, Nat.zero_le _⟩ dX12_turns_78 ?_
        refine cb_t C 125 dX12_turns_81 (by decide) (fun h37_ => ?_) (fun h37_ => ?_)
        · rw [if_pos h37_] at h36_
          cases h36_
          exact K34_ Bool.false_ne_true
        · rw [if_neg h37_] at h36_
          refine z_aload_n C 1 dX12_turns_84 rfl rfl ?_
          refine z_iload C 6 dX12_turns_85 rfl ?_
          refine z_iconst (v := 3) C dX12_turns_87 ic_3 ?_
          obtain ⟨x38_, h39_, h36_⟩ := ob h36_
          refine cr12_72 (p_a := p18_) (what_a := 3) C hkd  h39_ ⟨(Nat.le_of_ble_eq_true rfl), (Nat.le_of_ble_eq_true rfl)⟩ (Nat.le_of_ble_eq_true rfl) ⟨Nat.zero_le _, Nat.zero_le _⟩ dX12_turns_88 ?_
          refine c0_eq_f C 125 dX12_turns_91 (by decide) (fun h40_ => ?_) (fun h40_ => ?_)
          · rw [if_pos h40_] at h36_
            cases h36_
            exact K33_ rfl
          · rw [if_neg h40_] at h36_
            cases h36_
            exact K34_ Bool.false_ne_true
      refine z_aload_n C 0 dX12_turns_125 rfl rfl ?_
      refine fg12_41 C hkd dX12_turns_126 ?_
      refine z_bipush (v := 7) C dX12_turns_129 bp_7 ?_
      refine z_iload_n C 1 dX12_turns_131 rfl rfl ?_
      refine z_imul C dX12_turns_132 ?_
      refine z_bipush (v := 7) C dX12_turns_133 bp_7 ?_
      refine z_iadd C dX12_turns_135 ?_
      refine z_iload C 5 dX12_turns_136 rfl ?_
      refine z_iadd C dX12_turns_138 ?_
      refine z_iload C 6 dX12_turns_139 rfl ?_
      obtain ⟨σ56_, h57_, h16_⟩ := ob h16_
      refine z_sa C h57_ (kM_10 hkd) dX12_turns_141 ?_
      obtain ⟨p58_, h59_, h16_⟩ := lt_ h16_
      refine z_inc C 5 dX12_turns_142 rfl ic_1 h59_ (Nat.le_of_ble_eq_true rfl) rfl ?_
      refine z_goto C 49 dX12_turns_145 (by decide) ?_
      refine Z.sub [1, 2, 3, 4, 5, 0] rfl ?_
      exact h15_ _ _ _ h16_
    have K23_ : ¬ (p18_ < x24_) → Z Θ 7 0 0 (zQ Θ ρ) σ19_ 148 [(0, .ref (zA Θ 0)), (1, .int level_a), (2, .int whom_a), (3, .int flour17_), (4, .int x9_), (5, .int p18_)] [] := by
      intro h27_
      rw [if_neg h27_] at h16_
      cases h16_
      exact K13_
    refine c_lt_f C 148 dX12_turns_57 (by decide) (fun h26_ => ?_) (fun h26_ => ?_)
    · exact K22_ h26_
    · exact K23_ h26_
  refine z_iconst (v := 0) C dX12_turns_148 ic_0 ?_
  refine z_ist C dX12_turns_149 rfl (Nat.le_of_ble_eq_true rfl) rfl ?_
  refine Z.sub [1, 2, 3, 4, 5, 0] rfl ?_
  obtain ⟨y60_, h61_, hf⟩ := ob hf
  suffices K62_ : Z Θ 7 0 0 (zQ Θ ρ) y60_.2 247 [(0, .ref (zA Θ 0)), (1, .int level_a), (2, .int whom_a), (3, .int y11_.1), (4, .int x9_), (5, .int y60_.1)] [] by
    refine loop2_Z (P := fun (p66_ : Int32) (σ67_ : St) => Z Θ 7 0 0 (zQ Θ ρ) σ67_ 151 [(0, .ref (zA Θ 0)), (1, .int level_a), (2, .int whom_a), (3, .int y11_.1), (4, .int x9_), (5, .int p66_)] []) ?_ fuelN (0 : Int32) y11_.2.2 h61_
    clear h61_
    intro rec63_ p66_ σ67_ h64_ h65_
    refine z_iload C 5 dX12_turns_151 rfl ?_
    refine z_aload_n C 0 dX12_turns_153 rfl rfl ?_
    refine fg12_7 C hkd dX12_turns_154 ?_
    refine z_iconst (v := 3) C dX12_turns_157 ic_3 ?_
    obtain ⟨x72_, h73_, h65_⟩ := ob h65_
    refine z_ag C h73_ (kM_1 hkd) dX12_turns_158 ?_
    have K70_ : p66_ < x72_ → Z Θ 7 0 0 (zQ Θ ρ) σ67_ 162 [(0, .ref (zA Θ 0)), (1, .int level_a), (2, .int whom_a), (3, .int y11_.1), (4, .int x9_), (5, .int p66_)] [] := by
      intro h75_
      rw [if_pos h75_] at h65_
      obtain ⟨k69_, h102_, h65_⟩ := lt_ h65_
      have K68_ : ∀ (p100_ : Int32) (σ101_ : St), k69_ p100_ σ101_ = some y60_ → Z Θ 7 0 0 (zQ Θ ρ) σ101_ 241 [(0, .ref (zA Θ 0)), (1, .int level_a), (2, .int whom_a), (3, .int y11_.1), (4, .int x9_), (5, .int p100_)] [] := by
        intro p100_ σ101_ h65_
        subst h102_
        dsimp only at h65_
        obtain ⟨p103_, h104_, h65_⟩ := lt_ h65_
        refine z_inc C 5 dX12_turns_241 rfl ic_1 h104_ (Nat.le_of_ble_eq_true rfl) rfl ?_
        refine z_goto C 151 dX12_turns_244 (by decide) ?_
        refine Z.sub [1, 2, 3, 4, 5, 0] rfl ?_
        exact h64_ _ _ h65_
      refine z_aload_n C 0 dX12_turns_162 rfl rfl ?_
      refine fg12_41 C hkd dX12_turns_163 ?_
      refine z_bipush (v := 7) C dX12_turns_166 bp_7 ?_
      refine z_iload_n C 1 dX12_turns_168 rfl rfl ?_
      refine z_imul C dX12_turns_169 ?_
      refine z_bipush (v := 7) C dX12_turns_170 bp_7 ?_
      refine z_iadd C dX12_turns_172 ?_
      refine z_iload C 5 dX12_turns_173 rfl ?_
      refine z_iadd C dX12_turns_175 ?_
      obtain ⟨x76_, h77_, h65_⟩ := ob h65_
      refine z_ag C h77_ (kM_10 hkd) dX12_turns_176 ?_
      refine z_ist C dX12_turns_177 rfl (Nat.le_of_ble_eq_true rfl) rfl ?_
      have K78_ : q12_isOf x9_ p66_ = true → Z Θ 7 0 0 (zQ Θ ρ) σ67_ 189 [(6, .int x76_), (0, .ref (zA Θ 0)), (1, .int level_a), (2, .int whom_a), (3, .int y11_.1), (4, .int x9_), (5, .int p66_)] [] := by
        intro h81_
        rw [if_pos h81_] at h65_
        refine z_goto C 241 dX12_turns_189 (by decide) ?_
        refine Z.sub [1, 2, 3, 4, 5, 6] rfl ?_
        exact K68_ _ _ h65_
      suffices K79_ : ¬ (q12_isOf x9_ p66_ = true) → Z Θ 7 0 0 (zQ Θ ρ) σ67_ 192 [(6, .int x76_), (0, .ref (zA Θ 0)), (1, .int level_a), (2, .int whom_a), (3, .int y11_.1), (4, .int x9_), (5, .int p66_)] [] by
        refine z_iload C 5 dX12_turns_179 rfl ?_
        refine z_iload C 6 dX12_turns_181 rfl ?_
        refine cr12_275 (set_a := x9_) (k_a := p66_) C hkd  ⟨(Nat.le_of_ble_eq_true rfl), (Nat.le_of_ble_eq_true rfl)⟩ (Nat.le_of_ble_eq_true rfl) ⟨Nat.zero_le _, Nat.zero_le _⟩ dX12_turns_183 ?_
        refine cb_f C 192 dX12_turns_186 (by decide) (fun h80_ => ?_) (fun h80_ => ?_)
        · exact K78_ h80_
        · exact K79_ h80_
      intro h81_
      rw [if_neg h81_] at h65_
      obtain ⟨y82_, h83_, h65_⟩ := ob h65_
      suffices K84_ : Z Θ 7 0 0 (zQ Θ ρ) σ67_ 224 [(0, .ref (zA Θ 0)), (1, .int level_a), (2, .int whom_a), (3, .int y11_.1), (4, .int x9_), (5, .int p66_), (6, .int y82_)] [] by
        refine z_aload_n C 1 dX12_turns_192 rfl rfl ?_
        refine z_iload C 6 dX12_turns_193 rfl ?_
        refine z_iconst (v := 3) C dX12_turns_195 ic_3 ?_
        obtain ⟨x87_, h88_, h83_⟩ := ob h83_
        refine cr12_72 (p_a := p66_) (what_a := 3) C hkd  h88_ ⟨(Nat.le_of_ble_eq_true rfl), (Nat.le_of_ble_eq_true rfl)⟩ (Nat.le_of_ble_eq_true rfl) ⟨Nat.zero_le _, Nat.zero_le _⟩ dX12_turns_196 ?_
        refine z_iconst (v := 1) C dX12_turns_199 ic_1 ?_
        have K85_ : x87_ = 1 → Z Θ 7 0 0 (zQ Θ ρ) σ67_ 203 [(6, .int x76_), (0, .ref (zA Θ 0)), (1, .int level_a), (2, .int whom_a), (3, .int y11_.1), (4, .int x9_), (5, .int p66_)] [] := by
          intro h90_
          rw [if_pos h90_] at h83_
          suffices K91_ : Z Θ 7 0 0 (zQ Θ ρ) σ67_ 222 [(6, .int x76_), (0, .ref (zA Θ 0)), (1, .int level_a), (2, .int whom_a), (3, .int y11_.1), (4, .int x9_), (5, .int p66_)] [.int (if p66_ = whom_a then 0 else q12_lesser 9 (x76_ + 1))] by
            have K92_ : p66_ = whom_a → Z Θ 7 0 0 (zQ Θ ρ) σ67_ 209 [(6, .int x76_), (0, .ref (zA Θ 0)), (1, .int level_a), (2, .int whom_a), (3, .int y11_.1), (4, .int x9_), (5, .int p66_)] [] := by
              intro h95_
              rw [if_pos h95_] at K91_
              refine z_iconst (v := 0) C dX12_turns_209 ic_0 ?_
              refine z_goto C 222 dX12_turns_210 (by decide) ?_
              exact K91_
            have K93_ : ¬ (p66_ = whom_a) → Z Θ 7 0 0 (zQ Θ ρ) σ67_ 213 [(6, .int x76_), (0, .ref (zA Θ 0)), (1, .int level_a), (2, .int whom_a), (3, .int y11_.1), (4, .int x9_), (5, .int p66_)] [] := by
              intro h95_
              rw [if_neg h95_] at K91_
              refine z_bipush (v := 9) C dX12_turns_213 bp_9 ?_
              refine z_iload C 0 dX12_turns_215 rfl ?_
              refine z_iconst (v := 1) C dX12_turns_217 ic_1 ?_
              refine z_iadd C dX12_turns_218 ?_
              refine cr12_313 (a_a := 9) (b_a := (x76_ + 1)) C hkd  ⟨(Nat.le_of_ble_eq_true rfl), (Nat.le_of_ble_eq_true rfl)⟩ (Nat.le_of_ble_eq_true rfl) ⟨Nat.zero_le _, Nat.zero_le _⟩ dX12_turns_219 ?_
              exact K91_
            refine z_iload C 6 dX12_turns_203 rfl ?_
            refine z_iload_n C 3 dX12_turns_205 rfl rfl ?_
            refine c_eq_f C 213 dX12_turns_206 (by decide) (fun h94_ => ?_) (fun h94_ => ?_)
            · exact K92_ h94_
            · exact K93_ h94_
          obtain ⟨h96_, h97_, h83_⟩ := lt_ h83_
          refine z_ist C dX12_turns_222 h97_ (Nat.le_of_ble_eq_true rfl) rfl ?_
          cases h83_
          refine Z.sub [1, 2, 3, 4, 5, 6, 0] rfl ?_
          exact K84_
        have K86_ : ¬ (x87_ = 1) → Z Θ 7 0 0 (zQ Θ ρ) σ67_ 224 [(6, .int x76_), (0, .ref (zA Θ 0)), (1, .int level_a), (2, .int whom_a), (3, .int y11_.1), (4, .int x9_), (5, .int p66_)] [] := by
          intro h90_
          rw [if_neg h90_] at h83_
          cases h83_
          refine Z.sub [1, 2, 3, 4, 5, 6, 0] rfl ?_
          exact K84_
        refine c_eq_f C 224 dX12_turns_200 (by decide) (fun h89_ => ?_) (fun h89_ => ?_)
        · exact K85_ h89_
        · exact K86_ h89_
      refine z_aload_n C 0 dX12_turns_224 rfl rfl ?_
      refine fg12_41 C hkd dX12_turns_225 ?_
      refine z_bipush (v := 7) C dX12_turns_228 bp_7 ?_
      refine z_iload_n C 1 dX12_turns_230 rfl rfl ?_
      refine z_imul C dX12_turns_231 ?_
      refine z_bipush (v := 7) C dX12_turns_232 bp_7 ?_
      refine z_iadd C dX12_turns_234 ?_
      refine z_iload C 5 dX12_turns_235 rfl ?_
      refine z_iadd C dX12_turns_237 ?_
      refine z_iload C 6 dX12_turns_238 rfl ?_
      obtain ⟨σ98_, h99_, h65_⟩ := ob h65_
      refine z_sa C h99_ (kM_10 hkd) dX12_turns_240 ?_
      refine Z.sub [0, 1, 2, 3, 4, 5] rfl ?_
      exact K68_ _ _ h65_
    have K71_ : ¬ (p66_ < x72_) → Z Θ 7 0 0 (zQ Θ ρ) σ67_ 247 [(0, .ref (zA Θ 0)), (1, .int level_a), (2, .int whom_a), (3, .int y11_.1), (4, .int x9_), (5, .int p66_)] [] := by
      intro h75_
      rw [if_neg h75_] at h65_
      cases h65_
      exact K62_
    refine c_lt_f C 247 dX12_turns_159 (by decide) (fun h74_ => ?_) (fun h74_ => ?_)
    · exact K70_ h74_
    · exact K71_ h74_
  refine z_aload_n C 0 dX12_turns_247 rfl rfl ?_
  refine fg12_47 C hkd dX12_turns_248 ?_
  refine z_iload_n C 1 dX12_turns_251 rfl rfl ?_
  refine z_iconst (v := 1) C dX12_turns_252 ic_1 ?_
  refine z_iadd C dX12_turns_253 ?_
  refine z_iload_n C 3 dX12_turns_254 rfl rfl ?_
  suffices K105_ : Z Θ 7 0 0 (zQ Θ ρ) y60_.2 265 [(0, .ref (zA Θ 0)), (1, .int level_a), (2, .int whom_a), (3, .int y11_.1), (4, .int x9_), (5, .int y60_.1)] [.int (if whom_a = (-1) then 0 else 1), .int y11_.1, .int (level_a + 1), .ref (zA Θ 12)] by
    have K106_ : whom_a = (-1) → Z Θ 7 0 0 (zQ Θ ρ) y60_.2 260 [(0, .ref (zA Θ 0)), (1, .int level_a), (2, .int whom_a), (3, .int y11_.1), (4, .int x9_), (5, .int y60_.1)] [.int y11_.1, .int (level_a + 1), .ref (zA Θ 12)] := by
      intro h109_
      rw [if_pos h109_] at K105_
      refine z_iconst (v := 0) C dX12_turns_260 ic_0 ?_
      refine z_goto C 265 dX12_turns_261 (by decide) ?_
      exact K105_
    have K107_ : ¬ (whom_a = (-1)) → Z Θ 7 0 0 (zQ Θ ρ) y60_.2 264 [(0, .ref (zA Θ 0)), (1, .int level_a), (2, .int whom_a), (3, .int y11_.1), (4, .int x9_), (5, .int y60_.1)] [.int y11_.1, .int (level_a + 1), .ref (zA Θ 12)] := by
      intro h109_
      rw [if_neg h109_] at K105_
      refine z_iconst (v := 1) C dX12_turns_264 ic_1 ?_
      exact K105_
    refine z_iload_n C 2 dX12_turns_255 rfl rfl ?_
    refine z_iconst (v := (-1)) C dX12_turns_256 ic_m1 ?_
    refine c_eq_f C 264 dX12_turns_257 (by decide) (fun h108_ => ?_) (fun h108_ => ?_)
    · exact K106_ h108_
    · exact K107_ h108_
  refine z_isub C dX12_turns_265 ?_
  obtain ⟨σ110_, h111_, hf⟩ := ob hf
  refine z_sa C h111_ (kM_12 hkd) dX12_turns_266 ?_
  refine z_aload_n C 0 dX12_turns_267 rfl rfl ?_
  refine fg12_44 C hkd dX12_turns_268 ?_
  refine z_iload_n C 1 dX12_turns_271 rfl rfl ?_
  refine z_iconst (v := 1) C dX12_turns_272 ic_1 ?_
  refine z_iadd C dX12_turns_273 ?_
  refine z_iload C 4 dX12_turns_274 rfl ?_
  obtain ⟨σ112_, h113_, hf⟩ := ob hf
  refine z_sa C h113_ (kM_11 hkd) dX12_turns_276 ?_
  refine z_iconst (v := 0) C dX12_turns_277 ic_0 ?_
  refine z_ist C dX12_turns_278 rfl (Nat.le_of_ble_eq_true rfl) rfl ?_
  refine Z.sub [1, 2, 3, 4, 5, 0] rfl ?_
  obtain ⟨y114_, h115_, hf⟩ := ob hf
  suffices K116_ : Z Θ 7 0 0 (zQ Θ ρ) y114_.2 342 [(0, .ref (zA Θ 0)), (1, .int level_a), (2, .int whom_a), (3, .int y11_.1), (4, .int x9_), (5, .int y114_.1)] [] by
    refine loop2_Z (P := fun (p120_ : Int32) (σ121_ : St) => Z Θ 7 0 0 (zQ Θ ρ) σ121_ 280 [(0, .ref (zA Θ 0)), (1, .int level_a), (2, .int whom_a), (3, .int y11_.1), (4, .int x9_), (5, .int p120_)] []) ?_ fuelN (0 : Int32) σ112_ h115_
    clear h115_
    intro rec117_ p120_ σ121_ h118_ h119_
    refine z_iload C 5 dX12_turns_280 rfl ?_
    refine z_aload_n C 0 dX12_turns_282 rfl rfl ?_
    refine fg12_7 C hkd dX12_turns_283 ?_
    refine z_iconst (v := 3) C dX12_turns_286 ic_3 ?_
    obtain ⟨x126_, h127_, h119_⟩ := ob h119_
    refine z_ag C h127_ (kM_1 hkd) dX12_turns_287 ?_
    have K124_ : p120_ < x126_ → Z Θ 7 0 0 (zQ Θ ρ) σ121_ 291 [(0, .ref (zA Θ 0)), (1, .int level_a), (2, .int whom_a), (3, .int y11_.1), (4, .int x9_), (5, .int p120_)] [] := by
      intro h129_
      rw [if_pos h129_] at h119_
      obtain ⟨y130_, h131_, h119_⟩ := ob h119_
      suffices K132_ : Z Θ 7 0 0 (zQ Θ ρ) y130_ 336 [(0, .ref (zA Θ 0)), (1, .int level_a), (2, .int whom_a), (3, .int y11_.1), (4, .int x9_), (5, .int p120_)] [] by
        obtain ⟨t135_, h136_, h131_⟩ := ob h131_
        have K133_ : t135_ = true → Z Θ 7 0 0 (zQ Θ ρ) σ121_ 321 [(0, .ref (zA Θ 0)), (1, .int level_a), (2, .int whom_a), (3, .int y11_.1), (4, .int x9_), (5, .int p120_)] [] := by
          intro h141_
          rw [if_pos h141_] at h131_
          refine z_aload_n C 0 dX12_turns_321 rfl rfl ?_
          refine fg12_44 C hkd dX12_turns_322 ?_
          refine z_iload_n C 1 dX12_turns_325 rfl rfl ?_
          refine z_iconst (v := 1) C dX12_turns_326 ic_1 ?_
          refine z_iadd C dX12_turns_327 ?_
          refine z_dup2 C dX12_turns_328 rfl rfl ?_
          obtain ⟨x142_, h143_, h131_⟩ := ob h131_
          refine z_ag C h143_ (kM_11 hkd) dX12_turns_329 ?_
          refine z_iconst (v := 1) C dX12_turns_330 ic_1 ?_
          refine z_iload C 5 dX12_turns_331 rfl ?_
          refine z_shl C dX12_turns_333 ?_
          refine z_ior C dX12_turns_334 ?_
          obtain ⟨σ144_, h145_, h131_⟩ := ob h131_
          refine z_sa C h145_ (kM_11 hkd) dX12_turns_335 ?_
          cases h131_
          exact K132_
        have K134_ : ¬ (t135_ = true) → Z Θ 7 0 0 (zQ Θ ρ) σ121_ 336 [(0, .ref (zA Θ 0)), (1, .int level_a), (2, .int whom_a), (3, .int y11_.1), (4, .int x9_), (5, .int p120_)] [] := by
          intro h141_
          rw [if_neg h141_] at h131_
          cases h131_
          exact K132_
        refine z_iload C 4 dX12_turns_291 rfl ?_
        refine z_iload C 5 dX12_turns_293 rfl ?_
        refine cr12_275 (set_a := x9_) (k_a := p120_) C hkd  ⟨(Nat.le_of_ble_eq_true rfl), (Nat.le_of_ble_eq_true rfl)⟩ (Nat.le_of_ble_eq_true rfl) ⟨Nat.zero_le _, Nat.zero_le _⟩ dX12_turns_295 ?_
        refine cb_t C 336 dX12_turns_298 (by decide) (fun h137_ => ?_) (fun h137_ => ?_)
        · rw [if_pos h137_] at h136_
          cases h136_
          exact K134_ Bool.false_ne_true
        · rw [if_neg h137_] at h136_
          refine z_aload_n C 0 dX12_turns_301 rfl rfl ?_
          refine fg12_41 C hkd dX12_turns_302 ?_
          refine z_bipush (v := 7) C dX12_turns_305 bp_7 ?_
          refine z_iload_n C 1 dX12_turns_307 rfl rfl ?_
          refine z_imul C dX12_turns_308 ?_
          refine z_bipush (v := 7) C dX12_turns_309 bp_7 ?_
          refine z_iadd C dX12_turns_311 ?_
          refine z_iload C 5 dX12_turns_312 rfl ?_
          refine z_iadd C dX12_turns_314 ?_
          obtain ⟨x138_, h139_, h136_⟩ := ob h136_
          refine z_ag C h139_ (kM_10 hkd) dX12_turns_315 ?_
          refine z_bipush (v := 9) C dX12_turns_316 bp_9 ?_
          refine c_eq_f C 336 dX12_turns_318 (by decide) (fun h140_ => ?_) (fun h140_ => ?_)
          · rw [if_pos h140_] at h136_
            cases h136_
            exact K133_ rfl
          · rw [if_neg h140_] at h136_
            cases h136_
            exact K134_ Bool.false_ne_true
      obtain ⟨p146_, h147_, h119_⟩ := lt_ h119_
      refine z_inc C 5 dX12_turns_336 rfl ic_1 h147_ (Nat.le_of_ble_eq_true rfl) rfl ?_
      refine z_goto C 280 dX12_turns_339 (by decide) ?_
      refine Z.sub [1, 2, 3, 4, 5, 0] rfl ?_
      exact h118_ _ _ h119_
    have K125_ : ¬ (p120_ < x126_) → Z Θ 7 0 0 (zQ Θ ρ) σ121_ 342 [(0, .ref (zA Θ 0)), (1, .int level_a), (2, .int whom_a), (3, .int y11_.1), (4, .int x9_), (5, .int p120_)] [] := by
      intro h129_
      rw [if_neg h129_] at h119_
      cases h119_
      exact K116_
    refine c_lt_f C 342 dX12_turns_288 (by decide) (fun h128_ => ?_) (fun h128_ => ?_)
    · exact K124_ h128_
    · exact K125_ h128_
  cases hf
  subst hρ
  exact z_vret C dX12_turns_342
theorem c12_turns {l : Launch} {kd : List KD} {w : Wp} {σ : St} {level_a : Int32} {whom_a : Int32} (hkd : kd = kdM) (hi : zI kd w) {r : St} (hf : q12_turns σ level_a whom_a = some r) : zM l kd w yX12_turns cX12_turns 7 none rm12_turns [.ref (w.2.2.1 0), .int level_a, .int whom_a] σ (none, r) := zM_of rfl hi (Nat.le_of_ble_eq_true rfl) (fun Θ hl hw C => by
  obtain ⟨Θ1, Θ2, Θ3, Θ4, Θ5⟩ := Θ
  cases hw
  exact p12_turns C hkd  hf rfl)

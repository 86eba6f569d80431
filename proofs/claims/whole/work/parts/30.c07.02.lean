/-! LastLoaf$Baker.seatStarved -/
theorem fp0_60 {Θ : Tz} {cc : ByteArray} {nL kc ks : Nat} {ret : Option FieldType} {rm : Room} {Q : State → Prop} {σ : St} {pc : Nat} {lv : List (Nat × Value)} {st : List Value} (C : Zc Θ cc nL RX0 ret rm) (hkd : Θ.2.2.2.2.1 = kdC) {th : Nat} (hth : isV th) {x : Int32} {σ1 : St} (he : σ1 = up σ th 10 x) (hd : decode cc pc = .ok (.putfield 60, 3)) (kk : Z Θ nL kc ks Q σ1 (pc + 3) lv st) : Z Θ nL kc ks Q σ pc lv (.int x :: .ref (zA Θ th) :: st) := by subst he; exact z_put C inT10 tyX10_ok nmX10 th (kV_0 hkd hth) rfl 10 (by decide) w_1_140 rfl rfl rfl rfl hd kk
theorem dX0_seatStarved_0 : decode cX0_seatStarved 0 = .ok (.iconst 0, 1) := by decide +kernel
theorem dX0_seatStarved_1 : decode cX0_seatStarved 1 = .ok (.istore_n 2, 1) := by decide +kernel
theorem dX0_seatStarved_2 : decode cX0_seatStarved 2 = .ok (.iload_n 2, 1) := by decide +kernel
theorem dX0_seatStarved_3 : decode cX0_seatStarved 3 = .ok (.aload_n 1, 1) := by decide +kernel
theorem dX0_seatStarved_4 : decode cX0_seatStarved 4 = .ok (.getfield 54, 3) := by decide +kernel
theorem dX0_seatStarved_7 : decode cX0_seatStarved 7 = .ok (.if_icmp .ge 57, 3) := by decide +kernel
theorem dX0_seatStarved_10 : decode cX0_seatStarved 10 = .ok (.aload_n 1, 1) := by decide +kernel
theorem dX0_seatStarved_11 : decode cX0_seatStarved 11 = .ok (.getfield 60, 3) := by decide +kernel
theorem dX0_seatStarved_14 : decode cX0_seatStarved 14 = .ok (.iload_n 2, 1) := by decide +kernel
theorem dX0_seatStarved_15 : decode cX0_seatStarved 15 = .ok (.invokestatic 63, 3) := by decide +kernel
theorem dX0_seatStarved_18 : decode cX0_seatStarved 18 = .ok (.ifCond .ne 40, 3) := by decide +kernel
theorem dX0_seatStarved_21 : decode cX0_seatStarved 21 = .ok (.aload_n 1, 1) := by decide +kernel
theorem dX0_seatStarved_22 : decode cX0_seatStarved 22 = .ok (.getfield 67, 3) := by decide +kernel
theorem dX0_seatStarved_25 : decode cX0_seatStarved 25 = .ok (.iload_n 2, 1) := by decide +kernel
theorem dX0_seatStarved_26 : decode cX0_seatStarved 26 = .ok (.iaload, 1) := by decide +kernel
theorem dX0_seatStarved_27 : decode cX0_seatStarved 27 = .ok (.bipush 9, 2) := by decide +kernel
theorem dX0_seatStarved_29 : decode cX0_seatStarved 29 = .ok (.if_icmp .ne 29, 3) := by decide +kernel
theorem dX0_seatStarved_32 : decode cX0_seatStarved 32 = .ok (.aload_n 1, 1) := by decide +kernel
theorem dX0_seatStarved_33 : decode cX0_seatStarved 33 = .ok (.dup, 1) := by decide +kernel
theorem dX0_seatStarved_34 : decode cX0_seatStarved 34 = .ok (.getfield 60, 3) := by decide +kernel
theorem dX0_seatStarved_37 : decode cX0_seatStarved 37 = .ok (.iconst 1, 1) := by decide +kernel
theorem dX0_seatStarved_38 : decode cX0_seatStarved 38 = .ok (.iload_n 2, 1) := by decide +kernel
theorem dX0_seatStarved_39 : decode cX0_seatStarved 39 = .ok (.ishl, 1) := by decide +kernel
theorem dX0_seatStarved_40 : decode cX0_seatStarved 40 = .ok (.ior, 1) := by decide +kernel
theorem dX0_seatStarved_41 : decode cX0_seatStarved 41 = .ok (.putfield 60, 3) := by decide +kernel
theorem dX0_seatStarved_44 : decode cX0_seatStarved 44 = .ok (.aload_n 1, 1) := by decide +kernel
theorem dX0_seatStarved_45 : decode cX0_seatStarved 45 = .ok (.getfield 97, 3) := by decide +kernel
theorem dX0_seatStarved_48 : decode cX0_seatStarved 48 = .ok (.aload_n 1, 1) := by decide +kernel
theorem dX0_seatStarved_49 : decode cX0_seatStarved 49 = .ok (.getfield 19, 3) := by decide +kernel
theorem dX0_seatStarved_52 : decode cX0_seatStarved 52 = .ok (.iconst 1, 1) := by decide +kernel
theorem dX0_seatStarved_53 : decode cX0_seatStarved 53 = .ok (.iload_n 2, 1) := by decide +kernel
theorem dX0_seatStarved_54 : decode cX0_seatStarved 54 = .ok (.iconst 0, 1) := by decide +kernel
theorem dX0_seatStarved_55 : decode cX0_seatStarved 55 = .ok (.invokevirtual 104, 3) := by decide +kernel
theorem dX0_seatStarved_58 : decode cX0_seatStarved 58 = .ok (.iinc 2 1, 3) := by decide +kernel
theorem dX0_seatStarved_61 : decode cX0_seatStarved 61 = .ok (.goto (-59), 3) := by decide +kernel
theorem dX0_seatStarved_64 : decode cX0_seatStarved 64 = .ok (.return_, 1) := by decide +kernel
def q0_seatStarved (σ : St) (village_a : Nat) : Option St :=
  Option.bind (loop2 (fun rec4_ (p7_ : Int32) (σ8_ : St) =>
  if p7_ < (σ8_ village_a 8) then
  Option.bind (Option.bind (if q11_isIn (σ8_ village_a 10) p7_ = true then (some false) else (Option.bind (ag σ8_ (village_a + 1) 6 p7_) fun x23_ =>
  if x23_ = 9 then (some true) else (some false))) fun t20_ =>
  if t20_ = true then (lt (up σ8_ village_a 10 ((σ8_ village_a 10) ||| (shl 1 p7_))) fun σ27_ =>
  Option.bind (q3_write σ27_ (village_a + 8) (σ27_ village_a 12) 1 p7_ 0) fun x29_ =>
  some (x29_)) else (some (σ8_))) fun y15_ =>
  lt (p7_ + 1) fun p31_ =>
  rec4_ p31_ y15_
  else (some (p7_, σ8_))) fuelN (0 : Int32) σ) fun y1_ =>
  some y1_.2
abbrev rm0_seatStarved : Room := { frames := 2, cells := 0, slots := 0, locals := 46 }
set_option maxHeartbeats 4000000 in
set_option maxRecDepth 100000 in
theorem p0_seatStarved {Θ : Tz} {σ : St} {ρ : Option Value × St} (C : Zc Θ cX0_seatStarved 3 RX0 none rm0_seatStarved) (hkd : Θ.2.2.2.2.1 = kdC) {village_a : Nat} (h_village : isV village_a) {r : St} (hf : q0_seatStarved σ village_a = some r) (hρ : ρ = (none, r)) : Z Θ 3 0 0 (zQ Θ ρ) σ 0 [(0, .ref (zA Θ 13)), (1, .ref (zA Θ village_a))] [] := by
  unfold q0_seatStarved at hf
  refine z_iconst (v := 0) C dX0_seatStarved_0 ic_0 ?_
  refine z_istN C dX0_seatStarved_1 rfl rfl (Nat.le_of_ble_eq_true rfl) rfl ?_
  refine Z.sub [1, 2, 0] rfl ?_
  obtain ⟨y1_, h2_, hf⟩ := ob hf
  suffices K3_ : Z Θ 3 0 0 (zQ Θ ρ) y1_.2 64 [(0, .ref (zA Θ 13)), (1, .ref (zA Θ village_a)), (2, .int y1_.1)] [] by
    refine loop2_Z (P := fun (p7_ : Int32) (σ8_ : St) => Z Θ 3 0 0 (zQ Θ ρ) σ8_ 2 [(0, .ref (zA Θ 13)), (1, .ref (zA Θ village_a)), (2, .int p7_)] []) ?_ fuelN (0 : Int32) σ h2_
    clear h2_
    intro rec4_ p7_ σ8_ h5_ h6_
    have K11_ : p7_ < (σ8_ village_a 8) → Z Θ 3 0 0 (zQ Θ ρ) σ8_ 10 [(0, .ref (zA Θ 13)), (1, .ref (zA Θ village_a)), (2, .int p7_)] [] := by
      intro h14_
      rw [if_pos h14_] at h6_
      obtain ⟨y15_, h16_, h6_⟩ := ob h6_
      suffices K17_ : Z Θ 3 0 0 (zQ Θ ρ) y15_ 58 [(0, .ref (zA Θ 13)), (1, .ref (zA Θ village_a)), (2, .int p7_)] [] by
        obtain ⟨t20_, h21_, h16_⟩ := ob h16_
        have K18_ : t20_ = true → Z Θ 3 0 0 (zQ Θ ρ) σ8_ 32 [(0, .ref (zA Θ 13)), (1, .ref (zA Θ village_a)), (2, .int p7_)] [] := by
          intro h26_
          rw [if_pos h26_] at h16_
          refine z_aload_n C 1 dX0_seatStarved_32 rfl rfl ?_
          refine z_dup C dX0_seatStarved_33 rfl ?_
          refine fg0_60 C hkd h_village dX0_seatStarved_34 ?_
          refine z_iconst (v := 1) C dX0_seatStarved_37 ic_1 ?_
          refine z_iload_n C 2 dX0_seatStarved_38 rfl rfl ?_
          refine z_shl C dX0_seatStarved_39 ?_
          refine z_ior C dX0_seatStarved_40 ?_
          obtain ⟨σ27_, h28_, h16_⟩ := lt_ h16_
          refine fp0_60 C hkd h_village h28_ dX0_seatStarved_41 ?_
          refine z_aload_n C 1 dX0_seatStarved_44 rfl rfl ?_
          refine fg0_97 C hkd h_village dX0_seatStarved_45 ?_
          refine z_aload_n C 1 dX0_seatStarved_48 rfl rfl ?_
          refine fg0_19 C hkd h_village dX0_seatStarved_49 ?_
          refine z_iconst (v := 1) C dX0_seatStarved_52 ic_1 ?_
          refine z_iload_n C 2 dX0_seatStarved_53 rfl rfl ?_
          refine z_iconst (v := 0) C dX0_seatStarved_54 ic_0 ?_
          obtain ⟨x29_, h30_, h16_⟩ := ob h16_
          refine cr0_104 (th := (village_a + 8)) (week_a := (σ27_ village_a 12)) (kind_a := 1) (person_a := p7_) (votes_a := 0) C hkd (isLog_of h_village) h30_ ⟨(Nat.le_of_ble_eq_true rfl), (Nat.le_of_ble_eq_true rfl)⟩ (Nat.le_of_ble_eq_true rfl) ⟨Nat.zero_le _, Nat.zero_le _⟩ dX0_seatStarved_55 ?_
          cases h16_
          exact K17_
        have K19_ : ¬ (t20_ = true) → Z Θ 3 0 0 (zQ Θ ρ) σ8_ 58 [(0, .ref (zA Θ 13)), (1, .ref (zA Θ village_a)), (2, .int p7_)] [] := by
          intro h26_
          rw [if_neg h26_] at h16_
          cases h16_
          exact K17_
        refine z_aload_n C 1 dX0_seatStarved_10 rfl rfl ?_
        refine fg0_60 C hkd h_village dX0_seatStarved_11 ?_
        refine z_iload_n C 2 dX0_seatStarved_14 rfl rfl ?_
        refine cr0_63 (set_a := (σ8_ village_a 10)) (person_a := p7_) C hkd  ⟨(Nat.le_of_ble_eq_true rfl), (Nat.le_of_ble_eq_true rfl)⟩ (Nat.le_of_ble_eq_true rfl) ⟨Nat.zero_le _, Nat.zero_le _⟩ dX0_seatStarved_15 ?_
        refine cb_t C 58 dX0_seatStarved_18 (by decide) (fun h22_ => ?_) (fun h22_ => ?_)
        · rw [if_pos h22_] at h21_
          cases h21_
          exact K19_ Bool.false_ne_true
        · rw [if_neg h22_] at h21_
          refine z_aload_n C 1 dX0_seatStarved_21 rfl rfl ?_
          refine fg0_67 C hkd h_village dX0_seatStarved_22 ?_
          refine z_iload_n C 2 dX0_seatStarved_25 rfl rfl ?_
          obtain ⟨x23_, h24_, h21_⟩ := ob h21_
          refine z_ag C h24_ (kV_1 hkd h_village) dX0_seatStarved_26 ?_
          refine z_bipush (v := 9) C dX0_seatStarved_27 bp_9 ?_
          refine c_eq_f C 58 dX0_seatStarved_29 (by decide) (fun h25_ => ?_) (fun h25_ => ?_)
          · rw [if_pos h25_] at h21_
            cases h21_
            exact K18_ rfl
          · rw [if_neg h25_] at h21_
            cases h21_
            exact K19_ Bool.false_ne_true
      obtain ⟨p31_, h32_, h6_⟩ := lt_ h6_
      refine z_inc C 2 dX0_seatStarved_58 rfl ic_1 h32_ (Nat.le_of_ble_eq_true rfl) rfl ?_
      refine z_goto C 2 dX0_seatStarved_61 (by decide) ?_
      refine Z.sub [1, 2, 0] rfl ?_
      exact h5_ _ _ h6_
    have K12_ : ¬ (p7_ < (σ8_ village_a 8)) → Z Θ 3 0 0 (zQ Θ ρ) σ8_ 64 [(0, .ref (zA Θ 13)), (1, .ref (zA Θ village_a)), (2, .int p7_)] [] := by
      intro h14_
      rw [if_neg h14_] at h6_
      cases h6_
      exact K3_
    refine z_iload_n C 2 dX0_seatStarved_2 rfl rfl ?_
    refine z_aload_n C 1 dX0_seatStarved_3 rfl rfl ?_
    refine fg0_54 C hkd h_village dX0_seatStarved_4 ?_
    refine c_lt_f C 64 dX0_seatStarved_7 (by decide) (fun h13_ => ?_) (fun h13_ => ?_)
    · exact K11_ h13_
    · exact K12_ h13_
  cases hf
  subst hρ
  exact z_vret C dX0_seatStarved_64
theorem c0_seatStarved {l : Launch} {kd : List KD} {w : Wp} {σ : St} {village_a : Nat} (hkd : kd = kdC) (hi : zI kd w) (h_village : isV village_a) {r : St} (hf : q0_seatStarved σ village_a = some r) : zM l kd w yX0_seatStarved cX0_seatStarved 3 none rm0_seatStarved [.ref (w.2.2.1 13), .ref (w.2.2.1 village_a)] σ (none, r) := zM_of rfl hi (Nat.le_of_ble_eq_true rfl) (fun Θ hl hw C => by
  obtain ⟨Θ1, Θ2, Θ3, Θ4, Θ5⟩ := Θ
  cases hw
  exact p0_seatStarved C hkd h_village hf rfl)

/-! LastLoaf.smallest -/
theorem dX11_smallest_0 : decode cX11_smallest 0 = .ok (.iconst (-1), 1) := by decide +kernel
theorem dX11_smallest_1 : decode cX11_smallest 1 = .ok (.istore_n 1, 1) := by decide +kernel
theorem dX11_smallest_2 : decode cX11_smallest 2 = .ok (.iconst 0, 1) := by decide +kernel
theorem dX11_smallest_3 : decode cX11_smallest 3 = .ok (.istore_n 2, 1) := by decide +kernel
theorem dX11_smallest_4 : decode cX11_smallest 4 = .ok (.iload_n 2, 1) := by decide +kernel
theorem dX11_smallest_5 : decode cX11_smallest 5 = .ok (.bipush 64, 2) := by decide +kernel
theorem dX11_smallest_7 : decode cX11_smallest 7 = .ok (.if_icmp .ge 53, 3) := by decide +kernel
theorem dX11_smallest_10 : decode cX11_smallest 10 = .ok (.iload_n 1, 1) := by decide +kernel
theorem dX11_smallest_11 : decode cX11_smallest 11 = .ok (.iconst (-1), 1) := by decide +kernel
theorem dX11_smallest_12 : decode cX11_smallest 12 = .ok (.if_icmp .eq 14, 3) := by decide +kernel
theorem dX11_smallest_15 : decode cX11_smallest 15 = .ok (.iload_n 2, 1) := by decide +kernel
theorem dX11_smallest_16 : decode cX11_smallest 16 = .ok (.invokestatic 238, 3) := by decide +kernel
theorem dX11_smallest_19 : decode cX11_smallest 19 = .ok (.iload_n 1, 1) := by decide +kernel
theorem dX11_smallest_20 : decode cX11_smallest 20 = .ok (.invokestatic 238, 3) := by decide +kernel
theorem dX11_smallest_23 : decode cX11_smallest 23 = .ok (.if_icmp .ge 7, 3) := by decide +kernel
theorem dX11_smallest_26 : decode cX11_smallest 26 = .ok (.iconst 1, 1) := by decide +kernel
theorem dX11_smallest_27 : decode cX11_smallest 27 = .ok (.goto 4, 3) := by decide +kernel
theorem dX11_smallest_30 : decode cX11_smallest 30 = .ok (.iconst 0, 1) := by decide +kernel
theorem dX11_smallest_31 : decode cX11_smallest 31 = .ok (.istore_n 3, 1) := by decide +kernel
theorem dX11_smallest_32 : decode cX11_smallest 32 = .ok (.iload_n 3, 1) := by decide +kernel
theorem dX11_smallest_33 : decode cX11_smallest 33 = .ok (.ifCond .eq 21, 3) := by decide +kernel
theorem dX11_smallest_36 : decode cX11_smallest 36 = .ok (.aload_n 0, 1) := by decide +kernel
theorem dX11_smallest_37 : decode cX11_smallest 37 = .ok (.iload_n 2, 1) := by decide +kernel
theorem dX11_smallest_38 : decode cX11_smallest 38 = .ok (.invokevirtual 352, 3) := by decide +kernel
theorem dX11_smallest_41 : decode cX11_smallest 41 = .ok (.ifCond .eq 13, 3) := by decide +kernel
theorem dX11_smallest_44 : decode cX11_smallest 44 = .ok (.aload_n 0, 1) := by decide +kernel
theorem dX11_smallest_45 : decode cX11_smallest 45 = .ok (.iload_n 2, 1) := by decide +kernel
theorem dX11_smallest_46 : decode cX11_smallest 46 = .ok (.invokevirtual 345, 3) := by decide +kernel
theorem dX11_smallest_49 : decode cX11_smallest 49 = .ok (.ifCond .eq 5, 3) := by decide +kernel
theorem dX11_smallest_52 : decode cX11_smallest 52 = .ok (.iload_n 2, 1) := by decide +kernel
theorem dX11_smallest_53 : decode cX11_smallest 53 = .ok (.istore_n 1, 1) := by decide +kernel
theorem dX11_smallest_54 : decode cX11_smallest 54 = .ok (.iinc 2 1, 3) := by decide +kernel
theorem dX11_smallest_57 : decode cX11_smallest 57 = .ok (.goto (-53), 3) := by decide +kernel
theorem dX11_smallest_60 : decode cX11_smallest 60 = .ok (.iload_n 1, 1) := by decide +kernel
theorem dX11_smallest_61 : decode cX11_smallest 61 = .ok (.ireturn, 1) := by decide +kernel
def q11_smallest (σ : St) : Option Int32 :=
  Option.bind (loop2 (fun rec4_ (best7_ : Int32) (set8_ : Int32) =>
  if set8_ < 64 then
  lt (decide ((best7_ = (-1)) ∨ ((bcount set8_) < (bcount best7_)))) fun isFewer21_ =>
  Option.bind (Option.bind (if isFewer21_ = true then (if q11_isHouse σ set8_ = true then (Option.bind (q11_hasMost σ set8_) fun x32_ =>
  if x32_ = true then (some true) else (some false)) else (some false)) else (some false)) fun t28_ =>
  if t28_ = true then (some (set8_)) else (some (best7_))) fun y23_ =>
  lt (set8_ + 1) fun set36_ =>
  rec4_ y23_ set36_
  else (some (best7_, set8_))) fuelN (-1 : Int32) (0 : Int32)) fun y1_ =>
  some y1_.1
abbrev rm11_smallest : Room := { frames := 3, cells := 0, slots := 0, locals := 61 }
set_option maxHeartbeats 4000000 in
set_option maxRecDepth 100000 in
theorem p11_smallest {Θ : Tz} {σ : St} {ρ : Option Value × St} (C : Zc Θ cX11_smallest 4 RX11 (some .int) rm11_smallest) (hkd : Θ.2.2.2.2.1 = kdC) {r : Int32} (hf : q11_smallest σ = some r) (hρ : ρ = (some (.int r), σ)) : Z Θ 4 0 0 (zQ Θ ρ) σ 0 [(0, .ref (zA Θ 0))] [] := by
  unfold q11_smallest at hf
  refine z_iconst (v := (-1)) C dX11_smallest_0 ic_m1 ?_
  refine z_istN C dX11_smallest_1 rfl rfl (Nat.le_of_ble_eq_true rfl) rfl ?_
  refine z_iconst (v := 0) C dX11_smallest_2 ic_0 ?_
  refine z_istN C dX11_smallest_3 rfl rfl (Nat.le_of_ble_eq_true rfl) rfl ?_
  refine Z.sub [2, 1, 0] rfl ?_
  obtain ⟨y1_, h2_, hf⟩ := ob hf
  suffices K3_ : Z Θ 4 0 0 (zQ Θ ρ) σ 60 [(0, .ref (zA Θ 0)), (1, .int y1_.1), (2, .int y1_.2)] [] by
    refine loop2_Z (P := fun (best7_ : Int32) (set8_ : Int32) => Z Θ 4 0 0 (zQ Θ ρ) σ 4 [(0, .ref (zA Θ 0)), (1, .int best7_), (2, .int set8_)] []) ?_ fuelN (-1 : Int32) (0 : Int32) h2_
    clear h2_
    intro rec4_ best7_ set8_ h5_ h6_
    have K11_ : set8_ < 64 → Z Θ 4 0 0 (zQ Θ ρ) σ 10 [(0, .ref (zA Θ 0)), (1, .int best7_), (2, .int set8_)] [] := by
      intro h14_
      rw [if_pos h14_] at h6_
      suffices K15_ : Z Θ 4 0 0 (zQ Θ ρ) σ 31 [(0, .ref (zA Θ 0)), (1, .int best7_), (2, .int set8_)] [.int (b2i (decide ((best7_ = (-1)) ∨ ((bcount set8_) < (bcount best7_)))))] by
        have K16_ : (best7_ = (-1)) ∨ ((bcount set8_) < (bcount best7_)) → Z Θ 4 0 0 (zQ Θ ρ) σ 26 [(0, .ref (zA Θ 0)), (1, .int best7_), (2, .int set8_)] [] := by
          intro h20_
          rw [decide_eq_true h20_] at K15_
          refine z_iconst (v := 1) C dX11_smallest_26 ic_1 ?_
          refine z_goto C 31 dX11_smallest_27 (by decide) ?_
          exact K15_
        have K17_ : ¬ ((best7_ = (-1)) ∨ ((bcount set8_) < (bcount best7_))) → Z Θ 4 0 0 (zQ Θ ρ) σ 30 [(0, .ref (zA Θ 0)), (1, .int best7_), (2, .int set8_)] [] := by
          intro h20_
          rw [decide_eq_false h20_] at K15_
          refine z_iconst (v := 0) C dX11_smallest_30 ic_0 ?_
          exact K15_
        refine z_iload_n C 1 dX11_smallest_10 rfl rfl ?_
        refine z_iconst (v := (-1)) C dX11_smallest_11 ic_m1 ?_
        refine c_eq_t C 26 dX11_smallest_12 (by decide) (fun h18_ => ?_) (fun h18_ => ?_)
        · exact K16_ (Or.inl h18_)
        · refine z_iload_n C 2 dX11_smallest_15 rfl rfl ?_
          refine z_callS C [.int set8_] (some (.int (bcount set8_)), σ) 1 (cJ_bitCount (zc_inj C)) w_3_30 w_4_11 w_3_29 w_1_26 ⟨rfl, rfl, (Nat.le_of_ble_eq_true rfl), (Nat.le_of_ble_eq_true rfl)⟩ (by decide +kernel) rfl rfl (Nat.le_of_ble_eq_true rfl) ⟨Nat.zero_le _, Nat.zero_le _⟩ dX11_smallest_16 ?_
          refine z_iload_n C 1 dX11_smallest_19 rfl rfl ?_
          refine z_callS C [.int best7_] (some (.int (bcount best7_)), σ) 1 (cJ_bitCount (zc_inj C)) w_3_30 w_4_11 w_3_29 w_1_26 ⟨rfl, rfl, (Nat.le_of_ble_eq_true rfl), (Nat.le_of_ble_eq_true rfl)⟩ (by decide +kernel) rfl rfl (Nat.le_of_ble_eq_true rfl) ⟨Nat.zero_le _, Nat.zero_le _⟩ dX11_smallest_20 ?_
          refine c_lt_f C 30 dX11_smallest_23 (by decide) (fun h19_ => ?_) (fun h19_ => ?_)
          · exact K16_ (Or.inr h19_)
          · exact K17_ (fun n => n.elim h18_ h19_)
      obtain ⟨isFewer21_, h22_, h6_⟩ := lt_ h6_
      refine z_istN C dX11_smallest_31 (congrArg b2i h22_) rfl (Nat.le_of_ble_eq_true rfl) rfl ?_
      obtain ⟨y23_, h24_, h6_⟩ := ob h6_
      suffices K25_ : Z Θ 4 0 0 (zQ Θ ρ) σ 54 [(0, .ref (zA Θ 0)), (1, .int y23_), (2, .int set8_), (3, .int (b2i isFewer21_))] [] by
        obtain ⟨t28_, h29_, h24_⟩ := ob h24_
        have K26_ : t28_ = true → Z Θ 4 0 0 (zQ Θ ρ) σ 52 [(3, .int (b2i isFewer21_)), (0, .ref (zA Θ 0)), (1, .int best7_), (2, .int set8_)] [] := by
          intro h35_
          rw [if_pos h35_] at h24_
          refine z_iload_n C 3 dX11_smallest_52 rfl rfl ?_
          refine z_istN C dX11_smallest_53 rfl rfl (Nat.le_of_ble_eq_true rfl) rfl ?_
          cases h24_
          refine Z.sub [2, 0, 3, 1] rfl ?_
          exact K25_
        have K27_ : ¬ (t28_ = true) → Z Θ 4 0 0 (zQ Θ ρ) σ 54 [(3, .int (b2i isFewer21_)), (0, .ref (zA Θ 0)), (1, .int best7_), (2, .int set8_)] [] := by
          intro h35_
          rw [if_neg h35_] at h24_
          cases h24_
          refine Z.sub [1, 2, 3, 0] rfl ?_
          exact K25_
        refine z_iload_n C 0 dX11_smallest_32 rfl rfl ?_
        refine cb_f C 54 dX11_smallest_33 (by decide) (fun h30_ => ?_) (fun h30_ => ?_)
        · rw [if_pos h30_] at h29_
          refine z_aload_n C 1 dX11_smallest_36 rfl rfl ?_
          refine z_iload_n C 3 dX11_smallest_37 rfl rfl ?_
          refine cr11_352 (set_a := set8_) C hkd  ⟨(Nat.le_of_ble_eq_true rfl), (Nat.le_of_ble_eq_true rfl)⟩ (Nat.le_of_ble_eq_true rfl) ⟨Nat.zero_le _, Nat.zero_le _⟩ dX11_smallest_38 ?_
          refine cb_f C 54 dX11_smallest_41 (by decide) (fun h31_ => ?_) (fun h31_ => ?_)
          · rw [if_pos h31_] at h29_
            refine z_aload_n C 1 dX11_smallest_44 rfl rfl ?_
            refine z_iload_n C 3 dX11_smallest_45 rfl rfl ?_
            obtain ⟨x32_, h33_, h29_⟩ := ob h29_
            refine cr11_345 (house_a := set8_) C hkd  h33_ ⟨(Nat.le_of_ble_eq_true rfl), (Nat.le_of_ble_eq_true rfl)⟩ (Nat.le_of_ble_eq_true rfl) ⟨Nat.zero_le _, Nat.zero_le _⟩ dX11_smallest_46 ?_
            refine cb_f C 54 dX11_smallest_49 (by decide) (fun h34_ => ?_) (fun h34_ => ?_)
            · rw [if_pos h34_] at h29_
              cases h29_
              exact K26_ rfl
            · rw [if_neg h34_] at h29_
              cases h29_
              exact K27_ Bool.false_ne_true
          · rw [if_neg h31_] at h29_
            cases h29_
            exact K27_ Bool.false_ne_true
        · rw [if_neg h30_] at h29_
          cases h29_
          exact K27_ Bool.false_ne_true
      obtain ⟨set36_, h37_, h6_⟩ := lt_ h6_
      refine z_inc C 2 dX11_smallest_54 rfl ic_1 h37_ (Nat.le_of_ble_eq_true rfl) rfl ?_
      refine z_goto C 4 dX11_smallest_57 (by decide) ?_
      refine Z.sub [1, 2, 0] rfl ?_
      exact h5_ _ _ h6_
    have K12_ : ¬ (set8_ < 64) → Z Θ 4 0 0 (zQ Θ ρ) σ 60 [(0, .ref (zA Θ 0)), (1, .int best7_), (2, .int set8_)] [] := by
      intro h14_
      rw [if_neg h14_] at h6_
      cases h6_
      exact K3_
    refine z_iload_n C 2 dX11_smallest_4 rfl rfl ?_
    refine z_bipush (v := 64) C dX11_smallest_5 bp_64 ?_
    refine c_lt_f C 60 dX11_smallest_7 (by decide) (fun h13_ => ?_) (fun h13_ => ?_)
    · exact K11_ h13_
    · exact K12_ h13_
  refine z_iload_n C 1 dX11_smallest_60 rfl rfl ?_
  cases hf
  subst hρ
  exact z_iret C dX11_smallest_61
theorem c11_smallest {l : Launch} {kd : List KD} {w : Wp} {σ : St} (hkd : kd = kdC) (hi : zI kd w) {r : Int32} (hf : q11_smallest σ = some r) : zM l kd w yX11_smallest cX11_smallest 4 (some .int) rm11_smallest [.ref (w.2.2.1 0)] σ (some (.int r), σ) := zM_of rfl hi (Nat.le_of_ble_eq_true rfl) (fun Θ hl hw C => by
  obtain ⟨Θ1, Θ2, Θ3, Θ4, Θ5⟩ := Θ
  cases hw
  exact p11_smallest C hkd  hf rfl)
/-! LastLoaf.bloc -/
theorem dX11_bloc_0 : decode cX11_bloc 0 = .ok (.iload_n 1, 1) := by decide +kernel
theorem dX11_bloc_1 : decode cX11_bloc 1 = .ok (.invokestatic 258, 3) := by decide +kernel
theorem dX11_bloc_4 : decode cX11_bloc 4 = .ok (.iconst 0, 1) := by decide +kernel
theorem dX11_bloc_5 : decode cX11_bloc 5 = .ok (.istore_n 2, 1) := by decide +kernel
theorem dX11_bloc_6 : decode cX11_bloc 6 = .ok (.iconst 0, 1) := by decide +kernel
theorem dX11_bloc_7 : decode cX11_bloc 7 = .ok (.istore_n 3, 1) := by decide +kernel
theorem dX11_bloc_8 : decode cX11_bloc 8 = .ok (.iload_n 3, 1) := by decide +kernel
theorem dX11_bloc_9 : decode cX11_bloc 9 = .ok (.aload_n 0, 1) := by decide +kernel
theorem dX11_bloc_10 : decode cX11_bloc 10 = .ok (.getfield 19, 3) := by decide +kernel
theorem dX11_bloc_13 : decode cX11_bloc 13 = .ok (.getfield 355, 3) := by decide +kernel
theorem dX11_bloc_16 : decode cX11_bloc 16 = .ok (.if_icmp .ge 44, 3) := by decide +kernel
theorem dX11_bloc_19 : decode cX11_bloc 19 = .ok (.aload_n 0, 1) := by decide +kernel
theorem dX11_bloc_20 : decode cX11_bloc 20 = .ok (.getfield 19, 3) := by decide +kernel
theorem dX11_bloc_23 : decode cX11_bloc 23 = .ok (.getfield 158, 3) := by decide +kernel
theorem dX11_bloc_26 : decode cX11_bloc 26 = .ok (.iload_n 3, 1) := by decide +kernel
theorem dX11_bloc_27 : decode cX11_bloc 27 = .ok (.iaload, 1) := by decide +kernel
theorem dX11_bloc_28 : decode cX11_bloc 28 = .ok (.iload_n 1, 1) := by decide +kernel
theorem dX11_bloc_29 : decode cX11_bloc 29 = .ok (.if_icmp .ne 25, 3) := by decide +kernel
theorem dX11_bloc_32 : decode cX11_bloc 32 = .ok (.aload_n 0, 1) := by decide +kernel
theorem dX11_bloc_33 : decode cX11_bloc 33 = .ok (.getfield 19, 3) := by decide +kernel
theorem dX11_bloc_36 : decode cX11_bloc 36 = .ok (.getfield 171, 3) := by decide +kernel
theorem dX11_bloc_39 : decode cX11_bloc 39 = .ok (.iload_n 3, 1) := by decide +kernel
theorem dX11_bloc_40 : decode cX11_bloc 40 = .ok (.invokestatic 167, 3) := by decide +kernel
theorem dX11_bloc_43 : decode cX11_bloc 43 = .ok (.ifCond .ne 11, 3) := by decide +kernel
theorem dX11_bloc_46 : decode cX11_bloc 46 = .ok (.iload_n 2, 1) := by decide +kernel
theorem dX11_bloc_47 : decode cX11_bloc 47 = .ok (.aload_n 0, 1) := by decide +kernel
theorem dX11_bloc_48 : decode cX11_bloc 48 = .ok (.iload_n 3, 1) := by decide +kernel
theorem dX11_bloc_49 : decode cX11_bloc 49 = .ok (.invokevirtual 358, 3) := by decide +kernel
theorem dX11_bloc_52 : decode cX11_bloc 52 = .ok (.iadd, 1) := by decide +kernel
theorem dX11_bloc_53 : decode cX11_bloc 53 = .ok (.istore_n 2, 1) := by decide +kernel
theorem dX11_bloc_54 : decode cX11_bloc 54 = .ok (.iinc 3 1, 3) := by decide +kernel
theorem dX11_bloc_57 : decode cX11_bloc 57 = .ok (.goto (-49), 3) := by decide +kernel
theorem dX11_bloc_60 : decode cX11_bloc 60 = .ok (.iload_n 2, 1) := by decide +kernel
theorem dX11_bloc_61 : decode cX11_bloc 61 = .ok (.ireturn, 1) := by decide +kernel
def q11_bloc (σ : St) (party_a : Int32) : Option (Sum Nat Int32 × St) :=
  thn (q11_needParty party_a) σ
  (Option.bind (loop2 (fun rec6_ (sum9_ : Int32) (p10_ : Int32) =>
  if p10_ < (σ 44 8) then
  Option.bind (Option.bind (ag σ (44 + 2) 6 p10_) fun x22_ =>
  if (x22_ = party_a) ∧ (¬ (q11_isIn (σ 44 10) p10_ = true)) then (Option.bind (q11_weightOf σ p10_) fun x27_ =>
  lt (sum9_ + x27_) fun sum29_ =>
  some (sum29_)) else (some (sum9_))) fun y17_ =>
  lt (p10_ + 1) fun p31_ =>
  rec6_ y17_ p31_
  else (some (sum9_, p10_))) fuelN (0 : Int32) (0 : Int32)) fun y3_ =>
  some (.inr y3_.1, σ))
abbrev rm11_bloc : Room := { frames := 7, cells := 1, slots := 6, locals := 110 }
set_option maxHeartbeats 4000000 in
set_option maxRecDepth 100000 in
theorem p11_bloc {Θ : Tz} {σ : St} {ω : Om} (C : Zc Θ cX11_bloc 4 RX11 (some .int) rm11_bloc) (hkd : Θ.2.2.2.2.1 = kdC) (hlt : Θ.1.2.1.stackTraces = false) (het : ∀ x ∈ Θ.2.2.1.2.exceptionTable.toList, False) {party_a : Int32} {r : (Sum Nat Int32 × St)} (hf : q11_bloc σ party_a = some r) (hω : ω = om (fun v => some (.int v)) r) : Z Θ 4 0 0 (zQX Θ ω 1 6) σ 0 [(0, .ref (zA Θ 0)), (1, .int party_a)] [] := by
  unfold q11_bloc at hf
  refine z_iload_n C 1 dX11_bloc_0 rfl rfl ?_
  refine zx_callS C het [.int party_a] (q11_needParty party_a) 1 6 1 (c11_needParty (party_a := party_a) hkd (zc_inj C) hlt) w_6_130 w_6_128 w_6_129 w_1_1 ⟨rfl, rfl, (Nat.le_of_ble_eq_true rfl), (Nat.le_of_ble_eq_true rfl)⟩ (by decide +kernel) rfl rfl (Nat.le_of_ble_eq_true rfl) ⟨(Nat.le_of_ble_eq_true rfl), (Nat.le_of_ble_eq_true rfl)⟩ dX11_bloc_1 ⟨(Nat.le_of_ble_eq_true rfl), (Nat.le_of_ble_eq_true rfl)⟩ (fun e9 h2_ => by rw [h2_] at hf; cases hf; exact hω) (fun h1_ => ?_)
  rw [h1_] at hf
  replace hf := thn_x hf
  refine z_iconst (v := 0) C dX11_bloc_4 ic_0 ?_
  refine z_istN C dX11_bloc_5 rfl rfl (Nat.le_of_ble_eq_true rfl) rfl ?_
  refine z_iconst (v := 0) C dX11_bloc_6 ic_0 ?_
  refine z_istN C dX11_bloc_7 rfl rfl (Nat.le_of_ble_eq_true rfl) rfl ?_
  refine Z.sub [2, 3, 1, 0] rfl ?_
  obtain ⟨y3_, h4_, hf⟩ := ob hf
  suffices K5_ : Z Θ 4 1 6 (zQX Θ ω 1 6) σ 60 [(0, .ref (zA Θ 0)), (1, .int party_a), (2, .int y3_.1), (3, .int y3_.2)] [] by
    refine loop2_Z (P := fun (sum9_ : Int32) (p10_ : Int32) => Z Θ 4 1 6 (zQX Θ ω 1 6) σ 8 [(0, .ref (zA Θ 0)), (1, .int party_a), (2, .int sum9_), (3, .int p10_)] []) ?_ fuelN (0 : Int32) (0 : Int32) h4_
    clear h4_
    intro rec6_ sum9_ p10_ h7_ h8_
    have K13_ : p10_ < (σ 44 8) → Z Θ 4 1 6 (zQX Θ ω 1 6) σ 19 [(0, .ref (zA Θ 0)), (1, .int party_a), (2, .int sum9_), (3, .int p10_)] [] := by
      intro h16_
      rw [if_pos h16_] at h8_
      obtain ⟨y17_, h18_, h8_⟩ := ob h8_
      suffices K19_ : Z Θ 4 1 6 (zQX Θ ω 1 6) σ 54 [(0, .ref (zA Θ 0)), (1, .int party_a), (2, .int y17_), (3, .int p10_)] [] by
        refine z_aload_n C 0 dX11_bloc_19 rfl rfl ?_
        refine fg11_19 C hkd dX11_bloc_20 ?_
        refine fg11_158 C hkd isV_44 dX11_bloc_23 ?_
        refine z_iload_n C 3 dX11_bloc_26 rfl rfl ?_
        obtain ⟨x22_, h23_, h18_⟩ := ob h18_
        refine z_ag C h23_ (kV_2 hkd isV_44) dX11_bloc_27 ?_
        refine z_iload_n C 1 dX11_bloc_28 rfl rfl ?_
        have K20_ : (x22_ = party_a) ∧ (¬ (q11_isIn (σ 44 10) p10_ = true)) → Z Θ 4 1 6 (zQX Θ ω 1 6) σ 46 [(0, .ref (zA Θ 0)), (1, .int party_a), (2, .int sum9_), (3, .int p10_)] [] := by
          intro h26_
          rw [if_pos h26_] at h18_
          refine z_iload_n C 2 dX11_bloc_46 rfl rfl ?_
          refine z_aload_n C 0 dX11_bloc_47 rfl rfl ?_
          refine z_iload_n C 3 dX11_bloc_48 rfl rfl ?_
          obtain ⟨x27_, h28_, h18_⟩ := ob h18_
          refine cr11_358 (person_a := p10_) C hkd  h28_ ⟨(Nat.le_of_ble_eq_true rfl), (Nat.le_of_ble_eq_true rfl)⟩ (Nat.le_of_ble_eq_true rfl) ⟨(Nat.le_of_ble_eq_true rfl), (Nat.le_of_ble_eq_true rfl)⟩ dX11_bloc_49 ?_
          refine z_iadd C dX11_bloc_52 ?_
          obtain ⟨sum29_, h30_, h18_⟩ := lt_ h18_
          refine z_istN C dX11_bloc_53 h30_ rfl (Nat.le_of_ble_eq_true rfl) rfl ?_
          cases h18_
          refine Z.sub [1, 2, 0, 3] rfl ?_
          exact K19_
        have K21_ : ¬ ((x22_ = party_a) ∧ (¬ (q11_isIn (σ 44 10) p10_ = true))) → Z Θ 4 1 6 (zQX Θ ω 1 6) σ 54 [(0, .ref (zA Θ 0)), (1, .int party_a), (2, .int sum9_), (3, .int p10_)] [] := by
          intro h26_
          rw [if_neg h26_] at h18_
          cases h18_
          exact K19_
        refine c_eq_f C 54 dX11_bloc_29 (by decide) (fun h24_ => ?_) (fun h24_ => ?_)
        · refine z_aload_n C 0 dX11_bloc_32 rfl rfl ?_
          refine fg11_19 C hkd dX11_bloc_33 ?_
          refine fg11_171 C hkd isV_44 dX11_bloc_36 ?_
          refine z_iload_n C 3 dX11_bloc_39 rfl rfl ?_
          refine cr11_167 (set_a := (σ 44 10)) (person_a := p10_) C hkd  ⟨(Nat.le_of_ble_eq_true rfl), (Nat.le_of_ble_eq_true rfl)⟩ (Nat.le_of_ble_eq_true rfl) ⟨(Nat.le_of_ble_eq_true rfl), (Nat.le_of_ble_eq_true rfl)⟩ dX11_bloc_40 ?_
          refine cb_t C 54 dX11_bloc_43 (by decide) (fun h25_ => ?_) (fun h25_ => ?_)
          · exact K21_ (fun n => (fun n => n h25_) n.2)
          · exact K20_ ⟨h24_, h25_⟩
        · exact K21_ (fun n => h24_ n.1)
      obtain ⟨p31_, h32_, h8_⟩ := lt_ h8_
      refine z_inc C 3 dX11_bloc_54 rfl ic_1 h32_ (Nat.le_of_ble_eq_true rfl) rfl ?_
      refine z_goto C 8 dX11_bloc_57 (by decide) ?_
      refine Z.sub [1, 2, 3, 0] rfl ?_
      exact h7_ _ _ h8_
    have K14_ : ¬ (p10_ < (σ 44 8)) → Z Θ 4 1 6 (zQX Θ ω 1 6) σ 60 [(0, .ref (zA Θ 0)), (1, .int party_a), (2, .int sum9_), (3, .int p10_)] [] := by
      intro h16_
      rw [if_neg h16_] at h8_
      cases h8_
      exact K5_
    refine z_iload_n C 3 dX11_bloc_8 rfl rfl ?_
    refine z_aload_n C 0 dX11_bloc_9 rfl rfl ?_
    refine fg11_19 C hkd dX11_bloc_10 ?_
    refine fg11_355 C hkd isV_44 dX11_bloc_13 ?_
    refine c_lt_f C 60 dX11_bloc_16 (by decide) (fun h15_ => ?_) (fun h15_ => ?_)
    · exact K13_ h15_
    · exact K14_ h15_
  refine z_iload_n C 2 dX11_bloc_60 rfl rfl ?_
  cases hf
  subst hω
  exact zx_iret C ⟨(Nat.le_of_ble_eq_true rfl), (Nat.le_of_ble_eq_true rfl)⟩ dX11_bloc_61
theorem c11_bloc {l : Launch} {kd : List KD} {w : Wp} {σ : St} {party_a : Int32} (hkd : kd = kdC) (hi : zI kd w) (hlt : l.stackTraces = false) {r : (Sum Nat Int32 × St)} (hf : q11_bloc σ party_a = some r) : zX l kd w yX11_bloc cX11_bloc 4 (some .int) rm11_bloc [.ref (w.2.2.1 0), .int party_a] σ (om (fun v => some (.int v)) r) 1 6 := zX_of rfl hi (Nat.le_of_ble_eq_true rfl) (fun Θ hl hw C het => by
  obtain ⟨Θ1, Θ2, Θ3, Θ4, Θ5⟩ := Θ
  cases hw
  cases hl
  exact p11_bloc C hkd hlt het  hf rfl)
/-! LastLoaf.kingmaker -/
theorem dX11_kingmaker_0 : decode cX11_kingmaker 0 = .ok (.iconst (-1), 1) := by decide +kernel
theorem dX11_kingmaker_1 : decode cX11_kingmaker 1 = .ok (.istore_n 1, 1) := by decide +kernel
theorem dX11_kingmaker_2 : decode cX11_kingmaker 2 = .ok (.iconst 0, 1) := by decide +kernel
theorem dX11_kingmaker_3 : decode cX11_kingmaker 3 = .ok (.istore_n 2, 1) := by decide +kernel
theorem dX11_kingmaker_4 : decode cX11_kingmaker 4 = .ok (.iconst 0, 1) := by decide +kernel
theorem dX11_kingmaker_5 : decode cX11_kingmaker 5 = .ok (.istore_n 3, 1) := by decide +kernel
theorem dX11_kingmaker_6 : decode cX11_kingmaker 6 = .ok (.iload_n 3, 1) := by decide +kernel
theorem dX11_kingmaker_7 : decode cX11_kingmaker 7 = .ok (.aload_n 0, 1) := by decide +kernel
theorem dX11_kingmaker_8 : decode cX11_kingmaker 8 = .ok (.getfield 19, 3) := by decide +kernel
theorem dX11_kingmaker_11 : decode cX11_kingmaker 11 = .ok (.getfield 355, 3) := by decide +kernel
theorem dX11_kingmaker_14 : decode cX11_kingmaker 14 = .ok (.if_icmp .ge 27, 3) := by decide +kernel
theorem dX11_kingmaker_17 : decode cX11_kingmaker 17 = .ok (.aload_n 0, 1) := by decide +kernel
theorem dX11_kingmaker_18 : decode cX11_kingmaker 18 = .ok (.iload_n 3, 1) := by decide +kernel
theorem dX11_kingmaker_19 : decode cX11_kingmaker 19 = .ok (.invokevirtual 349, 3) := by decide +kernel
theorem dX11_kingmaker_22 : decode cX11_kingmaker 22 = .ok (.istore 4, 2) := by decide +kernel
theorem dX11_kingmaker_24 : decode cX11_kingmaker 24 = .ok (.iload 4, 2) := by decide +kernel
theorem dX11_kingmaker_26 : decode cX11_kingmaker 26 = .ok (.iload_n 2, 1) := by decide +kernel
theorem dX11_kingmaker_27 : decode cX11_kingmaker 27 = .ok (.if_icmp .le 8, 3) := by decide +kernel
theorem dX11_kingmaker_30 : decode cX11_kingmaker 30 = .ok (.iload 4, 2) := by decide +kernel
theorem dX11_kingmaker_32 : decode cX11_kingmaker 32 = .ok (.istore_n 2, 1) := by decide +kernel
theorem dX11_kingmaker_33 : decode cX11_kingmaker 33 = .ok (.iload_n 3, 1) := by decide +kernel
theorem dX11_kingmaker_34 : decode cX11_kingmaker 34 = .ok (.istore_n 1, 1) := by decide +kernel
theorem dX11_kingmaker_35 : decode cX11_kingmaker 35 = .ok (.iinc 3 1, 3) := by decide +kernel
theorem dX11_kingmaker_38 : decode cX11_kingmaker 38 = .ok (.goto (-32), 3) := by decide +kernel
theorem dX11_kingmaker_41 : decode cX11_kingmaker 41 = .ok (.iload_n 1, 1) := by decide +kernel
theorem dX11_kingmaker_42 : decode cX11_kingmaker 42 = .ok (.ireturn, 1) := by decide +kernel
def q11_kingmaker (σ : St) : Option Int32 :=
  Option.bind (loop3 (fun rec4_ (best7_ : Int32) (most8_ : Int32) (p9_ : Int32) =>
  if p9_ < (σ 44 8) then
  Option.bind (q11_swungBy σ p9_) fun x16_ =>
  lt (if most8_ < x16_ then ((p9_, x16_)) else ((best7_, most8_))) fun y18_ =>
  lt (p9_ + 1) fun p25_ =>
  rec4_ y18_.1 y18_.2 p25_
  else (some (best7_, most8_, p9_))) fuelN (-1 : Int32) (0 : Int32) (0 : Int32)) fun y1_ =>
  some y1_.1
abbrev rm11_kingmaker : Room := { frames := 4, cells := 0, slots := 0, locals := 85 }
set_option maxHeartbeats 4000000 in
set_option maxRecDepth 100000 in
theorem p11_kingmaker {Θ : Tz} {σ : St} {ρ : Option Value × St} (C : Zc Θ cX11_kingmaker 5 RX11 (some .int) rm11_kingmaker) (hkd : Θ.2.2.2.2.1 = kdC) {r : Int32} (hf : q11_kingmaker σ = some r) (hρ : ρ = (some (.int r), σ)) : Z Θ 5 0 0 (zQ Θ ρ) σ 0 [(0, .ref (zA Θ 0))] [] := by
  unfold q11_kingmaker at hf
  refine z_iconst (v := (-1)) C dX11_kingmaker_0 ic_m1 ?_
  refine z_istN C dX11_kingmaker_1 rfl rfl (Nat.le_of_ble_eq_true rfl) rfl ?_
  refine z_iconst (v := 0) C dX11_kingmaker_2 ic_0 ?_
  refine z_istN C dX11_kingmaker_3 rfl rfl (Nat.le_of_ble_eq_true rfl) rfl ?_
  refine z_iconst (v := 0) C dX11_kingmaker_4 ic_0 ?_
  refine z_istN C dX11_kingmaker_5 rfl rfl (Nat.le_of_ble_eq_true rfl) rfl ?_
  refine Z.sub [3, 2, 1, 0] rfl ?_
  obtain ⟨y1_, h2_, hf⟩ := ob hf
  suffices K3_ : Z Θ 5 0 0 (zQ Θ ρ) σ 41 [(0, .ref (zA Θ 0)), (1, .int y1_.1), (2, .int y1_.2.1), (3, .int y1_.2.2)] [] by
    refine loop3_Z (P := fun (best7_ : Int32) (most8_ : Int32) (p9_ : Int32) => Z Θ 5 0 0 (zQ Θ ρ) σ 6 [(0, .ref (zA Θ 0)), (1, .int best7_), (2, .int most8_), (3, .int p9_)] []) ?_ fuelN (-1 : Int32) (0 : Int32) (0 : Int32) h2_
    clear h2_
    intro rec4_ best7_ most8_ p9_ h5_ h6_
    have K12_ : p9_ < (σ 44 8) → Z Θ 5 0 0 (zQ Θ ρ) σ 17 [(0, .ref (zA Θ 0)), (1, .int best7_), (2, .int most8_), (3, .int p9_)] [] := by
      intro h15_
      rw [if_pos h15_] at h6_
      refine z_aload_n C 0 dX11_kingmaker_17 rfl rfl ?_
      refine z_iload_n C 3 dX11_kingmaker_18 rfl rfl ?_
      obtain ⟨x16_, h17_, h6_⟩ := ob h6_
      refine cr11_349 (person_a := p9_) C hkd  h17_ ⟨(Nat.le_of_ble_eq_true rfl), (Nat.le_of_ble_eq_true rfl)⟩ (Nat.le_of_ble_eq_true rfl) ⟨Nat.zero_le _, Nat.zero_le _⟩ dX11_kingmaker_19 ?_
      refine z_ist C dX11_kingmaker_22 rfl (Nat.le_of_ble_eq_true rfl) rfl ?_
      obtain ⟨y18_, h19_, h6_⟩ := lt_ h6_
      have h19_ := h19_.symm
      suffices K20_ : Z Θ 5 0 0 (zQ Θ ρ) σ 35 [(0, .ref (zA Θ 0)), (1, .int y18_.1), (2, .int y18_.2), (3, .int p9_), (4, .int x16_)] [] by
        have K21_ : most8_ < x16_ → Z Θ 5 0 0 (zQ Θ ρ) σ 30 [(4, .int x16_), (0, .ref (zA Θ 0)), (1, .int best7_), (2, .int most8_), (3, .int p9_)] [] := by
          intro h24_
          rw [if_pos h24_] at h19_
          refine z_iload C 0 dX11_kingmaker_30 rfl ?_
          refine z_istN C dX11_kingmaker_32 rfl rfl (Nat.le_of_ble_eq_true rfl) rfl ?_
          refine z_iload_n C 4 dX11_kingmaker_33 rfl rfl ?_
          refine z_istN C dX11_kingmaker_34 rfl rfl (Nat.le_of_ble_eq_true rfl) rfl ?_
          subst h19_
          refine Z.sub [3, 0, 1, 4, 2] rfl ?_
          exact K20_
        have K22_ : ¬ (most8_ < x16_) → Z Θ 5 0 0 (zQ Θ ρ) σ 35 [(4, .int x16_), (0, .ref (zA Θ 0)), (1, .int best7_), (2, .int most8_), (3, .int p9_)] [] := by
          intro h24_
          rw [if_neg h24_] at h19_
          subst h19_
          refine Z.sub [1, 2, 3, 4, 0] rfl ?_
          exact K20_
        refine z_iload C 0 dX11_kingmaker_24 rfl ?_
        refine z_iload_n C 3 dX11_kingmaker_26 rfl rfl ?_
        refine c_gt_f C 35 dX11_kingmaker_27 (by decide) (fun h23_ => ?_) (fun h23_ => ?_)
        · exact K21_ h23_
        · exact K22_ h23_
      obtain ⟨p25_, h26_, h6_⟩ := lt_ h6_
      refine z_inc C 3 dX11_kingmaker_35 rfl ic_1 h26_ (Nat.le_of_ble_eq_true rfl) rfl ?_
      refine z_goto C 6 dX11_kingmaker_38 (by decide) ?_
      refine Z.sub [1, 2, 3, 0] rfl ?_
      exact h5_ _ _ _ h6_
    have K13_ : ¬ (p9_ < (σ 44 8)) → Z Θ 5 0 0 (zQ Θ ρ) σ 41 [(0, .ref (zA Θ 0)), (1, .int best7_), (2, .int most8_), (3, .int p9_)] [] := by
      intro h15_
      rw [if_neg h15_] at h6_
      cases h6_
      exact K3_
    refine z_iload_n C 3 dX11_kingmaker_6 rfl rfl ?_
    refine z_aload_n C 0 dX11_kingmaker_7 rfl rfl ?_
    refine fg11_19 C hkd dX11_kingmaker_8 ?_
    refine fg11_355 C hkd isV_44 dX11_kingmaker_11 ?_
    refine c_lt_f C 41 dX11_kingmaker_14 (by decide) (fun h14_ => ?_) (fun h14_ => ?_)
    · exact K12_ h14_
    · exact K13_ h14_
  refine z_iload_n C 1 dX11_kingmaker_41 rfl rfl ?_
  cases hf
  subst hρ
  exact z_iret C dX11_kingmaker_42
theorem c11_kingmaker {l : Launch} {kd : List KD} {w : Wp} {σ : St} (hkd : kd = kdC) (hi : zI kd w) {r : Int32} (hf : q11_kingmaker σ = some r) : zM l kd w yX11_kingmaker cX11_kingmaker 5 (some .int) rm11_kingmaker [.ref (w.2.2.1 0)] σ (some (.int r), σ) := zM_of rfl hi (Nat.le_of_ble_eq_true rfl) (fun Θ hl hw C => by
  obtain ⟨Θ1, Θ2, Θ3, Θ4, Θ5⟩ := Θ
  cases hw
  exact p11_kingmaker C hkd  hf rfl)
/-! LastLoaf$Friends.meet -/
theorem w_1_127 : Cond.fieldLink "LastLoaf$Friends" (28 : Nat) "LastLoaf$Village" "people" "I" ∈ TB := tb_in (lwt_1 (List.mem_of_getElem? (i := 127) (by decide +kernel))) rfl
theorem fg1_28 {Θ : Tz} {cc : ByteArray} {nL kc ks : Nat} {ret : Option FieldType} {rm : Room} {Q : State → Prop} {σ : St} {pc : Nat} {lv : List (Nat × Value)} {st : List Value} (C : Zc Θ cc nL RX1 ret rm) (hkd : Θ.2.2.2.2.1 = kdC) {th : Nat} (hth : isV th) (hd : decode cc pc = .ok (.getfield 28, 3)) (kk : Z Θ nL kc ks Q σ (pc + 3) lv (.int (σ th 8) :: st)) : Z Θ nL kc ks Q σ pc lv (.ref (zA Θ th) :: st) := z_get C inT10 th (kV_0 hkd hth) rfl 8 (by decide) w_1_127 rfl hd kk
theorem w_2_174 : Cond.fieldLink "LastLoaf$Friends" (21 : Nat) "LastLoaf$Friends" "people" "I" ∈ TB := tb_in (lwt_2 (List.mem_of_getElem? (i := 174) (by decide +kernel))) rfl
theorem fp1_21 {Θ : Tz} {cc : ByteArray} {nL kc ks : Nat} {ret : Option FieldType} {rm : Room} {Q : State → Prop} {σ : St} {pc : Nat} {lv : List (Nat × Value)} {st : List Value} (C : Zc Θ cc nL RX1 ret rm) (hkd : Θ.2.2.2.2.1 = kdC) {x : Int32} {σ1 : St} (he : σ1 = up σ 27 3 x) (hd : decode cc pc = .ok (.putfield 21, 3)) (kk : Z Θ nL kc ks Q σ1 (pc + 3) lv st) : Z Θ nL kc ks Q σ pc lv (.int x :: .ref (zA Θ 27) :: st) := by subst he; exact z_put C inT1 tyX1_ok nmX1 27 (kC_27 hkd) rfl 3 (by decide) w_2_174 rfl rfl rfl rfl hd kk
theorem w_4_41 : Cond.methodLink "LastLoaf$Friends" (31 : Nat) ({ cls := "LastLoaf$Village", name := "everybody", desc := "()I" } : MethodName) ∈ TB := tb_in (lwt_4 (List.mem_of_getElem? (i := 41) (by decide +kernel))) rfl
theorem cr1_31 {Θ : Tz} {cc : ByteArray} {nL kc ks : Nat} {ret : Option FieldType} {rm : Room} {Q : State → Prop} {σ : St} {pc : Nat} {lv : List (Nat × Value)} {st : List Value} (C : Zc Θ cc nL RX1 ret rm) (hkd : Θ.2.2.2.2.1 = kdC) {th : Nat} (hth : isV th) (hrm : rm10_everybody.frames + 1 ≤ rm.frames ∧ 8 + (1 + 11) + rm10_everybody.locals ≤ rm.locals) (hcat : (st.map fun v => v.category).sum ≤ 8) (hk : kc ≤ rm.cells ∧ ks ≤ rm.slots) (hd : decode cc pc = .ok (.invokevirtual 31, 3)) (kk : Z Θ nL kc ks Q σ (pc + 3) lv (.int (q10_everybody σ th) :: st)) : Z Θ nL kc ks Q σ pc lv (.ref (zA Θ th) :: st) := z_callV C th [] (some (.int (q10_everybody σ th)), σ) 0 (kV_0 hkd hth) rfl (c10_everybody (th := th) hkd (zc_inj C) hth) w_4_23 w_4_41 w_4_21 w_4_22 w_1_3 ⟨rfl, rfl, hrm.1, hrm.2⟩ (by decide +kernel) rfl rfl hcat hk hd kk
theorem w_2_175 : Cond.fieldLink "LastLoaf$Friends" (25 : Nat) "LastLoaf$Friends" "everybody" "I" ∈ TB := tb_in (lwt_2 (List.mem_of_getElem? (i := 175) (by decide +kernel))) rfl
theorem fp1_25 {Θ : Tz} {cc : ByteArray} {nL kc ks : Nat} {ret : Option FieldType} {rm : Room} {Q : State → Prop} {σ : St} {pc : Nat} {lv : List (Nat × Value)} {st : List Value} (C : Zc Θ cc nL RX1 ret rm) (hkd : Θ.2.2.2.2.1 = kdC) {x : Int32} {σ1 : St} (he : σ1 = up σ 27 4 x) (hd : decode cc pc = .ok (.putfield 25, 3)) (kk : Z Θ nL kc ks Q σ1 (pc + 3) lv st) : Z Θ nL kc ks Q σ pc lv (.int x :: .ref (zA Θ 27) :: st) := by subst he; exact z_put C inT1 tyX1_ok nmX1 27 (kC_27 hkd) rfl 4 (by decide) w_2_175 rfl rfl rfl rfl hd kk
theorem fg1_21 {Θ : Tz} {cc : ByteArray} {nL kc ks : Nat} {ret : Option FieldType} {rm : Room} {Q : State → Prop} {σ : St} {pc : Nat} {lv : List (Nat × Value)} {st : List Value} (C : Zc Θ cc nL RX1 ret rm) (hkd : Θ.2.2.2.2.1 = kdC) (hd : decode cc pc = .ok (.getfield 21, 3)) (kk : Z Θ nL kc ks Q σ (pc + 3) lv (.int (σ 27 3) :: st)) : Z Θ nL kc ks Q σ pc lv (.ref (zA Θ 27) :: st) := z_get C inT1 27 (kC_27 hkd) rfl 3 (by decide) w_2_174 rfl hd kk
theorem w_2_171 : Cond.fieldLink "LastLoaf$Friends" (9 : Nat) "LastLoaf$Friends" "warmths" "[I" ∈ TB := tb_in (lwt_2 (List.mem_of_getElem? (i := 171) (by decide +kernel))) rfl
theorem fg1_9 {Θ : Tz} {cc : ByteArray} {nL kc ks : Nat} {ret : Option FieldType} {rm : Room} {Q : State → Prop} {σ : St} {pc : Nat} {lv : List (Nat × Value)} {st : List Value} (C : Zc Θ cc nL RX1 ret rm) (hkd : Θ.2.2.2.2.1 = kdC) (hd : decode cc pc = .ok (.getfield 9, 3)) (kk : Z Θ nL kc ks Q σ (pc + 3) lv (.ref (zA Θ 28) :: st)) : Z Θ nL kc ks Q σ pc lv (.ref (zA Θ 27) :: st) := z_get C inT1 27 (kC_27 hkd) rfl 0 (by decide) w_2_171 rfl hd kk
theorem w_4_42 : Cond.methodLink "LastLoaf$Friends" (34 : Nat) ({ cls := "LastLoaf$Village", name := "likingOf", desc := "(II)I" } : MethodName) ∈ TB := tb_in (lwt_4 (List.mem_of_getElem? (i := 42) (by decide +kernel))) rfl
theorem cr1_34 {Θ : Tz} {cc : ByteArray} {nL kc ks : Nat} {ret : Option FieldType} {rm : Room} {Q : State → Prop} {σ : St} {pc : Nat} {lv : List (Nat × Value)} {st : List Value} (C : Zc Θ cc nL RX1 ret rm) (hkd : Θ.2.2.2.2.1 = kdC) {th : Nat} {person_a : Int32} {other_a : Int32} (hth : isV th) {r : Int32} (hx : q10_likingOf σ th person_a other_a = some r) (hrm : rm10_likingOf.frames + 1 ≤ rm.frames ∧ 8 + (3 + 11) + rm10_likingOf.locals ≤ rm.locals) (hcat : (st.map fun v => v.category).sum ≤ 8) (hk : kc ≤ rm.cells ∧ ks ≤ rm.slots) (hd : decode cc pc = .ok (.invokevirtual 34, 3)) (kk : Z Θ nL kc ks Q σ (pc + 3) lv (.int r :: st)) : Z Θ nL kc ks Q σ pc lv (.int other_a :: .int person_a :: .ref (zA Θ th) :: st) := z_callV C th [.int person_a, .int other_a] (some (.int r), σ) 2 (kV_0 hkd hth) rfl (c10_likingOf (th := th) (person_a := person_a) (other_a := other_a) hkd (zc_inj C) hth hx) w_3_48 w_4_42 w_3_46 w_3_47 w_1_3 ⟨rfl, rfl, hrm.1, hrm.2⟩ (by decide +kernel) rfl rfl hcat hk hd kk
theorem dX1_meet_0 : decode cX1_meet 0 = .ok (.aload_n 0, 1) := by decide +kernel
theorem dX1_meet_1 : decode cX1_meet 1 = .ok (.aload_n 1, 1) := by decide +kernel
theorem dX1_meet_2 : decode cX1_meet 2 = .ok (.getfield 28, 3) := by decide +kernel
theorem dX1_meet_5 : decode cX1_meet 5 = .ok (.putfield 21, 3) := by decide +kernel
theorem dX1_meet_8 : decode cX1_meet 8 = .ok (.aload_n 0, 1) := by decide +kernel
theorem dX1_meet_9 : decode cX1_meet 9 = .ok (.aload_n 1, 1) := by decide +kernel
theorem dX1_meet_10 : decode cX1_meet 10 = .ok (.invokevirtual 31, 3) := by decide +kernel
theorem dX1_meet_13 : decode cX1_meet 13 = .ok (.putfield 25, 3) := by decide +kernel
theorem dX1_meet_16 : decode cX1_meet 16 = .ok (.iconst 0, 1) := by decide +kernel
theorem dX1_meet_17 : decode cX1_meet 17 = .ok (.istore_n 2, 1) := by decide +kernel
theorem dX1_meet_18 : decode cX1_meet 18 = .ok (.iload_n 2, 1) := by decide +kernel
theorem dX1_meet_19 : decode cX1_meet 19 = .ok (.aload_n 0, 1) := by decide +kernel
theorem dX1_meet_20 : decode cX1_meet 20 = .ok (.getfield 21, 3) := by decide +kernel
theorem dX1_meet_23 : decode cX1_meet 23 = .ok (.if_icmp .ge 49, 3) := by decide +kernel
theorem dX1_meet_26 : decode cX1_meet 26 = .ok (.iconst 0, 1) := by decide +kernel
theorem dX1_meet_27 : decode cX1_meet 27 = .ok (.istore_n 3, 1) := by decide +kernel
theorem dX1_meet_28 : decode cX1_meet 28 = .ok (.iload_n 3, 1) := by decide +kernel
theorem dX1_meet_29 : decode cX1_meet 29 = .ok (.aload_n 0, 1) := by decide +kernel
theorem dX1_meet_30 : decode cX1_meet 30 = .ok (.getfield 21, 3) := by decide +kernel
theorem dX1_meet_33 : decode cX1_meet 33 = .ok (.if_icmp .ge 33, 3) := by decide +kernel
theorem dX1_meet_36 : decode cX1_meet 36 = .ok (.aload_n 0, 1) := by decide +kernel
theorem dX1_meet_37 : decode cX1_meet 37 = .ok (.getfield 9, 3) := by decide +kernel
theorem dX1_meet_40 : decode cX1_meet 40 = .ok (.iload_n 2, 1) := by decide +kernel
theorem dX1_meet_41 : decode cX1_meet 41 = .ok (.bipush 6, 2) := by decide +kernel
theorem dX1_meet_43 : decode cX1_meet 43 = .ok (.imul, 1) := by decide +kernel
theorem dX1_meet_44 : decode cX1_meet 44 = .ok (.iload_n 3, 1) := by decide +kernel
theorem dX1_meet_45 : decode cX1_meet 45 = .ok (.iadd, 1) := by decide +kernel
theorem dX1_meet_46 : decode cX1_meet 46 = .ok (.aload_n 1, 1) := by decide +kernel
theorem dX1_meet_47 : decode cX1_meet 47 = .ok (.iload_n 2, 1) := by decide +kernel
theorem dX1_meet_48 : decode cX1_meet 48 = .ok (.iload_n 3, 1) := by decide +kernel
theorem dX1_meet_49 : decode cX1_meet 49 = .ok (.invokevirtual 34, 3) := by decide +kernel
theorem dX1_meet_52 : decode cX1_meet 52 = .ok (.aload_n 1, 1) := by decide +kernel
theorem dX1_meet_53 : decode cX1_meet 53 = .ok (.iload_n 3, 1) := by decide +kernel
theorem dX1_meet_54 : decode cX1_meet 54 = .ok (.iload_n 2, 1) := by decide +kernel
theorem dX1_meet_55 : decode cX1_meet 55 = .ok (.invokevirtual 34, 3) := by decide +kernel
theorem dX1_meet_58 : decode cX1_meet 58 = .ok (.iadd, 1) := by decide +kernel
theorem dX1_meet_59 : decode cX1_meet 59 = .ok (.iastore, 1) := by decide +kernel
theorem dX1_meet_60 : decode cX1_meet 60 = .ok (.iinc 3 1, 3) := by decide +kernel
theorem dX1_meet_63 : decode cX1_meet 63 = .ok (.goto (-35), 3) := by decide +kernel
theorem dX1_meet_66 : decode cX1_meet 66 = .ok (.iinc 2 1, 3) := by decide +kernel
theorem dX1_meet_69 : decode cX1_meet 69 = .ok (.goto (-51), 3) := by decide +kernel
theorem dX1_meet_72 : decode cX1_meet 72 = .ok (.return_, 1) := by decide +kernel
def q1_meet (σ : St) (village_a : Nat) : Option St :=
  lt (up σ 27 3 (σ village_a 8)) fun σ1_ =>
  lt (up σ1_ 27 4 (q10_everybody σ1_ village_a)) fun σ3_ =>
  Option.bind (loop2 (fun rec8_ (p11_ : Int32) (σ12_ : St) =>
  if p11_ < (σ12_ 27 3) then
  Option.bind (loop2 (fun rec22_ (q25_ : Int32) (σ26_ : St) =>
  if q25_ < (σ26_ 27 3) then
  Option.bind (q10_likingOf σ26_ village_a p11_ q25_) fun x33_ =>
  Option.bind (q10_likingOf σ26_ village_a q25_ p11_) fun x35_ =>
  Option.bind (sa σ26_ 28 36 ((p11_ * 6) + q25_) (x33_ + x35_)) fun σ37_ =>
  lt (q25_ + 1) fun q39_ =>
  rec22_ q39_ σ37_
  else (some (q25_, σ26_))) fuelN (0 : Int32) σ12_) fun y19_ =>
  lt (p11_ + 1) fun p41_ =>
  rec8_ p41_ y19_.2
  else (some (p11_, σ12_))) fuelN (0 : Int32) σ3_) fun y5_ =>
  some y5_.2
abbrev rm1_meet : Room := { frames := 1, cells := 0, slots := 0, locals := 22 }
set_option maxHeartbeats 4000000 in
set_option maxRecDepth 100000 in
theorem p1_meet {Θ : Tz} {σ : St} {ρ : Option Value × St} (C : Zc Θ cX1_meet 4 RX1 none rm1_meet) (hkd : Θ.2.2.2.2.1 = kdC) {village_a : Nat} (h_village : isV village_a) {r : St} (hf : q1_meet σ village_a = some r) (hρ : ρ = (none, r)) : Z Θ 4 0 0 (zQ Θ ρ) σ 0 [(0, .ref (zA Θ 27)), (1, .ref (zA Θ village_a))] [] := by
  unfold q1_meet at hf
  refine z_aload_n C 0 dX1_meet_0 rfl rfl ?_
  refine z_aload_n C 1 dX1_meet_1 rfl rfl ?_
  refine fg1_28 C hkd h_village dX1_meet_2 ?_
  obtain ⟨σ1_, h2_, hf⟩ := lt_ hf
  refine fp1_21 C hkd h2_ dX1_meet_5 ?_
  refine z_aload_n C 0 dX1_meet_8 rfl rfl ?_
  refine z_aload_n C 1 dX1_meet_9 rfl rfl ?_
  refine cr1_31 (th := village_a) C hkd h_village ⟨(Nat.le_of_ble_eq_true rfl), (Nat.le_of_ble_eq_true rfl)⟩ (Nat.le_of_ble_eq_true rfl) ⟨Nat.zero_le _, Nat.zero_le _⟩ dX1_meet_10 ?_
  obtain ⟨σ3_, h4_, hf⟩ := lt_ hf
  refine fp1_25 C hkd h4_ dX1_meet_13 ?_
  refine z_iconst (v := 0) C dX1_meet_16 ic_0 ?_
  refine z_istN C dX1_meet_17 rfl rfl (Nat.le_of_ble_eq_true rfl) rfl ?_
  refine Z.sub [1, 2, 0] rfl ?_
  obtain ⟨y5_, h6_, hf⟩ := ob hf
  suffices K7_ : Z Θ 4 0 0 (zQ Θ ρ) y5_.2 72 [(0, .ref (zA Θ 27)), (1, .ref (zA Θ village_a)), (2, .int y5_.1)] [] by
    refine loop2_Z (P := fun (p11_ : Int32) (σ12_ : St) => Z Θ 4 0 0 (zQ Θ ρ) σ12_ 18 [(0, .ref (zA Θ 27)), (1, .ref (zA Θ village_a)), (2, .int p11_)] []) ?_ fuelN (0 : Int32) σ3_ h6_
    clear h6_
    intro rec8_ p11_ σ12_ h9_ h10_
    have K15_ : p11_ < (σ12_ 27 3) → Z Θ 4 0 0 (zQ Θ ρ) σ12_ 26 [(0, .ref (zA Θ 27)), (1, .ref (zA Θ village_a)), (2, .int p11_)] [] := by
      intro h18_
      rw [if_pos h18_] at h10_
      refine z_iconst (v := 0) C dX1_meet_26 ic_0 ?_
      refine z_istN C dX1_meet_27 rfl rfl (Nat.le_of_ble_eq_true rfl) rfl ?_
      refine Z.sub [1, 2, 3, 0] rfl ?_
      obtain ⟨y19_, h20_, h10_⟩ := ob h10_
      suffices K21_ : Z Θ 4 0 0 (zQ Θ ρ) y19_.2 66 [(0, .ref (zA Θ 27)), (1, .ref (zA Θ village_a)), (2, .int p11_), (3, .int y19_.1)] [] by
        refine loop2_Z (P := fun (q25_ : Int32) (σ26_ : St) => Z Θ 4 0 0 (zQ Θ ρ) σ26_ 28 [(0, .ref (zA Θ 27)), (1, .ref (zA Θ village_a)), (2, .int p11_), (3, .int q25_)] []) ?_ fuelN (0 : Int32) σ12_ h20_
        clear h20_
        intro rec22_ q25_ σ26_ h23_ h24_
        have K29_ : q25_ < (σ26_ 27 3) → Z Θ 4 0 0 (zQ Θ ρ) σ26_ 36 [(0, .ref (zA Θ 27)), (1, .ref (zA Θ village_a)), (2, .int p11_), (3, .int q25_)] [] := by
          intro h32_
          rw [if_pos h32_] at h24_
          refine z_aload_n C 0 dX1_meet_36 rfl rfl ?_
          refine fg1_9 C hkd dX1_meet_37 ?_
          refine z_iload_n C 2 dX1_meet_40 rfl rfl ?_
          refine z_bipush (v := 6) C dX1_meet_41 bp_6 ?_
          refine z_imul C dX1_meet_43 ?_
          refine z_iload_n C 3 dX1_meet_44 rfl rfl ?_
          refine z_iadd C dX1_meet_45 ?_
          refine z_aload_n C 1 dX1_meet_46 rfl rfl ?_
          refine z_iload_n C 2 dX1_meet_47 rfl rfl ?_
          refine z_iload_n C 3 dX1_meet_48 rfl rfl ?_
          obtain ⟨x33_, h34_, h24_⟩ := ob h24_
          refine cr1_34 (th := village_a) (person_a := p11_) (other_a := q25_) C hkd h_village h34_ ⟨(Nat.le_of_ble_eq_true rfl), (Nat.le_of_ble_eq_true rfl)⟩ (Nat.le_of_ble_eq_true rfl) ⟨Nat.zero_le _, Nat.zero_le _⟩ dX1_meet_49 ?_
          refine z_aload_n C 1 dX1_meet_52 rfl rfl ?_
          refine z_iload_n C 3 dX1_meet_53 rfl rfl ?_
          refine z_iload_n C 2 dX1_meet_54 rfl rfl ?_
          obtain ⟨x35_, h36_, h24_⟩ := ob h24_
          refine cr1_34 (th := village_a) (person_a := q25_) (other_a := p11_) C hkd h_village h36_ ⟨(Nat.le_of_ble_eq_true rfl), (Nat.le_of_ble_eq_true rfl)⟩ (Nat.le_of_ble_eq_true rfl) ⟨Nat.zero_le _, Nat.zero_le _⟩ dX1_meet_55 ?_
          refine z_iadd C dX1_meet_58 ?_
          obtain ⟨σ37_, h38_, h24_⟩ := ob h24_
          refine z_sa C h38_ (kC_28 hkd) dX1_meet_59 ?_
          obtain ⟨q39_, h40_, h24_⟩ := lt_ h24_
          refine z_inc C 3 dX1_meet_60 rfl ic_1 h40_ (Nat.le_of_ble_eq_true rfl) rfl ?_
          refine z_goto C 28 dX1_meet_63 (by decide) ?_
          refine Z.sub [1, 2, 3, 0] rfl ?_
          exact h23_ _ _ h24_
        have K30_ : ¬ (q25_ < (σ26_ 27 3)) → Z Θ 4 0 0 (zQ Θ ρ) σ26_ 66 [(0, .ref (zA Θ 27)), (1, .ref (zA Θ village_a)), (2, .int p11_), (3, .int q25_)] [] := by
          intro h32_
          rw [if_neg h32_] at h24_
          cases h24_
          exact K21_
        refine z_iload_n C 3 dX1_meet_28 rfl rfl ?_
        refine z_aload_n C 0 dX1_meet_29 rfl rfl ?_
        refine fg1_21 C hkd dX1_meet_30 ?_
        refine c_lt_f C 66 dX1_meet_33 (by decide) (fun h31_ => ?_) (fun h31_ => ?_)
        · exact K29_ h31_
        · exact K30_ h31_
      obtain ⟨p41_, h42_, h10_⟩ := lt_ h10_
      refine z_inc C 2 dX1_meet_66 rfl ic_1 h42_ (Nat.le_of_ble_eq_true rfl) rfl ?_
      refine z_goto C 18 dX1_meet_69 (by decide) ?_
      refine Z.sub [1, 2, 0] rfl ?_
      exact h9_ _ _ h10_
    have K16_ : ¬ (p11_ < (σ12_ 27 3)) → Z Θ 4 0 0 (zQ Θ ρ) σ12_ 72 [(0, .ref (zA Θ 27)), (1, .ref (zA Θ village_a)), (2, .int p11_)] [] := by
      intro h18_
      rw [if_neg h18_] at h10_
      cases h10_
      exact K7_
    refine z_iload_n C 2 dX1_meet_18 rfl rfl ?_
    refine z_aload_n C 0 dX1_meet_19 rfl rfl ?_
    refine fg1_21 C hkd dX1_meet_20 ?_
    refine c_lt_f C 72 dX1_meet_23 (by decide) (fun h17_ => ?_) (fun h17_ => ?_)
    · exact K15_ h17_
    · exact K16_ h17_
  cases hf
  subst hρ
  exact z_vret C dX1_meet_72
theorem c1_meet {l : Launch} {kd : List KD} {w : Wp} {σ : St} {village_a : Nat} (hkd : kd = kdC) (hi : zI kd w) (h_village : isV village_a) {r : St} (hf : q1_meet σ village_a = some r) : zM l kd w yX1_meet cX1_meet 4 none rm1_meet [.ref (w.2.2.1 27), .ref (w.2.2.1 village_a)] σ (none, r) := zM_of rfl hi (Nat.le_of_ble_eq_true rfl) (fun Θ hl hw C => by
  obtain ⟨Θ1, Θ2, Θ3, Θ4, Θ5⟩ := Θ
  cases hw
  exact p1_meet C hkd h_village hf rfl)
/-! LastLoaf$Friends.pairedWith -/
theorem w_2_172 : Cond.fieldLink "LastLoaf$Friends" (15 : Nat) "LastLoaf$Friends" "pairings" "[I" ∈ TB := tb_in (lwt_2 (List.mem_of_getElem? (i := 172) (by decide +kernel))) rfl
theorem fg1_15 {Θ : Tz} {cc : ByteArray} {nL kc ks : Nat} {ret : Option FieldType} {rm : Room} {Q : State → Prop} {σ : St} {pc : Nat} {lv : List (Nat × Value)} {st : List Value} (C : Zc Θ cc nL RX1 ret rm) (hkd : Θ.2.2.2.2.1 = kdC) (hd : decode cc pc = .ok (.getfield 15, 3)) (kk : Z Θ nL kc ks Q σ (pc + 3) lv (.ref (zA Θ 29) :: st)) : Z Θ nL kc ks Q σ pc lv (.ref (zA Θ 27) :: st) := z_get C inT1 27 (kC_27 hkd) rfl 1 (by decide) w_2_172 rfl hd kk
theorem cr1_42 {Θ : Tz} {cc : ByteArray} {nL kc ks : Nat} {ret : Option FieldType} {rm : Room} {Q : State → Prop} {σ : St} {pc : Nat} {lv : List (Nat × Value)} {st : List Value} (C : Zc Θ cc nL RX1 ret rm) (hkd : Θ.2.2.2.2.1 = kdC) {set_a : Int32} {person_a : Int32} (hrm : rm11_without.frames + 1 ≤ rm.frames ∧ 8 + (2 + 11) + rm11_without.locals ≤ rm.locals) (hcat : (st.map fun v => v.category).sum ≤ 8) (hk : kc ≤ rm.cells ∧ ks ≤ rm.slots) (hd : decode cc pc = .ok (.invokestatic 42, 3)) (kk : Z Θ nL kc ks Q σ (pc + 3) lv (.int (q11_without set_a person_a) :: st)) : Z Θ nL kc ks Q σ pc lv (.int person_a :: .int set_a :: st) := z_callSN (host := "LastLoaf") C [.int set_a, .int person_a] (some (.int (q11_without set_a person_a)), σ) 2 (c11_without (set_a := set_a) (person_a := person_a) hkd (zc_inj C)) w_3_161 (List.mem_of_getElem? (i := 28) rfl) w_3_160 w_1_1 ⟨rfl, rfl, hrm.1, hrm.2⟩ (by decide +kernel) rfl rfl hcat hk hd kk
theorem dX1_pairedWith_0 : decode cX1_pairedWith 0 = .ok (.aload_n 0, 1) := by decide +kernel
theorem dX1_pairedWith_1 : decode cX1_pairedWith 1 = .ok (.getfield 9, 3) := by decide +kernel
theorem dX1_pairedWith_4 : decode cX1_pairedWith 4 = .ok (.iload_n 2, 1) := by decide +kernel
theorem dX1_pairedWith_5 : decode cX1_pairedWith 5 = .ok (.bipush 6, 2) := by decide +kernel
theorem dX1_pairedWith_7 : decode cX1_pairedWith 7 = .ok (.imul, 1) := by decide +kernel
theorem dX1_pairedWith_8 : decode cX1_pairedWith 8 = .ok (.iload_n 3, 1) := by decide +kernel
theorem dX1_pairedWith_9 : decode cX1_pairedWith 9 = .ok (.iadd, 1) := by decide +kernel
theorem dX1_pairedWith_10 : decode cX1_pairedWith 10 = .ok (.iaload, 1) := by decide +kernel
theorem dX1_pairedWith_11 : decode cX1_pairedWith 11 = .ok (.aload_n 0, 1) := by decide +kernel
theorem dX1_pairedWith_12 : decode cX1_pairedWith 12 = .ok (.getfield 15, 3) := by decide +kernel
theorem dX1_pairedWith_15 : decode cX1_pairedWith 15 = .ok (.iload_n 1, 1) := by decide +kernel
theorem dX1_pairedWith_16 : decode cX1_pairedWith 16 = .ok (.iload_n 3, 1) := by decide +kernel
theorem dX1_pairedWith_17 : decode cX1_pairedWith 17 = .ok (.invokestatic 42, 3) := by decide +kernel
theorem dX1_pairedWith_20 : decode cX1_pairedWith 20 = .ok (.iaload, 1) := by decide +kernel
theorem dX1_pairedWith_21 : decode cX1_pairedWith 21 = .ok (.iadd, 1) := by decide +kernel
theorem dX1_pairedWith_22 : decode cX1_pairedWith 22 = .ok (.ireturn, 1) := by decide +kernel
def q1_pairedWith (σ : St) (rest_a : Int32) (one_a : Int32) (other_a : Int32) : Option Int32 :=
  Option.bind (ag σ 28 36 ((one_a * 6) + other_a)) fun x1_ =>
  Option.bind (ag σ 29 64 (q11_without rest_a other_a)) fun x3_ =>
  some (x1_ + x3_)
abbrev rm1_pairedWith : Room := { frames := 1, cells := 0, slots := 0, locals := 21 }
set_option maxHeartbeats 4000000 in
set_option maxRecDepth 100000 in
theorem p1_pairedWith {Θ : Tz} {σ : St} {ρ : Option Value × St} (C : Zc Θ cX1_pairedWith 4 RX1 (some .int) rm1_pairedWith) (hkd : Θ.2.2.2.2.1 = kdC) {rest_a : Int32} {one_a : Int32} {other_a : Int32} {r : Int32} (hf : q1_pairedWith σ rest_a one_a other_a = some r) (hρ : ρ = (some (.int r), σ)) : Z Θ 4 0 0 (zQ Θ ρ) σ 0 [(0, .ref (zA Θ 27)), (1, .int rest_a), (2, .int one_a), (3, .int other_a)] [] := by
  unfold q1_pairedWith at hf
  refine z_aload_n C 0 dX1_pairedWith_0 rfl rfl ?_
  refine fg1_9 C hkd dX1_pairedWith_1 ?_
  refine z_iload_n C 2 dX1_pairedWith_4 rfl rfl ?_
  refine z_bipush (v := 6) C dX1_pairedWith_5 bp_6 ?_
  refine z_imul C dX1_pairedWith_7 ?_
  refine z_iload_n C 3 dX1_pairedWith_8 rfl rfl ?_
  refine z_iadd C dX1_pairedWith_9 ?_
  obtain ⟨x1_, h2_, hf⟩ := ob hf
  refine z_ag C h2_ (kC_28 hkd) dX1_pairedWith_10 ?_
  refine z_aload_n C 0 dX1_pairedWith_11 rfl rfl ?_
  refine fg1_15 C hkd dX1_pairedWith_12 ?_
  refine z_iload_n C 1 dX1_pairedWith_15 rfl rfl ?_
  refine z_iload_n C 3 dX1_pairedWith_16 rfl rfl ?_
  refine cr1_42 (set_a := rest_a) (person_a := other_a) C hkd  ⟨(Nat.le_of_ble_eq_true rfl), (Nat.le_of_ble_eq_true rfl)⟩ (Nat.le_of_ble_eq_true rfl) ⟨Nat.zero_le _, Nat.zero_le _⟩ dX1_pairedWith_17 ?_
  obtain ⟨x3_, h4_, hf⟩ := ob hf
  refine z_ag C h4_ (kC_29 hkd) dX1_pairedWith_20 ?_
  refine z_iadd C dX1_pairedWith_21 ?_
  cases hf
  subst hρ
  exact z_iret C dX1_pairedWith_22
theorem c1_pairedWith {l : Launch} {kd : List KD} {w : Wp} {σ : St} {rest_a : Int32} {one_a : Int32} {other_a : Int32} (hkd : kd = kdC) (hi : zI kd w) {r : Int32} (hf : q1_pairedWith σ rest_a one_a other_a = some r) : zM l kd w yX1_pairedWith cX1_pairedWith 4 (some .int) rm1_pairedWith [.ref (w.2.2.1 27), .int rest_a, .int one_a, .int other_a] σ (some (.int r), σ) := zM_of rfl hi (Nat.le_of_ble_eq_true rfl) (fun Θ hl hw C => by
  obtain ⟨Θ1, Θ2, Θ3, Θ4, Θ5⟩ := Θ
  cases hw
  exact p1_pairedWith C hkd  hf rfl)
/-! LastLoaf$Friends.pairUp -/
theorem fg1_25 {Θ : Tz} {cc : ByteArray} {nL kc ks : Nat} {ret : Option FieldType} {rm : Room} {Q : State → Prop} {σ : St} {pc : Nat} {lv : List (Nat × Value)} {st : List Value} (C : Zc Θ cc nL RX1 ret rm) (hkd : Θ.2.2.2.2.1 = kdC) (hd : decode cc pc = .ok (.getfield 25, 3)) (kk : Z Θ nL kc ks Q σ (pc + 3) lv (.int (σ 27 4) :: st)) : Z Θ nL kc ks Q σ pc lv (.ref (zA Θ 27) :: st) := z_get C inT1 27 (kC_27 hkd) rfl 4 (by decide) w_2_175 rfl hd kk
theorem cr1_38 {Θ : Tz} {cc : ByteArray} {nL kc ks : Nat} {ret : Option FieldType} {rm : Room} {Q : State → Prop} {σ : St} {pc : Nat} {lv : List (Nat × Value)} {st : List Value} (C : Zc Θ cc nL RX1 ret rm) (hkd : Θ.2.2.2.2.1 = kdC) {set_a : Int32} {r : Int32} (hx : q11_leastOf set_a = some r) (hrm : rm11_leastOf.frames + 1 ≤ rm.frames ∧ 8 + (2 + 11) + rm11_leastOf.locals ≤ rm.locals) (hcat : (st.map fun v => v.category).sum ≤ 8) (hk : kc ≤ rm.cells ∧ ks ≤ rm.slots) (hd : decode cc pc = .ok (.invokestatic 38, 3)) (kk : Z Θ nL kc ks Q σ (pc + 3) lv (.int r :: st)) : Z Θ nL kc ks Q σ pc lv (.int set_a :: st) := z_callSN (host := "LastLoaf") C [.int set_a] (some (.int r), σ) 1 (c11_leastOf (set_a := set_a) hkd (zc_inj C) hx) w_3_164 (List.mem_of_getElem? (i := 27) rfl) w_3_163 w_1_1 ⟨rfl, rfl, hrm.1, hrm.2⟩ (by decide +kernel) rfl rfl hcat hk hd kk
theorem cr1_45 {Θ : Tz} {cc : ByteArray} {nL kc ks : Nat} {ret : Option FieldType} {rm : Room} {Q : State → Prop} {σ : St} {pc : Nat} {lv : List (Nat × Value)} {st : List Value} (C : Zc Θ cc nL RX1 ret rm) (hkd : Θ.2.2.2.2.1 = kdC) {set_a : Int32} {person_a : Int32} (hrm : rm11_isIn.frames + 1 ≤ rm.frames ∧ 8 + (2 + 11) + rm11_isIn.locals ≤ rm.locals) (hcat : (st.map fun v => v.category).sum ≤ 8) (hk : kc ≤ rm.cells ∧ ks ≤ rm.slots) (hd : decode cc pc = .ok (.invokestatic 45, 3)) (kk : Z Θ nL kc ks Q σ (pc + 3) lv (.int (b2i (q11_isIn set_a person_a)) :: st)) : Z Θ nL kc ks Q σ pc lv (.int person_a :: .int set_a :: st) := z_callSN (host := "LastLoaf") C [.int set_a, .int person_a] (some (.int (b2i (q11_isIn set_a person_a))), σ) 2 (c11_isIn (set_a := set_a) (person_a := person_a) hkd (zc_inj C)) w_3_36 (List.mem_of_getElem? (i := 12) rfl) w_3_35 w_1_1 ⟨rfl, rfl, hrm.1, hrm.2⟩ (by decide +kernel) rfl rfl hcat hk hd kk
theorem w_7_151 : Cond.code ({ cls := "LastLoaf$Friends", name := "pairedWith", desc := "(III)I" } : MethodName) prog_3_method_4_code (4 : Nat) (Option.some ClassFile.FieldType.int) ∈ TB := tb_in (lwt_7 (List.mem_of_getElem? (i := 151) (by decide +kernel))) rfl
theorem w_1_13 : Cond.initialized "LastLoaf$Friends" ∈ TB := tb_in (lwt_1 (List.mem_of_getElem? (i := 13) (by decide +kernel))) rfl
theorem w_7_148 : Cond.methodLink "LastLoaf$Friends" (49 : Nat) ({ cls := "LastLoaf$Friends", name := "pairedWith", desc := "(III)I" } : MethodName) ∈ TB := tb_in (lwt_7 (List.mem_of_getElem? (i := 148) (by decide +kernel))) rfl
theorem w_7_149 : Cond.instanceMethod ({ cls := "LastLoaf$Friends", name := "pairedWith", desc := "(III)I" } : MethodName) ∈ TB := tb_in (lwt_7 (List.mem_of_getElem? (i := 149) (by decide +kernel))) rfl
theorem w_7_150 : Cond.selects "LastLoaf$Friends" ({ cls := "LastLoaf$Friends", name := "pairedWith", desc := "(III)I" } : MethodName) ({ cls := "LastLoaf$Friends", name := "pairedWith", desc := "(III)I" } : MethodName) ∈ TB := tb_in (lwt_7 (List.mem_of_getElem? (i := 150) (by decide +kernel))) rfl
theorem cr1_49 {Θ : Tz} {cc : ByteArray} {nL kc ks : Nat} {ret : Option FieldType} {rm : Room} {Q : State → Prop} {σ : St} {pc : Nat} {lv : List (Nat × Value)} {st : List Value} (C : Zc Θ cc nL RX1 ret rm) (hkd : Θ.2.2.2.2.1 = kdC) {rest_a : Int32} {one_a : Int32} {other_a : Int32} {r : Int32} (hx : q1_pairedWith σ rest_a one_a other_a = some r) (hrm : rm1_pairedWith.frames + 1 ≤ rm.frames ∧ 8 + (4 + 11) + rm1_pairedWith.locals ≤ rm.locals) (hcat : (st.map fun v => v.category).sum ≤ 8) (hk : kc ≤ rm.cells ∧ ks ≤ rm.slots) (hd : decode cc pc = .ok (.invokevirtual 49, 3)) (kk : Z Θ nL kc ks Q σ (pc + 3) lv (.int r :: st)) : Z Θ nL kc ks Q σ pc lv (.int other_a :: .int one_a :: .int rest_a :: .ref (zA Θ 27) :: st) := z_callV C 27 [.int rest_a, .int one_a, .int other_a] (some (.int r), σ) 3 (kC_27 hkd) rfl (c1_pairedWith (rest_a := rest_a) (one_a := one_a) (other_a := other_a) hkd (zc_inj C) hx) w_7_151 w_7_148 w_7_149 w_7_150 w_1_13 ⟨rfl, rfl, hrm.1, hrm.2⟩ (by decide +kernel) rfl rfl hcat hk hd kk
theorem w_4_68 : Cond.methodLink "LastLoaf$Friends" (53 : Nat) ({ cls := "java/lang/Math", name := "max", desc := "(II)I" } : MethodName) ∈ TB := tb_in (lwt_4 (List.mem_of_getElem? (i := 68) (by decide +kernel))) rfl
theorem dX1_pairUp_0 : decode cX1_pairUp 0 = .ok (.aload_n 0, 1) := by decide +kernel
theorem dX1_pairUp_1 : decode cX1_pairUp 1 = .ok (.getfield 15, 3) := by decide +kernel
theorem dX1_pairUp_4 : decode cX1_pairUp 4 = .ok (.iconst 0, 1) := by decide +kernel
theorem dX1_pairUp_5 : decode cX1_pairUp 5 = .ok (.iconst 0, 1) := by decide +kernel
theorem dX1_pairUp_6 : decode cX1_pairUp 6 = .ok (.iastore, 1) := by decide +kernel
theorem dX1_pairUp_7 : decode cX1_pairUp 7 = .ok (.iconst 1, 1) := by decide +kernel
theorem dX1_pairUp_8 : decode cX1_pairUp 8 = .ok (.istore_n 1, 1) := by decide +kernel
theorem dX1_pairUp_9 : decode cX1_pairUp 9 = .ok (.iload_n 1, 1) := by decide +kernel
theorem dX1_pairUp_10 : decode cX1_pairUp 10 = .ok (.aload_n 0, 1) := by decide +kernel
theorem dX1_pairUp_11 : decode cX1_pairUp 11 = .ok (.getfield 25, 3) := by decide +kernel
theorem dX1_pairUp_14 : decode cX1_pairUp 14 = .ok (.if_icmp .gt 84, 3) := by decide +kernel
theorem dX1_pairUp_17 : decode cX1_pairUp 17 = .ok (.iload_n 1, 1) := by decide +kernel
theorem dX1_pairUp_18 : decode cX1_pairUp 18 = .ok (.invokestatic 38, 3) := by decide +kernel
theorem dX1_pairUp_21 : decode cX1_pairUp 21 = .ok (.istore_n 2, 1) := by decide +kernel
theorem dX1_pairUp_22 : decode cX1_pairUp 22 = .ok (.iload_n 1, 1) := by decide +kernel
theorem dX1_pairUp_23 : decode cX1_pairUp 23 = .ok (.iload_n 2, 1) := by decide +kernel
theorem dX1_pairUp_24 : decode cX1_pairUp 24 = .ok (.invokestatic 42, 3) := by decide +kernel
theorem dX1_pairUp_27 : decode cX1_pairUp 27 = .ok (.istore_n 3, 1) := by decide +kernel
theorem dX1_pairUp_28 : decode cX1_pairUp 28 = .ok (.aload_n 0, 1) := by decide +kernel
theorem dX1_pairUp_29 : decode cX1_pairUp 29 = .ok (.getfield 15, 3) := by decide +kernel
theorem dX1_pairUp_32 : decode cX1_pairUp 32 = .ok (.iload_n 1, 1) := by decide +kernel
theorem dX1_pairUp_33 : decode cX1_pairUp 33 = .ok (.aload_n 0, 1) := by decide +kernel
theorem dX1_pairUp_34 : decode cX1_pairUp 34 = .ok (.getfield 15, 3) := by decide +kernel
theorem dX1_pairUp_37 : decode cX1_pairUp 37 = .ok (.iload_n 3, 1) := by decide +kernel
theorem dX1_pairUp_38 : decode cX1_pairUp 38 = .ok (.iaload, 1) := by decide +kernel
theorem dX1_pairUp_39 : decode cX1_pairUp 39 = .ok (.iastore, 1) := by decide +kernel
theorem dX1_pairUp_40 : decode cX1_pairUp 40 = .ok (.iload_n 2, 1) := by decide +kernel
theorem dX1_pairUp_41 : decode cX1_pairUp 41 = .ok (.iconst 1, 1) := by decide +kernel
theorem dX1_pairUp_42 : decode cX1_pairUp 42 = .ok (.iadd, 1) := by decide +kernel
theorem dX1_pairUp_43 : decode cX1_pairUp 43 = .ok (.istore 4, 2) := by decide +kernel
theorem dX1_pairUp_45 : decode cX1_pairUp 45 = .ok (.iload 4, 2) := by decide +kernel
theorem dX1_pairUp_47 : decode cX1_pairUp 47 = .ok (.aload_n 0, 1) := by decide +kernel
theorem dX1_pairUp_48 : decode cX1_pairUp 48 = .ok (.getfield 21, 3) := by decide +kernel
theorem dX1_pairUp_51 : decode cX1_pairUp 51 = .ok (.if_icmp .ge 41, 3) := by decide +kernel
theorem dX1_pairUp_54 : decode cX1_pairUp 54 = .ok (.iload_n 3, 1) := by decide +kernel
theorem dX1_pairUp_55 : decode cX1_pairUp 55 = .ok (.iload 4, 2) := by decide +kernel
theorem dX1_pairUp_57 : decode cX1_pairUp 57 = .ok (.invokestatic 45, 3) := by decide +kernel
theorem dX1_pairUp_60 : decode cX1_pairUp 60 = .ok (.ifCond .eq 26, 3) := by decide +kernel
theorem dX1_pairUp_63 : decode cX1_pairUp 63 = .ok (.aload_n 0, 1) := by decide +kernel
theorem dX1_pairUp_64 : decode cX1_pairUp 64 = .ok (.getfield 15, 3) := by decide +kernel
theorem dX1_pairUp_67 : decode cX1_pairUp 67 = .ok (.iload_n 1, 1) := by decide +kernel
theorem dX1_pairUp_68 : decode cX1_pairUp 68 = .ok (.aload_n 0, 1) := by decide +kernel
theorem dX1_pairUp_69 : decode cX1_pairUp 69 = .ok (.getfield 15, 3) := by decide +kernel
theorem dX1_pairUp_72 : decode cX1_pairUp 72 = .ok (.iload_n 1, 1) := by decide +kernel
theorem dX1_pairUp_73 : decode cX1_pairUp 73 = .ok (.iaload, 1) := by decide +kernel
theorem dX1_pairUp_74 : decode cX1_pairUp 74 = .ok (.aload_n 0, 1) := by decide +kernel
theorem dX1_pairUp_75 : decode cX1_pairUp 75 = .ok (.iload_n 3, 1) := by decide +kernel
theorem dX1_pairUp_76 : decode cX1_pairUp 76 = .ok (.iload_n 2, 1) := by decide +kernel
theorem dX1_pairUp_77 : decode cX1_pairUp 77 = .ok (.iload 4, 2) := by decide +kernel
theorem dX1_pairUp_79 : decode cX1_pairUp 79 = .ok (.invokevirtual 49, 3) := by decide +kernel
theorem dX1_pairUp_82 : decode cX1_pairUp 82 = .ok (.invokestatic 53, 3) := by decide +kernel
theorem dX1_pairUp_85 : decode cX1_pairUp 85 = .ok (.iastore, 1) := by decide +kernel
theorem dX1_pairUp_86 : decode cX1_pairUp 86 = .ok (.iinc 4 1, 3) := by decide +kernel
theorem dX1_pairUp_89 : decode cX1_pairUp 89 = .ok (.goto (-44), 3) := by decide +kernel
theorem dX1_pairUp_92 : decode cX1_pairUp 92 = .ok (.iinc 1 1, 3) := by decide +kernel
theorem dX1_pairUp_95 : decode cX1_pairUp 95 = .ok (.goto (-86), 3) := by decide +kernel
theorem dX1_pairUp_98 : decode cX1_pairUp 98 = .ok (.return_, 1) := by decide +kernel
def q1_pairUp (σ : St) : Option St :=
  Option.bind (sa σ 29 64 0 0) fun σ1_ =>
  Option.bind (loop2 (fun rec6_ (set9_ : Int32) (σ10_ : St) =>
  if set9_ ≤ (σ10_ 27 4) then
  Option.bind (q11_leastOf set9_) fun x17_ =>
  lt (q11_without set9_ x17_) fun rest19_ =>
  Option.bind (ag σ10_ 29 64 rest19_) fun x21_ =>
  Option.bind (sa σ10_ 29 64 set9_ x21_) fun σ23_ =>
  lt (x17_ + 1) fun q25_ =>
  Option.bind (loop2 (fun rec30_ (q33_ : Int32) (σ34_ : St) =>
  if q33_ < (σ34_ 27 3) then
  Option.bind (if q11_isIn rest19_ q33_ = true then (Option.bind (ag σ34_ 29 64 set9_) fun x48_ =>
  Option.bind (q1_pairedWith σ34_ rest19_ x17_ q33_) fun x50_ =>
  Option.bind (sa σ34_ 29 64 set9_ (imax x48_ x50_)) fun σ52_ =>
  some (σ52_)) else (some (σ34_))) fun y41_ =>
  lt (q33_ + 1) fun q54_ =>
  rec30_ q54_ y41_
  else (some (q33_, σ34_))) fuelN q25_ σ23_) fun y27_ =>
  lt (set9_ + 1) fun set56_ =>
  rec6_ set56_ y27_.2
  else (some (set9_, σ10_))) fuelN (1 : Int32) σ1_) fun y3_ =>
  some y3_.2
abbrev rm1_pairUp : Room := { frames := 2, cells := 0, slots := 0, locals := 44 }
set_option maxHeartbeats 4000000 in
set_option maxRecDepth 100000 in
theorem p1_pairUp {Θ : Tz} {σ : St} {ρ : Option Value × St} (C : Zc Θ cX1_pairUp 5 RX1 none rm1_pairUp) (hkd : Θ.2.2.2.2.1 = kdC) {r : St} (hf : q1_pairUp σ = some r) (hρ : ρ = (none, r)) : Z Θ 5 0 0 (zQ Θ ρ) σ 0 [(0, .ref (zA Θ 27))] [] := by
  unfold q1_pairUp at hf
  refine z_aload_n C 0 dX1_pairUp_0 rfl rfl ?_
  refine fg1_15 C hkd dX1_pairUp_1 ?_
  refine z_iconst (v := 0) C dX1_pairUp_4 ic_0 ?_
  refine z_iconst (v := 0) C dX1_pairUp_5 ic_0 ?_
  obtain ⟨σ1_, h2_, hf⟩ := ob hf
  refine z_sa C h2_ (kC_29 hkd) dX1_pairUp_6 ?_
  refine z_iconst (v := 1) C dX1_pairUp_7 ic_1 ?_
  refine z_istN C dX1_pairUp_8 rfl rfl (Nat.le_of_ble_eq_true rfl) rfl ?_
  refine Z.sub [1, 0] rfl ?_
  obtain ⟨y3_, h4_, hf⟩ := ob hf
  suffices K5_ : Z Θ 5 0 0 (zQ Θ ρ) y3_.2 98 [(0, .ref (zA Θ 27)), (1, .int y3_.1)] [] by
    refine loop2_Z (P := fun (set9_ : Int32) (σ10_ : St) => Z Θ 5 0 0 (zQ Θ ρ) σ10_ 9 [(0, .ref (zA Θ 27)), (1, .int set9_)] []) ?_ fuelN (1 : Int32) σ1_ h4_
    clear h4_
    intro rec6_ set9_ σ10_ h7_ h8_
    have K13_ : set9_ ≤ (σ10_ 27 4) → Z Θ 5 0 0 (zQ Θ ρ) σ10_ 17 [(0, .ref (zA Θ 27)), (1, .int set9_)] [] := by
      intro h16_
      rw [if_pos h16_] at h8_
      refine z_iload_n C 1 dX1_pairUp_17 rfl rfl ?_
      obtain ⟨x17_, h18_, h8_⟩ := ob h8_
      refine cr1_38 (set_a := set9_) C hkd  h18_ ⟨(Nat.le_of_ble_eq_true rfl), (Nat.le_of_ble_eq_true rfl)⟩ (Nat.le_of_ble_eq_true rfl) ⟨Nat.zero_le _, Nat.zero_le _⟩ dX1_pairUp_18 ?_
      refine z_istN C dX1_pairUp_21 rfl rfl (Nat.le_of_ble_eq_true rfl) rfl ?_
      refine z_iload_n C 2 dX1_pairUp_22 rfl rfl ?_
      refine z_iload_n C 0 dX1_pairUp_23 rfl rfl ?_
      refine cr1_42 (set_a := set9_) (person_a := x17_) C hkd  ⟨(Nat.le_of_ble_eq_true rfl), (Nat.le_of_ble_eq_true rfl)⟩ (Nat.le_of_ble_eq_true rfl) ⟨Nat.zero_le _, Nat.zero_le _⟩ dX1_pairUp_24 ?_
      obtain ⟨rest19_, h20_, h8_⟩ := lt_ h8_
      refine z_istN C dX1_pairUp_27 h20_ rfl (Nat.le_of_ble_eq_true rfl) rfl ?_
      refine z_aload_n C 2 dX1_pairUp_28 rfl rfl ?_
      refine fg1_15 C hkd dX1_pairUp_29 ?_
      refine z_iload_n C 3 dX1_pairUp_32 rfl rfl ?_
      refine z_aload_n C 2 dX1_pairUp_33 rfl rfl ?_
      refine fg1_15 C hkd dX1_pairUp_34 ?_
      refine z_iload_n C 0 dX1_pairUp_37 rfl rfl ?_
      obtain ⟨x21_, h22_, h8_⟩ := ob h8_
      refine z_ag C h22_ (kC_29 hkd) dX1_pairUp_38 ?_
      obtain ⟨σ23_, h24_, h8_⟩ := ob h8_
      refine z_sa C h24_ (kC_29 hkd) dX1_pairUp_39 ?_
      refine z_iload_n C 1 dX1_pairUp_40 rfl rfl ?_
      refine z_iconst (v := 1) C dX1_pairUp_41 ic_1 ?_
      refine z_iadd C dX1_pairUp_42 ?_
      obtain ⟨q25_, h26_, h8_⟩ := lt_ h8_
      refine z_ist C dX1_pairUp_43 h26_ (Nat.le_of_ble_eq_true rfl) rfl ?_
      refine Z.sub [3, 4, 2, 1, 0] rfl ?_
      obtain ⟨y27_, h28_, h8_⟩ := ob h8_
      suffices K29_ : Z Θ 5 0 0 (zQ Θ ρ) y27_.2 92 [(0, .ref (zA Θ 27)), (1, .int set9_), (2, .int x17_), (3, .int rest19_), (4, .int y27_.1)] [] by
        refine loop2_Z (P := fun (q33_ : Int32) (σ34_ : St) => Z Θ 5 0 0 (zQ Θ ρ) σ34_ 45 [(0, .ref (zA Θ 27)), (1, .int set9_), (2, .int x17_), (3, .int rest19_), (4, .int q33_)] []) ?_ fuelN q25_ σ23_ h28_
        clear h28_
        intro rec30_ q33_ σ34_ h31_ h32_
        have K37_ : q33_ < (σ34_ 27 3) → Z Θ 5 0 0 (zQ Θ ρ) σ34_ 54 [(0, .ref (zA Θ 27)), (1, .int set9_), (2, .int x17_), (3, .int rest19_), (4, .int q33_)] [] := by
          intro h40_
          rw [if_pos h40_] at h32_
          obtain ⟨y41_, h42_, h32_⟩ := ob h32_
          suffices K43_ : Z Θ 5 0 0 (zQ Θ ρ) y41_ 86 [(0, .ref (zA Θ 27)), (1, .int set9_), (2, .int x17_), (3, .int rest19_), (4, .int q33_)] [] by
            have K44_ : q11_isIn rest19_ q33_ = true → Z Θ 5 0 0 (zQ Θ ρ) σ34_ 63 [(0, .ref (zA Θ 27)), (1, .int set9_), (2, .int x17_), (3, .int rest19_), (4, .int q33_)] [] := by
              intro h47_
              rw [if_pos h47_] at h42_
              refine z_aload_n C 0 dX1_pairUp_63 rfl rfl ?_
              refine fg1_15 C hkd dX1_pairUp_64 ?_
              refine z_iload_n C 1 dX1_pairUp_67 rfl rfl ?_
              refine z_aload_n C 0 dX1_pairUp_68 rfl rfl ?_
              refine fg1_15 C hkd dX1_pairUp_69 ?_
              refine z_iload_n C 1 dX1_pairUp_72 rfl rfl ?_
              obtain ⟨x48_, h49_, h42_⟩ := ob h42_
              refine z_ag C h49_ (kC_29 hkd) dX1_pairUp_73 ?_
              refine z_aload_n C 0 dX1_pairUp_74 rfl rfl ?_
              refine z_iload_n C 3 dX1_pairUp_75 rfl rfl ?_
              refine z_iload_n C 2 dX1_pairUp_76 rfl rfl ?_
              refine z_iload C 4 dX1_pairUp_77 rfl ?_
              obtain ⟨x50_, h51_, h42_⟩ := ob h42_
              refine cr1_49 (rest_a := rest19_) (one_a := x17_) (other_a := q33_) C hkd  h51_ ⟨(Nat.le_of_ble_eq_true rfl), (Nat.le_of_ble_eq_true rfl)⟩ (Nat.le_of_ble_eq_true rfl) ⟨Nat.zero_le _, Nat.zero_le _⟩ dX1_pairUp_79 ?_
              refine z_max C w_4_68 w_3_176 w_1_28 w_3_177 ⟨(Nat.le_of_ble_eq_true rfl), (Nat.le_of_ble_eq_true rfl)⟩ (Nat.le_of_ble_eq_true rfl) ⟨Nat.zero_le _, Nat.zero_le _⟩ dX1_pairUp_82 ?_
              obtain ⟨σ52_, h53_, h42_⟩ := ob h42_
              refine z_sa C h53_ (kC_29 hkd) dX1_pairUp_85 ?_
              cases h42_
              exact K43_
            have K45_ : ¬ (q11_isIn rest19_ q33_ = true) → Z Θ 5 0 0 (zQ Θ ρ) σ34_ 86 [(0, .ref (zA Θ 27)), (1, .int set9_), (2, .int x17_), (3, .int rest19_), (4, .int q33_)] [] := by
              intro h47_
              rw [if_neg h47_] at h42_
              cases h42_
              exact K43_
            refine z_iload_n C 3 dX1_pairUp_54 rfl rfl ?_
            refine z_iload C 4 dX1_pairUp_55 rfl ?_
            refine cr1_45 (set_a := rest19_) (person_a := q33_) C hkd  ⟨(Nat.le_of_ble_eq_true rfl), (Nat.le_of_ble_eq_true rfl)⟩ (Nat.le_of_ble_eq_true rfl) ⟨Nat.zero_le _, Nat.zero_le _⟩ dX1_pairUp_57 ?_
            refine cb_f C 86 dX1_pairUp_60 (by decide) (fun h46_ => ?_) (fun h46_ => ?_)
            · exact K44_ h46_
            · exact K45_ h46_
          obtain ⟨q54_, h55_, h32_⟩ := lt_ h32_
          refine z_inc C 4 dX1_pairUp_86 rfl ic_1 h55_ (Nat.le_of_ble_eq_true rfl) rfl ?_
          refine z_goto C 45 dX1_pairUp_89 (by decide) ?_
          refine Z.sub [1, 2, 3, 4, 0] rfl ?_
          exact h31_ _ _ h32_
        have K38_ : ¬ (q33_ < (σ34_ 27 3)) → Z Θ 5 0 0 (zQ Θ ρ) σ34_ 92 [(0, .ref (zA Θ 27)), (1, .int set9_), (2, .int x17_), (3, .int rest19_), (4, .int q33_)] [] := by
          intro h40_
          rw [if_neg h40_] at h32_
          cases h32_
          exact K29_
        refine z_iload C 4 dX1_pairUp_45 rfl ?_
        refine z_aload_n C 0 dX1_pairUp_47 rfl rfl ?_
        refine fg1_21 C hkd dX1_pairUp_48 ?_
        refine c_lt_f C 92 dX1_pairUp_51 (by decide) (fun h39_ => ?_) (fun h39_ => ?_)
        · exact K37_ h39_
        · exact K38_ h39_
      obtain ⟨set56_, h57_, h8_⟩ := lt_ h8_
      refine z_inc C 1 dX1_pairUp_92 rfl ic_1 h57_ (Nat.le_of_ble_eq_true rfl) rfl ?_
      refine z_goto C 9 dX1_pairUp_95 (by decide) ?_
      refine Z.sub [1, 0] rfl ?_
      exact h7_ _ _ h8_
    have K14_ : ¬ (set9_ ≤ (σ10_ 27 4)) → Z Θ 5 0 0 (zQ Θ ρ) σ10_ 98 [(0, .ref (zA Θ 27)), (1, .int set9_)] [] := by
      intro h16_
      rw [if_neg h16_] at h8_
      cases h8_
      exact K5_
    refine z_iload_n C 1 dX1_pairUp_9 rfl rfl ?_
    refine z_aload_n C 0 dX1_pairUp_10 rfl rfl ?_
    refine fg1_25 C hkd dX1_pairUp_11 ?_
    refine c_le_f C 98 dX1_pairUp_14 (by decide) (fun h15_ => ?_) (fun h15_ => ?_)
    · exact K13_ h15_
    · exact K14_ h15_
  cases hf
  subst hρ
  exact z_vret C dX1_pairUp_98
theorem c1_pairUp {l : Launch} {kd : List KD} {w : Wp} {σ : St} (hkd : kd = kdC) (hi : zI kd w) {r : St} (hf : q1_pairUp σ = some r) : zM l kd w yX1_pairUp cX1_pairUp 5 none rm1_pairUp [.ref (w.2.2.1 27)] σ (none, r) := zM_of rfl hi (Nat.le_of_ble_eq_true rfl) (fun Θ hl hw C => by
  obtain ⟨Θ1, Θ2, Θ3, Θ4, Θ5⟩ := Θ
  cases hw
  exact p1_pairUp C hkd  hf rfl)
/-! LastLoaf$Friends.firstPartner -/
theorem dX1_firstPartner_0 : decode cX1_firstPartner 0 = .ok (.aload_n 0, 1) := by decide +kernel
theorem dX1_firstPartner_1 : decode cX1_firstPartner 1 = .ok (.getfield 15, 3) := by decide +kernel
theorem dX1_firstPartner_4 : decode cX1_firstPartner 4 = .ok (.iload_n 2, 1) := by decide +kernel
theorem dX1_firstPartner_5 : decode cX1_firstPartner 5 = .ok (.iaload, 1) := by decide +kernel
theorem dX1_firstPartner_6 : decode cX1_firstPartner 6 = .ok (.aload_n 0, 1) := by decide +kernel
theorem dX1_firstPartner_7 : decode cX1_firstPartner 7 = .ok (.getfield 15, 3) := by decide +kernel
theorem dX1_firstPartner_10 : decode cX1_firstPartner 10 = .ok (.iload_n 1, 1) := by decide +kernel
theorem dX1_firstPartner_11 : decode cX1_firstPartner 11 = .ok (.iaload, 1) := by decide +kernel
theorem dX1_firstPartner_12 : decode cX1_firstPartner 12 = .ok (.if_icmp .ne 5, 3) := by decide +kernel
theorem dX1_firstPartner_15 : decode cX1_firstPartner 15 = .ok (.iconst (-1), 1) := by decide +kernel
theorem dX1_firstPartner_16 : decode cX1_firstPartner 16 = .ok (.ireturn, 1) := by decide +kernel
theorem dX1_firstPartner_17 : decode cX1_firstPartner 17 = .ok (.iload_n 3, 1) := by decide +kernel
theorem dX1_firstPartner_18 : decode cX1_firstPartner 18 = .ok (.iconst 1, 1) := by decide +kernel
theorem dX1_firstPartner_19 : decode cX1_firstPartner 19 = .ok (.iadd, 1) := by decide +kernel
theorem dX1_firstPartner_20 : decode cX1_firstPartner 20 = .ok (.istore 4, 2) := by decide +kernel
theorem dX1_firstPartner_22 : decode cX1_firstPartner 22 = .ok (.iload 4, 2) := by decide +kernel
theorem dX1_firstPartner_24 : decode cX1_firstPartner 24 = .ok (.aload_n 0, 1) := by decide +kernel
theorem dX1_firstPartner_25 : decode cX1_firstPartner 25 = .ok (.getfield 21, 3) := by decide +kernel
theorem dX1_firstPartner_28 : decode cX1_firstPartner 28 = .ok (.if_icmp .ge 38, 3) := by decide +kernel
theorem dX1_firstPartner_31 : decode cX1_firstPartner 31 = .ok (.iload_n 2, 1) := by decide +kernel
theorem dX1_firstPartner_32 : decode cX1_firstPartner 32 = .ok (.iload 4, 2) := by decide +kernel
theorem dX1_firstPartner_34 : decode cX1_firstPartner 34 = .ok (.invokestatic 45, 3) := by decide +kernel
theorem dX1_firstPartner_37 : decode cX1_firstPartner 37 = .ok (.ifCond .eq 23, 3) := by decide +kernel
theorem dX1_firstPartner_40 : decode cX1_firstPartner 40 = .ok (.aload_n 0, 1) := by decide +kernel
theorem dX1_firstPartner_41 : decode cX1_firstPartner 41 = .ok (.iload_n 2, 1) := by decide +kernel
theorem dX1_firstPartner_42 : decode cX1_firstPartner 42 = .ok (.iload_n 3, 1) := by decide +kernel
theorem dX1_firstPartner_43 : decode cX1_firstPartner 43 = .ok (.iload 4, 2) := by decide +kernel
theorem dX1_firstPartner_45 : decode cX1_firstPartner 45 = .ok (.invokevirtual 49, 3) := by decide +kernel
theorem dX1_firstPartner_48 : decode cX1_firstPartner 48 = .ok (.aload_n 0, 1) := by decide +kernel
theorem dX1_firstPartner_49 : decode cX1_firstPartner 49 = .ok (.getfield 15, 3) := by decide +kernel
theorem dX1_firstPartner_52 : decode cX1_firstPartner 52 = .ok (.iload_n 1, 1) := by decide +kernel
theorem dX1_firstPartner_53 : decode cX1_firstPartner 53 = .ok (.iaload, 1) := by decide +kernel
theorem dX1_firstPartner_54 : decode cX1_firstPartner 54 = .ok (.if_icmp .ne 6, 3) := by decide +kernel
theorem dX1_firstPartner_57 : decode cX1_firstPartner 57 = .ok (.iload 4, 2) := by decide +kernel
theorem dX1_firstPartner_59 : decode cX1_firstPartner 59 = .ok (.ireturn, 1) := by decide +kernel
theorem dX1_firstPartner_60 : decode cX1_firstPartner 60 = .ok (.iinc 4 1, 3) := by decide +kernel
theorem dX1_firstPartner_63 : decode cX1_firstPartner 63 = .ok (.goto (-41), 3) := by decide +kernel
theorem dX1_firstPartner_66 : decode cX1_firstPartner 66 = .ok (.iconst (-1), 1) := by decide +kernel
theorem dX1_firstPartner_67 : decode cX1_firstPartner 67 = .ok (.ireturn, 1) := by decide +kernel
def q1_firstPartner (σ : St) (set_a : Int32) (rest_a : Int32) (one_a : Int32) : Option Int32 :=
  Option.bind (ag σ 29 64 rest_a) fun x3_ =>
  Option.bind (ag σ 29 64 set_a) fun x5_ =>
  if x3_ = x5_ then (some (-1)) else
  lt (one_a + 1) fun q9_ =>
  Option.bind (loop1 (fun rec14_ (q17_ : Int32) =>
  if q17_ < (σ 27 3) then
  Option.bind (if q11_isIn rest_a q17_ = true then (Option.bind (q1_pairedWith σ rest_a one_a q17_) fun x29_ =>
  Option.bind (ag σ 29 64 set_a) fun x31_ =>
  if x29_ = x31_ then (some true) else (some false)) else (some false)) fun t26_ =>
  if t26_ = true then (some (.inl q17_)) else
  lt (q17_ + 1) fun q35_ =>
  rec14_ q35_
  else (some (.inr q17_))) fuelN q9_) fun y11_ =>
  Sum.elim (fun x9 => some x9) (fun y11_r =>
  some (-1)) y11_
abbrev rm1_firstPartner : Room := { frames := 2, cells := 0, slots := 0, locals := 44 }
set_option maxHeartbeats 4000000 in
set_option maxRecDepth 100000 in
theorem p1_firstPartner {Θ : Tz} {σ : St} {ρ : Option Value × St} (C : Zc Θ cX1_firstPartner 5 RX1 (some .int) rm1_firstPartner) (hkd : Θ.2.2.2.2.1 = kdC) {set_a : Int32} {rest_a : Int32} {one_a : Int32} {r : Int32} (hf : q1_firstPartner σ set_a rest_a one_a = some r) (hρ : ρ = (some (.int r), σ)) : Z Θ 5 0 0 (zQ Θ ρ) σ 0 [(0, .ref (zA Θ 27)), (1, .int set_a), (2, .int rest_a), (3, .int one_a)] [] := by
  unfold q1_firstPartner at hf
  refine z_aload_n C 0 dX1_firstPartner_0 rfl rfl ?_
  refine fg1_15 C hkd dX1_firstPartner_1 ?_
  refine z_iload_n C 2 dX1_firstPartner_4 rfl rfl ?_
  obtain ⟨x3_, h4_, hf⟩ := ob hf
  refine z_ag C h4_ (kC_29 hkd) dX1_firstPartner_5 ?_
  refine z_aload_n C 0 dX1_firstPartner_6 rfl rfl ?_
  refine fg1_15 C hkd dX1_firstPartner_7 ?_
  refine z_iload_n C 1 dX1_firstPartner_10 rfl rfl ?_
  obtain ⟨x5_, h6_, hf⟩ := ob hf
  refine z_ag C h6_ (kC_29 hkd) dX1_firstPartner_11 ?_
  have K1_ : x3_ = x5_ → Z Θ 5 0 0 (zQ Θ ρ) σ 15 [(0, .ref (zA Θ 27)), (1, .int set_a), (2, .int rest_a), (3, .int one_a)] [] := by
    intro h8_
    rw [if_pos h8_] at hf
    refine z_iconst (v := (-1)) C dX1_firstPartner_15 ic_m1 ?_
    cases hf
    subst hρ
    exact z_iret C dX1_firstPartner_16
  suffices K2_ : ¬ (x3_ = x5_) → Z Θ 5 0 0 (zQ Θ ρ) σ 17 [(0, .ref (zA Θ 27)), (1, .int set_a), (2, .int rest_a), (3, .int one_a)] [] by
    refine c_eq_f C 17 dX1_firstPartner_12 (by decide) (fun h7_ => ?_) (fun h7_ => ?_)
    · exact K1_ h7_
    · exact K2_ h7_
  intro h8_
  rw [if_neg h8_] at hf
  refine z_iload_n C 3 dX1_firstPartner_17 rfl rfl ?_
  refine z_iconst (v := 1) C dX1_firstPartner_18 ic_1 ?_
  refine z_iadd C dX1_firstPartner_19 ?_
  obtain ⟨q9_, h10_, hf⟩ := lt_ hf
  refine z_ist C dX1_firstPartner_20 h10_ (Nat.le_of_ble_eq_true rfl) rfl ?_
  refine Z.sub [1, 2, 3, 4, 0] rfl ?_
  obtain ⟨y11_, h12_, hf⟩ := ob hf
  suffices K13_ : ∀ y11_r, y11_ = .inr y11_r → Z Θ 5 0 0 (zQ Θ ρ) σ 66 [(0, .ref (zA Θ 27)), (1, .int set_a), (2, .int rest_a), (3, .int one_a), (4, .int y11_r)] [] by
    refine loop1_Z (P := fun (q17_ : Int32) => Z Θ 5 0 0 (zQ Θ ρ) σ 22 [(0, .ref (zA Θ 27)), (1, .int set_a), (2, .int rest_a), (3, .int one_a), (4, .int q17_)] []) ?_ fuelN q9_ h12_
    clear h12_
    intro rec14_ q17_ h15_ h16_
    have K20_ : q17_ < (σ 27 3) → Z Θ 5 0 0 (zQ Θ ρ) σ 31 [(0, .ref (zA Θ 27)), (1, .int set_a), (2, .int rest_a), (3, .int one_a), (4, .int q17_)] [] := by
      intro h23_
      rw [if_pos h23_] at h16_
      obtain ⟨t26_, h27_, h16_⟩ := ob h16_
      have K24_ : t26_ = true → Z Θ 5 0 0 (zQ Θ ρ) σ 57 [(0, .ref (zA Θ 27)), (1, .int set_a), (2, .int rest_a), (3, .int one_a), (4, .int q17_)] [] := by
        intro h34_
        rw [if_pos h34_] at h16_
        refine z_iload C 4 dX1_firstPartner_57 rfl ?_
        rw [← Option.some.inj h16_] at hf
        replace hf : some q17_ = some r := hf
        cases hf
        subst hρ
        exact z_iret C dX1_firstPartner_59
      suffices K25_ : ¬ (t26_ = true) → Z Θ 5 0 0 (zQ Θ ρ) σ 60 [(0, .ref (zA Θ 27)), (1, .int set_a), (2, .int rest_a), (3, .int one_a), (4, .int q17_)] [] by
        refine z_iload_n C 2 dX1_firstPartner_31 rfl rfl ?_
        refine z_iload C 4 dX1_firstPartner_32 rfl ?_
        refine cr1_45 (set_a := rest_a) (person_a := q17_) C hkd  ⟨(Nat.le_of_ble_eq_true rfl), (Nat.le_of_ble_eq_true rfl)⟩ (Nat.le_of_ble_eq_true rfl) ⟨Nat.zero_le _, Nat.zero_le _⟩ dX1_firstPartner_34 ?_
        refine cb_f C 60 dX1_firstPartner_37 (by decide) (fun h28_ => ?_) (fun h28_ => ?_)
        · rw [if_pos h28_] at h27_
          refine z_aload_n C 0 dX1_firstPartner_40 rfl rfl ?_
          refine z_iload_n C 2 dX1_firstPartner_41 rfl rfl ?_
          refine z_iload_n C 3 dX1_firstPartner_42 rfl rfl ?_
          refine z_iload C 4 dX1_firstPartner_43 rfl ?_
          obtain ⟨x29_, h30_, h27_⟩ := ob h27_
          refine cr1_49 (rest_a := rest_a) (one_a := one_a) (other_a := q17_) C hkd  h30_ ⟨(Nat.le_of_ble_eq_true rfl), (Nat.le_of_ble_eq_true rfl)⟩ (Nat.le_of_ble_eq_true rfl) ⟨Nat.zero_le _, Nat.zero_le _⟩ dX1_firstPartner_45 ?_
          refine z_aload_n C 0 dX1_firstPartner_48 rfl rfl ?_
          refine fg1_15 C hkd dX1_firstPartner_49 ?_
          refine z_iload_n C 1 dX1_firstPartner_52 rfl rfl ?_
          obtain ⟨x31_, h32_, h27_⟩ := ob h27_
          refine z_ag C h32_ (kC_29 hkd) dX1_firstPartner_53 ?_
          refine c_eq_f C 60 dX1_firstPartner_54 (by decide) (fun h33_ => ?_) (fun h33_ => ?_)
          · rw [if_pos h33_] at h27_
            cases h27_
            exact K24_ rfl
          · rw [if_neg h33_] at h27_
            cases h27_
            exact K25_ Bool.false_ne_true
        · rw [if_neg h28_] at h27_
          cases h27_
          exact K25_ Bool.false_ne_true
      intro h34_
      rw [if_neg h34_] at h16_
      obtain ⟨q35_, h36_, h16_⟩ := lt_ h16_
      refine z_inc C 4 dX1_firstPartner_60 rfl ic_1 h36_ (Nat.le_of_ble_eq_true rfl) rfl ?_
      refine z_goto C 22 dX1_firstPartner_63 (by decide) ?_
      refine Z.sub [1, 2, 3, 4, 0] rfl ?_
      exact h15_ _ h16_
    have K21_ : ¬ (q17_ < (σ 27 3)) → Z Θ 5 0 0 (zQ Θ ρ) σ 66 [(0, .ref (zA Θ 27)), (1, .int set_a), (2, .int rest_a), (3, .int one_a), (4, .int q17_)] [] := by
      intro h23_
      rw [if_neg h23_] at h16_
      exact K13_ _ (Option.some.inj h16_).symm
    refine z_iload C 4 dX1_firstPartner_22 rfl ?_
    refine z_aload_n C 0 dX1_firstPartner_24 rfl rfl ?_
    refine fg1_21 C hkd dX1_firstPartner_25 ?_
    refine c_lt_f C 66 dX1_firstPartner_28 (by decide) (fun h22_ => ?_) (fun h22_ => ?_)
    · exact K20_ h22_
    · exact K21_ h22_
  intro y11_r e9
  subst e9
  simp only [Sum.elim_inr] at hf
  refine z_iconst (v := (-1)) C dX1_firstPartner_66 ic_m1 ?_
  cases hf
  subst hρ
  exact z_iret C dX1_firstPartner_67
theorem c1_firstPartner {l : Launch} {kd : List KD} {w : Wp} {σ : St} {set_a : Int32} {rest_a : Int32} {one_a : Int32} (hkd : kd = kdC) (hi : zI kd w) {r : Int32} (hf : q1_firstPartner σ set_a rest_a one_a = some r) : zM l kd w yX1_firstPartner cX1_firstPartner 5 (some .int) rm1_firstPartner [.ref (w.2.2.1 27), .int set_a, .int rest_a, .int one_a] σ (some (.int r), σ) := zM_of rfl hi (Nat.le_of_ble_eq_true rfl) (fun Θ hl hw C => by
  obtain ⟨Θ1, Θ2, Θ3, Θ4, Θ5⟩ := Θ
  cases hw
  exact p1_firstPartner C hkd  hf rfl)
/-! LastLoaf$Friends.partnerOf -/
theorem w_7_163 : Cond.code ({ cls := "LastLoaf$Friends", name := "firstPartner", desc := "(III)I" } : MethodName) prog_3_method_7_code (5 : Nat) (Option.some ClassFile.FieldType.int) ∈ TB := tb_in (lwt_7 (List.mem_of_getElem? (i := 163) (by decide +kernel))) rfl
theorem w_7_160 : Cond.methodLink "LastLoaf$Friends" (58 : Nat) ({ cls := "LastLoaf$Friends", name := "firstPartner", desc := "(III)I" } : MethodName) ∈ TB := tb_in (lwt_7 (List.mem_of_getElem? (i := 160) (by decide +kernel))) rfl
theorem w_7_161 : Cond.instanceMethod ({ cls := "LastLoaf$Friends", name := "firstPartner", desc := "(III)I" } : MethodName) ∈ TB := tb_in (lwt_7 (List.mem_of_getElem? (i := 161) (by decide +kernel))) rfl
theorem w_7_162 : Cond.selects "LastLoaf$Friends" ({ cls := "LastLoaf$Friends", name := "firstPartner", desc := "(III)I" } : MethodName) ({ cls := "LastLoaf$Friends", name := "firstPartner", desc := "(III)I" } : MethodName) ∈ TB := tb_in (lwt_7 (List.mem_of_getElem? (i := 162) (by decide +kernel))) rfl
theorem cr1_58 {Θ : Tz} {cc : ByteArray} {nL kc ks : Nat} {ret : Option FieldType} {rm : Room} {Q : State → Prop} {σ : St} {pc : Nat} {lv : List (Nat × Value)} {st : List Value} (C : Zc Θ cc nL RX1 ret rm) (hkd : Θ.2.2.2.2.1 = kdC) {set_a : Int32} {rest_a : Int32} {one_a : Int32} {r : Int32} (hx : q1_firstPartner σ set_a rest_a one_a = some r) (hrm : rm1_firstPartner.frames + 1 ≤ rm.frames ∧ 8 + (5 + 11) + rm1_firstPartner.locals ≤ rm.locals) (hcat : (st.map fun v => v.category).sum ≤ 8) (hk : kc ≤ rm.cells ∧ ks ≤ rm.slots) (hd : decode cc pc = .ok (.invokevirtual 58, 3)) (kk : Z Θ nL kc ks Q σ (pc + 3) lv (.int r :: st)) : Z Θ nL kc ks Q σ pc lv (.int one_a :: .int rest_a :: .int set_a :: .ref (zA Θ 27) :: st) := z_callV C 27 [.int set_a, .int rest_a, .int one_a] (some (.int r), σ) 3 (kC_27 hkd) rfl (c1_firstPartner (set_a := set_a) (rest_a := rest_a) (one_a := one_a) hkd (zc_inj C) hx) w_7_163 w_7_160 w_7_161 w_7_162 w_1_13 ⟨rfl, rfl, hrm.1, hrm.2⟩ (by decide +kernel) rfl rfl hcat hk hd kk
theorem dX1_partnerOf_0 : decode cX1_partnerOf 0 = .ok (.aload_n 0, 1) := by decide +kernel
theorem dX1_partnerOf_1 : decode cX1_partnerOf 1 = .ok (.getfield 25, 3) := by decide +kernel
theorem dX1_partnerOf_4 : decode cX1_partnerOf 4 = .ok (.istore_n 2, 1) := by decide +kernel
theorem dX1_partnerOf_5 : decode cX1_partnerOf 5 = .ok (.iconst 0, 1) := by decide +kernel
theorem dX1_partnerOf_6 : decode cX1_partnerOf 6 = .ok (.istore_n 3, 1) := by decide +kernel
theorem dX1_partnerOf_7 : decode cX1_partnerOf 7 = .ok (.iload_n 3, 1) := by decide +kernel
theorem dX1_partnerOf_8 : decode cX1_partnerOf 8 = .ok (.bipush 6, 2) := by decide +kernel
theorem dX1_partnerOf_10 : decode cX1_partnerOf 10 = .ok (.if_icmp .ge 75, 3) := by decide +kernel
theorem dX1_partnerOf_13 : decode cX1_partnerOf 13 = .ok (.iload_n 2, 1) := by decide +kernel
theorem dX1_partnerOf_14 : decode cX1_partnerOf 14 = .ok (.ifCond .eq 71, 3) := by decide +kernel
theorem dX1_partnerOf_17 : decode cX1_partnerOf 17 = .ok (.iload_n 2, 1) := by decide +kernel
theorem dX1_partnerOf_18 : decode cX1_partnerOf 18 = .ok (.invokestatic 38, 3) := by decide +kernel
theorem dX1_partnerOf_21 : decode cX1_partnerOf 21 = .ok (.istore 4, 2) := by decide +kernel
theorem dX1_partnerOf_23 : decode cX1_partnerOf 23 = .ok (.iload_n 2, 1) := by decide +kernel
theorem dX1_partnerOf_24 : decode cX1_partnerOf 24 = .ok (.iload 4, 2) := by decide +kernel
theorem dX1_partnerOf_26 : decode cX1_partnerOf 26 = .ok (.invokestatic 42, 3) := by decide +kernel
theorem dX1_partnerOf_29 : decode cX1_partnerOf 29 = .ok (.istore 5, 2) := by decide +kernel
theorem dX1_partnerOf_31 : decode cX1_partnerOf 31 = .ok (.aload_n 0, 1) := by decide +kernel
theorem dX1_partnerOf_32 : decode cX1_partnerOf 32 = .ok (.iload_n 2, 1) := by decide +kernel
theorem dX1_partnerOf_33 : decode cX1_partnerOf 33 = .ok (.iload 5, 2) := by decide +kernel
theorem dX1_partnerOf_35 : decode cX1_partnerOf 35 = .ok (.iload 4, 2) := by decide +kernel
theorem dX1_partnerOf_37 : decode cX1_partnerOf 37 = .ok (.invokevirtual 58, 3) := by decide +kernel
theorem dX1_partnerOf_40 : decode cX1_partnerOf 40 = .ok (.istore 6, 2) := by decide +kernel
theorem dX1_partnerOf_42 : decode cX1_partnerOf 42 = .ok (.iload 4, 2) := by decide +kernel
theorem dX1_partnerOf_44 : decode cX1_partnerOf 44 = .ok (.iload_n 1, 1) := by decide +kernel
theorem dX1_partnerOf_45 : decode cX1_partnerOf 45 = .ok (.if_icmp .ne 6, 3) := by decide +kernel
theorem dX1_partnerOf_48 : decode cX1_partnerOf 48 = .ok (.iload 6, 2) := by decide +kernel
theorem dX1_partnerOf_50 : decode cX1_partnerOf 50 = .ok (.ireturn, 1) := by decide +kernel
theorem dX1_partnerOf_51 : decode cX1_partnerOf 51 = .ok (.iload 6, 2) := by decide +kernel
theorem dX1_partnerOf_53 : decode cX1_partnerOf 53 = .ok (.iload_n 1, 1) := by decide +kernel
theorem dX1_partnerOf_54 : decode cX1_partnerOf 54 = .ok (.if_icmp .ne 6, 3) := by decide +kernel
theorem dX1_partnerOf_57 : decode cX1_partnerOf 57 = .ok (.iload 4, 2) := by decide +kernel
theorem dX1_partnerOf_59 : decode cX1_partnerOf 59 = .ok (.ireturn, 1) := by decide +kernel
theorem dX1_partnerOf_60 : decode cX1_partnerOf 60 = .ok (.iload 6, 2) := by decide +kernel
theorem dX1_partnerOf_62 : decode cX1_partnerOf 62 = .ok (.iconst (-1), 1) := by decide +kernel
theorem dX1_partnerOf_63 : decode cX1_partnerOf 63 = .ok (.if_icmp .ne 8, 3) := by decide +kernel
theorem dX1_partnerOf_66 : decode cX1_partnerOf 66 = .ok (.iload 5, 2) := by decide +kernel
theorem dX1_partnerOf_68 : decode cX1_partnerOf 68 = .ok (.goto 10, 3) := by decide +kernel
theorem dX1_partnerOf_71 : decode cX1_partnerOf 71 = .ok (.iload 5, 2) := by decide +kernel
theorem dX1_partnerOf_73 : decode cX1_partnerOf 73 = .ok (.iload 6, 2) := by decide +kernel
theorem dX1_partnerOf_75 : decode cX1_partnerOf 75 = .ok (.invokestatic 42, 3) := by decide +kernel
theorem dX1_partnerOf_78 : decode cX1_partnerOf 78 = .ok (.istore_n 2, 1) := by decide +kernel
theorem dX1_partnerOf_79 : decode cX1_partnerOf 79 = .ok (.iinc 3 1, 3) := by decide +kernel
theorem dX1_partnerOf_82 : decode cX1_partnerOf 82 = .ok (.goto (-75), 3) := by decide +kernel
theorem dX1_partnerOf_85 : decode cX1_partnerOf 85 = .ok (.iconst (-1), 1) := by decide +kernel
theorem dX1_partnerOf_86 : decode cX1_partnerOf 86 = .ok (.ireturn, 1) := by decide +kernel
def q1_partnerOf (σ : St) (person_a : Int32) : Option Int32 :=
  lt (σ 27 4) fun set1_ =>
  Option.bind (loop2 (fun rec6_ (set9_ : Int32) (i10_ : Int32) =>
  if (i10_ < 6) ∧ (¬ set9_ = 0) then
  Option.bind (q11_leastOf set9_) fun x18_ =>
  lt (q11_without set9_ x18_) fun rest20_ =>
  Option.bind (q1_firstPartner σ set9_ rest20_ x18_) fun x22_ =>
  if x18_ = person_a then (some (.inl x22_)) else
  if x22_ = person_a then (some (.inl x18_)) else
  lt (if x22_ = (-1) then rest20_ else q11_without rest20_ x22_) fun set37_ =>
  lt (i10_ + 1) fun i39_ =>
  rec6_ set37_ i39_
  else (some (.inr (set9_, i10_)))) fuelN set1_ (0 : Int32)) fun y3_ =>
  Sum.elim (fun x9 => some x9) (fun y3_r =>
  some (-1)) y3_
abbrev rm1_partnerOf : Room := { frames := 3, cells := 0, slots := 0, locals := 68 }
set_option maxHeartbeats 4000000 in
set_option maxRecDepth 100000 in
theorem p1_partnerOf {Θ : Tz} {σ : St} {ρ : Option Value × St} (C : Zc Θ cX1_partnerOf 7 RX1 (some .int) rm1_partnerOf) (hkd : Θ.2.2.2.2.1 = kdC) {person_a : Int32} {r : Int32} (hf : q1_partnerOf σ person_a = some r) (hρ : ρ = (some (.int r), σ)) : Z Θ 7 0 0 (zQ Θ ρ) σ 0 [(0, .ref (zA Θ 27)), (1, .int person_a)] [] := by
  unfold q1_partnerOf at hf
  refine z_aload_n C 0 dX1_partnerOf_0 rfl rfl ?_
  refine fg1_25 C hkd dX1_partnerOf_1 ?_
  obtain ⟨set1_, h2_, hf⟩ := lt_ hf
  refine z_istN C dX1_partnerOf_4 h2_ rfl (Nat.le_of_ble_eq_true rfl) rfl ?_
  refine z_iconst (v := 0) C dX1_partnerOf_5 ic_0 ?_
  refine z_istN C dX1_partnerOf_6 rfl rfl (Nat.le_of_ble_eq_true rfl) rfl ?_
  refine Z.sub [2, 3, 1, 0] rfl ?_
  obtain ⟨y3_, h4_, hf⟩ := ob hf
  suffices K5_ : ∀ y3_r, y3_ = .inr y3_r → Z Θ 7 0 0 (zQ Θ ρ) σ 85 [(0, .ref (zA Θ 27)), (1, .int person_a), (2, .int y3_r.1), (3, .int y3_r.2)] [] by
    refine loop2_Z (P := fun (set9_ : Int32) (i10_ : Int32) => Z Θ 7 0 0 (zQ Θ ρ) σ 7 [(0, .ref (zA Θ 27)), (1, .int person_a), (2, .int set9_), (3, .int i10_)] []) ?_ fuelN set1_ (0 : Int32) h4_
    clear h4_
    intro rec6_ set9_ i10_ h7_ h8_
    have K13_ : (i10_ < 6) ∧ (¬ set9_ = 0) → Z Θ 7 0 0 (zQ Θ ρ) σ 17 [(0, .ref (zA Θ 27)), (1, .int person_a), (2, .int set9_), (3, .int i10_)] [] := by
      intro h17_
      rw [if_pos h17_] at h8_
      refine z_iload_n C 2 dX1_partnerOf_17 rfl rfl ?_
      obtain ⟨x18_, h19_, h8_⟩ := ob h8_
      refine cr1_38 (set_a := set9_) C hkd  h19_ ⟨(Nat.le_of_ble_eq_true rfl), (Nat.le_of_ble_eq_true rfl)⟩ (Nat.le_of_ble_eq_true rfl) ⟨Nat.zero_le _, Nat.zero_le _⟩ dX1_partnerOf_18 ?_
      refine z_ist C dX1_partnerOf_21 rfl (Nat.le_of_ble_eq_true rfl) rfl ?_
      refine z_iload_n C 3 dX1_partnerOf_23 rfl rfl ?_
      refine z_iload C 0 dX1_partnerOf_24 rfl ?_
      refine cr1_42 (set_a := set9_) (person_a := x18_) C hkd  ⟨(Nat.le_of_ble_eq_true rfl), (Nat.le_of_ble_eq_true rfl)⟩ (Nat.le_of_ble_eq_true rfl) ⟨Nat.zero_le _, Nat.zero_le _⟩ dX1_partnerOf_26 ?_
      obtain ⟨rest20_, h21_, h8_⟩ := lt_ h8_
      refine z_ist C dX1_partnerOf_29 h21_ (Nat.le_of_ble_eq_true rfl) rfl ?_
      refine z_aload_n C 2 dX1_partnerOf_31 rfl rfl ?_
      refine z_iload_n C 4 dX1_partnerOf_32 rfl rfl ?_
      refine z_iload C 0 dX1_partnerOf_33 rfl ?_
      refine z_iload C 1 dX1_partnerOf_35 rfl ?_
      obtain ⟨x22_, h23_, h8_⟩ := ob h8_
      refine cr1_58 (set_a := set9_) (rest_a := rest20_) (one_a := x18_) C hkd  h23_ ⟨(Nat.le_of_ble_eq_true rfl), (Nat.le_of_ble_eq_true rfl)⟩ (Nat.le_of_ble_eq_true rfl) ⟨Nat.zero_le _, Nat.zero_le _⟩ dX1_partnerOf_37 ?_
      refine z_ist C dX1_partnerOf_40 rfl (Nat.le_of_ble_eq_true rfl) rfl ?_
      have K24_ : x18_ = person_a → Z Θ 7 0 0 (zQ Θ ρ) σ 48 [(6, .int x22_), (5, .int rest20_), (4, .int x18_), (0, .ref (zA Θ 27)), (1, .int person_a), (2, .int set9_), (3, .int i10_)] [] := by
        intro h27_
        rw [if_pos h27_] at h8_
        refine z_iload C 0 dX1_partnerOf_48 rfl ?_
        rw [← Option.some.inj h8_] at hf
        replace hf : some x22_ = some r := hf
        cases hf
        subst hρ
        exact z_iret C dX1_partnerOf_50
      suffices K25_ : ¬ (x18_ = person_a) → Z Θ 7 0 0 (zQ Θ ρ) σ 51 [(6, .int x22_), (5, .int rest20_), (4, .int x18_), (0, .ref (zA Θ 27)), (1, .int person_a), (2, .int set9_), (3, .int i10_)] [] by
        refine z_iload C 2 dX1_partnerOf_42 rfl ?_
        refine z_iload_n C 4 dX1_partnerOf_44 rfl rfl ?_
        refine c_eq_f C 51 dX1_partnerOf_45 (by decide) (fun h26_ => ?_) (fun h26_ => ?_)
        · exact K24_ h26_
        · exact K25_ h26_
      intro h27_
      rw [if_neg h27_] at h8_
      have K28_ : x22_ = person_a → Z Θ 7 0 0 (zQ Θ ρ) σ 57 [(6, .int x22_), (5, .int rest20_), (4, .int x18_), (0, .ref (zA Θ 27)), (1, .int person_a), (2, .int set9_), (3, .int i10_)] [] := by
        intro h31_
        rw [if_pos h31_] at h8_
        refine z_iload C 2 dX1_partnerOf_57 rfl ?_
        rw [← Option.some.inj h8_] at hf
        replace hf : some x18_ = some r := hf
        cases hf
        subst hρ
        exact z_iret C dX1_partnerOf_59
      suffices K29_ : ¬ (x22_ = person_a) → Z Θ 7 0 0 (zQ Θ ρ) σ 60 [(6, .int x22_), (5, .int rest20_), (4, .int x18_), (0, .ref (zA Θ 27)), (1, .int person_a), (2, .int set9_), (3, .int i10_)] [] by
        refine z_iload C 0 dX1_partnerOf_51 rfl ?_
        refine z_iload_n C 4 dX1_partnerOf_53 rfl rfl ?_
        refine c_eq_f C 60 dX1_partnerOf_54 (by decide) (fun h30_ => ?_) (fun h30_ => ?_)
        · exact K28_ h30_
        · exact K29_ h30_
      intro h31_
      rw [if_neg h31_] at h8_
      suffices K32_ : Z Θ 7 0 0 (zQ Θ ρ) σ 78 [(6, .int x22_), (5, .int rest20_), (4, .int x18_), (0, .ref (zA Θ 27)), (1, .int person_a), (2, .int set9_), (3, .int i10_)] [.int (if x22_ = (-1) then rest20_ else q11_without rest20_ x22_)] by
        have K33_ : x22_ = (-1) → Z Θ 7 0 0 (zQ Θ ρ) σ 66 [(6, .int x22_), (5, .int rest20_), (4, .int x18_), (0, .ref (zA Θ 27)), (1, .int person_a), (2, .int set9_), (3, .int i10_)] [] := by
          intro h36_
          rw [if_pos h36_] at K32_
          refine z_iload C 1 dX1_partnerOf_66 rfl ?_
          refine z_goto C 78 dX1_partnerOf_68 (by decide) ?_
          exact K32_
        have K34_ : ¬ (x22_ = (-1)) → Z Θ 7 0 0 (zQ Θ ρ) σ 71 [(6, .int x22_), (5, .int rest20_), (4, .int x18_), (0, .ref (zA Θ 27)), (1, .int person_a), (2, .int set9_), (3, .int i10_)] [] := by
          intro h36_
          rw [if_neg h36_] at K32_
          refine z_iload C 1 dX1_partnerOf_71 rfl ?_
          refine z_iload C 0 dX1_partnerOf_73 rfl ?_
          refine cr1_42 (set_a := rest20_) (person_a := x22_) C hkd  ⟨(Nat.le_of_ble_eq_true rfl), (Nat.le_of_ble_eq_true rfl)⟩ (Nat.le_of_ble_eq_true rfl) ⟨Nat.zero_le _, Nat.zero_le _⟩ dX1_partnerOf_75 ?_
          exact K32_
        refine z_iload C 0 dX1_partnerOf_60 rfl ?_
        refine z_iconst (v := (-1)) C dX1_partnerOf_62 ic_m1 ?_
        refine c_eq_f C 71 dX1_partnerOf_63 (by decide) (fun h35_ => ?_) (fun h35_ => ?_)
        · exact K33_ h35_
        · exact K34_ h35_
      obtain ⟨set37_, h38_, h8_⟩ := lt_ h8_
      refine z_istN C dX1_partnerOf_78 h38_ rfl (Nat.le_of_ble_eq_true rfl) rfl ?_
      obtain ⟨i39_, h40_, h8_⟩ := lt_ h8_
      refine z_inc C 6 dX1_partnerOf_79 rfl ic_1 h40_ (Nat.le_of_ble_eq_true rfl) rfl ?_
      refine z_goto C 7 dX1_partnerOf_82 (by decide) ?_
      refine Z.sub [5, 6, 1, 0] rfl ?_
      exact h7_ _ _ h8_
    have K14_ : ¬ ((i10_ < 6) ∧ (¬ set9_ = 0)) → Z Θ 7 0 0 (zQ Θ ρ) σ 85 [(0, .ref (zA Θ 27)), (1, .int person_a), (2, .int set9_), (3, .int i10_)] [] := by
      intro h17_
      rw [if_neg h17_] at h8_
      exact K5_ _ (Option.some.inj h8_).symm
    refine z_iload_n C 3 dX1_partnerOf_7 rfl rfl ?_
    refine z_bipush (v := 6) C dX1_partnerOf_8 bp_6 ?_
    refine c_lt_f C 85 dX1_partnerOf_10 (by decide) (fun h15_ => ?_) (fun h15_ => ?_)
    · refine z_iload_n C 2 dX1_partnerOf_13 rfl rfl ?_
      refine c0_ne_f C 85 dX1_partnerOf_14 (by decide) (fun h16_ => ?_) (fun h16_ => ?_)
      · exact K13_ ⟨h15_, h16_⟩
      · exact K14_ (fun n => h16_ n.2)
    · exact K14_ (fun n => h15_ n.1)
  intro y3_r e9
  subst e9
  simp only [Sum.elim_inr] at hf
  refine z_iconst (v := (-1)) C dX1_partnerOf_85 ic_m1 ?_
  cases hf
  subst hρ
  exact z_iret C dX1_partnerOf_86
theorem c1_partnerOf {l : Launch} {kd : List KD} {w : Wp} {σ : St} {person_a : Int32} (hkd : kd = kdC) (hi : zI kd w) {r : Int32} (hf : q1_partnerOf σ person_a = some r) : zM l kd w yX1_partnerOf cX1_partnerOf 7 (some .int) rm1_partnerOf [.ref (w.2.2.1 27), .int person_a] σ (some (.int r), σ) := zM_of rfl hi (Nat.le_of_ble_eq_true rfl) (fun Θ hl hw C => by
  obtain ⟨Θ1, Θ2, Θ3, Θ4, Θ5⟩ := Θ
  cases hw
  exact p1_partnerOf C hkd  hf rfl)
/-! LastLoaf$Friends.warmth -/
theorem dX1_warmth_0 : decode cX1_warmth 0 = .ok (.aload_n 0, 1) := by decide +kernel
theorem dX1_warmth_1 : decode cX1_warmth 1 = .ok (.getfield 15, 3) := by decide +kernel
theorem dX1_warmth_4 : decode cX1_warmth 4 = .ok (.aload_n 0, 1) := by decide +kernel
theorem dX1_warmth_5 : decode cX1_warmth 5 = .ok (.getfield 25, 3) := by decide +kernel
theorem dX1_warmth_8 : decode cX1_warmth 8 = .ok (.iaload, 1) := by decide +kernel
theorem dX1_warmth_9 : decode cX1_warmth 9 = .ok (.ireturn, 1) := by decide +kernel
def q1_warmth (σ : St) : Option Int32 :=
  Option.bind (ag σ 29 64 (σ 27 4)) fun x1_ =>
  some x1_
abbrev rm1_warmth : Room := { frames := 0, cells := 0, slots := 0, locals := 0 }
set_option maxHeartbeats 4000000 in
set_option maxRecDepth 100000 in
theorem p1_warmth {Θ : Tz} {σ : St} {ρ : Option Value × St} (C : Zc Θ cX1_warmth 1 RX1 (some .int) rm1_warmth) (hkd : Θ.2.2.2.2.1 = kdC) {r : Int32} (hf : q1_warmth σ = some r) (hρ : ρ = (some (.int r), σ)) : Z Θ 1 0 0 (zQ Θ ρ) σ 0 [(0, .ref (zA Θ 27))] [] := by
  unfold q1_warmth at hf
  refine z_aload_n C 0 dX1_warmth_0 rfl rfl ?_
  refine fg1_15 C hkd dX1_warmth_1 ?_
  refine z_aload_n C 0 dX1_warmth_4 rfl rfl ?_
  refine fg1_25 C hkd dX1_warmth_5 ?_
  obtain ⟨x1_, h2_, hf⟩ := ob hf
  refine z_ag C h2_ (kC_29 hkd) dX1_warmth_8 ?_
  cases hf
  subst hρ
  exact z_iret C dX1_warmth_9
theorem c1_warmth {l : Launch} {kd : List KD} {w : Wp} {σ : St} (hkd : kd = kdC) (hi : zI kd w) {r : Int32} (hf : q1_warmth σ = some r) : zM l kd w yX1_warmth cX1_warmth 1 (some .int) rm1_warmth [.ref (w.2.2.1 27)] σ (some (.int r), σ) := zM_of rfl hi (Nat.le_of_ble_eq_true rfl) (fun Θ hl hw C => by
  obtain ⟨Θ1, Θ2, Θ3, Θ4, Θ5⟩ := Θ
  cases hw
  exact p1_warmth C hkd  hf rfl)
/-! LastLoaf.couples -/
theorem w_2_200 : Cond.fieldLink "LastLoaf" (91 : Nat) "LastLoaf" "friends" "LLastLoaf$Friends;" ∈ TB := tb_in (lwt_2 (List.mem_of_getElem? (i := 200) (by decide +kernel))) rfl
theorem fg11_91 {Θ : Tz} {cc : ByteArray} {nL kc ks : Nat} {ret : Option FieldType} {rm : Room} {Q : State → Prop} {σ : St} {pc : Nat} {lv : List (Nat × Value)} {st : List Value} (C : Zc Θ cc nL RX11 ret rm) (hkd : Θ.2.2.2.2.1 = kdC) (hd : decode cc pc = .ok (.getfield 91, 3)) (kk : Z Θ nL kc ks Q σ (pc + 3) lv (.ref (zA Θ 27) :: st)) : Z Θ nL kc ks Q σ pc lv (.ref (zA Θ 0) :: st) := z_get C inT11 0 (kC_0 hkd) rfl 13 (by decide) w_2_200 rfl hd kk
theorem w_4_40 : Cond.code ({ cls := "LastLoaf$Friends", name := "meet", desc := "(LLastLoaf$Village;)V" } : MethodName) prog_3_method_2_code (4 : Nat) (Option.none : Option ClassFile.FieldType) ∈ TB := tb_in (lwt_4 (List.mem_of_getElem? (i := 40) (by decide +kernel))) rfl
theorem w_4_37 : Cond.methodLink "LastLoaf" (361 : Nat) ({ cls := "LastLoaf$Friends", name := "meet", desc := "(LLastLoaf$Village;)V" } : MethodName) ∈ TB := tb_in (lwt_4 (List.mem_of_getElem? (i := 37) (by decide +kernel))) rfl
theorem w_4_38 : Cond.instanceMethod ({ cls := "LastLoaf$Friends", name := "meet", desc := "(LLastLoaf$Village;)V" } : MethodName) ∈ TB := tb_in (lwt_4 (List.mem_of_getElem? (i := 38) (by decide +kernel))) rfl
theorem w_4_39 : Cond.selects "LastLoaf$Friends" ({ cls := "LastLoaf$Friends", name := "meet", desc := "(LLastLoaf$Village;)V" } : MethodName) ({ cls := "LastLoaf$Friends", name := "meet", desc := "(LLastLoaf$Village;)V" } : MethodName) ∈ TB := tb_in (lwt_4 (List.mem_of_getElem? (i := 39) (by decide +kernel))) rfl
theorem cr11_361 {Θ : Tz} {cc : ByteArray} {nL kc ks : Nat} {ret : Option FieldType} {rm : Room} {Q : State → Prop} {σ : St} {pc : Nat} {lv : List (Nat × Value)} {st : List Value} (C : Zc Θ cc nL RX11 ret rm) (hkd : Θ.2.2.2.2.1 = kdC) {village_a : Nat} (h_village : isV village_a) {r : St} (hx : q1_meet σ village_a = some r) (hrm : rm1_meet.frames + 1 ≤ rm.frames ∧ 8 + (4 + 11) + rm1_meet.locals ≤ rm.locals) (hcat : (st.map fun v => v.category).sum ≤ 8) (hk : kc ≤ rm.cells ∧ ks ≤ rm.slots) (hd : decode cc pc = .ok (.invokevirtual 361, 3)) (kk : Z Θ nL kc ks Q r (pc + 3) lv st) : Z Θ nL kc ks Q σ pc lv (.ref (zA Θ village_a) :: .ref (zA Θ 27) :: st) := z_callV C 27 [.ref (zA Θ village_a)] (none, r) 1 (kC_27 hkd) rfl (c1_meet (village_a := village_a) hkd (zc_inj C) h_village hx) w_4_40 w_4_37 w_4_38 w_4_39 w_1_13 ⟨rfl, rfl, hrm.1, hrm.2⟩ (by decide +kernel) rfl rfl hcat hk hd kk
theorem w_7_145 : Cond.code ({ cls := "LastLoaf$Friends", name := "pairUp", desc := "()V" } : MethodName) prog_3_method_3_code (5 : Nat) (Option.none : Option ClassFile.FieldType) ∈ TB := tb_in (lwt_7 (List.mem_of_getElem? (i := 145) (by decide +kernel))) rfl
theorem w_7_142 : Cond.methodLink "LastLoaf" (364 : Nat) ({ cls := "LastLoaf$Friends", name := "pairUp", desc := "()V" } : MethodName) ∈ TB := tb_in (lwt_7 (List.mem_of_getElem? (i := 142) (by decide +kernel))) rfl
theorem w_7_143 : Cond.instanceMethod ({ cls := "LastLoaf$Friends", name := "pairUp", desc := "()V" } : MethodName) ∈ TB := tb_in (lwt_7 (List.mem_of_getElem? (i := 143) (by decide +kernel))) rfl
theorem w_7_144 : Cond.selects "LastLoaf$Friends" ({ cls := "LastLoaf$Friends", name := "pairUp", desc := "()V" } : MethodName) ({ cls := "LastLoaf$Friends", name := "pairUp", desc := "()V" } : MethodName) ∈ TB := tb_in (lwt_7 (List.mem_of_getElem? (i := 144) (by decide +kernel))) rfl
theorem cr11_364 {Θ : Tz} {cc : ByteArray} {nL kc ks : Nat} {ret : Option FieldType} {rm : Room} {Q : State → Prop} {σ : St} {pc : Nat} {lv : List (Nat × Value)} {st : List Value} (C : Zc Θ cc nL RX11 ret rm) (hkd : Θ.2.2.2.2.1 = kdC) {r : St} (hx : q1_pairUp σ = some r) (hrm : rm1_pairUp.frames + 1 ≤ rm.frames ∧ 8 + (5 + 11) + rm1_pairUp.locals ≤ rm.locals) (hcat : (st.map fun v => v.category).sum ≤ 8) (hk : kc ≤ rm.cells ∧ ks ≤ rm.slots) (hd : decode cc pc = .ok (.invokevirtual 364, 3)) (kk : Z Θ nL kc ks Q r (pc + 3) lv st) : Z Θ nL kc ks Q σ pc lv (.ref (zA Θ 27) :: st) := z_callV C 27 [] (none, r) 0 (kC_27 hkd) rfl (c1_pairUp hkd (zc_inj C) hx) w_7_145 w_7_142 w_7_143 w_7_144 w_1_13 ⟨rfl, rfl, hrm.1, hrm.2⟩ (by decide +kernel) rfl rfl hcat hk hd kk
theorem w_7_155 : Cond.code ({ cls := "LastLoaf$Friends", name := "warmth", desc := "()I" } : MethodName) prog_3_method_5_code (1 : Nat) (Option.some ClassFile.FieldType.int) ∈ TB := tb_in (lwt_7 (List.mem_of_getElem? (i := 155) (by decide +kernel))) rfl
theorem w_7_152 : Cond.methodLink "LastLoaf" (367 : Nat) ({ cls := "LastLoaf$Friends", name := "warmth", desc := "()I" } : MethodName) ∈ TB := tb_in (lwt_7 (List.mem_of_getElem? (i := 152) (by decide +kernel))) rfl
theorem w_7_153 : Cond.instanceMethod ({ cls := "LastLoaf$Friends", name := "warmth", desc := "()I" } : MethodName) ∈ TB := tb_in (lwt_7 (List.mem_of_getElem? (i := 153) (by decide +kernel))) rfl
theorem w_7_154 : Cond.selects "LastLoaf$Friends" ({ cls := "LastLoaf$Friends", name := "warmth", desc := "()I" } : MethodName) ({ cls := "LastLoaf$Friends", name := "warmth", desc := "()I" } : MethodName) ∈ TB := tb_in (lwt_7 (List.mem_of_getElem? (i := 154) (by decide +kernel))) rfl
theorem cr11_367 {Θ : Tz} {cc : ByteArray} {nL kc ks : Nat} {ret : Option FieldType} {rm : Room} {Q : State → Prop} {σ : St} {pc : Nat} {lv : List (Nat × Value)} {st : List Value} (C : Zc Θ cc nL RX11 ret rm) (hkd : Θ.2.2.2.2.1 = kdC) {r : Int32} (hx : q1_warmth σ = some r) (hrm : rm1_warmth.frames + 1 ≤ rm.frames ∧ 8 + (1 + 11) + rm1_warmth.locals ≤ rm.locals) (hcat : (st.map fun v => v.category).sum ≤ 8) (hk : kc ≤ rm.cells ∧ ks ≤ rm.slots) (hd : decode cc pc = .ok (.invokevirtual 367, 3)) (kk : Z Θ nL kc ks Q σ (pc + 3) lv (.int r :: st)) : Z Θ nL kc ks Q σ pc lv (.ref (zA Θ 27) :: st) := z_callV C 27 [] (some (.int r), σ) 0 (kC_27 hkd) rfl (c1_warmth hkd (zc_inj C) hx) w_7_155 w_7_152 w_7_153 w_7_154 w_1_13 ⟨rfl, rfl, hrm.1, hrm.2⟩ (by decide +kernel) rfl rfl hcat hk hd kk
theorem w_7_159 : Cond.code ({ cls := "LastLoaf$Friends", name := "partnerOf", desc := "(I)I" } : MethodName) prog_3_method_6_code (7 : Nat) (Option.some ClassFile.FieldType.int) ∈ TB := tb_in (lwt_7 (List.mem_of_getElem? (i := 159) (by decide +kernel))) rfl
theorem w_7_156 : Cond.methodLink "LastLoaf" (370 : Nat) ({ cls := "LastLoaf$Friends", name := "partnerOf", desc := "(I)I" } : MethodName) ∈ TB := tb_in (lwt_7 (List.mem_of_getElem? (i := 156) (by decide +kernel))) rfl
theorem w_7_157 : Cond.instanceMethod ({ cls := "LastLoaf$Friends", name := "partnerOf", desc := "(I)I" } : MethodName) ∈ TB := tb_in (lwt_7 (List.mem_of_getElem? (i := 157) (by decide +kernel))) rfl
theorem w_7_158 : Cond.selects "LastLoaf$Friends" ({ cls := "LastLoaf$Friends", name := "partnerOf", desc := "(I)I" } : MethodName) ({ cls := "LastLoaf$Friends", name := "partnerOf", desc := "(I)I" } : MethodName) ∈ TB := tb_in (lwt_7 (List.mem_of_getElem? (i := 158) (by decide +kernel))) rfl
theorem cr11_370 {Θ : Tz} {cc : ByteArray} {nL kc ks : Nat} {ret : Option FieldType} {rm : Room} {Q : State → Prop} {σ : St} {pc : Nat} {lv : List (Nat × Value)} {st : List Value} (C : Zc Θ cc nL RX11 ret rm) (hkd : Θ.2.2.2.2.1 = kdC) {person_a : Int32} {r : Int32} (hx : q1_partnerOf σ person_a = some r) (hrm : rm1_partnerOf.frames + 1 ≤ rm.frames ∧ 8 + (7 + 11) + rm1_partnerOf.locals ≤ rm.locals) (hcat : (st.map fun v => v.category).sum ≤ 8) (hk : kc ≤ rm.cells ∧ ks ≤ rm.slots) (hd : decode cc pc = .ok (.invokevirtual 370, 3)) (kk : Z Θ nL kc ks Q σ (pc + 3) lv (.int r :: st)) : Z Θ nL kc ks Q σ pc lv (.int person_a :: .ref (zA Θ 27) :: st) := z_callV C 27 [.int person_a] (some (.int r), σ) 1 (kC_27 hkd) rfl (c1_partnerOf (person_a := person_a) hkd (zc_inj C) hx) w_7_159 w_7_156 w_7_157 w_7_158 w_1_13 ⟨rfl, rfl, hrm.1, hrm.2⟩ (by decide +kernel) rfl rfl hcat hk hd kk
theorem dX11_couples_0 : decode cX11_couples 0 = .ok (.iload_n 1, 1) := by decide +kernel
theorem dX11_couples_1 : decode cX11_couples 1 = .ok (.iconst (-1), 1) := by decide +kernel
theorem dX11_couples_2 : decode cX11_couples 2 = .ok (.if_icmp .eq 8, 3) := by decide +kernel
theorem dX11_couples_5 : decode cX11_couples 5 = .ok (.aload_n 0, 1) := by decide +kernel
theorem dX11_couples_6 : decode cX11_couples 6 = .ok (.iload_n 1, 1) := by decide +kernel
theorem dX11_couples_7 : decode cX11_couples 7 = .ok (.invokevirtual 151, 3) := by decide +kernel
theorem dX11_couples_10 : decode cX11_couples 10 = .ok (.aload_n 0, 1) := by decide +kernel
theorem dX11_couples_11 : decode cX11_couples 11 = .ok (.getfield 91, 3) := by decide +kernel
theorem dX11_couples_14 : decode cX11_couples 14 = .ok (.aload_n 0, 1) := by decide +kernel
theorem dX11_couples_15 : decode cX11_couples 15 = .ok (.getfield 19, 3) := by decide +kernel
theorem dX11_couples_18 : decode cX11_couples 18 = .ok (.invokevirtual 361, 3) := by decide +kernel
theorem dX11_couples_21 : decode cX11_couples 21 = .ok (.aload_n 0, 1) := by decide +kernel
theorem dX11_couples_22 : decode cX11_couples 22 = .ok (.getfield 91, 3) := by decide +kernel
theorem dX11_couples_25 : decode cX11_couples 25 = .ok (.invokevirtual 364, 3) := by decide +kernel
theorem dX11_couples_28 : decode cX11_couples 28 = .ok (.iload_n 1, 1) := by decide +kernel
theorem dX11_couples_29 : decode cX11_couples 29 = .ok (.iconst (-1), 1) := by decide +kernel
theorem dX11_couples_30 : decode cX11_couples 30 = .ok (.if_icmp .ne 13, 3) := by decide +kernel
theorem dX11_couples_33 : decode cX11_couples 33 = .ok (.aload_n 0, 1) := by decide +kernel
theorem dX11_couples_34 : decode cX11_couples 34 = .ok (.getfield 91, 3) := by decide +kernel
theorem dX11_couples_37 : decode cX11_couples 37 = .ok (.invokevirtual 367, 3) := by decide +kernel
theorem dX11_couples_40 : decode cX11_couples 40 = .ok (.goto 11, 3) := by decide +kernel
theorem dX11_couples_43 : decode cX11_couples 43 = .ok (.aload_n 0, 1) := by decide +kernel
theorem dX11_couples_44 : decode cX11_couples 44 = .ok (.getfield 91, 3) := by decide +kernel
theorem dX11_couples_47 : decode cX11_couples 47 = .ok (.iload_n 1, 1) := by decide +kernel
theorem dX11_couples_48 : decode cX11_couples 48 = .ok (.invokevirtual 370, 3) := by decide +kernel
theorem dX11_couples_51 : decode cX11_couples 51 = .ok (.ireturn, 1) := by decide +kernel
def q11_couples (σ : St) (person_a : Int32) : Option (Sum Nat Int32 × St) :=
  thn (if ¬ person_a = (-1) then q11_needPerson σ person_a else none) σ
  (Option.bind (q1_meet σ 44) fun x12_ =>
  Option.bind (q1_pairUp x12_) fun x14_ =>
  Option.bind (if person_a = (-1) then (Option.bind (q1_warmth x14_) fun x22_ =>
  some x22_) else (Option.bind (q1_partnerOf x14_ person_a) fun x24_ =>
  some x24_)) fun x16_ =>
  some (.inr x16_, x14_))
abbrev rm11_couples : Room := { frames := 7, cells := 1, slots := 6, locals := 111 }
set_option maxHeartbeats 4000000 in
set_option maxRecDepth 100000 in
theorem p11_couples {Θ : Tz} {σ : St} {ω : Om} (C : Zc Θ cX11_couples 2 RX11 (some .int) rm11_couples) (hkd : Θ.2.2.2.2.1 = kdC) (hlt : Θ.1.2.1.stackTraces = false) (het : ∀ x ∈ Θ.2.2.1.2.exceptionTable.toList, False) {person_a : Int32} {r : (Sum Nat Int32 × St)} (hf : q11_couples σ person_a = some r) (hω : ω = om (fun v => some (.int v)) r) : Z Θ 2 0 0 (zQX Θ ω 1 6) σ 0 [(0, .ref (zA Θ 0)), (1, .int person_a)] [] := by
  unfold q11_couples at hf
  suffices K4_ : (if ¬ person_a = (-1) then q11_needPerson σ person_a else none) = none → Z Θ 2 1 6 (zQX Θ ω 1 6) σ 10 [(0, .ref (zA Θ 0)), (1, .int person_a)] [] by
    have K5_ : ¬ person_a = (-1) → Z Θ 2 0 0 (zQX Θ ω 1 6) σ 5 [(0, .ref (zA Θ 0)), (1, .int person_a)] [] := by
      intro h8_
      refine z_aload_n C 0 dX11_couples_5 rfl rfl ?_
      refine z_iload_n C 1 dX11_couples_6 rfl rfl ?_
      exact zx_callV C het 0 [.int person_a] (q11_needPerson σ person_a) 1 6 1 (kC_0 hkd) rfl (c11_needPerson (person_a := person_a) hkd (zc_inj C) hlt) w_5_227 w_5_224 w_5_226 ws_LastLoaf_needPerson_I_V w_1_1 ⟨rfl, rfl, (Nat.le_of_ble_eq_true rfl), (Nat.le_of_ble_eq_true rfl)⟩ (by decide +kernel) rfl rfl (Nat.le_of_ble_eq_true rfl) ⟨(Nat.le_of_ble_eq_true rfl), (Nat.le_of_ble_eq_true rfl)⟩ dX11_couples_7 ⟨(Nat.le_of_ble_eq_true rfl), (Nat.le_of_ble_eq_true rfl)⟩ (fun e9 h11_ => by rw [if_pos h8_, h11_] at hf; cases hf; exact hω) (fun h10_ => K4_ (by rw [if_pos h8_]; exact h10_))
    have K6_ : ¬ (¬ person_a = (-1)) → Z Θ 2 0 0 (zQX Θ ω 1 6) σ 10 [(0, .ref (zA Θ 0)), (1, .int person_a)] [] := by
      intro h8_
      exact Z.wid (Nat.le_of_ble_eq_true rfl) (Nat.le_of_ble_eq_true rfl) (K4_ (if_neg h8_))
    refine z_iload_n C 1 dX11_couples_0 rfl rfl ?_
    refine z_iconst (v := (-1)) C dX11_couples_1 ic_m1 ?_
    refine c_ne_f C 10 dX11_couples_2 (by decide) (fun h7_ => ?_) (fun h7_ => ?_)
    · exact K5_ h7_
    · exact K6_ h7_
  intro h9_
  rw [h9_] at hf
  replace hf := thn_x hf
  refine z_aload_n C 0 dX11_couples_10 rfl rfl ?_
  refine fg11_91 C hkd dX11_couples_11 ?_
  refine z_aload_n C 0 dX11_couples_14 rfl rfl ?_
  refine fg11_19 C hkd dX11_couples_15 ?_
  obtain ⟨x12_, h13_, hf⟩ := ob hf
  refine cr11_361 (village_a := 44) C hkd isV_44 h13_ ⟨(Nat.le_of_ble_eq_true rfl), (Nat.le_of_ble_eq_true rfl)⟩ (Nat.le_of_ble_eq_true rfl) ⟨(Nat.le_of_ble_eq_true rfl), (Nat.le_of_ble_eq_true rfl)⟩ dX11_couples_18 ?_
  refine z_aload_n C 0 dX11_couples_21 rfl rfl ?_
  refine fg11_91 C hkd dX11_couples_22 ?_
  obtain ⟨x14_, h15_, hf⟩ := ob hf
  refine cr11_364 C hkd  h15_ ⟨(Nat.le_of_ble_eq_true rfl), (Nat.le_of_ble_eq_true rfl)⟩ (Nat.le_of_ble_eq_true rfl) ⟨(Nat.le_of_ble_eq_true rfl), (Nat.le_of_ble_eq_true rfl)⟩ dX11_couples_25 ?_
  obtain ⟨x16_, h17_, hf⟩ := ob hf
  suffices K18_ : Z Θ 2 1 6 (zQX Θ ω 1 6) x14_ 51 [(0, .ref (zA Θ 0)), (1, .int person_a)] [.int x16_] by
    have K19_ : person_a = (-1) → Z Θ 2 1 6 (zQX Θ ω 1 6) x14_ 33 [(0, .ref (zA Θ 0)), (1, .int person_a)] [] := by
      intro h26_
      rw [if_pos h26_] at h17_
      refine z_aload_n C 0 dX11_couples_33 rfl rfl ?_
      refine fg11_91 C hkd dX11_couples_34 ?_
      obtain ⟨x22_, h23_, h17_⟩ := ob h17_
      refine cr11_367 C hkd  h23_ ⟨(Nat.le_of_ble_eq_true rfl), (Nat.le_of_ble_eq_true rfl)⟩ (Nat.le_of_ble_eq_true rfl) ⟨(Nat.le_of_ble_eq_true rfl), (Nat.le_of_ble_eq_true rfl)⟩ dX11_couples_37 ?_
      refine z_goto C 51 dX11_couples_40 (by decide) ?_
      cases h17_
      exact K18_
    have K20_ : ¬ (person_a = (-1)) → Z Θ 2 1 6 (zQX Θ ω 1 6) x14_ 43 [(0, .ref (zA Θ 0)), (1, .int person_a)] [] := by
      intro h26_
      rw [if_neg h26_] at h17_
      refine z_aload_n C 0 dX11_couples_43 rfl rfl ?_
      refine fg11_91 C hkd dX11_couples_44 ?_
      refine z_iload_n C 1 dX11_couples_47 rfl rfl ?_
      obtain ⟨x24_, h25_, h17_⟩ := ob h17_
      refine cr11_370 (person_a := person_a) C hkd  h25_ ⟨(Nat.le_of_ble_eq_true rfl), (Nat.le_of_ble_eq_true rfl)⟩ (Nat.le_of_ble_eq_true rfl) ⟨(Nat.le_of_ble_eq_true rfl), (Nat.le_of_ble_eq_true rfl)⟩ dX11_couples_48 ?_
      cases h17_
      exact K18_
    refine z_iload_n C 1 dX11_couples_28 rfl rfl ?_
    refine z_iconst (v := (-1)) C dX11_couples_29 ic_m1 ?_
    refine c_eq_f C 43 dX11_couples_30 (by decide) (fun h21_ => ?_) (fun h21_ => ?_)
    · exact K19_ h21_
    · exact K20_ h21_
  cases hf
  subst hω
  exact zx_iret C ⟨(Nat.le_of_ble_eq_true rfl), (Nat.le_of_ble_eq_true rfl)⟩ dX11_couples_51
theorem c11_couples {l : Launch} {kd : List KD} {w : Wp} {σ : St} {person_a : Int32} (hkd : kd = kdC) (hi : zI kd w) (hlt : l.stackTraces = false) {r : (Sum Nat Int32 × St)} (hf : q11_couples σ person_a = some r) : zX l kd w yX11_couples cX11_couples 2 (some .int) rm11_couples [.ref (w.2.2.1 0), .int person_a] σ (om (fun v => some (.int v)) r) 1 6 := zX_of rfl hi (Nat.le_of_ble_eq_true rfl) (fun Θ hl hw C het => by
  obtain ⟨Θ1, Θ2, Θ3, Θ4, Θ5⟩ := Θ
  cases hw
  cases hl
  exact p11_couples C hkd hlt het  hf rfl)
/-! LastLoaf$Friends.acrossTo -/
theorem dX1_acrossTo_0 : decode cX1_acrossTo 0 = .ok (.iconst 0, 1) := by decide +kernel
theorem dX1_acrossTo_1 : decode cX1_acrossTo 1 = .ok (.istore_n 2, 1) := by decide +kernel
theorem dX1_acrossTo_2 : decode cX1_acrossTo 2 = .ok (.iconst 0, 1) := by decide +kernel
theorem dX1_acrossTo_3 : decode cX1_acrossTo 3 = .ok (.istore_n 3, 1) := by decide +kernel
theorem dX1_acrossTo_4 : decode cX1_acrossTo 4 = .ok (.iload_n 3, 1) := by decide +kernel
theorem dX1_acrossTo_5 : decode cX1_acrossTo 5 = .ok (.aload_n 0, 1) := by decide +kernel
theorem dX1_acrossTo_6 : decode cX1_acrossTo 6 = .ok (.getfield 21, 3) := by decide +kernel
theorem dX1_acrossTo_9 : decode cX1_acrossTo 9 = .ok (.if_icmp .ge 59, 3) := by decide +kernel
theorem dX1_acrossTo_12 : decode cX1_acrossTo 12 = .ok (.iconst 0, 1) := by decide +kernel
theorem dX1_acrossTo_13 : decode cX1_acrossTo 13 = .ok (.istore 4, 2) := by decide +kernel
theorem dX1_acrossTo_15 : decode cX1_acrossTo 15 = .ok (.iload 4, 2) := by decide +kernel
theorem dX1_acrossTo_17 : decode cX1_acrossTo 17 = .ok (.aload_n 0, 1) := by decide +kernel
theorem dX1_acrossTo_18 : decode cX1_acrossTo 18 = .ok (.getfield 21, 3) := by decide +kernel
theorem dX1_acrossTo_21 : decode cX1_acrossTo 21 = .ok (.if_icmp .ge 41, 3) := by decide +kernel
theorem dX1_acrossTo_24 : decode cX1_acrossTo 24 = .ok (.iload_n 1, 1) := by decide +kernel
theorem dX1_acrossTo_25 : decode cX1_acrossTo 25 = .ok (.iload_n 3, 1) := by decide +kernel
theorem dX1_acrossTo_26 : decode cX1_acrossTo 26 = .ok (.invokestatic 45, 3) := by decide +kernel
theorem dX1_acrossTo_29 : decode cX1_acrossTo 29 = .ok (.ifCond .eq 27, 3) := by decide +kernel
theorem dX1_acrossTo_32 : decode cX1_acrossTo 32 = .ok (.iload_n 1, 1) := by decide +kernel
theorem dX1_acrossTo_33 : decode cX1_acrossTo 33 = .ok (.iload 4, 2) := by decide +kernel
theorem dX1_acrossTo_35 : decode cX1_acrossTo 35 = .ok (.invokestatic 45, 3) := by decide +kernel
theorem dX1_acrossTo_38 : decode cX1_acrossTo 38 = .ok (.ifCond .ne 18, 3) := by decide +kernel
theorem dX1_acrossTo_41 : decode cX1_acrossTo 41 = .ok (.iload_n 2, 1) := by decide +kernel
theorem dX1_acrossTo_42 : decode cX1_acrossTo 42 = .ok (.aload_n 0, 1) := by decide +kernel
theorem dX1_acrossTo_43 : decode cX1_acrossTo 43 = .ok (.getfield 9, 3) := by decide +kernel
theorem dX1_acrossTo_46 : decode cX1_acrossTo 46 = .ok (.iload_n 3, 1) := by decide +kernel
theorem dX1_acrossTo_47 : decode cX1_acrossTo 47 = .ok (.bipush 6, 2) := by decide +kernel
theorem dX1_acrossTo_49 : decode cX1_acrossTo 49 = .ok (.imul, 1) := by decide +kernel
theorem dX1_acrossTo_50 : decode cX1_acrossTo 50 = .ok (.iload 4, 2) := by decide +kernel
theorem dX1_acrossTo_52 : decode cX1_acrossTo 52 = .ok (.iadd, 1) := by decide +kernel
theorem dX1_acrossTo_53 : decode cX1_acrossTo 53 = .ok (.iaload, 1) := by decide +kernel
theorem dX1_acrossTo_54 : decode cX1_acrossTo 54 = .ok (.iadd, 1) := by decide +kernel
theorem dX1_acrossTo_55 : decode cX1_acrossTo 55 = .ok (.istore_n 2, 1) := by decide +kernel
theorem dX1_acrossTo_56 : decode cX1_acrossTo 56 = .ok (.iinc 4 1, 3) := by decide +kernel
theorem dX1_acrossTo_59 : decode cX1_acrossTo 59 = .ok (.goto (-44), 3) := by decide +kernel
theorem dX1_acrossTo_62 : decode cX1_acrossTo 62 = .ok (.iinc 3 1, 3) := by decide +kernel
theorem dX1_acrossTo_65 : decode cX1_acrossTo 65 = .ok (.goto (-61), 3) := by decide +kernel
theorem dX1_acrossTo_68 : decode cX1_acrossTo 68 = .ok (.iload_n 2, 1) := by decide +kernel
theorem dX1_acrossTo_69 : decode cX1_acrossTo 69 = .ok (.ireturn, 1) := by decide +kernel
def q1_acrossTo (σ : St) (camp_a : Int32) : Option Int32 :=
  Option.bind (loop2 (fun rec4_ (sum7_ : Int32) (p8_ : Int32) =>
  if p8_ < (σ 27 3) then
  Option.bind (loop2 (fun rec18_ (sum21_ : Int32) (q22_ : Int32) =>
  if q22_ < (σ 27 3) then
  Option.bind (if (q11_isIn camp_a p8_ = true) ∧ (¬ (q11_isIn camp_a q22_ = true)) then (Option.bind (ag σ 28 36 ((p8_ * 6) + q22_)) fun x37_ =>
  lt (sum21_ + x37_) fun sum39_ =>
  some (sum39_)) else (some (sum21_))) fun y29_ =>
  lt (q22_ + 1) fun q41_ =>
  rec18_ y29_ q41_
  else (some (sum21_, q22_))) fuelN sum7_ (0 : Int32)) fun y15_ =>
  lt (p8_ + 1) fun p43_ =>
  rec4_ y15_.1 p43_
  else (some (sum7_, p8_))) fuelN (0 : Int32) (0 : Int32)) fun y1_ =>
  some y1_.1
abbrev rm1_acrossTo : Room := { frames := 1, cells := 0, slots := 0, locals := 21 }
set_option maxHeartbeats 4000000 in
set_option maxRecDepth 100000 in
theorem p1_acrossTo {Θ : Tz} {σ : St} {ρ : Option Value × St} (C : Zc Θ cX1_acrossTo 5 RX1 (some .int) rm1_acrossTo) (hkd : Θ.2.2.2.2.1 = kdC) {camp_a : Int32} {r : Int32} (hf : q1_acrossTo σ camp_a = some r) (hρ : ρ = (some (.int r), σ)) : Z Θ 5 0 0 (zQ Θ ρ) σ 0 [(0, .ref (zA Θ 27)), (1, .int camp_a)] [] := by
  unfold q1_acrossTo at hf
  refine z_iconst (v := 0) C dX1_acrossTo_0 ic_0 ?_
  refine z_istN C dX1_acrossTo_1 rfl rfl (Nat.le_of_ble_eq_true rfl) rfl ?_
  refine z_iconst (v := 0) C dX1_acrossTo_2 ic_0 ?_
  refine z_istN C dX1_acrossTo_3 rfl rfl (Nat.le_of_ble_eq_true rfl) rfl ?_
  refine Z.sub [2, 3, 1, 0] rfl ?_
  obtain ⟨y1_, h2_, hf⟩ := ob hf
  suffices K3_ : Z Θ 5 0 0 (zQ Θ ρ) σ 68 [(0, .ref (zA Θ 27)), (1, .int camp_a), (2, .int y1_.1), (3, .int y1_.2)] [] by
    refine loop2_Z (P := fun (sum7_ : Int32) (p8_ : Int32) => Z Θ 5 0 0 (zQ Θ ρ) σ 4 [(0, .ref (zA Θ 27)), (1, .int camp_a), (2, .int sum7_), (3, .int p8_)] []) ?_ fuelN (0 : Int32) (0 : Int32) h2_
    clear h2_
    intro rec4_ sum7_ p8_ h5_ h6_
    have K11_ : p8_ < (σ 27 3) → Z Θ 5 0 0 (zQ Θ ρ) σ 12 [(0, .ref (zA Θ 27)), (1, .int camp_a), (2, .int sum7_), (3, .int p8_)] [] := by
      intro h14_
      rw [if_pos h14_] at h6_
      refine z_iconst (v := 0) C dX1_acrossTo_12 ic_0 ?_
      refine z_ist C dX1_acrossTo_13 rfl (Nat.le_of_ble_eq_true rfl) rfl ?_
      refine Z.sub [1, 2, 3, 4, 0] rfl ?_
      obtain ⟨y15_, h16_, h6_⟩ := ob h6_
      suffices K17_ : Z Θ 5 0 0 (zQ Θ ρ) σ 62 [(0, .ref (zA Θ 27)), (1, .int camp_a), (2, .int y15_.1), (3, .int p8_), (4, .int y15_.2)] [] by
        refine loop2_Z (P := fun (sum21_ : Int32) (q22_ : Int32) => Z Θ 5 0 0 (zQ Θ ρ) σ 15 [(0, .ref (zA Θ 27)), (1, .int camp_a), (2, .int sum21_), (3, .int p8_), (4, .int q22_)] []) ?_ fuelN sum7_ (0 : Int32) h16_
        clear h16_
        intro rec18_ sum21_ q22_ h19_ h20_
        have K25_ : q22_ < (σ 27 3) → Z Θ 5 0 0 (zQ Θ ρ) σ 24 [(0, .ref (zA Θ 27)), (1, .int camp_a), (2, .int sum21_), (3, .int p8_), (4, .int q22_)] [] := by
          intro h28_
          rw [if_pos h28_] at h20_
          obtain ⟨y29_, h30_, h20_⟩ := ob h20_
          suffices K31_ : Z Θ 5 0 0 (zQ Θ ρ) σ 56 [(0, .ref (zA Θ 27)), (1, .int camp_a), (2, .int y29_), (3, .int p8_), (4, .int q22_)] [] by
            have K32_ : (q11_isIn camp_a p8_ = true) ∧ (¬ (q11_isIn camp_a q22_ = true)) → Z Θ 5 0 0 (zQ Θ ρ) σ 41 [(0, .ref (zA Θ 27)), (1, .int camp_a), (2, .int sum21_), (3, .int p8_), (4, .int q22_)] [] := by
              intro h36_
              rw [if_pos h36_] at h30_
              refine z_iload_n C 2 dX1_acrossTo_41 rfl rfl ?_
              refine z_aload_n C 0 dX1_acrossTo_42 rfl rfl ?_
              refine fg1_9 C hkd dX1_acrossTo_43 ?_
              refine z_iload_n C 3 dX1_acrossTo_46 rfl rfl ?_
              refine z_bipush (v := 6) C dX1_acrossTo_47 bp_6 ?_
              refine z_imul C dX1_acrossTo_49 ?_
              refine z_iload C 4 dX1_acrossTo_50 rfl ?_
              refine z_iadd C dX1_acrossTo_52 ?_
              obtain ⟨x37_, h38_, h30_⟩ := ob h30_
              refine z_ag C h38_ (kC_28 hkd) dX1_acrossTo_53 ?_
              refine z_iadd C dX1_acrossTo_54 ?_
              obtain ⟨sum39_, h40_, h30_⟩ := lt_ h30_
              refine z_istN C dX1_acrossTo_55 h40_ rfl (Nat.le_of_ble_eq_true rfl) rfl ?_
              cases h30_
              refine Z.sub [1, 2, 0, 3, 4] rfl ?_
              exact K31_
            have K33_ : ¬ ((q11_isIn camp_a p8_ = true) ∧ (¬ (q11_isIn camp_a q22_ = true))) → Z Θ 5 0 0 (zQ Θ ρ) σ 56 [(0, .ref (zA Θ 27)), (1, .int camp_a), (2, .int sum21_), (3, .int p8_), (4, .int q22_)] [] := by
              intro h36_
              rw [if_neg h36_] at h30_
              cases h30_
              exact K31_
            refine z_iload_n C 1 dX1_acrossTo_24 rfl rfl ?_
            refine z_iload_n C 3 dX1_acrossTo_25 rfl rfl ?_
            refine cr1_45 (set_a := camp_a) (person_a := p8_) C hkd  ⟨(Nat.le_of_ble_eq_true rfl), (Nat.le_of_ble_eq_true rfl)⟩ (Nat.le_of_ble_eq_true rfl) ⟨Nat.zero_le _, Nat.zero_le _⟩ dX1_acrossTo_26 ?_
            refine cb_f C 56 dX1_acrossTo_29 (by decide) (fun h34_ => ?_) (fun h34_ => ?_)
            · refine z_iload_n C 1 dX1_acrossTo_32 rfl rfl ?_
              refine z_iload C 4 dX1_acrossTo_33 rfl ?_
              refine cr1_45 (set_a := camp_a) (person_a := q22_) C hkd  ⟨(Nat.le_of_ble_eq_true rfl), (Nat.le_of_ble_eq_true rfl)⟩ (Nat.le_of_ble_eq_true rfl) ⟨Nat.zero_le _, Nat.zero_le _⟩ dX1_acrossTo_35 ?_
              refine cb_t C 56 dX1_acrossTo_38 (by decide) (fun h35_ => ?_) (fun h35_ => ?_)
              · exact K33_ (fun n => (fun n => n h35_) n.2)
              · exact K32_ ⟨h34_, h35_⟩
            · exact K33_ (fun n => h34_ n.1)
          obtain ⟨q41_, h42_, h20_⟩ := lt_ h20_
          refine z_inc C 4 dX1_acrossTo_56 rfl ic_1 h42_ (Nat.le_of_ble_eq_true rfl) rfl ?_
          refine z_goto C 15 dX1_acrossTo_59 (by decide) ?_
          refine Z.sub [1, 2, 3, 4, 0] rfl ?_
          exact h19_ _ _ h20_
        have K26_ : ¬ (q22_ < (σ 27 3)) → Z Θ 5 0 0 (zQ Θ ρ) σ 62 [(0, .ref (zA Θ 27)), (1, .int camp_a), (2, .int sum21_), (3, .int p8_), (4, .int q22_)] [] := by
          intro h28_
          rw [if_neg h28_] at h20_
          cases h20_
          exact K17_
        refine z_iload C 4 dX1_acrossTo_15 rfl ?_
        refine z_aload_n C 0 dX1_acrossTo_17 rfl rfl ?_
        refine fg1_21 C hkd dX1_acrossTo_18 ?_
        refine c_lt_f C 62 dX1_acrossTo_21 (by decide) (fun h27_ => ?_) (fun h27_ => ?_)
        · exact K25_ h27_
        · exact K26_ h27_
      obtain ⟨p43_, h44_, h6_⟩ := lt_ h6_
      refine z_inc C 3 dX1_acrossTo_62 rfl ic_1 h44_ (Nat.le_of_ble_eq_true rfl) rfl ?_
      refine z_goto C 4 dX1_acrossTo_65 (by decide) ?_
      refine Z.sub [1, 2, 3, 0] rfl ?_
      exact h5_ _ _ h6_
    have K12_ : ¬ (p8_ < (σ 27 3)) → Z Θ 5 0 0 (zQ Θ ρ) σ 68 [(0, .ref (zA Θ 27)), (1, .int camp_a), (2, .int sum7_), (3, .int p8_)] [] := by
      intro h14_
      rw [if_neg h14_] at h6_
      cases h6_
      exact K3_
    refine z_iload_n C 3 dX1_acrossTo_4 rfl rfl ?_
    refine z_aload_n C 0 dX1_acrossTo_5 rfl rfl ?_
    refine fg1_21 C hkd dX1_acrossTo_6 ?_
    refine c_lt_f C 68 dX1_acrossTo_9 (by decide) (fun h13_ => ?_) (fun h13_ => ?_)
    · exact K11_ h13_
    · exact K12_ h13_
  refine z_iload_n C 2 dX1_acrossTo_68 rfl rfl ?_
  cases hf
  subst hρ
  exact z_iret C dX1_acrossTo_69
theorem c1_acrossTo {l : Launch} {kd : List KD} {w : Wp} {σ : St} {camp_a : Int32} (hkd : kd = kdC) (hi : zI kd w) {r : Int32} (hf : q1_acrossTo σ camp_a = some r) : zM l kd w yX1_acrossTo cX1_acrossTo 5 (some .int) rm1_acrossTo [.ref (w.2.2.1 27), .int camp_a] σ (some (.int r), σ) := zM_of rfl hi (Nat.le_of_ble_eq_true rfl) (fun Θ hl hw C => by
  obtain ⟨Θ1, Θ2, Θ3, Θ4, Θ5⟩ := Θ
  cases hw
  exact p1_acrossTo C hkd  hf rfl)
/-! LastLoaf$Friends.secondCamp -/
theorem w_4_50 : Cond.code ({ cls := "LastLoaf$Friends", name := "acrossTo", desc := "(I)I" } : MethodName) prog_3_method_9_code (5 : Nat) (Option.some ClassFile.FieldType.int) ∈ TB := tb_in (lwt_4 (List.mem_of_getElem? (i := 50) (by decide +kernel))) rfl
theorem w_4_47 : Cond.methodLink "LastLoaf$Friends" (61 : Nat) ({ cls := "LastLoaf$Friends", name := "acrossTo", desc := "(I)I" } : MethodName) ∈ TB := tb_in (lwt_4 (List.mem_of_getElem? (i := 47) (by decide +kernel))) rfl
theorem w_4_48 : Cond.instanceMethod ({ cls := "LastLoaf$Friends", name := "acrossTo", desc := "(I)I" } : MethodName) ∈ TB := tb_in (lwt_4 (List.mem_of_getElem? (i := 48) (by decide +kernel))) rfl
theorem w_4_49 : Cond.selects "LastLoaf$Friends" ({ cls := "LastLoaf$Friends", name := "acrossTo", desc := "(I)I" } : MethodName) ({ cls := "LastLoaf$Friends", name := "acrossTo", desc := "(I)I" } : MethodName) ∈ TB := tb_in (lwt_4 (List.mem_of_getElem? (i := 49) (by decide +kernel))) rfl
theorem cr1_61 {Θ : Tz} {cc : ByteArray} {nL kc ks : Nat} {ret : Option FieldType} {rm : Room} {Q : State → Prop} {σ : St} {pc : Nat} {lv : List (Nat × Value)} {st : List Value} (C : Zc Θ cc nL RX1 ret rm) (hkd : Θ.2.2.2.2.1 = kdC) {camp_a : Int32} {r : Int32} (hx : q1_acrossTo σ camp_a = some r) (hrm : rm1_acrossTo.frames + 1 ≤ rm.frames ∧ 8 + (5 + 11) + rm1_acrossTo.locals ≤ rm.locals) (hcat : (st.map fun v => v.category).sum ≤ 8) (hk : kc ≤ rm.cells ∧ ks ≤ rm.slots) (hd : decode cc pc = .ok (.invokevirtual 61, 3)) (kk : Z Θ nL kc ks Q σ (pc + 3) lv (.int r :: st)) : Z Θ nL kc ks Q σ pc lv (.int camp_a :: .ref (zA Θ 27) :: st) := z_callV C 27 [.int camp_a] (some (.int r), σ) 1 (kC_27 hkd) rfl (c1_acrossTo (camp_a := camp_a) hkd (zc_inj C) hx) w_4_50 w_4_47 w_4_48 w_4_49 w_1_13 ⟨rfl, rfl, hrm.1, hrm.2⟩ (by decide +kernel) rfl rfl hcat hk hd kk
theorem dX1_secondCamp_0 : decode cX1_secondCamp 0 = .ok (.iconst (-1), 1) := by decide +kernel
theorem dX1_secondCamp_1 : decode cX1_secondCamp 1 = .ok (.istore_n 1, 1) := by decide +kernel
theorem dX1_secondCamp_2 : decode cX1_secondCamp 2 = .ok (.iconst 0, 1) := by decide +kernel
theorem dX1_secondCamp_3 : decode cX1_secondCamp 3 = .ok (.istore_n 2, 1) := by decide +kernel
theorem dX1_secondCamp_4 : decode cX1_secondCamp 4 = .ok (.iconst 2, 1) := by decide +kernel
theorem dX1_secondCamp_5 : decode cX1_secondCamp 5 = .ok (.istore_n 3, 1) := by decide +kernel
theorem dX1_secondCamp_6 : decode cX1_secondCamp 6 = .ok (.iload_n 3, 1) := by decide +kernel
theorem dX1_secondCamp_7 : decode cX1_secondCamp 7 = .ok (.aload_n 0, 1) := by decide +kernel
theorem dX1_secondCamp_8 : decode cX1_secondCamp 8 = .ok (.getfield 25, 3) := by decide +kernel
theorem dX1_secondCamp_11 : decode cX1_secondCamp 11 = .ok (.if_icmp .gt 32, 3) := by decide +kernel
theorem dX1_secondCamp_14 : decode cX1_secondCamp 14 = .ok (.aload_n 0, 1) := by decide +kernel
theorem dX1_secondCamp_15 : decode cX1_secondCamp 15 = .ok (.iload_n 3, 1) := by decide +kernel
theorem dX1_secondCamp_16 : decode cX1_secondCamp 16 = .ok (.invokevirtual 61, 3) := by decide +kernel
theorem dX1_secondCamp_19 : decode cX1_secondCamp 19 = .ok (.istore 4, 2) := by decide +kernel
theorem dX1_secondCamp_21 : decode cX1_secondCamp 21 = .ok (.iload_n 1, 1) := by decide +kernel
theorem dX1_secondCamp_22 : decode cX1_secondCamp 22 = .ok (.iconst (-1), 1) := by decide +kernel
theorem dX1_secondCamp_23 : decode cX1_secondCamp 23 = .ok (.if_icmp .eq 9, 3) := by decide +kernel
theorem dX1_secondCamp_26 : decode cX1_secondCamp 26 = .ok (.iload 4, 2) := by decide +kernel
theorem dX1_secondCamp_28 : decode cX1_secondCamp 28 = .ok (.iload_n 2, 1) := by decide +kernel
theorem dX1_secondCamp_29 : decode cX1_secondCamp 29 = .ok (.if_icmp .ge 8, 3) := by decide +kernel
theorem dX1_secondCamp_32 : decode cX1_secondCamp 32 = .ok (.iload_n 3, 1) := by decide +kernel
theorem dX1_secondCamp_33 : decode cX1_secondCamp 33 = .ok (.istore_n 1, 1) := by decide +kernel
theorem dX1_secondCamp_34 : decode cX1_secondCamp 34 = .ok (.iload 4, 2) := by decide +kernel
theorem dX1_secondCamp_36 : decode cX1_secondCamp 36 = .ok (.istore_n 2, 1) := by decide +kernel
theorem dX1_secondCamp_37 : decode cX1_secondCamp 37 = .ok (.iinc 3 2, 3) := by decide +kernel
theorem dX1_secondCamp_40 : decode cX1_secondCamp 40 = .ok (.goto (-34), 3) := by decide +kernel
theorem dX1_secondCamp_43 : decode cX1_secondCamp 43 = .ok (.iload_n 1, 1) := by decide +kernel
theorem dX1_secondCamp_44 : decode cX1_secondCamp 44 = .ok (.ireturn, 1) := by decide +kernel
def q1_secondCamp (σ : St) : Option Int32 :=
  Option.bind (loop3 (fun rec4_ (best7_ : Int32) (least8_ : Int32) (set9_ : Int32) =>
  if set9_ ≤ (σ 27 4) then
  Option.bind (q1_acrossTo σ set9_) fun x16_ =>
  lt (if (best7_ = (-1)) ∨ (x16_ < least8_) then ((set9_, x16_)) else ((best7_, least8_))) fun y18_ =>
  lt (set9_ + 2) fun set26_ =>
  rec4_ y18_.1 y18_.2 set26_
  else (some (best7_, least8_, set9_))) fuelN (-1 : Int32) (0 : Int32) (2 : Int32)) fun y1_ =>
  some y1_.1
abbrev rm1_secondCamp : Room := { frames := 2, cells := 0, slots := 0, locals := 45 }
set_option maxHeartbeats 4000000 in
set_option maxRecDepth 100000 in
theorem p1_secondCamp {Θ : Tz} {σ : St} {ρ : Option Value × St} (C : Zc Θ cX1_secondCamp 5 RX1 (some .int) rm1_secondCamp) (hkd : Θ.2.2.2.2.1 = kdC) {r : Int32} (hf : q1_secondCamp σ = some r) (hρ : ρ = (some (.int r), σ)) : Z Θ 5 0 0 (zQ Θ ρ) σ 0 [(0, .ref (zA Θ 27))] [] := by
  unfold q1_secondCamp at hf
  refine z_iconst (v := (-1)) C dX1_secondCamp_0 ic_m1 ?_
  refine z_istN C dX1_secondCamp_1 rfl rfl (Nat.le_of_ble_eq_true rfl) rfl ?_
  refine z_iconst (v := 0) C dX1_secondCamp_2 ic_0 ?_
  refine z_istN C dX1_secondCamp_3 rfl rfl (Nat.le_of_ble_eq_true rfl) rfl ?_
  refine z_iconst (v := 2) C dX1_secondCamp_4 ic_2 ?_
  refine z_istN C dX1_secondCamp_5 rfl rfl (Nat.le_of_ble_eq_true rfl) rfl ?_
  refine Z.sub [3, 2, 1, 0] rfl ?_
  obtain ⟨y1_, h2_, hf⟩ := ob hf
  suffices K3_ : Z Θ 5 0 0 (zQ Θ ρ) σ 43 [(0, .ref (zA Θ 27)), (1, .int y1_.1), (2, .int y1_.2.1), (3, .int y1_.2.2)] [] by
    refine loop3_Z (P := fun (best7_ : Int32) (least8_ : Int32) (set9_ : Int32) => Z Θ 5 0 0 (zQ Θ ρ) σ 6 [(0, .ref (zA Θ 27)), (1, .int best7_), (2, .int least8_), (3, .int set9_)] []) ?_ fuelN (-1 : Int32) (0 : Int32) (2 : Int32) h2_
    clear h2_
    intro rec4_ best7_ least8_ set9_ h5_ h6_
    have K12_ : set9_ ≤ (σ 27 4) → Z Θ 5 0 0 (zQ Θ ρ) σ 14 [(0, .ref (zA Θ 27)), (1, .int best7_), (2, .int least8_), (3, .int set9_)] [] := by
      intro h15_
      rw [if_pos h15_] at h6_
      refine z_aload_n C 0 dX1_secondCamp_14 rfl rfl ?_
      refine z_iload_n C 3 dX1_secondCamp_15 rfl rfl ?_
      obtain ⟨x16_, h17_, h6_⟩ := ob h6_
      refine cr1_61 (camp_a := set9_) C hkd  h17_ ⟨(Nat.le_of_ble_eq_true rfl), (Nat.le_of_ble_eq_true rfl)⟩ (Nat.le_of_ble_eq_true rfl) ⟨Nat.zero_le _, Nat.zero_le _⟩ dX1_secondCamp_16 ?_
      refine z_ist C dX1_secondCamp_19 rfl (Nat.le_of_ble_eq_true rfl) rfl ?_
      obtain ⟨y18_, h19_, h6_⟩ := lt_ h6_
      have h19_ := h19_.symm
      suffices K20_ : Z Θ 5 0 0 (zQ Θ ρ) σ 37 [(0, .ref (zA Θ 27)), (1, .int y18_.1), (2, .int y18_.2), (3, .int set9_), (4, .int x16_)] [] by
        have K21_ : (best7_ = (-1)) ∨ (x16_ < least8_) → Z Θ 5 0 0 (zQ Θ ρ) σ 32 [(4, .int x16_), (0, .ref (zA Θ 27)), (1, .int best7_), (2, .int least8_), (3, .int set9_)] [] := by
          intro h25_
          rw [if_pos h25_] at h19_
          refine z_iload_n C 4 dX1_secondCamp_32 rfl rfl ?_
          refine z_istN C dX1_secondCamp_33 rfl rfl (Nat.le_of_ble_eq_true rfl) rfl ?_
          refine z_iload C 1 dX1_secondCamp_34 rfl ?_
          refine z_istN C dX1_secondCamp_36 rfl rfl (Nat.le_of_ble_eq_true rfl) rfl ?_
          subst h19_
          refine Z.sub [3, 1, 0, 4, 2] rfl ?_
          exact K20_
        have K22_ : ¬ ((best7_ = (-1)) ∨ (x16_ < least8_)) → Z Θ 5 0 0 (zQ Θ ρ) σ 37 [(4, .int x16_), (0, .ref (zA Θ 27)), (1, .int best7_), (2, .int least8_), (3, .int set9_)] [] := by
          intro h25_
          rw [if_neg h25_] at h19_
          subst h19_
          refine Z.sub [1, 2, 3, 4, 0] rfl ?_
          exact K20_
        refine z_iload_n C 2 dX1_secondCamp_21 rfl rfl ?_
        refine z_iconst (v := (-1)) C dX1_secondCamp_22 ic_m1 ?_
        refine c_eq_t C 32 dX1_secondCamp_23 (by decide) (fun h23_ => ?_) (fun h23_ => ?_)
        · exact K21_ (Or.inl h23_)
        · refine z_iload C 0 dX1_secondCamp_26 rfl ?_
          refine z_iload_n C 3 dX1_secondCamp_28 rfl rfl ?_
          refine c_lt_f C 37 dX1_secondCamp_29 (by decide) (fun h24_ => ?_) (fun h24_ => ?_)
          · exact K21_ (Or.inr h24_)
          · exact K22_ (fun n => n.elim h23_ h24_)
      obtain ⟨set26_, h27_, h6_⟩ := lt_ h6_
      refine z_inc C 3 dX1_secondCamp_37 rfl ic_2 h27_ (Nat.le_of_ble_eq_true rfl) rfl ?_
      refine z_goto C 6 dX1_secondCamp_40 (by decide) ?_
      refine Z.sub [1, 2, 3, 0] rfl ?_
      exact h5_ _ _ _ h6_
    have K13_ : ¬ (set9_ ≤ (σ 27 4)) → Z Θ 5 0 0 (zQ Θ ρ) σ 43 [(0, .ref (zA Θ 27)), (1, .int best7_), (2, .int least8_), (3, .int set9_)] [] := by
      intro h15_
      rw [if_neg h15_] at h6_
      cases h6_
      exact K3_
    refine z_iload_n C 3 dX1_secondCamp_6 rfl rfl ?_
    refine z_aload_n C 0 dX1_secondCamp_7 rfl rfl ?_
    refine fg1_25 C hkd dX1_secondCamp_8 ?_
    refine c_le_f C 43 dX1_secondCamp_11 (by decide) (fun h14_ => ?_) (fun h14_ => ?_)
    · exact K12_ h14_
    · exact K13_ h14_
  refine z_iload_n C 1 dX1_secondCamp_43 rfl rfl ?_
  cases hf
  subst hρ
  exact z_iret C dX1_secondCamp_44
theorem c1_secondCamp {l : Launch} {kd : List KD} {w : Wp} {σ : St} (hkd : kd = kdC) (hi : zI kd w) {r : Int32} (hf : q1_secondCamp σ = some r) : zM l kd w yX1_secondCamp cX1_secondCamp 5 (some .int) rm1_secondCamp [.ref (w.2.2.1 27)] σ (some (.int r), σ) := zM_of rfl hi (Nat.le_of_ble_eq_true rfl) (fun Θ hl hw C => by
  obtain ⟨Θ1, Θ2, Θ3, Θ4, Θ5⟩ := Θ
  cases hw
  exact p1_secondCamp C hkd  hf rfl)
/-! LastLoaf.camps -/
theorem w_4_46 : Cond.code ({ cls := "LastLoaf$Friends", name := "secondCamp", desc := "()I" } : MethodName) prog_3_method_8_code (5 : Nat) (Option.some ClassFile.FieldType.int) ∈ TB := tb_in (lwt_4 (List.mem_of_getElem? (i := 46) (by decide +kernel))) rfl
theorem w_4_43 : Cond.methodLink "LastLoaf" (373 : Nat) ({ cls := "LastLoaf$Friends", name := "secondCamp", desc := "()I" } : MethodName) ∈ TB := tb_in (lwt_4 (List.mem_of_getElem? (i := 43) (by decide +kernel))) rfl
theorem w_4_44 : Cond.instanceMethod ({ cls := "LastLoaf$Friends", name := "secondCamp", desc := "()I" } : MethodName) ∈ TB := tb_in (lwt_4 (List.mem_of_getElem? (i := 44) (by decide +kernel))) rfl
theorem w_4_45 : Cond.selects "LastLoaf$Friends" ({ cls := "LastLoaf$Friends", name := "secondCamp", desc := "()I" } : MethodName) ({ cls := "LastLoaf$Friends", name := "secondCamp", desc := "()I" } : MethodName) ∈ TB := tb_in (lwt_4 (List.mem_of_getElem? (i := 45) (by decide +kernel))) rfl
theorem cr11_373 {Θ : Tz} {cc : ByteArray} {nL kc ks : Nat} {ret : Option FieldType} {rm : Room} {Q : State → Prop} {σ : St} {pc : Nat} {lv : List (Nat × Value)} {st : List Value} (C : Zc Θ cc nL RX11 ret rm) (hkd : Θ.2.2.2.2.1 = kdC) {r : Int32} (hx : q1_secondCamp σ = some r) (hrm : rm1_secondCamp.frames + 1 ≤ rm.frames ∧ 8 + (5 + 11) + rm1_secondCamp.locals ≤ rm.locals) (hcat : (st.map fun v => v.category).sum ≤ 8) (hk : kc ≤ rm.cells ∧ ks ≤ rm.slots) (hd : decode cc pc = .ok (.invokevirtual 373, 3)) (kk : Z Θ nL kc ks Q σ (pc + 3) lv (.int r :: st)) : Z Θ nL kc ks Q σ pc lv (.ref (zA Θ 27) :: st) := z_callV C 27 [] (some (.int r), σ) 0 (kC_27 hkd) rfl (c1_secondCamp hkd (zc_inj C) hx) w_4_46 w_4_43 w_4_44 w_4_45 w_1_13 ⟨rfl, rfl, hrm.1, hrm.2⟩ (by decide +kernel) rfl rfl hcat hk hd kk
theorem dX11_camps_0 : decode cX11_camps 0 = .ok (.aload_n 0, 1) := by decide +kernel
theorem dX11_camps_1 : decode cX11_camps 1 = .ok (.getfield 91, 3) := by decide +kernel
theorem dX11_camps_4 : decode cX11_camps 4 = .ok (.aload_n 0, 1) := by decide +kernel
theorem dX11_camps_5 : decode cX11_camps 5 = .ok (.getfield 19, 3) := by decide +kernel
theorem dX11_camps_8 : decode cX11_camps 8 = .ok (.invokevirtual 361, 3) := by decide +kernel
theorem dX11_camps_11 : decode cX11_camps 11 = .ok (.aload_n 0, 1) := by decide +kernel
theorem dX11_camps_12 : decode cX11_camps 12 = .ok (.getfield 91, 3) := by decide +kernel
theorem dX11_camps_15 : decode cX11_camps 15 = .ok (.invokevirtual 373, 3) := by decide +kernel
theorem dX11_camps_18 : decode cX11_camps 18 = .ok (.ireturn, 1) := by decide +kernel
def q11_camps (σ : St) : Option (Int32 × St) :=
  Option.bind (q1_meet σ 44) fun x1_ =>
  Option.bind (q1_secondCamp x1_) fun x3_ =>
  some (x3_, x1_)
abbrev rm11_camps : Room := { frames := 3, cells := 0, slots := 0, locals := 69 }
set_option maxHeartbeats 4000000 in
set_option maxRecDepth 100000 in
theorem p11_camps {Θ : Tz} {σ : St} {ρ : Option Value × St} (C : Zc Θ cX11_camps 1 RX11 (some .int) rm11_camps) (hkd : Θ.2.2.2.2.1 = kdC) {r : (Int32 × St)} (hf : q11_camps σ = some r) (hρ : ρ = (some (.int r.1), r.2)) : Z Θ 1 0 0 (zQ Θ ρ) σ 0 [(0, .ref (zA Θ 0))] [] := by
  unfold q11_camps at hf
  refine z_aload_n C 0 dX11_camps_0 rfl rfl ?_
  refine fg11_91 C hkd dX11_camps_1 ?_
  refine z_aload_n C 0 dX11_camps_4 rfl rfl ?_
  refine fg11_19 C hkd dX11_camps_5 ?_
  obtain ⟨x1_, h2_, hf⟩ := ob hf
  refine cr11_361 (village_a := 44) C hkd isV_44 h2_ ⟨(Nat.le_of_ble_eq_true rfl), (Nat.le_of_ble_eq_true rfl)⟩ (Nat.le_of_ble_eq_true rfl) ⟨Nat.zero_le _, Nat.zero_le _⟩ dX11_camps_8 ?_
  refine z_aload_n C 0 dX11_camps_11 rfl rfl ?_
  refine fg11_91 C hkd dX11_camps_12 ?_
  obtain ⟨x3_, h4_, hf⟩ := ob hf
  refine cr11_373 C hkd  h4_ ⟨(Nat.le_of_ble_eq_true rfl), (Nat.le_of_ble_eq_true rfl)⟩ (Nat.le_of_ble_eq_true rfl) ⟨Nat.zero_le _, Nat.zero_le _⟩ dX11_camps_15 ?_
  cases hf
  subst hρ
  exact z_iret C dX11_camps_18
theorem c11_camps {l : Launch} {kd : List KD} {w : Wp} {σ : St} (hkd : kd = kdC) (hi : zI kd w) {r : (Int32 × St)} (hf : q11_camps σ = some r) : zM l kd w yX11_camps cX11_camps 1 (some .int) rm11_camps [.ref (w.2.2.1 0)] σ (some (.int r.1), r.2) := zM_of rfl hi (Nat.le_of_ble_eq_true rfl) (fun Θ hl hw C => by
  obtain ⟨Θ1, Θ2, Θ3, Θ4, Θ5⟩ := Θ
  cases hw
  exact p11_camps C hkd  hf rfl)
/-! LastLoaf$Friends.tourWith -/
theorem w_2_173 : Cond.fieldLink "LastLoaf$Friends" (18 : Nat) "LastLoaf$Friends" "tours" "[I" ∈ TB := tb_in (lwt_2 (List.mem_of_getElem? (i := 173) (by decide +kernel))) rfl
theorem fg1_18 {Θ : Tz} {cc : ByteArray} {nL kc ks : Nat} {ret : Option FieldType} {rm : Room} {Q : State → Prop} {σ : St} {pc : Nat} {lv : List (Nat × Value)} {st : List Value} (C : Zc Θ cc nL RX1 ret rm) (hkd : Θ.2.2.2.2.1 = kdC) (hd : decode cc pc = .ok (.getfield 18, 3)) (kk : Z Θ nL kc ks Q σ (pc + 3) lv (.ref (zA Θ 30) :: st)) : Z Θ nL kc ks Q σ pc lv (.ref (zA Θ 27) :: st) := z_get C inT1 27 (kC_27 hkd) rfl 2 (by decide) w_2_173 rfl hd kk
theorem dX1_tourWith_0 : decode cX1_tourWith 0 = .ok (.iload_n 1, 1) := by decide +kernel
theorem dX1_tourWith_1 : decode cX1_tourWith 1 = .ok (.iconst 1, 1) := by decide +kernel
theorem dX1_tourWith_2 : decode cX1_tourWith 2 = .ok (.iload_n 3, 1) := by decide +kernel
theorem dX1_tourWith_3 : decode cX1_tourWith 3 = .ok (.ishl, 1) := by decide +kernel
theorem dX1_tourWith_4 : decode cX1_tourWith 4 = .ok (.ior, 1) := by decide +kernel
theorem dX1_tourWith_5 : decode cX1_tourWith 5 = .ok (.istore 4, 2) := by decide +kernel
theorem dX1_tourWith_7 : decode cX1_tourWith 7 = .ok (.aload_n 0, 1) := by decide +kernel
theorem dX1_tourWith_8 : decode cX1_tourWith 8 = .ok (.getfield 9, 3) := by decide +kernel
theorem dX1_tourWith_11 : decode cX1_tourWith 11 = .ok (.iload_n 2, 1) := by decide +kernel
theorem dX1_tourWith_12 : decode cX1_tourWith 12 = .ok (.bipush 6, 2) := by decide +kernel
theorem dX1_tourWith_14 : decode cX1_tourWith 14 = .ok (.imul, 1) := by decide +kernel
theorem dX1_tourWith_15 : decode cX1_tourWith 15 = .ok (.iload_n 3, 1) := by decide +kernel
theorem dX1_tourWith_16 : decode cX1_tourWith 16 = .ok (.iadd, 1) := by decide +kernel
theorem dX1_tourWith_17 : decode cX1_tourWith 17 = .ok (.iaload, 1) := by decide +kernel
theorem dX1_tourWith_18 : decode cX1_tourWith 18 = .ok (.aload_n 0, 1) := by decide +kernel
theorem dX1_tourWith_19 : decode cX1_tourWith 19 = .ok (.getfield 18, 3) := by decide +kernel
theorem dX1_tourWith_22 : decode cX1_tourWith 22 = .ok (.iload 4, 2) := by decide +kernel
theorem dX1_tourWith_24 : decode cX1_tourWith 24 = .ok (.bipush 6, 2) := by decide +kernel
theorem dX1_tourWith_26 : decode cX1_tourWith 26 = .ok (.imul, 1) := by decide +kernel
theorem dX1_tourWith_27 : decode cX1_tourWith 27 = .ok (.iload_n 3, 1) := by decide +kernel
theorem dX1_tourWith_28 : decode cX1_tourWith 28 = .ok (.iadd, 1) := by decide +kernel
theorem dX1_tourWith_29 : decode cX1_tourWith 29 = .ok (.iaload, 1) := by decide +kernel
theorem dX1_tourWith_30 : decode cX1_tourWith 30 = .ok (.iadd, 1) := by decide +kernel
theorem dX1_tourWith_31 : decode cX1_tourWith 31 = .ok (.ireturn, 1) := by decide +kernel
def q1_tourWith (σ : St) (sitting_a : Int32) (last_a : Int32) (coming_a : Int32) : Option Int32 :=
  lt (sitting_a ||| (shl 1 coming_a)) fun then1_ =>
  Option.bind (ag σ 28 36 ((last_a * 6) + coming_a)) fun x3_ =>
  Option.bind (ag σ 30 384 ((then1_ * 6) + coming_a)) fun x5_ =>
  some (x3_ + x5_)
abbrev rm1_tourWith : Room := { frames := 0, cells := 0, slots := 0, locals := 0 }
set_option maxHeartbeats 4000000 in
set_option maxRecDepth 100000 in
theorem p1_tourWith {Θ : Tz} {σ : St} {ρ : Option Value × St} (C : Zc Θ cX1_tourWith 5 RX1 (some .int) rm1_tourWith) (hkd : Θ.2.2.2.2.1 = kdC) {sitting_a : Int32} {last_a : Int32} {coming_a : Int32} {r : Int32} (hf : q1_tourWith σ sitting_a last_a coming_a = some r) (hρ : ρ = (some (.int r), σ)) : Z Θ 5 0 0 (zQ Θ ρ) σ 0 [(0, .ref (zA Θ 27)), (1, .int sitting_a), (2, .int last_a), (3, .int coming_a)] [] := by
  unfold q1_tourWith at hf
  refine z_iload_n C 1 dX1_tourWith_0 rfl rfl ?_
  refine z_iconst (v := 1) C dX1_tourWith_1 ic_1 ?_
  refine z_iload_n C 3 dX1_tourWith_2 rfl rfl ?_
  refine z_shl C dX1_tourWith_3 ?_
  refine z_ior C dX1_tourWith_4 ?_
  obtain ⟨then1_, h2_, hf⟩ := lt_ hf
  refine z_ist C dX1_tourWith_5 h2_ (Nat.le_of_ble_eq_true rfl) rfl ?_
  refine z_aload_n C 1 dX1_tourWith_7 rfl rfl ?_
  refine fg1_9 C hkd dX1_tourWith_8 ?_
  refine z_iload_n C 3 dX1_tourWith_11 rfl rfl ?_
  refine z_bipush (v := 6) C dX1_tourWith_12 bp_6 ?_
  refine z_imul C dX1_tourWith_14 ?_
  refine z_iload_n C 4 dX1_tourWith_15 rfl rfl ?_
  refine z_iadd C dX1_tourWith_16 ?_
  obtain ⟨x3_, h4_, hf⟩ := ob hf
  refine z_ag C h4_ (kC_28 hkd) dX1_tourWith_17 ?_
  refine z_aload_n C 1 dX1_tourWith_18 rfl rfl ?_
  refine fg1_18 C hkd dX1_tourWith_19 ?_
  refine z_iload C 0 dX1_tourWith_22 rfl ?_
  refine z_bipush (v := 6) C dX1_tourWith_24 bp_6 ?_
  refine z_imul C dX1_tourWith_26 ?_
  refine z_iload_n C 4 dX1_tourWith_27 rfl rfl ?_
  refine z_iadd C dX1_tourWith_28 ?_
  obtain ⟨x5_, h6_, hf⟩ := ob hf
  refine z_ag C h6_ (kC_30 hkd) dX1_tourWith_29 ?_
  refine z_iadd C dX1_tourWith_30 ?_
  cases hf
  subst hρ
  exact z_iret C dX1_tourWith_31
theorem c1_tourWith {l : Launch} {kd : List KD} {w : Wp} {σ : St} {sitting_a : Int32} {last_a : Int32} {coming_a : Int32} (hkd : kd = kdC) (hi : zI kd w) {r : Int32} (hf : q1_tourWith σ sitting_a last_a coming_a = some r) : zM l kd w yX1_tourWith cX1_tourWith 5 (some .int) rm1_tourWith [.ref (w.2.2.1 27), .int sitting_a, .int last_a, .int coming_a] σ (some (.int r), σ) := zM_of rfl hi (Nat.le_of_ble_eq_true rfl) (fun Θ hl hw C => by
  obtain ⟨Θ1, Θ2, Θ3, Θ4, Θ5⟩ := Θ
  cases hw
  exact p1_tourWith C hkd  hf rfl)
/-! LastLoaf$Friends.firstBeside -/
theorem w_4_67 : Cond.code ({ cls := "LastLoaf$Friends", name := "tourWith", desc := "(III)I" } : MethodName) prog_3_method_12_code (5 : Nat) (Option.some ClassFile.FieldType.int) ∈ TB := tb_in (lwt_4 (List.mem_of_getElem? (i := 67) (by decide +kernel))) rfl
theorem w_4_64 : Cond.methodLink "LastLoaf$Friends" (67 : Nat) ({ cls := "LastLoaf$Friends", name := "tourWith", desc := "(III)I" } : MethodName) ∈ TB := tb_in (lwt_4 (List.mem_of_getElem? (i := 64) (by decide +kernel))) rfl
theorem w_4_65 : Cond.instanceMethod ({ cls := "LastLoaf$Friends", name := "tourWith", desc := "(III)I" } : MethodName) ∈ TB := tb_in (lwt_4 (List.mem_of_getElem? (i := 65) (by decide +kernel))) rfl
theorem w_4_66 : Cond.selects "LastLoaf$Friends" ({ cls := "LastLoaf$Friends", name := "tourWith", desc := "(III)I" } : MethodName) ({ cls := "LastLoaf$Friends", name := "tourWith", desc := "(III)I" } : MethodName) ∈ TB := tb_in (lwt_4 (List.mem_of_getElem? (i := 66) (by decide +kernel))) rfl
theorem cr1_67 {Θ : Tz} {cc : ByteArray} {nL kc ks : Nat} {ret : Option FieldType} {rm : Room} {Q : State → Prop} {σ : St} {pc : Nat} {lv : List (Nat × Value)} {st : List Value} (C : Zc Θ cc nL RX1 ret rm) (hkd : Θ.2.2.2.2.1 = kdC) {sitting_a : Int32} {last_a : Int32} {coming_a : Int32} {r : Int32} (hx : q1_tourWith σ sitting_a last_a coming_a = some r) (hrm : rm1_tourWith.frames + 1 ≤ rm.frames ∧ 8 + (5 + 11) + rm1_tourWith.locals ≤ rm.locals) (hcat : (st.map fun v => v.category).sum ≤ 8) (hk : kc ≤ rm.cells ∧ ks ≤ rm.slots) (hd : decode cc pc = .ok (.invokevirtual 67, 3)) (kk : Z Θ nL kc ks Q σ (pc + 3) lv (.int r :: st)) : Z Θ nL kc ks Q σ pc lv (.int coming_a :: .int last_a :: .int sitting_a :: .ref (zA Θ 27) :: st) := z_callV C 27 [.int sitting_a, .int last_a, .int coming_a] (some (.int r), σ) 3 (kC_27 hkd) rfl (c1_tourWith (sitting_a := sitting_a) (last_a := last_a) (coming_a := coming_a) hkd (zc_inj C) hx) w_4_67 w_4_64 w_4_65 w_4_66 w_1_13 ⟨rfl, rfl, hrm.1, hrm.2⟩ (by decide +kernel) rfl rfl hcat hk hd kk
theorem dX1_firstBeside_0 : decode cX1_firstBeside 0 = .ok (.aload_n 0, 1) := by decide +kernel
theorem dX1_firstBeside_1 : decode cX1_firstBeside 1 = .ok (.getfield 18, 3) := by decide +kernel
theorem dX1_firstBeside_4 : decode cX1_firstBeside 4 = .ok (.iload_n 1, 1) := by decide +kernel
theorem dX1_firstBeside_5 : decode cX1_firstBeside 5 = .ok (.bipush 6, 2) := by decide +kernel
theorem dX1_firstBeside_7 : decode cX1_firstBeside 7 = .ok (.imul, 1) := by decide +kernel
theorem dX1_firstBeside_8 : decode cX1_firstBeside 8 = .ok (.iload_n 2, 1) := by decide +kernel
theorem dX1_firstBeside_9 : decode cX1_firstBeside 9 = .ok (.iadd, 1) := by decide +kernel
theorem dX1_firstBeside_10 : decode cX1_firstBeside 10 = .ok (.iaload, 1) := by decide +kernel
theorem dX1_firstBeside_11 : decode cX1_firstBeside 11 = .ok (.istore_n 3, 1) := by decide +kernel
theorem dX1_firstBeside_12 : decode cX1_firstBeside 12 = .ok (.iconst 0, 1) := by decide +kernel
theorem dX1_firstBeside_13 : decode cX1_firstBeside 13 = .ok (.istore 4, 2) := by decide +kernel
theorem dX1_firstBeside_15 : decode cX1_firstBeside 15 = .ok (.iload 4, 2) := by decide +kernel
theorem dX1_firstBeside_17 : decode cX1_firstBeside 17 = .ok (.aload_n 0, 1) := by decide +kernel
theorem dX1_firstBeside_18 : decode cX1_firstBeside 18 = .ok (.getfield 21, 3) := by decide +kernel
theorem dX1_firstBeside_21 : decode cX1_firstBeside 21 = .ok (.if_icmp .ge 33, 3) := by decide +kernel
theorem dX1_firstBeside_24 : decode cX1_firstBeside 24 = .ok (.iload_n 1, 1) := by decide +kernel
theorem dX1_firstBeside_25 : decode cX1_firstBeside 25 = .ok (.iload 4, 2) := by decide +kernel
theorem dX1_firstBeside_27 : decode cX1_firstBeside 27 = .ok (.invokestatic 45, 3) := by decide +kernel
theorem dX1_firstBeside_30 : decode cX1_firstBeside 30 = .ok (.ifCond .ne 18, 3) := by decide +kernel
theorem dX1_firstBeside_33 : decode cX1_firstBeside 33 = .ok (.aload_n 0, 1) := by decide +kernel
theorem dX1_firstBeside_34 : decode cX1_firstBeside 34 = .ok (.iload_n 1, 1) := by decide +kernel
theorem dX1_firstBeside_35 : decode cX1_firstBeside 35 = .ok (.iload_n 2, 1) := by decide +kernel
theorem dX1_firstBeside_36 : decode cX1_firstBeside 36 = .ok (.iload 4, 2) := by decide +kernel
theorem dX1_firstBeside_38 : decode cX1_firstBeside 38 = .ok (.invokevirtual 67, 3) := by decide +kernel
theorem dX1_firstBeside_41 : decode cX1_firstBeside 41 = .ok (.iload_n 3, 1) := by decide +kernel
theorem dX1_firstBeside_42 : decode cX1_firstBeside 42 = .ok (.if_icmp .ne 6, 3) := by decide +kernel
theorem dX1_firstBeside_45 : decode cX1_firstBeside 45 = .ok (.iload 4, 2) := by decide +kernel
theorem dX1_firstBeside_47 : decode cX1_firstBeside 47 = .ok (.ireturn, 1) := by decide +kernel
theorem dX1_firstBeside_48 : decode cX1_firstBeside 48 = .ok (.iinc 4 1, 3) := by decide +kernel
theorem dX1_firstBeside_51 : decode cX1_firstBeside 51 = .ok (.goto (-36), 3) := by decide +kernel
theorem dX1_firstBeside_54 : decode cX1_firstBeside 54 = .ok (.iconst (-1), 1) := by decide +kernel
theorem dX1_firstBeside_55 : decode cX1_firstBeside 55 = .ok (.ireturn, 1) := by decide +kernel
def q1_firstBeside (σ : St) (sitting_a : Int32) (last_a : Int32) : Option Int32 :=
  Option.bind (ag σ 30 384 ((sitting_a * 6) + last_a)) fun x1_ =>
  Option.bind (loop1 (fun rec6_ (p9_ : Int32) =>
  if p9_ < (σ 27 3) then
  Option.bind (if q11_isIn sitting_a p9_ = true then (some false) else (Option.bind (q1_tourWith σ sitting_a last_a p9_) fun x21_ =>
  if x21_ = x1_ then (some true) else (some false))) fun t18_ =>
  if t18_ = true then (some (.inl p9_)) else
  lt (p9_ + 1) fun p25_ =>
  rec6_ p25_
  else (some (.inr p9_))) fuelN (0 : Int32)) fun y3_ =>
  Sum.elim (fun x9 => some x9) (fun y3_r =>
  some (-1)) y3_
abbrev rm1_firstBeside : Room := { frames := 1, cells := 0, slots := 0, locals := 24 }
set_option maxHeartbeats 4000000 in
set_option maxRecDepth 100000 in
theorem p1_firstBeside {Θ : Tz} {σ : St} {ρ : Option Value × St} (C : Zc Θ cX1_firstBeside 5 RX1 (some .int) rm1_firstBeside) (hkd : Θ.2.2.2.2.1 = kdC) {sitting_a : Int32} {last_a : Int32} {r : Int32} (hf : q1_firstBeside σ sitting_a last_a = some r) (hρ : ρ = (some (.int r), σ)) : Z Θ 5 0 0 (zQ Θ ρ) σ 0 [(0, .ref (zA Θ 27)), (1, .int sitting_a), (2, .int last_a)] [] := by
  unfold q1_firstBeside at hf
  refine z_aload_n C 0 dX1_firstBeside_0 rfl rfl ?_
  refine fg1_18 C hkd dX1_firstBeside_1 ?_
  refine z_iload_n C 1 dX1_firstBeside_4 rfl rfl ?_
  refine z_bipush (v := 6) C dX1_firstBeside_5 bp_6 ?_
  refine z_imul C dX1_firstBeside_7 ?_
  refine z_iload_n C 2 dX1_firstBeside_8 rfl rfl ?_
  refine z_iadd C dX1_firstBeside_9 ?_
  obtain ⟨x1_, h2_, hf⟩ := ob hf
  refine z_ag C h2_ (kC_30 hkd) dX1_firstBeside_10 ?_
  refine z_istN C dX1_firstBeside_11 rfl rfl (Nat.le_of_ble_eq_true rfl) rfl ?_
  refine z_iconst (v := 0) C dX1_firstBeside_12 ic_0 ?_
  refine z_ist C dX1_firstBeside_13 rfl (Nat.le_of_ble_eq_true rfl) rfl ?_
  refine Z.sub [2, 3, 4, 1, 0] rfl ?_
  obtain ⟨y3_, h4_, hf⟩ := ob hf
  suffices K5_ : ∀ y3_r, y3_ = .inr y3_r → Z Θ 5 0 0 (zQ Θ ρ) σ 54 [(0, .ref (zA Θ 27)), (1, .int sitting_a), (2, .int last_a), (3, .int x1_), (4, .int y3_r)] [] by
    refine loop1_Z (P := fun (p9_ : Int32) => Z Θ 5 0 0 (zQ Θ ρ) σ 15 [(0, .ref (zA Θ 27)), (1, .int sitting_a), (2, .int last_a), (3, .int x1_), (4, .int p9_)] []) ?_ fuelN (0 : Int32) h4_
    clear h4_
    intro rec6_ p9_ h7_ h8_
    have K12_ : p9_ < (σ 27 3) → Z Θ 5 0 0 (zQ Θ ρ) σ 24 [(0, .ref (zA Θ 27)), (1, .int sitting_a), (2, .int last_a), (3, .int x1_), (4, .int p9_)] [] := by
      intro h15_
      rw [if_pos h15_] at h8_
      obtain ⟨t18_, h19_, h8_⟩ := ob h8_
      have K16_ : t18_ = true → Z Θ 5 0 0 (zQ Θ ρ) σ 45 [(0, .ref (zA Θ 27)), (1, .int sitting_a), (2, .int last_a), (3, .int x1_), (4, .int p9_)] [] := by
        intro h24_
        rw [if_pos h24_] at h8_
        refine z_iload C 4 dX1_firstBeside_45 rfl ?_
        rw [← Option.some.inj h8_] at hf
        replace hf : some p9_ = some r := hf
        cases hf
        subst hρ
        exact z_iret C dX1_firstBeside_47
      suffices K17_ : ¬ (t18_ = true) → Z Θ 5 0 0 (zQ Θ ρ) σ 48 [(0, .ref (zA Θ 27)), (1, .int sitting_a), (2, .int last_a), (3, .int x1_), (4, .int p9_)] [] by
        refine z_iload_n C 1 dX1_firstBeside_24 rfl rfl ?_
        refine z_iload C 4 dX1_firstBeside_25 rfl ?_
        refine cr1_45 (set_a := sitting_a) (person_a := p9_) C hkd  ⟨(Nat.le_of_ble_eq_true rfl), (Nat.le_of_ble_eq_true rfl)⟩ (Nat.le_of_ble_eq_true rfl) ⟨Nat.zero_le _, Nat.zero_le _⟩ dX1_firstBeside_27 ?_
        refine cb_t C 48 dX1_firstBeside_30 (by decide) (fun h20_ => ?_) (fun h20_ => ?_)
        · rw [if_pos h20_] at h19_
          cases h19_
          exact K17_ Bool.false_ne_true
        · rw [if_neg h20_] at h19_
          refine z_aload_n C 0 dX1_firstBeside_33 rfl rfl ?_
          refine z_iload_n C 1 dX1_firstBeside_34 rfl rfl ?_
          refine z_iload_n C 2 dX1_firstBeside_35 rfl rfl ?_
          refine z_iload C 4 dX1_firstBeside_36 rfl ?_
          obtain ⟨x21_, h22_, h19_⟩ := ob h19_
          refine cr1_67 (sitting_a := sitting_a) (last_a := last_a) (coming_a := p9_) C hkd  h22_ ⟨(Nat.le_of_ble_eq_true rfl), (Nat.le_of_ble_eq_true rfl)⟩ (Nat.le_of_ble_eq_true rfl) ⟨Nat.zero_le _, Nat.zero_le _⟩ dX1_firstBeside_38 ?_
          refine z_iload_n C 3 dX1_firstBeside_41 rfl rfl ?_
          refine c_eq_f C 48 dX1_firstBeside_42 (by decide) (fun h23_ => ?_) (fun h23_ => ?_)
          · rw [if_pos h23_] at h19_
            cases h19_
            exact K16_ rfl
          · rw [if_neg h23_] at h19_
            cases h19_
            exact K17_ Bool.false_ne_true
      intro h24_
      rw [if_neg h24_] at h8_
      obtain ⟨p25_, h26_, h8_⟩ := lt_ h8_
      refine z_inc C 4 dX1_firstBeside_48 rfl ic_1 h26_ (Nat.le_of_ble_eq_true rfl) rfl ?_
      refine z_goto C 15 dX1_firstBeside_51 (by decide) ?_
      refine Z.sub [1, 2, 3, 4, 0] rfl ?_
      exact h7_ _ h8_
    have K13_ : ¬ (p9_ < (σ 27 3)) → Z Θ 5 0 0 (zQ Θ ρ) σ 54 [(0, .ref (zA Θ 27)), (1, .int sitting_a), (2, .int last_a), (3, .int x1_), (4, .int p9_)] [] := by
      intro h15_
      rw [if_neg h15_] at h8_
      exact K5_ _ (Option.some.inj h8_).symm
    refine z_iload C 4 dX1_firstBeside_15 rfl ?_
    refine z_aload_n C 0 dX1_firstBeside_17 rfl rfl ?_
    refine fg1_21 C hkd dX1_firstBeside_18 ?_
    refine c_lt_f C 54 dX1_firstBeside_21 (by decide) (fun h14_ => ?_) (fun h14_ => ?_)
    · exact K12_ h14_
    · exact K13_ h14_
  intro y3_r e9
  subst e9
  simp only [Sum.elim_inr] at hf
  refine z_iconst (v := (-1)) C dX1_firstBeside_54 ic_m1 ?_
  cases hf
  subst hρ
  exact z_iret C dX1_firstBeside_55
theorem c1_firstBeside {l : Launch} {kd : List KD} {w : Wp} {σ : St} {sitting_a : Int32} {last_a : Int32} (hkd : kd = kdC) (hi : zI kd w) {r : Int32} (hf : q1_firstBeside σ sitting_a last_a = some r) : zM l kd w yX1_firstBeside cX1_firstBeside 5 (some .int) rm1_firstBeside [.ref (w.2.2.1 27), .int sitting_a, .int last_a] σ (some (.int r), σ) := zM_of rfl hi (Nat.le_of_ble_eq_true rfl) (fun Θ hl hw C => by
  obtain ⟨Θ1, Θ2, Θ3, Θ4, Θ5⟩ := Θ
  cases hw
  exact p1_firstBeside C hkd  hf rfl)
/-! LastLoaf$Friends.seatAt -/
theorem w_4_80 : Cond.code ({ cls := "LastLoaf$Friends", name := "firstBeside", desc := "(II)I" } : MethodName) prog_3_method_15_code (5 : Nat) (Option.some ClassFile.FieldType.int) ∈ TB := tb_in (lwt_4 (List.mem_of_getElem? (i := 80) (by decide +kernel))) rfl
theorem w_4_77 : Cond.methodLink "LastLoaf$Friends" (70 : Nat) ({ cls := "LastLoaf$Friends", name := "firstBeside", desc := "(II)I" } : MethodName) ∈ TB := tb_in (lwt_4 (List.mem_of_getElem? (i := 77) (by decide +kernel))) rfl
theorem w_4_78 : Cond.instanceMethod ({ cls := "LastLoaf$Friends", name := "firstBeside", desc := "(II)I" } : MethodName) ∈ TB := tb_in (lwt_4 (List.mem_of_getElem? (i := 78) (by decide +kernel))) rfl
theorem w_4_79 : Cond.selects "LastLoaf$Friends" ({ cls := "LastLoaf$Friends", name := "firstBeside", desc := "(II)I" } : MethodName) ({ cls := "LastLoaf$Friends", name := "firstBeside", desc := "(II)I" } : MethodName) ∈ TB := tb_in (lwt_4 (List.mem_of_getElem? (i := 79) (by decide +kernel))) rfl
theorem cr1_70 {Θ : Tz} {cc : ByteArray} {nL kc ks : Nat} {ret : Option FieldType} {rm : Room} {Q : State → Prop} {σ : St} {pc : Nat} {lv : List (Nat × Value)} {st : List Value} (C : Zc Θ cc nL RX1 ret rm) (hkd : Θ.2.2.2.2.1 = kdC) {sitting_a : Int32} {last_a : Int32} {r : Int32} (hx : q1_firstBeside σ sitting_a last_a = some r) (hrm : rm1_firstBeside.frames + 1 ≤ rm.frames ∧ 8 + (5 + 11) + rm1_firstBeside.locals ≤ rm.locals) (hcat : (st.map fun v => v.category).sum ≤ 8) (hk : kc ≤ rm.cells ∧ ks ≤ rm.slots) (hd : decode cc pc = .ok (.invokevirtual 70, 3)) (kk : Z Θ nL kc ks Q σ (pc + 3) lv (.int r :: st)) : Z Θ nL kc ks Q σ pc lv (.int last_a :: .int sitting_a :: .ref (zA Θ 27) :: st) := z_callV C 27 [.int sitting_a, .int last_a] (some (.int r), σ) 2 (kC_27 hkd) rfl (c1_firstBeside (sitting_a := sitting_a) (last_a := last_a) hkd (zc_inj C) hx) w_4_80 w_4_77 w_4_78 w_4_79 w_1_13 ⟨rfl, rfl, hrm.1, hrm.2⟩ (by decide +kernel) rfl rfl hcat hk hd kk
theorem dX1_seatAt_0 : decode cX1_seatAt 0 = .ok (.iload_n 1, 1) := by decide +kernel
theorem dX1_seatAt_1 : decode cX1_seatAt 1 = .ok (.ifCond .lt 11, 3) := by decide +kernel
theorem dX1_seatAt_4 : decode cX1_seatAt 4 = .ok (.iload_n 1, 1) := by decide +kernel
theorem dX1_seatAt_5 : decode cX1_seatAt 5 = .ok (.aload_n 0, 1) := by decide +kernel
theorem dX1_seatAt_6 : decode cX1_seatAt 6 = .ok (.getfield 21, 3) := by decide +kernel
theorem dX1_seatAt_9 : decode cX1_seatAt 9 = .ok (.if_icmp .lt 5, 3) := by decide +kernel
theorem dX1_seatAt_12 : decode cX1_seatAt 12 = .ok (.iconst (-1), 1) := by decide +kernel
theorem dX1_seatAt_13 : decode cX1_seatAt 13 = .ok (.ireturn, 1) := by decide +kernel
theorem dX1_seatAt_14 : decode cX1_seatAt 14 = .ok (.iconst 1, 1) := by decide +kernel
theorem dX1_seatAt_15 : decode cX1_seatAt 15 = .ok (.istore_n 2, 1) := by decide +kernel
theorem dX1_seatAt_16 : decode cX1_seatAt 16 = .ok (.iconst 0, 1) := by decide +kernel
theorem dX1_seatAt_17 : decode cX1_seatAt 17 = .ok (.istore_n 3, 1) := by decide +kernel
theorem dX1_seatAt_18 : decode cX1_seatAt 18 = .ok (.iconst 0, 1) := by decide +kernel
theorem dX1_seatAt_19 : decode cX1_seatAt 19 = .ok (.istore 4, 2) := by decide +kernel
theorem dX1_seatAt_21 : decode cX1_seatAt 21 = .ok (.iload 4, 2) := by decide +kernel
theorem dX1_seatAt_23 : decode cX1_seatAt 23 = .ok (.iload_n 1, 1) := by decide +kernel
theorem dX1_seatAt_24 : decode cX1_seatAt 24 = .ok (.if_icmp .ge 29, 3) := by decide +kernel
theorem dX1_seatAt_27 : decode cX1_seatAt 27 = .ok (.aload_n 0, 1) := by decide +kernel
theorem dX1_seatAt_28 : decode cX1_seatAt 28 = .ok (.iload_n 2, 1) := by decide +kernel
theorem dX1_seatAt_29 : decode cX1_seatAt 29 = .ok (.iload_n 3, 1) := by decide +kernel
theorem dX1_seatAt_30 : decode cX1_seatAt 30 = .ok (.invokevirtual 70, 3) := by decide +kernel
theorem dX1_seatAt_33 : decode cX1_seatAt 33 = .ok (.istore_n 3, 1) := by decide +kernel
theorem dX1_seatAt_34 : decode cX1_seatAt 34 = .ok (.iload_n 3, 1) := by decide +kernel
theorem dX1_seatAt_35 : decode cX1_seatAt 35 = .ok (.iconst (-1), 1) := by decide +kernel
theorem dX1_seatAt_36 : decode cX1_seatAt 36 = .ok (.if_icmp .ne 5, 3) := by decide +kernel
theorem dX1_seatAt_39 : decode cX1_seatAt 39 = .ok (.iconst (-1), 1) := by decide +kernel
theorem dX1_seatAt_40 : decode cX1_seatAt 40 = .ok (.ireturn, 1) := by decide +kernel
theorem dX1_seatAt_41 : decode cX1_seatAt 41 = .ok (.iload_n 2, 1) := by decide +kernel
theorem dX1_seatAt_42 : decode cX1_seatAt 42 = .ok (.iconst 1, 1) := by decide +kernel
theorem dX1_seatAt_43 : decode cX1_seatAt 43 = .ok (.iload_n 3, 1) := by decide +kernel
theorem dX1_seatAt_44 : decode cX1_seatAt 44 = .ok (.ishl, 1) := by decide +kernel
theorem dX1_seatAt_45 : decode cX1_seatAt 45 = .ok (.ior, 1) := by decide +kernel
theorem dX1_seatAt_46 : decode cX1_seatAt 46 = .ok (.istore_n 2, 1) := by decide +kernel
theorem dX1_seatAt_47 : decode cX1_seatAt 47 = .ok (.iinc 4 1, 3) := by decide +kernel
theorem dX1_seatAt_50 : decode cX1_seatAt 50 = .ok (.goto (-29), 3) := by decide +kernel
theorem dX1_seatAt_53 : decode cX1_seatAt 53 = .ok (.iload_n 3, 1) := by decide +kernel
theorem dX1_seatAt_54 : decode cX1_seatAt 54 = .ok (.ireturn, 1) := by decide +kernel
def q1_seatAt (σ : St) (k_a : Int32) : Option Int32 :=
  if (k_a < 0) ∨ ((σ 27 3) ≤ k_a) then (some (-1)) else
  Option.bind (loop3 (fun rec9_ (sitting12_ : Int32) (last13_ : Int32) (i14_ : Int32) =>
  if i14_ < k_a then
  Option.bind (q1_firstBeside σ sitting12_ last13_) fun x21_ =>
  if x21_ = (-1) then (some (.inl (-1))) else
  lt (sitting12_ ||| (shl 1 x21_)) fun sitting27_ =>
  lt (i14_ + 1) fun i29_ =>
  rec9_ sitting27_ x21_ i29_
  else (some (.inr (sitting12_, last13_, i14_)))) fuelN (1 : Int32) (0 : Int32) (0 : Int32)) fun y6_ =>
  Sum.elim (fun x9 => some x9) (fun y6_r =>
  some y6_r.2.1) y6_
abbrev rm1_seatAt : Room := { frames := 2, cells := 0, slots := 0, locals := 48 }
set_option maxHeartbeats 4000000 in
set_option maxRecDepth 100000 in
theorem p1_seatAt {Θ : Tz} {σ : St} {ρ : Option Value × St} (C : Zc Θ cX1_seatAt 5 RX1 (some .int) rm1_seatAt) (hkd : Θ.2.2.2.2.1 = kdC) {k_a : Int32} {r : Int32} (hf : q1_seatAt σ k_a = some r) (hρ : ρ = (some (.int r), σ)) : Z Θ 5 0 0 (zQ Θ ρ) σ 0 [(0, .ref (zA Θ 27)), (1, .int k_a)] [] := by
  unfold q1_seatAt at hf
  have K1_ : (k_a < 0) ∨ ((σ 27 3) ≤ k_a) → Z Θ 5 0 0 (zQ Θ ρ) σ 12 [(0, .ref (zA Θ 27)), (1, .int k_a)] [] := by
    intro h5_
    rw [if_pos h5_] at hf
    refine z_iconst (v := (-1)) C dX1_seatAt_12 ic_m1 ?_
    cases hf
    subst hρ
    exact z_iret C dX1_seatAt_13
  suffices K2_ : ¬ ((k_a < 0) ∨ ((σ 27 3) ≤ k_a)) → Z Θ 5 0 0 (zQ Θ ρ) σ 14 [(0, .ref (zA Θ 27)), (1, .int k_a)] [] by
    refine z_iload_n C 1 dX1_seatAt_0 rfl rfl ?_
    refine c0_lt_t C 12 dX1_seatAt_1 (by decide) (fun h3_ => ?_) (fun h3_ => ?_)
    · exact K1_ (Or.inl h3_)
    · refine z_iload_n C 1 dX1_seatAt_4 rfl rfl ?_
      refine z_aload_n C 0 dX1_seatAt_5 rfl rfl ?_
      refine fg1_21 C hkd dX1_seatAt_6 ?_
      refine c_ge_f C 14 dX1_seatAt_9 (by decide) (fun h4_ => ?_) (fun h4_ => ?_)
      · exact K1_ (Or.inr h4_)
      · exact K2_ (fun n => n.elim h3_ h4_)
  intro h5_
  rw [if_neg h5_] at hf
  refine z_iconst (v := 1) C dX1_seatAt_14 ic_1 ?_
  refine z_istN C dX1_seatAt_15 rfl rfl (Nat.le_of_ble_eq_true rfl) rfl ?_
  refine z_iconst (v := 0) C dX1_seatAt_16 ic_0 ?_
  refine z_istN C dX1_seatAt_17 rfl rfl (Nat.le_of_ble_eq_true rfl) rfl ?_
  refine z_iconst (v := 0) C dX1_seatAt_18 ic_0 ?_
  refine z_ist C dX1_seatAt_19 rfl (Nat.le_of_ble_eq_true rfl) rfl ?_
  refine Z.sub [3, 4, 2, 1, 0] rfl ?_
  obtain ⟨y6_, h7_, hf⟩ := ob hf
  suffices K8_ : ∀ y6_r, y6_ = .inr y6_r → Z Θ 5 0 0 (zQ Θ ρ) σ 53 [(0, .ref (zA Θ 27)), (1, .int k_a), (2, .int y6_r.1), (3, .int y6_r.2.1), (4, .int y6_r.2.2)] [] by
    refine loop3_Z (P := fun (sitting12_ : Int32) (last13_ : Int32) (i14_ : Int32) => Z Θ 5 0 0 (zQ Θ ρ) σ 21 [(0, .ref (zA Θ 27)), (1, .int k_a), (2, .int sitting12_), (3, .int last13_), (4, .int i14_)] []) ?_ fuelN (1 : Int32) (0 : Int32) (0 : Int32) h7_
    clear h7_
    intro rec9_ sitting12_ last13_ i14_ h10_ h11_
    have K17_ : i14_ < k_a → Z Θ 5 0 0 (zQ Θ ρ) σ 27 [(0, .ref (zA Θ 27)), (1, .int k_a), (2, .int sitting12_), (3, .int last13_), (4, .int i14_)] [] := by
      intro h20_
      rw [if_pos h20_] at h11_
      refine z_aload_n C 0 dX1_seatAt_27 rfl rfl ?_
      refine z_iload_n C 2 dX1_seatAt_28 rfl rfl ?_
      refine z_iload_n C 3 dX1_seatAt_29 rfl rfl ?_
      obtain ⟨x21_, h22_, h11_⟩ := ob h11_
      refine cr1_70 (sitting_a := sitting12_) (last_a := last13_) C hkd  h22_ ⟨(Nat.le_of_ble_eq_true rfl), (Nat.le_of_ble_eq_true rfl)⟩ (Nat.le_of_ble_eq_true rfl) ⟨Nat.zero_le _, Nat.zero_le _⟩ dX1_seatAt_30 ?_
      refine z_istN C dX1_seatAt_33 rfl rfl (Nat.le_of_ble_eq_true rfl) rfl ?_
      have K23_ : x21_ = (-1) → Z Θ 5 0 0 (zQ Θ ρ) σ 39 [(3, .int x21_), (0, .ref (zA Θ 27)), (1, .int k_a), (2, .int sitting12_), (4, .int i14_)] [] := by
        intro h26_
        rw [if_pos h26_] at h11_
        refine z_iconst (v := (-1)) C dX1_seatAt_39 ic_m1 ?_
        rw [← Option.some.inj h11_] at hf
        replace hf : some (-1) = some r := hf
        cases hf
        subst hρ
        exact z_iret C dX1_seatAt_40
      suffices K24_ : ¬ (x21_ = (-1)) → Z Θ 5 0 0 (zQ Θ ρ) σ 41 [(3, .int x21_), (0, .ref (zA Θ 27)), (1, .int k_a), (2, .int sitting12_), (4, .int i14_)] [] by
        refine z_iload_n C 0 dX1_seatAt_34 rfl rfl ?_
        refine z_iconst (v := (-1)) C dX1_seatAt_35 ic_m1 ?_
        refine c_eq_f C 41 dX1_seatAt_36 (by decide) (fun h25_ => ?_) (fun h25_ => ?_)
        · exact K23_ h25_
        · exact K24_ h25_
      intro h26_
      rw [if_neg h26_] at h11_
      refine z_iload_n C 3 dX1_seatAt_41 rfl rfl ?_
      refine z_iconst (v := 1) C dX1_seatAt_42 ic_1 ?_
      refine z_iload_n C 0 dX1_seatAt_43 rfl rfl ?_
      refine z_shl C dX1_seatAt_44 ?_
      refine z_ior C dX1_seatAt_45 ?_
      obtain ⟨sitting27_, h28_, h11_⟩ := lt_ h11_
      refine z_istN C dX1_seatAt_46 h28_ rfl (Nat.le_of_ble_eq_true rfl) rfl ?_
      obtain ⟨i29_, h30_, h11_⟩ := lt_ h11_
      refine z_inc C 4 dX1_seatAt_47 rfl ic_1 h30_ (Nat.le_of_ble_eq_true rfl) rfl ?_
      refine z_goto C 21 dX1_seatAt_50 (by decide) ?_
      refine Z.sub [3, 4, 1, 2, 0] rfl ?_
      exact h10_ _ _ _ h11_
    have K18_ : ¬ (i14_ < k_a) → Z Θ 5 0 0 (zQ Θ ρ) σ 53 [(0, .ref (zA Θ 27)), (1, .int k_a), (2, .int sitting12_), (3, .int last13_), (4, .int i14_)] [] := by
      intro h20_
      rw [if_neg h20_] at h11_
      exact K8_ _ (Option.some.inj h11_).symm
    refine z_iload C 4 dX1_seatAt_21 rfl ?_
    refine z_iload_n C 1 dX1_seatAt_23 rfl rfl ?_
    refine c_lt_f C 53 dX1_seatAt_24 (by decide) (fun h19_ => ?_) (fun h19_ => ?_)
    · exact K17_ h19_
    · exact K18_ h19_
  intro y6_r e9
  subst e9
  simp only [Sum.elim_inr] at hf
  refine z_iload_n C 3 dX1_seatAt_53 rfl rfl ?_
  cases hf
  subst hρ
  exact z_iret C dX1_seatAt_54
theorem c1_seatAt {l : Launch} {kd : List KD} {w : Wp} {σ : St} {k_a : Int32} (hkd : kd = kdC) (hi : zI kd w) {r : Int32} (hf : q1_seatAt σ k_a = some r) : zM l kd w yX1_seatAt cX1_seatAt 5 (some .int) rm1_seatAt [.ref (w.2.2.1 27), .int k_a] σ (some (.int r), σ) := zM_of rfl hi (Nat.le_of_ble_eq_true rfl) (fun Θ hl hw C => by
  obtain ⟨Θ1, Θ2, Θ3, Θ4, Θ5⟩ := Θ
  cases hw
  exact p1_seatAt C hkd  hf rfl)
/-! LastLoaf$Friends.tourFrom -/
theorem dX1_tourFrom_0 : decode cX1_tourFrom 0 = .ok (.iload_n 1, 1) := by decide +kernel
theorem dX1_tourFrom_1 : decode cX1_tourFrom 1 = .ok (.aload_n 0, 1) := by decide +kernel
theorem dX1_tourFrom_2 : decode cX1_tourFrom 2 = .ok (.getfield 25, 3) := by decide +kernel
theorem dX1_tourFrom_5 : decode cX1_tourFrom 5 = .ok (.if_icmp .ne 25, 3) := by decide +kernel
theorem dX1_tourFrom_8 : decode cX1_tourFrom 8 = .ok (.aload_n 0, 1) := by decide +kernel
theorem dX1_tourFrom_9 : decode cX1_tourFrom 9 = .ok (.getfield 21, 3) := by decide +kernel
theorem dX1_tourFrom_12 : decode cX1_tourFrom 12 = .ok (.iconst 2, 1) := by decide +kernel
theorem dX1_tourFrom_13 : decode cX1_tourFrom 13 = .ok (.if_icmp .le 15, 3) := by decide +kernel
theorem dX1_tourFrom_16 : decode cX1_tourFrom 16 = .ok (.aload_n 0, 1) := by decide +kernel
theorem dX1_tourFrom_17 : decode cX1_tourFrom 17 = .ok (.getfield 9, 3) := by decide +kernel
theorem dX1_tourFrom_20 : decode cX1_tourFrom 20 = .ok (.iload_n 2, 1) := by decide +kernel
theorem dX1_tourFrom_21 : decode cX1_tourFrom 21 = .ok (.bipush 6, 2) := by decide +kernel
theorem dX1_tourFrom_23 : decode cX1_tourFrom 23 = .ok (.imul, 1) := by decide +kernel
theorem dX1_tourFrom_24 : decode cX1_tourFrom 24 = .ok (.iaload, 1) := by decide +kernel
theorem dX1_tourFrom_25 : decode cX1_tourFrom 25 = .ok (.goto 4, 3) := by decide +kernel
theorem dX1_tourFrom_28 : decode cX1_tourFrom 28 = .ok (.iconst 0, 1) := by decide +kernel
theorem dX1_tourFrom_29 : decode cX1_tourFrom 29 = .ok (.ireturn, 1) := by decide +kernel
theorem dX1_tourFrom_30 : decode cX1_tourFrom 30 = .ok (.iconst 0, 1) := by decide +kernel
theorem dX1_tourFrom_31 : decode cX1_tourFrom 31 = .ok (.istore_n 3, 1) := by decide +kernel
theorem dX1_tourFrom_32 : decode cX1_tourFrom 32 = .ok (.iconst 0, 1) := by decide +kernel
theorem dX1_tourFrom_33 : decode cX1_tourFrom 33 = .ok (.istore 4, 2) := by decide +kernel
theorem dX1_tourFrom_35 : decode cX1_tourFrom 35 = .ok (.iload 4, 2) := by decide +kernel
theorem dX1_tourFrom_37 : decode cX1_tourFrom 37 = .ok (.aload_n 0, 1) := by decide +kernel
theorem dX1_tourFrom_38 : decode cX1_tourFrom 38 = .ok (.getfield 21, 3) := by decide +kernel
theorem dX1_tourFrom_41 : decode cX1_tourFrom 41 = .ok (.if_icmp .ge 31, 3) := by decide +kernel
theorem dX1_tourFrom_44 : decode cX1_tourFrom 44 = .ok (.iload_n 1, 1) := by decide +kernel
theorem dX1_tourFrom_45 : decode cX1_tourFrom 45 = .ok (.iload 4, 2) := by decide +kernel
theorem dX1_tourFrom_47 : decode cX1_tourFrom 47 = .ok (.invokestatic 45, 3) := by decide +kernel
theorem dX1_tourFrom_50 : decode cX1_tourFrom 50 = .ok (.ifCond .ne 16, 3) := by decide +kernel
theorem dX1_tourFrom_53 : decode cX1_tourFrom 53 = .ok (.iload_n 3, 1) := by decide +kernel
theorem dX1_tourFrom_54 : decode cX1_tourFrom 54 = .ok (.aload_n 0, 1) := by decide +kernel
theorem dX1_tourFrom_55 : decode cX1_tourFrom 55 = .ok (.iload_n 1, 1) := by decide +kernel
theorem dX1_tourFrom_56 : decode cX1_tourFrom 56 = .ok (.iload_n 2, 1) := by decide +kernel
theorem dX1_tourFrom_57 : decode cX1_tourFrom 57 = .ok (.iload 4, 2) := by decide +kernel
theorem dX1_tourFrom_59 : decode cX1_tourFrom 59 = .ok (.invokevirtual 67, 3) := by decide +kernel
theorem dX1_tourFrom_62 : decode cX1_tourFrom 62 = .ok (.invokestatic 53, 3) := by decide +kernel
theorem dX1_tourFrom_65 : decode cX1_tourFrom 65 = .ok (.istore_n 3, 1) := by decide +kernel
theorem dX1_tourFrom_66 : decode cX1_tourFrom 66 = .ok (.iinc 4 1, 3) := by decide +kernel
theorem dX1_tourFrom_69 : decode cX1_tourFrom 69 = .ok (.goto (-34), 3) := by decide +kernel
theorem dX1_tourFrom_72 : decode cX1_tourFrom 72 = .ok (.iload_n 3, 1) := by decide +kernel
theorem dX1_tourFrom_73 : decode cX1_tourFrom 73 = .ok (.ireturn, 1) := by decide +kernel
def q1_tourFrom (σ : St) (sitting_a : Int32) (last_a : Int32) : Option Int32 :=
  if sitting_a = (σ 27 4) then (Option.bind (if 2 < (σ 27 3) then (Option.bind (ag σ 28 36 (last_a * 6)) fun x11_ =>
  some x11_) else (some (0 : Int32))) fun x5_ =>
  some x5_) else
  Option.bind (loop2 (fun rec17_ (most20_ : Int32) (p21_ : Int32) =>
  if p21_ < (σ 27 3) then
  Option.bind (if ¬ (q11_isIn sitting_a p21_ = true) then (Option.bind (q1_tourWith σ sitting_a last_a p21_) fun x35_ =>
  lt (imax most20_ x35_) fun most37_ =>
  some (most37_)) else (some (most20_))) fun y28_ =>
  lt (p21_ + 1) fun p39_ =>
  rec17_ y28_ p39_
  else (some (most20_, p21_))) fuelN (0 : Int32) (0 : Int32)) fun y14_ =>
  some y14_.1
abbrev rm1_tourFrom : Room := { frames := 1, cells := 0, slots := 0, locals := 24 }
set_option maxHeartbeats 4000000 in
set_option maxRecDepth 100000 in
theorem p1_tourFrom {Θ : Tz} {σ : St} {ρ : Option Value × St} (C : Zc Θ cX1_tourFrom 5 RX1 (some .int) rm1_tourFrom) (hkd : Θ.2.2.2.2.1 = kdC) {sitting_a : Int32} {last_a : Int32} {r : Int32} (hf : q1_tourFrom σ sitting_a last_a = some r) (hρ : ρ = (some (.int r), σ)) : Z Θ 5 0 0 (zQ Θ ρ) σ 0 [(0, .ref (zA Θ 27)), (1, .int sitting_a), (2, .int last_a)] [] := by
  unfold q1_tourFrom at hf
  have K1_ : sitting_a = (σ 27 4) → Z Θ 5 0 0 (zQ Θ ρ) σ 8 [(0, .ref (zA Θ 27)), (1, .int sitting_a), (2, .int last_a)] [] := by
    intro h4_
    rw [if_pos h4_] at hf
    obtain ⟨x5_, h6_, hf⟩ := ob hf
    suffices K7_ : Z Θ 5 0 0 (zQ Θ ρ) σ 29 [(0, .ref (zA Θ 27)), (1, .int sitting_a), (2, .int last_a)] [.int x5_] by
      have K8_ : 2 < (σ 27 3) → Z Θ 5 0 0 (zQ Θ ρ) σ 16 [(0, .ref (zA Θ 27)), (1, .int sitting_a), (2, .int last_a)] [] := by
        intro h13_
        rw [if_pos h13_] at h6_
        refine z_aload_n C 0 dX1_tourFrom_16 rfl rfl ?_
        refine fg1_9 C hkd dX1_tourFrom_17 ?_
        refine z_iload_n C 2 dX1_tourFrom_20 rfl rfl ?_
        refine z_bipush (v := 6) C dX1_tourFrom_21 bp_6 ?_
        refine z_imul C dX1_tourFrom_23 ?_
        obtain ⟨x11_, h12_, h6_⟩ := ob h6_
        refine z_ag C h12_ (kC_28 hkd) dX1_tourFrom_24 ?_
        refine z_goto C 29 dX1_tourFrom_25 (by decide) ?_
        cases h6_
        exact K7_
      have K9_ : ¬ (2 < (σ 27 3)) → Z Θ 5 0 0 (zQ Θ ρ) σ 28 [(0, .ref (zA Θ 27)), (1, .int sitting_a), (2, .int last_a)] [] := by
        intro h13_
        rw [if_neg h13_] at h6_
        refine z_iconst (v := 0) C dX1_tourFrom_28 ic_0 ?_
        cases h6_
        exact K7_
      refine z_aload_n C 0 dX1_tourFrom_8 rfl rfl ?_
      refine fg1_21 C hkd dX1_tourFrom_9 ?_
      refine z_iconst (v := 2) C dX1_tourFrom_12 ic_2 ?_
      refine c_gt_f C 28 dX1_tourFrom_13 (by decide) (fun h10_ => ?_) (fun h10_ => ?_)
      · exact K8_ h10_
      · exact K9_ h10_
    cases hf
    subst hρ
    exact z_iret C dX1_tourFrom_29
  suffices K2_ : ¬ (sitting_a = (σ 27 4)) → Z Θ 5 0 0 (zQ Θ ρ) σ 30 [(0, .ref (zA Θ 27)), (1, .int sitting_a), (2, .int last_a)] [] by
    refine z_iload_n C 1 dX1_tourFrom_0 rfl rfl ?_
    refine z_aload_n C 0 dX1_tourFrom_1 rfl rfl ?_
    refine fg1_25 C hkd dX1_tourFrom_2 ?_
    refine c_eq_f C 30 dX1_tourFrom_5 (by decide) (fun h3_ => ?_) (fun h3_ => ?_)
    · exact K1_ h3_
    · exact K2_ h3_
  intro h4_
  rw [if_neg h4_] at hf
  refine z_iconst (v := 0) C dX1_tourFrom_30 ic_0 ?_
  refine z_istN C dX1_tourFrom_31 rfl rfl (Nat.le_of_ble_eq_true rfl) rfl ?_
  refine z_iconst (v := 0) C dX1_tourFrom_32 ic_0 ?_
  refine z_ist C dX1_tourFrom_33 rfl (Nat.le_of_ble_eq_true rfl) rfl ?_
  refine Z.sub [2, 3, 4, 1, 0] rfl ?_
  obtain ⟨y14_, h15_, hf⟩ := ob hf
  suffices K16_ : Z Θ 5 0 0 (zQ Θ ρ) σ 72 [(0, .ref (zA Θ 27)), (1, .int sitting_a), (2, .int last_a), (3, .int y14_.1), (4, .int y14_.2)] [] by
    refine loop2_Z (P := fun (most20_ : Int32) (p21_ : Int32) => Z Θ 5 0 0 (zQ Θ ρ) σ 35 [(0, .ref (zA Θ 27)), (1, .int sitting_a), (2, .int last_a), (3, .int most20_), (4, .int p21_)] []) ?_ fuelN (0 : Int32) (0 : Int32) h15_
    clear h15_
    intro rec17_ most20_ p21_ h18_ h19_
    have K24_ : p21_ < (σ 27 3) → Z Θ 5 0 0 (zQ Θ ρ) σ 44 [(0, .ref (zA Θ 27)), (1, .int sitting_a), (2, .int last_a), (3, .int most20_), (4, .int p21_)] [] := by
      intro h27_
      rw [if_pos h27_] at h19_
      obtain ⟨y28_, h29_, h19_⟩ := ob h19_
      suffices K30_ : Z Θ 5 0 0 (zQ Θ ρ) σ 66 [(0, .ref (zA Θ 27)), (1, .int sitting_a), (2, .int last_a), (3, .int y28_), (4, .int p21_)] [] by
        have K31_ : ¬ (q11_isIn sitting_a p21_ = true) → Z Θ 5 0 0 (zQ Θ ρ) σ 53 [(0, .ref (zA Θ 27)), (1, .int sitting_a), (2, .int last_a), (3, .int most20_), (4, .int p21_)] [] := by
          intro h34_
          rw [if_pos h34_] at h29_
          refine z_iload_n C 3 dX1_tourFrom_53 rfl rfl ?_
          refine z_aload_n C 0 dX1_tourFrom_54 rfl rfl ?_
          refine z_iload_n C 1 dX1_tourFrom_55 rfl rfl ?_
          refine z_iload_n C 2 dX1_tourFrom_56 rfl rfl ?_
          refine z_iload C 4 dX1_tourFrom_57 rfl ?_
          obtain ⟨x35_, h36_, h29_⟩ := ob h29_
          refine cr1_67 (sitting_a := sitting_a) (last_a := last_a) (coming_a := p21_) C hkd  h36_ ⟨(Nat.le_of_ble_eq_true rfl), (Nat.le_of_ble_eq_true rfl)⟩ (Nat.le_of_ble_eq_true rfl) ⟨Nat.zero_le _, Nat.zero_le _⟩ dX1_tourFrom_59 ?_
          refine z_max C w_4_68 w_3_176 w_1_28 w_3_177 ⟨(Nat.le_of_ble_eq_true rfl), (Nat.le_of_ble_eq_true rfl)⟩ (Nat.le_of_ble_eq_true rfl) ⟨Nat.zero_le _, Nat.zero_le _⟩ dX1_tourFrom_62 ?_
          obtain ⟨most37_, h38_, h29_⟩ := lt_ h29_
          refine z_istN C dX1_tourFrom_65 h38_ rfl (Nat.le_of_ble_eq_true rfl) rfl ?_
          cases h29_
          refine Z.sub [1, 2, 3, 0, 4] rfl ?_
          exact K30_
        have K32_ : ¬ (¬ (q11_isIn sitting_a p21_ = true)) → Z Θ 5 0 0 (zQ Θ ρ) σ 66 [(0, .ref (zA Θ 27)), (1, .int sitting_a), (2, .int last_a), (3, .int most20_), (4, .int p21_)] [] := by
          intro h34_
          rw [if_neg h34_] at h29_
          cases h29_
          exact K30_
        refine z_iload_n C 1 dX1_tourFrom_44 rfl rfl ?_
        refine z_iload C 4 dX1_tourFrom_45 rfl ?_
        refine cr1_45 (set_a := sitting_a) (person_a := p21_) C hkd  ⟨(Nat.le_of_ble_eq_true rfl), (Nat.le_of_ble_eq_true rfl)⟩ (Nat.le_of_ble_eq_true rfl) ⟨Nat.zero_le _, Nat.zero_le _⟩ dX1_tourFrom_47 ?_
        refine cb_t C 66 dX1_tourFrom_50 (by decide) (fun h33_ => ?_) (fun h33_ => ?_)
        · exact K32_ (fun n => n h33_)
        · exact K31_ h33_
      obtain ⟨p39_, h40_, h19_⟩ := lt_ h19_
      refine z_inc C 4 dX1_tourFrom_66 rfl ic_1 h40_ (Nat.le_of_ble_eq_true rfl) rfl ?_
      refine z_goto C 35 dX1_tourFrom_69 (by decide) ?_
      refine Z.sub [1, 2, 3, 4, 0] rfl ?_
      exact h18_ _ _ h19_
    have K25_ : ¬ (p21_ < (σ 27 3)) → Z Θ 5 0 0 (zQ Θ ρ) σ 72 [(0, .ref (zA Θ 27)), (1, .int sitting_a), (2, .int last_a), (3, .int most20_), (4, .int p21_)] [] := by
      intro h27_
      rw [if_neg h27_] at h19_
      cases h19_
      exact K16_
    refine z_iload C 4 dX1_tourFrom_35 rfl ?_
    refine z_aload_n C 0 dX1_tourFrom_37 rfl rfl ?_
    refine fg1_21 C hkd dX1_tourFrom_38 ?_
    refine c_lt_f C 72 dX1_tourFrom_41 (by decide) (fun h26_ => ?_) (fun h26_ => ?_)
    · exact K24_ h26_
    · exact K25_ h26_
  refine z_iload_n C 3 dX1_tourFrom_72 rfl rfl ?_
  cases hf
  subst hρ
  exact z_iret C dX1_tourFrom_73
theorem c1_tourFrom {l : Launch} {kd : List KD} {w : Wp} {σ : St} {sitting_a : Int32} {last_a : Int32} (hkd : kd = kdC) (hi : zI kd w) {r : Int32} (hf : q1_tourFrom σ sitting_a last_a = some r) : zM l kd w yX1_tourFrom cX1_tourFrom 5 (some .int) rm1_tourFrom [.ref (w.2.2.1 27), .int sitting_a, .int last_a] σ (some (.int r), σ) := zM_of rfl hi (Nat.le_of_ble_eq_true rfl) (fun Θ hl hw C => by
  obtain ⟨Θ1, Θ2, Θ3, Θ4, Θ5⟩ := Θ
  cases hw
  exact p1_tourFrom C hkd  hf rfl)

/-! LastLoaf.leftHungry -/
theorem dX11_leftHungry_0 : decode cX11_leftHungry 0 = .ok (.aload_n 0, 1) := by decide +kernel
theorem dX11_leftHungry_1 : decode cX11_leftHungry 1 = .ok (.getfield 23, 3) := by decide +kernel
theorem dX11_leftHungry_4 : decode cX11_leftHungry 4 = .ok (.aload_n 0, 1) := by decide +kernel
theorem dX11_leftHungry_5 : decode cX11_leftHungry 5 = .ok (.getfield 19, 3) := by decide +kernel
theorem dX11_leftHungry_8 : decode cX11_leftHungry 8 = .ok (.invokevirtual 110, 3) := by decide +kernel
theorem dX11_leftHungry_11 : decode cX11_leftHungry 11 = .ok (.aload_n 0, 1) := by decide +kernel
theorem dX11_leftHungry_12 : decode cX11_leftHungry 12 = .ok (.getfield 23, 3) := by decide +kernel
theorem dX11_leftHungry_15 : decode cX11_leftHungry 15 = .ok (.iload_n 1, 1) := by decide +kernel
theorem dX11_leftHungry_16 : decode cX11_leftHungry 16 = .ok (.putfield 269, 3) := by decide +kernel
theorem dX11_leftHungry_19 : decode cX11_leftHungry 19 = .ok (.aload_n 0, 1) := by decide +kernel
theorem dX11_leftHungry_20 : decode cX11_leftHungry 20 = .ok (.getfield 70, 3) := by decide +kernel
theorem dX11_leftHungry_23 : decode cX11_leftHungry 23 = .ok (.aload_n 0, 1) := by decide +kernel
theorem dX11_leftHungry_24 : decode cX11_leftHungry 24 = .ok (.getfield 23, 3) := by decide +kernel
theorem dX11_leftHungry_27 : decode cX11_leftHungry 27 = .ok (.iload_n 2, 1) := by decide +kernel
theorem dX11_leftHungry_28 : decode cX11_leftHungry 28 = .ok (.iconst 0, 1) := by decide +kernel
theorem dX11_leftHungry_29 : decode cX11_leftHungry 29 = .ok (.invokevirtual 243, 3) := by decide +kernel
theorem dX11_leftHungry_32 : decode cX11_leftHungry 32 = .ok (.aload_n 0, 1) := by decide +kernel
theorem dX11_leftHungry_33 : decode cX11_leftHungry 33 = .ok (.getfield 23, 3) := by decide +kernel
theorem dX11_leftHungry_36 : decode cX11_leftHungry 36 = .ok (.getfield 171, 3) := by decide +kernel
theorem dX11_leftHungry_39 : decode cX11_leftHungry 39 = .ok (.invokestatic 238, 3) := by decide +kernel
theorem dX11_leftHungry_42 : decode cX11_leftHungry 42 = .ok (.ireturn, 1) := by decide +kernel
def q11_leftHungry (σ : St) (way_a : Int32) (n_a : Int32) : Option (Int32 × St) :=
  Option.bind (q10_become σ 54 44) fun x1_ =>
  lt (up x1_ 54 13 way_a) fun σ3_ =>
  Option.bind (q0_bakeWeeks σ3_ 54 n_a false) fun x5_ =>
  some (bcount (x5_ 54 10), x5_)
abbrev rm11_leftHungry : Room := { frames := 6, cells := 0, slots := 0, locals := 144 }
set_option maxHeartbeats 4000000 in
set_option maxRecDepth 100000 in
theorem p11_leftHungry {Θ : Tz} {σ : St} {ρ : Option Value × St} (C : Zc Θ cX11_leftHungry 3 RX11 (some .int) rm11_leftHungry) (hkd : Θ.2.2.2.2.1 = kdC) {way_a : Int32} {n_a : Int32} {r : (Int32 × St)} (hf : q11_leftHungry σ way_a n_a = some r) (hρ : ρ = (some (.int r.1), r.2)) : Z Θ 3 0 0 (zQ Θ ρ) σ 0 [(0, .ref (zA Θ 0)), (1, .int way_a), (2, .int n_a)] [] := by
  unfold q11_leftHungry at hf
  refine z_aload_n C 0 dX11_leftHungry_0 rfl rfl ?_
  refine fg11_23 C hkd dX11_leftHungry_1 ?_
  refine z_aload_n C 0 dX11_leftHungry_4 rfl rfl ?_
  refine fg11_19 C hkd dX11_leftHungry_5 ?_
  obtain ⟨x1_, h2_, hf⟩ := ob hf
  refine cr11_110 (th := 54) (other_a := 44) C hkd isV_54 isV_44 h2_ ⟨(Nat.le_of_ble_eq_true rfl), (Nat.le_of_ble_eq_true rfl)⟩ (Nat.le_of_ble_eq_true rfl) ⟨Nat.zero_le _, Nat.zero_le _⟩ dX11_leftHungry_8 ?_
  refine z_aload_n C 0 dX11_leftHungry_11 rfl rfl ?_
  refine fg11_23 C hkd dX11_leftHungry_12 ?_
  refine z_iload_n C 1 dX11_leftHungry_15 rfl rfl ?_
  obtain ⟨σ3_, h4_, hf⟩ := lt_ hf
  refine fp11_269 C hkd isV_54 h4_ dX11_leftHungry_16 ?_
  refine z_aload_n C 0 dX11_leftHungry_19 rfl rfl ?_
  refine fg11_70 C hkd dX11_leftHungry_20 ?_
  refine z_aload_n C 0 dX11_leftHungry_23 rfl rfl ?_
  refine fg11_23 C hkd dX11_leftHungry_24 ?_
  refine z_iload_n C 2 dX11_leftHungry_27 rfl rfl ?_
  refine z_iconst (v := 0) C dX11_leftHungry_28 ic_0 ?_
  obtain ⟨x5_, h6_, hf⟩ := ob hf
  refine cr11_243 (village_a := 54) (n_a := n_a) (speeches_a := false) C hkd isV_54 h6_ ⟨(Nat.le_of_ble_eq_true rfl), (Nat.le_of_ble_eq_true rfl)⟩ (Nat.le_of_ble_eq_true rfl) ⟨Nat.zero_le _, Nat.zero_le _⟩ dX11_leftHungry_29 ?_
  refine z_aload_n C 0 dX11_leftHungry_32 rfl rfl ?_
  refine fg11_23 C hkd dX11_leftHungry_33 ?_
  refine fg11_171 C hkd isV_54 dX11_leftHungry_36 ?_
  refine z_callS C [.int (x5_ 54 10)] (some (.int (bcount (x5_ 54 10))), x5_) 1 (cJ_bitCount (zc_inj C)) w_3_30 w_4_11 w_3_29 w_1_26 ⟨rfl, rfl, (Nat.le_of_ble_eq_true rfl), (Nat.le_of_ble_eq_true rfl)⟩ (by decide +kernel) rfl rfl (Nat.le_of_ble_eq_true rfl) ⟨Nat.zero_le _, Nat.zero_le _⟩ dX11_leftHungry_39 ?_
  cases hf
  subst hρ
  exact z_iret C dX11_leftHungry_42
theorem c11_leftHungry {l : Launch} {kd : List KD} {w : Wp} {σ : St} {way_a : Int32} {n_a : Int32} (hkd : kd = kdC) (hi : zI kd w) {r : (Int32 × St)} (hf : q11_leftHungry σ way_a n_a = some r) : zM l kd w yX11_leftHungry cX11_leftHungry 3 (some .int) rm11_leftHungry [.ref (w.2.2.1 0), .int way_a, .int n_a] σ (some (.int r.1), r.2) := zM_of rfl hi (Nat.le_of_ble_eq_true rfl) (fun Θ hl hw C => by
  obtain ⟨Θ1, Θ2, Θ3, Θ4, Θ5⟩ := Θ
  cases hw
  exact p11_leftHungry C hkd  hf rfl)

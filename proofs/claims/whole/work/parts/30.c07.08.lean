/-! LastLoaf.needParty -/
theorem dX11_needParty_0 : decode cX11_needParty 0 = .ok (.iload_n 0, 1) := by decide +kernel
theorem dX11_needParty_1 : decode cX11_needParty 1 = .ok (.ifCond .lt 8, 3) := by decide +kernel
theorem dX11_needParty_4 : decode cX11_needParty 4 = .ok (.iload_n 0, 1) := by decide +kernel
theorem dX11_needParty_5 : decode cX11_needParty 5 = .ok (.iconst 3, 1) := by decide +kernel
theorem dX11_needParty_6 : decode cX11_needParty 6 = .ok (.if_icmp .lt 14, 3) := by decide +kernel
theorem dX11_needParty_9 : decode cX11_needParty 9 = .ok (.new 223, 3) := by decide +kernel
theorem dX11_needParty_12 : decode cX11_needParty 12 = .ok (.dup, 1) := by decide +kernel
theorem dX11_needParty_13 : decode cX11_needParty 13 = .ok (.ldc_w 462, 3) := by decide +kernel
theorem dX11_needParty_16 : decode cX11_needParty 16 = .ok (.invokespecial 227, 3) := by decide +kernel
theorem dX11_needParty_19 : decode cX11_needParty 19 = .ok (.athrow, 1) := by decide +kernel
theorem dX11_needParty_20 : decode cX11_needParty 20 = .ok (.return_, 1) := by decide +kernel
def q11_needParty (party_a : Int32) : Option Nat :=
  if (party_a < 0) ∨ (3 ≤ party_a) then (some 2) else
  none
abbrev rm11_needParty : Room := { frames := 6, cells := 1, slots := 6, locals := 90 }
set_option maxHeartbeats 4000000 in
set_option maxRecDepth 100000 in
theorem p11_needParty {Θ : Tz} {σ : St} {ω : Om} (C : Zc Θ cX11_needParty 1 RX11 none rm11_needParty) (hkd : Θ.2.2.2.2.1 = kdC) (hlt : Θ.1.2.1.stackTraces = false) (het : ∀ x ∈ Θ.2.2.1.2.exceptionTable.toList, False) {party_a : Int32} {r : Option Nat} (hf : q11_needParty party_a = r) (hω : ω = omN r σ) : Z Θ 1 0 0 (zQX Θ ω 1 6) σ 0 [(0, .int party_a)] [] := by
  unfold q11_needParty at hf
  have K1_ : (party_a < 0) ∨ (3 ≤ party_a) → Z Θ 1 0 0 (zQX Θ ω 1 6) σ 9 [(0, .int party_a)] [] := by
    intro h5_
    rw [if_pos h5_] at hf
    subst hf
    subst hω
    exact zx_throwW (tx := "there is no such party") C hlt het 2 (by decide +kernel) w_5_228 w_1_25 (List.mem_of_getElem? (i := 39) rfl) th11_2_227g th11_2_227n th11_2_227o dX11_needParty_9 dX11_needParty_12 dX11_needParty_13 dX11_needParty_16 dX11_needParty_19 ⟨(Nat.le_of_ble_eq_true rfl), (Nat.le_of_ble_eq_true rfl), (Nat.le_of_ble_eq_true rfl), (Nat.le_of_ble_eq_true rfl)⟩ (Nat.le_of_ble_eq_true rfl) ⟨(Nat.le_of_ble_eq_true rfl), (Nat.le_of_ble_eq_true rfl)⟩
  suffices K2_ : ¬ ((party_a < 0) ∨ (3 ≤ party_a)) → Z Θ 1 0 0 (zQX Θ ω 1 6) σ 20 [(0, .int party_a)] [] by
    refine z_iload_n C 0 dX11_needParty_0 rfl rfl ?_
    refine c0_lt_t C 9 dX11_needParty_1 (by decide) (fun h3_ => ?_) (fun h3_ => ?_)
    · exact K1_ (Or.inl h3_)
    · refine z_iload_n C 0 dX11_needParty_4 rfl rfl ?_
      refine z_iconst (v := 3) C dX11_needParty_5 ic_3 ?_
      refine c_ge_f C 20 dX11_needParty_6 (by decide) (fun h4_ => ?_) (fun h4_ => ?_)
      · exact K1_ (Or.inr h4_)
      · exact K2_ (fun n => n.elim h3_ h4_)
  intro h5_
  rw [if_neg h5_] at hf
  subst hf
  subst hω
  exact zx_vret C ⟨(Nat.le_of_ble_eq_true rfl), (Nat.le_of_ble_eq_true rfl)⟩ dX11_needParty_20
theorem c11_needParty {l : Launch} {kd : List KD} {w : Wp} {σ : St} {party_a : Int32} (hkd : kd = kdC) (hi : zI kd w) (hlt : l.stackTraces = false) : zX l kd w yX11_needParty cX11_needParty 1 none rm11_needParty [.int party_a] σ (omN (q11_needParty party_a) σ) 1 6 := zX_of rfl hi (Nat.le_of_ble_eq_true rfl) (fun Θ hl hw C het => by
  obtain ⟨Θ1, Θ2, Θ3, Θ4, Θ5⟩ := Θ
  cases hw
  cases hl
  exact p11_needParty C hkd hlt het  rfl rfl)

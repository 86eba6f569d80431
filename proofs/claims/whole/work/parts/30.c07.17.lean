/-! LastLoaf$Poll.beaterOfAll -/
theorem w_3_73 : Cond.methodLink "LastLoaf$Poll" (83 : Nat) ({ cls := "LastLoaf$Poll", name := "duelsOf", desc := "(I)I" } : MethodName) ∈ TB := tb_in (lwt_3 (List.mem_of_getElem? (i := 73) (by decide +kernel))) rfl
theorem cr5_83 {Θ : Tz} {cc : ByteArray} {nL kc ks : Nat} {ret : Option FieldType} {rm : Room} {Q : State → Prop} {σ : St} {pc : Nat} {lv : List (Nat × Value)} {st : List Value} (C : Zc Θ cc nL RX5 ret rm) (hkd : Θ.2.2.2.2.1 = kdC) {person_a : Int32} {r : Int32} (hx : q5_duelsOf σ person_a = some r) (hrm : rm5_duelsOf.frames + 1 ≤ rm.frames ∧ 8 + (4 + 11) + rm5_duelsOf.locals ≤ rm.locals) (hcat : (st.map fun v => v.category).sum ≤ 8) (hk : kc ≤ rm.cells ∧ ks ≤ rm.slots) (hd : decode cc pc = .ok (.invokevirtual 83, 3)) (kk : Z Θ nL kc ks Q σ (pc + 3) lv (.int r :: st)) : Z Θ nL kc ks Q σ pc lv (.int person_a :: .ref (zA Θ 6) :: st) := z_callV C 6 [.int person_a] (some (.int r), σ) 1 (kC_6 hkd) rfl (c5_duelsOf (person_a := person_a) hkd (zc_inj C) hx) w_3_76 w_3_73 w_3_74 w_3_75 w_1_9 ⟨rfl, rfl, hrm.1, hrm.2⟩ (by decide +kernel) rfl rfl hcat hk hd kk
theorem dX5_beaterOfAll_0 : decode cX5_beaterOfAll 0 = .ok (.iconst 0, 1) := by decide +kernel
theorem dX5_beaterOfAll_1 : decode cX5_beaterOfAll 1 = .ok (.istore_n 1, 1) := by decide +kernel
theorem dX5_beaterOfAll_2 : decode cX5_beaterOfAll 2 = .ok (.iload_n 1, 1) := by decide +kernel
theorem dX5_beaterOfAll_3 : decode cX5_beaterOfAll 3 = .ok (.aload_n 0, 1) := by decide +kernel
theorem dX5_beaterOfAll_4 : decode cX5_beaterOfAll 4 = .ok (.getfield 30, 3) := by decide +kernel
theorem dX5_beaterOfAll_7 : decode cX5_beaterOfAll 7 = .ok (.if_icmp .ge 36, 3) := by decide +kernel
theorem dX5_beaterOfAll_10 : decode cX5_beaterOfAll 10 = .ok (.aload_n 0, 1) := by decide +kernel
theorem dX5_beaterOfAll_11 : decode cX5_beaterOfAll 11 = .ok (.getfield 34, 3) := by decide +kernel
theorem dX5_beaterOfAll_14 : decode cX5_beaterOfAll 14 = .ok (.iload_n 1, 1) := by decide +kernel
theorem dX5_beaterOfAll_15 : decode cX5_beaterOfAll 15 = .ok (.invokestatic 58, 3) := by decide +kernel
theorem dX5_beaterOfAll_18 : decode cX5_beaterOfAll 18 = .ok (.ifCond .eq 19, 3) := by decide +kernel
theorem dX5_beaterOfAll_21 : decode cX5_beaterOfAll 21 = .ok (.aload_n 0, 1) := by decide +kernel
theorem dX5_beaterOfAll_22 : decode cX5_beaterOfAll 22 = .ok (.iload_n 1, 1) := by decide +kernel
theorem dX5_beaterOfAll_23 : decode cX5_beaterOfAll 23 = .ok (.invokevirtual 83, 3) := by decide +kernel
theorem dX5_beaterOfAll_26 : decode cX5_beaterOfAll 26 = .ok (.aload_n 0, 1) := by decide +kernel
theorem dX5_beaterOfAll_27 : decode cX5_beaterOfAll 27 = .ok (.getfield 37, 3) := by decide +kernel
theorem dX5_beaterOfAll_30 : decode cX5_beaterOfAll 30 = .ok (.iconst 1, 1) := by decide +kernel
theorem dX5_beaterOfAll_31 : decode cX5_beaterOfAll 31 = .ok (.isub, 1) := by decide +kernel
theorem dX5_beaterOfAll_32 : decode cX5_beaterOfAll 32 = .ok (.if_icmp .ne 5, 3) := by decide +kernel
theorem dX5_beaterOfAll_35 : decode cX5_beaterOfAll 35 = .ok (.iload_n 1, 1) := by decide +kernel
theorem dX5_beaterOfAll_36 : decode cX5_beaterOfAll 36 = .ok (.ireturn, 1) := by decide +kernel
theorem dX5_beaterOfAll_37 : decode cX5_beaterOfAll 37 = .ok (.iinc 1 1, 3) := by decide +kernel
theorem dX5_beaterOfAll_40 : decode cX5_beaterOfAll 40 = .ok (.goto (-38), 3) := by decide +kernel
theorem dX5_beaterOfAll_43 : decode cX5_beaterOfAll 43 = .ok (.iconst (-1), 1) := by decide +kernel
theorem dX5_beaterOfAll_44 : decode cX5_beaterOfAll 44 = .ok (.ireturn, 1) := by decide +kernel
def q5_beaterOfAll (σ : St) : Option Int32 :=
  Option.bind (loop1 (fun rec4_ (r7_ : Int32) =>
  if r7_ < (σ 6 6) then
  Option.bind (if q11_isIn (σ 6 7) r7_ = true then (Option.bind (q5_duelsOf σ r7_) fun x19_ =>
  if x19_ = ((σ 6 8) - 1) then (some true) else (some false)) else (some false)) fun t16_ =>
  if t16_ = true then (some (.inl r7_)) else
  lt (r7_ + 1) fun r23_ =>
  rec4_ r23_
  else (some (.inr r7_))) fuelN (0 : Int32)) fun y1_ =>
  Sum.elim (fun x9 => some x9) (fun y1_r =>
  some (-1)) y1_
abbrev rm5_beaterOfAll : Room := { frames := 3, cells := 0, slots := 0, locals := 69 }
set_option maxHeartbeats 4000000 in
set_option maxRecDepth 100000 in
theorem p5_beaterOfAll {Θ : Tz} {σ : St} {ρ : Option Value × St} (C : Zc Θ cX5_beaterOfAll 2 RX5 (some .int) rm5_beaterOfAll) (hkd : Θ.2.2.2.2.1 = kdC) {r : Int32} (hf : q5_beaterOfAll σ = some r) (hρ : ρ = (some (.int r), σ)) : Z Θ 2 0 0 (zQ Θ ρ) σ 0 [(0, .ref (zA Θ 6))] [] := by
  unfold q5_beaterOfAll at hf
  refine z_iconst (v := 0) C dX5_beaterOfAll_0 ic_0 ?_
  refine z_istN C dX5_beaterOfAll_1 rfl rfl (Nat.le_of_ble_eq_true rfl) rfl ?_
  refine Z.sub [1, 0] rfl ?_
  obtain ⟨y1_, h2_, hf⟩ := ob hf
  suffices K3_ : ∀ y1_r, y1_ = .inr y1_r → Z Θ 2 0 0 (zQ Θ ρ) σ 43 [(0, .ref (zA Θ 6)), (1, .int y1_r)] [] by
    refine loop1_Z (P := fun (r7_ : Int32) => Z Θ 2 0 0 (zQ Θ ρ) σ 2 [(0, .ref (zA Θ 6)), (1, .int r7_)] []) ?_ fuelN (0 : Int32) h2_
    clear h2_
    intro rec4_ r7_ h5_ h6_
    have K10_ : r7_ < (σ 6 6) → Z Θ 2 0 0 (zQ Θ ρ) σ 10 [(0, .ref (zA Θ 6)), (1, .int r7_)] [] := by
      intro h13_
      rw [if_pos h13_] at h6_
      obtain ⟨t16_, h17_, h6_⟩ := ob h6_
      have K14_ : t16_ = true → Z Θ 2 0 0 (zQ Θ ρ) σ 35 [(0, .ref (zA Θ 6)), (1, .int r7_)] [] := by
        intro h22_
        rw [if_pos h22_] at h6_
        refine z_iload_n C 1 dX5_beaterOfAll_35 rfl rfl ?_
        rw [← Option.some.inj h6_] at hf
        replace hf : some r7_ = some r := hf
        cases hf
        subst hρ
        exact z_iret C dX5_beaterOfAll_36
      suffices K15_ : ¬ (t16_ = true) → Z Θ 2 0 0 (zQ Θ ρ) σ 37 [(0, .ref (zA Θ 6)), (1, .int r7_)] [] by
        refine z_aload_n C 0 dX5_beaterOfAll_10 rfl rfl ?_
        refine fg5_34 C hkd dX5_beaterOfAll_11 ?_
        refine z_iload_n C 1 dX5_beaterOfAll_14 rfl rfl ?_
        refine cr5_58 (set_a := (σ 6 7)) (person_a := r7_) C hkd  ⟨(Nat.le_of_ble_eq_true rfl), (Nat.le_of_ble_eq_true rfl)⟩ (Nat.le_of_ble_eq_true rfl) ⟨Nat.zero_le _, Nat.zero_le _⟩ dX5_beaterOfAll_15 ?_
        refine cb_f C 37 dX5_beaterOfAll_18 (by decide) (fun h18_ => ?_) (fun h18_ => ?_)
        · rw [if_pos h18_] at h17_
          refine z_aload_n C 0 dX5_beaterOfAll_21 rfl rfl ?_
          refine z_iload_n C 1 dX5_beaterOfAll_22 rfl rfl ?_
          obtain ⟨x19_, h20_, h17_⟩ := ob h17_
          refine cr5_83 (person_a := r7_) C hkd  h20_ ⟨(Nat.le_of_ble_eq_true rfl), (Nat.le_of_ble_eq_true rfl)⟩ (Nat.le_of_ble_eq_true rfl) ⟨Nat.zero_le _, Nat.zero_le _⟩ dX5_beaterOfAll_23 ?_
          refine z_aload_n C 0 dX5_beaterOfAll_26 rfl rfl ?_
          refine fg5_37 C hkd dX5_beaterOfAll_27 ?_
          refine z_iconst (v := 1) C dX5_beaterOfAll_30 ic_1 ?_
          refine z_isub C dX5_beaterOfAll_31 ?_
          refine c_eq_f C 37 dX5_beaterOfAll_32 (by decide) (fun h21_ => ?_) (fun h21_ => ?_)
          · rw [if_pos h21_] at h17_
            cases h17_
            exact K14_ rfl
          · rw [if_neg h21_] at h17_
            cases h17_
            exact K15_ Bool.false_ne_true
        · rw [if_neg h18_] at h17_
          cases h17_
          exact K15_ Bool.false_ne_true
      intro h22_
      rw [if_neg h22_] at h6_
      obtain ⟨r23_, h24_, h6_⟩ := lt_ h6_
      refine z_inc C 1 dX5_beaterOfAll_37 rfl ic_1 h24_ (Nat.le_of_ble_eq_true rfl) rfl ?_
      refine z_goto C 2 dX5_beaterOfAll_40 (by decide) ?_
      refine Z.sub [1, 0] rfl ?_
      exact h5_ _ h6_
    have K11_ : ¬ (r7_ < (σ 6 6)) → Z Θ 2 0 0 (zQ Θ ρ) σ 43 [(0, .ref (zA Θ 6)), (1, .int r7_)] [] := by
      intro h13_
      rw [if_neg h13_] at h6_
      exact K3_ _ (Option.some.inj h6_).symm
    refine z_iload_n C 1 dX5_beaterOfAll_2 rfl rfl ?_
    refine z_aload_n C 0 dX5_beaterOfAll_3 rfl rfl ?_
    refine fg5_30 C hkd dX5_beaterOfAll_4 ?_
    refine c_lt_f C 43 dX5_beaterOfAll_7 (by decide) (fun h12_ => ?_) (fun h12_ => ?_)
    · exact K10_ h12_
    · exact K11_ h12_
  intro y1_r e9
  subst e9
  simp only [Sum.elim_inr] at hf
  refine z_iconst (v := (-1)) C dX5_beaterOfAll_43 ic_m1 ?_
  cases hf
  subst hρ
  exact z_iret C dX5_beaterOfAll_44
theorem c5_beaterOfAll {l : Launch} {kd : List KD} {w : Wp} {σ : St} (hkd : kd = kdC) (hi : zI kd w) {r : Int32} (hf : q5_beaterOfAll σ = some r) : zM l kd w yX5_beaterOfAll cX5_beaterOfAll 2 (some .int) rm5_beaterOfAll [.ref (w.2.2.1 6)] σ (some (.int r), σ) := zM_of rfl hi (Nat.le_of_ble_eq_true rfl) (fun Θ hl hw C => by
  obtain ⟨Θ1, Θ2, Θ3, Θ4, Θ5⟩ := Θ
  cases hw
  exact p5_beaterOfAll C hkd  hf rfl)

/-! LastLoaf.beats -/
theorem w_6_186 : Cond.methodLink "LastLoaf" (282 : Nat) ({ cls := "LastLoaf$Poll", name := "isAhead", desc := "(II)Z" } : MethodName) ∈ TB := tb_in (lwt_6 (List.mem_of_getElem? (i := 186) (by decide +kernel))) rfl
theorem cr11_282 {Θ : Tz} {cc : ByteArray} {nL kc ks : Nat} {ret : Option FieldType} {rm : Room} {Q : State → Prop} {σ : St} {pc : Nat} {lv : List (Nat × Value)} {st : List Value} (C : Zc Θ cc nL RX11 ret rm) (hkd : Θ.2.2.2.2.1 = kdC) {person_a : Int32} {other_a : Int32} {r : Bool} (hx : q5_isAhead σ person_a other_a = some r) (hrm : rm5_isAhead.frames + 1 ≤ rm.frames ∧ 8 + (6 + 11) + rm5_isAhead.locals ≤ rm.locals) (hcat : (st.map fun v => v.category).sum ≤ 8) (hk : kc ≤ rm.cells ∧ ks ≤ rm.slots) (hd : decode cc pc = .ok (.invokevirtual 282, 3)) (kk : Z Θ nL kc ks Q σ (pc + 3) lv (.int (b2i r) :: st)) : Z Θ nL kc ks Q σ pc lv (.int other_a :: .int person_a :: .ref (zA Θ 6) :: st) := z_callV C 6 [.int person_a, .int other_a] (some (.int (b2i r)), σ) 2 (kC_6 hkd) rfl (c5_isAhead (person_a := person_a) (other_a := other_a) hkd (zc_inj C) hx) w_3_80 w_6_186 w_3_78 w_3_79 w_1_9 ⟨rfl, rfl, hrm.1, hrm.2⟩ (by decide +kernel) rfl rfl hcat hk hd kk
theorem dX11_beats_0 : decode cX11_beats 0 = .ok (.aload_n 0, 1) := by decide +kernel
theorem dX11_beats_1 : decode cX11_beats 1 = .ok (.iload_n 1, 1) := by decide +kernel
theorem dX11_beats_2 : decode cX11_beats 2 = .ok (.iload_n 2, 1) := by decide +kernel
theorem dX11_beats_3 : decode cX11_beats 3 = .ok (.invokevirtual 212, 3) := by decide +kernel
theorem dX11_beats_6 : decode cX11_beats 6 = .ok (.aload_n 0, 1) := by decide +kernel
theorem dX11_beats_7 : decode cX11_beats 7 = .ok (.invokevirtual 180, 3) := by decide +kernel
theorem dX11_beats_10 : decode cX11_beats 10 = .ok (.iload_n 1, 1) := by decide +kernel
theorem dX11_beats_11 : decode cX11_beats 11 = .ok (.iload_n 2, 1) := by decide +kernel
theorem dX11_beats_12 : decode cX11_beats 12 = .ok (.invokevirtual 282, 3) := by decide +kernel
theorem dX11_beats_15 : decode cX11_beats 15 = .ok (.ireturn, 1) := by decide +kernel
def q11_beats (σ : St) (person_a : Int32) (other_a : Int32) : Option (Sum Nat Bool × St) :=
  thn (q11_needTwo σ person_a other_a) σ
  (Option.bind (q11_pollNow σ) fun x3_ =>
  Option.bind (q5_isAhead x3_.2 person_a other_a) fun x5_ =>
  some (.inr x5_, x3_.2))
abbrev rm11_beats : Room := { frames := 8, cells := 3, slots := 18, locals := 133 }
set_option maxHeartbeats 4000000 in
set_option maxRecDepth 100000 in
theorem p11_beats {Θ : Tz} {σ : St} {ω : Om} (C : Zc Θ cX11_beats 3 RX11 (some .boolean) rm11_beats) (hkd : Θ.2.2.2.2.1 = kdC) (hlt : Θ.1.2.1.stackTraces = false) (het : ∀ x ∈ Θ.2.2.1.2.exceptionTable.toList, False) {person_a : Int32} {other_a : Int32} {r : (Sum Nat Bool × St)} (hf : q11_beats σ person_a other_a = some r) (hω : ω = om (fun v => some (.int (b2i v))) r) : Z Θ 3 0 0 (zQX Θ ω 3 18) σ 0 [(0, .ref (zA Θ 0)), (1, .int person_a), (2, .int other_a)] [] := by
  unfold q11_beats at hf
  refine z_aload_n C 0 dX11_beats_0 rfl rfl ?_
  refine z_iload_n C 1 dX11_beats_1 rfl rfl ?_
  refine z_iload_n C 2 dX11_beats_2 rfl rfl ?_
  refine zx_callV C het 0 [.int person_a, .int other_a] (q11_needTwo σ person_a other_a) 3 18 2 (kC_0 hkd) rfl (c11_needTwo (person_a := person_a) (other_a := other_a) hkd (zc_inj C) hlt) w_6_55 w_6_52 w_6_54 ws_LastLoaf_needTwo_II_V w_1_1 ⟨rfl, rfl, (Nat.le_of_ble_eq_true rfl), (Nat.le_of_ble_eq_true rfl)⟩ (by decide +kernel) rfl rfl (Nat.le_of_ble_eq_true rfl) ⟨(Nat.le_of_ble_eq_true rfl), (Nat.le_of_ble_eq_true rfl)⟩ dX11_beats_3 ⟨(Nat.le_of_ble_eq_true rfl), (Nat.le_of_ble_eq_true rfl)⟩ (fun e9 h2_ => by rw [h2_] at hf; cases hf; exact hω) (fun h1_ => ?_)
  rw [h1_] at hf
  replace hf := thn_x hf
  refine z_aload_n C 0 dX11_beats_6 rfl rfl ?_
  obtain ⟨x3_, h4_, hf⟩ := ob hf
  refine cr11_180 C hkd  h4_ ⟨(Nat.le_of_ble_eq_true rfl), (Nat.le_of_ble_eq_true rfl)⟩ (Nat.le_of_ble_eq_true rfl) ⟨(Nat.le_of_ble_eq_true rfl), (Nat.le_of_ble_eq_true rfl)⟩ dX11_beats_7 ?_
  rw [rp11_pollNow h4_]
  refine z_iload_n C 1 dX11_beats_10 rfl rfl ?_
  refine z_iload_n C 2 dX11_beats_11 rfl rfl ?_
  obtain ⟨x5_, h6_, hf⟩ := ob hf
  refine cr11_282 (person_a := person_a) (other_a := other_a) C hkd  h6_ ⟨(Nat.le_of_ble_eq_true rfl), (Nat.le_of_ble_eq_true rfl)⟩ (Nat.le_of_ble_eq_true rfl) ⟨(Nat.le_of_ble_eq_true rfl), (Nat.le_of_ble_eq_true rfl)⟩ dX11_beats_12 ?_
  cases hf
  subst hω
  exact zx_zret C ⟨(Nat.le_of_ble_eq_true rfl), (Nat.le_of_ble_eq_true rfl)⟩ (b2i_narrow _) dX11_beats_15
theorem c11_beats {l : Launch} {kd : List KD} {w : Wp} {σ : St} {person_a : Int32} {other_a : Int32} (hkd : kd = kdC) (hi : zI kd w) (hlt : l.stackTraces = false) {r : (Sum Nat Bool × St)} (hf : q11_beats σ person_a other_a = some r) : zX l kd w yX11_beats cX11_beats 3 (some .boolean) rm11_beats [.ref (w.2.2.1 0), .int person_a, .int other_a] σ (om (fun v => some (.int (b2i v))) r) 3 18 := zX_of rfl hi (Nat.le_of_ble_eq_true rfl) (fun Θ hl hw C het => by
  obtain ⟨Θ1, Θ2, Θ3, Θ4, Θ5⟩ := Θ
  cases hw
  cases hl
  exact p11_beats C hkd hlt het  hf rfl)

/-! LastLoaf.hungry -/
theorem w_6_197 : Cond.code ({ cls := "LastLoaf", name := "leftHungry", desc := "(II)I" } : MethodName) prog_1_method_79_code (3 : Nat) (Option.some ClassFile.FieldType.int) ∈ TB := tb_in (lwt_6 (List.mem_of_getElem? (i := 197) (by decide +kernel))) rfl
theorem w_6_194 : Cond.methodLink "LastLoaf" (289 : Nat) ({ cls := "LastLoaf", name := "leftHungry", desc := "(II)I" } : MethodName) ∈ TB := tb_in (lwt_6 (List.mem_of_getElem? (i := 194) (by decide +kernel))) rfl
theorem w_6_196 : Cond.instanceMethod ({ cls := "LastLoaf", name := "leftHungry", desc := "(II)I" } : MethodName) ∈ TB := tb_in (lwt_6 (List.mem_of_getElem? (i := 196) (by decide +kernel))) rfl
theorem ws_LastLoaf_leftHungry_II_I : Cond.selects "LastLoaf" (⟨"LastLoaf", "leftHungry", "(II)I"⟩ : MethodName) (⟨"LastLoaf", "leftHungry", "(II)I"⟩ : MethodName) ∈ TB := tb_in (List.mem_append_left _ (List.mem_of_getElem? (i := 11) (by decide +kernel))) rfl
theorem cr11_289 {Θ : Tz} {cc : ByteArray} {nL kc ks : Nat} {ret : Option FieldType} {rm : Room} {Q : State → Prop} {σ : St} {pc : Nat} {lv : List (Nat × Value)} {st : List Value} (C : Zc Θ cc nL RX11 ret rm) (hkd : Θ.2.2.2.2.1 = kdC) {way_a : Int32} {n_a : Int32} {r : Int32 × St} (hx : q11_leftHungry σ way_a n_a = some r) (hrm : rm11_leftHungry.frames + 1 ≤ rm.frames ∧ 8 + (3 + 11) + rm11_leftHungry.locals ≤ rm.locals) (hcat : (st.map fun v => v.category).sum ≤ 8) (hk : kc ≤ rm.cells ∧ ks ≤ rm.slots) (hd : decode cc pc = .ok (.invokevirtual 289, 3)) (kk : Z Θ nL kc ks Q r.2 (pc + 3) lv (.int r.1 :: st)) : Z Θ nL kc ks Q σ pc lv (.int n_a :: .int way_a :: .ref (zA Θ 0) :: st) := z_callV C 0 [.int way_a, .int n_a] (some (.int r.1), r.2) 2 (kC_0 hkd) rfl (c11_leftHungry (way_a := way_a) (n_a := n_a) hkd (zc_inj C) hx) w_6_197 w_6_194 w_6_196 ws_LastLoaf_leftHungry_II_I w_1_1 ⟨rfl, rfl, hrm.1, hrm.2⟩ (by decide +kernel) rfl rfl hcat hk hd kk
theorem dX11_hungry_0 : decode cX11_hungry 0 = .ok (.iload_n 1, 1) := by decide +kernel
theorem dX11_hungry_1 : decode cX11_hungry 1 = .ok (.iconst 0, 1) := by decide +kernel
theorem dX11_hungry_2 : decode cX11_hungry 2 = .ok (.iconst 5, 1) := by decide +kernel
theorem dX11_hungry_3 : decode cX11_hungry 3 = .ok (.invokestatic 231, 3) := by decide +kernel
theorem dX11_hungry_6 : decode cX11_hungry 6 = .ok (.iload_n 2, 1) := by decide +kernel
theorem dX11_hungry_7 : decode cX11_hungry 7 = .ok (.iconst 0, 1) := by decide +kernel
theorem dX11_hungry_8 : decode cX11_hungry 8 = .ok (.bipush 60, 2) := by decide +kernel
theorem dX11_hungry_10 : decode cX11_hungry 10 = .ok (.invokestatic 231, 3) := by decide +kernel
theorem dX11_hungry_13 : decode cX11_hungry 13 = .ok (.aload_n 0, 1) := by decide +kernel
theorem dX11_hungry_14 : decode cX11_hungry 14 = .ok (.iload_n 1, 1) := by decide +kernel
theorem dX11_hungry_15 : decode cX11_hungry 15 = .ok (.iload_n 2, 1) := by decide +kernel
theorem dX11_hungry_16 : decode cX11_hungry 16 = .ok (.invokevirtual 289, 3) := by decide +kernel
theorem dX11_hungry_19 : decode cX11_hungry 19 = .ok (.ireturn, 1) := by decide +kernel
def q11_hungry (σ : St) (way_a : Int32) (n_a : Int32) : Option (Sum Nat Int32 × St) :=
  thn (q11_needNumber way_a 0 5) σ
  (thn (q11_needNumber n_a 0 60) σ
  (Option.bind (q11_leftHungry σ way_a n_a) fun x5_ =>
  some (.inr x5_.1, x5_.2)))
abbrev rm11_hungry : Room := { frames := 7, cells := 2, slots := 12, locals := 166 }
set_option maxHeartbeats 4000000 in
set_option maxRecDepth 100000 in
theorem p11_hungry {Θ : Tz} {σ : St} {ω : Om} (C : Zc Θ cX11_hungry 3 RX11 (some .int) rm11_hungry) (hkd : Θ.2.2.2.2.1 = kdC) (hlt : Θ.1.2.1.stackTraces = false) (het : ∀ x ∈ Θ.2.2.1.2.exceptionTable.toList, False) {way_a : Int32} {n_a : Int32} {r : (Sum Nat Int32 × St)} (hf : q11_hungry σ way_a n_a = some r) (hω : ω = om (fun v => some (.int v)) r) : Z Θ 3 0 0 (zQX Θ ω 2 12) σ 0 [(0, .ref (zA Θ 0)), (1, .int way_a), (2, .int n_a)] [] := by
  unfold q11_hungry at hf
  refine z_iload_n C 1 dX11_hungry_0 rfl rfl ?_
  refine z_iconst (v := 0) C dX11_hungry_1 ic_0 ?_
  refine z_iconst (v := 5) C dX11_hungry_2 ic_5 ?_
  refine zx_callS C het [.int way_a, .int 0, .int 5] (q11_needNumber way_a 0 5) 1 6 3 (c11_needNumber (n_a := way_a) (least_a := 0) (most_a := 5) hkd (zc_inj C) hlt) w_6_83 w_6_81 w_6_82 w_1_1 ⟨rfl, rfl, (Nat.le_of_ble_eq_true rfl), (Nat.le_of_ble_eq_true rfl)⟩ (by decide +kernel) rfl rfl (Nat.le_of_ble_eq_true rfl) ⟨(Nat.le_of_ble_eq_true rfl), (Nat.le_of_ble_eq_true rfl)⟩ dX11_hungry_3 ⟨(Nat.le_of_ble_eq_true rfl), (Nat.le_of_ble_eq_true rfl)⟩ (fun e9 h2_ => by rw [h2_] at hf; cases hf; exact hω) (fun h1_ => ?_)
  rw [h1_] at hf
  replace hf := thn_x hf
  refine z_iload_n C 2 dX11_hungry_6 rfl rfl ?_
  refine z_iconst (v := 0) C dX11_hungry_7 ic_0 ?_
  refine z_bipush (v := 60) C dX11_hungry_8 bp_60 ?_
  refine zx_callS C het [.int n_a, .int 0, .int 60] (q11_needNumber n_a 0 60) 1 6 3 (c11_needNumber (n_a := n_a) (least_a := 0) (most_a := 60) hkd (zc_inj C) hlt) w_6_83 w_6_81 w_6_82 w_1_1 ⟨rfl, rfl, (Nat.le_of_ble_eq_true rfl), (Nat.le_of_ble_eq_true rfl)⟩ (by decide +kernel) rfl rfl (Nat.le_of_ble_eq_true rfl) ⟨(Nat.le_of_ble_eq_true rfl), (Nat.le_of_ble_eq_true rfl)⟩ dX11_hungry_10 ⟨(Nat.le_of_ble_eq_true rfl), (Nat.le_of_ble_eq_true rfl)⟩ (fun e9 h4_ => by rw [h4_] at hf; cases hf; exact hω) (fun h3_ => ?_)
  rw [h3_] at hf
  replace hf := thn_x hf
  refine z_aload_n C 0 dX11_hungry_13 rfl rfl ?_
  refine z_iload_n C 1 dX11_hungry_14 rfl rfl ?_
  refine z_iload_n C 2 dX11_hungry_15 rfl rfl ?_
  obtain ⟨x5_, h6_, hf⟩ := ob hf
  refine cr11_289 (way_a := way_a) (n_a := n_a) C hkd  h6_ ⟨(Nat.le_of_ble_eq_true rfl), (Nat.le_of_ble_eq_true rfl)⟩ (Nat.le_of_ble_eq_true rfl) ⟨(Nat.le_of_ble_eq_true rfl), (Nat.le_of_ble_eq_true rfl)⟩ dX11_hungry_16 ?_
  cases hf
  subst hω
  exact zx_iret C ⟨(Nat.le_of_ble_eq_true rfl), (Nat.le_of_ble_eq_true rfl)⟩ dX11_hungry_19
theorem c11_hungry {l : Launch} {kd : List KD} {w : Wp} {σ : St} {way_a : Int32} {n_a : Int32} (hkd : kd = kdC) (hi : zI kd w) (hlt : l.stackTraces = false) {r : (Sum Nat Int32 × St)} (hf : q11_hungry σ way_a n_a = some r) : zX l kd w yX11_hungry cX11_hungry 3 (some .int) rm11_hungry [.ref (w.2.2.1 0), .int way_a, .int n_a] σ (om (fun v => some (.int v)) r) 2 12 := zX_of rfl hi (Nat.le_of_ble_eq_true rfl) (fun Θ hl hw C het => by
  obtain ⟨Θ1, Θ2, Θ3, Θ4, Θ5⟩ := Θ
  cases hw
  cases hl
  exact p11_hungry C hkd hlt het  hf rfl)

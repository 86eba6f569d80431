/-! LastLoaf.master -/
theorem w_3_72 : Cond.code ({ cls := "LastLoaf$Poll", name := "beaterOfAll", desc := "()I" } : MethodName) prog_7_method_9_code (2 : Nat) (Option.some ClassFile.FieldType.int) ∈ TB := tb_in (lwt_3 (List.mem_of_getElem? (i := 72) (by decide +kernel))) rfl
theorem w_3_69 : Cond.methodLink "LastLoaf" (285 : Nat) ({ cls := "LastLoaf$Poll", name := "beaterOfAll", desc := "()I" } : MethodName) ∈ TB := tb_in (lwt_3 (List.mem_of_getElem? (i := 69) (by decide +kernel))) rfl
theorem w_3_70 : Cond.instanceMethod ({ cls := "LastLoaf$Poll", name := "beaterOfAll", desc := "()I" } : MethodName) ∈ TB := tb_in (lwt_3 (List.mem_of_getElem? (i := 70) (by decide +kernel))) rfl
theorem w_3_71 : Cond.selects "LastLoaf$Poll" ({ cls := "LastLoaf$Poll", name := "beaterOfAll", desc := "()I" } : MethodName) ({ cls := "LastLoaf$Poll", name := "beaterOfAll", desc := "()I" } : MethodName) ∈ TB := tb_in (lwt_3 (List.mem_of_getElem? (i := 71) (by decide +kernel))) rfl
theorem cr11_285 {Θ : Tz} {cc : ByteArray} {nL kc ks : Nat} {ret : Option FieldType} {rm : Room} {Q : State → Prop} {σ : St} {pc : Nat} {lv : List (Nat × Value)} {st : List Value} (C : Zc Θ cc nL RX11 ret rm) (hkd : Θ.2.2.2.2.1 = kdC) {r : Int32} (hx : q5_beaterOfAll σ = some r) (hrm : rm5_beaterOfAll.frames + 1 ≤ rm.frames ∧ 8 + (2 + 11) + rm5_beaterOfAll.locals ≤ rm.locals) (hcat : (st.map fun v => v.category).sum ≤ 8) (hk : kc ≤ rm.cells ∧ ks ≤ rm.slots) (hd : decode cc pc = .ok (.invokevirtual 285, 3)) (kk : Z Θ nL kc ks Q σ (pc + 3) lv (.int r :: st)) : Z Θ nL kc ks Q σ pc lv (.ref (zA Θ 6) :: st) := z_callV C 6 [] (some (.int r), σ) 0 (kC_6 hkd) rfl (c5_beaterOfAll hkd (zc_inj C) hx) w_3_72 w_3_69 w_3_70 w_3_71 w_1_9 ⟨rfl, rfl, hrm.1, hrm.2⟩ (by decide +kernel) rfl rfl hcat hk hd kk
theorem dX11_master_0 : decode cX11_master 0 = .ok (.aload_n 0, 1) := by decide +kernel
theorem dX11_master_1 : decode cX11_master 1 = .ok (.invokevirtual 180, 3) := by decide +kernel
theorem dX11_master_4 : decode cX11_master 4 = .ok (.invokevirtual 285, 3) := by decide +kernel
theorem dX11_master_7 : decode cX11_master 7 = .ok (.ireturn, 1) := by decide +kernel
def q11_master (σ : St) : Option (Int32 × St) :=
  Option.bind (q11_pollNow σ) fun x1_ =>
  Option.bind (q5_beaterOfAll x1_.2) fun x3_ =>
  some (x3_, x1_.2)
abbrev rm11_master : Room := { frames := 5, cells := 0, slots := 0, locals := 116 }
set_option maxHeartbeats 4000000 in
set_option maxRecDepth 100000 in
theorem p11_master {Θ : Tz} {σ : St} {ρ : Option Value × St} (C : Zc Θ cX11_master 1 RX11 (some .int) rm11_master) (hkd : Θ.2.2.2.2.1 = kdC) {r : (Int32 × St)} (hf : q11_master σ = some r) (hρ : ρ = (some (.int r.1), r.2)) : Z Θ 1 0 0 (zQ Θ ρ) σ 0 [(0, .ref (zA Θ 0))] [] := by
  unfold q11_master at hf
  refine z_aload_n C 0 dX11_master_0 rfl rfl ?_
  obtain ⟨x1_, h2_, hf⟩ := ob hf
  refine cr11_180 C hkd  h2_ ⟨(Nat.le_of_ble_eq_true rfl), (Nat.le_of_ble_eq_true rfl)⟩ (Nat.le_of_ble_eq_true rfl) ⟨Nat.zero_le _, Nat.zero_le _⟩ dX11_master_1 ?_
  rw [rp11_pollNow h2_]
  obtain ⟨x3_, h4_, hf⟩ := ob hf
  refine cr11_285 C hkd  h4_ ⟨(Nat.le_of_ble_eq_true rfl), (Nat.le_of_ble_eq_true rfl)⟩ (Nat.le_of_ble_eq_true rfl) ⟨Nat.zero_le _, Nat.zero_le _⟩ dX11_master_4 ?_
  cases hf
  subst hρ
  exact z_iret C dX11_master_7
theorem c11_master {l : Launch} {kd : List KD} {w : Wp} {σ : St} (hkd : kd = kdC) (hi : zI kd w) {r : (Int32 × St)} (hf : q11_master σ = some r) : zM l kd w yX11_master cX11_master 1 (some .int) rm11_master [.ref (w.2.2.1 0)] σ (some (.int r.1), r.2) := zM_of rfl hi (Nat.le_of_ble_eq_true rfl) (fun Θ hl hw C => by
  obtain ⟨Θ1, Θ2, Θ3, Θ4, Θ5⟩ := Θ
  cases hw
  exact p11_master C hkd  hf rfl)

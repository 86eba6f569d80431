/-! LastLoaf.bring -/
theorem w_1_146 : Cond.fieldLink "LastLoaf" (261 : Nat) "LastLoaf$Village" "flour" "I" ∈ TB := tb_in (lwt_1 (List.mem_of_getElem? (i := 146) (by decide +kernel))) rfl
theorem fg11_261 {Θ : Tz} {cc : ByteArray} {nL kc ks : Nat} {ret : Option FieldType} {rm : Room} {Q : State → Prop} {σ : St} {pc : Nat} {lv : List (Nat × Value)} {st : List Value} (C : Zc Θ cc nL RX11 ret rm) (hkd : Θ.2.2.2.2.1 = kdC) {th : Nat} (hth : isV th) (hd : decode cc pc = .ok (.getfield 261, 3)) (kk : Z Θ nL kc ks Q σ (pc + 3) lv (.int (σ th 11) :: st)) : Z Θ nL kc ks Q σ pc lv (.ref (zA Θ th) :: st) := z_get C inT10 th (kV_0 hkd hth) rfl 11 (by decide) w_1_146 rfl hd kk
theorem w_6_139 : Cond.methodLink "LastLoaf" (264 : Nat) ({ cls := "java/lang/Math", name := "min", desc := "(II)I" } : MethodName) ∈ TB := tb_in (lwt_6 (List.mem_of_getElem? (i := 139) (by decide +kernel))) rfl
theorem fp11_261 {Θ : Tz} {cc : ByteArray} {nL kc ks : Nat} {ret : Option FieldType} {rm : Room} {Q : State → Prop} {σ : St} {pc : Nat} {lv : List (Nat × Value)} {st : List Value} (C : Zc Θ cc nL RX11 ret rm) (hkd : Θ.2.2.2.2.1 = kdC) {th : Nat} (hth : isV th) {x : Int32} {σ1 : St} (he : σ1 = up σ th 11 x) (hd : decode cc pc = .ok (.putfield 261, 3)) (kk : Z Θ nL kc ks Q σ1 (pc + 3) lv st) : Z Θ nL kc ks Q σ pc lv (.int x :: .ref (zA Θ th) :: st) := by subst he; exact z_put C inT10 tyX10_ok nmX10 th (kV_0 hkd hth) rfl 11 (by decide) w_1_146 rfl rfl rfl rfl hd kk
theorem dX11_bring_0 : decode cX11_bring 0 = .ok (.iload_n 1, 1) := by decide +kernel
theorem dX11_bring_1 : decode cX11_bring 1 = .ok (.iconst 1, 1) := by decide +kernel
theorem dX11_bring_2 : decode cX11_bring 2 = .ok (.sipush 999, 3) := by decide +kernel
theorem dX11_bring_5 : decode cX11_bring 5 = .ok (.invokestatic 231, 3) := by decide +kernel
theorem dX11_bring_8 : decode cX11_bring 8 = .ok (.aload_n 0, 1) := by decide +kernel
theorem dX11_bring_9 : decode cX11_bring 9 = .ok (.getfield 54, 3) := by decide +kernel
theorem dX11_bring_12 : decode cX11_bring 12 = .ok (.aload_n 0, 1) := by decide +kernel
theorem dX11_bring_13 : decode cX11_bring 13 = .ok (.getfield 19, 3) := by decide +kernel
theorem dX11_bring_16 : decode cX11_bring 16 = .ok (.invokevirtual 235, 3) := by decide +kernel
theorem dX11_bring_19 : decode cX11_bring 19 = .ok (.aload_n 0, 1) := by decide +kernel
theorem dX11_bring_20 : decode cX11_bring 20 = .ok (.getfield 19, 3) := by decide +kernel
theorem dX11_bring_23 : decode cX11_bring 23 = .ok (.sipush 9999, 3) := by decide +kernel
theorem dX11_bring_26 : decode cX11_bring 26 = .ok (.aload_n 0, 1) := by decide +kernel
theorem dX11_bring_27 : decode cX11_bring 27 = .ok (.getfield 19, 3) := by decide +kernel
theorem dX11_bring_30 : decode cX11_bring 30 = .ok (.getfield 261, 3) := by decide +kernel
theorem dX11_bring_33 : decode cX11_bring 33 = .ok (.iload_n 1, 1) := by decide +kernel
theorem dX11_bring_34 : decode cX11_bring 34 = .ok (.iadd, 1) := by decide +kernel
theorem dX11_bring_35 : decode cX11_bring 35 = .ok (.invokestatic 264, 3) := by decide +kernel
theorem dX11_bring_38 : decode cX11_bring 38 = .ok (.putfield 261, 3) := by decide +kernel
theorem dX11_bring_41 : decode cX11_bring 41 = .ok (.aload_n 0, 1) := by decide +kernel
theorem dX11_bring_42 : decode cX11_bring 42 = .ok (.getfield 19, 3) := by decide +kernel
theorem dX11_bring_45 : decode cX11_bring 45 = .ok (.getfield 261, 3) := by decide +kernel
theorem dX11_bring_48 : decode cX11_bring 48 = .ok (.ireturn, 1) := by decide +kernel
def q11_bring (σ : St) (n_a : Int32) : Option (Sum Nat Int32 × St) :=
  thn (q11_needNumber n_a 1 999) σ
  (Option.bind (q4_remember σ 44) fun x3_ =>
  lt (up x3_ 44 11 (imin 9999 ((x3_ 44 11) + n_a))) fun σ5_ =>
  some (.inr (σ5_ 44 11), σ5_))
abbrev rm11_bring : Room := { frames := 7, cells := 1, slots := 6, locals := 112 }
set_option maxHeartbeats 4000000 in
set_option maxRecDepth 100000 in
theorem p11_bring {Θ : Tz} {σ : St} {ω : Om} (C : Zc Θ cX11_bring 2 RX11 (some .int) rm11_bring) (hkd : Θ.2.2.2.2.1 = kdC) (hlt : Θ.1.2.1.stackTraces = false) (het : ∀ x ∈ Θ.2.2.1.2.exceptionTable.toList, False) {n_a : Int32} {r : (Sum Nat Int32 × St)} (hf : q11_bring σ n_a = some r) (hω : ω = om (fun v => some (.int v)) r) : Z Θ 2 0 0 (zQX Θ ω 1 6) σ 0 [(0, .ref (zA Θ 0)), (1, .int n_a)] [] := by
  unfold q11_bring at hf
  refine z_iload_n C 1 dX11_bring_0 rfl rfl ?_
  refine z_iconst (v := 1) C dX11_bring_1 ic_1 ?_
  refine z_sipush (v := 999) C dX11_bring_2 sp_999 ?_
  refine zx_callS C het [.int n_a, .int 1, .int 999] (q11_needNumber n_a 1 999) 1 6 3 (c11_needNumber (n_a := n_a) (least_a := 1) (most_a := 999) hkd (zc_inj C) hlt) w_6_83 w_6_81 w_6_82 w_1_1 ⟨rfl, rfl, (Nat.le_of_ble_eq_true rfl), (Nat.le_of_ble_eq_true rfl)⟩ (by decide +kernel) rfl rfl (Nat.le_of_ble_eq_true rfl) ⟨(Nat.le_of_ble_eq_true rfl), (Nat.le_of_ble_eq_true rfl)⟩ dX11_bring_5 ⟨(Nat.le_of_ble_eq_true rfl), (Nat.le_of_ble_eq_true rfl)⟩ (fun e9 h2_ => by rw [h2_] at hf; cases hf; exact hω) (fun h1_ => ?_)
  rw [h1_] at hf
  replace hf := thn_x hf
  refine z_aload_n C 0 dX11_bring_8 rfl rfl ?_
  refine fg11_54 C hkd dX11_bring_9 ?_
  refine z_aload_n C 0 dX11_bring_12 rfl rfl ?_
  refine fg11_19 C hkd dX11_bring_13 ?_
  obtain ⟨x3_, h4_, hf⟩ := ob hf
  refine cr11_235 (village_a := 44) C hkd isV_44 h4_ ⟨(Nat.le_of_ble_eq_true rfl), (Nat.le_of_ble_eq_true rfl)⟩ (Nat.le_of_ble_eq_true rfl) ⟨(Nat.le_of_ble_eq_true rfl), (Nat.le_of_ble_eq_true rfl)⟩ dX11_bring_16 ?_
  refine z_aload_n C 0 dX11_bring_19 rfl rfl ?_
  refine fg11_19 C hkd dX11_bring_20 ?_
  refine z_sipush (v := 9999) C dX11_bring_23 sp_9999 ?_
  refine z_aload_n C 0 dX11_bring_26 rfl rfl ?_
  refine fg11_19 C hkd dX11_bring_27 ?_
  refine fg11_261 C hkd isV_44 dX11_bring_30 ?_
  refine z_iload_n C 1 dX11_bring_33 rfl rfl ?_
  refine z_iadd C dX11_bring_34 ?_
  refine z_min C w_6_139 w_3_129 w_1_28 w_3_130 ⟨(Nat.le_of_ble_eq_true rfl), (Nat.le_of_ble_eq_true rfl)⟩ (Nat.le_of_ble_eq_true rfl) ⟨(Nat.le_of_ble_eq_true rfl), (Nat.le_of_ble_eq_true rfl)⟩ dX11_bring_35 ?_
  obtain ⟨σ5_, h6_, hf⟩ := lt_ hf
  refine fp11_261 C hkd isV_44 h6_ dX11_bring_38 ?_
  refine z_aload_n C 0 dX11_bring_41 rfl rfl ?_
  refine fg11_19 C hkd dX11_bring_42 ?_
  refine fg11_261 C hkd isV_44 dX11_bring_45 ?_
  cases hf
  subst hω
  exact zx_iret C ⟨(Nat.le_of_ble_eq_true rfl), (Nat.le_of_ble_eq_true rfl)⟩ dX11_bring_48
theorem c11_bring {l : Launch} {kd : List KD} {w : Wp} {σ : St} {n_a : Int32} (hkd : kd = kdC) (hi : zI kd w) (hlt : l.stackTraces = false) {r : (Sum Nat Int32 × St)} (hf : q11_bring σ n_a = some r) : zX l kd w yX11_bring cX11_bring 2 (some .int) rm11_bring [.ref (w.2.2.1 0), .int n_a] σ (om (fun v => some (.int v)) r) 1 6 := zX_of rfl hi (Nat.le_of_ble_eq_true rfl) (fun Θ hl hw C het => by
  obtain ⟨Θ1, Θ2, Θ3, Θ4, Θ5⟩ := Θ
  cases hw
  cases hl
  exact p11_bring C hkd hlt het  hf rfl)

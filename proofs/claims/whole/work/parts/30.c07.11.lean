/-! LastLoaf.way -/
theorem w_1_155 : Cond.fieldLink "LastLoaf" (269 : Nat) "LastLoaf$Village" "way" "I" ∈ TB := tb_in (lwt_1 (List.mem_of_getElem? (i := 155) (by decide +kernel))) rfl
theorem fg11_269 {Θ : Tz} {cc : ByteArray} {nL kc ks : Nat} {ret : Option FieldType} {rm : Room} {Q : State → Prop} {σ : St} {pc : Nat} {lv : List (Nat × Value)} {st : List Value} (C : Zc Θ cc nL RX11 ret rm) (hkd : Θ.2.2.2.2.1 = kdC) {th : Nat} (hth : isV th) (hd : decode cc pc = .ok (.getfield 269, 3)) (kk : Z Θ nL kc ks Q σ (pc + 3) lv (.int (σ th 13) :: st)) : Z Θ nL kc ks Q σ pc lv (.ref (zA Θ th) :: st) := z_get C inT10 th (kV_0 hkd hth) rfl 13 (by decide) w_1_155 rfl hd kk
theorem fp11_269 {Θ : Tz} {cc : ByteArray} {nL kc ks : Nat} {ret : Option FieldType} {rm : Room} {Q : State → Prop} {σ : St} {pc : Nat} {lv : List (Nat × Value)} {st : List Value} (C : Zc Θ cc nL RX11 ret rm) (hkd : Θ.2.2.2.2.1 = kdC) {th : Nat} (hth : isV th) {x : Int32} {σ1 : St} (he : σ1 = up σ th 13 x) (hd : decode cc pc = .ok (.putfield 269, 3)) (kk : Z Θ nL kc ks Q σ1 (pc + 3) lv st) : Z Θ nL kc ks Q σ pc lv (.int x :: .ref (zA Θ th) :: st) := by subst he; exact z_put C inT10 tyX10_ok nmX10 th (kV_0 hkd hth) rfl 13 (by decide) w_1_155 rfl rfl rfl rfl hd kk
theorem dX11_way_0 : decode cX11_way 0 = .ok (.iload_n 1, 1) := by decide +kernel
theorem dX11_way_1 : decode cX11_way 1 = .ok (.iconst 0, 1) := by decide +kernel
theorem dX11_way_2 : decode cX11_way 2 = .ok (.iconst 5, 1) := by decide +kernel
theorem dX11_way_3 : decode cX11_way 3 = .ok (.invokestatic 231, 3) := by decide +kernel
theorem dX11_way_6 : decode cX11_way 6 = .ok (.aload_n 0, 1) := by decide +kernel
theorem dX11_way_7 : decode cX11_way 7 = .ok (.getfield 54, 3) := by decide +kernel
theorem dX11_way_10 : decode cX11_way 10 = .ok (.aload_n 0, 1) := by decide +kernel
theorem dX11_way_11 : decode cX11_way 11 = .ok (.getfield 19, 3) := by decide +kernel
theorem dX11_way_14 : decode cX11_way 14 = .ok (.invokevirtual 235, 3) := by decide +kernel
theorem dX11_way_17 : decode cX11_way 17 = .ok (.aload_n 0, 1) := by decide +kernel
theorem dX11_way_18 : decode cX11_way 18 = .ok (.getfield 19, 3) := by decide +kernel
theorem dX11_way_21 : decode cX11_way 21 = .ok (.getfield 269, 3) := by decide +kernel
theorem dX11_way_24 : decode cX11_way 24 = .ok (.istore_n 2, 1) := by decide +kernel
theorem dX11_way_25 : decode cX11_way 25 = .ok (.aload_n 0, 1) := by decide +kernel
theorem dX11_way_26 : decode cX11_way 26 = .ok (.getfield 19, 3) := by decide +kernel
theorem dX11_way_29 : decode cX11_way 29 = .ok (.iload_n 1, 1) := by decide +kernel
theorem dX11_way_30 : decode cX11_way 30 = .ok (.putfield 269, 3) := by decide +kernel
theorem dX11_way_33 : decode cX11_way 33 = .ok (.iload_n 2, 1) := by decide +kernel
theorem dX11_way_34 : decode cX11_way 34 = .ok (.ireturn, 1) := by decide +kernel
def q11_way (σ : St) (n_a : Int32) : Option (Sum Nat Int32 × St) :=
  thn (q11_needNumber n_a 0 5) σ
  (Option.bind (q4_remember σ 44) fun x3_ =>
  lt (x3_ 44 13) fun was5_ =>
  lt (up x3_ 44 13 n_a) fun σ7_ =>
  some (.inr was5_, σ7_))
abbrev rm11_way : Room := { frames := 7, cells := 1, slots := 6, locals := 112 }
set_option maxHeartbeats 4000000 in
set_option maxRecDepth 100000 in
theorem p11_way {Θ : Tz} {σ : St} {ω : Om} (C : Zc Θ cX11_way 3 RX11 (some .int) rm11_way) (hkd : Θ.2.2.2.2.1 = kdC) (hlt : Θ.1.2.1.stackTraces = false) (het : ∀ x ∈ Θ.2.2.1.2.exceptionTable.toList, False) {n_a : Int32} {r : (Sum Nat Int32 × St)} (hf : q11_way σ n_a = some r) (hω : ω = om (fun v => some (.int v)) r) : Z Θ 3 0 0 (zQX Θ ω 1 6) σ 0 [(0, .ref (zA Θ 0)), (1, .int n_a)] [] := by
  unfold q11_way at hf
  refine z_iload_n C 1 dX11_way_0 rfl rfl ?_
  refine z_iconst (v := 0) C dX11_way_1 ic_0 ?_
  refine z_iconst (v := 5) C dX11_way_2 ic_5 ?_
  refine zx_callS C het [.int n_a, .int 0, .int 5] (q11_needNumber n_a 0 5) 1 6 3 (c11_needNumber (n_a := n_a) (least_a := 0) (most_a := 5) hkd (zc_inj C) hlt) w_6_83 w_6_81 w_6_82 w_1_1 ⟨rfl, rfl, (Nat.le_of_ble_eq_true rfl), (Nat.le_of_ble_eq_true rfl)⟩ (by decide +kernel) rfl rfl (Nat.le_of_ble_eq_true rfl) ⟨(Nat.le_of_ble_eq_true rfl), (Nat.le_of_ble_eq_true rfl)⟩ dX11_way_3 ⟨(Nat.le_of_ble_eq_true rfl), (Nat.le_of_ble_eq_true rfl)⟩ (fun e9 h2_ => by rw [h2_] at hf; cases hf; exact hω) (fun h1_ => ?_)
  rw [h1_] at hf
  replace hf := thn_x hf
  refine z_aload_n C 0 dX11_way_6 rfl rfl ?_
  refine fg11_54 C hkd dX11_way_7 ?_
  refine z_aload_n C 0 dX11_way_10 rfl rfl ?_
  refine fg11_19 C hkd dX11_way_11 ?_
  obtain ⟨x3_, h4_, hf⟩ := ob hf
  refine cr11_235 (village_a := 44) C hkd isV_44 h4_ ⟨(Nat.le_of_ble_eq_true rfl), (Nat.le_of_ble_eq_true rfl)⟩ (Nat.le_of_ble_eq_true rfl) ⟨(Nat.le_of_ble_eq_true rfl), (Nat.le_of_ble_eq_true rfl)⟩ dX11_way_14 ?_
  refine z_aload_n C 0 dX11_way_17 rfl rfl ?_
  refine fg11_19 C hkd dX11_way_18 ?_
  refine fg11_269 C hkd isV_44 dX11_way_21 ?_
  obtain ⟨was5_, h6_, hf⟩ := lt_ hf
  refine z_istN C dX11_way_24 h6_ rfl (Nat.le_of_ble_eq_true rfl) rfl ?_
  refine z_aload_n C 1 dX11_way_25 rfl rfl ?_
  refine fg11_19 C hkd dX11_way_26 ?_
  refine z_iload_n C 2 dX11_way_29 rfl rfl ?_
  obtain ⟨σ7_, h8_, hf⟩ := lt_ hf
  refine fp11_269 C hkd isV_44 h8_ dX11_way_30 ?_
  refine z_iload_n C 0 dX11_way_33 rfl rfl ?_
  cases hf
  subst hω
  exact zx_iret C ⟨(Nat.le_of_ble_eq_true rfl), (Nat.le_of_ble_eq_true rfl)⟩ dX11_way_34
theorem c11_way {l : Launch} {kd : List KD} {w : Wp} {σ : St} {n_a : Int32} (hkd : kd = kdC) (hi : zI kd w) (hlt : l.stackTraces = false) {r : (Sum Nat Int32 × St)} (hf : q11_way σ n_a = some r) : zX l kd w yX11_way cX11_way 3 (some .int) rm11_way [.ref (w.2.2.1 0), .int n_a] σ (om (fun v => some (.int v)) r) 1 6 := zX_of rfl hi (Nat.le_of_ble_eq_true rfl) (fun Θ hl hw C het => by
  obtain ⟨Θ1, Θ2, Θ3, Θ4, Θ5⟩ := Θ
  cases hw
  cases hl
  exact p11_way C hkd hlt het  hf rfl)

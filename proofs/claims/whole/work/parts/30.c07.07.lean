/-! LastLoaf.like -/
theorem w_1_114 : Cond.fieldLink "LastLoaf" (255 : Nat) "LastLoaf$Village" "likes" "[I" ∈ TB := tb_in (lwt_1 (List.mem_of_getElem? (i := 114) (by decide +kernel))) rfl
theorem fg11_255 {Θ : Tz} {cc : ByteArray} {nL kc ks : Nat} {ret : Option FieldType} {rm : Room} {Q : State → Prop} {σ : St} {pc : Nat} {lv : List (Nat × Value)} {st : List Value} (C : Zc Θ cc nL RX11 ret rm) (hkd : Θ.2.2.2.2.1 = kdC) {th : Nat} (hth : isV th) (hd : decode cc pc = .ok (.getfield 255, 3)) (kk : Z Θ nL kc ks Q σ (pc + 3) lv (.ref (zA Θ (th + 6)) :: st)) : Z Θ nL kc ks Q σ pc lv (.ref (zA Θ th) :: st) := z_get C inT10 th (kV_0 hkd hth) rfl 5 (by decide) w_1_114 rfl hd kk
theorem dX11_like_0 : decode cX11_like 0 = .ok (.aload_n 0, 1) := by decide +kernel
theorem dX11_like_1 : decode cX11_like 1 = .ok (.iload_n 1, 1) := by decide +kernel
theorem dX11_like_2 : decode cX11_like 2 = .ok (.iload_n 2, 1) := by decide +kernel
theorem dX11_like_3 : decode cX11_like 3 = .ok (.invokevirtual 212, 3) := by decide +kernel
theorem dX11_like_6 : decode cX11_like 6 = .ok (.iload_n 3, 1) := by decide +kernel
theorem dX11_like_7 : decode cX11_like 7 = .ok (.iconst 0, 1) := by decide +kernel
theorem dX11_like_8 : decode cX11_like 8 = .ok (.bipush 9, 2) := by decide +kernel
theorem dX11_like_10 : decode cX11_like 10 = .ok (.invokestatic 231, 3) := by decide +kernel
theorem dX11_like_13 : decode cX11_like 13 = .ok (.aload_n 0, 1) := by decide +kernel
theorem dX11_like_14 : decode cX11_like 14 = .ok (.getfield 54, 3) := by decide +kernel
theorem dX11_like_17 : decode cX11_like 17 = .ok (.aload_n 0, 1) := by decide +kernel
theorem dX11_like_18 : decode cX11_like 18 = .ok (.getfield 19, 3) := by decide +kernel
theorem dX11_like_21 : decode cX11_like 21 = .ok (.invokevirtual 235, 3) := by decide +kernel
theorem dX11_like_24 : decode cX11_like 24 = .ok (.aload_n 0, 1) := by decide +kernel
theorem dX11_like_25 : decode cX11_like 25 = .ok (.getfield 19, 3) := by decide +kernel
theorem dX11_like_28 : decode cX11_like 28 = .ok (.iload_n 1, 1) := by decide +kernel
theorem dX11_like_29 : decode cX11_like 29 = .ok (.iload_n 2, 1) := by decide +kernel
theorem dX11_like_30 : decode cX11_like 30 = .ok (.invokevirtual 216, 3) := by decide +kernel
theorem dX11_like_33 : decode cX11_like 33 = .ok (.istore 4, 2) := by decide +kernel
theorem dX11_like_35 : decode cX11_like 35 = .ok (.aload_n 0, 1) := by decide +kernel
theorem dX11_like_36 : decode cX11_like 36 = .ok (.getfield 19, 3) := by decide +kernel
theorem dX11_like_39 : decode cX11_like 39 = .ok (.getfield 255, 3) := by decide +kernel
theorem dX11_like_42 : decode cX11_like 42 = .ok (.iload_n 1, 1) := by decide +kernel
theorem dX11_like_43 : decode cX11_like 43 = .ok (.bipush 6, 2) := by decide +kernel
theorem dX11_like_45 : decode cX11_like 45 = .ok (.imul, 1) := by decide +kernel
theorem dX11_like_46 : decode cX11_like 46 = .ok (.iload_n 2, 1) := by decide +kernel
theorem dX11_like_47 : decode cX11_like 47 = .ok (.iadd, 1) := by decide +kernel
theorem dX11_like_48 : decode cX11_like 48 = .ok (.iload_n 3, 1) := by decide +kernel
theorem dX11_like_49 : decode cX11_like 49 = .ok (.iastore, 1) := by decide +kernel
theorem dX11_like_50 : decode cX11_like 50 = .ok (.iload 4, 2) := by decide +kernel
theorem dX11_like_52 : decode cX11_like 52 = .ok (.ireturn, 1) := by decide +kernel
def q11_like (σ : St) (person_a : Int32) (other_a : Int32) (n_a : Int32) : Option (Sum Nat Int32 × St) :=
  thn (q11_needTwo σ person_a other_a) σ
  (thn (q11_needNumber n_a 0 9) σ
  (Option.bind (q4_remember σ 44) fun x5_ =>
  Option.bind (q10_likingOf x5_ 44 person_a other_a) fun x7_ =>
  Option.bind (sa x5_ (44 + 6) 36 ((person_a * 6) + other_a) n_a) fun σ9_ =>
  some (.inr x7_, σ9_)))
abbrev rm11_like : Room := { frames := 8, cells := 4, slots := 24, locals := 133 }
set_option maxHeartbeats 4000000 in
set_option maxRecDepth 100000 in
theorem p11_like {Θ : Tz} {σ : St} {ω : Om} (C : Zc Θ cX11_like 5 RX11 (some .int) rm11_like) (hkd : Θ.2.2.2.2.1 = kdC) (hlt : Θ.1.2.1.stackTraces = false) (het : ∀ x ∈ Θ.2.2.1.2.exceptionTable.toList, False) {person_a : Int32} {other_a : Int32} {n_a : Int32} {r : (Sum Nat Int32 × St)} (hf : q11_like σ person_a other_a n_a = some r) (hω : ω = om (fun v => some (.int v)) r) : Z Θ 5 0 0 (zQX Θ ω 4 24) σ 0 [(0, .ref (zA Θ 0)), (1, .int person_a), (2, .int other_a), (3, .int n_a)] [] := by
  unfold q11_like at hf
  refine z_aload_n C 0 dX11_like_0 rfl rfl ?_
  refine z_iload_n C 1 dX11_like_1 rfl rfl ?_
  refine z_iload_n C 2 dX11_like_2 rfl rfl ?_
  refine zx_callV C het 0 [.int person_a, .int other_a] (q11_needTwo σ person_a other_a) 3 18 2 (kC_0 hkd) rfl (c11_needTwo (person_a := person_a) (other_a := other_a) hkd (zc_inj C) hlt) w_6_55 w_6_52 w_6_54 ws_LastLoaf_needTwo_II_V w_1_1 ⟨rfl, rfl, (Nat.le_of_ble_eq_true rfl), (Nat.le_of_ble_eq_true rfl)⟩ (by decide +kernel) rfl rfl (Nat.le_of_ble_eq_true rfl) ⟨(Nat.le_of_ble_eq_true rfl), (Nat.le_of_ble_eq_true rfl)⟩ dX11_like_3 ⟨(Nat.le_of_ble_eq_true rfl), (Nat.le_of_ble_eq_true rfl)⟩ (fun e9 h2_ => by rw [h2_] at hf; cases hf; exact hω) (fun h1_ => ?_)
  rw [h1_] at hf
  replace hf := thn_x hf
  refine z_iload_n C 3 dX11_like_6 rfl rfl ?_
  refine z_iconst (v := 0) C dX11_like_7 ic_0 ?_
  refine z_bipush (v := 9) C dX11_like_8 bp_9 ?_
  refine zx_callS C het [.int n_a, .int 0, .int 9] (q11_needNumber n_a 0 9) 1 6 3 (c11_needNumber (n_a := n_a) (least_a := 0) (most_a := 9) hkd (zc_inj C) hlt) w_6_83 w_6_81 w_6_82 w_1_1 ⟨rfl, rfl, (Nat.le_of_ble_eq_true rfl), (Nat.le_of_ble_eq_true rfl)⟩ (by decide +kernel) rfl rfl (Nat.le_of_ble_eq_true rfl) ⟨(Nat.le_of_ble_eq_true rfl), (Nat.le_of_ble_eq_true rfl)⟩ dX11_like_10 ⟨(Nat.le_of_ble_eq_true rfl), (Nat.le_of_ble_eq_true rfl)⟩ (fun e9 h4_ => by rw [h4_] at hf; cases hf; exact hω) (fun h3_ => ?_)
  rw [h3_] at hf
  replace hf := thn_x hf
  refine z_aload_n C 0 dX11_like_13 rfl rfl ?_
  refine fg11_54 C hkd dX11_like_14 ?_
  refine z_aload_n C 0 dX11_like_17 rfl rfl ?_
  refine fg11_19 C hkd dX11_like_18 ?_
  obtain ⟨x5_, h6_, hf⟩ := ob hf
  refine cr11_235 (village_a := 44) C hkd isV_44 h6_ ⟨(Nat.le_of_ble_eq_true rfl), (Nat.le_of_ble_eq_true rfl)⟩ (Nat.le_of_ble_eq_true rfl) ⟨(Nat.le_of_ble_eq_true rfl), (Nat.le_of_ble_eq_true rfl)⟩ dX11_like_21 ?_
  refine z_aload_n C 0 dX11_like_24 rfl rfl ?_
  refine fg11_19 C hkd dX11_like_25 ?_
  refine z_iload_n C 1 dX11_like_28 rfl rfl ?_
  refine z_iload_n C 2 dX11_like_29 rfl rfl ?_
  obtain ⟨x7_, h8_, hf⟩ := ob hf
  refine cr11_216 (th := 44) (person_a := person_a) (other_a := other_a) C hkd isV_44 h8_ ⟨(Nat.le_of_ble_eq_true rfl), (Nat.le_of_ble_eq_true rfl)⟩ (Nat.le_of_ble_eq_true rfl) ⟨(Nat.le_of_ble_eq_true rfl), (Nat.le_of_ble_eq_true rfl)⟩ dX11_like_30 ?_
  refine z_ist C dX11_like_33 rfl (Nat.le_of_ble_eq_true rfl) rfl ?_
  refine z_aload_n C 1 dX11_like_35 rfl rfl ?_
  refine fg11_19 C hkd dX11_like_36 ?_
  refine fg11_255 C hkd isV_44 dX11_like_39 ?_
  refine z_iload_n C 2 dX11_like_42 rfl rfl ?_
  refine z_bipush (v := 6) C dX11_like_43 bp_6 ?_
  refine z_imul C dX11_like_45 ?_
  refine z_iload_n C 3 dX11_like_46 rfl rfl ?_
  refine z_iadd C dX11_like_47 ?_
  refine z_iload_n C 4 dX11_like_48 rfl rfl ?_
  obtain ⟨σ9_, h10_, hf⟩ := ob hf
  refine z_sa C h10_ (kV_6 hkd isV_44) dX11_like_49 ?_
  refine z_iload C 0 dX11_like_50 rfl ?_
  cases hf
  subst hω
  exact zx_iret C ⟨(Nat.le_of_ble_eq_true rfl), (Nat.le_of_ble_eq_true rfl)⟩ dX11_like_52
theorem c11_like {l : Launch} {kd : List KD} {w : Wp} {σ : St} {person_a : Int32} {other_a : Int32} {n_a : Int32} (hkd : kd = kdC) (hi : zI kd w) (hlt : l.stackTraces = false) {r : (Sum Nat Int32 × St)} (hf : q11_like σ person_a other_a n_a = some r) : zX l kd w yX11_like cX11_like 5 (some .int) rm11_like [.ref (w.2.2.1 0), .int person_a, .int other_a, .int n_a] σ (om (fun v => some (.int v)) r) 4 24 := zX_of rfl hi (Nat.le_of_ble_eq_true rfl) (fun Θ hl hw C het => by
  obtain ⟨Θ1, Θ2, Θ3, Θ4, Θ5⟩ := Θ
  cases hw
  cases hl
  exact p11_like C hkd hlt het  hf rfl)

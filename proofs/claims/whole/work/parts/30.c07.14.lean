/-! LastLoaf.winner -/
theorem w_6_171 : Cond.methodLink "LastLoaf" (279 : Nat) ({ cls := "LastLoaf$Poll", name := "winnerBy", desc := "(I)I" } : MethodName) ∈ TB := tb_in (lwt_6 (List.mem_of_getElem? (i := 171) (by decide +kernel))) rfl
theorem cr11_279 {Θ : Tz} {cc : ByteArray} {nL kc ks : Nat} {ret : Option FieldType} {rm : Room} {Q : State → Prop} {σ : St} {pc : Nat} {lv : List (Nat × Value)} {st : List Value} (C : Zc Θ cc nL RX11 ret rm) (hkd : Θ.2.2.2.2.1 = kdC) {way_a : Int32} {r : Int32 × St} (hx : q5_winnerBy σ way_a = some r) (hrm : rm5_winnerBy.frames + 1 ≤ rm.frames ∧ 8 + (2 + 11) + rm5_winnerBy.locals ≤ rm.locals) (hcat : (st.map fun v => v.category).sum ≤ 8) (hk : kc ≤ rm.cells ∧ ks ≤ rm.slots) (hd : decode cc pc = .ok (.invokevirtual 279, 3)) (kk : Z Θ nL kc ks Q r.2 (pc + 3) lv (.int r.1 :: st)) : Z Θ nL kc ks Q σ pc lv (.int way_a :: .ref (zA Θ 6) :: st) := z_callV C 6 [.int way_a] (some (.int r.1), r.2) 1 (kC_6 hkd) rfl (c5_winnerBy (way_a := way_a) hkd (zc_inj C) hx) w_3_149 w_6_171 w_3_147 w_3_148 w_1_9 ⟨rfl, rfl, hrm.1, hrm.2⟩ (by decide +kernel) rfl rfl hcat hk hd kk
theorem dX11_winner_0 : decode cX11_winner 0 = .ok (.iload_n 1, 1) := by decide +kernel
theorem dX11_winner_1 : decode cX11_winner 1 = .ok (.iconst 0, 1) := by decide +kernel
theorem dX11_winner_2 : decode cX11_winner 2 = .ok (.iconst 5, 1) := by decide +kernel
theorem dX11_winner_3 : decode cX11_winner 3 = .ok (.invokestatic 231, 3) := by decide +kernel
theorem dX11_winner_6 : decode cX11_winner 6 = .ok (.aload_n 0, 1) := by decide +kernel
theorem dX11_winner_7 : decode cX11_winner 7 = .ok (.invokevirtual 180, 3) := by decide +kernel
theorem dX11_winner_10 : decode cX11_winner 10 = .ok (.iload_n 1, 1) := by decide +kernel
theorem dX11_winner_11 : decode cX11_winner 11 = .ok (.invokevirtual 279, 3) := by decide +kernel
theorem dX11_winner_14 : decode cX11_winner 14 = .ok (.ireturn, 1) := by decide +kernel
def q11_winner (σ : St) (way_a : Int32) : Option (Sum Nat Int32 × St) :=
  thn (q11_needNumber way_a 0 5) σ
  (Option.bind (q11_pollNow σ) fun x3_ =>
  Option.bind (q5_winnerBy x3_.2 way_a) fun x5_ =>
  some (.inr x5_.1, x5_.2))
abbrev rm11_winner : Room := { frames := 7, cells := 1, slots := 6, locals := 116 }
set_option maxHeartbeats 4000000 in
set_option maxRecDepth 100000 in
theorem p11_winner {Θ : Tz} {σ : St} {ω : Om} (C : Zc Θ cX11_winner 2 RX11 (some .int) rm11_winner) (hkd : Θ.2.2.2.2.1 = kdC) (hlt : Θ.1.2.1.stackTraces = false) (het : ∀ x ∈ Θ.2.2.1.2.exceptionTable.toList, False) {way_a : Int32} {r : (Sum Nat Int32 × St)} (hf : q11_winner σ way_a = some r) (hω : ω = om (fun v => some (.int v)) r) : Z Θ 2 0 0 (zQX Θ ω 1 6) σ 0 [(0, .ref (zA Θ 0)), (1, .int way_a)] [] := by
  unfold q11_winner at hf
  refine z_iload_n C 1 dX11_winner_0 rfl rfl ?_
  refine z_iconst (v := 0) C dX11_winner_1 ic_0 ?_
  refine z_iconst (v := 5) C dX11_winner_2 ic_5 ?_
  refine zx_callS C het [.int way_a, .int 0, .int 5] (q11_needNumber way_a 0 5) 1 6 3 (c11_needNumber (n_a := way_a) (least_a := 0) (most_a := 5) hkd (zc_inj C) hlt) w_6_83 w_6_81 w_6_82 w_1_1 ⟨rfl, rfl, (Nat.le_of_ble_eq_true rfl), (Nat.le_of_ble_eq_true rfl)⟩ (by decide +kernel) rfl rfl (Nat.le_of_ble_eq_true rfl) ⟨(Nat.le_of_ble_eq_true rfl), (Nat.le_of_ble_eq_true rfl)⟩ dX11_winner_3 ⟨(Nat.le_of_ble_eq_true rfl), (Nat.le_of_ble_eq_true rfl)⟩ (fun e9 h2_ => by rw [h2_] at hf; cases hf; exact hω) (fun h1_ => ?_)
  rw [h1_] at hf
  replace hf := thn_x hf
  refine z_aload_n C 0 dX11_winner_6 rfl rfl ?_
  obtain ⟨x3_, h4_, hf⟩ := ob hf
  refine cr11_180 C hkd  h4_ ⟨(Nat.le_of_ble_eq_true rfl), (Nat.le_of_ble_eq_true rfl)⟩ (Nat.le_of_ble_eq_true rfl) ⟨(Nat.le_of_ble_eq_true rfl), (Nat.le_of_ble_eq_true rfl)⟩ dX11_winner_7 ?_
  rw [rp11_pollNow h4_]
  refine z_iload_n C 1 dX11_winner_10 rfl rfl ?_
  obtain ⟨x5_, h6_, hf⟩ := ob hf
  refine cr11_279 (way_a := way_a) C hkd  h6_ ⟨(Nat.le_of_ble_eq_true rfl), (Nat.le_of_ble_eq_true rfl)⟩ (Nat.le_of_ble_eq_true rfl) ⟨(Nat.le_of_ble_eq_true rfl), (Nat.le_of_ble_eq_true rfl)⟩ dX11_winner_11 ?_
  cases hf
  subst hω
  exact zx_iret C ⟨(Nat.le_of_ble_eq_true rfl), (Nat.le_of_ble_eq_true rfl)⟩ dX11_winner_14
theorem c11_winner {l : Launch} {kd : List KD} {w : Wp} {σ : St} {way_a : Int32} (hkd : kd = kdC) (hi : zI kd w) (hlt : l.stackTraces = false) {r : (Sum Nat Int32 × St)} (hf : q11_winner σ way_a = some r) : zX l kd w yX11_winner cX11_winner 2 (some .int) rm11_winner [.ref (w.2.2.1 0), .int way_a] σ (om (fun v => some (.int v)) r) 1 6 := zX_of rfl hi (Nat.le_of_ble_eq_true rfl) (fun Θ hl hw C het => by
  obtain ⟨Θ1, Θ2, Θ3, Θ4, Θ5⟩ := Θ
  cases hw
  cases hl
  exact p11_winner C hkd hlt het  hf rfl)

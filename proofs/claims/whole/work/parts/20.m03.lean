/-! LastLoafModel.some -/
theorem w_8_199 : Cond.code ({ cls := "LastLoafModel", name := "every", desc := "()Z" } : MethodName) prog_14_method_38_code (3 : Nat) (Option.some ClassFile.FieldType.boolean) ∈ TB := tb_in (lwt_8 (List.mem_of_getElem? (i := 199) (by decide +kernel))) rfl
theorem w_8_196 : Cond.methodLink "LastLoafModel" (241 : Nat) ({ cls := "LastLoafModel", name := "every", desc := "()Z" } : MethodName) ∈ TB := tb_in (lwt_8 (List.mem_of_getElem? (i := 196) (by decide +kernel))) rfl
theorem w_8_198 : Cond.instanceMethod ({ cls := "LastLoafModel", name := "every", desc := "()Z" } : MethodName) ∈ TB := tb_in (lwt_8 (List.mem_of_getElem? (i := 198) (by decide +kernel))) rfl
theorem ws_LastLoafModel_every__Z : Cond.selects "LastLoafModel" (⟨"LastLoafModel", "every", "()Z"⟩ : MethodName) (⟨"LastLoafModel", "every", "()Z"⟩ : MethodName) ∈ TB := tb_in (List.mem_append_left _ (List.mem_of_getElem? (i := 28) (by decide +kernel))) rfl
theorem cr12_241 {Θ : Tz} {cc : ByteArray} {nL kc ks : Nat} {ret : Option FieldType} {rm : Room} {Q : State → Prop} {σ : St} {pc : Nat} {lv : List (Nat × Value)} {st : List Value} (C : Zc Θ cc nL RX12 ret rm) (hkd : Θ.2.2.2.2.1 = kdM) {A_ : St → Option (Bool × St)} {d_ : Nat} (hA : zRec12_atom Θ.1.2.1 Θ.2.2.2.2.1 Θ.2.2.2.2.2 A_ d_) {r : Bool × St} (hx : q12_every A_ σ = some r) (hrm : (rmR12_every d_).frames + 1 ≤ rm.frames ∧ 8 + (3 + 11) + (rmR12_every d_).locals ≤ rm.locals) (hcat : (st.map fun v => v.category).sum ≤ 8) (hk : kc ≤ rm.cells ∧ ks ≤ rm.slots) (hd : decode cc pc = .ok (.invokevirtual 241, 3)) (kk : Z Θ nL kc ks Q r.2 (pc + 3) lv (.int (b2i r.1) :: st)) : Z Θ nL kc ks Q σ pc lv (.ref (zA Θ 0) :: st) := z_callV C 0 [] (some (.int (b2i r.1)), r.2) 0 (kM_0 hkd) rfl (c12_every hkd (zc_inj C) hA hx) w_8_199 w_8_196 w_8_198 ws_LastLoafModel_every__Z w_1_14 ⟨rfl, rfl, hrm.1, hrm.2⟩ (by decide +kernel) rfl rfl hcat hk hd kk
theorem dX12_some_0 : decode cX12_some 0 = .ok (.aload_n 0, 1) := by decide +kernel
theorem dX12_some_1 : decode cX12_some 1 = .ok (.invokevirtual 241, 3) := by decide +kernel
theorem dX12_some_4 : decode cX12_some 4 = .ok (.istore_n 1, 1) := by decide +kernel
theorem dX12_some_5 : decode cX12_some 5 = .ok (.aload_n 0, 1) := by decide +kernel
theorem dX12_some_6 : decode cX12_some 6 = .ok (.getfield 25, 3) := by decide +kernel
theorem dX12_some_9 : decode cX12_some 9 = .ok (.iconst (-1), 1) := by decide +kernel
theorem dX12_some_10 : decode cX12_some 10 = .ok (.if_icmp .ne 34, 3) := by decide +kernel
theorem dX12_some_13 : decode cX12_some 13 = .ok (.aload_n 0, 1) := by decide +kernel
theorem dX12_some_14 : decode cX12_some 14 = .ok (.ldc 244, 2) := by decide +kernel
theorem dX12_some_16 : decode cX12_some 16 = .ok (.invokevirtual 112, 3) := by decide +kernel
theorem dX12_some_19 : decode cX12_some 19 = .ok (.ifCond .eq 25, 3) := by decide +kernel
theorem dX12_some_22 : decode cX12_some 22 = .ok (.aload_n 0, 1) := by decide +kernel
theorem dX12_some_23 : decode cX12_some 23 = .ok (.invokevirtual 241, 3) := by decide +kernel
theorem dX12_some_26 : decode cX12_some 26 = .ok (.istore_n 2, 1) := by decide +kernel
theorem dX12_some_27 : decode cX12_some 27 = .ok (.iload_n 1, 1) := by decide +kernel
theorem dX12_some_28 : decode cX12_some 28 = .ok (.ifCond .ne 7, 3) := by decide +kernel
theorem dX12_some_31 : decode cX12_some 31 = .ok (.iload_n 2, 1) := by decide +kernel
theorem dX12_some_32 : decode cX12_some 32 = .ok (.ifCond .eq 7, 3) := by decide +kernel
theorem dX12_some_35 : decode cX12_some 35 = .ok (.iconst 1, 1) := by decide +kernel
theorem dX12_some_36 : decode cX12_some 36 = .ok (.goto 4, 3) := by decide +kernel
theorem dX12_some_39 : decode cX12_some 39 = .ok (.iconst 0, 1) := by decide +kernel
theorem dX12_some_40 : decode cX12_some 40 = .ok (.istore_n 1, 1) := by decide +kernel
theorem dX12_some_41 : decode cX12_some 41 = .ok (.goto (-36), 3) := by decide +kernel
theorem dX12_some_44 : decode cX12_some 44 = .ok (.iload_n 1, 1) := by decide +kernel
theorem dX12_some_45 : decode cX12_some 45 = .ok (.ireturn, 1) := by decide +kernel
def q12_some (A_ : St → Option (Bool × St)) (σ : St) : Option (Bool × St) :=
  Option.bind (q12_every A_ σ) fun x1_ =>
  Option.bind (loop2 (fun rec6_ (v9_ : Bool) (σ10_ : St) =>
  Option.bind (if (σ10_ 0 12) = (-1) then (Option.bind (q12_has σ10_ 31) fun x18_ =>
  if x18_.1 = true then (some (true, x18_.2)) else (some (false, x18_.2))) else (some (false, σ10_))) fun t15_ =>
  if t15_.1 = true then
  Option.bind (q12_every A_ t15_.2) fun x22_ =>
  lt (decide ((v9_ = true) ∨ (x22_.1 = true))) fun v30_ =>
  rec6_ v30_ x22_.2
  else (some (v9_, t15_.2))) fuelN x1_.1 x1_.2) fun y3_ =>
  some (y3_.1, y3_.2)
set_option maxHeartbeats 4000000 in
set_option maxRecDepth 100000 in
theorem p12_some {Θ : Tz} {σ : St} {ρ : Option Value × St} {A_ : St → Option (Bool × St)} {d_ : Nat} (hA : zRec12_atom Θ.1.2.1 Θ.2.2.2.2.1 Θ.2.2.2.2.2 A_ d_) (C : Zc Θ cX12_some 3 RX12 (some .boolean) (rmR12_some d_)) (hkd : Θ.2.2.2.2.1 = kdM) {r : (Bool × St)} (hf : q12_some A_ σ = some r) (hρ : ρ = (some (.int (b2i r.1)), r.2)) : Z Θ 3 0 0 (zQ Θ ρ) σ 0 [(0, .ref (zA Θ 0))] [] := by
  unfold q12_some at hf
  refine z_aload_n C 0 dX12_some_0 rfl rfl ?_
  obtain ⟨x1_, h2_, hf⟩ := ob hf
  refine cr12_241 C hkd hA  h2_ ⟨(by dsimp only; omega), (by dsimp only; omega)⟩ (Nat.le_of_ble_eq_true rfl) ⟨Nat.zero_le _, Nat.zero_le _⟩ dX12_some_1 ?_
  refine z_istN C dX12_some_4 rfl rfl (Nat.le_of_ble_eq_true rfl) rfl ?_
  refine Z.sub [1, 0] rfl ?_
  obtain ⟨y3_, h4_, hf⟩ := ob hf
  suffices K5_ : Z Θ 3 0 0 (zQ Θ ρ) y3_.2 44 [(0, .ref (zA Θ 0)), (1, .int (b2i y3_.1))] [] by
    refine loop2_Z (P := fun (v9_ : Bool) (σ10_ : St) => Z Θ 3 0 0 (zQ Θ ρ) σ10_ 5 [(0, .ref (zA Θ 0)), (1, .int (b2i v9_))] []) ?_ fuelN x1_.1 x1_.2 h4_
    clear h4_
    intro rec6_ v9_ σ10_ h7_ h8_
    obtain ⟨t15_, h16_, h8_⟩ := ob h8_
    have K13_ : t15_.1 = true → Z Θ 3 0 0 (zQ Θ ρ) t15_.2 22 [(0, .ref (zA Θ 0)), (1, .int (b2i v9_))] [] := by
      intro h21_
      rw [if_pos h21_] at h8_
      refine z_aload_n C 0 dX12_some_22 rfl rfl ?_
      obtain ⟨x22_, h23_, h8_⟩ := ob h8_
      refine cr12_241 C hkd hA  h23_ ⟨(by dsimp only; omega), (by dsimp only; omega)⟩ (Nat.le_of_ble_eq_true rfl) ⟨Nat.zero_le _, Nat.zero_le _⟩ dX12_some_23 ?_
      refine z_istN C dX12_some_26 rfl rfl (Nat.le_of_ble_eq_true rfl) rfl ?_
      suffices K24_ : Z Θ 3 0 0 (zQ Θ ρ) x22_.2 40 [(2, .int (b2i x22_.1)), (0, .ref (zA Θ 0)), (1, .int (b2i v9_))] [.int (b2i (decide ((v9_ = true) ∨ (x22_.1 = true))))] by
        have K25_ : (v9_ = true) ∨ (x22_.1 = true) → Z Θ 3 0 0 (zQ Θ ρ) x22_.2 35 [(2, .int (b2i x22_.1)), (0, .ref (zA Θ 0)), (1, .int (b2i v9_))] [] := by
          intro h29_
          rw [decide_eq_true h29_] at K24_
          refine z_iconst (v := 1) C dX12_some_35 ic_1 ?_
          refine z_goto C 40 dX12_some_36 (by decide) ?_
          exact K24_
        have K26_ : ¬ ((v9_ = true) ∨ (x22_.1 = true)) → Z Θ 3 0 0 (zQ Θ ρ) x22_.2 39 [(2, .int (b2i x22_.1)), (0, .ref (zA Θ 0)), (1, .int (b2i v9_))] [] := by
          intro h29_
          rw [decide_eq_false h29_] at K24_
          refine z_iconst (v := 0) C dX12_some_39 ic_0 ?_
          exact K24_
        refine z_iload_n C 2 dX12_some_27 rfl rfl ?_
        refine cb_t C 35 dX12_some_28 (by decide) (fun h27_ => ?_) (fun h27_ => ?_)
        · exact K25_ (Or.inl h27_)
        · refine z_iload_n C 0 dX12_some_31 rfl rfl ?_
          refine cb_f C 39 dX12_some_32 (by decide) (fun h28_ => ?_) (fun h28_ => ?_)
          · exact K25_ (Or.inr h28_)
          · exact K26_ (fun n => n.elim h27_ h28_)
      obtain ⟨v30_, h31_, h8_⟩ := lt_ h8_
      refine z_istN C dX12_some_40 (congrArg b2i h31_) rfl (Nat.le_of_ble_eq_true rfl) rfl ?_
      refine z_goto C 5 dX12_some_41 (by decide) ?_
      refine Z.sub [2, 0] rfl ?_
      exact h7_ _ _ h8_
    have K14_ : ¬ (t15_.1 = true) → Z Θ 3 0 0 (zQ Θ ρ) t15_.2 44 [(0, .ref (zA Θ 0)), (1, .int (b2i v9_))] [] := by
      intro h21_
      rw [if_neg h21_] at h8_
      cases h8_
      exact K5_
    refine z_aload_n C 0 dX12_some_5 rfl rfl ?_
    refine fg12_25 C hkd dX12_some_6 ?_
    refine z_iconst (v := (-1)) C dX12_some_9 ic_m1 ?_
    refine c_eq_f C 44 dX12_some_10 (by decide) (fun h17_ => ?_) (fun h17_ => ?_)
    · rw [if_pos h17_] at h16_
      refine z_aload_n C 0 dX12_some_13 rfl rfl ?_
      refine z_ldcs (k := 31) (tx := "or") C (List.mem_of_getElem? (i := 61) rfl) dX12_some_14 ?_
      obtain ⟨x18_, h19_, h16_⟩ := ob h16_
      refine cr12_112 (w_a := 31) C hkd (Nat.le_of_ble_eq_true rfl) h19_ ⟨(by dsimp only; omega), (by dsimp only; omega)⟩ (Nat.le_of_ble_eq_true rfl) ⟨Nat.zero_le _, Nat.zero_le _⟩ dX12_some_16 ?_
      refine cb_f C 44 dX12_some_19 (by decide) (fun h20_ => ?_) (fun h20_ => ?_)
      · rw [if_pos h20_] at h16_
        cases h16_
        exact K13_ rfl
      · rw [if_neg h20_] at h16_
        cases h16_
        exact K14_ Bool.false_ne_true
    · rw [if_neg h17_] at h16_
      cases h16_
      exact K14_ Bool.false_ne_true
  refine z_iload_n C 1 dX12_some_44 rfl rfl ?_
  cases hf
  subst hρ
  exact z_zret C (b2i_narrow _) dX12_some_45
theorem c12_some {l : Launch} {kd : List KD} {w : Wp} {σ : St} {A_ : St → Option (Bool × St)} {d_ : Nat} (hkd : kd = kdM) (hi : zI kd w) (hA : zRec12_atom l kd w A_ d_) {r : (Bool × St)} (hf : q12_some A_ σ = some r) : zM l kd w yX12_some cX12_some 3 (some .boolean) (rmR12_some d_) [.ref (w.2.2.1 0)] σ (some (.int (b2i r.1)), r.2) := zM_of rfl hi (Nat.le_of_ble_eq_true rfl) (fun Θ hl hw C => by
  obtain ⟨Θ1, Θ2, Θ3, Θ4, Θ5⟩ := Θ
  cases hw
  cases hl
  exact p12_some hA C hkd  hf rfl)
/-! LastLoafModel.atom -/
theorem bp_40 : (Int8.ofInt (40)).toInt32 = 40 := by decide +kernel
theorem w_8_212 : Cond.code ({ cls := "LastLoafModel", name := "plain", desc := "()Z" } : MethodName) prog_14_method_36_code (4 : Nat) (Option.some ClassFile.FieldType.boolean) ∈ TB := tb_in (lwt_8 (List.mem_of_getElem? (i := 212) (by decide +kernel))) rfl
theorem w_8_209 : Cond.methodLink "LastLoafModel" (229 : Nat) ({ cls := "LastLoafModel", name := "plain", desc := "()Z" } : MethodName) ∈ TB := tb_in (lwt_8 (List.mem_of_getElem? (i := 209) (by decide +kernel))) rfl
theorem w_8_211 : Cond.instanceMethod ({ cls := "LastLoafModel", name := "plain", desc := "()Z" } : MethodName) ∈ TB := tb_in (lwt_8 (List.mem_of_getElem? (i := 211) (by decide +kernel))) rfl
theorem ws_LastLoafModel_plain__Z : Cond.selects "LastLoafModel" (⟨"LastLoafModel", "plain", "()Z"⟩ : MethodName) (⟨"LastLoafModel", "plain", "()Z"⟩ : MethodName) ∈ TB := tb_in (List.mem_append_left _ (List.mem_of_getElem? (i := 31) (by decide +kernel))) rfl
theorem cr12_229 {Θ : Tz} {cc : ByteArray} {nL kc ks : Nat} {ret : Option FieldType} {rm : Room} {Q : State → Prop} {σ : St} {pc : Nat} {lv : List (Nat × Value)} {st : List Value} (C : Zc Θ cc nL RX12 ret rm) (hkd : Θ.2.2.2.2.1 = kdM) {r : Bool × St} (hx : q12_plain σ = some r) (hrm : rm12_plain.frames + 1 ≤ rm.frames ∧ 8 + (4 + 11) + rm12_plain.locals ≤ rm.locals) (hcat : (st.map fun v => v.category).sum ≤ 8) (hk : kc ≤ rm.cells ∧ ks ≤ rm.slots) (hd : decode cc pc = .ok (.invokevirtual 229, 3)) (kk : Z Θ nL kc ks Q r.2 (pc + 3) lv (.int (b2i r.1) :: st)) : Z Θ nL kc ks Q σ pc lv (.ref (zA Θ 0) :: st) := z_callV C 0 [] (some (.int (b2i r.1)), r.2) 0 (kM_0 hkd) rfl (c12_plain hkd (zc_inj C) hx) w_8_212 w_8_209 w_8_211 ws_LastLoafModel_plain__Z w_1_14 ⟨rfl, rfl, hrm.1, hrm.2⟩ (by decide +kernel) rfl rfl hcat hk hd kk
theorem fg12_173 {Θ : Tz} {cc : ByteArray} {nL kc ks : Nat} {ret : Option FieldType} {rm : Room} {Q : State → Prop} {σ : St} {pc : Nat} {lv : List (Nat × Value)} {st : List Value} (C : Zc Θ cc nL RX12 ret rm) (hkd : Θ.2.2.2.2.1 = kdM) (hd : decode cc pc = .ok (.getfield 173, 3)) (kk : Z Θ nL kc ks Q σ (pc + 3) lv (.int (σ 0 13) :: st)) : Z Θ nL kc ks Q σ pc lv (.ref (zA Θ 0) :: st) := z_get C inT12 0 (kM_0 hkd) rfl 13 (by decide) w_8_40 rfl hd kk
theorem w_8_195 : Cond.code ({ cls := "LastLoafModel", name := "some", desc := "()Z" } : MethodName) prog_14_method_39_code (3 : Nat) (Option.some ClassFile.FieldType.boolean) ∈ TB := tb_in (lwt_8 (List.mem_of_getElem? (i := 195) (by decide +kernel))) rfl
theorem w_8_192 : Cond.methodLink "LastLoafModel" (236 : Nat) ({ cls := "LastLoafModel", name := "some", desc := "()Z" } : MethodName) ∈ TB := tb_in (lwt_8 (List.mem_of_getElem? (i := 192) (by decide +kernel))) rfl
theorem w_8_194 : Cond.instanceMethod ({ cls := "LastLoafModel", name := "some", desc := "()Z" } : MethodName) ∈ TB := tb_in (lwt_8 (List.mem_of_getElem? (i := 194) (by decide +kernel))) rfl
theorem ws_LastLoafModel_some__Z : Cond.selects "LastLoafModel" (⟨"LastLoafModel", "some", "()Z"⟩ : MethodName) (⟨"LastLoafModel", "some", "()Z"⟩ : MethodName) ∈ TB := tb_in (List.mem_append_left _ (List.mem_of_getElem? (i := 27) (by decide +kernel))) rfl
theorem cr12_236 {Θ : Tz} {cc : ByteArray} {nL kc ks : Nat} {ret : Option FieldType} {rm : Room} {Q : State → Prop} {σ : St} {pc : Nat} {lv : List (Nat × Value)} {st : List Value} (C : Zc Θ cc nL RX12 ret rm) (hkd : Θ.2.2.2.2.1 = kdM) {A_ : St → Option (Bool × St)} {d_ : Nat} (hA : zRec12_atom Θ.1.2.1 Θ.2.2.2.2.1 Θ.2.2.2.2.2 A_ d_) {r : Bool × St} (hx : q12_some A_ σ = some r) (hrm : (rmR12_some d_).frames + 1 ≤ rm.frames ∧ 8 + (3 + 11) + (rmR12_some d_).locals ≤ rm.locals) (hcat : (st.map fun v => v.category).sum ≤ 8) (hk : kc ≤ rm.cells ∧ ks ≤ rm.slots) (hd : decode cc pc = .ok (.invokevirtual 236, 3)) (kk : Z Θ nL kc ks Q r.2 (pc + 3) lv (.int (b2i r.1) :: st)) : Z Θ nL kc ks Q σ pc lv (.ref (zA Θ 0) :: st) := z_callV C 0 [] (some (.int (b2i r.1)), r.2) 0 (kM_0 hkd) rfl (c12_some hkd (zc_inj C) hA hx) w_8_195 w_8_192 w_8_194 ws_LastLoafModel_some__Z w_1_14 ⟨rfl, rfl, hrm.1, hrm.2⟩ (by decide +kernel) rfl rfl hcat hk hd kk
theorem bp_41 : (Int8.ofInt (41)).toInt32 = 41 := by decide +kernel
theorem dX12_atom_0 : decode cX12_atom 0 = .ok (.aload_n 0, 1) := by decide +kernel
theorem dX12_atom_1 : decode cX12_atom 1 = .ok (.getfield 25, 3) := by decide +kernel
theorem dX12_atom_4 : decode cX12_atom 4 = .ok (.iconst (-1), 1) := by decide +kernel
theorem dX12_atom_5 : decode cX12_atom 5 = .ok (.if_icmp .eq 5, 3) := by decide +kernel
theorem dX12_atom_8 : decode cX12_atom 8 = .ok (.iconst 0, 1) := by decide +kernel
theorem dX12_atom_9 : decode cX12_atom 9 = .ok (.ireturn, 1) := by decide +kernel
theorem dX12_atom_10 : decode cX12_atom 10 = .ok (.aload_n 0, 1) := by decide +kernel
theorem dX12_atom_11 : decode cX12_atom 11 = .ok (.invokevirtual 105, 3) := by decide +kernel
theorem dX12_atom_14 : decode cX12_atom 14 = .ok (.istore_n 1, 1) := by decide +kernel
theorem dX12_atom_15 : decode cX12_atom 15 = .ok (.aload_n 0, 1) := by decide +kernel
theorem dX12_atom_16 : decode cX12_atom 16 = .ok (.ldc 227, 2) := by decide +kernel
theorem dX12_atom_18 : decode cX12_atom 18 = .ok (.invokevirtual 112, 3) := by decide +kernel
theorem dX12_atom_21 : decode cX12_atom 21 = .ok (.istore_n 2, 1) := by decide +kernel
theorem dX12_atom_22 : decode cX12_atom 22 = .ok (.iload_n 2, 1) := by decide +kernel
theorem dX12_atom_23 : decode cX12_atom 23 = .ok (.ifCond .ne 17, 3) := by decide +kernel
theorem dX12_atom_26 : decode cX12_atom 26 = .ok (.aload_n 0, 1) := by decide +kernel
theorem dX12_atom_27 : decode cX12_atom 27 = .ok (.bipush 40, 2) := by decide +kernel
theorem dX12_atom_29 : decode cX12_atom 29 = .ok (.invokevirtual 182, 3) := by decide +kernel
theorem dX12_atom_32 : decode cX12_atom 32 = .ok (.ifCond .ne 8, 3) := by decide +kernel
theorem dX12_atom_35 : decode cX12_atom 35 = .ok (.aload_n 0, 1) := by decide +kernel
theorem dX12_atom_36 : decode cX12_atom 36 = .ok (.invokevirtual 229, 3) := by decide +kernel
theorem dX12_atom_39 : decode cX12_atom 39 = .ok (.ireturn, 1) := by decide +kernel
theorem dX12_atom_40 : decode cX12_atom 40 = .ok (.aload_n 0, 1) := by decide +kernel
theorem dX12_atom_41 : decode cX12_atom 41 = .ok (.getfield 173, 3) := by decide +kernel
theorem dX12_atom_44 : decode cX12_atom 44 = .ok (.bipush 6, 2) := by decide +kernel
theorem dX12_atom_46 : decode cX12_atom 46 = .ok (.if_icmp .ne 10, 3) := by decide +kernel
theorem dX12_atom_49 : decode cX12_atom 49 = .ok (.aload_n 0, 1) := by decide +kernel
theorem dX12_atom_50 : decode cX12_atom 50 = .ok (.iload_n 1, 1) := by decide +kernel
theorem dX12_atom_51 : decode cX12_atom 51 = .ok (.invokevirtual 108, 3) := by decide +kernel
theorem dX12_atom_54 : decode cX12_atom 54 = .ok (.iconst 0, 1) := by decide +kernel
theorem dX12_atom_55 : decode cX12_atom 55 = .ok (.ireturn, 1) := by decide +kernel
theorem dX12_atom_56 : decode cX12_atom 56 = .ok (.aload_n 0, 1) := by decide +kernel
theorem dX12_atom_57 : decode cX12_atom 57 = .ok (.dup, 1) := by decide +kernel
theorem dX12_atom_58 : decode cX12_atom 58 = .ok (.getfield 173, 3) := by decide +kernel
theorem dX12_atom_61 : decode cX12_atom 61 = .ok (.iconst 1, 1) := by decide +kernel
theorem dX12_atom_62 : decode cX12_atom 62 = .ok (.iadd, 1) := by decide +kernel
theorem dX12_atom_63 : decode cX12_atom 63 = .ok (.putfield 173, 3) := by decide +kernel
theorem dX12_atom_66 : decode cX12_atom 66 = .ok (.iconst 0, 1) := by decide +kernel
theorem dX12_atom_67 : decode cX12_atom 67 = .ok (.istore_n 3, 1) := by decide +kernel
theorem dX12_atom_68 : decode cX12_atom 68 = .ok (.iload_n 2, 1) := by decide +kernel
theorem dX12_atom_69 : decode cX12_atom 69 = .ok (.ifCond .eq 19, 3) := by decide +kernel
theorem dX12_atom_72 : decode cX12_atom 72 = .ok (.aload_n 0, 1) := by decide +kernel
theorem dX12_atom_73 : decode cX12_atom 73 = .ok (.invokevirtual 233, 3) := by decide +kernel
theorem dX12_atom_76 : decode cX12_atom 76 = .ok (.ifCond .ne 7, 3) := by decide +kernel
theorem dX12_atom_79 : decode cX12_atom 79 = .ok (.iconst 1, 1) := by decide +kernel
theorem dX12_atom_80 : decode cX12_atom 80 = .ok (.goto 4, 3) := by decide +kernel
theorem dX12_atom_83 : decode cX12_atom 83 = .ok (.iconst 0, 1) := by decide +kernel
theorem dX12_atom_84 : decode cX12_atom 84 = .ok (.istore_n 3, 1) := by decide +kernel
theorem dX12_atom_85 : decode cX12_atom 85 = .ok (.goto 53, 3) := by decide +kernel
theorem dX12_atom_88 : decode cX12_atom 88 = .ok (.aload_n 0, 1) := by decide +kernel
theorem dX12_atom_89 : decode cX12_atom 89 = .ok (.dup, 1) := by decide +kernel
theorem dX12_atom_90 : decode cX12_atom 90 = .ok (.getfield 82, 3) := by decide +kernel
theorem dX12_atom_93 : decode cX12_atom 93 = .ok (.iconst 1, 1) := by decide +kernel
theorem dX12_atom_94 : decode cX12_atom 94 = .ok (.iadd, 1) := by decide +kernel
theorem dX12_atom_95 : decode cX12_atom 95 = .ok (.putfield 82, 3) := by decide +kernel
theorem dX12_atom_98 : decode cX12_atom 98 = .ok (.aload_n 0, 1) := by decide +kernel
theorem dX12_atom_99 : decode cX12_atom 99 = .ok (.invokevirtual 236, 3) := by decide +kernel
theorem dX12_atom_102 : decode cX12_atom 102 = .ok (.istore_n 3, 1) := by decide +kernel
theorem dX12_atom_103 : decode cX12_atom 103 = .ok (.aload_n 0, 1) := by decide +kernel
theorem dX12_atom_104 : decode cX12_atom 104 = .ok (.getfield 25, 3) := by decide +kernel
theorem dX12_atom_107 : decode cX12_atom 107 = .ok (.iconst (-1), 1) := by decide +kernel
theorem dX12_atom_108 : decode cX12_atom 108 = .ok (.if_icmp .ne 20, 3) := by decide +kernel
theorem dX12_atom_111 : decode cX12_atom 111 = .ok (.aload_n 0, 1) := by decide +kernel
theorem dX12_atom_112 : decode cX12_atom 112 = .ok (.bipush 41, 2) := by decide +kernel
theorem dX12_atom_114 : decode cX12_atom 114 = .ok (.invokevirtual 182, 3) := by decide +kernel
theorem dX12_atom_117 : decode cX12_atom 117 = .ok (.ifCond .ne 11, 3) := by decide +kernel
theorem dX12_atom_120 : decode cX12_atom 120 = .ok (.aload_n 0, 1) := by decide +kernel
theorem dX12_atom_121 : decode cX12_atom 121 = .ok (.aload_n 0, 1) := by decide +kernel
theorem dX12_atom_122 : decode cX12_atom 122 = .ok (.getfield 82, 3) := by decide +kernel
theorem dX12_atom_125 : decode cX12_atom 125 = .ok (.invokevirtual 108, 3) := by decide +kernel
theorem dX12_atom_128 : decode cX12_atom 128 = .ok (.aload_n 0, 1) := by decide +kernel
theorem dX12_atom_129 : decode cX12_atom 129 = .ok (.dup, 1) := by decide +kernel
theorem dX12_atom_130 : decode cX12_atom 130 = .ok (.getfield 82, 3) := by decide +kernel
theorem dX12_atom_133 : decode cX12_atom 133 = .ok (.iconst 1, 1) := by decide +kernel
theorem dX12_atom_134 : decode cX12_atom 134 = .ok (.iadd, 1) := by decide +kernel
theorem dX12_atom_135 : decode cX12_atom 135 = .ok (.putfield 82, 3) := by decide +kernel
theorem dX12_atom_138 : decode cX12_atom 138 = .ok (.aload_n 0, 1) := by decide +kernel
theorem dX12_atom_139 : decode cX12_atom 139 = .ok (.dup, 1) := by decide +kernel
theorem dX12_atom_140 : decode cX12_atom 140 = .ok (.getfield 173, 3) := by decide +kernel
theorem dX12_atom_143 : decode cX12_atom 143 = .ok (.iconst 1, 1) := by decide +kernel
theorem dX12_atom_144 : decode cX12_atom 144 = .ok (.isub, 1) := by decide +kernel
theorem dX12_atom_145 : decode cX12_atom 145 = .ok (.putfield 173, 3) := by decide +kernel
theorem dX12_atom_148 : decode cX12_atom 148 = .ok (.iload_n 3, 1) := by decide +kernel
theorem dX12_atom_149 : decode cX12_atom 149 = .ok (.ireturn, 1) := by decide +kernel
def q12_atomB (A_ : St → Option (Bool × St)) (σ : St) : Option (Bool × St) :=
  if ¬ (σ 0 12) = (-1) then (some (false, σ)) else
  Option.bind (q12_here σ) fun x5_ =>
  Option.bind (q12_has x5_.2 23) fun x7_ =>
  Option.bind (if x7_.1 = true then (some (false, x7_.2)) else (Option.bind (q12_isSign x7_.2 40) fun x14_ =>
  if x14_.1 = true then (some (false, x14_.2)) else (some (true, x14_.2)))) fun t11_ =>
  if t11_.1 = true then (Option.bind (q12_plain t11_.2) fun x18_ =>
  some (x18_.1, x18_.2)) else
  if (t11_.2 0 13) = 6 then (Option.bind (q12_wrong t11_.2 x5_.1) fun x24_ =>
  some (false, x24_)) else
  lt (up t11_.2 0 13 ((t11_.2 0 13) + 1)) fun σ26_ =>
  Option.bind (if x7_.1 = true then (Option.bind (Option.bind (A_ σ26_) fun x40_ =>
  if ¬ (x40_.1 = true) then (some (true, x40_.2)) else (some (false, x40_.2))) fun x35_ =>
  some (x35_.1, x35_.2)) else (lt (up σ26_ 0 11 ((σ26_ 0 11) + 1)) fun σ44_ =>
  Option.bind (q12_some A_ σ44_) fun x46_ =>
  Option.bind (Option.bind (if (x46_.2 0 12) = (-1) then (Option.bind (q12_isSign x46_.2 41) fun x56_ =>
  if x56_.1 = true then (some (false, x56_.2)) else (some (true, x56_.2))) else (some (false, x46_.2))) fun t53_ =>
  if t53_.1 = true then (Option.bind (q12_wrong t53_.2 (t53_.2 0 11)) fun x60_ =>
  some (x60_)) else (some (t53_.2))) fun y48_ =>
  lt (up y48_ 0 11 ((y48_ 0 11) + 1)) fun σ62_ =>
  some (x46_.1, σ62_))) fun y28_ =>
  lt (up y28_.2 0 13 ((y28_.2 0 13) - 1)) fun σ64_ =>
  some (y28_.1, σ64_)
set_option maxHeartbeats 4000000 in
set_option maxRecDepth 100000 in
theorem p12_atom {Θ : Tz} {σ : St} {ρ : Option Value × St} {A_ : St → Option (Bool × St)} {d_ : Nat} (hA : zRec12_atom Θ.1.2.1 Θ.2.2.2.2.1 Θ.2.2.2.2.2 A_ d_) (C : Zc Θ cX12_atom 4 RX12 (some .boolean) (rmR12_atom (d_ + 1))) (hkd : Θ.2.2.2.2.1 = kdM) {r : (Bool × St)} (hf : q12_atomB A_ σ = some r) (hρ : ρ = (some (.int (b2i r.1)), r.2)) : Z Θ 4 0 0 (zQ Θ ρ) σ 0 [(0, .ref (zA Θ 0))] [] := by
  unfold q12_atomB at hf
  have K1_ : ¬ (σ 0 12) = (-1) → Z Θ 4 0 0 (zQ Θ ρ) σ 8 [(0, .ref (zA Θ 0))] [] := by
    intro h4_
    rw [if_pos h4_] at hf
    refine z_iconst (v := 0) C dX12_atom_8 ic_0 ?_
    cases hf
    subst hρ
    exact z_zret C (b2i_narrow _) dX12_atom_9
  suffices K2_ : ¬ (¬ (σ 0 12) = (-1)) → Z Θ 4 0 0 (zQ Θ ρ) σ 10 [(0, .ref (zA Θ 0))] [] by
    refine z_aload_n C 0 dX12_atom_0 rfl rfl ?_
    refine fg12_25 C hkd dX12_atom_1 ?_
    refine z_iconst (v := (-1)) C dX12_atom_4 ic_m1 ?_
    refine c_ne_f C 10 dX12_atom_5 (by decide) (fun h3_ => ?_) (fun h3_ => ?_)
    · exact K1_ h3_
    · exact K2_ h3_
  intro h4_
  rw [if_neg h4_] at hf
  refine z_aload_n C 0 dX12_atom_10 rfl rfl ?_
  obtain ⟨x5_, h6_, hf⟩ := ob hf
  refine cr12_105 C hkd  h6_ ⟨(by dsimp only; omega), (by dsimp only; omega)⟩ (Nat.le_of_ble_eq_true rfl) ⟨Nat.zero_le _, Nat.zero_le _⟩ dX12_atom_11 ?_
  refine z_istN C dX12_atom_14 rfl rfl (Nat.le_of_ble_eq_true rfl) rfl ?_
  refine z_aload_n C 1 dX12_atom_15 rfl rfl ?_
  refine z_ldcs (k := 23) (tx := "not") C (List.mem_of_getElem? (i := 50) rfl) dX12_atom_16 ?_
  obtain ⟨x7_, h8_, hf⟩ := ob hf
  refine cr12_112 (w_a := 23) C hkd (Nat.le_of_ble_eq_true rfl) h8_ ⟨(by dsimp only; omega), (by dsimp only; omega)⟩ (Nat.le_of_ble_eq_true rfl) ⟨Nat.zero_le _, Nat.zero_le _⟩ dX12_atom_18 ?_
  refine z_istN C dX12_atom_21 rfl rfl (Nat.le_of_ble_eq_true rfl) rfl ?_
  obtain ⟨t11_, h12_, hf⟩ := ob hf
  have K9_ : t11_.1 = true → Z Θ 4 0 0 (zQ Θ ρ) t11_.2 35 [(2, .int (b2i x7_.1)), (1, .int x5_.1), (0, .ref (zA Θ 0))] [] := by
    intro h17_
    rw [if_pos h17_] at hf
    refine z_aload_n C 2 dX12_atom_35 rfl rfl ?_
    obtain ⟨x18_, h19_, hf⟩ := ob hf
    refine cr12_229 C hkd  h19_ ⟨(by dsimp only; omega), (by dsimp only; omega)⟩ (Nat.le_of_ble_eq_true rfl) ⟨Nat.zero_le _, Nat.zero_le _⟩ dX12_atom_36 ?_
    cases hf
    subst hρ
    exact z_zret C (b2i_narrow _) dX12_atom_39
  suffices K10_ : ¬ (t11_.1 = true) → Z Θ 4 0 0 (zQ Θ ρ) t11_.2 40 [(2, .int (b2i x7_.1)), (1, .int x5_.1), (0, .ref (zA Θ 0))] [] by
    refine z_iload_n C 0 dX12_atom_22 rfl rfl ?_
    refine cb_t C 40 dX12_atom_23 (by decide) (fun h13_ => ?_) (fun h13_ => ?_)
    · rw [if_pos h13_] at h12_
      cases h12_
      exact K10_ Bool.false_ne_true
    · rw [if_neg h13_] at h12_
      refine z_aload_n C 2 dX12_atom_26 rfl rfl ?_
      refine z_bipush (v := 40) C dX12_atom_27 bp_40 ?_
      obtain ⟨x14_, h15_, h12_⟩ := ob h12_
      refine cr12_182 (c_a := 40) C hkd  h15_ ⟨(by dsimp only; omega), (by dsimp only; omega)⟩ (Nat.le_of_ble_eq_true rfl) ⟨Nat.zero_le _, Nat.zero_le _⟩ dX12_atom_29 ?_
      refine cb_t C 40 dX12_atom_32 (by decide) (fun h16_ => ?_) (fun h16_ => ?_)
      · rw [if_pos h16_] at h12_
        cases h12_
        exact K10_ Bool.false_ne_true
      · rw [if_neg h16_] at h12_
        cases h12_
        exact K9_ rfl
  intro h17_
  rw [if_neg h17_] at hf
  have K20_ : (t11_.2 0 13) = 6 → Z Θ 4 0 0 (zQ Θ ρ) t11_.2 49 [(2, .int (b2i x7_.1)), (1, .int x5_.1), (0, .ref (zA Θ 0))] [] := by
    intro h23_
    rw [if_pos h23_] at hf
    refine z_aload_n C 2 dX12_atom_49 rfl rfl ?_
    refine z_iload_n C 1 dX12_atom_50 rfl rfl ?_
    obtain ⟨x24_, h25_, hf⟩ := ob hf
    refine cr12_108 (where_a := x5_.1) C hkd  h25_ ⟨(by dsimp only; omega), (by dsimp only; omega)⟩ (Nat.le_of_ble_eq_true rfl) ⟨Nat.zero_le _, Nat.zero_le _⟩ dX12_atom_51 ?_
    refine z_iconst (v := 0) C dX12_atom_54 ic_0 ?_
    cases hf
    subst hρ
    exact z_zret C (b2i_narrow _) dX12_atom_55
  suffices K21_ : ¬ ((t11_.2 0 13) = 6) → Z Θ 4 0 0 (zQ Θ ρ) t11_.2 56 [(2, .int (b2i x7_.1)), (1, .int x5_.1), (0, .ref (zA Θ 0))] [] by
    refine z_aload_n C 2 dX12_atom_40 rfl rfl ?_
    refine fg12_173 C hkd dX12_atom_41 ?_
    refine z_bipush (v := 6) C dX12_atom_44 bp_6 ?_
    refine c_eq_f C 56 dX12_atom_46 (by decide) (fun h22_ => ?_) (fun h22_ => ?_)
    · exact K20_ h22_
    · exact K21_ h22_
  intro h23_
  rw [if_neg h23_] at hf
  refine z_aload_n C 2 dX12_atom_56 rfl rfl ?_
  refine z_dup C dX12_atom_57 rfl ?_
  refine fg12_173 C hkd dX12_atom_58 ?_
  refine z_iconst (v := 1) C dX12_atom_61 ic_1 ?_
  refine z_iadd C dX12_atom_62 ?_
  obtain ⟨σ26_, h27_, hf⟩ := lt_ hf
  refine fp12_173 C hkd h27_ dX12_atom_63 ?_
  refine z_iconst (v := 0) C dX12_atom_66 ic_0 ?_
  refine z_istN C dX12_atom_67 rfl rfl (Nat.le_of_ble_eq_true rfl) rfl ?_
  obtain ⟨y28_, h29_, hf⟩ := ob hf
  suffices K30_ : Z Θ 4 0 0 (zQ Θ ρ) y28_.2 138 [(0, .ref (zA Θ 0)), (1, .int x5_.1), (2, .int (b2i x7_.1)), (3, .int (b2i y28_.1))] [] by
    have K31_ : x7_.1 = true → Z Θ 4 0 0 (zQ Θ ρ) σ26_ 72 [(3, .int (b2i false)), (2, .int (b2i x7_.1)), (1, .int x5_.1), (0, .ref (zA Θ 0))] [] := by
      intro h34_
      rw [if_pos h34_] at h29_
      obtain ⟨x35_, h36_, h29_⟩ := ob h29_
      suffices K37_ : Z Θ 4 0 0 (zQ Θ ρ) x35_.2 84 [(3, .int (b2i false)), (2, .int (b2i x7_.1)), (1, .int x5_.1), (0, .ref (zA Θ 0))] [.int (b2i x35_.1)] by
        refine z_aload_n C 3 dX12_atom_72 rfl rfl ?_
        obtain ⟨x40_, h41_, h36_⟩ := ob h36_
        refine cr12_233 C hkd hA  h41_ ⟨(by dsimp only; omega), (by dsimp only; omega)⟩ (Nat.le_of_ble_eq_true rfl) ⟨Nat.zero_le _, Nat.zero_le _⟩ dX12_atom_73 ?_
        have K38_ : ¬ (x40_.1 = true) → Z Θ 4 0 0 (zQ Θ ρ) x40_.2 79 [(3, .int (b2i false)), (2, .int (b2i x7_.1)), (1, .int x5_.1), (0, .ref (zA Θ 0))] [] := by
          intro h43_
          rw [if_pos h43_] at h36_
          refine z_iconst (v := 1) C dX12_atom_79 ic_1 ?_
          refine z_goto C 84 dX12_atom_80 (by decide) ?_
          cases h36_
          exact K37_
        have K39_ : ¬ (¬ (x40_.1 = true)) → Z Θ 4 0 0 (zQ Θ ρ) x40_.2 83 [(3, .int (b2i false)), (2, .int (b2i x7_.1)), (1, .int x5_.1), (0, .ref (zA Θ 0))] [] := by
          intro h43_
          rw [if_neg h43_] at h36_
          refine z_iconst (v := 0) C dX12_atom_83 ic_0 ?_
          cases h36_
          exact K37_
        refine cb_t C 83 dX12_atom_76 (by decide) (fun h42_ => ?_) (fun h42_ => ?_)
        · exact K39_ (fun n => n h42_)
        · exact K38_ h42_
      refine z_istN C dX12_atom_84 rfl rfl (Nat.le_of_ble_eq_true rfl) rfl ?_
      refine z_goto C 138 dX12_atom_85 (by decide) ?_
      cases h29_
      refine Z.sub [3, 2, 1, 0] rfl ?_
      exact K30_
    have K32_ : ¬ (x7_.1 = true) → Z Θ 4 0 0 (zQ Θ ρ) σ26_ 88 [(3, .int (b2i false)), (2, .int (b2i x7_.1)), (1, .int x5_.1), (0, .ref (zA Θ 0))] [] := by
      intro h34_
      rw [if_neg h34_] at h29_
      refine z_aload_n C 3 dX12_atom_88 rfl rfl ?_
      refine z_dup C dX12_atom_89 rfl ?_
      refine fg12_82 C hkd dX12_atom_90 ?_
      refine z_iconst (v := 1) C dX12_atom_93 ic_1 ?_
      refine z_iadd C dX12_atom_94 ?_
      obtain ⟨σ44_, h45_, h29_⟩ := lt_ h29_
      refine fp12_82 C hkd h45_ dX12_atom_95 ?_
      refine z_aload_n C 3 dX12_atom_98 rfl rfl ?_
      obtain ⟨x46_, h47_, h29_⟩ := ob h29_
      refine cr12_236 C hkd hA  h47_ ⟨(by dsimp only; omega), (by dsimp only; omega)⟩ (Nat.le_of_ble_eq_true rfl) ⟨Nat.zero_le _, Nat.zero_le _⟩ dX12_atom_99 ?_
      refine z_istN C dX12_atom_102 rfl rfl (Nat.le_of_ble_eq_true rfl) rfl ?_
      obtain ⟨y48_, h49_, h29_⟩ := ob h29_
      suffices K50_ : Z Θ 4 0 0 (zQ Θ ρ) y48_ 128 [(0, .ref (zA Θ 0)), (1, .int x5_.1), (2, .int (b2i x7_.1)), (3, .int (b2i x46_.1))] [] by
        obtain ⟨t53_, h54_, h49_⟩ := ob h49_
        have K51_ : t53_.1 = true → Z Θ 4 0 0 (zQ Θ ρ) t53_.2 120 [(3, .int (b2i x46_.1)), (2, .int (b2i x7_.1)), (1, .int x5_.1), (0, .ref (zA Θ 0))] [] := by
          intro h59_
          rw [if_pos h59_] at h49_
          refine z_aload_n C 3 dX12_atom_120 rfl rfl ?_
          refine z_aload_n C 3 dX12_atom_121 rfl rfl ?_
          refine fg12_82 C hkd dX12_atom_122 ?_
          obtain ⟨x60_, h61_, h49_⟩ := ob h49_
          refine cr12_108 (where_a := (t53_.2 0 11)) C hkd  h61_ ⟨(by dsimp only; omega), (by dsimp only; omega)⟩ (Nat.le_of_ble_eq_true rfl) ⟨Nat.zero_le _, Nat.zero_le _⟩ dX12_atom_125 ?_
          cases h49_
          refine Z.sub [3, 2, 1, 0] rfl ?_
          exact K50_
        have K52_ : ¬ (t53_.1 = true) → Z Θ 4 0 0 (zQ Θ ρ) t53_.2 128 [(3, .int (b2i x46_.1)), (2, .int (b2i x7_.1)), (1, .int x5_.1), (0, .ref (zA Θ 0))] [] := by
          intro h59_
          rw [if_neg h59_] at h49_
          cases h49_
          refine Z.sub [3, 2, 1, 0] rfl ?_
          exact K50_
        refine z_aload_n C 3 dX12_atom_103 rfl rfl ?_
        refine fg12_25 C hkd dX12_atom_104 ?_
        refine z_iconst (v := (-1)) C dX12_atom_107 ic_m1 ?_
        refine c_eq_f C 128 dX12_atom_108 (by decide) (fun h55_ => ?_) (fun h55_ => ?_)
        · rw [if_pos h55_] at h54_
          refine z_aload_n C 3 dX12_atom_111 rfl rfl ?_
          refine z_bipush (v := 41) C dX12_atom_112 bp_41 ?_
          obtain ⟨x56_, h57_, h54_⟩ := ob h54_
          refine cr12_182 (c_a := 41) C hkd  h57_ ⟨(by dsimp only; omega), (by dsimp only; omega)⟩ (Nat.le_of_ble_eq_true rfl) ⟨Nat.zero_le _, Nat.zero_le _⟩ dX12_atom_114 ?_
          refine cb_t C 128 dX12_atom_117 (by decide) (fun h58_ => ?_) (fun h58_ => ?_)
          · rw [if_pos h58_] at h54_
            cases h54_
            exact K52_ Bool.false_ne_true
          · rw [if_neg h58_] at h54_
            cases h54_
            exact K51_ rfl
        · rw [if_neg h55_] at h54_
          cases h54_
          exact K52_ Bool.false_ne_true
      refine z_aload_n C 0 dX12_atom_128 rfl rfl ?_
      refine z_dup C dX12_atom_129 rfl ?_
      refine fg12_82 C hkd dX12_atom_130 ?_
      refine z_iconst (v := 1) C dX12_atom_133 ic_1 ?_
      refine z_iadd C dX12_atom_134 ?_
      obtain ⟨σ62_, h63_, h29_⟩ := lt_ h29_
      refine fp12_82 C hkd h63_ dX12_atom_135 ?_
      cases h29_
      exact K30_
    refine z_iload_n C 1 dX12_atom_68 rfl rfl ?_
    refine cb_f C 88 dX12_atom_69 (by decide) (fun h33_ => ?_) (fun h33_ => ?_)
    · exact K31_ h33_
    · exact K32_ h33_
  refine z_aload_n C 0 dX12_atom_138 rfl rfl ?_
  refine z_dup C dX12_atom_139 rfl ?_
  refine fg12_173 C hkd dX12_atom_140 ?_
  refine z_iconst (v := 1) C dX12_atom_143 ic_1 ?_
  refine z_isub C dX12_atom_144 ?_
  obtain ⟨σ64_, h65_, hf⟩ := lt_ hf
  refine fp12_173 C hkd h65_ dX12_atom_145 ?_
  refine z_iload_n C 3 dX12_atom_148 rfl rfl ?_
  cases hf
  subst hρ
  exact z_zret C (b2i_narrow _) dX12_atom_149
theorem cb12_atom {l : Launch} {kd : List KD} {w : Wp} {σ : St} {A_ : St → Option (Bool × St)} {d_ : Nat} (hkd : kd = kdM) (hi : zI kd w) (hA : zRec12_atom l kd w A_ d_) {r : (Bool × St)} (hf : q12_atomB A_ σ = some r) : zM l kd w yX12_atom cX12_atom 4 (some .boolean) (rmR12_atom (d_ + 1)) [.ref (w.2.2.1 0)] σ (some (.int (b2i r.1)), r.2) := zM_of rfl hi (Nat.le_of_ble_eq_true rfl) (fun Θ hl hw C => by
  obtain ⟨Θ1, Θ2, Θ3, Θ4, Θ5⟩ := Θ
  cases hw
  cases hl
  exact p12_atom hA C hkd  hf rfl)
def q12_atom : Nat → St → Option (Bool × St)
  | 0 => fun _  => none
  | d + 1 => q12_atomB (q12_atom d)
theorem rec12_atom {l : Launch} {kd : List KD} {w : Wp} (hkd : kd = kdM) (hi : zI kd w) : ∀ d, zRec12_atom l kd w (q12_atom d) d
  | 0 => fun h => by cases h
  | d + 1 => fun h => cb12_atom hkd hi (rec12_atom hkd hi d) h
/-! LastLoafModel.lawLine -/
theorem w_8_45 : Cond.fieldLink "LastLoafModel" (254 : Nat) "LastLoafModel" "abstains" "Z" ∈ TB := tb_in (lwt_8 (List.mem_of_getElem? (i := 45) (by decide +kernel))) rfl
theorem fg12_254 {Θ : Tz} {cc : ByteArray} {nL kc ks : Nat} {ret : Option FieldType} {rm : Room} {Q : State → Prop} {σ : St} {pc : Nat} {lv : List (Nat × Value)} {st : List Value} (C : Zc Θ cc nL RX12 ret rm) (hkd : Θ.2.2.2.2.1 = kdM) (hd : decode cc pc = .ok (.getfield 254, 3)) (kk : Z Θ nL kc ks Q σ (pc + 3) lv (.int (σ 0 18) :: st)) : Z Θ nL kc ks Q σ pc lv (.ref (zA Θ 0) :: st) := z_get C inT12 0 (kM_0 hkd) rfl 18 (by decide) w_8_45 rfl hd kk
theorem fp12_254 {Θ : Tz} {cc : ByteArray} {nL kc ks : Nat} {ret : Option FieldType} {rm : Room} {Q : State → Prop} {σ : St} {pc : Nat} {lv : List (Nat × Value)} {st : List Value} (C : Zc Θ cc nL RX12 ret rm) (hkd : Θ.2.2.2.2.1 = kdM) {b : Bool} {σ1 : St} (he : σ1 = up σ 0 18 (b2i b)) (hd : decode cc pc = .ok (.putfield 254, 3)) (kk : Z Θ nL kc ks Q σ1 (pc + 3) lv st) : Z Θ nL kc ks Q σ pc lv (.int (b2i b) :: .ref (zA Θ 0) :: st) := by subst he; exact z_put C inT12 tyX12_ok nmX12 0 (kM_0 hkd) rfl 18 (by decide) w_8_45 rfl rfl (b2i_narrow b) (b2i_fits b) hd kk
theorem w_8_44 : Cond.fieldLink "LastLoafModel" (257 : Nat) "LastLoafModel" "sways" "I" ∈ TB := tb_in (lwt_8 (List.mem_of_getElem? (i := 44) (by decide +kernel))) rfl
theorem fg12_257 {Θ : Tz} {cc : ByteArray} {nL kc ks : Nat} {ret : Option FieldType} {rm : Room} {Q : State → Prop} {σ : St} {pc : Nat} {lv : List (Nat × Value)} {st : List Value} (C : Zc Θ cc nL RX12 ret rm) (hkd : Θ.2.2.2.2.1 = kdM) (hd : decode cc pc = .ok (.getfield 257, 3)) (kk : Z Θ nL kc ks Q σ (pc + 3) lv (.int (σ 0 17) :: st)) : Z Θ nL kc ks Q σ pc lv (.ref (zA Θ 0) :: st) := z_get C inT12 0 (kM_0 hkd) rfl 17 (by decide) w_8_44 rfl hd kk
theorem fp12_257 {Θ : Tz} {cc : ByteArray} {nL kc ks : Nat} {ret : Option FieldType} {rm : Room} {Q : State → Prop} {σ : St} {pc : Nat} {lv : List (Nat × Value)} {st : List Value} (C : Zc Θ cc nL RX12 ret rm) (hkd : Θ.2.2.2.2.1 = kdM) {x : Int32} {σ1 : St} (he : σ1 = up σ 0 17 x) (hd : decode cc pc = .ok (.putfield 257, 3)) (kk : Z Θ nL kc ks Q σ1 (pc + 3) lv st) : Z Θ nL kc ks Q σ pc lv (.int x :: .ref (zA Θ 0) :: st) := by subst he; exact z_put C inT12 tyX12_ok nmX12 0 (kM_0 hkd) rfl 17 (by decide) w_8_44 rfl rfl rfl rfl hd kk
theorem dX12_lawLine_0 : decode cX12_lawLine 0 = .ok (.aload_n 0, 1) := by decide +kernel
theorem dX12_lawLine_1 : decode cX12_lawLine 1 = .ok (.ldc 246, 2) := by decide +kernel
theorem dX12_lawLine_3 : decode cX12_lawLine 3 = .ok (.invokevirtual 112, 3) := by decide +kernel
theorem dX12_lawLine_6 : decode cX12_lawLine 6 = .ok (.ifCond .eq 7, 3) := by decide +kernel
theorem dX12_lawLine_9 : decode cX12_lawLine 9 = .ok (.iconst 0, 1) := by decide +kernel
theorem dX12_lawLine_10 : decode cX12_lawLine 10 = .ok (.goto 30, 3) := by decide +kernel
theorem dX12_lawLine_13 : decode cX12_lawLine 13 = .ok (.aload_n 0, 1) := by decide +kernel
theorem dX12_lawLine_14 : decode cX12_lawLine 14 = .ok (.ldc 248, 2) := by decide +kernel
theorem dX12_lawLine_16 : decode cX12_lawLine 16 = .ok (.invokevirtual 112, 3) := by decide +kernel
theorem dX12_lawLine_19 : decode cX12_lawLine 19 = .ok (.ifCond .eq 7, 3) := by decide +kernel
theorem dX12_lawLine_22 : decode cX12_lawLine 22 = .ok (.iconst 1, 1) := by decide +kernel
theorem dX12_lawLine_23 : decode cX12_lawLine 23 = .ok (.goto 17, 3) := by decide +kernel
theorem dX12_lawLine_26 : decode cX12_lawLine 26 = .ok (.aload_n 0, 1) := by decide +kernel
theorem dX12_lawLine_27 : decode cX12_lawLine 27 = .ok (.ldc 250, 2) := by decide +kernel
theorem dX12_lawLine_29 : decode cX12_lawLine 29 = .ok (.invokevirtual 112, 3) := by decide +kernel
theorem dX12_lawLine_32 : decode cX12_lawLine 32 = .ok (.ifCond .eq 7, 3) := by decide +kernel
theorem dX12_lawLine_35 : decode cX12_lawLine 35 = .ok (.iconst 2, 1) := by decide +kernel
theorem dX12_lawLine_36 : decode cX12_lawLine 36 = .ok (.goto 4, 3) := by decide +kernel
theorem dX12_lawLine_39 : decode cX12_lawLine 39 = .ok (.iconst (-1), 1) := by decide +kernel
theorem dX12_lawLine_40 : decode cX12_lawLine 40 = .ok (.istore_n 1, 1) := by decide +kernel
theorem dX12_lawLine_41 : decode cX12_lawLine 41 = .ok (.iload_n 1, 1) := by decide +kernel
theorem dX12_lawLine_42 : decode cX12_lawLine 42 = .ok (.iconst (-1), 1) := by decide +kernel
theorem dX12_lawLine_43 : decode cX12_lawLine 43 = .ok (.if_icmp .ne 12, 3) := by decide +kernel
theorem dX12_lawLine_46 : decode cX12_lawLine 46 = .ok (.aload_n 0, 1) := by decide +kernel
theorem dX12_lawLine_47 : decode cX12_lawLine 47 = .ok (.aload_n 0, 1) := by decide +kernel
theorem dX12_lawLine_48 : decode cX12_lawLine 48 = .ok (.getfield 82, 3) := by decide +kernel
theorem dX12_lawLine_51 : decode cX12_lawLine 51 = .ok (.invokevirtual 108, 3) := by decide +kernel
theorem dX12_lawLine_54 : decode cX12_lawLine 54 = .ok (.return_, 1) := by decide +kernel
theorem dX12_lawLine_55 : decode cX12_lawLine 55 = .ok (.iload_n 1, 1) := by decide +kernel
theorem dX12_lawLine_56 : decode cX12_lawLine 56 = .ok (.iconst 2, 1) := by decide +kernel
theorem dX12_lawLine_57 : decode cX12_lawLine 57 = .ok (.if_icmp .ne 7, 3) := by decide +kernel
theorem dX12_lawLine_60 : decode cX12_lawLine 60 = .ok (.iconst 0, 1) := by decide +kernel
theorem dX12_lawLine_61 : decode cX12_lawLine 61 = .ok (.goto 10, 3) := by decide +kernel
theorem dX12_lawLine_64 : decode cX12_lawLine 64 = .ok (.aload_n 0, 1) := by decide +kernel
theorem dX12_lawLine_65 : decode cX12_lawLine 65 = .ok (.iconst 0, 1) := by decide +kernel
theorem dX12_lawLine_66 : decode cX12_lawLine 66 = .ok (.bipush 20, 2) := by decide +kernel
theorem dX12_lawLine_68 : decode cX12_lawLine 68 = .ok (.invokevirtual 116, 3) := by decide +kernel
theorem dX12_lawLine_71 : decode cX12_lawLine 71 = .ok (.istore_n 2, 1) := by decide +kernel
theorem dX12_lawLine_72 : decode cX12_lawLine 72 = .ok (.aload_n 0, 1) := by decide +kernel
theorem dX12_lawLine_73 : decode cX12_lawLine 73 = .ok (.getfield 25, 3) := by decide +kernel
theorem dX12_lawLine_76 : decode cX12_lawLine 76 = .ok (.iconst (-1), 1) := by decide +kernel
theorem dX12_lawLine_77 : decode cX12_lawLine 77 = .ok (.if_icmp .eq 4, 3) := by decide +kernel
theorem dX12_lawLine_80 : decode cX12_lawLine 80 = .ok (.return_, 1) := by decide +kernel
theorem dX12_lawLine_81 : decode cX12_lawLine 81 = .ok (.aload_n 0, 1) := by decide +kernel
theorem dX12_lawLine_82 : decode cX12_lawLine 82 = .ok (.ldc 252, 2) := by decide +kernel
theorem dX12_lawLine_84 : decode cX12_lawLine 84 = .ok (.invokevirtual 112, 3) := by decide +kernel
theorem dX12_lawLine_87 : decode cX12_lawLine 87 = .ok (.ifCond .eq 10, 3) := by decide +kernel
theorem dX12_lawLine_90 : decode cX12_lawLine 90 = .ok (.aload_n 0, 1) := by decide +kernel
theorem dX12_lawLine_91 : decode cX12_lawLine 91 = .ok (.invokevirtual 236, 3) := by decide +kernel
theorem dX12_lawLine_94 : decode cX12_lawLine 94 = .ok (.ifCond .eq 7, 3) := by decide +kernel
theorem dX12_lawLine_97 : decode cX12_lawLine 97 = .ok (.iconst 1, 1) := by decide +kernel
theorem dX12_lawLine_98 : decode cX12_lawLine 98 = .ok (.goto 4, 3) := by decide +kernel
theorem dX12_lawLine_101 : decode cX12_lawLine 101 = .ok (.iconst 0, 1) := by decide +kernel
theorem dX12_lawLine_102 : decode cX12_lawLine 102 = .ok (.istore_n 3, 1) := by decide +kernel
theorem dX12_lawLine_103 : decode cX12_lawLine 103 = .ok (.aload_n 0, 1) := by decide +kernel
theorem dX12_lawLine_104 : decode cX12_lawLine 104 = .ok (.getfield 25, 3) := by decide +kernel
theorem dX12_lawLine_107 : decode cX12_lawLine 107 = .ok (.iconst (-1), 1) := by decide +kernel
theorem dX12_lawLine_108 : decode cX12_lawLine 108 = .ok (.if_icmp .ne 7, 3) := by decide +kernel
theorem dX12_lawLine_111 : decode cX12_lawLine 111 = .ok (.iload_n 3, 1) := by decide +kernel
theorem dX12_lawLine_112 : decode cX12_lawLine 112 = .ok (.ifCond .ne 4, 3) := by decide +kernel
theorem dX12_lawLine_115 : decode cX12_lawLine 115 = .ok (.return_, 1) := by decide +kernel
theorem dX12_lawLine_116 : decode cX12_lawLine 116 = .ok (.aload_n 0, 1) := by decide +kernel
theorem dX12_lawLine_117 : decode cX12_lawLine 117 = .ok (.aload_n 0, 1) := by decide +kernel
theorem dX12_lawLine_118 : decode cX12_lawLine 118 = .ok (.getfield 254, 3) := by decide +kernel
theorem dX12_lawLine_121 : decode cX12_lawLine 121 = .ok (.ifCond .ne 8, 3) := by decide +kernel
theorem dX12_lawLine_124 : decode cX12_lawLine 124 = .ok (.iload_n 1, 1) := by decide +kernel
theorem dX12_lawLine_125 : decode cX12_lawLine 125 = .ok (.iconst 2, 1) := by decide +kernel
theorem dX12_lawLine_126 : decode cX12_lawLine 126 = .ok (.if_icmp .ne 7, 3) := by decide +kernel
theorem dX12_lawLine_129 : decode cX12_lawLine 129 = .ok (.iconst 1, 1) := by decide +kernel
theorem dX12_lawLine_130 : decode cX12_lawLine 130 = .ok (.goto 4, 3) := by decide +kernel
theorem dX12_lawLine_133 : decode cX12_lawLine 133 = .ok (.iconst 0, 1) := by decide +kernel
theorem dX12_lawLine_134 : decode cX12_lawLine 134 = .ok (.putfield 254, 3) := by decide +kernel
theorem dX12_lawLine_137 : decode cX12_lawLine 137 = .ok (.aload_n 0, 1) := by decide +kernel
theorem dX12_lawLine_138 : decode cX12_lawLine 138 = .ok (.dup, 1) := by decide +kernel
theorem dX12_lawLine_139 : decode cX12_lawLine 139 = .ok (.getfield 257, 3) := by decide +kernel
theorem dX12_lawLine_142 : decode cX12_lawLine 142 = .ok (.iload_n 1, 1) := by decide +kernel
theorem dX12_lawLine_143 : decode cX12_lawLine 143 = .ok (.ifCond .ne 7, 3) := by decide +kernel
theorem dX12_lawLine_146 : decode cX12_lawLine 146 = .ok (.iload_n 2, 1) := by decide +kernel
theorem dX12_lawLine_147 : decode cX12_lawLine 147 = .ok (.goto 5, 3) := by decide +kernel
theorem dX12_lawLine_150 : decode cX12_lawLine 150 = .ok (.iload_n 2, 1) := by decide +kernel
theorem dX12_lawLine_151 : decode cX12_lawLine 151 = .ok (.ineg, 1) := by decide +kernel
theorem dX12_lawLine_152 : decode cX12_lawLine 152 = .ok (.iadd, 1) := by decide +kernel
theorem dX12_lawLine_153 : decode cX12_lawLine 153 = .ok (.putfield 257, 3) := by decide +kernel
theorem dX12_lawLine_156 : decode cX12_lawLine 156 = .ok (.return_, 1) := by decide +kernel
def q12_lawLine (σ : St) : Option St :=
  Option.bind (Option.bind (q12_has σ 19) fun x6_ =>
  if x6_.1 = true then (some ((0 : Int32), x6_.2)) else (Option.bind (Option.bind (q12_has x6_.2 20) fun x14_ =>
  if x14_.1 = true then (some ((1 : Int32), x14_.2)) else (Option.bind (Option.bind (q12_has x14_.2 21) fun x22_ =>
  if x22_.1 = true then (some ((2 : Int32), x22_.2)) else (some ((-1 : Int32), x22_.2))) fun x17_ =>
  some (x17_.1, x17_.2))) fun x9_ =>
  some (x9_.1, x9_.2))) fun x1_ =>
  if x1_.1 = (-1) then (Option.bind (q12_wrong x1_.2 (x1_.2 0 11)) fun x32_ =>
  some x32_) else
  Option.bind (if x1_.1 = 2 then (some ((0 : Int32), x1_.2)) else (Option.bind (q12_figures x1_.2 0 20) fun x40_ =>
  some (x40_.1, x40_.2))) fun x34_ =>
  if ¬ (x34_.2 0 12) = (-1) then (some x34_.2) else
  Option.bind (Option.bind (Option.bind (q12_has x34_.2 22) fun x54_ =>
  if x54_.1 = true then (Option.bind (q12_some (q12_atom 20) x54_.2) fun x57_ =>
  if x57_.1 = true then (some (true, x57_.2)) else (some (false, x57_.2))) else (some (true, x54_.2))) fun t52_ =>
  if t52_.1 = true then (some (true, t52_.2)) else (some (false, t52_.2))) fun x47_ =>
  if (¬ (x47_.2 0 12) = (-1)) ∨ (¬ (x47_.1 = true)) then (some x47_.2) else
  lt (up x47_.2 0 18 (b2i (decide ((¬ (x47_.2 0 18) = 0) ∨ (x1_.1 = 2))))) fun σ72_ =>
  lt (up σ72_ 0 17 ((σ72_ 0 17) + (if x1_.1 = 0 then x34_.1 else -x34_.1))) fun σ79_ =>
  some σ79_
abbrev rm12_lawLine : Room := { frames := 73, cells := 0, slots := 0, locals := 4102 }
set_option maxHeartbeats 4000000 in
set_option maxRecDepth 100000 in
theorem p12_lawLine {Θ : Tz} {σ : St} {ρ : Option Value × St} (C : Zc Θ cX12_lawLine 4 RX12 none rm12_lawLine) (hkd : Θ.2.2.2.2.1 = kdM) {r : St} (hf : q12_lawLine σ = some r) (hρ : ρ = (none, r)) : Z Θ 4 0 0 (zQ Θ ρ) σ 0 [(0, .ref (zA Θ 0))] [] := by
  unfold q12_lawLine at hf
  obtain ⟨x1_, h2_, hf⟩ := ob hf
  suffices K3_ : Z Θ 4 0 0 (zQ Θ ρ) x1_.2 40 [(0, .ref (zA Θ 0))] [.int x1_.1] by
    refine z_aload_n C 0 dX12_lawLine_0 rfl rfl ?_
    refine z_ldcs (k := 19) (tx := "sway") C (List.mem_of_getElem? (i := 46) rfl) dX12_lawLine_1 ?_
    obtain ⟨x6_, h7_, h2_⟩ := ob h2_
    refine cr12_112 (w_a := 19) C hkd (Nat.le_of_ble_eq_true rfl) h7_ ⟨(Nat.le_of_ble_eq_true rfl), (Nat.le_of_ble_eq_true rfl)⟩ (Nat.le_of_ble_eq_true rfl) ⟨Nat.zero_le _, Nat.zero_le _⟩ dX12_lawLine_3 ?_
    have K4_ : x6_.1 = true → Z Θ 4 0 0 (zQ Θ ρ) x6_.2 9 [(0, .ref (zA Θ 0))] [] := by
      intro h27_
      rw [if_pos h27_] at h2_
      refine z_iconst (v := 0) C dX12_lawLine_9 ic_0 ?_
      refine z_goto C 40 dX12_lawLine_10 (by decide) ?_
      cases h2_
      exact K3_
    have K5_ : ¬ (x6_.1 = true) → Z Θ 4 0 0 (zQ Θ ρ) x6_.2 13 [(0, .ref (zA Θ 0))] [] := by
      intro h27_
      rw [if_neg h27_] at h2_
      obtain ⟨x9_, h10_, h2_⟩ := ob h2_
      suffices K11_ : Z Θ 4 0 0 (zQ Θ ρ) x9_.2 40 [(0, .ref (zA Θ 0))] [.int x9_.1] by
        refine z_aload_n C 0 dX12_lawLine_13 rfl rfl ?_
        refine z_ldcs (k := 20) (tx := "spite") C (List.mem_of_getElem? (i := 47) rfl) dX12_lawLine_14 ?_
        obtain ⟨x14_, h15_, h10_⟩ := ob h10_
        refine cr12_112 (w_a := 20) C hkd (Nat.le_of_ble_eq_true rfl) h15_ ⟨(Nat.le_of_ble_eq_true rfl), (Nat.le_of_ble_eq_true rfl)⟩ (Nat.le_of_ble_eq_true rfl) ⟨Nat.zero_le _, Nat.zero_le _⟩ dX12_lawLine_16 ?_
        have K12_ : x14_.1 = true → Z Θ 4 0 0 (zQ Θ ρ) x14_.2 22 [(0, .ref (zA Θ 0))] [] := by
          intro h26_
          rw [if_pos h26_] at h10_
          refine z_iconst (v := 1) C dX12_lawLine_22 ic_1 ?_
          refine z_goto C 40 dX12_lawLine_23 (by decide) ?_
          cases h10_
          exact K11_
        have K13_ : ¬ (x14_.1 = true) → Z Θ 4 0 0 (zQ Θ ρ) x14_.2 26 [(0, .ref (zA Θ 0))] [] := by
          intro h26_
          rw [if_neg h26_] at h10_
          obtain ⟨x17_, h18_, h10_⟩ := ob h10_
          suffices K19_ : Z Θ 4 0 0 (zQ Θ ρ) x17_.2 40 [(0, .ref (zA Θ 0))] [.int x17_.1] by
            refine z_aload_n C 0 dX12_lawLine_26 rfl rfl ?_
            refine z_ldcs (k := 21) (tx := "abstain") C (List.mem_of_getElem? (i := 48) rfl) dX12_lawLine_27 ?_
            obtain ⟨x22_, h23_, h18_⟩ := ob h18_
            refine cr12_112 (w_a := 21) C hkd (Nat.le_of_ble_eq_true rfl) h23_ ⟨(Nat.le_of_ble_eq_true rfl), (Nat.le_of_ble_eq_true rfl)⟩ (Nat.le_of_ble_eq_true rfl) ⟨Nat.zero_le _, Nat.zero_le _⟩ dX12_lawLine_29 ?_
            have K20_ : x22_.1 = true → Z Θ 4 0 0 (zQ Θ ρ) x22_.2 35 [(0, .ref (zA Θ 0))] [] := by
              intro h25_
              rw [if_pos h25_] at h18_
              refine z_iconst (v := 2) C dX12_lawLine_35 ic_2 ?_
              refine z_goto C 40 dX12_lawLine_36 (by decide) ?_
              cases h18_
              exact K19_
            have K21_ : ¬ (x22_.1 = true) → Z Θ 4 0 0 (zQ Θ ρ) x22_.2 39 [(0, .ref (zA Θ 0))] [] := by
              intro h25_
              rw [if_neg h25_] at h18_
              refine z_iconst (v := (-1)) C dX12_lawLine_39 ic_m1 ?_
              cases h18_
              exact K19_
            refine cb_f C 39 dX12_lawLine_32 (by decide) (fun h24_ => ?_) (fun h24_ => ?_)
            · exact K20_ h24_
            · exact K21_ h24_
          cases h10_
          exact K11_
        refine cb_f C 26 dX12_lawLine_19 (by decide) (fun h16_ => ?_) (fun h16_ => ?_)
        · exact K12_ h16_
        · exact K13_ h16_
      cases h2_
      exact K3_
    refine cb_f C 13 dX12_lawLine_6 (by decide) (fun h8_ => ?_) (fun h8_ => ?_)
    · exact K4_ h8_
    · exact K5_ h8_
  refine z_istN C dX12_lawLine_40 rfl rfl (Nat.le_of_ble_eq_true rfl) rfl ?_
  have K28_ : x1_.1 = (-1) → Z Θ 4 0 0 (zQ Θ ρ) x1_.2 46 [(1, .int x1_.1), (0, .ref (zA Θ 0))] [] := by
    intro h31_
    rw [if_pos h31_] at hf
    refine z_aload_n C 1 dX12_lawLine_46 rfl rfl ?_
    refine z_aload_n C 1 dX12_lawLine_47 rfl rfl ?_
    refine fg12_82 C hkd dX12_lawLine_48 ?_
    obtain ⟨x32_, h33_, hf⟩ := ob hf
    refine cr12_108 (where_a := (x1_.2 0 11)) C hkd  h33_ ⟨(Nat.le_of_ble_eq_true rfl), (Nat.le_of_ble_eq_true rfl)⟩ (Nat.le_of_ble_eq_true rfl) ⟨Nat.zero_le _, Nat.zero_le _⟩ dX12_lawLine_51 ?_
    cases hf
    subst hρ
    exact z_vret C dX12_lawLine_54
  suffices K29_ : ¬ (x1_.1 = (-1)) → Z Θ 4 0 0 (zQ Θ ρ) x1_.2 55 [(1, .int x1_.1), (0, .ref (zA Θ 0))] [] by
    refine z_iload_n C 0 dX12_lawLine_41 rfl rfl ?_
    refine z_iconst (v := (-1)) C dX12_lawLine_42 ic_m1 ?_
    refine c_eq_f C 55 dX12_lawLine_43 (by decide) (fun h30_ => ?_) (fun h30_ => ?_)
    · exact K28_ h30_
    · exact K29_ h30_
  intro h31_
  rw [if_neg h31_] at hf
  obtain ⟨x34_, h35_, hf⟩ := ob hf
  suffices K36_ : Z Θ 4 0 0 (zQ Θ ρ) x34_.2 71 [(1, .int x1_.1), (0, .ref (zA Θ 0))] [.int x34_.1] by
    have K37_ : x1_.1 = 2 → Z Θ 4 0 0 (zQ Θ ρ) x1_.2 60 [(1, .int x1_.1), (0, .ref (zA Θ 0))] [] := by
      intro h42_
      rw [if_pos h42_] at h35_
      refine z_iconst (v := 0) C dX12_lawLine_60 ic_0 ?_
      refine z_goto C 71 dX12_lawLine_61 (by decide) ?_
      cases h35_
      exact K36_
    have K38_ : ¬ (x1_.1 = 2) → Z Θ 4 0 0 (zQ Θ ρ) x1_.2 64 [(1, .int x1_.1), (0, .ref (zA Θ 0))] [] := by
      intro h42_
      rw [if_neg h42_] at h35_
      refine z_aload_n C 1 dX12_lawLine_64 rfl rfl ?_
      refine z_iconst (v := 0) C dX12_lawLine_65 ic_0 ?_
      refine z_bipush (v := 20) C dX12_lawLine_66 bp_20 ?_
      obtain ⟨x40_, h41_, h35_⟩ := ob h35_
      refine cr12_116 (low_a := 0) (high_a := 20) C hkd  h41_ ⟨(Nat.le_of_ble_eq_true rfl), (Nat.le_of_ble_eq_true rfl)⟩ (Nat.le_of_ble_eq_true rfl) ⟨Nat.zero_le _, Nat.zero_le _⟩ dX12_lawLine_68 ?_
      cases h35_
      exact K36_
    refine z_iload_n C 0 dX12_lawLine_55 rfl rfl ?_
    refine z_iconst (v := 2) C dX12_lawLine_56 ic_2 ?_
    refine c_eq_f C 64 dX12_lawLine_57 (by decide) (fun h39_ => ?_) (fun h39_ => ?_)
    · exact K37_ h39_
    · exact K38_ h39_
  refine z_istN C dX12_lawLine_71 rfl rfl (Nat.le_of_ble_eq_true rfl) rfl ?_
  have K43_ : ¬ (x34_.2 0 12) = (-1) → Z Θ 4 0 0 (zQ Θ ρ) x34_.2 80 [(2, .int x34_.1), (1, .int x1_.1), (0, .ref (zA Θ 0))] [] := by
    intro h46_
    rw [if_pos h46_] at hf
    cases hf
    subst hρ
    exact z_vret C dX12_lawLine_80
  suffices K44_ : ¬ (¬ (x34_.2 0 12) = (-1)) → Z Θ 4 0 0 (zQ Θ ρ) x34_.2 81 [(2, .int x34_.1), (1, .int x1_.1), (0, .ref (zA Θ 0))] [] by
    refine z_aload_n C 2 dX12_lawLine_72 rfl rfl ?_
    refine fg12_25 C hkd dX12_lawLine_73 ?_
    refine z_iconst (v := (-1)) C dX12_lawLine_76 ic_m1 ?_
    refine c_ne_f C 81 dX12_lawLine_77 (by decide) (fun h45_ => ?_) (fun h45_ => ?_)
    · exact K43_ h45_
    · exact K44_ h45_
  intro h46_
  rw [if_neg h46_] at hf
  obtain ⟨x47_, h48_, hf⟩ := ob hf
  suffices K49_ : Z Θ 4 0 0 (zQ Θ ρ) x47_.2 102 [(2, .int x34_.1), (1, .int x1_.1), (0, .ref (zA Θ 0))] [.int (b2i x47_.1)] by
    obtain ⟨t52_, h53_, h48_⟩ := ob h48_
    have K50_ : t52_.1 = true → Z Θ 4 0 0 (zQ Θ ρ) t52_.2 97 [(2, .int x34_.1), (1, .int x1_.1), (0, .ref (zA Θ 0))] [] := by
      intro h60_
      rw [if_pos h60_] at h48_
      refine z_iconst (v := 1) C dX12_lawLine_97 ic_1 ?_
      refine z_goto C 102 dX12_lawLine_98 (by decide) ?_
      cases h48_
      exact K49_
    have K51_ : ¬ (t52_.1 = true) → Z Θ 4 0 0 (zQ Θ ρ) t52_.2 101 [(2, .int x34_.1), (1, .int x1_.1), (0, .ref (zA Θ 0))] [] := by
      intro h60_
      rw [if_neg h60_] at h48_
      refine z_iconst (v := 0) C dX12_lawLine_101 ic_0 ?_
      cases h48_
      exact K49_
    refine z_aload_n C 2 dX12_lawLine_81 rfl rfl ?_
    refine z_ldcs (k := 22) (tx := "if") C (List.mem_of_getElem? (i := 49) rfl) dX12_lawLine_82 ?_
    obtain ⟨x54_, h55_, h53_⟩ := ob h53_
    refine cr12_112 (w_a := 22) C hkd (Nat.le_of_ble_eq_true rfl) h55_ ⟨(Nat.le_of_ble_eq_true rfl), (Nat.le_of_ble_eq_true rfl)⟩ (Nat.le_of_ble_eq_true rfl) ⟨Nat.zero_le _, Nat.zero_le _⟩ dX12_lawLine_84 ?_
    refine cb_f C 97 dX12_lawLine_87 (by decide) (fun h56_ => ?_) (fun h56_ => ?_)
    · rw [if_pos h56_] at h53_
      refine z_aload_n C 2 dX12_lawLine_90 rfl rfl ?_
      obtain ⟨x57_, h58_, h53_⟩ := ob h53_
      refine cr12_236 C hkd (rec12_atom hkd (zc_inj C) 20)  h58_ ⟨(Nat.le_of_ble_eq_true rfl), (Nat.le_of_ble_eq_true rfl)⟩ (Nat.le_of_ble_eq_true rfl) ⟨Nat.zero_le _, Nat.zero_le _⟩ dX12_lawLine_91 ?_
      refine cb_f C 101 dX12_lawLine_94 (by decide) (fun h59_ => ?_) (fun h59_ => ?_)
      · rw [if_pos h59_] at h53_
        cases h53_
        exact K50_ rfl
      · rw [if_neg h59_] at h53_
        cases h53_
        exact K51_ Bool.false_ne_true
    · rw [if_neg h56_] at h53_
      cases h53_
      exact K50_ rfl
  refine z_istN C dX12_lawLine_102 rfl rfl (Nat.le_of_ble_eq_true rfl) rfl ?_
  have K61_ : (¬ (x47_.2 0 12) = (-1)) ∨ (¬ (x47_.1 = true)) → Z Θ 4 0 0 (zQ Θ ρ) x47_.2 115 [(3, .int (b2i x47_.1)), (2, .int x34_.1), (1, .int x1_.1), (0, .ref (zA Θ 0))] [] := by
    intro h65_
    rw [if_pos h65_] at hf
    cases hf
    subst hρ
    exact z_vret C dX12_lawLine_115
  suffices K62_ : ¬ ((¬ (x47_.2 0 12) = (-1)) ∨ (¬ (x47_.1 = true))) → Z Θ 4 0 0 (zQ Θ ρ) x47_.2 116 [(3, .int (b2i x47_.1)), (2, .int x34_.1), (1, .int x1_.1), (0, .ref (zA Θ 0))] [] by
    refine z_aload_n C 3 dX12_lawLine_103 rfl rfl ?_
    refine fg12_25 C hkd dX12_lawLine_104 ?_
    refine z_iconst (v := (-1)) C dX12_lawLine_107 ic_m1 ?_
    refine c_ne_t C 115 dX12_lawLine_108 (by decide) (fun h63_ => ?_) (fun h63_ => ?_)
    · exact K61_ (Or.inl h63_)
    · refine z_iload_n C 0 dX12_lawLine_111 rfl rfl ?_
      refine cb_t C 116 dX12_lawLine_112 (by decide) (fun h64_ => ?_) (fun h64_ => ?_)
      · exact K62_ (fun n => n.elim h63_ (fun n => n h64_))
      · exact K61_ (Or.inr h64_)
  intro h65_
  rw [if_neg h65_] at hf
  refine z_aload_n C 3 dX12_lawLine_116 rfl rfl ?_
  suffices K66_ : Z Θ 4 0 0 (zQ Θ ρ) x47_.2 134 [(3, .int (b2i x47_.1)), (2, .int x34_.1), (1, .int x1_.1), (0, .ref (zA Θ 0))] [.int (b2i (decide ((¬ (x47_.2 0 18) = 0) ∨ (x1_.1 = 2)))), .ref (zA Θ 0)] by
    have K67_ : (¬ (x47_.2 0 18) = 0) ∨ (x1_.1 = 2) → Z Θ 4 0 0 (zQ Θ ρ) x47_.2 129 [(3, .int (b2i x47_.1)), (2, .int x34_.1), (1, .int x1_.1), (0, .ref (zA Θ 0))] [.ref (zA Θ 0)] := by
      intro h71_
      rw [decide_eq_true h71_] at K66_
      refine z_iconst (v := 1) C dX12_lawLine_129 ic_1 ?_
      refine z_goto C 134 dX12_lawLine_130 (by decide) ?_
      exact K66_
    have K68_ : ¬ ((¬ (x47_.2 0 18) = 0) ∨ (x1_.1 = 2)) → Z Θ 4 0 0 (zQ Θ ρ) x47_.2 133 [(3, .int (b2i x47_.1)), (2, .int x34_.1), (1, .int x1_.1), (0, .ref (zA Θ 0))] [.ref (zA Θ 0)] := by
      intro h71_
      rw [decide_eq_false h71_] at K66_
      refine z_iconst (v := 0) C dX12_lawLine_133 ic_0 ?_
      exact K66_
    refine z_aload_n C 3 dX12_lawLine_117 rfl rfl ?_
    refine fg12_254 C hkd dX12_lawLine_118 ?_
    refine c0_ne_t C 129 dX12_lawLine_121 (by decide) (fun h69_ => ?_) (fun h69_ => ?_)
    · exact K67_ (Or.inl h69_)
    · refine z_iload_n C 2 dX12_lawLine_124 rfl rfl ?_
      refine z_iconst (v := 2) C dX12_lawLine_125 ic_2 ?_
      refine c_eq_f C 133 dX12_lawLine_126 (by decide) (fun h70_ => ?_) (fun h70_ => ?_)
      · exact K67_ (Or.inr h70_)
      · exact K68_ (fun n => n.elim h69_ h70_)
  obtain ⟨σ72_, h73_, hf⟩ := lt_ hf
  refine fp12_254 (b := (decide ((¬ (x47_.2 0 18) = 0) ∨ (x1_.1 = 2)))) C hkd h73_ dX12_lawLine_134 ?_
  refine z_aload_n C 3 dX12_lawLine_137 rfl rfl ?_
  refine z_dup C dX12_lawLine_138 rfl ?_
  refine fg12_257 C hkd dX12_lawLine_139 ?_
  suffices K74_ : Z Θ 4 0 0 (zQ Θ ρ) σ72_ 152 [(3, .int (b2i x47_.1)), (2, .int x34_.1), (1, .int x1_.1), (0, .ref (zA Θ 0))] [.int (if x1_.1 = 0 then x34_.1 else -x34_.1), .int (σ72_ 0 17), .ref (zA Θ 0)] by
    have K75_ : x1_.1 = 0 → Z Θ 4 0 0 (zQ Θ ρ) σ72_ 146 [(3, .int (b2i x47_.1)), (2, .int x34_.1), (1, .int x1_.1), (0, .ref (zA Θ 0))] [.int (σ72_ 0 17), .ref (zA Θ 0)] := by
      intro h78_
      rw [if_pos h78_] at K74_
      refine z_iload_n C 1 dX12_lawLine_146 rfl rfl ?_
      refine z_goto C 152 dX12_lawLine_147 (by decide) ?_
      exact K74_
    have K76_ : ¬ (x1_.1 = 0) → Z Θ 4 0 0 (zQ Θ ρ) σ72_ 150 [(3, .int (b2i x47_.1)), (2, .int x34_.1), (1, .int x1_.1), (0, .ref (zA Θ 0))] [.int (σ72_ 0 17), .ref (zA Θ 0)] := by
      intro h78_
      rw [if_neg h78_] at K74_
      refine z_iload_n C 1 dX12_lawLine_150 rfl rfl ?_
      refine z_ineg C dX12_lawLine_151 ?_
      exact K74_
    refine z_iload_n C 2 dX12_lawLine_142 rfl rfl ?_
    refine c0_eq_f C 150 dX12_lawLine_143 (by decide) (fun h77_ => ?_) (fun h77_ => ?_)
    · exact K75_ h77_
    · exact K76_ h77_
  refine z_iadd C dX12_lawLine_152 ?_
  obtain ⟨σ79_, h80_, hf⟩ := lt_ hf
  refine fp12_257 C hkd h80_ dX12_lawLine_153 ?_
  cases hf
  subst hρ
  exact z_vret C dX12_lawLine_156
theorem c12_lawLine {l : Launch} {kd : List KD} {w : Wp} {σ : St} (hkd : kd = kdM) (hi : zI kd w) {r : St} (hf : q12_lawLine σ = some r) : zM l kd w yX12_lawLine cX12_lawLine 4 none rm12_lawLine [.ref (w.2.2.1 0)] σ (none, r) := zM_of rfl hi (Nat.le_of_ble_eq_true rfl) (fun Θ hl hw C => by
  obtain ⟨Θ1, Θ2, Θ3, Θ4, Θ5⟩ := Θ
  cases hw
  exact p12_lawLine C hkd  hf rfl)
/-! LastLoafModel.read -/
theorem w_8_173 : Cond.code ({ cls := "LastLoafModel", name := "lawLine", desc := "()V" } : MethodName) prog_14_method_40_code (4 : Nat) (Option.none : Option ClassFile.FieldType) ∈ TB := tb_in (lwt_8 (List.mem_of_getElem? (i := 173) (by decide +kernel))) rfl
theorem w_8_170 : Cond.methodLink "LastLoafModel" (176 : Nat) ({ cls := "LastLoafModel", name := "lawLine", desc := "()V" } : MethodName) ∈ TB := tb_in (lwt_8 (List.mem_of_getElem? (i := 170) (by decide +kernel))) rfl
theorem w_8_172 : Cond.instanceMethod ({ cls := "LastLoafModel", name := "lawLine", desc := "()V" } : MethodName) ∈ TB := tb_in (lwt_8 (List.mem_of_getElem? (i := 172) (by decide +kernel))) rfl
theorem ws_LastLoafModel_lawLine__V : Cond.selects "LastLoafModel" (⟨"LastLoafModel", "lawLine", "()V"⟩ : MethodName) (⟨"LastLoafModel", "lawLine", "()V"⟩ : MethodName) ∈ TB := tb_in (List.mem_append_left _ (List.mem_of_getElem? (i := 23) (by decide +kernel))) rfl
theorem cr12_176 {Θ : Tz} {cc : ByteArray} {nL kc ks : Nat} {ret : Option FieldType} {rm : Room} {Q : State → Prop} {σ : St} {pc : Nat} {lv : List (Nat × Value)} {st : List Value} (C : Zc Θ cc nL RX12 ret rm) (hkd : Θ.2.2.2.2.1 = kdM) {r : St} (hx : q12_lawLine σ = some r) (hrm : rm12_lawLine.frames + 1 ≤ rm.frames ∧ 8 + (4 + 11) + rm12_lawLine.locals ≤ rm.locals) (hcat : (st.map fun v => v.category).sum ≤ 8) (hk : kc ≤ rm.cells ∧ ks ≤ rm.slots) (hd : decode cc pc = .ok (.invokevirtual 176, 3)) (kk : Z Θ nL kc ks Q r (pc + 3) lv st) : Z Θ nL kc ks Q σ pc lv (.ref (zA Θ 0) :: st) := z_callV C 0 [] (none, r) 0 (kM_0 hkd) rfl (c12_lawLine hkd (zc_inj C) hx) w_8_173 w_8_170 w_8_172 ws_LastLoafModel_lawLine__V w_1_14 ⟨rfl, rfl, hrm.1, hrm.2⟩ (by decide +kernel) rfl rfl hcat hk hd kk
theorem w_8_235 : Cond.code ({ cls := "LastLoafModel", name := "villageLine", desc := "()V" } : MethodName) prog_14_method_28_code (2 : Nat) (Option.none : Option ClassFile.FieldType) ∈ TB := tb_in (lwt_8 (List.mem_of_getElem? (i := 235) (by decide +kernel))) rfl
theorem w_8_232 : Cond.methodLink "LastLoafModel" (179 : Nat) ({ cls := "LastLoafModel", name := "villageLine", desc := "()V" } : MethodName) ∈ TB := tb_in (lwt_8 (List.mem_of_getElem? (i := 232) (by decide +kernel))) rfl
theorem w_8_234 : Cond.instanceMethod ({ cls := "LastLoafModel", name := "villageLine", desc := "()V" } : MethodName) ∈ TB := tb_in (lwt_8 (List.mem_of_getElem? (i := 234) (by decide +kernel))) rfl
theorem ws_LastLoafModel_villageLine__V : Cond.selects "LastLoafModel" (⟨"LastLoafModel", "villageLine", "()V"⟩ : MethodName) (⟨"LastLoafModel", "villageLine", "()V"⟩ : MethodName) ∈ TB := tb_in (List.mem_append_left _ (List.mem_of_getElem? (i := 34) (by decide +kernel))) rfl
theorem cr12_179 {Θ : Tz} {cc : ByteArray} {nL kc ks : Nat} {ret : Option FieldType} {rm : Room} {Q : State → Prop} {σ : St} {pc : Nat} {lv : List (Nat × Value)} {st : List Value} (C : Zc Θ cc nL RX12 ret rm) (hkd : Θ.2.2.2.2.1 = kdM) {r : St} (hx : q12_villageLine σ = some r) (hrm : rm12_villageLine.frames + 1 ≤ rm.frames ∧ 8 + (2 + 11) + rm12_villageLine.locals ≤ rm.locals) (hcat : (st.map fun v => v.category).sum ≤ 8) (hk : kc ≤ rm.cells ∧ ks ≤ rm.slots) (hd : decode cc pc = .ok (.invokevirtual 179, 3)) (kk : Z Θ nL kc ks Q r (pc + 3) lv st) : Z Θ nL kc ks Q σ pc lv (.ref (zA Θ 0) :: st) := z_callV C 0 [] (none, r) 0 (kM_0 hkd) rfl (c12_villageLine hkd (zc_inj C) hx) w_8_235 w_8_232 w_8_234 ws_LastLoafModel_villageLine__V w_1_14 ⟨rfl, rfl, hrm.1, hrm.2⟩ (by decide +kernel) rfl rfl hcat hk hd kk
theorem bp_59 : (Int8.ofInt (59)).toInt32 = 59 := by decide +kernel
theorem dX12_read_0 : decode cX12_read 0 = .ok (.aload_n 0, 1) := by decide +kernel
theorem dX12_read_1 : decode cX12_read 1 = .ok (.invokevirtual 92, 3) := by decide +kernel
theorem dX12_read_4 : decode cX12_read 4 = .ok (.aload_n 0, 1) := by decide +kernel
theorem dX12_read_5 : decode cX12_read 5 = .ok (.getfield 82, 3) := by decide +kernel
theorem dX12_read_8 : decode cX12_read 8 = .ok (.aload_n 0, 1) := by decide +kernel
theorem dX12_read_9 : decode cX12_read 9 = .ok (.getfield 85, 3) := by decide +kernel
theorem dX12_read_12 : decode cX12_read 12 = .ok (.if_icmp .ge 7, 3) := by decide +kernel
theorem dX12_read_15 : decode cX12_read 15 = .ok (.iconst 1, 1) := by decide +kernel
theorem dX12_read_16 : decode cX12_read 16 = .ok (.goto 4, 3) := by decide +kernel
theorem dX12_read_19 : decode cX12_read 19 = .ok (.iconst 0, 1) := by decide +kernel
theorem dX12_read_20 : decode cX12_read 20 = .ok (.istore_n 2, 1) := by decide +kernel
theorem dX12_read_21 : decode cX12_read 21 = .ok (.iconst 0, 1) := by decide +kernel
theorem dX12_read_22 : decode cX12_read 22 = .ok (.istore_n 3, 1) := by decide +kernel
theorem dX12_read_23 : decode cX12_read 23 = .ok (.iload_n 2, 1) := by decide +kernel
theorem dX12_read_24 : decode cX12_read 24 = .ok (.ifCond .eq 120, 3) := by decide +kernel
theorem dX12_read_27 : decode cX12_read 27 = .ok (.aload_n 0, 1) := by decide +kernel
theorem dX12_read_28 : decode cX12_read 28 = .ok (.getfield 25, 3) := by decide +kernel
theorem dX12_read_31 : decode cX12_read 31 = .ok (.iconst (-1), 1) := by decide +kernel
theorem dX12_read_32 : decode cX12_read 32 = .ok (.if_icmp .ne 112, 3) := by decide +kernel
theorem dX12_read_35 : decode cX12_read 35 = .ok (.aload_n 0, 1) := by decide +kernel
theorem dX12_read_36 : decode cX12_read 36 = .ok (.invokevirtual 92, 3) := by decide +kernel
theorem dX12_read_39 : decode cX12_read 39 = .ok (.iload_n 3, 1) := by decide +kernel
theorem dX12_read_40 : decode cX12_read 40 = .ok (.iload_n 1, 1) := by decide +kernel
theorem dX12_read_41 : decode cX12_read 41 = .ok (.ifCond .eq 8, 3) := by decide +kernel
theorem dX12_read_44 : decode cX12_read 44 = .ok (.bipush 12, 2) := by decide +kernel
theorem dX12_read_46 : decode cX12_read 46 = .ok (.goto 5, 3) := by decide +kernel
theorem dX12_read_49 : decode cX12_read 49 = .ok (.bipush 14, 2) := by decide +kernel
theorem dX12_read_51 : decode cX12_read 51 = .ok (.if_icmp .ne 14, 3) := by decide +kernel
theorem dX12_read_54 : decode cX12_read 54 = .ok (.aload_n 0, 1) := by decide +kernel
theorem dX12_read_55 : decode cX12_read 55 = .ok (.aload_n 0, 1) := by decide +kernel
theorem dX12_read_56 : decode cX12_read 56 = .ok (.getfield 82, 3) := by decide +kernel
theorem dX12_read_59 : decode cX12_read 59 = .ok (.invokevirtual 108, 3) := by decide +kernel
theorem dX12_read_62 : decode cX12_read 62 = .ok (.goto 18, 3) := by decide +kernel
theorem dX12_read_65 : decode cX12_read 65 = .ok (.iload_n 1, 1) := by decide +kernel
theorem dX12_read_66 : decode cX12_read 66 = .ok (.ifCond .eq 10, 3) := by decide +kernel
theorem dX12_read_69 : decode cX12_read 69 = .ok (.aload_n 0, 1) := by decide +kernel
theorem dX12_read_70 : decode cX12_read 70 = .ok (.invokevirtual 176, 3) := by decide +kernel
theorem dX12_read_73 : decode cX12_read 73 = .ok (.goto 7, 3) := by decide +kernel
theorem dX12_read_76 : decode cX12_read 76 = .ok (.aload_n 0, 1) := by decide +kernel
theorem dX12_read_77 : decode cX12_read 77 = .ok (.invokevirtual 179, 3) := by decide +kernel
theorem dX12_read_80 : decode cX12_read 80 = .ok (.iinc 3 1, 3) := by decide +kernel
theorem dX12_read_83 : decode cX12_read 83 = .ok (.aload_n 0, 1) := by decide +kernel
theorem dX12_read_84 : decode cX12_read 84 = .ok (.invokevirtual 92, 3) := by decide +kernel
theorem dX12_read_87 : decode cX12_read 87 = .ok (.aload_n 0, 1) := by decide +kernel
theorem dX12_read_88 : decode cX12_read 88 = .ok (.getfield 25, 3) := by decide +kernel
theorem dX12_read_91 : decode cX12_read 91 = .ok (.iconst (-1), 1) := by decide +kernel
theorem dX12_read_92 : decode cX12_read 92 = .ok (.if_icmp .ne 14, 3) := by decide +kernel
theorem dX12_read_95 : decode cX12_read 95 = .ok (.aload_n 0, 1) := by decide +kernel
theorem dX12_read_96 : decode cX12_read 96 = .ok (.getfield 82, 3) := by decide +kernel
theorem dX12_read_99 : decode cX12_read 99 = .ok (.aload_n 0, 1) := by decide +kernel
theorem dX12_read_100 : decode cX12_read 100 = .ok (.getfield 85, 3) := by decide +kernel
theorem dX12_read_103 : decode cX12_read 103 = .ok (.if_icmp .ne 8, 3) := by decide +kernel
theorem dX12_read_106 : decode cX12_read 106 = .ok (.iconst 0, 1) := by decide +kernel
theorem dX12_read_107 : decode cX12_read 107 = .ok (.istore_n 2, 1) := by decide +kernel
theorem dX12_read_108 : decode cX12_read 108 = .ok (.goto (-85), 3) := by decide +kernel
theorem dX12_read_111 : decode cX12_read 111 = .ok (.aload_n 0, 1) := by decide +kernel
theorem dX12_read_112 : decode cX12_read 112 = .ok (.bipush 59, 2) := by decide +kernel
theorem dX12_read_114 : decode cX12_read 114 = .ok (.invokevirtual 182, 3) := by decide +kernel
theorem dX12_read_117 : decode cX12_read 117 = .ok (.ifCond .eq 16, 3) := by decide +kernel
theorem dX12_read_120 : decode cX12_read 120 = .ok (.aload_n 0, 1) := by decide +kernel
theorem dX12_read_121 : decode cX12_read 121 = .ok (.dup, 1) := by decide +kernel
theorem dX12_read_122 : decode cX12_read 122 = .ok (.getfield 82, 3) := by decide +kernel
theorem dX12_read_125 : decode cX12_read 125 = .ok (.iconst 1, 1) := by decide +kernel
theorem dX12_read_126 : decode cX12_read 126 = .ok (.iadd, 1) := by decide +kernel
theorem dX12_read_127 : decode cX12_read 127 = .ok (.putfield 82, 3) := by decide +kernel
theorem dX12_read_130 : decode cX12_read 130 = .ok (.goto (-107), 3) := by decide +kernel
theorem dX12_read_133 : decode cX12_read 133 = .ok (.aload_n 0, 1) := by decide +kernel
theorem dX12_read_134 : decode cX12_read 134 = .ok (.aload_n 0, 1) := by decide +kernel
theorem dX12_read_135 : decode cX12_read 135 = .ok (.getfield 82, 3) := by decide +kernel
theorem dX12_read_138 : decode cX12_read 138 = .ok (.invokevirtual 108, 3) := by decide +kernel
theorem dX12_read_141 : decode cX12_read 141 = .ok (.goto (-118), 3) := by decide +kernel
theorem dX12_read_144 : decode cX12_read 144 = .ok (.iload_n 3, 1) := by decide +kernel
theorem dX12_read_145 : decode cX12_read 145 = .ok (.ireturn, 1) := by decide +kernel
def q12_read (σ : St) (law_a : Bool) : Option (Int32 × St) :=
  Option.bind (q12_skip σ) fun x1_ =>
  lt (decide ((x1_ 0 11) < (x1_ 0 10))) fun go8_ =>
  Option.bind (loop3 (fun rec13_ (go16_ : Bool) (n17_ : Int32) (σ18_ : St) =>
  if (go16_ = true) ∧ ((σ18_ 0 12) = (-1)) then
  Option.bind (q12_skip σ18_) fun x26_ =>
  Option.bind (if n17_ = (if law_a = true then 12 else 14) then (Option.bind (q12_wrong x26_ (x26_ 0 11)) fun x40_ =>
  some (x40_)) else (Option.bind (if law_a = true then (Option.bind (q12_lawLine x26_) fun x49_ =>
  some (x49_)) else (Option.bind (q12_villageLine x26_) fun x51_ =>
  some (x51_))) fun y42_ =>
  some (y42_))) fun y28_ =>
  lt (n17_ + 1) fun n53_ =>
  Option.bind (q12_skip y28_) fun x55_ =>
  Option.bind (if (¬ (x55_ 0 12) = (-1)) ∨ ((x55_ 0 11) = (x55_ 0 10)) then (some (false, x55_)) else (Option.bind (Option.bind (q12_isSign x55_ 59) fun x70_ =>
  if x70_.1 = true then (lt (up x70_.2 0 11 ((x70_.2 0 11) + 1)) fun σ74_ =>
  some (σ74_)) else (Option.bind (q12_wrong x70_.2 (x70_.2 0 11)) fun x76_ =>
  some (x76_))) fun y65_ =>
  some (go16_, y65_))) fun y57_ =>
  rec13_ y57_.1 n53_ y57_.2
  else (some (go16_, n17_, σ18_))) fuelN go8_ (0 : Int32) x1_) fun y10_ =>
  some (y10_.2.1, y10_.2.2)
abbrev rm12_read : Room := { frames := 74, cells := 0, slots := 0, locals := 4125 }
set_option maxHeartbeats 4000000 in
set_option maxRecDepth 100000 in
theorem p12_read {Θ : Tz} {σ : St} {ρ : Option Value × St} (C : Zc Θ cX12_read 4 RX12 (some .int) rm12_read) (hkd : Θ.2.2.2.2.1 = kdM) {law_a : Bool} {r : (Int32 × St)} (hf : q12_read σ law_a = some r) (hρ : ρ = (some (.int r.1), r.2)) : Z Θ 4 0 0 (zQ Θ ρ) σ 0 [(0, .ref (zA Θ 0)), (1, .int (b2i law_a))] [] := by
  unfold q12_read at hf
  refine z_aload_n C 0 dX12_read_0 rfl rfl ?_
  obtain ⟨x1_, h2_, hf⟩ := ob hf
  refine cr12_92 C hkd  h2_ ⟨(Nat.le_of_ble_eq_true rfl), (Nat.le_of_ble_eq_true rfl)⟩ (Nat.le_of_ble_eq_true rfl) ⟨Nat.zero_le _, Nat.zero_le _⟩ dX12_read_1 ?_
  suffices K3_ : Z Θ 4 0 0 (zQ Θ ρ) x1_ 20 [(0, .ref (zA Θ 0)), (1, .int (b2i law_a))] [.int (b2i (decide ((x1_ 0 11) < (x1_ 0 10))))] by
    have K4_ : (x1_ 0 11) < (x1_ 0 10) → Z Θ 4 0 0 (zQ Θ ρ) x1_ 15 [(0, .ref (zA Θ 0)), (1, .int (b2i law_a))] [] := by
      intro h7_
      rw [decide_eq_true h7_] at K3_
      refine z_iconst (v := 1) C dX12_read_15 ic_1 ?_
      refine z_goto C 20 dX12_read_16 (by decide) ?_
      exact K3_
    have K5_ : ¬ ((x1_ 0 11) < (x1_ 0 10)) → Z Θ 4 0 0 (zQ Θ ρ) x1_ 19 [(0, .ref (zA Θ 0)), (1, .int (b2i law_a))] [] := by
      intro h7_
      rw [decide_eq_false h7_] at K3_
      refine z_iconst (v := 0) C dX12_read_19 ic_0 ?_
      exact K3_
    refine z_aload_n C 0 dX12_read_4 rfl rfl ?_
    refine fg12_82 C hkd dX12_read_5 ?_
    refine z_aload_n C 0 dX12_read_8 rfl rfl ?_
    refine fg12_85 C hkd dX12_read_9 ?_
    refine c_lt_f C 19 dX12_read_12 (by decide) (fun h6_ => ?_) (fun h6_ => ?_)
    · exact K4_ h6_
    · exact K5_ h6_
  obtain ⟨go8_, h9_, hf⟩ := lt_ hf
  refine z_istN C dX12_read_20 (congrArg b2i h9_) rfl (Nat.le_of_ble_eq_true rfl) rfl ?_
  refine z_iconst (v := 0) C dX12_read_21 ic_0 ?_
  refine z_istN C dX12_read_22 rfl rfl (Nat.le_of_ble_eq_true rfl) rfl ?_
  refine Z.sub [2, 3, 1, 0] rfl ?_
  obtain ⟨y10_, h11_, hf⟩ := ob hf
  suffices K12_ : Z Θ 4 0 0 (zQ Θ ρ) y10_.2.2 144 [(0, .ref (zA Θ 0)), (1, .int (b2i law_a)), (2, .int (b2i y10_.1)), (3, .int y10_.2.1)] [] by
    refine loop3_Z (P := fun (go16_ : Bool) (n17_ : Int32) (σ18_ : St) => Z Θ 4 0 0 (zQ Θ ρ) σ18_ 23 [(0, .ref (zA Θ 0)), (1, .int (b2i law_a)), (2, .int (b2i go16_)), (3, .int n17_)] []) ?_ fuelN go8_ (0 : Int32) x1_ h11_
    clear h11_
    intro rec13_ go16_ n17_ σ18_ h14_ h15_
    have K21_ : (go16_ = true) ∧ ((σ18_ 0 12) = (-1)) → Z Θ 4 0 0 (zQ Θ ρ) σ18_ 35 [(0, .ref (zA Θ 0)), (1, .int (b2i law_a)), (2, .int (b2i go16_)), (3, .int n17_)] [] := by
      intro h25_
      rw [if_pos h25_] at h15_
      refine z_aload_n C 0 dX12_read_35 rfl rfl ?_
      obtain ⟨x26_, h27_, h15_⟩ := ob h15_
      refine cr12_92 C hkd  h27_ ⟨(Nat.le_of_ble_eq_true rfl), (Nat.le_of_ble_eq_true rfl)⟩ (Nat.le_of_ble_eq_true rfl) ⟨Nat.zero_le _, Nat.zero_le _⟩ dX12_read_36 ?_
      obtain ⟨y28_, h29_, h15_⟩ := ob h15_
      suffices K30_ : Z Θ 4 0 0 (zQ Θ ρ) y28_ 80 [(0, .ref (zA Θ 0)), (1, .int (b2i law_a)), (2, .int (b2i go16_)), (3, .int n17_)] [] by
        have K31_ : n17_ = (if law_a = true then 12 else 14) → Z Θ 4 0 0 (zQ Θ ρ) x26_ 54 [(0, .ref (zA Θ 0)), (1, .int (b2i law_a)), (2, .int (b2i go16_)), (3, .int n17_)] [] := by
          intro h39_
          rw [if_pos h39_] at h29_
          refine z_aload_n C 0 dX12_read_54 rfl rfl ?_
          refine z_aload_n C 0 dX12_read_55 rfl rfl ?_
          refine fg12_82 C hkd dX12_read_56 ?_
          obtain ⟨x40_, h41_, h29_⟩ := ob h29_
          refine cr12_108 (where_a := (x26_ 0 11)) C hkd  h41_ ⟨(Nat.le_of_ble_eq_true rfl), (Nat.le_of_ble_eq_true rfl)⟩ (Nat.le_of_ble_eq_true rfl) ⟨Nat.zero_le _, Nat.zero_le _⟩ dX12_read_59 ?_
          refine z_goto C 80 dX12_read_62 (by decide) ?_
          cases h29_
          exact K30_
        have K32_ : ¬ (n17_ = (if law_a = true then 12 else 14)) → Z Θ 4 0 0 (zQ Θ ρ) x26_ 65 [(0, .ref (zA Θ 0)), (1, .int (b2i law_a)), (2, .int (b2i go16_)), (3, .int n17_)] [] := by
          intro h39_
          rw [if_neg h39_] at h29_
          obtain ⟨y42_, h43_, h29_⟩ := ob h29_
          suffices K44_ : Z Θ 4 0 0 (zQ Θ ρ) y42_ 80 [(0, .ref (zA Θ 0)), (1, .int (b2i law_a)), (2, .int (b2i go16_)), (3, .int n17_)] [] by
            have K45_ : law_a = true → Z Θ 4 0 0 (zQ Θ ρ) x26_ 69 [(0, .ref (zA Θ 0)), (1, .int (b2i law_a)), (2, .int (b2i go16_)), (3, .int n17_)] [] := by
              intro h48_
              rw [if_pos h48_] at h43_
              refine z_aload_n C 0 dX12_read_69 rfl rfl ?_
              obtain ⟨x49_, h50_, h43_⟩ := ob h43_
              refine cr12_176 C hkd  h50_ ⟨(Nat.le_of_ble_eq_true rfl), (Nat.le_of_ble_eq_true rfl)⟩ (Nat.le_of_ble_eq_true rfl) ⟨Nat.zero_le _, Nat.zero_le _⟩ dX12_read_70 ?_
              refine z_goto C 80 dX12_read_73 (by decide) ?_
              cases h43_
              exact K44_
            have K46_ : ¬ (law_a = true) → Z Θ 4 0 0 (zQ Θ ρ) x26_ 76 [(0, .ref (zA Θ 0)), (1, .int (b2i law_a)), (2, .int (b2i go16_)), (3, .int n17_)] [] := by
              intro h48_
              rw [if_neg h48_] at h43_
              refine z_aload_n C 0 dX12_read_76 rfl rfl ?_
              obtain ⟨x51_, h52_, h43_⟩ := ob h43_
              refine cr12_179 C hkd  h52_ ⟨(Nat.le_of_ble_eq_true rfl), (Nat.le_of_ble_eq_true rfl)⟩ (Nat.le_of_ble_eq_true rfl) ⟨Nat.zero_le _, Nat.zero_le _⟩ dX12_read_77 ?_
              cases h43_
              exact K44_
            refine z_iload_n C 1 dX12_read_65 rfl rfl ?_
            refine cb_f C 76 dX12_read_66 (by decide) (fun h47_ => ?_) (fun h47_ => ?_)
            · exact K45_ h47_
            · exact K46_ h47_
          cases h29_
          exact K30_
        refine z_iload_n C 3 dX12_read_39 rfl rfl ?_
        suffices K33_ : Z Θ 4 0 0 (zQ Θ ρ) x26_ 51 [(0, .ref (zA Θ 0)), (1, .int (b2i law_a)), (2, .int (b2i go16_)), (3, .int n17_)] [.int (if law_a = true then 12 else 14), .int n17_] by
          have K34_ : law_a = true → Z Θ 4 0 0 (zQ Θ ρ) x26_ 44 [(0, .ref (zA Θ 0)), (1, .int (b2i law_a)), (2, .int (b2i go16_)), (3, .int n17_)] [.int n17_] := by
            intro h37_
            rw [if_pos h37_] at K33_
            refine z_bipush (v := 12) C dX12_read_44 bp_12 ?_
            refine z_goto C 51 dX12_read_46 (by decide) ?_
            exact K33_
          have K35_ : ¬ (law_a = true) → Z Θ 4 0 0 (zQ Θ ρ) x26_ 49 [(0, .ref (zA Θ 0)), (1, .int (b2i law_a)), (2, .int (b2i go16_)), (3, .int n17_)] [.int n17_] := by
            intro h37_
            rw [if_neg h37_] at K33_
            refine z_bipush (v := 14) C dX12_read_49 bp_14 ?_
            exact K33_
          refine z_iload_n C 1 dX12_read_40 rfl rfl ?_
          refine cb_f C 49 dX12_read_41 (by decide) (fun h36_ => ?_) (fun h36_ => ?_)
          · exact K34_ h36_
          · exact K35_ h36_
        refine c_eq_f C 65 dX12_read_51 (by decide) (fun h38_ => ?_) (fun h38_ => ?_)
        · exact K31_ h38_
        · exact K32_ h38_
      obtain ⟨n53_, h54_, h15_⟩ := lt_ h15_
      refine z_inc C 3 dX12_read_80 rfl ic_1 h54_ (Nat.le_of_ble_eq_true rfl) rfl ?_
      refine z_aload_n C 1 dX12_read_83 rfl rfl ?_
      obtain ⟨x55_, h56_, h15_⟩ := ob h15_
      refine cr12_92 C hkd  h56_ ⟨(Nat.le_of_ble_eq_true rfl), (Nat.le_of_ble_eq_true rfl)⟩ (Nat.le_of_ble_eq_true rfl) ⟨Nat.zero_le _, Nat.zero_le _⟩ dX12_read_84 ?_
      obtain ⟨y57_, h58_, h15_⟩ := ob h15_
      suffices K59_ : Z Θ 4 0 0 (zQ Θ ρ) y57_.2 23 [(0, .ref (zA Θ 0)), (1, .int (b2i law_a)), (2, .int (b2i y57_.1)), (3, .int n53_)] [] by
        have K60_ : (¬ (x55_ 0 12) = (-1)) ∨ ((x55_ 0 11) = (x55_ 0 10)) → Z Θ 4 0 0 (zQ Θ ρ) x55_ 106 [(3, .int n53_), (0, .ref (zA Θ 0)), (1, .int (b2i law_a)), (2, .int (b2i go16_))] [] := by
          intro h64_
          rw [if_pos h64_] at h58_
          refine z_iconst (v := 0) C dX12_read_106 ic_0 ?_
          refine z_istN C dX12_read_107 rfl rfl (Nat.le_of_ble_eq_true rfl) rfl ?_
          refine z_goto C 23 dX12_read_108 (by decide) ?_
          cases h58_
          refine Z.sub [2, 3, 0, 1] rfl ?_
          exact K59_
        have K61_ : ¬ ((¬ (x55_ 0 12) = (-1)) ∨ ((x55_ 0 11) = (x55_ 0 10))) → Z Θ 4 0 0 (zQ Θ ρ) x55_ 111 [(3, .int n53_), (0, .ref (zA Θ 0)), (1, .int (b2i law_a)), (2, .int (b2i go16_))] [] := by
          intro h64_
          rw [if_neg h64_] at h58_
          obtain ⟨y65_, h66_, h58_⟩ := ob h58_
          suffices K67_ : Z Θ 4 0 0 (zQ Θ ρ) y65_ 23 [(0, .ref (zA Θ 0)), (1, .int (b2i law_a)), (2, .int (b2i go16_)), (3, .int n53_)] [] by
            refine z_aload_n C 1 dX12_read_111 rfl rfl ?_
            refine z_bipush (v := 59) C dX12_read_112 bp_59 ?_
            obtain ⟨x70_, h71_, h66_⟩ := ob h66_
            refine cr12_182 (c_a := 59) C hkd  h71_ ⟨(Nat.le_of_ble_eq_true rfl), (Nat.le_of_ble_eq_true rfl)⟩ (Nat.le_of_ble_eq_true rfl) ⟨Nat.zero_le _, Nat.zero_le _⟩ dX12_read_114 ?_
            have K68_ : x70_.1 = true → Z Θ 4 0 0 (zQ Θ ρ) x70_.2 120 [(3, .int n53_), (0, .ref (zA Θ 0)), (1, .int (b2i law_a)), (2, .int (b2i go16_))] [] := by
              intro h73_
              rw [if_pos h73_] at h66_
              refine z_aload_n C 1 dX12_read_120 rfl rfl ?_
              refine z_dup C dX12_read_121 rfl ?_
              refine fg12_82 C hkd dX12_read_122 ?_
              refine z_iconst (v := 1) C dX12_read_125 ic_1 ?_
              refine z_iadd C dX12_read_126 ?_
              obtain ⟨σ74_, h75_, h66_⟩ := lt_ h66_
              refine fp12_82 C hkd h75_ dX12_read_127 ?_
              refine z_goto C 23 dX12_read_130 (by decide) ?_
              cases h66_
              refine Z.sub [1, 2, 3, 0] rfl ?_
              exact K67_
            have K69_ : ¬ (x70_.1 = true) → Z Θ 4 0 0 (zQ Θ ρ) x70_.2 133 [(3, .int n53_), (0, .ref (zA Θ 0)), (1, .int (b2i law_a)), (2, .int (b2i go16_))] [] := by
              intro h73_
              rw [if_neg h73_] at h66_
              refine z_aload_n C 1 dX12_read_133 rfl rfl ?_
              refine z_aload_n C 1 dX12_read_134 rfl rfl ?_
              refine fg12_82 C hkd dX12_read_135 ?_
              obtain ⟨x76_, h77_, h66_⟩ := ob h66_
              refine cr12_108 (where_a := (x70_.2 0 11)) C hkd  h77_ ⟨(Nat.le_of_ble_eq_true rfl), (Nat.le_of_ble_eq_true rfl)⟩ (Nat.le_of_ble_eq_true rfl) ⟨Nat.zero_le _, Nat.zero_le _⟩ dX12_read_138 ?_
              refine z_goto C 23 dX12_read_141 (by decide) ?_
              cases h66_
              refine Z.sub [1, 2, 3, 0] rfl ?_
              exact K67_
            refine cb_f C 133 dX12_read_117 (by decide) (fun h72_ => ?_) (fun h72_ => ?_)
            · exact K68_ h72_
            · exact K69_ h72_
          cases h58_
          exact K59_
        refine z_aload_n C 1 dX12_read_87 rfl rfl ?_
        refine fg12_25 C hkd dX12_read_88 ?_
        refine z_iconst (v := (-1)) C dX12_read_91 ic_m1 ?_
        refine c_ne_t C 106 dX12_read_92 (by decide) (fun h62_ => ?_) (fun h62_ => ?_)
        · exact K60_ (Or.inl h62_)
        · refine z_aload_n C 1 dX12_read_95 rfl rfl ?_
          refine fg12_82 C hkd dX12_read_96 ?_
          refine z_aload_n C 1 dX12_read_99 rfl rfl ?_
          refine fg12_85 C hkd dX12_read_100 ?_
          refine c_eq_f C 111 dX12_read_103 (by decide) (fun h63_ => ?_) (fun h63_ => ?_)
          · exact K60_ (Or.inr h63_)
          · exact K61_ (fun n => n.elim h62_ h63_)
      exact h14_ _ _ _ h15_
    have K22_ : ¬ ((go16_ = true) ∧ ((σ18_ 0 12) = (-1))) → Z Θ 4 0 0 (zQ Θ ρ) σ18_ 144 [(0, .ref (zA Θ 0)), (1, .int (b2i law_a)), (2, .int (b2i go16_)), (3, .int n17_)] [] := by
      intro h25_
      rw [if_neg h25_] at h15_
      cases h15_
      exact K12_
    refine z_iload_n C 2 dX12_read_23 rfl rfl ?_
    refine cb_f C 144 dX12_read_24 (by decide) (fun h23_ => ?_) (fun h23_ => ?_)
    · refine z_aload_n C 0 dX12_read_27 rfl rfl ?_
      refine fg12_25 C hkd dX12_read_28 ?_
      refine z_iconst (v := (-1)) C dX12_read_31 ic_m1 ?_
      refine c_eq_f C 144 dX12_read_32 (by decide) (fun h24_ => ?_) (fun h24_ => ?_)
      · exact K21_ ⟨h23_, h24_⟩
      · exact K22_ (fun n => h24_ n.2)
    · exact K22_ (fun n => h23_ n.1)
  refine z_iload_n C 3 dX12_read_144 rfl rfl ?_
  cases hf
  subst hρ
  exact z_iret C dX12_read_145
theorem c12_read {l : Launch} {kd : List KD} {w : Wp} {σ : St} {law_a : Bool} (hkd : kd = kdM) (hi : zI kd w) {r : (Int32 × St)} (hf : q12_read σ law_a = some r) : zM l kd w yX12_read cX12_read 4 (some .int) rm12_read [.ref (w.2.2.1 0), .int (b2i law_a)] σ (some (.int r.1), r.2) := zM_of rfl hi (Nat.le_of_ble_eq_true rfl) (fun Θ hl hw C => by
  obtain ⟨Θ1, Θ2, Θ3, Θ4, Θ5⟩ := Θ
  cases hw
  exact p12_read C hkd  hf rfl)
/-! LastLoafModel.putsAside -/
theorem sp_352 : (Int16.ofInt (352)).toInt32 = 352 := by decide +kernel
theorem w_8_31 : Cond.fieldLink "LastLoafModel" (16 : Nat) "LastLoafModel" "aside" "[I" ∈ TB := tb_in (lwt_8 (List.mem_of_getElem? (i := 31) (by decide +kernel))) rfl
theorem fg12_16 {Θ : Tz} {cc : ByteArray} {nL kc ks : Nat} {ret : Option FieldType} {rm : Room} {Q : State → Prop} {σ : St} {pc : Nat} {lv : List (Nat × Value)} {st : List Value} (C : Zc Θ cc nL RX12 ret rm) (hkd : Θ.2.2.2.2.1 = kdM) (hd : decode cc pc = .ok (.getfield 16, 3)) (kk : Z Θ nL kc ks Q σ (pc + 3) lv (.ref (zA Θ 3) :: st)) : Z Θ nL kc ks Q σ pc lv (.ref (zA Θ 0) :: st) := z_get C inT12 0 (kM_0 hkd) rfl 4 (by decide) w_8_31 rfl hd kk
theorem dX12_putsAside_0 : decode cX12_putsAside 0 = .ok (.iconst 0, 1) := by decide +kernel
theorem dX12_putsAside_1 : decode cX12_putsAside 1 = .ok (.istore_n 1, 1) := by decide +kernel
theorem dX12_putsAside_2 : decode cX12_putsAside 2 = .ok (.iload_n 1, 1) := by decide +kernel
theorem dX12_putsAside_3 : decode cX12_putsAside 3 = .ok (.sipush 352, 3) := by decide +kernel
theorem dX12_putsAside_6 : decode cX12_putsAside 6 = .ok (.if_icmp .ge 21, 3) := by decide +kernel
theorem dX12_putsAside_9 : decode cX12_putsAside 9 = .ok (.aload_n 0, 1) := by decide +kernel
theorem dX12_putsAside_10 : decode cX12_putsAside 10 = .ok (.getfield 16, 3) := by decide +kernel
theorem dX12_putsAside_13 : decode cX12_putsAside 13 = .ok (.iload_n 1, 1) := by decide +kernel
theorem dX12_putsAside_14 : decode cX12_putsAside 14 = .ok (.aload_n 0, 1) := by decide +kernel
theorem dX12_putsAside_15 : decode cX12_putsAside 15 = .ok (.getfield 7, 3) := by decide +kernel
theorem dX12_putsAside_18 : decode cX12_putsAside 18 = .ok (.iload_n 1, 1) := by decide +kernel
theorem dX12_putsAside_19 : decode cX12_putsAside 19 = .ok (.iaload, 1) := by decide +kernel
theorem dX12_putsAside_20 : decode cX12_putsAside 20 = .ok (.iastore, 1) := by decide +kernel
theorem dX12_putsAside_21 : decode cX12_putsAside 21 = .ok (.iinc 1 1, 3) := by decide +kernel
theorem dX12_putsAside_24 : decode cX12_putsAside 24 = .ok (.goto (-22), 3) := by decide +kernel
theorem dX12_putsAside_27 : decode cX12_putsAside 27 = .ok (.return_, 1) := by decide +kernel
def q12_putsAside (σ : St) : Option St :=
  Option.bind (loop2 (fun rec4_ (k7_ : Int32) (σ8_ : St) =>
  if k7_ < 352 then
  Option.bind (ag σ8_ 1 752 k7_) fun x15_ =>
  Option.bind (sa σ8_ 3 352 k7_ x15_) fun σ17_ =>
  lt (k7_ + 1) fun k19_ =>
  rec4_ k19_ σ17_
  else (some (k7_, σ8_))) fuelN (0 : Int32) σ) fun y1_ =>
  some y1_.2
abbrev rm12_putsAside : Room := { frames := 0, cells := 0, slots := 0, locals := 0 }
set_option maxHeartbeats 4000000 in
set_option maxRecDepth 100000 in
theorem p12_putsAside {Θ : Tz} {σ : St} {ρ : Option Value × St} (C : Zc Θ cX12_putsAside 2 RX12 none rm12_putsAside) (hkd : Θ.2.2.2.2.1 = kdM) {r : St} (hf : q12_putsAside σ = some r) (hρ : ρ = (none, r)) : Z Θ 2 0 0 (zQ Θ ρ) σ 0 [(0, .ref (zA Θ 0))] [] := by
  unfold q12_putsAside at hf
  refine z_iconst (v := 0) C dX12_putsAside_0 ic_0 ?_
  refine z_istN C dX12_putsAside_1 rfl rfl (Nat.le_of_ble_eq_true rfl) rfl ?_
  refine Z.sub [1, 0] rfl ?_
  obtain ⟨y1_, h2_, hf⟩ := ob hf
  suffices K3_ : Z Θ 2 0 0 (zQ Θ ρ) y1_.2 27 [(0, .ref (zA Θ 0)), (1, .int y1_.1)] [] by
    refine loop2_Z (P := fun (k7_ : Int32) (σ8_ : St) => Z Θ 2 0 0 (zQ Θ ρ) σ8_ 2 [(0, .ref (zA Θ 0)), (1, .int k7_)] []) ?_ fuelN (0 : Int32) σ h2_
    clear h2_
    intro rec4_ k7_ σ8_ h5_ h6_
    have K11_ : k7_ < 352 → Z Θ 2 0 0 (zQ Θ ρ) σ8_ 9 [(0, .ref (zA Θ 0)), (1, .int k7_)] [] := by
      intro h14_
      rw [if_pos h14_] at h6_
      refine z_aload_n C 0 dX12_putsAside_9 rfl rfl ?_
      refine fg12_16 C hkd dX12_putsAside_10 ?_
      refine z_iload_n C 1 dX12_putsAside_13 rfl rfl ?_
      refine z_aload_n C 0 dX12_putsAside_14 rfl rfl ?_
      refine fg12_7 C hkd dX12_putsAside_15 ?_
      refine z_iload_n C 1 dX12_putsAside_18 rfl rfl ?_
      obtain ⟨x15_, h16_, h6_⟩ := ob h6_
      refine z_ag C h16_ (kM_1 hkd) dX12_putsAside_19 ?_
      obtain ⟨σ17_, h18_, h6_⟩ := ob h6_
      refine z_sa C h18_ (kM_3 hkd) dX12_putsAside_20 ?_
      obtain ⟨k19_, h20_, h6_⟩ := lt_ h6_
      refine z_inc C 1 dX12_putsAside_21 rfl ic_1 h20_ (Nat.le_of_ble_eq_true rfl) rfl ?_
      refine z_goto C 2 dX12_putsAside_24 (by decide) ?_
      refine Z.sub [1, 0] rfl ?_
      exact h5_ _ _ h6_
    have K12_ : ¬ (k7_ < 352) → Z Θ 2 0 0 (zQ Θ ρ) σ8_ 27 [(0, .ref (zA Θ 0)), (1, .int k7_)] [] := by
      intro h14_
      rw [if_neg h14_] at h6_
      cases h6_
      exact K3_
    refine z_iload_n C 1 dX12_putsAside_2 rfl rfl ?_
    refine z_sipush (v := 352) C dX12_putsAside_3 sp_352 ?_
    refine c_lt_f C 27 dX12_putsAside_6 (by decide) (fun h13_ => ?_) (fun h13_ => ?_)
    · exact K11_ h13_
    · exact K12_ h13_
  cases hf
  subst hρ
  exact z_vret C dX12_putsAside_27
theorem c12_putsAside {l : Launch} {kd : List KD} {w : Wp} {σ : St} (hkd : kd = kdM) (hi : zI kd w) {r : St} (hf : q12_putsAside σ = some r) : zM l kd w yX12_putsAside cX12_putsAside 2 none rm12_putsAside [.ref (w.2.2.1 0)] σ (none, r) := zM_of rfl hi (Nat.le_of_ble_eq_true rfl) (fun Θ hl hw C => by
  obtain ⟨Θ1, Θ2, Θ3, Θ4, Θ5⟩ := Θ
  cases hw
  exact p12_putsAside C hkd  hf rfl)
/-! LastLoafModel.comesBack -/
theorem dX12_comesBack_0 : decode cX12_comesBack 0 = .ok (.iconst 0, 1) := by decide +kernel
theorem dX12_comesBack_1 : decode cX12_comesBack 1 = .ok (.istore_n 1, 1) := by decide +kernel
theorem dX12_comesBack_2 : decode cX12_comesBack 2 = .ok (.iload_n 1, 1) := by decide +kernel
theorem dX12_comesBack_3 : decode cX12_comesBack 3 = .ok (.sipush 352, 3) := by decide +kernel
theorem dX12_comesBack_6 : decode cX12_comesBack 6 = .ok (.if_icmp .ge 21, 3) := by decide +kernel
theorem dX12_comesBack_9 : decode cX12_comesBack 9 = .ok (.aload_n 0, 1) := by decide +kernel
theorem dX12_comesBack_10 : decode cX12_comesBack 10 = .ok (.getfield 7, 3) := by decide +kernel
theorem dX12_comesBack_13 : decode cX12_comesBack 13 = .ok (.iload_n 1, 1) := by decide +kernel
theorem dX12_comesBack_14 : decode cX12_comesBack 14 = .ok (.aload_n 0, 1) := by decide +kernel
theorem dX12_comesBack_15 : decode cX12_comesBack 15 = .ok (.getfield 16, 3) := by decide +kernel
theorem dX12_comesBack_18 : decode cX12_comesBack 18 = .ok (.iload_n 1, 1) := by decide +kernel
theorem dX12_comesBack_19 : decode cX12_comesBack 19 = .ok (.iaload, 1) := by decide +kernel
theorem dX12_comesBack_20 : decode cX12_comesBack 20 = .ok (.iastore, 1) := by decide +kernel
theorem dX12_comesBack_21 : decode cX12_comesBack 21 = .ok (.iinc 1 1, 3) := by decide +kernel
theorem dX12_comesBack_24 : decode cX12_comesBack 24 = .ok (.goto (-22), 3) := by decide +kernel
theorem dX12_comesBack_27 : decode cX12_comesBack 27 = .ok (.return_, 1) := by decide +kernel
def q12_comesBack (σ : St) : Option St :=
  Option.bind (loop2 (fun rec4_ (k7_ : Int32) (σ8_ : St) =>
  if k7_ < 352 then
  Option.bind (ag σ8_ 3 352 k7_) fun x15_ =>
  Option.bind (sa σ8_ 1 752 k7_ x15_) fun σ17_ =>
  lt (k7_ + 1) fun k19_ =>
  rec4_ k19_ σ17_
  else (some (k7_, σ8_))) fuelN (0 : Int32) σ) fun y1_ =>
  some y1_.2
abbrev rm12_comesBack : Room := { frames := 0, cells := 0, slots := 0, locals := 0 }
set_option maxHeartbeats 4000000 in
set_option maxRecDepth 100000 in
theorem p12_comesBack {Θ : Tz} {σ : St} {ρ : Option Value × St} (C : Zc Θ cX12_comesBack 2 RX12 none rm12_comesBack) (hkd : Θ.2.2.2.2.1 = kdM) {r : St} (hf : q12_comesBack σ = some r) (hρ : ρ = (none, r)) : Z Θ 2 0 0 (zQ Θ ρ) σ 0 [(0, .ref (zA Θ 0))] [] := by
  unfold q12_comesBack at hf
  refine z_iconst (v := 0) C dX12_comesBack_0 ic_0 ?_
  refine z_istN C dX12_comesBack_1 rfl rfl (Nat.le_of_ble_eq_true rfl) rfl ?_
  refine Z.sub [1, 0] rfl ?_
  obtain ⟨y1_, h2_, hf⟩ := ob hf
  suffices K3_ : Z Θ 2 0 0 (zQ Θ ρ) y1_.2 27 [(0, .ref (zA Θ 0)), (1, .int y1_.1)] [] by
    refine loop2_Z (P := fun (k7_ : Int32) (σ8_ : St) => Z Θ 2 0 0 (zQ Θ ρ) σ8_ 2 [(0, .ref (zA Θ 0)), (1, .int k7_)] []) ?_ fuelN (0 : Int32) σ h2_
    clear h2_
    intro rec4_ k7_ σ8_ h5_ h6_
    have K11_ : k7_ < 352 → Z Θ 2 0 0 (zQ Θ ρ) σ8_ 9 [(0, .ref (zA Θ 0)), (1, .int k7_)] [] := by
      intro h14_
      rw [if_pos h14_] at h6_
      refine z_aload_n C 0 dX12_comesBack_9 rfl rfl ?_
      refine fg12_7 C hkd dX12_comesBack_10 ?_
      refine z_iload_n C 1 dX12_comesBack_13 rfl rfl ?_
      refine z_aload_n C 0 dX12_comesBack_14 rfl rfl ?_
      refine fg12_16 C hkd dX12_comesBack_15 ?_
      refine z_iload_n C 1 dX12_comesBack_18 rfl rfl ?_
      obtain ⟨x15_, h16_, h6_⟩ := ob h6_
      refine z_ag C h16_ (kM_3 hkd) dX12_comesBack_19 ?_
      obtain ⟨σ17_, h18_, h6_⟩ := ob h6_
      refine z_sa C h18_ (kM_1 hkd) dX12_comesBack_20 ?_
      obtain ⟨k19_, h20_, h6_⟩ := lt_ h6_
      refine z_inc C 1 dX12_comesBack_21 rfl ic_1 h20_ (Nat.le_of_ble_eq_true rfl) rfl ?_
      refine z_goto C 2 dX12_comesBack_24 (by decide) ?_
      refine Z.sub [1, 0] rfl ?_
      exact h5_ _ _ h6_
    have K12_ : ¬ (k7_ < 352) → Z Θ 2 0 0 (zQ Θ ρ) σ8_ 27 [(0, .ref (zA Θ 0)), (1, .int k7_)] [] := by
      intro h14_
      rw [if_neg h14_] at h6_
      cases h6_
      exact K3_
    refine z_iload_n C 1 dX12_comesBack_2 rfl rfl ?_
    refine z_sipush (v := 352) C dX12_comesBack_3 sp_352 ?_
    refine c_lt_f C 27 dX12_comesBack_6 (by decide) (fun h13_ => ?_) (fun h13_ => ?_)
    · exact K11_ h13_
    · exact K12_ h13_
  cases hf
  subst hρ
  exact z_vret C dX12_comesBack_27
theorem c12_comesBack {l : Launch} {kd : List KD} {w : Wp} {σ : St} (hkd : kd = kdM) (hi : zI kd w) {r : St} (hf : q12_comesBack σ = some r) : zM l kd w yX12_comesBack cX12_comesBack 2 none rm12_comesBack [.ref (w.2.2.1 0)] σ (none, r) := zM_of rfl hi (Nat.le_of_ble_eq_true rfl) (fun Θ hl hw C => by
  obtain ⟨Θ1, Θ2, Θ3, Θ4, Θ5⟩ := Θ
  cases hw
  exact p12_comesBack C hkd  hf rfl)
/-! LastLoafModel.village -/
theorem w_8_149 : Cond.code ({ cls := "LastLoafModel", name := "putsAside", desc := "()V" } : MethodName) prog_14_method_31_code (2 : Nat) (Option.none : Option ClassFile.FieldType) ∈ TB := tb_in (lwt_8 (List.mem_of_getElem? (i := 149) (by decide +kernel))) rfl
theorem w_8_146 : Cond.methodLink "LastLoafModel" (186 : Nat) ({ cls := "LastLoafModel", name := "putsAside", desc := "()V" } : MethodName) ∈ TB := tb_in (lwt_8 (List.mem_of_getElem? (i := 146) (by decide +kernel))) rfl
theorem w_8_148 : Cond.instanceMethod ({ cls := "LastLoafModel", name := "putsAside", desc := "()V" } : MethodName) ∈ TB := tb_in (lwt_8 (List.mem_of_getElem? (i := 148) (by decide +kernel))) rfl
theorem ws_LastLoafModel_putsAside__V : Cond.selects "LastLoafModel" (⟨"LastLoafModel", "putsAside", "()V"⟩ : MethodName) (⟨"LastLoafModel", "putsAside", "()V"⟩ : MethodName) ∈ TB := tb_in (List.mem_append_left _ (List.mem_of_getElem? (i := 17) (by decide +kernel))) rfl
theorem cr12_186 {Θ : Tz} {cc : ByteArray} {nL kc ks : Nat} {ret : Option FieldType} {rm : Room} {Q : State → Prop} {σ : St} {pc : Nat} {lv : List (Nat × Value)} {st : List Value} (C : Zc Θ cc nL RX12 ret rm) (hkd : Θ.2.2.2.2.1 = kdM) {r : St} (hx : q12_putsAside σ = some r) (hrm : rm12_putsAside.frames + 1 ≤ rm.frames ∧ 8 + (2 + 11) + rm12_putsAside.locals ≤ rm.locals) (hcat : (st.map fun v => v.category).sum ≤ 8) (hk : kc ≤ rm.cells ∧ ks ≤ rm.slots) (hd : decode cc pc = .ok (.invokevirtual 186, 3)) (kk : Z Θ nL kc ks Q r (pc + 3) lv st) : Z Θ nL kc ks Q σ pc lv (.ref (zA Θ 0) :: st) := z_callV C 0 [] (none, r) 0 (kM_0 hkd) rfl (c12_putsAside hkd (zc_inj C) hx) w_8_149 w_8_146 w_8_148 ws_LastLoafModel_putsAside__V w_1_14 ⟨rfl, rfl, hrm.1, hrm.2⟩ (by decide +kernel) rfl rfl hcat hk hd kk
theorem w_8_153 : Cond.code ({ cls := "LastLoafModel", name := "begins", desc := "()V" } : MethodName) prog_14_method_29_code (1 : Nat) (Option.none : Option ClassFile.FieldType) ∈ TB := tb_in (lwt_8 (List.mem_of_getElem? (i := 153) (by decide +kernel))) rfl
theorem w_8_150 : Cond.methodLink "LastLoafModel" (189 : Nat) ({ cls := "LastLoafModel", name := "begins", desc := "()V" } : MethodName) ∈ TB := tb_in (lwt_8 (List.mem_of_getElem? (i := 150) (by decide +kernel))) rfl
theorem w_8_152 : Cond.instanceMethod ({ cls := "LastLoafModel", name := "begins", desc := "()V" } : MethodName) ∈ TB := tb_in (lwt_8 (List.mem_of_getElem? (i := 152) (by decide +kernel))) rfl
theorem ws_LastLoafModel_begins__V : Cond.selects "LastLoafModel" (⟨"LastLoafModel", "begins", "()V"⟩ : MethodName) (⟨"LastLoafModel", "begins", "()V"⟩ : MethodName) ∈ TB := tb_in (List.mem_append_left _ (List.mem_of_getElem? (i := 18) (by decide +kernel))) rfl
theorem cr12_189 {Θ : Tz} {cc : ByteArray} {nL kc ks : Nat} {ret : Option FieldType} {rm : Room} {Q : State → Prop} {σ : St} {pc : Nat} {lv : List (Nat × Value)} {st : List Value} (C : Zc Θ cc nL RX12 ret rm) (hkd : Θ.2.2.2.2.1 = kdM) {r : St} (hx : q12_begins σ = some r) (hrm : rm12_begins.frames + 1 ≤ rm.frames ∧ 8 + (1 + 11) + rm12_begins.locals ≤ rm.locals) (hcat : (st.map fun v => v.category).sum ≤ 8) (hk : kc ≤ rm.cells ∧ ks ≤ rm.slots) (hd : decode cc pc = .ok (.invokevirtual 189, 3)) (kk : Z Θ nL kc ks Q r (pc + 3) lv st) : Z Θ nL kc ks Q σ pc lv (.ref (zA Θ 0) :: st) := z_callV C 0 [] (none, r) 0 (kM_0 hkd) rfl (c12_begins hkd (zc_inj C) hx) w_8_153 w_8_150 w_8_152 ws_LastLoafModel_begins__V w_1_14 ⟨rfl, rfl, hrm.1, hrm.2⟩ (by decide +kernel) rfl rfl hcat hk hd kk
theorem w_8_157 : Cond.code ({ cls := "LastLoafModel", name := "read", desc := "(Z)I" } : MethodName) prog_14_method_30_code (4 : Nat) (Option.some ClassFile.FieldType.int) ∈ TB := tb_in (lwt_8 (List.mem_of_getElem? (i := 157) (by decide +kernel))) rfl
theorem w_8_154 : Cond.methodLink "LastLoafModel" (192 : Nat) ({ cls := "LastLoafModel", name := "read", desc := "(Z)I" } : MethodName) ∈ TB := tb_in (lwt_8 (List.mem_of_getElem? (i := 154) (by decide +kernel))) rfl
theorem w_8_156 : Cond.instanceMethod ({ cls := "LastLoafModel", name := "read", desc := "(Z)I" } : MethodName) ∈ TB := tb_in (lwt_8 (List.mem_of_getElem? (i := 156) (by decide +kernel))) rfl
theorem ws_LastLoafModel_read_Z_I : Cond.selects "LastLoafModel" (⟨"LastLoafModel", "read", "(Z)I"⟩ : MethodName) (⟨"LastLoafModel", "read", "(Z)I"⟩ : MethodName) ∈ TB := tb_in (List.mem_append_left _ (List.mem_of_getElem? (i := 19) (by decide +kernel))) rfl
theorem cr12_192 {Θ : Tz} {cc : ByteArray} {nL kc ks : Nat} {ret : Option FieldType} {rm : Room} {Q : State → Prop} {σ : St} {pc : Nat} {lv : List (Nat × Value)} {st : List Value} (C : Zc Θ cc nL RX12 ret rm) (hkd : Θ.2.2.2.2.1 = kdM) {law_a : Bool} {r : Int32 × St} (hx : q12_read σ law_a = some r) (hrm : rm12_read.frames + 1 ≤ rm.frames ∧ 8 + (4 + 11) + rm12_read.locals ≤ rm.locals) (hcat : (st.map fun v => v.category).sum ≤ 8) (hk : kc ≤ rm.cells ∧ ks ≤ rm.slots) (hd : decode cc pc = .ok (.invokevirtual 192, 3)) (kk : Z Θ nL kc ks Q r.2 (pc + 3) lv (.int r.1 :: st)) : Z Θ nL kc ks Q σ pc lv (.int (b2i law_a) :: .ref (zA Θ 0) :: st) := z_callV C 0 [.int (b2i law_a)] (some (.int r.1), r.2) 1 (kM_0 hkd) rfl (c12_read (law_a := law_a) hkd (zc_inj C) hx) w_8_157 w_8_154 w_8_156 ws_LastLoafModel_read_Z_I w_1_14 ⟨rfl, rfl, hrm.1, hrm.2⟩ (by decide +kernel) rfl rfl hcat hk hd kk
theorem w_9_37 : Cond.code ({ cls := "LastLoafModel", name := "comesBack", desc := "()V" } : MethodName) prog_14_method_32_code (2 : Nat) (Option.none : Option ClassFile.FieldType) ∈ TB := tb_in (lwt_9 (List.mem_of_getElem? (i := 37) (by decide +kernel))) rfl
theorem w_9_34 : Cond.methodLink "LastLoafModel" (196 : Nat) ({ cls := "LastLoafModel", name := "comesBack", desc := "()V" } : MethodName) ∈ TB := tb_in (lwt_9 (List.mem_of_getElem? (i := 34) (by decide +kernel))) rfl
theorem w_9_36 : Cond.instanceMethod ({ cls := "LastLoafModel", name := "comesBack", desc := "()V" } : MethodName) ∈ TB := tb_in (lwt_9 (List.mem_of_getElem? (i := 36) (by decide +kernel))) rfl
theorem ws_LastLoafModel_comesBack__V : Cond.selects "LastLoafModel" (⟨"LastLoafModel", "comesBack", "()V"⟩ : MethodName) (⟨"LastLoafModel", "comesBack", "()V"⟩ : MethodName) ∈ TB := tb_in (List.mem_append_left _ (List.mem_of_getElem? (i := 41) (by decide +kernel))) rfl
theorem cr12_196 {Θ : Tz} {cc : ByteArray} {nL kc ks : Nat} {ret : Option FieldType} {rm : Room} {Q : State → Prop} {σ : St} {pc : Nat} {lv : List (Nat × Value)} {st : List Value} (C : Zc Θ cc nL RX12 ret rm) (hkd : Θ.2.2.2.2.1 = kdM) {r : St} (hx : q12_comesBack σ = some r) (hrm : rm12_comesBack.frames + 1 ≤ rm.frames ∧ 8 + (2 + 11) + rm12_comesBack.locals ≤ rm.locals) (hcat : (st.map fun v => v.category).sum ≤ 8) (hk : kc ≤ rm.cells ∧ ks ≤ rm.slots) (hd : decode cc pc = .ok (.invokevirtual 196, 3)) (kk : Z Θ nL kc ks Q r (pc + 3) lv st) : Z Θ nL kc ks Q σ pc lv (.ref (zA Θ 0) :: st) := z_callV C 0 [] (none, r) 0 (kM_0 hkd) rfl (c12_comesBack hkd (zc_inj C) hx) w_9_37 w_9_34 w_9_36 ws_LastLoafModel_comesBack__V w_1_14 ⟨rfl, rfl, hrm.1, hrm.2⟩ (by decide +kernel) rfl rfl hcat hk hd kk
theorem w_8_33 : Cond.fieldLink "LastLoafModel" (199 : Nat) "LastLoafModel" "acted" "I" ∈ TB := tb_in (lwt_8 (List.mem_of_getElem? (i := 33) (by decide +kernel))) rfl
theorem fp12_199 {Θ : Tz} {cc : ByteArray} {nL kc ks : Nat} {ret : Option FieldType} {rm : Room} {Q : State → Prop} {σ : St} {pc : Nat} {lv : List (Nat × Value)} {st : List Value} (C : Zc Θ cc nL RX12 ret rm) (hkd : Θ.2.2.2.2.1 = kdM) {x : Int32} {σ1 : St} (he : σ1 = up σ 0 6 x) (hd : decode cc pc = .ok (.putfield 199, 3)) (kk : Z Θ nL kc ks Q σ1 (pc + 3) lv st) : Z Θ nL kc ks Q σ pc lv (.int x :: .ref (zA Θ 0) :: st) := by subst he; exact z_put C inT12 tyX12_ok nmX12 0 (kM_0 hkd) rfl 6 (by decide) w_8_33 rfl rfl rfl rfl hd kk
theorem dX12_village_0 : decode cX12_village 0 = .ok (.aload_n 0, 1) := by decide +kernel
theorem dX12_village_1 : decode cX12_village 1 = .ok (.invokevirtual 186, 3) := by decide +kernel
theorem dX12_village_4 : decode cX12_village 4 = .ok (.aload_n 0, 1) := by decide +kernel
theorem dX12_village_5 : decode cX12_village 5 = .ok (.invokevirtual 189, 3) := by decide +kernel
theorem dX12_village_8 : decode cX12_village 8 = .ok (.aload_n 0, 1) := by decide +kernel
theorem dX12_village_9 : decode cX12_village 9 = .ok (.iconst 0, 1) := by decide +kernel
theorem dX12_village_10 : decode cX12_village 10 = .ok (.invokevirtual 192, 3) := by decide +kernel
theorem dX12_village_13 : decode cX12_village 13 = .ok (.istore_n 1, 1) := by decide +kernel
theorem dX12_village_14 : decode cX12_village 14 = .ok (.aload_n 0, 1) := by decide +kernel
theorem dX12_village_15 : decode cX12_village 15 = .ok (.aload_n 0, 1) := by decide +kernel
theorem dX12_village_16 : decode cX12_village 16 = .ok (.getfield 25, 3) := by decide +kernel
theorem dX12_village_19 : decode cX12_village 19 = .ok (.iconst (-1), 1) := by decide +kernel
theorem dX12_village_20 : decode cX12_village 20 = .ok (.if_icmp .eq 7, 3) := by decide +kernel
theorem dX12_village_23 : decode cX12_village 23 = .ok (.iconst 1, 1) := by decide +kernel
theorem dX12_village_24 : decode cX12_village 24 = .ok (.goto 19, 3) := by decide +kernel
theorem dX12_village_27 : decode cX12_village 27 = .ok (.aload_n 0, 1) := by decide +kernel
theorem dX12_village_28 : decode cX12_village 28 = .ok (.getfield 7, 3) := by decide +kernel
theorem dX12_village_31 : decode cX12_village 31 = .ok (.iconst 0, 1) := by decide +kernel
theorem dX12_village_32 : decode cX12_village 32 = .ok (.iaload, 1) := by decide +kernel
theorem dX12_village_33 : decode cX12_village 33 = .ok (.bipush 12, 2) := by decide +kernel
theorem dX12_village_35 : decode cX12_village 35 = .ok (.if_icmp .ne 7, 3) := by decide +kernel
theorem dX12_village_38 : decode cX12_village 38 = .ok (.iconst 2, 1) := by decide +kernel
theorem dX12_village_39 : decode cX12_village 39 = .ok (.goto 4, 3) := by decide +kernel
theorem dX12_village_42 : decode cX12_village 42 = .ok (.iconst 0, 1) := by decide +kernel
theorem dX12_village_43 : decode cX12_village 43 = .ok (.putfield 65, 3) := by decide +kernel
theorem dX12_village_46 : decode cX12_village 46 = .ok (.aload_n 0, 1) := by decide +kernel
theorem dX12_village_47 : decode cX12_village 47 = .ok (.getfield 65, 3) := by decide +kernel
theorem dX12_village_50 : decode cX12_village 50 = .ok (.ifCond .le 9, 3) := by decide +kernel
theorem dX12_village_53 : decode cX12_village 53 = .ok (.aload_n 0, 1) := by decide +kernel
theorem dX12_village_54 : decode cX12_village 54 = .ok (.invokevirtual 196, 3) := by decide +kernel
theorem dX12_village_57 : decode cX12_village 57 = .ok (.iconst 0, 1) := by decide +kernel
theorem dX12_village_58 : decode cX12_village 58 = .ok (.ireturn, 1) := by decide +kernel
theorem dX12_village_59 : decode cX12_village 59 = .ok (.aload_n 0, 1) := by decide +kernel
theorem dX12_village_60 : decode cX12_village 60 = .ok (.getfield 7, 3) := by decide +kernel
theorem dX12_village_63 : decode cX12_village 63 = .ok (.iconst 0, 1) := by decide +kernel
theorem dX12_village_64 : decode cX12_village 64 = .ok (.dup2, 1) := by decide +kernel
theorem dX12_village_65 : decode cX12_village 65 = .ok (.iaload, 1) := by decide +kernel
theorem dX12_village_66 : decode cX12_village 66 = .ok (.iconst 1, 1) := by decide +kernel
theorem dX12_village_67 : decode cX12_village 67 = .ok (.iadd, 1) := by decide +kernel
theorem dX12_village_68 : decode cX12_village 68 = .ok (.iastore, 1) := by decide +kernel
theorem dX12_village_69 : decode cX12_village 69 = .ok (.aload_n 0, 1) := by decide +kernel
theorem dX12_village_70 : decode cX12_village 70 = .ok (.iconst 0, 1) := by decide +kernel
theorem dX12_village_71 : decode cX12_village 71 = .ok (.putfield 199, 3) := by decide +kernel
theorem dX12_village_74 : decode cX12_village 74 = .ok (.aload_n 0, 1) := by decide +kernel
theorem dX12_village_75 : decode cX12_village 75 = .ok (.getfield 7, 3) := by decide +kernel
theorem dX12_village_78 : decode cX12_village 78 = .ok (.iconst 0, 1) := by decide +kernel
theorem dX12_village_79 : decode cX12_village 79 = .ok (.iaload, 1) := by decide +kernel
theorem dX12_village_80 : decode cX12_village 80 = .ok (.ireturn, 1) := by decide +kernel
def q12_village (σ : St) : Option (Int32 × St) :=
  Option.bind (q12_putsAside σ) fun x1_ =>
  Option.bind (q12_begins x1_) fun x3_ =>
  Option.bind (q12_read x3_ false) fun x5_ =>
  Option.bind (if ¬ (x5_.2 0 12) = (-1) then (some (1 : Int32)) else (Option.bind (Option.bind (ag x5_.2 1 752 0) fun x18_ =>
  if x18_ = 12 then (some (2 : Int32)) else (some (0 : Int32))) fun x13_ =>
  some x13_)) fun x7_ =>
  lt (up x5_.2 0 0 x7_) fun σ23_ =>
  if 0 < (σ23_ 0 0) then (Option.bind (q12_comesBack σ23_) fun x29_ =>
  some (0, x29_)) else
  Option.bind (ag σ23_ 1 752 0) fun x31_ =>
  Option.bind (sa σ23_ 1 752 0 (x31_ + 1)) fun σ33_ =>
  lt (up σ33_ 0 6 0) fun σ35_ =>
  Option.bind (ag σ35_ 1 752 0) fun x37_ =>
  some (x37_, σ35_)
abbrev rm12_village : Room := { frames := 75, cells := 0, slots := 0, locals := 4148 }
set_option maxHeartbeats 4000000 in
set_option maxRecDepth 100000 in
theorem p12_village {Θ : Tz} {σ : St} {ρ : Option Value × St} (C : Zc Θ cX12_village 2 RX12 (some .int) rm12_village) (hkd : Θ.2.2.2.2.1 = kdM) {r : (Int32 × St)} (hf : q12_village σ = some r) (hρ : ρ = (some (.int r.1), r.2)) : Z Θ 2 0 0 (zQ Θ ρ) σ 0 [(0, .ref (zA Θ 0))] [] := by
  unfold q12_village at hf
  refine z_aload_n C 0 dX12_village_0 rfl rfl ?_
  obtain ⟨x1_, h2_, hf⟩ := ob hf
  refine cr12_186 C hkd  h2_ ⟨(Nat.le_of_ble_eq_true rfl), (Nat.le_of_ble_eq_true rfl)⟩ (Nat.le_of_ble_eq_true rfl) ⟨Nat.zero_le _, Nat.zero_le _⟩ dX12_village_1 ?_
  refine z_aload_n C 0 dX12_village_4 rfl rfl ?_
  obtain ⟨x3_, h4_, hf⟩ := ob hf
  refine cr12_189 C hkd  h4_ ⟨(Nat.le_of_ble_eq_true rfl), (Nat.le_of_ble_eq_true rfl)⟩ (Nat.le_of_ble_eq_true rfl) ⟨Nat.zero_le _, Nat.zero_le _⟩ dX12_village_5 ?_
  refine z_aload_n C 0 dX12_village_8 rfl rfl ?_
  refine z_iconst (v := 0) C dX12_village_9 ic_0 ?_
  obtain ⟨x5_, h6_, hf⟩ := ob hf
  refine cr12_192 (law_a := false) C hkd  h6_ ⟨(Nat.le_of_ble_eq_true rfl), (Nat.le_of_ble_eq_true rfl)⟩ (Nat.le_of_ble_eq_true rfl) ⟨Nat.zero_le _, Nat.zero_le _⟩ dX12_village_10 ?_
  refine z_istN C dX12_village_13 rfl rfl (Nat.le_of_ble_eq_true rfl) rfl ?_
  refine z_aload_n C 1 dX12_village_14 rfl rfl ?_
  obtain ⟨x7_, h8_, hf⟩ := ob hf
  suffices K9_ : Z Θ 2 0 0 (zQ Θ ρ) x5_.2 43 [(1, .int x5_.1), (0, .ref (zA Θ 0))] [.int x7_, .ref (zA Θ 0)] by
    have K10_ : ¬ (x5_.2 0 12) = (-1) → Z Θ 2 0 0 (zQ Θ ρ) x5_.2 23 [(1, .int x5_.1), (0, .ref (zA Θ 0))] [.ref (zA Θ 0)] := by
      intro h22_
      rw [if_pos h22_] at h8_
      refine z_iconst (v := 1) C dX12_village_23 ic_1 ?_
      refine z_goto C 43 dX12_village_24 (by decide) ?_
      cases h8_
      exact K9_
    have K11_ : ¬ (¬ (x5_.2 0 12) = (-1)) → Z Θ 2 0 0 (zQ Θ ρ) x5_.2 27 [(1, .int x5_.1), (0, .ref (zA Θ 0))] [.ref (zA Θ 0)] := by
      intro h22_
      rw [if_neg h22_] at h8_
      obtain ⟨x13_, h14_, h8_⟩ := ob h8_
      suffices K15_ : Z Θ 2 0 0 (zQ Θ ρ) x5_.2 43 [(1, .int x5_.1), (0, .ref (zA Θ 0))] [.int x13_, .ref (zA Θ 0)] by
        refine z_aload_n C 1 dX12_village_27 rfl rfl ?_
        refine fg12_7 C hkd dX12_village_28 ?_
        refine z_iconst (v := 0) C dX12_village_31 ic_0 ?_
        obtain ⟨x18_, h19_, h14_⟩ := ob h14_
        refine z_ag C h19_ (kM_1 hkd) dX12_village_32 ?_
        refine z_bipush (v := 12) C dX12_village_33 bp_12 ?_
        have K16_ : x18_ = 12 → Z Θ 2 0 0 (zQ Θ ρ) x5_.2 38 [(1, .int x5_.1), (0, .ref (zA Θ 0))] [.ref (zA Θ 0)] := by
          intro h21_
          rw [if_pos h21_] at h14_
          refine z_iconst (v := 2) C dX12_village_38 ic_2 ?_
          refine z_goto C 43 dX12_village_39 (by decide) ?_
          cases h14_
          exact K15_
        have K17_ : ¬ (x18_ = 12) → Z Θ 2 0 0 (zQ Θ ρ) x5_.2 42 [(1, .int x5_.1), (0, .ref (zA Θ 0))] [.ref (zA Θ 0)] := by
          intro h21_
          rw [if_neg h21_] at h14_
          refine z_iconst (v := 0) C dX12_village_42 ic_0 ?_
          cases h14_
          exact K15_
        refine c_eq_f C 42 dX12_village_35 (by decide) (fun h20_ => ?_) (fun h20_ => ?_)
        · exact K16_ h20_
        · exact K17_ h20_
      cases h8_
      exact K9_
    refine z_aload_n C 1 dX12_village_15 rfl rfl ?_
    refine fg12_25 C hkd dX12_village_16 ?_
    refine z_iconst (v := (-1)) C dX12_village_19 ic_m1 ?_
    refine c_ne_f C 27 dX12_village_20 (by decide) (fun h12_ => ?_) (fun h12_ => ?_)
    · exact K10_ h12_
    · exact K11_ h12_
  obtain ⟨σ23_, h24_, hf⟩ := lt_ hf
  refine fp12_65 C hkd h24_ dX12_village_43 ?_
  have K25_ : 0 < (σ23_ 0 0) → Z Θ 2 0 0 (zQ Θ ρ) σ23_ 53 [(1, .int x5_.1), (0, .ref (zA Θ 0))] [] := by
    intro h28_
    rw [if_pos h28_] at hf
    refine z_aload_n C 1 dX12_village_53 rfl rfl ?_
    obtain ⟨x29_, h30_, hf⟩ := ob hf
    refine cr12_196 C hkd  h30_ ⟨(Nat.le_of_ble_eq_true rfl), (Nat.le_of_ble_eq_true rfl)⟩ (Nat.le_of_ble_eq_true rfl) ⟨Nat.zero_le _, Nat.zero_le _⟩ dX12_village_54 ?_
    refine z_iconst (v := 0) C dX12_village_57 ic_0 ?_
    cases hf
    subst hρ
    exact z_iret C dX12_village_58
  suffices K26_ : ¬ (0 < (σ23_ 0 0)) → Z Θ 2 0 0 (zQ Θ ρ) σ23_ 59 [(1, .int x5_.1), (0, .ref (zA Θ 0))] [] by
    refine z_aload_n C 1 dX12_village_46 rfl rfl ?_
    refine fg12_65 C hkd dX12_village_47 ?_
    refine c0_gt_f C 59 dX12_village_50 (by decide) (fun h27_ => ?_) (fun h27_ => ?_)
    · exact K25_ h27_
    · exact K26_ h27_
  intro h28_
  rw [if_neg h28_] at hf
  refine z_aload_n C 1 dX12_village_59 rfl rfl ?_
  refine fg12_7 C hkd dX12_village_60 ?_
  refine z_iconst (v := 0) C dX12_village_63 ic_0 ?_
  refine z_dup2 C dX12_village_64 rfl rfl ?_
  obtain ⟨x31_, h32_, hf⟩ := ob hf
  refine z_ag C h32_ (kM_1 hkd) dX12_village_65 ?_
  refine z_iconst (v := 1) C dX12_village_66 ic_1 ?_
  refine z_iadd C dX12_village_67 ?_
  obtain ⟨σ33_, h34_, hf⟩ := ob hf
  refine z_sa C h34_ (kM_1 hkd) dX12_village_68 ?_
  refine z_aload_n C 1 dX12_village_69 rfl rfl ?_
  refine z_iconst (v := 0) C dX12_village_70 ic_0 ?_
  obtain ⟨σ35_, h36_, hf⟩ := lt_ hf
  refine fp12_199 C hkd h36_ dX12_village_71 ?_
  refine z_aload_n C 1 dX12_village_74 rfl rfl ?_
  refine fg12_7 C hkd dX12_village_75 ?_
  refine z_iconst (v := 0) C dX12_village_78 ic_0 ?_
  obtain ⟨x37_, h38_, hf⟩ := ob hf
  refine z_ag C h38_ (kM_1 hkd) dX12_village_79 ?_
  cases hf
  subst hρ
  exact z_iret C dX12_village_80
theorem c12_village {l : Launch} {kd : List KD} {w : Wp} {σ : St} (hkd : kd = kdM) (hi : zI kd w) {r : (Int32 × St)} (hf : q12_village σ = some r) : zM l kd w yX12_village cX12_village 2 (some .int) rm12_village [.ref (w.2.2.1 0)] σ (some (.int r.1), r.2) := zM_of rfl hi (Nat.le_of_ble_eq_true rfl) (fun Θ hl hw C => by
  obtain ⟨Θ1, Θ2, Θ3, Θ4, Θ5⟩ := Θ
  cases hw
  exact p12_village C hkd  hf rfl)
/-! LastLoafModel.law -/
theorem dX12_law_0 : decode cX12_law 0 = .ok (.aload_n 0, 1) := by decide +kernel
theorem dX12_law_1 : decode cX12_law 1 = .ok (.invokevirtual 189, 3) := by decide +kernel
theorem dX12_law_4 : decode cX12_law 4 = .ok (.aload_n 0, 1) := by decide +kernel
theorem dX12_law_5 : decode cX12_law 5 = .ok (.iconst 1, 1) := by decide +kernel
theorem dX12_law_6 : decode cX12_law 6 = .ok (.invokevirtual 192, 3) := by decide +kernel
theorem dX12_law_9 : decode cX12_law 9 = .ok (.istore_n 1, 1) := by decide +kernel
theorem dX12_law_10 : decode cX12_law 10 = .ok (.aload_n 0, 1) := by decide +kernel
theorem dX12_law_11 : decode cX12_law 11 = .ok (.aload_n 0, 1) := by decide +kernel
theorem dX12_law_12 : decode cX12_law 12 = .ok (.getfield 25, 3) := by decide +kernel
theorem dX12_law_15 : decode cX12_law 15 = .ok (.iconst (-1), 1) := by decide +kernel
theorem dX12_law_16 : decode cX12_law 16 = .ok (.if_icmp .eq 7, 3) := by decide +kernel
theorem dX12_law_19 : decode cX12_law 19 = .ok (.iconst 1, 1) := by decide +kernel
theorem dX12_law_20 : decode cX12_law 20 = .ok (.goto 4, 3) := by decide +kernel
theorem dX12_law_23 : decode cX12_law 23 = .ok (.iconst 0, 1) := by decide +kernel
theorem dX12_law_24 : decode cX12_law 24 = .ok (.putfield 65, 3) := by decide +kernel
theorem dX12_law_27 : decode cX12_law 27 = .ok (.aload_n 0, 1) := by decide +kernel
theorem dX12_law_28 : decode cX12_law 28 = .ok (.getfield 65, 3) := by decide +kernel
theorem dX12_law_31 : decode cX12_law 31 = .ok (.ifCond .le 5, 3) := by decide +kernel
theorem dX12_law_34 : decode cX12_law 34 = .ok (.iconst 0, 1) := by decide +kernel
theorem dX12_law_35 : decode cX12_law 35 = .ok (.ireturn, 1) := by decide +kernel
theorem dX12_law_36 : decode cX12_law 36 = .ok (.aload_n 0, 1) := by decide +kernel
theorem dX12_law_37 : decode cX12_law 37 = .ok (.getfield 7, 3) := by decide +kernel
theorem dX12_law_40 : decode cX12_law 40 = .ok (.iconst 1, 1) := by decide +kernel
theorem dX12_law_41 : decode cX12_law 41 = .ok (.iload_n 1, 1) := by decide +kernel
theorem dX12_law_42 : decode cX12_law 42 = .ok (.iastore, 1) := by decide +kernel
theorem dX12_law_43 : decode cX12_law 43 = .ok (.aload_n 0, 1) := by decide +kernel
theorem dX12_law_44 : decode cX12_law 44 = .ok (.getfield 7, 3) := by decide +kernel
theorem dX12_law_47 : decode cX12_law 47 = .ok (.iconst 2, 1) := by decide +kernel
theorem dX12_law_48 : decode cX12_law 48 = .ok (.aload_n 0, 1) := by decide +kernel
theorem dX12_law_49 : decode cX12_law 49 = .ok (.getfield 85, 3) := by decide +kernel
theorem dX12_law_52 : decode cX12_law 52 = .ok (.iastore, 1) := by decide +kernel
theorem dX12_law_53 : decode cX12_law 53 = .ok (.iconst 0, 1) := by decide +kernel
theorem dX12_law_54 : decode cX12_law 54 = .ok (.istore_n 2, 1) := by decide +kernel
theorem dX12_law_55 : decode cX12_law 55 = .ok (.iload_n 2, 1) := by decide +kernel
theorem dX12_law_56 : decode cX12_law 56 = .ok (.aload_n 0, 1) := by decide +kernel
theorem dX12_law_57 : decode cX12_law 57 = .ok (.getfield 85, 3) := by decide +kernel
theorem dX12_law_60 : decode cX12_law 60 = .ok (.if_icmp .ge 25, 3) := by decide +kernel
theorem dX12_law_63 : decode cX12_law 63 = .ok (.aload_n 0, 1) := by decide +kernel
theorem dX12_law_64 : decode cX12_law 64 = .ok (.getfield 7, 3) := by decide +kernel
theorem dX12_law_67 : decode cX12_law 67 = .ok (.sipush 352, 3) := by decide +kernel
theorem dX12_law_70 : decode cX12_law 70 = .ok (.iload_n 2, 1) := by decide +kernel
theorem dX12_law_71 : decode cX12_law 71 = .ok (.iadd, 1) := by decide +kernel
theorem dX12_law_72 : decode cX12_law 72 = .ok (.aload_n 0, 1) := by decide +kernel
theorem dX12_law_73 : decode cX12_law 73 = .ok (.getfield 22, 3) := by decide +kernel
theorem dX12_law_76 : decode cX12_law 76 = .ok (.iload_n 2, 1) := by decide +kernel
theorem dX12_law_77 : decode cX12_law 77 = .ok (.iaload, 1) := by decide +kernel
theorem dX12_law_78 : decode cX12_law 78 = .ok (.iastore, 1) := by decide +kernel
theorem dX12_law_79 : decode cX12_law 79 = .ok (.iinc 2 1, 3) := by decide +kernel
theorem dX12_law_82 : decode cX12_law 82 = .ok (.goto (-27), 3) := by decide +kernel
theorem dX12_law_85 : decode cX12_law 85 = .ok (.aload_n 0, 1) := by decide +kernel
theorem dX12_law_86 : decode cX12_law 86 = .ok (.iconst 0, 1) := by decide +kernel
theorem dX12_law_87 : decode cX12_law 87 = .ok (.putfield 199, 3) := by decide +kernel
theorem dX12_law_90 : decode cX12_law 90 = .ok (.iload_n 1, 1) := by decide +kernel
theorem dX12_law_91 : decode cX12_law 91 = .ok (.ireturn, 1) := by decide +kernel
def q12_law (σ : St) : Option (Int32 × St) :=
  Option.bind (q12_begins σ) fun x1_ =>
  Option.bind (q12_read x1_ true) fun x3_ =>
  lt (up x3_.2 0 0 (if ¬ (x3_.2 0 12) = (-1) then 1 else 0)) fun σ10_ =>
  if 0 < (σ10_ 0 0) then (some (0, σ10_)) else
  Option.bind (sa σ10_ 1 752 1 x3_.1) fun σ16_ =>
  Option.bind (sa σ16_ 1 752 2 (σ16_ 0 10)) fun σ18_ =>
  Option.bind (loop2 (fun rec23_ (k26_ : Int32) (σ27_ : St) =>
  if k26_ < (σ27_ 0 10) then
  Option.bind (ag σ27_ 5 400 k26_) fun x34_ =>
  Option.bind (sa σ27_ 1 752 (352 + k26_) x34_) fun σ36_ =>
  lt (k26_ + 1) fun k38_ =>
  rec23_ k38_ σ36_
  else (some (k26_, σ27_))) fuelN (0 : Int32) σ18_) fun y20_ =>
  lt (up y20_.2 0 6 0) fun σ40_ =>
  some (x3_.1, σ40_)
abbrev rm12_law : Room := { frames := 75, cells := 0, slots := 0, locals := 4148 }
set_option maxHeartbeats 4000000 in
set_option maxRecDepth 100000 in
theorem p12_law {Θ : Tz} {σ : St} {ρ : Option Value × St} (C : Zc Θ cX12_law 3 RX12 (some .int) rm12_law) (hkd : Θ.2.2.2.2.1 = kdM) {r : (Int32 × St)} (hf : q12_law σ = some r) (hρ : ρ = (some (.int r.1), r.2)) : Z Θ 3 0 0 (zQ Θ ρ) σ 0 [(0, .ref (zA Θ 0))] [] := by
  unfold q12_law at hf
  refine z_aload_n C 0 dX12_law_0 rfl rfl ?_
  obtain ⟨x1_, h2_, hf⟩ := ob hf
  refine cr12_189 C hkd  h2_ ⟨(Nat.le_of_ble_eq_true rfl), (Nat.le_of_ble_eq_true rfl)⟩ (Nat.le_of_ble_eq_true rfl) ⟨Nat.zero_le _, Nat.zero_le _⟩ dX12_law_1 ?_
  refine z_aload_n C 0 dX12_law_4 rfl rfl ?_
  refine z_iconst (v := 1) C dX12_law_5 ic_1 ?_
  obtain ⟨x3_, h4_, hf⟩ := ob hf
  refine cr12_192 (law_a := true) C hkd  h4_ ⟨(Nat.le_of_ble_eq_true rfl), (Nat.le_of_ble_eq_true rfl)⟩ (Nat.le_of_ble_eq_true rfl) ⟨Nat.zero_le _, Nat.zero_le _⟩ dX12_law_6 ?_
  refine z_istN C dX12_law_9 rfl rfl (Nat.le_of_ble_eq_true rfl) rfl ?_
  refine z_aload_n C 1 dX12_law_10 rfl rfl ?_
  suffices K5_ : Z Θ 3 0 0 (zQ Θ ρ) x3_.2 24 [(1, .int x3_.1), (0, .ref (zA Θ 0))] [.int (if ¬ (x3_.2 0 12) = (-1) then 1 else 0), .ref (zA Θ 0)] by
    have K6_ : ¬ (x3_.2 0 12) = (-1) → Z Θ 3 0 0 (zQ Θ ρ) x3_.2 19 [(1, .int x3_.1), (0, .ref (zA Θ 0))] [.ref (zA Θ 0)] := by
      intro h9_
      rw [if_pos h9_] at K5_
      refine z_iconst (v := 1) C dX12_law_19 ic_1 ?_
      refine z_goto C 24 dX12_law_20 (by decide) ?_
      exact K5_
    have K7_ : ¬ (¬ (x3_.2 0 12) = (-1)) → Z Θ 3 0 0 (zQ Θ ρ) x3_.2 23 [(1, .int x3_.1), (0, .ref (zA Θ 0))] [.ref (zA Θ 0)] := by
      intro h9_
      rw [if_neg h9_] at K5_
      refine z_iconst (v := 0) C dX12_law_23 ic_0 ?_
      exact K5_
    refine z_aload_n C 1 dX12_law_11 rfl rfl ?_
    refine fg12_25 C hkd dX12_law_12 ?_
    refine z_iconst (v := (-1)) C dX12_law_15 ic_m1 ?_
    refine c_ne_f C 23 dX12_law_16 (by decide) (fun h8_ => ?_) (fun h8_ => ?_)
    · exact K6_ h8_
    · exact K7_ h8_
  obtain ⟨σ10_, h11_, hf⟩ := lt_ hf
  refine fp12_65 C hkd h11_ dX12_law_24 ?_
  have K12_ : 0 < (σ10_ 0 0) → Z Θ 3 0 0 (zQ Θ ρ) σ10_ 34 [(1, .int x3_.1), (0, .ref (zA Θ 0))] [] := by
    intro h15_
    rw [if_pos h15_] at hf
    refine z_iconst (v := 0) C dX12_law_34 ic_0 ?_
    cases hf
    subst hρ
    exact z_iret C dX12_law_35
  suffices K13_ : ¬ (0 < (σ10_ 0 0)) → Z Θ 3 0 0 (zQ Θ ρ) σ10_ 36 [(1, .int x3_.1), (0, .ref (zA Θ 0))] [] by
    refine z_aload_n C 1 dX12_law_27 rfl rfl ?_
    refine fg12_65 C hkd dX12_law_28 ?_
    refine c0_gt_f C 36 dX12_law_31 (by decide) (fun h14_ => ?_) (fun h14_ => ?_)
    · exact K12_ h14_
    · exact K13_ h14_
  intro h15_
  rw [if_neg h15_] at hf
  refine z_aload_n C 1 dX12_law_36 rfl rfl ?_
  refine fg12_7 C hkd dX12_law_37 ?_
  refine z_iconst (v := 1) C dX12_law_40 ic_1 ?_
  refine z_iload_n C 0 dX12_law_41 rfl rfl ?_
  obtain ⟨σ16_, h17_, hf⟩ := ob hf
  refine z_sa C h17_ (kM_1 hkd) dX12_law_42 ?_
  refine z_aload_n C 1 dX12_law_43 rfl rfl ?_
  refine fg12_7 C hkd dX12_law_44 ?_
  refine z_iconst (v := 2) C dX12_law_47 ic_2 ?_
  refine z_aload_n C 1 dX12_law_48 rfl rfl ?_
  refine fg12_85 C hkd dX12_law_49 ?_
  obtain ⟨σ18_, h19_, hf⟩ := ob hf
  refine z_sa C h19_ (kM_1 hkd) dX12_law_52 ?_
  refine z_iconst (v := 0) C dX12_law_53 ic_0 ?_
  refine z_istN C dX12_law_54 rfl rfl (Nat.le_of_ble_eq_true rfl) rfl ?_
  refine Z.sub [2, 1, 0] rfl ?_
  obtain ⟨y20_, h21_, hf⟩ := ob hf
  suffices K22_ : Z Θ 3 0 0 (zQ Θ ρ) y20_.2 85 [(0, .ref (zA Θ 0)), (1, .int x3_.1), (2, .int y20_.1)] [] by
    refine loop2_Z (P := fun (k26_ : Int32) (σ27_ : St) => Z Θ 3 0 0 (zQ Θ ρ) σ27_ 55 [(0, .ref (zA Θ 0)), (1, .int x3_.1), (2, .int k26_)] []) ?_ fuelN (0 : Int32) σ18_ h21_
    clear h21_
    intro rec23_ k26_ σ27_ h24_ h25_
    have K30_ : k26_ < (σ27_ 0 10) → Z Θ 3 0 0 (zQ Θ ρ) σ27_ 63 [(0, .ref (zA Θ 0)), (1, .int x3_.1), (2, .int k26_)] [] := by
      intro h33_
      rw [if_pos h33_] at h25_
      refine z_aload_n C 0 dX12_law_63 rfl rfl ?_
      refine fg12_7 C hkd dX12_law_64 ?_
      refine z_sipush (v := 352) C dX12_law_67 sp_352 ?_
      refine z_iload_n C 2 dX12_law_70 rfl rfl ?_
      refine z_iadd C dX12_law_71 ?_
      refine z_aload_n C 0 dX12_law_72 rfl rfl ?_
      refine fg12_22 C hkd dX12_law_73 ?_
      refine z_iload_n C 2 dX12_law_76 rfl rfl ?_
      obtain ⟨x34_, h35_, h25_⟩ := ob h25_
      refine z_ag C h35_ (kM_5 hkd) dX12_law_77 ?_
      obtain ⟨σ36_, h37_, h25_⟩ := ob h25_
      refine z_sa C h37_ (kM_1 hkd) dX12_law_78 ?_
      obtain ⟨k38_, h39_, h25_⟩ := lt_ h25_
      refine z_inc C 2 dX12_law_79 rfl ic_1 h39_ (Nat.le_of_ble_eq_true rfl) rfl ?_
      refine z_goto C 55 dX12_law_82 (by decide) ?_
      refine Z.sub [1, 2, 0] rfl ?_
      exact h24_ _ _ h25_
    have K31_ : ¬ (k26_ < (σ27_ 0 10)) → Z Θ 3 0 0 (zQ Θ ρ) σ27_ 85 [(0, .ref (zA Θ 0)), (1, .int x3_.1), (2, .int k26_)] [] := by
      intro h33_
      rw [if_neg h33_] at h25_
      cases h25_
      exact K22_
    refine z_iload_n C 2 dX12_law_55 rfl rfl ?_
    refine z_aload_n C 0 dX12_law_56 rfl rfl ?_
    refine fg12_85 C hkd dX12_law_57 ?_
    refine c_lt_f C 85 dX12_law_60 (by decide) (fun h32_ => ?_) (fun h32_ => ?_)
    · exact K30_ h32_
    · exact K31_ h32_
  refine z_aload_n C 0 dX12_law_85 rfl rfl ?_
  refine z_iconst (v := 0) C dX12_law_86 ic_0 ?_
  obtain ⟨σ40_, h41_, hf⟩ := lt_ hf
  refine fp12_199 C hkd h41_ dX12_law_87 ?_
  refine z_iload_n C 1 dX12_law_90 rfl rfl ?_
  cases hf
  subst hρ
  exact z_iret C dX12_law_91
theorem c12_law {l : Launch} {kd : List KD} {w : Wp} {σ : St} (hkd : kd = kdM) (hi : zI kd w) {r : (Int32 × St)} (hf : q12_law σ = some r) : zM l kd w yX12_law cX12_law 3 (some .int) rm12_law [.ref (w.2.2.1 0)] σ (some (.int r.1), r.2) := zM_of rfl hi (Nat.le_of_ble_eq_true rfl) (fun Θ hl hw C => by
  obtain ⟨Θ1, Θ2, Θ3, Θ4, Θ5⟩ := Θ
  cases hw
  exact p12_law C hkd  hf rfl)
/-! LastLoafModel.fault -/
theorem dX12_fault_0 : decode cX12_fault 0 = .ok (.aload_n 0, 1) := by decide +kernel
theorem dX12_fault_1 : decode cX12_fault 1 = .ok (.iconst 0, 1) := by decide +kernel
theorem dX12_fault_2 : decode cX12_fault 2 = .ok (.putfield 65, 3) := by decide +kernel
theorem dX12_fault_5 : decode cX12_fault 5 = .ok (.aload_n 0, 1) := by decide +kernel
theorem dX12_fault_6 : decode cX12_fault 6 = .ok (.getfield 25, 3) := by decide +kernel
theorem dX12_fault_9 : decode cX12_fault 9 = .ok (.ireturn, 1) := by decide +kernel
def q12_fault (σ : St) : Option (Int32 × St) :=
  lt (up σ 0 0 0) fun σ1_ =>
  some (σ1_ 0 12, σ1_)
abbrev rm12_fault : Room := { frames := 0, cells := 0, slots := 0, locals := 0 }
set_option maxHeartbeats 4000000 in
set_option maxRecDepth 100000 in
theorem p12_fault {Θ : Tz} {σ : St} {ρ : Option Value × St} (C : Zc Θ cX12_fault 1 RX12 (some .int) rm12_fault) (hkd : Θ.2.2.2.2.1 = kdM) {r : (Int32 × St)} (hf : q12_fault σ = some r) (hρ : ρ = (some (.int r.1), r.2)) : Z Θ 1 0 0 (zQ Θ ρ) σ 0 [(0, .ref (zA Θ 0))] [] := by
  unfold q12_fault at hf
  refine z_aload_n C 0 dX12_fault_0 rfl rfl ?_
  refine z_iconst (v := 0) C dX12_fault_1 ic_0 ?_
  obtain ⟨σ1_, h2_, hf⟩ := lt_ hf
  refine fp12_65 C hkd h2_ dX12_fault_2 ?_
  refine z_aload_n C 0 dX12_fault_5 rfl rfl ?_
  refine fg12_25 C hkd dX12_fault_6 ?_
  cases hf
  subst hρ
  exact z_iret C dX12_fault_9
theorem c12_fault {l : Launch} {kd : List KD} {w : Wp} {σ : St} (hkd : kd = kdM) (hi : zI kd w) {r : (Int32 × St)} (hf : q12_fault σ = some r) : zM l kd w yX12_fault cX12_fault 1 (some .int) rm12_fault [.ref (w.2.2.1 0)] σ (some (.int r.1), r.2) := zM_of rfl hi (Nat.le_of_ble_eq_true rfl) (fun Θ hl hw C => by
  obtain ⟨Θ1, Θ2, Θ3, Θ4, Θ5⟩ := Θ
  cases hw
  exact p12_fault C hkd  hf rfl)
/-! LastLoafModel.favourOf -/
theorem fp12_215 {Θ : Tz} {cc : ByteArray} {nL kc ks : Nat} {ret : Option FieldType} {rm : Room} {Q : State → Prop} {σ : St} {pc : Nat} {lv : List (Nat × Value)} {st : List Value} (C : Zc Θ cc nL RX12 ret rm) (hkd : Θ.2.2.2.2.1 = kdM) {b : Bool} {σ1 : St} (he : σ1 = up σ 0 15 (b2i b)) (hd : decode cc pc = .ok (.putfield 215, 3)) (kk : Z Θ nL kc ks Q σ1 (pc + 3) lv st) : Z Θ nL kc ks Q σ pc lv (.int (b2i b) :: .ref (zA Θ 0) :: st) := by subst he; exact z_put C inT12 tyX12_ok nmX12 0 (kM_0 hkd) rfl 15 (by decide) w_8_42 rfl rfl (b2i_narrow b) (b2i_fits b) hd kk
theorem w_9_73 : Cond.code ({ cls := "LastLoafModel", name := "liking", desc := "(II)I" } : MethodName) prog_14_method_10_code (3 : Nat) (Option.some ClassFile.FieldType.int) ∈ TB := tb_in (lwt_9 (List.mem_of_getElem? (i := 73) (by decide +kernel))) rfl
theorem w_9_70 : Cond.methodLink "LastLoafModel" (260 : Nat) ({ cls := "LastLoafModel", name := "liking", desc := "(II)I" } : MethodName) ∈ TB := tb_in (lwt_9 (List.mem_of_getElem? (i := 70) (by decide +kernel))) rfl
theorem w_9_72 : Cond.instanceMethod ({ cls := "LastLoafModel", name := "liking", desc := "(II)I" } : MethodName) ∈ TB := tb_in (lwt_9 (List.mem_of_getElem? (i := 72) (by decide +kernel))) rfl
theorem ws_LastLoafModel_liking_II_I : Cond.selects "LastLoafModel" (⟨"LastLoafModel", "liking", "(II)I"⟩ : MethodName) (⟨"LastLoafModel", "liking", "(II)I"⟩ : MethodName) ∈ TB := tb_in (List.mem_append_left _ (List.mem_of_getElem? (i := 47) (by decide +kernel))) rfl
theorem cr12_260 {Θ : Tz} {cc : ByteArray} {nL kc ks : Nat} {ret : Option FieldType} {rm : Room} {Q : State → Prop} {σ : St} {pc : Nat} {lv : List (Nat × Value)} {st : List Value} (C : Zc Θ cc nL RX12 ret rm) (hkd : Θ.2.2.2.2.1 = kdM) {p_a : Int32} {o_a : Int32} {r : Int32} (hx : q12_liking σ p_a o_a = some r) (hrm : rm12_liking.frames + 1 ≤ rm.frames ∧ 8 + (3 + 11) + rm12_liking.locals ≤ rm.locals) (hcat : (st.map fun v => v.category).sum ≤ 8) (hk : kc ≤ rm.cells ∧ ks ≤ rm.slots) (hd : decode cc pc = .ok (.invokevirtual 260, 3)) (kk : Z Θ nL kc ks Q σ (pc + 3) lv (.int r :: st)) : Z Θ nL kc ks Q σ pc lv (.int o_a :: .int p_a :: .ref (zA Θ 0) :: st) := z_callV C 0 [.int p_a, .int o_a] (some (.int r), σ) 2 (kM_0 hkd) rfl (c12_liking (p_a := p_a) (o_a := o_a) hkd (zc_inj C) hx) w_9_73 w_9_70 w_9_72 ws_LastLoafModel_liking_II_I w_1_14 ⟨rfl, rfl, hrm.1, hrm.2⟩ (by decide +kernel) rfl rfl hcat hk hd kk
theorem fp12_221 {Θ : Tz} {cc : ByteArray} {nL kc ks : Nat} {ret : Option FieldType} {rm : Room} {Q : State → Prop} {σ : St} {pc : Nat} {lv : List (Nat × Value)} {st : List Value} (C : Zc Θ cc nL RX12 ret rm) (hkd : Θ.2.2.2.2.1 = kdM) {b : Bool} {σ1 : St} (he : σ1 = up σ 0 16 (b2i b)) (hd : decode cc pc = .ok (.putfield 221, 3)) (kk : Z Θ nL kc ks Q σ1 (pc + 3) lv st) : Z Θ nL kc ks Q σ pc lv (.int (b2i b) :: .ref (zA Θ 0) :: st) := by subst he; exact z_put C inT12 tyX12_ok nmX12 0 (kM_0 hkd) rfl 16 (by decide) w_8_43 rfl rfl (b2i_narrow b) (b2i_fits b) hd kk
theorem dX12_favourOf_0 : decode cX12_favourOf 0 = .ok (.aload_n 0, 1) := by decide +kernel
theorem dX12_favourOf_1 : decode cX12_favourOf 1 = .ok (.iconst 0, 1) := by decide +kernel
theorem dX12_favourOf_2 : decode cX12_favourOf 2 = .ok (.putfield 257, 3) := by decide +kernel
theorem dX12_favourOf_5 : decode cX12_favourOf 5 = .ok (.aload_n 0, 1) := by decide +kernel
theorem dX12_favourOf_6 : decode cX12_favourOf 6 = .ok (.iconst 0, 1) := by decide +kernel
theorem dX12_favourOf_7 : decode cX12_favourOf 7 = .ok (.putfield 254, 3) := by decide +kernel
theorem dX12_favourOf_10 : decode cX12_favourOf 10 = .ok (.aload_n 0, 1) := by decide +kernel
theorem dX12_favourOf_11 : decode cX12_favourOf 11 = .ok (.aload_n 0, 1) := by decide +kernel
theorem dX12_favourOf_12 : decode cX12_favourOf 12 = .ok (.iload_n 1, 1) := by decide +kernel
theorem dX12_favourOf_13 : decode cX12_favourOf 13 = .ok (.iconst 1, 1) := by decide +kernel
theorem dX12_favourOf_14 : decode cX12_favourOf 14 = .ok (.invokevirtual 72, 3) := by decide +kernel
theorem dX12_favourOf_17 : decode cX12_favourOf 17 = .ok (.aload_n 0, 1) := by decide +kernel
theorem dX12_favourOf_18 : decode cX12_favourOf 18 = .ok (.iload_n 2, 1) := by decide +kernel
theorem dX12_favourOf_19 : decode cX12_favourOf 19 = .ok (.iconst 1, 1) := by decide +kernel
theorem dX12_favourOf_20 : decode cX12_favourOf 20 = .ok (.invokevirtual 72, 3) := by decide +kernel
theorem dX12_favourOf_23 : decode cX12_favourOf 23 = .ok (.if_icmp .ne 17, 3) := by decide +kernel
theorem dX12_favourOf_26 : decode cX12_favourOf 26 = .ok (.aload_n 0, 1) := by decide +kernel
theorem dX12_favourOf_27 : decode cX12_favourOf 27 = .ok (.iload_n 1, 1) := by decide +kernel
theorem dX12_favourOf_28 : decode cX12_favourOf 28 = .ok (.iconst 1, 1) := by decide +kernel
theorem dX12_favourOf_29 : decode cX12_favourOf 29 = .ok (.invokevirtual 72, 3) := by decide +kernel
theorem dX12_favourOf_32 : decode cX12_favourOf 32 = .ok (.iconst 2, 1) := by decide +kernel
theorem dX12_favourOf_33 : decode cX12_favourOf 33 = .ok (.if_icmp .ge 7, 3) := by decide +kernel
theorem dX12_favourOf_36 : decode cX12_favourOf 36 = .ok (.iconst 1, 1) := by decide +kernel
theorem dX12_favourOf_37 : decode cX12_favourOf 37 = .ok (.goto 4, 3) := by decide +kernel
theorem dX12_favourOf_40 : decode cX12_favourOf 40 = .ok (.iconst 0, 1) := by decide +kernel
theorem dX12_favourOf_41 : decode cX12_favourOf 41 = .ok (.putfield 215, 3) := by decide +kernel
theorem dX12_favourOf_44 : decode cX12_favourOf 44 = .ok (.aload_n 0, 1) := by decide +kernel
theorem dX12_favourOf_45 : decode cX12_favourOf 45 = .ok (.getfield 7, 3) := by decide +kernel
theorem dX12_favourOf_48 : decode cX12_favourOf 48 = .ok (.iconst 1, 1) := by decide +kernel
theorem dX12_favourOf_49 : decode cX12_favourOf 49 = .ok (.iaload, 1) := by decide +kernel
theorem dX12_favourOf_50 : decode cX12_favourOf 50 = .ok (.iconst (-1), 1) := by decide +kernel
theorem dX12_favourOf_51 : decode cX12_favourOf 51 = .ok (.if_icmp .ne 23, 3) := by decide +kernel
theorem dX12_favourOf_54 : decode cX12_favourOf 54 = .ok (.aload_n 0, 1) := by decide +kernel
theorem dX12_favourOf_55 : decode cX12_favourOf 55 = .ok (.iload_n 1, 1) := by decide +kernel
theorem dX12_favourOf_56 : decode cX12_favourOf 56 = .ok (.iload_n 2, 1) := by decide +kernel
theorem dX12_favourOf_57 : decode cX12_favourOf 57 = .ok (.invokevirtual 260, 3) := by decide +kernel
theorem dX12_favourOf_60 : decode cX12_favourOf 60 = .ok (.aload_n 0, 1) := by decide +kernel
theorem dX12_favourOf_61 : decode cX12_favourOf 61 = .ok (.getfield 215, 3) := by decide +kernel
theorem dX12_favourOf_64 : decode cX12_favourOf 64 = .ok (.ifCond .eq 7, 3) := by decide +kernel
theorem dX12_favourOf_67 : decode cX12_favourOf 67 = .ok (.iconst 2, 1) := by decide +kernel
theorem dX12_favourOf_68 : decode cX12_favourOf 68 = .ok (.goto 4, 3) := by decide +kernel
theorem dX12_favourOf_71 : decode cX12_favourOf 71 = .ok (.iconst 0, 1) := by decide +kernel
theorem dX12_favourOf_72 : decode cX12_favourOf 72 = .ok (.iadd, 1) := by decide +kernel
theorem dX12_favourOf_73 : decode cX12_favourOf 73 = .ok (.ireturn, 1) := by decide +kernel
theorem dX12_favourOf_74 : decode cX12_favourOf 74 = .ok (.aload_n 0, 1) := by decide +kernel
theorem dX12_favourOf_75 : decode cX12_favourOf 75 = .ok (.getfield 29, 3) := by decide +kernel
theorem dX12_favourOf_78 : decode cX12_favourOf 78 = .ok (.iconst 0, 1) := by decide +kernel
theorem dX12_favourOf_79 : decode cX12_favourOf 79 = .ok (.iload_n 1, 1) := by decide +kernel
theorem dX12_favourOf_80 : decode cX12_favourOf 80 = .ok (.iastore, 1) := by decide +kernel
theorem dX12_favourOf_81 : decode cX12_favourOf 81 = .ok (.aload_n 0, 1) := by decide +kernel
theorem dX12_favourOf_82 : decode cX12_favourOf 82 = .ok (.getfield 29, 3) := by decide +kernel
theorem dX12_favourOf_85 : decode cX12_favourOf 85 = .ok (.iconst 1, 1) := by decide +kernel
theorem dX12_favourOf_86 : decode cX12_favourOf 86 = .ok (.iload_n 2, 1) := by decide +kernel
theorem dX12_favourOf_87 : decode cX12_favourOf 87 = .ok (.iastore, 1) := by decide +kernel
theorem dX12_favourOf_88 : decode cX12_favourOf 88 = .ok (.aload_n 0, 1) := by decide +kernel
theorem dX12_favourOf_89 : decode cX12_favourOf 89 = .ok (.getfield 29, 3) := by decide +kernel
theorem dX12_favourOf_92 : decode cX12_favourOf 92 = .ok (.iconst 2, 1) := by decide +kernel
theorem dX12_favourOf_93 : decode cX12_favourOf 93 = .ok (.aload_n 0, 1) := by decide +kernel
theorem dX12_favourOf_94 : decode cX12_favourOf 94 = .ok (.iload_n 1, 1) := by decide +kernel
theorem dX12_favourOf_95 : decode cX12_favourOf 95 = .ok (.iload_n 2, 1) := by decide +kernel
theorem dX12_favourOf_96 : decode cX12_favourOf 96 = .ok (.invokevirtual 260, 3) := by decide +kernel
theorem dX12_favourOf_99 : decode cX12_favourOf 99 = .ok (.iastore, 1) := by decide +kernel
theorem dX12_favourOf_100 : decode cX12_favourOf 100 = .ok (.aload_n 0, 1) := by decide +kernel
theorem dX12_favourOf_101 : decode cX12_favourOf 101 = .ok (.getfield 29, 3) := by decide +kernel
theorem dX12_favourOf_104 : decode cX12_favourOf 104 = .ok (.iconst 3, 1) := by decide +kernel
theorem dX12_favourOf_105 : decode cX12_favourOf 105 = .ok (.aload_n 0, 1) := by decide +kernel
theorem dX12_favourOf_106 : decode cX12_favourOf 106 = .ok (.iload_n 2, 1) := by decide +kernel
theorem dX12_favourOf_107 : decode cX12_favourOf 107 = .ok (.iconst 0, 1) := by decide +kernel
theorem dX12_favourOf_108 : decode cX12_favourOf 108 = .ok (.invokevirtual 72, 3) := by decide +kernel
theorem dX12_favourOf_111 : decode cX12_favourOf 111 = .ok (.iastore, 1) := by decide +kernel
theorem dX12_favourOf_112 : decode cX12_favourOf 112 = .ok (.aload_n 0, 1) := by decide +kernel
theorem dX12_favourOf_113 : decode cX12_favourOf 113 = .ok (.getfield 29, 3) := by decide +kernel
theorem dX12_favourOf_116 : decode cX12_favourOf 116 = .ok (.iconst 4, 1) := by decide +kernel
theorem dX12_favourOf_117 : decode cX12_favourOf 117 = .ok (.aload_n 0, 1) := by decide +kernel
theorem dX12_favourOf_118 : decode cX12_favourOf 118 = .ok (.iload_n 2, 1) := by decide +kernel
theorem dX12_favourOf_119 : decode cX12_favourOf 119 = .ok (.iconst 5, 1) := by decide +kernel
theorem dX12_favourOf_120 : decode cX12_favourOf 120 = .ok (.invokevirtual 72, 3) := by decide +kernel
theorem dX12_favourOf_123 : decode cX12_favourOf 123 = .ok (.iastore, 1) := by decide +kernel
theorem dX12_favourOf_124 : decode cX12_favourOf 124 = .ok (.aload_n 0, 1) := by decide +kernel
theorem dX12_favourOf_125 : decode cX12_favourOf 125 = .ok (.getfield 29, 3) := by decide +kernel
theorem dX12_favourOf_128 : decode cX12_favourOf 128 = .ok (.iconst 5, 1) := by decide +kernel
theorem dX12_favourOf_129 : decode cX12_favourOf 129 = .ok (.aload_n 0, 1) := by decide +kernel
theorem dX12_favourOf_130 : decode cX12_favourOf 130 = .ok (.iload_n 2, 1) := by decide +kernel
theorem dX12_favourOf_131 : decode cX12_favourOf 131 = .ok (.bipush 6, 2) := by decide +kernel
theorem dX12_favourOf_133 : decode cX12_favourOf 133 = .ok (.invokevirtual 72, 3) := by decide +kernel
theorem dX12_favourOf_136 : decode cX12_favourOf 136 = .ok (.iastore, 1) := by decide +kernel
theorem dX12_favourOf_137 : decode cX12_favourOf 137 = .ok (.aload_n 0, 1) := by decide +kernel
theorem dX12_favourOf_138 : decode cX12_favourOf 138 = .ok (.getfield 29, 3) := by decide +kernel
theorem dX12_favourOf_141 : decode cX12_favourOf 141 = .ok (.bipush 6, 2) := by decide +kernel
theorem dX12_favourOf_143 : decode cX12_favourOf 143 = .ok (.aload_n 0, 1) := by decide +kernel
theorem dX12_favourOf_144 : decode cX12_favourOf 144 = .ok (.iload_n 1, 1) := by decide +kernel
theorem dX12_favourOf_145 : decode cX12_favourOf 145 = .ok (.iconst 2, 1) := by decide +kernel
theorem dX12_favourOf_146 : decode cX12_favourOf 146 = .ok (.invokevirtual 72, 3) := by decide +kernel
theorem dX12_favourOf_149 : decode cX12_favourOf 149 = .ok (.iastore, 1) := by decide +kernel
theorem dX12_favourOf_150 : decode cX12_favourOf 150 = .ok (.aload_n 0, 1) := by decide +kernel
theorem dX12_favourOf_151 : decode cX12_favourOf 151 = .ok (.aload_n 0, 1) := by decide +kernel
theorem dX12_favourOf_152 : decode cX12_favourOf 152 = .ok (.iload_n 1, 1) := by decide +kernel
theorem dX12_favourOf_153 : decode cX12_favourOf 153 = .ok (.iconst 3, 1) := by decide +kernel
theorem dX12_favourOf_154 : decode cX12_favourOf 154 = .ok (.invokevirtual 72, 3) := by decide +kernel
theorem dX12_favourOf_157 : decode cX12_favourOf 157 = .ok (.iconst 1, 1) := by decide +kernel
theorem dX12_favourOf_158 : decode cX12_favourOf 158 = .ok (.if_icmp .ne 7, 3) := by decide +kernel
theorem dX12_favourOf_161 : decode cX12_favourOf 161 = .ok (.iconst 1, 1) := by decide +kernel
theorem dX12_favourOf_162 : decode cX12_favourOf 162 = .ok (.goto 4, 3) := by decide +kernel
theorem dX12_favourOf_165 : decode cX12_favourOf 165 = .ok (.iconst 0, 1) := by decide +kernel
theorem dX12_favourOf_166 : decode cX12_favourOf 166 = .ok (.putfield 221, 3) := by decide +kernel
theorem dX12_favourOf_169 : decode cX12_favourOf 169 = .ok (.aload_n 0, 1) := by decide +kernel
theorem dX12_favourOf_170 : decode cX12_favourOf 170 = .ok (.getfield 25, 3) := by decide +kernel
theorem dX12_favourOf_173 : decode cX12_favourOf 173 = .ok (.istore_n 3, 1) := by decide +kernel
theorem dX12_favourOf_174 : decode cX12_favourOf 174 = .ok (.aload_n 0, 1) := by decide +kernel
theorem dX12_favourOf_175 : decode cX12_favourOf 175 = .ok (.iconst (-1), 1) := by decide +kernel
theorem dX12_favourOf_176 : decode cX12_favourOf 176 = .ok (.putfield 25, 3) := by decide +kernel
theorem dX12_favourOf_179 : decode cX12_favourOf 179 = .ok (.aload_n 0, 1) := by decide +kernel
theorem dX12_favourOf_180 : decode cX12_favourOf 180 = .ok (.sipush 352, 3) := by decide +kernel
theorem dX12_favourOf_183 : decode cX12_favourOf 183 = .ok (.putfield 79, 3) := by decide +kernel
theorem dX12_favourOf_186 : decode cX12_favourOf 186 = .ok (.aload_n 0, 1) := by decide +kernel
theorem dX12_favourOf_187 : decode cX12_favourOf 187 = .ok (.aload_n 0, 1) := by decide +kernel
theorem dX12_favourOf_188 : decode cX12_favourOf 188 = .ok (.getfield 7, 3) := by decide +kernel
theorem dX12_favourOf_191 : decode cX12_favourOf 191 = .ok (.iconst 1, 1) := by decide +kernel
theorem dX12_favourOf_192 : decode cX12_favourOf 192 = .ok (.iaload, 1) := by decide +kernel
theorem dX12_favourOf_193 : decode cX12_favourOf 193 = .ok (.ifCond .ne 7, 3) := by decide +kernel
theorem dX12_favourOf_196 : decode cX12_favourOf 196 = .ok (.iconst 0, 1) := by decide +kernel
theorem dX12_favourOf_197 : decode cX12_favourOf 197 = .ok (.goto 9, 3) := by decide +kernel
theorem dX12_favourOf_200 : decode cX12_favourOf 200 = .ok (.aload_n 0, 1) := by decide +kernel
theorem dX12_favourOf_201 : decode cX12_favourOf 201 = .ok (.getfield 7, 3) := by decide +kernel
theorem dX12_favourOf_204 : decode cX12_favourOf 204 = .ok (.iconst 2, 1) := by decide +kernel
theorem dX12_favourOf_205 : decode cX12_favourOf 205 = .ok (.iaload, 1) := by decide +kernel
theorem dX12_favourOf_206 : decode cX12_favourOf 206 = .ok (.putfield 85, 3) := by decide +kernel
theorem dX12_favourOf_209 : decode cX12_favourOf 209 = .ok (.aload_n 0, 1) := by decide +kernel
theorem dX12_favourOf_210 : decode cX12_favourOf 210 = .ok (.iconst 0, 1) := by decide +kernel
theorem dX12_favourOf_211 : decode cX12_favourOf 211 = .ok (.putfield 82, 3) := by decide +kernel
theorem dX12_favourOf_214 : decode cX12_favourOf 214 = .ok (.aload_n 0, 1) := by decide +kernel
theorem dX12_favourOf_215 : decode cX12_favourOf 215 = .ok (.iconst 0, 1) := by decide +kernel
theorem dX12_favourOf_216 : decode cX12_favourOf 216 = .ok (.putfield 173, 3) := by decide +kernel
theorem dX12_favourOf_219 : decode cX12_favourOf 219 = .ok (.aload_n 0, 1) := by decide +kernel
theorem dX12_favourOf_220 : decode cX12_favourOf 220 = .ok (.iconst 1, 1) := by decide +kernel
theorem dX12_favourOf_221 : decode cX12_favourOf 221 = .ok (.invokevirtual 192, 3) := by decide +kernel
theorem dX12_favourOf_224 : decode cX12_favourOf 224 = .ok (.istore 4, 2) := by decide +kernel
theorem dX12_favourOf_226 : decode cX12_favourOf 226 = .ok (.aload_n 0, 1) := by decide +kernel
theorem dX12_favourOf_227 : decode cX12_favourOf 227 = .ok (.iload_n 3, 1) := by decide +kernel
theorem dX12_favourOf_228 : decode cX12_favourOf 228 = .ok (.putfield 25, 3) := by decide +kernel
theorem dX12_favourOf_231 : decode cX12_favourOf 231 = .ok (.aload_n 0, 1) := by decide +kernel
theorem dX12_favourOf_232 : decode cX12_favourOf 232 = .ok (.iload_n 1, 1) := by decide +kernel
theorem dX12_favourOf_233 : decode cX12_favourOf 233 = .ok (.iload_n 2, 1) := by decide +kernel
theorem dX12_favourOf_234 : decode cX12_favourOf 234 = .ok (.invokevirtual 260, 3) := by decide +kernel
theorem dX12_favourOf_237 : decode cX12_favourOf 237 = .ok (.aload_n 0, 1) := by decide +kernel
theorem dX12_favourOf_238 : decode cX12_favourOf 238 = .ok (.getfield 257, 3) := by decide +kernel
theorem dX12_favourOf_241 : decode cX12_favourOf 241 = .ok (.iadd, 1) := by decide +kernel
theorem dX12_favourOf_242 : decode cX12_favourOf 242 = .ok (.ireturn, 1) := by decide +kernel
def q12_favourOf (σ : St) (p_a : Int32) (o_a : Int32) : Option (Int32 × St) :=
  lt (up σ 0 17 0) fun σ1_ =>
  lt (up σ1_ 0 18 (b2i false)) fun σ3_ =>
  Option.bind (Option.bind (Option.bind (q12_of σ3_ p_a 1) fun x12_ =>
  Option.bind (q12_of σ3_ o_a 1) fun x14_ =>
  if x12_ = x14_ then (Option.bind (q12_of σ3_ p_a 1) fun x17_ =>
  if x17_ < 2 then (some true) else (some false)) else (some false)) fun t10_ =>
  if t10_ = true then (some true) else (some false)) fun x5_ =>
  lt (up σ3_ 0 15 (b2i x5_)) fun σ21_ =>
  Option.bind (ag σ21_ 1 752 1) fun x25_ =>
  if x25_ = (-1) then (Option.bind (q12_liking σ21_ p_a o_a) fun x29_ =>
  some (x29_ + (if ¬ (σ21_ 0 15) = 0 then 2 else 0), σ21_)) else
  Option.bind (sa σ21_ 6 7 0 p_a) fun σ36_ =>
  Option.bind (sa σ36_ 6 7 1 o_a) fun σ38_ =>
  Option.bind (q12_liking σ38_ p_a o_a) fun x40_ =>
  Option.bind (sa σ38_ 6 7 2 x40_) fun σ42_ =>
  Option.bind (q12_of σ42_ o_a 0) fun x44_ =>
  Option.bind (sa σ42_ 6 7 3 x44_) fun σ46_ =>
  Option.bind (q12_of σ46_ o_a 5) fun x48_ =>
  Option.bind (sa σ46_ 6 7 4 x48_) fun σ50_ =>
  Option.bind (q12_of σ50_ o_a 6) fun x52_ =>
  Option.bind (sa σ50_ 6 7 5 x52_) fun σ54_ =>
  Option.bind (q12_of σ54_ p_a 2) fun x56_ =>
  Option.bind (sa σ54_ 6 7 6 x56_) fun σ58_ =>
  Option.bind (Option.bind (q12_of σ58_ p_a 3) fun x65_ =>
  if x65_ = 1 then (some true) else (some false)) fun x60_ =>
  lt (up σ58_ 0 16 (b2i x60_)) fun σ69_ =>
  lt (σ69_ 0 12) fun was71_ =>
  lt (up σ69_ 0 12 (-1)) fun σ73_ =>
  lt (up σ73_ 0 9 352) fun σ75_ =>
  Option.bind (Option.bind (ag σ75_ 1 752 1) fun x82_ =>
  if x82_ = 0 then (some (0 : Int32)) else (Option.bind (ag σ75_ 1 752 2) fun x85_ =>
  some x85_)) fun x77_ =>
  lt (up σ75_ 0 10 x77_) fun σ88_ =>
  lt (up σ88_ 0 11 0) fun σ90_ =>
  lt (up σ90_ 0 13 0) fun σ92_ =>
  Option.bind (q12_read σ92_ true) fun x94_ =>
  lt (up x94_.2 0 12 was71_) fun σ96_ =>
  Option.bind (q12_liking σ96_ p_a o_a) fun x98_ =>
  some (x98_ + (σ96_ 0 17), σ96_)
abbrev rm12_favourOf : Room := { frames := 75, cells := 0, slots := 0, locals := 4148 }
set_option maxHeartbeats 4000000 in
set_option maxRecDepth 100000 in
theorem p12_favourOf {Θ : Tz} {σ : St} {ρ : Option Value × St} (C : Zc Θ cX12_favourOf 5 RX12 (some .int) rm12_favourOf) (hkd : Θ.2.2.2.2.1 = kdM) {p_a : Int32} {o_a : Int32} {r : (Int32 × St)} (hf : q12_favourOf σ p_a o_a = some r) (hρ : ρ = (some (.int r.1), r.2)) : Z Θ 5 0 0 (zQ Θ ρ) σ 0 [(0, .ref (zA Θ 0)), (1, .int p_a), (2, .int o_a)] [] := by
  unfold q12_favourOf at hf
  refine z_aload_n C 0 dX12_favourOf_0 rfl rfl ?_
  refine z_iconst (v := 0) C dX12_favourOf_1 ic_0 ?_
  obtain ⟨σ1_, h2_, hf⟩ := lt_ hf
  refine fp12_257 C hkd h2_ dX12_favourOf_2 ?_
  refine z_aload_n C 0 dX12_favourOf_5 rfl rfl ?_
  refine z_iconst (v := 0) C dX12_favourOf_6 ic_0 ?_
  obtain ⟨σ3_, h4_, hf⟩ := lt_ hf
  refine fp12_254 (b := false) C hkd h4_ dX12_favourOf_7 ?_
  refine z_aload_n C 0 dX12_favourOf_10 rfl rfl ?_
  obtain ⟨x5_, h6_, hf⟩ := ob hf
  suffices K7_ : Z Θ 5 0 0 (zQ Θ ρ) σ3_ 41 [(0, .ref (zA Θ 0)), (1, .int p_a), (2, .int o_a)] [.int (b2i x5_), .ref (zA Θ 0)] by
    obtain ⟨t10_, h11_, h6_⟩ := ob h6_
    have K8_ : t10_ = true → Z Θ 5 0 0 (zQ Θ ρ) σ3_ 36 [(0, .ref (zA Θ 0)), (1, .int p_a), (2, .int o_a)] [.ref (zA Θ 0)] := by
      intro h20_
      rw [if_pos h20_] at h6_
      refine z_iconst (v := 1) C dX12_favourOf_36 ic_1 ?_
      refine z_goto C 41 dX12_favourOf_37 (by decide) ?_
      cases h6_
      exact K7_
    have K9_ : ¬ (t10_ = true) → Z Θ 5 0 0 (zQ Θ ρ) σ3_ 40 [(0, .ref (zA Θ 0)), (1, .int p_a), (2, .int o_a)] [.ref (zA Θ 0)] := by
      intro h20_
      rw [if_neg h20_] at h6_
      refine z_iconst (v := 0) C dX12_favourOf_40 ic_0 ?_
      cases h6_
      exact K7_
    refine z_aload_n C 0 dX12_favourOf_11 rfl rfl ?_
    refine z_iload_n C 1 dX12_favourOf_12 rfl rfl ?_
    refine z_iconst (v := 1) C dX12_favourOf_13 ic_1 ?_
    obtain ⟨x12_, h13_, h11_⟩ := ob h11_
    refine cr12_72 (p_a := p_a) (what_a := 1) C hkd  h13_ ⟨(Nat.le_of_ble_eq_true rfl), (Nat.le_of_ble_eq_true rfl)⟩ (Nat.le_of_ble_eq_true rfl) ⟨Nat.zero_le _, Nat.zero_le _⟩ dX12_favourOf_14 ?_
    refine z_aload_n C 0 dX12_favourOf_17 rfl rfl ?_
    refine z_iload_n C 2 dX12_favourOf_18 rfl rfl ?_
    refine z_iconst (v := 1) C dX12_favourOf_19 ic_1 ?_
    obtain ⟨x14_, h15_, h11_⟩ := ob h11_
    refine cr12_72 (p_a := o_a) (what_a := 1) C hkd  h15_ ⟨(Nat.le_of_ble_eq_true rfl), (Nat.le_of_ble_eq_true rfl)⟩ (Nat.le_of_ble_eq_true rfl) ⟨Nat.zero_le _, Nat.zero_le _⟩ dX12_favourOf_20 ?_
    refine c_eq_f C 40 dX12_favourOf_23 (by decide) (fun h16_ => ?_) (fun h16_ => ?_)
    · rw [if_pos h16_] at h11_
      refine z_aload_n C 0 dX12_favourOf_26 rfl rfl ?_
      refine z_iload_n C 1 dX12_favourOf_27 rfl rfl ?_
      refine z_iconst (v := 1) C dX12_favourOf_28 ic_1 ?_
      obtain ⟨x17_, h18_, h11_⟩ := ob h11_
      refine cr12_72 (p_a := p_a) (what_a := 1) C hkd  h18_ ⟨(Nat.le_of_ble_eq_true rfl), (Nat.le_of_ble_eq_true rfl)⟩ (Nat.le_of_ble_eq_true rfl) ⟨Nat.zero_le _, Nat.zero_le _⟩ dX12_favourOf_29 ?_
      refine z_iconst (v := 2) C dX12_favourOf_32 ic_2 ?_
      refine c_lt_f C 40 dX12_favourOf_33 (by decide) (fun h19_ => ?_) (fun h19_ => ?_)
      · rw [if_pos h19_] at h11_
        cases h11_
        exact K8_ rfl
      · rw [if_neg h19_] at h11_
        cases h11_
        exact K9_ Bool.false_ne_true
    · rw [if_neg h16_] at h11_
      cases h11_
      exact K9_ Bool.false_ne_true
  obtain ⟨σ21_, h22_, hf⟩ := lt_ hf
  refine fp12_215 (b := x5_) C hkd h22_ dX12_favourOf_41 ?_
  refine z_aload_n C 0 dX12_favourOf_44 rfl rfl ?_
  refine fg12_7 C hkd dX12_favourOf_45 ?_
  refine z_iconst (v := 1) C dX12_favourOf_48 ic_1 ?_
  obtain ⟨x25_, h26_, hf⟩ := ob hf
  refine z_ag C h26_ (kM_1 hkd) dX12_favourOf_49 ?_
  refine z_iconst (v := (-1)) C dX12_favourOf_50 ic_m1 ?_
  have K23_ : x25_ = (-1) → Z Θ 5 0 0 (zQ Θ ρ) σ21_ 54 [(0, .ref (zA Θ 0)), (1, .int p_a), (2, .int o_a)] [] := by
    intro h28_
    rw [if_pos h28_] at hf
    refine z_aload_n C 0 dX12_favourOf_54 rfl rfl ?_
    refine z_iload_n C 1 dX12_favourOf_55 rfl rfl ?_
    refine z_iload_n C 2 dX12_favourOf_56 rfl rfl ?_
    obtain ⟨x29_, h30_, hf⟩ := ob hf
    refine cr12_260 (p_a := p_a) (o_a := o_a) C hkd  h30_ ⟨(Nat.le_of_ble_eq_true rfl), (Nat.le_of_ble_eq_true rfl)⟩ (Nat.le_of_ble_eq_true rfl) ⟨Nat.zero_le _, Nat.zero_le _⟩ dX12_favourOf_57 ?_
    suffices K31_ : Z Θ 5 0 0 (zQ Θ ρ) σ21_ 72 [(0, .ref (zA Θ 0)), (1, .int p_a), (2, .int o_a)] [.int (if ¬ (σ21_ 0 15) = 0 then 2 else 0), .int x29_] by
      have K32_ : ¬ (σ21_ 0 15) = 0 → Z Θ 5 0 0 (zQ Θ ρ) σ21_ 67 [(0, .ref (zA Θ 0)), (1, .int p_a), (2, .int o_a)] [.int x29_] := by
        intro h35_
        rw [if_pos h35_] at K31_
        refine z_iconst (v := 2) C dX12_favourOf_67 ic_2 ?_
        refine z_goto C 72 dX12_favourOf_68 (by decide) ?_
        exact K31_
      have K33_ : ¬ (¬ (σ21_ 0 15) = 0) → Z Θ 5 0 0 (zQ Θ ρ) σ21_ 71 [(0, .ref (zA Θ 0)), (1, .int p_a), (2, .int o_a)] [.int x29_] := by
        intro h35_
        rw [if_neg h35_] at K31_
        refine z_iconst (v := 0) C dX12_favourOf_71 ic_0 ?_
        exact K31_
      refine z_aload_n C 0 dX12_favourOf_60 rfl rfl ?_
      refine fg12_215 C hkd dX12_favourOf_61 ?_
      refine c0_ne_f C 71 dX12_favourOf_64 (by decide) (fun h34_ => ?_) (fun h34_ => ?_)
      · exact K32_ h34_
      · exact K33_ h34_
    refine z_iadd C dX12_favourOf_72 ?_
    cases hf
    subst hρ
    exact z_iret C dX12_favourOf_73
  suffices K24_ : ¬ (x25_ = (-1)) → Z Θ 5 0 0 (zQ Θ ρ) σ21_ 74 [(0, .ref (zA Θ 0)), (1, .int p_a), (2, .int o_a)] [] by
    refine c_eq_f C 74 dX12_favourOf_51 (by decide) (fun h27_ => ?_) (fun h27_ => ?_)
    · exact K23_ h27_
    · exact K24_ h27_
  intro h28_
  rw [if_neg h28_] at hf
  refine z_aload_n C 0 dX12_favourOf_74 rfl rfl ?_
  refine fg12_29 C hkd dX12_favourOf_75 ?_
  refine z_iconst (v := 0) C dX12_favourOf_78 ic_0 ?_
  refine z_iload_n C 1 dX12_favourOf_79 rfl rfl ?_
  obtain ⟨σ36_, h37_, hf⟩ := ob hf
  refine z_sa C h37_ (kM_6 hkd) dX12_favourOf_80 ?_
  refine z_aload_n C 0 dX12_favourOf_81 rfl rfl ?_
  refine fg12_29 C hkd dX12_favourOf_82 ?_
  refine z_iconst (v := 1) C dX12_favourOf_85 ic_1 ?_
  refine z_iload_n C 2 dX12_favourOf_86 rfl rfl ?_
  obtain ⟨σ38_, h39_, hf⟩ := ob hf
  refine z_sa C h39_ (kM_6 hkd) dX12_favourOf_87 ?_
  refine z_aload_n C 0 dX12_favourOf_88 rfl rfl ?_
  refine fg12_29 C hkd dX12_favourOf_89 ?_
  refine z_iconst (v := 2) C dX12_favourOf_92 ic_2 ?_
  refine z_aload_n C 0 dX12_favourOf_93 rfl rfl ?_
  refine z_iload_n C 1 dX12_favourOf_94 rfl rfl ?_
  refine z_iload_n C 2 dX12_favourOf_95 rfl rfl ?_
  obtain ⟨x40_, h41_, hf⟩ := ob hf
  refine cr12_260 (p_a := p_a) (o_a := o_a) C hkd  h41_ ⟨(Nat.le_of_ble_eq_true rfl), (Nat.le_of_ble_eq_true rfl)⟩ (Nat.le_of_ble_eq_true rfl) ⟨Nat.zero_le _, Nat.zero_le _⟩ dX12_favourOf_96 ?_
  obtain ⟨σ42_, h43_, hf⟩ := ob hf
  refine z_sa C h43_ (kM_6 hkd) dX12_favourOf_99 ?_
  refine z_aload_n C 0 dX12_favourOf_100 rfl rfl ?_
  refine fg12_29 C hkd dX12_favourOf_101 ?_
  refine z_iconst (v := 3) C dX12_favourOf_104 ic_3 ?_
  refine z_aload_n C 0 dX12_favourOf_105 rfl rfl ?_
  refine z_iload_n C 2 dX12_favourOf_106 rfl rfl ?_
  refine z_iconst (v := 0) C dX12_favourOf_107 ic_0 ?_
  obtain ⟨x44_, h45_, hf⟩ := ob hf
  refine cr12_72 (p_a := o_a) (what_a := 0) C hkd  h45_ ⟨(Nat.le_of_ble_eq_true rfl), (Nat.le_of_ble_eq_true rfl)⟩ (Nat.le_of_ble_eq_true rfl) ⟨Nat.zero_le _, Nat.zero_le _⟩ dX12_favourOf_108 ?_
  obtain ⟨σ46_, h47_, hf⟩ := ob hf
  refine z_sa C h47_ (kM_6 hkd) dX12_favourOf_111 ?_
  refine z_aload_n C 0 dX12_favourOf_112 rfl rfl ?_
  refine fg12_29 C hkd dX12_favourOf_113 ?_
  refine z_iconst (v := 4) C dX12_favourOf_116 ic_4 ?_
  refine z_aload_n C 0 dX12_favourOf_117 rfl rfl ?_
  refine z_iload_n C 2 dX12_favourOf_118 rfl rfl ?_
  refine z_iconst (v := 5) C dX12_favourOf_119 ic_5 ?_
  obtain ⟨x48_, h49_, hf⟩ := ob hf
  refine cr12_72 (p_a := o_a) (what_a := 5) C hkd  h49_ ⟨(Nat.le_of_ble_eq_true rfl), (Nat.le_of_ble_eq_true rfl)⟩ (Nat.le_of_ble_eq_true rfl) ⟨Nat.zero_le _, Nat.zero_le _⟩ dX12_favourOf_120 ?_
  obtain ⟨σ50_, h51_, hf⟩ := ob hf
  refine z_sa C h51_ (kM_6 hkd) dX12_favourOf_123 ?_
  refine z_aload_n C 0 dX12_favourOf_124 rfl rfl ?_
  refine fg12_29 C hkd dX12_favourOf_125 ?_
  refine z_iconst (v := 5) C dX12_favourOf_128 ic_5 ?_
  refine z_aload_n C 0 dX12_favourOf_129 rfl rfl ?_
  refine z_iload_n C 2 dX12_favourOf_130 rfl rfl ?_
  refine z_bipush (v := 6) C dX12_favourOf_131 bp_6 ?_
  obtain ⟨x52_, h53_, hf⟩ := ob hf
  refine cr12_72 (p_a := o_a) (what_a := 6) C hkd  h53_ ⟨(Nat.le_of_ble_eq_true rfl), (Nat.le_of_ble_eq_true rfl)⟩ (Nat.le_of_ble_eq_true rfl) ⟨Nat.zero_le _, Nat.zero_le _⟩ dX12_favourOf_133 ?_
  obtain ⟨σ54_, h55_, hf⟩ := ob hf
  refine z_sa C h55_ (kM_6 hkd) dX12_favourOf_136 ?_
  refine z_aload_n C 0 dX12_favourOf_137 rfl rfl ?_
  refine fg12_29 C hkd dX12_favourOf_138 ?_
  refine z_bipush (v := 6) C dX12_favourOf_141 bp_6 ?_
  refine z_aload_n C 0 dX12_favourOf_143 rfl rfl ?_
  refine z_iload_n C 1 dX12_favourOf_144 rfl rfl ?_
  refine z_iconst (v := 2) C dX12_favourOf_145 ic_2 ?_
  obtain ⟨x56_, h57_, hf⟩ := ob hf
  refine cr12_72 (p_a := p_a) (what_a := 2) C hkd  h57_ ⟨(Nat.le_of_ble_eq_true rfl), (Nat.le_of_ble_eq_true rfl)⟩ (Nat.le_of_ble_eq_true rfl) ⟨Nat.zero_le _, Nat.zero_le _⟩ dX12_favourOf_146 ?_
  obtain ⟨σ58_, h59_, hf⟩ := ob hf
  refine z_sa C h59_ (kM_6 hkd) dX12_favourOf_149 ?_
  refine z_aload_n C 0 dX12_favourOf_150 rfl rfl ?_
  obtain ⟨x60_, h61_, hf⟩ := ob hf
  suffices K62_ : Z Θ 5 0 0 (zQ Θ ρ) σ58_ 166 [(0, .ref (zA Θ 0)), (1, .int p_a), (2, .int o_a)] [.int (b2i x60_), .ref (zA Θ 0)] by
    refine z_aload_n C 0 dX12_favourOf_151 rfl rfl ?_
    refine z_iload_n C 1 dX12_favourOf_152 rfl rfl ?_
    refine z_iconst (v := 3) C dX12_favourOf_153 ic_3 ?_
    obtain ⟨x65_, h66_, h61_⟩ := ob h61_
    refine cr12_72 (p_a := p_a) (what_a := 3) C hkd  h66_ ⟨(Nat.le_of_ble_eq_true rfl), (Nat.le_of_ble_eq_true rfl)⟩ (Nat.le_of_ble_eq_true rfl) ⟨Nat.zero_le _, Nat.zero_le _⟩ dX12_favourOf_154 ?_
    refine z_iconst (v := 1) C dX12_favourOf_157 ic_1 ?_
    have K63_ : x65_ = 1 → Z Θ 5 0 0 (zQ Θ ρ) σ58_ 161 [(0, .ref (zA Θ 0)), (1, .int p_a), (2, .int o_a)] [.ref (zA Θ 0)] := by
      intro h68_
      rw [if_pos h68_] at h61_
      refine z_iconst (v := 1) C dX12_favourOf_161 ic_1 ?_
      refine z_goto C 166 dX12_favourOf_162 (by decide) ?_
      cases h61_
      exact K62_
    have K64_ : ¬ (x65_ = 1) → Z Θ 5 0 0 (zQ Θ ρ) σ58_ 165 [(0, .ref (zA Θ 0)), (1, .int p_a), (2, .int o_a)] [.ref (zA Θ 0)] := by
      intro h68_
      rw [if_neg h68_] at h61_
      refine z_iconst (v := 0) C dX12_favourOf_165 ic_0 ?_
      cases h61_
      exact K62_
    refine c_eq_f C 165 dX12_favourOf_158 (by decide) (fun h67_ => ?_) (fun h67_ => ?_)
    · exact K63_ h67_
    · exact K64_ h67_
  obtain ⟨σ69_, h70_, hf⟩ := lt_ hf
  refine fp12_221 (b := x60_) C hkd h70_ dX12_favourOf_166 ?_
  refine z_aload_n C 0 dX12_favourOf_169 rfl rfl ?_
  refine fg12_25 C hkd dX12_favourOf_170 ?_
  obtain ⟨was71_, h72_, hf⟩ := lt_ hf
  refine z_istN C dX12_favourOf_173 h72_ rfl (Nat.le_of_ble_eq_true rfl) rfl ?_
  refine z_aload_n C 1 dX12_favourOf_174 rfl rfl ?_
  refine z_iconst (v := (-1)) C dX12_favourOf_175 ic_m1 ?_
  obtain ⟨σ73_, h74_, hf⟩ := lt_ hf
  refine fp12_25 C hkd h74_ dX12_favourOf_176 ?_
  refine z_aload_n C 1 dX12_favourOf_179 rfl rfl ?_
  refine z_sipush (v := 352) C dX12_favourOf_180 sp_352 ?_
  obtain ⟨σ75_, h76_, hf⟩ := lt_ hf
  refine fp12_79 C hkd h76_ dX12_favourOf_183 ?_
  refine z_aload_n C 1 dX12_favourOf_186 rfl rfl ?_
  obtain ⟨x77_, h78_, hf⟩ := ob hf
  suffices K79_ : Z Θ 5 0 0 (zQ Θ ρ) σ75_ 206 [(3, .int was71_), (0, .ref (zA Θ 0)), (1, .int p_a), (2, .int o_a)] [.int x77_, .ref (zA Θ 0)] by
    refine z_aload_n C 1 dX12_favourOf_187 rfl rfl ?_
    refine fg12_7 C hkd dX12_favourOf_188 ?_
    refine z_iconst (v := 1) C dX12_favourOf_191 ic_1 ?_
    obtain ⟨x82_, h83_, h78_⟩ := ob h78_
    refine z_ag C h83_ (kM_1 hkd) dX12_favourOf_192 ?_
    have K80_ : x82_ = 0 → Z Θ 5 0 0 (zQ Θ ρ) σ75_ 196 [(3, .int was71_), (0, .ref (zA Θ 0)), (1, .int p_a), (2, .int o_a)] [.ref (zA Θ 0)] := by
      intro h87_
      rw [if_pos h87_] at h78_
      refine z_iconst (v := 0) C dX12_favourOf_196 ic_0 ?_
      refine z_goto C 206 dX12_favourOf_197 (by decide) ?_
      cases h78_
      exact K79_
    have K81_ : ¬ (x82_ = 0) → Z Θ 5 0 0 (zQ Θ ρ) σ75_ 200 [(3, .int was71_), (0, .ref (zA Θ 0)), (1, .int p_a), (2, .int o_a)] [.ref (zA Θ 0)] := by
      intro h87_
      rw [if_neg h87_] at h78_
      refine z_aload_n C 1 dX12_favourOf_200 rfl rfl ?_
      refine fg12_7 C hkd dX12_favourOf_201 ?_
      refine z_iconst (v := 2) C dX12_favourOf_204 ic_2 ?_
      obtain ⟨x85_, h86_, h78_⟩ := ob h78_
      refine z_ag C h86_ (kM_1 hkd) dX12_favourOf_205 ?_
      cases h78_
      exact K79_
    refine c0_eq_f C 200 dX12_favourOf_193 (by decide) (fun h84_ => ?_) (fun h84_ => ?_)
    · exact K80_ h84_
    · exact K81_ h84_
  obtain ⟨σ88_, h89_, hf⟩ := lt_ hf
  refine fp12_85 C hkd h89_ dX12_favourOf_206 ?_
  refine z_aload_n C 1 dX12_favourOf_209 rfl rfl ?_
  refine z_iconst (v := 0) C dX12_favourOf_210 ic_0 ?_
  obtain ⟨σ90_, h91_, hf⟩ := lt_ hf
  refine fp12_82 C hkd h91_ dX12_favourOf_211 ?_
  refine z_aload_n C 1 dX12_favourOf_214 rfl rfl ?_
  refine z_iconst (v := 0) C dX12_favourOf_215 ic_0 ?_
  obtain ⟨σ92_, h93_, hf⟩ := lt_ hf
  refine fp12_173 C hkd h93_ dX12_favourOf_216 ?_
  refine z_aload_n C 1 dX12_favourOf_219 rfl rfl ?_
  refine z_iconst (v := 1) C dX12_favourOf_220 ic_1 ?_
  obtain ⟨x94_, h95_, hf⟩ := ob hf
  refine cr12_192 (law_a := true) C hkd  h95_ ⟨(Nat.le_of_ble_eq_true rfl), (Nat.le_of_ble_eq_true rfl)⟩ (Nat.le_of_ble_eq_true rfl) ⟨Nat.zero_le _, Nat.zero_le _⟩ dX12_favourOf_221 ?_
  refine z_ist C dX12_favourOf_224 rfl (Nat.le_of_ble_eq_true rfl) rfl ?_
  refine z_aload_n C 2 dX12_favourOf_226 rfl rfl ?_
  refine z_iload_n C 1 dX12_favourOf_227 rfl rfl ?_
  obtain ⟨σ96_, h97_, hf⟩ := lt_ hf
  refine fp12_25 C hkd h97_ dX12_favourOf_228 ?_
  refine z_aload_n C 2 dX12_favourOf_231 rfl rfl ?_
  refine z_iload_n C 3 dX12_favourOf_232 rfl rfl ?_
  refine z_iload_n C 4 dX12_favourOf_233 rfl rfl ?_
  obtain ⟨x98_, h99_, hf⟩ := ob hf
  refine cr12_260 (p_a := p_a) (o_a := o_a) C hkd  h99_ ⟨(Nat.le_of_ble_eq_true rfl), (Nat.le_of_ble_eq_true rfl)⟩ (Nat.le_of_ble_eq_true rfl) ⟨Nat.zero_le _, Nat.zero_le _⟩ dX12_favourOf_234 ?_
  refine z_aload_n C 2 dX12_favourOf_237 rfl rfl ?_
  refine fg12_257 C hkd dX12_favourOf_238 ?_
  refine z_iadd C dX12_favourOf_241 ?_
  cases hf
  subst hρ
  exact z_iret C dX12_favourOf_242
theorem c12_favourOf {l : Launch} {kd : List KD} {w : Wp} {σ : St} {p_a : Int32} {o_a : Int32} (hkd : kd = kdM) (hi : zI kd w) {r : (Int32 × St)} (hf : q12_favourOf σ p_a o_a = some r) : zM l kd w yX12_favourOf cX12_favourOf 5 (some .int) rm12_favourOf [.ref (w.2.2.1 0), .int p_a, .int o_a] σ (some (.int r.1), r.2) := zM_of rfl hi (Nat.le_of_ble_eq_true rfl) (fun Θ hl hw C => by
  obtain ⟨Θ1, Θ2, Θ3, Θ4, Θ5⟩ := Θ
  cases hw
  exact p12_favourOf C hkd  hf rfl)

/-! wrapper village -/
theorem dL_village_0 : decode cL_village 0 = .ok (.aload_n 1, 1) := by decide +kernel
theorem dL_village_1 : decode cL_village 1 = .ok (.iconst 0, 1) := by decide +kernel
theorem dL_village_2 : decode cL_village 2 = .ok (.aload_n 0, 1) := by decide +kernel
theorem w_4_165 : Cond.selects "LastLoaf" ({ cls := "LastLoaf", name := "village", desc := "()I" } : MethodName) ({ cls := "LastLoaf", name := "village", desc := "()I" } : MethodName) ∈ TB := tb_in (lwt_4 (List.mem_of_getElem? (i := 165) (by decide +kernel))) rfl
theorem w_4_166 : Cond.code ({ cls := "LastLoaf", name := "village", desc := "()I" } : MethodName) prog_1_method_4_code (2 : Nat) (Option.some ClassFile.FieldType.int) ∈ TB := tb_in (lwt_4 (List.mem_of_getElem? (i := 166) (by decide +kernel))) rfl
theorem w_4_163 : Cond.methodLink "LastLoafLaw" (7 : Nat) ({ cls := "LastLoaf", name := "village", desc := "()I" } : MethodName) ∈ TB := tb_in (lwt_4 (List.mem_of_getElem? (i := 163) (by decide +kernel))) rfl
theorem w_4_164 : Cond.instanceMethod ({ cls := "LastLoaf", name := "village", desc := "()I" } : MethodName) ∈ TB := tb_in (lwt_4 (List.mem_of_getElem? (i := 164) (by decide +kernel))) rfl
theorem dL_village_3 : decode cL_village 3 = .ok (.invokevirtual 7, 3) := by decide +kernel
theorem dL_village_6 : decode cL_village 6 = .ok (.i2l, 1) := by decide +kernel
theorem dL_village_7 : decode cL_village 7 = .ok (.lastore, 1) := by decide +kernel
theorem dL_village_8 : decode cL_village 8 = .ok (.goto 9, 3) := by decide +kernel
theorem dL_village_17 : decode cL_village 17 = .ok (.iconst 0, 1) := by decide +kernel
theorem dL_village_18 : decode cL_village 18 = .ok (.ireturn, 1) := by decide +kernel
theorem w_4_161 : Cond.classLink "LastLoafLaw" (13 : Nat) "java/lang/IllegalArgumentException" ∈ TB := tb_in (lwt_4 (List.mem_of_getElem? (i := 161) (by decide +kernel))) rfl
theorem dL_village_11 : decode cL_village 11 = .ok (.astore_n 2, 1) := by decide +kernel
theorem dL_village_12 : decode cL_village 12 = .ok (.iconst 1, 1) := by decide +kernel
theorem dL_village_13 : decode cL_village 13 = .ok (.ireturn, 1) := by decide +kernel
theorem w_4_162 : Cond.classLink "LastLoafLaw" (15 : Nat) "java/lang/UnsupportedOperationException" ∈ TB := tb_in (lwt_4 (List.mem_of_getElem? (i := 162) (by decide +kernel))) rfl
theorem dL_village_14 : decode cL_village 14 = .ok (.astore_n 2, 1) := by decide +kernel
theorem dL_village_15 : decode cL_village 15 = .ok (.iconst 2, 1) := by decide +kernel
theorem dL_village_16 : decode cL_village 16 = .ok (.ireturn, 1) := by decide +kernel
abbrev rmW_village : Room := { frames := rm11_village.frames + 1, cells := 4, slots := 24, locals := 8 + (2 + 11) + rm11_village.locals }
set_option maxHeartbeats 4000000 in
set_option maxRecDepth 100000 in
theorem wr_village {l : Launch} {w : Wp} {ao : Nat} {cJ : ClassId} {σ : St} {o : Int64} (hi : zI kdC w) (hlt : l.stackTraces = false) (hao : ∀ i, i < kdC.length → w.2.2.1 i ≠ ao) {r : Sum Nat Int32 × St} (hf : q11_village σ  = some r) (hx : ∀ e, r.1 = .inl e → e ∈ ([0, 3] : List Nat)) : wM l w ao cJ yL_village cL_village 3 [(0, 8, 11, 13), (0, 8, 14, 15)] rmW_village [.ref (w.2.2.1 0), .ref ao] σ o (wk [0, 3] r) r.2 (wo (fun v => v) r o) := wM_of rfl (Nat.le_of_ble_eq_true rfl) (fun Θ hl hw C hA hAo htab => by
  have hlt2 : Θ.1.2.1.stackTraces = false := by rw [hl]; exact hlt
  have hw2 : Θ.2.2.2.2.2 = w := by rw [hw]
  have hkd : Θ.2.2.2.2.1 = kdC := by rw [hw]
  refine g_aload_n C 1 dL_village_0 rfl rfl ?_
  refine g_iconst (v := 0) C dL_village_1 rfl ?_
  refine g_aload_n C 0 dL_village_2 rfl rfl ?_
  refine w_call C hw2 hkd hA hao (fun v => v) [] r 1 6 0 rfl (c11_village (l := Θ.1.2.1)  rfl hi hlt2 hf) w_4_166 w_4_163 w_4_164 w_4_165 w_1_1 ⟨rfl, rfl, (Nat.le_of_ble_eq_true rfl), (Nat.le_of_ble_eq_true rfl)⟩ (by decide +kernel) rfl rfl (Nat.le_of_ble_eq_true rfl) ⟨(Nat.le_of_ble_eq_true rfl), (Nat.le_of_ble_eq_true rfl)⟩ dL_village_3 (fun v hv => ?_) (fun e he => ?_)
  · rw [wk_r hv, wo_r hv]
    refine g_i2l C dL_village_6 ?_
    refine w_last C hw2 hAo hao dL_village_7 ?_
    refine g_goto C 17 dL_village_8 (by decide) ?_
    refine g_iconst (v := 0) C dL_village_17 rfl ?_
    exact w_ret C ⟨(Nat.le_of_ble_eq_true rfl), (Nat.le_of_ble_eq_true rfl)⟩ dL_village_18
  · have h9 : e = 0 ∨ e = 3 := by simpa using hx e he
    rcases h9 with rfl | rfl
    · rw [wk_l (k := 1) he (by decide +kernel), wo_l he]
      refine ⟨[], ⟨0, 8, 11, 13⟩, [⟨0, 8, 14, 15⟩], "java/lang/IllegalArgumentException", htab, (fun z hz => nomatch hz), rfl, by decide, w_4_161, List.mem_of_getElem? (i := 13) rfl, fun q => ?_⟩
      refine g_astore_n C dL_village_11 rfl (Nat.le_of_ble_eq_true rfl) rfl ?_
      refine g_iconst (v := 1) C dL_village_12 rfl ?_
      exact w_ret C ⟨(Nat.le_of_ble_eq_true rfl), (Nat.le_of_ble_eq_true rfl)⟩ dL_village_13
    · rw [wk_l (k := 2) he (by decide +kernel), wo_l he]
      refine ⟨[⟨0, 8, 11, 13⟩], ⟨0, 8, 14, 15⟩, [], "java/lang/UnsupportedOperationException", htab, (fun z hz => by (cases List.mem_singleton.mp hz); exact Or.inr ⟨by decide, "java/lang/IllegalArgumentException", w_4_161, List.mem_of_getElem? (i := 12) rfl⟩), rfl, by decide, w_4_162, List.mem_of_getElem? (i := 20) rfl, fun q => ?_⟩
      refine g_astore_n C dL_village_14 rfl (Nat.le_of_ble_eq_true rfl) rfl ?_
      refine g_iconst (v := 2) C dL_village_15 rfl ?_
      exact w_ret C ⟨(Nat.le_of_ble_eq_true rfl), (Nat.le_of_ble_eq_true rfl)⟩ dL_village_16)
/-! wrapper law -/
theorem dL_law_0 : decode cL_law 0 = .ok (.aload_n 1, 1) := by decide +kernel
theorem dL_law_1 : decode cL_law 1 = .ok (.iconst 0, 1) := by decide +kernel
theorem dL_law_2 : decode cL_law 2 = .ok (.aload_n 0, 1) := by decide +kernel
theorem w_5_147 : Cond.selects "LastLoaf" ({ cls := "LastLoaf", name := "law", desc := "()I" } : MethodName) ({ cls := "LastLoaf", name := "law", desc := "()I" } : MethodName) ∈ TB := tb_in (lwt_5 (List.mem_of_getElem? (i := 147) (by decide +kernel))) rfl
theorem w_5_148 : Cond.code ({ cls := "LastLoaf", name := "law", desc := "()I" } : MethodName) prog_1_method_5_code (2 : Nat) (Option.some ClassFile.FieldType.int) ∈ TB := tb_in (lwt_5 (List.mem_of_getElem? (i := 148) (by decide +kernel))) rfl
theorem w_5_145 : Cond.methodLink "LastLoafLaw" (17 : Nat) ({ cls := "LastLoaf", name := "law", desc := "()I" } : MethodName) ∈ TB := tb_in (lwt_5 (List.mem_of_getElem? (i := 145) (by decide +kernel))) rfl
theorem w_5_146 : Cond.instanceMethod ({ cls := "LastLoaf", name := "law", desc := "()I" } : MethodName) ∈ TB := tb_in (lwt_5 (List.mem_of_getElem? (i := 146) (by decide +kernel))) rfl
theorem dL_law_3 : decode cL_law 3 = .ok (.invokevirtual 17, 3) := by decide +kernel
theorem dL_law_6 : decode cL_law 6 = .ok (.i2l, 1) := by decide +kernel
theorem dL_law_7 : decode cL_law 7 = .ok (.lastore, 1) := by decide +kernel
theorem dL_law_8 : decode cL_law 8 = .ok (.goto 6, 3) := by decide +kernel
theorem dL_law_14 : decode cL_law 14 = .ok (.iconst 0, 1) := by decide +kernel
theorem dL_law_15 : decode cL_law 15 = .ok (.ireturn, 1) := by decide +kernel
theorem dL_law_11 : decode cL_law 11 = .ok (.astore_n 2, 1) := by decide +kernel
theorem dL_law_12 : decode cL_law 12 = .ok (.iconst 1, 1) := by decide +kernel
theorem dL_law_13 : decode cL_law 13 = .ok (.ireturn, 1) := by decide +kernel
abbrev rmW_law : Room := { frames := rm11_law.frames + 1, cells := 4, slots := 24, locals := 8 + (2 + 11) + rm11_law.locals }
set_option maxHeartbeats 4000000 in
set_option maxRecDepth 100000 in
theorem wr_law {l : Launch} {w : Wp} {ao : Nat} {cJ : ClassId} {σ : St} {o : Int64} (hi : zI kdC w) (hlt : l.stackTraces = false) (hao : ∀ i, i < kdC.length → w.2.2.1 i ≠ ao) {r : Sum Nat Int32 × St} (hf : q11_law σ  = some r) (hx : ∀ e, r.1 = .inl e → e ∈ ([0] : List Nat)) : wM l w ao cJ yL_law cL_law 3 [(0, 8, 11, 13)] rmW_law [.ref (w.2.2.1 0), .ref ao] σ o (wk [0] r) r.2 (wo (fun v => v) r o) := wM_of rfl (Nat.le_of_ble_eq_true rfl) (fun Θ hl hw C hA hAo htab => by
  have hlt2 : Θ.1.2.1.stackTraces = false := by rw [hl]; exact hlt
  have hw2 : Θ.2.2.2.2.2 = w := by rw [hw]
  have hkd : Θ.2.2.2.2.1 = kdC := by rw [hw]
  refine g_aload_n C 1 dL_law_0 rfl rfl ?_
  refine g_iconst (v := 0) C dL_law_1 rfl ?_
  refine g_aload_n C 0 dL_law_2 rfl rfl ?_
  refine w_call C hw2 hkd hA hao (fun v => v) [] r 1 6 0 rfl (c11_law (l := Θ.1.2.1)  rfl hi hlt2 hf) w_5_148 w_5_145 w_5_146 w_5_147 w_1_1 ⟨rfl, rfl, (Nat.le_of_ble_eq_true rfl), (Nat.le_of_ble_eq_true rfl)⟩ (by decide +kernel) rfl rfl (Nat.le_of_ble_eq_true rfl) ⟨(Nat.le_of_ble_eq_true rfl), (Nat.le_of_ble_eq_true rfl)⟩ dL_law_3 (fun v hv => ?_) (fun e he => ?_)
  · rw [wk_r hv, wo_r hv]
    refine g_i2l C dL_law_6 ?_
    refine w_last C hw2 hAo hao dL_law_7 ?_
    refine g_goto C 14 dL_law_8 (by decide) ?_
    refine g_iconst (v := 0) C dL_law_14 rfl ?_
    exact w_ret C ⟨(Nat.le_of_ble_eq_true rfl), (Nat.le_of_ble_eq_true rfl)⟩ dL_law_15
  · have h9 : e = 0 := by simpa using hx e he
    subst h9
    rw [wk_l (k := 1) he (by decide +kernel), wo_l he]
    refine ⟨[], ⟨0, 8, 11, 13⟩, [], "java/lang/IllegalArgumentException", htab, (fun z hz => nomatch hz), rfl, by decide, w_4_161, List.mem_of_getElem? (i := 13) rfl, fun q => ?_⟩
    refine g_astore_n C dL_law_11 rfl (Nat.le_of_ble_eq_true rfl) rfl ?_
    refine g_iconst (v := 1) C dL_law_12 rfl ?_
    exact w_ret C ⟨(Nat.le_of_ble_eq_true rfl), (Nat.le_of_ble_eq_true rfl)⟩ dL_law_13)
/-! wrapper person -/
theorem dL_person_0 : decode cL_person 0 = .ok (.aload_n 3, 1) := by decide +kernel
theorem dL_person_1 : decode cL_person 1 = .ok (.iconst 0, 1) := by decide +kernel
theorem dL_person_2 : decode cL_person 2 = .ok (.aload_n 0, 1) := by decide +kernel
theorem dL_person_3 : decode cL_person 3 = .ok (.iload_n 1, 1) := by decide +kernel
theorem dL_person_4 : decode cL_person 4 = .ok (.iload_n 2, 1) := by decide +kernel
theorem w_5_222 : Cond.selects "LastLoaf" ({ cls := "LastLoaf", name := "person", desc := "(II)I" } : MethodName) ({ cls := "LastLoaf", name := "person", desc := "(II)I" } : MethodName) ∈ TB := tb_in (lwt_5 (List.mem_of_getElem? (i := 222) (by decide +kernel))) rfl
theorem w_5_223 : Cond.code ({ cls := "LastLoaf", name := "person", desc := "(II)I" } : MethodName) prog_1_method_7_code (3 : Nat) (Option.some ClassFile.FieldType.int) ∈ TB := tb_in (lwt_5 (List.mem_of_getElem? (i := 223) (by decide +kernel))) rfl
theorem w_5_220 : Cond.methodLink "LastLoafLaw" (20 : Nat) ({ cls := "LastLoaf", name := "person", desc := "(II)I" } : MethodName) ∈ TB := tb_in (lwt_5 (List.mem_of_getElem? (i := 220) (by decide +kernel))) rfl
theorem w_5_221 : Cond.instanceMethod ({ cls := "LastLoaf", name := "person", desc := "(II)I" } : MethodName) ∈ TB := tb_in (lwt_5 (List.mem_of_getElem? (i := 221) (by decide +kernel))) rfl
theorem dL_person_5 : decode cL_person 5 = .ok (.invokevirtual 20, 3) := by decide +kernel
theorem dL_person_8 : decode cL_person 8 = .ok (.i2l, 1) := by decide +kernel
theorem dL_person_9 : decode cL_person 9 = .ok (.lastore, 1) := by decide +kernel
theorem dL_person_10 : decode cL_person 10 = .ok (.goto 11, 3) := by decide +kernel
theorem dL_person_21 : decode cL_person 21 = .ok (.iconst 0, 1) := by decide +kernel
theorem dL_person_22 : decode cL_person 22 = .ok (.ireturn, 1) := by decide +kernel
theorem w_5_218 : Cond.classLink "LastLoafLaw" (24 : Nat) "java/lang/IndexOutOfBoundsException" ∈ TB := tb_in (lwt_5 (List.mem_of_getElem? (i := 218) (by decide +kernel))) rfl
theorem dL_person_13 : decode cL_person 13 = .ok (.astore 4, 2) := by decide +kernel
theorem dL_person_15 : decode cL_person 15 = .ok (.iconst 1, 1) := by decide +kernel
theorem dL_person_16 : decode cL_person 16 = .ok (.ireturn, 1) := by decide +kernel
theorem w_5_219 : Cond.classLink "LastLoafLaw" (26 : Nat) "java/util/NoSuchElementException" ∈ TB := tb_in (lwt_5 (List.mem_of_getElem? (i := 219) (by decide +kernel))) rfl
theorem dL_person_17 : decode cL_person 17 = .ok (.astore 4, 2) := by decide +kernel
theorem dL_person_19 : decode cL_person 19 = .ok (.iconst 2, 1) := by decide +kernel
theorem dL_person_20 : decode cL_person 20 = .ok (.ireturn, 1) := by decide +kernel
abbrev rmW_person : Room := { frames := rm11_person.frames + 1, cells := 4, slots := 24, locals := 8 + (3 + 11) + rm11_person.locals }
set_option maxHeartbeats 4000000 in
set_option maxRecDepth 100000 in
theorem wr_person {l : Launch} {w : Wp} {ao : Nat} {cJ : ClassId} {σ : St} {o : Int64} {p0 : Int32} {p1 : Int32} (hi : zI kdC w) (hlt : l.stackTraces = false) (hao : ∀ i, i < kdC.length → w.2.2.1 i ≠ ao) {r : Sum Nat Int32 × St} (hf : q11_person σ p0 p1 = some r) (hx : ∀ e, r.1 = .inl e → e ∈ ([2, 4] : List Nat)) : wM l w ao cJ yL_person cL_person 5 [(0, 10, 13, 24), (0, 10, 17, 26)] rmW_person [.ref (w.2.2.1 0), .int p0, .int p1, .ref ao] σ o (wk [2, 4] r) r.2 (wo (fun v => v) r o) := wM_of rfl (Nat.le_of_ble_eq_true rfl) (fun Θ hl hw C hA hAo htab => by
  have hlt2 : Θ.1.2.1.stackTraces = false := by rw [hl]; exact hlt
  have hw2 : Θ.2.2.2.2.2 = w := by rw [hw]
  have hkd : Θ.2.2.2.2.1 = kdC := by rw [hw]
  refine g_aload_n C 3 dL_person_0 rfl rfl ?_
  refine g_iconst (v := 0) C dL_person_1 rfl ?_
  refine g_aload_n C 0 dL_person_2 rfl rfl ?_
  refine g_iload_n C 1 dL_person_3 rfl rfl ?_
  refine g_iload_n C 2 dL_person_4 rfl rfl ?_
  refine w_call C hw2 hkd hA hao (fun v => v) [.int p0, .int p1] r 2 12 2 rfl (c11_person (l := Θ.1.2.1) (person_a := p0) (what_a := p1) rfl hi hlt2 hf) w_5_223 w_5_220 w_5_221 w_5_222 w_1_1 ⟨rfl, rfl, (Nat.le_of_ble_eq_true rfl), (Nat.le_of_ble_eq_true rfl)⟩ (by decide +kernel) rfl rfl (Nat.le_of_ble_eq_true rfl) ⟨(Nat.le_of_ble_eq_true rfl), (Nat.le_of_ble_eq_true rfl)⟩ dL_person_5 (fun v hv => ?_) (fun e he => ?_)
  · rw [wk_r hv, wo_r hv]
    refine g_i2l C dL_person_8 ?_
    refine w_last C hw2 hAo hao dL_person_9 ?_
    refine g_goto C 21 dL_person_10 (by decide) ?_
    refine g_iconst (v := 0) C dL_person_21 rfl ?_
    exact w_ret C ⟨(Nat.le_of_ble_eq_true rfl), (Nat.le_of_ble_eq_true rfl)⟩ dL_person_22
  · have h9 : e = 2 ∨ e = 4 := by simpa using hx e he
    rcases h9 with rfl | rfl
    · rw [wk_l (k := 1) he (by decide +kernel), wo_l he]
      refine ⟨[], ⟨0, 10, 13, 24⟩, [⟨0, 10, 17, 26⟩], "java/lang/IndexOutOfBoundsException", htab, (fun z hz => nomatch hz), rfl, by decide, w_5_218, List.mem_of_getElem? (i := 21) rfl, fun q => ?_⟩
      refine g_astore C dL_person_13 (Nat.le_of_ble_eq_true rfl) rfl ?_
      refine g_iconst (v := 1) C dL_person_15 rfl ?_
      exact w_ret C ⟨(Nat.le_of_ble_eq_true rfl), (Nat.le_of_ble_eq_true rfl)⟩ dL_person_16
    · rw [wk_l (k := 2) he (by decide +kernel), wo_l he]
      refine ⟨[⟨0, 10, 13, 24⟩], ⟨0, 10, 17, 26⟩, [], "java/util/NoSuchElementException", htab, (fun z hz => by (cases List.mem_singleton.mp hz); exact Or.inr ⟨by decide, "java/lang/IndexOutOfBoundsException", w_5_218, List.mem_of_getElem? (i := 18) rfl⟩), rfl, by decide, w_5_219, List.mem_of_getElem? (i := 23) rfl, fun q => ?_⟩
      refine g_astore C dL_person_17 (Nat.le_of_ble_eq_true rfl) rfl ?_
      refine g_iconst (v := 2) C dL_person_19 rfl ?_
      exact w_ret C ⟨(Nat.le_of_ble_eq_true rfl), (Nat.le_of_ble_eq_true rfl)⟩ dL_person_20)
/-! wrapper likes -/
theorem dL_likes_0 : decode cL_likes 0 = .ok (.aload_n 3, 1) := by decide +kernel
theorem dL_likes_1 : decode cL_likes 1 = .ok (.iconst 0, 1) := by decide +kernel
theorem dL_likes_2 : decode cL_likes 2 = .ok (.aload_n 0, 1) := by decide +kernel
theorem dL_likes_3 : decode cL_likes 3 = .ok (.iload_n 1, 1) := by decide +kernel
theorem dL_likes_4 : decode cL_likes 4 = .ok (.iload_n 2, 1) := by decide +kernel
theorem w_6_50 : Cond.selects "LastLoaf" ({ cls := "LastLoaf", name := "likes", desc := "(II)I" } : MethodName) ({ cls := "LastLoaf", name := "likes", desc := "(II)I" } : MethodName) ∈ TB := tb_in (lwt_6 (List.mem_of_getElem? (i := 50) (by decide +kernel))) rfl
theorem w_6_51 : Cond.code ({ cls := "LastLoaf", name := "likes", desc := "(II)I" } : MethodName) prog_1_method_8_code (3 : Nat) (Option.some ClassFile.FieldType.int) ∈ TB := tb_in (lwt_6 (List.mem_of_getElem? (i := 51) (by decide +kernel))) rfl
theorem w_6_48 : Cond.methodLink "LastLoafLaw" (28 : Nat) ({ cls := "LastLoaf", name := "likes", desc := "(II)I" } : MethodName) ∈ TB := tb_in (lwt_6 (List.mem_of_getElem? (i := 48) (by decide +kernel))) rfl
theorem w_6_49 : Cond.instanceMethod ({ cls := "LastLoaf", name := "likes", desc := "(II)I" } : MethodName) ∈ TB := tb_in (lwt_6 (List.mem_of_getElem? (i := 49) (by decide +kernel))) rfl
theorem dL_likes_5 : decode cL_likes 5 = .ok (.invokevirtual 28, 3) := by decide +kernel
theorem dL_likes_8 : decode cL_likes 8 = .ok (.i2l, 1) := by decide +kernel
theorem dL_likes_9 : decode cL_likes 9 = .ok (.lastore, 1) := by decide +kernel
theorem dL_likes_10 : decode cL_likes 10 = .ok (.goto 11, 3) := by decide +kernel
theorem dL_likes_21 : decode cL_likes 21 = .ok (.iconst 0, 1) := by decide +kernel
theorem dL_likes_22 : decode cL_likes 22 = .ok (.ireturn, 1) := by decide +kernel
theorem dL_likes_13 : decode cL_likes 13 = .ok (.astore 4, 2) := by decide +kernel
theorem dL_likes_15 : decode cL_likes 15 = .ok (.iconst 1, 1) := by decide +kernel
theorem dL_likes_16 : decode cL_likes 16 = .ok (.ireturn, 1) := by decide +kernel
theorem dL_likes_17 : decode cL_likes 17 = .ok (.astore 4, 2) := by decide +kernel
theorem dL_likes_19 : decode cL_likes 19 = .ok (.iconst 2, 1) := by decide +kernel
theorem dL_likes_20 : decode cL_likes 20 = .ok (.ireturn, 1) := by decide +kernel
abbrev rmW_likes : Room := { frames := rm11_likes.frames + 1, cells := 4, slots := 24, locals := 8 + (3 + 11) + rm11_likes.locals }
set_option maxHeartbeats 4000000 in
set_option maxRecDepth 100000 in
theorem wr_likes {l : Launch} {w : Wp} {ao : Nat} {cJ : ClassId} {σ : St} {o : Int64} {p0 : Int32} {p1 : Int32} (hi : zI kdC w) (hlt : l.stackTraces = false) (hao : ∀ i, i < kdC.length → w.2.2.1 i ≠ ao) {r : Sum Nat Int32 × St} (hf : q11_likes σ p0 p1 = some r) (hx : ∀ e, r.1 = .inl e → e ∈ ([2, 0] : List Nat)) : wM l w ao cJ yL_likes cL_likes 5 [(0, 10, 13, 24), (0, 10, 17, 13)] rmW_likes [.ref (w.2.2.1 0), .int p0, .int p1, .ref ao] σ o (wk [2, 0] r) r.2 (wo (fun v => v) r o) := wM_of rfl (Nat.le_of_ble_eq_true rfl) (fun Θ hl hw C hA hAo htab => by
  have hlt2 : Θ.1.2.1.stackTraces = false := by rw [hl]; exact hlt
  have hw2 : Θ.2.2.2.2.2 = w := by rw [hw]
  have hkd : Θ.2.2.2.2.1 = kdC := by rw [hw]
  refine g_aload_n C 3 dL_likes_0 rfl rfl ?_
  refine g_iconst (v := 0) C dL_likes_1 rfl ?_
  refine g_aload_n C 0 dL_likes_2 rfl rfl ?_
  refine g_iload_n C 1 dL_likes_3 rfl rfl ?_
  refine g_iload_n C 2 dL_likes_4 rfl rfl ?_
  refine w_call C hw2 hkd hA hao (fun v => v) [.int p0, .int p1] r 3 18 2 rfl (c11_likes (l := Θ.1.2.1) (person_a := p0) (other_a := p1) rfl hi hlt2 hf) w_6_51 w_6_48 w_6_49 w_6_50 w_1_1 ⟨rfl, rfl, (Nat.le_of_ble_eq_true rfl), (Nat.le_of_ble_eq_true rfl)⟩ (by decide +kernel) rfl rfl (Nat.le_of_ble_eq_true rfl) ⟨(Nat.le_of_ble_eq_true rfl), (Nat.le_of_ble_eq_true rfl)⟩ dL_likes_5 (fun v hv => ?_) (fun e he => ?_)
  · rw [wk_r hv, wo_r hv]
    refine g_i2l C dL_likes_8 ?_
    refine w_last C hw2 hAo hao dL_likes_9 ?_
    refine g_goto C 21 dL_likes_10 (by decide) ?_
    refine g_iconst (v := 0) C dL_likes_21 rfl ?_
    exact w_ret C ⟨(Nat.le_of_ble_eq_true rfl), (Nat.le_of_ble_eq_true rfl)⟩ dL_likes_22
  · have h9 : e = 2 ∨ e = 0 := by simpa using hx e he
    rcases h9 with rfl | rfl
    · rw [wk_l (k := 1) he (by decide +kernel), wo_l he]
      refine ⟨[], ⟨0, 10, 13, 24⟩, [⟨0, 10, 17, 13⟩], "java/lang/IndexOutOfBoundsException", htab, (fun z hz => nomatch hz), rfl, by decide, w_5_218, List.mem_of_getElem? (i := 21) rfl, fun q => ?_⟩
      refine g_astore C dL_likes_13 (Nat.le_of_ble_eq_true rfl) rfl ?_
      refine g_iconst (v := 1) C dL_likes_15 rfl ?_
      exact w_ret C ⟨(Nat.le_of_ble_eq_true rfl), (Nat.le_of_ble_eq_true rfl)⟩ dL_likes_16
    · rw [wk_l (k := 2) he (by decide +kernel), wo_l he]
      refine ⟨[⟨0, 10, 13, 24⟩], ⟨0, 10, 17, 13⟩, [], "java/lang/IllegalArgumentException", htab, (fun z hz => by (cases List.mem_singleton.mp hz); exact Or.inr ⟨by decide, "java/lang/IndexOutOfBoundsException", w_5_218, List.mem_of_getElem? (i := 1) rfl⟩), rfl, by decide, w_4_161, List.mem_of_getElem? (i := 13) rfl, fun q => ?_⟩
      refine g_astore C dL_likes_17 (Nat.le_of_ble_eq_true rfl) rfl ?_
      refine g_iconst (v := 2) C dL_likes_19 rfl ?_
      exact w_ret C ⟨(Nat.le_of_ble_eq_true rfl), (Nat.le_of_ble_eq_true rfl)⟩ dL_likes_20)
/-! wrapper favour -/
theorem dL_favour_0 : decode cL_favour 0 = .ok (.aload_n 3, 1) := by decide +kernel
theorem dL_favour_1 : decode cL_favour 1 = .ok (.iconst 0, 1) := by decide +kernel
theorem dL_favour_2 : decode cL_favour 2 = .ok (.aload_n 0, 1) := by decide +kernel
theorem dL_favour_3 : decode cL_favour 3 = .ok (.iload_n 1, 1) := by decide +kernel
theorem dL_favour_4 : decode cL_favour 4 = .ok (.iload_n 2, 1) := by decide +kernel
theorem w_6_63 : Cond.selects "LastLoaf" ({ cls := "LastLoaf", name := "favour", desc := "(II)I" } : MethodName) ({ cls := "LastLoaf", name := "favour", desc := "(II)I" } : MethodName) ∈ TB := tb_in (lwt_6 (List.mem_of_getElem? (i := 63) (by decide +kernel))) rfl
theorem w_6_64 : Cond.code ({ cls := "LastLoaf", name := "favour", desc := "(II)I" } : MethodName) prog_1_method_9_code (3 : Nat) (Option.some ClassFile.FieldType.int) ∈ TB := tb_in (lwt_6 (List.mem_of_getElem? (i := 64) (by decide +kernel))) rfl
theorem w_6_61 : Cond.methodLink "LastLoafLaw" (31 : Nat) ({ cls := "LastLoaf", name := "favour", desc := "(II)I" } : MethodName) ∈ TB := tb_in (lwt_6 (List.mem_of_getElem? (i := 61) (by decide +kernel))) rfl
theorem w_6_62 : Cond.instanceMethod ({ cls := "LastLoaf", name := "favour", desc := "(II)I" } : MethodName) ∈ TB := tb_in (lwt_6 (List.mem_of_getElem? (i := 62) (by decide +kernel))) rfl
theorem dL_favour_5 : decode cL_favour 5 = .ok (.invokevirtual 31, 3) := by decide +kernel
theorem dL_favour_8 : decode cL_favour 8 = .ok (.i2l, 1) := by decide +kernel
theorem dL_favour_9 : decode cL_favour 9 = .ok (.lastore, 1) := by decide +kernel
theorem dL_favour_10 : decode cL_favour 10 = .ok (.goto 7, 3) := by decide +kernel
theorem dL_favour_17 : decode cL_favour 17 = .ok (.iconst 0, 1) := by decide +kernel
theorem dL_favour_18 : decode cL_favour 18 = .ok (.ireturn, 1) := by decide +kernel
theorem dL_favour_13 : decode cL_favour 13 = .ok (.astore 4, 2) := by decide +kernel
theorem dL_favour_15 : decode cL_favour 15 = .ok (.iconst 1, 1) := by decide +kernel
theorem dL_favour_16 : decode cL_favour 16 = .ok (.ireturn, 1) := by decide +kernel
abbrev rmW_favour : Room := { frames := rm11_favour.frames + 1, cells := 4, slots := 24, locals := 8 + (3 + 11) + rm11_favour.locals }
set_option maxHeartbeats 4000000 in
set_option maxRecDepth 100000 in
theorem wr_favour {l : Launch} {w : Wp} {ao : Nat} {cJ : ClassId} {σ : St} {o : Int64} {p0 : Int32} {p1 : Int32} (hi : zI kdC w) (hlt : l.stackTraces = false) (hao : ∀ i, i < kdC.length → w.2.2.1 i ≠ ao) {r : Sum Nat Int32 × St} (hf : q11_favour σ p0 p1 = some r) (hx : ∀ e, r.1 = .inl e → e ∈ ([2] : List Nat)) : wM l w ao cJ yL_favour cL_favour 5 [(0, 10, 13, 24)] rmW_favour [.ref (w.2.2.1 0), .int p0, .int p1, .ref ao] σ o (wk [2] r) r.2 (wo (fun v => v) r o) := wM_of rfl (Nat.le_of_ble_eq_true rfl) (fun Θ hl hw C hA hAo htab => by
  have hlt2 : Θ.1.2.1.stackTraces = false := by rw [hl]; exact hlt
  have hw2 : Θ.2.2.2.2.2 = w := by rw [hw]
  have hkd : Θ.2.2.2.2.1 = kdC := by rw [hw]
  refine g_aload_n C 3 dL_favour_0 rfl rfl ?_
  refine g_iconst (v := 0) C dL_favour_1 rfl ?_
  refine g_aload_n C 0 dL_favour_2 rfl rfl ?_
  refine g_iload_n C 1 dL_favour_3 rfl rfl ?_
  refine g_iload_n C 2 dL_favour_4 rfl rfl ?_
  refine w_call C hw2 hkd hA hao (fun v => v) [.int p0, .int p1] r 2 12 2 rfl (c11_favour (l := Θ.1.2.1) (person_a := p0) (other_a := p1) rfl hi hlt2 hf) w_6_64 w_6_61 w_6_62 w_6_63 w_1_1 ⟨rfl, rfl, (Nat.le_of_ble_eq_true rfl), (Nat.le_of_ble_eq_true rfl)⟩ (by decide +kernel) rfl rfl (Nat.le_of_ble_eq_true rfl) ⟨(Nat.le_of_ble_eq_true rfl), (Nat.le_of_ble_eq_true rfl)⟩ dL_favour_5 (fun v hv => ?_) (fun e he => ?_)
  · rw [wk_r hv, wo_r hv]
    refine g_i2l C dL_favour_8 ?_
    refine w_last C hw2 hAo hao dL_favour_9 ?_
    refine g_goto C 17 dL_favour_10 (by decide) ?_
    refine g_iconst (v := 0) C dL_favour_17 rfl ?_
    exact w_ret C ⟨(Nat.le_of_ble_eq_true rfl), (Nat.le_of_ble_eq_true rfl)⟩ dL_favour_18
  · have h9 : e = 2 := by simpa using hx e he
    subst h9
    rw [wk_l (k := 1) he (by decide +kernel), wo_l he]
    refine ⟨[], ⟨0, 10, 13, 24⟩, [], "java/lang/IndexOutOfBoundsException", htab, (fun z hz => nomatch hz), rfl, by decide, w_5_218, List.mem_of_getElem? (i := 21) rfl, fun q => ?_⟩
    refine g_astore C dL_favour_13 (Nat.le_of_ble_eq_true rfl) rfl ?_
    refine g_iconst (v := 1) C dL_favour_15 rfl ?_
    exact w_ret C ⟨(Nat.le_of_ble_eq_true rfl), (Nat.le_of_ble_eq_true rfl)⟩ dL_favour_16)
/-! wrapper grist -/
theorem dL_grist_0 : decode cL_grist 0 = .ok (.aload_n 2, 1) := by decide +kernel
theorem dL_grist_1 : decode cL_grist 1 = .ok (.iconst 0, 1) := by decide +kernel
theorem dL_grist_2 : decode cL_grist 2 = .ok (.aload_n 0, 1) := by decide +kernel
theorem dL_grist_3 : decode cL_grist 3 = .ok (.iload_n 1, 1) := by decide +kernel
theorem w_6_71 : Cond.selects "LastLoaf" ({ cls := "LastLoaf", name := "grist", desc := "(I)I" } : MethodName) ({ cls := "LastLoaf", name := "grist", desc := "(I)I" } : MethodName) ∈ TB := tb_in (lwt_6 (List.mem_of_getElem? (i := 71) (by decide +kernel))) rfl
theorem w_6_72 : Cond.code ({ cls := "LastLoaf", name := "grist", desc := "(I)I" } : MethodName) prog_1_method_10_code (2 : Nat) (Option.some ClassFile.FieldType.int) ∈ TB := tb_in (lwt_6 (List.mem_of_getElem? (i := 72) (by decide +kernel))) rfl
theorem w_6_69 : Cond.methodLink "LastLoafLaw" (34 : Nat) ({ cls := "LastLoaf", name := "grist", desc := "(I)I" } : MethodName) ∈ TB := tb_in (lwt_6 (List.mem_of_getElem? (i := 69) (by decide +kernel))) rfl
theorem w_6_70 : Cond.instanceMethod ({ cls := "LastLoaf", name := "grist", desc := "(I)I" } : MethodName) ∈ TB := tb_in (lwt_6 (List.mem_of_getElem? (i := 70) (by decide +kernel))) rfl
theorem dL_grist_4 : decode cL_grist 4 = .ok (.invokevirtual 34, 3) := by decide +kernel
theorem dL_grist_7 : decode cL_grist 7 = .ok (.i2l, 1) := by decide +kernel
theorem dL_grist_8 : decode cL_grist 8 = .ok (.lastore, 1) := by decide +kernel
theorem dL_grist_9 : decode cL_grist 9 = .ok (.goto 6, 3) := by decide +kernel
theorem dL_grist_15 : decode cL_grist 15 = .ok (.iconst 0, 1) := by decide +kernel
theorem dL_grist_16 : decode cL_grist 16 = .ok (.ireturn, 1) := by decide +kernel
theorem dL_grist_12 : decode cL_grist 12 = .ok (.astore_n 3, 1) := by decide +kernel
theorem dL_grist_13 : decode cL_grist 13 = .ok (.iconst 1, 1) := by decide +kernel
theorem dL_grist_14 : decode cL_grist 14 = .ok (.ireturn, 1) := by decide +kernel
abbrev rmW_grist : Room := { frames := rm11_grist.frames + 1, cells := 4, slots := 24, locals := 8 + (2 + 11) + rm11_grist.locals }
set_option maxHeartbeats 4000000 in
set_option maxRecDepth 100000 in
theorem wr_grist {l : Launch} {w : Wp} {ao : Nat} {cJ : ClassId} {σ : St} {o : Int64} {p0 : Int32} (hi : zI kdC w) (hlt : l.stackTraces = false) (hao : ∀ i, i < kdC.length → w.2.2.1 i ≠ ao) {r : Sum Nat Int32 × St} (hf : q11_grist σ p0 = some r) (hx : ∀ e, r.1 = .inl e → e ∈ ([2] : List Nat)) : wM l w ao cJ yL_grist cL_grist 4 [(0, 9, 12, 24)] rmW_grist [.ref (w.2.2.1 0), .int p0, .ref ao] σ o (wk [2] r) r.2 (wo (fun v => v) r o) := wM_of rfl (Nat.le_of_ble_eq_true rfl) (fun Θ hl hw C hA hAo htab => by
  have hlt2 : Θ.1.2.1.stackTraces = false := by rw [hl]; exact hlt
  have hw2 : Θ.2.2.2.2.2 = w := by rw [hw]
  have hkd : Θ.2.2.2.2.1 = kdC := by rw [hw]
  refine g_aload_n C 2 dL_grist_0 rfl rfl ?_
  refine g_iconst (v := 0) C dL_grist_1 rfl ?_
  refine g_aload_n C 0 dL_grist_2 rfl rfl ?_
  refine g_iload_n C 1 dL_grist_3 rfl rfl ?_
  refine w_call C hw2 hkd hA hao (fun v => v) [.int p0] r 1 6 1 rfl (c11_grist (l := Θ.1.2.1) (season_a := p0) rfl hi hlt2 hf) w_6_72 w_6_69 w_6_70 w_6_71 w_1_1 ⟨rfl, rfl, (Nat.le_of_ble_eq_true rfl), (Nat.le_of_ble_eq_true rfl)⟩ (by decide +kernel) rfl rfl (Nat.le_of_ble_eq_true rfl) ⟨(Nat.le_of_ble_eq_true rfl), (Nat.le_of_ble_eq_true rfl)⟩ dL_grist_4 (fun v hv => ?_) (fun e he => ?_)
  · rw [wk_r hv, wo_r hv]
    refine g_i2l C dL_grist_7 ?_
    refine w_last C hw2 hAo hao dL_grist_8 ?_
    refine g_goto C 15 dL_grist_9 (by decide) ?_
    refine g_iconst (v := 0) C dL_grist_15 rfl ?_
    exact w_ret C ⟨(Nat.le_of_ble_eq_true rfl), (Nat.le_of_ble_eq_true rfl)⟩ dL_grist_16
  · have h9 : e = 2 := by simpa using hx e he
    subst h9
    rw [wk_l (k := 1) he (by decide +kernel), wo_l he]
    refine ⟨[], ⟨0, 9, 12, 24⟩, [], "java/lang/IndexOutOfBoundsException", htab, (fun z hz => nomatch hz), rfl, by decide, w_5_218, List.mem_of_getElem? (i := 21) rfl, fun q => ?_⟩
    refine g_astore_n C dL_grist_12 rfl (Nat.le_of_ble_eq_true rfl) rfl ?_
    refine g_iconst (v := 1) C dL_grist_13 rfl ?_
    exact w_ret C ⟨(Nat.le_of_ble_eq_true rfl), (Nat.le_of_ble_eq_true rfl)⟩ dL_grist_14)
/-! wrapper weeks -/
theorem dL_weeks_0 : decode cL_weeks 0 = .ok (.aload_n 2, 1) := by decide +kernel
theorem dL_weeks_1 : decode cL_weeks 1 = .ok (.iconst 0, 1) := by decide +kernel
theorem dL_weeks_2 : decode cL_weeks 2 = .ok (.aload_n 0, 1) := by decide +kernel
theorem dL_weeks_3 : decode cL_weeks 3 = .ok (.iload_n 1, 1) := by decide +kernel
theorem w_6_79 : Cond.selects "LastLoaf" ({ cls := "LastLoaf", name := "weeks", desc := "(I)I" } : MethodName) ({ cls := "LastLoaf", name := "weeks", desc := "(I)I" } : MethodName) ∈ TB := tb_in (lwt_6 (List.mem_of_getElem? (i := 79) (by decide +kernel))) rfl
theorem w_6_80 : Cond.code ({ cls := "LastLoaf", name := "weeks", desc := "(I)I" } : MethodName) prog_1_method_11_code (3 : Nat) (Option.some ClassFile.FieldType.int) ∈ TB := tb_in (lwt_6 (List.mem_of_getElem? (i := 80) (by decide +kernel))) rfl
theorem w_6_77 : Cond.methodLink "LastLoafLaw" (38 : Nat) ({ cls := "LastLoaf", name := "weeks", desc := "(I)I" } : MethodName) ∈ TB := tb_in (lwt_6 (List.mem_of_getElem? (i := 77) (by decide +kernel))) rfl
theorem w_6_78 : Cond.instanceMethod ({ cls := "LastLoaf", name := "weeks", desc := "(I)I" } : MethodName) ∈ TB := tb_in (lwt_6 (List.mem_of_getElem? (i := 78) (by decide +kernel))) rfl
theorem dL_weeks_4 : decode cL_weeks 4 = .ok (.invokevirtual 38, 3) := by decide +kernel
theorem dL_weeks_7 : decode cL_weeks 7 = .ok (.i2l, 1) := by decide +kernel
theorem dL_weeks_8 : decode cL_weeks 8 = .ok (.lastore, 1) := by decide +kernel
theorem dL_weeks_9 : decode cL_weeks 9 = .ok (.goto 6, 3) := by decide +kernel
theorem dL_weeks_15 : decode cL_weeks 15 = .ok (.iconst 0, 1) := by decide +kernel
theorem dL_weeks_16 : decode cL_weeks 16 = .ok (.ireturn, 1) := by decide +kernel
theorem dL_weeks_12 : decode cL_weeks 12 = .ok (.astore_n 3, 1) := by decide +kernel
theorem dL_weeks_13 : decode cL_weeks 13 = .ok (.iconst 1, 1) := by decide +kernel
theorem dL_weeks_14 : decode cL_weeks 14 = .ok (.ireturn, 1) := by decide +kernel
abbrev rmW_weeks : Room := { frames := rm11_weeks.frames + 1, cells := 4, slots := 24, locals := 8 + (3 + 11) + rm11_weeks.locals }
set_option maxHeartbeats 4000000 in
set_option maxRecDepth 100000 in
theorem wr_weeks {l : Launch} {w : Wp} {ao : Nat} {cJ : ClassId} {σ : St} {o : Int64} {p0 : Int32} (hi : zI kdC w) (hlt : l.stackTraces = false) (hao : ∀ i, i < kdC.length → w.2.2.1 i ≠ ao) {r : Sum Nat Int32 × St} (hf : q11_weeks σ p0 = some r) (hx : ∀ e, r.1 = .inl e → e ∈ ([0] : List Nat)) : wM l w ao cJ yL_weeks cL_weeks 4 [(0, 9, 12, 13)] rmW_weeks [.ref (w.2.2.1 0), .int p0, .ref ao] σ o (wk [0] r) r.2 (wo (fun v => v) r o) := wM_of rfl (Nat.le_of_ble_eq_true rfl) (fun Θ hl hw C hA hAo htab => by
  have hlt2 : Θ.1.2.1.stackTraces = false := by rw [hl]; exact hlt
  have hw2 : Θ.2.2.2.2.2 = w := by rw [hw]
  have hkd : Θ.2.2.2.2.1 = kdC := by rw [hw]
  refine g_aload_n C 2 dL_weeks_0 rfl rfl ?_
  refine g_iconst (v := 0) C dL_weeks_1 rfl ?_
  refine g_aload_n C 0 dL_weeks_2 rfl rfl ?_
  refine g_iload_n C 1 dL_weeks_3 rfl rfl ?_
  refine w_call C hw2 hkd hA hao (fun v => v) [.int p0] r 1 6 1 rfl (c11_weeks (l := Θ.1.2.1) (n_a := p0) rfl hi hlt2 hf) w_6_80 w_6_77 w_6_78 w_6_79 w_1_1 ⟨rfl, rfl, (Nat.le_of_ble_eq_true rfl), (Nat.le_of_ble_eq_true rfl)⟩ (by decide +kernel) rfl rfl (Nat.le_of_ble_eq_true rfl) ⟨(Nat.le_of_ble_eq_true rfl), (Nat.le_of_ble_eq_true rfl)⟩ dL_weeks_4 (fun v hv => ?_) (fun e he => ?_)
  · rw [wk_r hv, wo_r hv]
    refine g_i2l C dL_weeks_7 ?_
    refine w_last C hw2 hAo hao dL_weeks_8 ?_
    refine g_goto C 15 dL_weeks_9 (by decide) ?_
    refine g_iconst (v := 0) C dL_weeks_15 rfl ?_
    exact w_ret C ⟨(Nat.le_of_ble_eq_true rfl), (Nat.le_of_ble_eq_true rfl)⟩ dL_weeks_16
  · have h9 : e = 0 := by simpa using hx e he
    subst h9
    rw [wk_l (k := 1) he (by decide +kernel), wo_l he]
    refine ⟨[], ⟨0, 9, 12, 13⟩, [], "java/lang/IllegalArgumentException", htab, (fun z hz => nomatch hz), rfl, by decide, w_4_161, List.mem_of_getElem? (i := 13) rfl, fun q => ?_⟩
    refine g_astore_n C dL_weeks_12 rfl (Nat.le_of_ble_eq_true rfl) rfl ?_
    refine g_iconst (v := 1) C dL_weeks_13 rfl ?_
    exact w_ret C ⟨(Nat.le_of_ble_eq_true rfl), (Nat.le_of_ble_eq_true rfl)⟩ dL_weeks_14)
/-! wrapper stand -/
theorem dL_stand_0 : decode cL_stand 0 = .ok (.aload_n 3, 1) := by decide +kernel
theorem dL_stand_1 : decode cL_stand 1 = .ok (.iconst 0, 1) := by decide +kernel
theorem dL_stand_2 : decode cL_stand 2 = .ok (.aload_n 0, 1) := by decide +kernel
theorem dL_stand_3 : decode cL_stand 3 = .ok (.iload_n 1, 1) := by decide +kernel
theorem dL_stand_4 : decode cL_stand 4 = .ok (.iload_n 2, 1) := by decide +kernel
theorem w_6_96 : Cond.selects "LastLoaf" ({ cls := "LastLoaf", name := "stand", desc := "(IZ)Z" } : MethodName) ({ cls := "LastLoaf", name := "stand", desc := "(IZ)Z" } : MethodName) ∈ TB := tb_in (lwt_6 (List.mem_of_getElem? (i := 96) (by decide +kernel))) rfl
theorem w_6_97 : Cond.code ({ cls := "LastLoaf", name := "stand", desc := "(IZ)Z" } : MethodName) prog_1_method_12_code (4 : Nat) (Option.some ClassFile.FieldType.boolean) ∈ TB := tb_in (lwt_6 (List.mem_of_getElem? (i := 97) (by decide +kernel))) rfl
theorem w_6_94 : Cond.methodLink "LastLoafLaw" (41 : Nat) ({ cls := "LastLoaf", name := "stand", desc := "(IZ)Z" } : MethodName) ∈ TB := tb_in (lwt_6 (List.mem_of_getElem? (i := 94) (by decide +kernel))) rfl
theorem w_6_95 : Cond.instanceMethod ({ cls := "LastLoaf", name := "stand", desc := "(IZ)Z" } : MethodName) ∈ TB := tb_in (lwt_6 (List.mem_of_getElem? (i := 95) (by decide +kernel))) rfl
theorem dL_stand_5 : decode cL_stand 5 = .ok (.invokevirtual 41, 3) := by decide +kernel
theorem dL_stand_8 : decode cL_stand 8 = .ok (.ifCond .eq 7, 3) := by decide +kernel
theorem dL_stand_11 : decode cL_stand 11 = .ok (.lconst 1, 1) := by decide +kernel
theorem dL_stand_12 : decode cL_stand 12 = .ok (.goto 4, 3) := by decide +kernel
theorem dL_stand_15 : decode cL_stand 15 = .ok (.lconst 0, 1) := by decide +kernel
theorem dL_stand_16 : decode cL_stand 16 = .ok (.lastore, 1) := by decide +kernel
theorem dL_stand_17 : decode cL_stand 17 = .ok (.goto 11, 3) := by decide +kernel
theorem dL_stand_28 : decode cL_stand 28 = .ok (.iconst 0, 1) := by decide +kernel
theorem dL_stand_29 : decode cL_stand 29 = .ok (.ireturn, 1) := by decide +kernel
theorem dL_stand_20 : decode cL_stand 20 = .ok (.astore 4, 2) := by decide +kernel
theorem dL_stand_22 : decode cL_stand 22 = .ok (.iconst 1, 1) := by decide +kernel
theorem dL_stand_23 : decode cL_stand 23 = .ok (.ireturn, 1) := by decide +kernel
theorem w_6_93 : Cond.classLink "LastLoafLaw" (45 : Nat) "java/lang/IllegalStateException" ∈ TB := tb_in (lwt_6 (List.mem_of_getElem? (i := 93) (by decide +kernel))) rfl
theorem dL_stand_24 : decode cL_stand 24 = .ok (.astore 4, 2) := by decide +kernel
theorem dL_stand_26 : decode cL_stand 26 = .ok (.iconst 2, 1) := by decide +kernel
theorem dL_stand_27 : decode cL_stand 27 = .ok (.ireturn, 1) := by decide +kernel
abbrev rmW_stand : Room := { frames := rm11_stand.frames + 1, cells := 4, slots := 24, locals := 8 + (4 + 11) + rm11_stand.locals }
set_option maxHeartbeats 4000000 in
set_option maxRecDepth 100000 in
theorem wr_stand {l : Launch} {w : Wp} {ao : Nat} {cJ : ClassId} {σ : St} {o : Int64} {p0 : Int32} {p1 : Bool} (hi : zI kdC w) (hlt : l.stackTraces = false) (hao : ∀ i, i < kdC.length → w.2.2.1 i ≠ ao) {r : Sum Nat Bool × St} (hf : q11_stand σ p0 p1 = some r) (hx : ∀ e, r.1 = .inl e → e ∈ ([2, 1] : List Nat)) : wM l w ao cJ yL_stand cL_stand 5 [(0, 17, 20, 24), (0, 17, 24, 45)] rmW_stand [.ref (w.2.2.1 0), .int p0, .int (b2i p1), .ref ao] σ o (wk [2, 1] r) r.2 (wo b2i r o) := wM_of rfl (Nat.le_of_ble_eq_true rfl) (fun Θ hl hw C hA hAo htab => by
  have hlt2 : Θ.1.2.1.stackTraces = false := by rw [hl]; exact hlt
  have hw2 : Θ.2.2.2.2.2 = w := by rw [hw]
  have hkd : Θ.2.2.2.2.1 = kdC := by rw [hw]
  refine g_aload_n C 3 dL_stand_0 rfl rfl ?_
  refine g_iconst (v := 0) C dL_stand_1 rfl ?_
  refine g_aload_n C 0 dL_stand_2 rfl rfl ?_
  refine g_iload_n C 1 dL_stand_3 rfl rfl ?_
  refine g_iload_n C 2 dL_stand_4 rfl rfl ?_
  refine w_call C hw2 hkd hA hao b2i [.int p0, .int (b2i p1)] r 2 12 2 rfl (c11_stand (l := Θ.1.2.1) (person_a := p0) (is_a := p1) rfl hi hlt2 hf) w_6_97 w_6_94 w_6_95 w_6_96 w_1_1 ⟨rfl, rfl, (Nat.le_of_ble_eq_true rfl), (Nat.le_of_ble_eq_true rfl)⟩ (by decide +kernel) rfl rfl (Nat.le_of_ble_eq_true rfl) ⟨(Nat.le_of_ble_eq_true rfl), (Nat.le_of_ble_eq_true rfl)⟩ dL_stand_5 (fun v hv => ?_) (fun e he => ?_)
  · rw [wk_r hv, wo_r hv]
    refine g_bl (b := v) C dL_stand_8 dL_stand_11 dL_stand_12 dL_stand_15 ?_
    refine w_last C hw2 hAo hao dL_stand_16 ?_
    refine g_goto C 28 dL_stand_17 (by decide) ?_
    refine g_iconst (v := 0) C dL_stand_28 rfl ?_
    exact w_ret C ⟨(Nat.le_of_ble_eq_true rfl), (Nat.le_of_ble_eq_true rfl)⟩ dL_stand_29
  · have h9 : e = 2 ∨ e = 1 := by simpa using hx e he
    rcases h9 with rfl | rfl
    · rw [wk_l (k := 1) he (by decide +kernel), wo_l he]
      refine ⟨[], ⟨0, 17, 20, 24⟩, [⟨0, 17, 24, 45⟩], "java/lang/IndexOutOfBoundsException", htab, (fun z hz => nomatch hz), rfl, by decide, w_5_218, List.mem_of_getElem? (i := 21) rfl, fun q => ?_⟩
      refine g_astore C dL_stand_20 (Nat.le_of_ble_eq_true rfl) rfl ?_
      refine g_iconst (v := 1) C dL_stand_22 rfl ?_
      exact w_ret C ⟨(Nat.le_of_ble_eq_true rfl), (Nat.le_of_ble_eq_true rfl)⟩ dL_stand_23
    · rw [wk_l (k := 2) he (by decide +kernel), wo_l he]
      refine ⟨[⟨0, 17, 20, 24⟩], ⟨0, 17, 24, 45⟩, [], "java/lang/IllegalStateException", htab, (fun z hz => by (cases List.mem_singleton.mp hz); exact Or.inr ⟨by decide, "java/lang/IndexOutOfBoundsException", w_5_218, List.mem_of_getElem? (i := 5) rfl⟩), rfl, by decide, w_6_93, List.mem_of_getElem? (i := 24) rfl, fun q => ?_⟩
      refine g_astore C dL_stand_24 (Nat.le_of_ble_eq_true rfl) rfl ?_
      refine g_iconst (v := 2) C dL_stand_26 rfl ?_
      exact w_ret C ⟨(Nat.le_of_ble_eq_true rfl), (Nat.le_of_ble_eq_true rfl)⟩ dL_stand_27)
/-! wrapper like -/
theorem dL_like_0 : decode cL_like 0 = .ok (.aload 4, 2) := by decide +kernel
theorem dL_like_2 : decode cL_like 2 = .ok (.iconst 0, 1) := by decide +kernel
theorem dL_like_3 : decode cL_like 3 = .ok (.aload_n 0, 1) := by decide +kernel
theorem dL_like_4 : decode cL_like 4 = .ok (.iload_n 1, 1) := by decide +kernel
theorem dL_like_5 : decode cL_like 5 = .ok (.iload_n 2, 1) := by decide +kernel
theorem dL_like_6 : decode cL_like 6 = .ok (.iload_n 3, 1) := by decide +kernel
theorem w_6_119 : Cond.selects "LastLoaf" ({ cls := "LastLoaf", name := "like", desc := "(III)I" } : MethodName) ({ cls := "LastLoaf", name := "like", desc := "(III)I" } : MethodName) ∈ TB := tb_in (lwt_6 (List.mem_of_getElem? (i := 119) (by decide +kernel))) rfl
theorem w_6_120 : Cond.code ({ cls := "LastLoaf", name := "like", desc := "(III)I" } : MethodName) prog_1_method_13_code (5 : Nat) (Option.some ClassFile.FieldType.int) ∈ TB := tb_in (lwt_6 (List.mem_of_getElem? (i := 120) (by decide +kernel))) rfl
theorem w_6_117 : Cond.methodLink "LastLoafLaw" (47 : Nat) ({ cls := "LastLoaf", name := "like", desc := "(III)I" } : MethodName) ∈ TB := tb_in (lwt_6 (List.mem_of_getElem? (i := 117) (by decide +kernel))) rfl
theorem w_6_118 : Cond.instanceMethod ({ cls := "LastLoaf", name := "like", desc := "(III)I" } : MethodName) ∈ TB := tb_in (lwt_6 (List.mem_of_getElem? (i := 118) (by decide +kernel))) rfl
theorem dL_like_7 : decode cL_like 7 = .ok (.invokevirtual 47, 3) := by decide +kernel
theorem dL_like_10 : decode cL_like 10 = .ok (.i2l, 1) := by decide +kernel
theorem dL_like_11 : decode cL_like 11 = .ok (.lastore, 1) := by decide +kernel
theorem dL_like_12 : decode cL_like 12 = .ok (.goto 11, 3) := by decide +kernel
theorem dL_like_23 : decode cL_like 23 = .ok (.iconst 0, 1) := by decide +kernel
theorem dL_like_24 : decode cL_like 24 = .ok (.ireturn, 1) := by decide +kernel
theorem dL_like_15 : decode cL_like 15 = .ok (.astore 5, 2) := by decide +kernel
theorem dL_like_17 : decode cL_like 17 = .ok (.iconst 1, 1) := by decide +kernel
theorem dL_like_18 : decode cL_like 18 = .ok (.ireturn, 1) := by decide +kernel
theorem dL_like_19 : decode cL_like 19 = .ok (.astore 5, 2) := by decide +kernel
theorem dL_like_21 : decode cL_like 21 = .ok (.iconst 2, 1) := by decide +kernel
theorem dL_like_22 : decode cL_like 22 = .ok (.ireturn, 1) := by decide +kernel
abbrev rmW_like : Room := { frames := rm11_like.frames + 1, cells := 4, slots := 24, locals := 8 + (5 + 11) + rm11_like.locals }
set_option maxHeartbeats 4000000 in
set_option maxRecDepth 100000 in
theorem wr_like {l : Launch} {w : Wp} {ao : Nat} {cJ : ClassId} {σ : St} {o : Int64} {p0 : Int32} {p1 : Int32} {p2 : Int32} (hi : zI kdC w) (hlt : l.stackTraces = false) (hao : ∀ i, i < kdC.length → w.2.2.1 i ≠ ao) {r : Sum Nat Int32 × St} (hf : q11_like σ p0 p1 p2 = some r) (hx : ∀ e, r.1 = .inl e → e ∈ ([2, 0] : List Nat)) : wM l w ao cJ yL_like cL_like 6 [(0, 12, 15, 24), (0, 12, 19, 13)] rmW_like [.ref (w.2.2.1 0), .int p0, .int p1, .int p2, .ref ao] σ o (wk [2, 0] r) r.2 (wo (fun v => v) r o) := wM_of rfl (Nat.le_of_ble_eq_true rfl) (fun Θ hl hw C hA hAo htab => by
  have hlt2 : Θ.1.2.1.stackTraces = false := by rw [hl]; exact hlt
  have hw2 : Θ.2.2.2.2.2 = w := by rw [hw]
  have hkd : Θ.2.2.2.2.1 = kdC := by rw [hw]
  refine g_aload C 4 dL_like_0 rfl ?_
  refine g_iconst (v := 0) C dL_like_2 rfl ?_
  refine g_aload_n C 0 dL_like_3 rfl rfl ?_
  refine g_iload_n C 1 dL_like_4 rfl rfl ?_
  refine g_iload_n C 2 dL_like_5 rfl rfl ?_
  refine g_iload_n C 3 dL_like_6 rfl rfl ?_
  refine w_call C hw2 hkd hA hao (fun v => v) [.int p0, .int p1, .int p2] r 4 24 3 rfl (c11_like (l := Θ.1.2.1) (person_a := p0) (other_a := p1) (n_a := p2) rfl hi hlt2 hf) w_6_120 w_6_117 w_6_118 w_6_119 w_1_1 ⟨rfl, rfl, (Nat.le_of_ble_eq_true rfl), (Nat.le_of_ble_eq_true rfl)⟩ (by decide +kernel) rfl rfl (Nat.le_of_ble_eq_true rfl) ⟨(Nat.le_of_ble_eq_true rfl), (Nat.le_of_ble_eq_true rfl)⟩ dL_like_7 (fun v hv => ?_) (fun e he => ?_)
  · rw [wk_r hv, wo_r hv]
    refine g_i2l C dL_like_10 ?_
    refine w_last C hw2 hAo hao dL_like_11 ?_
    refine g_goto C 23 dL_like_12 (by decide) ?_
    refine g_iconst (v := 0) C dL_like_23 rfl ?_
    exact w_ret C ⟨(Nat.le_of_ble_eq_true rfl), (Nat.le_of_ble_eq_true rfl)⟩ dL_like_24
  · have h9 : e = 2 ∨ e = 0 := by simpa using hx e he
    rcases h9 with rfl | rfl
    · rw [wk_l (k := 1) he (by decide +kernel), wo_l he]
      refine ⟨[], ⟨0, 12, 15, 24⟩, [⟨0, 12, 19, 13⟩], "java/lang/IndexOutOfBoundsException", htab, (fun z hz => nomatch hz), rfl, by decide, w_5_218, List.mem_of_getElem? (i := 21) rfl, fun q => ?_⟩
      refine g_astore C dL_like_15 (Nat.le_of_ble_eq_true rfl) rfl ?_
      refine g_iconst (v := 1) C dL_like_17 rfl ?_
      exact w_ret C ⟨(Nat.le_of_ble_eq_true rfl), (Nat.le_of_ble_eq_true rfl)⟩ dL_like_18
    · rw [wk_l (k := 2) he (by decide +kernel), wo_l he]
      refine ⟨[⟨0, 12, 15, 24⟩], ⟨0, 12, 19, 13⟩, [], "java/lang/IllegalArgumentException", htab, (fun z hz => by (cases List.mem_singleton.mp hz); exact Or.inr ⟨by decide, "java/lang/IndexOutOfBoundsException", w_5_218, List.mem_of_getElem? (i := 1) rfl⟩), rfl, by decide, w_4_161, List.mem_of_getElem? (i := 13) rfl, fun q => ?_⟩
      refine g_astore C dL_like_19 (Nat.le_of_ble_eq_true rfl) rfl ?_
      refine g_iconst (v := 2) C dL_like_21 rfl ?_
      exact w_ret C ⟨(Nat.le_of_ble_eq_true rfl), (Nat.le_of_ble_eq_true rfl)⟩ dL_like_22)
/-! wrapper join -/
theorem dL_join_0 : decode cL_join 0 = .ok (.aload_n 3, 1) := by decide +kernel
theorem dL_join_1 : decode cL_join 1 = .ok (.iconst 0, 1) := by decide +kernel
theorem dL_join_2 : decode cL_join 2 = .ok (.aload_n 0, 1) := by decide +kernel
theorem dL_join_3 : decode cL_join 3 = .ok (.iload_n 1, 1) := by decide +kernel
theorem dL_join_4 : decode cL_join 4 = .ok (.iload_n 2, 1) := by decide +kernel
theorem w_6_126 : Cond.selects "LastLoaf" ({ cls := "LastLoaf", name := "join", desc := "(II)I" } : MethodName) ({ cls := "LastLoaf", name := "join", desc := "(II)I" } : MethodName) ∈ TB := tb_in (lwt_6 (List.mem_of_getElem? (i := 126) (by decide +kernel))) rfl
theorem w_6_127 : Cond.code ({ cls := "LastLoaf", name := "join", desc := "(II)I" } : MethodName) prog_1_method_14_code (4 : Nat) (Option.some ClassFile.FieldType.int) ∈ TB := tb_in (lwt_6 (List.mem_of_getElem? (i := 127) (by decide +kernel))) rfl
theorem w_6_124 : Cond.methodLink "LastLoafLaw" (51 : Nat) ({ cls := "LastLoaf", name := "join", desc := "(II)I" } : MethodName) ∈ TB := tb_in (lwt_6 (List.mem_of_getElem? (i := 124) (by decide +kernel))) rfl
theorem w_6_125 : Cond.instanceMethod ({ cls := "LastLoaf", name := "join", desc := "(II)I" } : MethodName) ∈ TB := tb_in (lwt_6 (List.mem_of_getElem? (i := 125) (by decide +kernel))) rfl
theorem dL_join_5 : decode cL_join 5 = .ok (.invokevirtual 51, 3) := by decide +kernel
theorem dL_join_8 : decode cL_join 8 = .ok (.i2l, 1) := by decide +kernel
theorem dL_join_9 : decode cL_join 9 = .ok (.lastore, 1) := by decide +kernel
theorem dL_join_10 : decode cL_join 10 = .ok (.goto 7, 3) := by decide +kernel
theorem dL_join_17 : decode cL_join 17 = .ok (.iconst 0, 1) := by decide +kernel
theorem dL_join_18 : decode cL_join 18 = .ok (.ireturn, 1) := by decide +kernel
theorem dL_join_13 : decode cL_join 13 = .ok (.astore 4, 2) := by decide +kernel
theorem dL_join_15 : decode cL_join 15 = .ok (.iconst 1, 1) := by decide +kernel
theorem dL_join_16 : decode cL_join 16 = .ok (.ireturn, 1) := by decide +kernel
abbrev rmW_join : Room := { frames := rm11_join.frames + 1, cells := 4, slots := 24, locals := 8 + (4 + 11) + rm11_join.locals }
set_option maxHeartbeats 4000000 in
set_option maxRecDepth 100000 in
theorem wr_join {l : Launch} {w : Wp} {ao : Nat} {cJ : ClassId} {σ : St} {o : Int64} {p0 : Int32} {p1 : Int32} (hi : zI kdC w) (hlt : l.stackTraces = false) (hao : ∀ i, i < kdC.length → w.2.2.1 i ≠ ao) {r : Sum Nat Int32 × St} (hf : q11_join σ p0 p1 = some r) (hx : ∀ e, r.1 = .inl e → e ∈ ([2] : List Nat)) : wM l w ao cJ yL_join cL_join 5 [(0, 10, 13, 24)] rmW_join [.ref (w.2.2.1 0), .int p0, .int p1, .ref ao] σ o (wk [2] r) r.2 (wo (fun v => v) r o) := wM_of rfl (Nat.le_of_ble_eq_true rfl) (fun Θ hl hw C hA hAo htab => by
  have hlt2 : Θ.1.2.1.stackTraces = false := by rw [hl]; exact hlt
  have hw2 : Θ.2.2.2.2.2 = w := by rw [hw]
  have hkd : Θ.2.2.2.2.1 = kdC := by rw [hw]
  refine g_aload_n C 3 dL_join_0 rfl rfl ?_
  refine g_iconst (v := 0) C dL_join_1 rfl ?_
  refine g_aload_n C 0 dL_join_2 rfl rfl ?_
  refine g_iload_n C 1 dL_join_3 rfl rfl ?_
  refine g_iload_n C 2 dL_join_4 rfl rfl ?_
  refine w_call C hw2 hkd hA hao (fun v => v) [.int p0, .int p1] r 2 12 2 rfl (c11_join (l := Θ.1.2.1) (person_a := p0) (party_a := p1) rfl hi hlt2 hf) w_6_127 w_6_124 w_6_125 w_6_126 w_1_1 ⟨rfl, rfl, (Nat.le_of_ble_eq_true rfl), (Nat.le_of_ble_eq_true rfl)⟩ (by decide +kernel) rfl rfl (Nat.le_of_ble_eq_true rfl) ⟨(Nat.le_of_ble_eq_true rfl), (Nat.le_of_ble_eq_true rfl)⟩ dL_join_5 (fun v hv => ?_) (fun e he => ?_)
  · rw [wk_r hv, wo_r hv]
    refine g_i2l C dL_join_8 ?_
    refine w_last C hw2 hAo hao dL_join_9 ?_
    refine g_goto C 17 dL_join_10 (by decide) ?_
    refine g_iconst (v := 0) C dL_join_17 rfl ?_
    exact w_ret C ⟨(Nat.le_of_ble_eq_true rfl), (Nat.le_of_ble_eq_true rfl)⟩ dL_join_18
  · have h9 : e = 2 := by simpa using hx e he
    subst h9
    rw [wk_l (k := 1) he (by decide +kernel), wo_l he]
    refine ⟨[], ⟨0, 10, 13, 24⟩, [], "java/lang/IndexOutOfBoundsException", htab, (fun z hz => nomatch hz), rfl, by decide, w_5_218, List.mem_of_getElem? (i := 21) rfl, fun q => ?_⟩
    refine g_astore C dL_join_13 (Nat.le_of_ble_eq_true rfl) rfl ?_
    refine g_iconst (v := 1) C dL_join_15 rfl ?_
    exact w_ret C ⟨(Nat.le_of_ble_eq_true rfl), (Nat.le_of_ble_eq_true rfl)⟩ dL_join_16)
/-! wrapper bring -/
theorem dL_bring_0 : decode cL_bring 0 = .ok (.aload_n 2, 1) := by decide +kernel
theorem dL_bring_1 : decode cL_bring 1 = .ok (.iconst 0, 1) := by decide +kernel
theorem dL_bring_2 : decode cL_bring 2 = .ok (.aload_n 0, 1) := by decide +kernel
theorem dL_bring_3 : decode cL_bring 3 = .ok (.iload_n 1, 1) := by decide +kernel
theorem w_6_137 : Cond.selects "LastLoaf" ({ cls := "LastLoaf", name := "bring", desc := "(I)I" } : MethodName) ({ cls := "LastLoaf", name := "bring", desc := "(I)I" } : MethodName) ∈ TB := tb_in (lwt_6 (List.mem_of_getElem? (i := 137) (by decide +kernel))) rfl
theorem w_6_138 : Cond.code ({ cls := "LastLoaf", name := "bring", desc := "(I)I" } : MethodName) prog_1_method_15_code (2 : Nat) (Option.some ClassFile.FieldType.int) ∈ TB := tb_in (lwt_6 (List.mem_of_getElem? (i := 138) (by decide +kernel))) rfl
theorem w_6_135 : Cond.methodLink "LastLoafLaw" (54 : Nat) ({ cls := "LastLoaf", name := "bring", desc := "(I)I" } : MethodName) ∈ TB := tb_in (lwt_6 (List.mem_of_getElem? (i := 135) (by decide +kernel))) rfl
theorem w_6_136 : Cond.instanceMethod ({ cls := "LastLoaf", name := "bring", desc := "(I)I" } : MethodName) ∈ TB := tb_in (lwt_6 (List.mem_of_getElem? (i := 136) (by decide +kernel))) rfl
theorem dL_bring_4 : decode cL_bring 4 = .ok (.invokevirtual 54, 3) := by decide +kernel
theorem dL_bring_7 : decode cL_bring 7 = .ok (.i2l, 1) := by decide +kernel
theorem dL_bring_8 : decode cL_bring 8 = .ok (.lastore, 1) := by decide +kernel
theorem dL_bring_9 : decode cL_bring 9 = .ok (.goto 6, 3) := by decide +kernel
theorem dL_bring_15 : decode cL_bring 15 = .ok (.iconst 0, 1) := by decide +kernel
theorem dL_bring_16 : decode cL_bring 16 = .ok (.ireturn, 1) := by decide +kernel
theorem dL_bring_12 : decode cL_bring 12 = .ok (.astore_n 3, 1) := by decide +kernel
theorem dL_bring_13 : decode cL_bring 13 = .ok (.iconst 1, 1) := by decide +kernel
theorem dL_bring_14 : decode cL_bring 14 = .ok (.ireturn, 1) := by decide +kernel
abbrev rmW_bring : Room := { frames := rm11_bring.frames + 1, cells := 4, slots := 24, locals := 8 + (2 + 11) + rm11_bring.locals }
set_option maxHeartbeats 4000000 in
set_option maxRecDepth 100000 in
theorem wr_bring {l : Launch} {w : Wp} {ao : Nat} {cJ : ClassId} {σ : St} {o : Int64} {p0 : Int32} (hi : zI kdC w) (hlt : l.stackTraces = false) (hao : ∀ i, i < kdC.length → w.2.2.1 i ≠ ao) {r : Sum Nat Int32 × St} (hf : q11_bring σ p0 = some r) (hx : ∀ e, r.1 = .inl e → e ∈ ([0] : List Nat)) : wM l w ao cJ yL_bring cL_bring 4 [(0, 9, 12, 13)] rmW_bring [.ref (w.2.2.1 0), .int p0, .ref ao] σ o (wk [0] r) r.2 (wo (fun v => v) r o) := wM_of rfl (Nat.le_of_ble_eq_true rfl) (fun Θ hl hw C hA hAo htab => by
  have hlt2 : Θ.1.2.1.stackTraces = false := by rw [hl]; exact hlt
  have hw2 : Θ.2.2.2.2.2 = w := by rw [hw]
  have hkd : Θ.2.2.2.2.1 = kdC := by rw [hw]
  refine g_aload_n C 2 dL_bring_0 rfl rfl ?_
  refine g_iconst (v := 0) C dL_bring_1 rfl ?_
  refine g_aload_n C 0 dL_bring_2 rfl rfl ?_
  refine g_iload_n C 1 dL_bring_3 rfl rfl ?_
  refine w_call C hw2 hkd hA hao (fun v => v) [.int p0] r 1 6 1 rfl (c11_bring (l := Θ.1.2.1) (n_a := p0) rfl hi hlt2 hf) w_6_138 w_6_135 w_6_136 w_6_137 w_1_1 ⟨rfl, rfl, (Nat.le_of_ble_eq_true rfl), (Nat.le_of_ble_eq_true rfl)⟩ (by decide +kernel) rfl rfl (Nat.le_of_ble_eq_true rfl) ⟨(Nat.le_of_ble_eq_true rfl), (Nat.le_of_ble_eq_true rfl)⟩ dL_bring_4 (fun v hv => ?_) (fun e he => ?_)
  · rw [wk_r hv, wo_r hv]
    refine g_i2l C dL_bring_7 ?_
    refine w_last C hw2 hAo hao dL_bring_8 ?_
    refine g_goto C 15 dL_bring_9 (by decide) ?_
    refine g_iconst (v := 0) C dL_bring_15 rfl ?_
    exact w_ret C ⟨(Nat.le_of_ble_eq_true rfl), (Nat.le_of_ble_eq_true rfl)⟩ dL_bring_16
  · have h9 : e = 0 := by simpa using hx e he
    subst h9
    rw [wk_l (k := 1) he (by decide +kernel), wo_l he]
    refine ⟨[], ⟨0, 9, 12, 13⟩, [], "java/lang/IllegalArgumentException", htab, (fun z hz => nomatch hz), rfl, by decide, w_4_161, List.mem_of_getElem? (i := 13) rfl, fun q => ?_⟩
    refine g_astore_n C dL_bring_12 rfl (Nat.le_of_ble_eq_true rfl) rfl ?_
    refine g_iconst (v := 1) C dL_bring_13 rfl ?_
    exact w_ret C ⟨(Nat.le_of_ble_eq_true rfl), (Nat.le_of_ble_eq_true rfl)⟩ dL_bring_14)
/-! wrapper way -/
theorem dL_way_0 : decode cL_way 0 = .ok (.aload_n 2, 1) := by decide +kernel
theorem dL_way_1 : decode cL_way 1 = .ok (.iconst 0, 1) := by decide +kernel
theorem dL_way_2 : decode cL_way 2 = .ok (.aload_n 0, 1) := by decide +kernel
theorem dL_way_3 : decode cL_way 3 = .ok (.iload_n 1, 1) := by decide +kernel
theorem w_6_145 : Cond.selects "LastLoaf" ({ cls := "LastLoaf", name := "way", desc := "(I)I" } : MethodName) ({ cls := "LastLoaf", name := "way", desc := "(I)I" } : MethodName) ∈ TB := tb_in (lwt_6 (List.mem_of_getElem? (i := 145) (by decide +kernel))) rfl
theorem w_6_146 : Cond.code ({ cls := "LastLoaf", name := "way", desc := "(I)I" } : MethodName) prog_1_method_16_code (3 : Nat) (Option.some ClassFile.FieldType.int) ∈ TB := tb_in (lwt_6 (List.mem_of_getElem? (i := 146) (by decide +kernel))) rfl
theorem w_6_143 : Cond.methodLink "LastLoafLaw" (57 : Nat) ({ cls := "LastLoaf", name := "way", desc := "(I)I" } : MethodName) ∈ TB := tb_in (lwt_6 (List.mem_of_getElem? (i := 143) (by decide +kernel))) rfl
theorem w_6_144 : Cond.instanceMethod ({ cls := "LastLoaf", name := "way", desc := "(I)I" } : MethodName) ∈ TB := tb_in (lwt_6 (List.mem_of_getElem? (i := 144) (by decide +kernel))) rfl
theorem dL_way_4 : decode cL_way 4 = .ok (.invokevirtual 57, 3) := by decide +kernel
theorem dL_way_7 : decode cL_way 7 = .ok (.i2l, 1) := by decide +kernel
theorem dL_way_8 : decode cL_way 8 = .ok (.lastore, 1) := by decide +kernel
theorem dL_way_9 : decode cL_way 9 = .ok (.goto 6, 3) := by decide +kernel
theorem dL_way_15 : decode cL_way 15 = .ok (.iconst 0, 1) := by decide +kernel
theorem dL_way_16 : decode cL_way 16 = .ok (.ireturn, 1) := by decide +kernel
theorem dL_way_12 : decode cL_way 12 = .ok (.astore_n 3, 1) := by decide +kernel
theorem dL_way_13 : decode cL_way 13 = .ok (.iconst 1, 1) := by decide +kernel
theorem dL_way_14 : decode cL_way 14 = .ok (.ireturn, 1) := by decide +kernel
abbrev rmW_way : Room := { frames := rm11_way.frames + 1, cells := 4, slots := 24, locals := 8 + (3 + 11) + rm11_way.locals }
set_option maxHeartbeats 4000000 in
set_option maxRecDepth 100000 in
theorem wr_way {l : Launch} {w : Wp} {ao : Nat} {cJ : ClassId} {σ : St} {o : Int64} {p0 : Int32} (hi : zI kdC w) (hlt : l.stackTraces = false) (hao : ∀ i, i < kdC.length → w.2.2.1 i ≠ ao) {r : Sum Nat Int32 × St} (hf : q11_way σ p0 = some r) (hx : ∀ e, r.1 = .inl e → e ∈ ([0] : List Nat)) : wM l w ao cJ yL_way cL_way 4 [(0, 9, 12, 13)] rmW_way [.ref (w.2.2.1 0), .int p0, .ref ao] σ o (wk [0] r) r.2 (wo (fun v => v) r o) := wM_of rfl (Nat.le_of_ble_eq_true rfl) (fun Θ hl hw C hA hAo htab => by
  have hlt2 : Θ.1.2.1.stackTraces = false := by rw [hl]; exact hlt
  have hw2 : Θ.2.2.2.2.2 = w := by rw [hw]
  have hkd : Θ.2.2.2.2.1 = kdC := by rw [hw]
  refine g_aload_n C 2 dL_way_0 rfl rfl ?_
  refine g_iconst (v := 0) C dL_way_1 rfl ?_
  refine g_aload_n C 0 dL_way_2 rfl rfl ?_
  refine g_iload_n C 1 dL_way_3 rfl rfl ?_
  refine w_call C hw2 hkd hA hao (fun v => v) [.int p0] r 1 6 1 rfl (c11_way (l := Θ.1.2.1) (n_a := p0) rfl hi hlt2 hf) w_6_146 w_6_143 w_6_144 w_6_145 w_1_1 ⟨rfl, rfl, (Nat.le_of_ble_eq_true rfl), (Nat.le_of_ble_eq_true rfl)⟩ (by decide +kernel) rfl rfl (Nat.le_of_ble_eq_true rfl) ⟨(Nat.le_of_ble_eq_true rfl), (Nat.le_of_ble_eq_true rfl)⟩ dL_way_4 (fun v hv => ?_) (fun e he => ?_)
  · rw [wk_r hv, wo_r hv]
    refine g_i2l C dL_way_7 ?_
    refine w_last C hw2 hAo hao dL_way_8 ?_
    refine g_goto C 15 dL_way_9 (by decide) ?_
    refine g_iconst (v := 0) C dL_way_15 rfl ?_
    exact w_ret C ⟨(Nat.le_of_ble_eq_true rfl), (Nat.le_of_ble_eq_true rfl)⟩ dL_way_16
  · have h9 : e = 0 := by simpa using hx e he
    subst h9
    rw [wk_l (k := 1) he (by decide +kernel), wo_l he]
    refine ⟨[], ⟨0, 9, 12, 13⟩, [], "java/lang/IllegalArgumentException", htab, (fun z hz => nomatch hz), rfl, by decide, w_4_161, List.mem_of_getElem? (i := 13) rfl, fun q => ?_⟩
    refine g_astore_n C dL_way_12 rfl (Nat.le_of_ble_eq_true rfl) rfl ?_
    refine g_iconst (v := 1) C dL_way_13 rfl ?_
    exact w_ret C ⟨(Nat.le_of_ble_eq_true rfl), (Nat.le_of_ble_eq_true rfl)⟩ dL_way_14)
/-! wrapper pass -/
theorem dL_pass_0 : decode cL_pass 0 = .ok (.aload_n 3, 1) := by decide +kernel
theorem dL_pass_1 : decode cL_pass 1 = .ok (.iconst 0, 1) := by decide +kernel
theorem dL_pass_2 : decode cL_pass 2 = .ok (.aload_n 0, 1) := by decide +kernel
theorem dL_pass_3 : decode cL_pass 3 = .ok (.iload_n 1, 1) := by decide +kernel
theorem dL_pass_4 : decode cL_pass 4 = .ok (.iload_n 2, 1) := by decide +kernel
theorem w_6_152 : Cond.selects "LastLoaf" ({ cls := "LastLoaf", name := "pass", desc := "(II)I" } : MethodName) ({ cls := "LastLoaf", name := "pass", desc := "(II)I" } : MethodName) ∈ TB := tb_in (lwt_6 (List.mem_of_getElem? (i := 152) (by decide +kernel))) rfl
theorem w_6_153 : Cond.code ({ cls := "LastLoaf", name := "pass", desc := "(II)I" } : MethodName) prog_1_method_17_code (3 : Nat) (Option.some ClassFile.FieldType.int) ∈ TB := tb_in (lwt_6 (List.mem_of_getElem? (i := 153) (by decide +kernel))) rfl
theorem w_6_150 : Cond.methodLink "LastLoafLaw" (60 : Nat) ({ cls := "LastLoaf", name := "pass", desc := "(II)I" } : MethodName) ∈ TB := tb_in (lwt_6 (List.mem_of_getElem? (i := 150) (by decide +kernel))) rfl
theorem w_6_151 : Cond.instanceMethod ({ cls := "LastLoaf", name := "pass", desc := "(II)I" } : MethodName) ∈ TB := tb_in (lwt_6 (List.mem_of_getElem? (i := 151) (by decide +kernel))) rfl
theorem dL_pass_5 : decode cL_pass 5 = .ok (.invokevirtual 60, 3) := by decide +kernel
theorem dL_pass_8 : decode cL_pass 8 = .ok (.i2l, 1) := by decide +kernel
theorem dL_pass_9 : decode cL_pass 9 = .ok (.lastore, 1) := by decide +kernel
theorem dL_pass_10 : decode cL_pass 10 = .ok (.goto 15, 3) := by decide +kernel
theorem dL_pass_25 : decode cL_pass 25 = .ok (.iconst 0, 1) := by decide +kernel
theorem dL_pass_26 : decode cL_pass 26 = .ok (.ireturn, 1) := by decide +kernel
theorem dL_pass_13 : decode cL_pass 13 = .ok (.astore 4, 2) := by decide +kernel
theorem dL_pass_15 : decode cL_pass 15 = .ok (.iconst 1, 1) := by decide +kernel
theorem dL_pass_16 : decode cL_pass 16 = .ok (.ireturn, 1) := by decide +kernel
theorem dL_pass_17 : decode cL_pass 17 = .ok (.astore 4, 2) := by decide +kernel
theorem dL_pass_19 : decode cL_pass 19 = .ok (.iconst 2, 1) := by decide +kernel
theorem dL_pass_20 : decode cL_pass 20 = .ok (.ireturn, 1) := by decide +kernel
theorem dL_pass_21 : decode cL_pass 21 = .ok (.astore 4, 2) := by decide +kernel
theorem dL_pass_23 : decode cL_pass 23 = .ok (.iconst 3, 1) := by decide +kernel
theorem dL_pass_24 : decode cL_pass 24 = .ok (.ireturn, 1) := by decide +kernel
abbrev rmW_pass : Room := { frames := rm11_pass.frames + 1, cells := 4, slots := 24, locals := 8 + (3 + 11) + rm11_pass.locals }
set_option maxHeartbeats 4000000 in
set_option maxRecDepth 100000 in
theorem wr_pass {l : Launch} {w : Wp} {ao : Nat} {cJ : ClassId} {σ : St} {o : Int64} {p0 : Int32} {p1 : Int32} (hi : zI kdC w) (hlt : l.stackTraces = false) (hao : ∀ i, i < kdC.length → w.2.2.1 i ≠ ao) {r : Sum Nat Int32 × St} (hf : q11_pass σ p0 p1 = some r) (hx : ∀ e, r.1 = .inl e → e ∈ ([2, 0, 1] : List Nat)) : wM l w ao cJ yL_pass cL_pass 5 [(0, 10, 13, 24), (0, 10, 17, 13), (0, 10, 21, 45)] rmW_pass [.ref (w.2.2.1 0), .int p0, .int p1, .ref ao] σ o (wk [2, 0, 1] r) r.2 (wo (fun v => v) r o) := wM_of rfl (Nat.le_of_ble_eq_true rfl) (fun Θ hl hw C hA hAo htab => by
  have hlt2 : Θ.1.2.1.stackTraces = false := by rw [hl]; exact hlt
  have hw2 : Θ.2.2.2.2.2 = w := by rw [hw]
  have hkd : Θ.2.2.2.2.1 = kdC := by rw [hw]
  refine g_aload_n C 3 dL_pass_0 rfl rfl ?_
  refine g_iconst (v := 0) C dL_pass_1 rfl ?_
  refine g_aload_n C 0 dL_pass_2 rfl rfl ?_
  refine g_iload_n C 1 dL_pass_3 rfl rfl ?_
  refine g_iload_n C 2 dL_pass_4 rfl rfl ?_
  refine w_call C hw2 hkd hA hao (fun v => v) [.int p0, .int p1] r 4 24 2 rfl (c11_pass (l := Θ.1.2.1) (person_a := p0) (other_a := p1) rfl hi hlt2 hf) w_6_153 w_6_150 w_6_151 w_6_152 w_1_1 ⟨rfl, rfl, (Nat.le_of_ble_eq_true rfl), (Nat.le_of_ble_eq_true rfl)⟩ (by decide +kernel) rfl rfl (Nat.le_of_ble_eq_true rfl) ⟨(Nat.le_of_ble_eq_true rfl), (Nat.le_of_ble_eq_true rfl)⟩ dL_pass_5 (fun v hv => ?_) (fun e he => ?_)
  · rw [wk_r hv, wo_r hv]
    refine g_i2l C dL_pass_8 ?_
    refine w_last C hw2 hAo hao dL_pass_9 ?_
    refine g_goto C 25 dL_pass_10 (by decide) ?_
    refine g_iconst (v := 0) C dL_pass_25 rfl ?_
    exact w_ret C ⟨(Nat.le_of_ble_eq_true rfl), (Nat.le_of_ble_eq_true rfl)⟩ dL_pass_26
  · have h9 : e = 2 ∨ e = 0 ∨ e = 1 := by simpa using hx e he
    rcases h9 with rfl | rfl | rfl
    · rw [wk_l (k := 1) he (by decide +kernel), wo_l he]
      refine ⟨[], ⟨0, 10, 13, 24⟩, [⟨0, 10, 17, 13⟩, ⟨0, 10, 21, 45⟩], "java/lang/IndexOutOfBoundsException", htab, (fun z hz => nomatch hz), rfl, by decide, w_5_218, List.mem_of_getElem? (i := 21) rfl, fun q => ?_⟩
      refine g_astore C dL_pass_13 (Nat.le_of_ble_eq_true rfl) rfl ?_
      refine g_iconst (v := 1) C dL_pass_15 rfl ?_
      exact w_ret C ⟨(Nat.le_of_ble_eq_true rfl), (Nat.le_of_ble_eq_true rfl)⟩ dL_pass_16
    · rw [wk_l (k := 2) he (by decide +kernel), wo_l he]
      refine ⟨[⟨0, 10, 13, 24⟩], ⟨0, 10, 17, 13⟩, [⟨0, 10, 21, 45⟩], "java/lang/IllegalArgumentException", htab, (fun z hz => by (cases List.mem_singleton.mp hz); exact Or.inr ⟨by decide, "java/lang/IndexOutOfBoundsException", w_5_218, List.mem_of_getElem? (i := 1) rfl⟩), rfl, by decide, w_4_161, List.mem_of_getElem? (i := 13) rfl, fun q => ?_⟩
      refine g_astore C dL_pass_17 (Nat.le_of_ble_eq_true rfl) rfl ?_
      refine g_iconst (v := 2) C dL_pass_19 rfl ?_
      exact w_ret C ⟨(Nat.le_of_ble_eq_true rfl), (Nat.le_of_ble_eq_true rfl)⟩ dL_pass_20
    · rw [wk_l (k := 3) he (by decide +kernel), wo_l he]
      refine ⟨[⟨0, 10, 13, 24⟩, ⟨0, 10, 17, 13⟩], ⟨0, 10, 21, 45⟩, [], "java/lang/IllegalStateException", htab, (fun z hz => by (simp only [List.mem_cons, List.not_mem_nil, or_false] at hz); rcases hz with rfl | rfl <;> first | exact Or.inr ⟨by decide, "java/lang/IndexOutOfBoundsException", w_5_218, List.mem_of_getElem? (i := 5) rfl⟩ | exact Or.inr ⟨by decide, "java/lang/IllegalArgumentException", w_4_161, List.mem_of_getElem? (i := 4) rfl⟩), rfl, by decide, w_6_93, List.mem_of_getElem? (i := 24) rfl, fun q => ?_⟩
      refine g_astore C dL_pass_21 (Nat.le_of_ble_eq_true rfl) rfl ?_
      refine g_iconst (v := 3) C dL_pass_23 rfl ?_
      exact w_ret C ⟨(Nat.le_of_ble_eq_true rfl), (Nat.le_of_ble_eq_true rfl)⟩ dL_pass_24)
/-! wrapper fetch -/
theorem dL_fetch_0 : decode cL_fetch 0 = .ok (.aload_n 2, 1) := by decide +kernel
theorem dL_fetch_1 : decode cL_fetch 1 = .ok (.iconst 0, 1) := by decide +kernel
theorem dL_fetch_2 : decode cL_fetch 2 = .ok (.aload_n 0, 1) := by decide +kernel
theorem dL_fetch_3 : decode cL_fetch 3 = .ok (.iload_n 1, 1) := by decide +kernel
theorem w_6_161 : Cond.selects "LastLoaf" ({ cls := "LastLoaf", name := "fetch", desc := "(I)I" } : MethodName) ({ cls := "LastLoaf", name := "fetch", desc := "(I)I" } : MethodName) ∈ TB := tb_in (lwt_6 (List.mem_of_getElem? (i := 161) (by decide +kernel))) rfl
theorem w_6_162 : Cond.code ({ cls := "LastLoaf", name := "fetch", desc := "(I)I" } : MethodName) prog_1_method_18_code (2 : Nat) (Option.some ClassFile.FieldType.int) ∈ TB := tb_in (lwt_6 (List.mem_of_getElem? (i := 162) (by decide +kernel))) rfl
theorem w_6_159 : Cond.methodLink "LastLoafLaw" (63 : Nat) ({ cls := "LastLoaf", name := "fetch", desc := "(I)I" } : MethodName) ∈ TB := tb_in (lwt_6 (List.mem_of_getElem? (i := 159) (by decide +kernel))) rfl
theorem w_6_160 : Cond.instanceMethod ({ cls := "LastLoaf", name := "fetch", desc := "(I)I" } : MethodName) ∈ TB := tb_in (lwt_6 (List.mem_of_getElem? (i := 160) (by decide +kernel))) rfl
theorem dL_fetch_4 : decode cL_fetch 4 = .ok (.invokevirtual 63, 3) := by decide +kernel
theorem dL_fetch_7 : decode cL_fetch 7 = .ok (.i2l, 1) := by decide +kernel
theorem dL_fetch_8 : decode cL_fetch 8 = .ok (.lastore, 1) := by decide +kernel
theorem dL_fetch_9 : decode cL_fetch 9 = .ok (.goto 9, 3) := by decide +kernel
theorem dL_fetch_18 : decode cL_fetch 18 = .ok (.iconst 0, 1) := by decide +kernel
theorem dL_fetch_19 : decode cL_fetch 19 = .ok (.ireturn, 1) := by decide +kernel
theorem dL_fetch_12 : decode cL_fetch 12 = .ok (.astore_n 3, 1) := by decide +kernel
theorem dL_fetch_13 : decode cL_fetch 13 = .ok (.iconst 1, 1) := by decide +kernel
theorem dL_fetch_14 : decode cL_fetch 14 = .ok (.ireturn, 1) := by decide +kernel
theorem dL_fetch_15 : decode cL_fetch 15 = .ok (.astore_n 3, 1) := by decide +kernel
theorem dL_fetch_16 : decode cL_fetch 16 = .ok (.iconst 2, 1) := by decide +kernel
theorem dL_fetch_17 : decode cL_fetch 17 = .ok (.ireturn, 1) := by decide +kernel
abbrev rmW_fetch : Room := { frames := rm11_fetch.frames + 1, cells := 4, slots := 24, locals := 8 + (2 + 11) + rm11_fetch.locals }
set_option maxHeartbeats 4000000 in
set_option maxRecDepth 100000 in
theorem wr_fetch {l : Launch} {w : Wp} {ao : Nat} {cJ : ClassId} {σ : St} {o : Int64} {p0 : Int32} (hi : zI kdC w) (hlt : l.stackTraces = false) (hao : ∀ i, i < kdC.length → w.2.2.1 i ≠ ao) {r : Sum Nat Int32 × St} (hf : q11_fetch σ p0 = some r) (hx : ∀ e, r.1 = .inl e → e ∈ ([2, 1] : List Nat)) : wM l w ao cJ yL_fetch cL_fetch 4 [(0, 9, 12, 24), (0, 9, 15, 45)] rmW_fetch [.ref (w.2.2.1 0), .int p0, .ref ao] σ o (wk [2, 1] r) r.2 (wo (fun v => v) r o) := wM_of rfl (Nat.le_of_ble_eq_true rfl) (fun Θ hl hw C hA hAo htab => by
  have hlt2 : Θ.1.2.1.stackTraces = false := by rw [hl]; exact hlt
  have hw2 : Θ.2.2.2.2.2 = w := by rw [hw]
  have hkd : Θ.2.2.2.2.1 = kdC := by rw [hw]
  refine g_aload_n C 2 dL_fetch_0 rfl rfl ?_
  refine g_iconst (v := 0) C dL_fetch_1 rfl ?_
  refine g_aload_n C 0 dL_fetch_2 rfl rfl ?_
  refine g_iload_n C 1 dL_fetch_3 rfl rfl ?_
  refine w_call C hw2 hkd hA hao (fun v => v) [.int p0] r 2 12 1 rfl (c11_fetch (l := Θ.1.2.1) (person_a := p0) rfl hi hlt2 hf) w_6_162 w_6_159 w_6_160 w_6_161 w_1_1 ⟨rfl, rfl, (Nat.le_of_ble_eq_true rfl), (Nat.le_of_ble_eq_true rfl)⟩ (by decide +kernel) rfl rfl (Nat.le_of_ble_eq_true rfl) ⟨(Nat.le_of_ble_eq_true rfl), (Nat.le_of_ble_eq_true rfl)⟩ dL_fetch_4 (fun v hv => ?_) (fun e he => ?_)
  · rw [wk_r hv, wo_r hv]
    refine g_i2l C dL_fetch_7 ?_
    refine w_last C hw2 hAo hao dL_fetch_8 ?_
    refine g_goto C 18 dL_fetch_9 (by decide) ?_
    refine g_iconst (v := 0) C dL_fetch_18 rfl ?_
    exact w_ret C ⟨(Nat.le_of_ble_eq_true rfl), (Nat.le_of_ble_eq_true rfl)⟩ dL_fetch_19
  · have h9 : e = 2 ∨ e = 1 := by simpa using hx e he
    rcases h9 with rfl | rfl
    · rw [wk_l (k := 1) he (by decide +kernel), wo_l he]
      refine ⟨[], ⟨0, 9, 12, 24⟩, [⟨0, 9, 15, 45⟩], "java/lang/IndexOutOfBoundsException", htab, (fun z hz => nomatch hz), rfl, by decide, w_5_218, List.mem_of_getElem? (i := 21) rfl, fun q => ?_⟩
      refine g_astore_n C dL_fetch_12 rfl (Nat.le_of_ble_eq_true rfl) rfl ?_
      refine g_iconst (v := 1) C dL_fetch_13 rfl ?_
      exact w_ret C ⟨(Nat.le_of_ble_eq_true rfl), (Nat.le_of_ble_eq_true rfl)⟩ dL_fetch_14
    · rw [wk_l (k := 2) he (by decide +kernel), wo_l he]
      refine ⟨[⟨0, 9, 12, 24⟩], ⟨0, 9, 15, 45⟩, [], "java/lang/IllegalStateException", htab, (fun z hz => by (cases List.mem_singleton.mp hz); exact Or.inr ⟨by decide, "java/lang/IndexOutOfBoundsException", w_5_218, List.mem_of_getElem? (i := 5) rfl⟩), rfl, by decide, w_6_93, List.mem_of_getElem? (i := 24) rfl, fun q => ?_⟩
      refine g_astore_n C dL_fetch_15 rfl (Nat.le_of_ble_eq_true rfl) rfl ?_
      refine g_iconst (v := 2) C dL_fetch_16 rfl ?_
      exact w_ret C ⟨(Nat.le_of_ble_eq_true rfl), (Nat.le_of_ble_eq_true rfl)⟩ dL_fetch_17)
/-! wrapper winner -/
theorem dL_winner_0 : decode cL_winner 0 = .ok (.aload_n 2, 1) := by decide +kernel
theorem dL_winner_1 : decode cL_winner 1 = .ok (.iconst 0, 1) := by decide +kernel
theorem dL_winner_2 : decode cL_winner 2 = .ok (.aload_n 0, 1) := by decide +kernel
theorem dL_winner_3 : decode cL_winner 3 = .ok (.iload_n 1, 1) := by decide +kernel
theorem w_6_169 : Cond.selects "LastLoaf" ({ cls := "LastLoaf", name := "winner", desc := "(I)I" } : MethodName) ({ cls := "LastLoaf", name := "winner", desc := "(I)I" } : MethodName) ∈ TB := tb_in (lwt_6 (List.mem_of_getElem? (i := 169) (by decide +kernel))) rfl
theorem w_6_170 : Cond.code ({ cls := "LastLoaf", name := "winner", desc := "(I)I" } : MethodName) prog_1_method_19_code (2 : Nat) (Option.some ClassFile.FieldType.int) ∈ TB := tb_in (lwt_6 (List.mem_of_getElem? (i := 170) (by decide +kernel))) rfl
theorem w_6_167 : Cond.methodLink "LastLoafLaw" (66 : Nat) ({ cls := "LastLoaf", name := "winner", desc := "(I)I" } : MethodName) ∈ TB := tb_in (lwt_6 (List.mem_of_getElem? (i := 167) (by decide +kernel))) rfl
theorem w_6_168 : Cond.instanceMethod ({ cls := "LastLoaf", name := "winner", desc := "(I)I" } : MethodName) ∈ TB := tb_in (lwt_6 (List.mem_of_getElem? (i := 168) (by decide +kernel))) rfl
theorem dL_winner_4 : decode cL_winner 4 = .ok (.invokevirtual 66, 3) := by decide +kernel
theorem dL_winner_7 : decode cL_winner 7 = .ok (.i2l, 1) := by decide +kernel
theorem dL_winner_8 : decode cL_winner 8 = .ok (.lastore, 1) := by decide +kernel
theorem dL_winner_9 : decode cL_winner 9 = .ok (.goto 6, 3) := by decide +kernel
theorem dL_winner_15 : decode cL_winner 15 = .ok (.iconst 0, 1) := by decide +kernel
theorem dL_winner_16 : decode cL_winner 16 = .ok (.ireturn, 1) := by decide +kernel
theorem dL_winner_12 : decode cL_winner 12 = .ok (.astore_n 3, 1) := by decide +kernel
theorem dL_winner_13 : decode cL_winner 13 = .ok (.iconst 1, 1) := by decide +kernel
theorem dL_winner_14 : decode cL_winner 14 = .ok (.ireturn, 1) := by decide +kernel
abbrev rmW_winner : Room := { frames := rm11_winner.frames + 1, cells := 4, slots := 24, locals := 8 + (2 + 11) + rm11_winner.locals }
set_option maxHeartbeats 4000000 in
set_option maxRecDepth 100000 in
theorem wr_winner {l : Launch} {w : Wp} {ao : Nat} {cJ : ClassId} {σ : St} {o : Int64} {p0 : Int32} (hi : zI kdC w) (hlt : l.stackTraces = false) (hao : ∀ i, i < kdC.length → w.2.2.1 i ≠ ao) {r : Sum Nat Int32 × St} (hf : q11_winner σ p0 = some r) (hx : ∀ e, r.1 = .inl e → e ∈ ([0] : List Nat)) : wM l w ao cJ yL_winner cL_winner 4 [(0, 9, 12, 13)] rmW_winner [.ref (w.2.2.1 0), .int p0, .ref ao] σ o (wk [0] r) r.2 (wo (fun v => v) r o) := wM_of rfl (Nat.le_of_ble_eq_true rfl) (fun Θ hl hw C hA hAo htab => by
  have hlt2 : Θ.1.2.1.stackTraces = false := by rw [hl]; exact hlt
  have hw2 : Θ.2.2.2.2.2 = w := by rw [hw]
  have hkd : Θ.2.2.2.2.1 = kdC := by rw [hw]
  refine g_aload_n C 2 dL_winner_0 rfl rfl ?_
  refine g_iconst (v := 0) C dL_winner_1 rfl ?_
  refine g_aload_n C 0 dL_winner_2 rfl rfl ?_
  refine g_iload_n C 1 dL_winner_3 rfl rfl ?_
  refine w_call C hw2 hkd hA hao (fun v => v) [.int p0] r 1 6 1 rfl (c11_winner (l := Θ.1.2.1) (way_a := p0) rfl hi hlt2 hf) w_6_170 w_6_167 w_6_168 w_6_169 w_1_1 ⟨rfl, rfl, (Nat.le_of_ble_eq_true rfl), (Nat.le_of_ble_eq_true rfl)⟩ (by decide +kernel) rfl rfl (Nat.le_of_ble_eq_true rfl) ⟨(Nat.le_of_ble_eq_true rfl), (Nat.le_of_ble_eq_true rfl)⟩ dL_winner_4 (fun v hv => ?_) (fun e he => ?_)
  · rw [wk_r hv, wo_r hv]
    refine g_i2l C dL_winner_7 ?_
    refine w_last C hw2 hAo hao dL_winner_8 ?_
    refine g_goto C 15 dL_winner_9 (by decide) ?_
    refine g_iconst (v := 0) C dL_winner_15 rfl ?_
    exact w_ret C ⟨(Nat.le_of_ble_eq_true rfl), (Nat.le_of_ble_eq_true rfl)⟩ dL_winner_16
  · have h9 : e = 0 := by simpa using hx e he
    subst h9
    rw [wk_l (k := 1) he (by decide +kernel), wo_l he]
    refine ⟨[], ⟨0, 9, 12, 13⟩, [], "java/lang/IllegalArgumentException", htab, (fun z hz => nomatch hz), rfl, by decide, w_4_161, List.mem_of_getElem? (i := 13) rfl, fun q => ?_⟩
    refine g_astore_n C dL_winner_12 rfl (Nat.le_of_ble_eq_true rfl) rfl ?_
    refine g_iconst (v := 1) C dL_winner_13 rfl ?_
    exact w_ret C ⟨(Nat.le_of_ble_eq_true rfl), (Nat.le_of_ble_eq_true rfl)⟩ dL_winner_14)
/-! wrapper rank -/
theorem dL_rank_0 : decode cL_rank 0 = .ok (.aload_n 3, 1) := by decide +kernel
theorem dL_rank_1 : decode cL_rank 1 = .ok (.iconst 0, 1) := by decide +kernel
theorem dL_rank_2 : decode cL_rank 2 = .ok (.aload_n 0, 1) := by decide +kernel
theorem dL_rank_3 : decode cL_rank 3 = .ok (.iload_n 1, 1) := by decide +kernel
theorem dL_rank_4 : decode cL_rank 4 = .ok (.iload_n 2, 1) := by decide +kernel
theorem w_6_177 : Cond.selects "LastLoaf" ({ cls := "LastLoaf", name := "rank", desc := "(II)I" } : MethodName) ({ cls := "LastLoaf", name := "rank", desc := "(II)I" } : MethodName) ∈ TB := tb_in (lwt_6 (List.mem_of_getElem? (i := 177) (by decide +kernel))) rfl
theorem w_6_178 : Cond.code ({ cls := "LastLoaf", name := "rank", desc := "(II)I" } : MethodName) prog_1_method_20_code (3 : Nat) (Option.some ClassFile.FieldType.int) ∈ TB := tb_in (lwt_6 (List.mem_of_getElem? (i := 178) (by decide +kernel))) rfl
theorem w_6_175 : Cond.methodLink "LastLoafLaw" (69 : Nat) ({ cls := "LastLoaf", name := "rank", desc := "(II)I" } : MethodName) ∈ TB := tb_in (lwt_6 (List.mem_of_getElem? (i := 175) (by decide +kernel))) rfl
theorem w_6_176 : Cond.instanceMethod ({ cls := "LastLoaf", name := "rank", desc := "(II)I" } : MethodName) ∈ TB := tb_in (lwt_6 (List.mem_of_getElem? (i := 176) (by decide +kernel))) rfl
theorem dL_rank_5 : decode cL_rank 5 = .ok (.invokevirtual 69, 3) := by decide +kernel
theorem dL_rank_8 : decode cL_rank 8 = .ok (.i2l, 1) := by decide +kernel
theorem dL_rank_9 : decode cL_rank 9 = .ok (.lastore, 1) := by decide +kernel
theorem dL_rank_10 : decode cL_rank 10 = .ok (.goto 7, 3) := by decide +kernel
theorem dL_rank_17 : decode cL_rank 17 = .ok (.iconst 0, 1) := by decide +kernel
theorem dL_rank_18 : decode cL_rank 18 = .ok (.ireturn, 1) := by decide +kernel
theorem dL_rank_13 : decode cL_rank 13 = .ok (.astore 4, 2) := by decide +kernel
theorem dL_rank_15 : decode cL_rank 15 = .ok (.iconst 1, 1) := by decide +kernel
theorem dL_rank_16 : decode cL_rank 16 = .ok (.ireturn, 1) := by decide +kernel
abbrev rmW_rank : Room := { frames := rm11_rank.frames + 1, cells := 4, slots := 24, locals := 8 + (3 + 11) + rm11_rank.locals }
set_option maxHeartbeats 4000000 in
set_option maxRecDepth 100000 in
theorem wr_rank {l : Launch} {w : Wp} {ao : Nat} {cJ : ClassId} {σ : St} {o : Int64} {p0 : Int32} {p1 : Int32} (hi : zI kdC w) (hlt : l.stackTraces = false) (hao : ∀ i, i < kdC.length → w.2.2.1 i ≠ ao) {r : Sum Nat Int32 × St} (hf : q11_rank σ p0 p1 = some r) (hx : ∀ e, r.1 = .inl e → e ∈ ([2] : List Nat)) : wM l w ao cJ yL_rank cL_rank 5 [(0, 10, 13, 24)] rmW_rank [.ref (w.2.2.1 0), .int p0, .int p1, .ref ao] σ o (wk [2] r) r.2 (wo (fun v => v) r o) := wM_of rfl (Nat.le_of_ble_eq_true rfl) (fun Θ hl hw C hA hAo htab => by
  have hlt2 : Θ.1.2.1.stackTraces = false := by rw [hl]; exact hlt
  have hw2 : Θ.2.2.2.2.2 = w := by rw [hw]
  have hkd : Θ.2.2.2.2.1 = kdC := by rw [hw]
  refine g_aload_n C 3 dL_rank_0 rfl rfl ?_
  refine g_iconst (v := 0) C dL_rank_1 rfl ?_
  refine g_aload_n C 0 dL_rank_2 rfl rfl ?_
  refine g_iload_n C 1 dL_rank_3 rfl rfl ?_
  refine g_iload_n C 2 dL_rank_4 rfl rfl ?_
  refine w_call C hw2 hkd hA hao (fun v => v) [.int p0, .int p1] r 1 6 2 rfl (c11_rank (l := Θ.1.2.1) (person_a := p0) (k_a := p1) rfl hi hlt2 hf) w_6_178 w_6_175 w_6_176 w_6_177 w_1_1 ⟨rfl, rfl, (Nat.le_of_ble_eq_true rfl), (Nat.le_of_ble_eq_true rfl)⟩ (by decide +kernel) rfl rfl (Nat.le_of_ble_eq_true rfl) ⟨(Nat.le_of_ble_eq_true rfl), (Nat.le_of_ble_eq_true rfl)⟩ dL_rank_5 (fun v hv => ?_) (fun e he => ?_)
  · rw [wk_r hv, wo_r hv]
    refine g_i2l C dL_rank_8 ?_
    refine w_last C hw2 hAo hao dL_rank_9 ?_
    refine g_goto C 17 dL_rank_10 (by decide) ?_
    refine g_iconst (v := 0) C dL_rank_17 rfl ?_
    exact w_ret C ⟨(Nat.le_of_ble_eq_true rfl), (Nat.le_of_ble_eq_true rfl)⟩ dL_rank_18
  · have h9 : e = 2 := by simpa using hx e he
    subst h9
    rw [wk_l (k := 1) he (by decide +kernel), wo_l he]
    refine ⟨[], ⟨0, 10, 13, 24⟩, [], "java/lang/IndexOutOfBoundsException", htab, (fun z hz => nomatch hz), rfl, by decide, w_5_218, List.mem_of_getElem? (i := 21) rfl, fun q => ?_⟩
    refine g_astore C dL_rank_13 (Nat.le_of_ble_eq_true rfl) rfl ?_
    refine g_iconst (v := 1) C dL_rank_15 rfl ?_
    exact w_ret C ⟨(Nat.le_of_ble_eq_true rfl), (Nat.le_of_ble_eq_true rfl)⟩ dL_rank_16)
/-! wrapper beats -/
theorem dL_beats_0 : decode cL_beats 0 = .ok (.aload_n 3, 1) := by decide +kernel
theorem dL_beats_1 : decode cL_beats 1 = .ok (.iconst 0, 1) := by decide +kernel
theorem dL_beats_2 : decode cL_beats 2 = .ok (.aload_n 0, 1) := by decide +kernel
theorem dL_beats_3 : decode cL_beats 3 = .ok (.iload_n 1, 1) := by decide +kernel
theorem dL_beats_4 : decode cL_beats 4 = .ok (.iload_n 2, 1) := by decide +kernel
theorem w_6_184 : Cond.selects "LastLoaf" ({ cls := "LastLoaf", name := "beats", desc := "(II)Z" } : MethodName) ({ cls := "LastLoaf", name := "beats", desc := "(II)Z" } : MethodName) ∈ TB := tb_in (lwt_6 (List.mem_of_getElem? (i := 184) (by decide +kernel))) rfl
theorem w_6_185 : Cond.code ({ cls := "LastLoaf", name := "beats", desc := "(II)Z" } : MethodName) prog_1_method_21_code (3 : Nat) (Option.some ClassFile.FieldType.boolean) ∈ TB := tb_in (lwt_6 (List.mem_of_getElem? (i := 185) (by decide +kernel))) rfl
theorem w_6_182 : Cond.methodLink "LastLoafLaw" (72 : Nat) ({ cls := "LastLoaf", name := "beats", desc := "(II)Z" } : MethodName) ∈ TB := tb_in (lwt_6 (List.mem_of_getElem? (i := 182) (by decide +kernel))) rfl
theorem w_6_183 : Cond.instanceMethod ({ cls := "LastLoaf", name := "beats", desc := "(II)Z" } : MethodName) ∈ TB := tb_in (lwt_6 (List.mem_of_getElem? (i := 183) (by decide +kernel))) rfl
theorem dL_beats_5 : decode cL_beats 5 = .ok (.invokevirtual 72, 3) := by decide +kernel
theorem dL_beats_8 : decode cL_beats 8 = .ok (.ifCond .eq 7, 3) := by decide +kernel
theorem dL_beats_11 : decode cL_beats 11 = .ok (.lconst 1, 1) := by decide +kernel
theorem dL_beats_12 : decode cL_beats 12 = .ok (.goto 4, 3) := by decide +kernel
theorem dL_beats_15 : decode cL_beats 15 = .ok (.lconst 0, 1) := by decide +kernel
theorem dL_beats_16 : decode cL_beats 16 = .ok (.lastore, 1) := by decide +kernel
theorem dL_beats_17 : decode cL_beats 17 = .ok (.goto 11, 3) := by decide +kernel
theorem dL_beats_28 : decode cL_beats 28 = .ok (.iconst 0, 1) := by decide +kernel
theorem dL_beats_29 : decode cL_beats 29 = .ok (.ireturn, 1) := by decide +kernel
theorem dL_beats_20 : decode cL_beats 20 = .ok (.astore 4, 2) := by decide +kernel
theorem dL_beats_22 : decode cL_beats 22 = .ok (.iconst 1, 1) := by decide +kernel
theorem dL_beats_23 : decode cL_beats 23 = .ok (.ireturn, 1) := by decide +kernel
theorem dL_beats_24 : decode cL_beats 24 = .ok (.astore 4, 2) := by decide +kernel
theorem dL_beats_26 : decode cL_beats 26 = .ok (.iconst 2, 1) := by decide +kernel
theorem dL_beats_27 : decode cL_beats 27 = .ok (.ireturn, 1) := by decide +kernel
abbrev rmW_beats : Room := { frames := rm11_beats.frames + 1, cells := 4, slots := 24, locals := 8 + (3 + 11) + rm11_beats.locals }
set_option maxHeartbeats 4000000 in
set_option maxRecDepth 100000 in
theorem wr_beats {l : Launch} {w : Wp} {ao : Nat} {cJ : ClassId} {σ : St} {o : Int64} {p0 : Int32} {p1 : Int32} (hi : zI kdC w) (hlt : l.stackTraces = false) (hao : ∀ i, i < kdC.length → w.2.2.1 i ≠ ao) {r : Sum Nat Bool × St} (hf : q11_beats σ p0 p1 = some r) (hx : ∀ e, r.1 = .inl e → e ∈ ([2, 0] : List Nat)) : wM l w ao cJ yL_beats cL_beats 5 [(0, 17, 20, 24), (0, 17, 24, 13)] rmW_beats [.ref (w.2.2.1 0), .int p0, .int p1, .ref ao] σ o (wk [2, 0] r) r.2 (wo b2i r o) := wM_of rfl (Nat.le_of_ble_eq_true rfl) (fun Θ hl hw C hA hAo htab => by
  have hlt2 : Θ.1.2.1.stackTraces = false := by rw [hl]; exact hlt
  have hw2 : Θ.2.2.2.2.2 = w := by rw [hw]
  have hkd : Θ.2.2.2.2.1 = kdC := by rw [hw]
  refine g_aload_n C 3 dL_beats_0 rfl rfl ?_
  refine g_iconst (v := 0) C dL_beats_1 rfl ?_
  refine g_aload_n C 0 dL_beats_2 rfl rfl ?_
  refine g_iload_n C 1 dL_beats_3 rfl rfl ?_
  refine g_iload_n C 2 dL_beats_4 rfl rfl ?_
  refine w_call C hw2 hkd hA hao b2i [.int p0, .int p1] r 3 18 2 rfl (c11_beats (l := Θ.1.2.1) (person_a := p0) (other_a := p1) rfl hi hlt2 hf) w_6_185 w_6_182 w_6_183 w_6_184 w_1_1 ⟨rfl, rfl, (Nat.le_of_ble_eq_true rfl), (Nat.le_of_ble_eq_true rfl)⟩ (by decide +kernel) rfl rfl (Nat.le_of_ble_eq_true rfl) ⟨(Nat.le_of_ble_eq_true rfl), (Nat.le_of_ble_eq_true rfl)⟩ dL_beats_5 (fun v hv => ?_) (fun e he => ?_)
  · rw [wk_r hv, wo_r hv]
    refine g_bl (b := v) C dL_beats_8 dL_beats_11 dL_beats_12 dL_beats_15 ?_
    refine w_last C hw2 hAo hao dL_beats_16 ?_
    refine g_goto C 28 dL_beats_17 (by decide) ?_
    refine g_iconst (v := 0) C dL_beats_28 rfl ?_
    exact w_ret C ⟨(Nat.le_of_ble_eq_true rfl), (Nat.le_of_ble_eq_true rfl)⟩ dL_beats_29
  · have h9 : e = 2 ∨ e = 0 := by simpa using hx e he
    rcases h9 with rfl | rfl
    · rw [wk_l (k := 1) he (by decide +kernel), wo_l he]
      refine ⟨[], ⟨0, 17, 20, 24⟩, [⟨0, 17, 24, 13⟩], "java/lang/IndexOutOfBoundsException", htab, (fun z hz => nomatch hz), rfl, by decide, w_5_218, List.mem_of_getElem? (i := 21) rfl, fun q => ?_⟩
      refine g_astore C dL_beats_20 (Nat.le_of_ble_eq_true rfl) rfl ?_
      refine g_iconst (v := 1) C dL_beats_22 rfl ?_
      exact w_ret C ⟨(Nat.le_of_ble_eq_true rfl), (Nat.le_of_ble_eq_true rfl)⟩ dL_beats_23
    · rw [wk_l (k := 2) he (by decide +kernel), wo_l he]
      refine ⟨[⟨0, 17, 20, 24⟩], ⟨0, 17, 24, 13⟩, [], "java/lang/IllegalArgumentException", htab, (fun z hz => by (cases List.mem_singleton.mp hz); exact Or.inr ⟨by decide, "java/lang/IndexOutOfBoundsException", w_5_218, List.mem_of_getElem? (i := 1) rfl⟩), rfl, by decide, w_4_161, List.mem_of_getElem? (i := 13) rfl, fun q => ?_⟩
      refine g_astore C dL_beats_24 (Nat.le_of_ble_eq_true rfl) rfl ?_
      refine g_iconst (v := 2) C dL_beats_26 rfl ?_
      exact w_ret C ⟨(Nat.le_of_ble_eq_true rfl), (Nat.le_of_ble_eq_true rfl)⟩ dL_beats_27)
/-! wrapper hungry -/
theorem dL_hungry_0 : decode cL_hungry 0 = .ok (.aload_n 3, 1) := by decide +kernel
theorem dL_hungry_1 : decode cL_hungry 1 = .ok (.iconst 0, 1) := by decide +kernel
theorem dL_hungry_2 : decode cL_hungry 2 = .ok (.aload_n 0, 1) := by decide +kernel
theorem dL_hungry_3 : decode cL_hungry 3 = .ok (.iload_n 1, 1) := by decide +kernel
theorem dL_hungry_4 : decode cL_hungry 4 = .ok (.iload_n 2, 1) := by decide +kernel
theorem w_6_192 : Cond.selects "LastLoaf" ({ cls := "LastLoaf", name := "hungry", desc := "(II)I" } : MethodName) ({ cls := "LastLoaf", name := "hungry", desc := "(II)I" } : MethodName) ∈ TB := tb_in (lwt_6 (List.mem_of_getElem? (i := 192) (by decide +kernel))) rfl
theorem w_6_193 : Cond.code ({ cls := "LastLoaf", name := "hungry", desc := "(II)I" } : MethodName) prog_1_method_23_code (3 : Nat) (Option.some ClassFile.FieldType.int) ∈ TB := tb_in (lwt_6 (List.mem_of_getElem? (i := 193) (by decide +kernel))) rfl
theorem w_6_190 : Cond.methodLink "LastLoafLaw" (76 : Nat) ({ cls := "LastLoaf", name := "hungry", desc := "(II)I" } : MethodName) ∈ TB := tb_in (lwt_6 (List.mem_of_getElem? (i := 190) (by decide +kernel))) rfl
theorem w_6_191 : Cond.instanceMethod ({ cls := "LastLoaf", name := "hungry", desc := "(II)I" } : MethodName) ∈ TB := tb_in (lwt_6 (List.mem_of_getElem? (i := 191) (by decide +kernel))) rfl
theorem dL_hungry_5 : decode cL_hungry 5 = .ok (.invokevirtual 76, 3) := by decide +kernel
theorem dL_hungry_8 : decode cL_hungry 8 = .ok (.i2l, 1) := by decide +kernel
theorem dL_hungry_9 : decode cL_hungry 9 = .ok (.lastore, 1) := by decide +kernel
theorem dL_hungry_10 : decode cL_hungry 10 = .ok (.goto 7, 3) := by decide +kernel
theorem dL_hungry_17 : decode cL_hungry 17 = .ok (.iconst 0, 1) := by decide +kernel
theorem dL_hungry_18 : decode cL_hungry 18 = .ok (.ireturn, 1) := by decide +kernel
theorem dL_hungry_13 : decode cL_hungry 13 = .ok (.astore 4, 2) := by decide +kernel
theorem dL_hungry_15 : decode cL_hungry 15 = .ok (.iconst 1, 1) := by decide +kernel
theorem dL_hungry_16 : decode cL_hungry 16 = .ok (.ireturn, 1) := by decide +kernel
abbrev rmW_hungry : Room := { frames := rm11_hungry.frames + 1, cells := 4, slots := 24, locals := 8 + (3 + 11) + rm11_hungry.locals }
set_option maxHeartbeats 4000000 in
set_option maxRecDepth 100000 in
theorem wr_hungry {l : Launch} {w : Wp} {ao : Nat} {cJ : ClassId} {σ : St} {o : Int64} {p0 : Int32} {p1 : Int32} (hi : zI kdC w) (hlt : l.stackTraces = false) (hao : ∀ i, i < kdC.length → w.2.2.1 i ≠ ao) {r : Sum Nat Int32 × St} (hf : q11_hungry σ p0 p1 = some r) (hx : ∀ e, r.1 = .inl e → e ∈ ([0] : List Nat)) : wM l w ao cJ yL_hungry cL_hungry 5 [(0, 10, 13, 13)] rmW_hungry [.ref (w.2.2.1 0), .int p0, .int p1, .ref ao] σ o (wk [0] r) r.2 (wo (fun v => v) r o) := wM_of rfl (Nat.le_of_ble_eq_true rfl) (fun Θ hl hw C hA hAo htab => by
  have hlt2 : Θ.1.2.1.stackTraces = false := by rw [hl]; exact hlt
  have hw2 : Θ.2.2.2.2.2 = w := by rw [hw]
  have hkd : Θ.2.2.2.2.1 = kdC := by rw [hw]
  refine g_aload_n C 3 dL_hungry_0 rfl rfl ?_
  refine g_iconst (v := 0) C dL_hungry_1 rfl ?_
  refine g_aload_n C 0 dL_hungry_2 rfl rfl ?_
  refine g_iload_n C 1 dL_hungry_3 rfl rfl ?_
  refine g_iload_n C 2 dL_hungry_4 rfl rfl ?_
  refine w_call C hw2 hkd hA hao (fun v => v) [.int p0, .int p1] r 2 12 2 rfl (c11_hungry (l := Θ.1.2.1) (way_a := p0) (n_a := p1) rfl hi hlt2 hf) w_6_193 w_6_190 w_6_191 w_6_192 w_1_1 ⟨rfl, rfl, (Nat.le_of_ble_eq_true rfl), (Nat.le_of_ble_eq_true rfl)⟩ (by decide +kernel) rfl rfl (Nat.le_of_ble_eq_true rfl) ⟨(Nat.le_of_ble_eq_true rfl), (Nat.le_of_ble_eq_true rfl)⟩ dL_hungry_5 (fun v hv => ?_) (fun e he => ?_)
  · rw [wk_r hv, wo_r hv]
    refine g_i2l C dL_hungry_8 ?_
    refine w_last C hw2 hAo hao dL_hungry_9 ?_
    refine g_goto C 17 dL_hungry_10 (by decide) ?_
    refine g_iconst (v := 0) C dL_hungry_17 rfl ?_
    exact w_ret C ⟨(Nat.le_of_ble_eq_true rfl), (Nat.le_of_ble_eq_true rfl)⟩ dL_hungry_18
  · have h9 : e = 0 := by simpa using hx e he
    subst h9
    rw [wk_l (k := 1) he (by decide +kernel), wo_l he]
    refine ⟨[], ⟨0, 10, 13, 13⟩, [], "java/lang/IllegalArgumentException", htab, (fun z hz => nomatch hz), rfl, by decide, w_4_161, List.mem_of_getElem? (i := 13) rfl, fun q => ?_⟩
    refine g_astore C dL_hungry_13 (Nat.le_of_ble_eq_true rfl) rfl ?_
    refine g_iconst (v := 1) C dL_hungry_15 rfl ?_
    exact w_ret C ⟨(Nat.le_of_ble_eq_true rfl), (Nat.le_of_ble_eq_true rfl)⟩ dL_hungry_16)
/-! wrapper kindest -/
theorem dL_kindest_0 : decode cL_kindest 0 = .ok (.aload_n 2, 1) := by decide +kernel
theorem dL_kindest_1 : decode cL_kindest 1 = .ok (.iconst 0, 1) := by decide +kernel
theorem dL_kindest_2 : decode cL_kindest 2 = .ok (.aload_n 0, 1) := by decide +kernel
theorem dL_kindest_3 : decode cL_kindest 3 = .ok (.iload_n 1, 1) := by decide +kernel
theorem w_6_203 : Cond.selects "LastLoaf" ({ cls := "LastLoaf", name := "kindest", desc := "(I)I" } : MethodName) ({ cls := "LastLoaf", name := "kindest", desc := "(I)I" } : MethodName) ∈ TB := tb_in (lwt_6 (List.mem_of_getElem? (i := 203) (by decide +kernel))) rfl
theorem w_6_204 : Cond.code ({ cls := "LastLoaf", name := "kindest", desc := "(I)I" } : MethodName) prog_1_method_24_code (6 : Nat) (Option.some ClassFile.FieldType.int) ∈ TB := tb_in (lwt_6 (List.mem_of_getElem? (i := 204) (by decide +kernel))) rfl
theorem w_6_201 : Cond.methodLink "LastLoafLaw" (79 : Nat) ({ cls := "LastLoaf", name := "kindest", desc := "(I)I" } : MethodName) ∈ TB := tb_in (lwt_6 (List.mem_of_getElem? (i := 201) (by decide +kernel))) rfl
theorem w_6_202 : Cond.instanceMethod ({ cls := "LastLoaf", name := "kindest", desc := "(I)I" } : MethodName) ∈ TB := tb_in (lwt_6 (List.mem_of_getElem? (i := 202) (by decide +kernel))) rfl
theorem dL_kindest_4 : decode cL_kindest 4 = .ok (.invokevirtual 79, 3) := by decide +kernel
theorem dL_kindest_7 : decode cL_kindest 7 = .ok (.i2l, 1) := by decide +kernel
theorem dL_kindest_8 : decode cL_kindest 8 = .ok (.lastore, 1) := by decide +kernel
theorem dL_kindest_9 : decode cL_kindest 9 = .ok (.goto 6, 3) := by decide +kernel
theorem dL_kindest_15 : decode cL_kindest 15 = .ok (.iconst 0, 1) := by decide +kernel
theorem dL_kindest_16 : decode cL_kindest 16 = .ok (.ireturn, 1) := by decide +kernel
theorem dL_kindest_12 : decode cL_kindest 12 = .ok (.astore_n 3, 1) := by decide +kernel
theorem dL_kindest_13 : decode cL_kindest 13 = .ok (.iconst 1, 1) := by decide +kernel
theorem dL_kindest_14 : decode cL_kindest 14 = .ok (.ireturn, 1) := by decide +kernel
abbrev rmW_kindest : Room := { frames := rm11_kindest.frames + 1, cells := 4, slots := 24, locals := 8 + (6 + 11) + rm11_kindest.locals }
set_option maxHeartbeats 4000000 in
set_option maxRecDepth 100000 in
theorem wr_kindest {l : Launch} {w : Wp} {ao : Nat} {cJ : ClassId} {σ : St} {o : Int64} {p0 : Int32} (hi : zI kdC w) (hlt : l.stackTraces = false) (hao : ∀ i, i < kdC.length → w.2.2.1 i ≠ ao) {r : Sum Nat Int32 × St} (hf : q11_kindest σ p0 = some r) (hx : ∀ e, r.1 = .inl e → e ∈ ([0] : List Nat)) : wM l w ao cJ yL_kindest cL_kindest 4 [(0, 9, 12, 13)] rmW_kindest [.ref (w.2.2.1 0), .int p0, .ref ao] σ o (wk [0] r) r.2 (wo (fun v => v) r o) := wM_of rfl (Nat.le_of_ble_eq_true rfl) (fun Θ hl hw C hA hAo htab => by
  have hlt2 : Θ.1.2.1.stackTraces = false := by rw [hl]; exact hlt
  have hw2 : Θ.2.2.2.2.2 = w := by rw [hw]
  have hkd : Θ.2.2.2.2.1 = kdC := by rw [hw]
  refine g_aload_n C 2 dL_kindest_0 rfl rfl ?_
  refine g_iconst (v := 0) C dL_kindest_1 rfl ?_
  refine g_aload_n C 0 dL_kindest_2 rfl rfl ?_
  refine g_iload_n C 1 dL_kindest_3 rfl rfl ?_
  refine w_call C hw2 hkd hA hao (fun v => v) [.int p0] r 1 6 1 rfl (c11_kindest (l := Θ.1.2.1) (n_a := p0) rfl hi hlt2 hf) w_6_204 w_6_201 w_6_202 w_6_203 w_1_1 ⟨rfl, rfl, (Nat.le_of_ble_eq_true rfl), (Nat.le_of_ble_eq_true rfl)⟩ (by decide +kernel) rfl rfl (Nat.le_of_ble_eq_true rfl) ⟨(Nat.le_of_ble_eq_true rfl), (Nat.le_of_ble_eq_true rfl)⟩ dL_kindest_4 (fun v hv => ?_) (fun e he => ?_)
  · rw [wk_r hv, wo_r hv]
    refine g_i2l C dL_kindest_7 ?_
    refine w_last C hw2 hAo hao dL_kindest_8 ?_
    refine g_goto C 15 dL_kindest_9 (by decide) ?_
    refine g_iconst (v := 0) C dL_kindest_15 rfl ?_
    exact w_ret C ⟨(Nat.le_of_ble_eq_true rfl), (Nat.le_of_ble_eq_true rfl)⟩ dL_kindest_16
  · have h9 : e = 0 := by simpa using hx e he
    subst h9
    rw [wk_l (k := 1) he (by decide +kernel), wo_l he]
    refine ⟨[], ⟨0, 9, 12, 13⟩, [], "java/lang/IllegalArgumentException", htab, (fun z hz => nomatch hz), rfl, by decide, w_4_161, List.mem_of_getElem? (i := 13) rfl, fun q => ?_⟩
    refine g_astore_n C dL_kindest_12 rfl (Nat.le_of_ble_eq_true rfl) rfl ?_
    refine g_iconst (v := 1) C dL_kindest_13 rfl ?_
    exact w_ret C ⟨(Nat.le_of_ble_eq_true rfl), (Nat.le_of_ble_eq_true rfl)⟩ dL_kindest_14)
/-! wrapper next -/
theorem dL_next_0 : decode cL_next 0 = .ok (.aload_n 2, 1) := by decide +kernel
theorem dL_next_1 : decode cL_next 1 = .ok (.iconst 0, 1) := by decide +kernel
theorem dL_next_2 : decode cL_next 2 = .ok (.aload_n 0, 1) := by decide +kernel
theorem dL_next_3 : decode cL_next 3 = .ok (.iload_n 1, 1) := by decide +kernel
theorem w_6_210 : Cond.selects "LastLoaf" ({ cls := "LastLoaf", name := "next", desc := "(I)I" } : MethodName) ({ cls := "LastLoaf", name := "next", desc := "(I)I" } : MethodName) ∈ TB := tb_in (lwt_6 (List.mem_of_getElem? (i := 210) (by decide +kernel))) rfl
theorem w_6_211 : Cond.code ({ cls := "LastLoaf", name := "next", desc := "(I)I" } : MethodName) prog_1_method_25_code (2 : Nat) (Option.some ClassFile.FieldType.int) ∈ TB := tb_in (lwt_6 (List.mem_of_getElem? (i := 211) (by decide +kernel))) rfl
theorem w_6_208 : Cond.methodLink "LastLoafLaw" (82 : Nat) ({ cls := "LastLoaf", name := "next", desc := "(I)I" } : MethodName) ∈ TB := tb_in (lwt_6 (List.mem_of_getElem? (i := 208) (by decide +kernel))) rfl
theorem w_6_209 : Cond.instanceMethod ({ cls := "LastLoaf", name := "next", desc := "(I)I" } : MethodName) ∈ TB := tb_in (lwt_6 (List.mem_of_getElem? (i := 209) (by decide +kernel))) rfl
theorem dL_next_4 : decode cL_next 4 = .ok (.invokevirtual 82, 3) := by decide +kernel
theorem dL_next_7 : decode cL_next 7 = .ok (.i2l, 1) := by decide +kernel
theorem dL_next_8 : decode cL_next 8 = .ok (.lastore, 1) := by decide +kernel
theorem dL_next_9 : decode cL_next 9 = .ok (.goto 6, 3) := by decide +kernel
theorem dL_next_15 : decode cL_next 15 = .ok (.iconst 0, 1) := by decide +kernel
theorem dL_next_16 : decode cL_next 16 = .ok (.ireturn, 1) := by decide +kernel
theorem dL_next_12 : decode cL_next 12 = .ok (.astore_n 3, 1) := by decide +kernel
theorem dL_next_13 : decode cL_next 13 = .ok (.iconst 1, 1) := by decide +kernel
theorem dL_next_14 : decode cL_next 14 = .ok (.ireturn, 1) := by decide +kernel
abbrev rmW_next : Room := { frames := rm11_next.frames + 1, cells := 4, slots := 24, locals := 8 + (2 + 11) + rm11_next.locals }
set_option maxHeartbeats 4000000 in
set_option maxRecDepth 100000 in
theorem wr_next {l : Launch} {w : Wp} {ao : Nat} {cJ : ClassId} {σ : St} {o : Int64} {p0 : Int32} (hi : zI kdC w) (hlt : l.stackTraces = false) (hao : ∀ i, i < kdC.length → w.2.2.1 i ≠ ao) {r : Sum Nat Int32 × St} (hf : q11_next σ p0 = some r) (hx : ∀ e, r.1 = .inl e → e ∈ ([0] : List Nat)) : wM l w ao cJ yL_next cL_next 4 [(0, 9, 12, 13)] rmW_next [.ref (w.2.2.1 0), .int p0, .ref ao] σ o (wk [0] r) r.2 (wo (fun v => v) r o) := wM_of rfl (Nat.le_of_ble_eq_true rfl) (fun Θ hl hw C hA hAo htab => by
  have hlt2 : Θ.1.2.1.stackTraces = false := by rw [hl]; exact hlt
  have hw2 : Θ.2.2.2.2.2 = w := by rw [hw]
  have hkd : Θ.2.2.2.2.1 = kdC := by rw [hw]
  refine g_aload_n C 2 dL_next_0 rfl rfl ?_
  refine g_iconst (v := 0) C dL_next_1 rfl ?_
  refine g_aload_n C 0 dL_next_2 rfl rfl ?_
  refine g_iload_n C 1 dL_next_3 rfl rfl ?_
  refine w_call C hw2 hkd hA hao (fun v => v) [.int p0] r 1 6 1 rfl (c11_next (l := Θ.1.2.1) (n_a := p0) rfl hi hlt2 hf) w_6_211 w_6_208 w_6_209 w_6_210 w_1_1 ⟨rfl, rfl, (Nat.le_of_ble_eq_true rfl), (Nat.le_of_ble_eq_true rfl)⟩ (by decide +kernel) rfl rfl (Nat.le_of_ble_eq_true rfl) ⟨(Nat.le_of_ble_eq_true rfl), (Nat.le_of_ble_eq_true rfl)⟩ dL_next_4 (fun v hv => ?_) (fun e he => ?_)
  · rw [wk_r hv, wo_r hv]
    refine g_i2l C dL_next_7 ?_
    refine w_last C hw2 hAo hao dL_next_8 ?_
    refine g_goto C 15 dL_next_9 (by decide) ?_
    refine g_iconst (v := 0) C dL_next_15 rfl ?_
    exact w_ret C ⟨(Nat.le_of_ble_eq_true rfl), (Nat.le_of_ble_eq_true rfl)⟩ dL_next_16
  · have h9 : e = 0 := by simpa using hx e he
    subst h9
    rw [wk_l (k := 1) he (by decide +kernel), wo_l he]
    refine ⟨[], ⟨0, 9, 12, 13⟩, [], "java/lang/IllegalArgumentException", htab, (fun z hz => nomatch hz), rfl, by decide, w_4_161, List.mem_of_getElem? (i := 13) rfl, fun q => ?_⟩
    refine g_astore_n C dL_next_12 rfl (Nat.le_of_ble_eq_true rfl) rfl ?_
    refine g_iconst (v := 1) C dL_next_13 rfl ?_
    exact w_ret C ⟨(Nat.le_of_ble_eq_true rfl), (Nat.le_of_ble_eq_true rfl)⟩ dL_next_14)
/-! wrapper woo -/
theorem dL_woo_0 : decode cL_woo 0 = .ok (.aload_n 2, 1) := by decide +kernel
theorem dL_woo_1 : decode cL_woo 1 = .ok (.iconst 0, 1) := by decide +kernel
theorem dL_woo_2 : decode cL_woo 2 = .ok (.aload_n 0, 1) := by decide +kernel
theorem dL_woo_3 : decode cL_woo 3 = .ok (.iload_n 1, 1) := by decide +kernel
theorem w_6_221 : Cond.selects "LastLoaf" ({ cls := "LastLoaf", name := "woo", desc := "(I)I" } : MethodName) ({ cls := "LastLoaf", name := "woo", desc := "(I)I" } : MethodName) ∈ TB := tb_in (lwt_6 (List.mem_of_getElem? (i := 221) (by decide +kernel))) rfl
theorem w_6_222 : Cond.code ({ cls := "LastLoaf", name := "woo", desc := "(I)I" } : MethodName) prog_1_method_26_code (2 : Nat) (Option.some ClassFile.FieldType.int) ∈ TB := tb_in (lwt_6 (List.mem_of_getElem? (i := 222) (by decide +kernel))) rfl
theorem w_6_219 : Cond.methodLink "LastLoafLaw" (85 : Nat) ({ cls := "LastLoaf", name := "woo", desc := "(I)I" } : MethodName) ∈ TB := tb_in (lwt_6 (List.mem_of_getElem? (i := 219) (by decide +kernel))) rfl
theorem w_6_220 : Cond.instanceMethod ({ cls := "LastLoaf", name := "woo", desc := "(I)I" } : MethodName) ∈ TB := tb_in (lwt_6 (List.mem_of_getElem? (i := 220) (by decide +kernel))) rfl
theorem dL_woo_4 : decode cL_woo 4 = .ok (.invokevirtual 85, 3) := by decide +kernel
theorem dL_woo_7 : decode cL_woo 7 = .ok (.i2l, 1) := by decide +kernel
theorem dL_woo_8 : decode cL_woo 8 = .ok (.lastore, 1) := by decide +kernel
theorem dL_woo_9 : decode cL_woo 9 = .ok (.goto 6, 3) := by decide +kernel
theorem dL_woo_15 : decode cL_woo 15 = .ok (.iconst 0, 1) := by decide +kernel
theorem dL_woo_16 : decode cL_woo 16 = .ok (.ireturn, 1) := by decide +kernel
theorem dL_woo_12 : decode cL_woo 12 = .ok (.astore_n 3, 1) := by decide +kernel
theorem dL_woo_13 : decode cL_woo 13 = .ok (.iconst 1, 1) := by decide +kernel
theorem dL_woo_14 : decode cL_woo 14 = .ok (.ireturn, 1) := by decide +kernel
abbrev rmW_woo : Room := { frames := rm11_woo.frames + 1, cells := 4, slots := 24, locals := 8 + (2 + 11) + rm11_woo.locals }
set_option maxHeartbeats 4000000 in
set_option maxRecDepth 100000 in
theorem wr_woo {l : Launch} {w : Wp} {ao : Nat} {cJ : ClassId} {σ : St} {o : Int64} {p0 : Int32} (hi : zI kdC w) (hlt : l.stackTraces = false) (hao : ∀ i, i < kdC.length → w.2.2.1 i ≠ ao) {r : Sum Nat Int32 × St} (hf : q11_woo σ p0 = some r) (hx : ∀ e, r.1 = .inl e → e ∈ ([2] : List Nat)) : wM l w ao cJ yL_woo cL_woo 4 [(0, 9, 12, 24)] rmW_woo [.ref (w.2.2.1 0), .int p0, .ref ao] σ o (wk [2] r) r.2 (wo (fun v => v) r o) := wM_of rfl (Nat.le_of_ble_eq_true rfl) (fun Θ hl hw C hA hAo htab => by
  have hlt2 : Θ.1.2.1.stackTraces = false := by rw [hl]; exact hlt
  have hw2 : Θ.2.2.2.2.2 = w := by rw [hw]
  have hkd : Θ.2.2.2.2.1 = kdC := by rw [hw]
  refine g_aload_n C 2 dL_woo_0 rfl rfl ?_
  refine g_iconst (v := 0) C dL_woo_1 rfl ?_
  refine g_aload_n C 0 dL_woo_2 rfl rfl ?_
  refine g_iload_n C 1 dL_woo_3 rfl rfl ?_
  refine w_call C hw2 hkd hA hao (fun v => v) [.int p0] r 1 6 1 rfl (c11_woo (l := Θ.1.2.1) (person_a := p0) rfl hi hlt2 hf) w_6_222 w_6_219 w_6_220 w_6_221 w_1_1 ⟨rfl, rfl, (Nat.le_of_ble_eq_true rfl), (Nat.le_of_ble_eq_true rfl)⟩ (by decide +kernel) rfl rfl (Nat.le_of_ble_eq_true rfl) ⟨(Nat.le_of_ble_eq_true rfl), (Nat.le_of_ble_eq_true rfl)⟩ dL_woo_4 (fun v hv => ?_) (fun e he => ?_)
  · rw [wk_r hv, wo_r hv]
    refine g_i2l C dL_woo_7 ?_
    refine w_last C hw2 hAo hao dL_woo_8 ?_
    refine g_goto C 15 dL_woo_9 (by decide) ?_
    refine g_iconst (v := 0) C dL_woo_15 rfl ?_
    exact w_ret C ⟨(Nat.le_of_ble_eq_true rfl), (Nat.le_of_ble_eq_true rfl)⟩ dL_woo_16
  · have h9 : e = 2 := by simpa using hx e he
    subst h9
    rw [wk_l (k := 1) he (by decide +kernel), wo_l he]
    refine ⟨[], ⟨0, 9, 12, 24⟩, [], "java/lang/IndexOutOfBoundsException", htab, (fun z hz => nomatch hz), rfl, by decide, w_5_218, List.mem_of_getElem? (i := 21) rfl, fun q => ?_⟩
    refine g_astore_n C dL_woo_12 rfl (Nat.le_of_ble_eq_true rfl) rfl ?_
    refine g_iconst (v := 1) C dL_woo_13 rfl ?_
    exact w_ret C ⟨(Nat.le_of_ble_eq_true rfl), (Nat.le_of_ble_eq_true rfl)⟩ dL_woo_14)
/-! wrapper order -/
theorem dL_order_0 : decode cL_order 0 = .ok (.aload_n 3, 1) := by decide +kernel
theorem dL_order_1 : decode cL_order 1 = .ok (.iconst 0, 1) := by decide +kernel
theorem dL_order_2 : decode cL_order 2 = .ok (.aload_n 0, 1) := by decide +kernel
theorem dL_order_3 : decode cL_order 3 = .ok (.iload_n 1, 1) := by decide +kernel
theorem dL_order_4 : decode cL_order 4 = .ok (.iload_n 2, 1) := by decide +kernel
theorem w_6_228 : Cond.selects "LastLoaf" ({ cls := "LastLoaf", name := "order", desc := "(II)I" } : MethodName) ({ cls := "LastLoaf", name := "order", desc := "(II)I" } : MethodName) ∈ TB := tb_in (lwt_6 (List.mem_of_getElem? (i := 228) (by decide +kernel))) rfl
theorem w_6_229 : Cond.code ({ cls := "LastLoaf", name := "order", desc := "(II)I" } : MethodName) prog_1_method_28_code (3 : Nat) (Option.some ClassFile.FieldType.int) ∈ TB := tb_in (lwt_6 (List.mem_of_getElem? (i := 229) (by decide +kernel))) rfl
theorem w_6_226 : Cond.methodLink "LastLoafLaw" (88 : Nat) ({ cls := "LastLoaf", name := "order", desc := "(II)I" } : MethodName) ∈ TB := tb_in (lwt_6 (List.mem_of_getElem? (i := 226) (by decide +kernel))) rfl
theorem w_6_227 : Cond.instanceMethod ({ cls := "LastLoaf", name := "order", desc := "(II)I" } : MethodName) ∈ TB := tb_in (lwt_6 (List.mem_of_getElem? (i := 227) (by decide +kernel))) rfl
theorem dL_order_5 : decode cL_order 5 = .ok (.invokevirtual 88, 3) := by decide +kernel
theorem dL_order_8 : decode cL_order 8 = .ok (.i2l, 1) := by decide +kernel
theorem dL_order_9 : decode cL_order 9 = .ok (.lastore, 1) := by decide +kernel
theorem dL_order_10 : decode cL_order 10 = .ok (.goto 7, 3) := by decide +kernel
theorem dL_order_17 : decode cL_order 17 = .ok (.iconst 0, 1) := by decide +kernel
theorem dL_order_18 : decode cL_order 18 = .ok (.ireturn, 1) := by decide +kernel
theorem dL_order_13 : decode cL_order 13 = .ok (.astore 4, 2) := by decide +kernel
theorem dL_order_15 : decode cL_order 15 = .ok (.iconst 1, 1) := by decide +kernel
theorem dL_order_16 : decode cL_order 16 = .ok (.ireturn, 1) := by decide +kernel
abbrev rmW_order : Room := { frames := rm11_order.frames + 1, cells := 4, slots := 24, locals := 8 + (3 + 11) + rm11_order.locals }
set_option maxHeartbeats 4000000 in
set_option maxRecDepth 100000 in
theorem wr_order {l : Launch} {w : Wp} {ao : Nat} {cJ : ClassId} {σ : St} {o : Int64} {p0 : Int32} {p1 : Int32} (hi : zI kdC w) (hlt : l.stackTraces = false) (hao : ∀ i, i < kdC.length → w.2.2.1 i ≠ ao) {r : Sum Nat Int32 × St} (hf : q11_order σ p0 p1 = some r) (hx : ∀ e, r.1 = .inl e → e ∈ ([2] : List Nat)) : wM l w ao cJ yL_order cL_order 5 [(0, 10, 13, 24)] rmW_order [.ref (w.2.2.1 0), .int p0, .int p1, .ref ao] σ o (wk [2] r) r.2 (wo (fun v => v) r o) := wM_of rfl (Nat.le_of_ble_eq_true rfl) (fun Θ hl hw C hA hAo htab => by
  have hlt2 : Θ.1.2.1.stackTraces = false := by rw [hl]; exact hlt
  have hw2 : Θ.2.2.2.2.2 = w := by rw [hw]
  have hkd : Θ.2.2.2.2.1 = kdC := by rw [hw]
  refine g_aload_n C 3 dL_order_0 rfl rfl ?_
  refine g_iconst (v := 0) C dL_order_1 rfl ?_
  refine g_aload_n C 0 dL_order_2 rfl rfl ?_
  refine g_iload_n C 1 dL_order_3 rfl rfl ?_
  refine g_iload_n C 2 dL_order_4 rfl rfl ?_
  refine w_call C hw2 hkd hA hao (fun v => v) [.int p0, .int p1] r 1 6 2 rfl (c11_order (l := Θ.1.2.1) (person_a := p0) (k_a := p1) rfl hi hlt2 hf) w_6_229 w_6_226 w_6_227 w_6_228 w_1_1 ⟨rfl, rfl, (Nat.le_of_ble_eq_true rfl), (Nat.le_of_ble_eq_true rfl)⟩ (by decide +kernel) rfl rfl (Nat.le_of_ble_eq_true rfl) ⟨(Nat.le_of_ble_eq_true rfl), (Nat.le_of_ble_eq_true rfl)⟩ dL_order_5 (fun v hv => ?_) (fun e he => ?_)
  · rw [wk_r hv, wo_r hv]
    refine g_i2l C dL_order_8 ?_
    refine w_last C hw2 hAo hao dL_order_9 ?_
    refine g_goto C 17 dL_order_10 (by decide) ?_
    refine g_iconst (v := 0) C dL_order_17 rfl ?_
    exact w_ret C ⟨(Nat.le_of_ble_eq_true rfl), (Nat.le_of_ble_eq_true rfl)⟩ dL_order_18
  · have h9 : e = 2 := by simpa using hx e he
    subst h9
    rw [wk_l (k := 1) he (by decide +kernel), wo_l he]
    refine ⟨[], ⟨0, 10, 13, 24⟩, [], "java/lang/IndexOutOfBoundsException", htab, (fun z hz => nomatch hz), rfl, by decide, w_5_218, List.mem_of_getElem? (i := 21) rfl, fun q => ?_⟩
    refine g_astore C dL_order_13 (Nat.le_of_ble_eq_true rfl) rfl ?_
    refine g_iconst (v := 1) C dL_order_15 rfl ?_
    exact w_ret C ⟨(Nat.le_of_ble_eq_true rfl), (Nat.le_of_ble_eq_true rfl)⟩ dL_order_16)
/-! wrapper rota -/
theorem dL_rota_0 : decode cL_rota 0 = .ok (.aload_n 3, 1) := by decide +kernel
theorem dL_rota_1 : decode cL_rota 1 = .ok (.iconst 0, 1) := by decide +kernel
theorem dL_rota_2 : decode cL_rota 2 = .ok (.aload_n 0, 1) := by decide +kernel
theorem dL_rota_3 : decode cL_rota 3 = .ok (.iload_n 1, 1) := by decide +kernel
theorem dL_rota_4 : decode cL_rota 4 = .ok (.iload_n 2, 1) := by decide +kernel
theorem w_7_3 : Cond.selects "LastLoaf" ({ cls := "LastLoaf", name := "rota", desc := "(II)I" } : MethodName) ({ cls := "LastLoaf", name := "rota", desc := "(II)I" } : MethodName) ∈ TB := tb_in (lwt_7 (List.mem_of_getElem? (i := 3) (by decide +kernel))) rfl
theorem w_7_4 : Cond.code ({ cls := "LastLoaf", name := "rota", desc := "(II)I" } : MethodName) prog_1_method_29_code (3 : Nat) (Option.some ClassFile.FieldType.int) ∈ TB := tb_in (lwt_7 (List.mem_of_getElem? (i := 4) (by decide +kernel))) rfl
theorem w_7_1 : Cond.methodLink "LastLoafLaw" (91 : Nat) ({ cls := "LastLoaf", name := "rota", desc := "(II)I" } : MethodName) ∈ TB := tb_in (lwt_7 (List.mem_of_getElem? (i := 1) (by decide +kernel))) rfl
theorem w_7_2 : Cond.instanceMethod ({ cls := "LastLoaf", name := "rota", desc := "(II)I" } : MethodName) ∈ TB := tb_in (lwt_7 (List.mem_of_getElem? (i := 2) (by decide +kernel))) rfl
theorem dL_rota_5 : decode cL_rota 5 = .ok (.invokevirtual 91, 3) := by decide +kernel
theorem dL_rota_8 : decode cL_rota 8 = .ok (.i2l, 1) := by decide +kernel
theorem dL_rota_9 : decode cL_rota 9 = .ok (.lastore, 1) := by decide +kernel
theorem dL_rota_10 : decode cL_rota 10 = .ok (.goto 7, 3) := by decide +kernel
theorem dL_rota_17 : decode cL_rota 17 = .ok (.iconst 0, 1) := by decide +kernel
theorem dL_rota_18 : decode cL_rota 18 = .ok (.ireturn, 1) := by decide +kernel
theorem dL_rota_13 : decode cL_rota 13 = .ok (.astore 4, 2) := by decide +kernel
theorem dL_rota_15 : decode cL_rota 15 = .ok (.iconst 1, 1) := by decide +kernel
theorem dL_rota_16 : decode cL_rota 16 = .ok (.ireturn, 1) := by decide +kernel
abbrev rmW_rota : Room := { frames := rm11_rota.frames + 1, cells := 4, slots := 24, locals := 8 + (3 + 11) + rm11_rota.locals }
set_option maxHeartbeats 4000000 in
set_option maxRecDepth 100000 in
theorem wr_rota {l : Launch} {w : Wp} {ao : Nat} {cJ : ClassId} {σ : St} {o : Int64} {p0 : Int32} {p1 : Int32} (hi : zI kdC w) (hlt : l.stackTraces = false) (hao : ∀ i, i < kdC.length → w.2.2.1 i ≠ ao) {r : Sum Nat Int32 × St} (hf : q11_rota σ p0 p1 = some r) (hx : ∀ e, r.1 = .inl e → e ∈ ([0] : List Nat)) : wM l w ao cJ yL_rota cL_rota 5 [(0, 10, 13, 13)] rmW_rota [.ref (w.2.2.1 0), .int p0, .int p1, .ref ao] σ o (wk [0] r) r.2 (wo (fun v => v) r o) := wM_of rfl (Nat.le_of_ble_eq_true rfl) (fun Θ hl hw C hA hAo htab => by
  have hlt2 : Θ.1.2.1.stackTraces = false := by rw [hl]; exact hlt
  have hw2 : Θ.2.2.2.2.2 = w := by rw [hw]
  have hkd : Θ.2.2.2.2.1 = kdC := by rw [hw]
  refine g_aload_n C 3 dL_rota_0 rfl rfl ?_
  refine g_iconst (v := 0) C dL_rota_1 rfl ?_
  refine g_aload_n C 0 dL_rota_2 rfl rfl ?_
  refine g_iload_n C 1 dL_rota_3 rfl rfl ?_
  refine g_iload_n C 2 dL_rota_4 rfl rfl ?_
  refine w_call C hw2 hkd hA hao (fun v => v) [.int p0, .int p1] r 1 6 2 rfl (c11_rota (l := Θ.1.2.1) (n_a := p0) (k_a := p1) rfl hi hlt2 hf) w_7_4 w_7_1 w_7_2 w_7_3 w_1_1 ⟨rfl, rfl, (Nat.le_of_ble_eq_true rfl), (Nat.le_of_ble_eq_true rfl)⟩ (by decide +kernel) rfl rfl (Nat.le_of_ble_eq_true rfl) ⟨(Nat.le_of_ble_eq_true rfl), (Nat.le_of_ble_eq_true rfl)⟩ dL_rota_5 (fun v hv => ?_) (fun e he => ?_)
  · rw [wk_r hv, wo_r hv]
    refine g_i2l C dL_rota_8 ?_
    refine w_last C hw2 hAo hao dL_rota_9 ?_
    refine g_goto C 17 dL_rota_10 (by decide) ?_
    refine g_iconst (v := 0) C dL_rota_17 rfl ?_
    exact w_ret C ⟨(Nat.le_of_ble_eq_true rfl), (Nat.le_of_ble_eq_true rfl)⟩ dL_rota_18
  · have h9 : e = 0 := by simpa using hx e he
    subst h9
    rw [wk_l (k := 1) he (by decide +kernel), wo_l he]
    refine ⟨[], ⟨0, 10, 13, 13⟩, [], "java/lang/IllegalArgumentException", htab, (fun z hz => nomatch hz), rfl, by decide, w_4_161, List.mem_of_getElem? (i := 13) rfl, fun q => ?_⟩
    refine g_astore C dL_rota_13 (Nat.le_of_ble_eq_true rfl) rfl ?_
    refine g_iconst (v := 1) C dL_rota_15 rfl ?_
    exact w_ret C ⟨(Nat.le_of_ble_eq_true rfl), (Nat.le_of_ble_eq_true rfl)⟩ dL_rota_16)
/-! wrapper mill -/
theorem dL_mill_0 : decode cL_mill 0 = .ok (.aload_n 2, 1) := by decide +kernel
theorem dL_mill_1 : decode cL_mill 1 = .ok (.iconst 0, 1) := by decide +kernel
theorem dL_mill_2 : decode cL_mill 2 = .ok (.aload_n 0, 1) := by decide +kernel
theorem dL_mill_3 : decode cL_mill 3 = .ok (.iload_n 1, 1) := by decide +kernel
theorem w_7_28 : Cond.selects "LastLoaf" ({ cls := "LastLoaf", name := "mill", desc := "(I)I" } : MethodName) ({ cls := "LastLoaf", name := "mill", desc := "(I)I" } : MethodName) ∈ TB := tb_in (lwt_7 (List.mem_of_getElem? (i := 28) (by decide +kernel))) rfl
theorem w_7_29 : Cond.code ({ cls := "LastLoaf", name := "mill", desc := "(I)I" } : MethodName) prog_1_method_31_code (3 : Nat) (Option.some ClassFile.FieldType.int) ∈ TB := tb_in (lwt_7 (List.mem_of_getElem? (i := 29) (by decide +kernel))) rfl
theorem w_7_26 : Cond.methodLink "LastLoafLaw" (94 : Nat) ({ cls := "LastLoaf", name := "mill", desc := "(I)I" } : MethodName) ∈ TB := tb_in (lwt_7 (List.mem_of_getElem? (i := 26) (by decide +kernel))) rfl
theorem w_7_27 : Cond.instanceMethod ({ cls := "LastLoaf", name := "mill", desc := "(I)I" } : MethodName) ∈ TB := tb_in (lwt_7 (List.mem_of_getElem? (i := 27) (by decide +kernel))) rfl
theorem dL_mill_4 : decode cL_mill 4 = .ok (.invokevirtual 94, 3) := by decide +kernel
theorem dL_mill_7 : decode cL_mill 7 = .ok (.i2l, 1) := by decide +kernel
theorem dL_mill_8 : decode cL_mill 8 = .ok (.lastore, 1) := by decide +kernel
theorem dL_mill_9 : decode cL_mill 9 = .ok (.goto 6, 3) := by decide +kernel
theorem dL_mill_15 : decode cL_mill 15 = .ok (.iconst 0, 1) := by decide +kernel
theorem dL_mill_16 : decode cL_mill 16 = .ok (.ireturn, 1) := by decide +kernel
theorem dL_mill_12 : decode cL_mill 12 = .ok (.astore_n 3, 1) := by decide +kernel
theorem dL_mill_13 : decode cL_mill 13 = .ok (.iconst 1, 1) := by decide +kernel
theorem dL_mill_14 : decode cL_mill 14 = .ok (.ireturn, 1) := by decide +kernel
abbrev rmW_mill : Room := { frames := rm11_mill.frames + 1, cells := 4, slots := 24, locals := 8 + (3 + 11) + rm11_mill.locals }
set_option maxHeartbeats 4000000 in
set_option maxRecDepth 100000 in
theorem wr_mill {l : Launch} {w : Wp} {ao : Nat} {cJ : ClassId} {σ : St} {o : Int64} {p0 : Int32} (hi : zI kdC w) (hlt : l.stackTraces = false) (hao : ∀ i, i < kdC.length → w.2.2.1 i ≠ ao) {r : Sum Nat Int32 × St} (hf : q11_mill σ p0 = some r) (hx : ∀ e, r.1 = .inl e → e ∈ ([0] : List Nat)) : wM l w ao cJ yL_mill cL_mill 4 [(0, 9, 12, 13)] rmW_mill [.ref (w.2.2.1 0), .int p0, .ref ao] σ o (wk [0] r) r.2 (wo (fun v => v) r o) := wM_of rfl (Nat.le_of_ble_eq_true rfl) (fun Θ hl hw C hA hAo htab => by
  have hlt2 : Θ.1.2.1.stackTraces = false := by rw [hl]; exact hlt
  have hw2 : Θ.2.2.2.2.2 = w := by rw [hw]
  have hkd : Θ.2.2.2.2.1 = kdC := by rw [hw]
  refine g_aload_n C 2 dL_mill_0 rfl rfl ?_
  refine g_iconst (v := 0) C dL_mill_1 rfl ?_
  refine g_aload_n C 0 dL_mill_2 rfl rfl ?_
  refine g_iload_n C 1 dL_mill_3 rfl rfl ?_
  refine w_call C hw2 hkd hA hao (fun v => v) [.int p0] r 1 6 1 rfl (c11_mill (l := Θ.1.2.1) (n_a := p0) rfl hi hlt2 hf) w_7_29 w_7_26 w_7_27 w_7_28 w_1_1 ⟨rfl, rfl, (Nat.le_of_ble_eq_true rfl), (Nat.le_of_ble_eq_true rfl)⟩ (by decide +kernel) rfl rfl (Nat.le_of_ble_eq_true rfl) ⟨(Nat.le_of_ble_eq_true rfl), (Nat.le_of_ble_eq_true rfl)⟩ dL_mill_4 (fun v hv => ?_) (fun e he => ?_)
  · rw [wk_r hv, wo_r hv]
    refine g_i2l C dL_mill_7 ?_
    refine w_last C hw2 hAo hao dL_mill_8 ?_
    refine g_goto C 15 dL_mill_9 (by decide) ?_
    refine g_iconst (v := 0) C dL_mill_15 rfl ?_
    exact w_ret C ⟨(Nat.le_of_ble_eq_true rfl), (Nat.le_of_ble_eq_true rfl)⟩ dL_mill_16
  · have h9 : e = 0 := by simpa using hx e he
    subst h9
    rw [wk_l (k := 1) he (by decide +kernel), wo_l he]
    refine ⟨[], ⟨0, 9, 12, 13⟩, [], "java/lang/IllegalArgumentException", htab, (fun z hz => nomatch hz), rfl, by decide, w_4_161, List.mem_of_getElem? (i := 13) rfl, fun q => ?_⟩
    refine g_astore_n C dL_mill_12 rfl (Nat.le_of_ble_eq_true rfl) rfl ?_
    refine g_iconst (v := 1) C dL_mill_13 rfl ?_
    exact w_ret C ⟨(Nat.le_of_ble_eq_true rfl), (Nat.le_of_ble_eq_true rfl)⟩ dL_mill_14)
/-! wrapper ballots -/
theorem dL_ballots_0 : decode cL_ballots 0 = .ok (.aload_n 1, 1) := by decide +kernel
theorem dL_ballots_1 : decode cL_ballots 1 = .ok (.iconst 0, 1) := by decide +kernel
theorem dL_ballots_2 : decode cL_ballots 2 = .ok (.aload_n 0, 1) := by decide +kernel
theorem w_7_36 : Cond.selects "LastLoaf" ({ cls := "LastLoaf", name := "ballots", desc := "()I" } : MethodName) ({ cls := "LastLoaf", name := "ballots", desc := "()I" } : MethodName) ∈ TB := tb_in (lwt_7 (List.mem_of_getElem? (i := 36) (by decide +kernel))) rfl
theorem w_7_37 : Cond.code ({ cls := "LastLoaf", name := "ballots", desc := "()I" } : MethodName) prog_1_method_33_code (1 : Nat) (Option.some ClassFile.FieldType.int) ∈ TB := tb_in (lwt_7 (List.mem_of_getElem? (i := 37) (by decide +kernel))) rfl
theorem w_7_34 : Cond.methodLink "LastLoafLaw" (97 : Nat) ({ cls := "LastLoaf", name := "ballots", desc := "()I" } : MethodName) ∈ TB := tb_in (lwt_7 (List.mem_of_getElem? (i := 34) (by decide +kernel))) rfl
theorem w_7_35 : Cond.instanceMethod ({ cls := "LastLoaf", name := "ballots", desc := "()I" } : MethodName) ∈ TB := tb_in (lwt_7 (List.mem_of_getElem? (i := 35) (by decide +kernel))) rfl
theorem dL_ballots_3 : decode cL_ballots 3 = .ok (.invokevirtual 97, 3) := by decide +kernel
theorem dL_ballots_6 : decode cL_ballots 6 = .ok (.i2l, 1) := by decide +kernel
theorem dL_ballots_7 : decode cL_ballots 7 = .ok (.lastore, 1) := by decide +kernel
theorem dL_ballots_8 : decode cL_ballots 8 = .ok (.goto 6, 3) := by decide +kernel
theorem dL_ballots_14 : decode cL_ballots 14 = .ok (.iconst 0, 1) := by decide +kernel
theorem dL_ballots_15 : decode cL_ballots 15 = .ok (.ireturn, 1) := by decide +kernel
theorem dL_ballots_11 : decode cL_ballots 11 = .ok (.astore_n 2, 1) := by decide +kernel
theorem dL_ballots_12 : decode cL_ballots 12 = .ok (.iconst 1, 1) := by decide +kernel
theorem dL_ballots_13 : decode cL_ballots 13 = .ok (.ireturn, 1) := by decide +kernel
abbrev rmW_ballots : Room := { frames := rm11_ballots.frames + 1, cells := 4, slots := 24, locals := 8 + (1 + 11) + rm11_ballots.locals }
set_option maxHeartbeats 4000000 in
set_option maxRecDepth 100000 in
theorem wr_ballots {l : Launch} {w : Wp} {ao : Nat} {cJ : ClassId} {σ : St} {o : Int64} (hi : zI kdC w) (hlt : l.stackTraces = false) (hao : ∀ i, i < kdC.length → w.2.2.1 i ≠ ao) {r : Sum Nat Int32 × St} (hf : q11_ballots σ  = some r) (hx : ∀ e, r.1 = .inl e → e ∈ ([0] : List Nat)) : wM l w ao cJ yL_ballots cL_ballots 3 [(0, 8, 11, 13)] rmW_ballots [.ref (w.2.2.1 0), .ref ao] σ o (wk [0] r) r.2 (wo (fun v => v) r o) := wM_of rfl (Nat.le_of_ble_eq_true rfl) (fun Θ hl hw C hA hAo htab => by
  have hlt2 : Θ.1.2.1.stackTraces = false := by rw [hl]; exact hlt
  have hw2 : Θ.2.2.2.2.2 = w := by rw [hw]
  have hkd : Θ.2.2.2.2.1 = kdC := by rw [hw]
  refine g_aload_n C 1 dL_ballots_0 rfl rfl ?_
  refine g_iconst (v := 0) C dL_ballots_1 rfl ?_
  refine g_aload_n C 0 dL_ballots_2 rfl rfl ?_
  refine w_call C hw2 hkd hA hao (fun v => v) [] r 1 6 0 rfl (c11_ballots (l := Θ.1.2.1)  rfl hi hlt2 hf) w_7_37 w_7_34 w_7_35 w_7_36 w_1_1 ⟨rfl, rfl, (Nat.le_of_ble_eq_true rfl), (Nat.le_of_ble_eq_true rfl)⟩ (by decide +kernel) rfl rfl (Nat.le_of_ble_eq_true rfl) ⟨(Nat.le_of_ble_eq_true rfl), (Nat.le_of_ble_eq_true rfl)⟩ dL_ballots_3 (fun v hv => ?_) (fun e he => ?_)
  · rw [wk_r hv, wo_r hv]
    refine g_i2l C dL_ballots_6 ?_
    refine w_last C hw2 hAo hao dL_ballots_7 ?_
    refine g_goto C 14 dL_ballots_8 (by decide) ?_
    refine g_iconst (v := 0) C dL_ballots_14 rfl ?_
    exact w_ret C ⟨(Nat.le_of_ble_eq_true rfl), (Nat.le_of_ble_eq_true rfl)⟩ dL_ballots_15
  · have h9 : e = 0 := by simpa using hx e he
    subst h9
    rw [wk_l (k := 1) he (by decide +kernel), wo_l he]
    refine ⟨[], ⟨0, 8, 11, 13⟩, [], "java/lang/IllegalArgumentException", htab, (fun z hz => nomatch hz), rfl, by decide, w_4_161, List.mem_of_getElem? (i := 13) rfl, fun q => ?_⟩
    refine g_astore_n C dL_ballots_11 rfl (Nat.le_of_ble_eq_true rfl) rfl ?_
    refine g_iconst (v := 1) C dL_ballots_12 rfl ?_
    exact w_ret C ⟨(Nat.le_of_ble_eq_true rfl), (Nat.le_of_ble_eq_true rfl)⟩ dL_ballots_13)
/-! wrapper sure -/
theorem dL_sure_0 : decode cL_sure 0 = .ok (.aload_n 2, 1) := by decide +kernel
theorem dL_sure_1 : decode cL_sure 1 = .ok (.iconst 0, 1) := by decide +kernel
theorem dL_sure_2 : decode cL_sure 2 = .ok (.aload_n 0, 1) := by decide +kernel
theorem dL_sure_3 : decode cL_sure 3 = .ok (.iload_n 1, 1) := by decide +kernel
theorem w_7_96 : Cond.selects "LastLoaf" ({ cls := "LastLoaf", name := "sure", desc := "(I)I" } : MethodName) ({ cls := "LastLoaf", name := "sure", desc := "(I)I" } : MethodName) ∈ TB := tb_in (lwt_7 (List.mem_of_getElem? (i := 96) (by decide +kernel))) rfl
theorem w_7_97 : Cond.code ({ cls := "LastLoaf", name := "sure", desc := "(I)I" } : MethodName) prog_1_method_34_code (3 : Nat) (Option.some ClassFile.FieldType.int) ∈ TB := tb_in (lwt_7 (List.mem_of_getElem? (i := 97) (by decide +kernel))) rfl
theorem w_7_94 : Cond.methodLink "LastLoafLaw" (100 : Nat) ({ cls := "LastLoaf", name := "sure", desc := "(I)I" } : MethodName) ∈ TB := tb_in (lwt_7 (List.mem_of_getElem? (i := 94) (by decide +kernel))) rfl
theorem w_7_95 : Cond.instanceMethod ({ cls := "LastLoaf", name := "sure", desc := "(I)I" } : MethodName) ∈ TB := tb_in (lwt_7 (List.mem_of_getElem? (i := 95) (by decide +kernel))) rfl
theorem dL_sure_4 : decode cL_sure 4 = .ok (.invokevirtual 100, 3) := by decide +kernel
theorem dL_sure_7 : decode cL_sure 7 = .ok (.i2l, 1) := by decide +kernel
theorem dL_sure_8 : decode cL_sure 8 = .ok (.lastore, 1) := by decide +kernel
theorem dL_sure_9 : decode cL_sure 9 = .ok (.goto 9, 3) := by decide +kernel
theorem dL_sure_18 : decode cL_sure 18 = .ok (.iconst 0, 1) := by decide +kernel
theorem dL_sure_19 : decode cL_sure 19 = .ok (.ireturn, 1) := by decide +kernel
theorem dL_sure_12 : decode cL_sure 12 = .ok (.astore_n 3, 1) := by decide +kernel
theorem dL_sure_13 : decode cL_sure 13 = .ok (.iconst 1, 1) := by decide +kernel
theorem dL_sure_14 : decode cL_sure 14 = .ok (.ireturn, 1) := by decide +kernel
theorem dL_sure_15 : decode cL_sure 15 = .ok (.astore_n 3, 1) := by decide +kernel
theorem dL_sure_16 : decode cL_sure 16 = .ok (.iconst 2, 1) := by decide +kernel
theorem dL_sure_17 : decode cL_sure 17 = .ok (.ireturn, 1) := by decide +kernel
abbrev rmW_sure : Room := { frames := rm11_sure.frames + 1, cells := 4, slots := 24, locals := 8 + (3 + 11) + rm11_sure.locals }
set_option maxHeartbeats 4000000 in
set_option maxRecDepth 100000 in
theorem wr_sure {l : Launch} {w : Wp} {ao : Nat} {cJ : ClassId} {σ : St} {o : Int64} {p0 : Int32} (hi : zI kdC w) (hlt : l.stackTraces = false) (hao : ∀ i, i < kdC.length → w.2.2.1 i ≠ ao) {r : Sum Nat Int32 × St} (hf : q11_sure σ p0 = some r) (hx : ∀ e, r.1 = .inl e → e ∈ ([2, 0] : List Nat)) : wM l w ao cJ yL_sure cL_sure 4 [(0, 9, 12, 24), (0, 9, 15, 13)] rmW_sure [.ref (w.2.2.1 0), .int p0, .ref ao] σ o (wk [2, 0] r) r.2 (wo (fun v => v) r o) := wM_of rfl (Nat.le_of_ble_eq_true rfl) (fun Θ hl hw C hA hAo htab => by
  have hlt2 : Θ.1.2.1.stackTraces = false := by rw [hl]; exact hlt
  have hw2 : Θ.2.2.2.2.2 = w := by rw [hw]
  have hkd : Θ.2.2.2.2.1 = kdC := by rw [hw]
  refine g_aload_n C 2 dL_sure_0 rfl rfl ?_
  refine g_iconst (v := 0) C dL_sure_1 rfl ?_
  refine g_aload_n C 0 dL_sure_2 rfl rfl ?_
  refine g_iload_n C 1 dL_sure_3 rfl rfl ?_
  refine w_call C hw2 hkd hA hao (fun v => v) [.int p0] r 2 12 1 rfl (c11_sure (l := Θ.1.2.1) (person_a := p0) rfl hi hlt2 hf) w_7_97 w_7_94 w_7_95 w_7_96 w_1_1 ⟨rfl, rfl, (Nat.le_of_ble_eq_true rfl), (Nat.le_of_ble_eq_true rfl)⟩ (by decide +kernel) rfl rfl (Nat.le_of_ble_eq_true rfl) ⟨(Nat.le_of_ble_eq_true rfl), (Nat.le_of_ble_eq_true rfl)⟩ dL_sure_4 (fun v hv => ?_) (fun e he => ?_)
  · rw [wk_r hv, wo_r hv]
    refine g_i2l C dL_sure_7 ?_
    refine w_last C hw2 hAo hao dL_sure_8 ?_
    refine g_goto C 18 dL_sure_9 (by decide) ?_
    refine g_iconst (v := 0) C dL_sure_18 rfl ?_
    exact w_ret C ⟨(Nat.le_of_ble_eq_true rfl), (Nat.le_of_ble_eq_true rfl)⟩ dL_sure_19
  · have h9 : e = 2 ∨ e = 0 := by simpa using hx e he
    rcases h9 with rfl | rfl
    · rw [wk_l (k := 1) he (by decide +kernel), wo_l he]
      refine ⟨[], ⟨0, 9, 12, 24⟩, [⟨0, 9, 15, 13⟩], "java/lang/IndexOutOfBoundsException", htab, (fun z hz => nomatch hz), rfl, by decide, w_5_218, List.mem_of_getElem? (i := 21) rfl, fun q => ?_⟩
      refine g_astore_n C dL_sure_12 rfl (Nat.le_of_ble_eq_true rfl) rfl ?_
      refine g_iconst (v := 1) C dL_sure_13 rfl ?_
      exact w_ret C ⟨(Nat.le_of_ble_eq_true rfl), (Nat.le_of_ble_eq_true rfl)⟩ dL_sure_14
    · rw [wk_l (k := 2) he (by decide +kernel), wo_l he]
      refine ⟨[⟨0, 9, 12, 24⟩], ⟨0, 9, 15, 13⟩, [], "java/lang/IllegalArgumentException", htab, (fun z hz => by (cases List.mem_singleton.mp hz); exact Or.inr ⟨by decide, "java/lang/IndexOutOfBoundsException", w_5_218, List.mem_of_getElem? (i := 1) rfl⟩), rfl, by decide, w_4_161, List.mem_of_getElem? (i := 13) rfl, fun q => ?_⟩
      refine g_astore_n C dL_sure_15 rfl (Nat.le_of_ble_eq_true rfl) rfl ?_
      refine g_iconst (v := 2) C dL_sure_16 rfl ?_
      exact w_ret C ⟨(Nat.le_of_ble_eq_true rfl), (Nat.le_of_ble_eq_true rfl)⟩ dL_sure_17)
/-! wrapper ask -/
theorem dL_ask_0 : decode cL_ask 0 = .ok (.aload_n 1, 1) := by decide +kernel
theorem dL_ask_1 : decode cL_ask 1 = .ok (.iconst 0, 1) := by decide +kernel
theorem dL_ask_2 : decode cL_ask 2 = .ok (.aload_n 0, 1) := by decide +kernel
theorem w_7_111 : Cond.selects "LastLoaf" ({ cls := "LastLoaf", name := "ask", desc := "()I" } : MethodName) ({ cls := "LastLoaf", name := "ask", desc := "()I" } : MethodName) ∈ TB := tb_in (lwt_7 (List.mem_of_getElem? (i := 111) (by decide +kernel))) rfl
theorem w_7_112 : Cond.code ({ cls := "LastLoaf", name := "ask", desc := "()I" } : MethodName) prog_1_method_35_code (1 : Nat) (Option.some ClassFile.FieldType.int) ∈ TB := tb_in (lwt_7 (List.mem_of_getElem? (i := 112) (by decide +kernel))) rfl
theorem w_7_109 : Cond.methodLink "LastLoafLaw" (103 : Nat) ({ cls := "LastLoaf", name := "ask", desc := "()I" } : MethodName) ∈ TB := tb_in (lwt_7 (List.mem_of_getElem? (i := 109) (by decide +kernel))) rfl
theorem w_7_110 : Cond.instanceMethod ({ cls := "LastLoaf", name := "ask", desc := "()I" } : MethodName) ∈ TB := tb_in (lwt_7 (List.mem_of_getElem? (i := 110) (by decide +kernel))) rfl
theorem dL_ask_3 : decode cL_ask 3 = .ok (.invokevirtual 103, 3) := by decide +kernel
theorem dL_ask_6 : decode cL_ask 6 = .ok (.i2l, 1) := by decide +kernel
theorem dL_ask_7 : decode cL_ask 7 = .ok (.lastore, 1) := by decide +kernel
theorem dL_ask_8 : decode cL_ask 8 = .ok (.goto 6, 3) := by decide +kernel
theorem dL_ask_14 : decode cL_ask 14 = .ok (.iconst 0, 1) := by decide +kernel
theorem dL_ask_15 : decode cL_ask 15 = .ok (.ireturn, 1) := by decide +kernel
theorem dL_ask_11 : decode cL_ask 11 = .ok (.astore_n 2, 1) := by decide +kernel
theorem dL_ask_12 : decode cL_ask 12 = .ok (.iconst 1, 1) := by decide +kernel
theorem dL_ask_13 : decode cL_ask 13 = .ok (.ireturn, 1) := by decide +kernel
abbrev rmW_ask : Room := { frames := rm11_ask.frames + 1, cells := 4, slots := 24, locals := 8 + (1 + 11) + rm11_ask.locals }
set_option maxHeartbeats 4000000 in
set_option maxRecDepth 100000 in
theorem wr_ask {l : Launch} {w : Wp} {ao : Nat} {cJ : ClassId} {σ : St} {o : Int64} (hi : zI kdC w) (hlt : l.stackTraces = false) (hao : ∀ i, i < kdC.length → w.2.2.1 i ≠ ao) {r : Sum Nat Int32 × St} (hf : q11_ask σ  = some r) (hx : ∀ e, r.1 = .inl e → e ∈ ([0] : List Nat)) : wM l w ao cJ yL_ask cL_ask 3 [(0, 8, 11, 13)] rmW_ask [.ref (w.2.2.1 0), .ref ao] σ o (wk [0] r) r.2 (wo (fun v => v) r o) := wM_of rfl (Nat.le_of_ble_eq_true rfl) (fun Θ hl hw C hA hAo htab => by
  have hlt2 : Θ.1.2.1.stackTraces = false := by rw [hl]; exact hlt
  have hw2 : Θ.2.2.2.2.2 = w := by rw [hw]
  have hkd : Θ.2.2.2.2.1 = kdC := by rw [hw]
  refine g_aload_n C 1 dL_ask_0 rfl rfl ?_
  refine g_iconst (v := 0) C dL_ask_1 rfl ?_
  refine g_aload_n C 0 dL_ask_2 rfl rfl ?_
  refine w_call C hw2 hkd hA hao (fun v => v) [] r 1 6 0 rfl (c11_ask (l := Θ.1.2.1)  rfl hi hlt2 hf) w_7_112 w_7_109 w_7_110 w_7_111 w_1_1 ⟨rfl, rfl, (Nat.le_of_ble_eq_true rfl), (Nat.le_of_ble_eq_true rfl)⟩ (by decide +kernel) rfl rfl (Nat.le_of_ble_eq_true rfl) ⟨(Nat.le_of_ble_eq_true rfl), (Nat.le_of_ble_eq_true rfl)⟩ dL_ask_3 (fun v hv => ?_) (fun e he => ?_)
  · rw [wk_r hv, wo_r hv]
    refine g_i2l C dL_ask_6 ?_
    refine w_last C hw2 hAo hao dL_ask_7 ?_
    refine g_goto C 14 dL_ask_8 (by decide) ?_
    refine g_iconst (v := 0) C dL_ask_14 rfl ?_
    exact w_ret C ⟨(Nat.le_of_ble_eq_true rfl), (Nat.le_of_ble_eq_true rfl)⟩ dL_ask_15
  · have h9 : e = 0 := by simpa using hx e he
    subst h9
    rw [wk_l (k := 1) he (by decide +kernel), wo_l he]
    refine ⟨[], ⟨0, 8, 11, 13⟩, [], "java/lang/IllegalArgumentException", htab, (fun z hz => nomatch hz), rfl, by decide, w_4_161, List.mem_of_getElem? (i := 13) rfl, fun q => ?_⟩
    refine g_astore_n C dL_ask_11 rfl (Nat.le_of_ble_eq_true rfl) rfl ?_
    refine g_iconst (v := 1) C dL_ask_12 rfl ?_
    exact w_ret C ⟨(Nat.le_of_ble_eq_true rfl), (Nat.le_of_ble_eq_true rfl)⟩ dL_ask_13)
/-! wrapper swings -/
theorem dL_swings_0 : decode cL_swings 0 = .ok (.aload_n 2, 1) := by decide +kernel
theorem dL_swings_1 : decode cL_swings 1 = .ok (.iconst 0, 1) := by decide +kernel
theorem dL_swings_2 : decode cL_swings 2 = .ok (.aload_n 0, 1) := by decide +kernel
theorem dL_swings_3 : decode cL_swings 3 = .ok (.iload_n 1, 1) := by decide +kernel
theorem w_7_126 : Cond.selects "LastLoaf" ({ cls := "LastLoaf", name := "swings", desc := "(I)I" } : MethodName) ({ cls := "LastLoaf", name := "swings", desc := "(I)I" } : MethodName) ∈ TB := tb_in (lwt_7 (List.mem_of_getElem? (i := 126) (by decide +kernel))) rfl
theorem w_7_127 : Cond.code ({ cls := "LastLoaf", name := "swings", desc := "(I)I" } : MethodName) prog_1_method_37_code (2 : Nat) (Option.some ClassFile.FieldType.int) ∈ TB := tb_in (lwt_7 (List.mem_of_getElem? (i := 127) (by decide +kernel))) rfl
theorem w_7_124 : Cond.methodLink "LastLoafLaw" (106 : Nat) ({ cls := "LastLoaf", name := "swings", desc := "(I)I" } : MethodName) ∈ TB := tb_in (lwt_7 (List.mem_of_getElem? (i := 124) (by decide +kernel))) rfl
theorem w_7_125 : Cond.instanceMethod ({ cls := "LastLoaf", name := "swings", desc := "(I)I" } : MethodName) ∈ TB := tb_in (lwt_7 (List.mem_of_getElem? (i := 125) (by decide +kernel))) rfl
theorem dL_swings_4 : decode cL_swings 4 = .ok (.invokevirtual 106, 3) := by decide +kernel
theorem dL_swings_7 : decode cL_swings 7 = .ok (.i2l, 1) := by decide +kernel
theorem dL_swings_8 : decode cL_swings 8 = .ok (.lastore, 1) := by decide +kernel
theorem dL_swings_9 : decode cL_swings 9 = .ok (.goto 6, 3) := by decide +kernel
theorem dL_swings_15 : decode cL_swings 15 = .ok (.iconst 0, 1) := by decide +kernel
theorem dL_swings_16 : decode cL_swings 16 = .ok (.ireturn, 1) := by decide +kernel
theorem dL_swings_12 : decode cL_swings 12 = .ok (.astore_n 3, 1) := by decide +kernel
theorem dL_swings_13 : decode cL_swings 13 = .ok (.iconst 1, 1) := by decide +kernel
theorem dL_swings_14 : decode cL_swings 14 = .ok (.ireturn, 1) := by decide +kernel
abbrev rmW_swings : Room := { frames := rm11_swings.frames + 1, cells := 4, slots := 24, locals := 8 + (2 + 11) + rm11_swings.locals }
set_option maxHeartbeats 4000000 in
set_option maxRecDepth 100000 in
theorem wr_swings {l : Launch} {w : Wp} {ao : Nat} {cJ : ClassId} {σ : St} {o : Int64} {p0 : Int32} (hi : zI kdC w) (hlt : l.stackTraces = false) (hao : ∀ i, i < kdC.length → w.2.2.1 i ≠ ao) {r : Sum Nat Int32 × St} (hf : q11_swings σ p0 = some r) (hx : ∀ e, r.1 = .inl e → e ∈ ([2] : List Nat)) : wM l w ao cJ yL_swings cL_swings 4 [(0, 9, 12, 24)] rmW_swings [.ref (w.2.2.1 0), .int p0, .ref ao] σ o (wk [2] r) r.2 (wo (fun v => v) r o) := wM_of rfl (Nat.le_of_ble_eq_true rfl) (fun Θ hl hw C hA hAo htab => by
  have hlt2 : Θ.1.2.1.stackTraces = false := by rw [hl]; exact hlt
  have hw2 : Θ.2.2.2.2.2 = w := by rw [hw]
  have hkd : Θ.2.2.2.2.1 = kdC := by rw [hw]
  refine g_aload_n C 2 dL_swings_0 rfl rfl ?_
  refine g_iconst (v := 0) C dL_swings_1 rfl ?_
  refine g_aload_n C 0 dL_swings_2 rfl rfl ?_
  refine g_iload_n C 1 dL_swings_3 rfl rfl ?_
  refine w_call C hw2 hkd hA hao (fun v => v) [.int p0] r 1 6 1 rfl (c11_swings (l := Θ.1.2.1) (person_a := p0) rfl hi hlt2 hf) w_7_127 w_7_124 w_7_125 w_7_126 w_1_1 ⟨rfl, rfl, (Nat.le_of_ble_eq_true rfl), (Nat.le_of_ble_eq_true rfl)⟩ (by decide +kernel) rfl rfl (Nat.le_of_ble_eq_true rfl) ⟨(Nat.le_of_ble_eq_true rfl), (Nat.le_of_ble_eq_true rfl)⟩ dL_swings_4 (fun v hv => ?_) (fun e he => ?_)
  · rw [wk_r hv, wo_r hv]
    refine g_i2l C dL_swings_7 ?_
    refine w_last C hw2 hAo hao dL_swings_8 ?_
    refine g_goto C 15 dL_swings_9 (by decide) ?_
    refine g_iconst (v := 0) C dL_swings_15 rfl ?_
    exact w_ret C ⟨(Nat.le_of_ble_eq_true rfl), (Nat.le_of_ble_eq_true rfl)⟩ dL_swings_16
  · have h9 : e = 2 := by simpa using hx e he
    subst h9
    rw [wk_l (k := 1) he (by decide +kernel), wo_l he]
    refine ⟨[], ⟨0, 9, 12, 24⟩, [], "java/lang/IndexOutOfBoundsException", htab, (fun z hz => nomatch hz), rfl, by decide, w_5_218, List.mem_of_getElem? (i := 21) rfl, fun q => ?_⟩
    refine g_astore_n C dL_swings_12 rfl (Nat.le_of_ble_eq_true rfl) rfl ?_
    refine g_iconst (v := 1) C dL_swings_13 rfl ?_
    exact w_ret C ⟨(Nat.le_of_ble_eq_true rfl), (Nat.le_of_ble_eq_true rfl)⟩ dL_swings_14)
/-! wrapper bloc -/
theorem dL_bloc_0 : decode cL_bloc 0 = .ok (.aload_n 2, 1) := by decide +kernel
theorem dL_bloc_1 : decode cL_bloc 1 = .ok (.iconst 0, 1) := by decide +kernel
theorem dL_bloc_2 : decode cL_bloc 2 = .ok (.aload_n 0, 1) := by decide +kernel
theorem dL_bloc_3 : decode cL_bloc 3 = .ok (.iload_n 1, 1) := by decide +kernel
theorem w_7_133 : Cond.selects "LastLoaf" ({ cls := "LastLoaf", name := "bloc", desc := "(I)I" } : MethodName) ({ cls := "LastLoaf", name := "bloc", desc := "(I)I" } : MethodName) ∈ TB := tb_in (lwt_7 (List.mem_of_getElem? (i := 133) (by decide +kernel))) rfl
theorem w_7_134 : Cond.code ({ cls := "LastLoaf", name := "bloc", desc := "(I)I" } : MethodName) prog_1_method_39_code (4 : Nat) (Option.some ClassFile.FieldType.int) ∈ TB := tb_in (lwt_7 (List.mem_of_getElem? (i := 134) (by decide +kernel))) rfl
theorem w_7_131 : Cond.methodLink "LastLoafLaw" (109 : Nat) ({ cls := "LastLoaf", name := "bloc", desc := "(I)I" } : MethodName) ∈ TB := tb_in (lwt_7 (List.mem_of_getElem? (i := 131) (by decide +kernel))) rfl
theorem w_7_132 : Cond.instanceMethod ({ cls := "LastLoaf", name := "bloc", desc := "(I)I" } : MethodName) ∈ TB := tb_in (lwt_7 (List.mem_of_getElem? (i := 132) (by decide +kernel))) rfl
theorem dL_bloc_4 : decode cL_bloc 4 = .ok (.invokevirtual 109, 3) := by decide +kernel
theorem dL_bloc_7 : decode cL_bloc 7 = .ok (.i2l, 1) := by decide +kernel
theorem dL_bloc_8 : decode cL_bloc 8 = .ok (.lastore, 1) := by decide +kernel
theorem dL_bloc_9 : decode cL_bloc 9 = .ok (.goto 6, 3) := by decide +kernel
theorem dL_bloc_15 : decode cL_bloc 15 = .ok (.iconst 0, 1) := by decide +kernel
theorem dL_bloc_16 : decode cL_bloc 16 = .ok (.ireturn, 1) := by decide +kernel
theorem dL_bloc_12 : decode cL_bloc 12 = .ok (.astore_n 3, 1) := by decide +kernel
theorem dL_bloc_13 : decode cL_bloc 13 = .ok (.iconst 1, 1) := by decide +kernel
theorem dL_bloc_14 : decode cL_bloc 14 = .ok (.ireturn, 1) := by decide +kernel
abbrev rmW_bloc : Room := { frames := rm11_bloc.frames + 1, cells := 4, slots := 24, locals := 8 + (4 + 11) + rm11_bloc.locals }
set_option maxHeartbeats 4000000 in
set_option maxRecDepth 100000 in
theorem wr_bloc {l : Launch} {w : Wp} {ao : Nat} {cJ : ClassId} {σ : St} {o : Int64} {p0 : Int32} (hi : zI kdC w) (hlt : l.stackTraces = false) (hao : ∀ i, i < kdC.length → w.2.2.1 i ≠ ao) {r : Sum Nat Int32 × St} (hf : q11_bloc σ p0 = some r) (hx : ∀ e, r.1 = .inl e → e ∈ ([2] : List Nat)) : wM l w ao cJ yL_bloc cL_bloc 4 [(0, 9, 12, 24)] rmW_bloc [.ref (w.2.2.1 0), .int p0, .ref ao] σ o (wk [2] r) r.2 (wo (fun v => v) r o) := wM_of rfl (Nat.le_of_ble_eq_true rfl) (fun Θ hl hw C hA hAo htab => by
  have hlt2 : Θ.1.2.1.stackTraces = false := by rw [hl]; exact hlt
  have hw2 : Θ.2.2.2.2.2 = w := by rw [hw]
  have hkd : Θ.2.2.2.2.1 = kdC := by rw [hw]
  refine g_aload_n C 2 dL_bloc_0 rfl rfl ?_
  refine g_iconst (v := 0) C dL_bloc_1 rfl ?_
  refine g_aload_n C 0 dL_bloc_2 rfl rfl ?_
  refine g_iload_n C 1 dL_bloc_3 rfl rfl ?_
  refine w_call C hw2 hkd hA hao (fun v => v) [.int p0] r 1 6 1 rfl (c11_bloc (l := Θ.1.2.1) (party_a := p0) rfl hi hlt2 hf) w_7_134 w_7_131 w_7_132 w_7_133 w_1_1 ⟨rfl, rfl, (Nat.le_of_ble_eq_true rfl), (Nat.le_of_ble_eq_true rfl)⟩ (by decide +kernel) rfl rfl (Nat.le_of_ble_eq_true rfl) ⟨(Nat.le_of_ble_eq_true rfl), (Nat.le_of_ble_eq_true rfl)⟩ dL_bloc_4 (fun v hv => ?_) (fun e he => ?_)
  · rw [wk_r hv, wo_r hv]
    refine g_i2l C dL_bloc_7 ?_
    refine w_last C hw2 hAo hao dL_bloc_8 ?_
    refine g_goto C 15 dL_bloc_9 (by decide) ?_
    refine g_iconst (v := 0) C dL_bloc_15 rfl ?_
    exact w_ret C ⟨(Nat.le_of_ble_eq_true rfl), (Nat.le_of_ble_eq_true rfl)⟩ dL_bloc_16
  · have h9 : e = 2 := by simpa using hx e he
    subst h9
    rw [wk_l (k := 1) he (by decide +kernel), wo_l he]
    refine ⟨[], ⟨0, 9, 12, 24⟩, [], "java/lang/IndexOutOfBoundsException", htab, (fun z hz => nomatch hz), rfl, by decide, w_5_218, List.mem_of_getElem? (i := 21) rfl, fun q => ?_⟩
    refine g_astore_n C dL_bloc_12 rfl (Nat.le_of_ble_eq_true rfl) rfl ?_
    refine g_iconst (v := 1) C dL_bloc_13 rfl ?_
    exact w_ret C ⟨(Nat.le_of_ble_eq_true rfl), (Nat.le_of_ble_eq_true rfl)⟩ dL_bloc_14)
/-! wrapper couples -/
theorem dL_couples_0 : decode cL_couples 0 = .ok (.aload_n 2, 1) := by decide +kernel
theorem dL_couples_1 : decode cL_couples 1 = .ok (.iconst 0, 1) := by decide +kernel
theorem dL_couples_2 : decode cL_couples 2 = .ok (.aload_n 0, 1) := by decide +kernel
theorem dL_couples_3 : decode cL_couples 3 = .ok (.iload_n 1, 1) := by decide +kernel
theorem w_7_140 : Cond.selects "LastLoaf" ({ cls := "LastLoaf", name := "couples", desc := "(I)I" } : MethodName) ({ cls := "LastLoaf", name := "couples", desc := "(I)I" } : MethodName) ∈ TB := tb_in (lwt_7 (List.mem_of_getElem? (i := 140) (by decide +kernel))) rfl
theorem w_7_141 : Cond.code ({ cls := "LastLoaf", name := "couples", desc := "(I)I" } : MethodName) prog_1_method_41_code (2 : Nat) (Option.some ClassFile.FieldType.int) ∈ TB := tb_in (lwt_7 (List.mem_of_getElem? (i := 141) (by decide +kernel))) rfl
theorem w_7_138 : Cond.methodLink "LastLoafLaw" (112 : Nat) ({ cls := "LastLoaf", name := "couples", desc := "(I)I" } : MethodName) ∈ TB := tb_in (lwt_7 (List.mem_of_getElem? (i := 138) (by decide +kernel))) rfl
theorem w_7_139 : Cond.instanceMethod ({ cls := "LastLoaf", name := "couples", desc := "(I)I" } : MethodName) ∈ TB := tb_in (lwt_7 (List.mem_of_getElem? (i := 139) (by decide +kernel))) rfl
theorem dL_couples_4 : decode cL_couples 4 = .ok (.invokevirtual 112, 3) := by decide +kernel
theorem dL_couples_7 : decode cL_couples 7 = .ok (.i2l, 1) := by decide +kernel
theorem dL_couples_8 : decode cL_couples 8 = .ok (.lastore, 1) := by decide +kernel
theorem dL_couples_9 : decode cL_couples 9 = .ok (.goto 6, 3) := by decide +kernel
theorem dL_couples_15 : decode cL_couples 15 = .ok (.iconst 0, 1) := by decide +kernel
theorem dL_couples_16 : decode cL_couples 16 = .ok (.ireturn, 1) := by decide +kernel
theorem dL_couples_12 : decode cL_couples 12 = .ok (.astore_n 3, 1) := by decide +kernel
theorem dL_couples_13 : decode cL_couples 13 = .ok (.iconst 1, 1) := by decide +kernel
theorem dL_couples_14 : decode cL_couples 14 = .ok (.ireturn, 1) := by decide +kernel
abbrev rmW_couples : Room := { frames := rm11_couples.frames + 1, cells := 4, slots := 24, locals := 8 + (2 + 11) + rm11_couples.locals }
set_option maxHeartbeats 4000000 in
set_option maxRecDepth 100000 in
theorem wr_couples {l : Launch} {w : Wp} {ao : Nat} {cJ : ClassId} {σ : St} {o : Int64} {p0 : Int32} (hi : zI kdC w) (hlt : l.stackTraces = false) (hao : ∀ i, i < kdC.length → w.2.2.1 i ≠ ao) {r : Sum Nat Int32 × St} (hf : q11_couples σ p0 = some r) (hx : ∀ e, r.1 = .inl e → e ∈ ([2] : List Nat)) : wM l w ao cJ yL_couples cL_couples 4 [(0, 9, 12, 24)] rmW_couples [.ref (w.2.2.1 0), .int p0, .ref ao] σ o (wk [2] r) r.2 (wo (fun v => v) r o) := wM_of rfl (Nat.le_of_ble_eq_true rfl) (fun Θ hl hw C hA hAo htab => by
  have hlt2 : Θ.1.2.1.stackTraces = false := by rw [hl]; exact hlt
  have hw2 : Θ.2.2.2.2.2 = w := by rw [hw]
  have hkd : Θ.2.2.2.2.1 = kdC := by rw [hw]
  refine g_aload_n C 2 dL_couples_0 rfl rfl ?_
  refine g_iconst (v := 0) C dL_couples_1 rfl ?_
  refine g_aload_n C 0 dL_couples_2 rfl rfl ?_
  refine g_iload_n C 1 dL_couples_3 rfl rfl ?_
  refine w_call C hw2 hkd hA hao (fun v => v) [.int p0] r 1 6 1 rfl (c11_couples (l := Θ.1.2.1) (person_a := p0) rfl hi hlt2 hf) w_7_141 w_7_138 w_7_139 w_7_140 w_1_1 ⟨rfl, rfl, (Nat.le_of_ble_eq_true rfl), (Nat.le_of_ble_eq_true rfl)⟩ (by decide +kernel) rfl rfl (Nat.le_of_ble_eq_true rfl) ⟨(Nat.le_of_ble_eq_true rfl), (Nat.le_of_ble_eq_true rfl)⟩ dL_couples_4 (fun v hv => ?_) (fun e he => ?_)
  · rw [wk_r hv, wo_r hv]
    refine g_i2l C dL_couples_7 ?_
    refine w_last C hw2 hAo hao dL_couples_8 ?_
    refine g_goto C 15 dL_couples_9 (by decide) ?_
    refine g_iconst (v := 0) C dL_couples_15 rfl ?_
    exact w_ret C ⟨(Nat.le_of_ble_eq_true rfl), (Nat.le_of_ble_eq_true rfl)⟩ dL_couples_16
  · have h9 : e = 2 := by simpa using hx e he
    subst h9
    rw [wk_l (k := 1) he (by decide +kernel), wo_l he]
    refine ⟨[], ⟨0, 9, 12, 24⟩, [], "java/lang/IndexOutOfBoundsException", htab, (fun z hz => nomatch hz), rfl, by decide, w_5_218, List.mem_of_getElem? (i := 21) rfl, fun q => ?_⟩
    refine g_astore_n C dL_couples_12 rfl (Nat.le_of_ble_eq_true rfl) rfl ?_
    refine g_iconst (v := 1) C dL_couples_13 rfl ?_
    exact w_ret C ⟨(Nat.le_of_ble_eq_true rfl), (Nat.le_of_ble_eq_true rfl)⟩ dL_couples_14)
/-! wrapper slices -/
theorem dL_slices_0 : decode cL_slices 0 = .ok (.aload_n 3, 1) := by decide +kernel
theorem dL_slices_1 : decode cL_slices 1 = .ok (.iconst 0, 1) := by decide +kernel
theorem dL_slices_2 : decode cL_slices 2 = .ok (.aload_n 0, 1) := by decide +kernel
theorem dL_slices_3 : decode cL_slices 3 = .ok (.iload_n 1, 1) := by decide +kernel
theorem dL_slices_4 : decode cL_slices 4 = .ok (.iload_n 2, 1) := by decide +kernel
theorem w_7_169 : Cond.selects "LastLoaf" ({ cls := "LastLoaf", name := "slices", desc := "(II)I" } : MethodName) ({ cls := "LastLoaf", name := "slices", desc := "(II)I" } : MethodName) ∈ TB := tb_in (lwt_7 (List.mem_of_getElem? (i := 169) (by decide +kernel))) rfl
theorem w_7_170 : Cond.code ({ cls := "LastLoaf", name := "slices", desc := "(II)I" } : MethodName) prog_1_method_44_code (6 : Nat) (Option.some ClassFile.FieldType.int) ∈ TB := tb_in (lwt_7 (List.mem_of_getElem? (i := 170) (by decide +kernel))) rfl
theorem w_7_167 : Cond.methodLink "LastLoafLaw" (115 : Nat) ({ cls := "LastLoaf", name := "slices", desc := "(II)I" } : MethodName) ∈ TB := tb_in (lwt_7 (List.mem_of_getElem? (i := 167) (by decide +kernel))) rfl
theorem w_7_168 : Cond.instanceMethod ({ cls := "LastLoaf", name := "slices", desc := "(II)I" } : MethodName) ∈ TB := tb_in (lwt_7 (List.mem_of_getElem? (i := 168) (by decide +kernel))) rfl
theorem dL_slices_5 : decode cL_slices 5 = .ok (.invokevirtual 115, 3) := by decide +kernel
theorem dL_slices_8 : decode cL_slices 8 = .ok (.i2l, 1) := by decide +kernel
theorem dL_slices_9 : decode cL_slices 9 = .ok (.lastore, 1) := by decide +kernel
theorem dL_slices_10 : decode cL_slices 10 = .ok (.goto 11, 3) := by decide +kernel
theorem dL_slices_21 : decode cL_slices 21 = .ok (.iconst 0, 1) := by decide +kernel
theorem dL_slices_22 : decode cL_slices 22 = .ok (.ireturn, 1) := by decide +kernel
theorem dL_slices_13 : decode cL_slices 13 = .ok (.astore 4, 2) := by decide +kernel
theorem dL_slices_15 : decode cL_slices 15 = .ok (.iconst 1, 1) := by decide +kernel
theorem dL_slices_16 : decode cL_slices 16 = .ok (.ireturn, 1) := by decide +kernel
theorem dL_slices_17 : decode cL_slices 17 = .ok (.astore 4, 2) := by decide +kernel
theorem dL_slices_19 : decode cL_slices 19 = .ok (.iconst 2, 1) := by decide +kernel
theorem dL_slices_20 : decode cL_slices 20 = .ok (.ireturn, 1) := by decide +kernel
abbrev rmW_slices : Room := { frames := rm11_slices.frames + 1, cells := 4, slots := 24, locals := 8 + (6 + 11) + rm11_slices.locals }
set_option maxHeartbeats 4000000 in
set_option maxRecDepth 100000 in
theorem wr_slices {l : Launch} {w : Wp} {ao : Nat} {cJ : ClassId} {σ : St} {o : Int64} {p0 : Int32} {p1 : Int32} (hi : zI kdC w) (hlt : l.stackTraces = false) (hao : ∀ i, i < kdC.length → w.2.2.1 i ≠ ao) {r : Sum Nat Int32 × St} (hf : q11_slices σ p0 p1 = some r) (hx : ∀ e, r.1 = .inl e → e ∈ ([2, 0] : List Nat)) : wM l w ao cJ yL_slices cL_slices 5 [(0, 10, 13, 24), (0, 10, 17, 13)] rmW_slices [.ref (w.2.2.1 0), .int p0, .int p1, .ref ao] σ o (wk [2, 0] r) r.2 (wo (fun v => v) r o) := wM_of rfl (Nat.le_of_ble_eq_true rfl) (fun Θ hl hw C hA hAo htab => by
  have hlt2 : Θ.1.2.1.stackTraces = false := by rw [hl]; exact hlt
  have hw2 : Θ.2.2.2.2.2 = w := by rw [hw]
  have hkd : Θ.2.2.2.2.1 = kdC := by rw [hw]
  refine g_aload_n C 3 dL_slices_0 rfl rfl ?_
  refine g_iconst (v := 0) C dL_slices_1 rfl ?_
  refine g_aload_n C 0 dL_slices_2 rfl rfl ?_
  refine g_iload_n C 1 dL_slices_3 rfl rfl ?_
  refine g_iload_n C 2 dL_slices_4 rfl rfl ?_
  refine w_call C hw2 hkd hA hao (fun v => v) [.int p0, .int p1] r 2 12 2 rfl (c11_slices (l := Θ.1.2.1) (person_a := p0) (n_a := p1) rfl hi hlt2 hf) w_7_170 w_7_167 w_7_168 w_7_169 w_1_1 ⟨rfl, rfl, (Nat.le_of_ble_eq_true rfl), (Nat.le_of_ble_eq_true rfl)⟩ (by decide +kernel) rfl rfl (Nat.le_of_ble_eq_true rfl) ⟨(Nat.le_of_ble_eq_true rfl), (Nat.le_of_ble_eq_true rfl)⟩ dL_slices_5 (fun v hv => ?_) (fun e he => ?_)
  · rw [wk_r hv, wo_r hv]
    refine g_i2l C dL_slices_8 ?_
    refine w_last C hw2 hAo hao dL_slices_9 ?_
    refine g_goto C 21 dL_slices_10 (by decide) ?_
    refine g_iconst (v := 0) C dL_slices_21 rfl ?_
    exact w_ret C ⟨(Nat.le_of_ble_eq_true rfl), (Nat.le_of_ble_eq_true rfl)⟩ dL_slices_22
  · have h9 : e = 2 ∨ e = 0 := by simpa using hx e he
    rcases h9 with rfl | rfl
    · rw [wk_l (k := 1) he (by decide +kernel), wo_l he]
      refine ⟨[], ⟨0, 10, 13, 24⟩, [⟨0, 10, 17, 13⟩], "java/lang/IndexOutOfBoundsException", htab, (fun z hz => nomatch hz), rfl, by decide, w_5_218, List.mem_of_getElem? (i := 21) rfl, fun q => ?_⟩
      refine g_astore C dL_slices_13 (Nat.le_of_ble_eq_true rfl) rfl ?_
      refine g_iconst (v := 1) C dL_slices_15 rfl ?_
      exact w_ret C ⟨(Nat.le_of_ble_eq_true rfl), (Nat.le_of_ble_eq_true rfl)⟩ dL_slices_16
    · rw [wk_l (k := 2) he (by decide +kernel), wo_l he]
      refine ⟨[⟨0, 10, 13, 24⟩], ⟨0, 10, 17, 13⟩, [], "java/lang/IllegalArgumentException", htab, (fun z hz => by (cases List.mem_singleton.mp hz); exact Or.inr ⟨by decide, "java/lang/IndexOutOfBoundsException", w_5_218, List.mem_of_getElem? (i := 1) rfl⟩), rfl, by decide, w_4_161, List.mem_of_getElem? (i := 13) rfl, fun q => ?_⟩
      refine g_astore C dL_slices_17 (Nat.le_of_ble_eq_true rfl) rfl ?_
      refine g_iconst (v := 2) C dL_slices_19 rfl ?_
      exact w_ret C ⟨(Nat.le_of_ble_eq_true rfl), (Nat.le_of_ble_eq_true rfl)⟩ dL_slices_20)
/-! wrapper ring -/
theorem dL_ring_0 : decode cL_ring 0 = .ok (.aload_n 2, 1) := by decide +kernel
theorem dL_ring_1 : decode cL_ring 1 = .ok (.iconst 0, 1) := by decide +kernel
theorem dL_ring_2 : decode cL_ring 2 = .ok (.aload_n 0, 1) := by decide +kernel
theorem dL_ring_3 : decode cL_ring 3 = .ok (.iload_n 1, 1) := by decide +kernel
theorem w_7_176 : Cond.selects "LastLoaf" ({ cls := "LastLoaf", name := "ring", desc := "(I)Z" } : MethodName) ({ cls := "LastLoaf", name := "ring", desc := "(I)Z" } : MethodName) ∈ TB := tb_in (lwt_7 (List.mem_of_getElem? (i := 176) (by decide +kernel))) rfl
theorem w_7_177 : Cond.code ({ cls := "LastLoaf", name := "ring", desc := "(I)Z" } : MethodName) prog_1_method_45_code (4 : Nat) (Option.some ClassFile.FieldType.boolean) ∈ TB := tb_in (lwt_7 (List.mem_of_getElem? (i := 177) (by decide +kernel))) rfl
theorem w_7_174 : Cond.methodLink "LastLoafLaw" (118 : Nat) ({ cls := "LastLoaf", name := "ring", desc := "(I)Z" } : MethodName) ∈ TB := tb_in (lwt_7 (List.mem_of_getElem? (i := 174) (by decide +kernel))) rfl
theorem w_7_175 : Cond.instanceMethod ({ cls := "LastLoaf", name := "ring", desc := "(I)Z" } : MethodName) ∈ TB := tb_in (lwt_7 (List.mem_of_getElem? (i := 175) (by decide +kernel))) rfl
theorem dL_ring_4 : decode cL_ring 4 = .ok (.invokevirtual 118, 3) := by decide +kernel
theorem dL_ring_7 : decode cL_ring 7 = .ok (.ifCond .eq 7, 3) := by decide +kernel
theorem dL_ring_10 : decode cL_ring 10 = .ok (.lconst 1, 1) := by decide +kernel
theorem dL_ring_11 : decode cL_ring 11 = .ok (.goto 4, 3) := by decide +kernel
theorem dL_ring_14 : decode cL_ring 14 = .ok (.lconst 0, 1) := by decide +kernel
theorem dL_ring_15 : decode cL_ring 15 = .ok (.lastore, 1) := by decide +kernel
theorem dL_ring_16 : decode cL_ring 16 = .ok (.goto 6, 3) := by decide +kernel
theorem dL_ring_22 : decode cL_ring 22 = .ok (.iconst 0, 1) := by decide +kernel
theorem dL_ring_23 : decode cL_ring 23 = .ok (.ireturn, 1) := by decide +kernel
theorem dL_ring_19 : decode cL_ring 19 = .ok (.astore_n 3, 1) := by decide +kernel
theorem dL_ring_20 : decode cL_ring 20 = .ok (.iconst 1, 1) := by decide +kernel
theorem dL_ring_21 : decode cL_ring 21 = .ok (.ireturn, 1) := by decide +kernel
abbrev rmW_ring : Room := { frames := rm11_ring.frames + 1, cells := 4, slots := 24, locals := 8 + (4 + 11) + rm11_ring.locals }
set_option maxHeartbeats 4000000 in
set_option maxRecDepth 100000 in
theorem wr_ring {l : Launch} {w : Wp} {ao : Nat} {cJ : ClassId} {σ : St} {o : Int64} {p0 : Int32} (hi : zI kdC w) (hlt : l.stackTraces = false) (hao : ∀ i, i < kdC.length → w.2.2.1 i ≠ ao) {r : Sum Nat Bool × St} (hf : q11_ring σ p0 = some r) (hx : ∀ e, r.1 = .inl e → e ∈ ([2] : List Nat)) : wM l w ao cJ yL_ring cL_ring 4 [(0, 16, 19, 24)] rmW_ring [.ref (w.2.2.1 0), .int p0, .ref ao] σ o (wk [2] r) r.2 (wo b2i r o) := wM_of rfl (Nat.le_of_ble_eq_true rfl) (fun Θ hl hw C hA hAo htab => by
  have hlt2 : Θ.1.2.1.stackTraces = false := by rw [hl]; exact hlt
  have hw2 : Θ.2.2.2.2.2 = w := by rw [hw]
  have hkd : Θ.2.2.2.2.1 = kdC := by rw [hw]
  refine g_aload_n C 2 dL_ring_0 rfl rfl ?_
  refine g_iconst (v := 0) C dL_ring_1 rfl ?_
  refine g_aload_n C 0 dL_ring_2 rfl rfl ?_
  refine g_iload_n C 1 dL_ring_3 rfl rfl ?_
  refine w_call C hw2 hkd hA hao b2i [.int p0] r 1 6 1 rfl (c11_ring (l := Θ.1.2.1) (person_a := p0) rfl hi hlt2 hf) w_7_177 w_7_174 w_7_175 w_7_176 w_1_1 ⟨rfl, rfl, (Nat.le_of_ble_eq_true rfl), (Nat.le_of_ble_eq_true rfl)⟩ (by decide +kernel) rfl rfl (Nat.le_of_ble_eq_true rfl) ⟨(Nat.le_of_ble_eq_true rfl), (Nat.le_of_ble_eq_true rfl)⟩ dL_ring_4 (fun v hv => ?_) (fun e he => ?_)
  · rw [wk_r hv, wo_r hv]
    refine g_bl (b := v) C dL_ring_7 dL_ring_10 dL_ring_11 dL_ring_14 ?_
    refine w_last C hw2 hAo hao dL_ring_15 ?_
    refine g_goto C 22 dL_ring_16 (by decide) ?_
    refine g_iconst (v := 0) C dL_ring_22 rfl ?_
    exact w_ret C ⟨(Nat.le_of_ble_eq_true rfl), (Nat.le_of_ble_eq_true rfl)⟩ dL_ring_23
  · have h9 : e = 2 := by simpa using hx e he
    subst h9
    rw [wk_l (k := 1) he (by decide +kernel), wo_l he]
    refine ⟨[], ⟨0, 16, 19, 24⟩, [], "java/lang/IndexOutOfBoundsException", htab, (fun z hz => nomatch hz), rfl, by decide, w_5_218, List.mem_of_getElem? (i := 21) rfl, fun q => ?_⟩
    refine g_astore_n C dL_ring_19 rfl (Nat.le_of_ble_eq_true rfl) rfl ?_
    refine g_iconst (v := 1) C dL_ring_20 rfl ?_
    exact w_ret C ⟨(Nat.le_of_ble_eq_true rfl), (Nat.le_of_ble_eq_true rfl)⟩ dL_ring_21)
/-! wrapper rests -/
theorem dL_rests_0 : decode cL_rests 0 = .ok (.aload_n 3, 1) := by decide +kernel
theorem dL_rests_1 : decode cL_rests 1 = .ok (.iconst 0, 1) := by decide +kernel
theorem dL_rests_2 : decode cL_rests 2 = .ok (.aload_n 0, 1) := by decide +kernel
theorem dL_rests_3 : decode cL_rests 3 = .ok (.iload_n 1, 1) := by decide +kernel
theorem dL_rests_4 : decode cL_rests 4 = .ok (.iload_n 2, 1) := by decide +kernel
theorem w_7_183 : Cond.selects "LastLoaf" ({ cls := "LastLoaf", name := "rests", desc := "(II)I" } : MethodName) ({ cls := "LastLoaf", name := "rests", desc := "(II)I" } : MethodName) ∈ TB := tb_in (lwt_7 (List.mem_of_getElem? (i := 183) (by decide +kernel))) rfl
theorem w_7_184 : Cond.code ({ cls := "LastLoaf", name := "rests", desc := "(II)I" } : MethodName) prog_1_method_46_code (7 : Nat) (Option.some ClassFile.FieldType.int) ∈ TB := tb_in (lwt_7 (List.mem_of_getElem? (i := 184) (by decide +kernel))) rfl
theorem w_7_181 : Cond.methodLink "LastLoafLaw" (122 : Nat) ({ cls := "LastLoaf", name := "rests", desc := "(II)I" } : MethodName) ∈ TB := tb_in (lwt_7 (List.mem_of_getElem? (i := 181) (by decide +kernel))) rfl
theorem w_7_182 : Cond.instanceMethod ({ cls := "LastLoaf", name := "rests", desc := "(II)I" } : MethodName) ∈ TB := tb_in (lwt_7 (List.mem_of_getElem? (i := 182) (by decide +kernel))) rfl
theorem dL_rests_5 : decode cL_rests 5 = .ok (.invokevirtual 122, 3) := by decide +kernel
theorem dL_rests_8 : decode cL_rests 8 = .ok (.i2l, 1) := by decide +kernel
theorem dL_rests_9 : decode cL_rests 9 = .ok (.lastore, 1) := by decide +kernel
theorem dL_rests_10 : decode cL_rests 10 = .ok (.goto 15, 3) := by decide +kernel
theorem dL_rests_25 : decode cL_rests 25 = .ok (.iconst 0, 1) := by decide +kernel
theorem dL_rests_26 : decode cL_rests 26 = .ok (.ireturn, 1) := by decide +kernel
theorem dL_rests_13 : decode cL_rests 13 = .ok (.astore 4, 2) := by decide +kernel
theorem dL_rests_15 : decode cL_rests 15 = .ok (.iconst 1, 1) := by decide +kernel
theorem dL_rests_16 : decode cL_rests 16 = .ok (.ireturn, 1) := by decide +kernel
theorem dL_rests_17 : decode cL_rests 17 = .ok (.astore 4, 2) := by decide +kernel
theorem dL_rests_19 : decode cL_rests 19 = .ok (.iconst 2, 1) := by decide +kernel
theorem dL_rests_20 : decode cL_rests 20 = .ok (.ireturn, 1) := by decide +kernel
theorem dL_rests_21 : decode cL_rests 21 = .ok (.astore 4, 2) := by decide +kernel
theorem dL_rests_23 : decode cL_rests 23 = .ok (.iconst 3, 1) := by decide +kernel
theorem dL_rests_24 : decode cL_rests 24 = .ok (.ireturn, 1) := by decide +kernel
abbrev rmW_rests : Room := { frames := rm11_rests.frames + 1, cells := 4, slots := 24, locals := 8 + (7 + 11) + rm11_rests.locals }
set_option maxHeartbeats 4000000 in
set_option maxRecDepth 100000 in
theorem wr_rests {l : Launch} {w : Wp} {ao : Nat} {cJ : ClassId} {σ : St} {o : Int64} {p0 : Int32} {p1 : Int32} (hi : zI kdC w) (hlt : l.stackTraces = false) (hao : ∀ i, i < kdC.length → w.2.2.1 i ≠ ao) {r : Sum Nat Int32 × St} (hf : q11_rests σ p0 p1 = some r) (hx : ∀ e, r.1 = .inl e → e ∈ ([2, 0, 1] : List Nat)) : wM l w ao cJ yL_rests cL_rests 5 [(0, 10, 13, 24), (0, 10, 17, 13), (0, 10, 21, 45)] rmW_rests [.ref (w.2.2.1 0), .int p0, .int p1, .ref ao] σ o (wk [2, 0, 1] r) r.2 (wo (fun v => v) r o) := wM_of rfl (Nat.le_of_ble_eq_true rfl) (fun Θ hl hw C hA hAo htab => by
  have hlt2 : Θ.1.2.1.stackTraces = false := by rw [hl]; exact hlt
  have hw2 : Θ.2.2.2.2.2 = w := by rw [hw]
  have hkd : Θ.2.2.2.2.1 = kdC := by rw [hw]
  refine g_aload_n C 3 dL_rests_0 rfl rfl ?_
  refine g_iconst (v := 0) C dL_rests_1 rfl ?_
  refine g_aload_n C 0 dL_rests_2 rfl rfl ?_
  refine g_iload_n C 1 dL_rests_3 rfl rfl ?_
  refine g_iload_n C 2 dL_rests_4 rfl rfl ?_
  refine w_call C hw2 hkd hA hao (fun v => v) [.int p0, .int p1] r 4 24 2 rfl (c11_rests (l := Θ.1.2.1) (person_a := p0) (other_a := p1) rfl hi hlt2 hf) w_7_184 w_7_181 w_7_182 w_7_183 w_1_1 ⟨rfl, rfl, (Nat.le_of_ble_eq_true rfl), (Nat.le_of_ble_eq_true rfl)⟩ (by decide +kernel) rfl rfl (Nat.le_of_ble_eq_true rfl) ⟨(Nat.le_of_ble_eq_true rfl), (Nat.le_of_ble_eq_true rfl)⟩ dL_rests_5 (fun v hv => ?_) (fun e he => ?_)
  · rw [wk_r hv, wo_r hv]
    refine g_i2l C dL_rests_8 ?_
    refine w_last C hw2 hAo hao dL_rests_9 ?_
    refine g_goto C 25 dL_rests_10 (by decide) ?_
    refine g_iconst (v := 0) C dL_rests_25 rfl ?_
    exact w_ret C ⟨(Nat.le_of_ble_eq_true rfl), (Nat.le_of_ble_eq_true rfl)⟩ dL_rests_26
  · have h9 : e = 2 ∨ e = 0 ∨ e = 1 := by simpa using hx e he
    rcases h9 with rfl | rfl | rfl
    · rw [wk_l (k := 1) he (by decide +kernel), wo_l he]
      refine ⟨[], ⟨0, 10, 13, 24⟩, [⟨0, 10, 17, 13⟩, ⟨0, 10, 21, 45⟩], "java/lang/IndexOutOfBoundsException", htab, (fun z hz => nomatch hz), rfl, by decide, w_5_218, List.mem_of_getElem? (i := 21) rfl, fun q => ?_⟩
      refine g_astore C dL_rests_13 (Nat.le_of_ble_eq_true rfl) rfl ?_
      refine g_iconst (v := 1) C dL_rests_15 rfl ?_
      exact w_ret C ⟨(Nat.le_of_ble_eq_true rfl), (Nat.le_of_ble_eq_true rfl)⟩ dL_rests_16
    · rw [wk_l (k := 2) he (by decide +kernel), wo_l he]
      refine ⟨[⟨0, 10, 13, 24⟩], ⟨0, 10, 17, 13⟩, [⟨0, 10, 21, 45⟩], "java/lang/IllegalArgumentException", htab, (fun z hz => by (cases List.mem_singleton.mp hz); exact Or.inr ⟨by decide, "java/lang/IndexOutOfBoundsException", w_5_218, List.mem_of_getElem? (i := 1) rfl⟩), rfl, by decide, w_4_161, List.mem_of_getElem? (i := 13) rfl, fun q => ?_⟩
      refine g_astore C dL_rests_17 (Nat.le_of_ble_eq_true rfl) rfl ?_
      refine g_iconst (v := 2) C dL_rests_19 rfl ?_
      exact w_ret C ⟨(Nat.le_of_ble_eq_true rfl), (Nat.le_of_ble_eq_true rfl)⟩ dL_rests_20
    · rw [wk_l (k := 3) he (by decide +kernel), wo_l he]
      refine ⟨[⟨0, 10, 13, 24⟩, ⟨0, 10, 17, 13⟩], ⟨0, 10, 21, 45⟩, [], "java/lang/IllegalStateException", htab, (fun z hz => by (simp only [List.mem_cons, List.not_mem_nil, or_false] at hz); rcases hz with rfl | rfl <;> first | exact Or.inr ⟨by decide, "java/lang/IndexOutOfBoundsException", w_5_218, List.mem_of_getElem? (i := 5) rfl⟩ | exact Or.inr ⟨by decide, "java/lang/IllegalArgumentException", w_4_161, List.mem_of_getElem? (i := 4) rfl⟩), rfl, by decide, w_6_93, List.mem_of_getElem? (i := 24) rfl, fun q => ?_⟩
      refine g_astore C dL_rests_21 (Nat.le_of_ble_eq_true rfl) rfl ?_
      refine g_iconst (v := 3) C dL_rests_23 rfl ?_
      exact w_ret C ⟨(Nat.le_of_ble_eq_true rfl), (Nat.le_of_ble_eq_true rfl)⟩ dL_rests_24)
/-! wrapper odds -/
theorem dL_odds_0 : decode cL_odds 0 = .ok (.aload_n 3, 1) := by decide +kernel
theorem dL_odds_1 : decode cL_odds 1 = .ok (.iconst 0, 1) := by decide +kernel
theorem dL_odds_2 : decode cL_odds 2 = .ok (.aload_n 0, 1) := by decide +kernel
theorem dL_odds_3 : decode cL_odds 3 = .ok (.iload_n 1, 1) := by decide +kernel
theorem dL_odds_4 : decode cL_odds 4 = .ok (.iload_n 2, 1) := by decide +kernel
theorem w_7_199 : Cond.selects "LastLoaf" ({ cls := "LastLoaf", name := "odds", desc := "(II)I" } : MethodName) ({ cls := "LastLoaf", name := "odds", desc := "(II)I" } : MethodName) ∈ TB := tb_in (lwt_7 (List.mem_of_getElem? (i := 199) (by decide +kernel))) rfl
theorem w_7_200 : Cond.code ({ cls := "LastLoaf", name := "odds", desc := "(II)I" } : MethodName) prog_1_method_47_code (7 : Nat) (Option.some ClassFile.FieldType.int) ∈ TB := tb_in (lwt_7 (List.mem_of_getElem? (i := 200) (by decide +kernel))) rfl
theorem w_7_197 : Cond.methodLink "LastLoafLaw" (125 : Nat) ({ cls := "LastLoaf", name := "odds", desc := "(II)I" } : MethodName) ∈ TB := tb_in (lwt_7 (List.mem_of_getElem? (i := 197) (by decide +kernel))) rfl
theorem w_7_198 : Cond.instanceMethod ({ cls := "LastLoaf", name := "odds", desc := "(II)I" } : MethodName) ∈ TB := tb_in (lwt_7 (List.mem_of_getElem? (i := 198) (by decide +kernel))) rfl
theorem dL_odds_5 : decode cL_odds 5 = .ok (.invokevirtual 125, 3) := by decide +kernel
theorem dL_odds_8 : decode cL_odds 8 = .ok (.i2l, 1) := by decide +kernel
theorem dL_odds_9 : decode cL_odds 9 = .ok (.lastore, 1) := by decide +kernel
theorem dL_odds_10 : decode cL_odds 10 = .ok (.goto 7, 3) := by decide +kernel
theorem dL_odds_17 : decode cL_odds 17 = .ok (.iconst 0, 1) := by decide +kernel
theorem dL_odds_18 : decode cL_odds 18 = .ok (.ireturn, 1) := by decide +kernel
theorem dL_odds_13 : decode cL_odds 13 = .ok (.astore 4, 2) := by decide +kernel
theorem dL_odds_15 : decode cL_odds 15 = .ok (.iconst 1, 1) := by decide +kernel
theorem dL_odds_16 : decode cL_odds 16 = .ok (.ireturn, 1) := by decide +kernel
abbrev rmW_odds : Room := { frames := rm11_odds.frames + 1, cells := 4, slots := 24, locals := 8 + (7 + 11) + rm11_odds.locals }
set_option maxHeartbeats 4000000 in
set_option maxRecDepth 100000 in
theorem wr_odds {l : Launch} {w : Wp} {ao : Nat} {cJ : ClassId} {σ : St} {o : Int64} {p0 : Int32} {p1 : Int32} (hi : zI kdC w) (hlt : l.stackTraces = false) (hao : ∀ i, i < kdC.length → w.2.2.1 i ≠ ao) {r : Sum Nat Int32 × St} (hf : q11_odds σ p0 p1 = some r) (hx : ∀ e, r.1 = .inl e → e ∈ ([0] : List Nat)) : wM l w ao cJ yL_odds cL_odds 5 [(0, 10, 13, 13)] rmW_odds [.ref (w.2.2.1 0), .int p0, .int p1, .ref ao] σ o (wk [0] r) r.2 (wo (fun v => v) r o) := wM_of rfl (Nat.le_of_ble_eq_true rfl) (fun Θ hl hw C hA hAo htab => by
  have hlt2 : Θ.1.2.1.stackTraces = false := by rw [hl]; exact hlt
  have hw2 : Θ.2.2.2.2.2 = w := by rw [hw]
  have hkd : Θ.2.2.2.2.1 = kdC := by rw [hw]
  refine g_aload_n C 3 dL_odds_0 rfl rfl ?_
  refine g_iconst (v := 0) C dL_odds_1 rfl ?_
  refine g_aload_n C 0 dL_odds_2 rfl rfl ?_
  refine g_iload_n C 1 dL_odds_3 rfl rfl ?_
  refine g_iload_n C 2 dL_odds_4 rfl rfl ?_
  refine w_call C hw2 hkd hA hao (fun v => v) [.int p0, .int p1] r 2 12 2 rfl (c11_odds (l := Θ.1.2.1) (n_a := p0) (k_a := p1) rfl hi hlt2 hf) w_7_200 w_7_197 w_7_198 w_7_199 w_1_1 ⟨rfl, rfl, (Nat.le_of_ble_eq_true rfl), (Nat.le_of_ble_eq_true rfl)⟩ (by decide +kernel) rfl rfl (Nat.le_of_ble_eq_true rfl) ⟨(Nat.le_of_ble_eq_true rfl), (Nat.le_of_ble_eq_true rfl)⟩ dL_odds_5 (fun v hv => ?_) (fun e he => ?_)
  · rw [wk_r hv, wo_r hv]
    refine g_i2l C dL_odds_8 ?_
    refine w_last C hw2 hAo hao dL_odds_9 ?_
    refine g_goto C 17 dL_odds_10 (by decide) ?_
    refine g_iconst (v := 0) C dL_odds_17 rfl ?_
    exact w_ret C ⟨(Nat.le_of_ble_eq_true rfl), (Nat.le_of_ble_eq_true rfl)⟩ dL_odds_18
  · have h9 : e = 0 := by simpa using hx e he
    subst h9
    rw [wk_l (k := 1) he (by decide +kernel), wo_l he]
    refine ⟨[], ⟨0, 10, 13, 13⟩, [], "java/lang/IllegalArgumentException", htab, (fun z hz => nomatch hz), rfl, by decide, w_4_161, List.mem_of_getElem? (i := 13) rfl, fun q => ?_⟩
    refine g_astore C dL_odds_13 (Nat.le_of_ble_eq_true rfl) rfl ?_
    refine g_iconst (v := 1) C dL_odds_15 rfl ?_
    exact w_ret C ⟨(Nat.le_of_ble_eq_true rfl), (Nat.le_of_ble_eq_true rfl)⟩ dL_odds_16)
/-! wrapper ahead -/
theorem dL_ahead_0 : decode cL_ahead 0 = .ok (.aload 4, 2) := by decide +kernel
theorem dL_ahead_2 : decode cL_ahead 2 = .ok (.iconst 0, 1) := by decide +kernel
theorem dL_ahead_3 : decode cL_ahead 3 = .ok (.aload_n 0, 1) := by decide +kernel
theorem dL_ahead_4 : decode cL_ahead 4 = .ok (.iload_n 1, 1) := by decide +kernel
theorem dL_ahead_5 : decode cL_ahead 5 = .ok (.iload_n 2, 1) := by decide +kernel
theorem dL_ahead_6 : decode cL_ahead 6 = .ok (.iload_n 3, 1) := by decide +kernel
theorem w_7_214 : Cond.selects "LastLoaf" ({ cls := "LastLoaf", name := "ahead", desc := "(III)I" } : MethodName) ({ cls := "LastLoaf", name := "ahead", desc := "(III)I" } : MethodName) ∈ TB := tb_in (lwt_7 (List.mem_of_getElem? (i := 214) (by decide +kernel))) rfl
theorem w_7_215 : Cond.code ({ cls := "LastLoaf", name := "ahead", desc := "(III)I" } : MethodName) prog_1_method_55_code (4 : Nat) (Option.some ClassFile.FieldType.int) ∈ TB := tb_in (lwt_7 (List.mem_of_getElem? (i := 215) (by decide +kernel))) rfl
theorem w_7_212 : Cond.methodLink "LastLoafLaw" (128 : Nat) ({ cls := "LastLoaf", name := "ahead", desc := "(III)I" } : MethodName) ∈ TB := tb_in (lwt_7 (List.mem_of_getElem? (i := 212) (by decide +kernel))) rfl
theorem w_7_213 : Cond.instanceMethod ({ cls := "LastLoaf", name := "ahead", desc := "(III)I" } : MethodName) ∈ TB := tb_in (lwt_7 (List.mem_of_getElem? (i := 213) (by decide +kernel))) rfl
theorem dL_ahead_7 : decode cL_ahead 7 = .ok (.invokevirtual 128, 3) := by decide +kernel
theorem dL_ahead_10 : decode cL_ahead 10 = .ok (.i2l, 1) := by decide +kernel
theorem dL_ahead_11 : decode cL_ahead 11 = .ok (.lastore, 1) := by decide +kernel
theorem dL_ahead_12 : decode cL_ahead 12 = .ok (.goto 15, 3) := by decide +kernel
theorem dL_ahead_27 : decode cL_ahead 27 = .ok (.iconst 0, 1) := by decide +kernel
theorem dL_ahead_28 : decode cL_ahead 28 = .ok (.ireturn, 1) := by decide +kernel
theorem dL_ahead_15 : decode cL_ahead 15 = .ok (.astore 5, 2) := by decide +kernel
theorem dL_ahead_17 : decode cL_ahead 17 = .ok (.iconst 1, 1) := by decide +kernel
theorem dL_ahead_18 : decode cL_ahead 18 = .ok (.ireturn, 1) := by decide +kernel
theorem dL_ahead_19 : decode cL_ahead 19 = .ok (.astore 5, 2) := by decide +kernel
theorem dL_ahead_21 : decode cL_ahead 21 = .ok (.iconst 2, 1) := by decide +kernel
theorem dL_ahead_22 : decode cL_ahead 22 = .ok (.ireturn, 1) := by decide +kernel
theorem dL_ahead_23 : decode cL_ahead 23 = .ok (.astore 5, 2) := by decide +kernel
theorem dL_ahead_25 : decode cL_ahead 25 = .ok (.iconst 3, 1) := by decide +kernel
theorem dL_ahead_26 : decode cL_ahead 26 = .ok (.ireturn, 1) := by decide +kernel
abbrev rmW_ahead : Room := { frames := rm11_ahead.frames + 1, cells := 4, slots := 24, locals := 8 + (4 + 11) + rm11_ahead.locals }
set_option maxHeartbeats 4000000 in
set_option maxRecDepth 100000 in
theorem wr_ahead {l : Launch} {w : Wp} {ao : Nat} {cJ : ClassId} {σ : St} {o : Int64} {p0 : Int32} {p1 : Int32} {p2 : Int32} (hi : zI kdC w) (hlt : l.stackTraces = false) (hao : ∀ i, i < kdC.length → w.2.2.1 i ≠ ao) {r : Sum Nat Int32 × St} (hf : q11_ahead σ p0 p1 p2 = some r) (hx : ∀ e, r.1 = .inl e → e ∈ ([2, 0, 4] : List Nat)) : wM l w ao cJ yL_ahead cL_ahead 6 [(0, 12, 15, 24), (0, 12, 19, 13), (0, 12, 23, 26)] rmW_ahead [.ref (w.2.2.1 0), .int p0, .int p1, .int p2, .ref ao] σ o (wk [2, 0, 4] r) r.2 (wo (fun v => v) r o) := wM_of rfl (Nat.le_of_ble_eq_true rfl) (fun Θ hl hw C hA hAo htab => by
  have hlt2 : Θ.1.2.1.stackTraces = false := by rw [hl]; exact hlt
  have hw2 : Θ.2.2.2.2.2 = w := by rw [hw]
  have hkd : Θ.2.2.2.2.1 = kdC := by rw [hw]
  refine g_aload C 4 dL_ahead_0 rfl ?_
  refine g_iconst (v := 0) C dL_ahead_2 rfl ?_
  refine g_aload_n C 0 dL_ahead_3 rfl rfl ?_
  refine g_iload_n C 1 dL_ahead_4 rfl rfl ?_
  refine g_iload_n C 2 dL_ahead_5 rfl rfl ?_
  refine g_iload_n C 3 dL_ahead_6 rfl rfl ?_
  refine w_call C hw2 hkd hA hao (fun v => v) [.int p0, .int p1, .int p2] r 3 18 3 rfl (c11_ahead (l := Θ.1.2.1) (person_a := p0) (n_a := p1) (what_a := p2) rfl hi hlt2 hf) w_7_215 w_7_212 w_7_213 w_7_214 w_1_1 ⟨rfl, rfl, (Nat.le_of_ble_eq_true rfl), (Nat.le_of_ble_eq_true rfl)⟩ (by decide +kernel) rfl rfl (Nat.le_of_ble_eq_true rfl) ⟨(Nat.le_of_ble_eq_true rfl), (Nat.le_of_ble_eq_true rfl)⟩ dL_ahead_7 (fun v hv => ?_) (fun e he => ?_)
  · rw [wk_r hv, wo_r hv]
    refine g_i2l C dL_ahead_10 ?_
    refine w_last C hw2 hAo hao dL_ahead_11 ?_
    refine g_goto C 27 dL_ahead_12 (by decide) ?_
    refine g_iconst (v := 0) C dL_ahead_27 rfl ?_
    exact w_ret C ⟨(Nat.le_of_ble_eq_true rfl), (Nat.le_of_ble_eq_true rfl)⟩ dL_ahead_28
  · have h9 : e = 2 ∨ e = 0 ∨ e = 4 := by simpa using hx e he
    rcases h9 with rfl | rfl | rfl
    · rw [wk_l (k := 1) he (by decide +kernel), wo_l he]
      refine ⟨[], ⟨0, 12, 15, 24⟩, [⟨0, 12, 19, 13⟩, ⟨0, 12, 23, 26⟩], "java/lang/IndexOutOfBoundsException", htab, (fun z hz => nomatch hz), rfl, by decide, w_5_218, List.mem_of_getElem? (i := 21) rfl, fun q => ?_⟩
      refine g_astore C dL_ahead_15 (Nat.le_of_ble_eq_true rfl) rfl ?_
      refine g_iconst (v := 1) C dL_ahead_17 rfl ?_
      exact w_ret C ⟨(Nat.le_of_ble_eq_true rfl), (Nat.le_of_ble_eq_true rfl)⟩ dL_ahead_18
    · rw [wk_l (k := 2) he (by decide +kernel), wo_l he]
      refine ⟨[⟨0, 12, 15, 24⟩], ⟨0, 12, 19, 13⟩, [⟨0, 12, 23, 26⟩], "java/lang/IllegalArgumentException", htab, (fun z hz => by (cases List.mem_singleton.mp hz); exact Or.inr ⟨by decide, "java/lang/IndexOutOfBoundsException", w_5_218, List.mem_of_getElem? (i := 1) rfl⟩), rfl, by decide, w_4_161, List.mem_of_getElem? (i := 13) rfl, fun q => ?_⟩
      refine g_astore C dL_ahead_19 (Nat.le_of_ble_eq_true rfl) rfl ?_
      refine g_iconst (v := 2) C dL_ahead_21 rfl ?_
      exact w_ret C ⟨(Nat.le_of_ble_eq_true rfl), (Nat.le_of_ble_eq_true rfl)⟩ dL_ahead_22
    · rw [wk_l (k := 3) he (by decide +kernel), wo_l he]
      refine ⟨[⟨0, 12, 15, 24⟩, ⟨0, 12, 19, 13⟩], ⟨0, 12, 23, 26⟩, [], "java/util/NoSuchElementException", htab, (fun z hz => by (simp only [List.mem_cons, List.not_mem_nil, or_false] at hz); rcases hz with rfl | rfl <;> first | exact Or.inr ⟨by decide, "java/lang/IndexOutOfBoundsException", w_5_218, List.mem_of_getElem? (i := 18) rfl⟩ | exact Or.inr ⟨by decide, "java/lang/IllegalArgumentException", w_4_161, List.mem_of_getElem? (i := 16) rfl⟩), rfl, by decide, w_5_219, List.mem_of_getElem? (i := 23) rfl, fun q => ?_⟩
      refine g_astore C dL_ahead_23 (Nat.le_of_ble_eq_true rfl) rfl ?_
      refine g_iconst (v := 3) C dL_ahead_25 rfl ?_
      exact w_ret C ⟨(Nat.le_of_ble_eq_true rfl), (Nat.le_of_ble_eq_true rfl)⟩ dL_ahead_26)
/-! wrapper trial -/
theorem dL_trial_0 : decode cL_trial 0 = .ok (.aload_n 3, 1) := by decide +kernel
theorem dL_trial_1 : decode cL_trial 1 = .ok (.iconst 0, 1) := by decide +kernel
theorem dL_trial_2 : decode cL_trial 2 = .ok (.aload_n 0, 1) := by decide +kernel
theorem dL_trial_3 : decode cL_trial 3 = .ok (.iload_n 1, 1) := by decide +kernel
theorem dL_trial_4 : decode cL_trial 4 = .ok (.iload_n 2, 1) := by decide +kernel
theorem w_7_222 : Cond.selects "LastLoaf" ({ cls := "LastLoaf", name := "trial", desc := "(IZ)I" } : MethodName) ({ cls := "LastLoaf", name := "trial", desc := "(IZ)I" } : MethodName) ∈ TB := tb_in (lwt_7 (List.mem_of_getElem? (i := 222) (by decide +kernel))) rfl
theorem w_7_223 : Cond.code ({ cls := "LastLoaf", name := "trial", desc := "(IZ)I" } : MethodName) prog_1_method_56_code (3 : Nat) (Option.some ClassFile.FieldType.int) ∈ TB := tb_in (lwt_7 (List.mem_of_getElem? (i := 223) (by decide +kernel))) rfl
theorem w_7_220 : Cond.methodLink "LastLoafLaw" (131 : Nat) ({ cls := "LastLoaf", name := "trial", desc := "(IZ)I" } : MethodName) ∈ TB := tb_in (lwt_7 (List.mem_of_getElem? (i := 220) (by decide +kernel))) rfl
theorem w_7_221 : Cond.instanceMethod ({ cls := "LastLoaf", name := "trial", desc := "(IZ)I" } : MethodName) ∈ TB := tb_in (lwt_7 (List.mem_of_getElem? (i := 221) (by decide +kernel))) rfl
theorem dL_trial_5 : decode cL_trial 5 = .ok (.invokevirtual 131, 3) := by decide +kernel
theorem dL_trial_8 : decode cL_trial 8 = .ok (.i2l, 1) := by decide +kernel
theorem dL_trial_9 : decode cL_trial 9 = .ok (.lastore, 1) := by decide +kernel
theorem dL_trial_10 : decode cL_trial 10 = .ok (.goto 7, 3) := by decide +kernel
theorem dL_trial_17 : decode cL_trial 17 = .ok (.iconst 0, 1) := by decide +kernel
theorem dL_trial_18 : decode cL_trial 18 = .ok (.ireturn, 1) := by decide +kernel
theorem dL_trial_13 : decode cL_trial 13 = .ok (.astore 4, 2) := by decide +kernel
theorem dL_trial_15 : decode cL_trial 15 = .ok (.iconst 1, 1) := by decide +kernel
theorem dL_trial_16 : decode cL_trial 16 = .ok (.ireturn, 1) := by decide +kernel
abbrev rmW_trial : Room := { frames := rm11_trial.frames + 1, cells := 4, slots := 24, locals := 8 + (3 + 11) + rm11_trial.locals }
set_option maxHeartbeats 4000000 in
set_option maxRecDepth 100000 in
theorem wr_trial {l : Launch} {w : Wp} {ao : Nat} {cJ : ClassId} {σ : St} {o : Int64} {p0 : Int32} {p1 : Bool} (hi : zI kdC w) (hlt : l.stackTraces = false) (hao : ∀ i, i < kdC.length → w.2.2.1 i ≠ ao) {r : Sum Nat Int32 × St} (hf : q11_trial σ p0 p1 = some r) (hx : ∀ e, r.1 = .inl e → e ∈ ([0] : List Nat)) : wM l w ao cJ yL_trial cL_trial 5 [(0, 10, 13, 13)] rmW_trial [.ref (w.2.2.1 0), .int p0, .int (b2i p1), .ref ao] σ o (wk [0] r) r.2 (wo (fun v => v) r o) := wM_of rfl (Nat.le_of_ble_eq_true rfl) (fun Θ hl hw C hA hAo htab => by
  have hlt2 : Θ.1.2.1.stackTraces = false := by rw [hl]; exact hlt
  have hw2 : Θ.2.2.2.2.2 = w := by rw [hw]
  have hkd : Θ.2.2.2.2.1 = kdC := by rw [hw]
  refine g_aload_n C 3 dL_trial_0 rfl rfl ?_
  refine g_iconst (v := 0) C dL_trial_1 rfl ?_
  refine g_aload_n C 0 dL_trial_2 rfl rfl ?_
  refine g_iload_n C 1 dL_trial_3 rfl rfl ?_
  refine g_iload_n C 2 dL_trial_4 rfl rfl ?_
  refine w_call C hw2 hkd hA hao (fun v => v) [.int p0, .int (b2i p1)] r 1 6 2 rfl (c11_trial (l := Θ.1.2.1) (n_a := p0) (hunger_a := p1) rfl hi hlt2 hf) w_7_223 w_7_220 w_7_221 w_7_222 w_1_1 ⟨rfl, rfl, (Nat.le_of_ble_eq_true rfl), (Nat.le_of_ble_eq_true rfl)⟩ (by decide +kernel) rfl rfl (Nat.le_of_ble_eq_true rfl) ⟨(Nat.le_of_ble_eq_true rfl), (Nat.le_of_ble_eq_true rfl)⟩ dL_trial_5 (fun v hv => ?_) (fun e he => ?_)
  · rw [wk_r hv, wo_r hv]
    refine g_i2l C dL_trial_8 ?_
    refine w_last C hw2 hAo hao dL_trial_9 ?_
    refine g_goto C 17 dL_trial_10 (by decide) ?_
    refine g_iconst (v := 0) C dL_trial_17 rfl ?_
    exact w_ret C ⟨(Nat.le_of_ble_eq_true rfl), (Nat.le_of_ble_eq_true rfl)⟩ dL_trial_18
  · have h9 : e = 0 := by simpa using hx e he
    subst h9
    rw [wk_l (k := 1) he (by decide +kernel), wo_l he]
    refine ⟨[], ⟨0, 10, 13, 13⟩, [], "java/lang/IllegalArgumentException", htab, (fun z hz => nomatch hz), rfl, by decide, w_4_161, List.mem_of_getElem? (i := 13) rfl, fun q => ?_⟩
    refine g_astore C dL_trial_13 (Nat.le_of_ble_eq_true rfl) rfl ?_
    refine g_iconst (v := 1) C dL_trial_15 rfl ?_
    exact w_ret C ⟨(Nat.le_of_ble_eq_true rfl), (Nat.le_of_ble_eq_true rfl)⟩ dL_trial_16)
/-! wrapper span -/
theorem dL_span_0 : decode cL_span 0 = .ok (.aload_n 3, 1) := by decide +kernel
theorem dL_span_1 : decode cL_span 1 = .ok (.iconst 0, 1) := by decide +kernel
theorem dL_span_2 : decode cL_span 2 = .ok (.aload_n 0, 1) := by decide +kernel
theorem dL_span_3 : decode cL_span 3 = .ok (.iload_n 1, 1) := by decide +kernel
theorem dL_span_4 : decode cL_span 4 = .ok (.iload_n 2, 1) := by decide +kernel
theorem w_7_229 : Cond.selects "LastLoaf" ({ cls := "LastLoaf", name := "span", desc := "(IZ)I" } : MethodName) ({ cls := "LastLoaf", name := "span", desc := "(IZ)I" } : MethodName) ∈ TB := tb_in (lwt_7 (List.mem_of_getElem? (i := 229) (by decide +kernel))) rfl
theorem w_7_230 : Cond.code ({ cls := "LastLoaf", name := "span", desc := "(IZ)I" } : MethodName) prog_1_method_57_code (7 : Nat) (Option.some ClassFile.FieldType.int) ∈ TB := tb_in (lwt_7 (List.mem_of_getElem? (i := 230) (by decide +kernel))) rfl
theorem w_7_227 : Cond.methodLink "LastLoafLaw" (135 : Nat) ({ cls := "LastLoaf", name := "span", desc := "(IZ)I" } : MethodName) ∈ TB := tb_in (lwt_7 (List.mem_of_getElem? (i := 227) (by decide +kernel))) rfl
theorem w_7_228 : Cond.instanceMethod ({ cls := "LastLoaf", name := "span", desc := "(IZ)I" } : MethodName) ∈ TB := tb_in (lwt_7 (List.mem_of_getElem? (i := 228) (by decide +kernel))) rfl
theorem dL_span_5 : decode cL_span 5 = .ok (.invokevirtual 135, 3) := by decide +kernel
theorem dL_span_8 : decode cL_span 8 = .ok (.i2l, 1) := by decide +kernel
theorem dL_span_9 : decode cL_span 9 = .ok (.lastore, 1) := by decide +kernel
theorem dL_span_10 : decode cL_span 10 = .ok (.goto 7, 3) := by decide +kernel
theorem dL_span_17 : decode cL_span 17 = .ok (.iconst 0, 1) := by decide +kernel
theorem dL_span_18 : decode cL_span 18 = .ok (.ireturn, 1) := by decide +kernel
theorem dL_span_13 : decode cL_span 13 = .ok (.astore 4, 2) := by decide +kernel
theorem dL_span_15 : decode cL_span 15 = .ok (.iconst 1, 1) := by decide +kernel
theorem dL_span_16 : decode cL_span 16 = .ok (.ireturn, 1) := by decide +kernel
abbrev rmW_span : Room := { frames := rm11_span.frames + 1, cells := 4, slots := 24, locals := 8 + (7 + 11) + rm11_span.locals }
set_option maxHeartbeats 4000000 in
set_option maxRecDepth 100000 in
theorem wr_span {l : Launch} {w : Wp} {ao : Nat} {cJ : ClassId} {σ : St} {o : Int64} {p0 : Int32} {p1 : Bool} (hi : zI kdC w) (hlt : l.stackTraces = false) (hao : ∀ i, i < kdC.length → w.2.2.1 i ≠ ao) {r : Sum Nat Int32 × St} (hf : q11_span σ p0 p1 = some r) (hx : ∀ e, r.1 = .inl e → e ∈ ([0] : List Nat)) : wM l w ao cJ yL_span cL_span 5 [(0, 10, 13, 13)] rmW_span [.ref (w.2.2.1 0), .int p0, .int (b2i p1), .ref ao] σ o (wk [0] r) r.2 (wo (fun v => v) r o) := wM_of rfl (Nat.le_of_ble_eq_true rfl) (fun Θ hl hw C hA hAo htab => by
  have hlt2 : Θ.1.2.1.stackTraces = false := by rw [hl]; exact hlt
  have hw2 : Θ.2.2.2.2.2 = w := by rw [hw]
  have hkd : Θ.2.2.2.2.1 = kdC := by rw [hw]
  refine g_aload_n C 3 dL_span_0 rfl rfl ?_
  refine g_iconst (v := 0) C dL_span_1 rfl ?_
  refine g_aload_n C 0 dL_span_2 rfl rfl ?_
  refine g_iload_n C 1 dL_span_3 rfl rfl ?_
  refine g_iload_n C 2 dL_span_4 rfl rfl ?_
  refine w_call C hw2 hkd hA hao (fun v => v) [.int p0, .int (b2i p1)] r 1 6 2 rfl (c11_span (l := Θ.1.2.1) (n_a := p0) (most_a := p1) rfl hi hlt2 hf) w_7_230 w_7_227 w_7_228 w_7_229 w_1_1 ⟨rfl, rfl, (Nat.le_of_ble_eq_true rfl), (Nat.le_of_ble_eq_true rfl)⟩ (by decide +kernel) rfl rfl (Nat.le_of_ble_eq_true rfl) ⟨(Nat.le_of_ble_eq_true rfl), (Nat.le_of_ble_eq_true rfl)⟩ dL_span_5 (fun v hv => ?_) (fun e he => ?_)
  · rw [wk_r hv, wo_r hv]
    refine g_i2l C dL_span_8 ?_
    refine w_last C hw2 hAo hao dL_span_9 ?_
    refine g_goto C 17 dL_span_10 (by decide) ?_
    refine g_iconst (v := 0) C dL_span_17 rfl ?_
    exact w_ret C ⟨(Nat.le_of_ble_eq_true rfl), (Nat.le_of_ble_eq_true rfl)⟩ dL_span_18
  · have h9 : e = 0 := by simpa using hx e he
    subst h9
    rw [wk_l (k := 1) he (by decide +kernel), wo_l he]
    refine ⟨[], ⟨0, 10, 13, 13⟩, [], "java/lang/IllegalArgumentException", htab, (fun z hz => nomatch hz), rfl, by decide, w_4_161, List.mem_of_getElem? (i := 13) rfl, fun q => ?_⟩
    refine g_astore C dL_span_13 (Nat.le_of_ble_eq_true rfl) rfl ?_
    refine g_iconst (v := 1) C dL_span_15 rfl ?_
    exact w_ret C ⟨(Nat.le_of_ble_eq_true rfl), (Nat.le_of_ble_eq_true rfl)⟩ dL_span_16)
/-! wrapper led -/
theorem dL_led_0 : decode cL_led 0 = .ok (.aload_n 3, 1) := by decide +kernel
theorem dL_led_1 : decode cL_led 1 = .ok (.iconst 0, 1) := by decide +kernel
theorem dL_led_2 : decode cL_led 2 = .ok (.aload_n 0, 1) := by decide +kernel
theorem dL_led_3 : decode cL_led 3 = .ok (.iload_n 1, 1) := by decide +kernel
theorem dL_led_4 : decode cL_led 4 = .ok (.iload_n 2, 1) := by decide +kernel
theorem w_7_237 : Cond.selects "LastLoaf" ({ cls := "LastLoaf", name := "led", desc := "(IZ)I" } : MethodName) ({ cls := "LastLoaf", name := "led", desc := "(IZ)I" } : MethodName) ∈ TB := tb_in (lwt_7 (List.mem_of_getElem? (i := 237) (by decide +kernel))) rfl
theorem w_7_238 : Cond.code ({ cls := "LastLoaf", name := "led", desc := "(IZ)I" } : MethodName) prog_1_method_58_code (3 : Nat) (Option.some ClassFile.FieldType.int) ∈ TB := tb_in (lwt_7 (List.mem_of_getElem? (i := 238) (by decide +kernel))) rfl
theorem w_7_235 : Cond.methodLink "LastLoafLaw" (138 : Nat) ({ cls := "LastLoaf", name := "led", desc := "(IZ)I" } : MethodName) ∈ TB := tb_in (lwt_7 (List.mem_of_getElem? (i := 235) (by decide +kernel))) rfl
theorem w_7_236 : Cond.instanceMethod ({ cls := "LastLoaf", name := "led", desc := "(IZ)I" } : MethodName) ∈ TB := tb_in (lwt_7 (List.mem_of_getElem? (i := 236) (by decide +kernel))) rfl
theorem dL_led_5 : decode cL_led 5 = .ok (.invokevirtual 138, 3) := by decide +kernel
theorem dL_led_8 : decode cL_led 8 = .ok (.i2l, 1) := by decide +kernel
theorem dL_led_9 : decode cL_led 9 = .ok (.lastore, 1) := by decide +kernel
theorem dL_led_10 : decode cL_led 10 = .ok (.goto 7, 3) := by decide +kernel
theorem dL_led_17 : decode cL_led 17 = .ok (.iconst 0, 1) := by decide +kernel
theorem dL_led_18 : decode cL_led 18 = .ok (.ireturn, 1) := by decide +kernel
theorem dL_led_13 : decode cL_led 13 = .ok (.astore 4, 2) := by decide +kernel
theorem dL_led_15 : decode cL_led 15 = .ok (.iconst 1, 1) := by decide +kernel
theorem dL_led_16 : decode cL_led 16 = .ok (.ireturn, 1) := by decide +kernel
abbrev rmW_led : Room := { frames := rm11_led.frames + 1, cells := 4, slots := 24, locals := 8 + (3 + 11) + rm11_led.locals }
set_option maxHeartbeats 4000000 in
set_option maxRecDepth 100000 in
theorem wr_led {l : Launch} {w : Wp} {ao : Nat} {cJ : ClassId} {σ : St} {o : Int64} {p0 : Int32} {p1 : Bool} (hi : zI kdC w) (hlt : l.stackTraces = false) (hao : ∀ i, i < kdC.length → w.2.2.1 i ≠ ao) {r : Sum Nat Int32 × St} (hf : q11_led σ p0 p1 = some r) (hx : ∀ e, r.1 = .inl e → e ∈ ([2] : List Nat)) : wM l w ao cJ yL_led cL_led 5 [(0, 10, 13, 24)] rmW_led [.ref (w.2.2.1 0), .int p0, .int (b2i p1), .ref ao] σ o (wk [2] r) r.2 (wo (fun v => v) r o) := wM_of rfl (Nat.le_of_ble_eq_true rfl) (fun Θ hl hw C hA hAo htab => by
  have hlt2 : Θ.1.2.1.stackTraces = false := by rw [hl]; exact hlt
  have hw2 : Θ.2.2.2.2.2 = w := by rw [hw]
  have hkd : Θ.2.2.2.2.1 = kdC := by rw [hw]
  refine g_aload_n C 3 dL_led_0 rfl rfl ?_
  refine g_iconst (v := 0) C dL_led_1 rfl ?_
  refine g_aload_n C 0 dL_led_2 rfl rfl ?_
  refine g_iload_n C 1 dL_led_3 rfl rfl ?_
  refine g_iload_n C 2 dL_led_4 rfl rfl ?_
  refine w_call C hw2 hkd hA hao (fun v => v) [.int p0, .int (b2i p1)] r 1 6 2 rfl (c11_led (l := Θ.1.2.1) (person_a := p0) (week_a := p1) rfl hi hlt2 hf) w_7_238 w_7_235 w_7_236 w_7_237 w_1_1 ⟨rfl, rfl, (Nat.le_of_ble_eq_true rfl), (Nat.le_of_ble_eq_true rfl)⟩ (by decide +kernel) rfl rfl (Nat.le_of_ble_eq_true rfl) ⟨(Nat.le_of_ble_eq_true rfl), (Nat.le_of_ble_eq_true rfl)⟩ dL_led_5 (fun v hv => ?_) (fun e he => ?_)
  · rw [wk_r hv, wo_r hv]
    refine g_i2l C dL_led_8 ?_
    refine w_last C hw2 hAo hao dL_led_9 ?_
    refine g_goto C 17 dL_led_10 (by decide) ?_
    refine g_iconst (v := 0) C dL_led_17 rfl ?_
    exact w_ret C ⟨(Nat.le_of_ble_eq_true rfl), (Nat.le_of_ble_eq_true rfl)⟩ dL_led_18
  · have h9 : e = 2 := by simpa using hx e he
    subst h9
    rw [wk_l (k := 1) he (by decide +kernel), wo_l he]
    refine ⟨[], ⟨0, 10, 13, 24⟩, [], "java/lang/IndexOutOfBoundsException", htab, (fun z hz => nomatch hz), rfl, by decide, w_5_218, List.mem_of_getElem? (i := 21) rfl, fun q => ?_⟩
    refine g_astore C dL_led_13 (Nat.le_of_ble_eq_true rfl) rfl ?_
    refine g_iconst (v := 1) C dL_led_15 rfl ?_
    exact w_ret C ⟨(Nat.le_of_ble_eq_true rfl), (Nat.le_of_ble_eq_true rfl)⟩ dL_led_16)
/-! wrapper log -/
theorem dL_log_0 : decode cL_log 0 = .ok (.aload_n 3, 1) := by decide +kernel
theorem dL_log_1 : decode cL_log 1 = .ok (.iconst 0, 1) := by decide +kernel
theorem dL_log_2 : decode cL_log 2 = .ok (.aload_n 0, 1) := by decide +kernel
theorem dL_log_3 : decode cL_log 3 = .ok (.iload_n 1, 1) := by decide +kernel
theorem dL_log_4 : decode cL_log 4 = .ok (.iload_n 2, 1) := by decide +kernel
theorem w_8_17 : Cond.selects "LastLoaf" ({ cls := "LastLoaf", name := "log", desc := "(II)I" } : MethodName) ({ cls := "LastLoaf", name := "log", desc := "(II)I" } : MethodName) ∈ TB := tb_in (lwt_8 (List.mem_of_getElem? (i := 17) (by decide +kernel))) rfl
theorem w_8_18 : Cond.code ({ cls := "LastLoaf", name := "log", desc := "(II)I" } : MethodName) prog_1_method_59_code (3 : Nat) (Option.some ClassFile.FieldType.int) ∈ TB := tb_in (lwt_8 (List.mem_of_getElem? (i := 18) (by decide +kernel))) rfl
theorem w_8_15 : Cond.methodLink "LastLoafLaw" (141 : Nat) ({ cls := "LastLoaf", name := "log", desc := "(II)I" } : MethodName) ∈ TB := tb_in (lwt_8 (List.mem_of_getElem? (i := 15) (by decide +kernel))) rfl
theorem w_8_16 : Cond.instanceMethod ({ cls := "LastLoaf", name := "log", desc := "(II)I" } : MethodName) ∈ TB := tb_in (lwt_8 (List.mem_of_getElem? (i := 16) (by decide +kernel))) rfl
theorem dL_log_5 : decode cL_log 5 = .ok (.invokevirtual 141, 3) := by decide +kernel
theorem dL_log_8 : decode cL_log 8 = .ok (.i2l, 1) := by decide +kernel
theorem dL_log_9 : decode cL_log 9 = .ok (.lastore, 1) := by decide +kernel
theorem dL_log_10 : decode cL_log 10 = .ok (.goto 7, 3) := by decide +kernel
theorem dL_log_17 : decode cL_log 17 = .ok (.iconst 0, 1) := by decide +kernel
theorem dL_log_18 : decode cL_log 18 = .ok (.ireturn, 1) := by decide +kernel
theorem dL_log_13 : decode cL_log 13 = .ok (.astore 4, 2) := by decide +kernel
theorem dL_log_15 : decode cL_log 15 = .ok (.iconst 1, 1) := by decide +kernel
theorem dL_log_16 : decode cL_log 16 = .ok (.ireturn, 1) := by decide +kernel
abbrev rmW_log : Room := { frames := rm11_log.frames + 1, cells := 4, slots := 24, locals := 8 + (3 + 11) + rm11_log.locals }
set_option maxHeartbeats 4000000 in
set_option maxRecDepth 100000 in
theorem wr_log {l : Launch} {w : Wp} {ao : Nat} {cJ : ClassId} {σ : St} {o : Int64} {p0 : Int32} {p1 : Int32} (hi : zI kdC w) (hlt : l.stackTraces = false) (hao : ∀ i, i < kdC.length → w.2.2.1 i ≠ ao) {r : Sum Nat Int32 × St} (hf : q11_log σ p0 p1 = some r) (hx : ∀ e, r.1 = .inl e → e ∈ ([4] : List Nat)) : wM l w ao cJ yL_log cL_log 5 [(0, 10, 13, 26)] rmW_log [.ref (w.2.2.1 0), .int p0, .int p1, .ref ao] σ o (wk [4] r) r.2 (wo (fun v => v) r o) := wM_of rfl (Nat.le_of_ble_eq_true rfl) (fun Θ hl hw C hA hAo htab => by
  have hlt2 : Θ.1.2.1.stackTraces = false := by rw [hl]; exact hlt
  have hw2 : Θ.2.2.2.2.2 = w := by rw [hw]
  have hkd : Θ.2.2.2.2.1 = kdC := by rw [hw]
  refine g_aload_n C 3 dL_log_0 rfl rfl ?_
  refine g_iconst (v := 0) C dL_log_1 rfl ?_
  refine g_aload_n C 0 dL_log_2 rfl rfl ?_
  refine g_iload_n C 1 dL_log_3 rfl rfl ?_
  refine g_iload_n C 2 dL_log_4 rfl rfl ?_
  refine w_call C hw2 hkd hA hao (fun v => v) [.int p0, .int p1] r 1 6 2 rfl (c11_log (l := Θ.1.2.1) (ago_a := p0) (what_a := p1) rfl hi hlt2 hf) w_8_18 w_8_15 w_8_16 w_8_17 w_1_1 ⟨rfl, rfl, (Nat.le_of_ble_eq_true rfl), (Nat.le_of_ble_eq_true rfl)⟩ (by decide +kernel) rfl rfl (Nat.le_of_ble_eq_true rfl) ⟨(Nat.le_of_ble_eq_true rfl), (Nat.le_of_ble_eq_true rfl)⟩ dL_log_5 (fun v hv => ?_) (fun e he => ?_)
  · rw [wk_r hv, wo_r hv]
    refine g_i2l C dL_log_8 ?_
    refine w_last C hw2 hAo hao dL_log_9 ?_
    refine g_goto C 17 dL_log_10 (by decide) ?_
    refine g_iconst (v := 0) C dL_log_17 rfl ?_
    exact w_ret C ⟨(Nat.le_of_ble_eq_true rfl), (Nat.le_of_ble_eq_true rfl)⟩ dL_log_18
  · have h9 : e = 4 := by simpa using hx e he
    subst h9
    rw [wk_l (k := 1) he (by decide +kernel), wo_l he]
    refine ⟨[], ⟨0, 10, 13, 26⟩, [], "java/util/NoSuchElementException", htab, (fun z hz => nomatch hz), rfl, by decide, w_5_219, List.mem_of_getElem? (i := 23) rfl, fun q => ?_⟩
    refine g_astore C dL_log_13 (Nat.le_of_ble_eq_true rfl) rfl ?_
    refine g_iconst (v := 1) C dL_log_15 rfl ?_
    exact w_ret C ⟨(Nat.le_of_ble_eq_true rfl), (Nat.le_of_ble_eq_true rfl)⟩ dL_log_16)

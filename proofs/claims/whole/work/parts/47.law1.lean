/-! case 0 -/
theorem dL_law__308 : decode cL_law_ 308 = .ok (.aload_n 1, 1) := by decide +kernel
theorem dL_law__309 : decode cL_law_ 309 = .ok (.aload_n 0, 1) := by decide +kernel
theorem dL_law__310 : decode cL_law_ 310 = .ok (.iload 4, 2) := by decide +kernel
theorem dL_law__312 : decode cL_law_ 312 = .ok (.iconst 1, 1) := by decide +kernel
theorem dL_law__313 : decode cL_law_ 313 = .ok (.iadd, 1) := by decide +kernel
theorem dL_law__314 : decode cL_law_ 314 = .ok (.iaload, 1) := by decide +kernel
theorem dL_law__315 : decode cL_law_ 315 = .ok (.aload_n 0, 1) := by decide +kernel
theorem dL_law__316 : decode cL_law_ 316 = .ok (.iload 4, 2) := by decide +kernel
theorem dL_law__318 : decode cL_law_ 318 = .ok (.iconst 2, 1) := by decide +kernel
theorem dL_law__319 : decode cL_law_ 319 = .ok (.iadd, 1) := by decide +kernel
theorem dL_law__320 : decode cL_law_ 320 = .ok (.iaload, 1) := by decide +kernel
theorem dL_law__321 : decode cL_law_ 321 = .ok (.aload_n 0, 1) := by decide +kernel
theorem dL_law__322 : decode cL_law_ 322 = .ok (.iload 4, 2) := by decide +kernel
theorem dL_law__324 : decode cL_law_ 324 = .ok (.iconst 3, 1) := by decide +kernel
theorem dL_law__325 : decode cL_law_ 325 = .ok (.iadd, 1) := by decide +kernel
theorem dL_law__326 : decode cL_law_ 326 = .ok (.iaload, 1) := by decide +kernel
theorem dL_law__327 : decode cL_law_ 327 = .ok (.aload_n 0, 1) := by decide +kernel
theorem dL_law__328 : decode cL_law_ 328 = .ok (.iload 4, 2) := by decide +kernel
theorem dL_law__330 : decode cL_law_ 330 = .ok (.iconst 4, 1) := by decide +kernel
theorem dL_law__331 : decode cL_law_ 331 = .ok (.iadd, 1) := by decide +kernel
theorem dL_law__332 : decode cL_law_ 332 = .ok (.iaload, 1) := by decide +kernel
theorem dL_law__333 : decode cL_law_ 333 = .ok (.aload_n 0, 1) := by decide +kernel
theorem dL_law__334 : decode cL_law_ 334 = .ok (.iload 4, 2) := by decide +kernel
theorem dL_law__336 : decode cL_law_ 336 = .ok (.iconst 5, 1) := by decide +kernel
theorem dL_law__337 : decode cL_law_ 337 = .ok (.iadd, 1) := by decide +kernel
theorem dL_law__338 : decode cL_law_ 338 = .ok (.iaload, 1) := by decide +kernel
theorem w_2_238 : Cond.selects "LastLoaf" ({ cls := "LastLoaf", name := "feed", desc := "(IIIII)I" } : MethodName) ({ cls := "LastLoaf", name := "feed", desc := "(IIIII)I" } : MethodName) ∈ TB := tb_in (lwt_2 (List.mem_of_getElem? (i := 238) (by decide +kernel))) rfl
theorem w_2_239 : Cond.code ({ cls := "LastLoaf", name := "feed", desc := "(IIIII)I" } : MethodName) prog_1_method_2_code (6 : Nat) (Option.some ClassFile.FieldType.int) ∈ TB := tb_in (lwt_2 (List.mem_of_getElem? (i := 239) (by decide +kernel))) rfl
theorem w_2_236 : Cond.methodLink "LastLoafLaw" (148 : Nat) ({ cls := "LastLoaf", name := "feed", desc := "(IIIII)I" } : MethodName) ∈ TB := tb_in (lwt_2 (List.mem_of_getElem? (i := 236) (by decide +kernel))) rfl
theorem w_2_237 : Cond.instanceMethod ({ cls := "LastLoaf", name := "feed", desc := "(IIIII)I" } : MethodName) ∈ TB := tb_in (lwt_2 (List.mem_of_getElem? (i := 237) (by decide +kernel))) rfl
theorem dL_law__339 : decode cL_law_ 339 = .ok (.invokevirtual 148, 3) := by decide +kernel
theorem dL_law__342 : decode cL_law_ 342 = .ok (.aload_n 2, 1) := by decide +kernel
theorem dL_law__343 : decode cL_law_ 343 = .ok (.aload_n 0, 1) := by decide +kernel
theorem dL_law__344 : decode cL_law_ 344 = .ok (.iload 4, 2) := by decide +kernel
theorem dL_law__346 : decode cL_law_ 346 = .ok (.iconst 1, 1) := by decide +kernel
theorem dL_law__347 : decode cL_law_ 347 = .ok (.iadd, 1) := by decide +kernel
theorem dL_law__348 : decode cL_law_ 348 = .ok (.iaload, 1) := by decide +kernel
theorem dL_law__349 : decode cL_law_ 349 = .ok (.aload_n 0, 1) := by decide +kernel
theorem dL_law__350 : decode cL_law_ 350 = .ok (.iload 4, 2) := by decide +kernel
theorem dL_law__352 : decode cL_law_ 352 = .ok (.iconst 2, 1) := by decide +kernel
theorem dL_law__353 : decode cL_law_ 353 = .ok (.iadd, 1) := by decide +kernel
theorem dL_law__354 : decode cL_law_ 354 = .ok (.iaload, 1) := by decide +kernel
theorem dL_law__355 : decode cL_law_ 355 = .ok (.aload_n 0, 1) := by decide +kernel
theorem dL_law__356 : decode cL_law_ 356 = .ok (.iload 4, 2) := by decide +kernel
theorem dL_law__358 : decode cL_law_ 358 = .ok (.iconst 3, 1) := by decide +kernel
theorem dL_law__359 : decode cL_law_ 359 = .ok (.iadd, 1) := by decide +kernel
theorem dL_law__360 : decode cL_law_ 360 = .ok (.iaload, 1) := by decide +kernel
theorem dL_law__361 : decode cL_law_ 361 = .ok (.aload_n 0, 1) := by decide +kernel
theorem dL_law__362 : decode cL_law_ 362 = .ok (.iload 4, 2) := by decide +kernel
theorem dL_law__364 : decode cL_law_ 364 = .ok (.iconst 4, 1) := by decide +kernel
theorem dL_law__365 : decode cL_law_ 365 = .ok (.iadd, 1) := by decide +kernel
theorem dL_law__366 : decode cL_law_ 366 = .ok (.iaload, 1) := by decide +kernel
theorem dL_law__367 : decode cL_law_ 367 = .ok (.aload_n 0, 1) := by decide +kernel
theorem dL_law__368 : decode cL_law_ 368 = .ok (.iload 4, 2) := by decide +kernel
theorem dL_law__370 : decode cL_law_ 370 = .ok (.iconst 5, 1) := by decide +kernel
theorem dL_law__371 : decode cL_law_ 371 = .ok (.iadd, 1) := by decide +kernel
theorem dL_law__372 : decode cL_law_ 372 = .ok (.iaload, 1) := by decide +kernel
theorem w_8_133 : Cond.selects "LastLoafModel" ({ cls := "LastLoafModel", name := "feed", desc := "(IIIII)I" } : MethodName) ({ cls := "LastLoafModel", name := "feed", desc := "(IIIII)I" } : MethodName) ∈ TB := tb_in (lwt_8 (List.mem_of_getElem? (i := 133) (by decide +kernel))) rfl
theorem w_8_134 : Cond.code ({ cls := "LastLoafModel", name := "feed", desc := "(IIIII)I" } : MethodName) prog_14_method_14_code (8 : Nat) (Option.some ClassFile.FieldType.int) ∈ TB := tb_in (lwt_8 (List.mem_of_getElem? (i := 134) (by decide +kernel))) rfl
theorem w_8_131 : Cond.methodLink "LastLoafLaw" (152 : Nat) ({ cls := "LastLoafModel", name := "feed", desc := "(IIIII)I" } : MethodName) ∈ TB := tb_in (lwt_8 (List.mem_of_getElem? (i := 131) (by decide +kernel))) rfl
theorem w_8_132 : Cond.instanceMethod ({ cls := "LastLoafModel", name := "feed", desc := "(IIIII)I" } : MethodName) ∈ TB := tb_in (lwt_8 (List.mem_of_getElem? (i := 132) (by decide +kernel))) rfl
theorem dL_law__373 : decode cL_law_ 373 = .ok (.invokevirtual 152, 3) := by decide +kernel
theorem dL_law__376 : decode cL_law_ 376 = .ok (.if_icmp .eq 2875, 3) := by decide +kernel
def Op_feed (RR : St → St → Prop) : Prop := ∀ (σ μ : St), RR σ μ → ∀ (a0 : Int32) (a1 : Int32) (a2 : Int32) (a3 : Int32) (a4 : Int32), ∃ (r1 : (Int32 × St)) (r2 : (Int32 × St)), q11_feed σ a0 a1 a2 a3 a4 = some r1 ∧ q12_feed μ a0 a1 a2 a3 a4 = some r2 ∧ r1.1 = r2.1 ∧ RR r1.2 r2.2
set_option maxHeartbeats 4000000 in
set_option maxRecDepth 100000 in
theorem law_0 {RR : St → St → Prop} (hop : Op_feed RR) {Θ : Tz} {cJ : ClassId} {Q : State → Prop} {w : Wp} {aM : Nat → Nat} {ao b L : Nat} {xs : Nat → Int32} (C : Gc Θ cL_law_ 7 RL (some .boolean) room_1 cJ) (hlt : Θ.1.2.1.stackTraces = false) (Lx : Lq Θ w aM ao) (S : Ls Θ b L xs) {σ μ : St} {o : Int64} {i kc ks : Nat} (hi : i + 6 ≤ L) (hk : kc + 4 ≤ 601024 ∧ ks + 24 ≤ 7293034) (hR : RR σ μ) (K : ∀ σ' μ' o', RR σ' μ' → G Θ 7 (kc + 4) (ks + 24) Q (LPx w aM ao cJ σ' μ' o') 3251 (llv w aM ao b i) []) : G Θ 7 kc ks Q (LPx w aM ao cJ σ μ o) 308 (llv w aM ao b i) [] := by
  obtain ⟨r1, r2, h1, h2, he, hR2⟩ := hop σ μ hR (xs (i + 1)) (xs (i + 2)) (xs (i + 3)) (xs (i + 4)) (xs (i + 5))
  refine g_aload_n C 1 dL_law__308 rfl rfl ?_
  refine l_arg C S 0 4 1 rfl rfl (by omega) rfl dL_law__309 dL_law__310 dL_law__312 dL_law__313 dL_law__314 ?_
  refine l_arg C S 0 4 2 rfl rfl (by omega) rfl dL_law__315 dL_law__316 dL_law__318 dL_law__319 dL_law__320 ?_
  refine l_arg C S 0 4 3 rfl rfl (by omega) rfl dL_law__321 dL_law__322 dL_law__324 dL_law__325 dL_law__326 ?_
  refine l_arg C S 0 4 4 rfl rfl (by omega) rfl dL_law__327 dL_law__328 dL_law__330 dL_law__331 dL_law__332 ?_
  refine l_arg C S 0 4 5 rfl rfl (by omega) rfl dL_law__333 dL_law__334 dL_law__336 dL_law__337 dL_law__338 ?_
  refine l_callCi C Lx [.int (xs (i + 1)), .int (xs (i + 2)), .int (xs (i + 3)), .int (xs (i + 4)), .int (xs (i + 5))] r1.1 r1.2 5 rfl (c11_feed (l := Θ.1.2.1) (w := w) (a_a := (xs (i + 1))) (b_a := (xs (i + 2))) (c_a := (xs (i + 3))) (d_a := (xs (i + 4))) (e_a := (xs (i + 5))) rfl Lx.2.1 h1) w_2_239 w_2_236 w_2_237 w_2_238 w_1_1 ⟨rfl, rfl, (Nat.le_of_ble_eq_true rfl), (Nat.le_of_ble_eq_true rfl)⟩ (by decide +kernel) rfl rfl (Nat.le_of_ble_eq_true rfl) ⟨Nat.le_trans (Nat.le_add_right _ _) hk.1, Nat.le_trans (Nat.le_add_right _ _) hk.2⟩ dL_law__339 ?_
  refine g_aload_n C 2 dL_law__342 rfl rfl ?_
  refine l_arg C S 0 4 1 rfl rfl (by omega) rfl dL_law__343 dL_law__344 dL_law__346 dL_law__347 dL_law__348 ?_
  refine l_arg C S 0 4 2 rfl rfl (by omega) rfl dL_law__349 dL_law__350 dL_law__352 dL_law__353 dL_law__354 ?_
  refine l_arg C S 0 4 3 rfl rfl (by omega) rfl dL_law__355 dL_law__356 dL_law__358 dL_law__359 dL_law__360 ?_
  refine l_arg C S 0 4 4 rfl rfl (by omega) rfl dL_law__361 dL_law__362 dL_law__364 dL_law__365 dL_law__366 ?_
  refine l_arg C S 0 4 5 rfl rfl (by omega) rfl dL_law__367 dL_law__368 dL_law__370 dL_law__371 dL_law__372 ?_
  refine l_callMi C Lx [.int (xs (i + 1)), .int (xs (i + 2)), .int (xs (i + 3)), .int (xs (i + 4)), .int (xs (i + 5))] r2.1 r2.2 5 rfl (c12_feed (l := Θ.1.2.1) (w := wm w aM) (a_a := (xs (i + 1))) (b_a := (xs (i + 2))) (c_a := (xs (i + 3))) (d_a := (xs (i + 4))) (e_a := (xs (i + 5))) rfl Lx.2.2.1 h2) w_8_134 w_8_131 w_8_132 w_8_133 w_1_14 ⟨rfl, rfl, (Nat.le_of_ble_eq_true rfl), (Nat.le_of_ble_eq_true rfl)⟩ (by decide +kernel) rfl rfl (Nat.le_of_ble_eq_true rfl) ⟨Nat.le_trans (Nat.le_add_right _ _) hk.1, Nat.le_trans (Nat.le_add_right _ _) hk.2⟩ dL_law__373 ?_
  refine g_icmp_eq C 3251 dL_law__376 (by decide) (fun _ => ?_) (fun h => absurd (he) h)
  exact G.wid (Nat.le_add_right _ _) (Nat.le_add_right _ _) (K _ _ o hR2)
/-! case 1 -/
theorem dL_law__381 : decode cL_law_ 381 = .ok (.aload_n 1, 1) := by decide +kernel
theorem dL_law__382 : decode cL_law_ 382 = .ok (.aload_n 0, 1) := by decide +kernel
theorem dL_law__383 : decode cL_law_ 383 = .ok (.iload 4, 2) := by decide +kernel
theorem dL_law__385 : decode cL_law_ 385 = .ok (.iconst 1, 1) := by decide +kernel
theorem dL_law__386 : decode cL_law_ 386 = .ok (.iadd, 1) := by decide +kernel
theorem dL_law__387 : decode cL_law_ 387 = .ok (.iaload, 1) := by decide +kernel
theorem w_3_6 : Cond.selects "LastLoaf" ({ cls := "LastLoaf", name := "end", desc := "(I)Z" } : MethodName) ({ cls := "LastLoaf", name := "end", desc := "(I)Z" } : MethodName) ∈ TB := tb_in (lwt_3 (List.mem_of_getElem? (i := 6) (by decide +kernel))) rfl
theorem w_3_7 : Cond.code ({ cls := "LastLoaf", name := "end", desc := "(I)Z" } : MethodName) prog_1_method_3_code (2 : Nat) (Option.some ClassFile.FieldType.boolean) ∈ TB := tb_in (lwt_3 (List.mem_of_getElem? (i := 7) (by decide +kernel))) rfl
theorem w_3_4 : Cond.methodLink "LastLoafLaw" (153 : Nat) ({ cls := "LastLoaf", name := "end", desc := "(I)Z" } : MethodName) ∈ TB := tb_in (lwt_3 (List.mem_of_getElem? (i := 4) (by decide +kernel))) rfl
theorem w_3_5 : Cond.instanceMethod ({ cls := "LastLoaf", name := "end", desc := "(I)Z" } : MethodName) ∈ TB := tb_in (lwt_3 (List.mem_of_getElem? (i := 5) (by decide +kernel))) rfl
theorem dL_law__388 : decode cL_law_ 388 = .ok (.invokevirtual 153, 3) := by decide +kernel
theorem dL_law__391 : decode cL_law_ 391 = .ok (.aload_n 2, 1) := by decide +kernel
theorem dL_law__392 : decode cL_law_ 392 = .ok (.aload_n 0, 1) := by decide +kernel
theorem dL_law__393 : decode cL_law_ 393 = .ok (.iload 4, 2) := by decide +kernel
theorem dL_law__395 : decode cL_law_ 395 = .ok (.iconst 1, 1) := by decide +kernel
theorem dL_law__396 : decode cL_law_ 396 = .ok (.iadd, 1) := by decide +kernel
theorem dL_law__397 : decode cL_law_ 397 = .ok (.iaload, 1) := by decide +kernel
theorem w_8_137 : Cond.selects "LastLoafModel" ({ cls := "LastLoafModel", name := "end", desc := "(I)Z" } : MethodName) ({ cls := "LastLoafModel", name := "end", desc := "(I)Z" } : MethodName) ∈ TB := tb_in (lwt_8 (List.mem_of_getElem? (i := 137) (by decide +kernel))) rfl
theorem w_8_138 : Cond.code ({ cls := "LastLoafModel", name := "end", desc := "(I)Z" } : MethodName) prog_14_method_15_code (2 : Nat) (Option.some ClassFile.FieldType.boolean) ∈ TB := tb_in (lwt_8 (List.mem_of_getElem? (i := 138) (by decide +kernel))) rfl
theorem w_8_135 : Cond.methodLink "LastLoafLaw" (156 : Nat) ({ cls := "LastLoafModel", name := "end", desc := "(I)Z" } : MethodName) ∈ TB := tb_in (lwt_8 (List.mem_of_getElem? (i := 135) (by decide +kernel))) rfl
theorem w_8_136 : Cond.instanceMethod ({ cls := "LastLoafModel", name := "end", desc := "(I)Z" } : MethodName) ∈ TB := tb_in (lwt_8 (List.mem_of_getElem? (i := 136) (by decide +kernel))) rfl
theorem dL_law__398 : decode cL_law_ 398 = .ok (.invokevirtual 156, 3) := by decide +kernel
theorem dL_law__401 : decode cL_law_ 401 = .ok (.if_icmp .eq 2850, 3) := by decide +kernel
def Op_end (RR : St → St → Prop) : Prop := ∀ (σ μ : St), RR σ μ → ∀ (a0 : Int32), ∃ (r1 : (Bool × St)) (r2 : (Bool × St)), q11_end σ a0 = some r1 ∧ q12_end μ a0 = some r2 ∧ r1.1 = r2.1 ∧ RR r1.2 r2.2
set_option maxHeartbeats 4000000 in
set_option maxRecDepth 100000 in
theorem law_1 {RR : St → St → Prop} (hop : Op_end RR) {Θ : Tz} {cJ : ClassId} {Q : State → Prop} {w : Wp} {aM : Nat → Nat} {ao b L : Nat} {xs : Nat → Int32} (C : Gc Θ cL_law_ 7 RL (some .boolean) room_1 cJ) (hlt : Θ.1.2.1.stackTraces = false) (Lx : Lq Θ w aM ao) (S : Ls Θ b L xs) {σ μ : St} {o : Int64} {i kc ks : Nat} (hi : i + 6 ≤ L) (hk : kc + 4 ≤ 601024 ∧ ks + 24 ≤ 7293034) (hR : RR σ μ) (K : ∀ σ' μ' o', RR σ' μ' → G Θ 7 (kc + 4) (ks + 24) Q (LPx w aM ao cJ σ' μ' o') 3251 (llv w aM ao b i) []) : G Θ 7 kc ks Q (LPx w aM ao cJ σ μ o) 381 (llv w aM ao b i) [] := by
  obtain ⟨r1, r2, h1, h2, he, hR2⟩ := hop σ μ hR (xs (i + 1))
  refine g_aload_n C 1 dL_law__381 rfl rfl ?_
  refine l_arg C S 0 4 1 rfl rfl (by omega) rfl dL_law__382 dL_law__383 dL_law__385 dL_law__386 dL_law__387 ?_
  refine l_callCi C Lx [.int (xs (i + 1))] (b2i r1.1) r1.2 1 rfl (c11_end (l := Θ.1.2.1) (w := w) (n_a := (xs (i + 1))) rfl Lx.2.1 h1) w_3_7 w_3_4 w_3_5 w_3_6 w_1_1 ⟨rfl, rfl, (Nat.le_of_ble_eq_true rfl), (Nat.le_of_ble_eq_true rfl)⟩ (by decide +kernel) rfl rfl (Nat.le_of_ble_eq_true rfl) ⟨Nat.le_trans (Nat.le_add_right _ _) hk.1, Nat.le_trans (Nat.le_add_right _ _) hk.2⟩ dL_law__388 ?_
  refine g_aload_n C 2 dL_law__391 rfl rfl ?_
  refine l_arg C S 0 4 1 rfl rfl (by omega) rfl dL_law__392 dL_law__393 dL_law__395 dL_law__396 dL_law__397 ?_
  refine l_callMi C Lx [.int (xs (i + 1))] (b2i r2.1) r2.2 1 rfl (c12_end (l := Θ.1.2.1) (w := wm w aM) (n_a := (xs (i + 1))) rfl Lx.2.2.1 h2) w_8_138 w_8_135 w_8_136 w_8_137 w_1_14 ⟨rfl, rfl, (Nat.le_of_ble_eq_true rfl), (Nat.le_of_ble_eq_true rfl)⟩ (by decide +kernel) rfl rfl (Nat.le_of_ble_eq_true rfl) ⟨Nat.le_trans (Nat.le_add_right _ _) hk.1, Nat.le_trans (Nat.le_add_right _ _) hk.2⟩ dL_law__398 ?_
  refine g_icmp_eq C 3251 dL_law__401 (by decide) (fun _ => ?_) (fun h => absurd (congrArg b2i he) h)
  exact G.wid (Nat.le_add_right _ _) (Nat.le_add_right _ _) (K _ _ o hR2)
/-! case 2 -/
theorem dL_law__406 : decode cL_law_ 406 = .ok (.aload_n 1, 1) := by decide +kernel
theorem dL_law__407 : decode cL_law_ 407 = .ok (.aload_n 3, 1) := by decide +kernel
theorem w_4_160 : Cond.codeWith ({ cls := "LastLoafLaw", name := "village", desc := "(LLastLoaf;[J)I" } : MethodName) method_3_code (3 : Nat) (Option.some ClassFile.FieldType.int) [((0 : Nat), (8 : Nat), (11 : Nat), (13 : Nat)), ((0 : Nat), (8 : Nat), (14 : Nat), (15 : Nat))] ∈ TB := tb_in (lwt_4 (List.mem_of_getElem? (i := 160) (by decide +kernel))) rfl
theorem w_4_158 : Cond.methodLink "LastLoafLaw" (157 : Nat) ({ cls := "LastLoafLaw", name := "village", desc := "(LLastLoaf;[J)I" } : MethodName) ∈ TB := tb_in (lwt_4 (List.mem_of_getElem? (i := 158) (by decide +kernel))) rfl
theorem w_4_159 : Cond.static ({ cls := "LastLoafLaw", name := "village", desc := "(LLastLoaf;[J)I" } : MethodName) ∈ TB := tb_in (lwt_4 (List.mem_of_getElem? (i := 159) (by decide +kernel))) rfl
theorem w_1_0 : Cond.initialized "LastLoafLaw" ∈ TB := tb_in (lwt_1 (List.mem_of_getElem? (i := 0) (by decide +kernel))) rfl
theorem dL_law__408 : decode cL_law_ 408 = .ok (.invokestatic 157, 3) := by decide +kernel
theorem dL_law__411 : decode cL_law_ 411 = .ok (.istore 5, 2) := by decide +kernel
theorem dL_law__413 : decode cL_law_ 413 = .ok (.aload_n 2, 1) := by decide +kernel
theorem w_8_144 : Cond.selects "LastLoafModel" ({ cls := "LastLoafModel", name := "village", desc := "()I" } : MethodName) ({ cls := "LastLoafModel", name := "village", desc := "()I" } : MethodName) ∈ TB := tb_in (lwt_8 (List.mem_of_getElem? (i := 144) (by decide +kernel))) rfl
theorem w_8_145 : Cond.code ({ cls := "LastLoafModel", name := "village", desc := "()I" } : MethodName) prog_14_method_33_code (2 : Nat) (Option.some ClassFile.FieldType.int) ∈ TB := tb_in (lwt_8 (List.mem_of_getElem? (i := 145) (by decide +kernel))) rfl
theorem w_8_142 : Cond.methodLink "LastLoafLaw" (162 : Nat) ({ cls := "LastLoafModel", name := "village", desc := "()I" } : MethodName) ∈ TB := tb_in (lwt_8 (List.mem_of_getElem? (i := 142) (by decide +kernel))) rfl
theorem w_8_143 : Cond.instanceMethod ({ cls := "LastLoafModel", name := "village", desc := "()I" } : MethodName) ∈ TB := tb_in (lwt_8 (List.mem_of_getElem? (i := 143) (by decide +kernel))) rfl
theorem dL_law__414 : decode cL_law_ 414 = .ok (.invokevirtual 162, 3) := by decide +kernel
theorem dL_law__417 : decode cL_law_ 417 = .ok (.istore 6, 2) := by decide +kernel
theorem dL_law__419 : decode cL_law_ 419 = .ok (.aload_n 2, 1) := by decide +kernel
theorem w_8_129 : Cond.selects "LastLoafModel" ({ cls := "LastLoafModel", name := "thrown", desc := "()I" } : MethodName) ({ cls := "LastLoafModel", name := "thrown", desc := "()I" } : MethodName) ∈ TB := tb_in (lwt_8 (List.mem_of_getElem? (i := 129) (by decide +kernel))) rfl
theorem w_8_130 : Cond.code ({ cls := "LastLoafModel", name := "thrown", desc := "()I" } : MethodName) prog_14_method_2_code (1 : Nat) (Option.some ClassFile.FieldType.int) ∈ TB := tb_in (lwt_8 (List.mem_of_getElem? (i := 130) (by decide +kernel))) rfl
theorem w_8_127 : Cond.methodLink "LastLoafLaw" (163 : Nat) ({ cls := "LastLoafModel", name := "thrown", desc := "()I" } : MethodName) ∈ TB := tb_in (lwt_8 (List.mem_of_getElem? (i := 127) (by decide +kernel))) rfl
theorem w_8_128 : Cond.instanceMethod ({ cls := "LastLoafModel", name := "thrown", desc := "()I" } : MethodName) ∈ TB := tb_in (lwt_8 (List.mem_of_getElem? (i := 128) (by decide +kernel))) rfl
theorem dL_law__420 : decode cL_law_ 420 = .ok (.invokevirtual 163, 3) := by decide +kernel
theorem dL_law__423 : decode cL_law_ 423 = .ok (.iload 5, 2) := by decide +kernel
theorem dL_law__425 : decode cL_law_ 425 = .ok (.if_icmp .eq 5, 3) := by decide +kernel
theorem dL_law__430 : decode cL_law_ 430 = .ok (.iload 5, 2) := by decide +kernel
theorem dL_law__432 : decode cL_law_ 432 = .ok (.ifCond .ne 15, 3) := by decide +kernel
theorem dL_law__447 : decode cL_law_ 447 = .ok (.goto 2804, 3) := by decide +kernel
theorem dL_law__435 : decode cL_law_ 435 = .ok (.aload_n 3, 1) := by decide +kernel
theorem dL_law__436 : decode cL_law_ 436 = .ok (.iconst 0, 1) := by decide +kernel
theorem dL_law__437 : decode cL_law_ 437 = .ok (.laload, 1) := by decide +kernel
theorem dL_law__438 : decode cL_law_ 438 = .ok (.iload 6, 2) := by decide +kernel
theorem dL_law__440 : decode cL_law_ 440 = .ok (.i2l, 1) := by decide +kernel
theorem dL_law__441 : decode cL_law_ 441 = .ok (.lcmp, 1) := by decide +kernel
theorem dL_law__442 : decode cL_law_ 442 = .ok (.ifCond .eq 5, 3) := by decide +kernel
def Op_village (RR : St → St → Prop) : Prop := ∀ (σ μ : St), RR σ μ → ∃ (r1 : Sum Nat Int32 × St) (r2 : Int32 × St), q11_village σ  = some r1 ∧ q12_village μ  = some r2 ∧ Sx [0, 3] r1 r2 ∧ RR r1.2 r2.2
set_option maxHeartbeats 4000000 in
set_option maxRecDepth 100000 in
theorem law_2 {RR : St → St → Prop} (hop : Op_village RR) {Θ : Tz} {cJ : ClassId} {Q : State → Prop} {w : Wp} {aM : Nat → Nat} {ao b L : Nat} {xs : Nat → Int32} (C : Gc Θ cL_law_ 7 RL (some .boolean) room_1 cJ) (hlt : Θ.1.2.1.stackTraces = false) (Lx : Lq Θ w aM ao) (S : Ls Θ b L xs) {σ μ : St} {o : Int64} {i kc ks : Nat} (hi : i + 6 ≤ L) (hk : kc + 4 ≤ 601024 ∧ ks + 24 ≤ 7293034) (hR : RR σ μ) (K : ∀ σ' μ' o', RR σ' μ' → G Θ 7 (kc + 4) (ks + 24) Q (LPx w aM ao cJ σ' μ' o') 3251 (llv w aM ao b i) []) : G Θ 7 kc ks Q (LPx w aM ao cJ σ μ o) 406 (llv w aM ao b i) [] := by
  obtain ⟨r1, r2, h1, h2, he, hR2⟩ := hop σ μ hR 
  refine g_aload_n C 1 dL_law__406 rfl rfl ?_
  refine g_aload_n C 3 dL_law__407 rfl rfl ?_
  refine l_callW C Lx [.ref (w.2.2.1 0), .ref ao] 2 (wr_village (l := Θ.1.2.1) Lx.2.1 hlt Lx.2.2.2.2.2.2.2.1 h1 (Sx_in he)) w_4_160 w_4_158 w_4_159 w_1_0 ⟨rfl, rfl, (Nat.le_of_ble_eq_true rfl), (Nat.le_of_ble_eq_true rfl)⟩ (by decide +kernel) rfl rfl (Nat.le_of_ble_eq_true rfl) hk dL_law__408 ?_
  refine g_istore C dL_law__411 (Nat.le_of_ble_eq_true rfl) rfl ?_
  refine g_aload_n C 3 dL_law__413 rfl rfl ?_
  refine l_callMi C Lx [] r2.1 r2.2 0 rfl (c12_village (l := Θ.1.2.1) (w := wm w aM)  rfl Lx.2.2.1 h2) w_8_145 w_8_142 w_8_143 w_8_144 w_1_14 ⟨rfl, rfl, (Nat.le_of_ble_eq_true rfl), (Nat.le_of_ble_eq_true rfl)⟩ (by decide +kernel) rfl rfl (Nat.le_of_ble_eq_true rfl) hk dL_law__414 ?_
  refine g_istore C dL_law__417 (Nat.le_of_ble_eq_true rfl) rfl ?_
  refine g_aload_n C 4 dL_law__419 rfl rfl ?_
  refine l_callMi C Lx [] (q12_thrown r2.2) r2.2 0 rfl (c12_thrown (l := Θ.1.2.1) (w := wm w aM) rfl Lx.2.2.1) w_8_130 w_8_127 w_8_128 w_8_129 w_1_14 ⟨rfl, rfl, (Nat.le_of_ble_eq_true rfl), (Nat.le_of_ble_eq_true rfl)⟩ (by decide +kernel) rfl rfl (Nat.le_of_ble_eq_true rfl) hk dL_law__420 ?_
  refine g_iload C 1 dL_law__423 rfl ?_
  refine g_icmp_eq C 430 dL_law__425 (by decide) (fun _ => ?_) (fun h => absurd (Sx_k he) h)
  refine g_iload C 1 dL_law__430 rfl ?_
  refine g_if_ne C 447 dL_law__432 (by decide) (fun _ => ?_) (fun h0 => ?_)
  · refine g_goto C 3251 dL_law__447 (by decide) ?_
    refine G.sub [2, 3, 4, 5, 6] rfl ?_
    exact K _ _ _ hR2
  · refine g_aload_n C 5 dL_law__435 rfl rfl ?_
    refine g_iconst (v := 0) C dL_law__436 rfl ?_
    refine l_lald C (by rw [Lx.1]) dL_law__437 ?_
    refine g_iload C 0 dL_law__438 rfl ?_
    refine g_i2l C dL_law__440 ?_
    refine g_lcmp C dL_law__441 ?_
    rw [Sx_o (f := (fun v => v)) (o := o) (by decide) he h0, lg_cmp_self]
    refine g_if_eq C 447 dL_law__442 (by decide) (fun _ => ?_) (fun h => absurd rfl h)
    refine g_goto C 3251 dL_law__447 (by decide) ?_
    refine G.sub [2, 3, 4, 5, 6] rfl ?_
    exact K _ _ _ hR2
/-! case 3 -/
theorem dL_law__450 : decode cL_law_ 450 = .ok (.aload_n 1, 1) := by decide +kernel
theorem dL_law__451 : decode cL_law_ 451 = .ok (.aload_n 3, 1) := by decide +kernel
theorem w_5_144 : Cond.codeWith ({ cls := "LastLoafLaw", name := "law", desc := "(LLastLoaf;[J)I" } : MethodName) method_4_code (3 : Nat) (Option.some ClassFile.FieldType.int) [((0 : Nat), (8 : Nat), (11 : Nat), (13 : Nat))] ∈ TB := tb_in (lwt_5 (List.mem_of_getElem? (i := 144) (by decide +kernel))) rfl
theorem w_5_142 : Cond.methodLink "LastLoafLaw" (166 : Nat) ({ cls := "LastLoafLaw", name := "law", desc := "(LLastLoaf;[J)I" } : MethodName) ∈ TB := tb_in (lwt_5 (List.mem_of_getElem? (i := 142) (by decide +kernel))) rfl
theorem w_5_143 : Cond.static ({ cls := "LastLoafLaw", name := "law", desc := "(LLastLoaf;[J)I" } : MethodName) ∈ TB := tb_in (lwt_5 (List.mem_of_getElem? (i := 143) (by decide +kernel))) rfl
theorem dL_law__452 : decode cL_law_ 452 = .ok (.invokestatic 166, 3) := by decide +kernel
theorem dL_law__455 : decode cL_law_ 455 = .ok (.istore 5, 2) := by decide +kernel
theorem dL_law__457 : decode cL_law_ 457 = .ok (.aload_n 2, 1) := by decide +kernel
theorem w_9_40 : Cond.selects "LastLoafModel" ({ cls := "LastLoafModel", name := "law", desc := "()I" } : MethodName) ({ cls := "LastLoafModel", name := "law", desc := "()I" } : MethodName) ∈ TB := tb_in (lwt_9 (List.mem_of_getElem? (i := 40) (by decide +kernel))) rfl
theorem w_9_41 : Cond.code ({ cls := "LastLoafModel", name := "law", desc := "()I" } : MethodName) prog_14_method_41_code (3 : Nat) (Option.some ClassFile.FieldType.int) ∈ TB := tb_in (lwt_9 (List.mem_of_getElem? (i := 41) (by decide +kernel))) rfl
theorem w_9_38 : Cond.methodLink "LastLoafLaw" (168 : Nat) ({ cls := "LastLoafModel", name := "law", desc := "()I" } : MethodName) ∈ TB := tb_in (lwt_9 (List.mem_of_getElem? (i := 38) (by decide +kernel))) rfl
theorem w_9_39 : Cond.instanceMethod ({ cls := "LastLoafModel", name := "law", desc := "()I" } : MethodName) ∈ TB := tb_in (lwt_9 (List.mem_of_getElem? (i := 39) (by decide +kernel))) rfl
theorem dL_law__458 : decode cL_law_ 458 = .ok (.invokevirtual 168, 3) := by decide +kernel
theorem dL_law__461 : decode cL_law_ 461 = .ok (.istore 6, 2) := by decide +kernel
theorem dL_law__463 : decode cL_law_ 463 = .ok (.aload_n 2, 1) := by decide +kernel
theorem dL_law__464 : decode cL_law_ 464 = .ok (.invokevirtual 163, 3) := by decide +kernel
theorem dL_law__467 : decode cL_law_ 467 = .ok (.iload 5, 2) := by decide +kernel
theorem dL_law__469 : decode cL_law_ 469 = .ok (.if_icmp .eq 5, 3) := by decide +kernel
theorem dL_law__474 : decode cL_law_ 474 = .ok (.iload 5, 2) := by decide +kernel
theorem dL_law__476 : decode cL_law_ 476 = .ok (.ifCond .ne 15, 3) := by decide +kernel
theorem dL_law__491 : decode cL_law_ 491 = .ok (.goto 2760, 3) := by decide +kernel
theorem dL_law__479 : decode cL_law_ 479 = .ok (.aload_n 3, 1) := by decide +kernel
theorem dL_law__480 : decode cL_law_ 480 = .ok (.iconst 0, 1) := by decide +kernel
theorem dL_law__481 : decode cL_law_ 481 = .ok (.laload, 1) := by decide +kernel
theorem dL_law__482 : decode cL_law_ 482 = .ok (.iload 6, 2) := by decide +kernel
theorem dL_law__484 : decode cL_law_ 484 = .ok (.i2l, 1) := by decide +kernel
theorem dL_law__485 : decode cL_law_ 485 = .ok (.lcmp, 1) := by decide +kernel
theorem dL_law__486 : decode cL_law_ 486 = .ok (.ifCond .eq 5, 3) := by decide +kernel
def Op_law (RR : St → St → Prop) : Prop := ∀ (σ μ : St), RR σ μ → ∃ (r1 : Sum Nat Int32 × St) (r2 : Int32 × St), q11_law σ  = some r1 ∧ q12_law μ  = some r2 ∧ Sx [0] r1 r2 ∧ RR r1.2 r2.2
set_option maxHeartbeats 4000000 in
set_option maxRecDepth 100000 in
theorem law_3 {RR : St → St → Prop} (hop : Op_law RR) {Θ : Tz} {cJ : ClassId} {Q : State → Prop} {w : Wp} {aM : Nat → Nat} {ao b L : Nat} {xs : Nat → Int32} (C : Gc Θ cL_law_ 7 RL (some .boolean) room_1 cJ) (hlt : Θ.1.2.1.stackTraces = false) (Lx : Lq Θ w aM ao) (S : Ls Θ b L xs) {σ μ : St} {o : Int64} {i kc ks : Nat} (hi : i + 6 ≤ L) (hk : kc + 4 ≤ 601024 ∧ ks + 24 ≤ 7293034) (hR : RR σ μ) (K : ∀ σ' μ' o', RR σ' μ' → G Θ 7 (kc + 4) (ks + 24) Q (LPx w aM ao cJ σ' μ' o') 3251 (llv w aM ao b i) []) : G Θ 7 kc ks Q (LPx w aM ao cJ σ μ o) 450 (llv w aM ao b i) [] := by
  obtain ⟨r1, r2, h1, h2, he, hR2⟩ := hop σ μ hR 
  refine g_aload_n C 1 dL_law__450 rfl rfl ?_
  refine g_aload_n C 3 dL_law__451 rfl rfl ?_
  refine l_callW C Lx [.ref (w.2.2.1 0), .ref ao] 2 (wr_law (l := Θ.1.2.1) Lx.2.1 hlt Lx.2.2.2.2.2.2.2.1 h1 (Sx_in he)) w_5_144 w_5_142 w_5_143 w_1_0 ⟨rfl, rfl, (Nat.le_of_ble_eq_true rfl), (Nat.le_of_ble_eq_true rfl)⟩ (by decide +kernel) rfl rfl (Nat.le_of_ble_eq_true rfl) hk dL_law__452 ?_
  refine g_istore C dL_law__455 (Nat.le_of_ble_eq_true rfl) rfl ?_
  refine g_aload_n C 3 dL_law__457 rfl rfl ?_
  refine l_callMi C Lx [] r2.1 r2.2 0 rfl (c12_law (l := Θ.1.2.1) (w := wm w aM)  rfl Lx.2.2.1 h2) w_9_41 w_9_38 w_9_39 w_9_40 w_1_14 ⟨rfl, rfl, (Nat.le_of_ble_eq_true rfl), (Nat.le_of_ble_eq_true rfl)⟩ (by decide +kernel) rfl rfl (Nat.le_of_ble_eq_true rfl) hk dL_law__458 ?_
  refine g_istore C dL_law__461 (Nat.le_of_ble_eq_true rfl) rfl ?_
  refine g_aload_n C 4 dL_law__463 rfl rfl ?_
  refine l_callMi C Lx [] (q12_thrown r2.2) r2.2 0 rfl (c12_thrown (l := Θ.1.2.1) (w := wm w aM) rfl Lx.2.2.1) w_8_130 w_8_127 w_8_128 w_8_129 w_1_14 ⟨rfl, rfl, (Nat.le_of_ble_eq_true rfl), (Nat.le_of_ble_eq_true rfl)⟩ (by decide +kernel) rfl rfl (Nat.le_of_ble_eq_true rfl) hk dL_law__464 ?_
  refine g_iload C 1 dL_law__467 rfl ?_
  refine g_icmp_eq C 474 dL_law__469 (by decide) (fun _ => ?_) (fun h => absurd (Sx_k he) h)
  refine g_iload C 1 dL_law__474 rfl ?_
  refine g_if_ne C 491 dL_law__476 (by decide) (fun _ => ?_) (fun h0 => ?_)
  · refine g_goto C 3251 dL_law__491 (by decide) ?_
    refine G.sub [2, 3, 4, 5, 6] rfl ?_
    exact K _ _ _ hR2
  · refine g_aload_n C 5 dL_law__479 rfl rfl ?_
    refine g_iconst (v := 0) C dL_law__480 rfl ?_
    refine l_lald C (by rw [Lx.1]) dL_law__481 ?_
    refine g_iload C 0 dL_law__482 rfl ?_
    refine g_i2l C dL_law__484 ?_
    refine g_lcmp C dL_law__485 ?_
    rw [Sx_o (f := (fun v => v)) (o := o) (by decide) he h0, lg_cmp_self]
    refine g_if_eq C 491 dL_law__486 (by decide) (fun _ => ?_) (fun h => absurd rfl h)
    refine g_goto C 3251 dL_law__491 (by decide) ?_
    refine G.sub [2, 3, 4, 5, 6] rfl ?_
    exact K _ _ _ hR2
/-! case 4 -/
theorem dL_law__494 : decode cL_law_ 494 = .ok (.aload_n 1, 1) := by decide +kernel
theorem w_3_10 : Cond.selects "LastLoaf" ({ cls := "LastLoaf", name := "fault", desc := "()I" } : MethodName) ({ cls := "LastLoaf", name := "fault", desc := "()I" } : MethodName) ∈ TB := tb_in (lwt_3 (List.mem_of_getElem? (i := 10) (by decide +kernel))) rfl
theorem w_3_11 : Cond.code ({ cls := "LastLoaf", name := "fault", desc := "()I" } : MethodName) prog_1_method_6_code (1 : Nat) (Option.some ClassFile.FieldType.int) ∈ TB := tb_in (lwt_3 (List.mem_of_getElem? (i := 11) (by decide +kernel))) rfl
theorem w_3_8 : Cond.methodLink "LastLoafLaw" (169 : Nat) ({ cls := "LastLoaf", name := "fault", desc := "()I" } : MethodName) ∈ TB := tb_in (lwt_3 (List.mem_of_getElem? (i := 8) (by decide +kernel))) rfl
theorem w_3_9 : Cond.instanceMethod ({ cls := "LastLoaf", name := "fault", desc := "()I" } : MethodName) ∈ TB := tb_in (lwt_3 (List.mem_of_getElem? (i := 9) (by decide +kernel))) rfl
theorem dL_law__495 : decode cL_law_ 495 = .ok (.invokevirtual 169, 3) := by decide +kernel
theorem dL_law__498 : decode cL_law_ 498 = .ok (.aload_n 2, 1) := by decide +kernel
theorem w_9_44 : Cond.selects "LastLoafModel" ({ cls := "LastLoafModel", name := "fault", desc := "()I" } : MethodName) ({ cls := "LastLoafModel", name := "fault", desc := "()I" } : MethodName) ∈ TB := tb_in (lwt_9 (List.mem_of_getElem? (i := 44) (by decide +kernel))) rfl
theorem w_9_45 : Cond.code ({ cls := "LastLoafModel", name := "fault", desc := "()I" } : MethodName) prog_14_method_42_code (1 : Nat) (Option.some ClassFile.FieldType.int) ∈ TB := tb_in (lwt_9 (List.mem_of_getElem? (i := 45) (by decide +kernel))) rfl
theorem w_9_42 : Cond.methodLink "LastLoafLaw" (172 : Nat) ({ cls := "LastLoafModel", name := "fault", desc := "()I" } : MethodName) ∈ TB := tb_in (lwt_9 (List.mem_of_getElem? (i := 42) (by decide +kernel))) rfl
theorem w_9_43 : Cond.instanceMethod ({ cls := "LastLoafModel", name := "fault", desc := "()I" } : MethodName) ∈ TB := tb_in (lwt_9 (List.mem_of_getElem? (i := 43) (by decide +kernel))) rfl
theorem dL_law__499 : decode cL_law_ 499 = .ok (.invokevirtual 172, 3) := by decide +kernel
theorem dL_law__502 : decode cL_law_ 502 = .ok (.if_icmp .eq 2749, 3) := by decide +kernel
def Op_fault (RR : St → St → Prop) : Prop := ∀ (σ μ : St), RR σ μ → ∃ (r2 : (Int32 × St)), q12_fault μ  = some r2 ∧ (q11_fault σ) = r2.1 ∧ RR σ r2.2
set_option maxHeartbeats 4000000 in
set_option maxRecDepth 100000 in
theorem law_4 {RR : St → St → Prop} (hop : Op_fault RR) {Θ : Tz} {cJ : ClassId} {Q : State → Prop} {w : Wp} {aM : Nat → Nat} {ao b L : Nat} {xs : Nat → Int32} (C : Gc Θ cL_law_ 7 RL (some .boolean) room_1 cJ) (hlt : Θ.1.2.1.stackTraces = false) (Lx : Lq Θ w aM ao) (S : Ls Θ b L xs) {σ μ : St} {o : Int64} {i kc ks : Nat} (hi : i + 6 ≤ L) (hk : kc + 4 ≤ 601024 ∧ ks + 24 ≤ 7293034) (hR : RR σ μ) (K : ∀ σ' μ' o', RR σ' μ' → G Θ 7 (kc + 4) (ks + 24) Q (LPx w aM ao cJ σ' μ' o') 3251 (llv w aM ao b i) []) : G Θ 7 kc ks Q (LPx w aM ao cJ σ μ o) 494 (llv w aM ao b i) [] := by
  obtain ⟨r2, h2, he, hR2⟩ := hop σ μ hR 
  refine g_aload_n C 1 dL_law__494 rfl rfl ?_
  refine l_callCi C Lx [] (q11_fault σ) σ 0 rfl (c11_fault (l := Θ.1.2.1) (w := w)  rfl Lx.2.1 ) w_3_11 w_3_8 w_3_9 w_3_10 w_1_1 ⟨rfl, rfl, (Nat.le_of_ble_eq_true rfl), (Nat.le_of_ble_eq_true rfl)⟩ (by decide +kernel) rfl rfl (Nat.le_of_ble_eq_true rfl) ⟨Nat.le_trans (Nat.le_add_right _ _) hk.1, Nat.le_trans (Nat.le_add_right _ _) hk.2⟩ dL_law__495 ?_
  refine g_aload_n C 2 dL_law__498 rfl rfl ?_
  refine l_callMi C Lx [] r2.1 r2.2 0 rfl (c12_fault (l := Θ.1.2.1) (w := wm w aM)  rfl Lx.2.2.1 h2) w_9_45 w_9_42 w_9_43 w_9_44 w_1_14 ⟨rfl, rfl, (Nat.le_of_ble_eq_true rfl), (Nat.le_of_ble_eq_true rfl)⟩ (by decide +kernel) rfl rfl (Nat.le_of_ble_eq_true rfl) ⟨Nat.le_trans (Nat.le_add_right _ _) hk.1, Nat.le_trans (Nat.le_add_right _ _) hk.2⟩ dL_law__499 ?_
  refine g_icmp_eq C 3251 dL_law__502 (by decide) (fun _ => ?_) (fun h => absurd (he) h)
  exact G.wid (Nat.le_add_right _ _) (Nat.le_add_right _ _) (K _ _ o hR2)
/-! case 5 -/
theorem dL_law__507 : decode cL_law_ 507 = .ok (.aload_n 1, 1) := by decide +kernel
theorem dL_law__508 : decode cL_law_ 508 = .ok (.aload_n 0, 1) := by decide +kernel
theorem dL_law__509 : decode cL_law_ 509 = .ok (.iload 4, 2) := by decide +kernel
theorem dL_law__511 : decode cL_law_ 511 = .ok (.iconst 1, 1) := by decide +kernel
theorem dL_law__512 : decode cL_law_ 512 = .ok (.iadd, 1) := by decide +kernel
theorem dL_law__513 : decode cL_law_ 513 = .ok (.iaload, 1) := by decide +kernel
theorem dL_law__514 : decode cL_law_ 514 = .ok (.aload_n 0, 1) := by decide +kernel
theorem dL_law__515 : decode cL_law_ 515 = .ok (.iload 4, 2) := by decide +kernel
theorem dL_law__517 : decode cL_law_ 517 = .ok (.iconst 2, 1) := by decide +kernel
theorem dL_law__518 : decode cL_law_ 518 = .ok (.iadd, 1) := by decide +kernel
theorem dL_law__519 : decode cL_law_ 519 = .ok (.iaload, 1) := by decide +kernel
theorem dL_law__520 : decode cL_law_ 520 = .ok (.aload_n 3, 1) := by decide +kernel
theorem w_5_217 : Cond.codeWith ({ cls := "LastLoafLaw", name := "person", desc := "(LLastLoaf;II[J)I" } : MethodName) method_5_code (5 : Nat) (Option.some ClassFile.FieldType.int) [((0 : Nat), (10 : Nat), (13 : Nat), (24 : Nat)), ((0 : Nat), (10 : Nat), (17 : Nat), (26 : Nat))] ∈ TB := tb_in (lwt_5 (List.mem_of_getElem? (i := 217) (by decide +kernel))) rfl
theorem w_5_215 : Cond.methodLink "LastLoafLaw" (173 : Nat) ({ cls := "LastLoafLaw", name := "person", desc := "(LLastLoaf;II[J)I" } : MethodName) ∈ TB := tb_in (lwt_5 (List.mem_of_getElem? (i := 215) (by decide +kernel))) rfl
theorem w_5_216 : Cond.static ({ cls := "LastLoafLaw", name := "person", desc := "(LLastLoaf;II[J)I" } : MethodName) ∈ TB := tb_in (lwt_5 (List.mem_of_getElem? (i := 216) (by decide +kernel))) rfl
theorem dL_law__521 : decode cL_law_ 521 = .ok (.invokestatic 173, 3) := by decide +kernel
theorem dL_law__524 : decode cL_law_ 524 = .ok (.istore 5, 2) := by decide +kernel
theorem dL_law__526 : decode cL_law_ 526 = .ok (.aload_n 2, 1) := by decide +kernel
theorem dL_law__527 : decode cL_law_ 527 = .ok (.aload_n 0, 1) := by decide +kernel
theorem dL_law__528 : decode cL_law_ 528 = .ok (.iload 4, 2) := by decide +kernel
theorem dL_law__530 : decode cL_law_ 530 = .ok (.iconst 1, 1) := by decide +kernel
theorem dL_law__531 : decode cL_law_ 531 = .ok (.iadd, 1) := by decide +kernel
theorem dL_law__532 : decode cL_law_ 532 = .ok (.iaload, 1) := by decide +kernel
theorem dL_law__533 : decode cL_law_ 533 = .ok (.aload_n 0, 1) := by decide +kernel
theorem dL_law__534 : decode cL_law_ 534 = .ok (.iload 4, 2) := by decide +kernel
theorem dL_law__536 : decode cL_law_ 536 = .ok (.iconst 2, 1) := by decide +kernel
theorem dL_law__537 : decode cL_law_ 537 = .ok (.iadd, 1) := by decide +kernel
theorem dL_law__538 : decode cL_law_ 538 = .ok (.iaload, 1) := by decide +kernel
theorem w_9_48 : Cond.selects "LastLoafModel" ({ cls := "LastLoafModel", name := "person", desc := "(II)I" } : MethodName) ({ cls := "LastLoafModel", name := "person", desc := "(II)I" } : MethodName) ∈ TB := tb_in (lwt_9 (List.mem_of_getElem? (i := 48) (by decide +kernel))) rfl
theorem w_9_49 : Cond.code ({ cls := "LastLoafModel", name := "person", desc := "(II)I" } : MethodName) prog_14_method_67_code (3 : Nat) (Option.some ClassFile.FieldType.int) ∈ TB := tb_in (lwt_9 (List.mem_of_getElem? (i := 49) (by decide +kernel))) rfl
theorem w_9_46 : Cond.methodLink "LastLoafLaw" (176 : Nat) ({ cls := "LastLoafModel", name := "person", desc := "(II)I" } : MethodName) ∈ TB := tb_in (lwt_9 (List.mem_of_getElem? (i := 46) (by decide +kernel))) rfl
theorem w_9_47 : Cond.instanceMethod ({ cls := "LastLoafModel", name := "person", desc := "(II)I" } : MethodName) ∈ TB := tb_in (lwt_9 (List.mem_of_getElem? (i := 47) (by decide +kernel))) rfl
theorem dL_law__539 : decode cL_law_ 539 = .ok (.invokevirtual 176, 3) := by decide +kernel
theorem dL_law__542 : decode cL_law_ 542 = .ok (.istore 6, 2) := by decide +kernel
theorem dL_law__544 : decode cL_law_ 544 = .ok (.aload_n 2, 1) := by decide +kernel
theorem dL_law__545 : decode cL_law_ 545 = .ok (.invokevirtual 163, 3) := by decide +kernel
theorem dL_law__548 : decode cL_law_ 548 = .ok (.iload 5, 2) := by decide +kernel
theorem dL_law__550 : decode cL_law_ 550 = .ok (.if_icmp .eq 5, 3) := by decide +kernel
theorem dL_law__555 : decode cL_law_ 555 = .ok (.iload 5, 2) := by decide +kernel
theorem dL_law__557 : decode cL_law_ 557 = .ok (.ifCond .ne 15, 3) := by decide +kernel
theorem dL_law__572 : decode cL_law_ 572 = .ok (.goto 2679, 3) := by decide +kernel
theorem dL_law__560 : decode cL_law_ 560 = .ok (.aload_n 3, 1) := by decide +kernel
theorem dL_law__561 : decode cL_law_ 561 = .ok (.iconst 0, 1) := by decide +kernel
theorem dL_law__562 : decode cL_law_ 562 = .ok (.laload, 1) := by decide +kernel
theorem dL_law__563 : decode cL_law_ 563 = .ok (.iload 6, 2) := by decide +kernel
theorem dL_law__565 : decode cL_law_ 565 = .ok (.i2l, 1) := by decide +kernel
theorem dL_law__566 : decode cL_law_ 566 = .ok (.lcmp, 1) := by decide +kernel
theorem dL_law__567 : decode cL_law_ 567 = .ok (.ifCond .eq 5, 3) := by decide +kernel
def Op_person (RR : St → St → Prop) : Prop := ∀ (σ μ : St), RR σ μ → ∀ (a0 : Int32) (a1 : Int32), ∃ (r1 : Sum Nat Int32 × St) (r2 : Int32 × St), q11_person σ a0 a1 = some r1 ∧ q12_person μ a0 a1 = some r2 ∧ Sx [2, 4] r1 r2 ∧ RR r1.2 r2.2
set_option maxHeartbeats 4000000 in
set_option maxRecDepth 100000 in
theorem law_5 {RR : St → St → Prop} (hop : Op_person RR) {Θ : Tz} {cJ : ClassId} {Q : State → Prop} {w : Wp} {aM : Nat → Nat} {ao b L : Nat} {xs : Nat → Int32} (C : Gc Θ cL_law_ 7 RL (some .boolean) room_1 cJ) (hlt : Θ.1.2.1.stackTraces = false) (Lx : Lq Θ w aM ao) (S : Ls Θ b L xs) {σ μ : St} {o : Int64} {i kc ks : Nat} (hi : i + 6 ≤ L) (hk : kc + 4 ≤ 601024 ∧ ks + 24 ≤ 7293034) (hR : RR σ μ) (K : ∀ σ' μ' o', RR σ' μ' → G Θ 7 (kc + 4) (ks + 24) Q (LPx w aM ao cJ σ' μ' o') 3251 (llv w aM ao b i) []) : G Θ 7 kc ks Q (LPx w aM ao cJ σ μ o) 507 (llv w aM ao b i) [] := by
  obtain ⟨r1, r2, h1, h2, he, hR2⟩ := hop σ μ hR (xs (i + 1)) (xs (i + 2))
  refine g_aload_n C 1 dL_law__507 rfl rfl ?_
  refine l_arg C S 0 4 1 rfl rfl (by omega) rfl dL_law__508 dL_law__509 dL_law__511 dL_law__512 dL_law__513 ?_
  refine l_arg C S 0 4 2 rfl rfl (by omega) rfl dL_law__514 dL_law__515 dL_law__517 dL_law__518 dL_law__519 ?_
  refine g_aload_n C 3 dL_law__520 rfl rfl ?_
  refine l_callW C Lx [.ref (w.2.2.1 0), .int (xs (i + 1)), .int (xs (i + 2)), .ref ao] 4 (wr_person (l := Θ.1.2.1) Lx.2.1 hlt Lx.2.2.2.2.2.2.2.1 h1 (Sx_in he)) w_5_217 w_5_215 w_5_216 w_1_0 ⟨rfl, rfl, (Nat.le_of_ble_eq_true rfl), (Nat.le_of_ble_eq_true rfl)⟩ (by decide +kernel) rfl rfl (Nat.le_of_ble_eq_true rfl) hk dL_law__521 ?_
  refine g_istore C dL_law__524 (Nat.le_of_ble_eq_true rfl) rfl ?_
  refine g_aload_n C 3 dL_law__526 rfl rfl ?_
  refine l_arg C S 1 5 1 rfl rfl (by omega) rfl dL_law__527 dL_law__528 dL_law__530 dL_law__531 dL_law__532 ?_
  refine l_arg C S 1 5 2 rfl rfl (by omega) rfl dL_law__533 dL_law__534 dL_law__536 dL_law__537 dL_law__538 ?_
  refine l_callMi C Lx [.int (xs (i + 1)), .int (xs (i + 2))] r2.1 r2.2 2 rfl (c12_person (l := Θ.1.2.1) (w := wm w aM) (p_a := (xs (i + 1))) (what_a := (xs (i + 2))) rfl Lx.2.2.1 h2) w_9_49 w_9_46 w_9_47 w_9_48 w_1_14 ⟨rfl, rfl, (Nat.le_of_ble_eq_true rfl), (Nat.le_of_ble_eq_true rfl)⟩ (by decide +kernel) rfl rfl (Nat.le_of_ble_eq_true rfl) hk dL_law__539 ?_
  refine g_istore C dL_law__542 (Nat.le_of_ble_eq_true rfl) rfl ?_
  refine g_aload_n C 4 dL_law__544 rfl rfl ?_
  refine l_callMi C Lx [] (q12_thrown r2.2) r2.2 0 rfl (c12_thrown (l := Θ.1.2.1) (w := wm w aM) rfl Lx.2.2.1) w_8_130 w_8_127 w_8_128 w_8_129 w_1_14 ⟨rfl, rfl, (Nat.le_of_ble_eq_true rfl), (Nat.le_of_ble_eq_true rfl)⟩ (by decide +kernel) rfl rfl (Nat.le_of_ble_eq_true rfl) hk dL_law__545 ?_
  refine g_iload C 1 dL_law__548 rfl ?_
  refine g_icmp_eq C 555 dL_law__550 (by decide) (fun _ => ?_) (fun h => absurd (Sx_k he) h)
  refine g_iload C 1 dL_law__555 rfl ?_
  refine g_if_ne C 572 dL_law__557 (by decide) (fun _ => ?_) (fun h0 => ?_)
  · refine g_goto C 3251 dL_law__572 (by decide) ?_
    refine G.sub [2, 3, 4, 5, 6] rfl ?_
    exact K _ _ _ hR2
  · refine g_aload_n C 5 dL_law__560 rfl rfl ?_
    refine g_iconst (v := 0) C dL_law__561 rfl ?_
    refine l_lald C (by rw [Lx.1]) dL_law__562 ?_
    refine g_iload C 0 dL_law__563 rfl ?_
    refine g_i2l C dL_law__565 ?_
    refine g_lcmp C dL_law__566 ?_
    rw [Sx_o (f := (fun v => v)) (o := o) (by decide) he h0, lg_cmp_self]
    refine g_if_eq C 572 dL_law__567 (by decide) (fun _ => ?_) (fun h => absurd rfl h)
    refine g_goto C 3251 dL_law__572 (by decide) ?_
    refine G.sub [2, 3, 4, 5, 6] rfl ?_
    exact K _ _ _ hR2
/-! case 6 -/
theorem dL_law__575 : decode cL_law_ 575 = .ok (.aload_n 1, 1) := by decide +kernel
theorem dL_law__576 : decode cL_law_ 576 = .ok (.aload_n 0, 1) := by decide +kernel
theorem dL_law__577 : decode cL_law_ 577 = .ok (.iload 4, 2) := by decide +kernel
theorem dL_law__579 : decode cL_law_ 579 = .ok (.iconst 1, 1) := by decide +kernel
theorem dL_law__580 : decode cL_law_ 580 = .ok (.iadd, 1) := by decide +kernel
theorem dL_law__581 : decode cL_law_ 581 = .ok (.iaload, 1) := by decide +kernel
theorem dL_law__582 : decode cL_law_ 582 = .ok (.aload_n 0, 1) := by decide +kernel
theorem dL_law__583 : decode cL_law_ 583 = .ok (.iload 4, 2) := by decide +kernel
theorem dL_law__585 : decode cL_law_ 585 = .ok (.iconst 2, 1) := by decide +kernel
theorem dL_law__586 : decode cL_law_ 586 = .ok (.iadd, 1) := by decide +kernel
theorem dL_law__587 : decode cL_law_ 587 = .ok (.iaload, 1) := by decide +kernel
theorem dL_law__588 : decode cL_law_ 588 = .ok (.aload_n 3, 1) := by decide +kernel
theorem w_6_47 : Cond.codeWith ({ cls := "LastLoafLaw", name := "likes", desc := "(LLastLoaf;II[J)I" } : MethodName) method_6_code (5 : Nat) (Option.some ClassFile.FieldType.int) [((0 : Nat), (10 : Nat), (13 : Nat), (24 : Nat)), ((0 : Nat), (10 : Nat), (17 : Nat), (13 : Nat))] ∈ TB := tb_in (lwt_6 (List.mem_of_getElem? (i := 47) (by decide +kernel))) rfl
theorem w_6_45 : Cond.methodLink "LastLoafLaw" (177 : Nat) ({ cls := "LastLoafLaw", name := "likes", desc := "(LLastLoaf;II[J)I" } : MethodName) ∈ TB := tb_in (lwt_6 (List.mem_of_getElem? (i := 45) (by decide +kernel))) rfl
theorem w_6_46 : Cond.static ({ cls := "LastLoafLaw", name := "likes", desc := "(LLastLoaf;II[J)I" } : MethodName) ∈ TB := tb_in (lwt_6 (List.mem_of_getElem? (i := 46) (by decide +kernel))) rfl
theorem dL_law__589 : decode cL_law_ 589 = .ok (.invokestatic 177, 3) := by decide +kernel
theorem dL_law__592 : decode cL_law_ 592 = .ok (.istore 5, 2) := by decide +kernel
theorem dL_law__594 : decode cL_law_ 594 = .ok (.aload_n 2, 1) := by decide +kernel
theorem dL_law__595 : decode cL_law_ 595 = .ok (.aload_n 0, 1) := by decide +kernel
theorem dL_law__596 : decode cL_law_ 596 = .ok (.iload 4, 2) := by decide +kernel
theorem dL_law__598 : decode cL_law_ 598 = .ok (.iconst 1, 1) := by decide +kernel
theorem dL_law__599 : decode cL_law_ 599 = .ok (.iadd, 1) := by decide +kernel
theorem dL_law__600 : decode cL_law_ 600 = .ok (.iaload, 1) := by decide +kernel
theorem dL_law__601 : decode cL_law_ 601 = .ok (.aload_n 0, 1) := by decide +kernel
theorem dL_law__602 : decode cL_law_ 602 = .ok (.iload 4, 2) := by decide +kernel
theorem dL_law__604 : decode cL_law_ 604 = .ok (.iconst 2, 1) := by decide +kernel
theorem dL_law__605 : decode cL_law_ 605 = .ok (.iadd, 1) := by decide +kernel
theorem dL_law__606 : decode cL_law_ 606 = .ok (.iaload, 1) := by decide +kernel
theorem w_9_130 : Cond.selects "LastLoafModel" ({ cls := "LastLoafModel", name := "likes", desc := "(II)I" } : MethodName) ({ cls := "LastLoafModel", name := "likes", desc := "(II)I" } : MethodName) ∈ TB := tb_in (lwt_9 (List.mem_of_getElem? (i := 130) (by decide +kernel))) rfl
theorem w_9_131 : Cond.code ({ cls := "LastLoafModel", name := "likes", desc := "(II)I" } : MethodName) prog_14_method_69_code (3 : Nat) (Option.some ClassFile.FieldType.int) ∈ TB := tb_in (lwt_9 (List.mem_of_getElem? (i := 131) (by decide +kernel))) rfl
theorem w_9_128 : Cond.methodLink "LastLoafLaw" (179 : Nat) ({ cls := "LastLoafModel", name := "likes", desc := "(II)I" } : MethodName) ∈ TB := tb_in (lwt_9 (List.mem_of_getElem? (i := 128) (by decide +kernel))) rfl
theorem w_9_129 : Cond.instanceMethod ({ cls := "LastLoafModel", name := "likes", desc := "(II)I" } : MethodName) ∈ TB := tb_in (lwt_9 (List.mem_of_getElem? (i := 129) (by decide +kernel))) rfl
theorem dL_law__607 : decode cL_law_ 607 = .ok (.invokevirtual 179, 3) := by decide +kernel
theorem dL_law__610 : decode cL_law_ 610 = .ok (.istore 6, 2) := by decide +kernel
theorem dL_law__612 : decode cL_law_ 612 = .ok (.aload_n 2, 1) := by decide +kernel
theorem dL_law__613 : decode cL_law_ 613 = .ok (.invokevirtual 163, 3) := by decide +kernel
theorem dL_law__616 : decode cL_law_ 616 = .ok (.iload 5, 2) := by decide +kernel
theorem dL_law__618 : decode cL_law_ 618 = .ok (.if_icmp .eq 5, 3) := by decide +kernel
theorem dL_law__623 : decode cL_law_ 623 = .ok (.iload 5, 2) := by decide +kernel
theorem dL_law__625 : decode cL_law_ 625 = .ok (.ifCond .ne 15, 3) := by decide +kernel
theorem dL_law__640 : decode cL_law_ 640 = .ok (.goto 2611, 3) := by decide +kernel
theorem dL_law__628 : decode cL_law_ 628 = .ok (.aload_n 3, 1) := by decide +kernel
theorem dL_law__629 : decode cL_law_ 629 = .ok (.iconst 0, 1) := by decide +kernel
theorem dL_law__630 : decode cL_law_ 630 = .ok (.laload, 1) := by decide +kernel
theorem dL_law__631 : decode cL_law_ 631 = .ok (.iload 6, 2) := by decide +kernel
theorem dL_law__633 : decode cL_law_ 633 = .ok (.i2l, 1) := by decide +kernel
theorem dL_law__634 : decode cL_law_ 634 = .ok (.lcmp, 1) := by decide +kernel
theorem dL_law__635 : decode cL_law_ 635 = .ok (.ifCond .eq 5, 3) := by decide +kernel
def Op_likes (RR : St → St → Prop) : Prop := ∀ (σ μ : St), RR σ μ → ∀ (a0 : Int32) (a1 : Int32), ∃ (r1 : Sum Nat Int32 × St) (r2 : Int32 × St), q11_likes σ a0 a1 = some r1 ∧ q12_likes μ a0 a1 = some r2 ∧ Sx [2, 0] r1 r2 ∧ RR r1.2 r2.2
set_option maxHeartbeats 4000000 in
set_option maxRecDepth 100000 in
theorem law_6 {RR : St → St → Prop} (hop : Op_likes RR) {Θ : Tz} {cJ : ClassId} {Q : State → Prop} {w : Wp} {aM : Nat → Nat} {ao b L : Nat} {xs : Nat → Int32} (C : Gc Θ cL_law_ 7 RL (some .boolean) room_1 cJ) (hlt : Θ.1.2.1.stackTraces = false) (Lx : Lq Θ w aM ao) (S : Ls Θ b L xs) {σ μ : St} {o : Int64} {i kc ks : Nat} (hi : i + 6 ≤ L) (hk : kc + 4 ≤ 601024 ∧ ks + 24 ≤ 7293034) (hR : RR σ μ) (K : ∀ σ' μ' o', RR σ' μ' → G Θ 7 (kc + 4) (ks + 24) Q (LPx w aM ao cJ σ' μ' o') 3251 (llv w aM ao b i) []) : G Θ 7 kc ks Q (LPx w aM ao cJ σ μ o) 575 (llv w aM ao b i) [] := by
  obtain ⟨r1, r2, h1, h2, he, hR2⟩ := hop σ μ hR (xs (i + 1)) (xs (i + 2))
  refine g_aload_n C 1 dL_law__575 rfl rfl ?_
  refine l_arg C S 0 4 1 rfl rfl (by omega) rfl dL_law__576 dL_law__577 dL_law__579 dL_law__580 dL_law__581 ?_
  refine l_arg C S 0 4 2 rfl rfl (by omega) rfl dL_law__582 dL_law__583 dL_law__585 dL_law__586 dL_law__587 ?_
  refine g_aload_n C 3 dL_law__588 rfl rfl ?_
  refine l_callW C Lx [.ref (w.2.2.1 0), .int (xs (i + 1)), .int (xs (i + 2)), .ref ao] 4 (wr_likes (l := Θ.1.2.1) Lx.2.1 hlt Lx.2.2.2.2.2.2.2.1 h1 (Sx_in he)) w_6_47 w_6_45 w_6_46 w_1_0 ⟨rfl, rfl, (Nat.le_of_ble_eq_true rfl), (Nat.le_of_ble_eq_true rfl)⟩ (by decide +kernel) rfl rfl (Nat.le_of_ble_eq_true rfl) hk dL_law__589 ?_
  refine g_istore C dL_law__592 (Nat.le_of_ble_eq_true rfl) rfl ?_
  refine g_aload_n C 3 dL_law__594 rfl rfl ?_
  refine l_arg C S 1 5 1 rfl rfl (by omega) rfl dL_law__595 dL_law__596 dL_law__598 dL_law__599 dL_law__600 ?_
  refine l_arg C S 1 5 2 rfl rfl (by omega) rfl dL_law__601 dL_law__602 dL_law__604 dL_law__605 dL_law__606 ?_
  refine l_callMi C Lx [.int (xs (i + 1)), .int (xs (i + 2))] r2.1 r2.2 2 rfl (c12_likes (l := Θ.1.2.1) (w := wm w aM) (p_a := (xs (i + 1))) (o_a := (xs (i + 2))) rfl Lx.2.2.1 h2) w_9_131 w_9_128 w_9_129 w_9_130 w_1_14 ⟨rfl, rfl, (Nat.le_of_ble_eq_true rfl), (Nat.le_of_ble_eq_true rfl)⟩ (by decide +kernel) rfl rfl (Nat.le_of_ble_eq_true rfl) hk dL_law__607 ?_
  refine g_istore C dL_law__610 (Nat.le_of_ble_eq_true rfl) rfl ?_
  refine g_aload_n C 4 dL_law__612 rfl rfl ?_
  refine l_callMi C Lx [] (q12_thrown r2.2) r2.2 0 rfl (c12_thrown (l := Θ.1.2.1) (w := wm w aM) rfl Lx.2.2.1) w_8_130 w_8_127 w_8_128 w_8_129 w_1_14 ⟨rfl, rfl, (Nat.le_of_ble_eq_true rfl), (Nat.le_of_ble_eq_true rfl)⟩ (by decide +kernel) rfl rfl (Nat.le_of_ble_eq_true rfl) hk dL_law__613 ?_
  refine g_iload C 1 dL_law__616 rfl ?_
  refine g_icmp_eq C 623 dL_law__618 (by decide) (fun _ => ?_) (fun h => absurd (Sx_k he) h)
  refine g_iload C 1 dL_law__623 rfl ?_
  refine g_if_ne C 640 dL_law__625 (by decide) (fun _ => ?_) (fun h0 => ?_)
  · refine g_goto C 3251 dL_law__640 (by decide) ?_
    refine G.sub [2, 3, 4, 5, 6] rfl ?_
    exact K _ _ _ hR2
  · refine g_aload_n C 5 dL_law__628 rfl rfl ?_
    refine g_iconst (v := 0) C dL_law__629 rfl ?_
    refine l_lald C (by rw [Lx.1]) dL_law__630 ?_
    refine g_iload C 0 dL_law__631 rfl ?_
    refine g_i2l C dL_law__633 ?_
    refine g_lcmp C dL_law__634 ?_
    rw [Sx_o (f := (fun v => v)) (o := o) (by decide) he h0, lg_cmp_self]
    refine g_if_eq C 640 dL_law__635 (by decide) (fun _ => ?_) (fun h => absurd rfl h)
    refine g_goto C 3251 dL_law__640 (by decide) ?_
    refine G.sub [2, 3, 4, 5, 6] rfl ?_
    exact K _ _ _ hR2
/-! case 7 -/
theorem dL_law__643 : decode cL_law_ 643 = .ok (.aload_n 1, 1) := by decide +kernel
theorem dL_law__644 : decode cL_law_ 644 = .ok (.aload_n 0, 1) := by decide +kernel
theorem dL_law__645 : decode cL_law_ 645 = .ok (.iload 4, 2) := by decide +kernel
theorem dL_law__647 : decode cL_law_ 647 = .ok (.iconst 1, 1) := by decide +kernel
theorem dL_law__648 : decode cL_law_ 648 = .ok (.iadd, 1) := by decide +kernel
theorem dL_law__649 : decode cL_law_ 649 = .ok (.iaload, 1) := by decide +kernel
theorem dL_law__650 : decode cL_law_ 650 = .ok (.aload_n 0, 1) := by decide +kernel
theorem dL_law__651 : decode cL_law_ 651 = .ok (.iload 4, 2) := by decide +kernel
theorem dL_law__653 : decode cL_law_ 653 = .ok (.iconst 2, 1) := by decide +kernel
theorem dL_law__654 : decode cL_law_ 654 = .ok (.iadd, 1) := by decide +kernel
theorem dL_law__655 : decode cL_law_ 655 = .ok (.iaload, 1) := by decide +kernel
theorem dL_law__656 : decode cL_law_ 656 = .ok (.aload_n 3, 1) := by decide +kernel
theorem w_6_60 : Cond.codeWith ({ cls := "LastLoafLaw", name := "favour", desc := "(LLastLoaf;II[J)I" } : MethodName) method_7_code (5 : Nat) (Option.some ClassFile.FieldType.int) [((0 : Nat), (10 : Nat), (13 : Nat), (24 : Nat))] ∈ TB := tb_in (lwt_6 (List.mem_of_getElem? (i := 60) (by decide +kernel))) rfl
theorem w_6_58 : Cond.methodLink "LastLoafLaw" (180 : Nat) ({ cls := "LastLoafLaw", name := "favour", desc := "(LLastLoaf;II[J)I" } : MethodName) ∈ TB := tb_in (lwt_6 (List.mem_of_getElem? (i := 58) (by decide +kernel))) rfl
theorem w_6_59 : Cond.static ({ cls := "LastLoafLaw", name := "favour", desc := "(LLastLoaf;II[J)I" } : MethodName) ∈ TB := tb_in (lwt_6 (List.mem_of_getElem? (i := 59) (by decide +kernel))) rfl
theorem dL_law__657 : decode cL_law_ 657 = .ok (.invokestatic 180, 3) := by decide +kernel
theorem dL_law__660 : decode cL_law_ 660 = .ok (.istore 5, 2) := by decide +kernel
theorem dL_law__662 : decode cL_law_ 662 = .ok (.aload_n 2, 1) := by decide +kernel
theorem dL_law__663 : decode cL_law_ 663 = .ok (.aload_n 0, 1) := by decide +kernel
theorem dL_law__664 : decode cL_law_ 664 = .ok (.iload 4, 2) := by decide +kernel
theorem dL_law__666 : decode cL_law_ 666 = .ok (.iconst 1, 1) := by decide +kernel
theorem dL_law__667 : decode cL_law_ 667 = .ok (.iadd, 1) := by decide +kernel
theorem dL_law__668 : decode cL_law_ 668 = .ok (.iaload, 1) := by decide +kernel
theorem dL_law__669 : decode cL_law_ 669 = .ok (.aload_n 0, 1) := by decide +kernel
theorem dL_law__670 : decode cL_law_ 670 = .ok (.iload 4, 2) := by decide +kernel
theorem dL_law__672 : decode cL_law_ 672 = .ok (.iconst 2, 1) := by decide +kernel
theorem dL_law__673 : decode cL_law_ 673 = .ok (.iadd, 1) := by decide +kernel
theorem dL_law__674 : decode cL_law_ 674 = .ok (.iaload, 1) := by decide +kernel
theorem w_9_138 : Cond.selects "LastLoafModel" ({ cls := "LastLoafModel", name := "favour", desc := "(II)I" } : MethodName) ({ cls := "LastLoafModel", name := "favour", desc := "(II)I" } : MethodName) ∈ TB := tb_in (lwt_9 (List.mem_of_getElem? (i := 138) (by decide +kernel))) rfl
theorem w_9_139 : Cond.code ({ cls := "LastLoafModel", name := "favour", desc := "(II)I" } : MethodName) prog_14_method_70_code (3 : Nat) (Option.some ClassFile.FieldType.int) ∈ TB := tb_in (lwt_9 (List.mem_of_getElem? (i := 139) (by decide +kernel))) rfl
theorem w_9_136 : Cond.methodLink "LastLoafLaw" (182 : Nat) ({ cls := "LastLoafModel", name := "favour", desc := "(II)I" } : MethodName) ∈ TB := tb_in (lwt_9 (List.mem_of_getElem? (i := 136) (by decide +kernel))) rfl
theorem w_9_137 : Cond.instanceMethod ({ cls := "LastLoafModel", name := "favour", desc := "(II)I" } : MethodName) ∈ TB := tb_in (lwt_9 (List.mem_of_getElem? (i := 137) (by decide +kernel))) rfl
theorem dL_law__675 : decode cL_law_ 675 = .ok (.invokevirtual 182, 3) := by decide +kernel
theorem dL_law__678 : decode cL_law_ 678 = .ok (.istore 6, 2) := by decide +kernel
theorem dL_law__680 : decode cL_law_ 680 = .ok (.aload_n 2, 1) := by decide +kernel
theorem dL_law__681 : decode cL_law_ 681 = .ok (.invokevirtual 163, 3) := by decide +kernel
theorem dL_law__684 : decode cL_law_ 684 = .ok (.iload 5, 2) := by decide +kernel
theorem dL_law__686 : decode cL_law_ 686 = .ok (.if_icmp .eq 5, 3) := by decide +kernel
theorem dL_law__691 : decode cL_law_ 691 = .ok (.iload 5, 2) := by decide +kernel
theorem dL_law__693 : decode cL_law_ 693 = .ok (.ifCond .ne 15, 3) := by decide +kernel
theorem dL_law__708 : decode cL_law_ 708 = .ok (.goto 2543, 3) := by decide +kernel
theorem dL_law__696 : decode cL_law_ 696 = .ok (.aload_n 3, 1) := by decide +kernel
theorem dL_law__697 : decode cL_law_ 697 = .ok (.iconst 0, 1) := by decide +kernel
theorem dL_law__698 : decode cL_law_ 698 = .ok (.laload, 1) := by decide +kernel
theorem dL_law__699 : decode cL_law_ 699 = .ok (.iload 6, 2) := by decide +kernel
theorem dL_law__701 : decode cL_law_ 701 = .ok (.i2l, 1) := by decide +kernel
theorem dL_law__702 : decode cL_law_ 702 = .ok (.lcmp, 1) := by decide +kernel
theorem dL_law__703 : decode cL_law_ 703 = .ok (.ifCond .eq 5, 3) := by decide +kernel
def Op_favour (RR : St → St → Prop) : Prop := ∀ (σ μ : St), RR σ μ → ∀ (a0 : Int32) (a1 : Int32), ∃ (r1 : Sum Nat Int32 × St) (r2 : Int32 × St), q11_favour σ a0 a1 = some r1 ∧ q12_favour μ a0 a1 = some r2 ∧ Sx [2] r1 r2 ∧ RR r1.2 r2.2
set_option maxHeartbeats 4000000 in
set_option maxRecDepth 100000 in
theorem law_7 {RR : St → St → Prop} (hop : Op_favour RR) {Θ : Tz} {cJ : ClassId} {Q : State → Prop} {w : Wp} {aM : Nat → Nat} {ao b L : Nat} {xs : Nat → Int32} (C : Gc Θ cL_law_ 7 RL (some .boolean) room_1 cJ) (hlt : Θ.1.2.1.stackTraces = false) (Lx : Lq Θ w aM ao) (S : Ls Θ b L xs) {σ μ : St} {o : Int64} {i kc ks : Nat} (hi : i + 6 ≤ L) (hk : kc + 4 ≤ 601024 ∧ ks + 24 ≤ 7293034) (hR : RR σ μ) (K : ∀ σ' μ' o', RR σ' μ' → G Θ 7 (kc + 4) (ks + 24) Q (LPx w aM ao cJ σ' μ' o') 3251 (llv w aM ao b i) []) : G Θ 7 kc ks Q (LPx w aM ao cJ σ μ o) 643 (llv w aM ao b i) [] := by
  obtain ⟨r1, r2, h1, h2, he, hR2⟩ := hop σ μ hR (xs (i + 1)) (xs (i + 2))
  refine g_aload_n C 1 dL_law__643 rfl rfl ?_
  refine l_arg C S 0 4 1 rfl rfl (by omega) rfl dL_law__644 dL_law__645 dL_law__647 dL_law__648 dL_law__649 ?_
  refine l_arg C S 0 4 2 rfl rfl (by omega) rfl dL_law__650 dL_law__651 dL_law__653 dL_law__654 dL_law__655 ?_
  refine g_aload_n C 3 dL_law__656 rfl rfl ?_
  refine l_callW C Lx [.ref (w.2.2.1 0), .int (xs (i + 1)), .int (xs (i + 2)), .ref ao] 4 (wr_favour (l := Θ.1.2.1) Lx.2.1 hlt Lx.2.2.2.2.2.2.2.1 h1 (Sx_in he)) w_6_60 w_6_58 w_6_59 w_1_0 ⟨rfl, rfl, (Nat.le_of_ble_eq_true rfl), (Nat.le_of_ble_eq_true rfl)⟩ (by decide +kernel) rfl rfl (Nat.le_of_ble_eq_true rfl) hk dL_law__657 ?_
  refine g_istore C dL_law__660 (Nat.le_of_ble_eq_true rfl) rfl ?_
  refine g_aload_n C 3 dL_law__662 rfl rfl ?_
  refine l_arg C S 1 5 1 rfl rfl (by omega) rfl dL_law__663 dL_law__664 dL_law__666 dL_law__667 dL_law__668 ?_
  refine l_arg C S 1 5 2 rfl rfl (by omega) rfl dL_law__669 dL_law__670 dL_law__672 dL_law__673 dL_law__674 ?_
  refine l_callMi C Lx [.int (xs (i + 1)), .int (xs (i + 2))] r2.1 r2.2 2 rfl (c12_favour (l := Θ.1.2.1) (w := wm w aM) (p_a := (xs (i + 1))) (o_a := (xs (i + 2))) rfl Lx.2.2.1 h2) w_9_139 w_9_136 w_9_137 w_9_138 w_1_14 ⟨rfl, rfl, (Nat.le_of_ble_eq_true rfl), (Nat.le_of_ble_eq_true rfl)⟩ (by decide +kernel) rfl rfl (Nat.le_of_ble_eq_true rfl) hk dL_law__675 ?_
  refine g_istore C dL_law__678 (Nat.le_of_ble_eq_true rfl) rfl ?_
  refine g_aload_n C 4 dL_law__680 rfl rfl ?_
  refine l_callMi C Lx [] (q12_thrown r2.2) r2.2 0 rfl (c12_thrown (l := Θ.1.2.1) (w := wm w aM) rfl Lx.2.2.1) w_8_130 w_8_127 w_8_128 w_8_129 w_1_14 ⟨rfl, rfl, (Nat.le_of_ble_eq_true rfl), (Nat.le_of_ble_eq_true rfl)⟩ (by decide +kernel) rfl rfl (Nat.le_of_ble_eq_true rfl) hk dL_law__681 ?_
  refine g_iload C 1 dL_law__684 rfl ?_
  refine g_icmp_eq C 691 dL_law__686 (by decide) (fun _ => ?_) (fun h => absurd (Sx_k he) h)
  refine g_iload C 1 dL_law__691 rfl ?_
  refine g_if_ne C 708 dL_law__693 (by decide) (fun _ => ?_) (fun h0 => ?_)
  · refine g_goto C 3251 dL_law__708 (by decide) ?_
    refine G.sub [2, 3, 4, 5, 6] rfl ?_
    exact K _ _ _ hR2
  · refine g_aload_n C 5 dL_law__696 rfl rfl ?_
    refine g_iconst (v := 0) C dL_law__697 rfl ?_
    refine l_lald C (by rw [Lx.1]) dL_law__698 ?_
    refine g_iload C 0 dL_law__699 rfl ?_
    refine g_i2l C dL_law__701 ?_
    refine g_lcmp C dL_law__702 ?_
    rw [Sx_o (f := (fun v => v)) (o := o) (by decide) he h0, lg_cmp_self]
    refine g_if_eq C 708 dL_law__703 (by decide) (fun _ => ?_) (fun h => absurd rfl h)
    refine g_goto C 3251 dL_law__708 (by decide) ?_
    refine G.sub [2, 3, 4, 5, 6] rfl ?_
    exact K _ _ _ hR2
/-! case 8 -/
theorem dL_law__711 : decode cL_law_ 711 = .ok (.aload_n 1, 1) := by decide +kernel
theorem dL_law__712 : decode cL_law_ 712 = .ok (.aload_n 0, 1) := by decide +kernel
theorem dL_law__713 : decode cL_law_ 713 = .ok (.iload 4, 2) := by decide +kernel
theorem dL_law__715 : decode cL_law_ 715 = .ok (.iconst 1, 1) := by decide +kernel
theorem dL_law__716 : decode cL_law_ 716 = .ok (.iadd, 1) := by decide +kernel
theorem dL_law__717 : decode cL_law_ 717 = .ok (.iaload, 1) := by decide +kernel
theorem dL_law__718 : decode cL_law_ 718 = .ok (.aload_n 3, 1) := by decide +kernel
theorem w_6_68 : Cond.codeWith ({ cls := "LastLoafLaw", name := "grist", desc := "(LLastLoaf;I[J)I" } : MethodName) method_8_code (4 : Nat) (Option.some ClassFile.FieldType.int) [((0 : Nat), (9 : Nat), (12 : Nat), (24 : Nat))] ∈ TB := tb_in (lwt_6 (List.mem_of_getElem? (i := 68) (by decide +kernel))) rfl
theorem w_6_66 : Cond.methodLink "LastLoafLaw" (183 : Nat) ({ cls := "LastLoafLaw", name := "grist", desc := "(LLastLoaf;I[J)I" } : MethodName) ∈ TB := tb_in (lwt_6 (List.mem_of_getElem? (i := 66) (by decide +kernel))) rfl
theorem w_6_67 : Cond.static ({ cls := "LastLoafLaw", name := "grist", desc := "(LLastLoaf;I[J)I" } : MethodName) ∈ TB := tb_in (lwt_6 (List.mem_of_getElem? (i := 67) (by decide +kernel))) rfl
theorem dL_law__719 : decode cL_law_ 719 = .ok (.invokestatic 183, 3) := by decide +kernel
theorem dL_law__722 : decode cL_law_ 722 = .ok (.istore 5, 2) := by decide +kernel
theorem dL_law__724 : decode cL_law_ 724 = .ok (.aload_n 2, 1) := by decide +kernel
theorem dL_law__725 : decode cL_law_ 725 = .ok (.aload_n 0, 1) := by decide +kernel
theorem dL_law__726 : decode cL_law_ 726 = .ok (.iload 4, 2) := by decide +kernel
theorem dL_law__728 : decode cL_law_ 728 = .ok (.iconst 1, 1) := by decide +kernel
theorem dL_law__729 : decode cL_law_ 729 = .ok (.iadd, 1) := by decide +kernel
theorem dL_law__730 : decode cL_law_ 730 = .ok (.iaload, 1) := by decide +kernel
theorem w_9_142 : Cond.selects "LastLoafModel" ({ cls := "LastLoafModel", name := "grist", desc := "(I)I" } : MethodName) ({ cls := "LastLoafModel", name := "grist", desc := "(I)I" } : MethodName) ∈ TB := tb_in (lwt_9 (List.mem_of_getElem? (i := 142) (by decide +kernel))) rfl
theorem w_9_143 : Cond.code ({ cls := "LastLoafModel", name := "grist", desc := "(I)I" } : MethodName) prog_14_method_71_code (2 : Nat) (Option.some ClassFile.FieldType.int) ∈ TB := tb_in (lwt_9 (List.mem_of_getElem? (i := 143) (by decide +kernel))) rfl
theorem w_9_140 : Cond.methodLink "LastLoafLaw" (186 : Nat) ({ cls := "LastLoafModel", name := "grist", desc := "(I)I" } : MethodName) ∈ TB := tb_in (lwt_9 (List.mem_of_getElem? (i := 140) (by decide +kernel))) rfl
theorem w_9_141 : Cond.instanceMethod ({ cls := "LastLoafModel", name := "grist", desc := "(I)I" } : MethodName) ∈ TB := tb_in (lwt_9 (List.mem_of_getElem? (i := 141) (by decide +kernel))) rfl
theorem dL_law__731 : decode cL_law_ 731 = .ok (.invokevirtual 186, 3) := by decide +kernel
theorem dL_law__734 : decode cL_law_ 734 = .ok (.istore 6, 2) := by decide +kernel
theorem dL_law__736 : decode cL_law_ 736 = .ok (.aload_n 2, 1) := by decide +kernel
theorem dL_law__737 : decode cL_law_ 737 = .ok (.invokevirtual 163, 3) := by decide +kernel
theorem dL_law__740 : decode cL_law_ 740 = .ok (.iload 5, 2) := by decide +kernel
theorem dL_law__742 : decode cL_law_ 742 = .ok (.if_icmp .eq 5, 3) := by decide +kernel
theorem dL_law__747 : decode cL_law_ 747 = .ok (.iload 5, 2) := by decide +kernel
theorem dL_law__749 : decode cL_law_ 749 = .ok (.ifCond .ne 15, 3) := by decide +kernel
theorem dL_law__764 : decode cL_law_ 764 = .ok (.goto 2487, 3) := by decide +kernel
theorem dL_law__752 : decode cL_law_ 752 = .ok (.aload_n 3, 1) := by decide +kernel
theorem dL_law__753 : decode cL_law_ 753 = .ok (.iconst 0, 1) := by decide +kernel
theorem dL_law__754 : decode cL_law_ 754 = .ok (.laload, 1) := by decide +kernel
theorem dL_law__755 : decode cL_law_ 755 = .ok (.iload 6, 2) := by decide +kernel
theorem dL_law__757 : decode cL_law_ 757 = .ok (.i2l, 1) := by decide +kernel
theorem dL_law__758 : decode cL_law_ 758 = .ok (.lcmp, 1) := by decide +kernel
theorem dL_law__759 : decode cL_law_ 759 = .ok (.ifCond .eq 5, 3) := by decide +kernel
def Op_grist (RR : St → St → Prop) : Prop := ∀ (σ μ : St), RR σ μ → ∀ (a0 : Int32), ∃ (r1 : Sum Nat Int32 × St) (r2 : Int32 × St), q11_grist σ a0 = some r1 ∧ q12_grist μ a0 = some r2 ∧ Sx [2] r1 r2 ∧ RR r1.2 r2.2
set_option maxHeartbeats 4000000 in
set_option maxRecDepth 100000 in
theorem law_8 {RR : St → St → Prop} (hop : Op_grist RR) {Θ : Tz} {cJ : ClassId} {Q : State → Prop} {w : Wp} {aM : Nat → Nat} {ao b L : Nat} {xs : Nat → Int32} (C : Gc Θ cL_law_ 7 RL (some .boolean) room_1 cJ) (hlt : Θ.1.2.1.stackTraces = false) (Lx : Lq Θ w aM ao) (S : Ls Θ b L xs) {σ μ : St} {o : Int64} {i kc ks : Nat} (hi : i + 6 ≤ L) (hk : kc + 4 ≤ 601024 ∧ ks + 24 ≤ 7293034) (hR : RR σ μ) (K : ∀ σ' μ' o', RR σ' μ' → G Θ 7 (kc + 4) (ks + 24) Q (LPx w aM ao cJ σ' μ' o') 3251 (llv w aM ao b i) []) : G Θ 7 kc ks Q (LPx w aM ao cJ σ μ o) 711 (llv w aM ao b i) [] := by
  obtain ⟨r1, r2, h1, h2, he, hR2⟩ := hop σ μ hR (xs (i + 1))
  refine g_aload_n C 1 dL_law__711 rfl rfl ?_
  refine l_arg C S 0 4 1 rfl rfl (by omega) rfl dL_law__712 dL_law__713 dL_law__715 dL_law__716 dL_law__717 ?_
  refine g_aload_n C 3 dL_law__718 rfl rfl ?_
  refine l_callW C Lx [.ref (w.2.2.1 0), .int (xs (i + 1)), .ref ao] 3 (wr_grist (l := Θ.1.2.1) Lx.2.1 hlt Lx.2.2.2.2.2.2.2.1 h1 (Sx_in he)) w_6_68 w_6_66 w_6_67 w_1_0 ⟨rfl, rfl, (Nat.le_of_ble_eq_true rfl), (Nat.le_of_ble_eq_true rfl)⟩ (by decide +kernel) rfl rfl (Nat.le_of_ble_eq_true rfl) hk dL_law__719 ?_
  refine g_istore C dL_law__722 (Nat.le_of_ble_eq_true rfl) rfl ?_
  refine g_aload_n C 3 dL_law__724 rfl rfl ?_
  refine l_arg C S 1 5 1 rfl rfl (by omega) rfl dL_law__725 dL_law__726 dL_law__728 dL_law__729 dL_law__730 ?_
  refine l_callMi C Lx [.int (xs (i + 1))] r2.1 r2.2 1 rfl (c12_grist (l := Θ.1.2.1) (w := wm w aM) (q_a := (xs (i + 1))) rfl Lx.2.2.1 h2) w_9_143 w_9_140 w_9_141 w_9_142 w_1_14 ⟨rfl, rfl, (Nat.le_of_ble_eq_true rfl), (Nat.le_of_ble_eq_true rfl)⟩ (by decide +kernel) rfl rfl (Nat.le_of_ble_eq_true rfl) hk dL_law__731 ?_
  refine g_istore C dL_law__734 (Nat.le_of_ble_eq_true rfl) rfl ?_
  refine g_aload_n C 4 dL_law__736 rfl rfl ?_
  refine l_callMi C Lx [] (q12_thrown r2.2) r2.2 0 rfl (c12_thrown (l := Θ.1.2.1) (w := wm w aM) rfl Lx.2.2.1) w_8_130 w_8_127 w_8_128 w_8_129 w_1_14 ⟨rfl, rfl, (Nat.le_of_ble_eq_true rfl), (Nat.le_of_ble_eq_true rfl)⟩ (by decide +kernel) rfl rfl (Nat.le_of_ble_eq_true rfl) hk dL_law__737 ?_
  refine g_iload C 1 dL_law__740 rfl ?_
  refine g_icmp_eq C 747 dL_law__742 (by decide) (fun _ => ?_) (fun h => absurd (Sx_k he) h)
  refine g_iload C 1 dL_law__747 rfl ?_
  refine g_if_ne C 764 dL_law__749 (by decide) (fun _ => ?_) (fun h0 => ?_)
  · refine g_goto C 3251 dL_law__764 (by decide) ?_
    refine G.sub [2, 3, 4, 5, 6] rfl ?_
    exact K _ _ _ hR2
  · refine g_aload_n C 5 dL_law__752 rfl rfl ?_
    refine g_iconst (v := 0) C dL_law__753 rfl ?_
    refine l_lald C (by rw [Lx.1]) dL_law__754 ?_
    refine g_iload C 0 dL_law__755 rfl ?_
    refine g_i2l C dL_law__757 ?_
    refine g_lcmp C dL_law__758 ?_
    rw [Sx_o (f := (fun v => v)) (o := o) (by decide) he h0, lg_cmp_self]
    refine g_if_eq C 764 dL_law__759 (by decide) (fun _ => ?_) (fun h => absurd rfl h)
    refine g_goto C 3251 dL_law__764 (by decide) ?_
    refine G.sub [2, 3, 4, 5, 6] rfl ?_
    exact K _ _ _ hR2
/-! case 9 -/
theorem dL_law__767 : decode cL_law_ 767 = .ok (.aload_n 1, 1) := by decide +kernel
theorem dL_law__768 : decode cL_law_ 768 = .ok (.aload_n 0, 1) := by decide +kernel
theorem dL_law__769 : decode cL_law_ 769 = .ok (.iload 4, 2) := by decide +kernel
theorem dL_law__771 : decode cL_law_ 771 = .ok (.iconst 1, 1) := by decide +kernel
theorem dL_law__772 : decode cL_law_ 772 = .ok (.iadd, 1) := by decide +kernel
theorem dL_law__773 : decode cL_law_ 773 = .ok (.iaload, 1) := by decide +kernel
theorem dL_law__774 : decode cL_law_ 774 = .ok (.aload_n 3, 1) := by decide +kernel
theorem w_6_76 : Cond.codeWith ({ cls := "LastLoafLaw", name := "weeks", desc := "(LLastLoaf;I[J)I" } : MethodName) method_9_code (4 : Nat) (Option.some ClassFile.FieldType.int) [((0 : Nat), (9 : Nat), (12 : Nat), (13 : Nat))] ∈ TB := tb_in (lwt_6 (List.mem_of_getElem? (i := 76) (by decide +kernel))) rfl
theorem w_6_74 : Cond.methodLink "LastLoafLaw" (187 : Nat) ({ cls := "LastLoafLaw", name := "weeks", desc := "(LLastLoaf;I[J)I" } : MethodName) ∈ TB := tb_in (lwt_6 (List.mem_of_getElem? (i := 74) (by decide +kernel))) rfl
theorem w_6_75 : Cond.static ({ cls := "LastLoafLaw", name := "weeks", desc := "(LLastLoaf;I[J)I" } : MethodName) ∈ TB := tb_in (lwt_6 (List.mem_of_getElem? (i := 75) (by decide +kernel))) rfl
theorem dL_law__775 : decode cL_law_ 775 = .ok (.invokestatic 187, 3) := by decide +kernel
theorem dL_law__778 : decode cL_law_ 778 = .ok (.istore 5, 2) := by decide +kernel
theorem dL_law__780 : decode cL_law_ 780 = .ok (.aload_n 2, 1) := by decide +kernel
theorem dL_law__781 : decode cL_law_ 781 = .ok (.aload_n 0, 1) := by decide +kernel
theorem dL_law__782 : decode cL_law_ 782 = .ok (.iload 4, 2) := by decide +kernel
theorem dL_law__784 : decode cL_law_ 784 = .ok (.iconst 1, 1) := by decide +kernel
theorem dL_law__785 : decode cL_law_ 785 = .ok (.iadd, 1) := by decide +kernel
theorem dL_law__786 : decode cL_law_ 786 = .ok (.iaload, 1) := by decide +kernel
theorem w_9_146 : Cond.selects "LastLoafModel" ({ cls := "LastLoafModel", name := "weeks", desc := "(I)I" } : MethodName) ({ cls := "LastLoafModel", name := "weeks", desc := "(I)I" } : MethodName) ∈ TB := tb_in (lwt_9 (List.mem_of_getElem? (i := 146) (by decide +kernel))) rfl
theorem w_9_147 : Cond.code ({ cls := "LastLoafModel", name := "weeks", desc := "(I)I" } : MethodName) prog_14_method_74_code (2 : Nat) (Option.some ClassFile.FieldType.int) ∈ TB := tb_in (lwt_9 (List.mem_of_getElem? (i := 147) (by decide +kernel))) rfl
theorem w_9_144 : Cond.methodLink "LastLoafLaw" (189 : Nat) ({ cls := "LastLoafModel", name := "weeks", desc := "(I)I" } : MethodName) ∈ TB := tb_in (lwt_9 (List.mem_of_getElem? (i := 144) (by decide +kernel))) rfl
theorem w_9_145 : Cond.instanceMethod ({ cls := "LastLoafModel", name := "weeks", desc := "(I)I" } : MethodName) ∈ TB := tb_in (lwt_9 (List.mem_of_getElem? (i := 145) (by decide +kernel))) rfl
theorem dL_law__787 : decode cL_law_ 787 = .ok (.invokevirtual 189, 3) := by decide +kernel
theorem dL_law__790 : decode cL_law_ 790 = .ok (.istore 6, 2) := by decide +kernel
theorem dL_law__792 : decode cL_law_ 792 = .ok (.aload_n 2, 1) := by decide +kernel
theorem dL_law__793 : decode cL_law_ 793 = .ok (.invokevirtual 163, 3) := by decide +kernel
theorem dL_law__796 : decode cL_law_ 796 = .ok (.iload 5, 2) := by decide +kernel
theorem dL_law__798 : decode cL_law_ 798 = .ok (.if_icmp .eq 5, 3) := by decide +kernel
theorem dL_law__803 : decode cL_law_ 803 = .ok (.iload 5, 2) := by decide +kernel
theorem dL_law__805 : decode cL_law_ 805 = .ok (.ifCond .ne 15, 3) := by decide +kernel
theorem dL_law__820 : decode cL_law_ 820 = .ok (.goto 2431, 3) := by decide +kernel
theorem dL_law__808 : decode cL_law_ 808 = .ok (.aload_n 3, 1) := by decide +kernel
theorem dL_law__809 : decode cL_law_ 809 = .ok (.iconst 0, 1) := by decide +kernel
theorem dL_law__810 : decode cL_law_ 810 = .ok (.laload, 1) := by decide +kernel
theorem dL_law__811 : decode cL_law_ 811 = .ok (.iload 6, 2) := by decide +kernel
theorem dL_law__813 : decode cL_law_ 813 = .ok (.i2l, 1) := by decide +kernel
theorem dL_law__814 : decode cL_law_ 814 = .ok (.lcmp, 1) := by decide +kernel
theorem dL_law__815 : decode cL_law_ 815 = .ok (.ifCond .eq 5, 3) := by decide +kernel
def Op_weeks (RR : St → St → Prop) : Prop := ∀ (σ μ : St), RR σ μ → ∀ (a0 : Int32), ∃ (r1 : Sum Nat Int32 × St) (r2 : Int32 × St), q11_weeks σ a0 = some r1 ∧ q12_weeks μ a0 = some r2 ∧ Sx [0] r1 r2 ∧ RR r1.2 r2.2
set_option maxHeartbeats 4000000 in
set_option maxRecDepth 100000 in
theorem law_9 {RR : St → St → Prop} (hop : Op_weeks RR) {Θ : Tz} {cJ : ClassId} {Q : State → Prop} {w : Wp} {aM : Nat → Nat} {ao b L : Nat} {xs : Nat → Int32} (C : Gc Θ cL_law_ 7 RL (some .boolean) room_1 cJ) (hlt : Θ.1.2.1.stackTraces = false) (Lx : Lq Θ w aM ao) (S : Ls Θ b L xs) {σ μ : St} {o : Int64} {i kc ks : Nat} (hi : i + 6 ≤ L) (hk : kc + 4 ≤ 601024 ∧ ks + 24 ≤ 7293034) (hR : RR σ μ) (K : ∀ σ' μ' o', RR σ' μ' → G Θ 7 (kc + 4) (ks + 24) Q (LPx w aM ao cJ σ' μ' o') 3251 (llv w aM ao b i) []) : G Θ 7 kc ks Q (LPx w aM ao cJ σ μ o) 767 (llv w aM ao b i) [] := by
  obtain ⟨r1, r2, h1, h2, he, hR2⟩ := hop σ μ hR (xs (i + 1))
  refine g_aload_n C 1 dL_law__767 rfl rfl ?_
  refine l_arg C S 0 4 1 rfl rfl (by omega) rfl dL_law__768 dL_law__769 dL_law__771 dL_law__772 dL_law__773 ?_
  refine g_aload_n C 3 dL_law__774 rfl rfl ?_
  refine l_callW C Lx [.ref (w.2.2.1 0), .int (xs (i + 1)), .ref ao] 3 (wr_weeks (l := Θ.1.2.1) Lx.2.1 hlt Lx.2.2.2.2.2.2.2.1 h1 (Sx_in he)) w_6_76 w_6_74 w_6_75 w_1_0 ⟨rfl, rfl, (Nat.le_of_ble_eq_true rfl), (Nat.le_of_ble_eq_true rfl)⟩ (by decide +kernel) rfl rfl (Nat.le_of_ble_eq_true rfl) hk dL_law__775 ?_
  refine g_istore C dL_law__778 (Nat.le_of_ble_eq_true rfl) rfl ?_
  refine g_aload_n C 3 dL_law__780 rfl rfl ?_
  refine l_arg C S 1 5 1 rfl rfl (by omega) rfl dL_law__781 dL_law__782 dL_law__784 dL_law__785 dL_law__786 ?_
  refine l_callMi C Lx [.int (xs (i + 1))] r2.1 r2.2 1 rfl (c12_weeks (l := Θ.1.2.1) (w := wm w aM) (n_a := (xs (i + 1))) rfl Lx.2.2.1 h2) w_9_147 w_9_144 w_9_145 w_9_146 w_1_14 ⟨rfl, rfl, (Nat.le_of_ble_eq_true rfl), (Nat.le_of_ble_eq_true rfl)⟩ (by decide +kernel) rfl rfl (Nat.le_of_ble_eq_true rfl) hk dL_law__787 ?_
  refine g_istore C dL_law__790 (Nat.le_of_ble_eq_true rfl) rfl ?_
  refine g_aload_n C 4 dL_law__792 rfl rfl ?_
  refine l_callMi C Lx [] (q12_thrown r2.2) r2.2 0 rfl (c12_thrown (l := Θ.1.2.1) (w := wm w aM) rfl Lx.2.2.1) w_8_130 w_8_127 w_8_128 w_8_129 w_1_14 ⟨rfl, rfl, (Nat.le_of_ble_eq_true rfl), (Nat.le_of_ble_eq_true rfl)⟩ (by decide +kernel) rfl rfl (Nat.le_of_ble_eq_true rfl) hk dL_law__793 ?_
  refine g_iload C 1 dL_law__796 rfl ?_
  refine g_icmp_eq C 803 dL_law__798 (by decide) (fun _ => ?_) (fun h => absurd (Sx_k he) h)
  refine g_iload C 1 dL_law__803 rfl ?_
  refine g_if_ne C 820 dL_law__805 (by decide) (fun _ => ?_) (fun h0 => ?_)
  · refine g_goto C 3251 dL_law__820 (by decide) ?_
    refine G.sub [2, 3, 4, 5, 6] rfl ?_
    exact K _ _ _ hR2
  · refine g_aload_n C 5 dL_law__808 rfl rfl ?_
    refine g_iconst (v := 0) C dL_law__809 rfl ?_
    refine l_lald C (by rw [Lx.1]) dL_law__810 ?_
    refine g_iload C 0 dL_law__811 rfl ?_
    refine g_i2l C dL_law__813 ?_
    refine g_lcmp C dL_law__814 ?_
    rw [Sx_o (f := (fun v => v)) (o := o) (by decide) he h0, lg_cmp_self]
    refine g_if_eq C 820 dL_law__815 (by decide) (fun _ => ?_) (fun h => absurd rfl h)
    refine g_goto C 3251 dL_law__820 (by decide) ?_
    refine G.sub [2, 3, 4, 5, 6] rfl ?_
    exact K _ _ _ hR2
/-! case 10 -/
theorem dL_law__823 : decode cL_law_ 823 = .ok (.aload_n 1, 1) := by decide +kernel
theorem dL_law__824 : decode cL_law_ 824 = .ok (.aload_n 0, 1) := by decide +kernel
theorem dL_law__825 : decode cL_law_ 825 = .ok (.iload 4, 2) := by decide +kernel
theorem dL_law__827 : decode cL_law_ 827 = .ok (.iconst 1, 1) := by decide +kernel
theorem dL_law__828 : decode cL_law_ 828 = .ok (.iadd, 1) := by decide +kernel
theorem dL_law__829 : decode cL_law_ 829 = .ok (.iaload, 1) := by decide +kernel
theorem dL_law__830 : decode cL_law_ 830 = .ok (.aload_n 0, 1) := by decide +kernel
theorem dL_law__831 : decode cL_law_ 831 = .ok (.iload 4, 2) := by decide +kernel
theorem dL_law__833 : decode cL_law_ 833 = .ok (.iconst 2, 1) := by decide +kernel
theorem dL_law__834 : decode cL_law_ 834 = .ok (.iadd, 1) := by decide +kernel
theorem dL_law__835 : decode cL_law_ 835 = .ok (.iaload, 1) := by decide +kernel
theorem dL_law__836 : decode cL_law_ 836 = .ok (.ifCond .eq 7, 3) := by decide +kernel
theorem dL_law__839 : decode cL_law_ 839 = .ok (.iconst 1, 1) := by decide +kernel
theorem dL_law__840 : decode cL_law_ 840 = .ok (.goto 4, 3) := by decide +kernel
theorem dL_law__843 : decode cL_law_ 843 = .ok (.iconst 0, 1) := by decide +kernel
theorem dL_law__844 : decode cL_law_ 844 = .ok (.aload_n 3, 1) := by decide +kernel
theorem w_6_92 : Cond.codeWith ({ cls := "LastLoafLaw", name := "stand", desc := "(LLastLoaf;IZ[J)I" } : MethodName) method_10_code (5 : Nat) (Option.some ClassFile.FieldType.int) [((0 : Nat), (17 : Nat), (20 : Nat), (24 : Nat)), ((0 : Nat), (17 : Nat), (24 : Nat), (45 : Nat))] ∈ TB := tb_in (lwt_6 (List.mem_of_getElem? (i := 92) (by decide +kernel))) rfl
theorem w_6_90 : Cond.methodLink "LastLoafLaw" (190 : Nat) ({ cls := "LastLoafLaw", name := "stand", desc := "(LLastLoaf;IZ[J)I" } : MethodName) ∈ TB := tb_in (lwt_6 (List.mem_of_getElem? (i := 90) (by decide +kernel))) rfl
theorem w_6_91 : Cond.static ({ cls := "LastLoafLaw", name := "stand", desc := "(LLastLoaf;IZ[J)I" } : MethodName) ∈ TB := tb_in (lwt_6 (List.mem_of_getElem? (i := 91) (by decide +kernel))) rfl
theorem dL_law__845 : decode cL_law_ 845 = .ok (.invokestatic 190, 3) := by decide +kernel
theorem dL_law__848 : decode cL_law_ 848 = .ok (.istore 5, 2) := by decide +kernel
theorem dL_law__850 : decode cL_law_ 850 = .ok (.aload_n 2, 1) := by decide +kernel
theorem dL_law__851 : decode cL_law_ 851 = .ok (.aload_n 0, 1) := by decide +kernel
theorem dL_law__852 : decode cL_law_ 852 = .ok (.iload 4, 2) := by decide +kernel
theorem dL_law__854 : decode cL_law_ 854 = .ok (.iconst 1, 1) := by decide +kernel
theorem dL_law__855 : decode cL_law_ 855 = .ok (.iadd, 1) := by decide +kernel
theorem dL_law__856 : decode cL_law_ 856 = .ok (.iaload, 1) := by decide +kernel
theorem dL_law__857 : decode cL_law_ 857 = .ok (.aload_n 0, 1) := by decide +kernel
theorem dL_law__858 : decode cL_law_ 858 = .ok (.iload 4, 2) := by decide +kernel
theorem dL_law__860 : decode cL_law_ 860 = .ok (.iconst 2, 1) := by decide +kernel
theorem dL_law__861 : decode cL_law_ 861 = .ok (.iadd, 1) := by decide +kernel
theorem dL_law__862 : decode cL_law_ 862 = .ok (.iaload, 1) := by decide +kernel
theorem dL_law__863 : decode cL_law_ 863 = .ok (.ifCond .eq 7, 3) := by decide +kernel
theorem dL_law__866 : decode cL_law_ 866 = .ok (.iconst 1, 1) := by decide +kernel
theorem dL_law__867 : decode cL_law_ 867 = .ok (.goto 4, 3) := by decide +kernel
theorem dL_law__870 : decode cL_law_ 870 = .ok (.iconst 0, 1) := by decide +kernel
theorem w_9_209 : Cond.selects "LastLoafModel" ({ cls := "LastLoafModel", name := "stand", desc := "(IZ)Z" } : MethodName) ({ cls := "LastLoafModel", name := "stand", desc := "(IZ)Z" } : MethodName) ∈ TB := tb_in (lwt_9 (List.mem_of_getElem? (i := 209) (by decide +kernel))) rfl
theorem w_9_210 : Cond.code ({ cls := "LastLoafModel", name := "stand", desc := "(IZ)Z" } : MethodName) prog_14_method_75_code (3 : Nat) (Option.some ClassFile.FieldType.boolean) ∈ TB := tb_in (lwt_9 (List.mem_of_getElem? (i := 210) (by decide +kernel))) rfl
theorem w_9_207 : Cond.methodLink "LastLoafLaw" (193 : Nat) ({ cls := "LastLoafModel", name := "stand", desc := "(IZ)Z" } : MethodName) ∈ TB := tb_in (lwt_9 (List.mem_of_getElem? (i := 207) (by decide +kernel))) rfl
theorem w_9_208 : Cond.instanceMethod ({ cls := "LastLoafModel", name := "stand", desc := "(IZ)Z" } : MethodName) ∈ TB := tb_in (lwt_9 (List.mem_of_getElem? (i := 208) (by decide +kernel))) rfl
theorem dL_law__871 : decode cL_law_ 871 = .ok (.invokevirtual 193, 3) := by decide +kernel
theorem dL_law__874 : decode cL_law_ 874 = .ok (.istore 6, 2) := by decide +kernel
theorem dL_law__876 : decode cL_law_ 876 = .ok (.aload_n 2, 1) := by decide +kernel
theorem dL_law__877 : decode cL_law_ 877 = .ok (.invokevirtual 163, 3) := by decide +kernel
theorem dL_law__880 : decode cL_law_ 880 = .ok (.iload 5, 2) := by decide +kernel
theorem dL_law__882 : decode cL_law_ 882 = .ok (.if_icmp .eq 5, 3) := by decide +kernel
theorem dL_law__887 : decode cL_law_ 887 = .ok (.iload 5, 2) := by decide +kernel
theorem dL_law__889 : decode cL_law_ 889 = .ok (.ifCond .ne 22, 3) := by decide +kernel
theorem dL_law__911 : decode cL_law_ 911 = .ok (.goto 2340, 3) := by decide +kernel
theorem dL_law__892 : decode cL_law_ 892 = .ok (.aload_n 3, 1) := by decide +kernel
theorem dL_law__893 : decode cL_law_ 893 = .ok (.iconst 0, 1) := by decide +kernel
theorem dL_law__894 : decode cL_law_ 894 = .ok (.laload, 1) := by decide +kernel
theorem dL_law__895 : decode cL_law_ 895 = .ok (.iload 6, 2) := by decide +kernel
theorem dL_law__897 : decode cL_law_ 897 = .ok (.ifCond .eq 7, 3) := by decide +kernel
theorem dL_law__900 : decode cL_law_ 900 = .ok (.lconst 1, 1) := by decide +kernel
theorem dL_law__901 : decode cL_law_ 901 = .ok (.goto 4, 3) := by decide +kernel
theorem dL_law__904 : decode cL_law_ 904 = .ok (.lconst 0, 1) := by decide +kernel
theorem dL_law__905 : decode cL_law_ 905 = .ok (.lcmp, 1) := by decide +kernel
theorem dL_law__906 : decode cL_law_ 906 = .ok (.ifCond .eq 5, 3) := by decide +kernel
def Op_stand (RR : St → St → Prop) : Prop := ∀ (σ μ : St), RR σ μ → ∀ (a0 : Int32) (a1 : Bool), ∃ (r1 : Sum Nat Bool × St) (r2 : Bool × St), q11_stand σ a0 a1 = some r1 ∧ q12_stand μ a0 a1 = some r2 ∧ Sx [2, 1] r1 r2 ∧ RR r1.2 r2.2
set_option maxHeartbeats 4000000 in
set_option maxRecDepth 100000 in
theorem law_10 {RR : St → St → Prop} (hop : Op_stand RR) {Θ : Tz} {cJ : ClassId} {Q : State → Prop} {w : Wp} {aM : Nat → Nat} {ao b L : Nat} {xs : Nat → Int32} (C : Gc Θ cL_law_ 7 RL (some .boolean) room_1 cJ) (hlt : Θ.1.2.1.stackTraces = false) (Lx : Lq Θ w aM ao) (S : Ls Θ b L xs) {σ μ : St} {o : Int64} {i kc ks : Nat} (hi : i + 6 ≤ L) (hk : kc + 4 ≤ 601024 ∧ ks + 24 ≤ 7293034) (hR : RR σ μ) (K : ∀ σ' μ' o', RR σ' μ' → G Θ 7 (kc + 4) (ks + 24) Q (LPx w aM ao cJ σ' μ' o') 3251 (llv w aM ao b i) []) : G Θ 7 kc ks Q (LPx w aM ao cJ σ μ o) 823 (llv w aM ao b i) [] := by
  obtain ⟨r1, r2, h1, h2, he, hR2⟩ := hop σ μ hR (xs (i + 1)) (decide (¬ xs (i + 2) = 0))
  refine g_aload_n C 1 dL_law__823 rfl rfl ?_
  refine l_arg C S 0 4 1 rfl rfl (by omega) rfl dL_law__824 dL_law__825 dL_law__827 dL_law__828 dL_law__829 ?_
  refine l_arg C S 0 4 2 rfl rfl (by omega) rfl dL_law__830 dL_law__831 dL_law__833 dL_law__834 dL_law__835 ?_
  refine g_nz C dL_law__836 dL_law__839 dL_law__840 dL_law__843 ?_
  refine g_aload_n C 3 dL_law__844 rfl rfl ?_
  refine l_callW C Lx [.ref (w.2.2.1 0), .int (xs (i + 1)), .int (b2i (decide (¬ xs (i + 2) = 0))), .ref ao] 4 (wr_stand (l := Θ.1.2.1) Lx.2.1 hlt Lx.2.2.2.2.2.2.2.1 h1 (Sx_in he)) w_6_92 w_6_90 w_6_91 w_1_0 ⟨rfl, rfl, (Nat.le_of_ble_eq_true rfl), (Nat.le_of_ble_eq_true rfl)⟩ (by decide +kernel) rfl rfl (Nat.le_of_ble_eq_true rfl) hk dL_law__845 ?_
  refine g_istore C dL_law__848 (Nat.le_of_ble_eq_true rfl) rfl ?_
  refine g_aload_n C 3 dL_law__850 rfl rfl ?_
  refine l_arg C S 1 5 1 rfl rfl (by omega) rfl dL_law__851 dL_law__852 dL_law__854 dL_law__855 dL_law__856 ?_
  refine l_arg C S 1 5 2 rfl rfl (by omega) rfl dL_law__857 dL_law__858 dL_law__860 dL_law__861 dL_law__862 ?_
  refine g_nz C dL_law__863 dL_law__866 dL_law__867 dL_law__870 ?_
  refine l_callMi C Lx [.int (xs (i + 1)), .int (b2i (decide (¬ xs (i + 2) = 0)))] (b2i r2.1) r2.2 2 rfl (c12_stand (l := Θ.1.2.1) (w := wm w aM) (p_a := (xs (i + 1))) (is_a := (decide (¬ xs (i + 2) = 0))) rfl Lx.2.2.1 h2) w_9_210 w_9_207 w_9_208 w_9_209 w_1_14 ⟨rfl, rfl, (Nat.le_of_ble_eq_true rfl), (Nat.le_of_ble_eq_true rfl)⟩ (by decide +kernel) rfl rfl (Nat.le_of_ble_eq_true rfl) hk dL_law__871 ?_
  refine g_istore C dL_law__874 (Nat.le_of_ble_eq_true rfl) rfl ?_
  refine g_aload_n C 4 dL_law__876 rfl rfl ?_
  refine l_callMi C Lx [] (q12_thrown r2.2) r2.2 0 rfl (c12_thrown (l := Θ.1.2.1) (w := wm w aM) rfl Lx.2.2.1) w_8_130 w_8_127 w_8_128 w_8_129 w_1_14 ⟨rfl, rfl, (Nat.le_of_ble_eq_true rfl), (Nat.le_of_ble_eq_true rfl)⟩ (by decide +kernel) rfl rfl (Nat.le_of_ble_eq_true rfl) hk dL_law__877 ?_
  refine g_iload C 1 dL_law__880 rfl ?_
  refine g_icmp_eq C 887 dL_law__882 (by decide) (fun _ => ?_) (fun h => absurd (Sx_k he) h)
  refine g_iload C 1 dL_law__887 rfl ?_
  refine g_if_ne C 911 dL_law__889 (by decide) (fun _ => ?_) (fun h0 => ?_)
  · refine g_goto C 3251 dL_law__911 (by decide) ?_
    refine G.sub [2, 3, 4, 5, 6] rfl ?_
    exact K _ _ _ hR2
  · refine g_aload_n C 5 dL_law__892 rfl rfl ?_
    refine g_iconst (v := 0) C dL_law__893 rfl ?_
    refine l_lald C (by rw [Lx.1]) dL_law__894 ?_
    refine g_iload C 0 dL_law__895 rfl ?_
    refine g_bl (b := r2.1) C dL_law__897 dL_law__900 dL_law__901 dL_law__904 ?_
    refine g_lcmp C dL_law__905 ?_
    rw [Sx_o (f := b2i) (o := o) (by decide) he h0, lg_cmp_self]
    refine g_if_eq C 911 dL_law__906 (by decide) (fun _ => ?_) (fun h => absurd rfl h)
    refine g_goto C 3251 dL_law__911 (by decide) ?_
    refine G.sub [2, 3, 4, 5, 6] rfl ?_
    exact K _ _ _ hR2
/-! case 11 -/
theorem dL_law__914 : decode cL_law_ 914 = .ok (.aload_n 1, 1) := by decide +kernel
theorem dL_law__915 : decode cL_law_ 915 = .ok (.aload_n 0, 1) := by decide +kernel
theorem dL_law__916 : decode cL_law_ 916 = .ok (.iload 4, 2) := by decide +kernel
theorem dL_law__918 : decode cL_law_ 918 = .ok (.iconst 1, 1) := by decide +kernel
theorem dL_law__919 : decode cL_law_ 919 = .ok (.iadd, 1) := by decide +kernel
theorem dL_law__920 : decode cL_law_ 920 = .ok (.iaload, 1) := by decide +kernel
theorem dL_law__921 : decode cL_law_ 921 = .ok (.aload_n 0, 1) := by decide +kernel
theorem dL_law__922 : decode cL_law_ 922 = .ok (.iload 4, 2) := by decide +kernel
theorem dL_law__924 : decode cL_law_ 924 = .ok (.iconst 2, 1) := by decide +kernel
theorem dL_law__925 : decode cL_law_ 925 = .ok (.iadd, 1) := by decide +kernel
theorem dL_law__926 : decode cL_law_ 926 = .ok (.iaload, 1) := by decide +kernel
theorem dL_law__927 : decode cL_law_ 927 = .ok (.aload_n 0, 1) := by decide +kernel
theorem dL_law__928 : decode cL_law_ 928 = .ok (.iload 4, 2) := by decide +kernel
theorem dL_law__930 : decode cL_law_ 930 = .ok (.iconst 3, 1) := by decide +kernel
theorem dL_law__931 : decode cL_law_ 931 = .ok (.iadd, 1) := by decide +kernel
theorem dL_law__932 : decode cL_law_ 932 = .ok (.iaload, 1) := by decide +kernel
theorem dL_law__933 : decode cL_law_ 933 = .ok (.aload_n 3, 1) := by decide +kernel
theorem w_6_116 : Cond.codeWith ({ cls := "LastLoafLaw", name := "like", desc := "(LLastLoaf;III[J)I" } : MethodName) method_11_code (6 : Nat) (Option.some ClassFile.FieldType.int) [((0 : Nat), (12 : Nat), (15 : Nat), (24 : Nat)), ((0 : Nat), (12 : Nat), (19 : Nat), (13 : Nat))] ∈ TB := tb_in (lwt_6 (List.mem_of_getElem? (i := 116) (by decide +kernel))) rfl
theorem w_6_114 : Cond.methodLink "LastLoafLaw" (194 : Nat) ({ cls := "LastLoafLaw", name := "like", desc := "(LLastLoaf;III[J)I" } : MethodName) ∈ TB := tb_in (lwt_6 (List.mem_of_getElem? (i := 114) (by decide +kernel))) rfl
theorem w_6_115 : Cond.static ({ cls := "LastLoafLaw", name := "like", desc := "(LLastLoaf;III[J)I" } : MethodName) ∈ TB := tb_in (lwt_6 (List.mem_of_getElem? (i := 115) (by decide +kernel))) rfl
theorem dL_law__934 : decode cL_law_ 934 = .ok (.invokestatic 194, 3) := by decide +kernel
theorem dL_law__937 : decode cL_law_ 937 = .ok (.istore 5, 2) := by decide +kernel
theorem dL_law__939 : decode cL_law_ 939 = .ok (.aload_n 2, 1) := by decide +kernel
theorem dL_law__940 : decode cL_law_ 940 = .ok (.aload_n 0, 1) := by decide +kernel
theorem dL_law__941 : decode cL_law_ 941 = .ok (.iload 4, 2) := by decide +kernel
theorem dL_law__943 : decode cL_law_ 943 = .ok (.iconst 1, 1) := by decide +kernel
theorem dL_law__944 : decode cL_law_ 944 = .ok (.iadd, 1) := by decide +kernel
theorem dL_law__945 : decode cL_law_ 945 = .ok (.iaload, 1) := by decide +kernel
theorem dL_law__946 : decode cL_law_ 946 = .ok (.aload_n 0, 1) := by decide +kernel
theorem dL_law__947 : decode cL_law_ 947 = .ok (.iload 4, 2) := by decide +kernel
theorem dL_law__949 : decode cL_law_ 949 = .ok (.iconst 2, 1) := by decide +kernel
theorem dL_law__950 : decode cL_law_ 950 = .ok (.iadd, 1) := by decide +kernel
theorem dL_law__951 : decode cL_law_ 951 = .ok (.iaload, 1) := by decide +kernel
theorem dL_law__952 : decode cL_law_ 952 = .ok (.aload_n 0, 1) := by decide +kernel
theorem dL_law__953 : decode cL_law_ 953 = .ok (.iload 4, 2) := by decide +kernel
theorem dL_law__955 : decode cL_law_ 955 = .ok (.iconst 3, 1) := by decide +kernel
theorem dL_law__956 : decode cL_law_ 956 = .ok (.iadd, 1) := by decide +kernel
theorem dL_law__957 : decode cL_law_ 957 = .ok (.iaload, 1) := by decide +kernel
theorem w_9_217 : Cond.selects "LastLoafModel" ({ cls := "LastLoafModel", name := "like", desc := "(III)I" } : MethodName) ({ cls := "LastLoafModel", name := "like", desc := "(III)I" } : MethodName) ∈ TB := tb_in (lwt_9 (List.mem_of_getElem? (i := 217) (by decide +kernel))) rfl
theorem w_9_218 : Cond.code ({ cls := "LastLoafModel", name := "like", desc := "(III)I" } : MethodName) prog_14_method_76_code (4 : Nat) (Option.some ClassFile.FieldType.int) ∈ TB := tb_in (lwt_9 (List.mem_of_getElem? (i := 218) (by decide +kernel))) rfl
theorem w_9_215 : Cond.methodLink "LastLoafLaw" (197 : Nat) ({ cls := "LastLoafModel", name := "like", desc := "(III)I" } : MethodName) ∈ TB := tb_in (lwt_9 (List.mem_of_getElem? (i := 215) (by decide +kernel))) rfl
theorem w_9_216 : Cond.instanceMethod ({ cls := "LastLoafModel", name := "like", desc := "(III)I" } : MethodName) ∈ TB := tb_in (lwt_9 (List.mem_of_getElem? (i := 216) (by decide +kernel))) rfl
theorem dL_law__958 : decode cL_law_ 958 = .ok (.invokevirtual 197, 3) := by decide +kernel
theorem dL_law__961 : decode cL_law_ 961 = .ok (.istore 6, 2) := by decide +kernel
theorem dL_law__963 : decode cL_law_ 963 = .ok (.aload_n 2, 1) := by decide +kernel
theorem dL_law__964 : decode cL_law_ 964 = .ok (.invokevirtual 163, 3) := by decide +kernel
theorem dL_law__967 : decode cL_law_ 967 = .ok (.iload 5, 2) := by decide +kernel
theorem dL_law__969 : decode cL_law_ 969 = .ok (.if_icmp .eq 5, 3) := by decide +kernel
theorem dL_law__974 : decode cL_law_ 974 = .ok (.iload 5, 2) := by decide +kernel
theorem dL_law__976 : decode cL_law_ 976 = .ok (.ifCond .ne 15, 3) := by decide +kernel
theorem dL_law__991 : decode cL_law_ 991 = .ok (.goto 2260, 3) := by decide +kernel
theorem dL_law__979 : decode cL_law_ 979 = .ok (.aload_n 3, 1) := by decide +kernel
theorem dL_law__980 : decode cL_law_ 980 = .ok (.iconst 0, 1) := by decide +kernel
theorem dL_law__981 : decode cL_law_ 981 = .ok (.laload, 1) := by decide +kernel
theorem dL_law__982 : decode cL_law_ 982 = .ok (.iload 6, 2) := by decide +kernel
theorem dL_law__984 : decode cL_law_ 984 = .ok (.i2l, 1) := by decide +kernel
theorem dL_law__985 : decode cL_law_ 985 = .ok (.lcmp, 1) := by decide +kernel
theorem dL_law__986 : decode cL_law_ 986 = .ok (.ifCond .eq 5, 3) := by decide +kernel
def Op_like (RR : St → St → Prop) : Prop := ∀ (σ μ : St), RR σ μ → ∀ (a0 : Int32) (a1 : Int32) (a2 : Int32), ∃ (r1 : Sum Nat Int32 × St) (r2 : Int32 × St), q11_like σ a0 a1 a2 = some r1 ∧ q12_like μ a0 a1 a2 = some r2 ∧ Sx [2, 0] r1 r2 ∧ RR r1.2 r2.2
set_option maxHeartbeats 4000000 in
set_option maxRecDepth 100000 in
theorem law_11 {RR : St → St → Prop} (hop : Op_like RR) {Θ : Tz} {cJ : ClassId} {Q : State → Prop} {w : Wp} {aM : Nat → Nat} {ao b L : Nat} {xs : Nat → Int32} (C : Gc Θ cL_law_ 7 RL (some .boolean) room_1 cJ) (hlt : Θ.1.2.1.stackTraces = false) (Lx : Lq Θ w aM ao) (S : Ls Θ b L xs) {σ μ : St} {o : Int64} {i kc ks : Nat} (hi : i + 6 ≤ L) (hk : kc + 4 ≤ 601024 ∧ ks + 24 ≤ 7293034) (hR : RR σ μ) (K : ∀ σ' μ' o', RR σ' μ' → G Θ 7 (kc + 4) (ks + 24) Q (LPx w aM ao cJ σ' μ' o') 3251 (llv w aM ao b i) []) : G Θ 7 kc ks Q (LPx w aM ao cJ σ μ o) 914 (llv w aM ao b i) [] := by
  obtain ⟨r1, r2, h1, h2, he, hR2⟩ := hop σ μ hR (xs (i + 1)) (xs (i + 2)) (xs (i + 3))
  refine g_aload_n C 1 dL_law__914 rfl rfl ?_
  refine l_arg C S 0 4 1 rfl rfl (by omega) rfl dL_law__915 dL_law__916 dL_law__918 dL_law__919 dL_law__920 ?_
  refine l_arg C S 0 4 2 rfl rfl (by omega) rfl dL_law__921 dL_law__922 dL_law__924 dL_law__925 dL_law__926 ?_
  refine l_arg C S 0 4 3 rfl rfl (by omega) rfl dL_law__927 dL_law__928 dL_law__930 dL_law__931 dL_law__932 ?_
  refine g_aload_n C 3 dL_law__933 rfl rfl ?_
  refine l_callW C Lx [.ref (w.2.2.1 0), .int (xs (i + 1)), .int (xs (i + 2)), .int (xs (i + 3)), .ref ao] 5 (wr_like (l := Θ.1.2.1) Lx.2.1 hlt Lx.2.2.2.2.2.2.2.1 h1 (Sx_in he)) w_6_116 w_6_114 w_6_115 w_1_0 ⟨rfl, rfl, (Nat.le_of_ble_eq_true rfl), (Nat.le_of_ble_eq_true rfl)⟩ (by decide +kernel) rfl rfl (Nat.le_of_ble_eq_true rfl) hk dL_law__934 ?_
  refine g_istore C dL_law__937 (Nat.le_of_ble_eq_true rfl) rfl ?_
  refine g_aload_n C 3 dL_law__939 rfl rfl ?_
  refine l_arg C S 1 5 1 rfl rfl (by omega) rfl dL_law__940 dL_law__941 dL_law__943 dL_law__944 dL_law__945 ?_
  refine l_arg C S 1 5 2 rfl rfl (by omega) rfl dL_law__946 dL_law__947 dL_law__949 dL_law__950 dL_law__951 ?_
  refine l_arg C S 1 5 3 rfl rfl (by omega) rfl dL_law__952 dL_law__953 dL_law__955 dL_law__956 dL_law__957 ?_
  refine l_callMi C Lx [.int (xs (i + 1)), .int (xs (i + 2)), .int (xs (i + 3))] r2.1 r2.2 3 rfl (c12_like (l := Θ.1.2.1) (w := wm w aM) (p_a := (xs (i + 1))) (o_a := (xs (i + 2))) (n_a := (xs (i + 3))) rfl Lx.2.2.1 h2) w_9_218 w_9_215 w_9_216 w_9_217 w_1_14 ⟨rfl, rfl, (Nat.le_of_ble_eq_true rfl), (Nat.le_of_ble_eq_true rfl)⟩ (by decide +kernel) rfl rfl (Nat.le_of_ble_eq_true rfl) hk dL_law__958 ?_
  refine g_istore C dL_law__961 (Nat.le_of_ble_eq_true rfl) rfl ?_
  refine g_aload_n C 4 dL_law__963 rfl rfl ?_
  refine l_callMi C Lx [] (q12_thrown r2.2) r2.2 0 rfl (c12_thrown (l := Θ.1.2.1) (w := wm w aM) rfl Lx.2.2.1) w_8_130 w_8_127 w_8_128 w_8_129 w_1_14 ⟨rfl, rfl, (Nat.le_of_ble_eq_true rfl), (Nat.le_of_ble_eq_true rfl)⟩ (by decide +kernel) rfl rfl (Nat.le_of_ble_eq_true rfl) hk dL_law__964 ?_
  refine g_iload C 1 dL_law__967 rfl ?_
  refine g_icmp_eq C 974 dL_law__969 (by decide) (fun _ => ?_) (fun h => absurd (Sx_k he) h)
  refine g_iload C 1 dL_law__974 rfl ?_
  refine g_if_ne C 991 dL_law__976 (by decide) (fun _ => ?_) (fun h0 => ?_)
  · refine g_goto C 3251 dL_law__991 (by decide) ?_
    refine G.sub [2, 3, 4, 5, 6] rfl ?_
    exact K _ _ _ hR2
  · refine g_aload_n C 5 dL_law__979 rfl rfl ?_
    refine g_iconst (v := 0) C dL_law__980 rfl ?_
    refine l_lald C (by rw [Lx.1]) dL_law__981 ?_
    refine g_iload C 0 dL_law__982 rfl ?_
    refine g_i2l C dL_law__984 ?_
    refine g_lcmp C dL_law__985 ?_
    rw [Sx_o (f := (fun v => v)) (o := o) (by decide) he h0, lg_cmp_self]
    refine g_if_eq C 991 dL_law__986 (by decide) (fun _ => ?_) (fun h => absurd rfl h)
    refine g_goto C 3251 dL_law__991 (by decide) ?_
    refine G.sub [2, 3, 4, 5, 6] rfl ?_
    exact K _ _ _ hR2
/-! case 12 -/
theorem dL_law__994 : decode cL_law_ 994 = .ok (.aload_n 1, 1) := by decide +kernel
theorem dL_law__995 : decode cL_law_ 995 = .ok (.aload_n 0, 1) := by decide +kernel
theorem dL_law__996 : decode cL_law_ 996 = .ok (.iload 4, 2) := by decide +kernel
theorem dL_law__998 : decode cL_law_ 998 = .ok (.iconst 1, 1) := by decide +kernel
theorem dL_law__999 : decode cL_law_ 999 = .ok (.iadd, 1) := by decide +kernel
theorem dL_law__1000 : decode cL_law_ 1000 = .ok (.iaload, 1) := by decide +kernel
theorem dL_law__1001 : decode cL_law_ 1001 = .ok (.aload_n 0, 1) := by decide +kernel
theorem dL_law__1002 : decode cL_law_ 1002 = .ok (.iload 4, 2) := by decide +kernel
theorem dL_law__1004 : decode cL_law_ 1004 = .ok (.iconst 2, 1) := by decide +kernel
theorem dL_law__1005 : decode cL_law_ 1005 = .ok (.iadd, 1) := by decide +kernel
theorem dL_law__1006 : decode cL_law_ 1006 = .ok (.iaload, 1) := by decide +kernel
theorem dL_law__1007 : decode cL_law_ 1007 = .ok (.aload_n 3, 1) := by decide +kernel
theorem w_6_123 : Cond.codeWith ({ cls := "LastLoafLaw", name := "join", desc := "(LLastLoaf;II[J)I" } : MethodName) method_12_code (5 : Nat) (Option.some ClassFile.FieldType.int) [((0 : Nat), (10 : Nat), (13 : Nat), (24 : Nat))] ∈ TB := tb_in (lwt_6 (List.mem_of_getElem? (i := 123) (by decide +kernel))) rfl
theorem w_6_121 : Cond.methodLink "LastLoafLaw" (198 : Nat) ({ cls := "LastLoafLaw", name := "join", desc := "(LLastLoaf;II[J)I" } : MethodName) ∈ TB := tb_in (lwt_6 (List.mem_of_getElem? (i := 121) (by decide +kernel))) rfl
theorem w_6_122 : Cond.static ({ cls := "LastLoafLaw", name := "join", desc := "(LLastLoaf;II[J)I" } : MethodName) ∈ TB := tb_in (lwt_6 (List.mem_of_getElem? (i := 122) (by decide +kernel))) rfl
theorem dL_law__1008 : decode cL_law_ 1008 = .ok (.invokestatic 198, 3) := by decide +kernel
theorem dL_law__1011 : decode cL_law_ 1011 = .ok (.istore 5, 2) := by decide +kernel
theorem dL_law__1013 : decode cL_law_ 1013 = .ok (.aload_n 2, 1) := by decide +kernel
theorem dL_law__1014 : decode cL_law_ 1014 = .ok (.aload_n 0, 1) := by decide +kernel
theorem dL_law__1015 : decode cL_law_ 1015 = .ok (.iload 4, 2) := by decide +kernel
theorem dL_law__1017 : decode cL_law_ 1017 = .ok (.iconst 1, 1) := by decide +kernel
theorem dL_law__1018 : decode cL_law_ 1018 = .ok (.iadd, 1) := by decide +kernel
theorem dL_law__1019 : decode cL_law_ 1019 = .ok (.iaload, 1) := by decide +kernel
theorem dL_law__1020 : decode cL_law_ 1020 = .ok (.aload_n 0, 1) := by decide +kernel
theorem dL_law__1021 : decode cL_law_ 1021 = .ok (.iload 4, 2) := by decide +kernel
theorem dL_law__1023 : decode cL_law_ 1023 = .ok (.iconst 2, 1) := by decide +kernel
theorem dL_law__1024 : decode cL_law_ 1024 = .ok (.iadd, 1) := by decide +kernel
theorem dL_law__1025 : decode cL_law_ 1025 = .ok (.iaload, 1) := by decide +kernel
theorem w_9_221 : Cond.selects "LastLoafModel" ({ cls := "LastLoafModel", name := "join", desc := "(II)I" } : MethodName) ({ cls := "LastLoafModel", name := "join", desc := "(II)I" } : MethodName) ∈ TB := tb_in (lwt_9 (List.mem_of_getElem? (i := 221) (by decide +kernel))) rfl
theorem w_9_222 : Cond.code ({ cls := "LastLoafModel", name := "join", desc := "(II)I" } : MethodName) prog_14_method_77_code (3 : Nat) (Option.some ClassFile.FieldType.int) ∈ TB := tb_in (lwt_9 (List.mem_of_getElem? (i := 222) (by decide +kernel))) rfl
theorem w_9_219 : Cond.methodLink "LastLoafLaw" (200 : Nat) ({ cls := "LastLoafModel", name := "join", desc := "(II)I" } : MethodName) ∈ TB := tb_in (lwt_9 (List.mem_of_getElem? (i := 219) (by decide +kernel))) rfl
theorem w_9_220 : Cond.instanceMethod ({ cls := "LastLoafModel", name := "join", desc := "(II)I" } : MethodName) ∈ TB := tb_in (lwt_9 (List.mem_of_getElem? (i := 220) (by decide +kernel))) rfl
theorem dL_law__1026 : decode cL_law_ 1026 = .ok (.invokevirtual 200, 3) := by decide +kernel
theorem dL_law__1029 : decode cL_law_ 1029 = .ok (.istore 6, 2) := by decide +kernel
theorem dL_law__1031 : decode cL_law_ 1031 = .ok (.aload_n 2, 1) := by decide +kernel
theorem dL_law__1032 : decode cL_law_ 1032 = .ok (.invokevirtual 163, 3) := by decide +kernel
theorem dL_law__1035 : decode cL_law_ 1035 = .ok (.iload 5, 2) := by decide +kernel
theorem dL_law__1037 : decode cL_law_ 1037 = .ok (.if_icmp .eq 5, 3) := by decide +kernel
theorem dL_law__1042 : decode cL_law_ 1042 = .ok (.iload 5, 2) := by decide +kernel
theorem dL_law__1044 : decode cL_law_ 1044 = .ok (.ifCond .ne 15, 3) := by decide +kernel
theorem dL_law__1059 : decode cL_law_ 1059 = .ok (.goto 2192, 3) := by decide +kernel
theorem dL_law__1047 : decode cL_law_ 1047 = .ok (.aload_n 3, 1) := by decide +kernel
theorem dL_law__1048 : decode cL_law_ 1048 = .ok (.iconst 0, 1) := by decide +kernel
theorem dL_law__1049 : decode cL_law_ 1049 = .ok (.laload, 1) := by decide +kernel
theorem dL_law__1050 : decode cL_law_ 1050 = .ok (.iload 6, 2) := by decide +kernel
theorem dL_law__1052 : decode cL_law_ 1052 = .ok (.i2l, 1) := by decide +kernel
theorem dL_law__1053 : decode cL_law_ 1053 = .ok (.lcmp, 1) := by decide +kernel
theorem dL_law__1054 : decode cL_law_ 1054 = .ok (.ifCond .eq 5, 3) := by decide +kernel
def Op_join (RR : St → St → Prop) : Prop := ∀ (σ μ : St), RR σ μ → ∀ (a0 : Int32) (a1 : Int32), ∃ (r1 : Sum Nat Int32 × St) (r2 : Int32 × St), q11_join σ a0 a1 = some r1 ∧ q12_join μ a0 a1 = some r2 ∧ Sx [2] r1 r2 ∧ RR r1.2 r2.2
set_option maxHeartbeats 4000000 in
set_option maxRecDepth 100000 in
theorem law_12 {RR : St → St → Prop} (hop : Op_join RR) {Θ : Tz} {cJ : ClassId} {Q : State → Prop} {w : Wp} {aM : Nat → Nat} {ao b L : Nat} {xs : Nat → Int32} (C : Gc Θ cL_law_ 7 RL (some .boolean) room_1 cJ) (hlt : Θ.1.2.1.stackTraces = false) (Lx : Lq Θ w aM ao) (S : Ls Θ b L xs) {σ μ : St} {o : Int64} {i kc ks : Nat} (hi : i + 6 ≤ L) (hk : kc + 4 ≤ 601024 ∧ ks + 24 ≤ 7293034) (hR : RR σ μ) (K : ∀ σ' μ' o', RR σ' μ' → G Θ 7 (kc + 4) (ks + 24) Q (LPx w aM ao cJ σ' μ' o') 3251 (llv w aM ao b i) []) : G Θ 7 kc ks Q (LPx w aM ao cJ σ μ o) 994 (llv w aM ao b i) [] := by
  obtain ⟨r1, r2, h1, h2, he, hR2⟩ := hop σ μ hR (xs (i + 1)) (xs (i + 2))
  refine g_aload_n C 1 dL_law__994 rfl rfl ?_
  refine l_arg C S 0 4 1 rfl rfl (by omega) rfl dL_law__995 dL_law__996 dL_law__998 dL_law__999 dL_law__1000 ?_
  refine l_arg C S 0 4 2 rfl rfl (by omega) rfl dL_law__1001 dL_law__1002 dL_law__1004 dL_law__1005 dL_law__1006 ?_
  refine g_aload_n C 3 dL_law__1007 rfl rfl ?_
  refine l_callW C Lx [.ref (w.2.2.1 0), .int (xs (i + 1)), .int (xs (i + 2)), .ref ao] 4 (wr_join (l := Θ.1.2.1) Lx.2.1 hlt Lx.2.2.2.2.2.2.2.1 h1 (Sx_in he)) w_6_123 w_6_121 w_6_122 w_1_0 ⟨rfl, rfl, (Nat.le_of_ble_eq_true rfl), (Nat.le_of_ble_eq_true rfl)⟩ (by decide +kernel) rfl rfl (Nat.le_of_ble_eq_true rfl) hk dL_law__1008 ?_
  refine g_istore C dL_law__1011 (Nat.le_of_ble_eq_true rfl) rfl ?_
  refine g_aload_n C 3 dL_law__1013 rfl rfl ?_
  refine l_arg C S 1 5 1 rfl rfl (by omega) rfl dL_law__1014 dL_law__1015 dL_law__1017 dL_law__1018 dL_law__1019 ?_
  refine l_arg C S 1 5 2 rfl rfl (by omega) rfl dL_law__1020 dL_law__1021 dL_law__1023 dL_law__1024 dL_law__1025 ?_
  refine l_callMi C Lx [.int (xs (i + 1)), .int (xs (i + 2))] r2.1 r2.2 2 rfl (c12_join (l := Θ.1.2.1) (w := wm w aM) (p_a := (xs (i + 1))) (party_a := (xs (i + 2))) rfl Lx.2.2.1 h2) w_9_222 w_9_219 w_9_220 w_9_221 w_1_14 ⟨rfl, rfl, (Nat.le_of_ble_eq_true rfl), (Nat.le_of_ble_eq_true rfl)⟩ (by decide +kernel) rfl rfl (Nat.le_of_ble_eq_true rfl) hk dL_law__1026 ?_
  refine g_istore C dL_law__1029 (Nat.le_of_ble_eq_true rfl) rfl ?_
  refine g_aload_n C 4 dL_law__1031 rfl rfl ?_
  refine l_callMi C Lx [] (q12_thrown r2.2) r2.2 0 rfl (c12_thrown (l := Θ.1.2.1) (w := wm w aM) rfl Lx.2.2.1) w_8_130 w_8_127 w_8_128 w_8_129 w_1_14 ⟨rfl, rfl, (Nat.le_of_ble_eq_true rfl), (Nat.le_of_ble_eq_true rfl)⟩ (by decide +kernel) rfl rfl (Nat.le_of_ble_eq_true rfl) hk dL_law__1032 ?_
  refine g_iload C 1 dL_law__1035 rfl ?_
  refine g_icmp_eq C 1042 dL_law__1037 (by decide) (fun _ => ?_) (fun h => absurd (Sx_k he) h)
  refine g_iload C 1 dL_law__1042 rfl ?_
  refine g_if_ne C 1059 dL_law__1044 (by decide) (fun _ => ?_) (fun h0 => ?_)
  · refine g_goto C 3251 dL_law__1059 (by decide) ?_
    refine G.sub [2, 3, 4, 5, 6] rfl ?_
    exact K _ _ _ hR2
  · refine g_aload_n C 5 dL_law__1047 rfl rfl ?_
    refine g_iconst (v := 0) C dL_law__1048 rfl ?_
    refine l_lald C (by rw [Lx.1]) dL_law__1049 ?_
    refine g_iload C 0 dL_law__1050 rfl ?_
    refine g_i2l C dL_law__1052 ?_
    refine g_lcmp C dL_law__1053 ?_
    rw [Sx_o (f := (fun v => v)) (o := o) (by decide) he h0, lg_cmp_self]
    refine g_if_eq C 1059 dL_law__1054 (by decide) (fun _ => ?_) (fun h => absurd rfl h)
    refine g_goto C 3251 dL_law__1059 (by decide) ?_
    refine G.sub [2, 3, 4, 5, 6] rfl ?_
    exact K _ _ _ hR2
/-! case 13 -/
theorem dL_law__1062 : decode cL_law_ 1062 = .ok (.aload_n 1, 1) := by decide +kernel
theorem dL_law__1063 : decode cL_law_ 1063 = .ok (.aload_n 0, 1) := by decide +kernel
theorem dL_law__1064 : decode cL_law_ 1064 = .ok (.iload 4, 2) := by decide +kernel
theorem dL_law__1066 : decode cL_law_ 1066 = .ok (.iconst 1, 1) := by decide +kernel
theorem dL_law__1067 : decode cL_law_ 1067 = .ok (.iadd, 1) := by decide +kernel
theorem dL_law__1068 : decode cL_law_ 1068 = .ok (.iaload, 1) := by decide +kernel
theorem dL_law__1069 : decode cL_law_ 1069 = .ok (.aload_n 3, 1) := by decide +kernel
theorem w_6_134 : Cond.codeWith ({ cls := "LastLoafLaw", name := "bring", desc := "(LLastLoaf;I[J)I" } : MethodName) method_13_code (4 : Nat) (Option.some ClassFile.FieldType.int) [((0 : Nat), (9 : Nat), (12 : Nat), (13 : Nat))] ∈ TB := tb_in (lwt_6 (List.mem_of_getElem? (i := 134) (by decide +kernel))) rfl
theorem w_6_132 : Cond.methodLink "LastLoafLaw" (201 : Nat) ({ cls := "LastLoafLaw", name := "bring", desc := "(LLastLoaf;I[J)I" } : MethodName) ∈ TB := tb_in (lwt_6 (List.mem_of_getElem? (i := 132) (by decide +kernel))) rfl
theorem w_6_133 : Cond.static ({ cls := "LastLoafLaw", name := "bring", desc := "(LLastLoaf;I[J)I" } : MethodName) ∈ TB := tb_in (lwt_6 (List.mem_of_getElem? (i := 133) (by decide +kernel))) rfl
theorem dL_law__1070 : decode cL_law_ 1070 = .ok (.invokestatic 201, 3) := by decide +kernel
theorem dL_law__1073 : decode cL_law_ 1073 = .ok (.istore 5, 2) := by decide +kernel
theorem dL_law__1075 : decode cL_law_ 1075 = .ok (.aload_n 2, 1) := by decide +kernel
theorem dL_law__1076 : decode cL_law_ 1076 = .ok (.aload_n 0, 1) := by decide +kernel
theorem dL_law__1077 : decode cL_law_ 1077 = .ok (.iload 4, 2) := by decide +kernel
theorem dL_law__1079 : decode cL_law_ 1079 = .ok (.iconst 1, 1) := by decide +kernel
theorem dL_law__1080 : decode cL_law_ 1080 = .ok (.iadd, 1) := by decide +kernel
theorem dL_law__1081 : decode cL_law_ 1081 = .ok (.iaload, 1) := by decide +kernel
theorem w_9_225 : Cond.selects "LastLoafModel" ({ cls := "LastLoafModel", name := "bring", desc := "(I)I" } : MethodName) ({ cls := "LastLoafModel", name := "bring", desc := "(I)I" } : MethodName) ∈ TB := tb_in (lwt_9 (List.mem_of_getElem? (i := 225) (by decide +kernel))) rfl
theorem w_9_226 : Cond.code ({ cls := "LastLoafModel", name := "bring", desc := "(I)I" } : MethodName) prog_14_method_78_code (3 : Nat) (Option.some ClassFile.FieldType.int) ∈ TB := tb_in (lwt_9 (List.mem_of_getElem? (i := 226) (by decide +kernel))) rfl
theorem w_9_223 : Cond.methodLink "LastLoafLaw" (203 : Nat) ({ cls := "LastLoafModel", name := "bring", desc := "(I)I" } : MethodName) ∈ TB := tb_in (lwt_9 (List.mem_of_getElem? (i := 223) (by decide +kernel))) rfl
theorem w_9_224 : Cond.instanceMethod ({ cls := "LastLoafModel", name := "bring", desc := "(I)I" } : MethodName) ∈ TB := tb_in (lwt_9 (List.mem_of_getElem? (i := 224) (by decide +kernel))) rfl
theorem dL_law__1082 : decode cL_law_ 1082 = .ok (.invokevirtual 203, 3) := by decide +kernel
theorem dL_law__1085 : decode cL_law_ 1085 = .ok (.istore 6, 2) := by decide +kernel
theorem dL_law__1087 : decode cL_law_ 1087 = .ok (.aload_n 2, 1) := by decide +kernel
theorem dL_law__1088 : decode cL_law_ 1088 = .ok (.invokevirtual 163, 3) := by decide +kernel
theorem dL_law__1091 : decode cL_law_ 1091 = .ok (.iload 5, 2) := by decide +kernel
theorem dL_law__1093 : decode cL_law_ 1093 = .ok (.if_icmp .eq 5, 3) := by decide +kernel
theorem dL_law__1098 : decode cL_law_ 1098 = .ok (.iload 5, 2) := by decide +kernel
theorem dL_law__1100 : decode cL_law_ 1100 = .ok (.ifCond .ne 15, 3) := by decide +kernel
theorem dL_law__1115 : decode cL_law_ 1115 = .ok (.goto 2136, 3) := by decide +kernel
theorem dL_law__1103 : decode cL_law_ 1103 = .ok (.aload_n 3, 1) := by decide +kernel
theorem dL_law__1104 : decode cL_law_ 1104 = .ok (.iconst 0, 1) := by decide +kernel
theorem dL_law__1105 : decode cL_law_ 1105 = .ok (.laload, 1) := by decide +kernel
theorem dL_law__1106 : decode cL_law_ 1106 = .ok (.iload 6, 2) := by decide +kernel
theorem dL_law__1108 : decode cL_law_ 1108 = .ok (.i2l, 1) := by decide +kernel
theorem dL_law__1109 : decode cL_law_ 1109 = .ok (.lcmp, 1) := by decide +kernel
theorem dL_law__1110 : decode cL_law_ 1110 = .ok (.ifCond .eq 5, 3) := by decide +kernel
def Op_bring (RR : St → St → Prop) : Prop := ∀ (σ μ : St), RR σ μ → ∀ (a0 : Int32), ∃ (r1 : Sum Nat Int32 × St) (r2 : Int32 × St), q11_bring σ a0 = some r1 ∧ q12_bring μ a0 = some r2 ∧ Sx [0] r1 r2 ∧ RR r1.2 r2.2
set_option maxHeartbeats 4000000 in
set_option maxRecDepth 100000 in
theorem law_13 {RR : St → St → Prop} (hop : Op_bring RR) {Θ : Tz} {cJ : ClassId} {Q : State → Prop} {w : Wp} {aM : Nat → Nat} {ao b L : Nat} {xs : Nat → Int32} (C : Gc Θ cL_law_ 7 RL (some .boolean) room_1 cJ) (hlt : Θ.1.2.1.stackTraces = false) (Lx : Lq Θ w aM ao) (S : Ls Θ b L xs) {σ μ : St} {o : Int64} {i kc ks : Nat} (hi : i + 6 ≤ L) (hk : kc + 4 ≤ 601024 ∧ ks + 24 ≤ 7293034) (hR : RR σ μ) (K : ∀ σ' μ' o', RR σ' μ' → G Θ 7 (kc + 4) (ks + 24) Q (LPx w aM ao cJ σ' μ' o') 3251 (llv w aM ao b i) []) : G Θ 7 kc ks Q (LPx w aM ao cJ σ μ o) 1062 (llv w aM ao b i) [] := by
  obtain ⟨r1, r2, h1, h2, he, hR2⟩ := hop σ μ hR (xs (i + 1))
  refine g_aload_n C 1 dL_law__1062 rfl rfl ?_
  refine l_arg C S 0 4 1 rfl rfl (by omega) rfl dL_law__1063 dL_law__1064 dL_law__1066 dL_law__1067 dL_law__1068 ?_
  refine g_aload_n C 3 dL_law__1069 rfl rfl ?_
  refine l_callW C Lx [.ref (w.2.2.1 0), .int (xs (i + 1)), .ref ao] 3 (wr_bring (l := Θ.1.2.1) Lx.2.1 hlt Lx.2.2.2.2.2.2.2.1 h1 (Sx_in he)) w_6_134 w_6_132 w_6_133 w_1_0 ⟨rfl, rfl, (Nat.le_of_ble_eq_true rfl), (Nat.le_of_ble_eq_true rfl)⟩ (by decide +kernel) rfl rfl (Nat.le_of_ble_eq_true rfl) hk dL_law__1070 ?_
  refine g_istore C dL_law__1073 (Nat.le_of_ble_eq_true rfl) rfl ?_
  refine g_aload_n C 3 dL_law__1075 rfl rfl ?_
  refine l_arg C S 1 5 1 rfl rfl (by omega) rfl dL_law__1076 dL_law__1077 dL_law__1079 dL_law__1080 dL_law__1081 ?_
  refine l_callMi C Lx [.int (xs (i + 1))] r2.1 r2.2 1 rfl (c12_bring (l := Θ.1.2.1) (w := wm w aM) (n_a := (xs (i + 1))) rfl Lx.2.2.1 h2) w_9_226 w_9_223 w_9_224 w_9_225 w_1_14 ⟨rfl, rfl, (Nat.le_of_ble_eq_true rfl), (Nat.le_of_ble_eq_true rfl)⟩ (by decide +kernel) rfl rfl (Nat.le_of_ble_eq_true rfl) hk dL_law__1082 ?_
  refine g_istore C dL_law__1085 (Nat.le_of_ble_eq_true rfl) rfl ?_
  refine g_aload_n C 4 dL_law__1087 rfl rfl ?_
  refine l_callMi C Lx [] (q12_thrown r2.2) r2.2 0 rfl (c12_thrown (l := Θ.1.2.1) (w := wm w aM) rfl Lx.2.2.1) w_8_130 w_8_127 w_8_128 w_8_129 w_1_14 ⟨rfl, rfl, (Nat.le_of_ble_eq_true rfl), (Nat.le_of_ble_eq_true rfl)⟩ (by decide +kernel) rfl rfl (Nat.le_of_ble_eq_true rfl) hk dL_law__1088 ?_
  refine g_iload C 1 dL_law__1091 rfl ?_
  refine g_icmp_eq C 1098 dL_law__1093 (by decide) (fun _ => ?_) (fun h => absurd (Sx_k he) h)
  refine g_iload C 1 dL_law__1098 rfl ?_
  refine g_if_ne C 1115 dL_law__1100 (by decide) (fun _ => ?_) (fun h0 => ?_)
  · refine g_goto C 3251 dL_law__1115 (by decide) ?_
    refine G.sub [2, 3, 4, 5, 6] rfl ?_
    exact K _ _ _ hR2
  · refine g_aload_n C 5 dL_law__1103 rfl rfl ?_
    refine g_iconst (v := 0) C dL_law__1104 rfl ?_
    refine l_lald C (by rw [Lx.1]) dL_law__1105 ?_
    refine g_iload C 0 dL_law__1106 rfl ?_
    refine g_i2l C dL_law__1108 ?_
    refine g_lcmp C dL_law__1109 ?_
    rw [Sx_o (f := (fun v => v)) (o := o) (by decide) he h0, lg_cmp_self]
    refine g_if_eq C 1115 dL_law__1110 (by decide) (fun _ => ?_) (fun h => absurd rfl h)
    refine g_goto C 3251 dL_law__1115 (by decide) ?_
    refine G.sub [2, 3, 4, 5, 6] rfl ?_
    exact K _ _ _ hR2
/-! case 14 -/
theorem dL_law__1118 : decode cL_law_ 1118 = .ok (.aload_n 1, 1) := by decide +kernel
theorem dL_law__1119 : decode cL_law_ 1119 = .ok (.aload_n 0, 1) := by decide +kernel
theorem dL_law__1120 : decode cL_law_ 1120 = .ok (.iload 4, 2) := by decide +kernel
theorem dL_law__1122 : decode cL_law_ 1122 = .ok (.iconst 1, 1) := by decide +kernel
theorem dL_law__1123 : decode cL_law_ 1123 = .ok (.iadd, 1) := by decide +kernel
theorem dL_law__1124 : decode cL_law_ 1124 = .ok (.iaload, 1) := by decide +kernel
theorem dL_law__1125 : decode cL_law_ 1125 = .ok (.aload_n 3, 1) := by decide +kernel
theorem w_6_142 : Cond.codeWith ({ cls := "LastLoafLaw", name := "way", desc := "(LLastLoaf;I[J)I" } : MethodName) method_14_code (4 : Nat) (Option.some ClassFile.FieldType.int) [((0 : Nat), (9 : Nat), (12 : Nat), (13 : Nat))] ∈ TB := tb_in (lwt_6 (List.mem_of_getElem? (i := 142) (by decide +kernel))) rfl
theorem w_6_140 : Cond.methodLink "LastLoafLaw" (204 : Nat) ({ cls := "LastLoafLaw", name := "way", desc := "(LLastLoaf;I[J)I" } : MethodName) ∈ TB := tb_in (lwt_6 (List.mem_of_getElem? (i := 140) (by decide +kernel))) rfl
theorem w_6_141 : Cond.static ({ cls := "LastLoafLaw", name := "way", desc := "(LLastLoaf;I[J)I" } : MethodName) ∈ TB := tb_in (lwt_6 (List.mem_of_getElem? (i := 141) (by decide +kernel))) rfl
theorem dL_law__1126 : decode cL_law_ 1126 = .ok (.invokestatic 204, 3) := by decide +kernel
theorem dL_law__1129 : decode cL_law_ 1129 = .ok (.istore 5, 2) := by decide +kernel
theorem dL_law__1131 : decode cL_law_ 1131 = .ok (.aload_n 2, 1) := by decide +kernel
theorem dL_law__1132 : decode cL_law_ 1132 = .ok (.aload_n 0, 1) := by decide +kernel
theorem dL_law__1133 : decode cL_law_ 1133 = .ok (.iload 4, 2) := by decide +kernel
theorem dL_law__1135 : decode cL_law_ 1135 = .ok (.iconst 1, 1) := by decide +kernel
theorem dL_law__1136 : decode cL_law_ 1136 = .ok (.iadd, 1) := by decide +kernel
theorem dL_law__1137 : decode cL_law_ 1137 = .ok (.iaload, 1) := by decide +kernel
theorem w_9_229 : Cond.selects "LastLoafModel" ({ cls := "LastLoafModel", name := "way", desc := "(I)I" } : MethodName) ({ cls := "LastLoafModel", name := "way", desc := "(I)I" } : MethodName) ∈ TB := tb_in (lwt_9 (List.mem_of_getElem? (i := 229) (by decide +kernel))) rfl
theorem w_9_230 : Cond.code ({ cls := "LastLoafModel", name := "way", desc := "(I)I" } : MethodName) prog_14_method_79_code (2 : Nat) (Option.some ClassFile.FieldType.int) ∈ TB := tb_in (lwt_9 (List.mem_of_getElem? (i := 230) (by decide +kernel))) rfl
theorem w_9_227 : Cond.methodLink "LastLoafLaw" (206 : Nat) ({ cls := "LastLoafModel", name := "way", desc := "(I)I" } : MethodName) ∈ TB := tb_in (lwt_9 (List.mem_of_getElem? (i := 227) (by decide +kernel))) rfl
theorem w_9_228 : Cond.instanceMethod ({ cls := "LastLoafModel", name := "way", desc := "(I)I" } : MethodName) ∈ TB := tb_in (lwt_9 (List.mem_of_getElem? (i := 228) (by decide +kernel))) rfl
theorem dL_law__1138 : decode cL_law_ 1138 = .ok (.invokevirtual 206, 3) := by decide +kernel
theorem dL_law__1141 : decode cL_law_ 1141 = .ok (.istore 6, 2) := by decide +kernel
theorem dL_law__1143 : decode cL_law_ 1143 = .ok (.aload_n 2, 1) := by decide +kernel
theorem dL_law__1144 : decode cL_law_ 1144 = .ok (.invokevirtual 163, 3) := by decide +kernel
theorem dL_law__1147 : decode cL_law_ 1147 = .ok (.iload 5, 2) := by decide +kernel
theorem dL_law__1149 : decode cL_law_ 1149 = .ok (.if_icmp .eq 5, 3) := by decide +kernel
theorem dL_law__1154 : decode cL_law_ 1154 = .ok (.iload 5, 2) := by decide +kernel
theorem dL_law__1156 : decode cL_law_ 1156 = .ok (.ifCond .ne 15, 3) := by decide +kernel
theorem dL_law__1171 : decode cL_law_ 1171 = .ok (.goto 2080, 3) := by decide +kernel
theorem dL_law__1159 : decode cL_law_ 1159 = .ok (.aload_n 3, 1) := by decide +kernel
theorem dL_law__1160 : decode cL_law_ 1160 = .ok (.iconst 0, 1) := by decide +kernel
theorem dL_law__1161 : decode cL_law_ 1161 = .ok (.laload, 1) := by decide +kernel
theorem dL_law__1162 : decode cL_law_ 1162 = .ok (.iload 6, 2) := by decide +kernel
theorem dL_law__1164 : decode cL_law_ 1164 = .ok (.i2l, 1) := by decide +kernel
theorem dL_law__1165 : decode cL_law_ 1165 = .ok (.lcmp, 1) := by decide +kernel
theorem dL_law__1166 : decode cL_law_ 1166 = .ok (.ifCond .eq 5, 3) := by decide +kernel
def Op_way (RR : St → St → Prop) : Prop := ∀ (σ μ : St), RR σ μ → ∀ (a0 : Int32), ∃ (r1 : Sum Nat Int32 × St) (r2 : Int32 × St), q11_way σ a0 = some r1 ∧ q12_way μ a0 = some r2 ∧ Sx [0] r1 r2 ∧ RR r1.2 r2.2
set_option maxHeartbeats 4000000 in
set_option maxRecDepth 100000 in
theorem law_14 {RR : St → St → Prop} (hop : Op_way RR) {Θ : Tz} {cJ : ClassId} {Q : State → Prop} {w : Wp} {aM : Nat → Nat} {ao b L : Nat} {xs : Nat → Int32} (C : Gc Θ cL_law_ 7 RL (some .boolean) room_1 cJ) (hlt : Θ.1.2.1.stackTraces = false) (Lx : Lq Θ w aM ao) (S : Ls Θ b L xs) {σ μ : St} {o : Int64} {i kc ks : Nat} (hi : i + 6 ≤ L) (hk : kc + 4 ≤ 601024 ∧ ks + 24 ≤ 7293034) (hR : RR σ μ) (K : ∀ σ' μ' o', RR σ' μ' → G Θ 7 (kc + 4) (ks + 24) Q (LPx w aM ao cJ σ' μ' o') 3251 (llv w aM ao b i) []) : G Θ 7 kc ks Q (LPx w aM ao cJ σ μ o) 1118 (llv w aM ao b i) [] := by
  obtain ⟨r1, r2, h1, h2, he, hR2⟩ := hop σ μ hR (xs (i + 1))
  refine g_aload_n C 1 dL_law__1118 rfl rfl ?_
  refine l_arg C S 0 4 1 rfl rfl (by omega) rfl dL_law__1119 dL_law__1120 dL_law__1122 dL_law__1123 dL_law__1124 ?_
  refine g_aload_n C 3 dL_law__1125 rfl rfl ?_
  refine l_callW C Lx [.ref (w.2.2.1 0), .int (xs (i + 1)), .ref ao] 3 (wr_way (l := Θ.1.2.1) Lx.2.1 hlt Lx.2.2.2.2.2.2.2.1 h1 (Sx_in he)) w_6_142 w_6_140 w_6_141 w_1_0 ⟨rfl, rfl, (Nat.le_of_ble_eq_true rfl), (Nat.le_of_ble_eq_true rfl)⟩ (by decide +kernel) rfl rfl (Nat.le_of_ble_eq_true rfl) hk dL_law__1126 ?_
  refine g_istore C dL_law__1129 (Nat.le_of_ble_eq_true rfl) rfl ?_
  refine g_aload_n C 3 dL_law__1131 rfl rfl ?_
  refine l_arg C S 1 5 1 rfl rfl (by omega) rfl dL_law__1132 dL_law__1133 dL_law__1135 dL_law__1136 dL_law__1137 ?_
  refine l_callMi C Lx [.int (xs (i + 1))] r2.1 r2.2 1 rfl (c12_way (l := Θ.1.2.1) (w := wm w aM) (n_a := (xs (i + 1))) rfl Lx.2.2.1 h2) w_9_230 w_9_227 w_9_228 w_9_229 w_1_14 ⟨rfl, rfl, (Nat.le_of_ble_eq_true rfl), (Nat.le_of_ble_eq_true rfl)⟩ (by decide +kernel) rfl rfl (Nat.le_of_ble_eq_true rfl) hk dL_law__1138 ?_
  refine g_istore C dL_law__1141 (Nat.le_of_ble_eq_true rfl) rfl ?_
  refine g_aload_n C 4 dL_law__1143 rfl rfl ?_
  refine l_callMi C Lx [] (q12_thrown r2.2) r2.2 0 rfl (c12_thrown (l := Θ.1.2.1) (w := wm w aM) rfl Lx.2.2.1) w_8_130 w_8_127 w_8_128 w_8_129 w_1_14 ⟨rfl, rfl, (Nat.le_of_ble_eq_true rfl), (Nat.le_of_ble_eq_true rfl)⟩ (by decide +kernel) rfl rfl (Nat.le_of_ble_eq_true rfl) hk dL_law__1144 ?_
  refine g_iload C 1 dL_law__1147 rfl ?_
  refine g_icmp_eq C 1154 dL_law__1149 (by decide) (fun _ => ?_) (fun h => absurd (Sx_k he) h)
  refine g_iload C 1 dL_law__1154 rfl ?_
  refine g_if_ne C 1171 dL_law__1156 (by decide) (fun _ => ?_) (fun h0 => ?_)
  · refine g_goto C 3251 dL_law__1171 (by decide) ?_
    refine G.sub [2, 3, 4, 5, 6] rfl ?_
    exact K _ _ _ hR2
  · refine g_aload_n C 5 dL_law__1159 rfl rfl ?_
    refine g_iconst (v := 0) C dL_law__1160 rfl ?_
    refine l_lald C (by rw [Lx.1]) dL_law__1161 ?_
    refine g_iload C 0 dL_law__1162 rfl ?_
    refine g_i2l C dL_law__1164 ?_
    refine g_lcmp C dL_law__1165 ?_
    rw [Sx_o (f := (fun v => v)) (o := o) (by decide) he h0, lg_cmp_self]
    refine g_if_eq C 1171 dL_law__1166 (by decide) (fun _ => ?_) (fun h => absurd rfl h)
    refine g_goto C 3251 dL_law__1171 (by decide) ?_
    refine G.sub [2, 3, 4, 5, 6] rfl ?_
    exact K _ _ _ hR2
/-! case 15 -/
theorem dL_law__1174 : decode cL_law_ 1174 = .ok (.aload_n 1, 1) := by decide +kernel
theorem dL_law__1175 : decode cL_law_ 1175 = .ok (.aload_n 0, 1) := by decide +kernel
theorem dL_law__1176 : decode cL_law_ 1176 = .ok (.iload 4, 2) := by decide +kernel
theorem dL_law__1178 : decode cL_law_ 1178 = .ok (.iconst 1, 1) := by decide +kernel
theorem dL_law__1179 : decode cL_law_ 1179 = .ok (.iadd, 1) := by decide +kernel
theorem dL_law__1180 : decode cL_law_ 1180 = .ok (.iaload, 1) := by decide +kernel
theorem dL_law__1181 : decode cL_law_ 1181 = .ok (.aload_n 0, 1) := by decide +kernel
theorem dL_law__1182 : decode cL_law_ 1182 = .ok (.iload 4, 2) := by decide +kernel
theorem dL_law__1184 : decode cL_law_ 1184 = .ok (.iconst 2, 1) := by decide +kernel
theorem dL_law__1185 : decode cL_law_ 1185 = .ok (.iadd, 1) := by decide +kernel
theorem dL_law__1186 : decode cL_law_ 1186 = .ok (.iaload, 1) := by decide +kernel
theorem dL_law__1187 : decode cL_law_ 1187 = .ok (.aload_n 3, 1) := by decide +kernel
theorem w_6_149 : Cond.codeWith ({ cls := "LastLoafLaw", name := "pass", desc := "(LLastLoaf;II[J)I" } : MethodName) method_15_code (5 : Nat) (Option.some ClassFile.FieldType.int) [((0 : Nat), (10 : Nat), (13 : Nat), (24 : Nat)), ((0 : Nat), (10 : Nat), (17 : Nat), (13 : Nat)), ((0 : Nat), (10 : Nat), (21 : Nat), (45 : Nat))] ∈ TB := tb_in (lwt_6 (List.mem_of_getElem? (i := 149) (by decide +kernel))) rfl
theorem w_6_147 : Cond.methodLink "LastLoafLaw" (207 : Nat) ({ cls := "LastLoafLaw", name := "pass", desc := "(LLastLoaf;II[J)I" } : MethodName) ∈ TB := tb_in (lwt_6 (List.mem_of_getElem? (i := 147) (by decide +kernel))) rfl
theorem w_6_148 : Cond.static ({ cls := "LastLoafLaw", name := "pass", desc := "(LLastLoaf;II[J)I" } : MethodName) ∈ TB := tb_in (lwt_6 (List.mem_of_getElem? (i := 148) (by decide +kernel))) rfl
theorem dL_law__1188 : decode cL_law_ 1188 = .ok (.invokestatic 207, 3) := by decide +kernel
theorem dL_law__1191 : decode cL_law_ 1191 = .ok (.istore 5, 2) := by decide +kernel
theorem dL_law__1193 : decode cL_law_ 1193 = .ok (.aload_n 2, 1) := by decide +kernel
theorem dL_law__1194 : decode cL_law_ 1194 = .ok (.aload_n 0, 1) := by decide +kernel
theorem dL_law__1195 : decode cL_law_ 1195 = .ok (.iload 4, 2) := by decide +kernel
theorem dL_law__1197 : decode cL_law_ 1197 = .ok (.iconst 1, 1) := by decide +kernel
theorem dL_law__1198 : decode cL_law_ 1198 = .ok (.iadd, 1) := by decide +kernel
theorem dL_law__1199 : decode cL_law_ 1199 = .ok (.iaload, 1) := by decide +kernel
theorem dL_law__1200 : decode cL_law_ 1200 = .ok (.aload_n 0, 1) := by decide +kernel
theorem dL_law__1201 : decode cL_law_ 1201 = .ok (.iload 4, 2) := by decide +kernel
theorem dL_law__1203 : decode cL_law_ 1203 = .ok (.iconst 2, 1) := by decide +kernel
theorem dL_law__1204 : decode cL_law_ 1204 = .ok (.iadd, 1) := by decide +kernel
theorem dL_law__1205 : decode cL_law_ 1205 = .ok (.iaload, 1) := by decide +kernel
theorem w_9_233 : Cond.selects "LastLoafModel" ({ cls := "LastLoafModel", name := "pass", desc := "(II)I" } : MethodName) ({ cls := "LastLoafModel", name := "pass", desc := "(II)I" } : MethodName) ∈ TB := tb_in (lwt_9 (List.mem_of_getElem? (i := 233) (by decide +kernel))) rfl
theorem w_9_234 : Cond.code ({ cls := "LastLoafModel", name := "pass", desc := "(II)I" } : MethodName) prog_14_method_80_code (4 : Nat) (Option.some ClassFile.FieldType.int) ∈ TB := tb_in (lwt_9 (List.mem_of_getElem? (i := 234) (by decide +kernel))) rfl
theorem w_9_231 : Cond.methodLink "LastLoafLaw" (209 : Nat) ({ cls := "LastLoafModel", name := "pass", desc := "(II)I" } : MethodName) ∈ TB := tb_in (lwt_9 (List.mem_of_getElem? (i := 231) (by decide +kernel))) rfl
theorem w_9_232 : Cond.instanceMethod ({ cls := "LastLoafModel", name := "pass", desc := "(II)I" } : MethodName) ∈ TB := tb_in (lwt_9 (List.mem_of_getElem? (i := 232) (by decide +kernel))) rfl
theorem dL_law__1206 : decode cL_law_ 1206 = .ok (.invokevirtual 209, 3) := by decide +kernel
theorem dL_law__1209 : decode cL_law_ 1209 = .ok (.istore 6, 2) := by decide +kernel
theorem dL_law__1211 : decode cL_law_ 1211 = .ok (.aload_n 2, 1) := by decide +kernel
theorem dL_law__1212 : decode cL_law_ 1212 = .ok (.invokevirtual 163, 3) := by decide +kernel
theorem dL_law__1215 : decode cL_law_ 1215 = .ok (.iload 5, 2) := by decide +kernel
theorem dL_law__1217 : decode cL_law_ 1217 = .ok (.if_icmp .eq 5, 3) := by decide +kernel
theorem dL_law__1222 : decode cL_law_ 1222 = .ok (.iload 5, 2) := by decide +kernel
theorem dL_law__1224 : decode cL_law_ 1224 = .ok (.ifCond .ne 15, 3) := by decide +kernel
theorem dL_law__1239 : decode cL_law_ 1239 = .ok (.goto 2012, 3) := by decide +kernel
theorem dL_law__1227 : decode cL_law_ 1227 = .ok (.aload_n 3, 1) := by decide +kernel
theorem dL_law__1228 : decode cL_law_ 1228 = .ok (.iconst 0, 1) := by decide +kernel
theorem dL_law__1229 : decode cL_law_ 1229 = .ok (.laload, 1) := by decide +kernel
theorem dL_law__1230 : decode cL_law_ 1230 = .ok (.iload 6, 2) := by decide +kernel
theorem dL_law__1232 : decode cL_law_ 1232 = .ok (.i2l, 1) := by decide +kernel
theorem dL_law__1233 : decode cL_law_ 1233 = .ok (.lcmp, 1) := by decide +kernel
theorem dL_law__1234 : decode cL_law_ 1234 = .ok (.ifCond .eq 5, 3) := by decide +kernel
def Op_pass (RR : St → St → Prop) : Prop := ∀ (σ μ : St), RR σ μ → ∀ (a0 : Int32) (a1 : Int32), ∃ (r1 : Sum Nat Int32 × St) (r2 : Int32 × St), q11_pass σ a0 a1 = some r1 ∧ q12_pass μ a0 a1 = some r2 ∧ Sx [2, 0, 1] r1 r2 ∧ RR r1.2 r2.2
set_option maxHeartbeats 4000000 in
set_option maxRecDepth 100000 in
theorem law_15 {RR : St → St → Prop} (hop : Op_pass RR) {Θ : Tz} {cJ : ClassId} {Q : State → Prop} {w : Wp} {aM : Nat → Nat} {ao b L : Nat} {xs : Nat → Int32} (C : Gc Θ cL_law_ 7 RL (some .boolean) room_1 cJ) (hlt : Θ.1.2.1.stackTraces = false) (Lx : Lq Θ w aM ao) (S : Ls Θ b L xs) {σ μ : St} {o : Int64} {i kc ks : Nat} (hi : i + 6 ≤ L) (hk : kc + 4 ≤ 601024 ∧ ks + 24 ≤ 7293034) (hR : RR σ μ) (K : ∀ σ' μ' o', RR σ' μ' → G Θ 7 (kc + 4) (ks + 24) Q (LPx w aM ao cJ σ' μ' o') 3251 (llv w aM ao b i) []) : G Θ 7 kc ks Q (LPx w aM ao cJ σ μ o) 1174 (llv w aM ao b i) [] := by
  obtain ⟨r1, r2, h1, h2, he, hR2⟩ := hop σ μ hR (xs (i + 1)) (xs (i + 2))
  refine g_aload_n C 1 dL_law__1174 rfl rfl ?_
  refine l_arg C S 0 4 1 rfl rfl (by omega) rfl dL_law__1175 dL_law__1176 dL_law__1178 dL_law__1179 dL_law__1180 ?_
  refine l_arg C S 0 4 2 rfl rfl (by omega) rfl dL_law__1181 dL_law__1182 dL_law__1184 dL_law__1185 dL_law__1186 ?_
  refine g_aload_n C 3 dL_law__1187 rfl rfl ?_
  refine l_callW C Lx [.ref (w.2.2.1 0), .int (xs (i + 1)), .int (xs (i + 2)), .ref ao] 4 (wr_pass (l := Θ.1.2.1) Lx.2.1 hlt Lx.2.2.2.2.2.2.2.1 h1 (Sx_in he)) w_6_149 w_6_147 w_6_148 w_1_0 ⟨rfl, rfl, (Nat.le_of_ble_eq_true rfl), (Nat.le_of_ble_eq_true rfl)⟩ (by decide +kernel) rfl rfl (Nat.le_of_ble_eq_true rfl) hk dL_law__1188 ?_
  refine g_istore C dL_law__1191 (Nat.le_of_ble_eq_true rfl) rfl ?_
  refine g_aload_n C 3 dL_law__1193 rfl rfl ?_
  refine l_arg C S 1 5 1 rfl rfl (by omega) rfl dL_law__1194 dL_law__1195 dL_law__1197 dL_law__1198 dL_law__1199 ?_
  refine l_arg C S 1 5 2 rfl rfl (by omega) rfl dL_law__1200 dL_law__1201 dL_law__1203 dL_law__1204 dL_law__1205 ?_
  refine l_callMi C Lx [.int (xs (i + 1)), .int (xs (i + 2))] r2.1 r2.2 2 rfl (c12_pass (l := Θ.1.2.1) (w := wm w aM) (p_a := (xs (i + 1))) (o_a := (xs (i + 2))) rfl Lx.2.2.1 h2) w_9_234 w_9_231 w_9_232 w_9_233 w_1_14 ⟨rfl, rfl, (Nat.le_of_ble_eq_true rfl), (Nat.le_of_ble_eq_true rfl)⟩ (by decide +kernel) rfl rfl (Nat.le_of_ble_eq_true rfl) hk dL_law__1206 ?_
  refine g_istore C dL_law__1209 (Nat.le_of_ble_eq_true rfl) rfl ?_
  refine g_aload_n C 4 dL_law__1211 rfl rfl ?_
  refine l_callMi C Lx [] (q12_thrown r2.2) r2.2 0 rfl (c12_thrown (l := Θ.1.2.1) (w := wm w aM) rfl Lx.2.2.1) w_8_130 w_8_127 w_8_128 w_8_129 w_1_14 ⟨rfl, rfl, (Nat.le_of_ble_eq_true rfl), (Nat.le_of_ble_eq_true rfl)⟩ (by decide +kernel) rfl rfl (Nat.le_of_ble_eq_true rfl) hk dL_law__1212 ?_
  refine g_iload C 1 dL_law__1215 rfl ?_
  refine g_icmp_eq C 1222 dL_law__1217 (by decide) (fun _ => ?_) (fun h => absurd (Sx_k he) h)
  refine g_iload C 1 dL_law__1222 rfl ?_
  refine g_if_ne C 1239 dL_law__1224 (by decide) (fun _ => ?_) (fun h0 => ?_)
  · refine g_goto C 3251 dL_law__1239 (by decide) ?_
    refine G.sub [2, 3, 4, 5, 6] rfl ?_
    exact K _ _ _ hR2
  · refine g_aload_n C 5 dL_law__1227 rfl rfl ?_
    refine g_iconst (v := 0) C dL_law__1228 rfl ?_
    refine l_lald C (by rw [Lx.1]) dL_law__1229 ?_
    refine g_iload C 0 dL_law__1230 rfl ?_
    refine g_i2l C dL_law__1232 ?_
    refine g_lcmp C dL_law__1233 ?_
    rw [Sx_o (f := (fun v => v)) (o := o) (by decide) he h0, lg_cmp_self]
    refine g_if_eq C 1239 dL_law__1234 (by decide) (fun _ => ?_) (fun h => absurd rfl h)
    refine g_goto C 3251 dL_law__1239 (by decide) ?_
    refine G.sub [2, 3, 4, 5, 6] rfl ?_
    exact K _ _ _ hR2
/-! case 16 -/
theorem dL_law__1242 : decode cL_law_ 1242 = .ok (.aload_n 1, 1) := by decide +kernel
theorem dL_law__1243 : decode cL_law_ 1243 = .ok (.aload_n 0, 1) := by decide +kernel
theorem dL_law__1244 : decode cL_law_ 1244 = .ok (.iload 4, 2) := by decide +kernel
theorem dL_law__1246 : decode cL_law_ 1246 = .ok (.iconst 1, 1) := by decide +kernel
theorem dL_law__1247 : decode cL_law_ 1247 = .ok (.iadd, 1) := by decide +kernel
theorem dL_law__1248 : decode cL_law_ 1248 = .ok (.iaload, 1) := by decide +kernel
theorem dL_law__1249 : decode cL_law_ 1249 = .ok (.aload_n 3, 1) := by decide +kernel
theorem w_6_158 : Cond.codeWith ({ cls := "LastLoafLaw", name := "fetch", desc := "(LLastLoaf;I[J)I" } : MethodName) method_16_code (4 : Nat) (Option.some ClassFile.FieldType.int) [((0 : Nat), (9 : Nat), (12 : Nat), (24 : Nat)), ((0 : Nat), (9 : Nat), (15 : Nat), (45 : Nat))] ∈ TB := tb_in (lwt_6 (List.mem_of_getElem? (i := 158) (by decide +kernel))) rfl
theorem w_6_156 : Cond.methodLink "LastLoafLaw" (210 : Nat) ({ cls := "LastLoafLaw", name := "fetch", desc := "(LLastLoaf;I[J)I" } : MethodName) ∈ TB := tb_in (lwt_6 (List.mem_of_getElem? (i := 156) (by decide +kernel))) rfl
theorem w_6_157 : Cond.static ({ cls := "LastLoafLaw", name := "fetch", desc := "(LLastLoaf;I[J)I" } : MethodName) ∈ TB := tb_in (lwt_6 (List.mem_of_getElem? (i := 157) (by decide +kernel))) rfl
theorem dL_law__1250 : decode cL_law_ 1250 = .ok (.invokestatic 210, 3) := by decide +kernel
theorem dL_law__1253 : decode cL_law_ 1253 = .ok (.istore 5, 2) := by decide +kernel
theorem dL_law__1255 : decode cL_law_ 1255 = .ok (.aload_n 2, 1) := by decide +kernel
theorem dL_law__1256 : decode cL_law_ 1256 = .ok (.aload_n 0, 1) := by decide +kernel
theorem dL_law__1257 : decode cL_law_ 1257 = .ok (.iload 4, 2) := by decide +kernel
theorem dL_law__1259 : decode cL_law_ 1259 = .ok (.iconst 1, 1) := by decide +kernel
theorem dL_law__1260 : decode cL_law_ 1260 = .ok (.iadd, 1) := by decide +kernel
theorem dL_law__1261 : decode cL_law_ 1261 = .ok (.iaload, 1) := by decide +kernel
theorem w_9_237 : Cond.selects "LastLoafModel" ({ cls := "LastLoafModel", name := "fetch", desc := "(I)I" } : MethodName) ({ cls := "LastLoafModel", name := "fetch", desc := "(I)I" } : MethodName) ∈ TB := tb_in (lwt_9 (List.mem_of_getElem? (i := 237) (by decide +kernel))) rfl
theorem w_9_238 : Cond.code ({ cls := "LastLoafModel", name := "fetch", desc := "(I)I" } : MethodName) prog_14_method_81_code (3 : Nat) (Option.some ClassFile.FieldType.int) ∈ TB := tb_in (lwt_9 (List.mem_of_getElem? (i := 238) (by decide +kernel))) rfl
theorem w_9_235 : Cond.methodLink "LastLoafLaw" (212 : Nat) ({ cls := "LastLoafModel", name := "fetch", desc := "(I)I" } : MethodName) ∈ TB := tb_in (lwt_9 (List.mem_of_getElem? (i := 235) (by decide +kernel))) rfl
theorem w_9_236 : Cond.instanceMethod ({ cls := "LastLoafModel", name := "fetch", desc := "(I)I" } : MethodName) ∈ TB := tb_in (lwt_9 (List.mem_of_getElem? (i := 236) (by decide +kernel))) rfl
theorem dL_law__1262 : decode cL_law_ 1262 = .ok (.invokevirtual 212, 3) := by decide +kernel
theorem dL_law__1265 : decode cL_law_ 1265 = .ok (.istore 6, 2) := by decide +kernel
theorem dL_law__1267 : decode cL_law_ 1267 = .ok (.aload_n 2, 1) := by decide +kernel
theorem dL_law__1268 : decode cL_law_ 1268 = .ok (.invokevirtual 163, 3) := by decide +kernel
theorem dL_law__1271 : decode cL_law_ 1271 = .ok (.iload 5, 2) := by decide +kernel
theorem dL_law__1273 : decode cL_law_ 1273 = .ok (.if_icmp .eq 5, 3) := by decide +kernel
theorem dL_law__1278 : decode cL_law_ 1278 = .ok (.iload 5, 2) := by decide +kernel
theorem dL_law__1280 : decode cL_law_ 1280 = .ok (.ifCond .ne 15, 3) := by decide +kernel
theorem dL_law__1295 : decode cL_law_ 1295 = .ok (.goto 1956, 3) := by decide +kernel
theorem dL_law__1283 : decode cL_law_ 1283 = .ok (.aload_n 3, 1) := by decide +kernel
theorem dL_law__1284 : decode cL_law_ 1284 = .ok (.iconst 0, 1) := by decide +kernel
theorem dL_law__1285 : decode cL_law_ 1285 = .ok (.laload, 1) := by decide +kernel
theorem dL_law__1286 : decode cL_law_ 1286 = .ok (.iload 6, 2) := by decide +kernel
theorem dL_law__1288 : decode cL_law_ 1288 = .ok (.i2l, 1) := by decide +kernel
theorem dL_law__1289 : decode cL_law_ 1289 = .ok (.lcmp, 1) := by decide +kernel
theorem dL_law__1290 : decode cL_law_ 1290 = .ok (.ifCond .eq 5, 3) := by decide +kernel
def Op_fetch (RR : St → St → Prop) : Prop := ∀ (σ μ : St), RR σ μ → ∀ (a0 : Int32), ∃ (r1 : Sum Nat Int32 × St) (r2 : Int32 × St), q11_fetch σ a0 = some r1 ∧ q12_fetch μ a0 = some r2 ∧ Sx [2, 1] r1 r2 ∧ RR r1.2 r2.2
set_option maxHeartbeats 4000000 in
set_option maxRecDepth 100000 in
theorem law_16 {RR : St → St → Prop} (hop : Op_fetch RR) {Θ : Tz} {cJ : ClassId} {Q : State → Prop} {w : Wp} {aM : Nat → Nat} {ao b L : Nat} {xs : Nat → Int32} (C : Gc Θ cL_law_ 7 RL (some .boolean) room_1 cJ) (hlt : Θ.1.2.1.stackTraces = false) (Lx : Lq Θ w aM ao) (S : Ls Θ b L xs) {σ μ : St} {o : Int64} {i kc ks : Nat} (hi : i + 6 ≤ L) (hk : kc + 4 ≤ 601024 ∧ ks + 24 ≤ 7293034) (hR : RR σ μ) (K : ∀ σ' μ' o', RR σ' μ' → G Θ 7 (kc + 4) (ks + 24) Q (LPx w aM ao cJ σ' μ' o') 3251 (llv w aM ao b i) []) : G Θ 7 kc ks Q (LPx w aM ao cJ σ μ o) 1242 (llv w aM ao b i) [] := by
  obtain ⟨r1, r2, h1, h2, he, hR2⟩ := hop σ μ hR (xs (i + 1))
  refine g_aload_n C 1 dL_law__1242 rfl rfl ?_
  refine l_arg C S 0 4 1 rfl rfl (by omega) rfl dL_law__1243 dL_law__1244 dL_law__1246 dL_law__1247 dL_law__1248 ?_
  refine g_aload_n C 3 dL_law__1249 rfl rfl ?_
  refine l_callW C Lx [.ref (w.2.2.1 0), .int (xs (i + 1)), .ref ao] 3 (wr_fetch (l := Θ.1.2.1) Lx.2.1 hlt Lx.2.2.2.2.2.2.2.1 h1 (Sx_in he)) w_6_158 w_6_156 w_6_157 w_1_0 ⟨rfl, rfl, (Nat.le_of_ble_eq_true rfl), (Nat.le_of_ble_eq_true rfl)⟩ (by decide +kernel) rfl rfl (Nat.le_of_ble_eq_true rfl) hk dL_law__1250 ?_
  refine g_istore C dL_law__1253 (Nat.le_of_ble_eq_true rfl) rfl ?_
  refine g_aload_n C 3 dL_law__1255 rfl rfl ?_
  refine l_arg C S 1 5 1 rfl rfl (by omega) rfl dL_law__1256 dL_law__1257 dL_law__1259 dL_law__1260 dL_law__1261 ?_
  refine l_callMi C Lx [.int (xs (i + 1))] r2.1 r2.2 1 rfl (c12_fetch (l := Θ.1.2.1) (w := wm w aM) (p_a := (xs (i + 1))) rfl Lx.2.2.1 h2) w_9_238 w_9_235 w_9_236 w_9_237 w_1_14 ⟨rfl, rfl, (Nat.le_of_ble_eq_true rfl), (Nat.le_of_ble_eq_true rfl)⟩ (by decide +kernel) rfl rfl (Nat.le_of_ble_eq_true rfl) hk dL_law__1262 ?_
  refine g_istore C dL_law__1265 (Nat.le_of_ble_eq_true rfl) rfl ?_
  refine g_aload_n C 4 dL_law__1267 rfl rfl ?_
  refine l_callMi C Lx [] (q12_thrown r2.2) r2.2 0 rfl (c12_thrown (l := Θ.1.2.1) (w := wm w aM) rfl Lx.2.2.1) w_8_130 w_8_127 w_8_128 w_8_129 w_1_14 ⟨rfl, rfl, (Nat.le_of_ble_eq_true rfl), (Nat.le_of_ble_eq_true rfl)⟩ (by decide +kernel) rfl rfl (Nat.le_of_ble_eq_true rfl) hk dL_law__1268 ?_
  refine g_iload C 1 dL_law__1271 rfl ?_
  refine g_icmp_eq C 1278 dL_law__1273 (by decide) (fun _ => ?_) (fun h => absurd (Sx_k he) h)
  refine g_iload C 1 dL_law__1278 rfl ?_
  refine g_if_ne C 1295 dL_law__1280 (by decide) (fun _ => ?_) (fun h0 => ?_)
  · refine g_goto C 3251 dL_law__1295 (by decide) ?_
    refine G.sub [2, 3, 4, 5, 6] rfl ?_
    exact K _ _ _ hR2
  · refine g_aload_n C 5 dL_law__1283 rfl rfl ?_
    refine g_iconst (v := 0) C dL_law__1284 rfl ?_
    refine l_lald C (by rw [Lx.1]) dL_law__1285 ?_
    refine g_iload C 0 dL_law__1286 rfl ?_
    refine g_i2l C dL_law__1288 ?_
    refine g_lcmp C dL_law__1289 ?_
    rw [Sx_o (f := (fun v => v)) (o := o) (by decide) he h0, lg_cmp_self]
    refine g_if_eq C 1295 dL_law__1290 (by decide) (fun _ => ?_) (fun h => absurd rfl h)
    refine g_goto C 3251 dL_law__1295 (by decide) ?_
    refine G.sub [2, 3, 4, 5, 6] rfl ?_
    exact K _ _ _ hR2
/-! case 17 -/
theorem dL_law__1298 : decode cL_law_ 1298 = .ok (.aload_n 1, 1) := by decide +kernel
theorem dL_law__1299 : decode cL_law_ 1299 = .ok (.aload_n 0, 1) := by decide +kernel
theorem dL_law__1300 : decode cL_law_ 1300 = .ok (.iload 4, 2) := by decide +kernel
theorem dL_law__1302 : decode cL_law_ 1302 = .ok (.iconst 1, 1) := by decide +kernel
theorem dL_law__1303 : decode cL_law_ 1303 = .ok (.iadd, 1) := by decide +kernel
theorem dL_law__1304 : decode cL_law_ 1304 = .ok (.iaload, 1) := by decide +kernel
theorem dL_law__1305 : decode cL_law_ 1305 = .ok (.aload_n 3, 1) := by decide +kernel
theorem w_6_166 : Cond.codeWith ({ cls := "LastLoafLaw", name := "winner", desc := "(LLastLoaf;I[J)I" } : MethodName) method_17_code (4 : Nat) (Option.some ClassFile.FieldType.int) [((0 : Nat), (9 : Nat), (12 : Nat), (13 : Nat))] ∈ TB := tb_in (lwt_6 (List.mem_of_getElem? (i := 166) (by decide +kernel))) rfl
theorem w_6_164 : Cond.methodLink "LastLoafLaw" (213 : Nat) ({ cls := "LastLoafLaw", name := "winner", desc := "(LLastLoaf;I[J)I" } : MethodName) ∈ TB := tb_in (lwt_6 (List.mem_of_getElem? (i := 164) (by decide +kernel))) rfl
theorem w_6_165 : Cond.static ({ cls := "LastLoafLaw", name := "winner", desc := "(LLastLoaf;I[J)I" } : MethodName) ∈ TB := tb_in (lwt_6 (List.mem_of_getElem? (i := 165) (by decide +kernel))) rfl
theorem dL_law__1306 : decode cL_law_ 1306 = .ok (.invokestatic 213, 3) := by decide +kernel
theorem dL_law__1309 : decode cL_law_ 1309 = .ok (.istore 5, 2) := by decide +kernel
theorem dL_law__1311 : decode cL_law_ 1311 = .ok (.aload_n 2, 1) := by decide +kernel
theorem dL_law__1312 : decode cL_law_ 1312 = .ok (.aload_n 0, 1) := by decide +kernel
theorem dL_law__1313 : decode cL_law_ 1313 = .ok (.iload 4, 2) := by decide +kernel
theorem dL_law__1315 : decode cL_law_ 1315 = .ok (.iconst 1, 1) := by decide +kernel
theorem dL_law__1316 : decode cL_law_ 1316 = .ok (.iadd, 1) := by decide +kernel
theorem dL_law__1317 : decode cL_law_ 1317 = .ok (.iaload, 1) := by decide +kernel
theorem w_10_1 : Cond.selects "LastLoafModel" ({ cls := "LastLoafModel", name := "winner", desc := "(I)I" } : MethodName) ({ cls := "LastLoafModel", name := "winner", desc := "(I)I" } : MethodName) ∈ TB := tb_in (lwt_10 (List.mem_of_getElem? (i := 1) (by decide +kernel))) rfl
theorem w_10_2 : Cond.code ({ cls := "LastLoafModel", name := "winner", desc := "(I)I" } : MethodName) prog_14_method_82_code (2 : Nat) (Option.some ClassFile.FieldType.int) ∈ TB := tb_in (lwt_10 (List.mem_of_getElem? (i := 2) (by decide +kernel))) rfl
theorem w_9_239 : Cond.methodLink "LastLoafLaw" (215 : Nat) ({ cls := "LastLoafModel", name := "winner", desc := "(I)I" } : MethodName) ∈ TB := tb_in (lwt_9 (List.mem_of_getElem? (i := 239) (by decide +kernel))) rfl
theorem w_10_0 : Cond.instanceMethod ({ cls := "LastLoafModel", name := "winner", desc := "(I)I" } : MethodName) ∈ TB := tb_in (lwt_10 (List.mem_of_getElem? (i := 0) (by decide +kernel))) rfl
theorem dL_law__1318 : decode cL_law_ 1318 = .ok (.invokevirtual 215, 3) := by decide +kernel
theorem dL_law__1321 : decode cL_law_ 1321 = .ok (.istore 6, 2) := by decide +kernel
theorem dL_law__1323 : decode cL_law_ 1323 = .ok (.aload_n 2, 1) := by decide +kernel
theorem dL_law__1324 : decode cL_law_ 1324 = .ok (.invokevirtual 163, 3) := by decide +kernel
theorem dL_law__1327 : decode cL_law_ 1327 = .ok (.iload 5, 2) := by decide +kernel
theorem dL_law__1329 : decode cL_law_ 1329 = .ok (.if_icmp .eq 5, 3) := by decide +kernel
theorem dL_law__1334 : decode cL_law_ 1334 = .ok (.iload 5, 2) := by decide +kernel
theorem dL_law__1336 : decode cL_law_ 1336 = .ok (.ifCond .ne 15, 3) := by decide +kernel
theorem dL_law__1351 : decode cL_law_ 1351 = .ok (.goto 1900, 3) := by decide +kernel
theorem dL_law__1339 : decode cL_law_ 1339 = .ok (.aload_n 3, 1) := by decide +kernel
theorem dL_law__1340 : decode cL_law_ 1340 = .ok (.iconst 0, 1) := by decide +kernel
theorem dL_law__1341 : decode cL_law_ 1341 = .ok (.laload, 1) := by decide +kernel
theorem dL_law__1342 : decode cL_law_ 1342 = .ok (.iload 6, 2) := by decide +kernel
theorem dL_law__1344 : decode cL_law_ 1344 = .ok (.i2l, 1) := by decide +kernel
theorem dL_law__1345 : decode cL_law_ 1345 = .ok (.lcmp, 1) := by decide +kernel
theorem dL_law__1346 : decode cL_law_ 1346 = .ok (.ifCond .eq 5, 3) := by decide +kernel
def Op_winner (RR : St → St → Prop) : Prop := ∀ (σ μ : St), RR σ μ → ∀ (a0 : Int32), ∃ (r1 : Sum Nat Int32 × St) (r2 : Int32 × St), q11_winner σ a0 = some r1 ∧ q12_winner μ a0 = some r2 ∧ Sx [0] r1 r2 ∧ RR r1.2 r2.2
set_option maxHeartbeats 4000000 in
set_option maxRecDepth 100000 in
theorem law_17 {RR : St → St → Prop} (hop : Op_winner RR) {Θ : Tz} {cJ : ClassId} {Q : State → Prop} {w : Wp} {aM : Nat → Nat} {ao b L : Nat} {xs : Nat → Int32} (C : Gc Θ cL_law_ 7 RL (some .boolean) room_1 cJ) (hlt : Θ.1.2.1.stackTraces = false) (Lx : Lq Θ w aM ao) (S : Ls Θ b L xs) {σ μ : St} {o : Int64} {i kc ks : Nat} (hi : i + 6 ≤ L) (hk : kc + 4 ≤ 601024 ∧ ks + 24 ≤ 7293034) (hR : RR σ μ) (K : ∀ σ' μ' o', RR σ' μ' → G Θ 7 (kc + 4) (ks + 24) Q (LPx w aM ao cJ σ' μ' o') 3251 (llv w aM ao b i) []) : G Θ 7 kc ks Q (LPx w aM ao cJ σ μ o) 1298 (llv w aM ao b i) [] := by
  obtain ⟨r1, r2, h1, h2, he, hR2⟩ := hop σ μ hR (xs (i + 1))
  refine g_aload_n C 1 dL_law__1298 rfl rfl ?_
  refine l_arg C S 0 4 1 rfl rfl (by omega) rfl dL_law__1299 dL_law__1300 dL_law__1302 dL_law__1303 dL_law__1304 ?_
  refine g_aload_n C 3 dL_law__1305 rfl rfl ?_
  refine l_callW C Lx [.ref (w.2.2.1 0), .int (xs (i + 1)), .ref ao] 3 (wr_winner (l := Θ.1.2.1) Lx.2.1 hlt Lx.2.2.2.2.2.2.2.1 h1 (Sx_in he)) w_6_166 w_6_164 w_6_165 w_1_0 ⟨rfl, rfl, (Nat.le_of_ble_eq_true rfl), (Nat.le_of_ble_eq_true rfl)⟩ (by decide +kernel) rfl rfl (Nat.le_of_ble_eq_true rfl) hk dL_law__1306 ?_
  refine g_istore C dL_law__1309 (Nat.le_of_ble_eq_true rfl) rfl ?_
  refine g_aload_n C 3 dL_law__1311 rfl rfl ?_
  refine l_arg C S 1 5 1 rfl rfl (by omega) rfl dL_law__1312 dL_law__1313 dL_law__1315 dL_law__1316 dL_law__1317 ?_
  refine l_callMi C Lx [.int (xs (i + 1))] r2.1 r2.2 1 rfl (c12_winner (l := Θ.1.2.1) (w := wm w aM) (way_a := (xs (i + 1))) rfl Lx.2.2.1 h2) w_10_2 w_9_239 w_10_0 w_10_1 w_1_14 ⟨rfl, rfl, (Nat.le_of_ble_eq_true rfl), (Nat.le_of_ble_eq_true rfl)⟩ (by decide +kernel) rfl rfl (Nat.le_of_ble_eq_true rfl) hk dL_law__1318 ?_
  refine g_istore C dL_law__1321 (Nat.le_of_ble_eq_true rfl) rfl ?_
  refine g_aload_n C 4 dL_law__1323 rfl rfl ?_
  refine l_callMi C Lx [] (q12_thrown r2.2) r2.2 0 rfl (c12_thrown (l := Θ.1.2.1) (w := wm w aM) rfl Lx.2.2.1) w_8_130 w_8_127 w_8_128 w_8_129 w_1_14 ⟨rfl, rfl, (Nat.le_of_ble_eq_true rfl), (Nat.le_of_ble_eq_true rfl)⟩ (by decide +kernel) rfl rfl (Nat.le_of_ble_eq_true rfl) hk dL_law__1324 ?_
  refine g_iload C 1 dL_law__1327 rfl ?_
  refine g_icmp_eq C 1334 dL_law__1329 (by decide) (fun _ => ?_) (fun h => absurd (Sx_k he) h)
  refine g_iload C 1 dL_law__1334 rfl ?_
  refine g_if_ne C 1351 dL_law__1336 (by decide) (fun _ => ?_) (fun h0 => ?_)
  · refine g_goto C 3251 dL_law__1351 (by decide) ?_
    refine G.sub [2, 3, 4, 5, 6] rfl ?_
    exact K _ _ _ hR2
  · refine g_aload_n C 5 dL_law__1339 rfl rfl ?_
    refine g_iconst (v := 0) C dL_law__1340 rfl ?_
    refine l_lald C (by rw [Lx.1]) dL_law__1341 ?_
    refine g_iload C 0 dL_law__1342 rfl ?_
    refine g_i2l C dL_law__1344 ?_
    refine g_lcmp C dL_law__1345 ?_
    rw [Sx_o (f := (fun v => v)) (o := o) (by decide) he h0, lg_cmp_self]
    refine g_if_eq C 1351 dL_law__1346 (by decide) (fun _ => ?_) (fun h => absurd rfl h)
    refine g_goto C 3251 dL_law__1351 (by decide) ?_
    refine G.sub [2, 3, 4, 5, 6] rfl ?_
    exact K _ _ _ hR2
/-! case 18 -/
theorem dL_law__1354 : decode cL_law_ 1354 = .ok (.aload_n 1, 1) := by decide +kernel
theorem dL_law__1355 : decode cL_law_ 1355 = .ok (.aload_n 0, 1) := by decide +kernel
theorem dL_law__1356 : decode cL_law_ 1356 = .ok (.iload 4, 2) := by decide +kernel
theorem dL_law__1358 : decode cL_law_ 1358 = .ok (.iconst 1, 1) := by decide +kernel
theorem dL_law__1359 : decode cL_law_ 1359 = .ok (.iadd, 1) := by decide +kernel
theorem dL_law__1360 : decode cL_law_ 1360 = .ok (.iaload, 1) := by decide +kernel
theorem dL_law__1361 : decode cL_law_ 1361 = .ok (.aload_n 0, 1) := by decide +kernel
theorem dL_law__1362 : decode cL_law_ 1362 = .ok (.iload 4, 2) := by decide +kernel
theorem dL_law__1364 : decode cL_law_ 1364 = .ok (.iconst 2, 1) := by decide +kernel
theorem dL_law__1365 : decode cL_law_ 1365 = .ok (.iadd, 1) := by decide +kernel
theorem dL_law__1366 : decode cL_law_ 1366 = .ok (.iaload, 1) := by decide +kernel
theorem dL_law__1367 : decode cL_law_ 1367 = .ok (.aload_n 3, 1) := by decide +kernel
theorem w_6_174 : Cond.codeWith ({ cls := "LastLoafLaw", name := "rank", desc := "(LLastLoaf;II[J)I" } : MethodName) method_18_code (5 : Nat) (Option.some ClassFile.FieldType.int) [((0 : Nat), (10 : Nat), (13 : Nat), (24 : Nat))] ∈ TB := tb_in (lwt_6 (List.mem_of_getElem? (i := 174) (by decide +kernel))) rfl
theorem w_6_172 : Cond.methodLink "LastLoafLaw" (216 : Nat) ({ cls := "LastLoafLaw", name := "rank", desc := "(LLastLoaf;II[J)I" } : MethodName) ∈ TB := tb_in (lwt_6 (List.mem_of_getElem? (i := 172) (by decide +kernel))) rfl
theorem w_6_173 : Cond.static ({ cls := "LastLoafLaw", name := "rank", desc := "(LLastLoaf;II[J)I" } : MethodName) ∈ TB := tb_in (lwt_6 (List.mem_of_getElem? (i := 173) (by decide +kernel))) rfl
theorem dL_law__1368 : decode cL_law_ 1368 = .ok (.invokestatic 216, 3) := by decide +kernel
theorem dL_law__1371 : decode cL_law_ 1371 = .ok (.istore 5, 2) := by decide +kernel
theorem dL_law__1373 : decode cL_law_ 1373 = .ok (.aload_n 2, 1) := by decide +kernel
theorem dL_law__1374 : decode cL_law_ 1374 = .ok (.aload_n 0, 1) := by decide +kernel
theorem dL_law__1375 : decode cL_law_ 1375 = .ok (.iload 4, 2) := by decide +kernel
theorem dL_law__1377 : decode cL_law_ 1377 = .ok (.iconst 1, 1) := by decide +kernel
theorem dL_law__1378 : decode cL_law_ 1378 = .ok (.iadd, 1) := by decide +kernel
theorem dL_law__1379 : decode cL_law_ 1379 = .ok (.iaload, 1) := by decide +kernel
theorem dL_law__1380 : decode cL_law_ 1380 = .ok (.aload_n 0, 1) := by decide +kernel
theorem dL_law__1381 : decode cL_law_ 1381 = .ok (.iload 4, 2) := by decide +kernel
theorem dL_law__1383 : decode cL_law_ 1383 = .ok (.iconst 2, 1) := by decide +kernel
theorem dL_law__1384 : decode cL_law_ 1384 = .ok (.iadd, 1) := by decide +kernel
theorem dL_law__1385 : decode cL_law_ 1385 = .ok (.iaload, 1) := by decide +kernel
theorem w_10_5 : Cond.selects "LastLoafModel" ({ cls := "LastLoafModel", name := "rank", desc := "(II)I" } : MethodName) ({ cls := "LastLoafModel", name := "rank", desc := "(II)I" } : MethodName) ∈ TB := tb_in (lwt_10 (List.mem_of_getElem? (i := 5) (by decide +kernel))) rfl
theorem w_10_6 : Cond.code ({ cls := "LastLoafModel", name := "rank", desc := "(II)I" } : MethodName) prog_14_method_83_code (3 : Nat) (Option.some ClassFile.FieldType.int) ∈ TB := tb_in (lwt_10 (List.mem_of_getElem? (i := 6) (by decide +kernel))) rfl
theorem w_10_3 : Cond.methodLink "LastLoafLaw" (218 : Nat) ({ cls := "LastLoafModel", name := "rank", desc := "(II)I" } : MethodName) ∈ TB := tb_in (lwt_10 (List.mem_of_getElem? (i := 3) (by decide +kernel))) rfl
theorem w_10_4 : Cond.instanceMethod ({ cls := "LastLoafModel", name := "rank", desc := "(II)I" } : MethodName) ∈ TB := tb_in (lwt_10 (List.mem_of_getElem? (i := 4) (by decide +kernel))) rfl
theorem dL_law__1386 : decode cL_law_ 1386 = .ok (.invokevirtual 218, 3) := by decide +kernel
theorem dL_law__1389 : decode cL_law_ 1389 = .ok (.istore 6, 2) := by decide +kernel
theorem dL_law__1391 : decode cL_law_ 1391 = .ok (.aload_n 2, 1) := by decide +kernel
theorem dL_law__1392 : decode cL_law_ 1392 = .ok (.invokevirtual 163, 3) := by decide +kernel
theorem dL_law__1395 : decode cL_law_ 1395 = .ok (.iload 5, 2) := by decide +kernel
theorem dL_law__1397 : decode cL_law_ 1397 = .ok (.if_icmp .eq 5, 3) := by decide +kernel
theorem dL_law__1402 : decode cL_law_ 1402 = .ok (.iload 5, 2) := by decide +kernel
theorem dL_law__1404 : decode cL_law_ 1404 = .ok (.ifCond .ne 15, 3) := by decide +kernel
theorem dL_law__1419 : decode cL_law_ 1419 = .ok (.goto 1832, 3) := by decide +kernel
theorem dL_law__1407 : decode cL_law_ 1407 = .ok (.aload_n 3, 1) := by decide +kernel
theorem dL_law__1408 : decode cL_law_ 1408 = .ok (.iconst 0, 1) := by decide +kernel
theorem dL_law__1409 : decode cL_law_ 1409 = .ok (.laload, 1) := by decide +kernel
theorem dL_law__1410 : decode cL_law_ 1410 = .ok (.iload 6, 2) := by decide +kernel
theorem dL_law__1412 : decode cL_law_ 1412 = .ok (.i2l, 1) := by decide +kernel
theorem dL_law__1413 : decode cL_law_ 1413 = .ok (.lcmp, 1) := by decide +kernel
theorem dL_law__1414 : decode cL_law_ 1414 = .ok (.ifCond .eq 5, 3) := by decide +kernel
def Op_rank (RR : St → St → Prop) : Prop := ∀ (σ μ : St), RR σ μ → ∀ (a0 : Int32) (a1 : Int32), ∃ (r1 : Sum Nat Int32 × St) (r2 : Int32 × St), q11_rank σ a0 a1 = some r1 ∧ q12_rank μ a0 a1 = some r2 ∧ Sx [2] r1 r2 ∧ RR r1.2 r2.2
set_option maxHeartbeats 4000000 in
set_option maxRecDepth 100000 in
theorem law_18 {RR : St → St → Prop} (hop : Op_rank RR) {Θ : Tz} {cJ : ClassId} {Q : State → Prop} {w : Wp} {aM : Nat → Nat} {ao b L : Nat} {xs : Nat → Int32} (C : Gc Θ cL_law_ 7 RL (some .boolean) room_1 cJ) (hlt : Θ.1.2.1.stackTraces = false) (Lx : Lq Θ w aM ao) (S : Ls Θ b L xs) {σ μ : St} {o : Int64} {i kc ks : Nat} (hi : i + 6 ≤ L) (hk : kc + 4 ≤ 601024 ∧ ks + 24 ≤ 7293034) (hR : RR σ μ) (K : ∀ σ' μ' o', RR σ' μ' → G Θ 7 (kc + 4) (ks + 24) Q (LPx w aM ao cJ σ' μ' o') 3251 (llv w aM ao b i) []) : G Θ 7 kc ks Q (LPx w aM ao cJ σ μ o) 1354 (llv w aM ao b i) [] := by
  obtain ⟨r1, r2, h1, h2, he, hR2⟩ := hop σ μ hR (xs (i + 1)) (xs (i + 2))
  refine g_aload_n C 1 dL_law__1354 rfl rfl ?_
  refine l_arg C S 0 4 1 rfl rfl (by omega) rfl dL_law__1355 dL_law__1356 dL_law__1358 dL_law__1359 dL_law__1360 ?_
  refine l_arg C S 0 4 2 rfl rfl (by omega) rfl dL_law__1361 dL_law__1362 dL_law__1364 dL_law__1365 dL_law__1366 ?_
  refine g_aload_n C 3 dL_law__1367 rfl rfl ?_
  refine l_callW C Lx [.ref (w.2.2.1 0), .int (xs (i + 1)), .int (xs (i + 2)), .ref ao] 4 (wr_rank (l := Θ.1.2.1) Lx.2.1 hlt Lx.2.2.2.2.2.2.2.1 h1 (Sx_in he)) w_6_174 w_6_172 w_6_173 w_1_0 ⟨rfl, rfl, (Nat.le_of_ble_eq_true rfl), (Nat.le_of_ble_eq_true rfl)⟩ (by decide +kernel) rfl rfl (Nat.le_of_ble_eq_true rfl) hk dL_law__1368 ?_
  refine g_istore C dL_law__1371 (Nat.le_of_ble_eq_true rfl) rfl ?_
  refine g_aload_n C 3 dL_law__1373 rfl rfl ?_
  refine l_arg C S 1 5 1 rfl rfl (by omega) rfl dL_law__1374 dL_law__1375 dL_law__1377 dL_law__1378 dL_law__1379 ?_
  refine l_arg C S 1 5 2 rfl rfl (by omega) rfl dL_law__1380 dL_law__1381 dL_law__1383 dL_law__1384 dL_law__1385 ?_
  refine l_callMi C Lx [.int (xs (i + 1)), .int (xs (i + 2))] r2.1 r2.2 2 rfl (c12_rank (l := Θ.1.2.1) (w := wm w aM) (p_a := (xs (i + 1))) (k_a := (xs (i + 2))) rfl Lx.2.2.1 h2) w_10_6 w_10_3 w_10_4 w_10_5 w_1_14 ⟨rfl, rfl, (Nat.le_of_ble_eq_true rfl), (Nat.le_of_ble_eq_true rfl)⟩ (by decide +kernel) rfl rfl (Nat.le_of_ble_eq_true rfl) hk dL_law__1386 ?_
  refine g_istore C dL_law__1389 (Nat.le_of_ble_eq_true rfl) rfl ?_
  refine g_aload_n C 4 dL_law__1391 rfl rfl ?_
  refine l_callMi C Lx [] (q12_thrown r2.2) r2.2 0 rfl (c12_thrown (l := Θ.1.2.1) (w := wm w aM) rfl Lx.2.2.1) w_8_130 w_8_127 w_8_128 w_8_129 w_1_14 ⟨rfl, rfl, (Nat.le_of_ble_eq_true rfl), (Nat.le_of_ble_eq_true rfl)⟩ (by decide +kernel) rfl rfl (Nat.le_of_ble_eq_true rfl) hk dL_law__1392 ?_
  refine g_iload C 1 dL_law__1395 rfl ?_
  refine g_icmp_eq C 1402 dL_law__1397 (by decide) (fun _ => ?_) (fun h => absurd (Sx_k he) h)
  refine g_iload C 1 dL_law__1402 rfl ?_
  refine g_if_ne C 1419 dL_law__1404 (by decide) (fun _ => ?_) (fun h0 => ?_)
  · refine g_goto C 3251 dL_law__1419 (by decide) ?_
    refine G.sub [2, 3, 4, 5, 6] rfl ?_
    exact K _ _ _ hR2
  · refine g_aload_n C 5 dL_law__1407 rfl rfl ?_
    refine g_iconst (v := 0) C dL_law__1408 rfl ?_
    refine l_lald C (by rw [Lx.1]) dL_law__1409 ?_
    refine g_iload C 0 dL_law__1410 rfl ?_
    refine g_i2l C dL_law__1412 ?_
    refine g_lcmp C dL_law__1413 ?_
    rw [Sx_o (f := (fun v => v)) (o := o) (by decide) he h0, lg_cmp_self]
    refine g_if_eq C 1419 dL_law__1414 (by decide) (fun _ => ?_) (fun h => absurd rfl h)
    refine g_goto C 3251 dL_law__1419 (by decide) ?_
    refine G.sub [2, 3, 4, 5, 6] rfl ?_
    exact K _ _ _ hR2
/-! case 19 -/
theorem dL_law__1422 : decode cL_law_ 1422 = .ok (.aload_n 1, 1) := by decide +kernel
theorem dL_law__1423 : decode cL_law_ 1423 = .ok (.aload_n 0, 1) := by decide +kernel
theorem dL_law__1424 : decode cL_law_ 1424 = .ok (.iload 4, 2) := by decide +kernel
theorem dL_law__1426 : decode cL_law_ 1426 = .ok (.iconst 1, 1) := by decide +kernel
theorem dL_law__1427 : decode cL_law_ 1427 = .ok (.iadd, 1) := by decide +kernel
theorem dL_law__1428 : decode cL_law_ 1428 = .ok (.iaload, 1) := by decide +kernel
theorem dL_law__1429 : decode cL_law_ 1429 = .ok (.aload_n 0, 1) := by decide +kernel
theorem dL_law__1430 : decode cL_law_ 1430 = .ok (.iload 4, 2) := by decide +kernel
theorem dL_law__1432 : decode cL_law_ 1432 = .ok (.iconst 2, 1) := by decide +kernel
theorem dL_law__1433 : decode cL_law_ 1433 = .ok (.iadd, 1) := by decide +kernel
theorem dL_law__1434 : decode cL_law_ 1434 = .ok (.iaload, 1) := by decide +kernel
theorem dL_law__1435 : decode cL_law_ 1435 = .ok (.aload_n 3, 1) := by decide +kernel
theorem w_6_181 : Cond.codeWith ({ cls := "LastLoafLaw", name := "beats", desc := "(LLastLoaf;II[J)I" } : MethodName) method_19_code (5 : Nat) (Option.some ClassFile.FieldType.int) [((0 : Nat), (17 : Nat), (20 : Nat), (24 : Nat)), ((0 : Nat), (17 : Nat), (24 : Nat), (13 : Nat))] ∈ TB := tb_in (lwt_6 (List.mem_of_getElem? (i := 181) (by decide +kernel))) rfl
theorem w_6_179 : Cond.methodLink "LastLoafLaw" (219 : Nat) ({ cls := "LastLoafLaw", name := "beats", desc := "(LLastLoaf;II[J)I" } : MethodName) ∈ TB := tb_in (lwt_6 (List.mem_of_getElem? (i := 179) (by decide +kernel))) rfl
theorem w_6_180 : Cond.static ({ cls := "LastLoafLaw", name := "beats", desc := "(LLastLoaf;II[J)I" } : MethodName) ∈ TB := tb_in (lwt_6 (List.mem_of_getElem? (i := 180) (by decide +kernel))) rfl
theorem dL_law__1436 : decode cL_law_ 1436 = .ok (.invokestatic 219, 3) := by decide +kernel
theorem dL_law__1439 : decode cL_law_ 1439 = .ok (.istore 5, 2) := by decide +kernel
theorem dL_law__1441 : decode cL_law_ 1441 = .ok (.aload_n 2, 1) := by decide +kernel
theorem dL_law__1442 : decode cL_law_ 1442 = .ok (.aload_n 0, 1) := by decide +kernel
theorem dL_law__1443 : decode cL_law_ 1443 = .ok (.iload 4, 2) := by decide +kernel
theorem dL_law__1445 : decode cL_law_ 1445 = .ok (.iconst 1, 1) := by decide +kernel
theorem dL_law__1446 : decode cL_law_ 1446 = .ok (.iadd, 1) := by decide +kernel
theorem dL_law__1447 : decode cL_law_ 1447 = .ok (.iaload, 1) := by decide +kernel
theorem dL_law__1448 : decode cL_law_ 1448 = .ok (.aload_n 0, 1) := by decide +kernel
theorem dL_law__1449 : decode cL_law_ 1449 = .ok (.iload 4, 2) := by decide +kernel
theorem dL_law__1451 : decode cL_law_ 1451 = .ok (.iconst 2, 1) := by decide +kernel
theorem dL_law__1452 : decode cL_law_ 1452 = .ok (.iadd, 1) := by decide +kernel
theorem dL_law__1453 : decode cL_law_ 1453 = .ok (.iaload, 1) := by decide +kernel
theorem w_10_9 : Cond.selects "LastLoafModel" ({ cls := "LastLoafModel", name := "beats", desc := "(II)Z" } : MethodName) ({ cls := "LastLoafModel", name := "beats", desc := "(II)Z" } : MethodName) ∈ TB := tb_in (lwt_10 (List.mem_of_getElem? (i := 9) (by decide +kernel))) rfl
theorem w_10_10 : Cond.code ({ cls := "LastLoafModel", name := "beats", desc := "(II)Z" } : MethodName) prog_14_method_84_code (3 : Nat) (Option.some ClassFile.FieldType.boolean) ∈ TB := tb_in (lwt_10 (List.mem_of_getElem? (i := 10) (by decide +kernel))) rfl
theorem w_10_7 : Cond.methodLink "LastLoafLaw" (221 : Nat) ({ cls := "LastLoafModel", name := "beats", desc := "(II)Z" } : MethodName) ∈ TB := tb_in (lwt_10 (List.mem_of_getElem? (i := 7) (by decide +kernel))) rfl
theorem w_10_8 : Cond.instanceMethod ({ cls := "LastLoafModel", name := "beats", desc := "(II)Z" } : MethodName) ∈ TB := tb_in (lwt_10 (List.mem_of_getElem? (i := 8) (by decide +kernel))) rfl
theorem dL_law__1454 : decode cL_law_ 1454 = .ok (.invokevirtual 221, 3) := by decide +kernel
theorem dL_law__1457 : decode cL_law_ 1457 = .ok (.istore 6, 2) := by decide +kernel
theorem dL_law__1459 : decode cL_law_ 1459 = .ok (.aload_n 2, 1) := by decide +kernel
theorem dL_law__1460 : decode cL_law_ 1460 = .ok (.invokevirtual 163, 3) := by decide +kernel
theorem dL_law__1463 : decode cL_law_ 1463 = .ok (.iload 5, 2) := by decide +kernel
theorem dL_law__1465 : decode cL_law_ 1465 = .ok (.if_icmp .eq 5, 3) := by decide +kernel
theorem dL_law__1470 : decode cL_law_ 1470 = .ok (.iload 5, 2) := by decide +kernel
theorem dL_law__1472 : decode cL_law_ 1472 = .ok (.ifCond .ne 22, 3) := by decide +kernel
theorem dL_law__1494 : decode cL_law_ 1494 = .ok (.goto 1757, 3) := by decide +kernel
theorem dL_law__1475 : decode cL_law_ 1475 = .ok (.aload_n 3, 1) := by decide +kernel
theorem dL_law__1476 : decode cL_law_ 1476 = .ok (.iconst 0, 1) := by decide +kernel
theorem dL_law__1477 : decode cL_law_ 1477 = .ok (.laload, 1) := by decide +kernel
theorem dL_law__1478 : decode cL_law_ 1478 = .ok (.iload 6, 2) := by decide +kernel
theorem dL_law__1480 : decode cL_law_ 1480 = .ok (.ifCond .eq 7, 3) := by decide +kernel
theorem dL_law__1483 : decode cL_law_ 1483 = .ok (.lconst 1, 1) := by decide +kernel
theorem dL_law__1484 : decode cL_law_ 1484 = .ok (.goto 4, 3) := by decide +kernel
theorem dL_law__1487 : decode cL_law_ 1487 = .ok (.lconst 0, 1) := by decide +kernel
theorem dL_law__1488 : decode cL_law_ 1488 = .ok (.lcmp, 1) := by decide +kernel
theorem dL_law__1489 : decode cL_law_ 1489 = .ok (.ifCond .eq 5, 3) := by decide +kernel
def Op_beats (RR : St → St → Prop) : Prop := ∀ (σ μ : St), RR σ μ → ∀ (a0 : Int32) (a1 : Int32), ∃ (r1 : Sum Nat Bool × St) (r2 : Bool × St), q11_beats σ a0 a1 = some r1 ∧ q12_beats μ a0 a1 = some r2 ∧ Sx [2, 0] r1 r2 ∧ RR r1.2 r2.2
set_option maxHeartbeats 4000000 in
set_option maxRecDepth 100000 in
theorem law_19 {RR : St → St → Prop} (hop : Op_beats RR) {Θ : Tz} {cJ : ClassId} {Q : State → Prop} {w : Wp} {aM : Nat → Nat} {ao b L : Nat} {xs : Nat → Int32} (C : Gc Θ cL_law_ 7 RL (some .boolean) room_1 cJ) (hlt : Θ.1.2.1.stackTraces = false) (Lx : Lq Θ w aM ao) (S : Ls Θ b L xs) {σ μ : St} {o : Int64} {i kc ks : Nat} (hi : i + 6 ≤ L) (hk : kc + 4 ≤ 601024 ∧ ks + 24 ≤ 7293034) (hR : RR σ μ) (K : ∀ σ' μ' o', RR σ' μ' → G Θ 7 (kc + 4) (ks + 24) Q (LPx w aM ao cJ σ' μ' o') 3251 (llv w aM ao b i) []) : G Θ 7 kc ks Q (LPx w aM ao cJ σ μ o) 1422 (llv w aM ao b i) [] := by
  obtain ⟨r1, r2, h1, h2, he, hR2⟩ := hop σ μ hR (xs (i + 1)) (xs (i + 2))
  refine g_aload_n C 1 dL_law__1422 rfl rfl ?_
  refine l_arg C S 0 4 1 rfl rfl (by omega) rfl dL_law__1423 dL_law__1424 dL_law__1426 dL_law__1427 dL_law__1428 ?_
  refine l_arg C S 0 4 2 rfl rfl (by omega) rfl dL_law__1429 dL_law__1430 dL_law__1432 dL_law__1433 dL_law__1434 ?_
  refine g_aload_n C 3 dL_law__1435 rfl rfl ?_
  refine l_callW C Lx [.ref (w.2.2.1 0), .int (xs (i + 1)), .int (xs (i + 2)), .ref ao] 4 (wr_beats (l := Θ.1.2.1) Lx.2.1 hlt Lx.2.2.2.2.2.2.2.1 h1 (Sx_in he)) w_6_181 w_6_179 w_6_180 w_1_0 ⟨rfl, rfl, (Nat.le_of_ble_eq_true rfl), (Nat.le_of_ble_eq_true rfl)⟩ (by decide +kernel) rfl rfl (Nat.le_of_ble_eq_true rfl) hk dL_law__1436 ?_
  refine g_istore C dL_law__1439 (Nat.le_of_ble_eq_true rfl) rfl ?_
  refine g_aload_n C 3 dL_law__1441 rfl rfl ?_
  refine l_arg C S 1 5 1 rfl rfl (by omega) rfl dL_law__1442 dL_law__1443 dL_law__1445 dL_law__1446 dL_law__1447 ?_
  refine l_arg C S 1 5 2 rfl rfl (by omega) rfl dL_law__1448 dL_law__1449 dL_law__1451 dL_law__1452 dL_law__1453 ?_
  refine l_callMi C Lx [.int (xs (i + 1)), .int (xs (i + 2))] (b2i r2.1) r2.2 2 rfl (c12_beats (l := Θ.1.2.1) (w := wm w aM) (p_a := (xs (i + 1))) (o_a := (xs (i + 2))) rfl Lx.2.2.1 h2) w_10_10 w_10_7 w_10_8 w_10_9 w_1_14 ⟨rfl, rfl, (Nat.le_of_ble_eq_true rfl), (Nat.le_of_ble_eq_true rfl)⟩ (by decide +kernel) rfl rfl (Nat.le_of_ble_eq_true rfl) hk dL_law__1454 ?_
  refine g_istore C dL_law__1457 (Nat.le_of_ble_eq_true rfl) rfl ?_
  refine g_aload_n C 4 dL_law__1459 rfl rfl ?_
  refine l_callMi C Lx [] (q12_thrown r2.2) r2.2 0 rfl (c12_thrown (l := Θ.1.2.1) (w := wm w aM) rfl Lx.2.2.1) w_8_130 w_8_127 w_8_128 w_8_129 w_1_14 ⟨rfl, rfl, (Nat.le_of_ble_eq_true rfl), (Nat.le_of_ble_eq_true rfl)⟩ (by decide +kernel) rfl rfl (Nat.le_of_ble_eq_true rfl) hk dL_law__1460 ?_
  refine g_iload C 1 dL_law__1463 rfl ?_
  refine g_icmp_eq C 1470 dL_law__1465 (by decide) (fun _ => ?_) (fun h => absurd (Sx_k he) h)
  refine g_iload C 1 dL_law__1470 rfl ?_
  refine g_if_ne C 1494 dL_law__1472 (by decide) (fun _ => ?_) (fun h0 => ?_)
  · refine g_goto C 3251 dL_law__1494 (by decide) ?_
    refine G.sub [2, 3, 4, 5, 6] rfl ?_
    exact K _ _ _ hR2
  · refine g_aload_n C 5 dL_law__1475 rfl rfl ?_
    refine g_iconst (v := 0) C dL_law__1476 rfl ?_
    refine l_lald C (by rw [Lx.1]) dL_law__1477 ?_
    refine g_iload C 0 dL_law__1478 rfl ?_
    refine g_bl (b := r2.1) C dL_law__1480 dL_law__1483 dL_law__1484 dL_law__1487 ?_
    refine g_lcmp C dL_law__1488 ?_
    rw [Sx_o (f := b2i) (o := o) (by decide) he h0, lg_cmp_self]
    refine g_if_eq C 1494 dL_law__1489 (by decide) (fun _ => ?_) (fun h => absurd rfl h)
    refine g_goto C 3251 dL_law__1494 (by decide) ?_
    refine G.sub [2, 3, 4, 5, 6] rfl ?_
    exact K _ _ _ hR2
/-! case 20 -/
theorem dL_law__1497 : decode cL_law_ 1497 = .ok (.aload_n 1, 1) := by decide +kernel
theorem w_3_14 : Cond.selects "LastLoaf" ({ cls := "LastLoaf", name := "master", desc := "()I" } : MethodName) ({ cls := "LastLoaf", name := "master", desc := "()I" } : MethodName) ∈ TB := tb_in (lwt_3 (List.mem_of_getElem? (i := 14) (by decide +kernel))) rfl
theorem w_3_15 : Cond.code ({ cls := "LastLoaf", name := "master", desc := "()I" } : MethodName) prog_1_method_22_code (1 : Nat) (Option.some ClassFile.FieldType.int) ∈ TB := tb_in (lwt_3 (List.mem_of_getElem? (i := 15) (by decide +kernel))) rfl
theorem w_3_12 : Cond.methodLink "LastLoafLaw" (222 : Nat) ({ cls := "LastLoaf", name := "master", desc := "()I" } : MethodName) ∈ TB := tb_in (lwt_3 (List.mem_of_getElem? (i := 12) (by decide +kernel))) rfl
theorem w_3_13 : Cond.instanceMethod ({ cls := "LastLoaf", name := "master", desc := "()I" } : MethodName) ∈ TB := tb_in (lwt_3 (List.mem_of_getElem? (i := 13) (by decide +kernel))) rfl
theorem dL_law__1498 : decode cL_law_ 1498 = .ok (.invokevirtual 222, 3) := by decide +kernel
theorem dL_law__1501 : decode cL_law_ 1501 = .ok (.aload_n 2, 1) := by decide +kernel
theorem w_10_13 : Cond.selects "LastLoafModel" ({ cls := "LastLoafModel", name := "master", desc := "()I" } : MethodName) ({ cls := "LastLoafModel", name := "master", desc := "()I" } : MethodName) ∈ TB := tb_in (lwt_10 (List.mem_of_getElem? (i := 13) (by decide +kernel))) rfl
theorem w_10_14 : Cond.code ({ cls := "LastLoafModel", name := "master", desc := "()I" } : MethodName) prog_14_method_85_code (2 : Nat) (Option.some ClassFile.FieldType.int) ∈ TB := tb_in (lwt_10 (List.mem_of_getElem? (i := 14) (by decide +kernel))) rfl
theorem w_10_11 : Cond.methodLink "LastLoafLaw" (225 : Nat) ({ cls := "LastLoafModel", name := "master", desc := "()I" } : MethodName) ∈ TB := tb_in (lwt_10 (List.mem_of_getElem? (i := 11) (by decide +kernel))) rfl
theorem w_10_12 : Cond.instanceMethod ({ cls := "LastLoafModel", name := "master", desc := "()I" } : MethodName) ∈ TB := tb_in (lwt_10 (List.mem_of_getElem? (i := 12) (by decide +kernel))) rfl
theorem dL_law__1502 : decode cL_law_ 1502 = .ok (.invokevirtual 225, 3) := by decide +kernel
theorem dL_law__1505 : decode cL_law_ 1505 = .ok (.if_icmp .eq 1746, 3) := by decide +kernel
def Op_master (RR : St → St → Prop) : Prop := ∀ (σ μ : St), RR σ μ → ∃ (r1 : (Int32 × St)) (r2 : (Int32 × St)), q11_master σ  = some r1 ∧ q12_master μ  = some r2 ∧ r1.1 = r2.1 ∧ RR r1.2 r2.2
set_option maxHeartbeats 4000000 in
set_option maxRecDepth 100000 in
theorem law_20 {RR : St → St → Prop} (hop : Op_master RR) {Θ : Tz} {cJ : ClassId} {Q : State → Prop} {w : Wp} {aM : Nat → Nat} {ao b L : Nat} {xs : Nat → Int32} (C : Gc Θ cL_law_ 7 RL (some .boolean) room_1 cJ) (hlt : Θ.1.2.1.stackTraces = false) (Lx : Lq Θ w aM ao) (S : Ls Θ b L xs) {σ μ : St} {o : Int64} {i kc ks : Nat} (hi : i + 6 ≤ L) (hk : kc + 4 ≤ 601024 ∧ ks + 24 ≤ 7293034) (hR : RR σ μ) (K : ∀ σ' μ' o', RR σ' μ' → G Θ 7 (kc + 4) (ks + 24) Q (LPx w aM ao cJ σ' μ' o') 3251 (llv w aM ao b i) []) : G Θ 7 kc ks Q (LPx w aM ao cJ σ μ o) 1497 (llv w aM ao b i) [] := by
  obtain ⟨r1, r2, h1, h2, he, hR2⟩ := hop σ μ hR 
  refine g_aload_n C 1 dL_law__1497 rfl rfl ?_
  refine l_callCi C Lx [] r1.1 r1.2 0 rfl (c11_master (l := Θ.1.2.1) (w := w)  rfl Lx.2.1 h1) w_3_15 w_3_12 w_3_13 w_3_14 w_1_1 ⟨rfl, rfl, (Nat.le_of_ble_eq_true rfl), (Nat.le_of_ble_eq_true rfl)⟩ (by decide +kernel) rfl rfl (Nat.le_of_ble_eq_true rfl) ⟨Nat.le_trans (Nat.le_add_right _ _) hk.1, Nat.le_trans (Nat.le_add_right _ _) hk.2⟩ dL_law__1498 ?_
  refine g_aload_n C 2 dL_law__1501 rfl rfl ?_
  refine l_callMi C Lx [] r2.1 r2.2 0 rfl (c12_master (l := Θ.1.2.1) (w := wm w aM)  rfl Lx.2.2.1 h2) w_10_14 w_10_11 w_10_12 w_10_13 w_1_14 ⟨rfl, rfl, (Nat.le_of_ble_eq_true rfl), (Nat.le_of_ble_eq_true rfl)⟩ (by decide +kernel) rfl rfl (Nat.le_of_ble_eq_true rfl) ⟨Nat.le_trans (Nat.le_add_right _ _) hk.1, Nat.le_trans (Nat.le_add_right _ _) hk.2⟩ dL_law__1502 ?_
  refine g_icmp_eq C 3251 dL_law__1505 (by decide) (fun _ => ?_) (fun h => absurd (he) h)
  exact G.wid (Nat.le_add_right _ _) (Nat.le_add_right _ _) (K _ _ o hR2)
/-! case 21 -/
theorem dL_law__1510 : decode cL_law_ 1510 = .ok (.aload_n 1, 1) := by decide +kernel
theorem dL_law__1511 : decode cL_law_ 1511 = .ok (.aload_n 0, 1) := by decide +kernel
theorem dL_law__1512 : decode cL_law_ 1512 = .ok (.iload 4, 2) := by decide +kernel
theorem dL_law__1514 : decode cL_law_ 1514 = .ok (.iconst 1, 1) := by decide +kernel
theorem dL_law__1515 : decode cL_law_ 1515 = .ok (.iadd, 1) := by decide +kernel
theorem dL_law__1516 : decode cL_law_ 1516 = .ok (.iaload, 1) := by decide +kernel
theorem dL_law__1517 : decode cL_law_ 1517 = .ok (.aload_n 0, 1) := by decide +kernel
theorem dL_law__1518 : decode cL_law_ 1518 = .ok (.iload 4, 2) := by decide +kernel
theorem dL_law__1520 : decode cL_law_ 1520 = .ok (.iconst 2, 1) := by decide +kernel
theorem dL_law__1521 : decode cL_law_ 1521 = .ok (.iadd, 1) := by decide +kernel
theorem dL_law__1522 : decode cL_law_ 1522 = .ok (.iaload, 1) := by decide +kernel
theorem dL_law__1523 : decode cL_law_ 1523 = .ok (.aload_n 3, 1) := by decide +kernel
theorem w_6_189 : Cond.codeWith ({ cls := "LastLoafLaw", name := "hungry", desc := "(LLastLoaf;II[J)I" } : MethodName) method_20_code (5 : Nat) (Option.some ClassFile.FieldType.int) [((0 : Nat), (10 : Nat), (13 : Nat), (13 : Nat))] ∈ TB := tb_in (lwt_6 (List.mem_of_getElem? (i := 189) (by decide +kernel))) rfl
theorem w_6_187 : Cond.methodLink "LastLoafLaw" (226 : Nat) ({ cls := "LastLoafLaw", name := "hungry", desc := "(LLastLoaf;II[J)I" } : MethodName) ∈ TB := tb_in (lwt_6 (List.mem_of_getElem? (i := 187) (by decide +kernel))) rfl
theorem w_6_188 : Cond.static ({ cls := "LastLoafLaw", name := "hungry", desc := "(LLastLoaf;II[J)I" } : MethodName) ∈ TB := tb_in (lwt_6 (List.mem_of_getElem? (i := 188) (by decide +kernel))) rfl
theorem dL_law__1524 : decode cL_law_ 1524 = .ok (.invokestatic 226, 3) := by decide +kernel
theorem dL_law__1527 : decode cL_law_ 1527 = .ok (.istore 5, 2) := by decide +kernel
theorem dL_law__1529 : decode cL_law_ 1529 = .ok (.aload_n 2, 1) := by decide +kernel
theorem dL_law__1530 : decode cL_law_ 1530 = .ok (.aload_n 0, 1) := by decide +kernel
theorem dL_law__1531 : decode cL_law_ 1531 = .ok (.iload 4, 2) := by decide +kernel
theorem dL_law__1533 : decode cL_law_ 1533 = .ok (.iconst 1, 1) := by decide +kernel
theorem dL_law__1534 : decode cL_law_ 1534 = .ok (.iadd, 1) := by decide +kernel
theorem dL_law__1535 : decode cL_law_ 1535 = .ok (.iaload, 1) := by decide +kernel
theorem dL_law__1536 : decode cL_law_ 1536 = .ok (.aload_n 0, 1) := by decide +kernel
theorem dL_law__1537 : decode cL_law_ 1537 = .ok (.iload 4, 2) := by decide +kernel
theorem dL_law__1539 : decode cL_law_ 1539 = .ok (.iconst 2, 1) := by decide +kernel
theorem dL_law__1540 : decode cL_law_ 1540 = .ok (.iadd, 1) := by decide +kernel
theorem dL_law__1541 : decode cL_law_ 1541 = .ok (.iaload, 1) := by decide +kernel
theorem w_10_17 : Cond.selects "LastLoafModel" ({ cls := "LastLoafModel", name := "hungry", desc := "(II)I" } : MethodName) ({ cls := "LastLoafModel", name := "hungry", desc := "(II)I" } : MethodName) ∈ TB := tb_in (lwt_10 (List.mem_of_getElem? (i := 17) (by decide +kernel))) rfl
theorem w_10_18 : Cond.code ({ cls := "LastLoafModel", name := "hungry", desc := "(II)I" } : MethodName) prog_14_method_87_code (3 : Nat) (Option.some ClassFile.FieldType.int) ∈ TB := tb_in (lwt_10 (List.mem_of_getElem? (i := 18) (by decide +kernel))) rfl
theorem w_10_15 : Cond.methodLink "LastLoafLaw" (228 : Nat) ({ cls := "LastLoafModel", name := "hungry", desc := "(II)I" } : MethodName) ∈ TB := tb_in (lwt_10 (List.mem_of_getElem? (i := 15) (by decide +kernel))) rfl
theorem w_10_16 : Cond.instanceMethod ({ cls := "LastLoafModel", name := "hungry", desc := "(II)I" } : MethodName) ∈ TB := tb_in (lwt_10 (List.mem_of_getElem? (i := 16) (by decide +kernel))) rfl
theorem dL_law__1542 : decode cL_law_ 1542 = .ok (.invokevirtual 228, 3) := by decide +kernel
theorem dL_law__1545 : decode cL_law_ 1545 = .ok (.istore 6, 2) := by decide +kernel
theorem dL_law__1547 : decode cL_law_ 1547 = .ok (.aload_n 2, 1) := by decide +kernel
theorem dL_law__1548 : decode cL_law_ 1548 = .ok (.invokevirtual 163, 3) := by decide +kernel
theorem dL_law__1551 : decode cL_law_ 1551 = .ok (.iload 5, 2) := by decide +kernel
theorem dL_law__1553 : decode cL_law_ 1553 = .ok (.if_icmp .eq 5, 3) := by decide +kernel
theorem dL_law__1558 : decode cL_law_ 1558 = .ok (.iload 5, 2) := by decide +kernel
theorem dL_law__1560 : decode cL_law_ 1560 = .ok (.ifCond .ne 15, 3) := by decide +kernel
theorem dL_law__1575 : decode cL_law_ 1575 = .ok (.goto 1676, 3) := by decide +kernel
theorem dL_law__1563 : decode cL_law_ 1563 = .ok (.aload_n 3, 1) := by decide +kernel
theorem dL_law__1564 : decode cL_law_ 1564 = .ok (.iconst 0, 1) := by decide +kernel
theorem dL_law__1565 : decode cL_law_ 1565 = .ok (.laload, 1) := by decide +kernel
theorem dL_law__1566 : decode cL_law_ 1566 = .ok (.iload 6, 2) := by decide +kernel
theorem dL_law__1568 : decode cL_law_ 1568 = .ok (.i2l, 1) := by decide +kernel
theorem dL_law__1569 : decode cL_law_ 1569 = .ok (.lcmp, 1) := by decide +kernel
theorem dL_law__1570 : decode cL_law_ 1570 = .ok (.ifCond .eq 5, 3) := by decide +kernel
def Op_hungry (RR : St → St → Prop) : Prop := ∀ (σ μ : St), RR σ μ → ∀ (a0 : Int32) (a1 : Int32), ∃ (r1 : Sum Nat Int32 × St) (r2 : Int32 × St), q11_hungry σ a0 a1 = some r1 ∧ q12_hungry μ a0 a1 = some r2 ∧ Sx [0] r1 r2 ∧ RR r1.2 r2.2
set_option maxHeartbeats 4000000 in
set_option maxRecDepth 100000 in
theorem law_21 {RR : St → St → Prop} (hop : Op_hungry RR) {Θ : Tz} {cJ : ClassId} {Q : State → Prop} {w : Wp} {aM : Nat → Nat} {ao b L : Nat} {xs : Nat → Int32} (C : Gc Θ cL_law_ 7 RL (some .boolean) room_1 cJ) (hlt : Θ.1.2.1.stackTraces = false) (Lx : Lq Θ w aM ao) (S : Ls Θ b L xs) {σ μ : St} {o : Int64} {i kc ks : Nat} (hi : i + 6 ≤ L) (hk : kc + 4 ≤ 601024 ∧ ks + 24 ≤ 7293034) (hR : RR σ μ) (K : ∀ σ' μ' o', RR σ' μ' → G Θ 7 (kc + 4) (ks + 24) Q (LPx w aM ao cJ σ' μ' o') 3251 (llv w aM ao b i) []) : G Θ 7 kc ks Q (LPx w aM ao cJ σ μ o) 1510 (llv w aM ao b i) [] := by
  obtain ⟨r1, r2, h1, h2, he, hR2⟩ := hop σ μ hR (xs (i + 1)) (xs (i + 2))
  refine g_aload_n C 1 dL_law__1510 rfl rfl ?_
  refine l_arg C S 0 4 1 rfl rfl (by omega) rfl dL_law__1511 dL_law__1512 dL_law__1514 dL_law__1515 dL_law__1516 ?_
  refine l_arg C S 0 4 2 rfl rfl (by omega) rfl dL_law__1517 dL_law__1518 dL_law__1520 dL_law__1521 dL_law__1522 ?_
  refine g_aload_n C 3 dL_law__1523 rfl rfl ?_
  refine l_callW C Lx [.ref (w.2.2.1 0), .int (xs (i + 1)), .int (xs (i + 2)), .ref ao] 4 (wr_hungry (l := Θ.1.2.1) Lx.2.1 hlt Lx.2.2.2.2.2.2.2.1 h1 (Sx_in he)) w_6_189 w_6_187 w_6_188 w_1_0 ⟨rfl, rfl, (Nat.le_of_ble_eq_true rfl), (Nat.le_of_ble_eq_true rfl)⟩ (by decide +kernel) rfl rfl (Nat.le_of_ble_eq_true rfl) hk dL_law__1524 ?_
  refine g_istore C dL_law__1527 (Nat.le_of_ble_eq_true rfl) rfl ?_
  refine g_aload_n C 3 dL_law__1529 rfl rfl ?_
  refine l_arg C S 1 5 1 rfl rfl (by omega) rfl dL_law__1530 dL_law__1531 dL_law__1533 dL_law__1534 dL_law__1535 ?_
  refine l_arg C S 1 5 2 rfl rfl (by omega) rfl dL_law__1536 dL_law__1537 dL_law__1539 dL_law__1540 dL_law__1541 ?_
  refine l_callMi C Lx [.int (xs (i + 1)), .int (xs (i + 2))] r2.1 r2.2 2 rfl (c12_hungry (l := Θ.1.2.1) (w := wm w aM) (way_a := (xs (i + 1))) (n_a := (xs (i + 2))) rfl Lx.2.2.1 h2) w_10_18 w_10_15 w_10_16 w_10_17 w_1_14 ⟨rfl, rfl, (Nat.le_of_ble_eq_true rfl), (Nat.le_of_ble_eq_true rfl)⟩ (by decide +kernel) rfl rfl (Nat.le_of_ble_eq_true rfl) hk dL_law__1542 ?_
  refine g_istore C dL_law__1545 (Nat.le_of_ble_eq_true rfl) rfl ?_
  refine g_aload_n C 4 dL_law__1547 rfl rfl ?_
  refine l_callMi C Lx [] (q12_thrown r2.2) r2.2 0 rfl (c12_thrown (l := Θ.1.2.1) (w := wm w aM) rfl Lx.2.2.1) w_8_130 w_8_127 w_8_128 w_8_129 w_1_14 ⟨rfl, rfl, (Nat.le_of_ble_eq_true rfl), (Nat.le_of_ble_eq_true rfl)⟩ (by decide +kernel) rfl rfl (Nat.le_of_ble_eq_true rfl) hk dL_law__1548 ?_
  refine g_iload C 1 dL_law__1551 rfl ?_
  refine g_icmp_eq C 1558 dL_law__1553 (by decide) (fun _ => ?_) (fun h => absurd (Sx_k he) h)
  refine g_iload C 1 dL_law__1558 rfl ?_
  refine g_if_ne C 1575 dL_law__1560 (by decide) (fun _ => ?_) (fun h0 => ?_)
  · refine g_goto C 3251 dL_law__1575 (by decide) ?_
    refine G.sub [2, 3, 4, 5, 6] rfl ?_
    exact K _ _ _ hR2
  · refine g_aload_n C 5 dL_law__1563 rfl rfl ?_
    refine g_iconst (v := 0) C dL_law__1564 rfl ?_
    refine l_lald C (by rw [Lx.1]) dL_law__1565 ?_
    refine g_iload C 0 dL_law__1566 rfl ?_
    refine g_i2l C dL_law__1568 ?_
    refine g_lcmp C dL_law__1569 ?_
    rw [Sx_o (f := (fun v => v)) (o := o) (by decide) he h0, lg_cmp_self]
    refine g_if_eq C 1575 dL_law__1570 (by decide) (fun _ => ?_) (fun h => absurd rfl h)
    refine g_goto C 3251 dL_law__1575 (by decide) ?_
    refine G.sub [2, 3, 4, 5, 6] rfl ?_
    exact K _ _ _ hR2

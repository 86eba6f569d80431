/-! case 48 -/
theorem dL_law__2699 : decode cL_law_ 2699 = .ok (.aload_n 1, 1) := by decide +kernel
theorem w_4_96 : Cond.selects "LastLoaf" ({ cls := "LastLoaf", name := "thick", desc := "()I" } : MethodName) ({ cls := "LastLoaf", name := "thick", desc := "()I" } : MethodName) ∈ TB := tb_in (lwt_4 (List.mem_of_getElem? (i := 96) (by decide +kernel))) rfl
theorem w_4_97 : Cond.code ({ cls := "LastLoaf", name := "thick", desc := "()I" } : MethodName) prog_1_method_50_code (3 : Nat) (Option.some ClassFile.FieldType.int) ∈ TB := tb_in (lwt_4 (List.mem_of_getElem? (i := 97) (by decide +kernel))) rfl
theorem w_4_94 : Cond.methodLink "LastLoafLaw" (318 : Nat) ({ cls := "LastLoaf", name := "thick", desc := "()I" } : MethodName) ∈ TB := tb_in (lwt_4 (List.mem_of_getElem? (i := 94) (by decide +kernel))) rfl
theorem w_4_95 : Cond.instanceMethod ({ cls := "LastLoaf", name := "thick", desc := "()I" } : MethodName) ∈ TB := tb_in (lwt_4 (List.mem_of_getElem? (i := 95) (by decide +kernel))) rfl
theorem dL_law__2700 : decode cL_law_ 2700 = .ok (.invokevirtual 318, 3) := by decide +kernel
theorem dL_law__2703 : decode cL_law_ 2703 = .ok (.aload_n 2, 1) := by decide +kernel
theorem w_10_219 : Cond.selects "LastLoafModel" ({ cls := "LastLoafModel", name := "thick", desc := "()I" } : MethodName) ({ cls := "LastLoafModel", name := "thick", desc := "()I" } : MethodName) ∈ TB := tb_in (lwt_10 (List.mem_of_getElem? (i := 219) (by decide +kernel))) rfl
theorem w_10_220 : Cond.code ({ cls := "LastLoafModel", name := "thick", desc := "()I" } : MethodName) prog_14_method_137_code (3 : Nat) (Option.some ClassFile.FieldType.int) ∈ TB := tb_in (lwt_10 (List.mem_of_getElem? (i := 220) (by decide +kernel))) rfl
theorem w_10_217 : Cond.methodLink "LastLoafLaw" (321 : Nat) ({ cls := "LastLoafModel", name := "thick", desc := "()I" } : MethodName) ∈ TB := tb_in (lwt_10 (List.mem_of_getElem? (i := 217) (by decide +kernel))) rfl
theorem w_10_218 : Cond.instanceMethod ({ cls := "LastLoafModel", name := "thick", desc := "()I" } : MethodName) ∈ TB := tb_in (lwt_10 (List.mem_of_getElem? (i := 218) (by decide +kernel))) rfl
theorem dL_law__2704 : decode cL_law_ 2704 = .ok (.invokevirtual 321, 3) := by decide +kernel
theorem dL_law__2707 : decode cL_law_ 2707 = .ok (.if_icmp .eq 544, 3) := by decide +kernel
def Op_thick (RR : St → St → Prop) : Prop := ∀ (σ μ : St), RR σ μ → ∃ (r1 : Int32) (r2 : (Int32 × St)), q11_thick σ  = some r1 ∧ q12_thick μ  = some r2 ∧ r1 = r2.1 ∧ RR σ r2.2
set_option maxHeartbeats 4000000 in
set_option maxRecDepth 100000 in
theorem law_48 {RR : St → St → Prop} (hop : Op_thick RR) {Θ : Tz} {cJ : ClassId} {Q : State → Prop} {w : Wp} {aM : Nat → Nat} {ao b L : Nat} {xs : Nat → Int32} (C : Gc Θ cL_law_ 7 RL (some .boolean) room_1 cJ) (hlt : Θ.1.2.1.stackTraces = false) (Lx : Lq Θ w aM ao) (S : Ls Θ b L xs) {σ μ : St} {o : Int64} {i kc ks : Nat} (hi : i + 6 ≤ L) (hk : kc + 4 ≤ 601024 ∧ ks + 24 ≤ 7293034) (hR : RR σ μ) (K : ∀ σ' μ' o', RR σ' μ' → G Θ 7 (kc + 4) (ks + 24) Q (LPx w aM ao cJ σ' μ' o') 3251 (llv w aM ao b i) []) : G Θ 7 kc ks Q (LPx w aM ao cJ σ μ o) 2699 (llv w aM ao b i) [] := by
  obtain ⟨r1, r2, h1, h2, he, hR2⟩ := hop σ μ hR 
  refine g_aload_n C 1 dL_law__2699 rfl rfl ?_
  refine l_callCi C Lx [] r1 σ 0 rfl (c11_thick (l := Θ.1.2.1) (w := w)  rfl Lx.2.1 h1) w_4_97 w_4_94 w_4_95 w_4_96 w_1_1 ⟨rfl, rfl, (Nat.le_of_ble_eq_true rfl), (Nat.le_of_ble_eq_true rfl)⟩ (by decide +kernel) rfl rfl (Nat.le_of_ble_eq_true rfl) ⟨Nat.le_trans (Nat.le_add_right _ _) hk.1, Nat.le_trans (Nat.le_add_right _ _) hk.2⟩ dL_law__2700 ?_
  refine g_aload_n C 2 dL_law__2703 rfl rfl ?_
  refine l_callMi C Lx [] r2.1 r2.2 0 rfl (c12_thick (l := Θ.1.2.1) (w := wm w aM)  rfl Lx.2.2.1 h2) w_10_220 w_10_217 w_10_218 w_10_219 w_1_14 ⟨rfl, rfl, (Nat.le_of_ble_eq_true rfl), (Nat.le_of_ble_eq_true rfl)⟩ (by decide +kernel) rfl rfl (Nat.le_of_ble_eq_true rfl) ⟨Nat.le_trans (Nat.le_add_right _ _) hk.1, Nat.le_trans (Nat.le_add_right _ _) hk.2⟩ dL_law__2704 ?_
  refine g_icmp_eq C 3251 dL_law__2707 (by decide) (fun _ => ?_) (fun h => absurd (he) h)
  exact G.wid (Nat.le_add_right _ _) (Nat.le_add_right _ _) (K _ _ o hR2)
/-! case 49 -/
theorem dL_law__2712 : decode cL_law_ 2712 = .ok (.aload_n 1, 1) := by decide +kernel
theorem w_4_100 : Cond.selects "LastLoaf" ({ cls := "LastLoaf", name := "bench", desc := "()I" } : MethodName) ({ cls := "LastLoaf", name := "bench", desc := "()I" } : MethodName) ∈ TB := tb_in (lwt_4 (List.mem_of_getElem? (i := 100) (by decide +kernel))) rfl
theorem w_4_101 : Cond.code ({ cls := "LastLoaf", name := "bench", desc := "()I" } : MethodName) prog_1_method_51_code (1 : Nat) (Option.some ClassFile.FieldType.int) ∈ TB := tb_in (lwt_4 (List.mem_of_getElem? (i := 101) (by decide +kernel))) rfl
theorem w_4_98 : Cond.methodLink "LastLoafLaw" (322 : Nat) ({ cls := "LastLoaf", name := "bench", desc := "()I" } : MethodName) ∈ TB := tb_in (lwt_4 (List.mem_of_getElem? (i := 98) (by decide +kernel))) rfl
theorem w_4_99 : Cond.instanceMethod ({ cls := "LastLoaf", name := "bench", desc := "()I" } : MethodName) ∈ TB := tb_in (lwt_4 (List.mem_of_getElem? (i := 99) (by decide +kernel))) rfl
theorem dL_law__2713 : decode cL_law_ 2713 = .ok (.invokevirtual 322, 3) := by decide +kernel
theorem dL_law__2716 : decode cL_law_ 2716 = .ok (.aload_n 2, 1) := by decide +kernel
theorem w_10_223 : Cond.selects "LastLoafModel" ({ cls := "LastLoafModel", name := "bench", desc := "()I" } : MethodName) ({ cls := "LastLoafModel", name := "bench", desc := "()I" } : MethodName) ∈ TB := tb_in (lwt_10 (List.mem_of_getElem? (i := 223) (by decide +kernel))) rfl
theorem w_10_224 : Cond.code ({ cls := "LastLoafModel", name := "bench", desc := "()I" } : MethodName) prog_14_method_138_code (1 : Nat) (Option.some ClassFile.FieldType.int) ∈ TB := tb_in (lwt_10 (List.mem_of_getElem? (i := 224) (by decide +kernel))) rfl
theorem w_10_221 : Cond.methodLink "LastLoafLaw" (325 : Nat) ({ cls := "LastLoafModel", name := "bench", desc := "()I" } : MethodName) ∈ TB := tb_in (lwt_10 (List.mem_of_getElem? (i := 221) (by decide +kernel))) rfl
theorem w_10_222 : Cond.instanceMethod ({ cls := "LastLoafModel", name := "bench", desc := "()I" } : MethodName) ∈ TB := tb_in (lwt_10 (List.mem_of_getElem? (i := 222) (by decide +kernel))) rfl
theorem dL_law__2717 : decode cL_law_ 2717 = .ok (.invokevirtual 325, 3) := by decide +kernel
theorem dL_law__2720 : decode cL_law_ 2720 = .ok (.if_icmp .eq 531, 3) := by decide +kernel
def Op_bench (RR : St → St → Prop) : Prop := ∀ (σ μ : St), RR σ μ → ∃ (r2 : (Int32 × St)), q12_bench μ  = some r2 ∧ (q11_bench σ) = r2.1 ∧ RR σ r2.2
set_option maxHeartbeats 4000000 in
set_option maxRecDepth 100000 in
theorem law_49 {RR : St → St → Prop} (hop : Op_bench RR) {Θ : Tz} {cJ : ClassId} {Q : State → Prop} {w : Wp} {aM : Nat → Nat} {ao b L : Nat} {xs : Nat → Int32} (C : Gc Θ cL_law_ 7 RL (some .boolean) room_1 cJ) (hlt : Θ.1.2.1.stackTraces = false) (Lx : Lq Θ w aM ao) (S : Ls Θ b L xs) {σ μ : St} {o : Int64} {i kc ks : Nat} (hi : i + 6 ≤ L) (hk : kc + 4 ≤ 601024 ∧ ks + 24 ≤ 7293034) (hR : RR σ μ) (K : ∀ σ' μ' o', RR σ' μ' → G Θ 7 (kc + 4) (ks + 24) Q (LPx w aM ao cJ σ' μ' o') 3251 (llv w aM ao b i) []) : G Θ 7 kc ks Q (LPx w aM ao cJ σ μ o) 2712 (llv w aM ao b i) [] := by
  obtain ⟨r2, h2, he, hR2⟩ := hop σ μ hR 
  refine g_aload_n C 1 dL_law__2712 rfl rfl ?_
  refine l_callCi C Lx [] (q11_bench σ) σ 0 rfl (c11_bench (l := Θ.1.2.1) (w := w)  rfl Lx.2.1 ) w_4_101 w_4_98 w_4_99 w_4_100 w_1_1 ⟨rfl, rfl, (Nat.le_of_ble_eq_true rfl), (Nat.le_of_ble_eq_true rfl)⟩ (by decide +kernel) rfl rfl (Nat.le_of_ble_eq_true rfl) ⟨Nat.le_trans (Nat.le_add_right _ _) hk.1, Nat.le_trans (Nat.le_add_right _ _) hk.2⟩ dL_law__2713 ?_
  refine g_aload_n C 2 dL_law__2716 rfl rfl ?_
  refine l_callMi C Lx [] r2.1 r2.2 0 rfl (c12_bench (l := Θ.1.2.1) (w := wm w aM)  rfl Lx.2.2.1 h2) w_10_224 w_10_221 w_10_222 w_10_223 w_1_14 ⟨rfl, rfl, (Nat.le_of_ble_eq_true rfl), (Nat.le_of_ble_eq_true rfl)⟩ (by decide +kernel) rfl rfl (Nat.le_of_ble_eq_true rfl) ⟨Nat.le_trans (Nat.le_add_right _ _) hk.1, Nat.le_trans (Nat.le_add_right _ _) hk.2⟩ dL_law__2717 ?_
  refine g_icmp_eq C 3251 dL_law__2720 (by decide) (fun _ => ?_) (fun h => absurd (he) h)
  exact G.wid (Nat.le_add_right _ _) (Nat.le_add_right _ _) (K _ _ o hR2)
/-! case 50 -/
theorem dL_law__2725 : decode cL_law_ 2725 = .ok (.aload_n 1, 1) := by decide +kernel
theorem w_4_104 : Cond.selects "LastLoaf" ({ cls := "LastLoaf", name := "crowd", desc := "()I" } : MethodName) ({ cls := "LastLoaf", name := "crowd", desc := "()I" } : MethodName) ∈ TB := tb_in (lwt_4 (List.mem_of_getElem? (i := 104) (by decide +kernel))) rfl
theorem w_4_105 : Cond.code ({ cls := "LastLoaf", name := "crowd", desc := "()I" } : MethodName) prog_1_method_52_code (1 : Nat) (Option.some ClassFile.FieldType.int) ∈ TB := tb_in (lwt_4 (List.mem_of_getElem? (i := 105) (by decide +kernel))) rfl
theorem w_4_102 : Cond.methodLink "LastLoafLaw" (326 : Nat) ({ cls := "LastLoaf", name := "crowd", desc := "()I" } : MethodName) ∈ TB := tb_in (lwt_4 (List.mem_of_getElem? (i := 102) (by decide +kernel))) rfl
theorem w_4_103 : Cond.instanceMethod ({ cls := "LastLoaf", name := "crowd", desc := "()I" } : MethodName) ∈ TB := tb_in (lwt_4 (List.mem_of_getElem? (i := 103) (by decide +kernel))) rfl
theorem dL_law__2726 : decode cL_law_ 2726 = .ok (.invokevirtual 326, 3) := by decide +kernel
theorem dL_law__2729 : decode cL_law_ 2729 = .ok (.aload_n 2, 1) := by decide +kernel
theorem w_10_227 : Cond.selects "LastLoafModel" ({ cls := "LastLoafModel", name := "crowd", desc := "()I" } : MethodName) ({ cls := "LastLoafModel", name := "crowd", desc := "()I" } : MethodName) ∈ TB := tb_in (lwt_10 (List.mem_of_getElem? (i := 227) (by decide +kernel))) rfl
theorem w_10_228 : Cond.code ({ cls := "LastLoafModel", name := "crowd", desc := "()I" } : MethodName) prog_14_method_139_code (1 : Nat) (Option.some ClassFile.FieldType.int) ∈ TB := tb_in (lwt_10 (List.mem_of_getElem? (i := 228) (by decide +kernel))) rfl
theorem w_10_225 : Cond.methodLink "LastLoafLaw" (329 : Nat) ({ cls := "LastLoafModel", name := "crowd", desc := "()I" } : MethodName) ∈ TB := tb_in (lwt_10 (List.mem_of_getElem? (i := 225) (by decide +kernel))) rfl
theorem w_10_226 : Cond.instanceMethod ({ cls := "LastLoafModel", name := "crowd", desc := "()I" } : MethodName) ∈ TB := tb_in (lwt_10 (List.mem_of_getElem? (i := 226) (by decide +kernel))) rfl
theorem dL_law__2730 : decode cL_law_ 2730 = .ok (.invokevirtual 329, 3) := by decide +kernel
theorem dL_law__2733 : decode cL_law_ 2733 = .ok (.if_icmp .eq 518, 3) := by decide +kernel
def Op_crowd (RR : St → St → Prop) : Prop := ∀ (σ μ : St), RR σ μ → ∃ (r2 : (Int32 × St)), q12_crowd μ  = some r2 ∧ (q11_crowd σ) = r2.1 ∧ RR σ r2.2
set_option maxHeartbeats 4000000 in
set_option maxRecDepth 100000 in
theorem law_50 {RR : St → St → Prop} (hop : Op_crowd RR) {Θ : Tz} {cJ : ClassId} {Q : State → Prop} {w : Wp} {aM : Nat → Nat} {ao b L : Nat} {xs : Nat → Int32} (C : Gc Θ cL_law_ 7 RL (some .boolean) room_1 cJ) (hlt : Θ.1.2.1.stackTraces = false) (Lx : Lq Θ w aM ao) (S : Ls Θ b L xs) {σ μ : St} {o : Int64} {i kc ks : Nat} (hi : i + 6 ≤ L) (hk : kc + 4 ≤ 601024 ∧ ks + 24 ≤ 7293034) (hR : RR σ μ) (K : ∀ σ' μ' o', RR σ' μ' → G Θ 7 (kc + 4) (ks + 24) Q (LPx w aM ao cJ σ' μ' o') 3251 (llv w aM ao b i) []) : G Θ 7 kc ks Q (LPx w aM ao cJ σ μ o) 2725 (llv w aM ao b i) [] := by
  obtain ⟨r2, h2, he, hR2⟩ := hop σ μ hR 
  refine g_aload_n C 1 dL_law__2725 rfl rfl ?_
  refine l_callCi C Lx [] (q11_crowd σ) σ 0 rfl (c11_crowd (l := Θ.1.2.1) (w := w)  rfl Lx.2.1 ) w_4_105 w_4_102 w_4_103 w_4_104 w_1_1 ⟨rfl, rfl, (Nat.le_of_ble_eq_true rfl), (Nat.le_of_ble_eq_true rfl)⟩ (by decide +kernel) rfl rfl (Nat.le_of_ble_eq_true rfl) ⟨Nat.le_trans (Nat.le_add_right _ _) hk.1, Nat.le_trans (Nat.le_add_right _ _) hk.2⟩ dL_law__2726 ?_
  refine g_aload_n C 2 dL_law__2729 rfl rfl ?_
  refine l_callMi C Lx [] r2.1 r2.2 0 rfl (c12_crowd (l := Θ.1.2.1) (w := wm w aM)  rfl Lx.2.2.1 h2) w_10_228 w_10_225 w_10_226 w_10_227 w_1_14 ⟨rfl, rfl, (Nat.le_of_ble_eq_true rfl), (Nat.le_of_ble_eq_true rfl)⟩ (by decide +kernel) rfl rfl (Nat.le_of_ble_eq_true rfl) ⟨Nat.le_trans (Nat.le_add_right _ _) hk.1, Nat.le_trans (Nat.le_add_right _ _) hk.2⟩ dL_law__2730 ?_
  refine g_icmp_eq C 3251 dL_law__2733 (by decide) (fun _ => ?_) (fun h => absurd (he) h)
  exact G.wid (Nat.le_add_right _ _) (Nat.le_add_right _ _) (K _ _ o hR2)
/-! case 51 -/
theorem dL_law__2738 : decode cL_law_ 2738 = .ok (.aload_n 1, 1) := by decide +kernel
theorem w_4_108 : Cond.selects "LastLoaf" ({ cls := "LastLoaf", name := "never", desc := "()I" } : MethodName) ({ cls := "LastLoaf", name := "never", desc := "()I" } : MethodName) ∈ TB := tb_in (lwt_4 (List.mem_of_getElem? (i := 108) (by decide +kernel))) rfl
theorem w_4_109 : Cond.code ({ cls := "LastLoaf", name := "never", desc := "()I" } : MethodName) prog_1_method_53_code (3 : Nat) (Option.some ClassFile.FieldType.int) ∈ TB := tb_in (lwt_4 (List.mem_of_getElem? (i := 109) (by decide +kernel))) rfl
theorem w_4_106 : Cond.methodLink "LastLoafLaw" (330 : Nat) ({ cls := "LastLoaf", name := "never", desc := "()I" } : MethodName) ∈ TB := tb_in (lwt_4 (List.mem_of_getElem? (i := 106) (by decide +kernel))) rfl
theorem w_4_107 : Cond.instanceMethod ({ cls := "LastLoaf", name := "never", desc := "()I" } : MethodName) ∈ TB := tb_in (lwt_4 (List.mem_of_getElem? (i := 107) (by decide +kernel))) rfl
theorem dL_law__2739 : decode cL_law_ 2739 = .ok (.invokevirtual 330, 3) := by decide +kernel
theorem dL_law__2742 : decode cL_law_ 2742 = .ok (.aload_n 2, 1) := by decide +kernel
theorem w_10_231 : Cond.selects "LastLoafModel" ({ cls := "LastLoafModel", name := "never", desc := "()I" } : MethodName) ({ cls := "LastLoafModel", name := "never", desc := "()I" } : MethodName) ∈ TB := tb_in (lwt_10 (List.mem_of_getElem? (i := 231) (by decide +kernel))) rfl
theorem w_10_232 : Cond.code ({ cls := "LastLoafModel", name := "never", desc := "()I" } : MethodName) prog_14_method_140_code (1 : Nat) (Option.some ClassFile.FieldType.int) ∈ TB := tb_in (lwt_10 (List.mem_of_getElem? (i := 232) (by decide +kernel))) rfl
theorem w_10_229 : Cond.methodLink "LastLoafLaw" (333 : Nat) ({ cls := "LastLoafModel", name := "never", desc := "()I" } : MethodName) ∈ TB := tb_in (lwt_10 (List.mem_of_getElem? (i := 229) (by decide +kernel))) rfl
theorem w_10_230 : Cond.instanceMethod ({ cls := "LastLoafModel", name := "never", desc := "()I" } : MethodName) ∈ TB := tb_in (lwt_10 (List.mem_of_getElem? (i := 230) (by decide +kernel))) rfl
theorem dL_law__2743 : decode cL_law_ 2743 = .ok (.invokevirtual 333, 3) := by decide +kernel
theorem dL_law__2746 : decode cL_law_ 2746 = .ok (.if_icmp .eq 505, 3) := by decide +kernel
def Op_never (RR : St → St → Prop) : Prop := ∀ (σ μ : St), RR σ μ → ∃ (r1 : Int32) (r2 : (Int32 × St)), q11_never σ  = some r1 ∧ q12_never μ  = some r2 ∧ r1 = r2.1 ∧ RR σ r2.2
set_option maxHeartbeats 4000000 in
set_option maxRecDepth 100000 in
theorem law_51 {RR : St → St → Prop} (hop : Op_never RR) {Θ : Tz} {cJ : ClassId} {Q : State → Prop} {w : Wp} {aM : Nat → Nat} {ao b L : Nat} {xs : Nat → Int32} (C : Gc Θ cL_law_ 7 RL (some .boolean) room_1 cJ) (hlt : Θ.1.2.1.stackTraces = false) (Lx : Lq Θ w aM ao) (S : Ls Θ b L xs) {σ μ : St} {o : Int64} {i kc ks : Nat} (hi : i + 6 ≤ L) (hk : kc + 4 ≤ 601024 ∧ ks + 24 ≤ 7293034) (hR : RR σ μ) (K : ∀ σ' μ' o', RR σ' μ' → G Θ 7 (kc + 4) (ks + 24) Q (LPx w aM ao cJ σ' μ' o') 3251 (llv w aM ao b i) []) : G Θ 7 kc ks Q (LPx w aM ao cJ σ μ o) 2738 (llv w aM ao b i) [] := by
  obtain ⟨r1, r2, h1, h2, he, hR2⟩ := hop σ μ hR 
  refine g_aload_n C 1 dL_law__2738 rfl rfl ?_
  refine l_callCi C Lx [] r1 σ 0 rfl (c11_never (l := Θ.1.2.1) (w := w)  rfl Lx.2.1 h1) w_4_109 w_4_106 w_4_107 w_4_108 w_1_1 ⟨rfl, rfl, (Nat.le_of_ble_eq_true rfl), (Nat.le_of_ble_eq_true rfl)⟩ (by decide +kernel) rfl rfl (Nat.le_of_ble_eq_true rfl) ⟨Nat.le_trans (Nat.le_add_right _ _) hk.1, Nat.le_trans (Nat.le_add_right _ _) hk.2⟩ dL_law__2739 ?_
  refine g_aload_n C 2 dL_law__2742 rfl rfl ?_
  refine l_callMi C Lx [] r2.1 r2.2 0 rfl (c12_never (l := Θ.1.2.1) (w := wm w aM)  rfl Lx.2.2.1 h2) w_10_232 w_10_229 w_10_230 w_10_231 w_1_14 ⟨rfl, rfl, (Nat.le_of_ble_eq_true rfl), (Nat.le_of_ble_eq_true rfl)⟩ (by decide +kernel) rfl rfl (Nat.le_of_ble_eq_true rfl) ⟨Nat.le_trans (Nat.le_add_right _ _) hk.1, Nat.le_trans (Nat.le_add_right _ _) hk.2⟩ dL_law__2743 ?_
  refine g_icmp_eq C 3251 dL_law__2746 (by decide) (fun _ => ?_) (fun h => absurd (he) h)
  exact G.wid (Nat.le_add_right _ _) (Nat.le_add_right _ _) (K _ _ o hR2)
/-! case 52 -/
theorem dL_law__2751 : decode cL_law_ 2751 = .ok (.aload_n 1, 1) := by decide +kernel
theorem w_4_112 : Cond.selects "LastLoaf" ({ cls := "LastLoaf", name := "alike", desc := "()I" } : MethodName) ({ cls := "LastLoaf", name := "alike", desc := "()I" } : MethodName) ∈ TB := tb_in (lwt_4 (List.mem_of_getElem? (i := 112) (by decide +kernel))) rfl
theorem w_4_113 : Cond.code ({ cls := "LastLoaf", name := "alike", desc := "()I" } : MethodName) prog_1_method_54_code (4 : Nat) (Option.some ClassFile.FieldType.int) ∈ TB := tb_in (lwt_4 (List.mem_of_getElem? (i := 113) (by decide +kernel))) rfl
theorem w_4_110 : Cond.methodLink "LastLoafLaw" (334 : Nat) ({ cls := "LastLoaf", name := "alike", desc := "()I" } : MethodName) ∈ TB := tb_in (lwt_4 (List.mem_of_getElem? (i := 110) (by decide +kernel))) rfl
theorem w_4_111 : Cond.instanceMethod ({ cls := "LastLoaf", name := "alike", desc := "()I" } : MethodName) ∈ TB := tb_in (lwt_4 (List.mem_of_getElem? (i := 111) (by decide +kernel))) rfl
theorem dL_law__2752 : decode cL_law_ 2752 = .ok (.invokevirtual 334, 3) := by decide +kernel
theorem dL_law__2755 : decode cL_law_ 2755 = .ok (.aload_n 2, 1) := by decide +kernel
theorem w_10_235 : Cond.selects "LastLoafModel" ({ cls := "LastLoafModel", name := "alike", desc := "()I" } : MethodName) ({ cls := "LastLoafModel", name := "alike", desc := "()I" } : MethodName) ∈ TB := tb_in (lwt_10 (List.mem_of_getElem? (i := 235) (by decide +kernel))) rfl
theorem w_10_236 : Cond.code ({ cls := "LastLoafModel", name := "alike", desc := "()I" } : MethodName) prog_14_method_141_code (4 : Nat) (Option.some ClassFile.FieldType.int) ∈ TB := tb_in (lwt_10 (List.mem_of_getElem? (i := 236) (by decide +kernel))) rfl
theorem w_10_233 : Cond.methodLink "LastLoafLaw" (337 : Nat) ({ cls := "LastLoafModel", name := "alike", desc := "()I" } : MethodName) ∈ TB := tb_in (lwt_10 (List.mem_of_getElem? (i := 233) (by decide +kernel))) rfl
theorem w_10_234 : Cond.instanceMethod ({ cls := "LastLoafModel", name := "alike", desc := "()I" } : MethodName) ∈ TB := tb_in (lwt_10 (List.mem_of_getElem? (i := 234) (by decide +kernel))) rfl
theorem dL_law__2756 : decode cL_law_ 2756 = .ok (.invokevirtual 337, 3) := by decide +kernel
theorem dL_law__2759 : decode cL_law_ 2759 = .ok (.if_icmp .eq 492, 3) := by decide +kernel
def Op_alike (RR : St → St → Prop) : Prop := ∀ (σ μ : St), RR σ μ → ∃ (r1 : Int32) (r2 : (Int32 × St)), q11_alike σ  = some r1 ∧ q12_alike μ  = some r2 ∧ r1 = r2.1 ∧ RR σ r2.2
set_option maxHeartbeats 4000000 in
set_option maxRecDepth 100000 in
theorem law_52 {RR : St → St → Prop} (hop : Op_alike RR) {Θ : Tz} {cJ : ClassId} {Q : State → Prop} {w : Wp} {aM : Nat → Nat} {ao b L : Nat} {xs : Nat → Int32} (C : Gc Θ cL_law_ 7 RL (some .boolean) room_1 cJ) (hlt : Θ.1.2.1.stackTraces = false) (Lx : Lq Θ w aM ao) (S : Ls Θ b L xs) {σ μ : St} {o : Int64} {i kc ks : Nat} (hi : i + 6 ≤ L) (hk : kc + 4 ≤ 601024 ∧ ks + 24 ≤ 7293034) (hR : RR σ μ) (K : ∀ σ' μ' o', RR σ' μ' → G Θ 7 (kc + 4) (ks + 24) Q (LPx w aM ao cJ σ' μ' o') 3251 (llv w aM ao b i) []) : G Θ 7 kc ks Q (LPx w aM ao cJ σ μ o) 2751 (llv w aM ao b i) [] := by
  obtain ⟨r1, r2, h1, h2, he, hR2⟩ := hop σ μ hR 
  refine g_aload_n C 1 dL_law__2751 rfl rfl ?_
  refine l_callCi C Lx [] r1 σ 0 rfl (c11_alike (l := Θ.1.2.1) (w := w)  rfl Lx.2.1 h1) w_4_113 w_4_110 w_4_111 w_4_112 w_1_1 ⟨rfl, rfl, (Nat.le_of_ble_eq_true rfl), (Nat.le_of_ble_eq_true rfl)⟩ (by decide +kernel) rfl rfl (Nat.le_of_ble_eq_true rfl) ⟨Nat.le_trans (Nat.le_add_right _ _) hk.1, Nat.le_trans (Nat.le_add_right _ _) hk.2⟩ dL_law__2752 ?_
  refine g_aload_n C 2 dL_law__2755 rfl rfl ?_
  refine l_callMi C Lx [] r2.1 r2.2 0 rfl (c12_alike (l := Θ.1.2.1) (w := wm w aM)  rfl Lx.2.2.1 h2) w_10_236 w_10_233 w_10_234 w_10_235 w_1_14 ⟨rfl, rfl, (Nat.le_of_ble_eq_true rfl), (Nat.le_of_ble_eq_true rfl)⟩ (by decide +kernel) rfl rfl (Nat.le_of_ble_eq_true rfl) ⟨Nat.le_trans (Nat.le_add_right _ _) hk.1, Nat.le_trans (Nat.le_add_right _ _) hk.2⟩ dL_law__2756 ?_
  refine g_icmp_eq C 3251 dL_law__2759 (by decide) (fun _ => ?_) (fun h => absurd (he) h)
  exact G.wid (Nat.le_add_right _ _) (Nat.le_add_right _ _) (K _ _ o hR2)
/-! case 53 -/
theorem dL_law__2764 : decode cL_law_ 2764 = .ok (.aload_n 1, 1) := by decide +kernel
theorem dL_law__2765 : decode cL_law_ 2765 = .ok (.aload_n 0, 1) := by decide +kernel
theorem dL_law__2766 : decode cL_law_ 2766 = .ok (.iload 4, 2) := by decide +kernel
theorem dL_law__2768 : decode cL_law_ 2768 = .ok (.iconst 1, 1) := by decide +kernel
theorem dL_law__2769 : decode cL_law_ 2769 = .ok (.iadd, 1) := by decide +kernel
theorem dL_law__2770 : decode cL_law_ 2770 = .ok (.iaload, 1) := by decide +kernel
theorem dL_law__2771 : decode cL_law_ 2771 = .ok (.aload_n 0, 1) := by decide +kernel
theorem dL_law__2772 : decode cL_law_ 2772 = .ok (.iload 4, 2) := by decide +kernel
theorem dL_law__2774 : decode cL_law_ 2774 = .ok (.iconst 2, 1) := by decide +kernel
theorem dL_law__2775 : decode cL_law_ 2775 = .ok (.iadd, 1) := by decide +kernel
theorem dL_law__2776 : decode cL_law_ 2776 = .ok (.iaload, 1) := by decide +kernel
theorem dL_law__2777 : decode cL_law_ 2777 = .ok (.aload_n 0, 1) := by decide +kernel
theorem dL_law__2778 : decode cL_law_ 2778 = .ok (.iload 4, 2) := by decide +kernel
theorem dL_law__2780 : decode cL_law_ 2780 = .ok (.iconst 3, 1) := by decide +kernel
theorem dL_law__2781 : decode cL_law_ 2781 = .ok (.iadd, 1) := by decide +kernel
theorem dL_law__2782 : decode cL_law_ 2782 = .ok (.iaload, 1) := by decide +kernel
theorem dL_law__2783 : decode cL_law_ 2783 = .ok (.aload_n 3, 1) := by decide +kernel
theorem w_7_211 : Cond.codeWith ({ cls := "LastLoafLaw", name := "ahead", desc := "(LLastLoaf;III[J)I" } : MethodName) method_37_code (6 : Nat) (Option.some ClassFile.FieldType.int) [((0 : Nat), (12 : Nat), (15 : Nat), (24 : Nat)), ((0 : Nat), (12 : Nat), (19 : Nat), (13 : Nat)), ((0 : Nat), (12 : Nat), (23 : Nat), (26 : Nat))] ∈ TB := tb_in (lwt_7 (List.mem_of_getElem? (i := 211) (by decide +kernel))) rfl
theorem w_7_209 : Cond.methodLink "LastLoafLaw" (338 : Nat) ({ cls := "LastLoafLaw", name := "ahead", desc := "(LLastLoaf;III[J)I" } : MethodName) ∈ TB := tb_in (lwt_7 (List.mem_of_getElem? (i := 209) (by decide +kernel))) rfl
theorem w_7_210 : Cond.static ({ cls := "LastLoafLaw", name := "ahead", desc := "(LLastLoaf;III[J)I" } : MethodName) ∈ TB := tb_in (lwt_7 (List.mem_of_getElem? (i := 210) (by decide +kernel))) rfl
theorem dL_law__2784 : decode cL_law_ 2784 = .ok (.invokestatic 338, 3) := by decide +kernel
theorem dL_law__2787 : decode cL_law_ 2787 = .ok (.istore 5, 2) := by decide +kernel
theorem dL_law__2789 : decode cL_law_ 2789 = .ok (.aload_n 2, 1) := by decide +kernel
theorem dL_law__2790 : decode cL_law_ 2790 = .ok (.aload_n 0, 1) := by decide +kernel
theorem dL_law__2791 : decode cL_law_ 2791 = .ok (.iload 4, 2) := by decide +kernel
theorem dL_law__2793 : decode cL_law_ 2793 = .ok (.iconst 1, 1) := by decide +kernel
theorem dL_law__2794 : decode cL_law_ 2794 = .ok (.iadd, 1) := by decide +kernel
theorem dL_law__2795 : decode cL_law_ 2795 = .ok (.iaload, 1) := by decide +kernel
theorem dL_law__2796 : decode cL_law_ 2796 = .ok (.aload_n 0, 1) := by decide +kernel
theorem dL_law__2797 : decode cL_law_ 2797 = .ok (.iload 4, 2) := by decide +kernel
theorem dL_law__2799 : decode cL_law_ 2799 = .ok (.iconst 2, 1) := by decide +kernel
theorem dL_law__2800 : decode cL_law_ 2800 = .ok (.iadd, 1) := by decide +kernel
theorem dL_law__2801 : decode cL_law_ 2801 = .ok (.iaload, 1) := by decide +kernel
theorem dL_law__2802 : decode cL_law_ 2802 = .ok (.aload_n 0, 1) := by decide +kernel
theorem dL_law__2803 : decode cL_law_ 2803 = .ok (.iload 4, 2) := by decide +kernel
theorem dL_law__2805 : decode cL_law_ 2805 = .ok (.iconst 3, 1) := by decide +kernel
theorem dL_law__2806 : decode cL_law_ 2806 = .ok (.iadd, 1) := by decide +kernel
theorem dL_law__2807 : decode cL_law_ 2807 = .ok (.iaload, 1) := by decide +kernel
theorem w_10_239 : Cond.selects "LastLoafModel" ({ cls := "LastLoafModel", name := "ahead", desc := "(III)I" } : MethodName) ({ cls := "LastLoafModel", name := "ahead", desc := "(III)I" } : MethodName) ∈ TB := tb_in (lwt_10 (List.mem_of_getElem? (i := 239) (by decide +kernel))) rfl
theorem w_11_0 : Cond.code ({ cls := "LastLoafModel", name := "ahead", desc := "(III)I" } : MethodName) prog_14_method_142_code (6 : Nat) (Option.some ClassFile.FieldType.int) ∈ TB := tb_in (lwt_11 (List.mem_of_getElem? (i := 0) (by decide +kernel))) rfl
theorem w_10_237 : Cond.methodLink "LastLoafLaw" (340 : Nat) ({ cls := "LastLoafModel", name := "ahead", desc := "(III)I" } : MethodName) ∈ TB := tb_in (lwt_10 (List.mem_of_getElem? (i := 237) (by decide +kernel))) rfl
theorem w_10_238 : Cond.instanceMethod ({ cls := "LastLoafModel", name := "ahead", desc := "(III)I" } : MethodName) ∈ TB := tb_in (lwt_10 (List.mem_of_getElem? (i := 238) (by decide +kernel))) rfl
theorem dL_law__2808 : decode cL_law_ 2808 = .ok (.invokevirtual 340, 3) := by decide +kernel
theorem dL_law__2811 : decode cL_law_ 2811 = .ok (.istore 6, 2) := by decide +kernel
theorem dL_law__2813 : decode cL_law_ 2813 = .ok (.aload_n 2, 1) := by decide +kernel
theorem dL_law__2814 : decode cL_law_ 2814 = .ok (.invokevirtual 163, 3) := by decide +kernel
theorem dL_law__2817 : decode cL_law_ 2817 = .ok (.iload 5, 2) := by decide +kernel
theorem dL_law__2819 : decode cL_law_ 2819 = .ok (.if_icmp .eq 5, 3) := by decide +kernel
theorem dL_law__2824 : decode cL_law_ 2824 = .ok (.iload 5, 2) := by decide +kernel
theorem dL_law__2826 : decode cL_law_ 2826 = .ok (.ifCond .ne 15, 3) := by decide +kernel
theorem dL_law__2841 : decode cL_law_ 2841 = .ok (.goto 410, 3) := by decide +kernel
theorem dL_law__2829 : decode cL_law_ 2829 = .ok (.aload_n 3, 1) := by decide +kernel
theorem dL_law__2830 : decode cL_law_ 2830 = .ok (.iconst 0, 1) := by decide +kernel
theorem dL_law__2831 : decode cL_law_ 2831 = .ok (.laload, 1) := by decide +kernel
theorem dL_law__2832 : decode cL_law_ 2832 = .ok (.iload 6, 2) := by decide +kernel
theorem dL_law__2834 : decode cL_law_ 2834 = .ok (.i2l, 1) := by decide +kernel
theorem dL_law__2835 : decode cL_law_ 2835 = .ok (.lcmp, 1) := by decide +kernel
theorem dL_law__2836 : decode cL_law_ 2836 = .ok (.ifCond .eq 5, 3) := by decide +kernel
def Op_ahead (RR : St → St → Prop) : Prop := ∀ (σ μ : St), RR σ μ → ∀ (a0 : Int32) (a1 : Int32) (a2 : Int32), ∃ (r1 : Sum Nat Int32 × St) (r2 : Int32 × St), q11_ahead σ a0 a1 a2 = some r1 ∧ q12_ahead μ a0 a1 a2 = some r2 ∧ Sx [2, 0, 4] r1 r2 ∧ RR r1.2 r2.2
set_option maxHeartbeats 4000000 in
set_option maxRecDepth 100000 in
theorem law_53 {RR : St → St → Prop} (hop : Op_ahead RR) {Θ : Tz} {cJ : ClassId} {Q : State → Prop} {w : Wp} {aM : Nat → Nat} {ao b L : Nat} {xs : Nat → Int32} (C : Gc Θ cL_law_ 7 RL (some .boolean) room_1 cJ) (hlt : Θ.1.2.1.stackTraces = false) (Lx : Lq Θ w aM ao) (S : Ls Θ b L xs) {σ μ : St} {o : Int64} {i kc ks : Nat} (hi : i + 6 ≤ L) (hk : kc + 4 ≤ 601024 ∧ ks + 24 ≤ 7293034) (hR : RR σ μ) (K : ∀ σ' μ' o', RR σ' μ' → G Θ 7 (kc + 4) (ks + 24) Q (LPx w aM ao cJ σ' μ' o') 3251 (llv w aM ao b i) []) : G Θ 7 kc ks Q (LPx w aM ao cJ σ μ o) 2764 (llv w aM ao b i) [] := by
  obtain ⟨r1, r2, h1, h2, he, hR2⟩ := hop σ μ hR (xs (i + 1)) (xs (i + 2)) (xs (i + 3))
  refine g_aload_n C 1 dL_law__2764 rfl rfl ?_
  refine l_arg C S 0 4 1 rfl rfl (by omega) rfl dL_law__2765 dL_law__2766 dL_law__2768 dL_law__2769 dL_law__2770 ?_
  refine l_arg C S 0 4 2 rfl rfl (by omega) rfl dL_law__2771 dL_law__2772 dL_law__2774 dL_law__2775 dL_law__2776 ?_
  refine l_arg C S 0 4 3 rfl rfl (by omega) rfl dL_law__2777 dL_law__2778 dL_law__2780 dL_law__2781 dL_law__2782 ?_
  refine g_aload_n C 3 dL_law__2783 rfl rfl ?_
  refine l_callW C Lx [.ref (w.2.2.1 0), .int (xs (i + 1)), .int (xs (i + 2)), .int (xs (i + 3)), .ref ao] 5 (wr_ahead (l := Θ.1.2.1) Lx.2.1 hlt Lx.2.2.2.2.2.2.2.1 h1 (Sx_in he)) w_7_211 w_7_209 w_7_210 w_1_0 ⟨rfl, rfl, (Nat.le_of_ble_eq_true rfl), (Nat.le_of_ble_eq_true rfl)⟩ (by decide +kernel) rfl rfl (Nat.le_of_ble_eq_true rfl) hk dL_law__2784 ?_
  refine g_istore C dL_law__2787 (Nat.le_of_ble_eq_true rfl) rfl ?_
  refine g_aload_n C 3 dL_law__2789 rfl rfl ?_
  refine l_arg C S 1 5 1 rfl rfl (by omega) rfl dL_law__2790 dL_law__2791 dL_law__2793 dL_law__2794 dL_law__2795 ?_
  refine l_arg C S 1 5 2 rfl rfl (by omega) rfl dL_law__2796 dL_law__2797 dL_law__2799 dL_law__2800 dL_law__2801 ?_
  refine l_arg C S 1 5 3 rfl rfl (by omega) rfl dL_law__2802 dL_law__2803 dL_law__2805 dL_law__2806 dL_law__2807 ?_
  refine l_callMi C Lx [.int (xs (i + 1)), .int (xs (i + 2)), .int (xs (i + 3))] r2.1 r2.2 3 rfl (c12_ahead (l := Θ.1.2.1) (w := wm w aM) (p_a := (xs (i + 1))) (n_a := (xs (i + 2))) (what_a := (xs (i + 3))) rfl Lx.2.2.1 h2) w_11_0 w_10_237 w_10_238 w_10_239 w_1_14 ⟨rfl, rfl, (Nat.le_of_ble_eq_true rfl), (Nat.le_of_ble_eq_true rfl)⟩ (by decide +kernel) rfl rfl (Nat.le_of_ble_eq_true rfl) hk dL_law__2808 ?_
  refine g_istore C dL_law__2811 (Nat.le_of_ble_eq_true rfl) rfl ?_
  refine g_aload_n C 4 dL_law__2813 rfl rfl ?_
  refine l_callMi C Lx [] (q12_thrown r2.2) r2.2 0 rfl (c12_thrown (l := Θ.1.2.1) (w := wm w aM) rfl Lx.2.2.1) w_8_130 w_8_127 w_8_128 w_8_129 w_1_14 ⟨rfl, rfl, (Nat.le_of_ble_eq_true rfl), (Nat.le_of_ble_eq_true rfl)⟩ (by decide +kernel) rfl rfl (Nat.le_of_ble_eq_true rfl) hk dL_law__2814 ?_
  refine g_iload C 1 dL_law__2817 rfl ?_
  refine g_icmp_eq C 2824 dL_law__2819 (by decide) (fun _ => ?_) (fun h => absurd (Sx_k he) h)
  refine g_iload C 1 dL_law__2824 rfl ?_
  refine g_if_ne C 2841 dL_law__2826 (by decide) (fun _ => ?_) (fun h0 => ?_)
  · refine g_goto C 3251 dL_law__2841 (by decide) ?_
    refine G.sub [2, 3, 4, 5, 6] rfl ?_
    exact K _ _ _ hR2
  · refine g_aload_n C 5 dL_law__2829 rfl rfl ?_
    refine g_iconst (v := 0) C dL_law__2830 rfl ?_
    refine l_lald C (by rw [Lx.1]) dL_law__2831 ?_
    refine g_iload C 0 dL_law__2832 rfl ?_
    refine g_i2l C dL_law__2834 ?_
    refine g_lcmp C dL_law__2835 ?_
    rw [Sx_o (f := (fun v => v)) (o := o) (by decide) he h0, lg_cmp_self]
    refine g_if_eq C 2841 dL_law__2836 (by decide) (fun _ => ?_) (fun h => absurd rfl h)
    refine g_goto C 3251 dL_law__2841 (by decide) ?_
    refine G.sub [2, 3, 4, 5, 6] rfl ?_
    exact K _ _ _ hR2
/-! case 54 -/
theorem dL_law__2844 : decode cL_law_ 2844 = .ok (.aload_n 1, 1) := by decide +kernel
theorem dL_law__2845 : decode cL_law_ 2845 = .ok (.aload_n 0, 1) := by decide +kernel
theorem dL_law__2846 : decode cL_law_ 2846 = .ok (.iload 4, 2) := by decide +kernel
theorem dL_law__2848 : decode cL_law_ 2848 = .ok (.iconst 1, 1) := by decide +kernel
theorem dL_law__2849 : decode cL_law_ 2849 = .ok (.iadd, 1) := by decide +kernel
theorem dL_law__2850 : decode cL_law_ 2850 = .ok (.iaload, 1) := by decide +kernel
theorem dL_law__2851 : decode cL_law_ 2851 = .ok (.aload_n 0, 1) := by decide +kernel
theorem dL_law__2852 : decode cL_law_ 2852 = .ok (.iload 4, 2) := by decide +kernel
theorem dL_law__2854 : decode cL_law_ 2854 = .ok (.iconst 2, 1) := by decide +kernel
theorem dL_law__2855 : decode cL_law_ 2855 = .ok (.iadd, 1) := by decide +kernel
theorem dL_law__2856 : decode cL_law_ 2856 = .ok (.iaload, 1) := by decide +kernel
theorem dL_law__2857 : decode cL_law_ 2857 = .ok (.ifCond .eq 7, 3) := by decide +kernel
theorem dL_law__2860 : decode cL_law_ 2860 = .ok (.iconst 1, 1) := by decide +kernel
theorem dL_law__2861 : decode cL_law_ 2861 = .ok (.goto 4, 3) := by decide +kernel
theorem dL_law__2864 : decode cL_law_ 2864 = .ok (.iconst 0, 1) := by decide +kernel
theorem dL_law__2865 : decode cL_law_ 2865 = .ok (.aload_n 3, 1) := by decide +kernel
theorem w_7_219 : Cond.codeWith ({ cls := "LastLoafLaw", name := "trial", desc := "(LLastLoaf;IZ[J)I" } : MethodName) method_38_code (5 : Nat) (Option.some ClassFile.FieldType.int) [((0 : Nat), (10 : Nat), (13 : Nat), (13 : Nat))] ∈ TB := tb_in (lwt_7 (List.mem_of_getElem? (i := 219) (by decide +kernel))) rfl
theorem w_7_217 : Cond.methodLink "LastLoafLaw" (341 : Nat) ({ cls := "LastLoafLaw", name := "trial", desc := "(LLastLoaf;IZ[J)I" } : MethodName) ∈ TB := tb_in (lwt_7 (List.mem_of_getElem? (i := 217) (by decide +kernel))) rfl
theorem w_7_218 : Cond.static ({ cls := "LastLoafLaw", name := "trial", desc := "(LLastLoaf;IZ[J)I" } : MethodName) ∈ TB := tb_in (lwt_7 (List.mem_of_getElem? (i := 218) (by decide +kernel))) rfl
theorem dL_law__2866 : decode cL_law_ 2866 = .ok (.invokestatic 341, 3) := by decide +kernel
theorem dL_law__2869 : decode cL_law_ 2869 = .ok (.istore 5, 2) := by decide +kernel
theorem dL_law__2871 : decode cL_law_ 2871 = .ok (.aload_n 2, 1) := by decide +kernel
theorem dL_law__2872 : decode cL_law_ 2872 = .ok (.aload_n 0, 1) := by decide +kernel
theorem dL_law__2873 : decode cL_law_ 2873 = .ok (.iload 4, 2) := by decide +kernel
theorem dL_law__2875 : decode cL_law_ 2875 = .ok (.iconst 1, 1) := by decide +kernel
theorem dL_law__2876 : decode cL_law_ 2876 = .ok (.iadd, 1) := by decide +kernel
theorem dL_law__2877 : decode cL_law_ 2877 = .ok (.iaload, 1) := by decide +kernel
theorem dL_law__2878 : decode cL_law_ 2878 = .ok (.aload_n 0, 1) := by decide +kernel
theorem dL_law__2879 : decode cL_law_ 2879 = .ok (.iload 4, 2) := by decide +kernel
theorem dL_law__2881 : decode cL_law_ 2881 = .ok (.iconst 2, 1) := by decide +kernel
theorem dL_law__2882 : decode cL_law_ 2882 = .ok (.iadd, 1) := by decide +kernel
theorem dL_law__2883 : decode cL_law_ 2883 = .ok (.iaload, 1) := by decide +kernel
theorem dL_law__2884 : decode cL_law_ 2884 = .ok (.ifCond .eq 7, 3) := by decide +kernel
theorem dL_law__2887 : decode cL_law_ 2887 = .ok (.iconst 1, 1) := by decide +kernel
theorem dL_law__2888 : decode cL_law_ 2888 = .ok (.goto 4, 3) := by decide +kernel
theorem dL_law__2891 : decode cL_law_ 2891 = .ok (.iconst 0, 1) := by decide +kernel
theorem w_11_3 : Cond.selects "LastLoafModel" ({ cls := "LastLoafModel", name := "trial", desc := "(IZ)I" } : MethodName) ({ cls := "LastLoafModel", name := "trial", desc := "(IZ)I" } : MethodName) ∈ TB := tb_in (lwt_11 (List.mem_of_getElem? (i := 3) (by decide +kernel))) rfl
theorem w_11_4 : Cond.code ({ cls := "LastLoafModel", name := "trial", desc := "(IZ)I" } : MethodName) prog_14_method_143_code (5 : Nat) (Option.some ClassFile.FieldType.int) ∈ TB := tb_in (lwt_11 (List.mem_of_getElem? (i := 4) (by decide +kernel))) rfl
theorem w_11_1 : Cond.methodLink "LastLoafLaw" (343 : Nat) ({ cls := "LastLoafModel", name := "trial", desc := "(IZ)I" } : MethodName) ∈ TB := tb_in (lwt_11 (List.mem_of_getElem? (i := 1) (by decide +kernel))) rfl
theorem w_11_2 : Cond.instanceMethod ({ cls := "LastLoafModel", name := "trial", desc := "(IZ)I" } : MethodName) ∈ TB := tb_in (lwt_11 (List.mem_of_getElem? (i := 2) (by decide +kernel))) rfl
theorem dL_law__2892 : decode cL_law_ 2892 = .ok (.invokevirtual 343, 3) := by decide +kernel
theorem dL_law__2895 : decode cL_law_ 2895 = .ok (.istore 6, 2) := by decide +kernel
theorem dL_law__2897 : decode cL_law_ 2897 = .ok (.aload_n 2, 1) := by decide +kernel
theorem dL_law__2898 : decode cL_law_ 2898 = .ok (.invokevirtual 163, 3) := by decide +kernel
theorem dL_law__2901 : decode cL_law_ 2901 = .ok (.iload 5, 2) := by decide +kernel
theorem dL_law__2903 : decode cL_law_ 2903 = .ok (.if_icmp .eq 5, 3) := by decide +kernel
theorem dL_law__2908 : decode cL_law_ 2908 = .ok (.iload 5, 2) := by decide +kernel
theorem dL_law__2910 : decode cL_law_ 2910 = .ok (.ifCond .ne 15, 3) := by decide +kernel
theorem dL_law__2925 : decode cL_law_ 2925 = .ok (.goto 326, 3) := by decide +kernel
theorem dL_law__2913 : decode cL_law_ 2913 = .ok (.aload_n 3, 1) := by decide +kernel
theorem dL_law__2914 : decode cL_law_ 2914 = .ok (.iconst 0, 1) := by decide +kernel
theorem dL_law__2915 : decode cL_law_ 2915 = .ok (.laload, 1) := by decide +kernel
theorem dL_law__2916 : decode cL_law_ 2916 = .ok (.iload 6, 2) := by decide +kernel
theorem dL_law__2918 : decode cL_law_ 2918 = .ok (.i2l, 1) := by decide +kernel
theorem dL_law__2919 : decode cL_law_ 2919 = .ok (.lcmp, 1) := by decide +kernel
theorem dL_law__2920 : decode cL_law_ 2920 = .ok (.ifCond .eq 5, 3) := by decide +kernel
def Op_trial (RR : St → St → Prop) : Prop := ∀ (σ μ : St), RR σ μ → ∀ (a0 : Int32) (a1 : Bool), ∃ (r1 : Sum Nat Int32 × St) (r2 : Int32 × St), q11_trial σ a0 a1 = some r1 ∧ q12_trial μ a0 a1 = some r2 ∧ Sx [0] r1 r2 ∧ RR r1.2 r2.2
set_option maxHeartbeats 4000000 in
set_option maxRecDepth 100000 in
theorem law_54 {RR : St → St → Prop} (hop : Op_trial RR) {Θ : Tz} {cJ : ClassId} {Q : State → Prop} {w : Wp} {aM : Nat → Nat} {ao b L : Nat} {xs : Nat → Int32} (C : Gc Θ cL_law_ 7 RL (some .boolean) room_1 cJ) (hlt : Θ.1.2.1.stackTraces = false) (Lx : Lq Θ w aM ao) (S : Ls Θ b L xs) {σ μ : St} {o : Int64} {i kc ks : Nat} (hi : i + 6 ≤ L) (hk : kc + 4 ≤ 601024 ∧ ks + 24 ≤ 7293034) (hR : RR σ μ) (K : ∀ σ' μ' o', RR σ' μ' → G Θ 7 (kc + 4) (ks + 24) Q (LPx w aM ao cJ σ' μ' o') 3251 (llv w aM ao b i) []) : G Θ 7 kc ks Q (LPx w aM ao cJ σ μ o) 2844 (llv w aM ao b i) [] := by
  obtain ⟨r1, r2, h1, h2, he, hR2⟩ := hop σ μ hR (xs (i + 1)) (decide (¬ xs (i + 2) = 0))
  refine g_aload_n C 1 dL_law__2844 rfl rfl ?_
  refine l_arg C S 0 4 1 rfl rfl (by omega) rfl dL_law__2845 dL_law__2846 dL_law__2848 dL_law__2849 dL_law__2850 ?_
  refine l_arg C S 0 4 2 rfl rfl (by omega) rfl dL_law__2851 dL_law__2852 dL_law__2854 dL_law__2855 dL_law__2856 ?_
  refine g_nz C dL_law__2857 dL_law__2860 dL_law__2861 dL_law__2864 ?_
  refine g_aload_n C 3 dL_law__2865 rfl rfl ?_
  refine l_callW C Lx [.ref (w.2.2.1 0), .int (xs (i + 1)), .int (b2i (decide (¬ xs (i + 2) = 0))), .ref ao] 4 (wr_trial (l := Θ.1.2.1) Lx.2.1 hlt Lx.2.2.2.2.2.2.2.1 h1 (Sx_in he)) w_7_219 w_7_217 w_7_218 w_1_0 ⟨rfl, rfl, (Nat.le_of_ble_eq_true rfl), (Nat.le_of_ble_eq_true rfl)⟩ (by decide +kernel) rfl rfl (Nat.le_of_ble_eq_true rfl) hk dL_law__2866 ?_
  refine g_istore C dL_law__2869 (Nat.le_of_ble_eq_true rfl) rfl ?_
  refine g_aload_n C 3 dL_law__2871 rfl rfl ?_
  refine l_arg C S 1 5 1 rfl rfl (by omega) rfl dL_law__2872 dL_law__2873 dL_law__2875 dL_law__2876 dL_law__2877 ?_
  refine l_arg C S 1 5 2 rfl rfl (by omega) rfl dL_law__2878 dL_law__2879 dL_law__2881 dL_law__2882 dL_law__2883 ?_
  refine g_nz C dL_law__2884 dL_law__2887 dL_law__2888 dL_law__2891 ?_
  refine l_callMi C Lx [.int (xs (i + 1)), .int (b2i (decide (¬ xs (i + 2) = 0)))] r2.1 r2.2 2 rfl (c12_trial (l := Θ.1.2.1) (w := wm w aM) (n_a := (xs (i + 1))) (hunger_a := (decide (¬ xs (i + 2) = 0))) rfl Lx.2.2.1 h2) w_11_4 w_11_1 w_11_2 w_11_3 w_1_14 ⟨rfl, rfl, (Nat.le_of_ble_eq_true rfl), (Nat.le_of_ble_eq_true rfl)⟩ (by decide +kernel) rfl rfl (Nat.le_of_ble_eq_true rfl) hk dL_law__2892 ?_
  refine g_istore C dL_law__2895 (Nat.le_of_ble_eq_true rfl) rfl ?_
  refine g_aload_n C 4 dL_law__2897 rfl rfl ?_
  refine l_callMi C Lx [] (q12_thrown r2.2) r2.2 0 rfl (c12_thrown (l := Θ.1.2.1) (w := wm w aM) rfl Lx.2.2.1) w_8_130 w_8_127 w_8_128 w_8_129 w_1_14 ⟨rfl, rfl, (Nat.le_of_ble_eq_true rfl), (Nat.le_of_ble_eq_true rfl)⟩ (by decide +kernel) rfl rfl (Nat.le_of_ble_eq_true rfl) hk dL_law__2898 ?_
  refine g_iload C 1 dL_law__2901 rfl ?_
  refine g_icmp_eq C 2908 dL_law__2903 (by decide) (fun _ => ?_) (fun h => absurd (Sx_k he) h)
  refine g_iload C 1 dL_law__2908 rfl ?_
  refine g_if_ne C 2925 dL_law__2910 (by decide) (fun _ => ?_) (fun h0 => ?_)
  · refine g_goto C 3251 dL_law__2925 (by decide) ?_
    refine G.sub [2, 3, 4, 5, 6] rfl ?_
    exact K _ _ _ hR2
  · refine g_aload_n C 5 dL_law__2913 rfl rfl ?_
    refine g_iconst (v := 0) C dL_law__2914 rfl ?_
    refine l_lald C (by rw [Lx.1]) dL_law__2915 ?_
    refine g_iload C 0 dL_law__2916 rfl ?_
    refine g_i2l C dL_law__2918 ?_
    refine g_lcmp C dL_law__2919 ?_
    rw [Sx_o (f := (fun v => v)) (o := o) (by decide) he h0, lg_cmp_self]
    refine g_if_eq C 2925 dL_law__2920 (by decide) (fun _ => ?_) (fun h => absurd rfl h)
    refine g_goto C 3251 dL_law__2925 (by decide) ?_
    refine G.sub [2, 3, 4, 5, 6] rfl ?_
    exact K _ _ _ hR2
/-! case 55 -/
theorem dL_law__2928 : decode cL_law_ 2928 = .ok (.aload_n 1, 1) := by decide +kernel
theorem dL_law__2929 : decode cL_law_ 2929 = .ok (.aload_n 0, 1) := by decide +kernel
theorem dL_law__2930 : decode cL_law_ 2930 = .ok (.iload 4, 2) := by decide +kernel
theorem dL_law__2932 : decode cL_law_ 2932 = .ok (.iconst 1, 1) := by decide +kernel
theorem dL_law__2933 : decode cL_law_ 2933 = .ok (.iadd, 1) := by decide +kernel
theorem dL_law__2934 : decode cL_law_ 2934 = .ok (.iaload, 1) := by decide +kernel
theorem dL_law__2935 : decode cL_law_ 2935 = .ok (.aload_n 0, 1) := by decide +kernel
theorem dL_law__2936 : decode cL_law_ 2936 = .ok (.iload 4, 2) := by decide +kernel
theorem dL_law__2938 : decode cL_law_ 2938 = .ok (.iconst 2, 1) := by decide +kernel
theorem dL_law__2939 : decode cL_law_ 2939 = .ok (.iadd, 1) := by decide +kernel
theorem dL_law__2940 : decode cL_law_ 2940 = .ok (.iaload, 1) := by decide +kernel
theorem dL_law__2941 : decode cL_law_ 2941 = .ok (.ifCond .eq 7, 3) := by decide +kernel
theorem dL_law__2944 : decode cL_law_ 2944 = .ok (.iconst 1, 1) := by decide +kernel
theorem dL_law__2945 : decode cL_law_ 2945 = .ok (.goto 4, 3) := by decide +kernel
theorem dL_law__2948 : decode cL_law_ 2948 = .ok (.iconst 0, 1) := by decide +kernel
theorem dL_law__2949 : decode cL_law_ 2949 = .ok (.aload_n 3, 1) := by decide +kernel
theorem w_7_226 : Cond.codeWith ({ cls := "LastLoafLaw", name := "span", desc := "(LLastLoaf;IZ[J)I" } : MethodName) method_39_code (5 : Nat) (Option.some ClassFile.FieldType.int) [((0 : Nat), (10 : Nat), (13 : Nat), (13 : Nat))] ∈ TB := tb_in (lwt_7 (List.mem_of_getElem? (i := 226) (by decide +kernel))) rfl
theorem w_7_224 : Cond.methodLink "LastLoafLaw" (344 : Nat) ({ cls := "LastLoafLaw", name := "span", desc := "(LLastLoaf;IZ[J)I" } : MethodName) ∈ TB := tb_in (lwt_7 (List.mem_of_getElem? (i := 224) (by decide +kernel))) rfl
theorem w_7_225 : Cond.static ({ cls := "LastLoafLaw", name := "span", desc := "(LLastLoaf;IZ[J)I" } : MethodName) ∈ TB := tb_in (lwt_7 (List.mem_of_getElem? (i := 225) (by decide +kernel))) rfl
theorem dL_law__2950 : decode cL_law_ 2950 = .ok (.invokestatic 344, 3) := by decide +kernel
theorem dL_law__2953 : decode cL_law_ 2953 = .ok (.istore 5, 2) := by decide +kernel
theorem dL_law__2955 : decode cL_law_ 2955 = .ok (.aload_n 2, 1) := by decide +kernel
theorem dL_law__2956 : decode cL_law_ 2956 = .ok (.aload_n 0, 1) := by decide +kernel
theorem dL_law__2957 : decode cL_law_ 2957 = .ok (.iload 4, 2) := by decide +kernel
theorem dL_law__2959 : decode cL_law_ 2959 = .ok (.iconst 1, 1) := by decide +kernel
theorem dL_law__2960 : decode cL_law_ 2960 = .ok (.iadd, 1) := by decide +kernel
theorem dL_law__2961 : decode cL_law_ 2961 = .ok (.iaload, 1) := by decide +kernel
theorem dL_law__2962 : decode cL_law_ 2962 = .ok (.aload_n 0, 1) := by decide +kernel
theorem dL_law__2963 : decode cL_law_ 2963 = .ok (.iload 4, 2) := by decide +kernel
theorem dL_law__2965 : decode cL_law_ 2965 = .ok (.iconst 2, 1) := by decide +kernel
theorem dL_law__2966 : decode cL_law_ 2966 = .ok (.iadd, 1) := by decide +kernel
theorem dL_law__2967 : decode cL_law_ 2967 = .ok (.iaload, 1) := by decide +kernel
theorem dL_law__2968 : decode cL_law_ 2968 = .ok (.ifCond .eq 7, 3) := by decide +kernel
theorem dL_law__2971 : decode cL_law_ 2971 = .ok (.iconst 1, 1) := by decide +kernel
theorem dL_law__2972 : decode cL_law_ 2972 = .ok (.goto 4, 3) := by decide +kernel
theorem dL_law__2975 : decode cL_law_ 2975 = .ok (.iconst 0, 1) := by decide +kernel
theorem w_11_7 : Cond.selects "LastLoafModel" ({ cls := "LastLoafModel", name := "span", desc := "(IZ)I" } : MethodName) ({ cls := "LastLoafModel", name := "span", desc := "(IZ)I" } : MethodName) ∈ TB := tb_in (lwt_11 (List.mem_of_getElem? (i := 7) (by decide +kernel))) rfl
theorem w_11_8 : Cond.code ({ cls := "LastLoafModel", name := "span", desc := "(IZ)I" } : MethodName) prog_14_method_144_code (7 : Nat) (Option.some ClassFile.FieldType.int) ∈ TB := tb_in (lwt_11 (List.mem_of_getElem? (i := 8) (by decide +kernel))) rfl
theorem w_11_5 : Cond.methodLink "LastLoafLaw" (346 : Nat) ({ cls := "LastLoafModel", name := "span", desc := "(IZ)I" } : MethodName) ∈ TB := tb_in (lwt_11 (List.mem_of_getElem? (i := 5) (by decide +kernel))) rfl
theorem w_11_6 : Cond.instanceMethod ({ cls := "LastLoafModel", name := "span", desc := "(IZ)I" } : MethodName) ∈ TB := tb_in (lwt_11 (List.mem_of_getElem? (i := 6) (by decide +kernel))) rfl
theorem dL_law__2976 : decode cL_law_ 2976 = .ok (.invokevirtual 346, 3) := by decide +kernel
theorem dL_law__2979 : decode cL_law_ 2979 = .ok (.istore 6, 2) := by decide +kernel
theorem dL_law__2981 : decode cL_law_ 2981 = .ok (.aload_n 2, 1) := by decide +kernel
theorem dL_law__2982 : decode cL_law_ 2982 = .ok (.invokevirtual 163, 3) := by decide +kernel
theorem dL_law__2985 : decode cL_law_ 2985 = .ok (.iload 5, 2) := by decide +kernel
theorem dL_law__2987 : decode cL_law_ 2987 = .ok (.if_icmp .eq 5, 3) := by decide +kernel
theorem dL_law__2992 : decode cL_law_ 2992 = .ok (.iload 5, 2) := by decide +kernel
theorem dL_law__2994 : decode cL_law_ 2994 = .ok (.ifCond .ne 15, 3) := by decide +kernel
theorem dL_law__3009 : decode cL_law_ 3009 = .ok (.goto 242, 3) := by decide +kernel
theorem dL_law__2997 : decode cL_law_ 2997 = .ok (.aload_n 3, 1) := by decide +kernel
theorem dL_law__2998 : decode cL_law_ 2998 = .ok (.iconst 0, 1) := by decide +kernel
theorem dL_law__2999 : decode cL_law_ 2999 = .ok (.laload, 1) := by decide +kernel
theorem dL_law__3000 : decode cL_law_ 3000 = .ok (.iload 6, 2) := by decide +kernel
theorem dL_law__3002 : decode cL_law_ 3002 = .ok (.i2l, 1) := by decide +kernel
theorem dL_law__3003 : decode cL_law_ 3003 = .ok (.lcmp, 1) := by decide +kernel
theorem dL_law__3004 : decode cL_law_ 3004 = .ok (.ifCond .eq 5, 3) := by decide +kernel
def Op_span (RR : St → St → Prop) : Prop := ∀ (σ μ : St), RR σ μ → ∀ (a0 : Int32) (a1 : Bool), ∃ (r1 : Sum Nat Int32 × St) (r2 : Int32 × St), q11_span σ a0 a1 = some r1 ∧ q12_span μ a0 a1 = some r2 ∧ Sx [0] r1 r2 ∧ RR r1.2 r2.2
set_option maxHeartbeats 4000000 in
set_option maxRecDepth 100000 in
theorem law_55 {RR : St → St → Prop} (hop : Op_span RR) {Θ : Tz} {cJ : ClassId} {Q : State → Prop} {w : Wp} {aM : Nat → Nat} {ao b L : Nat} {xs : Nat → Int32} (C : Gc Θ cL_law_ 7 RL (some .boolean) room_1 cJ) (hlt : Θ.1.2.1.stackTraces = false) (Lx : Lq Θ w aM ao) (S : Ls Θ b L xs) {σ μ : St} {o : Int64} {i kc ks : Nat} (hi : i + 6 ≤ L) (hk : kc + 4 ≤ 601024 ∧ ks + 24 ≤ 7293034) (hR : RR σ μ) (K : ∀ σ' μ' o', RR σ' μ' → G Θ 7 (kc + 4) (ks + 24) Q (LPx w aM ao cJ σ' μ' o') 3251 (llv w aM ao b i) []) : G Θ 7 kc ks Q (LPx w aM ao cJ σ μ o) 2928 (llv w aM ao b i) [] := by
  obtain ⟨r1, r2, h1, h2, he, hR2⟩ := hop σ μ hR (xs (i + 1)) (decide (¬ xs (i + 2) = 0))
  refine g_aload_n C 1 dL_law__2928 rfl rfl ?_
  refine l_arg C S 0 4 1 rfl rfl (by omega) rfl dL_law__2929 dL_law__2930 dL_law__2932 dL_law__2933 dL_law__2934 ?_
  refine l_arg C S 0 4 2 rfl rfl (by omega) rfl dL_law__2935 dL_law__2936 dL_law__2938 dL_law__2939 dL_law__2940 ?_
  refine g_nz C dL_law__2941 dL_law__2944 dL_law__2945 dL_law__2948 ?_
  refine g_aload_n C 3 dL_law__2949 rfl rfl ?_
  refine l_callW C Lx [.ref (w.2.2.1 0), .int (xs (i + 1)), .int (b2i (decide (¬ xs (i + 2) = 0))), .ref ao] 4 (wr_span (l := Θ.1.2.1) Lx.2.1 hlt Lx.2.2.2.2.2.2.2.1 h1 (Sx_in he)) w_7_226 w_7_224 w_7_225 w_1_0 ⟨rfl, rfl, (Nat.le_of_ble_eq_true rfl), (Nat.le_of_ble_eq_true rfl)⟩ (by decide +kernel) rfl rfl (Nat.le_of_ble_eq_true rfl) hk dL_law__2950 ?_
  refine g_istore C dL_law__2953 (Nat.le_of_ble_eq_true rfl) rfl ?_
  refine g_aload_n C 3 dL_law__2955 rfl rfl ?_
  refine l_arg C S 1 5 1 rfl rfl (by omega) rfl dL_law__2956 dL_law__2957 dL_law__2959 dL_law__2960 dL_law__2961 ?_
  refine l_arg C S 1 5 2 rfl rfl (by omega) rfl dL_law__2962 dL_law__2963 dL_law__2965 dL_law__2966 dL_law__2967 ?_
  refine g_nz C dL_law__2968 dL_law__2971 dL_law__2972 dL_law__2975 ?_
  refine l_callMi C Lx [.int (xs (i + 1)), .int (b2i (decide (¬ xs (i + 2) = 0)))] r2.1 r2.2 2 rfl (c12_span (l := Θ.1.2.1) (w := wm w aM) (n_a := (xs (i + 1))) (most_a := (decide (¬ xs (i + 2) = 0))) rfl Lx.2.2.1 h2) w_11_8 w_11_5 w_11_6 w_11_7 w_1_14 ⟨rfl, rfl, (Nat.le_of_ble_eq_true rfl), (Nat.le_of_ble_eq_true rfl)⟩ (by decide +kernel) rfl rfl (Nat.le_of_ble_eq_true rfl) hk dL_law__2976 ?_
  refine g_istore C dL_law__2979 (Nat.le_of_ble_eq_true rfl) rfl ?_
  refine g_aload_n C 4 dL_law__2981 rfl rfl ?_
  refine l_callMi C Lx [] (q12_thrown r2.2) r2.2 0 rfl (c12_thrown (l := Θ.1.2.1) (w := wm w aM) rfl Lx.2.2.1) w_8_130 w_8_127 w_8_128 w_8_129 w_1_14 ⟨rfl, rfl, (Nat.le_of_ble_eq_true rfl), (Nat.le_of_ble_eq_true rfl)⟩ (by decide +kernel) rfl rfl (Nat.le_of_ble_eq_true rfl) hk dL_law__2982 ?_
  refine g_iload C 1 dL_law__2985 rfl ?_
  refine g_icmp_eq C 2992 dL_law__2987 (by decide) (fun _ => ?_) (fun h => absurd (Sx_k he) h)
  refine g_iload C 1 dL_law__2992 rfl ?_
  refine g_if_ne C 3009 dL_law__2994 (by decide) (fun _ => ?_) (fun h0 => ?_)
  · refine g_goto C 3251 dL_law__3009 (by decide) ?_
    refine G.sub [2, 3, 4, 5, 6] rfl ?_
    exact K _ _ _ hR2
  · refine g_aload_n C 5 dL_law__2997 rfl rfl ?_
    refine g_iconst (v := 0) C dL_law__2998 rfl ?_
    refine l_lald C (by rw [Lx.1]) dL_law__2999 ?_
    refine g_iload C 0 dL_law__3000 rfl ?_
    refine g_i2l C dL_law__3002 ?_
    refine g_lcmp C dL_law__3003 ?_
    rw [Sx_o (f := (fun v => v)) (o := o) (by decide) he h0, lg_cmp_self]
    refine g_if_eq C 3009 dL_law__3004 (by decide) (fun _ => ?_) (fun h => absurd rfl h)
    refine g_goto C 3251 dL_law__3009 (by decide) ?_
    refine G.sub [2, 3, 4, 5, 6] rfl ?_
    exact K _ _ _ hR2
/-! case 56 -/
theorem dL_law__3012 : decode cL_law_ 3012 = .ok (.aload_n 1, 1) := by decide +kernel
theorem dL_law__3013 : decode cL_law_ 3013 = .ok (.aload_n 0, 1) := by decide +kernel
theorem dL_law__3014 : decode cL_law_ 3014 = .ok (.iload 4, 2) := by decide +kernel
theorem dL_law__3016 : decode cL_law_ 3016 = .ok (.iconst 1, 1) := by decide +kernel
theorem dL_law__3017 : decode cL_law_ 3017 = .ok (.iadd, 1) := by decide +kernel
theorem dL_law__3018 : decode cL_law_ 3018 = .ok (.iaload, 1) := by decide +kernel
theorem dL_law__3019 : decode cL_law_ 3019 = .ok (.aload_n 0, 1) := by decide +kernel
theorem dL_law__3020 : decode cL_law_ 3020 = .ok (.iload 4, 2) := by decide +kernel
theorem dL_law__3022 : decode cL_law_ 3022 = .ok (.iconst 2, 1) := by decide +kernel
theorem dL_law__3023 : decode cL_law_ 3023 = .ok (.iadd, 1) := by decide +kernel
theorem dL_law__3024 : decode cL_law_ 3024 = .ok (.iaload, 1) := by decide +kernel
theorem dL_law__3025 : decode cL_law_ 3025 = .ok (.ifCond .eq 7, 3) := by decide +kernel
theorem dL_law__3028 : decode cL_law_ 3028 = .ok (.iconst 1, 1) := by decide +kernel
theorem dL_law__3029 : decode cL_law_ 3029 = .ok (.goto 4, 3) := by decide +kernel
theorem dL_law__3032 : decode cL_law_ 3032 = .ok (.iconst 0, 1) := by decide +kernel
theorem dL_law__3033 : decode cL_law_ 3033 = .ok (.aload_n 3, 1) := by decide +kernel
theorem w_7_234 : Cond.codeWith ({ cls := "LastLoafLaw", name := "led", desc := "(LLastLoaf;IZ[J)I" } : MethodName) method_40_code (5 : Nat) (Option.some ClassFile.FieldType.int) [((0 : Nat), (10 : Nat), (13 : Nat), (24 : Nat))] ∈ TB := tb_in (lwt_7 (List.mem_of_getElem? (i := 234) (by decide +kernel))) rfl
theorem w_7_232 : Cond.methodLink "LastLoafLaw" (347 : Nat) ({ cls := "LastLoafLaw", name := "led", desc := "(LLastLoaf;IZ[J)I" } : MethodName) ∈ TB := tb_in (lwt_7 (List.mem_of_getElem? (i := 232) (by decide +kernel))) rfl
theorem w_7_233 : Cond.static ({ cls := "LastLoafLaw", name := "led", desc := "(LLastLoaf;IZ[J)I" } : MethodName) ∈ TB := tb_in (lwt_7 (List.mem_of_getElem? (i := 233) (by decide +kernel))) rfl
theorem dL_law__3034 : decode cL_law_ 3034 = .ok (.invokestatic 347, 3) := by decide +kernel
theorem dL_law__3037 : decode cL_law_ 3037 = .ok (.istore 5, 2) := by decide +kernel
theorem dL_law__3039 : decode cL_law_ 3039 = .ok (.aload_n 2, 1) := by decide +kernel
theorem dL_law__3040 : decode cL_law_ 3040 = .ok (.aload_n 0, 1) := by decide +kernel
theorem dL_law__3041 : decode cL_law_ 3041 = .ok (.iload 4, 2) := by decide +kernel
theorem dL_law__3043 : decode cL_law_ 3043 = .ok (.iconst 1, 1) := by decide +kernel
theorem dL_law__3044 : decode cL_law_ 3044 = .ok (.iadd, 1) := by decide +kernel
theorem dL_law__3045 : decode cL_law_ 3045 = .ok (.iaload, 1) := by decide +kernel
theorem dL_law__3046 : decode cL_law_ 3046 = .ok (.aload_n 0, 1) := by decide +kernel
theorem dL_law__3047 : decode cL_law_ 3047 = .ok (.iload 4, 2) := by decide +kernel
theorem dL_law__3049 : decode cL_law_ 3049 = .ok (.iconst 2, 1) := by decide +kernel
theorem dL_law__3050 : decode cL_law_ 3050 = .ok (.iadd, 1) := by decide +kernel
theorem dL_law__3051 : decode cL_law_ 3051 = .ok (.iaload, 1) := by decide +kernel
theorem dL_law__3052 : decode cL_law_ 3052 = .ok (.ifCond .eq 7, 3) := by decide +kernel
theorem dL_law__3055 : decode cL_law_ 3055 = .ok (.iconst 1, 1) := by decide +kernel
theorem dL_law__3056 : decode cL_law_ 3056 = .ok (.goto 4, 3) := by decide +kernel
theorem dL_law__3059 : decode cL_law_ 3059 = .ok (.iconst 0, 1) := by decide +kernel
theorem w_11_11 : Cond.selects "LastLoafModel" ({ cls := "LastLoafModel", name := "led", desc := "(IZ)I" } : MethodName) ({ cls := "LastLoafModel", name := "led", desc := "(IZ)I" } : MethodName) ∈ TB := tb_in (lwt_11 (List.mem_of_getElem? (i := 11) (by decide +kernel))) rfl
theorem w_11_12 : Cond.code ({ cls := "LastLoafModel", name := "led", desc := "(IZ)I" } : MethodName) prog_14_method_146_code (6 : Nat) (Option.some ClassFile.FieldType.int) ∈ TB := tb_in (lwt_11 (List.mem_of_getElem? (i := 12) (by decide +kernel))) rfl
theorem w_11_9 : Cond.methodLink "LastLoafLaw" (349 : Nat) ({ cls := "LastLoafModel", name := "led", desc := "(IZ)I" } : MethodName) ∈ TB := tb_in (lwt_11 (List.mem_of_getElem? (i := 9) (by decide +kernel))) rfl
theorem w_11_10 : Cond.instanceMethod ({ cls := "LastLoafModel", name := "led", desc := "(IZ)I" } : MethodName) ∈ TB := tb_in (lwt_11 (List.mem_of_getElem? (i := 10) (by decide +kernel))) rfl
theorem dL_law__3060 : decode cL_law_ 3060 = .ok (.invokevirtual 349, 3) := by decide +kernel
theorem dL_law__3063 : decode cL_law_ 3063 = .ok (.istore 6, 2) := by decide +kernel
theorem dL_law__3065 : decode cL_law_ 3065 = .ok (.aload_n 2, 1) := by decide +kernel
theorem dL_law__3066 : decode cL_law_ 3066 = .ok (.invokevirtual 163, 3) := by decide +kernel
theorem dL_law__3069 : decode cL_law_ 3069 = .ok (.iload 5, 2) := by decide +kernel
theorem dL_law__3071 : decode cL_law_ 3071 = .ok (.if_icmp .eq 5, 3) := by decide +kernel
theorem dL_law__3076 : decode cL_law_ 3076 = .ok (.iload 5, 2) := by decide +kernel
theorem dL_law__3078 : decode cL_law_ 3078 = .ok (.ifCond .ne 15, 3) := by decide +kernel
theorem dL_law__3093 : decode cL_law_ 3093 = .ok (.goto 158, 3) := by decide +kernel
theorem dL_law__3081 : decode cL_law_ 3081 = .ok (.aload_n 3, 1) := by decide +kernel
theorem dL_law__3082 : decode cL_law_ 3082 = .ok (.iconst 0, 1) := by decide +kernel
theorem dL_law__3083 : decode cL_law_ 3083 = .ok (.laload, 1) := by decide +kernel
theorem dL_law__3084 : decode cL_law_ 3084 = .ok (.iload 6, 2) := by decide +kernel
theorem dL_law__3086 : decode cL_law_ 3086 = .ok (.i2l, 1) := by decide +kernel
theorem dL_law__3087 : decode cL_law_ 3087 = .ok (.lcmp, 1) := by decide +kernel
theorem dL_law__3088 : decode cL_law_ 3088 = .ok (.ifCond .eq 5, 3) := by decide +kernel
def Op_led (RR : St → St → Prop) : Prop := ∀ (σ μ : St), RR σ μ → ∀ (a0 : Int32) (a1 : Bool), ∃ (r1 : Sum Nat Int32 × St) (r2 : Int32 × St), q11_led σ a0 a1 = some r1 ∧ q12_led μ a0 a1 = some r2 ∧ Sx [2] r1 r2 ∧ RR r1.2 r2.2
set_option maxHeartbeats 4000000 in
set_option maxRecDepth 100000 in
theorem law_56 {RR : St → St → Prop} (hop : Op_led RR) {Θ : Tz} {cJ : ClassId} {Q : State → Prop} {w : Wp} {aM : Nat → Nat} {ao b L : Nat} {xs : Nat → Int32} (C : Gc Θ cL_law_ 7 RL (some .boolean) room_1 cJ) (hlt : Θ.1.2.1.stackTraces = false) (Lx : Lq Θ w aM ao) (S : Ls Θ b L xs) {σ μ : St} {o : Int64} {i kc ks : Nat} (hi : i + 6 ≤ L) (hk : kc + 4 ≤ 601024 ∧ ks + 24 ≤ 7293034) (hR : RR σ μ) (K : ∀ σ' μ' o', RR σ' μ' → G Θ 7 (kc + 4) (ks + 24) Q (LPx w aM ao cJ σ' μ' o') 3251 (llv w aM ao b i) []) : G Θ 7 kc ks Q (LPx w aM ao cJ σ μ o) 3012 (llv w aM ao b i) [] := by
  obtain ⟨r1, r2, h1, h2, he, hR2⟩ := hop σ μ hR (xs (i + 1)) (decide (¬ xs (i + 2) = 0))
  refine g_aload_n C 1 dL_law__3012 rfl rfl ?_
  refine l_arg C S 0 4 1 rfl rfl (by omega) rfl dL_law__3013 dL_law__3014 dL_law__3016 dL_law__3017 dL_law__3018 ?_
  refine l_arg C S 0 4 2 rfl rfl (by omega) rfl dL_law__3019 dL_law__3020 dL_law__3022 dL_law__3023 dL_law__3024 ?_
  refine g_nz C dL_law__3025 dL_law__3028 dL_law__3029 dL_law__3032 ?_
  refine g_aload_n C 3 dL_law__3033 rfl rfl ?_
  refine l_callW C Lx [.ref (w.2.2.1 0), .int (xs (i + 1)), .int (b2i (decide (¬ xs (i + 2) = 0))), .ref ao] 4 (wr_led (l := Θ.1.2.1) Lx.2.1 hlt Lx.2.2.2.2.2.2.2.1 h1 (Sx_in he)) w_7_234 w_7_232 w_7_233 w_1_0 ⟨rfl, rfl, (Nat.le_of_ble_eq_true rfl), (Nat.le_of_ble_eq_true rfl)⟩ (by decide +kernel) rfl rfl (Nat.le_of_ble_eq_true rfl) hk dL_law__3034 ?_
  refine g_istore C dL_law__3037 (Nat.le_of_ble_eq_true rfl) rfl ?_
  refine g_aload_n C 3 dL_law__3039 rfl rfl ?_
  refine l_arg C S 1 5 1 rfl rfl (by omega) rfl dL_law__3040 dL_law__3041 dL_law__3043 dL_law__3044 dL_law__3045 ?_
  refine l_arg C S 1 5 2 rfl rfl (by omega) rfl dL_law__3046 dL_law__3047 dL_law__3049 dL_law__3050 dL_law__3051 ?_
  refine g_nz C dL_law__3052 dL_law__3055 dL_law__3056 dL_law__3059 ?_
  refine l_callMi C Lx [.int (xs (i + 1)), .int (b2i (decide (¬ xs (i + 2) = 0)))] r2.1 r2.2 2 rfl (c12_led (l := Θ.1.2.1) (w := wm w aM) (p_a := (xs (i + 1))) (week_a := (decide (¬ xs (i + 2) = 0))) rfl Lx.2.2.1 h2) w_11_12 w_11_9 w_11_10 w_11_11 w_1_14 ⟨rfl, rfl, (Nat.le_of_ble_eq_true rfl), (Nat.le_of_ble_eq_true rfl)⟩ (by decide +kernel) rfl rfl (Nat.le_of_ble_eq_true rfl) hk dL_law__3060 ?_
  refine g_istore C dL_law__3063 (Nat.le_of_ble_eq_true rfl) rfl ?_
  refine g_aload_n C 4 dL_law__3065 rfl rfl ?_
  refine l_callMi C Lx [] (q12_thrown r2.2) r2.2 0 rfl (c12_thrown (l := Θ.1.2.1) (w := wm w aM) rfl Lx.2.2.1) w_8_130 w_8_127 w_8_128 w_8_129 w_1_14 ⟨rfl, rfl, (Nat.le_of_ble_eq_true rfl), (Nat.le_of_ble_eq_true rfl)⟩ (by decide +kernel) rfl rfl (Nat.le_of_ble_eq_true rfl) hk dL_law__3066 ?_
  refine g_iload C 1 dL_law__3069 rfl ?_
  refine g_icmp_eq C 3076 dL_law__3071 (by decide) (fun _ => ?_) (fun h => absurd (Sx_k he) h)
  refine g_iload C 1 dL_law__3076 rfl ?_
  refine g_if_ne C 3093 dL_law__3078 (by decide) (fun _ => ?_) (fun h0 => ?_)
  · refine g_goto C 3251 dL_law__3093 (by decide) ?_
    refine G.sub [2, 3, 4, 5, 6] rfl ?_
    exact K _ _ _ hR2
  · refine g_aload_n C 5 dL_law__3081 rfl rfl ?_
    refine g_iconst (v := 0) C dL_law__3082 rfl ?_
    refine l_lald C (by rw [Lx.1]) dL_law__3083 ?_
    refine g_iload C 0 dL_law__3084 rfl ?_
    refine g_i2l C dL_law__3086 ?_
    refine g_lcmp C dL_law__3087 ?_
    rw [Sx_o (f := (fun v => v)) (o := o) (by decide) he h0, lg_cmp_self]
    refine g_if_eq C 3093 dL_law__3088 (by decide) (fun _ => ?_) (fun h => absurd rfl h)
    refine g_goto C 3251 dL_law__3093 (by decide) ?_
    refine G.sub [2, 3, 4, 5, 6] rfl ?_
    exact K _ _ _ hR2
/-! case 57 -/
theorem dL_law__3096 : decode cL_law_ 3096 = .ok (.aload_n 1, 1) := by decide +kernel
theorem dL_law__3097 : decode cL_law_ 3097 = .ok (.aload_n 0, 1) := by decide +kernel
theorem dL_law__3098 : decode cL_law_ 3098 = .ok (.iload 4, 2) := by decide +kernel
theorem dL_law__3100 : decode cL_law_ 3100 = .ok (.iconst 1, 1) := by decide +kernel
theorem dL_law__3101 : decode cL_law_ 3101 = .ok (.iadd, 1) := by decide +kernel
theorem dL_law__3102 : decode cL_law_ 3102 = .ok (.iaload, 1) := by decide +kernel
theorem dL_law__3103 : decode cL_law_ 3103 = .ok (.aload_n 0, 1) := by decide +kernel
theorem dL_law__3104 : decode cL_law_ 3104 = .ok (.iload 4, 2) := by decide +kernel
theorem dL_law__3106 : decode cL_law_ 3106 = .ok (.iconst 2, 1) := by decide +kernel
theorem dL_law__3107 : decode cL_law_ 3107 = .ok (.iadd, 1) := by decide +kernel
theorem dL_law__3108 : decode cL_law_ 3108 = .ok (.iaload, 1) := by decide +kernel
theorem dL_law__3109 : decode cL_law_ 3109 = .ok (.aload_n 3, 1) := by decide +kernel
theorem w_8_14 : Cond.codeWith ({ cls := "LastLoafLaw", name := "log", desc := "(LLastLoaf;II[J)I" } : MethodName) method_41_code (5 : Nat) (Option.some ClassFile.FieldType.int) [((0 : Nat), (10 : Nat), (13 : Nat), (26 : Nat))] ∈ TB := tb_in (lwt_8 (List.mem_of_getElem? (i := 14) (by decide +kernel))) rfl
theorem w_8_12 : Cond.methodLink "LastLoafLaw" (350 : Nat) ({ cls := "LastLoafLaw", name := "log", desc := "(LLastLoaf;II[J)I" } : MethodName) ∈ TB := tb_in (lwt_8 (List.mem_of_getElem? (i := 12) (by decide +kernel))) rfl
theorem w_8_13 : Cond.static ({ cls := "LastLoafLaw", name := "log", desc := "(LLastLoaf;II[J)I" } : MethodName) ∈ TB := tb_in (lwt_8 (List.mem_of_getElem? (i := 13) (by decide +kernel))) rfl
theorem dL_law__3110 : decode cL_law_ 3110 = .ok (.invokestatic 350, 3) := by decide +kernel
theorem dL_law__3113 : decode cL_law_ 3113 = .ok (.istore 5, 2) := by decide +kernel
theorem dL_law__3115 : decode cL_law_ 3115 = .ok (.aload_n 2, 1) := by decide +kernel
theorem dL_law__3116 : decode cL_law_ 3116 = .ok (.aload_n 0, 1) := by decide +kernel
theorem dL_law__3117 : decode cL_law_ 3117 = .ok (.iload 4, 2) := by decide +kernel
theorem dL_law__3119 : decode cL_law_ 3119 = .ok (.iconst 1, 1) := by decide +kernel
theorem dL_law__3120 : decode cL_law_ 3120 = .ok (.iadd, 1) := by decide +kernel
theorem dL_law__3121 : decode cL_law_ 3121 = .ok (.iaload, 1) := by decide +kernel
theorem dL_law__3122 : decode cL_law_ 3122 = .ok (.aload_n 0, 1) := by decide +kernel
theorem dL_law__3123 : decode cL_law_ 3123 = .ok (.iload 4, 2) := by decide +kernel
theorem dL_law__3125 : decode cL_law_ 3125 = .ok (.iconst 2, 1) := by decide +kernel
theorem dL_law__3126 : decode cL_law_ 3126 = .ok (.iadd, 1) := by decide +kernel
theorem dL_law__3127 : decode cL_law_ 3127 = .ok (.iaload, 1) := by decide +kernel
theorem w_11_19 : Cond.selects "LastLoafModel" ({ cls := "LastLoafModel", name := "log", desc := "(II)I" } : MethodName) ({ cls := "LastLoafModel", name := "log", desc := "(II)I" } : MethodName) ∈ TB := tb_in (lwt_11 (List.mem_of_getElem? (i := 19) (by decide +kernel))) rfl
theorem w_11_20 : Cond.code ({ cls := "LastLoafModel", name := "log", desc := "(II)I" } : MethodName) prog_14_method_147_code (3 : Nat) (Option.some ClassFile.FieldType.int) ∈ TB := tb_in (lwt_11 (List.mem_of_getElem? (i := 20) (by decide +kernel))) rfl
theorem w_11_17 : Cond.methodLink "LastLoafLaw" (352 : Nat) ({ cls := "LastLoafModel", name := "log", desc := "(II)I" } : MethodName) ∈ TB := tb_in (lwt_11 (List.mem_of_getElem? (i := 17) (by decide +kernel))) rfl
theorem w_11_18 : Cond.instanceMethod ({ cls := "LastLoafModel", name := "log", desc := "(II)I" } : MethodName) ∈ TB := tb_in (lwt_11 (List.mem_of_getElem? (i := 18) (by decide +kernel))) rfl
theorem dL_law__3128 : decode cL_law_ 3128 = .ok (.invokevirtual 352, 3) := by decide +kernel
theorem dL_law__3131 : decode cL_law_ 3131 = .ok (.istore 6, 2) := by decide +kernel
theorem dL_law__3133 : decode cL_law_ 3133 = .ok (.aload_n 2, 1) := by decide +kernel
theorem dL_law__3134 : decode cL_law_ 3134 = .ok (.invokevirtual 163, 3) := by decide +kernel
theorem dL_law__3137 : decode cL_law_ 3137 = .ok (.iload 5, 2) := by decide +kernel
theorem dL_law__3139 : decode cL_law_ 3139 = .ok (.if_icmp .eq 5, 3) := by decide +kernel
theorem dL_law__3144 : decode cL_law_ 3144 = .ok (.iload 5, 2) := by decide +kernel
theorem dL_law__3146 : decode cL_law_ 3146 = .ok (.ifCond .ne 15, 3) := by decide +kernel
theorem dL_law__3161 : decode cL_law_ 3161 = .ok (.goto 90, 3) := by decide +kernel
theorem dL_law__3149 : decode cL_law_ 3149 = .ok (.aload_n 3, 1) := by decide +kernel
theorem dL_law__3150 : decode cL_law_ 3150 = .ok (.iconst 0, 1) := by decide +kernel
theorem dL_law__3151 : decode cL_law_ 3151 = .ok (.laload, 1) := by decide +kernel
theorem dL_law__3152 : decode cL_law_ 3152 = .ok (.iload 6, 2) := by decide +kernel
theorem dL_law__3154 : decode cL_law_ 3154 = .ok (.i2l, 1) := by decide +kernel
theorem dL_law__3155 : decode cL_law_ 3155 = .ok (.lcmp, 1) := by decide +kernel
theorem dL_law__3156 : decode cL_law_ 3156 = .ok (.ifCond .eq 5, 3) := by decide +kernel
def Op_log (RR : St → St → Prop) : Prop := ∀ (σ μ : St), RR σ μ → ∀ (a0 : Int32) (a1 : Int32), ∃ (r1 : Sum Nat Int32 × St) (r2 : Int32 × St), q11_log σ a0 a1 = some r1 ∧ q12_log μ a0 a1 = some r2 ∧ Sx [4] r1 r2 ∧ RR r1.2 r2.2
set_option maxHeartbeats 4000000 in
set_option maxRecDepth 100000 in
theorem law_57 {RR : St → St → Prop} (hop : Op_log RR) {Θ : Tz} {cJ : ClassId} {Q : State → Prop} {w : Wp} {aM : Nat → Nat} {ao b L : Nat} {xs : Nat → Int32} (C : Gc Θ cL_law_ 7 RL (some .boolean) room_1 cJ) (hlt : Θ.1.2.1.stackTraces = false) (Lx : Lq Θ w aM ao) (S : Ls Θ b L xs) {σ μ : St} {o : Int64} {i kc ks : Nat} (hi : i + 6 ≤ L) (hk : kc + 4 ≤ 601024 ∧ ks + 24 ≤ 7293034) (hR : RR σ μ) (K : ∀ σ' μ' o', RR σ' μ' → G Θ 7 (kc + 4) (ks + 24) Q (LPx w aM ao cJ σ' μ' o') 3251 (llv w aM ao b i) []) : G Θ 7 kc ks Q (LPx w aM ao cJ σ μ o) 3096 (llv w aM ao b i) [] := by
  obtain ⟨r1, r2, h1, h2, he, hR2⟩ := hop σ μ hR (xs (i + 1)) (xs (i + 2))
  refine g_aload_n C 1 dL_law__3096 rfl rfl ?_
  refine l_arg C S 0 4 1 rfl rfl (by omega) rfl dL_law__3097 dL_law__3098 dL_law__3100 dL_law__3101 dL_law__3102 ?_
  refine l_arg C S 0 4 2 rfl rfl (by omega) rfl dL_law__3103 dL_law__3104 dL_law__3106 dL_law__3107 dL_law__3108 ?_
  refine g_aload_n C 3 dL_law__3109 rfl rfl ?_
  refine l_callW C Lx [.ref (w.2.2.1 0), .int (xs (i + 1)), .int (xs (i + 2)), .ref ao] 4 (wr_log (l := Θ.1.2.1) Lx.2.1 hlt Lx.2.2.2.2.2.2.2.1 h1 (Sx_in he)) w_8_14 w_8_12 w_8_13 w_1_0 ⟨rfl, rfl, (Nat.le_of_ble_eq_true rfl), (Nat.le_of_ble_eq_true rfl)⟩ (by decide +kernel) rfl rfl (Nat.le_of_ble_eq_true rfl) hk dL_law__3110 ?_
  refine g_istore C dL_law__3113 (Nat.le_of_ble_eq_true rfl) rfl ?_
  refine g_aload_n C 3 dL_law__3115 rfl rfl ?_
  refine l_arg C S 1 5 1 rfl rfl (by omega) rfl dL_law__3116 dL_law__3117 dL_law__3119 dL_law__3120 dL_law__3121 ?_
  refine l_arg C S 1 5 2 rfl rfl (by omega) rfl dL_law__3122 dL_law__3123 dL_law__3125 dL_law__3126 dL_law__3127 ?_
  refine l_callMi C Lx [.int (xs (i + 1)), .int (xs (i + 2))] r2.1 r2.2 2 rfl (c12_log (l := Θ.1.2.1) (w := wm w aM) (ago_a := (xs (i + 1))) (what_a := (xs (i + 2))) rfl Lx.2.2.1 h2) w_11_20 w_11_17 w_11_18 w_11_19 w_1_14 ⟨rfl, rfl, (Nat.le_of_ble_eq_true rfl), (Nat.le_of_ble_eq_true rfl)⟩ (by decide +kernel) rfl rfl (Nat.le_of_ble_eq_true rfl) hk dL_law__3128 ?_
  refine g_istore C dL_law__3131 (Nat.le_of_ble_eq_true rfl) rfl ?_
  refine g_aload_n C 4 dL_law__3133 rfl rfl ?_
  refine l_callMi C Lx [] (q12_thrown r2.2) r2.2 0 rfl (c12_thrown (l := Θ.1.2.1) (w := wm w aM) rfl Lx.2.2.1) w_8_130 w_8_127 w_8_128 w_8_129 w_1_14 ⟨rfl, rfl, (Nat.le_of_ble_eq_true rfl), (Nat.le_of_ble_eq_true rfl)⟩ (by decide +kernel) rfl rfl (Nat.le_of_ble_eq_true rfl) hk dL_law__3134 ?_
  refine g_iload C 1 dL_law__3137 rfl ?_
  refine g_icmp_eq C 3144 dL_law__3139 (by decide) (fun _ => ?_) (fun h => absurd (Sx_k he) h)
  refine g_iload C 1 dL_law__3144 rfl ?_
  refine g_if_ne C 3161 dL_law__3146 (by decide) (fun _ => ?_) (fun h0 => ?_)
  · refine g_goto C 3251 dL_law__3161 (by decide) ?_
    refine G.sub [2, 3, 4, 5, 6] rfl ?_
    exact K _ _ _ hR2
  · refine g_aload_n C 5 dL_law__3149 rfl rfl ?_
    refine g_iconst (v := 0) C dL_law__3150 rfl ?_
    refine l_lald C (by rw [Lx.1]) dL_law__3151 ?_
    refine g_iload C 0 dL_law__3152 rfl ?_
    refine g_i2l C dL_law__3154 ?_
    refine g_lcmp C dL_law__3155 ?_
    rw [Sx_o (f := (fun v => v)) (o := o) (by decide) he h0, lg_cmp_self]
    refine g_if_eq C 3161 dL_law__3156 (by decide) (fun _ => ?_) (fun h => absurd rfl h)
    refine g_goto C 3251 dL_law__3161 (by decide) ?_
    refine G.sub [2, 3, 4, 5, 6] rfl ?_
    exact K _ _ _ hR2
/-! case 58 -/
theorem dL_law__3164 : decode cL_law_ 3164 = .ok (.aload_n 1, 1) := by decide +kernel
theorem dL_law__3165 : decode cL_law_ 3165 = .ok (.aload_n 0, 1) := by decide +kernel
theorem dL_law__3166 : decode cL_law_ 3166 = .ok (.iload 4, 2) := by decide +kernel
theorem dL_law__3168 : decode cL_law_ 3168 = .ok (.iconst 1, 1) := by decide +kernel
theorem dL_law__3169 : decode cL_law_ 3169 = .ok (.iadd, 1) := by decide +kernel
theorem dL_law__3170 : decode cL_law_ 3170 = .ok (.iaload, 1) := by decide +kernel
theorem w_4_116 : Cond.selects "LastLoaf" ({ cls := "LastLoaf", name := "seed", desc := "(I)I" } : MethodName) ({ cls := "LastLoaf", name := "seed", desc := "(I)I" } : MethodName) ∈ TB := tb_in (lwt_4 (List.mem_of_getElem? (i := 116) (by decide +kernel))) rfl
theorem w_4_117 : Cond.code ({ cls := "LastLoaf", name := "seed", desc := "(I)I" } : MethodName) prog_1_method_60_code (3 : Nat) (Option.some ClassFile.FieldType.int) ∈ TB := tb_in (lwt_4 (List.mem_of_getElem? (i := 117) (by decide +kernel))) rfl
theorem w_4_114 : Cond.methodLink "LastLoafLaw" (353 : Nat) ({ cls := "LastLoaf", name := "seed", desc := "(I)I" } : MethodName) ∈ TB := tb_in (lwt_4 (List.mem_of_getElem? (i := 114) (by decide +kernel))) rfl
theorem w_4_115 : Cond.instanceMethod ({ cls := "LastLoaf", name := "seed", desc := "(I)I" } : MethodName) ∈ TB := tb_in (lwt_4 (List.mem_of_getElem? (i := 115) (by decide +kernel))) rfl
theorem dL_law__3171 : decode cL_law_ 3171 = .ok (.invokevirtual 353, 3) := by decide +kernel
theorem dL_law__3174 : decode cL_law_ 3174 = .ok (.aload_n 2, 1) := by decide +kernel
theorem dL_law__3175 : decode cL_law_ 3175 = .ok (.aload_n 0, 1) := by decide +kernel
theorem dL_law__3176 : decode cL_law_ 3176 = .ok (.iload 4, 2) := by decide +kernel
theorem dL_law__3178 : decode cL_law_ 3178 = .ok (.iconst 1, 1) := by decide +kernel
theorem dL_law__3179 : decode cL_law_ 3179 = .ok (.iadd, 1) := by decide +kernel
theorem dL_law__3180 : decode cL_law_ 3180 = .ok (.iaload, 1) := by decide +kernel
theorem w_11_23 : Cond.selects "LastLoafModel" ({ cls := "LastLoafModel", name := "seed", desc := "(I)I" } : MethodName) ({ cls := "LastLoafModel", name := "seed", desc := "(I)I" } : MethodName) ∈ TB := tb_in (lwt_11 (List.mem_of_getElem? (i := 23) (by decide +kernel))) rfl
theorem w_11_24 : Cond.code ({ cls := "LastLoafModel", name := "seed", desc := "(I)I" } : MethodName) prog_14_method_148_code (3 : Nat) (Option.some ClassFile.FieldType.int) ∈ TB := tb_in (lwt_11 (List.mem_of_getElem? (i := 24) (by decide +kernel))) rfl
theorem w_11_21 : Cond.methodLink "LastLoafLaw" (356 : Nat) ({ cls := "LastLoafModel", name := "seed", desc := "(I)I" } : MethodName) ∈ TB := tb_in (lwt_11 (List.mem_of_getElem? (i := 21) (by decide +kernel))) rfl
theorem w_11_22 : Cond.instanceMethod ({ cls := "LastLoafModel", name := "seed", desc := "(I)I" } : MethodName) ∈ TB := tb_in (lwt_11 (List.mem_of_getElem? (i := 22) (by decide +kernel))) rfl
theorem dL_law__3181 : decode cL_law_ 3181 = .ok (.invokevirtual 356, 3) := by decide +kernel
theorem dL_law__3184 : decode cL_law_ 3184 = .ok (.if_icmp .eq 67, 3) := by decide +kernel
def Op_seed (RR : St → St → Prop) : Prop := ∀ (σ μ : St), RR σ μ → ∀ (a0 : Int32), ∃ (r1 : (Int32 × St)) (r2 : (Int32 × St)), q11_seed σ a0 = some r1 ∧ q12_seed μ a0 = some r2 ∧ r1.1 = r2.1 ∧ RR r1.2 r2.2
set_option maxHeartbeats 4000000 in
set_option maxRecDepth 100000 in
theorem law_58 {RR : St → St → Prop} (hop : Op_seed RR) {Θ : Tz} {cJ : ClassId} {Q : State → Prop} {w : Wp} {aM : Nat → Nat} {ao b L : Nat} {xs : Nat → Int32} (C : Gc Θ cL_law_ 7 RL (some .boolean) room_1 cJ) (hlt : Θ.1.2.1.stackTraces = false) (Lx : Lq Θ w aM ao) (S : Ls Θ b L xs) {σ μ : St} {o : Int64} {i kc ks : Nat} (hi : i + 6 ≤ L) (hk : kc + 4 ≤ 601024 ∧ ks + 24 ≤ 7293034) (hR : RR σ μ) (K : ∀ σ' μ' o', RR σ' μ' → G Θ 7 (kc + 4) (ks + 24) Q (LPx w aM ao cJ σ' μ' o') 3251 (llv w aM ao b i) []) : G Θ 7 kc ks Q (LPx w aM ao cJ σ μ o) 3164 (llv w aM ao b i) [] := by
  obtain ⟨r1, r2, h1, h2, he, hR2⟩ := hop σ μ hR (xs (i + 1))
  refine g_aload_n C 1 dL_law__3164 rfl rfl ?_
  refine l_arg C S 0 4 1 rfl rfl (by omega) rfl dL_law__3165 dL_law__3166 dL_law__3168 dL_law__3169 dL_law__3170 ?_
  refine l_callCi C Lx [.int (xs (i + 1))] r1.1 r1.2 1 rfl (c11_seed (l := Θ.1.2.1) (w := w) (n_a := (xs (i + 1))) rfl Lx.2.1 h1) w_4_117 w_4_114 w_4_115 w_4_116 w_1_1 ⟨rfl, rfl, (Nat.le_of_ble_eq_true rfl), (Nat.le_of_ble_eq_true rfl)⟩ (by decide +kernel) rfl rfl (Nat.le_of_ble_eq_true rfl) ⟨Nat.le_trans (Nat.le_add_right _ _) hk.1, Nat.le_trans (Nat.le_add_right _ _) hk.2⟩ dL_law__3171 ?_
  refine g_aload_n C 2 dL_law__3174 rfl rfl ?_
  refine l_arg C S 0 4 1 rfl rfl (by omega) rfl dL_law__3175 dL_law__3176 dL_law__3178 dL_law__3179 dL_law__3180 ?_
  refine l_callMi C Lx [.int (xs (i + 1))] r2.1 r2.2 1 rfl (c12_seed (l := Θ.1.2.1) (w := wm w aM) (n_a := (xs (i + 1))) rfl Lx.2.2.1 h2) w_11_24 w_11_21 w_11_22 w_11_23 w_1_14 ⟨rfl, rfl, (Nat.le_of_ble_eq_true rfl), (Nat.le_of_ble_eq_true rfl)⟩ (by decide +kernel) rfl rfl (Nat.le_of_ble_eq_true rfl) ⟨Nat.le_trans (Nat.le_add_right _ _) hk.1, Nat.le_trans (Nat.le_add_right _ _) hk.2⟩ dL_law__3181 ?_
  refine g_icmp_eq C 3251 dL_law__3184 (by decide) (fun _ => ?_) (fun h => absurd (he) h)
  exact G.wid (Nat.le_add_right _ _) (Nat.le_add_right _ _) (K _ _ o hR2)
/-! case 59 -/
theorem dL_law__3189 : decode cL_law_ 3189 = .ok (.aload_n 1, 1) := by decide +kernel
theorem w_4_120 : Cond.selects "LastLoaf" ({ cls := "LastLoaf", name := "undo", desc := "()Z" } : MethodName) ({ cls := "LastLoaf", name := "undo", desc := "()Z" } : MethodName) ∈ TB := tb_in (lwt_4 (List.mem_of_getElem? (i := 120) (by decide +kernel))) rfl
theorem w_4_121 : Cond.code ({ cls := "LastLoaf", name := "undo", desc := "()Z" } : MethodName) prog_1_method_61_code (1 : Nat) (Option.some ClassFile.FieldType.boolean) ∈ TB := tb_in (lwt_4 (List.mem_of_getElem? (i := 121) (by decide +kernel))) rfl
theorem w_4_118 : Cond.methodLink "LastLoafLaw" (357 : Nat) ({ cls := "LastLoaf", name := "undo", desc := "()Z" } : MethodName) ∈ TB := tb_in (lwt_4 (List.mem_of_getElem? (i := 118) (by decide +kernel))) rfl
theorem w_4_119 : Cond.instanceMethod ({ cls := "LastLoaf", name := "undo", desc := "()Z" } : MethodName) ∈ TB := tb_in (lwt_4 (List.mem_of_getElem? (i := 119) (by decide +kernel))) rfl
theorem dL_law__3190 : decode cL_law_ 3190 = .ok (.invokevirtual 357, 3) := by decide +kernel
theorem dL_law__3193 : decode cL_law_ 3193 = .ok (.aload_n 2, 1) := by decide +kernel
theorem w_11_27 : Cond.selects "LastLoafModel" ({ cls := "LastLoafModel", name := "undo", desc := "()Z" } : MethodName) ({ cls := "LastLoafModel", name := "undo", desc := "()Z" } : MethodName) ∈ TB := tb_in (lwt_11 (List.mem_of_getElem? (i := 27) (by decide +kernel))) rfl
theorem w_11_28 : Cond.code ({ cls := "LastLoafModel", name := "undo", desc := "()Z" } : MethodName) prog_14_method_149_code (2 : Nat) (Option.some ClassFile.FieldType.boolean) ∈ TB := tb_in (lwt_11 (List.mem_of_getElem? (i := 28) (by decide +kernel))) rfl
theorem w_11_25 : Cond.methodLink "LastLoafLaw" (361 : Nat) ({ cls := "LastLoafModel", name := "undo", desc := "()Z" } : MethodName) ∈ TB := tb_in (lwt_11 (List.mem_of_getElem? (i := 25) (by decide +kernel))) rfl
theorem w_11_26 : Cond.instanceMethod ({ cls := "LastLoafModel", name := "undo", desc := "()Z" } : MethodName) ∈ TB := tb_in (lwt_11 (List.mem_of_getElem? (i := 26) (by decide +kernel))) rfl
theorem dL_law__3194 : decode cL_law_ 3194 = .ok (.invokevirtual 361, 3) := by decide +kernel
theorem dL_law__3197 : decode cL_law_ 3197 = .ok (.if_icmp .eq 54, 3) := by decide +kernel
def Op_undo (RR : St → St → Prop) : Prop := ∀ (σ μ : St), RR σ μ → ∃ (r1 : (Bool × St)) (r2 : (Bool × St)), q11_undo σ  = some r1 ∧ q12_undo μ  = some r2 ∧ r1.1 = r2.1 ∧ RR r1.2 r2.2
set_option maxHeartbeats 4000000 in
set_option maxRecDepth 100000 in
theorem law_59 {RR : St → St → Prop} (hop : Op_undo RR) {Θ : Tz} {cJ : ClassId} {Q : State → Prop} {w : Wp} {aM : Nat → Nat} {ao b L : Nat} {xs : Nat → Int32} (C : Gc Θ cL_law_ 7 RL (some .boolean) room_1 cJ) (hlt : Θ.1.2.1.stackTraces = false) (Lx : Lq Θ w aM ao) (S : Ls Θ b L xs) {σ μ : St} {o : Int64} {i kc ks : Nat} (hi : i + 6 ≤ L) (hk : kc + 4 ≤ 601024 ∧ ks + 24 ≤ 7293034) (hR : RR σ μ) (K : ∀ σ' μ' o', RR σ' μ' → G Θ 7 (kc + 4) (ks + 24) Q (LPx w aM ao cJ σ' μ' o') 3251 (llv w aM ao b i) []) : G Θ 7 kc ks Q (LPx w aM ao cJ σ μ o) 3189 (llv w aM ao b i) [] := by
  obtain ⟨r1, r2, h1, h2, he, hR2⟩ := hop σ μ hR 
  refine g_aload_n C 1 dL_law__3189 rfl rfl ?_
  refine l_callCi C Lx [] (b2i r1.1) r1.2 0 rfl (c11_undo (l := Θ.1.2.1) (w := w)  rfl Lx.2.1 h1) w_4_121 w_4_118 w_4_119 w_4_120 w_1_1 ⟨rfl, rfl, (Nat.le_of_ble_eq_true rfl), (Nat.le_of_ble_eq_true rfl)⟩ (by decide +kernel) rfl rfl (Nat.le_of_ble_eq_true rfl) ⟨Nat.le_trans (Nat.le_add_right _ _) hk.1, Nat.le_trans (Nat.le_add_right _ _) hk.2⟩ dL_law__3190 ?_
  refine g_aload_n C 2 dL_law__3193 rfl rfl ?_
  refine l_callMi C Lx [] (b2i r2.1) r2.2 0 rfl (c12_undo (l := Θ.1.2.1) (w := wm w aM)  rfl Lx.2.2.1 h2) w_11_28 w_11_25 w_11_26 w_11_27 w_1_14 ⟨rfl, rfl, (Nat.le_of_ble_eq_true rfl), (Nat.le_of_ble_eq_true rfl)⟩ (by decide +kernel) rfl rfl (Nat.le_of_ble_eq_true rfl) ⟨Nat.le_trans (Nat.le_add_right _ _) hk.1, Nat.le_trans (Nat.le_add_right _ _) hk.2⟩ dL_law__3194 ?_
  refine g_icmp_eq C 3251 dL_law__3197 (by decide) (fun _ => ?_) (fun h => absurd (congrArg b2i he) h)
  exact G.wid (Nat.le_add_right _ _) (Nat.le_add_right _ _) (K _ _ o hR2)
/-! case 60 -/
theorem dL_law__3202 : decode cL_law_ 3202 = .ok (.aload_n 1, 1) := by decide +kernel
theorem w_4_130 : Cond.selects "LastLoaf" ({ cls := "LastLoaf", name := "image", desc := "()V" } : MethodName) ({ cls := "LastLoaf", name := "image", desc := "()V" } : MethodName) ∈ TB := tb_in (lwt_4 (List.mem_of_getElem? (i := 130) (by decide +kernel))) rfl
theorem w_4_131 : Cond.code ({ cls := "LastLoaf", name := "image", desc := "()V" } : MethodName) prog_1_method_62_code (1 : Nat) (Option.none : Option ClassFile.FieldType) ∈ TB := tb_in (lwt_4 (List.mem_of_getElem? (i := 131) (by decide +kernel))) rfl
theorem w_4_128 : Cond.methodLink "LastLoafLaw" (362 : Nat) ({ cls := "LastLoaf", name := "image", desc := "()V" } : MethodName) ∈ TB := tb_in (lwt_4 (List.mem_of_getElem? (i := 128) (by decide +kernel))) rfl
theorem w_4_129 : Cond.instanceMethod ({ cls := "LastLoaf", name := "image", desc := "()V" } : MethodName) ∈ TB := tb_in (lwt_4 (List.mem_of_getElem? (i := 129) (by decide +kernel))) rfl
theorem dL_law__3203 : decode cL_law_ 3203 = .ok (.invokevirtual 362, 3) := by decide +kernel
theorem dL_law__3206 : decode cL_law_ 3206 = .ok (.aload_n 2, 1) := by decide +kernel
theorem w_11_31 : Cond.selects "LastLoafModel" ({ cls := "LastLoafModel", name := "image", desc := "()V" } : MethodName) ({ cls := "LastLoafModel", name := "image", desc := "()V" } : MethodName) ∈ TB := tb_in (lwt_11 (List.mem_of_getElem? (i := 31) (by decide +kernel))) rfl
theorem w_11_32 : Cond.code ({ cls := "LastLoafModel", name := "image", desc := "()V" } : MethodName) prog_14_method_150_code (2 : Nat) (Option.none : Option ClassFile.FieldType) ∈ TB := tb_in (lwt_11 (List.mem_of_getElem? (i := 32) (by decide +kernel))) rfl
theorem w_11_29 : Cond.methodLink "LastLoafLaw" (365 : Nat) ({ cls := "LastLoafModel", name := "image", desc := "()V" } : MethodName) ∈ TB := tb_in (lwt_11 (List.mem_of_getElem? (i := 29) (by decide +kernel))) rfl
theorem w_11_30 : Cond.instanceMethod ({ cls := "LastLoafModel", name := "image", desc := "()V" } : MethodName) ∈ TB := tb_in (lwt_11 (List.mem_of_getElem? (i := 30) (by decide +kernel))) rfl
theorem dL_law__3207 : decode cL_law_ 3207 = .ok (.invokevirtual 365, 3) := by decide +kernel
theorem dL_law__3210 : decode cL_law_ 3210 = .ok (.goto 41, 3) := by decide +kernel
def Op_image (RR : St → St → Prop) : Prop := ∀ (σ μ : St), RR σ μ → ∃ (r1 : St) (r2 : St), q11_image σ  = some r1 ∧ q12_image μ  = some r2 ∧ RR r1 r2
set_option maxHeartbeats 4000000 in
set_option maxRecDepth 100000 in
theorem law_60 {RR : St → St → Prop} (hop : Op_image RR) {Θ : Tz} {cJ : ClassId} {Q : State → Prop} {w : Wp} {aM : Nat → Nat} {ao b L : Nat} {xs : Nat → Int32} (C : Gc Θ cL_law_ 7 RL (some .boolean) room_1 cJ) (hlt : Θ.1.2.1.stackTraces = false) (Lx : Lq Θ w aM ao) (S : Ls Θ b L xs) {σ μ : St} {o : Int64} {i kc ks : Nat} (hi : i + 6 ≤ L) (hk : kc + 4 ≤ 601024 ∧ ks + 24 ≤ 7293034) (hR : RR σ μ) (K : ∀ σ' μ' o', RR σ' μ' → G Θ 7 (kc + 4) (ks + 24) Q (LPx w aM ao cJ σ' μ' o') 3251 (llv w aM ao b i) []) : G Θ 7 kc ks Q (LPx w aM ao cJ σ μ o) 3202 (llv w aM ao b i) [] := by
  obtain ⟨r1, r2, h1, h2, hR2⟩ := hop σ μ hR 
  refine g_aload_n C 1 dL_law__3202 rfl rfl ?_
  refine l_callCv C Lx [] r1 0 rfl (c11_image (l := Θ.1.2.1) (w := w)  rfl Lx.2.1 h1) w_4_131 w_4_128 w_4_129 w_4_130 w_1_1 ⟨rfl, rfl, (Nat.le_of_ble_eq_true rfl), (Nat.le_of_ble_eq_true rfl)⟩ (by decide +kernel) rfl rfl (Nat.le_of_ble_eq_true rfl) ⟨Nat.le_trans (Nat.le_add_right _ _) hk.1, Nat.le_trans (Nat.le_add_right _ _) hk.2⟩ dL_law__3203 ?_
  refine g_aload_n C 2 dL_law__3206 rfl rfl ?_
  refine l_callMv C Lx [] r2 0 rfl (c12_image (l := Θ.1.2.1) (w := wm w aM)  rfl Lx.2.2.1 h2) w_11_32 w_11_29 w_11_30 w_11_31 w_1_14 ⟨rfl, rfl, (Nat.le_of_ble_eq_true rfl), (Nat.le_of_ble_eq_true rfl)⟩ (by decide +kernel) rfl rfl (Nat.le_of_ble_eq_true rfl) ⟨Nat.le_trans (Nat.le_add_right _ _) hk.1, Nat.le_trans (Nat.le_add_right _ _) hk.2⟩ dL_law__3207 ?_
  refine g_goto C 3251 dL_law__3210 (by decide) ?_
  exact G.wid (Nat.le_add_right _ _) (Nat.le_add_right _ _) (K _ _ o hR2)
/-! case 61 -/
theorem dL_law__3213 : decode cL_law_ 3213 = .ok (.aload_n 1, 1) := by decide +kernel
theorem w_4_139 : Cond.selects "LastLoaf" ({ cls := "LastLoaf", name := "back", desc := "()Z" } : MethodName) ({ cls := "LastLoaf", name := "back", desc := "()Z" } : MethodName) ∈ TB := tb_in (lwt_4 (List.mem_of_getElem? (i := 139) (by decide +kernel))) rfl
theorem w_4_140 : Cond.code ({ cls := "LastLoaf", name := "back", desc := "()Z" } : MethodName) prog_1_method_63_code (1 : Nat) (Option.some ClassFile.FieldType.boolean) ∈ TB := tb_in (lwt_4 (List.mem_of_getElem? (i := 140) (by decide +kernel))) rfl
theorem w_4_137 : Cond.methodLink "LastLoafLaw" (366 : Nat) ({ cls := "LastLoaf", name := "back", desc := "()Z" } : MethodName) ∈ TB := tb_in (lwt_4 (List.mem_of_getElem? (i := 137) (by decide +kernel))) rfl
theorem w_4_138 : Cond.instanceMethod ({ cls := "LastLoaf", name := "back", desc := "()Z" } : MethodName) ∈ TB := tb_in (lwt_4 (List.mem_of_getElem? (i := 138) (by decide +kernel))) rfl
theorem dL_law__3214 : decode cL_law_ 3214 = .ok (.invokevirtual 366, 3) := by decide +kernel
theorem dL_law__3217 : decode cL_law_ 3217 = .ok (.aload_n 2, 1) := by decide +kernel
theorem w_11_35 : Cond.selects "LastLoafModel" ({ cls := "LastLoafModel", name := "back", desc := "()Z" } : MethodName) ({ cls := "LastLoafModel", name := "back", desc := "()Z" } : MethodName) ∈ TB := tb_in (lwt_11 (List.mem_of_getElem? (i := 35) (by decide +kernel))) rfl
theorem w_11_36 : Cond.code ({ cls := "LastLoafModel", name := "back", desc := "()Z" } : MethodName) prog_14_method_151_code (2 : Nat) (Option.some ClassFile.FieldType.boolean) ∈ TB := tb_in (lwt_11 (List.mem_of_getElem? (i := 36) (by decide +kernel))) rfl
theorem w_11_33 : Cond.methodLink "LastLoafLaw" (369 : Nat) ({ cls := "LastLoafModel", name := "back", desc := "()Z" } : MethodName) ∈ TB := tb_in (lwt_11 (List.mem_of_getElem? (i := 33) (by decide +kernel))) rfl
theorem w_11_34 : Cond.instanceMethod ({ cls := "LastLoafModel", name := "back", desc := "()Z" } : MethodName) ∈ TB := tb_in (lwt_11 (List.mem_of_getElem? (i := 34) (by decide +kernel))) rfl
theorem dL_law__3218 : decode cL_law_ 3218 = .ok (.invokevirtual 369, 3) := by decide +kernel
theorem dL_law__3221 : decode cL_law_ 3221 = .ok (.if_icmp .eq 30, 3) := by decide +kernel
def Op_back (RR : St → St → Prop) : Prop := ∀ (σ μ : St), RR σ μ → ∃ (r1 : (Bool × St)) (r2 : (Bool × St)), q11_back σ  = some r1 ∧ q12_back μ  = some r2 ∧ r1.1 = r2.1 ∧ RR r1.2 r2.2
set_option maxHeartbeats 4000000 in
set_option maxRecDepth 100000 in
theorem law_61 {RR : St → St → Prop} (hop : Op_back RR) {Θ : Tz} {cJ : ClassId} {Q : State → Prop} {w : Wp} {aM : Nat → Nat} {ao b L : Nat} {xs : Nat → Int32} (C : Gc Θ cL_law_ 7 RL (some .boolean) room_1 cJ) (hlt : Θ.1.2.1.stackTraces = false) (Lx : Lq Θ w aM ao) (S : Ls Θ b L xs) {σ μ : St} {o : Int64} {i kc ks : Nat} (hi : i + 6 ≤ L) (hk : kc + 4 ≤ 601024 ∧ ks + 24 ≤ 7293034) (hR : RR σ μ) (K : ∀ σ' μ' o', RR σ' μ' → G Θ 7 (kc + 4) (ks + 24) Q (LPx w aM ao cJ σ' μ' o') 3251 (llv w aM ao b i) []) : G Θ 7 kc ks Q (LPx w aM ao cJ σ μ o) 3213 (llv w aM ao b i) [] := by
  obtain ⟨r1, r2, h1, h2, he, hR2⟩ := hop σ μ hR 
  refine g_aload_n C 1 dL_law__3213 rfl rfl ?_
  refine l_callCi C Lx [] (b2i r1.1) r1.2 0 rfl (c11_back (l := Θ.1.2.1) (w := w)  rfl Lx.2.1 h1) w_4_140 w_4_137 w_4_138 w_4_139 w_1_1 ⟨rfl, rfl, (Nat.le_of_ble_eq_true rfl), (Nat.le_of_ble_eq_true rfl)⟩ (by decide +kernel) rfl rfl (Nat.le_of_ble_eq_true rfl) ⟨Nat.le_trans (Nat.le_add_right _ _) hk.1, Nat.le_trans (Nat.le_add_right _ _) hk.2⟩ dL_law__3214 ?_
  refine g_aload_n C 2 dL_law__3217 rfl rfl ?_
  refine l_callMi C Lx [] (b2i r2.1) r2.2 0 rfl (c12_back (l := Θ.1.2.1) (w := wm w aM)  rfl Lx.2.2.1 h2) w_11_36 w_11_33 w_11_34 w_11_35 w_1_14 ⟨rfl, rfl, (Nat.le_of_ble_eq_true rfl), (Nat.le_of_ble_eq_true rfl)⟩ (by decide +kernel) rfl rfl (Nat.le_of_ble_eq_true rfl) ⟨Nat.le_trans (Nat.le_add_right _ _) hk.1, Nat.le_trans (Nat.le_add_right _ _) hk.2⟩ dL_law__3218 ?_
  refine g_icmp_eq C 3251 dL_law__3221 (by decide) (fun _ => ?_) (fun h => absurd (congrArg b2i he) h)
  exact G.wid (Nat.le_add_right _ _) (Nat.le_add_right _ _) (K _ _ o hR2)
/-! case 62 -/
theorem dL_law__3226 : decode cL_law_ 3226 = .ok (.aload_n 1, 1) := by decide +kernel
theorem dL_law__3227 : decode cL_law_ 3227 = .ok (.aload_n 0, 1) := by decide +kernel
theorem dL_law__3228 : decode cL_law_ 3228 = .ok (.iload 4, 2) := by decide +kernel
theorem dL_law__3230 : decode cL_law_ 3230 = .ok (.iconst 1, 1) := by decide +kernel
theorem dL_law__3231 : decode cL_law_ 3231 = .ok (.iadd, 1) := by decide +kernel
theorem dL_law__3232 : decode cL_law_ 3232 = .ok (.iaload, 1) := by decide +kernel
theorem w_4_147 : Cond.selects "LastLoaf" ({ cls := "LastLoaf", name := "count", desc := "(I)I" } : MethodName) ({ cls := "LastLoaf", name := "count", desc := "(I)I" } : MethodName) ∈ TB := tb_in (lwt_4 (List.mem_of_getElem? (i := 147) (by decide +kernel))) rfl
theorem w_4_148 : Cond.code ({ cls := "LastLoaf", name := "count", desc := "(I)I" } : MethodName) prog_1_method_64_code (2 : Nat) (Option.some ClassFile.FieldType.int) ∈ TB := tb_in (lwt_4 (List.mem_of_getElem? (i := 148) (by decide +kernel))) rfl
theorem w_4_145 : Cond.methodLink "LastLoafLaw" (370 : Nat) ({ cls := "LastLoaf", name := "count", desc := "(I)I" } : MethodName) ∈ TB := tb_in (lwt_4 (List.mem_of_getElem? (i := 145) (by decide +kernel))) rfl
theorem w_4_146 : Cond.instanceMethod ({ cls := "LastLoaf", name := "count", desc := "(I)I" } : MethodName) ∈ TB := tb_in (lwt_4 (List.mem_of_getElem? (i := 146) (by decide +kernel))) rfl
theorem dL_law__3233 : decode cL_law_ 3233 = .ok (.invokevirtual 370, 3) := by decide +kernel
theorem dL_law__3236 : decode cL_law_ 3236 = .ok (.aload_n 2, 1) := by decide +kernel
theorem dL_law__3237 : decode cL_law_ 3237 = .ok (.aload_n 0, 1) := by decide +kernel
theorem dL_law__3238 : decode cL_law_ 3238 = .ok (.iload 4, 2) := by decide +kernel
theorem dL_law__3240 : decode cL_law_ 3240 = .ok (.iconst 1, 1) := by decide +kernel
theorem dL_law__3241 : decode cL_law_ 3241 = .ok (.iadd, 1) := by decide +kernel
theorem dL_law__3242 : decode cL_law_ 3242 = .ok (.iaload, 1) := by decide +kernel
theorem w_11_39 : Cond.selects "LastLoafModel" ({ cls := "LastLoafModel", name := "count", desc := "(I)I" } : MethodName) ({ cls := "LastLoafModel", name := "count", desc := "(I)I" } : MethodName) ∈ TB := tb_in (lwt_11 (List.mem_of_getElem? (i := 39) (by decide +kernel))) rfl
theorem w_11_40 : Cond.code ({ cls := "LastLoafModel", name := "count", desc := "(I)I" } : MethodName) prog_14_method_152_code (2 : Nat) (Option.some ClassFile.FieldType.int) ∈ TB := tb_in (lwt_11 (List.mem_of_getElem? (i := 40) (by decide +kernel))) rfl
theorem w_11_37 : Cond.methodLink "LastLoafLaw" (373 : Nat) ({ cls := "LastLoafModel", name := "count", desc := "(I)I" } : MethodName) ∈ TB := tb_in (lwt_11 (List.mem_of_getElem? (i := 37) (by decide +kernel))) rfl
theorem w_11_38 : Cond.instanceMethod ({ cls := "LastLoafModel", name := "count", desc := "(I)I" } : MethodName) ∈ TB := tb_in (lwt_11 (List.mem_of_getElem? (i := 38) (by decide +kernel))) rfl
theorem dL_law__3243 : decode cL_law_ 3243 = .ok (.invokevirtual 373, 3) := by decide +kernel
theorem dL_law__3246 : decode cL_law_ 3246 = .ok (.if_icmp .eq 5, 3) := by decide +kernel
def Op_count (RR : St → St → Prop) : Prop := ∀ (σ μ : St), RR σ μ → ∀ (a0 : Int32), ∃ (r1 : (Int32 × St)) (r2 : (Int32 × St)), q11_count σ a0 = some r1 ∧ q12_count μ a0 = some r2 ∧ r1.1 = r2.1 ∧ RR r1.2 r2.2
set_option maxHeartbeats 4000000 in
set_option maxRecDepth 100000 in
theorem law_62 {RR : St → St → Prop} (hop : Op_count RR) {Θ : Tz} {cJ : ClassId} {Q : State → Prop} {w : Wp} {aM : Nat → Nat} {ao b L : Nat} {xs : Nat → Int32} (C : Gc Θ cL_law_ 7 RL (some .boolean) room_1 cJ) (hlt : Θ.1.2.1.stackTraces = false) (Lx : Lq Θ w aM ao) (S : Ls Θ b L xs) {σ μ : St} {o : Int64} {i kc ks : Nat} (hi : i + 6 ≤ L) (hk : kc + 4 ≤ 601024 ∧ ks + 24 ≤ 7293034) (hR : RR σ μ) (K : ∀ σ' μ' o', RR σ' μ' → G Θ 7 (kc + 4) (ks + 24) Q (LPx w aM ao cJ σ' μ' o') 3251 (llv w aM ao b i) []) : G Θ 7 kc ks Q (LPx w aM ao cJ σ μ o) 3226 (llv w aM ao b i) [] := by
  obtain ⟨r1, r2, h1, h2, he, hR2⟩ := hop σ μ hR (xs (i + 1))
  refine g_aload_n C 1 dL_law__3226 rfl rfl ?_
  refine l_arg C S 0 4 1 rfl rfl (by omega) rfl dL_law__3227 dL_law__3228 dL_law__3230 dL_law__3231 dL_law__3232 ?_
  refine l_callCi C Lx [.int (xs (i + 1))] r1.1 r1.2 1 rfl (c11_count (l := Θ.1.2.1) (w := w) (what_a := (xs (i + 1))) rfl Lx.2.1 h1) w_4_148 w_4_145 w_4_146 w_4_147 w_1_1 ⟨rfl, rfl, (Nat.le_of_ble_eq_true rfl), (Nat.le_of_ble_eq_true rfl)⟩ (by decide +kernel) rfl rfl (Nat.le_of_ble_eq_true rfl) ⟨Nat.le_trans (Nat.le_add_right _ _) hk.1, Nat.le_trans (Nat.le_add_right _ _) hk.2⟩ dL_law__3233 ?_
  refine g_aload_n C 2 dL_law__3236 rfl rfl ?_
  refine l_arg C S 0 4 1 rfl rfl (by omega) rfl dL_law__3237 dL_law__3238 dL_law__3240 dL_law__3241 dL_law__3242 ?_
  refine l_callMi C Lx [.int (xs (i + 1))] r2.1 r2.2 1 rfl (c12_count (l := Θ.1.2.1) (w := wm w aM) (what_a := (xs (i + 1))) rfl Lx.2.2.1 h2) w_11_40 w_11_37 w_11_38 w_11_39 w_1_14 ⟨rfl, rfl, (Nat.le_of_ble_eq_true rfl), (Nat.le_of_ble_eq_true rfl)⟩ (by decide +kernel) rfl rfl (Nat.le_of_ble_eq_true rfl) ⟨Nat.le_trans (Nat.le_add_right _ _) hk.1, Nat.le_trans (Nat.le_add_right _ _) hk.2⟩ dL_law__3243 ?_
  refine g_icmp_eq C 3251 dL_law__3246 (by decide) (fun _ => ?_) (fun h => absurd (he) h)
  exact G.wid (Nat.le_add_right _ _) (Nat.le_add_right _ _) (K _ _ o hR2)

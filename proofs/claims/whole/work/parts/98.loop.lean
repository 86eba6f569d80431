theorem dL_law__40 : decode cL_law_ 40 = .ok (.tableswitch 3211 0 62 #[268, 341, 366, 410, 454, 467, 535, 603, 671, 727, 783, 874, 954, 1022, 1078, 1134, 1202, 1258, 1314, 1382, 1457, 1470, 1538, 1594, 1650, 1706, 1719, 1787, 1855, 1868, 1924, 1965, 2009, 2065, 2109, 2134, 2190, 2203, 2259, 2272, 2328, 2341, 2366, 2434, 2497, 2565, 2633, 2646, 2659, 2672, 2685, 2698, 2711, 2724, 2804, 2888, 2972, 3056, 3124, 3149, 3162, 3173, 3186], 268) := by decide +kernel
theorem dL_law__0 : decode cL_law_ 0 = .ok (.new 8, 3) := by decide +kernel
theorem dL_law__3 : decode cL_law_ 3 = .ok (.dup, 1) := by decide +kernel
theorem dL_law__4 : decode cL_law_ 4 = .ok (.invokespecial 144, 3) := by decide +kernel
theorem dL_law__7 : decode cL_law_ 7 = .ok (.astore_n 1, 1) := by decide +kernel
theorem dL_law__8 : decode cL_law_ 8 = .ok (.new 145, 3) := by decide +kernel
theorem dL_law__11 : decode cL_law_ 11 = .ok (.dup, 1) := by decide +kernel
theorem dL_law__12 : decode cL_law_ 12 = .ok (.invokespecial 147, 3) := by decide +kernel
theorem dL_law__15 : decode cL_law_ 15 = .ok (.astore_n 2, 1) := by decide +kernel
theorem dL_law__16 : decode cL_law_ 16 = .ok (.iconst 1, 1) := by decide +kernel
theorem dL_law__17 : decode cL_law_ 17 = .ok (.newarray .long, 2) := by decide +kernel
theorem dL_law__19 : decode cL_law_ 19 = .ok (.astore_n 3, 1) := by decide +kernel
theorem dL_law__20 : decode cL_law_ 20 = .ok (.iconst 0, 1) := by decide +kernel
theorem dL_law__21 : decode cL_law_ 21 = .ok (.istore 4, 2) := by decide +kernel
theorem dL_law__23 : decode cL_law_ 23 = .ok (.iload 4, 2) := by decide +kernel
theorem dL_law__25 : decode cL_law_ 25 = .ok (.aload_n 0, 1) := by decide +kernel
theorem dL_law__26 : decode cL_law_ 26 = .ok (.arraylength, 1) := by decide +kernel
theorem dL_law__27 : decode cL_law_ 27 = .ok (.bipush 6, 2) := by decide +kernel
theorem dL_law__29 : decode cL_law_ 29 = .ok (.isub, 1) := by decide +kernel
theorem dL_law__30 : decode cL_law_ 30 = .ok (.if_icmp .gt 3227, 3) := by decide +kernel
theorem dL_law__33 : decode cL_law_ 33 = .ok (.aload_n 0, 1) := by decide +kernel
theorem dL_law__34 : decode cL_law_ 34 = .ok (.iload 4, 2) := by decide +kernel
theorem dL_law__36 : decode cL_law_ 36 = .ok (.iaload, 1) := by decide +kernel
theorem dL_law__37 : decode cL_law_ 37 = .ok (.bipush 63, 2) := by decide +kernel
theorem dL_law__39 : decode cL_law_ 39 = .ok (.iand, 1) := by decide +kernel
theorem dL_law__3251 : decode cL_law_ 3251 = .ok (.iinc 4 6, 3) := by decide +kernel
theorem dL_law__3254 : decode cL_law_ 3254 = .ok (.goto (-3231), 3) := by decide +kernel
theorem dL_law__3257 : decode cL_law_ 3257 = .ok (.iconst 1, 1) := by decide +kernel
theorem dL_law__3258 : decode cL_law_ 3258 = .ok (.ireturn, 1) := by decide +kernel
theorem w_1_30 : Cond.classLink "LastLoafLaw" (8 : Nat) "LastLoaf" ∈ TB := tb_in (lwt_1 (List.mem_of_getElem? (i := 30) (by decide +kernel))) rfl
theorem w_8_21 : Cond.classLink "LastLoafLaw" (145 : Nat) "LastLoafModel" ∈ TB := tb_in (lwt_8 (List.mem_of_getElem? (i := 21) (by decide +kernel))) rfl
theorem w_1_34 : Cond.code ({ cls := "LastLoaf", name := "<init>", desc := "()V" } : MethodName) prog_1_method_1_code (1 : Nat) (Option.none : Option ClassFile.FieldType) ∈ TB := tb_in (lwt_1 (List.mem_of_getElem? (i := 34) (by decide +kernel))) rfl
theorem w_1_32 : Cond.methodLink "LastLoafLaw" (144 : Nat) ({ cls := "LastLoaf", name := "<init>", desc := "()V" } : MethodName) ∈ TB := tb_in (lwt_1 (List.mem_of_getElem? (i := 32) (by decide +kernel))) rfl
theorem w_1_33 : Cond.instanceMethod ({ cls := "LastLoaf", name := "<init>", desc := "()V" } : MethodName) ∈ TB := tb_in (lwt_1 (List.mem_of_getElem? (i := 33) (by decide +kernel))) rfl
theorem w_8_25 : Cond.code ({ cls := "LastLoafModel", name := "<init>", desc := "()V" } : MethodName) prog_14_method_1_code (2 : Nat) (Option.none : Option ClassFile.FieldType) ∈ TB := tb_in (lwt_8 (List.mem_of_getElem? (i := 25) (by decide +kernel))) rfl
theorem w_8_23 : Cond.methodLink "LastLoafLaw" (147 : Nat) ({ cls := "LastLoafModel", name := "<init>", desc := "()V" } : MethodName) ∈ TB := tb_in (lwt_8 (List.mem_of_getElem? (i := 23) (by decide +kernel))) rfl
theorem w_8_24 : Cond.instanceMethod ({ cls := "LastLoafModel", name := "<init>", desc := "()V" } : MethodName) ∈ TB := tb_in (lwt_8 (List.mem_of_getElem? (i := 24) (by decide +kernel))) rfl
/-! THE LOOP AND THE START OF THE LAW -/
section
variable {Θ : Tz} {cc : ByteArray} {nL kc ks : Nat} {own : String} {ret : Option FieldType} {rm : Room} {cJ : ClassId} {Q : State → Prop} {P : Heap → Prop} {pc : Nat} {lv lv' : List (Nat × Value)} {st : List Value}
theorem g_tswIn (C : Gc Θ cc nL own ret rm cJ) {dflt lo hi : Int} {offs : Array Int} {len : Nat} {x : Int32} {off : Int} (tgt : Nat) (hd : decode cc pc = .ok (.tableswitch dflt lo hi offs, len)) (h1 : ¬ x.toInt < lo) (h2 : ¬ hi < x.toInt) (ho : offs[(x.toInt - lo).toNat]? = some off) (ht : (pc : Int) + off = (tgt : Int)) (k : G Θ nL kc ks Q P tgt lv st) : G Θ nL kc ks Q P pc lv (.int x :: st) := fun H locs ls hH hS hl => lv_tableIn C.1 C.2.1 hd h1 h2 ho ht (k H locs ls hH hS hl)
theorem g_tswOut (C : Gc Θ cc nL own ret rm cJ) {dflt lo hi : Int} {offs : Array Int} {len : Nat} {x : Int32} (tgt : Nat) (hd : decode cc pc = .ok (.tableswitch dflt lo hi offs, len)) (h : x.toInt < lo ∨ hi < x.toInt) (ht : (pc : Int) + dflt = (tgt : Int)) (k : G Θ nL kc ks Q P tgt lv st) : G Θ nL kc ks Q P pc lv (.int x :: st) := fun H locs ls hH hS hl => lv_tableOut C.1 C.2.1 hd h ht (k H locs ls hH hS hl)
end
section
variable {Θ : Tz} {cc : ByteArray} {nL kc ks b : Nat} {own : String} {ret : Option FieldType} {rm : Room} {Q : State → Prop} {cs : List va_E} {pc : Nat} {lv lv' : List (Nat × Value)} {st : List Value}
theorem y_astore_n (C : Yc Θ cc nL own ret rm b) {j : Fin 4} {i : Nat} {x : Nat} (hd : decode cc pc = .ok (.astore_n j, 1)) (hi : (j : Nat) = i) (hn : i < nL) (hl' : (i, Value.ref x) :: lv.filter (fun q => !(q.1 == i) && !(q.1 + 1 == i && q.2.category == 2)) = lv') (k : Y Θ nL kc ks Q b cs (pc + 1) lv' st) : Y Θ nL kc ks Q b cs pc lv (.ref x :: st) := fun H locs ls hH hS hl => lv_astore_n C.1 C.2.1 hd hi hl hn hl' (fun ls h => k H locs ls hH hS h)
end
def LawOps (RR : St → St → Prop) : Prop := Op_feed RR ∧ Op_end RR ∧ Op_village RR ∧ Op_law RR ∧ Op_fault RR ∧ Op_person RR ∧ Op_likes RR ∧ Op_favour RR ∧ Op_grist RR ∧ Op_weeks RR ∧ Op_stand RR ∧ Op_like RR ∧ Op_join RR ∧ Op_bring RR ∧ Op_way RR ∧ Op_pass RR ∧ Op_fetch RR ∧ Op_winner RR ∧ Op_rank RR ∧ Op_beats RR ∧ Op_master RR ∧ Op_hungry RR ∧ Op_kindest RR ∧ Op_next RR ∧ Op_woo RR ∧ Op_orders RR ∧ Op_order RR ∧ Op_rota RR ∧ Op_lasts RR ∧ Op_mill RR ∧ Op_starves RR ∧ Op_ballots RR ∧ Op_sure RR ∧ Op_ask RR ∧ Op_carries RR ∧ Op_swings RR ∧ Op_smallest RR ∧ Op_bloc RR ∧ Op_kingmaker RR ∧ Op_couples RR ∧ Op_camps RR ∧ Op_table RR ∧ Op_slices RR ∧ Op_ring RR ∧ Op_rests RR ∧ Op_odds RR ∧ Op_hungriest RR ∧ Op_loved RR ∧ Op_thick RR ∧ Op_bench RR ∧ Op_crowd RR ∧ Op_never RR ∧ Op_alike RR ∧ Op_ahead RR ∧ Op_trial RR ∧ Op_span RR ∧ Op_led RR ∧ Op_log RR ∧ Op_seed RR ∧ Op_undo RR ∧ Op_image RR ∧ Op_back RR ∧ Op_count RR
set_option maxHeartbeats 4000000 in
set_option maxRecDepth 100000 in
theorem law_sw {RR : St → St → Prop} (ops : LawOps RR) {Θ : Tz} {cJ : ClassId} {Q : State → Prop} {w : Wp} {aM : Nat → Nat} {ao b L : Nat} {xs : Nat → Int32} (C : Gc Θ cL_law_ 7 RL (some .boolean) room_1 cJ) (hlt : Θ.1.2.1.stackTraces = false) (Lx : Lq Θ w aM ao) (S : Ls Θ b L xs) {σ μ : St} {o : Int64} {i kc ks : Nat} (hi : i + 6 ≤ L) (hk : kc + 4 ≤ 601024 ∧ ks + 24 ≤ 7293034) (hR : RR σ μ) (K : ∀ σ' μ' o', RR σ' μ' → G Θ 7 (kc + 4) (ks + 24) Q (LPx w aM ao cJ σ' μ' o') 3251 (llv w aM ao b i) []) (k : Nat) (hk64 : k < 64) : G Θ 7 kc ks Q (LPx w aM ao cJ σ μ o) 40 (llv w aM ao b i) [.int (nI k)] := by
  obtain ⟨h0, h1, h2, h3, h4, h5, h6, h7, h8, h9, h10, h11, h12, h13, h14, h15, h16, h17, h18, h19, h20, h21, h22, h23, h24, h25, h26, h27, h28, h29, h30, h31, h32, h33, h34, h35, h36, h37, h38, h39, h40, h41, h42, h43, h44, h45, h46, h47, h48, h49, h50, h51, h52, h53, h54, h55, h56, h57, h58, h59, h60, h61, h62⟩ := ops
  by_cases e0 : k = 0
  · subst e0
    refine g_tswIn (off := 268) C 308 dL_law__40 (by decide) (by decide) (by decide) (by decide) ?_
    exact law_0 h0 C hlt Lx S hi hk hR K
  by_cases e1 : k = 1
  · subst e1
    refine g_tswIn (off := 341) C 381 dL_law__40 (by decide) (by decide) (by decide) (by decide) ?_
    exact law_1 h1 C hlt Lx S hi hk hR K
  by_cases e2 : k = 2
  · subst e2
    refine g_tswIn (off := 366) C 406 dL_law__40 (by decide) (by decide) (by decide) (by decide) ?_
    exact law_2 h2 C hlt Lx S hi hk hR K
  by_cases e3 : k = 3
  · subst e3
    refine g_tswIn (off := 410) C 450 dL_law__40 (by decide) (by decide) (by decide) (by decide) ?_
    exact law_3 h3 C hlt Lx S hi hk hR K
  by_cases e4 : k = 4
  · subst e4
    refine g_tswIn (off := 454) C 494 dL_law__40 (by decide) (by decide) (by decide) (by decide) ?_
    exact law_4 h4 C hlt Lx S hi hk hR K
  by_cases e5 : k = 5
  · subst e5
    refine g_tswIn (off := 467) C 507 dL_law__40 (by decide) (by decide) (by decide) (by decide) ?_
    exact law_5 h5 C hlt Lx S hi hk hR K
  by_cases e6 : k = 6
  · subst e6
    refine g_tswIn (off := 535) C 575 dL_law__40 (by decide) (by decide) (by decide) (by decide) ?_
    exact law_6 h6 C hlt Lx S hi hk hR K
  by_cases e7 : k = 7
  · subst e7
    refine g_tswIn (off := 603) C 643 dL_law__40 (by decide) (by decide) (by decide) (by decide) ?_
    exact law_7 h7 C hlt Lx S hi hk hR K
  by_cases e8 : k = 8
  · subst e8
    refine g_tswIn (off := 671) C 711 dL_law__40 (by decide) (by decide) (by decide) (by decide) ?_
    exact law_8 h8 C hlt Lx S hi hk hR K
  by_cases e9 : k = 9
  · subst e9
    refine g_tswIn (off := 727) C 767 dL_law__40 (by decide) (by decide) (by decide) (by decide) ?_
    exact law_9 h9 C hlt Lx S hi hk hR K
  by_cases e10 : k = 10
  · subst e10
    refine g_tswIn (off := 783) C 823 dL_law__40 (by decide) (by decide) (by decide) (by decide) ?_
    exact law_10 h10 C hlt Lx S hi hk hR K
  by_cases e11 : k = 11
  · subst e11
    refine g_tswIn (off := 874) C 914 dL_law__40 (by decide) (by decide) (by decide) (by decide) ?_
    exact law_11 h11 C hlt Lx S hi hk hR K
  by_cases e12 : k = 12
  · subst e12
    refine g_tswIn (off := 954) C 994 dL_law__40 (by decide) (by decide) (by decide) (by decide) ?_
    exact law_12 h12 C hlt Lx S hi hk hR K
  by_cases e13 : k = 13
  · subst e13
    refine g_tswIn (off := 1022) C 1062 dL_law__40 (by decide) (by decide) (by decide) (by decide) ?_
    exact law_13 h13 C hlt Lx S hi hk hR K
  by_cases e14 : k = 14
  · subst e14
    refine g_tswIn (off := 1078) C 1118 dL_law__40 (by decide) (by decide) (by decide) (by decide) ?_
    exact law_14 h14 C hlt Lx S hi hk hR K
  by_cases e15 : k = 15
  · subst e15
    refine g_tswIn (off := 1134) C 1174 dL_law__40 (by decide) (by decide) (by decide) (by decide) ?_
    exact law_15 h15 C hlt Lx S hi hk hR K
  by_cases e16 : k = 16
  · subst e16
    refine g_tswIn (off := 1202) C 1242 dL_law__40 (by decide) (by decide) (by decide) (by decide) ?_
    exact law_16 h16 C hlt Lx S hi hk hR K
  by_cases e17 : k = 17
  · subst e17
    refine g_tswIn (off := 1258) C 1298 dL_law__40 (by decide) (by decide) (by decide) (by decide) ?_
    exact law_17 h17 C hlt Lx S hi hk hR K
  by_cases e18 : k = 18
  · subst e18
    refine g_tswIn (off := 1314) C 1354 dL_law__40 (by decide) (by decide) (by decide) (by decide) ?_
    exact law_18 h18 C hlt Lx S hi hk hR K
  by_cases e19 : k = 19
  · subst e19
    refine g_tswIn (off := 1382) C 1422 dL_law__40 (by decide) (by decide) (by decide) (by decide) ?_
    exact law_19 h19 C hlt Lx S hi hk hR K
  by_cases e20 : k = 20
  · subst e20
    refine g_tswIn (off := 1457) C 1497 dL_law__40 (by decide) (by decide) (by decide) (by decide) ?_
    exact law_20 h20 C hlt Lx S hi hk hR K
  by_cases e21 : k = 21
  · subst e21
    refine g_tswIn (off := 1470) C 1510 dL_law__40 (by decide) (by decide) (by decide) (by decide) ?_
    exact law_21 h21 C hlt Lx S hi hk hR K
  by_cases e22 : k = 22
  · subst e22
    refine g_tswIn (off := 1538) C 1578 dL_law__40 (by decide) (by decide) (by decide) (by decide) ?_
    exact law_22 h22 C hlt Lx S hi hk hR K
  by_cases e23 : k = 23
  · subst e23
    refine g_tswIn (off := 1594) C 1634 dL_law__40 (by decide) (by decide) (by decide) (by decide) ?_
    exact law_23 h23 C hlt Lx S hi hk hR K
  by_cases e24 : k = 24
  · subst e24
    refine g_tswIn (off := 1650) C 1690 dL_law__40 (by decide) (by decide) (by decide) (by decide) ?_
    exact law_24 h24 C hlt Lx S hi hk hR K
  by_cases e25 : k = 25
  · subst e25
    refine g_tswIn (off := 1706) C 1746 dL_law__40 (by decide) (by decide) (by decide) (by decide) ?_
    exact law_25 h25 C hlt Lx S hi hk hR K
  by_cases e26 : k = 26
  · subst e26
    refine g_tswIn (off := 1719) C 1759 dL_law__40 (by decide) (by decide) (by decide) (by decide) ?_
    exact law_26 h26 C hlt Lx S hi hk hR K
  by_cases e27 : k = 27
  · subst e27
    refine g_tswIn (off := 1787) C 1827 dL_law__40 (by decide) (by decide) (by decide) (by decide) ?_
    exact law_27 h27 C hlt Lx S hi hk hR K
  by_cases e28 : k = 28
  · subst e28
    refine g_tswIn (off := 1855) C 1895 dL_law__40 (by decide) (by decide) (by decide) (by decide) ?_
    exact law_28 h28 C hlt Lx S hi hk hR K
  by_cases e29 : k = 29
  · subst e29
    refine g_tswIn (off := 1868) C 1908 dL_law__40 (by decide) (by decide) (by decide) (by decide) ?_
    exact law_29 h29 C hlt Lx S hi hk hR K
  by_cases e30 : k = 30
  · subst e30
    refine g_tswIn (off := 1924) C 1964 dL_law__40 (by decide) (by decide) (by decide) (by decide) ?_
    exact law_30 h30 C hlt Lx S hi hk hR K
  by_cases e31 : k = 31
  · subst e31
    refine g_tswIn (off := 1965) C 2005 dL_law__40 (by decide) (by decide) (by decide) (by decide) ?_
    exact law_31 h31 C hlt Lx S hi hk hR K
  by_cases e32 : k = 32
  · subst e32
    refine g_tswIn (off := 2009) C 2049 dL_law__40 (by decide) (by decide) (by decide) (by decide) ?_
    exact law_32 h32 C hlt Lx S hi hk hR K
  by_cases e33 : k = 33
  · subst e33
    refine g_tswIn (off := 2065) C 2105 dL_law__40 (by decide) (by decide) (by decide) (by decide) ?_
    exact law_33 h33 C hlt Lx S hi hk hR K
  by_cases e34 : k = 34
  · subst e34
    refine g_tswIn (off := 2109) C 2149 dL_law__40 (by decide) (by decide) (by decide) (by decide) ?_
    exact law_34 h34 C hlt Lx S hi hk hR K
  by_cases e35 : k = 35
  · subst e35
    refine g_tswIn (off := 2134) C 2174 dL_law__40 (by decide) (by decide) (by decide) (by decide) ?_
    exact law_35 h35 C hlt Lx S hi hk hR K
  by_cases e36 : k = 36
  · subst e36
    refine g_tswIn (off := 2190) C 2230 dL_law__40 (by decide) (by decide) (by decide) (by decide) ?_
    exact law_36 h36 C hlt Lx S hi hk hR K
  by_cases e37 : k = 37
  · subst e37
    refine g_tswIn (off := 2203) C 2243 dL_law__40 (by decide) (by decide) (by decide) (by decide) ?_
    exact law_37 h37 C hlt Lx S hi hk hR K
  by_cases e38 : k = 38
  · subst e38
    refine g_tswIn (off := 2259) C 2299 dL_law__40 (by decide) (by decide) (by decide) (by decide) ?_
    exact law_38 h38 C hlt Lx S hi hk hR K
  by_cases e39 : k = 39
  · subst e39
    refine g_tswIn (off := 2272) C 2312 dL_law__40 (by decide) (by decide) (by decide) (by decide) ?_
    exact law_39 h39 C hlt Lx S hi hk hR K
  by_cases e40 : k = 40
  · subst e40
    refine g_tswIn (off := 2328) C 2368 dL_law__40 (by decide) (by decide) (by decide) (by decide) ?_
    exact law_40 h40 C hlt Lx S hi hk hR K
  by_cases e41 : k = 41
  · subst e41
    refine g_tswIn (off := 2341) C 2381 dL_law__40 (by decide) (by decide) (by decide) (by decide) ?_
    exact law_41 h41 C hlt Lx S hi hk hR K
  by_cases e42 : k = 42
  · subst e42
    refine g_tswIn (off := 2366) C 2406 dL_law__40 (by decide) (by decide) (by decide) (by decide) ?_
    exact law_42 h42 C hlt Lx S hi hk hR K
  by_cases e43 : k = 43
  · subst e43
    refine g_tswIn (off := 2434) C 2474 dL_law__40 (by decide) (by decide) (by decide) (by decide) ?_
    exact law_43 h43 C hlt Lx S hi hk hR K
  by_cases e44 : k = 44
  · subst e44
    refine g_tswIn (off := 2497) C 2537 dL_law__40 (by decide) (by decide) (by decide) (by decide) ?_
    exact law_44 h44 C hlt Lx S hi hk hR K
  by_cases e45 : k = 45
  · subst e45
    refine g_tswIn (off := 2565) C 2605 dL_law__40 (by decide) (by decide) (by decide) (by decide) ?_
    exact law_45 h45 C hlt Lx S hi hk hR K
  by_cases e46 : k = 46
  · subst e46
    refine g_tswIn (off := 2633) C 2673 dL_law__40 (by decide) (by decide) (by decide) (by decide) ?_
    exact law_46 h46 C hlt Lx S hi hk hR K
  by_cases e47 : k = 47
  · subst e47
    refine g_tswIn (off := 2646) C 2686 dL_law__40 (by decide) (by decide) (by decide) (by decide) ?_
    exact law_47 h47 C hlt Lx S hi hk hR K
  by_cases e48 : k = 48
  · subst e48
    refine g_tswIn (off := 2659) C 2699 dL_law__40 (by decide) (by decide) (by decide) (by decide) ?_
    exact law_48 h48 C hlt Lx S hi hk hR K
  by_cases e49 : k = 49
  · subst e49
    refine g_tswIn (off := 2672) C 2712 dL_law__40 (by decide) (by decide) (by decide) (by decide) ?_
    exact law_49 h49 C hlt Lx S hi hk hR K
  by_cases e50 : k = 50
  · subst e50
    refine g_tswIn (off := 2685) C 2725 dL_law__40 (by decide) (by decide) (by decide) (by decide) ?_
    exact law_50 h50 C hlt Lx S hi hk hR K
  by_cases e51 : k = 51
  · subst e51
    refine g_tswIn (off := 2698) C 2738 dL_law__40 (by decide) (by decide) (by decide) (by decide) ?_
    exact law_51 h51 C hlt Lx S hi hk hR K
  by_cases e52 : k = 52
  · subst e52
    refine g_tswIn (off := 2711) C 2751 dL_law__40 (by decide) (by decide) (by decide) (by decide) ?_
    exact law_52 h52 C hlt Lx S hi hk hR K
  by_cases e53 : k = 53
  · subst e53
    refine g_tswIn (off := 2724) C 2764 dL_law__40 (by decide) (by decide) (by decide) (by decide) ?_
    exact law_53 h53 C hlt Lx S hi hk hR K
  by_cases e54 : k = 54
  · subst e54
    refine g_tswIn (off := 2804) C 2844 dL_law__40 (by decide) (by decide) (by decide) (by decide) ?_
    exact law_54 h54 C hlt Lx S hi hk hR K
  by_cases e55 : k = 55
  · subst e55
    refine g_tswIn (off := 2888) C 2928 dL_law__40 (by decide) (by decide) (by decide) (by decide) ?_
    exact law_55 h55 C hlt Lx S hi hk hR K
  by_cases e56 : k = 56
  · subst e56
    refine g_tswIn (off := 2972) C 3012 dL_law__40 (by decide) (by decide) (by decide) (by decide) ?_
    exact law_56 h56 C hlt Lx S hi hk hR K
  by_cases e57 : k = 57
  · subst e57
    refine g_tswIn (off := 3056) C 3096 dL_law__40 (by decide) (by decide) (by decide) (by decide) ?_
    exact law_57 h57 C hlt Lx S hi hk hR K
  by_cases e58 : k = 58
  · subst e58
    refine g_tswIn (off := 3124) C 3164 dL_law__40 (by decide) (by decide) (by decide) (by decide) ?_
    exact law_58 h58 C hlt Lx S hi hk hR K
  by_cases e59 : k = 59
  · subst e59
    refine g_tswIn (off := 3149) C 3189 dL_law__40 (by decide) (by decide) (by decide) (by decide) ?_
    exact law_59 h59 C hlt Lx S hi hk hR K
  by_cases e60 : k = 60
  · subst e60
    refine g_tswIn (off := 3162) C 3202 dL_law__40 (by decide) (by decide) (by decide) (by decide) ?_
    exact law_60 h60 C hlt Lx S hi hk hR K
  by_cases e61 : k = 61
  · subst e61
    refine g_tswIn (off := 3173) C 3213 dL_law__40 (by decide) (by decide) (by decide) (by decide) ?_
    exact law_61 h61 C hlt Lx S hi hk hR K
  by_cases e62 : k = 62
  · subst e62
    refine g_tswIn (off := 3186) C 3226 dL_law__40 (by decide) (by decide) (by decide) (by decide) ?_
    exact law_62 h62 C hlt Lx S hi hk hR K
  have e63 : k = 63 := by omega
  subst e63
  refine g_tswOut C 3251 dL_law__40 (by decide) (by decide) ?_
  exact G.wid (Nat.le_add_right _ _) (Nat.le_add_right _ _) (K _ _ o hR)
set_option maxHeartbeats 4000000 in
set_option maxRecDepth 100000 in
theorem law_loop {RR : St → St → Prop} (ops : LawOps RR) {Θ : Tz} {cJ : ClassId} {Q : State → Prop} {w : Wp} {aM : Nat → Nat} {ao b L : Nat} {xs : Nat → Int32} (C : Gc Θ cL_law_ 7 RL (some .boolean) room_1 cJ) (hlt : Θ.1.2.1.stackTraces = false) (Lx : Lq Θ w aM ao) (S : Ls Θ b L xs)
    (KE : ∀ (kc ks i : Nat) (σ μ : St) (o : Int64), kc ≤ 601024 → ks ≤ 7293034 → G Θ 7 kc ks Q (LPx w aM ao cJ σ μ o) 3257 (llv w aM ao b i) []) :
    ∀ (n i kc ks : Nat) (σ μ : St) (o : Int64), L ≤ i + n → i ≤ 4000 → kc + 4 * n ≤ 601024 → ks + 24 * n ≤ 7293034 → RR σ μ → G Θ 7 kc ks Q (LPx w aM ao cJ σ μ o) 23 (llv w aM ao b i) [] := by
  have hL := S.2.2.2
  intro n
  induction n with
  | zero =>
    intro i kc ks σ μ o hn hi4 hc hs hR
    refine g_iload C 4 dL_law__23 rfl ?_
    refine g_aload_n C 0 dL_law__25 rfl rfl ?_
    refine l_slen C S dL_law__26 ?_
    refine g_bipush (v := 6) C dL_law__27 bp_6 ?_
    refine g_isub C dL_law__29 ?_
    refine g_icmp_gt C 3257 dL_law__30 (by decide) (fun _ => ?_) (fun h => ?_)
    · exact KE kc ks i σ μ o (by omega) (by omega)
    · exfalso
      apply h
      rw [Int32.lt_iff_toInt_lt, nI_toInt (by omega)]
      have h6 := pk_sub_toInt (a := L) (b := 6) (by omega) (by omega)
      have h7 : (nI L - 6 : Int32).toInt = (L : Int) - 6 := h6
      rw [h7]
      omega
  | succ n ih =>
    intro i kc ks σ μ o hn hi4 hc hs hR
    refine g_iload C 4 dL_law__23 rfl ?_
    refine g_aload_n C 0 dL_law__25 rfl rfl ?_
    refine l_slen C S dL_law__26 ?_
    refine g_bipush (v := 6) C dL_law__27 bp_6 ?_
    refine g_isub C dL_law__29 ?_
    refine g_icmp_gt C 3257 dL_law__30 (by decide) (fun _ => ?_) (fun h => ?_)
    · exact KE kc ks i σ μ o (by omega) (by omega)
    · have hi6 : i + 6 ≤ L := by
        rw [Int32.lt_iff_toInt_lt, nI_toInt (by omega)] at h
        have h6 := pk_sub_toInt (a := L) (b := 6) (by omega) (by omega)
        have h7 : (nI L - 6 : Int32).toInt = (L : Int) - 6 := h6
        rw [h7] at h
        omega
      refine g_aload_n C 0 dL_law__33 rfl rfl ?_
      refine g_iload C 4 dL_law__34 rfl ?_
      refine l_sld C S i rfl (by omega) dL_law__36 ?_
      refine g_bipush (v := 63) C dL_law__37 bp_63 ?_
      refine g_iand C dL_law__39 ?_
      obtain ⟨j, hj, e⟩ := pk_andE (xs i) (m := 63) 6 (by decide)
      rw [e]
      refine law_sw ops C hlt Lx S hi6 ⟨by omega, by omega⟩ hR (fun σ' μ' o' hR' => ?_) j hj
      refine g_iinc (v := nI (i + 6)) C 4 dL_law__3251 rfl (nI_add i 6) (Nat.le_of_ble_eq_true rfl) rfl ?_
      refine g_goto C 23 dL_law__3254 (by decide) ?_
      refine G.sub [1, 2, 3, 4, 0] rfl ?_
      exact ih (i + 6) (kc + 4) (ks + 24) σ' μ' o' (by omega) (by omega) (by omega) (by omega) hR'
theorem flags_st {l : Launch} (h : l.flags = flags0) : l.stackTraces = false := by
  unfold Launch.stackTraces
  rw [h]
  decide +kernel

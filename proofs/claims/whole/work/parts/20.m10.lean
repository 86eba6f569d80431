/-! LastLoafModel.couples -/
theorem w_10_162 : Cond.code ({ cls := "LastLoafModel", name := "allBest", desc := "()V" } : MethodName) prog_14_method_122_code (5 : Nat) (Option.none : Option ClassFile.FieldType) ∈ TB := tb_in (lwt_10 (List.mem_of_getElem? (i := 162) (by decide +kernel))) rfl
theorem w_10_159 : Cond.methodLink "LastLoafModel" (437 : Nat) ({ cls := "LastLoafModel", name := "allBest", desc := "()V" } : MethodName) ∈ TB := tb_in (lwt_10 (List.mem_of_getElem? (i := 159) (by decide +kernel))) rfl
theorem w_10_161 : Cond.instanceMethod ({ cls := "LastLoafModel", name := "allBest", desc := "()V" } : MethodName) ∈ TB := tb_in (lwt_10 (List.mem_of_getElem? (i := 161) (by decide +kernel))) rfl
theorem ws_LastLoafModel_allBest__V : Cond.selects "LastLoafModel" (⟨"LastLoafModel", "allBest", "()V"⟩ : MethodName) (⟨"LastLoafModel", "allBest", "()V"⟩ : MethodName) ∈ TB := tb_in (List.mem_append_left _ (List.mem_of_getElem? (i := 91) (by decide +kernel))) rfl
theorem cr12_437 {Θ : Tz} {cc : ByteArray} {nL kc ks : Nat} {ret : Option FieldType} {rm : Room} {Q : State → Prop} {σ : St} {pc : Nat} {lv : List (Nat × Value)} {st : List Value} (C : Zc Θ cc nL RX12 ret rm) (hkd : Θ.2.2.2.2.1 = kdM) {r : St} (hx : q12_allBest σ = some r) (hrm : rm12_allBest.frames + 1 ≤ rm.frames ∧ 8 + (5 + 11) + rm12_allBest.locals ≤ rm.locals) (hcat : (st.map fun v => v.category).sum ≤ 8) (hk : kc ≤ rm.cells ∧ ks ≤ rm.slots) (hd : decode cc pc = .ok (.invokevirtual 437, 3)) (kk : Z Θ nL kc ks Q r (pc + 3) lv st) : Z Θ nL kc ks Q σ pc lv (.ref (zA Θ 0) :: st) := z_callV C 0 [] (none, r) 0 (kM_0 hkd) rfl (c12_allBest hkd (zc_inj C) hx) w_10_162 w_10_159 w_10_161 ws_LastLoafModel_allBest__V w_1_14 ⟨rfl, rfl, hrm.1, hrm.2⟩ (by decide +kernel) rfl rfl hcat hk hd kk
theorem dX12_couples_0 : decode cX12_couples 0 = .ok (.aload_n 0, 1) := by decide +kernel
theorem dX12_couples_1 : decode cX12_couples 1 = .ok (.iload_n 1, 1) := by decide +kernel
theorem dX12_couples_2 : decode cX12_couples 2 = .ok (.iconst (-1), 1) := by decide +kernel
theorem dX12_couples_3 : decode cX12_couples 3 = .ok (.if_icmp .eq 15, 3) := by decide +kernel
theorem dX12_couples_6 : decode cX12_couples 6 = .ok (.aload_n 0, 1) := by decide +kernel
theorem dX12_couples_7 : decode cX12_couples 7 = .ok (.iload_n 1, 1) := by decide +kernel
theorem dX12_couples_8 : decode cX12_couples 8 = .ok (.invokevirtual 347, 3) := by decide +kernel
theorem dX12_couples_11 : decode cX12_couples 11 = .ok (.ifCond .ne 7, 3) := by decide +kernel
theorem dX12_couples_14 : decode cX12_couples 14 = .ok (.iconst 1, 1) := by decide +kernel
theorem dX12_couples_15 : decode cX12_couples 15 = .ok (.goto 4, 3) := by decide +kernel
theorem dX12_couples_18 : decode cX12_couples 18 = .ok (.iconst 0, 1) := by decide +kernel
theorem dX12_couples_19 : decode cX12_couples 19 = .ok (.putfield 65, 3) := by decide +kernel
theorem dX12_couples_22 : decode cX12_couples 22 = .ok (.aload_n 0, 1) := by decide +kernel
theorem dX12_couples_23 : decode cX12_couples 23 = .ok (.getfield 65, 3) := by decide +kernel
theorem dX12_couples_26 : decode cX12_couples 26 = .ok (.ifCond .le 5, 3) := by decide +kernel
theorem dX12_couples_29 : decode cX12_couples 29 = .ok (.iconst 0, 1) := by decide +kernel
theorem dX12_couples_30 : decode cX12_couples 30 = .ok (.ireturn, 1) := by decide +kernel
theorem dX12_couples_31 : decode cX12_couples 31 = .ok (.aload_n 0, 1) := by decide +kernel
theorem dX12_couples_32 : decode cX12_couples 32 = .ok (.invokevirtual 437, 3) := by decide +kernel
theorem dX12_couples_35 : decode cX12_couples 35 = .ok (.iload_n 1, 1) := by decide +kernel
theorem dX12_couples_36 : decode cX12_couples 36 = .ok (.iconst (-1), 1) := by decide +kernel
theorem dX12_couples_37 : decode cX12_couples 37 = .ok (.if_icmp .ne 13, 3) := by decide +kernel
theorem dX12_couples_40 : decode cX12_couples 40 = .ok (.aload_n 0, 1) := by decide +kernel
theorem dX12_couples_41 : decode cX12_couples 41 = .ok (.getfield 59, 3) := by decide +kernel
theorem dX12_couples_44 : decode cX12_couples 44 = .ok (.aload_n 0, 1) := by decide +kernel
theorem dX12_couples_45 : decode cX12_couples 45 = .ok (.invokevirtual 422, 3) := by decide +kernel
theorem dX12_couples_48 : decode cX12_couples 48 = .ok (.iaload, 1) := by decide +kernel
theorem dX12_couples_49 : decode cX12_couples 49 = .ok (.ireturn, 1) := by decide +kernel
theorem dX12_couples_50 : decode cX12_couples 50 = .ok (.aload_n 0, 1) := by decide +kernel
theorem dX12_couples_51 : decode cX12_couples 51 = .ok (.invokevirtual 422, 3) := by decide +kernel
theorem dX12_couples_54 : decode cX12_couples 54 = .ok (.istore_n 2, 1) := by decide +kernel
theorem dX12_couples_55 : decode cX12_couples 55 = .ok (.iload_n 2, 1) := by decide +kernel
theorem dX12_couples_56 : decode cX12_couples 56 = .ok (.ifCond .eq 143, 3) := by decide +kernel
theorem dX12_couples_59 : decode cX12_couples 59 = .ok (.iload_n 2, 1) := by decide +kernel
theorem dX12_couples_60 : decode cX12_couples 60 = .ok (.invokestatic 304, 3) := by decide +kernel
theorem dX12_couples_63 : decode cX12_couples 63 = .ok (.istore_n 3, 1) := by decide +kernel
theorem dX12_couples_64 : decode cX12_couples 64 = .ok (.iload_n 2, 1) := by decide +kernel
theorem dX12_couples_65 : decode cX12_couples 65 = .ok (.iconst 1, 1) := by decide +kernel
theorem dX12_couples_66 : decode cX12_couples 66 = .ok (.iload_n 3, 1) := by decide +kernel
theorem dX12_couples_67 : decode cX12_couples 67 = .ok (.ishl, 1) := by decide +kernel
theorem dX12_couples_68 : decode cX12_couples 68 = .ok (.iconst (-1), 1) := by decide +kernel
theorem dX12_couples_69 : decode cX12_couples 69 = .ok (.ixor, 1) := by decide +kernel
theorem dX12_couples_70 : decode cX12_couples 70 = .ok (.iand, 1) := by decide +kernel
theorem dX12_couples_71 : decode cX12_couples 71 = .ok (.istore 4, 2) := by decide +kernel
theorem dX12_couples_73 : decode cX12_couples 73 = .ok (.iconst (-1), 1) := by decide +kernel
theorem dX12_couples_74 : decode cX12_couples 74 = .ok (.istore 5, 2) := by decide +kernel
theorem dX12_couples_76 : decode cX12_couples 76 = .ok (.aload_n 0, 1) := by decide +kernel
theorem dX12_couples_77 : decode cX12_couples 77 = .ok (.getfield 7, 3) := by decide +kernel
theorem dX12_couples_80 : decode cX12_couples 80 = .ok (.iconst 3, 1) := by decide +kernel
theorem dX12_couples_81 : decode cX12_couples 81 = .ok (.iaload, 1) := by decide +kernel
theorem dX12_couples_82 : decode cX12_couples 82 = .ok (.iconst 1, 1) := by decide +kernel
theorem dX12_couples_83 : decode cX12_couples 83 = .ok (.isub, 1) := by decide +kernel
theorem dX12_couples_84 : decode cX12_couples 84 = .ok (.istore 6, 2) := by decide +kernel
theorem dX12_couples_86 : decode cX12_couples 86 = .ok (.iload 6, 2) := by decide +kernel
theorem dX12_couples_88 : decode cX12_couples 88 = .ok (.iload_n 3, 1) := by decide +kernel
theorem dX12_couples_89 : decode cX12_couples 89 = .ok (.if_icmp .le 70, 3) := by decide +kernel
theorem dX12_couples_92 : decode cX12_couples 92 = .ok (.aload_n 0, 1) := by decide +kernel
theorem dX12_couples_93 : decode cX12_couples 93 = .ok (.getfield 59, 3) := by decide +kernel
theorem dX12_couples_96 : decode cX12_couples 96 = .ok (.iload 4, 2) := by decide +kernel
theorem dX12_couples_98 : decode cX12_couples 98 = .ok (.iaload, 1) := by decide +kernel
theorem dX12_couples_99 : decode cX12_couples 99 = .ok (.aload_n 0, 1) := by decide +kernel
theorem dX12_couples_100 : decode cX12_couples 100 = .ok (.getfield 59, 3) := by decide +kernel
theorem dX12_couples_103 : decode cX12_couples 103 = .ok (.iload_n 2, 1) := by decide +kernel
theorem dX12_couples_104 : decode cX12_couples 104 = .ok (.iaload, 1) := by decide +kernel
theorem dX12_couples_105 : decode cX12_couples 105 = .ok (.if_icmp .eq 54, 3) := by decide +kernel
theorem dX12_couples_108 : decode cX12_couples 108 = .ok (.iload 4, 2) := by decide +kernel
theorem dX12_couples_110 : decode cX12_couples 110 = .ok (.iload 6, 2) := by decide +kernel
theorem dX12_couples_112 : decode cX12_couples 112 = .ok (.invokestatic 275, 3) := by decide +kernel
theorem dX12_couples_115 : decode cX12_couples 115 = .ok (.ifCond .eq 38, 3) := by decide +kernel
theorem dX12_couples_118 : decode cX12_couples 118 = .ok (.aload_n 0, 1) := by decide +kernel
theorem dX12_couples_119 : decode cX12_couples 119 = .ok (.iload_n 3, 1) := by decide +kernel
theorem dX12_couples_120 : decode cX12_couples 120 = .ok (.iload 6, 2) := by decide +kernel
theorem dX12_couples_122 : decode cX12_couples 122 = .ok (.invokevirtual 434, 3) := by decide +kernel
theorem dX12_couples_125 : decode cX12_couples 125 = .ok (.aload_n 0, 1) := by decide +kernel
theorem dX12_couples_126 : decode cX12_couples 126 = .ok (.getfield 59, 3) := by decide +kernel
theorem dX12_couples_129 : decode cX12_couples 129 = .ok (.iload 4, 2) := by decide +kernel
theorem dX12_couples_131 : decode cX12_couples 131 = .ok (.iconst 1, 1) := by decide +kernel
theorem dX12_couples_132 : decode cX12_couples 132 = .ok (.iload 6, 2) := by decide +kernel
theorem dX12_couples_134 : decode cX12_couples 134 = .ok (.ishl, 1) := by decide +kernel
theorem dX12_couples_135 : decode cX12_couples 135 = .ok (.iconst (-1), 1) := by decide +kernel
theorem dX12_couples_136 : decode cX12_couples 136 = .ok (.ixor, 1) := by decide +kernel
theorem dX12_couples_137 : decode cX12_couples 137 = .ok (.iand, 1) := by decide +kernel
theorem dX12_couples_138 : decode cX12_couples 138 = .ok (.iaload, 1) := by decide +kernel
theorem dX12_couples_139 : decode cX12_couples 139 = .ok (.iadd, 1) := by decide +kernel
theorem dX12_couples_140 : decode cX12_couples 140 = .ok (.aload_n 0, 1) := by decide +kernel
theorem dX12_couples_141 : decode cX12_couples 141 = .ok (.getfield 59, 3) := by decide +kernel
theorem dX12_couples_144 : decode cX12_couples 144 = .ok (.iload_n 2, 1) := by decide +kernel
theorem dX12_couples_145 : decode cX12_couples 145 = .ok (.iaload, 1) := by decide +kernel
theorem dX12_couples_146 : decode cX12_couples 146 = .ok (.if_icmp .ne 7, 3) := by decide +kernel
theorem dX12_couples_149 : decode cX12_couples 149 = .ok (.iload 6, 2) := by decide +kernel
theorem dX12_couples_151 : decode cX12_couples 151 = .ok (.istore 5, 2) := by decide +kernel
theorem dX12_couples_153 : decode cX12_couples 153 = .ok (.iinc 6 (-1), 3) := by decide +kernel
theorem dX12_couples_156 : decode cX12_couples 156 = .ok (.goto (-70), 3) := by decide +kernel
theorem dX12_couples_159 : decode cX12_couples 159 = .ok (.iload_n 3, 1) := by decide +kernel
theorem dX12_couples_160 : decode cX12_couples 160 = .ok (.iload_n 1, 1) := by decide +kernel
theorem dX12_couples_161 : decode cX12_couples 161 = .ok (.if_icmp .ne 6, 3) := by decide +kernel
theorem dX12_couples_164 : decode cX12_couples 164 = .ok (.iload 5, 2) := by decide +kernel
theorem dX12_couples_166 : decode cX12_couples 166 = .ok (.ireturn, 1) := by decide +kernel
theorem dX12_couples_167 : decode cX12_couples 167 = .ok (.iload 5, 2) := by decide +kernel
theorem dX12_couples_169 : decode cX12_couples 169 = .ok (.iload_n 1, 1) := by decide +kernel
theorem dX12_couples_170 : decode cX12_couples 170 = .ok (.if_icmp .ne 5, 3) := by decide +kernel
theorem dX12_couples_173 : decode cX12_couples 173 = .ok (.iload_n 3, 1) := by decide +kernel
theorem dX12_couples_174 : decode cX12_couples 174 = .ok (.ireturn, 1) := by decide +kernel
theorem dX12_couples_175 : decode cX12_couples 175 = .ok (.iload 5, 2) := by decide +kernel
theorem dX12_couples_177 : decode cX12_couples 177 = .ok (.iconst (-1), 1) := by decide +kernel
theorem dX12_couples_178 : decode cX12_couples 178 = .ok (.if_icmp .ne 8, 3) := by decide +kernel
theorem dX12_couples_181 : decode cX12_couples 181 = .ok (.iload 4, 2) := by decide +kernel
theorem dX12_couples_183 : decode cX12_couples 183 = .ok (.goto 12, 3) := by decide +kernel
theorem dX12_couples_186 : decode cX12_couples 186 = .ok (.iload 4, 2) := by decide +kernel
theorem dX12_couples_188 : decode cX12_couples 188 = .ok (.iconst 1, 1) := by decide +kernel
theorem dX12_couples_189 : decode cX12_couples 189 = .ok (.iload 5, 2) := by decide +kernel
theorem dX12_couples_191 : decode cX12_couples 191 = .ok (.ishl, 1) := by decide +kernel
theorem dX12_couples_192 : decode cX12_couples 192 = .ok (.iconst (-1), 1) := by decide +kernel
theorem dX12_couples_193 : decode cX12_couples 193 = .ok (.ixor, 1) := by decide +kernel
theorem dX12_couples_194 : decode cX12_couples 194 = .ok (.iand, 1) := by decide +kernel
theorem dX12_couples_195 : decode cX12_couples 195 = .ok (.istore_n 2, 1) := by decide +kernel
theorem dX12_couples_196 : decode cX12_couples 196 = .ok (.goto (-141), 3) := by decide +kernel
theorem dX12_couples_199 : decode cX12_couples 199 = .ok (.iconst (-1), 1) := by decide +kernel
theorem dX12_couples_200 : decode cX12_couples 200 = .ok (.ireturn, 1) := by decide +kernel
def q12_couples (σ : St) (one_a : Int32) : Option (Int32 × St) :=
  Option.bind (Option.bind (if ¬ one_a = (-1) then (Option.bind (q12_isOne σ one_a) fun x9_ =>
  if x9_ = true then (some false) else (some true)) else (some false)) fun t6_ =>
  if t6_ = true then (some (1 : Int32)) else (some (0 : Int32))) fun x1_ =>
  lt (up σ 0 0 x1_) fun σ13_ =>
  if 0 < (σ13_ 0 0) then (some (0, σ13_)) else
  Option.bind (q12_allBest σ13_) fun x19_ =>
  if one_a = (-1) then (Option.bind (q12_all x19_) fun x25_ =>
  Option.bind (ag x19_ 16 128 x25_) fun x27_ =>
  some (x27_, x19_)) else
  Option.bind (q12_all x19_) fun x29_ =>
  Option.bind (loop1 (fun rec34_ (left37_ : Int32) =>
  if ¬ left37_ = 0 then
  Option.bind (q12_lowest left37_) fun x44_ =>
  lt (left37_ &&& ((shl 1 x44_) ^^^ (-1))) fun rest46_ =>
  Option.bind (ag x19_ 1 752 3) fun x48_ =>
  lt (x48_ - 1) fun o50_ =>
  Option.bind (loop2 (fun rec55_ (with58_ : Int32) (o59_ : Int32) =>
  Option.bind (if x44_ < o59_ then (Option.bind (ag x19_ 16 128 rest46_) fun x67_ =>
  Option.bind (ag x19_ 16 128 left37_) fun x69_ =>
  if ¬ x67_ = x69_ then (some true) else (some false)) else (some false)) fun t64_ =>
  if t64_ = true then
  Option.bind (Option.bind (if q12_isOf rest46_ o59_ = true then (Option.bind (q12_friends x19_ x44_ o59_) fun x81_ =>
  Option.bind (ag x19_ 16 128 (rest46_ &&& ((shl 1 o59_) ^^^ (-1)))) fun x83_ =>
  Option.bind (ag x19_ 16 128 left37_) fun x85_ =>
  if (x81_ + x83_) = x85_ then (some true) else (some false)) else (some false)) fun t78_ =>
  if t78_ = true then (some (o59_)) else (some (with58_))) fun y73_ =>
  lt (o59_ + (-1)) fun o89_ =>
  rec55_ y73_ o89_
  else (some (with58_, o59_))) fuelN (-1 : Int32) o50_) fun y52_ =>
  if x44_ = one_a then (some (.inl (y52_.1, x19_))) else
  if y52_.1 = one_a then (some (.inl (x44_, x19_))) else
  lt (if y52_.1 = (-1) then rest46_ else rest46_ &&& ((shl 1 y52_.1) ^^^ (-1))) fun left104_ =>
  rec34_ left104_
  else (some (.inr left37_))) fuelN x29_) fun y31_ =>
  Sum.elim (fun x9 => some x9) (fun y31_r =>
  some ((-1), x19_)) y31_
abbrev rm12_couples : Room := { frames := 3, cells := 0, slots := 0, locals := 68 }
set_option maxHeartbeats 4000000 in
set_option maxRecDepth 100000 in
theorem p12_couples {Θ : Tz} {σ : St} {ρ : Option Value × St} (C : Zc Θ cX12_couples 7 RX12 (some .int) rm12_couples) (hkd : Θ.2.2.2.2.1 = kdM) {one_a : Int32} {r : (Int32 × St)} (hf : q12_couples σ one_a = some r) (hρ : ρ = (some (.int r.1), r.2)) : Z Θ 7 0 0 (zQ Θ ρ) σ 0 [(0, .ref (zA Θ 0)), (1, .int one_a)] [] := by
  unfold q12_couples at hf
  refine z_aload_n C 0 dX12_couples_0 rfl rfl ?_
  obtain ⟨x1_, h2_, hf⟩ := ob hf
  suffices K3_ : Z Θ 7 0 0 (zQ Θ ρ) σ 19 [(0, .ref (zA Θ 0)), (1, .int one_a)] [.int x1_, .ref (zA Θ 0)] by
    obtain ⟨t6_, h7_, h2_⟩ := ob h2_
    have K4_ : t6_ = true → Z Θ 7 0 0 (zQ Θ ρ) σ 14 [(0, .ref (zA Θ 0)), (1, .int one_a)] [.ref (zA Θ 0)] := by
      intro h12_
      rw [if_pos h12_] at h2_
      refine z_iconst (v := 1) C dX12_couples_14 ic_1 ?_
      refine z_goto C 19 dX12_couples_15 (by decide) ?_
      cases h2_
      exact K3_
    have K5_ : ¬ (t6_ = true) → Z Θ 7 0 0 (zQ Θ ρ) σ 18 [(0, .ref (zA Θ 0)), (1, .int one_a)] [.ref (zA Θ 0)] := by
      intro h12_
      rw [if_neg h12_] at h2_
      refine z_iconst (v := 0) C dX12_couples_18 ic_0 ?_
      cases h2_
      exact K3_
    refine z_iload_n C 1 dX12_couples_1 rfl rfl ?_
    refine z_iconst (v := (-1)) C dX12_couples_2 ic_m1 ?_
    refine c_ne_f C 18 dX12_couples_3 (by decide) (fun h8_ => ?_) (fun h8_ => ?_)
    · rw [if_pos h8_] at h7_
      refine z_aload_n C 0 dX12_couples_6 rfl rfl ?_
      refine z_iload_n C 1 dX12_couples_7 rfl rfl ?_
      obtain ⟨x9_, h10_, h7_⟩ := ob h7_
      refine cr12_347 (p_a := one_a) C hkd  h10_ ⟨(Nat.le_of_ble_eq_true rfl), (Nat.le_of_ble_eq_true rfl)⟩ (Nat.le_of_ble_eq_true rfl) ⟨Nat.zero_le _, Nat.zero_le _⟩ dX12_couples_8 ?_
      refine cb_t C 18 dX12_couples_11 (by decide) (fun h11_ => ?_) (fun h11_ => ?_)
      · rw [if_pos h11_] at h7_
        cases h7_
        exact K5_ Bool.false_ne_true
      · rw [if_neg h11_] at h7_
        cases h7_
        exact K4_ rfl
    · rw [if_neg h8_] at h7_
      cases h7_
      exact K5_ Bool.false_ne_true
  obtain ⟨σ13_, h14_, hf⟩ := lt_ hf
  refine fp12_65 C hkd h14_ dX12_couples_19 ?_
  have K15_ : 0 < (σ13_ 0 0) → Z Θ 7 0 0 (zQ Θ ρ) σ13_ 29 [(0, .ref (zA Θ 0)), (1, .int one_a)] [] := by
    intro h18_
    rw [if_pos h18_] at hf
    refine z_iconst (v := 0) C dX12_couples_29 ic_0 ?_
    cases hf
    subst hρ
    exact z_iret C dX12_couples_30
  suffices K16_ : ¬ (0 < (σ13_ 0 0)) → Z Θ 7 0 0 (zQ Θ ρ) σ13_ 31 [(0, .ref (zA Θ 0)), (1, .int one_a)] [] by
    refine z_aload_n C 0 dX12_couples_22 rfl rfl ?_
    refine fg12_65 C hkd dX12_couples_23 ?_
    refine c0_gt_f C 31 dX12_couples_26 (by decide) (fun h17_ => ?_) (fun h17_ => ?_)
    · exact K15_ h17_
    · exact K16_ h17_
  intro h18_
  rw [if_neg h18_] at hf
  refine z_aload_n C 0 dX12_couples_31 rfl rfl ?_
  obtain ⟨x19_, h20_, hf⟩ := ob hf
  refine cr12_437 C hkd  h20_ ⟨(Nat.le_of_ble_eq_true rfl), (Nat.le_of_ble_eq_true rfl)⟩ (Nat.le_of_ble_eq_true rfl) ⟨Nat.zero_le _, Nat.zero_le _⟩ dX12_couples_32 ?_
  have K21_ : one_a = (-1) → Z Θ 7 0 0 (zQ Θ ρ) x19_ 40 [(0, .ref (zA Θ 0)), (1, .int one_a)] [] := by
    intro h24_
    rw [if_pos h24_] at hf
    refine z_aload_n C 0 dX12_couples_40 rfl rfl ?_
    refine fg12_59 C hkd dX12_couples_41 ?_
    refine z_aload_n C 0 dX12_couples_44 rfl rfl ?_
    obtain ⟨x25_, h26_, hf⟩ := ob hf
    refine cr12_422 C hkd  h26_ ⟨(Nat.le_of_ble_eq_true rfl), (Nat.le_of_ble_eq_true rfl)⟩ (Nat.le_of_ble_eq_true rfl) ⟨Nat.zero_le _, Nat.zero_le _⟩ dX12_couples_45 ?_
    obtain ⟨x27_, h28_, hf⟩ := ob hf
    refine z_ag C h28_ (kM_16 hkd) dX12_couples_48 ?_
    cases hf
    subst hρ
    exact z_iret C dX12_couples_49
  suffices K22_ : ¬ (one_a = (-1)) → Z Θ 7 0 0 (zQ Θ ρ) x19_ 50 [(0, .ref (zA Θ 0)), (1, .int one_a)] [] by
    refine z_iload_n C 1 dX12_couples_35 rfl rfl ?_
    refine z_iconst (v := (-1)) C dX12_couples_36 ic_m1 ?_
    refine c_eq_f C 50 dX12_couples_37 (by decide) (fun h23_ => ?_) (fun h23_ => ?_)
    · exact K21_ h23_
    · exact K22_ h23_
  intro h24_
  rw [if_neg h24_] at hf
  refine z_aload_n C 0 dX12_couples_50 rfl rfl ?_
  obtain ⟨x29_, h30_, hf⟩ := ob hf
  refine cr12_422 C hkd  h30_ ⟨(Nat.le_of_ble_eq_true rfl), (Nat.le_of_ble_eq_true rfl)⟩ (Nat.le_of_ble_eq_true rfl) ⟨Nat.zero_le _, Nat.zero_le _⟩ dX12_couples_51 ?_
  refine z_istN C dX12_couples_54 rfl rfl (Nat.le_of_ble_eq_true rfl) rfl ?_
  refine Z.sub [1, 2, 0] rfl ?_
  obtain ⟨y31_, h32_, hf⟩ := ob hf
  suffices K33_ : ∀ y31_r, y31_ = .inr y31_r → Z Θ 7 0 0 (zQ Θ ρ) x19_ 199 [(0, .ref (zA Θ 0)), (1, .int one_a), (2, .int y31_r)] [] by
    refine loop1_Z (P := fun (left37_ : Int32) => Z Θ 7 0 0 (zQ Θ ρ) x19_ 55 [(0, .ref (zA Θ 0)), (1, .int one_a), (2, .int left37_)] []) ?_ fuelN x29_ h32_
    clear h32_
    intro rec34_ left37_ h35_ h36_
    have K40_ : ¬ left37_ = 0 → Z Θ 7 0 0 (zQ Θ ρ) x19_ 59 [(0, .ref (zA Θ 0)), (1, .int one_a), (2, .int left37_)] [] := by
      intro h43_
      rw [if_pos h43_] at h36_
      refine z_iload_n C 2 dX12_couples_59 rfl rfl ?_
      obtain ⟨x44_, h45_, h36_⟩ := ob h36_
      refine cr12_304 (set_a := left37_) C hkd  h45_ ⟨(Nat.le_of_ble_eq_true rfl), (Nat.le_of_ble_eq_true rfl)⟩ (Nat.le_of_ble_eq_true rfl) ⟨Nat.zero_le _, Nat.zero_le _⟩ dX12_couples_60 ?_
      refine z_istN C dX12_couples_63 rfl rfl (Nat.le_of_ble_eq_true rfl) rfl ?_
      refine z_iload_n C 3 dX12_couples_64 rfl rfl ?_
      refine z_iconst (v := 1) C dX12_couples_65 ic_1 ?_
      refine z_iload_n C 0 dX12_couples_66 rfl rfl ?_
      refine z_shl C dX12_couples_67 ?_
      refine z_iconst (v := (-1)) C dX12_couples_68 ic_m1 ?_
      refine z_ixor C dX12_couples_69 ?_
      refine z_iand C dX12_couples_70 ?_
      obtain ⟨rest46_, h47_, h36_⟩ := lt_ h36_
      refine z_ist C dX12_couples_71 h47_ (Nat.le_of_ble_eq_true rfl) rfl ?_
      refine z_iconst (v := (-1)) C dX12_couples_73 ic_m1 ?_
      refine z_ist C dX12_couples_74 rfl (Nat.le_of_ble_eq_true rfl) rfl ?_
      refine z_aload_n C 3 dX12_couples_76 rfl rfl ?_
      refine fg12_7 C hkd dX12_couples_77 ?_
      refine z_iconst (v := 3) C dX12_couples_80 ic_3 ?_
      obtain ⟨x48_, h49_, h36_⟩ := ob h36_
      refine z_ag C h49_ (kM_1 hkd) dX12_couples_81 ?_
      refine z_iconst (v := 1) C dX12_couples_82 ic_1 ?_
      refine z_isub C dX12_couples_83 ?_
      obtain ⟨o50_, h51_, h36_⟩ := lt_ h36_
      refine z_ist C dX12_couples_84 h51_ (Nat.le_of_ble_eq_true rfl) rfl ?_
      refine Z.sub [4, 5, 6, 3, 2, 1, 0] rfl ?_
      obtain ⟨y52_, h53_, h36_⟩ := ob h36_
      suffices K54_ : Z Θ 7 0 0 (zQ Θ ρ) x19_ 159 [(0, .ref (zA Θ 0)), (1, .int one_a), (2, .int left37_), (3, .int x44_), (4, .int rest46_), (5, .int y52_.1), (6, .int y52_.2)] [] by
        refine loop2_Z (P := fun (with58_ : Int32) (o59_ : Int32) => Z Θ 7 0 0 (zQ Θ ρ) x19_ 86 [(0, .ref (zA Θ 0)), (1, .int one_a), (2, .int left37_), (3, .int x44_), (4, .int rest46_), (5, .int with58_), (6, .int o59_)] []) ?_ fuelN (-1 : Int32) o50_ h53_
        clear h53_
        intro rec55_ with58_ o59_ h56_ h57_
        obtain ⟨t64_, h65_, h57_⟩ := ob h57_
        have K62_ : t64_ = true → Z Θ 7 0 0 (zQ Θ ρ) x19_ 108 [(0, .ref (zA Θ 0)), (1, .int one_a), (2, .int left37_), (3, .int x44_), (4, .int rest46_), (5, .int with58_), (6, .int o59_)] [] := by
          intro h72_
          rw [if_pos h72_] at h57_
          obtain ⟨y73_, h74_, h57_⟩ := ob h57_
          suffices K75_ : Z Θ 7 0 0 (zQ Θ ρ) x19_ 153 [(0, .ref (zA Θ 0)), (1, .int one_a), (2, .int left37_), (3, .int x44_), (4, .int rest46_), (5, .int y73_), (6, .int o59_)] [] by
            obtain ⟨t78_, h79_, h74_⟩ := ob h74_
            have K76_ : t78_ = true → Z Θ 7 0 0 (zQ Θ ρ) x19_ 149 [(0, .ref (zA Θ 0)), (1, .int one_a), (2, .int left37_), (3, .int x44_), (4, .int rest46_), (5, .int with58_), (6, .int o59_)] [] := by
              intro h88_
              rw [if_pos h88_] at h74_
              refine z_iload C 6 dX12_couples_149 rfl ?_
              refine z_ist C dX12_couples_151 rfl (Nat.le_of_ble_eq_true rfl) rfl ?_
              cases h74_
              refine Z.sub [1, 2, 3, 4, 5, 0, 6] rfl ?_
              exact K75_
            have K77_ : ¬ (t78_ = true) → Z Θ 7 0 0 (zQ Θ ρ) x19_ 153 [(0, .ref (zA Θ 0)), (1, .int one_a), (2, .int left37_), (3, .int x44_), (4, .int rest46_), (5, .int with58_), (6, .int o59_)] [] := by
              intro h88_
              rw [if_neg h88_] at h74_
              cases h74_
              exact K75_
            refine z_iload C 4 dX12_couples_108 rfl ?_
            refine z_iload C 6 dX12_couples_110 rfl ?_
            refine cr12_275 (set_a := rest46_) (k_a := o59_) C hkd  ⟨(Nat.le_of_ble_eq_true rfl), (Nat.le_of_ble_eq_true rfl)⟩ (Nat.le_of_ble_eq_true rfl) ⟨Nat.zero_le _, Nat.zero_le _⟩ dX12_couples_112 ?_
            refine cb_f C 153 dX12_couples_115 (by decide) (fun h80_ => ?_) (fun h80_ => ?_)
            · rw [if_pos h80_] at h79_
              refine z_aload_n C 0 dX12_couples_118 rfl rfl ?_
              refine z_iload_n C 3 dX12_couples_119 rfl rfl ?_
              refine z_iload C 6 dX12_couples_120 rfl ?_
              obtain ⟨x81_, h82_, h79_⟩ := ob h79_
              refine cr12_434 (p_a := x44_) (o_a := o59_) C hkd  h82_ ⟨(Nat.le_of_ble_eq_true rfl), (Nat.le_of_ble_eq_true rfl)⟩ (Nat.le_of_ble_eq_true rfl) ⟨Nat.zero_le _, Nat.zero_le _⟩ dX12_couples_122 ?_
              refine z_aload_n C 0 dX12_couples_125 rfl rfl ?_
              refine fg12_59 C hkd dX12_couples_126 ?_
              refine z_iload C 4 dX12_couples_129 rfl ?_
              refine z_iconst (v := 1) C dX12_couples_131 ic_1 ?_
              refine z_iload C 6 dX12_couples_132 rfl ?_
              refine z_shl C dX12_couples_134 ?_
              refine z_iconst (v := (-1)) C dX12_couples_135 ic_m1 ?_
              refine z_ixor C dX12_couples_136 ?_
              refine z_iand C dX12_couples_137 ?_
              obtain ⟨x83_, h84_, h79_⟩ := ob h79_
              refine z_ag C h84_ (kM_16 hkd) dX12_couples_138 ?_
              refine z_iadd C dX12_couples_139 ?_
              refine z_aload_n C 0 dX12_couples_140 rfl rfl ?_
              refine fg12_59 C hkd dX12_couples_141 ?_
              refine z_iload_n C 2 dX12_couples_144 rfl rfl ?_
              obtain ⟨x85_, h86_, h79_⟩ := ob h79_
              refine z_ag C h86_ (kM_16 hkd) dX12_couples_145 ?_
              refine c_eq_f C 153 dX12_couples_146 (by decide) (fun h87_ => ?_) (fun h87_ => ?_)
              · rw [if_pos h87_] at h79_
                cases h79_
                exact K76_ rfl
              · rw [if_neg h87_] at h79_
                cases h79_
                exact K77_ Bool.false_ne_true
            · rw [if_neg h80_] at h79_
              cases h79_
              exact K77_ Bool.false_ne_true
          obtain ⟨o89_, h90_, h57_⟩ := lt_ h57_
          refine z_inc C 6 dX12_couples_153 rfl ic_m1 h90_ (Nat.le_of_ble_eq_true rfl) rfl ?_
          refine z_goto C 86 dX12_couples_156 (by decide) ?_
          refine Z.sub [1, 2, 3, 4, 5, 6, 0] rfl ?_
          exact h56_ _ _ h57_
        have K63_ : ¬ (t64_ = true) → Z Θ 7 0 0 (zQ Θ ρ) x19_ 159 [(0, .ref (zA Θ 0)), (1, .int one_a), (2, .int left37_), (3, .int x44_), (4, .int rest46_), (5, .int with58_), (6, .int o59_)] [] := by
          intro h72_
          rw [if_neg h72_] at h57_
          cases h57_
          exact K54_
        refine z_iload C 6 dX12_couples_86 rfl ?_
        refine z_iload_n C 3 dX12_couples_88 rfl rfl ?_
        refine c_gt_f C 159 dX12_couples_89 (by decide) (fun h66_ => ?_) (fun h66_ => ?_)
        · rw [if_pos h66_] at h65_
          refine z_aload_n C 0 dX12_couples_92 rfl rfl ?_
          refine fg12_59 C hkd dX12_couples_93 ?_
          refine z_iload C 4 dX12_couples_96 rfl ?_
          obtain ⟨x67_, h68_, h65_⟩ := ob h65_
          refine z_ag C h68_ (kM_16 hkd) dX12_couples_98 ?_
          refine z_aload_n C 0 dX12_couples_99 rfl rfl ?_
          refine fg12_59 C hkd dX12_couples_100 ?_
          refine z_iload_n C 2 dX12_couples_103 rfl rfl ?_
          obtain ⟨x69_, h70_, h65_⟩ := ob h65_
          refine z_ag C h70_ (kM_16 hkd) dX12_couples_104 ?_
          refine c_ne_f C 159 dX12_couples_105 (by decide) (fun h71_ => ?_) (fun h71_ => ?_)
          · rw [if_pos h71_] at h65_
            cases h65_
            exact K62_ rfl
          · rw [if_neg h71_] at h65_
            cases h65_
            exact K63_ Bool.false_ne_true
        · rw [if_neg h66_] at h65_
          cases h65_
          exact K63_ Bool.false_ne_true
      have K91_ : x44_ = one_a → Z Θ 7 0 0 (zQ Θ ρ) x19_ 164 [(0, .ref (zA Θ 0)), (1, .int one_a), (2, .int left37_), (3, .int x44_), (4, .int rest46_), (5, .int y52_.1), (6, .int y52_.2)] [] := by
        intro h94_
        rw [if_pos h94_] at h36_
        refine z_iload C 5 dX12_couples_164 rfl ?_
        rw [← Option.some.inj h36_] at hf
        replace hf : some (y52_.1, x19_) = some r := hf
        cases hf
        subst hρ
        exact z_iret C dX12_couples_166
      suffices K92_ : ¬ (x44_ = one_a) → Z Θ 7 0 0 (zQ Θ ρ) x19_ 167 [(0, .ref (zA Θ 0)), (1, .int one_a), (2, .int left37_), (3, .int x44_), (4, .int rest46_), (5, .int y52_.1), (6, .int y52_.2)] [] by
        refine z_iload_n C 3 dX12_couples_159 rfl rfl ?_
        refine z_iload_n C 1 dX12_couples_160 rfl rfl ?_
        refine c_eq_f C 167 dX12_couples_161 (by decide) (fun h93_ => ?_) (fun h93_ => ?_)
        · exact K91_ h93_
        · exact K92_ h93_
      intro h94_
      rw [if_neg h94_] at h36_
      have K95_ : y52_.1 = one_a → Z Θ 7 0 0 (zQ Θ ρ) x19_ 173 [(0, .ref (zA Θ 0)), (1, .int one_a), (2, .int left37_), (3, .int x44_), (4, .int rest46_), (5, .int y52_.1), (6, .int y52_.2)] [] := by
        intro h98_
        rw [if_pos h98_] at h36_
        refine z_iload_n C 3 dX12_couples_173 rfl rfl ?_
        rw [← Option.some.inj h36_] at hf
        replace hf : some (x44_, x19_) = some r := hf
        cases hf
        subst hρ
        exact z_iret C dX12_couples_174
      suffices K96_ : ¬ (y52_.1 = one_a) → Z Θ 7 0 0 (zQ Θ ρ) x19_ 175 [(0, .ref (zA Θ 0)), (1, .int one_a), (2, .int left37_), (3, .int x44_), (4, .int rest46_), (5, .int y52_.1), (6, .int y52_.2)] [] by
        refine z_iload C 5 dX12_couples_167 rfl ?_
        refine z_iload_n C 1 dX12_couples_169 rfl rfl ?_
        refine c_eq_f C 175 dX12_couples_170 (by decide) (fun h97_ => ?_) (fun h97_ => ?_)
        · exact K95_ h97_
        · exact K96_ h97_
      intro h98_
      rw [if_neg h98_] at h36_
      suffices K99_ : Z Θ 7 0 0 (zQ Θ ρ) x19_ 195 [(0, .ref (zA Θ 0)), (1, .int one_a), (2, .int left37_), (3, .int x44_), (4, .int rest46_), (5, .int y52_.1), (6, .int y52_.2)] [.int (if y52_.1 = (-1) then rest46_ else rest46_ &&& ((shl 1 y52_.1) ^^^ (-1)))] by
        have K100_ : y52_.1 = (-1) → Z Θ 7 0 0 (zQ Θ ρ) x19_ 181 [(0, .ref (zA Θ 0)), (1, .int one_a), (2, .int left37_), (3, .int x44_), (4, .int rest46_), (5, .int y52_.1), (6, .int y52_.2)] [] := by
          intro h103_
          rw [if_pos h103_] at K99_
          refine z_iload C 4 dX12_couples_181 rfl ?_
          refine z_goto C 195 dX12_couples_183 (by decide) ?_
          exact K99_
        have K101_ : ¬ (y52_.1 = (-1)) → Z Θ 7 0 0 (zQ Θ ρ) x19_ 186 [(0, .ref (zA Θ 0)), (1, .int one_a), (2, .int left37_), (3, .int x44_), (4, .int rest46_), (5, .int y52_.1), (6, .int y52_.2)] [] := by
          intro h103_
          rw [if_neg h103_] at K99_
          refine z_iload C 4 dX12_couples_186 rfl ?_
          refine z_iconst (v := 1) C dX12_couples_188 ic_1 ?_
          refine z_iload C 5 dX12_couples_189 rfl ?_
          refine z_shl C dX12_couples_191 ?_
          refine z_iconst (v := (-1)) C dX12_couples_192 ic_m1 ?_
          refine z_ixor C dX12_couples_193 ?_
          refine z_iand C dX12_couples_194 ?_
          exact K99_
        refine z_iload C 5 dX12_couples_175 rfl ?_
        refine z_iconst (v := (-1)) C dX12_couples_177 ic_m1 ?_
        refine c_eq_f C 186 dX12_couples_178 (by decide) (fun h102_ => ?_) (fun h102_ => ?_)
        · exact K100_ h102_
        · exact K101_ h102_
      obtain ⟨left104_, h105_, h36_⟩ := lt_ h36_
      refine z_istN C dX12_couples_195 h105_ rfl (Nat.le_of_ble_eq_true rfl) rfl ?_
      refine z_goto C 55 dX12_couples_196 (by decide) ?_
      refine Z.sub [1, 2, 0] rfl ?_
      exact h35_ _ h36_
    have K41_ : ¬ (¬ left37_ = 0) → Z Θ 7 0 0 (zQ Θ ρ) x19_ 199 [(0, .ref (zA Θ 0)), (1, .int one_a), (2, .int left37_)] [] := by
      intro h43_
      rw [if_neg h43_] at h36_
      exact K33_ _ (Option.some.inj h36_).symm
    refine z_iload_n C 2 dX12_couples_55 rfl rfl ?_
    refine c0_ne_f C 199 dX12_couples_56 (by decide) (fun h42_ => ?_) (fun h42_ => ?_)
    · exact K40_ h42_
    · exact K41_ h42_
  intro y31_r e9
  subst e9
  simp only [Sum.elim_inr] at hf
  refine z_iconst (v := (-1)) C dX12_couples_199 ic_m1 ?_
  cases hf
  subst hρ
  exact z_iret C dX12_couples_200
theorem c12_couples {l : Launch} {kd : List KD} {w : Wp} {σ : St} {one_a : Int32} (hkd : kd = kdM) (hi : zI kd w) {r : (Int32 × St)} (hf : q12_couples σ one_a = some r) : zM l kd w yX12_couples cX12_couples 7 (some .int) rm12_couples [.ref (w.2.2.1 0), .int one_a] σ (some (.int r.1), r.2) := zM_of rfl hi (Nat.le_of_ble_eq_true rfl) (fun Θ hl hw C => by
  obtain ⟨Θ1, Θ2, Θ3, Θ4, Θ5⟩ := Θ
  cases hw
  exact p12_couples C hkd  hf rfl)
/-! LastLoafModel.camps -/
theorem dX12_camps_0 : decode cX12_camps 0 = .ok (.aload_n 0, 1) := by decide +kernel
theorem dX12_camps_1 : decode cX12_camps 1 = .ok (.iconst 0, 1) := by decide +kernel
theorem dX12_camps_2 : decode cX12_camps 2 = .ok (.putfield 65, 3) := by decide +kernel
theorem dX12_camps_5 : decode cX12_camps 5 = .ok (.iconst (-1), 1) := by decide +kernel
theorem dX12_camps_6 : decode cX12_camps 6 = .ok (.istore_n 1, 1) := by decide +kernel
theorem dX12_camps_7 : decode cX12_camps 7 = .ok (.ldc_w 379, 3) := by decide +kernel
theorem dX12_camps_10 : decode cX12_camps 10 = .ok (.istore_n 2, 1) := by decide +kernel
theorem dX12_camps_11 : decode cX12_camps 11 = .ok (.iconst 2, 1) := by decide +kernel
theorem dX12_camps_12 : decode cX12_camps 12 = .ok (.istore_n 3, 1) := by decide +kernel
theorem dX12_camps_13 : decode cX12_camps 13 = .ok (.iload_n 3, 1) := by decide +kernel
theorem dX12_camps_14 : decode cX12_camps 14 = .ok (.aload_n 0, 1) := by decide +kernel
theorem dX12_camps_15 : decode cX12_camps 15 = .ok (.invokevirtual 422, 3) := by decide +kernel
theorem dX12_camps_18 : decode cX12_camps 18 = .ok (.if_icmp .gt 101, 3) := by decide +kernel
theorem dX12_camps_21 : decode cX12_camps 21 = .ok (.iconst 0, 1) := by decide +kernel
theorem dX12_camps_22 : decode cX12_camps 22 = .ok (.istore 4, 2) := by decide +kernel
theorem dX12_camps_24 : decode cX12_camps 24 = .ok (.iconst 0, 1) := by decide +kernel
theorem dX12_camps_25 : decode cX12_camps 25 = .ok (.istore 5, 2) := by decide +kernel
theorem dX12_camps_27 : decode cX12_camps 27 = .ok (.iload 5, 2) := by decide +kernel
theorem dX12_camps_29 : decode cX12_camps 29 = .ok (.aload_n 0, 1) := by decide +kernel
theorem dX12_camps_30 : decode cX12_camps 30 = .ok (.getfield 7, 3) := by decide +kernel
theorem dX12_camps_33 : decode cX12_camps 33 = .ok (.iconst 3, 1) := by decide +kernel
theorem dX12_camps_34 : decode cX12_camps 34 = .ok (.iaload, 1) := by decide +kernel
theorem dX12_camps_35 : decode cX12_camps 35 = .ok (.if_icmp .ge 64, 3) := by decide +kernel
theorem dX12_camps_38 : decode cX12_camps 38 = .ok (.iload 5, 2) := by decide +kernel
theorem dX12_camps_40 : decode cX12_camps 40 = .ok (.iconst 1, 1) := by decide +kernel
theorem dX12_camps_41 : decode cX12_camps 41 = .ok (.iadd, 1) := by decide +kernel
theorem dX12_camps_42 : decode cX12_camps 42 = .ok (.istore 6, 2) := by decide +kernel
theorem dX12_camps_44 : decode cX12_camps 44 = .ok (.iload 6, 2) := by decide +kernel
theorem dX12_camps_46 : decode cX12_camps 46 = .ok (.aload_n 0, 1) := by decide +kernel
theorem dX12_camps_47 : decode cX12_camps 47 = .ok (.getfield 7, 3) := by decide +kernel
theorem dX12_camps_50 : decode cX12_camps 50 = .ok (.iconst 3, 1) := by decide +kernel
theorem dX12_camps_51 : decode cX12_camps 51 = .ok (.iaload, 1) := by decide +kernel
theorem dX12_camps_52 : decode cX12_camps 52 = .ok (.if_icmp .ge 41, 3) := by decide +kernel
theorem dX12_camps_55 : decode cX12_camps 55 = .ok (.iload 4, 2) := by decide +kernel
theorem dX12_camps_57 : decode cX12_camps 57 = .ok (.iload_n 3, 1) := by decide +kernel
theorem dX12_camps_58 : decode cX12_camps 58 = .ok (.iload 5, 2) := by decide +kernel
theorem dX12_camps_60 : decode cX12_camps 60 = .ok (.invokestatic 275, 3) := by decide +kernel
theorem dX12_camps_63 : decode cX12_camps 63 = .ok (.iload_n 3, 1) := by decide +kernel
theorem dX12_camps_64 : decode cX12_camps 64 = .ok (.iload 6, 2) := by decide +kernel
theorem dX12_camps_66 : decode cX12_camps 66 = .ok (.invokestatic 275, 3) := by decide +kernel
theorem dX12_camps_69 : decode cX12_camps 69 = .ok (.if_icmp .eq 14, 3) := by decide +kernel
theorem dX12_camps_72 : decode cX12_camps 72 = .ok (.aload_n 0, 1) := by decide +kernel
theorem dX12_camps_73 : decode cX12_camps 73 = .ok (.iload 5, 2) := by decide +kernel
theorem dX12_camps_75 : decode cX12_camps 75 = .ok (.iload 6, 2) := by decide +kernel
theorem dX12_camps_77 : decode cX12_camps 77 = .ok (.invokevirtual 434, 3) := by decide +kernel
theorem dX12_camps_80 : decode cX12_camps 80 = .ok (.goto 4, 3) := by decide +kernel
theorem dX12_camps_83 : decode cX12_camps 83 = .ok (.iconst 0, 1) := by decide +kernel
theorem dX12_camps_84 : decode cX12_camps 84 = .ok (.iadd, 1) := by decide +kernel
theorem dX12_camps_85 : decode cX12_camps 85 = .ok (.istore 4, 2) := by decide +kernel
theorem dX12_camps_87 : decode cX12_camps 87 = .ok (.iinc 6 1, 3) := by decide +kernel
theorem dX12_camps_90 : decode cX12_camps 90 = .ok (.goto (-46), 3) := by decide +kernel
theorem dX12_camps_93 : decode cX12_camps 93 = .ok (.iinc 5 1, 3) := by decide +kernel
theorem dX12_camps_96 : decode cX12_camps 96 = .ok (.goto (-69), 3) := by decide +kernel
theorem dX12_camps_99 : decode cX12_camps 99 = .ok (.iload 4, 2) := by decide +kernel
theorem dX12_camps_101 : decode cX12_camps 101 = .ok (.iload_n 2, 1) := by decide +kernel
theorem dX12_camps_102 : decode cX12_camps 102 = .ok (.if_icmp .lt 6, 3) := by decide +kernel
theorem dX12_camps_105 : decode cX12_camps 105 = .ok (.goto 8, 3) := by decide +kernel
theorem dX12_camps_108 : decode cX12_camps 108 = .ok (.iload 4, 2) := by decide +kernel
theorem dX12_camps_110 : decode cX12_camps 110 = .ok (.istore_n 2, 1) := by decide +kernel
theorem dX12_camps_111 : decode cX12_camps 111 = .ok (.iload_n 3, 1) := by decide +kernel
theorem dX12_camps_112 : decode cX12_camps 112 = .ok (.istore_n 1, 1) := by decide +kernel
theorem dX12_camps_113 : decode cX12_camps 113 = .ok (.iinc 3 2, 3) := by decide +kernel
theorem dX12_camps_116 : decode cX12_camps 116 = .ok (.goto (-103), 3) := by decide +kernel
theorem dX12_camps_119 : decode cX12_camps 119 = .ok (.iload_n 1, 1) := by decide +kernel
theorem dX12_camps_120 : decode cX12_camps 120 = .ok (.ireturn, 1) := by decide +kernel
def q12_camps (σ : St) : Option (Int32 × St) :=
  lt (up σ 0 0 0) fun σ1_ =>
  Option.bind (loop3 (fun rec6_ (found9_ : Int32) (least10_ : Int32) (set11_ : Int32) =>
  Option.bind (q12_all σ1_) fun x16_ =>
  if set11_ ≤ x16_ then
  lt (fun (found73_ : Int32) (least74_ : Int32) (set75_ : Int32) =>
  lt (set75_ + 2) fun set77_ =>
  rec6_ found73_ least74_ set77_) fun k13_ =>
  Option.bind (loop2 (fun rec23_ (n26_ : Int32) (a27_ : Int32) =>
  Option.bind (ag σ1_ 1 752 3) fun x32_ =>
  if a27_ < x32_ then
  lt (a27_ + 1) fun b36_ =>
  Option.bind (loop2 (fun rec41_ (n44_ : Int32) (b45_ : Int32) =>
  Option.bind (ag σ1_ 1 752 3) fun x50_ =>
  if b45_ < x50_ then
  Option.bind (if ¬ (b2i (q12_isOf set11_ a27_)) = (b2i (q12_isOf set11_ b45_)) then (Option.bind (q12_friends σ1_ a27_ b45_) fun x60_ =>
  some x60_) else (some (0 : Int32))) fun x54_ =>
  lt (n44_ + x54_) fun n63_ =>
  lt (b45_ + 1) fun b65_ =>
  rec41_ n63_ b65_
  else (some (n44_, b45_))) fuelN n26_ b36_) fun y38_ =>
  lt (a27_ + 1) fun a67_ =>
  rec23_ y38_.1 a67_
  else (some (n26_, a27_))) fuelN (0 : Int32) (0 : Int32)) fun y20_ =>
  if least10_ ≤ y20_.1 then (k13_ found9_ least10_ set11_) else
  k13_ set11_ y20_.1 set11_
  else (some (found9_, least10_, set11_))) fuelN (-1 : Int32) (2000000000 : Int32) (2 : Int32)) fun y3_ =>
  some (y3_.1, σ1_)
abbrev rm12_camps : Room := { frames := 2, cells := 0, slots := 0, locals := 44 }
set_option maxHeartbeats 4000000 in
set_option maxRecDepth 100000 in
theorem p12_camps {Θ : Tz} {σ : St} {ρ : Option Value × St} (C : Zc Θ cX12_camps 7 RX12 (some .int) rm12_camps) (hkd : Θ.2.2.2.2.1 = kdM) {r : (Int32 × St)} (hf : q12_camps σ = some r) (hρ : ρ = (some (.int r.1), r.2)) : Z Θ 7 0 0 (zQ Θ ρ) σ 0 [(0, .ref (zA Θ 0))] [] := by
  unfold q12_camps at hf
  refine z_aload_n C 0 dX12_camps_0 rfl rfl ?_
  refine z_iconst (v := 0) C dX12_camps_1 ic_0 ?_
  obtain ⟨σ1_, h2_, hf⟩ := lt_ hf
  refine fp12_65 C hkd h2_ dX12_camps_2 ?_
  refine z_iconst (v := (-1)) C dX12_camps_5 ic_m1 ?_
  refine z_istN C dX12_camps_6 rfl rfl (Nat.le_of_ble_eq_true rfl) rfl ?_
  refine z_ldcw (v := 2000000000) C w_10_27 dX12_camps_7 ?_
  refine z_istN C dX12_camps_10 rfl rfl (Nat.le_of_ble_eq_true rfl) rfl ?_
  refine z_iconst (v := 2) C dX12_camps_11 ic_2 ?_
  refine z_istN C dX12_camps_12 rfl rfl (Nat.le_of_ble_eq_true rfl) rfl ?_
  refine Z.sub [3, 2, 1, 0] rfl ?_
  obtain ⟨y3_, h4_, hf⟩ := ob hf
  suffices K5_ : Z Θ 7 0 0 (zQ Θ ρ) σ1_ 119 [(0, .ref (zA Θ 0)), (1, .int y3_.1), (2, .int y3_.2.1), (3, .int y3_.2.2)] [] by
    refine loop3_Z (P := fun (found9_ : Int32) (least10_ : Int32) (set11_ : Int32) => Z Θ 7 0 0 (zQ Θ ρ) σ1_ 13 [(0, .ref (zA Θ 0)), (1, .int found9_), (2, .int least10_), (3, .int set11_)] []) ?_ fuelN (-1 : Int32) (2000000000 : Int32) (2 : Int32) h4_
    clear h4_
    intro rec6_ found9_ least10_ set11_ h7_ h8_
    refine z_iload_n C 3 dX12_camps_13 rfl rfl ?_
    refine z_aload_n C 0 dX12_camps_14 rfl rfl ?_
    obtain ⟨x16_, h17_, h8_⟩ := ob h8_
    refine cr12_422 C hkd  h17_ ⟨(Nat.le_of_ble_eq_true rfl), (Nat.le_of_ble_eq_true rfl)⟩ (Nat.le_of_ble_eq_true rfl) ⟨Nat.zero_le _, Nat.zero_le _⟩ dX12_camps_15 ?_
    have K14_ : set11_ ≤ x16_ → Z Θ 7 0 0 (zQ Θ ρ) σ1_ 21 [(0, .ref (zA Θ 0)), (1, .int found9_), (2, .int least10_), (3, .int set11_)] [] := by
      intro h19_
      rw [if_pos h19_] at h8_
      obtain ⟨k13_, h76_, h8_⟩ := lt_ h8_
      have K12_ : ∀ (found73_ : Int32) (least74_ : Int32) (set75_ : Int32), k13_ found73_ least74_ set75_ = some y3_ → Z Θ 7 0 0 (zQ Θ ρ) σ1_ 113 [(0, .ref (zA Θ 0)), (1, .int found73_), (2, .int least74_), (3, .int set75_)] [] := by
        intro found73_ least74_ set75_ h8_
        subst h76_
        dsimp only at h8_
        obtain ⟨set77_, h78_, h8_⟩ := lt_ h8_
        refine z_inc C 3 dX12_camps_113 rfl ic_2 h78_ (Nat.le_of_ble_eq_true rfl) rfl ?_
        refine z_goto C 13 dX12_camps_116 (by decide) ?_
        refine Z.sub [1, 2, 3, 0] rfl ?_
        exact h7_ _ _ _ h8_
      refine z_iconst (v := 0) C dX12_camps_21 ic_0 ?_
      refine z_ist C dX12_camps_22 rfl (Nat.le_of_ble_eq_true rfl) rfl ?_
      refine z_iconst (v := 0) C dX12_camps_24 ic_0 ?_
      refine z_ist C dX12_camps_25 rfl (Nat.le_of_ble_eq_true rfl) rfl ?_
      refine Z.sub [2, 3, 4, 5, 1, 0] rfl ?_
      obtain ⟨y20_, h21_, h8_⟩ := ob h8_
      suffices K22_ : Z Θ 7 0 0 (zQ Θ ρ) σ1_ 99 [(0, .ref (zA Θ 0)), (1, .int found9_), (2, .int least10_), (3, .int set11_), (4, .int y20_.1), (5, .int y20_.2)] [] by
        refine loop2_Z (P := fun (n26_ : Int32) (a27_ : Int32) => Z Θ 7 0 0 (zQ Θ ρ) σ1_ 27 [(0, .ref (zA Θ 0)), (1, .int found9_), (2, .int least10_), (3, .int set11_), (4, .int n26_), (5, .int a27_)] []) ?_ fuelN (0 : Int32) (0 : Int32) h21_
        clear h21_
        intro rec23_ n26_ a27_ h24_ h25_
        refine z_iload C 5 dX12_camps_27 rfl ?_
        refine z_aload_n C 0 dX12_camps_29 rfl rfl ?_
        refine fg12_7 C hkd dX12_camps_30 ?_
        refine z_iconst (v := 3) C dX12_camps_33 ic_3 ?_
        obtain ⟨x32_, h33_, h25_⟩ := ob h25_
        refine z_ag C h33_ (kM_1 hkd) dX12_camps_34 ?_
        have K30_ : a27_ < x32_ → Z Θ 7 0 0 (zQ Θ ρ) σ1_ 38 [(0, .ref (zA Θ 0)), (1, .int found9_), (2, .int least10_), (3, .int set11_), (4, .int n26_), (5, .int a27_)] [] := by
          intro h35_
          rw [if_pos h35_] at h25_
          refine z_iload C 5 dX12_camps_38 rfl ?_
          refine z_iconst (v := 1) C dX12_camps_40 ic_1 ?_
          refine z_iadd C dX12_camps_41 ?_
          obtain ⟨b36_, h37_, h25_⟩ := lt_ h25_
          refine z_ist C dX12_camps_42 h37_ (Nat.le_of_ble_eq_true rfl) rfl ?_
          refine Z.sub [1, 2, 3, 4, 5, 6, 0] rfl ?_
          obtain ⟨y38_, h39_, h25_⟩ := ob h25_
          suffices K40_ : Z Θ 7 0 0 (zQ Θ ρ) σ1_ 93 [(0, .ref (zA Θ 0)), (1, .int found9_), (2, .int least10_), (3, .int set11_), (4, .int y38_.1), (5, .int a27_), (6, .int y38_.2)] [] by
            refine loop2_Z (P := fun (n44_ : Int32) (b45_ : Int32) => Z Θ 7 0 0 (zQ Θ ρ) σ1_ 44 [(0, .ref (zA Θ 0)), (1, .int found9_), (2, .int least10_), (3, .int set11_), (4, .int n44_), (5, .int a27_), (6, .int b45_)] []) ?_ fuelN n26_ b36_ h39_
            clear h39_
            intro rec41_ n44_ b45_ h42_ h43_
            refine z_iload C 6 dX12_camps_44 rfl ?_
            refine z_aload_n C 0 dX12_camps_46 rfl rfl ?_
            refine fg12_7 C hkd dX12_camps_47 ?_
            refine z_iconst (v := 3) C dX12_camps_50 ic_3 ?_
            obtain ⟨x50_, h51_, h43_⟩ := ob h43_
            refine z_ag C h51_ (kM_1 hkd) dX12_camps_51 ?_
            have K48_ : b45_ < x50_ → Z Θ 7 0 0 (zQ Θ ρ) σ1_ 55 [(0, .ref (zA Θ 0)), (1, .int found9_), (2, .int least10_), (3, .int set11_), (4, .int n44_), (5, .int a27_), (6, .int b45_)] [] := by
              intro h53_
              rw [if_pos h53_] at h43_
              refine z_iload C 4 dX12_camps_55 rfl ?_
              obtain ⟨x54_, h55_, h43_⟩ := ob h43_
              suffices K56_ : Z Θ 7 0 0 (zQ Θ ρ) σ1_ 84 [(0, .ref (zA Θ 0)), (1, .int found9_), (2, .int least10_), (3, .int set11_), (4, .int n44_), (5, .int a27_), (6, .int b45_)] [.int x54_, .int n44_] by
                have K57_ : ¬ (b2i (q12_isOf set11_ a27_)) = (b2i (q12_isOf set11_ b45_)) → Z Θ 7 0 0 (zQ Θ ρ) σ1_ 72 [(0, .ref (zA Θ 0)), (1, .int found9_), (2, .int least10_), (3, .int set11_), (4, .int n44_), (5, .int a27_), (6, .int b45_)] [.int n44_] := by
                  intro h62_
                  rw [if_pos h62_] at h55_
                  refine z_aload_n C 0 dX12_camps_72 rfl rfl ?_
                  refine z_iload C 5 dX12_camps_73 rfl ?_
                  refine z_iload C 6 dX12_camps_75 rfl ?_
                  obtain ⟨x60_, h61_, h55_⟩ := ob h55_
                  refine cr12_434 (p_a := a27_) (o_a := b45_) C hkd  h61_ ⟨(Nat.le_of_ble_eq_true rfl), (Nat.le_of_ble_eq_true rfl)⟩ (Nat.le_of_ble_eq_true rfl) ⟨Nat.zero_le _, Nat.zero_le _⟩ dX12_camps_77 ?_
                  refine z_goto C 84 dX12_camps_80 (by decide) ?_
                  cases h55_
                  exact K56_
                have K58_ : ¬ (¬ (b2i (q12_isOf set11_ a27_)) = (b2i (q12_isOf set11_ b45_))) → Z Θ 7 0 0 (zQ Θ ρ) σ1_ 83 [(0, .ref (zA Θ 0)), (1, .int found9_), (2, .int least10_), (3, .int set11_), (4, .int n44_), (5, .int a27_), (6, .int b45_)] [.int n44_] := by
                  intro h62_
                  rw [if_neg h62_] at h55_
                  refine z_iconst (v := 0) C dX12_camps_83 ic_0 ?_
                  cases h55_
                  exact K56_
                refine z_iload_n C 3 dX12_camps_57 rfl rfl ?_
                refine z_iload C 5 dX12_camps_58 rfl ?_
                refine cr12_275 (set_a := set11_) (k_a := a27_) C hkd  ⟨(Nat.le_of_ble_eq_true rfl), (Nat.le_of_ble_eq_true rfl)⟩ (Nat.le_of_ble_eq_true rfl) ⟨Nat.zero_le _, Nat.zero_le _⟩ dX12_camps_60 ?_
                refine z_iload_n C 3 dX12_camps_63 rfl rfl ?_
                refine z_iload C 6 dX12_camps_64 rfl ?_
                refine cr12_275 (set_a := set11_) (k_a := b45_) C hkd  ⟨(Nat.le_of_ble_eq_true rfl), (Nat.le_of_ble_eq_true rfl)⟩ (Nat.le_of_ble_eq_true rfl) ⟨Nat.zero_le _, Nat.zero_le _⟩ dX12_camps_66 ?_
                refine c_ne_f C 83 dX12_camps_69 (by decide) (fun h59_ => ?_) (fun h59_ => ?_)
                · exact K57_ h59_
                · exact K58_ h59_
              refine z_iadd C dX12_camps_84 ?_
              obtain ⟨n63_, h64_, h43_⟩ := lt_ h43_
              refine z_ist C dX12_camps_85 h64_ (Nat.le_of_ble_eq_true rfl) rfl ?_
              obtain ⟨b65_, h66_, h43_⟩ := lt_ h43_
              refine z_inc C 6 dX12_camps_87 rfl ic_1 h66_ (Nat.le_of_ble_eq_true rfl) rfl ?_
              refine z_goto C 44 dX12_camps_90 (by decide) ?_
              refine Z.sub [2, 3, 4, 5, 1, 6, 0] rfl ?_
              exact h42_ _ _ h43_
            have K49_ : ¬ (b45_ < x50_) → Z Θ 7 0 0 (zQ Θ ρ) σ1_ 93 [(0, .ref (zA Θ 0)), (1, .int found9_), (2, .int least10_), (3, .int set11_), (4, .int n44_), (5, .int a27_), (6, .int b45_)] [] := by
              intro h53_
              rw [if_neg h53_] at h43_
              cases h43_
              exact K40_
            refine c_lt_f C 93 dX12_camps_52 (by decide) (fun h52_ => ?_) (fun h52_ => ?_)
            · exact K48_ h52_
            · exact K49_ h52_
          obtain ⟨a67_, h68_, h25_⟩ := lt_ h25_
          refine z_inc C 5 dX12_camps_93 rfl ic_1 h68_ (Nat.le_of_ble_eq_true rfl) rfl ?_
          refine z_goto C 27 dX12_camps_96 (by decide) ?_
          refine Z.sub [1, 2, 3, 4, 5, 0] rfl ?_
          exact h24_ _ _ h25_
        have K31_ : ¬ (a27_ < x32_) → Z Θ 7 0 0 (zQ Θ ρ) σ1_ 99 [(0, .ref (zA Θ 0)), (1, .int found9_), (2, .int least10_), (3, .int set11_), (4, .int n26_), (5, .int a27_)] [] := by
          intro h35_
          rw [if_neg h35_] at h25_
          cases h25_
          exact K22_
        refine c_lt_f C 99 dX12_camps_35 (by decide) (fun h34_ => ?_) (fun h34_ => ?_)
        · exact K30_ h34_
        · exact K31_ h34_
      have K69_ : least10_ ≤ y20_.1 → Z Θ 7 0 0 (zQ Θ ρ) σ1_ 105 [(0, .ref (zA Θ 0)), (1, .int found9_), (2, .int least10_), (3, .int set11_), (4, .int y20_.1), (5, .int y20_.2)] [] := by
        intro h72_
        rw [if_pos h72_] at h8_
        refine z_goto C 113 dX12_camps_105 (by decide) ?_
        refine Z.sub [0, 1, 2, 3] rfl ?_
        exact K12_ _ _ _ h8_
      suffices K70_ : ¬ (least10_ ≤ y20_.1) → Z Θ 7 0 0 (zQ Θ ρ) σ1_ 108 [(0, .ref (zA Θ 0)), (1, .int found9_), (2, .int least10_), (3, .int set11_), (4, .int y20_.1), (5, .int y20_.2)] [] by
        refine z_iload C 4 dX12_camps_99 rfl ?_
        refine z_iload_n C 2 dX12_camps_101 rfl rfl ?_
        refine c_ge_f C 108 dX12_camps_102 (by decide) (fun h71_ => ?_) (fun h71_ => ?_)
        · exact K69_ h71_
        · exact K70_ h71_
      intro h72_
      rw [if_neg h72_] at h8_
      refine z_iload C 4 dX12_camps_108 rfl ?_
      refine z_istN C dX12_camps_110 rfl rfl (Nat.le_of_ble_eq_true rfl) rfl ?_
      refine z_iload_n C 3 dX12_camps_111 rfl rfl ?_
      refine z_istN C dX12_camps_112 rfl rfl (Nat.le_of_ble_eq_true rfl) rfl ?_
      refine Z.sub [2, 0, 1, 3] rfl ?_
      exact K12_ _ _ _ h8_
    have K15_ : ¬ (set11_ ≤ x16_) → Z Θ 7 0 0 (zQ Θ ρ) σ1_ 119 [(0, .ref (zA Θ 0)), (1, .int found9_), (2, .int least10_), (3, .int set11_)] [] := by
      intro h19_
      rw [if_neg h19_] at h8_
      cases h8_
      exact K5_
    refine c_le_f C 119 dX12_camps_18 (by decide) (fun h18_ => ?_) (fun h18_ => ?_)
    · exact K14_ h18_
    · exact K15_ h18_
  refine z_iload_n C 1 dX12_camps_119 rfl rfl ?_
  cases hf
  subst hρ
  exact z_iret C dX12_camps_120
theorem c12_camps {l : Launch} {kd : List KD} {w : Wp} {σ : St} (hkd : kd = kdM) (hi : zI kd w) {r : (Int32 × St)} (hf : q12_camps σ = some r) : zM l kd w yX12_camps cX12_camps 7 (some .int) rm12_camps [.ref (w.2.2.1 0)] σ (some (.int r.1), r.2) := zM_of rfl hi (Nat.le_of_ble_eq_true rfl) (fun Θ hl hw C => by
  obtain ⟨Θ1, Θ2, Θ3, Θ4, Θ5⟩ := Θ
  cases hw
  exact p12_camps C hkd  hf rfl)
/-! LastLoafModel.tables -/
theorem w_8_58 : Cond.fieldLink "LastLoafModel" (62 : Nat) "LastLoafModel" "seats" "[I" ∈ TB := tb_in (lwt_8 (List.mem_of_getElem? (i := 58) (by decide +kernel))) rfl
theorem fg12_62 {Θ : Tz} {cc : ByteArray} {nL kc ks : Nat} {ret : Option FieldType} {rm : Room} {Q : State → Prop} {σ : St} {pc : Nat} {lv : List (Nat × Value)} {st : List Value} (C : Zc Θ cc nL RX12 ret rm) (hkd : Θ.2.2.2.2.1 = kdM) (hd : decode cc pc = .ok (.getfield 62, 3)) (kk : Z Θ nL kc ks Q σ (pc + 3) lv (.ref (zA Θ 17) :: st)) : Z Θ nL kc ks Q σ pc lv (.ref (zA Θ 0) :: st) := z_get C inT12 0 (kM_0 hkd) rfl 31 (by decide) w_8_58 rfl hd kk
theorem dX12_tables_0 : decode cX12_tables 0 = .ok (.aload_n 0, 1) := by decide +kernel
theorem dX12_tables_1 : decode cX12_tables 1 = .ok (.invokevirtual 422, 3) := by decide +kernel
theorem dX12_tables_4 : decode cX12_tables 4 = .ok (.istore_n 1, 1) := by decide +kernel
theorem dX12_tables_5 : decode cX12_tables 5 = .ok (.iload_n 1, 1) := by decide +kernel
theorem dX12_tables_6 : decode cX12_tables 6 = .ok (.ifCond .lt 131, 3) := by decide +kernel
theorem dX12_tables_9 : decode cX12_tables 9 = .ok (.iconst 0, 1) := by decide +kernel
theorem dX12_tables_10 : decode cX12_tables 10 = .ok (.istore_n 2, 1) := by decide +kernel
theorem dX12_tables_11 : decode cX12_tables 11 = .ok (.iload_n 2, 1) := by decide +kernel
theorem dX12_tables_12 : decode cX12_tables 12 = .ok (.aload_n 0, 1) := by decide +kernel
theorem dX12_tables_13 : decode cX12_tables 13 = .ok (.getfield 7, 3) := by decide +kernel
theorem dX12_tables_16 : decode cX12_tables 16 = .ok (.iconst 3, 1) := by decide +kernel
theorem dX12_tables_17 : decode cX12_tables 17 = .ok (.iaload, 1) := by decide +kernel
theorem dX12_tables_18 : decode cX12_tables 18 = .ok (.if_icmp .ge 113, 3) := by decide +kernel
theorem dX12_tables_21 : decode cX12_tables 21 = .ok (.iload_n 1, 1) := by decide +kernel
theorem dX12_tables_22 : decode cX12_tables 22 = .ok (.aload_n 0, 1) := by decide +kernel
theorem dX12_tables_23 : decode cX12_tables 23 = .ok (.invokevirtual 422, 3) := by decide +kernel
theorem dX12_tables_26 : decode cX12_tables 26 = .ok (.if_icmp .ne 26, 3) := by decide +kernel
theorem dX12_tables_29 : decode cX12_tables 29 = .ok (.aload_n 0, 1) := by decide +kernel
theorem dX12_tables_30 : decode cX12_tables 30 = .ok (.getfield 7, 3) := by decide +kernel
theorem dX12_tables_33 : decode cX12_tables 33 = .ok (.iconst 3, 1) := by decide +kernel
theorem dX12_tables_34 : decode cX12_tables 34 = .ok (.iaload, 1) := by decide +kernel
theorem dX12_tables_35 : decode cX12_tables 35 = .ok (.iconst 2, 1) := by decide +kernel
theorem dX12_tables_36 : decode cX12_tables 36 = .ok (.if_icmp .le 12, 3) := by decide +kernel
theorem dX12_tables_39 : decode cX12_tables 39 = .ok (.aload_n 0, 1) := by decide +kernel
theorem dX12_tables_40 : decode cX12_tables 40 = .ok (.iload_n 2, 1) := by decide +kernel
theorem dX12_tables_41 : decode cX12_tables 41 = .ok (.iconst 0, 1) := by decide +kernel
theorem dX12_tables_42 : decode cX12_tables 42 = .ok (.invokevirtual 434, 3) := by decide +kernel
theorem dX12_tables_45 : decode cX12_tables 45 = .ok (.goto 8, 3) := by decide +kernel
theorem dX12_tables_48 : decode cX12_tables 48 = .ok (.iconst 0, 1) := by decide +kernel
theorem dX12_tables_49 : decode cX12_tables 49 = .ok (.goto 4, 3) := by decide +kernel
theorem dX12_tables_52 : decode cX12_tables 52 = .ok (.iconst (-1), 1) := by decide +kernel
theorem dX12_tables_53 : decode cX12_tables 53 = .ok (.istore_n 3, 1) := by decide +kernel
theorem dX12_tables_54 : decode cX12_tables 54 = .ok (.iconst 0, 1) := by decide +kernel
theorem dX12_tables_55 : decode cX12_tables 55 = .ok (.istore 4, 2) := by decide +kernel
theorem dX12_tables_57 : decode cX12_tables 57 = .ok (.iload 4, 2) := by decide +kernel
theorem dX12_tables_59 : decode cX12_tables 59 = .ok (.aload_n 0, 1) := by decide +kernel
theorem dX12_tables_60 : decode cX12_tables 60 = .ok (.getfield 7, 3) := by decide +kernel
theorem dX12_tables_63 : decode cX12_tables 63 = .ok (.iconst 3, 1) := by decide +kernel
theorem dX12_tables_64 : decode cX12_tables 64 = .ok (.iaload, 1) := by decide +kernel
theorem dX12_tables_65 : decode cX12_tables 65 = .ok (.if_icmp .ge 48, 3) := by decide +kernel
theorem dX12_tables_68 : decode cX12_tables 68 = .ok (.iload_n 1, 1) := by decide +kernel
theorem dX12_tables_69 : decode cX12_tables 69 = .ok (.iload 4, 2) := by decide +kernel
theorem dX12_tables_71 : decode cX12_tables 71 = .ok (.invokestatic 275, 3) := by decide +kernel
theorem dX12_tables_74 : decode cX12_tables 74 = .ok (.ifCond .ne 33, 3) := by decide +kernel
theorem dX12_tables_77 : decode cX12_tables 77 = .ok (.iload_n 3, 1) := by decide +kernel
theorem dX12_tables_78 : decode cX12_tables 78 = .ok (.aload_n 0, 1) := by decide +kernel
theorem dX12_tables_79 : decode cX12_tables 79 = .ok (.iload_n 2, 1) := by decide +kernel
theorem dX12_tables_80 : decode cX12_tables 80 = .ok (.iload 4, 2) := by decide +kernel
theorem dX12_tables_82 : decode cX12_tables 82 = .ok (.invokevirtual 434, 3) := by decide +kernel
theorem dX12_tables_85 : decode cX12_tables 85 = .ok (.aload_n 0, 1) := by decide +kernel
theorem dX12_tables_86 : decode cX12_tables 86 = .ok (.getfield 62, 3) := by decide +kernel
theorem dX12_tables_89 : decode cX12_tables 89 = .ok (.bipush 8, 2) := by decide +kernel
theorem dX12_tables_91 : decode cX12_tables 91 = .ok (.iload_n 1, 1) := by decide +kernel
theorem dX12_tables_92 : decode cX12_tables 92 = .ok (.iconst 1, 1) := by decide +kernel
theorem dX12_tables_93 : decode cX12_tables 93 = .ok (.iload 4, 2) := by decide +kernel
theorem dX12_tables_95 : decode cX12_tables 95 = .ok (.ishl, 1) := by decide +kernel
theorem dX12_tables_96 : decode cX12_tables 96 = .ok (.ior, 1) := by decide +kernel
theorem dX12_tables_97 : decode cX12_tables 97 = .ok (.imul, 1) := by decide +kernel
theorem dX12_tables_98 : decode cX12_tables 98 = .ok (.iload 4, 2) := by decide +kernel
theorem dX12_tables_100 : decode cX12_tables 100 = .ok (.iadd, 1) := by decide +kernel
theorem dX12_tables_101 : decode cX12_tables 101 = .ok (.iaload, 1) := by decide +kernel
theorem dX12_tables_102 : decode cX12_tables 102 = .ok (.iadd, 1) := by decide +kernel
theorem dX12_tables_103 : decode cX12_tables 103 = .ok (.invokestatic 392, 3) := by decide +kernel
theorem dX12_tables_106 : decode cX12_tables 106 = .ok (.istore_n 3, 1) := by decide +kernel
theorem dX12_tables_107 : decode cX12_tables 107 = .ok (.iinc 4 1, 3) := by decide +kernel
theorem dX12_tables_110 : decode cX12_tables 110 = .ok (.goto (-53), 3) := by decide +kernel
theorem dX12_tables_113 : decode cX12_tables 113 = .ok (.aload_n 0, 1) := by decide +kernel
theorem dX12_tables_114 : decode cX12_tables 114 = .ok (.getfield 62, 3) := by decide +kernel
theorem dX12_tables_117 : decode cX12_tables 117 = .ok (.bipush 8, 2) := by decide +kernel
theorem dX12_tables_119 : decode cX12_tables 119 = .ok (.iload_n 1, 1) := by decide +kernel
theorem dX12_tables_120 : decode cX12_tables 120 = .ok (.imul, 1) := by decide +kernel
theorem dX12_tables_121 : decode cX12_tables 121 = .ok (.iload_n 2, 1) := by decide +kernel
theorem dX12_tables_122 : decode cX12_tables 122 = .ok (.iadd, 1) := by decide +kernel
theorem dX12_tables_123 : decode cX12_tables 123 = .ok (.iload_n 3, 1) := by decide +kernel
theorem dX12_tables_124 : decode cX12_tables 124 = .ok (.iastore, 1) := by decide +kernel
theorem dX12_tables_125 : decode cX12_tables 125 = .ok (.iinc 2 1, 3) := by decide +kernel
theorem dX12_tables_128 : decode cX12_tables 128 = .ok (.goto (-117), 3) := by decide +kernel
theorem dX12_tables_131 : decode cX12_tables 131 = .ok (.iinc 1 (-1), 3) := by decide +kernel
theorem dX12_tables_134 : decode cX12_tables 134 = .ok (.goto (-129), 3) := by decide +kernel
theorem dX12_tables_137 : decode cX12_tables 137 = .ok (.return_, 1) := by decide +kernel
def q12_tables (σ : St) : Option St :=
  Option.bind (q12_all σ) fun x1_ =>
  Option.bind (loop2 (fun rec6_ (set9_ : Int32) (σ10_ : St) =>
  if 0 ≤ set9_ then
  Option.bind (loop2 (fun rec20_ (p23_ : Int32) (σ24_ : St) =>
  Option.bind (ag σ24_ 1 752 3) fun x29_ =>
  if p23_ < x29_ then
  Option.bind (Option.bind (q12_all σ24_) fun x38_ =>
  if set9_ = x38_ then (Option.bind (Option.bind (ag σ24_ 1 752 3) fun x46_ =>
  if 2 < x46_ then (Option.bind (q12_friends σ24_ p23_ 0) fun x49_ =>
  some x49_) else (some (0 : Int32))) fun x41_ =>
  some x41_) else (some (-1 : Int32))) fun x33_ =>
  Option.bind (loop2 (fun rec56_ (most59_ : Int32) (o60_ : Int32) =>
  Option.bind (ag σ24_ 1 752 3) fun x65_ =>
  if o60_ < x65_ then
  Option.bind (if ¬ (q12_isOf set9_ o60_ = true) then (Option.bind (q12_friends σ24_ p23_ o60_) fun x76_ =>
  Option.bind (ag σ24_ 17 1024 ((8 * (set9_ ||| (shl 1 o60_))) + o60_)) fun x78_ =>
  lt (q12_greater most59_ (x76_ + x78_)) fun most80_ =>
  some (most80_)) else (some (most59_))) fun y69_ =>
  lt (o60_ + 1) fun o82_ =>
  rec56_ y69_ o82_
  else (some (most59_, o60_))) fuelN x33_ (0 : Int32)) fun y53_ =>
  Option.bind (sa σ24_ 17 1024 ((8 * set9_) + p23_) y53_.1) fun σ84_ =>
  lt (p23_ + 1) fun p86_ =>
  rec20_ p86_ σ84_
  else (some (p23_, σ24_))) fuelN (0 : Int32) σ10_) fun y17_ =>
  lt (set9_ + (-1)) fun set88_ =>
  rec6_ set88_ y17_.2
  else (some (set9_, σ10_))) fuelN x1_ σ) fun y3_ =>
  some y3_.2
abbrev rm12_tables : Room := { frames := 2, cells := 0, slots := 0, locals := 44 }
set_option maxHeartbeats 4000000 in
set_option maxRecDepth 100000 in
theorem p12_tables {Θ : Tz} {σ : St} {ρ : Option Value × St} (C : Zc Θ cX12_tables 5 RX12 none rm12_tables) (hkd : Θ.2.2.2.2.1 = kdM) {r : St} (hf : q12_tables σ = some r) (hρ : ρ = (none, r)) : Z Θ 5 0 0 (zQ Θ ρ) σ 0 [(0, .ref (zA Θ 0))] [] := by
  unfold q12_tables at hf
  refine z_aload_n C 0 dX12_tables_0 rfl rfl ?_
  obtain ⟨x1_, h2_, hf⟩ := ob hf
  refine cr12_422 C hkd  h2_ ⟨(Nat.le_of_ble_eq_true rfl), (Nat.le_of_ble_eq_true rfl)⟩ (Nat.le_of_ble_eq_true rfl) ⟨Nat.zero_le _, Nat.zero_le _⟩ dX12_tables_1 ?_
  refine z_istN C dX12_tables_4 rfl rfl (Nat.le_of_ble_eq_true rfl) rfl ?_
  refine Z.sub [1, 0] rfl ?_
  obtain ⟨y3_, h4_, hf⟩ := ob hf
  suffices K5_ : Z Θ 5 0 0 (zQ Θ ρ) y3_.2 137 [(0, .ref (zA Θ 0)), (1, .int y3_.1)] [] by
    refine loop2_Z (P := fun (set9_ : Int32) (σ10_ : St) => Z Θ 5 0 0 (zQ Θ ρ) σ10_ 5 [(0, .ref (zA Θ 0)), (1, .int set9_)] []) ?_ fuelN x1_ σ h4_
    clear h4_
    intro rec6_ set9_ σ10_ h7_ h8_
    have K13_ : 0 ≤ set9_ → Z Θ 5 0 0 (zQ Θ ρ) σ10_ 9 [(0, .ref (zA Θ 0)), (1, .int set9_)] [] := by
      intro h16_
      rw [if_pos h16_] at h8_
      refine z_iconst (v := 0) C dX12_tables_9 ic_0 ?_
      refine z_istN C dX12_tables_10 rfl rfl (Nat.le_of_ble_eq_true rfl) rfl ?_
      refine Z.sub [1, 2, 0] rfl ?_
      obtain ⟨y17_, h18_, h8_⟩ := ob h8_
      suffices K19_ : Z Θ 5 0 0 (zQ Θ ρ) y17_.2 131 [(0, .ref (zA Θ 0)), (1, .int set9_), (2, .int y17_.1)] [] by
        refine loop2_Z (P := fun (p23_ : Int32) (σ24_ : St) => Z Θ 5 0 0 (zQ Θ ρ) σ24_ 11 [(0, .ref (zA Θ 0)), (1, .int set9_), (2, .int p23_)] []) ?_ fuelN (0 : Int32) σ10_ h18_
        clear h18_
        intro rec20_ p23_ σ24_ h21_ h22_
        refine z_iload_n C 2 dX12_tables_11 rfl rfl ?_
        refine z_aload_n C 0 dX12_tables_12 rfl rfl ?_
        refine fg12_7 C hkd dX12_tables_13 ?_
        refine z_iconst (v := 3) C dX12_tables_16 ic_3 ?_
        obtain ⟨x29_, h30_, h22_⟩ := ob h22_
        refine z_ag C h30_ (kM_1 hkd) dX12_tables_17 ?_
        have K27_ : p23_ < x29_ → Z Θ 5 0 0 (zQ Θ ρ) σ24_ 21 [(0, .ref (zA Θ 0)), (1, .int set9_), (2, .int p23_)] [] := by
          intro h32_
          rw [if_pos h32_] at h22_
          obtain ⟨x33_, h34_, h22_⟩ := ob h22_
          suffices K35_ : Z Θ 5 0 0 (zQ Θ ρ) σ24_ 53 [(0, .ref (zA Θ 0)), (1, .int set9_), (2, .int p23_)] [.int x33_] by
            refine z_iload_n C 1 dX12_tables_21 rfl rfl ?_
            refine z_aload_n C 0 dX12_tables_22 rfl rfl ?_
            obtain ⟨x38_, h39_, h34_⟩ := ob h34_
            refine cr12_422 C hkd  h39_ ⟨(Nat.le_of_ble_eq_true rfl), (Nat.le_of_ble_eq_true rfl)⟩ (Nat.le_of_ble_eq_true rfl) ⟨Nat.zero_le _, Nat.zero_le _⟩ dX12_tables_23 ?_
            have K36_ : set9_ = x38_ → Z Θ 5 0 0 (zQ Θ ρ) σ24_ 29 [(0, .ref (zA Θ 0)), (1, .int set9_), (2, .int p23_)] [] := by
              intro h52_
              rw [if_pos h52_] at h34_
              obtain ⟨x41_, h42_, h34_⟩ := ob h34_
              suffices K43_ : Z Θ 5 0 0 (zQ Θ ρ) σ24_ 53 [(0, .ref (zA Θ 0)), (1, .int set9_), (2, .int p23_)] [.int x41_] by
                refine z_aload_n C 0 dX12_tables_29 rfl rfl ?_
                refine fg12_7 C hkd dX12_tables_30 ?_
                refine z_iconst (v := 3) C dX12_tables_33 ic_3 ?_
                obtain ⟨x46_, h47_, h42_⟩ := ob h42_
                refine z_ag C h47_ (kM_1 hkd) dX12_tables_34 ?_
                refine z_iconst (v := 2) C dX12_tables_35 ic_2 ?_
                have K44_ : 2 < x46_ → Z Θ 5 0 0 (zQ Θ ρ) σ24_ 39 [(0, .ref (zA Θ 0)), (1, .int set9_), (2, .int p23_)] [] := by
                  intro h51_
                  rw [if_pos h51_] at h42_
                  refine z_aload_n C 0 dX12_tables_39 rfl rfl ?_
                  refine z_iload_n C 2 dX12_tables_40 rfl rfl ?_
                  refine z_iconst (v := 0) C dX12_tables_41 ic_0 ?_
                  obtain ⟨x49_, h50_, h42_⟩ := ob h42_
                  refine cr12_434 (p_a := p23_) (o_a := 0) C hkd  h50_ ⟨(Nat.le_of_ble_eq_true rfl), (Nat.le_of_ble_eq_true rfl)⟩ (Nat.le_of_ble_eq_true rfl) ⟨Nat.zero_le _, Nat.zero_le _⟩ dX12_tables_42 ?_
                  refine z_goto C 53 dX12_tables_45 (by decide) ?_
                  cases h42_
                  exact K43_
                have K45_ : ¬ (2 < x46_) → Z Θ 5 0 0 (zQ Θ ρ) σ24_ 48 [(0, .ref (zA Θ 0)), (1, .int set9_), (2, .int p23_)] [] := by
                  intro h51_
                  rw [if_neg h51_] at h42_
                  refine z_iconst (v := 0) C dX12_tables_48 ic_0 ?_
                  refine z_goto C 53 dX12_tables_49 (by decide) ?_
                  cases h42_
                  exact K43_
                refine c_gt_f C 48 dX12_tables_36 (by decide) (fun h48_ => ?_) (fun h48_ => ?_)
                · exact K44_ h48_
                · exact K45_ h48_
              cases h34_
              exact K35_
            have K37_ : ¬ (set9_ = x38_) → Z Θ 5 0 0 (zQ Θ ρ) σ24_ 52 [(0, .ref (zA Θ 0)), (1, .int set9_), (2, .int p23_)] [] := by
              intro h52_
              rw [if_neg h52_] at h34_
              refine z_iconst (v := (-1)) C dX12_tables_52 ic_m1 ?_
              cases h34_
              exact K35_
            refine c_eq_f C 52 dX12_tables_26 (by decide) (fun h40_ => ?_) (fun h40_ => ?_)
            · exact K36_ h40_
            · exact K37_ h40_
          refine z_istN C dX12_tables_53 rfl rfl (Nat.le_of_ble_eq_true rfl) rfl ?_
          refine z_iconst (v := 0) C dX12_tables_54 ic_0 ?_
          refine z_ist C dX12_tables_55 rfl (Nat.le_of_ble_eq_true rfl) rfl ?_
          refine Z.sub [2, 3, 4, 1, 0] rfl ?_
          obtain ⟨y53_, h54_, h22_⟩ := ob h22_
          suffices K55_ : Z Θ 5 0 0 (zQ Θ ρ) σ24_ 113 [(0, .ref (zA Θ 0)), (1, .int set9_), (2, .int p23_), (3, .int y53_.1), (4, .int y53_.2)] [] by
            refine loop2_Z (P := fun (most59_ : Int32) (o60_ : Int32) => Z Θ 5 0 0 (zQ Θ ρ) σ24_ 57 [(0, .ref (zA Θ 0)), (1, .int set9_), (2, .int p23_), (3, .int most59_), (4, .int o60_)] []) ?_ fuelN x33_ (0 : Int32) h54_
            clear h54_
            intro rec56_ most59_ o60_ h57_ h58_
            refine z_iload C 4 dX12_tables_57 rfl ?_
            refine z_aload_n C 0 dX12_tables_59 rfl rfl ?_
            refine fg12_7 C hkd dX12_tables_60 ?_
            refine z_iconst (v := 3) C dX12_tables_63 ic_3 ?_
            obtain ⟨x65_, h66_, h58_⟩ := ob h58_
            refine z_ag C h66_ (kM_1 hkd) dX12_tables_64 ?_
            have K63_ : o60_ < x65_ → Z Θ 5 0 0 (zQ Θ ρ) σ24_ 68 [(0, .ref (zA Θ 0)), (1, .int set9_), (2, .int p23_), (3, .int most59_), (4, .int o60_)] [] := by
              intro h68_
              rw [if_pos h68_] at h58_
              obtain ⟨y69_, h70_, h58_⟩ := ob h58_
              suffices K71_ : Z Θ 5 0 0 (zQ Θ ρ) σ24_ 107 [(0, .ref (zA Θ 0)), (1, .int set9_), (2, .int p23_), (3, .int y69_), (4, .int o60_)] [] by
                have K72_ : ¬ (q12_isOf set9_ o60_ = true) → Z Θ 5 0 0 (zQ Θ ρ) σ24_ 77 [(0, .ref (zA Θ 0)), (1, .int set9_), (2, .int p23_), (3, .int most59_), (4, .int o60_)] [] := by
                  intro h75_
                  rw [if_pos h75_] at h70_
                  refine z_iload_n C 3 dX12_tables_77 rfl rfl ?_
                  refine z_aload_n C 0 dX12_tables_78 rfl rfl ?_
                  refine z_iload_n C 2 dX12_tables_79 rfl rfl ?_
                  refine z_iload C 4 dX12_tables_80 rfl ?_
                  obtain ⟨x76_, h77_, h70_⟩ := ob h70_
                  refine cr12_434 (p_a := p23_) (o_a := o60_) C hkd  h77_ ⟨(Nat.le_of_ble_eq_true rfl), (Nat.le_of_ble_eq_true rfl)⟩ (Nat.le_of_ble_eq_true rfl) ⟨Nat.zero_le _, Nat.zero_le _⟩ dX12_tables_82 ?_
                  refine z_aload_n C 0 dX12_tables_85 rfl rfl ?_
                  refine fg12_62 C hkd dX12_tables_86 ?_
                  refine z_bipush (v := 8) C dX12_tables_89 bp_8 ?_
                  refine z_iload_n C 1 dX12_tables_91 rfl rfl ?_
                  refine z_iconst (v := 1) C dX12_tables_92 ic_1 ?_
                  refine z_iload C 4 dX12_tables_93 rfl ?_
                  refine z_shl C dX12_tables_95 ?_
                  refine z_ior C dX12_tables_96 ?_
                  refine z_imul C dX12_tables_97 ?_
                  refine z_iload C 4 dX12_tables_98 rfl ?_
                  refine z_iadd C dX12_tables_100 ?_
                  obtain ⟨x78_, h79_, h70_⟩ := ob h70_
                  refine z_ag C h79_ (kM_17 hkd) dX12_tables_101 ?_
                  refine z_iadd C dX12_tables_102 ?_
                  refine cr12_392 (a_a := most59_) (b_a := (x76_ + x78_)) C hkd  ⟨(Nat.le_of_ble_eq_true rfl), (Nat.le_of_ble_eq_true rfl)⟩ (Nat.le_of_ble_eq_true rfl) ⟨Nat.zero_le _, Nat.zero_le _⟩ dX12_tables_103 ?_
                  obtain ⟨most80_, h81_, h70_⟩ := lt_ h70_
                  refine z_istN C dX12_tables_106 h81_ rfl (Nat.le_of_ble_eq_true rfl) rfl ?_
                  cases h70_
                  refine Z.sub [1, 2, 3, 0, 4] rfl ?_
                  exact K71_
                have K73_ : ¬ (¬ (q12_isOf set9_ o60_ = true)) → Z Θ 5 0 0 (zQ Θ ρ) σ24_ 107 [(0, .ref (zA Θ 0)), (1, .int set9_), (2, .int p23_), (3, .int most59_), (4, .int o60_)] [] := by
                  intro h75_
                  rw [if_neg h75_] at h70_
                  cases h70_
                  exact K71_
                refine z_iload_n C 1 dX12_tables_68 rfl rfl ?_
                refine z_iload C 4 dX12_tables_69 rfl ?_
                refine cr12_275 (set_a := set9_) (k_a := o60_) C hkd  ⟨(Nat.le_of_ble_eq_true rfl), (Nat.le_of_ble_eq_true rfl)⟩ (Nat.le_of_ble_eq_true rfl) ⟨Nat.zero_le _, Nat.zero_le _⟩ dX12_tables_71 ?_
                refine cb_t C 107 dX12_tables_74 (by decide) (fun h74_ => ?_) (fun h74_ => ?_)
                · exact K73_ (fun n => n h74_)
                · exact K72_ h74_
              obtain ⟨o82_, h83_, h58_⟩ := lt_ h58_
              refine z_inc C 4 dX12_tables_107 rfl ic_1 h83_ (Nat.le_of_ble_eq_true rfl) rfl ?_
              refine z_goto C 57 dX12_tables_110 (by decide) ?_
              refine Z.sub [1, 2, 3, 4, 0] rfl ?_
              exact h57_ _ _ h58_
            have K64_ : ¬ (o60_ < x65_) → Z Θ 5 0 0 (zQ Θ ρ) σ24_ 113 [(0, .ref (zA Θ 0)), (1, .int set9_), (2, .int p23_), (3, .int most59_), (4, .int o60_)] [] := by
              intro h68_
              rw [if_neg h68_] at h58_
              cases h58_
              exact K55_
            refine c_lt_f C 113 dX12_tables_65 (by decide) (fun h67_ => ?_) (fun h67_ => ?_)
            · exact K63_ h67_
            · exact K64_ h67_
          refine z_aload_n C 0 dX12_tables_113 rfl rfl ?_
          refine fg12_62 C hkd dX12_tables_114 ?_
          refine z_bipush (v := 8) C dX12_tables_117 bp_8 ?_
          refine z_iload_n C 1 dX12_tables_119 rfl rfl ?_
          refine z_imul C dX12_tables_120 ?_
          refine z_iload_n C 2 dX12_tables_121 rfl rfl ?_
          refine z_iadd C dX12_tables_122 ?_
          refine z_iload_n C 3 dX12_tables_123 rfl rfl ?_
          obtain ⟨σ84_, h85_, h22_⟩ := ob h22_
          refine z_sa C h85_ (kM_17 hkd) dX12_tables_124 ?_
          obtain ⟨p86_, h87_, h22_⟩ := lt_ h22_
          refine z_inc C 2 dX12_tables_125 rfl ic_1 h87_ (Nat.le_of_ble_eq_true rfl) rfl ?_
          refine z_goto C 11 dX12_tables_128 (by decide) ?_
          refine Z.sub [1, 2, 0] rfl ?_
          exact h21_ _ _ h22_
        have K28_ : ¬ (p23_ < x29_) → Z Θ 5 0 0 (zQ Θ ρ) σ24_ 131 [(0, .ref (zA Θ 0)), (1, .int set9_), (2, .int p23_)] [] := by
          intro h32_
          rw [if_neg h32_] at h22_
          cases h22_
          exact K19_
        refine c_lt_f C 131 dX12_tables_18 (by decide) (fun h31_ => ?_) (fun h31_ => ?_)
        · exact K27_ h31_
        · exact K28_ h31_
      obtain ⟨set88_, h89_, h8_⟩ := lt_ h8_
      refine z_inc C 1 dX12_tables_131 rfl ic_m1 h89_ (Nat.le_of_ble_eq_true rfl) rfl ?_
      refine z_goto C 5 dX12_tables_134 (by decide) ?_
      refine Z.sub [1, 0] rfl ?_
      exact h7_ _ _ h8_
    have K14_ : ¬ (0 ≤ set9_) → Z Θ 5 0 0 (zQ Θ ρ) σ10_ 137 [(0, .ref (zA Θ 0)), (1, .int set9_)] [] := by
      intro h16_
      rw [if_neg h16_] at h8_
      cases h8_
      exact K5_
    refine z_iload_n C 1 dX12_tables_5 rfl rfl ?_
    refine c0_ge_f C 137 dX12_tables_6 (by decide) (fun h15_ => ?_) (fun h15_ => ?_)
    · exact K13_ h15_
    · exact K14_ h15_
  cases hf
  subst hρ
  exact z_vret C dX12_tables_137
theorem c12_tables {l : Launch} {kd : List KD} {w : Wp} {σ : St} (hkd : kd = kdM) (hi : zI kd w) {r : St} (hf : q12_tables σ = some r) : zM l kd w yX12_tables cX12_tables 5 none rm12_tables [.ref (w.2.2.1 0)] σ (none, r) := zM_of rfl hi (Nat.le_of_ble_eq_true rfl) (fun Θ hl hw C => by
  obtain ⟨Θ1, Θ2, Θ3, Θ4, Θ5⟩ := Θ
  cases hw
  exact p12_tables C hkd  hf rfl)
/-! LastLoafModel.table -/
theorem w_10_178 : Cond.code ({ cls := "LastLoafModel", name := "tables", desc := "()V" } : MethodName) prog_14_method_125_code (5 : Nat) (Option.none : Option ClassFile.FieldType) ∈ TB := tb_in (lwt_10 (List.mem_of_getElem? (i := 178) (by decide +kernel))) rfl
theorem w_10_175 : Cond.methodLink "LastLoafModel" (440 : Nat) ({ cls := "LastLoafModel", name := "tables", desc := "()V" } : MethodName) ∈ TB := tb_in (lwt_10 (List.mem_of_getElem? (i := 175) (by decide +kernel))) rfl
theorem w_10_177 : Cond.instanceMethod ({ cls := "LastLoafModel", name := "tables", desc := "()V" } : MethodName) ∈ TB := tb_in (lwt_10 (List.mem_of_getElem? (i := 177) (by decide +kernel))) rfl
theorem ws_LastLoafModel_tables__V : Cond.selects "LastLoafModel" (⟨"LastLoafModel", "tables", "()V"⟩ : MethodName) (⟨"LastLoafModel", "tables", "()V"⟩ : MethodName) ∈ TB := tb_in (List.mem_append_left _ (List.mem_of_getElem? (i := 93) (by decide +kernel))) rfl
theorem cr12_440 {Θ : Tz} {cc : ByteArray} {nL kc ks : Nat} {ret : Option FieldType} {rm : Room} {Q : State → Prop} {σ : St} {pc : Nat} {lv : List (Nat × Value)} {st : List Value} (C : Zc Θ cc nL RX12 ret rm) (hkd : Θ.2.2.2.2.1 = kdM) {r : St} (hx : q12_tables σ = some r) (hrm : rm12_tables.frames + 1 ≤ rm.frames ∧ 8 + (5 + 11) + rm12_tables.locals ≤ rm.locals) (hcat : (st.map fun v => v.category).sum ≤ 8) (hk : kc ≤ rm.cells ∧ ks ≤ rm.slots) (hd : decode cc pc = .ok (.invokevirtual 440, 3)) (kk : Z Θ nL kc ks Q r (pc + 3) lv st) : Z Θ nL kc ks Q σ pc lv (.ref (zA Θ 0) :: st) := z_callV C 0 [] (none, r) 0 (kM_0 hkd) rfl (c12_tables hkd (zc_inj C) hx) w_10_178 w_10_175 w_10_177 ws_LastLoafModel_tables__V w_1_14 ⟨rfl, rfl, hrm.1, hrm.2⟩ (by decide +kernel) rfl rfl hcat hk hd kk
theorem dX12_table_0 : decode cX12_table 0 = .ok (.aload_n 0, 1) := by decide +kernel
theorem dX12_table_1 : decode cX12_table 1 = .ok (.iconst 0, 1) := by decide +kernel
theorem dX12_table_2 : decode cX12_table 2 = .ok (.putfield 65, 3) := by decide +kernel
theorem dX12_table_5 : decode cX12_table 5 = .ok (.aload_n 0, 1) := by decide +kernel
theorem dX12_table_6 : decode cX12_table 6 = .ok (.getfield 7, 3) := by decide +kernel
theorem dX12_table_9 : decode cX12_table 9 = .ok (.iconst 3, 1) := by decide +kernel
theorem dX12_table_10 : decode cX12_table 10 = .ok (.iaload, 1) := by decide +kernel
theorem dX12_table_11 : decode cX12_table 11 = .ok (.ifCond .ne 14, 3) := by decide +kernel
theorem dX12_table_14 : decode cX12_table 14 = .ok (.iload_n 1, 1) := by decide +kernel
theorem dX12_table_15 : decode cX12_table 15 = .ok (.iconst (-1), 1) := by decide +kernel
theorem dX12_table_16 : decode cX12_table 16 = .ok (.if_icmp .ne 7, 3) := by decide +kernel
theorem dX12_table_19 : decode cX12_table 19 = .ok (.iconst 0, 1) := by decide +kernel
theorem dX12_table_20 : decode cX12_table 20 = .ok (.goto 4, 3) := by decide +kernel
theorem dX12_table_23 : decode cX12_table 23 = .ok (.iconst (-1), 1) := by decide +kernel
theorem dX12_table_24 : decode cX12_table 24 = .ok (.ireturn, 1) := by decide +kernel
theorem dX12_table_25 : decode cX12_table 25 = .ok (.aload_n 0, 1) := by decide +kernel
theorem dX12_table_26 : decode cX12_table 26 = .ok (.invokevirtual 440, 3) := by decide +kernel
theorem dX12_table_29 : decode cX12_table 29 = .ok (.iload_n 1, 1) := by decide +kernel
theorem dX12_table_30 : decode cX12_table 30 = .ok (.iconst (-1), 1) := by decide +kernel
theorem dX12_table_31 : decode cX12_table 31 = .ok (.if_icmp .ne 25, 3) := by decide +kernel
theorem dX12_table_34 : decode cX12_table 34 = .ok (.aload_n 0, 1) := by decide +kernel
theorem dX12_table_35 : decode cX12_table 35 = .ok (.getfield 7, 3) := by decide +kernel
theorem dX12_table_38 : decode cX12_table 38 = .ok (.iconst 3, 1) := by decide +kernel
theorem dX12_table_39 : decode cX12_table 39 = .ok (.iaload, 1) := by decide +kernel
theorem dX12_table_40 : decode cX12_table 40 = .ok (.iconst 1, 1) := by decide +kernel
theorem dX12_table_41 : decode cX12_table 41 = .ok (.if_icmp .ne 7, 3) := by decide +kernel
theorem dX12_table_44 : decode cX12_table 44 = .ok (.iconst 0, 1) := by decide +kernel
theorem dX12_table_45 : decode cX12_table 45 = .ok (.goto 10, 3) := by decide +kernel
theorem dX12_table_48 : decode cX12_table 48 = .ok (.aload_n 0, 1) := by decide +kernel
theorem dX12_table_49 : decode cX12_table 49 = .ok (.getfield 62, 3) := by decide +kernel
theorem dX12_table_52 : decode cX12_table 52 = .ok (.bipush 8, 2) := by decide +kernel
theorem dX12_table_54 : decode cX12_table 54 = .ok (.iaload, 1) := by decide +kernel
theorem dX12_table_55 : decode cX12_table 55 = .ok (.ireturn, 1) := by decide +kernel
theorem dX12_table_56 : decode cX12_table 56 = .ok (.iload_n 1, 1) := by decide +kernel
theorem dX12_table_57 : decode cX12_table 57 = .ok (.iconst 0, 1) := by decide +kernel
theorem dX12_table_58 : decode cX12_table 58 = .ok (.aload_n 0, 1) := by decide +kernel
theorem dX12_table_59 : decode cX12_table 59 = .ok (.getfield 7, 3) := by decide +kernel
theorem dX12_table_62 : decode cX12_table 62 = .ok (.iconst 3, 1) := by decide +kernel
theorem dX12_table_63 : decode cX12_table 63 = .ok (.iaload, 1) := by decide +kernel
theorem dX12_table_64 : decode cX12_table 64 = .ok (.iconst 1, 1) := by decide +kernel
theorem dX12_table_65 : decode cX12_table 65 = .ok (.isub, 1) := by decide +kernel
theorem dX12_table_66 : decode cX12_table 66 = .ok (.invokestatic 68, 3) := by decide +kernel
theorem dX12_table_69 : decode cX12_table 69 = .ok (.ifCond .ne 5, 3) := by decide +kernel
theorem dX12_table_72 : decode cX12_table 72 = .ok (.iconst (-1), 1) := by decide +kernel
theorem dX12_table_73 : decode cX12_table 73 = .ok (.ireturn, 1) := by decide +kernel
theorem dX12_table_74 : decode cX12_table 74 = .ok (.iconst 0, 1) := by decide +kernel
theorem dX12_table_75 : decode cX12_table 75 = .ok (.istore_n 2, 1) := by decide +kernel
theorem dX12_table_76 : decode cX12_table 76 = .ok (.iconst 1, 1) := by decide +kernel
theorem dX12_table_77 : decode cX12_table 77 = .ok (.istore_n 3, 1) := by decide +kernel
theorem dX12_table_78 : decode cX12_table 78 = .ok (.iconst 0, 1) := by decide +kernel
theorem dX12_table_79 : decode cX12_table 79 = .ok (.istore 4, 2) := by decide +kernel
theorem dX12_table_81 : decode cX12_table 81 = .ok (.iload 4, 2) := by decide +kernel
theorem dX12_table_83 : decode cX12_table 83 = .ok (.iload_n 1, 1) := by decide +kernel
theorem dX12_table_84 : decode cX12_table 84 = .ok (.if_icmp .ge 95, 3) := by decide +kernel
theorem dX12_table_87 : decode cX12_table 87 = .ok (.iconst (-1), 1) := by decide +kernel
theorem dX12_table_88 : decode cX12_table 88 = .ok (.istore 5, 2) := by decide +kernel
theorem dX12_table_90 : decode cX12_table 90 = .ok (.aload_n 0, 1) := by decide +kernel
theorem dX12_table_91 : decode cX12_table 91 = .ok (.getfield 7, 3) := by decide +kernel
theorem dX12_table_94 : decode cX12_table 94 = .ok (.iconst 3, 1) := by decide +kernel
theorem dX12_table_95 : decode cX12_table 95 = .ok (.iaload, 1) := by decide +kernel
theorem dX12_table_96 : decode cX12_table 96 = .ok (.iconst 1, 1) := by decide +kernel
theorem dX12_table_97 : decode cX12_table 97 = .ok (.isub, 1) := by decide +kernel
theorem dX12_table_98 : decode cX12_table 98 = .ok (.istore 6, 2) := by decide +kernel
theorem dX12_table_100 : decode cX12_table 100 = .ok (.iload 6, 2) := by decide +kernel
theorem dX12_table_102 : decode cX12_table 102 = .ok (.ifCond .lt 61, 3) := by decide +kernel
theorem dX12_table_105 : decode cX12_table 105 = .ok (.iload_n 3, 1) := by decide +kernel
theorem dX12_table_106 : decode cX12_table 106 = .ok (.iload 6, 2) := by decide +kernel
theorem dX12_table_108 : decode cX12_table 108 = .ok (.invokestatic 275, 3) := by decide +kernel
theorem dX12_table_111 : decode cX12_table 111 = .ok (.ifCond .ne 46, 3) := by decide +kernel
theorem dX12_table_114 : decode cX12_table 114 = .ok (.aload_n 0, 1) := by decide +kernel
theorem dX12_table_115 : decode cX12_table 115 = .ok (.iload_n 2, 1) := by decide +kernel
theorem dX12_table_116 : decode cX12_table 116 = .ok (.iload 6, 2) := by decide +kernel
theorem dX12_table_118 : decode cX12_table 118 = .ok (.invokevirtual 434, 3) := by decide +kernel
theorem dX12_table_121 : decode cX12_table 121 = .ok (.aload_n 0, 1) := by decide +kernel
theorem dX12_table_122 : decode cX12_table 122 = .ok (.getfield 62, 3) := by decide +kernel
theorem dX12_table_125 : decode cX12_table 125 = .ok (.bipush 8, 2) := by decide +kernel
theorem dX12_table_127 : decode cX12_table 127 = .ok (.iload_n 3, 1) := by decide +kernel
theorem dX12_table_128 : decode cX12_table 128 = .ok (.iconst 1, 1) := by decide +kernel
theorem dX12_table_129 : decode cX12_table 129 = .ok (.iload 6, 2) := by decide +kernel
theorem dX12_table_131 : decode cX12_table 131 = .ok (.ishl, 1) := by decide +kernel
theorem dX12_table_132 : decode cX12_table 132 = .ok (.ior, 1) := by decide +kernel
theorem dX12_table_133 : decode cX12_table 133 = .ok (.imul, 1) := by decide +kernel
theorem dX12_table_134 : decode cX12_table 134 = .ok (.iload 6, 2) := by decide +kernel
theorem dX12_table_136 : decode cX12_table 136 = .ok (.iadd, 1) := by decide +kernel
theorem dX12_table_137 : decode cX12_table 137 = .ok (.iaload, 1) := by decide +kernel
theorem dX12_table_138 : decode cX12_table 138 = .ok (.iadd, 1) := by decide +kernel
theorem dX12_table_139 : decode cX12_table 139 = .ok (.aload_n 0, 1) := by decide +kernel
theorem dX12_table_140 : decode cX12_table 140 = .ok (.getfield 62, 3) := by decide +kernel
theorem dX12_table_143 : decode cX12_table 143 = .ok (.bipush 8, 2) := by decide +kernel
theorem dX12_table_145 : decode cX12_table 145 = .ok (.iload_n 3, 1) := by decide +kernel
theorem dX12_table_146 : decode cX12_table 146 = .ok (.imul, 1) := by decide +kernel
theorem dX12_table_147 : decode cX12_table 147 = .ok (.iload_n 2, 1) := by decide +kernel
theorem dX12_table_148 : decode cX12_table 148 = .ok (.iadd, 1) := by decide +kernel
theorem dX12_table_149 : decode cX12_table 149 = .ok (.iaload, 1) := by decide +kernel
theorem dX12_table_150 : decode cX12_table 150 = .ok (.if_icmp .ne 7, 3) := by decide +kernel
theorem dX12_table_153 : decode cX12_table 153 = .ok (.iload 6, 2) := by decide +kernel
theorem dX12_table_155 : decode cX12_table 155 = .ok (.istore 5, 2) := by decide +kernel
theorem dX12_table_157 : decode cX12_table 157 = .ok (.iinc 6 (-1), 3) := by decide +kernel
theorem dX12_table_160 : decode cX12_table 160 = .ok (.goto (-60), 3) := by decide +kernel
theorem dX12_table_163 : decode cX12_table 163 = .ok (.iload 5, 2) := by decide +kernel
theorem dX12_table_165 : decode cX12_table 165 = .ok (.istore_n 2, 1) := by decide +kernel
theorem dX12_table_166 : decode cX12_table 166 = .ok (.iload_n 3, 1) := by decide +kernel
theorem dX12_table_167 : decode cX12_table 167 = .ok (.iconst 1, 1) := by decide +kernel
theorem dX12_table_168 : decode cX12_table 168 = .ok (.iload 5, 2) := by decide +kernel
theorem dX12_table_170 : decode cX12_table 170 = .ok (.ishl, 1) := by decide +kernel
theorem dX12_table_171 : decode cX12_table 171 = .ok (.ior, 1) := by decide +kernel
theorem dX12_table_172 : decode cX12_table 172 = .ok (.istore_n 3, 1) := by decide +kernel
theorem dX12_table_173 : decode cX12_table 173 = .ok (.iinc 4 1, 3) := by decide +kernel
theorem dX12_table_176 : decode cX12_table 176 = .ok (.goto (-95), 3) := by decide +kernel
theorem dX12_table_179 : decode cX12_table 179 = .ok (.iload_n 2, 1) := by decide +kernel
theorem dX12_table_180 : decode cX12_table 180 = .ok (.ireturn, 1) := by decide +kernel
def q12_table (σ : St) (k_a : Int32) : Option (Int32 × St) :=
  lt (up σ 0 0 0) fun σ1_ =>
  Option.bind (ag σ1_ 1 752 3) fun x5_ =>
  if x5_ = 0 then (some (if k_a = (-1) then 0 else (-1), σ1_)) else
  Option.bind (q12_tables σ1_) fun x14_ =>
  if k_a = (-1) then (Option.bind (Option.bind (ag x14_ 1 752 3) fun x25_ =>
  if x25_ = 1 then (some (0 : Int32)) else (Option.bind (ag x14_ 17 1024 8) fun x28_ =>
  some x28_)) fun x20_ =>
  some (x20_, x14_)) else
  Option.bind (ag x14_ 1 752 3) fun x33_ =>
  if ¬ (q12_isIn k_a 0 (x33_ - 1) = true) then (some ((-1), x14_)) else
  Option.bind (loop3 (fun rec40_ (at43_ : Int32) (set44_ : Int32) (i45_ : Int32) =>
  if i45_ < k_a then
  Option.bind (ag x14_ 1 752 3) fun x52_ =>
  lt (x52_ - 1) fun o54_ =>
  Option.bind (loop2 (fun rec59_ (to62_ : Int32) (o63_ : Int32) =>
  if 0 ≤ o63_ then
  Option.bind (Option.bind (if q12_isOf set44_ o63_ = true then (some false) else (Option.bind (q12_friends x14_ at43_ o63_) fun x78_ =>
  Option.bind (ag x14_ 17 1024 ((8 * (set44_ ||| (shl 1 o63_))) + o63_)) fun x80_ =>
  Option.bind (ag x14_ 17 1024 ((8 * set44_) + at43_)) fun x82_ =>
  if (x78_ + x80_) = x82_ then (some true) else (some false))) fun t75_ =>
  if t75_ = true then (some (o63_)) else (some (to62_))) fun y70_ =>
  lt (o63_ + (-1)) fun o86_ =>
  rec59_ y70_ o86_
  else (some (to62_, o63_))) fuelN (-1 : Int32) o54_) fun y56_ =>
  lt (set44_ ||| (shl 1 y56_.1)) fun set88_ =>
  lt (i45_ + 1) fun i90_ =>
  rec40_ y56_.1 set88_ i90_
  else (some (at43_, set44_, i45_))) fuelN (0 : Int32) (1 : Int32) (0 : Int32)) fun y37_ =>
  some (y37_.1, x14_)
abbrev rm12_table : Room := { frames := 3, cells := 0, slots := 0, locals := 68 }
set_option maxHeartbeats 4000000 in
set_option maxRecDepth 100000 in
theorem p12_table {Θ : Tz} {σ : St} {ρ : Option Value × St} (C : Zc Θ cX12_table 7 RX12 (some .int) rm12_table) (hkd : Θ.2.2.2.2.1 = kdM) {k_a : Int32} {r : (Int32 × St)} (hf : q12_table σ k_a = some r) (hρ : ρ = (some (.int r.1), r.2)) : Z Θ 7 0 0 (zQ Θ ρ) σ 0 [(0, .ref (zA Θ 0)), (1, .int k_a)] [] := by
  unfold q12_table at hf
  refine z_aload_n C 0 dX12_table_0 rfl rfl ?_
  refine z_iconst (v := 0) C dX12_table_1 ic_0 ?_
  obtain ⟨σ1_, h2_, hf⟩ := lt_ hf
  refine fp12_65 C hkd h2_ dX12_table_2 ?_
  refine z_aload_n C 0 dX12_table_5 rfl rfl ?_
  refine fg12_7 C hkd dX12_table_6 ?_
  refine z_iconst (v := 3) C dX12_table_9 ic_3 ?_
  obtain ⟨x5_, h6_, hf⟩ := ob hf
  refine z_ag C h6_ (kM_1 hkd) dX12_table_10 ?_
  have K3_ : x5_ = 0 → Z Θ 7 0 0 (zQ Θ ρ) σ1_ 14 [(0, .ref (zA Θ 0)), (1, .int k_a)] [] := by
    intro h8_
    rw [if_pos h8_] at hf
    suffices K9_ : Z Θ 7 0 0 (zQ Θ ρ) σ1_ 24 [(0, .ref (zA Θ 0)), (1, .int k_a)] [.int (if k_a = (-1) then 0 else (-1))] by
      have K10_ : k_a = (-1) → Z Θ 7 0 0 (zQ Θ ρ) σ1_ 19 [(0, .ref (zA Θ 0)), (1, .int k_a)] [] := by
        intro h13_
        rw [if_pos h13_] at K9_
        refine z_iconst (v := 0) C dX12_table_19 ic_0 ?_
        refine z_goto C 24 dX12_table_20 (by decide) ?_
        exact K9_
      have K11_ : ¬ (k_a = (-1)) → Z Θ 7 0 0 (zQ Θ ρ) σ1_ 23 [(0, .ref (zA Θ 0)), (1, .int k_a)] [] := by
        intro h13_
        rw [if_neg h13_] at K9_
        refine z_iconst (v := (-1)) C dX12_table_23 ic_m1 ?_
        exact K9_
      refine z_iload_n C 1 dX12_table_14 rfl rfl ?_
      refine z_iconst (v := (-1)) C dX12_table_15 ic_m1 ?_
      refine c_eq_f C 23 dX12_table_16 (by decide) (fun h12_ => ?_) (fun h12_ => ?_)
      · exact K10_ h12_
      · exact K11_ h12_
    cases hf
    subst hρ
    exact z_iret C dX12_table_24
  suffices K4_ : ¬ (x5_ = 0) → Z Θ 7 0 0 (zQ Θ ρ) σ1_ 25 [(0, .ref (zA Θ 0)), (1, .int k_a)] [] by
    refine c0_eq_f C 25 dX12_table_11 (by decide) (fun h7_ => ?_) (fun h7_ => ?_)
    · exact K3_ h7_
    · exact K4_ h7_
  intro h8_
  rw [if_neg h8_] at hf
  refine z_aload_n C 0 dX12_table_25 rfl rfl ?_
  obtain ⟨x14_, h15_, hf⟩ := ob hf
  refine cr12_440 C hkd  h15_ ⟨(Nat.le_of_ble_eq_true rfl), (Nat.le_of_ble_eq_true rfl)⟩ (Nat.le_of_ble_eq_true rfl) ⟨Nat.zero_le _, Nat.zero_le _⟩ dX12_table_26 ?_
  have K16_ : k_a = (-1) → Z Θ 7 0 0 (zQ Θ ρ) x14_ 34 [(0, .ref (zA Θ 0)), (1, .int k_a)] [] := by
    intro h19_
    rw [if_pos h19_] at hf
    obtain ⟨x20_, h21_, hf⟩ := ob hf
    suffices K22_ : Z Θ 7 0 0 (zQ Θ ρ) x14_ 55 [(0, .ref (zA Θ 0)), (1, .int k_a)] [.int x20_] by
      refine z_aload_n C 0 dX12_table_34 rfl rfl ?_
      refine fg12_7 C hkd dX12_table_35 ?_
      refine z_iconst (v := 3) C dX12_table_38 ic_3 ?_
      obtain ⟨x25_, h26_, h21_⟩ := ob h21_
      refine z_ag C h26_ (kM_1 hkd) dX12_table_39 ?_
      refine z_iconst (v := 1) C dX12_table_40 ic_1 ?_
      have K23_ : x25_ = 1 → Z Θ 7 0 0 (zQ Θ ρ) x14_ 44 [(0, .ref (zA Θ 0)), (1, .int k_a)] [] := by
        intro h30_
        rw [if_pos h30_] at h21_
        refine z_iconst (v := 0) C dX12_table_44 ic_0 ?_
        refine z_goto C 55 dX12_table_45 (by decide) ?_
        cases h21_
        exact K22_
      have K24_ : ¬ (x25_ = 1) → Z Θ 7 0 0 (zQ Θ ρ) x14_ 48 [(0, .ref (zA Θ 0)), (1, .int k_a)] [] := by
        intro h30_
        rw [if_neg h30_] at h21_
        refine z_aload_n C 0 dX12_table_48 rfl rfl ?_
        refine fg12_62 C hkd dX12_table_49 ?_
        refine z_bipush (v := 8) C dX12_table_52 bp_8 ?_
        obtain ⟨x28_, h29_, h21_⟩ := ob h21_
        refine z_ag C h29_ (kM_17 hkd) dX12_table_54 ?_
        cases h21_
        exact K22_
      refine c_eq_f C 48 dX12_table_41 (by decide) (fun h27_ => ?_) (fun h27_ => ?_)
      · exact K23_ h27_
      · exact K24_ h27_
    cases hf
    subst hρ
    exact z_iret C dX12_table_55
  suffices K17_ : ¬ (k_a = (-1)) → Z Θ 7 0 0 (zQ Θ ρ) x14_ 56 [(0, .ref (zA Θ 0)), (1, .int k_a)] [] by
    refine z_iload_n C 1 dX12_table_29 rfl rfl ?_
    refine z_iconst (v := (-1)) C dX12_table_30 ic_m1 ?_
    refine c_eq_f C 56 dX12_table_31 (by decide) (fun h18_ => ?_) (fun h18_ => ?_)
    · exact K16_ h18_
    · exact K17_ h18_
  intro h19_
  rw [if_neg h19_] at hf
  refine z_iload_n C 1 dX12_table_56 rfl rfl ?_
  refine z_iconst (v := 0) C dX12_table_57 ic_0 ?_
  refine z_aload_n C 0 dX12_table_58 rfl rfl ?_
  refine fg12_7 C hkd dX12_table_59 ?_
  refine z_iconst (v := 3) C dX12_table_62 ic_3 ?_
  obtain ⟨x33_, h34_, hf⟩ := ob hf
  refine z_ag C h34_ (kM_1 hkd) dX12_table_63 ?_
  refine z_iconst (v := 1) C dX12_table_64 ic_1 ?_
  refine z_isub C dX12_table_65 ?_
  refine cr12_68 (v_a := k_a) (low_a := 0) (high_a := (x33_ - 1)) C hkd  ⟨(Nat.le_of_ble_eq_true rfl), (Nat.le_of_ble_eq_true rfl)⟩ (Nat.le_of_ble_eq_true rfl) ⟨Nat.zero_le _, Nat.zero_le _⟩ dX12_table_66 ?_
  have K31_ : ¬ (q12_isIn k_a 0 (x33_ - 1) = true) → Z Θ 7 0 0 (zQ Θ ρ) x14_ 72 [(0, .ref (zA Θ 0)), (1, .int k_a)] [] := by
    intro h36_
    rw [if_pos h36_] at hf
    refine z_iconst (v := (-1)) C dX12_table_72 ic_m1 ?_
    cases hf
    subst hρ
    exact z_iret C dX12_table_73
  suffices K32_ : ¬ (¬ (q12_isIn k_a 0 (x33_ - 1) = true)) → Z Θ 7 0 0 (zQ Θ ρ) x14_ 74 [(0, .ref (zA Θ 0)), (1, .int k_a)] [] by
    refine cb_t C 74 dX12_table_69 (by decide) (fun h35_ => ?_) (fun h35_ => ?_)
    · exact K32_ (fun n => n h35_)
    · exact K31_ h35_
  intro h36_
  rw [if_neg h36_] at hf
  refine z_iconst (v := 0) C dX12_table_74 ic_0 ?_
  refine z_istN C dX12_table_75 rfl rfl (Nat.le_of_ble_eq_true rfl) rfl ?_
  refine z_iconst (v := 1) C dX12_table_76 ic_1 ?_
  refine z_istN C dX12_table_77 rfl rfl (Nat.le_of_ble_eq_true rfl) rfl ?_
  refine z_iconst (v := 0) C dX12_table_78 ic_0 ?_
  refine z_ist C dX12_table_79 rfl (Nat.le_of_ble_eq_true rfl) rfl ?_
  refine Z.sub [3, 4, 2, 1, 0] rfl ?_
  obtain ⟨y37_, h38_, hf⟩ := ob hf
  suffices K39_ : Z Θ 7 0 0 (zQ Θ ρ) x14_ 179 [(0, .ref (zA Θ 0)), (1, .int k_a), (2, .int y37_.1), (3, .int y37_.2.1), (4, .int y37_.2.2)] [] by
    refine loop3_Z (P := fun (at43_ : Int32) (set44_ : Int32) (i45_ : Int32) => Z Θ 7 0 0 (zQ Θ ρ) x14_ 81 [(0, .ref (zA Θ 0)), (1, .int k_a), (2, .int at43_), (3, .int set44_), (4, .int i45_)] []) ?_ fuelN (0 : Int32) (1 : Int32) (0 : Int32) h38_
    clear h38_
    intro rec40_ at43_ set44_ i45_ h41_ h42_
    have K48_ : i45_ < k_a → Z Θ 7 0 0 (zQ Θ ρ) x14_ 87 [(0, .ref (zA Θ 0)), (1, .int k_a), (2, .int at43_), (3, .int set44_), (4, .int i45_)] [] := by
      intro h51_
      rw [if_pos h51_] at h42_
      refine z_iconst (v := (-1)) C dX12_table_87 ic_m1 ?_
      refine z_ist C dX12_table_88 rfl (Nat.le_of_ble_eq_true rfl) rfl ?_
      refine z_aload_n C 1 dX12_table_90 rfl rfl ?_
      refine fg12_7 C hkd dX12_table_91 ?_
      refine z_iconst (v := 3) C dX12_table_94 ic_3 ?_
      obtain ⟨x52_, h53_, h42_⟩ := ob h42_
      refine z_ag C h53_ (kM_1 hkd) dX12_table_95 ?_
      refine z_iconst (v := 1) C dX12_table_96 ic_1 ?_
      refine z_isub C dX12_table_97 ?_
      obtain ⟨o54_, h55_, h42_⟩ := lt_ h42_
      refine z_ist C dX12_table_98 h55_ (Nat.le_of_ble_eq_true rfl) rfl ?_
      refine Z.sub [2, 3, 4, 5, 6, 1, 0] rfl ?_
      obtain ⟨y56_, h57_, h42_⟩ := ob h42_
      suffices K58_ : Z Θ 7 0 0 (zQ Θ ρ) x14_ 163 [(0, .ref (zA Θ 0)), (1, .int k_a), (2, .int at43_), (3, .int set44_), (4, .int i45_), (5, .int y56_.1), (6, .int y56_.2)] [] by
        refine loop2_Z (P := fun (to62_ : Int32) (o63_ : Int32) => Z Θ 7 0 0 (zQ Θ ρ) x14_ 100 [(0, .ref (zA Θ 0)), (1, .int k_a), (2, .int at43_), (3, .int set44_), (4, .int i45_), (5, .int to62_), (6, .int o63_)] []) ?_ fuelN (-1 : Int32) o54_ h57_
        clear h57_
        intro rec59_ to62_ o63_ h60_ h61_
        have K66_ : 0 ≤ o63_ → Z Θ 7 0 0 (zQ Θ ρ) x14_ 105 [(0, .ref (zA Θ 0)), (1, .int k_a), (2, .int at43_), (3, .int set44_), (4, .int i45_), (5, .int to62_), (6, .int o63_)] [] := by
          intro h69_
          rw [if_pos h69_] at h61_
          obtain ⟨y70_, h71_, h61_⟩ := ob h61_
          suffices K72_ : Z Θ 7 0 0 (zQ Θ ρ) x14_ 157 [(0, .ref (zA Θ 0)), (1, .int k_a), (2, .int at43_), (3, .int set44_), (4, .int i45_), (5, .int y70_), (6, .int o63_)] [] by
            obtain ⟨t75_, h76_, h71_⟩ := ob h71_
            have K73_ : t75_ = true → Z Θ 7 0 0 (zQ Θ ρ) x14_ 153 [(0, .ref (zA Θ 0)), (1, .int k_a), (2, .int at43_), (3, .int set44_), (4, .int i45_), (5, .int to62_), (6, .int o63_)] [] := by
              intro h85_
              rw [if_pos h85_] at h71_
              refine z_iload C 6 dX12_table_153 rfl ?_
              refine z_ist C dX12_table_155 rfl (Nat.le_of_ble_eq_true rfl) rfl ?_
              cases h71_
              refine Z.sub [1, 2, 3, 4, 5, 0, 6] rfl ?_
              exact K72_
            have K74_ : ¬ (t75_ = true) → Z Θ 7 0 0 (zQ Θ ρ) x14_ 157 [(0, .ref (zA Θ 0)), (1, .int k_a), (2, .int at43_), (3, .int set44_), (4, .int i45_), (5, .int to62_), (6, .int o63_)] [] := by
              intro h85_
              rw [if_neg h85_] at h71_
              cases h71_
              exact K72_
            refine z_iload_n C 3 dX12_table_105 rfl rfl ?_
            refine z_iload C 6 dX12_table_106 rfl ?_
            refine cr12_275 (set_a := set44_) (k_a := o63_) C hkd  ⟨(Nat.le_of_ble_eq_true rfl), (Nat.le_of_ble_eq_true rfl)⟩ (Nat.le_of_ble_eq_true rfl) ⟨Nat.zero_le _, Nat.zero_le _⟩ dX12_table_108 ?_
            refine cb_t C 157 dX12_table_111 (by decide) (fun h77_ => ?_) (fun h77_ => ?_)
            · rw [if_pos h77_] at h76_
              cases h76_
              exact K74_ Bool.false_ne_true
            · rw [if_neg h77_] at h76_
              refine z_aload_n C 0 dX12_table_114 rfl rfl ?_
              refine z_iload_n C 2 dX12_table_115 rfl rfl ?_
              refine z_iload C 6 dX12_table_116 rfl ?_
              obtain ⟨x78_, h79_, h76_⟩ := ob h76_
              refine cr12_434 (p_a := at43_) (o_a := o63_) C hkd  h79_ ⟨(Nat.le_of_ble_eq_true rfl), (Nat.le_of_ble_eq_true rfl)⟩ (Nat.le_of_ble_eq_true rfl) ⟨Nat.zero_le _, Nat.zero_le _⟩ dX12_table_118 ?_
              refine z_aload_n C 0 dX12_table_121 rfl rfl ?_
              refine fg12_62 C hkd dX12_table_122 ?_
              refine z_bipush (v := 8) C dX12_table_125 bp_8 ?_
              refine z_iload_n C 3 dX12_table_127 rfl rfl ?_
              refine z_iconst (v := 1) C dX12_table_128 ic_1 ?_
              refine z_iload C 6 dX12_table_129 rfl ?_
              refine z_shl C dX12_table_131 ?_
              refine z_ior C dX12_table_132 ?_
              refine z_imul C dX12_table_133 ?_
              refine z_iload C 6 dX12_table_134 rfl ?_
              refine z_iadd C dX12_table_136 ?_
              obtain ⟨x80_, h81_, h76_⟩ := ob h76_
              refine z_ag C h81_ (kM_17 hkd) dX12_table_137 ?_
              refine z_iadd C dX12_table_138 ?_
              refine z_aload_n C 0 dX12_table_139 rfl rfl ?_
              refine fg12_62 C hkd dX12_table_140 ?_
              refine z_bipush (v := 8) C dX12_table_143 bp_8 ?_
              refine z_iload_n C 3 dX12_table_145 rfl rfl ?_
              refine z_imul C dX12_table_146 ?_
              refine z_iload_n C 2 dX12_table_147 rfl rfl ?_
              refine z_iadd C dX12_table_148 ?_
              obtain ⟨x82_, h83_, h76_⟩ := ob h76_
              refine z_ag C h83_ (kM_17 hkd) dX12_table_149 ?_
              refine c_eq_f C 157 dX12_table_150 (by decide) (fun h84_ => ?_) (fun h84_ => ?_)
              · rw [if_pos h84_] at h76_
                cases h76_
                exact K73_ rfl
              · rw [if_neg h84_] at h76_
                cases h76_
                exact K74_ Bool.false_ne_true
          obtain ⟨o86_, h87_, h61_⟩ := lt_ h61_
          refine z_inc C 6 dX12_table_157 rfl ic_m1 h87_ (Nat.le_of_ble_eq_true rfl) rfl ?_
          refine z_goto C 100 dX12_table_160 (by decide) ?_
          refine Z.sub [1, 2, 3, 4, 5, 6, 0] rfl ?_
          exact h60_ _ _ h61_
        have K67_ : ¬ (0 ≤ o63_) → Z Θ 7 0 0 (zQ Θ ρ) x14_ 163 [(0, .ref (zA Θ 0)), (1, .int k_a), (2, .int at43_), (3, .int set44_), (4, .int i45_), (5, .int to62_), (6, .int o63_)] [] := by
          intro h69_
          rw [if_neg h69_] at h61_
          cases h61_
          exact K58_
        refine z_iload C 6 dX12_table_100 rfl ?_
        refine c0_ge_f C 163 dX12_table_102 (by decide) (fun h68_ => ?_) (fun h68_ => ?_)
        · exact K66_ h68_
        · exact K67_ h68_
      refine z_iload C 5 dX12_table_163 rfl ?_
      refine z_istN C dX12_table_165 rfl rfl (Nat.le_of_ble_eq_true rfl) rfl ?_
      refine z_iload_n C 3 dX12_table_166 rfl rfl ?_
      refine z_iconst (v := 1) C dX12_table_167 ic_1 ?_
      refine z_iload C 5 dX12_table_168 rfl ?_
      refine z_shl C dX12_table_170 ?_
      refine z_ior C dX12_table_171 ?_
      obtain ⟨set88_, h89_, h42_⟩ := lt_ h42_
      refine z_istN C dX12_table_172 h89_ rfl (Nat.le_of_ble_eq_true rfl) rfl ?_
      obtain ⟨i90_, h91_, h42_⟩ := lt_ h42_
      refine z_inc C 4 dX12_table_173 rfl ic_1 h91_ (Nat.le_of_ble_eq_true rfl) rfl ?_
      refine z_goto C 81 dX12_table_176 (by decide) ?_
      refine Z.sub [3, 4, 2, 1, 0] rfl ?_
      exact h41_ _ _ _ h42_
    have K49_ : ¬ (i45_ < k_a) → Z Θ 7 0 0 (zQ Θ ρ) x14_ 179 [(0, .ref (zA Θ 0)), (1, .int k_a), (2, .int at43_), (3, .int set44_), (4, .int i45_)] [] := by
      intro h51_
      rw [if_neg h51_] at h42_
      cases h42_
      exact K39_
    refine z_iload C 4 dX12_table_81 rfl ?_
    refine z_iload_n C 1 dX12_table_83 rfl rfl ?_
    refine c_lt_f C 179 dX12_table_84 (by decide) (fun h50_ => ?_) (fun h50_ => ?_)
    · exact K48_ h50_
    · exact K49_ h50_
  refine z_iload_n C 2 dX12_table_179 rfl rfl ?_
  cases hf
  subst hρ
  exact z_iret C dX12_table_180
theorem c12_table {l : Launch} {kd : List KD} {w : Wp} {σ : St} {k_a : Int32} (hkd : kd = kdM) (hi : zI kd w) {r : (Int32 × St)} (hf : q12_table σ k_a = some r) : zM l kd w yX12_table cX12_table 7 (some .int) rm12_table [.ref (w.2.2.1 0), .int k_a] σ (some (.int r.1), r.2) := zM_of rfl hi (Nat.le_of_ble_eq_true rfl) (fun Θ hl hw C => by
  obtain ⟨Θ1, Θ2, Θ3, Θ4, Θ5⟩ := Θ
  cases hw
  exact p12_table C hkd  hf rfl)
/-! LastLoafModel.slices -/
theorem dX12_slices_0 : decode cX12_slices 0 = .ok (.aload_n 0, 1) := by decide +kernel
theorem dX12_slices_1 : decode cX12_slices 1 = .ok (.aload_n 0, 1) := by decide +kernel
theorem dX12_slices_2 : decode cX12_slices 2 = .ok (.iload_n 1, 1) := by decide +kernel
theorem dX12_slices_3 : decode cX12_slices 3 = .ok (.invokevirtual 347, 3) := by decide +kernel
theorem dX12_slices_6 : decode cX12_slices 6 = .ok (.ifCond .ne 7, 3) := by decide +kernel
theorem dX12_slices_9 : decode cX12_slices 9 = .ok (.iconst 1, 1) := by decide +kernel
theorem dX12_slices_10 : decode cX12_slices 10 = .ok (.goto 19, 3) := by decide +kernel
theorem dX12_slices_13 : decode cX12_slices 13 = .ok (.iload_n 2, 1) := by decide +kernel
theorem dX12_slices_14 : decode cX12_slices 14 = .ok (.iconst 0, 1) := by decide +kernel
theorem dX12_slices_15 : decode cX12_slices 15 = .ok (.sipush 999, 3) := by decide +kernel
theorem dX12_slices_18 : decode cX12_slices 18 = .ok (.invokestatic 68, 3) := by decide +kernel
theorem dX12_slices_21 : decode cX12_slices 21 = .ok (.ifCond .ne 7, 3) := by decide +kernel
theorem dX12_slices_24 : decode cX12_slices 24 = .ok (.iconst 2, 1) := by decide +kernel
theorem dX12_slices_25 : decode cX12_slices 25 = .ok (.goto 4, 3) := by decide +kernel
theorem dX12_slices_28 : decode cX12_slices 28 = .ok (.iconst 0, 1) := by decide +kernel
theorem dX12_slices_29 : decode cX12_slices 29 = .ok (.putfield 65, 3) := by decide +kernel
theorem dX12_slices_32 : decode cX12_slices 32 = .ok (.aload_n 0, 1) := by decide +kernel
theorem dX12_slices_33 : decode cX12_slices 33 = .ok (.getfield 65, 3) := by decide +kernel
theorem dX12_slices_36 : decode cX12_slices 36 = .ok (.ifCond .le 5, 3) := by decide +kernel
theorem dX12_slices_39 : decode cX12_slices 39 = .ok (.iconst 0, 1) := by decide +kernel
theorem dX12_slices_40 : decode cX12_slices 40 = .ok (.ireturn, 1) := by decide +kernel
theorem dX12_slices_41 : decode cX12_slices 41 = .ok (.aload_n 0, 1) := by decide +kernel
theorem dX12_slices_42 : decode cX12_slices 42 = .ok (.iconst 0, 1) := by decide +kernel
theorem dX12_slices_43 : decode cX12_slices 43 = .ok (.invokevirtual 359, 3) := by decide +kernel
theorem dX12_slices_46 : decode cX12_slices 46 = .ok (.istore_n 3, 1) := by decide +kernel
theorem dX12_slices_47 : decode cX12_slices 47 = .ok (.iload_n 3, 1) := by decide +kernel
theorem dX12_slices_48 : decode cX12_slices 48 = .ok (.ifCond .ne 5, 3) := by decide +kernel
theorem dX12_slices_51 : decode cX12_slices 51 = .ok (.iconst 0, 1) := by decide +kernel
theorem dX12_slices_52 : decode cX12_slices 52 = .ok (.ireturn, 1) := by decide +kernel
theorem dX12_slices_53 : decode cX12_slices 53 = .ok (.iload_n 2, 1) := by decide +kernel
theorem dX12_slices_54 : decode cX12_slices 54 = .ok (.istore 4, 2) := by decide +kernel
theorem dX12_slices_56 : decode cX12_slices 56 = .ok (.iconst 0, 1) := by decide +kernel
theorem dX12_slices_57 : decode cX12_slices 57 = .ok (.istore 5, 2) := by decide +kernel
theorem dX12_slices_59 : decode cX12_slices 59 = .ok (.iload 5, 2) := by decide +kernel
theorem dX12_slices_61 : decode cX12_slices 61 = .ok (.aload_n 0, 1) := by decide +kernel
theorem dX12_slices_62 : decode cX12_slices 62 = .ok (.getfield 7, 3) := by decide +kernel
theorem dX12_slices_65 : decode cX12_slices 65 = .ok (.iconst 3, 1) := by decide +kernel
theorem dX12_slices_66 : decode cX12_slices 66 = .ok (.iaload, 1) := by decide +kernel
theorem dX12_slices_67 : decode cX12_slices 67 = .ok (.if_icmp .ge 25, 3) := by decide +kernel
theorem dX12_slices_70 : decode cX12_slices 70 = .ok (.iload 4, 2) := by decide +kernel
theorem dX12_slices_72 : decode cX12_slices 72 = .ok (.iload_n 2, 1) := by decide +kernel
theorem dX12_slices_73 : decode cX12_slices 73 = .ok (.aload_n 0, 1) := by decide +kernel
theorem dX12_slices_74 : decode cX12_slices 74 = .ok (.iload 5, 2) := by decide +kernel
theorem dX12_slices_76 : decode cX12_slices 76 = .ok (.iconst 0, 1) := by decide +kernel
theorem dX12_slices_77 : decode cX12_slices 77 = .ok (.invokevirtual 72, 3) := by decide +kernel
theorem dX12_slices_80 : decode cX12_slices 80 = .ok (.imul, 1) := by decide +kernel
theorem dX12_slices_81 : decode cX12_slices 81 = .ok (.iload_n 3, 1) := by decide +kernel
theorem dX12_slices_82 : decode cX12_slices 82 = .ok (.idiv, 1) := by decide +kernel
theorem dX12_slices_83 : decode cX12_slices 83 = .ok (.isub, 1) := by decide +kernel
theorem dX12_slices_84 : decode cX12_slices 84 = .ok (.istore 4, 2) := by decide +kernel
theorem dX12_slices_86 : decode cX12_slices 86 = .ok (.iinc 5 1, 3) := by decide +kernel
theorem dX12_slices_89 : decode cX12_slices 89 = .ok (.goto (-30), 3) := by decide +kernel
theorem dX12_slices_92 : decode cX12_slices 92 = .ok (.iload_n 2, 1) := by decide +kernel
theorem dX12_slices_93 : decode cX12_slices 93 = .ok (.aload_n 0, 1) := by decide +kernel
theorem dX12_slices_94 : decode cX12_slices 94 = .ok (.iload_n 1, 1) := by decide +kernel
theorem dX12_slices_95 : decode cX12_slices 95 = .ok (.iconst 0, 1) := by decide +kernel
theorem dX12_slices_96 : decode cX12_slices 96 = .ok (.invokevirtual 72, 3) := by decide +kernel
theorem dX12_slices_99 : decode cX12_slices 99 = .ok (.imul, 1) := by decide +kernel
theorem dX12_slices_100 : decode cX12_slices 100 = .ok (.iload_n 3, 1) := by decide +kernel
theorem dX12_slices_101 : decode cX12_slices 101 = .ok (.idiv, 1) := by decide +kernel
theorem dX12_slices_102 : decode cX12_slices 102 = .ok (.iload_n 1, 1) := by decide +kernel
theorem dX12_slices_103 : decode cX12_slices 103 = .ok (.iload 4, 2) := by decide +kernel
theorem dX12_slices_105 : decode cX12_slices 105 = .ok (.if_icmp .ge 7, 3) := by decide +kernel
theorem dX12_slices_108 : decode cX12_slices 108 = .ok (.iconst 1, 1) := by decide +kernel
theorem dX12_slices_109 : decode cX12_slices 109 = .ok (.goto 4, 3) := by decide +kernel
theorem dX12_slices_112 : decode cX12_slices 112 = .ok (.iconst 0, 1) := by decide +kernel
theorem dX12_slices_113 : decode cX12_slices 113 = .ok (.iadd, 1) := by decide +kernel
theorem dX12_slices_114 : decode cX12_slices 114 = .ok (.ireturn, 1) := by decide +kernel
def q12_slices (σ : St) (p_a : Int32) (n_a : Int32) : Option (Int32 × St) :=
  Option.bind (Option.bind (q12_isOne σ p_a) fun x6_ =>
  if ¬ (x6_ = true) then (some (1 : Int32)) else (some (if ¬ (q12_isIn n_a 0 999 = true) then 2 else 0))) fun x1_ =>
  lt (up σ 0 0 x1_) fun σ15_ =>
  if 0 < (σ15_ 0 0) then (some (0, σ15_)) else
  Option.bind (q12_sumOf σ15_ 0) fun x21_ =>
  if x21_ = 0 then (some (0, σ15_)) else
  Option.bind (loop2 (fun rec30_ (left33_ : Int32) (o34_ : Int32) =>
  Option.bind (ag σ15_ 1 752 3) fun x39_ =>
  if o34_ < x39_ then
  Option.bind (q12_of σ15_ o34_ 0) fun x43_ =>
  Option.bind (dv (n_a * x43_) x21_) fun x45_ =>
  lt (left33_ - x45_) fun left47_ =>
  lt (o34_ + 1) fun o49_ =>
  rec30_ left47_ o49_
  else (some (left33_, o34_))) fuelN n_a (0 : Int32)) fun y27_ =>
  Option.bind (q12_of σ15_ p_a 0) fun x51_ =>
  Option.bind (dv (n_a * x51_) x21_) fun x53_ =>
  some (x53_ + (if p_a < y27_.1 then 1 else 0), σ15_)
abbrev rm12_slices : Room := { frames := 2, cells := 0, slots := 0, locals := 45 }
set_option maxHeartbeats 4000000 in
set_option maxRecDepth 100000 in
theorem p12_slices {Θ : Tz} {σ : St} {ρ : Option Value × St} (C : Zc Θ cX12_slices 6 RX12 (some .int) rm12_slices) (hkd : Θ.2.2.2.2.1 = kdM) {p_a : Int32} {n_a : Int32} {r : (Int32 × St)} (hf : q12_slices σ p_a n_a = some r) (hρ : ρ = (some (.int r.1), r.2)) : Z Θ 6 0 0 (zQ Θ ρ) σ 0 [(0, .ref (zA Θ 0)), (1, .int p_a), (2, .int n_a)] [] := by
  unfold q12_slices at hf
  refine z_aload_n C 0 dX12_slices_0 rfl rfl ?_
  obtain ⟨x1_, h2_, hf⟩ := ob hf
  suffices K3_ : Z Θ 6 0 0 (zQ Θ ρ) σ 29 [(0, .ref (zA Θ 0)), (1, .int p_a), (2, .int n_a)] [.int x1_, .ref (zA Θ 0)] by
    refine z_aload_n C 0 dX12_slices_1 rfl rfl ?_
    refine z_iload_n C 1 dX12_slices_2 rfl rfl ?_
    obtain ⟨x6_, h7_, h2_⟩ := ob h2_
    refine cr12_347 (p_a := p_a) C hkd  h7_ ⟨(Nat.le_of_ble_eq_true rfl), (Nat.le_of_ble_eq_true rfl)⟩ (Nat.le_of_ble_eq_true rfl) ⟨Nat.zero_le _, Nat.zero_le _⟩ dX12_slices_3 ?_
    have K4_ : ¬ (x6_ = true) → Z Θ 6 0 0 (zQ Θ ρ) σ 9 [(0, .ref (zA Θ 0)), (1, .int p_a), (2, .int n_a)] [.ref (zA Θ 0)] := by
      intro h14_
      rw [if_pos h14_] at h2_
      refine z_iconst (v := 1) C dX12_slices_9 ic_1 ?_
      refine z_goto C 29 dX12_slices_10 (by decide) ?_
      cases h2_
      exact K3_
    have K5_ : ¬ (¬ (x6_ = true)) → Z Θ 6 0 0 (zQ Θ ρ) σ 13 [(0, .ref (zA Θ 0)), (1, .int p_a), (2, .int n_a)] [.ref (zA Θ 0)] := by
      intro h14_
      rw [if_neg h14_] at h2_
      suffices K9_ : Z Θ 6 0 0 (zQ Θ ρ) σ 29 [(0, .ref (zA Θ 0)), (1, .int p_a), (2, .int n_a)] [.int (if ¬ (q12_isIn n_a 0 999 = true) then 2 else 0), .ref (zA Θ 0)] by
        have K10_ : ¬ (q12_isIn n_a 0 999 = true) → Z Θ 6 0 0 (zQ Θ ρ) σ 24 [(0, .ref (zA Θ 0)), (1, .int p_a), (2, .int n_a)] [.ref (zA Θ 0)] := by
          intro h13_
          rw [if_pos h13_] at K9_
          refine z_iconst (v := 2) C dX12_slices_24 ic_2 ?_
          refine z_goto C 29 dX12_slices_25 (by decide) ?_
          exact K9_
        have K11_ : ¬ (¬ (q12_isIn n_a 0 999 = true)) → Z Θ 6 0 0 (zQ Θ ρ) σ 28 [(0, .ref (zA Θ 0)), (1, .int p_a), (2, .int n_a)] [.ref (zA Θ 0)] := by
          intro h13_
          rw [if_neg h13_] at K9_
          refine z_iconst (v := 0) C dX12_slices_28 ic_0 ?_
          exact K9_
        refine z_iload_n C 2 dX12_slices_13 rfl rfl ?_
        refine z_iconst (v := 0) C dX12_slices_14 ic_0 ?_
        refine z_sipush (v := 999) C dX12_slices_15 sp_999 ?_
        refine cr12_68 (v_a := n_a) (low_a := 0) (high_a := 999) C hkd  ⟨(Nat.le_of_ble_eq_true rfl), (Nat.le_of_ble_eq_true rfl)⟩ (Nat.le_of_ble_eq_true rfl) ⟨Nat.zero_le _, Nat.zero_le _⟩ dX12_slices_18 ?_
        refine cb_t C 28 dX12_slices_21 (by decide) (fun h12_ => ?_) (fun h12_ => ?_)
        · exact K11_ (fun n => n h12_)
        · exact K10_ h12_
      cases h2_
      exact K3_
    refine cb_t C 13 dX12_slices_6 (by decide) (fun h8_ => ?_) (fun h8_ => ?_)
    · exact K5_ (fun n => n h8_)
    · exact K4_ h8_
  obtain ⟨σ15_, h16_, hf⟩ := lt_ hf
  refine fp12_65 C hkd h16_ dX12_slices_29 ?_
  have K17_ : 0 < (σ15_ 0 0) → Z Θ 6 0 0 (zQ Θ ρ) σ15_ 39 [(0, .ref (zA Θ 0)), (1, .int p_a), (2, .int n_a)] [] := by
    intro h20_
    rw [if_pos h20_] at hf
    refine z_iconst (v := 0) C dX12_slices_39 ic_0 ?_
    cases hf
    subst hρ
    exact z_iret C dX12_slices_40
  suffices K18_ : ¬ (0 < (σ15_ 0 0)) → Z Θ 6 0 0 (zQ Θ ρ) σ15_ 41 [(0, .ref (zA Θ 0)), (1, .int p_a), (2, .int n_a)] [] by
    refine z_aload_n C 0 dX12_slices_32 rfl rfl ?_
    refine fg12_65 C hkd dX12_slices_33 ?_
    refine c0_gt_f C 41 dX12_slices_36 (by decide) (fun h19_ => ?_) (fun h19_ => ?_)
    · exact K17_ h19_
    · exact K18_ h19_
  intro h20_
  rw [if_neg h20_] at hf
  refine z_aload_n C 0 dX12_slices_41 rfl rfl ?_
  refine z_iconst (v := 0) C dX12_slices_42 ic_0 ?_
  obtain ⟨x21_, h22_, hf⟩ := ob hf
  refine cr12_359 (what_a := 0) C hkd  h22_ ⟨(Nat.le_of_ble_eq_true rfl), (Nat.le_of_ble_eq_true rfl)⟩ (Nat.le_of_ble_eq_true rfl) ⟨Nat.zero_le _, Nat.zero_le _⟩ dX12_slices_43 ?_
  refine z_istN C dX12_slices_46 rfl rfl (Nat.le_of_ble_eq_true rfl) rfl ?_
  have K23_ : x21_ = 0 → Z Θ 6 0 0 (zQ Θ ρ) σ15_ 51 [(3, .int x21_), (0, .ref (zA Θ 0)), (1, .int p_a), (2, .int n_a)] [] := by
    intro h26_
    rw [if_pos h26_] at hf
    refine z_iconst (v := 0) C dX12_slices_51 ic_0 ?_
    cases hf
    subst hρ
    exact z_iret C dX12_slices_52
  suffices K24_ : ¬ (x21_ = 0) → Z Θ 6 0 0 (zQ Θ ρ) σ15_ 53 [(3, .int x21_), (0, .ref (zA Θ 0)), (1, .int p_a), (2, .int n_a)] [] by
    refine z_iload_n C 0 dX12_slices_47 rfl rfl ?_
    refine c0_eq_f C 53 dX12_slices_48 (by decide) (fun h25_ => ?_) (fun h25_ => ?_)
    · exact K23_ h25_
    · exact K24_ h25_
  intro h26_
  rw [if_neg h26_] at hf
  refine z_iload_n C 3 dX12_slices_53 rfl rfl ?_
  refine z_ist C dX12_slices_54 rfl (Nat.le_of_ble_eq_true rfl) rfl ?_
  refine z_iconst (v := 0) C dX12_slices_56 ic_0 ?_
  refine z_ist C dX12_slices_57 rfl (Nat.le_of_ble_eq_true rfl) rfl ?_
  refine Z.sub [3, 4, 5, 2, 1, 0] rfl ?_
  obtain ⟨y27_, h28_, hf⟩ := ob hf
  suffices K29_ : Z Θ 6 0 0 (zQ Θ ρ) σ15_ 92 [(0, .ref (zA Θ 0)), (1, .int p_a), (2, .int n_a), (3, .int x21_), (4, .int y27_.1), (5, .int y27_.2)] [] by
    refine loop2_Z (P := fun (left33_ : Int32) (o34_ : Int32) => Z Θ 6 0 0 (zQ Θ ρ) σ15_ 59 [(0, .ref (zA Θ 0)), (1, .int p_a), (2, .int n_a), (3, .int x21_), (4, .int left33_), (5, .int o34_)] []) ?_ fuelN n_a (0 : Int32) h28_
    clear h28_
    intro rec30_ left33_ o34_ h31_ h32_
    refine z_iload C 5 dX12_slices_59 rfl ?_
    refine z_aload_n C 0 dX12_slices_61 rfl rfl ?_
    refine fg12_7 C hkd dX12_slices_62 ?_
    refine z_iconst (v := 3) C dX12_slices_65 ic_3 ?_
    obtain ⟨x39_, h40_, h32_⟩ := ob h32_
    refine z_ag C h40_ (kM_1 hkd) dX12_slices_66 ?_
    have K37_ : o34_ < x39_ → Z Θ 6 0 0 (zQ Θ ρ) σ15_ 70 [(0, .ref (zA Θ 0)), (1, .int p_a), (2, .int n_a), (3, .int x21_), (4, .int left33_), (5, .int o34_)] [] := by
      intro h42_
      rw [if_pos h42_] at h32_
      refine z_iload C 4 dX12_slices_70 rfl ?_
      refine z_iload_n C 2 dX12_slices_72 rfl rfl ?_
      refine z_aload_n C 0 dX12_slices_73 rfl rfl ?_
      refine z_iload C 5 dX12_slices_74 rfl ?_
      refine z_iconst (v := 0) C dX12_slices_76 ic_0 ?_
      obtain ⟨x43_, h44_, h32_⟩ := ob h32_
      refine cr12_72 (p_a := o34_) (what_a := 0) C hkd  h44_ ⟨(Nat.le_of_ble_eq_true rfl), (Nat.le_of_ble_eq_true rfl)⟩ (Nat.le_of_ble_eq_true rfl) ⟨Nat.zero_le _, Nat.zero_le _⟩ dX12_slices_77 ?_
      refine z_imul C dX12_slices_80 ?_
      refine z_iload_n C 3 dX12_slices_81 rfl rfl ?_
      obtain ⟨x45_, h46_, h32_⟩ := ob h32_
      refine z_dv C h46_ dX12_slices_82 ?_
      refine z_isub C dX12_slices_83 ?_
      obtain ⟨left47_, h48_, h32_⟩ := lt_ h32_
      refine z_ist C dX12_slices_84 h48_ (Nat.le_of_ble_eq_true rfl) rfl ?_
      obtain ⟨o49_, h50_, h32_⟩ := lt_ h32_
      refine z_inc C 5 dX12_slices_86 rfl ic_1 h50_ (Nat.le_of_ble_eq_true rfl) rfl ?_
      refine z_goto C 59 dX12_slices_89 (by decide) ?_
      refine Z.sub [2, 3, 4, 5, 1, 0] rfl ?_
      exact h31_ _ _ h32_
    have K38_ : ¬ (o34_ < x39_) → Z Θ 6 0 0 (zQ Θ ρ) σ15_ 92 [(0, .ref (zA Θ 0)), (1, .int p_a), (2, .int n_a), (3, .int x21_), (4, .int left33_), (5, .int o34_)] [] := by
      intro h42_
      rw [if_neg h42_] at h32_
      cases h32_
      exact K29_
    refine c_lt_f C 92 dX12_slices_67 (by decide) (fun h41_ => ?_) (fun h41_ => ?_)
    · exact K37_ h41_
    · exact K38_ h41_
  refine z_iload_n C 2 dX12_slices_92 rfl rfl ?_
  refine z_aload_n C 0 dX12_slices_93 rfl rfl ?_
  refine z_iload_n C 1 dX12_slices_94 rfl rfl ?_
  refine z_iconst (v := 0) C dX12_slices_95 ic_0 ?_
  obtain ⟨x51_, h52_, hf⟩ := ob hf
  refine cr12_72 (p_a := p_a) (what_a := 0) C hkd  h52_ ⟨(Nat.le_of_ble_eq_true rfl), (Nat.le_of_ble_eq_true rfl)⟩ (Nat.le_of_ble_eq_true rfl) ⟨Nat.zero_le _, Nat.zero_le _⟩ dX12_slices_96 ?_
  refine z_imul C dX12_slices_99 ?_
  refine z_iload_n C 3 dX12_slices_100 rfl rfl ?_
  obtain ⟨x53_, h54_, hf⟩ := ob hf
  refine z_dv C h54_ dX12_slices_101 ?_
  suffices K55_ : Z Θ 6 0 0 (zQ Θ ρ) σ15_ 113 [(0, .ref (zA Θ 0)), (1, .int p_a), (2, .int n_a), (3, .int x21_), (4, .int y27_.1), (5, .int y27_.2)] [.int (if p_a < y27_.1 then 1 else 0), .int x53_] by
    have K56_ : p_a < y27_.1 → Z Θ 6 0 0 (zQ Θ ρ) σ15_ 108 [(0, .ref (zA Θ 0)), (1, .int p_a), (2, .int n_a), (3, .int x21_), (4, .int y27_.1), (5, .int y27_.2)] [.int x53_] := by
      intro h59_
      rw [if_pos h59_] at K55_
      refine z_iconst (v := 1) C dX12_slices_108 ic_1 ?_
      refine z_goto C 113 dX12_slices_109 (by decide) ?_
      exact K55_
    have K57_ : ¬ (p_a < y27_.1) → Z Θ 6 0 0 (zQ Θ ρ) σ15_ 112 [(0, .ref (zA Θ 0)), (1, .int p_a), (2, .int n_a), (3, .int x21_), (4, .int y27_.1), (5, .int y27_.2)] [.int x53_] := by
      intro h59_
      rw [if_neg h59_] at K55_
      refine z_iconst (v := 0) C dX12_slices_112 ic_0 ?_
      exact K55_
    refine z_iload_n C 1 dX12_slices_102 rfl rfl ?_
    refine z_iload C 4 dX12_slices_103 rfl ?_
    refine c_lt_f C 112 dX12_slices_105 (by decide) (fun h58_ => ?_) (fun h58_ => ?_)
    · exact K56_ h58_
    · exact K57_ h58_
  refine z_iadd C dX12_slices_113 ?_
  cases hf
  subst hρ
  exact z_iret C dX12_slices_114
theorem c12_slices {l : Launch} {kd : List KD} {w : Wp} {σ : St} {p_a : Int32} {n_a : Int32} (hkd : kd = kdM) (hi : zI kd w) {r : (Int32 × St)} (hf : q12_slices σ p_a n_a = some r) : zM l kd w yX12_slices cX12_slices 6 (some .int) rm12_slices [.ref (w.2.2.1 0), .int p_a, .int n_a] σ (some (.int r.1), r.2) := zM_of rfl hi (Nat.le_of_ble_eq_true rfl) (fun Θ hl hw C => by
  obtain ⟨Θ1, Θ2, Θ3, Θ4, Θ5⟩ := Θ
  cases hw
  exact p12_slices C hkd  hf rfl)
/-! LastLoafModel.ring -/
theorem dX12_ring_0 : decode cX12_ring 0 = .ok (.aload_n 0, 1) := by decide +kernel
theorem dX12_ring_1 : decode cX12_ring 1 = .ok (.aload_n 0, 1) := by decide +kernel
theorem dX12_ring_2 : decode cX12_ring 2 = .ok (.iload_n 1, 1) := by decide +kernel
theorem dX12_ring_3 : decode cX12_ring 3 = .ok (.invokevirtual 347, 3) := by decide +kernel
theorem dX12_ring_6 : decode cX12_ring 6 = .ok (.ifCond .ne 7, 3) := by decide +kernel
theorem dX12_ring_9 : decode cX12_ring 9 = .ok (.iconst 1, 1) := by decide +kernel
theorem dX12_ring_10 : decode cX12_ring 10 = .ok (.goto 4, 3) := by decide +kernel
theorem dX12_ring_13 : decode cX12_ring 13 = .ok (.iconst 0, 1) := by decide +kernel
theorem dX12_ring_14 : decode cX12_ring 14 = .ok (.putfield 65, 3) := by decide +kernel
theorem dX12_ring_17 : decode cX12_ring 17 = .ok (.aload_n 0, 1) := by decide +kernel
theorem dX12_ring_18 : decode cX12_ring 18 = .ok (.getfield 65, 3) := by decide +kernel
theorem dX12_ring_21 : decode cX12_ring 21 = .ok (.ifCond .le 5, 3) := by decide +kernel
theorem dX12_ring_24 : decode cX12_ring 24 = .ok (.iconst 0, 1) := by decide +kernel
theorem dX12_ring_25 : decode cX12_ring 25 = .ok (.ireturn, 1) := by decide +kernel
theorem dX12_ring_26 : decode cX12_ring 26 = .ok (.aload_n 0, 1) := by decide +kernel
theorem dX12_ring_27 : decode cX12_ring 27 = .ok (.iload_n 1, 1) := by decide +kernel
theorem dX12_ring_28 : decode cX12_ring 28 = .ok (.invokevirtual 356, 3) := by decide +kernel
theorem dX12_ring_31 : decode cX12_ring 31 = .ok (.istore_n 2, 1) := by decide +kernel
theorem dX12_ring_32 : decode cX12_ring 32 = .ok (.iconst 0, 1) := by decide +kernel
theorem dX12_ring_33 : decode cX12_ring 33 = .ok (.istore_n 3, 1) := by decide +kernel
theorem dX12_ring_34 : decode cX12_ring 34 = .ok (.iload_n 3, 1) := by decide +kernel
theorem dX12_ring_35 : decode cX12_ring 35 = .ok (.bipush 6, 2) := by decide +kernel
theorem dX12_ring_37 : decode cX12_ring 37 = .ok (.if_icmp .ge 25, 3) := by decide +kernel
theorem dX12_ring_40 : decode cX12_ring 40 = .ok (.iload_n 2, 1) := by decide +kernel
theorem dX12_ring_41 : decode cX12_ring 41 = .ok (.iconst (-1), 1) := by decide +kernel
theorem dX12_ring_42 : decode cX12_ring 42 = .ok (.if_icmp .eq 20, 3) := by decide +kernel
theorem dX12_ring_45 : decode cX12_ring 45 = .ok (.iload_n 2, 1) := by decide +kernel
theorem dX12_ring_46 : decode cX12_ring 46 = .ok (.iload_n 1, 1) := by decide +kernel
theorem dX12_ring_47 : decode cX12_ring 47 = .ok (.if_icmp .eq 15, 3) := by decide +kernel
theorem dX12_ring_50 : decode cX12_ring 50 = .ok (.aload_n 0, 1) := by decide +kernel
theorem dX12_ring_51 : decode cX12_ring 51 = .ok (.iload_n 2, 1) := by decide +kernel
theorem dX12_ring_52 : decode cX12_ring 52 = .ok (.invokevirtual 356, 3) := by decide +kernel
theorem dX12_ring_55 : decode cX12_ring 55 = .ok (.istore_n 2, 1) := by decide +kernel
theorem dX12_ring_56 : decode cX12_ring 56 = .ok (.iinc 3 1, 3) := by decide +kernel
theorem dX12_ring_59 : decode cX12_ring 59 = .ok (.goto (-25), 3) := by decide +kernel
theorem dX12_ring_62 : decode cX12_ring 62 = .ok (.iload_n 2, 1) := by decide +kernel
theorem dX12_ring_63 : decode cX12_ring 63 = .ok (.iload_n 1, 1) := by decide +kernel
theorem dX12_ring_64 : decode cX12_ring 64 = .ok (.if_icmp .ne 7, 3) := by decide +kernel
theorem dX12_ring_67 : decode cX12_ring 67 = .ok (.iconst 1, 1) := by decide +kernel
theorem dX12_ring_68 : decode cX12_ring 68 = .ok (.goto 4, 3) := by decide +kernel
theorem dX12_ring_71 : decode cX12_ring 71 = .ok (.iconst 0, 1) := by decide +kernel
theorem dX12_ring_72 : decode cX12_ring 72 = .ok (.ireturn, 1) := by decide +kernel
def q12_ring (σ : St) (p_a : Int32) : Option (Bool × St) :=
  Option.bind (Option.bind (q12_isOne σ p_a) fun x6_ =>
  if ¬ (x6_ = true) then (some (1 : Int32)) else (some (0 : Int32))) fun x1_ =>
  lt (up σ 0 0 x1_) fun σ10_ =>
  if 0 < (σ10_ 0 0) then (some (false, σ10_)) else
  Option.bind (q12_passesTo σ10_ p_a) fun x16_ =>
  Option.bind (loop2 (fun rec21_ (at24_ : Int32) (n25_ : Int32) =>
  if ((n25_ < 6) ∧ (¬ at24_ = (-1))) ∧ (¬ at24_ = p_a) then
  Option.bind (q12_passesTo σ10_ at24_) fun x34_ =>
  lt (n25_ + 1) fun n36_ =>
  rec21_ x34_ n36_
  else (some (at24_, n25_))) fuelN x16_ (0 : Int32)) fun y18_ =>
  some (decide (y18_.1 = p_a), σ10_)
abbrev rm12_ring : Room := { frames := 2, cells := 0, slots := 0, locals := 45 }
set_option maxHeartbeats 4000000 in
set_option maxRecDepth 100000 in
theorem p12_ring {Θ : Tz} {σ : St} {ρ : Option Value × St} (C : Zc Θ cX12_ring 4 RX12 (some .boolean) rm12_ring) (hkd : Θ.2.2.2.2.1 = kdM) {p_a : Int32} {r : (Bool × St)} (hf : q12_ring σ p_a = some r) (hρ : ρ = (some (.int (b2i r.1)), r.2)) : Z Θ 4 0 0 (zQ Θ ρ) σ 0 [(0, .ref (zA Θ 0)), (1, .int p_a)] [] := by
  unfold q12_ring at hf
  refine z_aload_n C 0 dX12_ring_0 rfl rfl ?_
  obtain ⟨x1_, h2_, hf⟩ := ob hf
  suffices K3_ : Z Θ 4 0 0 (zQ Θ ρ) σ 14 [(0, .ref (zA Θ 0)), (1, .int p_a)] [.int x1_, .ref (zA Θ 0)] by
    refine z_aload_n C 0 dX12_ring_1 rfl rfl ?_
    refine z_iload_n C 1 dX12_ring_2 rfl rfl ?_
    obtain ⟨x6_, h7_, h2_⟩ := ob h2_
    refine cr12_347 (p_a := p_a) C hkd  h7_ ⟨(Nat.le_of_ble_eq_true rfl), (Nat.le_of_ble_eq_true rfl)⟩ (Nat.le_of_ble_eq_true rfl) ⟨Nat.zero_le _, Nat.zero_le _⟩ dX12_ring_3 ?_
    have K4_ : ¬ (x6_ = true) → Z Θ 4 0 0 (zQ Θ ρ) σ 9 [(0, .ref (zA Θ 0)), (1, .int p_a)] [.ref (zA Θ 0)] := by
      intro h9_
      rw [if_pos h9_] at h2_
      refine z_iconst (v := 1) C dX12_ring_9 ic_1 ?_
      refine z_goto C 14 dX12_ring_10 (by decide) ?_
      cases h2_
      exact K3_
    have K5_ : ¬ (¬ (x6_ = true)) → Z Θ 4 0 0 (zQ Θ ρ) σ 13 [(0, .ref (zA Θ 0)), (1, .int p_a)] [.ref (zA Θ 0)] := by
      intro h9_
      rw [if_neg h9_] at h2_
      refine z_iconst (v := 0) C dX12_ring_13 ic_0 ?_
      cases h2_
      exact K3_
    refine cb_t C 13 dX12_ring_6 (by decide) (fun h8_ => ?_) (fun h8_ => ?_)
    · exact K5_ (fun n => n h8_)
    · exact K4_ h8_
  obtain ⟨σ10_, h11_, hf⟩ := lt_ hf
  refine fp12_65 C hkd h11_ dX12_ring_14 ?_
  have K12_ : 0 < (σ10_ 0 0) → Z Θ 4 0 0 (zQ Θ ρ) σ10_ 24 [(0, .ref (zA Θ 0)), (1, .int p_a)] [] := by
    intro h15_
    rw [if_pos h15_] at hf
    refine z_iconst (v := 0) C dX12_ring_24 ic_0 ?_
    cases hf
    subst hρ
    exact z_zret C (b2i_narrow _) dX12_ring_25
  suffices K13_ : ¬ (0 < (σ10_ 0 0)) → Z Θ 4 0 0 (zQ Θ ρ) σ10_ 26 [(0, .ref (zA Θ 0)), (1, .int p_a)] [] by
    refine z_aload_n C 0 dX12_ring_17 rfl rfl ?_
    refine fg12_65 C hkd dX12_ring_18 ?_
    refine c0_gt_f C 26 dX12_ring_21 (by decide) (fun h14_ => ?_) (fun h14_ => ?_)
    · exact K12_ h14_
    · exact K13_ h14_
  intro h15_
  rw [if_neg h15_] at hf
  refine z_aload_n C 0 dX12_ring_26 rfl rfl ?_
  refine z_iload_n C 1 dX12_ring_27 rfl rfl ?_
  obtain ⟨x16_, h17_, hf⟩ := ob hf
  refine cr12_356 (p_a := p_a) C hkd  h17_ ⟨(Nat.le_of_ble_eq_true rfl), (Nat.le_of_ble_eq_true rfl)⟩ (Nat.le_of_ble_eq_true rfl) ⟨Nat.zero_le _, Nat.zero_le _⟩ dX12_ring_28 ?_
  refine z_istN C dX12_ring_31 rfl rfl (Nat.le_of_ble_eq_true rfl) rfl ?_
  refine z_iconst (v := 0) C dX12_ring_32 ic_0 ?_
  refine z_istN C dX12_ring_33 rfl rfl (Nat.le_of_ble_eq_true rfl) rfl ?_
  refine Z.sub [2, 3, 1, 0] rfl ?_
  obtain ⟨y18_, h19_, hf⟩ := ob hf
  suffices K20_ : Z Θ 4 0 0 (zQ Θ ρ) σ10_ 62 [(0, .ref (zA Θ 0)), (1, .int p_a), (2, .int y18_.1), (3, .int y18_.2)] [] by
    refine loop2_Z (P := fun (at24_ : Int32) (n25_ : Int32) => Z Θ 4 0 0 (zQ Θ ρ) σ10_ 34 [(0, .ref (zA Θ 0)), (1, .int p_a), (2, .int at24_), (3, .int n25_)] []) ?_ fuelN x16_ (0 : Int32) h19_
    clear h19_
    intro rec21_ at24_ n25_ h22_ h23_
    have K28_ : ((n25_ < 6) ∧ (¬ at24_ = (-1))) ∧ (¬ at24_ = p_a) → Z Θ 4 0 0 (zQ Θ ρ) σ10_ 50 [(0, .ref (zA Θ 0)), (1, .int p_a), (2, .int at24_), (3, .int n25_)] [] := by
      intro h33_
      rw [if_pos h33_] at h23_
      refine z_aload_n C 0 dX12_ring_50 rfl rfl ?_
      refine z_iload_n C 2 dX12_ring_51 rfl rfl ?_
      obtain ⟨x34_, h35_, h23_⟩ := ob h23_
      refine cr12_356 (p_a := at24_) C hkd  h35_ ⟨(Nat.le_of_ble_eq_true rfl), (Nat.le_of_ble_eq_true rfl)⟩ (Nat.le_of_ble_eq_true rfl) ⟨Nat.zero_le _, Nat.zero_le _⟩ dX12_ring_52 ?_
      refine z_istN C dX12_ring_55 rfl rfl (Nat.le_of_ble_eq_true rfl) rfl ?_
      obtain ⟨n36_, h37_, h23_⟩ := lt_ h23_
      refine z_inc C 3 dX12_ring_56 rfl ic_1 h37_ (Nat.le_of_ble_eq_true rfl) rfl ?_
      refine z_goto C 34 dX12_ring_59 (by decide) ?_
      refine Z.sub [2, 3, 1, 0] rfl ?_
      exact h22_ _ _ h23_
    have K29_ : ¬ (((n25_ < 6) ∧ (¬ at24_ = (-1))) ∧ (¬ at24_ = p_a)) → Z Θ 4 0 0 (zQ Θ ρ) σ10_ 62 [(0, .ref (zA Θ 0)), (1, .int p_a), (2, .int at24_), (3, .int n25_)] [] := by
      intro h33_
      rw [if_neg h33_] at h23_
      cases h23_
      exact K20_
    refine z_iload_n C 3 dX12_ring_34 rfl rfl ?_
    refine z_bipush (v := 6) C dX12_ring_35 bp_6 ?_
    refine c_lt_f C 62 dX12_ring_37 (by decide) (fun h30_ => ?_) (fun h30_ => ?_)
    · refine z_iload_n C 2 dX12_ring_40 rfl rfl ?_
      refine z_iconst (v := (-1)) C dX12_ring_41 ic_m1 ?_
      refine c_ne_f C 62 dX12_ring_42 (by decide) (fun h31_ => ?_) (fun h31_ => ?_)
      · refine z_iload_n C 2 dX12_ring_45 rfl rfl ?_
        refine z_iload_n C 1 dX12_ring_46 rfl rfl ?_
        refine c_ne_f C 62 dX12_ring_47 (by decide) (fun h32_ => ?_) (fun h32_ => ?_)
        · exact K28_ ⟨⟨h30_, h31_⟩, h32_⟩
        · exact K29_ (fun n => h32_ n.2)
      · exact K29_ (fun n => (fun n => h31_ n.2) n.1)
    · exact K29_ (fun n => (fun n => h30_ n.1) n.1)
  suffices K38_ : Z Θ 4 0 0 (zQ Θ ρ) σ10_ 72 [(0, .ref (zA Θ 0)), (1, .int p_a), (2, .int y18_.1), (3, .int y18_.2)] [.int (b2i (decide (y18_.1 = p_a)))] by
    have K39_ : y18_.1 = p_a → Z Θ 4 0 0 (zQ Θ ρ) σ10_ 67 [(0, .ref (zA Θ 0)), (1, .int p_a), (2, .int y18_.1), (3, .int y18_.2)] [] := by
      intro h42_
      rw [decide_eq_true h42_] at K38_
      refine z_iconst (v := 1) C dX12_ring_67 ic_1 ?_
      refine z_goto C 72 dX12_ring_68 (by decide) ?_
      exact K38_
    have K40_ : ¬ (y18_.1 = p_a) → Z Θ 4 0 0 (zQ Θ ρ) σ10_ 71 [(0, .ref (zA Θ 0)), (1, .int p_a), (2, .int y18_.1), (3, .int y18_.2)] [] := by
      intro h42_
      rw [decide_eq_false h42_] at K38_
      refine z_iconst (v := 0) C dX12_ring_71 ic_0 ?_
      exact K38_
    refine z_iload_n C 2 dX12_ring_62 rfl rfl ?_
    refine z_iload_n C 1 dX12_ring_63 rfl rfl ?_
    refine c_eq_f C 71 dX12_ring_64 (by decide) (fun h41_ => ?_) (fun h41_ => ?_)
    · exact K39_ h41_
    · exact K40_ h41_
  cases hf
  subst hρ
  exact z_zret C (b2i_narrow _) dX12_ring_72
theorem c12_ring {l : Launch} {kd : List KD} {w : Wp} {σ : St} {p_a : Int32} (hkd : kd = kdM) (hi : zI kd w) {r : (Bool × St)} (hf : q12_ring σ p_a = some r) : zM l kd w yX12_ring cX12_ring 4 (some .boolean) rm12_ring [.ref (w.2.2.1 0), .int p_a] σ (some (.int (b2i r.1)), r.2) := zM_of rfl hi (Nat.le_of_ble_eq_true rfl) (fun Θ hl hw C => by
  obtain ⟨Θ1, Θ2, Θ3, Θ4, Θ5⟩ := Θ
  cases hw
  exact p12_ring C hkd  hf rfl)
/-! LastLoafModel.speakerHas -/
theorem dX12_speakerHas_0 : decode cX12_speakerHas 0 = .ok (.iload_n 3, 1) := by decide +kernel
theorem dX12_speakerHas_1 : decode cX12_speakerHas 1 = .ok (.iconst 1, 1) := by decide +kernel
theorem dX12_speakerHas_2 : decode cX12_speakerHas 2 = .ok (.if_icmp .ne 5, 3) := by decide +kernel
theorem dX12_speakerHas_5 : decode cX12_speakerHas 5 = .ok (.iconst 0, 1) := by decide +kernel
theorem dX12_speakerHas_6 : decode cX12_speakerHas 6 = .ok (.ireturn, 1) := by decide +kernel
theorem dX12_speakerHas_7 : decode cX12_speakerHas 7 = .ok (.iload 4, 2) := by decide +kernel
theorem dX12_speakerHas_9 : decode cX12_speakerHas 9 = .ok (.ifCond .ne 14, 3) := by decide +kernel
theorem dX12_speakerHas_12 : decode cX12_speakerHas 12 = .ok (.aload_n 0, 1) := by decide +kernel
theorem dX12_speakerHas_13 : decode cX12_speakerHas 13 = .ok (.iload_n 2, 1) := by decide +kernel
theorem dX12_speakerHas_14 : decode cX12_speakerHas 14 = .ok (.iload_n 1, 1) := by decide +kernel
theorem dX12_speakerHas_15 : decode cX12_speakerHas 15 = .ok (.invokevirtual 260, 3) := by decide +kernel
theorem dX12_speakerHas_18 : decode cX12_speakerHas 18 = .ok (.iconst 5, 1) := by decide +kernel
theorem dX12_speakerHas_19 : decode cX12_speakerHas 19 = .ok (.isub, 1) := by decide +kernel
theorem dX12_speakerHas_20 : decode cX12_speakerHas 20 = .ok (.goto 4, 3) := by decide +kernel
theorem dX12_speakerHas_23 : decode cX12_speakerHas 23 = .ok (.iconst 3, 1) := by decide +kernel
theorem dX12_speakerHas_24 : decode cX12_speakerHas 24 = .ok (.ireturn, 1) := by decide +kernel
def q12_speakerHas (σ : St) (p_a : Int32) (o_a : Int32) (a_a : Int32) (b_a : Int32) : Option Int32 :=
  if a_a = 1 then (some 0) else
  Option.bind (if b_a = 0 then (Option.bind (q12_liking σ o_a p_a) fun x11_ =>
  some (x11_ - 5)) else (some (3 : Int32))) fun x5_ =>
  some x5_
abbrev rm12_speakerHas : Room := { frames := 1, cells := 0, slots := 0, locals := 22 }
set_option maxHeartbeats 4000000 in
set_option maxRecDepth 100000 in
theorem p12_speakerHas {Θ : Tz} {σ : St} {ρ : Option Value × St} (C : Zc Θ cX12_speakerHas 5 RX12 (some .int) rm12_speakerHas) (hkd : Θ.2.2.2.2.1 = kdM) {p_a : Int32} {o_a : Int32} {a_a : Int32} {b_a : Int32} {r : Int32} (hf : q12_speakerHas σ p_a o_a a_a b_a = some r) (hρ : ρ = (some (.int r), σ)) : Z Θ 5 0 0 (zQ Θ ρ) σ 0 [(0, .ref (zA Θ 0)), (1, .int p_a), (2, .int o_a), (3, .int a_a), (4, .int b_a)] [] := by
  unfold q12_speakerHas at hf
  have K1_ : a_a = 1 → Z Θ 5 0 0 (zQ Θ ρ) σ 5 [(0, .ref (zA Θ 0)), (1, .int p_a), (2, .int o_a), (3, .int a_a), (4, .int b_a)] [] := by
    intro h4_
    rw [if_pos h4_] at hf
    refine z_iconst (v := 0) C dX12_speakerHas_5 ic_0 ?_
    cases hf
    subst hρ
    exact z_iret C dX12_speakerHas_6
  suffices K2_ : ¬ (a_a = 1) → Z Θ 5 0 0 (zQ Θ ρ) σ 7 [(0, .ref (zA Θ 0)), (1, .int p_a), (2, .int o_a), (3, .int a_a), (4, .int b_a)] [] by
    refine z_iload_n C 3 dX12_speakerHas_0 rfl rfl ?_
    refine z_iconst (v := 1) C dX12_speakerHas_1 ic_1 ?_
    refine c_eq_f C 7 dX12_speakerHas_2 (by decide) (fun h3_ => ?_) (fun h3_ => ?_)
    · exact K1_ h3_
    · exact K2_ h3_
  intro h4_
  rw [if_neg h4_] at hf
  obtain ⟨x5_, h6_, hf⟩ := ob hf
  suffices K7_ : Z Θ 5 0 0 (zQ Θ ρ) σ 24 [(0, .ref (zA Θ 0)), (1, .int p_a), (2, .int o_a), (3, .int a_a), (4, .int b_a)] [.int x5_] by
    have K8_ : b_a = 0 → Z Θ 5 0 0 (zQ Θ ρ) σ 12 [(0, .ref (zA Θ 0)), (1, .int p_a), (2, .int o_a), (3, .int a_a), (4, .int b_a)] [] := by
      intro h13_
      rw [if_pos h13_] at h6_
      refine z_aload_n C 0 dX12_speakerHas_12 rfl rfl ?_
      refine z_iload_n C 2 dX12_speakerHas_13 rfl rfl ?_
      refine z_iload_n C 1 dX12_speakerHas_14 rfl rfl ?_
      obtain ⟨x11_, h12_, h6_⟩ := ob h6_
      refine cr12_260 (p_a := o_a) (o_a := p_a) C hkd  h12_ ⟨(Nat.le_of_ble_eq_true rfl), (Nat.le_of_ble_eq_true rfl)⟩ (Nat.le_of_ble_eq_true rfl) ⟨Nat.zero_le _, Nat.zero_le _⟩ dX12_speakerHas_15 ?_
      refine z_iconst (v := 5) C dX12_speakerHas_18 ic_5 ?_
      refine z_isub C dX12_speakerHas_19 ?_
      refine z_goto C 24 dX12_speakerHas_20 (by decide) ?_
      cases h6_
      exact K7_
    have K9_ : ¬ (b_a = 0) → Z Θ 5 0 0 (zQ Θ ρ) σ 23 [(0, .ref (zA Θ 0)), (1, .int p_a), (2, .int o_a), (3, .int a_a), (4, .int b_a)] [] := by
      intro h13_
      rw [if_neg h13_] at h6_
      refine z_iconst (v := 3) C dX12_speakerHas_23 ic_3 ?_
      cases h6_
      exact K7_
    refine z_iload C 4 dX12_speakerHas_7 rfl ?_
    refine c0_eq_f C 23 dX12_speakerHas_9 (by decide) (fun h10_ => ?_) (fun h10_ => ?_)
    · exact K8_ h10_
    · exact K9_ h10_
  cases hf
  subst hρ
  exact z_iret C dX12_speakerHas_24
theorem c12_speakerHas {l : Launch} {kd : List KD} {w : Wp} {σ : St} {p_a : Int32} {o_a : Int32} {a_a : Int32} {b_a : Int32} (hkd : kd = kdM) (hi : zI kd w) {r : Int32} (hf : q12_speakerHas σ p_a o_a a_a b_a = some r) : zM l kd w yX12_speakerHas cX12_speakerHas 5 (some .int) rm12_speakerHas [.ref (w.2.2.1 0), .int p_a, .int o_a, .int a_a, .int b_a] σ (some (.int r), σ) := zM_of rfl hi (Nat.le_of_ble_eq_true rfl) (fun Θ hl hw C => by
  obtain ⟨Θ1, Θ2, Θ3, Θ4, Θ5⟩ := Θ
  cases hw
  exact p12_speakerHas C hkd  hf rfl)
/-! LastLoafModel.otherHas -/
theorem dX12_otherHas_0 : decode cX12_otherHas 0 = .ok (.iload_n 2, 1) := by decide +kernel
theorem dX12_otherHas_1 : decode cX12_otherHas 1 = .ok (.iconst 1, 1) := by decide +kernel
theorem dX12_otherHas_2 : decode cX12_otherHas 2 = .ok (.if_icmp .ne 14, 3) := by decide +kernel
theorem dX12_otherHas_5 : decode cX12_otherHas 5 = .ok (.iload_n 3, 1) := by decide +kernel
theorem dX12_otherHas_6 : decode cX12_otherHas 6 = .ok (.ifCond .ne 8, 3) := by decide +kernel
theorem dX12_otherHas_9 : decode cX12_otherHas 9 = .ok (.bipush (-2), 2) := by decide +kernel
theorem dX12_otherHas_11 : decode cX12_otherHas 11 = .ok (.goto 4, 3) := by decide +kernel
theorem dX12_otherHas_14 : decode cX12_otherHas 14 = .ok (.iconst 0, 1) := by decide +kernel
theorem dX12_otherHas_15 : decode cX12_otherHas 15 = .ok (.ireturn, 1) := by decide +kernel
theorem dX12_otherHas_16 : decode cX12_otherHas 16 = .ok (.iload_n 3, 1) := by decide +kernel
theorem dX12_otherHas_17 : decode cX12_otherHas 17 = .ok (.ifCond .ne 15, 3) := by decide +kernel
theorem dX12_otherHas_20 : decode cX12_otherHas 20 = .ok (.bipush 9, 2) := by decide +kernel
theorem dX12_otherHas_22 : decode cX12_otherHas 22 = .ok (.aload_n 0, 1) := by decide +kernel
theorem dX12_otherHas_23 : decode cX12_otherHas 23 = .ok (.iload_n 1, 1) := by decide +kernel
theorem dX12_otherHas_24 : decode cX12_otherHas 24 = .ok (.iconst 2, 1) := by decide +kernel
theorem dX12_otherHas_25 : decode cX12_otherHas 25 = .ok (.invokevirtual 72, 3) := by decide +kernel
theorem dX12_otherHas_28 : decode cX12_otherHas 28 = .ok (.isub, 1) := by decide +kernel
theorem dX12_otherHas_29 : decode cX12_otherHas 29 = .ok (.goto 4, 3) := by decide +kernel
theorem dX12_otherHas_32 : decode cX12_otherHas 32 = .ok (.iconst 1, 1) := by decide +kernel
theorem dX12_otherHas_33 : decode cX12_otherHas 33 = .ok (.ireturn, 1) := by decide +kernel
def q12_otherHas (σ : St) (o_a : Int32) (a_a : Int32) (b_a : Int32) : Option Int32 :=
  if a_a = 1 then (some (if b_a = 0 then (-2) else 0)) else
  Option.bind (if b_a = 0 then (Option.bind (q12_of σ o_a 2) fun x16_ =>
  some (9 - x16_)) else (some (1 : Int32))) fun x10_ =>
  some x10_
abbrev rm12_otherHas : Room := { frames := 1, cells := 0, slots := 0, locals := 22 }
set_option maxHeartbeats 4000000 in
set_option maxRecDepth 100000 in
theorem p12_otherHas {Θ : Tz} {σ : St} {ρ : Option Value × St} (C : Zc Θ cX12_otherHas 4 RX12 (some .int) rm12_otherHas) (hkd : Θ.2.2.2.2.1 = kdM) {o_a : Int32} {a_a : Int32} {b_a : Int32} {r : Int32} (hf : q12_otherHas σ o_a a_a b_a = some r) (hρ : ρ = (some (.int r), σ)) : Z Θ 4 0 0 (zQ Θ ρ) σ 0 [(0, .ref (zA Θ 0)), (1, .int o_a), (2, .int a_a), (3, .int b_a)] [] := by
  unfold q12_otherHas at hf
  have K1_ : a_a = 1 → Z Θ 4 0 0 (zQ Θ ρ) σ 5 [(0, .ref (zA Θ 0)), (1, .int o_a), (2, .int a_a), (3, .int b_a)] [] := by
    intro h4_
    rw [if_pos h4_] at hf
    suffices K5_ : Z Θ 4 0 0 (zQ Θ ρ) σ 15 [(0, .ref (zA Θ 0)), (1, .int o_a), (2, .int a_a), (3, .int b_a)] [.int (if b_a = 0 then (-2) else 0)] by
      have K6_ : b_a = 0 → Z Θ 4 0 0 (zQ Θ ρ) σ 9 [(0, .ref (zA Θ 0)), (1, .int o_a), (2, .int a_a), (3, .int b_a)] [] := by
        intro h9_
        rw [if_pos h9_] at K5_
        refine z_bipush (v := (-2)) C dX12_otherHas_9 bp_m2 ?_
        refine z_goto C 15 dX12_otherHas_11 (by decide) ?_
        exact K5_
      have K7_ : ¬ (b_a = 0) → Z Θ 4 0 0 (zQ Θ ρ) σ 14 [(0, .ref (zA Θ 0)), (1, .int o_a), (2, .int a_a), (3, .int b_a)] [] := by
        intro h9_
        rw [if_neg h9_] at K5_
        refine z_iconst (v := 0) C dX12_otherHas_14 ic_0 ?_
        exact K5_
      refine z_iload_n C 3 dX12_otherHas_5 rfl rfl ?_
      refine c0_eq_f C 14 dX12_otherHas_6 (by decide) (fun h8_ => ?_) (fun h8_ => ?_)
      · exact K6_ h8_
      · exact K7_ h8_
    cases hf
    subst hρ
    exact z_iret C dX12_otherHas_15
  suffices K2_ : ¬ (a_a = 1) → Z Θ 4 0 0 (zQ Θ ρ) σ 16 [(0, .ref (zA Θ 0)), (1, .int o_a), (2, .int a_a), (3, .int b_a)] [] by
    refine z_iload_n C 2 dX12_otherHas_0 rfl rfl ?_
    refine z_iconst (v := 1) C dX12_otherHas_1 ic_1 ?_
    refine c_eq_f C 16 dX12_otherHas_2 (by decide) (fun h3_ => ?_) (fun h3_ => ?_)
    · exact K1_ h3_
    · exact K2_ h3_
  intro h4_
  rw [if_neg h4_] at hf
  obtain ⟨x10_, h11_, hf⟩ := ob hf
  suffices K12_ : Z Θ 4 0 0 (zQ Θ ρ) σ 33 [(0, .ref (zA Θ 0)), (1, .int o_a), (2, .int a_a), (3, .int b_a)] [.int x10_] by
    have K13_ : b_a = 0 → Z Θ 4 0 0 (zQ Θ ρ) σ 20 [(0, .ref (zA Θ 0)), (1, .int o_a), (2, .int a_a), (3, .int b_a)] [] := by
      intro h18_
      rw [if_pos h18_] at h11_
      refine z_bipush (v := 9) C dX12_otherHas_20 bp_9 ?_
      refine z_aload_n C 0 dX12_otherHas_22 rfl rfl ?_
      refine z_iload_n C 1 dX12_otherHas_23 rfl rfl ?_
      refine z_iconst (v := 2) C dX12_otherHas_24 ic_2 ?_
      obtain ⟨x16_, h17_, h11_⟩ := ob h11_
      refine cr12_72 (p_a := o_a) (what_a := 2) C hkd  h17_ ⟨(Nat.le_of_ble_eq_true rfl), (Nat.le_of_ble_eq_true rfl)⟩ (Nat.le_of_ble_eq_true rfl) ⟨Nat.zero_le _, Nat.zero_le _⟩ dX12_otherHas_25 ?_
      refine z_isub C dX12_otherHas_28 ?_
      refine z_goto C 33 dX12_otherHas_29 (by decide) ?_
      cases h11_
      exact K12_
    have K14_ : ¬ (b_a = 0) → Z Θ 4 0 0 (zQ Θ ρ) σ 32 [(0, .ref (zA Θ 0)), (1, .int o_a), (2, .int a_a), (3, .int b_a)] [] := by
      intro h18_
      rw [if_neg h18_] at h11_
      refine z_iconst (v := 1) C dX12_otherHas_32 ic_1 ?_
      cases h11_
      exact K12_
    refine z_iload_n C 3 dX12_otherHas_16 rfl rfl ?_
    refine c0_eq_f C 32 dX12_otherHas_17 (by decide) (fun h15_ => ?_) (fun h15_ => ?_)
    · exact K13_ h15_
    · exact K14_ h15_
  cases hf
  subst hρ
  exact z_iret C dX12_otherHas_33
theorem c12_otherHas {l : Launch} {kd : List KD} {w : Wp} {σ : St} {o_a : Int32} {a_a : Int32} {b_a : Int32} (hkd : kd = kdM) (hi : zI kd w) {r : Int32} (hf : q12_otherHas σ o_a a_a b_a = some r) : zM l kd w yX12_otherHas cX12_otherHas 4 (some .int) rm12_otherHas [.ref (w.2.2.1 0), .int o_a, .int a_a, .int b_a] σ (some (.int r), σ) := zM_of rfl hi (Nat.le_of_ble_eq_true rfl) (fun Θ hl hw C => by
  obtain ⟨Θ1, Θ2, Θ3, Θ4, Θ5⟩ := Θ
  cases hw
  exact p12_otherHas C hkd  hf rfl)
/-! LastLoafModel.rests -/
theorem w_10_194 : Cond.code ({ cls := "LastLoafModel", name := "speakerHas", desc := "(IIII)I" } : MethodName) prog_14_method_130_code (5 : Nat) (Option.some ClassFile.FieldType.int) ∈ TB := tb_in (lwt_10 (List.mem_of_getElem? (i := 194) (by decide +kernel))) rfl
theorem w_10_191 : Cond.methodLink "LastLoafModel" (443 : Nat) ({ cls := "LastLoafModel", name := "speakerHas", desc := "(IIII)I" } : MethodName) ∈ TB := tb_in (lwt_10 (List.mem_of_getElem? (i := 191) (by decide +kernel))) rfl
theorem w_10_193 : Cond.instanceMethod ({ cls := "LastLoafModel", name := "speakerHas", desc := "(IIII)I" } : MethodName) ∈ TB := tb_in (lwt_10 (List.mem_of_getElem? (i := 193) (by decide +kernel))) rfl
theorem ws_LastLoafModel_speakerHas_IIII_I : Cond.selects "LastLoafModel" (⟨"LastLoafModel", "speakerHas", "(IIII)I"⟩ : MethodName) (⟨"LastLoafModel", "speakerHas", "(IIII)I"⟩ : MethodName) ∈ TB := tb_in (List.mem_append_left _ (List.mem_of_getElem? (i := 94) (by decide +kernel))) rfl
theorem cr12_443 {Θ : Tz} {cc : ByteArray} {nL kc ks : Nat} {ret : Option FieldType} {rm : Room} {Q : State → Prop} {σ : St} {pc : Nat} {lv : List (Nat × Value)} {st : List Value} (C : Zc Θ cc nL RX12 ret rm) (hkd : Θ.2.2.2.2.1 = kdM) {p_a : Int32} {o_a : Int32} {a_a : Int32} {b_a : Int32} {r : Int32} (hx : q12_speakerHas σ p_a o_a a_a b_a = some r) (hrm : rm12_speakerHas.frames + 1 ≤ rm.frames ∧ 8 + (5 + 11) + rm12_speakerHas.locals ≤ rm.locals) (hcat : (st.map fun v => v.category).sum ≤ 8) (hk : kc ≤ rm.cells ∧ ks ≤ rm.slots) (hd : decode cc pc = .ok (.invokevirtual 443, 3)) (kk : Z Θ nL kc ks Q σ (pc + 3) lv (.int r :: st)) : Z Θ nL kc ks Q σ pc lv (.int b_a :: .int a_a :: .int o_a :: .int p_a :: .ref (zA Θ 0) :: st) := z_callV C 0 [.int p_a, .int o_a, .int a_a, .int b_a] (some (.int r), σ) 4 (kM_0 hkd) rfl (c12_speakerHas (p_a := p_a) (o_a := o_a) (a_a := a_a) (b_a := b_a) hkd (zc_inj C) hx) w_10_194 w_10_191 w_10_193 ws_LastLoafModel_speakerHas_IIII_I w_1_14 ⟨rfl, rfl, hrm.1, hrm.2⟩ (by decide +kernel) rfl rfl hcat hk hd kk
theorem w_10_198 : Cond.code ({ cls := "LastLoafModel", name := "otherHas", desc := "(III)I" } : MethodName) prog_14_method_131_code (4 : Nat) (Option.some ClassFile.FieldType.int) ∈ TB := tb_in (lwt_10 (List.mem_of_getElem? (i := 198) (by decide +kernel))) rfl
theorem w_10_195 : Cond.methodLink "LastLoafModel" (447 : Nat) ({ cls := "LastLoafModel", name := "otherHas", desc := "(III)I" } : MethodName) ∈ TB := tb_in (lwt_10 (List.mem_of_getElem? (i := 195) (by decide +kernel))) rfl
theorem w_10_197 : Cond.instanceMethod ({ cls := "LastLoafModel", name := "otherHas", desc := "(III)I" } : MethodName) ∈ TB := tb_in (lwt_10 (List.mem_of_getElem? (i := 197) (by decide +kernel))) rfl
theorem ws_LastLoafModel_otherHas_III_I : Cond.selects "LastLoafModel" (⟨"LastLoafModel", "otherHas", "(III)I"⟩ : MethodName) (⟨"LastLoafModel", "otherHas", "(III)I"⟩ : MethodName) ∈ TB := tb_in (List.mem_append_left _ (List.mem_of_getElem? (i := 95) (by decide +kernel))) rfl
theorem cr12_447 {Θ : Tz} {cc : ByteArray} {nL kc ks : Nat} {ret : Option FieldType} {rm : Room} {Q : State → Prop} {σ : St} {pc : Nat} {lv : List (Nat × Value)} {st : List Value} (C : Zc Θ cc nL RX12 ret rm) (hkd : Θ.2.2.2.2.1 = kdM) {o_a : Int32} {a_a : Int32} {b_a : Int32} {r : Int32} (hx : q12_otherHas σ o_a a_a b_a = some r) (hrm : rm12_otherHas.frames + 1 ≤ rm.frames ∧ 8 + (4 + 11) + rm12_otherHas.locals ≤ rm.locals) (hcat : (st.map fun v => v.category).sum ≤ 8) (hk : kc ≤ rm.cells ∧ ks ≤ rm.slots) (hd : decode cc pc = .ok (.invokevirtual 447, 3)) (kk : Z Θ nL kc ks Q σ (pc + 3) lv (.int r :: st)) : Z Θ nL kc ks Q σ pc lv (.int b_a :: .int a_a :: .int o_a :: .ref (zA Θ 0) :: st) := z_callV C 0 [.int o_a, .int a_a, .int b_a] (some (.int r), σ) 3 (kM_0 hkd) rfl (c12_otherHas (o_a := o_a) (a_a := a_a) (b_a := b_a) hkd (zc_inj C) hx) w_10_198 w_10_195 w_10_197 ws_LastLoafModel_otherHas_III_I w_1_14 ⟨rfl, rfl, hrm.1, hrm.2⟩ (by decide +kernel) rfl rfl hcat hk hd kk
theorem dX12_rests_0 : decode cX12_rests 0 = .ok (.aload_n 0, 1) := by decide +kernel
theorem dX12_rests_1 : decode cX12_rests 1 = .ok (.iload_n 1, 1) := by decide +kernel
theorem dX12_rests_2 : decode cX12_rests 2 = .ok (.iload_n 2, 1) := by decide +kernel
theorem dX12_rests_3 : decode cX12_rests 3 = .ok (.invokevirtual 362, 3) := by decide +kernel
theorem dX12_rests_6 : decode cX12_rests 6 = .ok (.aload_n 0, 1) := by decide +kernel
theorem dX12_rests_7 : decode cX12_rests 7 = .ok (.getfield 65, 3) := by decide +kernel
theorem dX12_rests_10 : decode cX12_rests 10 = .ok (.ifCond .le 5, 3) := by decide +kernel
theorem dX12_rests_13 : decode cX12_rests 13 = .ok (.iconst 0, 1) := by decide +kernel
theorem dX12_rests_14 : decode cX12_rests 14 = .ok (.ireturn, 1) := by decide +kernel
theorem dX12_rests_15 : decode cX12_rests 15 = .ok (.aload_n 0, 1) := by decide +kernel
theorem dX12_rests_16 : decode cX12_rests 16 = .ok (.aload_n 0, 1) := by decide +kernel
theorem dX12_rests_17 : decode cX12_rests 17 = .ok (.iload_n 1, 1) := by decide +kernel
theorem dX12_rests_18 : decode cX12_rests 18 = .ok (.iconst 3, 1) := by decide +kernel
theorem dX12_rests_19 : decode cX12_rests 19 = .ok (.invokevirtual 72, 3) := by decide +kernel
theorem dX12_rests_22 : decode cX12_rests 22 = .ok (.ifCond .eq 13, 3) := by decide +kernel
theorem dX12_rests_25 : decode cX12_rests 25 = .ok (.aload_n 0, 1) := by decide +kernel
theorem dX12_rests_26 : decode cX12_rests 26 = .ok (.iload_n 1, 1) := by decide +kernel
theorem dX12_rests_27 : decode cX12_rests 27 = .ok (.iconst 4, 1) := by decide +kernel
theorem dX12_rests_28 : decode cX12_rests 28 = .ok (.invokevirtual 72, 3) := by decide +kernel
theorem dX12_rests_31 : decode cX12_rests 31 = .ok (.iconst 1, 1) := by decide +kernel
theorem dX12_rests_32 : decode cX12_rests 32 = .ok (.if_icmp .ne 7, 3) := by decide +kernel
theorem dX12_rests_35 : decode cX12_rests 35 = .ok (.iconst 3, 1) := by decide +kernel
theorem dX12_rests_36 : decode cX12_rests 36 = .ok (.goto 4, 3) := by decide +kernel
theorem dX12_rests_39 : decode cX12_rests 39 = .ok (.iconst 0, 1) := by decide +kernel
theorem dX12_rests_40 : decode cX12_rests 40 = .ok (.putfield 65, 3) := by decide +kernel
theorem dX12_rests_43 : decode cX12_rests 43 = .ok (.aload_n 0, 1) := by decide +kernel
theorem dX12_rests_44 : decode cX12_rests 44 = .ok (.getfield 65, 3) := by decide +kernel
theorem dX12_rests_47 : decode cX12_rests 47 = .ok (.ifCond .le 5, 3) := by decide +kernel
theorem dX12_rests_50 : decode cX12_rests 50 = .ok (.iconst 0, 1) := by decide +kernel
theorem dX12_rests_51 : decode cX12_rests 51 = .ok (.ireturn, 1) := by decide +kernel
theorem dX12_rests_52 : decode cX12_rests 52 = .ok (.iconst 0, 1) := by decide +kernel
theorem dX12_rests_53 : decode cX12_rests 53 = .ok (.istore_n 3, 1) := by decide +kernel
theorem dX12_rests_54 : decode cX12_rests 54 = .ok (.iconst 0, 1) := by decide +kernel
theorem dX12_rests_55 : decode cX12_rests 55 = .ok (.istore 4, 2) := by decide +kernel
theorem dX12_rests_57 : decode cX12_rests 57 = .ok (.iload 4, 2) := by decide +kernel
theorem dX12_rests_59 : decode cX12_rests 59 = .ok (.iconst 4, 1) := by decide +kernel
theorem dX12_rests_60 : decode cX12_rests 60 = .ok (.if_icmp .ge 76, 3) := by decide +kernel
theorem dX12_rests_63 : decode cX12_rests 63 = .ok (.iload 4, 2) := by decide +kernel
theorem dX12_rests_65 : decode cX12_rests 65 = .ok (.iconst 2, 1) := by decide +kernel
theorem dX12_rests_66 : decode cX12_rests 66 = .ok (.idiv, 1) := by decide +kernel
theorem dX12_rests_67 : decode cX12_rests 67 = .ok (.istore 5, 2) := by decide +kernel
theorem dX12_rests_69 : decode cX12_rests 69 = .ok (.iload 4, 2) := by decide +kernel
theorem dX12_rests_71 : decode cX12_rests 71 = .ok (.iconst 2, 1) := by decide +kernel
theorem dX12_rests_72 : decode cX12_rests 72 = .ok (.irem, 1) := by decide +kernel
theorem dX12_rests_73 : decode cX12_rests 73 = .ok (.istore 6, 2) := by decide +kernel
theorem dX12_rests_75 : decode cX12_rests 75 = .ok (.aload_n 0, 1) := by decide +kernel
theorem dX12_rests_76 : decode cX12_rests 76 = .ok (.iload_n 1, 1) := by decide +kernel
theorem dX12_rests_77 : decode cX12_rests 77 = .ok (.iload_n 2, 1) := by decide +kernel
theorem dX12_rests_78 : decode cX12_rests 78 = .ok (.iconst 1, 1) := by decide +kernel
theorem dX12_rests_79 : decode cX12_rests 79 = .ok (.iload 5, 2) := by decide +kernel
theorem dX12_rests_81 : decode cX12_rests 81 = .ok (.isub, 1) := by decide +kernel
theorem dX12_rests_82 : decode cX12_rests 82 = .ok (.iload 6, 2) := by decide +kernel
theorem dX12_rests_84 : decode cX12_rests 84 = .ok (.invokevirtual 443, 3) := by decide +kernel
theorem dX12_rests_87 : decode cX12_rests 87 = .ok (.aload_n 0, 1) := by decide +kernel
theorem dX12_rests_88 : decode cX12_rests 88 = .ok (.iload_n 1, 1) := by decide +kernel
theorem dX12_rests_89 : decode cX12_rests 89 = .ok (.iload_n 2, 1) := by decide +kernel
theorem dX12_rests_90 : decode cX12_rests 90 = .ok (.iload 5, 2) := by decide +kernel
theorem dX12_rests_92 : decode cX12_rests 92 = .ok (.iload 6, 2) := by decide +kernel
theorem dX12_rests_94 : decode cX12_rests 94 = .ok (.invokevirtual 443, 3) := by decide +kernel
theorem dX12_rests_97 : decode cX12_rests 97 = .ok (.if_icmp .gt 33, 3) := by decide +kernel
theorem dX12_rests_100 : decode cX12_rests 100 = .ok (.aload_n 0, 1) := by decide +kernel
theorem dX12_rests_101 : decode cX12_rests 101 = .ok (.iload_n 2, 1) := by decide +kernel
theorem dX12_rests_102 : decode cX12_rests 102 = .ok (.iload 5, 2) := by decide +kernel
theorem dX12_rests_104 : decode cX12_rests 104 = .ok (.iconst 1, 1) := by decide +kernel
theorem dX12_rests_105 : decode cX12_rests 105 = .ok (.iload 6, 2) := by decide +kernel
theorem dX12_rests_107 : decode cX12_rests 107 = .ok (.isub, 1) := by decide +kernel
theorem dX12_rests_108 : decode cX12_rests 108 = .ok (.invokevirtual 447, 3) := by decide +kernel
theorem dX12_rests_111 : decode cX12_rests 111 = .ok (.aload_n 0, 1) := by decide +kernel
theorem dX12_rests_112 : decode cX12_rests 112 = .ok (.iload_n 2, 1) := by decide +kernel
theorem dX12_rests_113 : decode cX12_rests 113 = .ok (.iload 5, 2) := by decide +kernel
theorem dX12_rests_115 : decode cX12_rests 115 = .ok (.iload 6, 2) := by decide +kernel
theorem dX12_rests_117 : decode cX12_rests 117 = .ok (.invokevirtual 447, 3) := by decide +kernel
theorem dX12_rests_120 : decode cX12_rests 120 = .ok (.if_icmp .gt 10, 3) := by decide +kernel
theorem dX12_rests_123 : decode cX12_rests 123 = .ok (.iload_n 3, 1) := by decide +kernel
theorem dX12_rests_124 : decode cX12_rests 124 = .ok (.iconst 1, 1) := by decide +kernel
theorem dX12_rests_125 : decode cX12_rests 125 = .ok (.iload 4, 2) := by decide +kernel
theorem dX12_rests_127 : decode cX12_rests 127 = .ok (.ishl, 1) := by decide +kernel
theorem dX12_rests_128 : decode cX12_rests 128 = .ok (.ior, 1) := by decide +kernel
theorem dX12_rests_129 : decode cX12_rests 129 = .ok (.istore_n 3, 1) := by decide +kernel
theorem dX12_rests_130 : decode cX12_rests 130 = .ok (.iinc 4 1, 3) := by decide +kernel
theorem dX12_rests_133 : decode cX12_rests 133 = .ok (.goto (-76), 3) := by decide +kernel
theorem dX12_rests_136 : decode cX12_rests 136 = .ok (.iload_n 3, 1) := by decide +kernel
theorem dX12_rests_137 : decode cX12_rests 137 = .ok (.ireturn, 1) := by decide +kernel
def q12_rests (σ : St) (p_a : Int32) (o_a : Int32) : Option (Int32 × St) :=
  Option.bind (q12_areTwo σ p_a o_a) fun x1_ =>
  if 0 < (x1_ 0 0) then (some (0, x1_)) else
  Option.bind (Option.bind (Option.bind (q12_of x1_ p_a 3) fun x14_ =>
  if x14_ = 0 then (some true) else (Option.bind (q12_of x1_ p_a 4) fun x17_ =>
  if x17_ = 1 then (some true) else (some false))) fun t12_ =>
  if t12_ = true then (some (3 : Int32)) else (some (0 : Int32))) fun x7_ =>
  lt (up x1_ 0 0 x7_) fun σ21_ =>
  if 0 < (σ21_ 0 0) then (some (0, σ21_)) else
  Option.bind (loop2 (fun rec30_ (set33_ : Int32) (k34_ : Int32) =>
  if k34_ < 4 then
  lt (k34_ / 2) fun a41_ =>
  lt (irm k34_ 2) fun b43_ =>
  Option.bind (Option.bind (Option.bind (q12_speakerHas σ21_ p_a o_a (1 - a41_) b43_) fun x52_ =>
  Option.bind (q12_speakerHas σ21_ p_a o_a a41_ b43_) fun x54_ =>
  if x52_ ≤ x54_ then (Option.bind (q12_otherHas σ21_ o_a a41_ (1 - b43_)) fun x57_ =>
  Option.bind (q12_otherHas σ21_ o_a a41_ b43_) fun x59_ =>
  if x57_ ≤ x59_ then (some true) else (some false)) else (some false)) fun t50_ =>
  if t50_ = true then (lt (set33_ ||| (shl 1 k34_)) fun set63_ =>
  some (set63_)) else (some (set33_))) fun y45_ =>
  lt (k34_ + 1) fun k65_ =>
  rec30_ y45_ k65_
  else (some (set33_, k34_))) fuelN (0 : Int32) (0 : Int32)) fun y27_ =>
  some (y27_.1, σ21_)
abbrev rm12_rests : Room := { frames := 3, cells := 0, slots := 0, locals := 65 }
set_option maxHeartbeats 4000000 in
set_option maxRecDepth 100000 in
theorem p12_rests {Θ : Tz} {σ : St} {ρ : Option Value × St} (C : Zc Θ cX12_rests 7 RX12 (some .int) rm12_rests) (hkd : Θ.2.2.2.2.1 = kdM) {p_a : Int32} {o_a : Int32} {r : (Int32 × St)} (hf : q12_rests σ p_a o_a = some r) (hρ : ρ = (some (.int r.1), r.2)) : Z Θ 7 0 0 (zQ Θ ρ) σ 0 [(0, .ref (zA Θ 0)), (1, .int p_a), (2, .int o_a)] [] := by
  unfold q12_rests at hf
  refine z_aload_n C 0 dX12_rests_0 rfl rfl ?_
  refine z_iload_n C 1 dX12_rests_1 rfl rfl ?_
  refine z_iload_n C 2 dX12_rests_2 rfl rfl ?_
  obtain ⟨x1_, h2_, hf⟩ := ob hf
  refine cr12_362 (p_a := p_a) (o_a := o_a) C hkd  h2_ ⟨(Nat.le_of_ble_eq_true rfl), (Nat.le_of_ble_eq_true rfl)⟩ (Nat.le_of_ble_eq_true rfl) ⟨Nat.zero_le _, Nat.zero_le _⟩ dX12_rests_3 ?_
  have K3_ : 0 < (x1_ 0 0) → Z Θ 7 0 0 (zQ Θ ρ) x1_ 13 [(0, .ref (zA Θ 0)), (1, .int p_a), (2, .int o_a)] [] := by
    intro h6_
    rw [if_pos h6_] at hf
    refine z_iconst (v := 0) C dX12_rests_13 ic_0 ?_
    cases hf
    subst hρ
    exact z_iret C dX12_rests_14
  suffices K4_ : ¬ (0 < (x1_ 0 0)) → Z Θ 7 0 0 (zQ Θ ρ) x1_ 15 [(0, .ref (zA Θ 0)), (1, .int p_a), (2, .int o_a)] [] by
    refine z_aload_n C 0 dX12_rests_6 rfl rfl ?_
    refine fg12_65 C hkd dX12_rests_7 ?_
    refine c0_gt_f C 15 dX12_rests_10 (by decide) (fun h5_ => ?_) (fun h5_ => ?_)
    · exact K3_ h5_
    · exact K4_ h5_
  intro h6_
  rw [if_neg h6_] at hf
  refine z_aload_n C 0 dX12_rests_15 rfl rfl ?_
  obtain ⟨x7_, h8_, hf⟩ := ob hf
  suffices K9_ : Z Θ 7 0 0 (zQ Θ ρ) x1_ 40 [(0, .ref (zA Θ 0)), (1, .int p_a), (2, .int o_a)] [.int x7_, .ref (zA Θ 0)] by
    obtain ⟨t12_, h13_, h8_⟩ := ob h8_
    have K10_ : t12_ = true → Z Θ 7 0 0 (zQ Θ ρ) x1_ 35 [(0, .ref (zA Θ 0)), (1, .int p_a), (2, .int o_a)] [.ref (zA Θ 0)] := by
      intro h20_
      rw [if_pos h20_] at h8_
      refine z_iconst (v := 3) C dX12_rests_35 ic_3 ?_
      refine z_goto C 40 dX12_rests_36 (by decide) ?_
      cases h8_
      exact K9_
    have K11_ : ¬ (t12_ = true) → Z Θ 7 0 0 (zQ Θ ρ) x1_ 39 [(0, .ref (zA Θ 0)), (1, .int p_a), (2, .int o_a)] [.ref (zA Θ 0)] := by
      intro h20_
      rw [if_neg h20_] at h8_
      refine z_iconst (v := 0) C dX12_rests_39 ic_0 ?_
      cases h8_
      exact K9_
    refine z_aload_n C 0 dX12_rests_16 rfl rfl ?_
    refine z_iload_n C 1 dX12_rests_17 rfl rfl ?_
    refine z_iconst (v := 3) C dX12_rests_18 ic_3 ?_
    obtain ⟨x14_, h15_, h13_⟩ := ob h13_
    refine cr12_72 (p_a := p_a) (what_a := 3) C hkd  h15_ ⟨(Nat.le_of_ble_eq_true rfl), (Nat.le_of_ble_eq_true rfl)⟩ (Nat.le_of_ble_eq_true rfl) ⟨Nat.zero_le _, Nat.zero_le _⟩ dX12_rests_19 ?_
    refine c0_eq_t C 35 dX12_rests_22 (by decide) (fun h16_ => ?_) (fun h16_ => ?_)
    · rw [if_pos h16_] at h13_
      cases h13_
      exact K10_ rfl
    · rw [if_neg h16_] at h13_
      refine z_aload_n C 0 dX12_rests_25 rfl rfl ?_
      refine z_iload_n C 1 dX12_rests_26 rfl rfl ?_
      refine z_iconst (v := 4) C dX12_rests_27 ic_4 ?_
      obtain ⟨x17_, h18_, h13_⟩ := ob h13_
      refine cr12_72 (p_a := p_a) (what_a := 4) C hkd  h18_ ⟨(Nat.le_of_ble_eq_true rfl), (Nat.le_of_ble_eq_true rfl)⟩ (Nat.le_of_ble_eq_true rfl) ⟨Nat.zero_le _, Nat.zero_le _⟩ dX12_rests_28 ?_
      refine z_iconst (v := 1) C dX12_rests_31 ic_1 ?_
      refine c_eq_f C 39 dX12_rests_32 (by decide) (fun h19_ => ?_) (fun h19_ => ?_)
      · rw [if_pos h19_] at h13_
        cases h13_
        exact K10_ rfl
      · rw [if_neg h19_] at h13_
        cases h13_
        exact K11_ Bool.false_ne_true
  obtain ⟨σ21_, h22_, hf⟩ := lt_ hf
  refine fp12_65 C hkd h22_ dX12_rests_40 ?_
  have K23_ : 0 < (σ21_ 0 0) → Z Θ 7 0 0 (zQ Θ ρ) σ21_ 50 [(0, .ref (zA Θ 0)), (1, .int p_a), (2, .int o_a)] [] := by
    intro h26_
    rw [if_pos h26_] at hf
    refine z_iconst (v := 0) C dX12_rests_50 ic_0 ?_
    cases hf
    subst hρ
    exact z_iret C dX12_rests_51
  suffices K24_ : ¬ (0 < (σ21_ 0 0)) → Z Θ 7 0 0 (zQ Θ ρ) σ21_ 52 [(0, .ref (zA Θ 0)), (1, .int p_a), (2, .int o_a)] [] by
    refine z_aload_n C 0 dX12_rests_43 rfl rfl ?_
    refine fg12_65 C hkd dX12_rests_44 ?_
    refine c0_gt_f C 52 dX12_rests_47 (by decide) (fun h25_ => ?_) (fun h25_ => ?_)
    · exact K23_ h25_
    · exact K24_ h25_
  intro h26_
  rw [if_neg h26_] at hf
  refine z_iconst (v := 0) C dX12_rests_52 ic_0 ?_
  refine z_istN C dX12_rests_53 rfl rfl (Nat.le_of_ble_eq_true rfl) rfl ?_
  refine z_iconst (v := 0) C dX12_rests_54 ic_0 ?_
  refine z_ist C dX12_rests_55 rfl (Nat.le_of_ble_eq_true rfl) rfl ?_
  refine Z.sub [2, 3, 4, 1, 0] rfl ?_
  obtain ⟨y27_, h28_, hf⟩ := ob hf
  suffices K29_ : Z Θ 7 0 0 (zQ Θ ρ) σ21_ 136 [(0, .ref (zA Θ 0)), (1, .int p_a), (2, .int o_a), (3, .int y27_.1), (4, .int y27_.2)] [] by
    refine loop2_Z (P := fun (set33_ : Int32) (k34_ : Int32) => Z Θ 7 0 0 (zQ Θ ρ) σ21_ 57 [(0, .ref (zA Θ 0)), (1, .int p_a), (2, .int o_a), (3, .int set33_), (4, .int k34_)] []) ?_ fuelN (0 : Int32) (0 : Int32) h28_
    clear h28_
    intro rec30_ set33_ k34_ h31_ h32_
    have K37_ : k34_ < 4 → Z Θ 7 0 0 (zQ Θ ρ) σ21_ 63 [(0, .ref (zA Θ 0)), (1, .int p_a), (2, .int o_a), (3, .int set33_), (4, .int k34_)] [] := by
      intro h40_
      rw [if_pos h40_] at h32_
      refine z_iload C 4 dX12_rests_63 rfl ?_
      refine z_iconst (v := 2) C dX12_rests_65 ic_2 ?_
      refine z_idiv C dX12_rests_66 (by decide) ?_
      obtain ⟨a41_, h42_, h32_⟩ := lt_ h32_
      refine z_ist C dX12_rests_67 h42_ (Nat.le_of_ble_eq_true rfl) rfl ?_
      refine z_iload C 5 dX12_rests_69 rfl ?_
      refine z_iconst (v := 2) C dX12_rests_71 ic_2 ?_
      refine z_irm C (by decide) dX12_rests_72 ?_
      obtain ⟨b43_, h44_, h32_⟩ := lt_ h32_
      refine z_ist C dX12_rests_73 h44_ (Nat.le_of_ble_eq_true rfl) rfl ?_
      obtain ⟨y45_, h46_, h32_⟩ := ob h32_
      suffices K47_ : Z Θ 7 0 0 (zQ Θ ρ) σ21_ 130 [(0, .ref (zA Θ 0)), (1, .int p_a), (2, .int o_a), (3, .int y45_), (4, .int k34_), (5, .int a41_), (6, .int b43_)] [] by
        obtain ⟨t50_, h51_, h46_⟩ := ob h46_
        have K48_ : t50_ = true → Z Θ 7 0 0 (zQ Θ ρ) σ21_ 123 [(6, .int b43_), (5, .int a41_), (0, .ref (zA Θ 0)), (1, .int p_a), (2, .int o_a), (3, .int set33_), (4, .int k34_)] [] := by
          intro h62_
          rw [if_pos h62_] at h46_
          refine z_iload_n C 5 dX12_rests_123 rfl rfl ?_
          refine z_iconst (v := 1) C dX12_rests_124 ic_1 ?_
          refine z_iload C 6 dX12_rests_125 rfl ?_
          refine z_shl C dX12_rests_127 ?_
          refine z_ior C dX12_rests_128 ?_
          obtain ⟨set63_, h64_, h46_⟩ := lt_ h46_
          refine z_istN C dX12_rests_129 h64_ rfl (Nat.le_of_ble_eq_true rfl) rfl ?_
          cases h46_
          refine Z.sub [3, 4, 5, 0, 6, 2, 1] rfl ?_
          exact K47_
        have K49_ : ¬ (t50_ = true) → Z Θ 7 0 0 (zQ Θ ρ) σ21_ 130 [(6, .int b43_), (5, .int a41_), (0, .ref (zA Θ 0)), (1, .int p_a), (2, .int o_a), (3, .int set33_), (4, .int k34_)] [] := by
          intro h62_
          rw [if_neg h62_] at h46_
          cases h46_
          refine Z.sub [2, 3, 4, 5, 6, 1, 0] rfl ?_
          exact K47_
        refine z_aload_n C 2 dX12_rests_75 rfl rfl ?_
        refine z_iload_n C 3 dX12_rests_76 rfl rfl ?_
        refine z_iload_n C 4 dX12_rests_77 rfl rfl ?_
        refine z_iconst (v := 1) C dX12_rests_78 ic_1 ?_
        refine z_iload C 1 dX12_rests_79 rfl ?_
        refine z_isub C dX12_rests_81 ?_
        refine z_iload C 0 dX12_rests_82 rfl ?_
        obtain ⟨x52_, h53_, h51_⟩ := ob h51_
        refine cr12_443 (p_a := p_a) (o_a := o_a) (a_a := (1 - a41_)) (b_a := b43_) C hkd  h53_ ⟨(Nat.le_of_ble_eq_true rfl), (Nat.le_of_ble_eq_true rfl)⟩ (Nat.le_of_ble_eq_true rfl) ⟨Nat.zero_le _, Nat.zero_le _⟩ dX12_rests_84 ?_
        refine z_aload_n C 2 dX12_rests_87 rfl rfl ?_
        refine z_iload_n C 3 dX12_rests_88 rfl rfl ?_
        refine z_iload_n C 4 dX12_rests_89 rfl rfl ?_
        refine z_iload C 1 dX12_rests_90 rfl ?_
        refine z_iload C 0 dX12_rests_92 rfl ?_
        obtain ⟨x54_, h55_, h51_⟩ := ob h51_
        refine cr12_443 (p_a := p_a) (o_a := o_a) (a_a := a41_) (b_a := b43_) C hkd  h55_ ⟨(Nat.le_of_ble_eq_true rfl), (Nat.le_of_ble_eq_true rfl)⟩ (Nat.le_of_ble_eq_true rfl) ⟨Nat.zero_le _, Nat.zero_le _⟩ dX12_rests_94 ?_
        refine c_le_f C 130 dX12_rests_97 (by decide) (fun h56_ => ?_) (fun h56_ => ?_)
        · rw [if_pos h56_] at h51_
          refine z_aload_n C 2 dX12_rests_100 rfl rfl ?_
          refine z_iload_n C 4 dX12_rests_101 rfl rfl ?_
          refine z_iload C 1 dX12_rests_102 rfl ?_
          refine z_iconst (v := 1) C dX12_rests_104 ic_1 ?_
          refine z_iload C 0 dX12_rests_105 rfl ?_
          refine z_isub C dX12_rests_107 ?_
          obtain ⟨x57_, h58_, h51_⟩ := ob h51_
          refine cr12_447 (o_a := o_a) (a_a := a41_) (b_a := (1 - b43_)) C hkd  h58_ ⟨(Nat.le_of_ble_eq_true rfl), (Nat.le_of_ble_eq_true rfl)⟩ (Nat.le_of_ble_eq_true rfl) ⟨Nat.zero_le _, Nat.zero_le _⟩ dX12_rests_108 ?_
          refine z_aload_n C 2 dX12_rests_111 rfl rfl ?_
          refine z_iload_n C 4 dX12_rests_112 rfl rfl ?_
          refine z_iload C 1 dX12_rests_113 rfl ?_
          refine z_iload C 0 dX12_rests_115 rfl ?_
          obtain ⟨x59_, h60_, h51_⟩ := ob h51_
          refine cr12_447 (o_a := o_a) (a_a := a41_) (b_a := b43_) C hkd  h60_ ⟨(Nat.le_of_ble_eq_true rfl), (Nat.le_of_ble_eq_true rfl)⟩ (Nat.le_of_ble_eq_true rfl) ⟨Nat.zero_le _, Nat.zero_le _⟩ dX12_rests_117 ?_
          refine c_le_f C 130 dX12_rests_120 (by decide) (fun h61_ => ?_) (fun h61_ => ?_)
          · rw [if_pos h61_] at h51_
            cases h51_
            exact K48_ rfl
          · rw [if_neg h61_] at h51_
            cases h51_
            exact K49_ Bool.false_ne_true
        · rw [if_neg h56_] at h51_
          cases h51_
          exact K49_ Bool.false_ne_true
      obtain ⟨k65_, h66_, h32_⟩ := lt_ h32_
      refine z_inc C 4 dX12_rests_130 rfl ic_1 h66_ (Nat.le_of_ble_eq_true rfl) rfl ?_
      refine z_goto C 57 dX12_rests_133 (by decide) ?_
      refine Z.sub [1, 2, 3, 4, 0] rfl ?_
      exact h31_ _ _ h32_
    have K38_ : ¬ (k34_ < 4) → Z Θ 7 0 0 (zQ Θ ρ) σ21_ 136 [(0, .ref (zA Θ 0)), (1, .int p_a), (2, .int o_a), (3, .int set33_), (4, .int k34_)] [] := by
      intro h40_
      rw [if_neg h40_] at h32_
      cases h32_
      exact K29_
    refine z_iload C 4 dX12_rests_57 rfl ?_
    refine z_iconst (v := 4) C dX12_rests_59 ic_4 ?_
    refine c_lt_f C 136 dX12_rests_60 (by decide) (fun h39_ => ?_) (fun h39_ => ?_)
    · exact K37_ h39_
    · exact K38_ h39_
  refine z_iload_n C 3 dX12_rests_136 rfl rfl ?_
  cases hf
  subst hρ
  exact z_iret C dX12_rests_137
theorem c12_rests {l : Launch} {kd : List KD} {w : Wp} {σ : St} {p_a : Int32} {o_a : Int32} (hkd : kd = kdM) (hi : zI kd w) {r : (Int32 × St)} (hf : q12_rests σ p_a o_a = some r) : zM l kd w yX12_rests cX12_rests 7 (some .int) rm12_rests [.ref (w.2.2.1 0), .int p_a, .int o_a] σ (some (.int r.1), r.2) := zM_of rfl hi (Nat.le_of_ble_eq_true rfl) (fun Θ hl hw C => by
  obtain ⟨Θ1, Θ2, Θ3, Θ4, Θ5⟩ := Θ
  cases hw
  exact p12_rests C hkd  hf rfl)

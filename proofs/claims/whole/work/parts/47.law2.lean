/-! case 22 -/
theorem dL_law__1578 : decode cL_law_ 1578 = .ok (.aload_n 1, 1) := by decide +kernel
theorem dL_law__1579 : decode cL_law_ 1579 = .ok (.aload_n 0, 1) := by decide +kernel
theorem dL_law__1580 : decode cL_law_ 1580 = .ok (.iload 4, 2) := by decide +kernel
theorem dL_law__1582 : decode cL_law_ 1582 = .ok (.iconst 1, 1) := by decide +kernel
theorem dL_law__1583 : decode cL_law_ 1583 = .ok (.iadd, 1) := by decide +kernel
theorem dL_law__1584 : decode cL_law_ 1584 = .ok (.iaload, 1) := by decide +kernel
theorem dL_law__1585 : decode cL_law_ 1585 = .ok (.aload_n 3, 1) := by decide +kernel
theorem w_6_200 : Cond.codeWith ({ cls := "LastLoafLaw", name := "kindest", desc := "(LLastLoaf;I[J)I" } : MethodName) method_21_code (4 : Nat) (Option.some ClassFile.FieldType.int) [((0 : Nat), (9 : Nat), (12 : Nat), (13 : Nat))] ∈ TB := tb_in (lwt_6 (List.mem_of_getElem? (i := 200) (by decide +kernel))) rfl
theorem w_6_198 : Cond.methodLink "LastLoafLaw" (229 : Nat) ({ cls := "LastLoafLaw", name := "kindest", desc := "(LLastLoaf;I[J)I" } : MethodName) ∈ TB := tb_in (lwt_6 (List.mem_of_getElem? (i := 198) (by decide +kernel))) rfl
theorem w_6_199 : Cond.static ({ cls := "LastLoafLaw", name := "kindest", desc := "(LLastLoaf;I[J)I" } : MethodName) ∈ TB := tb_in (lwt_6 (List.mem_of_getElem? (i := 199) (by decide +kernel))) rfl
theorem dL_law__1586 : decode cL_law_ 1586 = .ok (.invokestatic 229, 3) := by decide +kernel
theorem dL_law__1589 : decode cL_law_ 1589 = .ok (.istore 5, 2) := by decide +kernel
theorem dL_law__1591 : decode cL_law_ 1591 = .ok (.aload_n 2, 1) := by decide +kernel
theorem dL_law__1592 : decode cL_law_ 1592 = .ok (.aload_n 0, 1) := by decide +kernel
theorem dL_law__1593 : decode cL_law_ 1593 = .ok (.iload 4, 2) := by decide +kernel
theorem dL_law__1595 : decode cL_law_ 1595 = .ok (.iconst 1, 1) := by decide +kernel
theorem dL_law__1596 : decode cL_law_ 1596 = .ok (.iadd, 1) := by decide +kernel
theorem dL_law__1597 : decode cL_law_ 1597 = .ok (.iaload, 1) := by decide +kernel
theorem w_10_25 : Cond.selects "LastLoafModel" ({ cls := "LastLoafModel", name := "kindest", desc := "(I)I" } : MethodName) ({ cls := "LastLoafModel", name := "kindest", desc := "(I)I" } : MethodName) ∈ TB := tb_in (lwt_10 (List.mem_of_getElem? (i := 25) (by decide +kernel))) rfl
theorem w_10_26 : Cond.code ({ cls := "LastLoafModel", name := "kindest", desc := "(I)I" } : MethodName) prog_14_method_88_code (6 : Nat) (Option.some ClassFile.FieldType.int) ∈ TB := tb_in (lwt_10 (List.mem_of_getElem? (i := 26) (by decide +kernel))) rfl
theorem w_10_23 : Cond.methodLink "LastLoafLaw" (231 : Nat) ({ cls := "LastLoafModel", name := "kindest", desc := "(I)I" } : MethodName) ∈ TB := tb_in (lwt_10 (List.mem_of_getElem? (i := 23) (by decide +kernel))) rfl
theorem w_10_24 : Cond.instanceMethod ({ cls := "LastLoafModel", name := "kindest", desc := "(I)I" } : MethodName) ∈ TB := tb_in (lwt_10 (List.mem_of_getElem? (i := 24) (by decide +kernel))) rfl
theorem dL_law__1598 : decode cL_law_ 1598 = .ok (.invokevirtual 231, 3) := by decide +kernel
theorem dL_law__1601 : decode cL_law_ 1601 = .ok (.istore 6, 2) := by decide +kernel
theorem dL_law__1603 : decode cL_law_ 1603 = .ok (.aload_n 2, 1) := by decide +kernel
theorem dL_law__1604 : decode cL_law_ 1604 = .ok (.invokevirtual 163, 3) := by decide +kernel
theorem dL_law__1607 : decode cL_law_ 1607 = .ok (.iload 5, 2) := by decide +kernel
theorem dL_law__1609 : decode cL_law_ 1609 = .ok (.if_icmp .eq 5, 3) := by decide +kernel
theorem dL_law__1614 : decode cL_law_ 1614 = .ok (.iload 5, 2) := by decide +kernel
theorem dL_law__1616 : decode cL_law_ 1616 = .ok (.ifCond .ne 15, 3) := by decide +kernel
theorem dL_law__1631 : decode cL_law_ 1631 = .ok (.goto 1620, 3) := by decide +kernel
theorem dL_law__1619 : decode cL_law_ 1619 = .ok (.aload_n 3, 1) := by decide +kernel
theorem dL_law__1620 : decode cL_law_ 1620 = .ok (.iconst 0, 1) := by decide +kernel
theorem dL_law__1621 : decode cL_law_ 1621 = .ok (.laload, 1) := by decide +kernel
theorem dL_law__1622 : decode cL_law_ 1622 = .ok (.iload 6, 2) := by decide +kernel
theorem dL_law__1624 : decode cL_law_ 1624 = .ok (.i2l, 1) := by decide +kernel
theorem dL_law__1625 : decode cL_law_ 1625 = .ok (.lcmp, 1) := by decide +kernel
theorem dL_law__1626 : decode cL_law_ 1626 = .ok (.ifCond .eq 5, 3) := by decide +kernel
def Op_kindest (RR : St → St → Prop) : Prop := ∀ (σ μ : St), RR σ μ → ∀ (a0 : Int32), ∃ (r1 : Sum Nat Int32 × St) (r2 : Int32 × St), q11_kindest σ a0 = some r1 ∧ q12_kindest μ a0 = some r2 ∧ Sx [0] r1 r2 ∧ RR r1.2 r2.2
set_option maxHeartbeats 4000000 in
set_option maxRecDepth 100000 in
theorem law_22 {RR : St → St → Prop} (hop : Op_kindest RR) {Θ : Tz} {cJ : ClassId} {Q : State → Prop} {w : Wp} {aM : Nat → Nat} {ao b L : Nat} {xs : Nat → Int32} (C : Gc Θ cL_law_ 7 RL (some .boolean) room_1 cJ) (hlt : Θ.1.2.1.stackTraces = false) (Lx : Lq Θ w aM ao) (S : Ls Θ b L xs) {σ μ : St} {o : Int64} {i kc ks : Nat} (hi : i + 6 ≤ L) (hk : kc + 4 ≤ 601024 ∧ ks + 24 ≤ 7293034) (hR : RR σ μ) (K : ∀ σ' μ' o', RR σ' μ' → G Θ 7 (kc + 4) (ks + 24) Q (LPx w aM ao cJ σ' μ' o') 3251 (llv w aM ao b i) []) : G Θ 7 kc ks Q (LPx w aM ao cJ σ μ o) 1578 (llv w aM ao b i) [] := by
  obtain ⟨r1, r2, h1, h2, he, hR2⟩ := hop σ μ hR (xs (i + 1))
  refine g_aload_n C 1 dL_law__1578 rfl rfl ?_
  refine l_arg C S 0 4 1 rfl rfl (by omega) rfl dL_law__1579 dL_law__1580 dL_law__1582 dL_law__1583 dL_law__1584 ?_
  refine g_aload_n C 3 dL_law__1585 rfl rfl ?_
  refine l_callW C Lx [.ref (w.2.2.1 0), .int (xs (i + 1)), .ref ao] 3 (wr_kindest (l := Θ.1.2.1) Lx.2.1 hlt Lx.2.2.2.2.2.2.2.1 h1 (Sx_in he)) w_6_200 w_6_198 w_6_199 w_1_0 ⟨rfl, rfl, (Nat.le_of_ble_eq_true rfl), (Nat.le_of_ble_eq_true rfl)⟩ (by decide +kernel) rfl rfl (Nat.le_of_ble_eq_true rfl) hk dL_law__1586 ?_
  refine g_istore C dL_law__1589 (Nat.le_of_ble_eq_true rfl) rfl ?_
  refine g_aload_n C 3 dL_law__1591 rfl rfl ?_
  refine l_arg C S 1 5 1 rfl rfl (by omega) rfl dL_law__1592 dL_law__1593 dL_law__1595 dL_law__1596 dL_law__1597 ?_
  refine l_callMi C Lx [.int (xs (i + 1))] r2.1 r2.2 1 rfl (c12_kindest (l := Θ.1.2.1) (w := wm w aM) (n_a := (xs (i + 1))) rfl Lx.2.2.1 h2) w_10_26 w_10_23 w_10_24 w_10_25 w_1_14 ⟨rfl, rfl, (Nat.le_of_ble_eq_true rfl), (Nat.le_of_ble_eq_true rfl)⟩ (by decide +kernel) rfl rfl (Nat.le_of_ble_eq_true rfl) hk dL_law__1598 ?_
  refine g_istore C dL_law__1601 (Nat.le_of_ble_eq_true rfl) rfl ?_
  refine g_aload_n C 4 dL_law__1603 rfl rfl ?_
  refine l_callMi C Lx [] (q12_thrown r2.2) r2.2 0 rfl (c12_thrown (l := Θ.1.2.1) (w := wm w aM) rfl Lx.2.2.1) w_8_130 w_8_127 w_8_128 w_8_129 w_1_14 ⟨rfl, rfl, (Nat.le_of_ble_eq_true rfl), (Nat.le_of_ble_eq_true rfl)⟩ (by decide +kernel) rfl rfl (Nat.le_of_ble_eq_true rfl) hk dL_law__1604 ?_
  refine g_iload C 1 dL_law__1607 rfl ?_
  refine g_icmp_eq C 1614 dL_law__1609 (by decide) (fun _ => ?_) (fun h => absurd (Sx_k he) h)
  refine g_iload C 1 dL_law__1614 rfl ?_
  refine g_if_ne C 1631 dL_law__1616 (by decide) (fun _ => ?_) (fun h0 => ?_)
  · refine g_goto C 3251 dL_law__1631 (by decide) ?_
    refine G.sub [2, 3, 4, 5, 6] rfl ?_
    exact K _ _ _ hR2
  · refine g_aload_n C 5 dL_law__1619 rfl rfl ?_
    refine g_iconst (v := 0) C dL_law__1620 rfl ?_
    refine l_lald C (by rw [Lx.1]) dL_law__1621 ?_
    refine g_iload C 0 dL_law__1622 rfl ?_
    refine g_i2l C dL_law__1624 ?_
    refine g_lcmp C dL_law__1625 ?_
    rw [Sx_o (f := (fun v => v)) (o := o) (by decide) he h0, lg_cmp_self]
    refine g_if_eq C 1631 dL_law__1626 (by decide) (fun _ => ?_) (fun h => absurd rfl h)
    refine g_goto C 3251 dL_law__1631 (by decide) ?_
    refine G.sub [2, 3, 4, 5, 6] rfl ?_
    exact K _ _ _ hR2
/-! case 23 -/
theorem dL_law__1634 : decode cL_law_ 1634 = .ok (.aload_n 1, 1) := by decide +kernel
theorem dL_law__1635 : decode cL_law_ 1635 = .ok (.aload_n 0, 1) := by decide +kernel
theorem dL_law__1636 : decode cL_law_ 1636 = .ok (.iload 4, 2) := by decide +kernel
theorem dL_law__1638 : decode cL_law_ 1638 = .ok (.iconst 1, 1) := by decide +kernel
theorem dL_law__1639 : decode cL_law_ 1639 = .ok (.iadd, 1) := by decide +kernel
theorem dL_law__1640 : decode cL_law_ 1640 = .ok (.iaload, 1) := by decide +kernel
theorem dL_law__1641 : decode cL_law_ 1641 = .ok (.aload_n 3, 1) := by decide +kernel
theorem w_6_207 : Cond.codeWith ({ cls := "LastLoafLaw", name := "next", desc := "(LLastLoaf;I[J)I" } : MethodName) method_22_code (4 : Nat) (Option.some ClassFile.FieldType.int) [((0 : Nat), (9 : Nat), (12 : Nat), (13 : Nat))] ∈ TB := tb_in (lwt_6 (List.mem_of_getElem? (i := 207) (by decide +kernel))) rfl
theorem w_6_205 : Cond.methodLink "LastLoafLaw" (232 : Nat) ({ cls := "LastLoafLaw", name := "next", desc := "(LLastLoaf;I[J)I" } : MethodName) ∈ TB := tb_in (lwt_6 (List.mem_of_getElem? (i := 205) (by decide +kernel))) rfl
theorem w_6_206 : Cond.static ({ cls := "LastLoafLaw", name := "next", desc := "(LLastLoaf;I[J)I" } : MethodName) ∈ TB := tb_in (lwt_6 (List.mem_of_getElem? (i := 206) (by decide +kernel))) rfl
theorem dL_law__1642 : decode cL_law_ 1642 = .ok (.invokestatic 232, 3) := by decide +kernel
theorem dL_law__1645 : decode cL_law_ 1645 = .ok (.istore 5, 2) := by decide +kernel
theorem dL_law__1647 : decode cL_law_ 1647 = .ok (.aload_n 2, 1) := by decide +kernel
theorem dL_law__1648 : decode cL_law_ 1648 = .ok (.aload_n 0, 1) := by decide +kernel
theorem dL_law__1649 : decode cL_law_ 1649 = .ok (.iload 4, 2) := by decide +kernel
theorem dL_law__1651 : decode cL_law_ 1651 = .ok (.iconst 1, 1) := by decide +kernel
theorem dL_law__1652 : decode cL_law_ 1652 = .ok (.iadd, 1) := by decide +kernel
theorem dL_law__1653 : decode cL_law_ 1653 = .ok (.iaload, 1) := by decide +kernel
theorem w_10_30 : Cond.selects "LastLoafModel" ({ cls := "LastLoafModel", name := "next", desc := "(I)I" } : MethodName) ({ cls := "LastLoafModel", name := "next", desc := "(I)I" } : MethodName) ∈ TB := tb_in (lwt_10 (List.mem_of_getElem? (i := 30) (by decide +kernel))) rfl
theorem w_10_31 : Cond.code ({ cls := "LastLoafModel", name := "next", desc := "(I)I" } : MethodName) prog_14_method_89_code (4 : Nat) (Option.some ClassFile.FieldType.int) ∈ TB := tb_in (lwt_10 (List.mem_of_getElem? (i := 31) (by decide +kernel))) rfl
theorem w_10_28 : Cond.methodLink "LastLoafLaw" (234 : Nat) ({ cls := "LastLoafModel", name := "next", desc := "(I)I" } : MethodName) ∈ TB := tb_in (lwt_10 (List.mem_of_getElem? (i := 28) (by decide +kernel))) rfl
theorem w_10_29 : Cond.instanceMethod ({ cls := "LastLoafModel", name := "next", desc := "(I)I" } : MethodName) ∈ TB := tb_in (lwt_10 (List.mem_of_getElem? (i := 29) (by decide +kernel))) rfl
theorem dL_law__1654 : decode cL_law_ 1654 = .ok (.invokevirtual 234, 3) := by decide +kernel
theorem dL_law__1657 : decode cL_law_ 1657 = .ok (.istore 6, 2) := by decide +kernel
theorem dL_law__1659 : decode cL_law_ 1659 = .ok (.aload_n 2, 1) := by decide +kernel
theorem dL_law__1660 : decode cL_law_ 1660 = .ok (.invokevirtual 163, 3) := by decide +kernel
theorem dL_law__1663 : decode cL_law_ 1663 = .ok (.iload 5, 2) := by decide +kernel
theorem dL_law__1665 : decode cL_law_ 1665 = .ok (.if_icmp .eq 5, 3) := by decide +kernel
theorem dL_law__1670 : decode cL_law_ 1670 = .ok (.iload 5, 2) := by decide +kernel
theorem dL_law__1672 : decode cL_law_ 1672 = .ok (.ifCond .ne 15, 3) := by decide +kernel
theorem dL_law__1687 : decode cL_law_ 1687 = .ok (.goto 1564, 3) := by decide +kernel
theorem dL_law__1675 : decode cL_law_ 1675 = .ok (.aload_n 3, 1) := by decide +kernel
theorem dL_law__1676 : decode cL_law_ 1676 = .ok (.iconst 0, 1) := by decide +kernel
theorem dL_law__1677 : decode cL_law_ 1677 = .ok (.laload, 1) := by decide +kernel
theorem dL_law__1678 : decode cL_law_ 1678 = .ok (.iload 6, 2) := by decide +kernel
theorem dL_law__1680 : decode cL_law_ 1680 = .ok (.i2l, 1) := by decide +kernel
theorem dL_law__1681 : decode cL_law_ 1681 = .ok (.lcmp, 1) := by decide +kernel
theorem dL_law__1682 : decode cL_law_ 1682 = .ok (.ifCond .eq 5, 3) := by decide +kernel
def Op_next (RR : St → St → Prop) : Prop := ∀ (σ μ : St), RR σ μ → ∀ (a0 : Int32), ∃ (r1 : Sum Nat Int32 × St) (r2 : Int32 × St), q11_next σ a0 = some r1 ∧ q12_next μ a0 = some r2 ∧ Sx [0] r1 r2 ∧ RR r1.2 r2.2
set_option maxHeartbeats 4000000 in
set_option maxRecDepth 100000 in
theorem law_23 {RR : St → St → Prop} (hop : Op_next RR) {Θ : Tz} {cJ : ClassId} {Q : State → Prop} {w : Wp} {aM : Nat → Nat} {ao b L : Nat} {xs : Nat → Int32} (C : Gc Θ cL_law_ 7 RL (some .boolean) room_1 cJ) (hlt : Θ.1.2.1.stackTraces = false) (Lx : Lq Θ w aM ao) (S : Ls Θ b L xs) {σ μ : St} {o : Int64} {i kc ks : Nat} (hi : i + 6 ≤ L) (hk : kc + 4 ≤ 601024 ∧ ks + 24 ≤ 7293034) (hR : RR σ μ) (K : ∀ σ' μ' o', RR σ' μ' → G Θ 7 (kc + 4) (ks + 24) Q (LPx w aM ao cJ σ' μ' o') 3251 (llv w aM ao b i) []) : G Θ 7 kc ks Q (LPx w aM ao cJ σ μ o) 1634 (llv w aM ao b i) [] := by
  obtain ⟨r1, r2, h1, h2, he, hR2⟩ := hop σ μ hR (xs (i + 1))
  refine g_aload_n C 1 dL_law__1634 rfl rfl ?_
  refine l_arg C S 0 4 1 rfl rfl (by omega) rfl dL_law__1635 dL_law__1636 dL_law__1638 dL_law__1639 dL_law__1640 ?_
  refine g_aload_n C 3 dL_law__1641 rfl rfl ?_
  refine l_callW C Lx [.ref (w.2.2.1 0), .int (xs (i + 1)), .ref ao] 3 (wr_next (l := Θ.1.2.1) Lx.2.1 hlt Lx.2.2.2.2.2.2.2.1 h1 (Sx_in he)) w_6_207 w_6_205 w_6_206 w_1_0 ⟨rfl, rfl, (Nat.le_of_ble_eq_true rfl), (Nat.le_of_ble_eq_true rfl)⟩ (by decide +kernel) rfl rfl (Nat.le_of_ble_eq_true rfl) hk dL_law__1642 ?_
  refine g_istore C dL_law__1645 (Nat.le_of_ble_eq_true rfl) rfl ?_
  refine g_aload_n C 3 dL_law__1647 rfl rfl ?_
  refine l_arg C S 1 5 1 rfl rfl (by omega) rfl dL_law__1648 dL_law__1649 dL_law__1651 dL_law__1652 dL_law__1653 ?_
  refine l_callMi C Lx [.int (xs (i + 1))] r2.1 r2.2 1 rfl (c12_next (l := Θ.1.2.1) (w := wm w aM) (n_a := (xs (i + 1))) rfl Lx.2.2.1 h2) w_10_31 w_10_28 w_10_29 w_10_30 w_1_14 ⟨rfl, rfl, (Nat.le_of_ble_eq_true rfl), (Nat.le_of_ble_eq_true rfl)⟩ (by decide +kernel) rfl rfl (Nat.le_of_ble_eq_true rfl) hk dL_law__1654 ?_
  refine g_istore C dL_law__1657 (Nat.le_of_ble_eq_true rfl) rfl ?_
  refine g_aload_n C 4 dL_law__1659 rfl rfl ?_
  refine l_callMi C Lx [] (q12_thrown r2.2) r2.2 0 rfl (c12_thrown (l := Θ.1.2.1) (w := wm w aM) rfl Lx.2.2.1) w_8_130 w_8_127 w_8_128 w_8_129 w_1_14 ⟨rfl, rfl, (Nat.le_of_ble_eq_true rfl), (Nat.le_of_ble_eq_true rfl)⟩ (by decide +kernel) rfl rfl (Nat.le_of_ble_eq_true rfl) hk dL_law__1660 ?_
  refine g_iload C 1 dL_law__1663 rfl ?_
  refine g_icmp_eq C 1670 dL_law__1665 (by decide) (fun _ => ?_) (fun h => absurd (Sx_k he) h)
  refine g_iload C 1 dL_law__1670 rfl ?_
  refine g_if_ne C 1687 dL_law__1672 (by decide) (fun _ => ?_) (fun h0 => ?_)
  · refine g_goto C 3251 dL_law__1687 (by decide) ?_
    refine G.sub [2, 3, 4, 5, 6] rfl ?_
    exact K _ _ _ hR2
  · refine g_aload_n C 5 dL_law__1675 rfl rfl ?_
    refine g_iconst (v := 0) C dL_law__1676 rfl ?_
    refine l_lald C (by rw [Lx.1]) dL_law__1677 ?_
    refine g_iload C 0 dL_law__1678 rfl ?_
    refine g_i2l C dL_law__1680 ?_
    refine g_lcmp C dL_law__1681 ?_
    rw [Sx_o (f := (fun v => v)) (o := o) (by decide) he h0, lg_cmp_self]
    refine g_if_eq C 1687 dL_law__1682 (by decide) (fun _ => ?_) (fun h => absurd rfl h)
    refine g_goto C 3251 dL_law__1687 (by decide) ?_
    refine G.sub [2, 3, 4, 5, 6] rfl ?_
    exact K _ _ _ hR2
/-! case 24 -/
theorem dL_law__1690 : decode cL_law_ 1690 = .ok (.aload_n 1, 1) := by decide +kernel
theorem dL_law__1691 : decode cL_law_ 1691 = .ok (.aload_n 0, 1) := by decide +kernel
theorem dL_law__1692 : decode cL_law_ 1692 = .ok (.iload 4, 2) := by decide +kernel
theorem dL_law__1694 : decode cL_law_ 1694 = .ok (.iconst 1, 1) := by decide +kernel
theorem dL_law__1695 : decode cL_law_ 1695 = .ok (.iadd, 1) := by decide +kernel
theorem dL_law__1696 : decode cL_law_ 1696 = .ok (.iaload, 1) := by decide +kernel
theorem dL_law__1697 : decode cL_law_ 1697 = .ok (.aload_n 3, 1) := by decide +kernel
theorem w_6_218 : Cond.codeWith ({ cls := "LastLoafLaw", name := "woo", desc := "(LLastLoaf;I[J)I" } : MethodName) method_23_code (4 : Nat) (Option.some ClassFile.FieldType.int) [((0 : Nat), (9 : Nat), (12 : Nat), (24 : Nat))] ∈ TB := tb_in (lwt_6 (List.mem_of_getElem? (i := 218) (by decide +kernel))) rfl
theorem w_6_216 : Cond.methodLink "LastLoafLaw" (235 : Nat) ({ cls := "LastLoafLaw", name := "woo", desc := "(LLastLoaf;I[J)I" } : MethodName) ∈ TB := tb_in (lwt_6 (List.mem_of_getElem? (i := 216) (by decide +kernel))) rfl
theorem w_6_217 : Cond.static ({ cls := "LastLoafLaw", name := "woo", desc := "(LLastLoaf;I[J)I" } : MethodName) ∈ TB := tb_in (lwt_6 (List.mem_of_getElem? (i := 217) (by decide +kernel))) rfl
theorem dL_law__1698 : decode cL_law_ 1698 = .ok (.invokestatic 235, 3) := by decide +kernel
theorem dL_law__1701 : decode cL_law_ 1701 = .ok (.istore 5, 2) := by decide +kernel
theorem dL_law__1703 : decode cL_law_ 1703 = .ok (.aload_n 2, 1) := by decide +kernel
theorem dL_law__1704 : decode cL_law_ 1704 = .ok (.aload_n 0, 1) := by decide +kernel
theorem dL_law__1705 : decode cL_law_ 1705 = .ok (.iload 4, 2) := by decide +kernel
theorem dL_law__1707 : decode cL_law_ 1707 = .ok (.iconst 1, 1) := by decide +kernel
theorem dL_law__1708 : decode cL_law_ 1708 = .ok (.iadd, 1) := by decide +kernel
theorem dL_law__1709 : decode cL_law_ 1709 = .ok (.iaload, 1) := by decide +kernel
theorem w_10_34 : Cond.selects "LastLoafModel" ({ cls := "LastLoafModel", name := "woo", desc := "(I)I" } : MethodName) ({ cls := "LastLoafModel", name := "woo", desc := "(I)I" } : MethodName) ∈ TB := tb_in (lwt_10 (List.mem_of_getElem? (i := 34) (by decide +kernel))) rfl
theorem w_10_35 : Cond.code ({ cls := "LastLoafModel", name := "woo", desc := "(I)I" } : MethodName) prog_14_method_92_code (2 : Nat) (Option.some ClassFile.FieldType.int) ∈ TB := tb_in (lwt_10 (List.mem_of_getElem? (i := 35) (by decide +kernel))) rfl
theorem w_10_32 : Cond.methodLink "LastLoafLaw" (237 : Nat) ({ cls := "LastLoafModel", name := "woo", desc := "(I)I" } : MethodName) ∈ TB := tb_in (lwt_10 (List.mem_of_getElem? (i := 32) (by decide +kernel))) rfl
theorem w_10_33 : Cond.instanceMethod ({ cls := "LastLoafModel", name := "woo", desc := "(I)I" } : MethodName) ∈ TB := tb_in (lwt_10 (List.mem_of_getElem? (i := 33) (by decide +kernel))) rfl
theorem dL_law__1710 : decode cL_law_ 1710 = .ok (.invokevirtual 237, 3) := by decide +kernel
theorem dL_law__1713 : decode cL_law_ 1713 = .ok (.istore 6, 2) := by decide +kernel
theorem dL_law__1715 : decode cL_law_ 1715 = .ok (.aload_n 2, 1) := by decide +kernel
theorem dL_law__1716 : decode cL_law_ 1716 = .ok (.invokevirtual 163, 3) := by decide +kernel
theorem dL_law__1719 : decode cL_law_ 1719 = .ok (.iload 5, 2) := by decide +kernel
theorem dL_law__1721 : decode cL_law_ 1721 = .ok (.if_icmp .eq 5, 3) := by decide +kernel
theorem dL_law__1726 : decode cL_law_ 1726 = .ok (.iload 5, 2) := by decide +kernel
theorem dL_law__1728 : decode cL_law_ 1728 = .ok (.ifCond .ne 15, 3) := by decide +kernel
theorem dL_law__1743 : decode cL_law_ 1743 = .ok (.goto 1508, 3) := by decide +kernel
theorem dL_law__1731 : decode cL_law_ 1731 = .ok (.aload_n 3, 1) := by decide +kernel
theorem dL_law__1732 : decode cL_law_ 1732 = .ok (.iconst 0, 1) := by decide +kernel
theorem dL_law__1733 : decode cL_law_ 1733 = .ok (.laload, 1) := by decide +kernel
theorem dL_law__1734 : decode cL_law_ 1734 = .ok (.iload 6, 2) := by decide +kernel
theorem dL_law__1736 : decode cL_law_ 1736 = .ok (.i2l, 1) := by decide +kernel
theorem dL_law__1737 : decode cL_law_ 1737 = .ok (.lcmp, 1) := by decide +kernel
theorem dL_law__1738 : decode cL_law_ 1738 = .ok (.ifCond .eq 5, 3) := by decide +kernel
def Op_woo (RR : St → St → Prop) : Prop := ∀ (σ μ : St), RR σ μ → ∀ (a0 : Int32), ∃ (r1 : Sum Nat Int32 × St) (r2 : Int32 × St), q11_woo σ a0 = some r1 ∧ q12_woo μ a0 = some r2 ∧ Sx [2] r1 r2 ∧ RR r1.2 r2.2
set_option maxHeartbeats 4000000 in
set_option maxRecDepth 100000 in
theorem law_24 {RR : St → St → Prop} (hop : Op_woo RR) {Θ : Tz} {cJ : ClassId} {Q : State → Prop} {w : Wp} {aM : Nat → Nat} {ao b L : Nat} {xs : Nat → Int32} (C : Gc Θ cL_law_ 7 RL (some .boolean) room_1 cJ) (hlt : Θ.1.2.1.stackTraces = false) (Lx : Lq Θ w aM ao) (S : Ls Θ b L xs) {σ μ : St} {o : Int64} {i kc ks : Nat} (hi : i + 6 ≤ L) (hk : kc + 4 ≤ 601024 ∧ ks + 24 ≤ 7293034) (hR : RR σ μ) (K : ∀ σ' μ' o', RR σ' μ' → G Θ 7 (kc + 4) (ks + 24) Q (LPx w aM ao cJ σ' μ' o') 3251 (llv w aM ao b i) []) : G Θ 7 kc ks Q (LPx w aM ao cJ σ μ o) 1690 (llv w aM ao b i) [] := by
  obtain ⟨r1, r2, h1, h2, he, hR2⟩ := hop σ μ hR (xs (i + 1))
  refine g_aload_n C 1 dL_law__1690 rfl rfl ?_
  refine l_arg C S 0 4 1 rfl rfl (by omega) rfl dL_law__1691 dL_law__1692 dL_law__1694 dL_law__1695 dL_law__1696 ?_
  refine g_aload_n C 3 dL_law__1697 rfl rfl ?_
  refine l_callW C Lx [.ref (w.2.2.1 0), .int (xs (i + 1)), .ref ao] 3 (wr_woo (l := Θ.1.2.1) Lx.2.1 hlt Lx.2.2.2.2.2.2.2.1 h1 (Sx_in he)) w_6_218 w_6_216 w_6_217 w_1_0 ⟨rfl, rfl, (Nat.le_of_ble_eq_true rfl), (Nat.le_of_ble_eq_true rfl)⟩ (by decide +kernel) rfl rfl (Nat.le_of_ble_eq_true rfl) hk dL_law__1698 ?_
  refine g_istore C dL_law__1701 (Nat.le_of_ble_eq_true rfl) rfl ?_
  refine g_aload_n C 3 dL_law__1703 rfl rfl ?_
  refine l_arg C S 1 5 1 rfl rfl (by omega) rfl dL_law__1704 dL_law__1705 dL_law__1707 dL_law__1708 dL_law__1709 ?_
  refine l_callMi C Lx [.int (xs (i + 1))] r2.1 r2.2 1 rfl (c12_woo (l := Θ.1.2.1) (w := wm w aM) (p_a := (xs (i + 1))) rfl Lx.2.2.1 h2) w_10_35 w_10_32 w_10_33 w_10_34 w_1_14 ⟨rfl, rfl, (Nat.le_of_ble_eq_true rfl), (Nat.le_of_ble_eq_true rfl)⟩ (by decide +kernel) rfl rfl (Nat.le_of_ble_eq_true rfl) hk dL_law__1710 ?_
  refine g_istore C dL_law__1713 (Nat.le_of_ble_eq_true rfl) rfl ?_
  refine g_aload_n C 4 dL_law__1715 rfl rfl ?_
  refine l_callMi C Lx [] (q12_thrown r2.2) r2.2 0 rfl (c12_thrown (l := Θ.1.2.1) (w := wm w aM) rfl Lx.2.2.1) w_8_130 w_8_127 w_8_128 w_8_129 w_1_14 ⟨rfl, rfl, (Nat.le_of_ble_eq_true rfl), (Nat.le_of_ble_eq_true rfl)⟩ (by decide +kernel) rfl rfl (Nat.le_of_ble_eq_true rfl) hk dL_law__1716 ?_
  refine g_iload C 1 dL_law__1719 rfl ?_
  refine g_icmp_eq C 1726 dL_law__1721 (by decide) (fun _ => ?_) (fun h => absurd (Sx_k he) h)
  refine g_iload C 1 dL_law__1726 rfl ?_
  refine g_if_ne C 1743 dL_law__1728 (by decide) (fun _ => ?_) (fun h0 => ?_)
  · refine g_goto C 3251 dL_law__1743 (by decide) ?_
    refine G.sub [2, 3, 4, 5, 6] rfl ?_
    exact K _ _ _ hR2
  · refine g_aload_n C 5 dL_law__1731 rfl rfl ?_
    refine g_iconst (v := 0) C dL_law__1732 rfl ?_
    refine l_lald C (by rw [Lx.1]) dL_law__1733 ?_
    refine g_iload C 0 dL_law__1734 rfl ?_
    refine g_i2l C dL_law__1736 ?_
    refine g_lcmp C dL_law__1737 ?_
    rw [Sx_o (f := (fun v => v)) (o := o) (by decide) he h0, lg_cmp_self]
    refine g_if_eq C 1743 dL_law__1738 (by decide) (fun _ => ?_) (fun h => absurd rfl h)
    refine g_goto C 3251 dL_law__1743 (by decide) ?_
    refine G.sub [2, 3, 4, 5, 6] rfl ?_
    exact K _ _ _ hR2
/-! case 25 -/
theorem dL_law__1746 : decode cL_law_ 1746 = .ok (.aload_n 1, 1) := by decide +kernel
theorem w_3_83 : Cond.selects "LastLoaf" ({ cls := "LastLoaf", name := "orders", desc := "()I" } : MethodName) ({ cls := "LastLoaf", name := "orders", desc := "()I" } : MethodName) ∈ TB := tb_in (lwt_3 (List.mem_of_getElem? (i := 83) (by decide +kernel))) rfl
theorem w_3_84 : Cond.code ({ cls := "LastLoaf", name := "orders", desc := "()I" } : MethodName) prog_1_method_27_code (1 : Nat) (Option.some ClassFile.FieldType.int) ∈ TB := tb_in (lwt_3 (List.mem_of_getElem? (i := 84) (by decide +kernel))) rfl
theorem w_3_81 : Cond.methodLink "LastLoafLaw" (238 : Nat) ({ cls := "LastLoaf", name := "orders", desc := "()I" } : MethodName) ∈ TB := tb_in (lwt_3 (List.mem_of_getElem? (i := 81) (by decide +kernel))) rfl
theorem w_3_82 : Cond.instanceMethod ({ cls := "LastLoaf", name := "orders", desc := "()I" } : MethodName) ∈ TB := tb_in (lwt_3 (List.mem_of_getElem? (i := 82) (by decide +kernel))) rfl
theorem dL_law__1747 : decode cL_law_ 1747 = .ok (.invokevirtual 238, 3) := by decide +kernel
theorem dL_law__1750 : decode cL_law_ 1750 = .ok (.aload_n 2, 1) := by decide +kernel
theorem w_10_38 : Cond.selects "LastLoafModel" ({ cls := "LastLoafModel", name := "orders", desc := "()I" } : MethodName) ({ cls := "LastLoafModel", name := "orders", desc := "()I" } : MethodName) ∈ TB := tb_in (lwt_10 (List.mem_of_getElem? (i := 38) (by decide +kernel))) rfl
theorem w_10_39 : Cond.code ({ cls := "LastLoafModel", name := "orders", desc := "()I" } : MethodName) prog_14_method_96_code (3 : Nat) (Option.some ClassFile.FieldType.int) ∈ TB := tb_in (lwt_10 (List.mem_of_getElem? (i := 39) (by decide +kernel))) rfl
theorem w_10_36 : Cond.methodLink "LastLoafLaw" (241 : Nat) ({ cls := "LastLoafModel", name := "orders", desc := "()I" } : MethodName) ∈ TB := tb_in (lwt_10 (List.mem_of_getElem? (i := 36) (by decide +kernel))) rfl
theorem w_10_37 : Cond.instanceMethod ({ cls := "LastLoafModel", name := "orders", desc := "()I" } : MethodName) ∈ TB := tb_in (lwt_10 (List.mem_of_getElem? (i := 37) (by decide +kernel))) rfl
theorem dL_law__1751 : decode cL_law_ 1751 = .ok (.invokevirtual 241, 3) := by decide +kernel
theorem dL_law__1754 : decode cL_law_ 1754 = .ok (.if_icmp .eq 1497, 3) := by decide +kernel
def Op_orders (RR : St → St → Prop) : Prop := ∀ (σ μ : St), RR σ μ → ∃ (r1 : (Int32 × St)) (r2 : (Int32 × St)), q11_orders σ  = some r1 ∧ q12_orders μ  = some r2 ∧ r1.1 = r2.1 ∧ RR r1.2 r2.2
set_option maxHeartbeats 4000000 in
set_option maxRecDepth 100000 in
theorem law_25 {RR : St → St → Prop} (hop : Op_orders RR) {Θ : Tz} {cJ : ClassId} {Q : State → Prop} {w : Wp} {aM : Nat → Nat} {ao b L : Nat} {xs : Nat → Int32} (C : Gc Θ cL_law_ 7 RL (some .boolean) room_1 cJ) (hlt : Θ.1.2.1.stackTraces = false) (Lx : Lq Θ w aM ao) (S : Ls Θ b L xs) {σ μ : St} {o : Int64} {i kc ks : Nat} (hi : i + 6 ≤ L) (hk : kc + 4 ≤ 601024 ∧ ks + 24 ≤ 7293034) (hR : RR σ μ) (K : ∀ σ' μ' o', RR σ' μ' → G Θ 7 (kc + 4) (ks + 24) Q (LPx w aM ao cJ σ' μ' o') 3251 (llv w aM ao b i) []) : G Θ 7 kc ks Q (LPx w aM ao cJ σ μ o) 1746 (llv w aM ao b i) [] := by
  obtain ⟨r1, r2, h1, h2, he, hR2⟩ := hop σ μ hR 
  refine g_aload_n C 1 dL_law__1746 rfl rfl ?_
  refine l_callCi C Lx [] r1.1 r1.2 0 rfl (c11_orders (l := Θ.1.2.1) (w := w)  rfl Lx.2.1 h1) w_3_84 w_3_81 w_3_82 w_3_83 w_1_1 ⟨rfl, rfl, (Nat.le_of_ble_eq_true rfl), (Nat.le_of_ble_eq_true rfl)⟩ (by decide +kernel) rfl rfl (Nat.le_of_ble_eq_true rfl) ⟨Nat.le_trans (Nat.le_add_right _ _) hk.1, Nat.le_trans (Nat.le_add_right _ _) hk.2⟩ dL_law__1747 ?_
  refine g_aload_n C 2 dL_law__1750 rfl rfl ?_
  refine l_callMi C Lx [] r2.1 r2.2 0 rfl (c12_orders (l := Θ.1.2.1) (w := wm w aM)  rfl Lx.2.2.1 h2) w_10_39 w_10_36 w_10_37 w_10_38 w_1_14 ⟨rfl, rfl, (Nat.le_of_ble_eq_true rfl), (Nat.le_of_ble_eq_true rfl)⟩ (by decide +kernel) rfl rfl (Nat.le_of_ble_eq_true rfl) ⟨Nat.le_trans (Nat.le_add_right _ _) hk.1, Nat.le_trans (Nat.le_add_right _ _) hk.2⟩ dL_law__1751 ?_
  refine g_icmp_eq C 3251 dL_law__1754 (by decide) (fun _ => ?_) (fun h => absurd (he) h)
  exact G.wid (Nat.le_add_right _ _) (Nat.le_add_right _ _) (K _ _ o hR2)
/-! case 26 -/
theorem dL_law__1759 : decode cL_law_ 1759 = .ok (.aload_n 1, 1) := by decide +kernel
theorem dL_law__1760 : decode cL_law_ 1760 = .ok (.aload_n 0, 1) := by decide +kernel
theorem dL_law__1761 : decode cL_law_ 1761 = .ok (.iload 4, 2) := by decide +kernel
theorem dL_law__1763 : decode cL_law_ 1763 = .ok (.iconst 1, 1) := by decide +kernel
theorem dL_law__1764 : decode cL_law_ 1764 = .ok (.iadd, 1) := by decide +kernel
theorem dL_law__1765 : decode cL_law_ 1765 = .ok (.iaload, 1) := by decide +kernel
theorem dL_law__1766 : decode cL_law_ 1766 = .ok (.aload_n 0, 1) := by decide +kernel
theorem dL_law__1767 : decode cL_law_ 1767 = .ok (.iload 4, 2) := by decide +kernel
theorem dL_law__1769 : decode cL_law_ 1769 = .ok (.iconst 2, 1) := by decide +kernel
theorem dL_law__1770 : decode cL_law_ 1770 = .ok (.iadd, 1) := by decide +kernel
theorem dL_law__1771 : decode cL_law_ 1771 = .ok (.iaload, 1) := by decide +kernel
theorem dL_law__1772 : decode cL_law_ 1772 = .ok (.aload_n 3, 1) := by decide +kernel
theorem w_6_225 : Cond.codeWith ({ cls := "LastLoafLaw", name := "order", desc := "(LLastLoaf;II[J)I" } : MethodName) method_24_code (5 : Nat) (Option.some ClassFile.FieldType.int) [((0 : Nat), (10 : Nat), (13 : Nat), (24 : Nat))] ∈ TB := tb_in (lwt_6 (List.mem_of_getElem? (i := 225) (by decide +kernel))) rfl
theorem w_6_223 : Cond.methodLink "LastLoafLaw" (242 : Nat) ({ cls := "LastLoafLaw", name := "order", desc := "(LLastLoaf;II[J)I" } : MethodName) ∈ TB := tb_in (lwt_6 (List.mem_of_getElem? (i := 223) (by decide +kernel))) rfl
theorem w_6_224 : Cond.static ({ cls := "LastLoafLaw", name := "order", desc := "(LLastLoaf;II[J)I" } : MethodName) ∈ TB := tb_in (lwt_6 (List.mem_of_getElem? (i := 224) (by decide +kernel))) rfl
theorem dL_law__1773 : decode cL_law_ 1773 = .ok (.invokestatic 242, 3) := by decide +kernel
theorem dL_law__1776 : decode cL_law_ 1776 = .ok (.istore 5, 2) := by decide +kernel
theorem dL_law__1778 : decode cL_law_ 1778 = .ok (.aload_n 2, 1) := by decide +kernel
theorem dL_law__1779 : decode cL_law_ 1779 = .ok (.aload_n 0, 1) := by decide +kernel
theorem dL_law__1780 : decode cL_law_ 1780 = .ok (.iload 4, 2) := by decide +kernel
theorem dL_law__1782 : decode cL_law_ 1782 = .ok (.iconst 1, 1) := by decide +kernel
theorem dL_law__1783 : decode cL_law_ 1783 = .ok (.iadd, 1) := by decide +kernel
theorem dL_law__1784 : decode cL_law_ 1784 = .ok (.iaload, 1) := by decide +kernel
theorem dL_law__1785 : decode cL_law_ 1785 = .ok (.aload_n 0, 1) := by decide +kernel
theorem dL_law__1786 : decode cL_law_ 1786 = .ok (.iload 4, 2) := by decide +kernel
theorem dL_law__1788 : decode cL_law_ 1788 = .ok (.iconst 2, 1) := by decide +kernel
theorem dL_law__1789 : decode cL_law_ 1789 = .ok (.iadd, 1) := by decide +kernel
theorem dL_law__1790 : decode cL_law_ 1790 = .ok (.iaload, 1) := by decide +kernel
theorem w_10_54 : Cond.selects "LastLoafModel" ({ cls := "LastLoafModel", name := "order", desc := "(II)I" } : MethodName) ({ cls := "LastLoafModel", name := "order", desc := "(II)I" } : MethodName) ∈ TB := tb_in (lwt_10 (List.mem_of_getElem? (i := 54) (by decide +kernel))) rfl
theorem w_10_55 : Cond.code ({ cls := "LastLoafModel", name := "order", desc := "(II)I" } : MethodName) prog_14_method_97_code (3 : Nat) (Option.some ClassFile.FieldType.int) ∈ TB := tb_in (lwt_10 (List.mem_of_getElem? (i := 55) (by decide +kernel))) rfl
theorem w_10_52 : Cond.methodLink "LastLoafLaw" (244 : Nat) ({ cls := "LastLoafModel", name := "order", desc := "(II)I" } : MethodName) ∈ TB := tb_in (lwt_10 (List.mem_of_getElem? (i := 52) (by decide +kernel))) rfl
theorem w_10_53 : Cond.instanceMethod ({ cls := "LastLoafModel", name := "order", desc := "(II)I" } : MethodName) ∈ TB := tb_in (lwt_10 (List.mem_of_getElem? (i := 53) (by decide +kernel))) rfl
theorem dL_law__1791 : decode cL_law_ 1791 = .ok (.invokevirtual 244, 3) := by decide +kernel
theorem dL_law__1794 : decode cL_law_ 1794 = .ok (.istore 6, 2) := by decide +kernel
theorem dL_law__1796 : decode cL_law_ 1796 = .ok (.aload_n 2, 1) := by decide +kernel
theorem dL_law__1797 : decode cL_law_ 1797 = .ok (.invokevirtual 163, 3) := by decide +kernel
theorem dL_law__1800 : decode cL_law_ 1800 = .ok (.iload 5, 2) := by decide +kernel
theorem dL_law__1802 : decode cL_law_ 1802 = .ok (.if_icmp .eq 5, 3) := by decide +kernel
theorem dL_law__1807 : decode cL_law_ 1807 = .ok (.iload 5, 2) := by decide +kernel
theorem dL_law__1809 : decode cL_law_ 1809 = .ok (.ifCond .ne 15, 3) := by decide +kernel
theorem dL_law__1824 : decode cL_law_ 1824 = .ok (.goto 1427, 3) := by decide +kernel
theorem dL_law__1812 : decode cL_law_ 1812 = .ok (.aload_n 3, 1) := by decide +kernel
theorem dL_law__1813 : decode cL_law_ 1813 = .ok (.iconst 0, 1) := by decide +kernel
theorem dL_law__1814 : decode cL_law_ 1814 = .ok (.laload, 1) := by decide +kernel
theorem dL_law__1815 : decode cL_law_ 1815 = .ok (.iload 6, 2) := by decide +kernel
theorem dL_law__1817 : decode cL_law_ 1817 = .ok (.i2l, 1) := by decide +kernel
theorem dL_law__1818 : decode cL_law_ 1818 = .ok (.lcmp, 1) := by decide +kernel
theorem dL_law__1819 : decode cL_law_ 1819 = .ok (.ifCond .eq 5, 3) := by decide +kernel
def Op_order (RR : St → St → Prop) : Prop := ∀ (σ μ : St), RR σ μ → ∀ (a0 : Int32) (a1 : Int32), ∃ (r1 : Sum Nat Int32 × St) (r2 : Int32 × St), q11_order σ a0 a1 = some r1 ∧ q12_order μ a0 a1 = some r2 ∧ Sx [2] r1 r2 ∧ RR r1.2 r2.2
set_option maxHeartbeats 4000000 in
set_option maxRecDepth 100000 in
theorem law_26 {RR : St → St → Prop} (hop : Op_order RR) {Θ : Tz} {cJ : ClassId} {Q : State → Prop} {w : Wp} {aM : Nat → Nat} {ao b L : Nat} {xs : Nat → Int32} (C : Gc Θ cL_law_ 7 RL (some .boolean) room_1 cJ) (hlt : Θ.1.2.1.stackTraces = false) (Lx : Lq Θ w aM ao) (S : Ls Θ b L xs) {σ μ : St} {o : Int64} {i kc ks : Nat} (hi : i + 6 ≤ L) (hk : kc + 4 ≤ 601024 ∧ ks + 24 ≤ 7293034) (hR : RR σ μ) (K : ∀ σ' μ' o', RR σ' μ' → G Θ 7 (kc + 4) (ks + 24) Q (LPx w aM ao cJ σ' μ' o') 3251 (llv w aM ao b i) []) : G Θ 7 kc ks Q (LPx w aM ao cJ σ μ o) 1759 (llv w aM ao b i) [] := by
  obtain ⟨r1, r2, h1, h2, he, hR2⟩ := hop σ μ hR (xs (i + 1)) (xs (i + 2))
  refine g_aload_n C 1 dL_law__1759 rfl rfl ?_
  refine l_arg C S 0 4 1 rfl rfl (by omega) rfl dL_law__1760 dL_law__1761 dL_law__1763 dL_law__1764 dL_law__1765 ?_
  refine l_arg C S 0 4 2 rfl rfl (by omega) rfl dL_law__1766 dL_law__1767 dL_law__1769 dL_law__1770 dL_law__1771 ?_
  refine g_aload_n C 3 dL_law__1772 rfl rfl ?_
  refine l_callW C Lx [.ref (w.2.2.1 0), .int (xs (i + 1)), .int (xs (i + 2)), .ref ao] 4 (wr_order (l := Θ.1.2.1) Lx.2.1 hlt Lx.2.2.2.2.2.2.2.1 h1 (Sx_in he)) w_6_225 w_6_223 w_6_224 w_1_0 ⟨rfl, rfl, (Nat.le_of_ble_eq_true rfl), (Nat.le_of_ble_eq_true rfl)⟩ (by decide +kernel) rfl rfl (Nat.le_of_ble_eq_true rfl) hk dL_law__1773 ?_
  refine g_istore C dL_law__1776 (Nat.le_of_ble_eq_true rfl) rfl ?_
  refine g_aload_n C 3 dL_law__1778 rfl rfl ?_
  refine l_arg C S 1 5 1 rfl rfl (by omega) rfl dL_law__1779 dL_law__1780 dL_law__1782 dL_law__1783 dL_law__1784 ?_
  refine l_arg C S 1 5 2 rfl rfl (by omega) rfl dL_law__1785 dL_law__1786 dL_law__1788 dL_law__1789 dL_law__1790 ?_
  refine l_callMi C Lx [.int (xs (i + 1)), .int (xs (i + 2))] r2.1 r2.2 2 rfl (c12_order (l := Θ.1.2.1) (w := wm w aM) (p_a := (xs (i + 1))) (k_a := (xs (i + 2))) rfl Lx.2.2.1 h2) w_10_55 w_10_52 w_10_53 w_10_54 w_1_14 ⟨rfl, rfl, (Nat.le_of_ble_eq_true rfl), (Nat.le_of_ble_eq_true rfl)⟩ (by decide +kernel) rfl rfl (Nat.le_of_ble_eq_true rfl) hk dL_law__1791 ?_
  refine g_istore C dL_law__1794 (Nat.le_of_ble_eq_true rfl) rfl ?_
  refine g_aload_n C 4 dL_law__1796 rfl rfl ?_
  refine l_callMi C Lx [] (q12_thrown r2.2) r2.2 0 rfl (c12_thrown (l := Θ.1.2.1) (w := wm w aM) rfl Lx.2.2.1) w_8_130 w_8_127 w_8_128 w_8_129 w_1_14 ⟨rfl, rfl, (Nat.le_of_ble_eq_true rfl), (Nat.le_of_ble_eq_true rfl)⟩ (by decide +kernel) rfl rfl (Nat.le_of_ble_eq_true rfl) hk dL_law__1797 ?_
  refine g_iload C 1 dL_law__1800 rfl ?_
  refine g_icmp_eq C 1807 dL_law__1802 (by decide) (fun _ => ?_) (fun h => absurd (Sx_k he) h)
  refine g_iload C 1 dL_law__1807 rfl ?_
  refine g_if_ne C 1824 dL_law__1809 (by decide) (fun _ => ?_) (fun h0 => ?_)
  · refine g_goto C 3251 dL_law__1824 (by decide) ?_
    refine G.sub [2, 3, 4, 5, 6] rfl ?_
    exact K _ _ _ hR2
  · refine g_aload_n C 5 dL_law__1812 rfl rfl ?_
    refine g_iconst (v := 0) C dL_law__1813 rfl ?_
    refine l_lald C (by rw [Lx.1]) dL_law__1814 ?_
    refine g_iload C 0 dL_law__1815 rfl ?_
    refine g_i2l C dL_law__1817 ?_
    refine g_lcmp C dL_law__1818 ?_
    rw [Sx_o (f := (fun v => v)) (o := o) (by decide) he h0, lg_cmp_self]
    refine g_if_eq C 1824 dL_law__1819 (by decide) (fun _ => ?_) (fun h => absurd rfl h)
    refine g_goto C 3251 dL_law__1824 (by decide) ?_
    refine G.sub [2, 3, 4, 5, 6] rfl ?_
    exact K _ _ _ hR2
/-! case 27 -/
theorem dL_law__1827 : decode cL_law_ 1827 = .ok (.aload_n 1, 1) := by decide +kernel
theorem dL_law__1828 : decode cL_law_ 1828 = .ok (.aload_n 0, 1) := by decide +kernel
theorem dL_law__1829 : decode cL_law_ 1829 = .ok (.iload 4, 2) := by decide +kernel
theorem dL_law__1831 : decode cL_law_ 1831 = .ok (.iconst 1, 1) := by decide +kernel
theorem dL_law__1832 : decode cL_law_ 1832 = .ok (.iadd, 1) := by decide +kernel
theorem dL_law__1833 : decode cL_law_ 1833 = .ok (.iaload, 1) := by decide +kernel
theorem dL_law__1834 : decode cL_law_ 1834 = .ok (.aload_n 0, 1) := by decide +kernel
theorem dL_law__1835 : decode cL_law_ 1835 = .ok (.iload 4, 2) := by decide +kernel
theorem dL_law__1837 : decode cL_law_ 1837 = .ok (.iconst 2, 1) := by decide +kernel
theorem dL_law__1838 : decode cL_law_ 1838 = .ok (.iadd, 1) := by decide +kernel
theorem dL_law__1839 : decode cL_law_ 1839 = .ok (.iaload, 1) := by decide +kernel
theorem dL_law__1840 : decode cL_law_ 1840 = .ok (.aload_n 3, 1) := by decide +kernel
theorem w_7_0 : Cond.codeWith ({ cls := "LastLoafLaw", name := "rota", desc := "(LLastLoaf;II[J)I" } : MethodName) method_25_code (5 : Nat) (Option.some ClassFile.FieldType.int) [((0 : Nat), (10 : Nat), (13 : Nat), (13 : Nat))] ∈ TB := tb_in (lwt_7 (List.mem_of_getElem? (i := 0) (by decide +kernel))) rfl
theorem w_6_238 : Cond.methodLink "LastLoafLaw" (245 : Nat) ({ cls := "LastLoafLaw", name := "rota", desc := "(LLastLoaf;II[J)I" } : MethodName) ∈ TB := tb_in (lwt_6 (List.mem_of_getElem? (i := 238) (by decide +kernel))) rfl
theorem w_6_239 : Cond.static ({ cls := "LastLoafLaw", name := "rota", desc := "(LLastLoaf;II[J)I" } : MethodName) ∈ TB := tb_in (lwt_6 (List.mem_of_getElem? (i := 239) (by decide +kernel))) rfl
theorem dL_law__1841 : decode cL_law_ 1841 = .ok (.invokestatic 245, 3) := by decide +kernel
theorem dL_law__1844 : decode cL_law_ 1844 = .ok (.istore 5, 2) := by decide +kernel
theorem dL_law__1846 : decode cL_law_ 1846 = .ok (.aload_n 2, 1) := by decide +kernel
theorem dL_law__1847 : decode cL_law_ 1847 = .ok (.aload_n 0, 1) := by decide +kernel
theorem dL_law__1848 : decode cL_law_ 1848 = .ok (.iload 4, 2) := by decide +kernel
theorem dL_law__1850 : decode cL_law_ 1850 = .ok (.iconst 1, 1) := by decide +kernel
theorem dL_law__1851 : decode cL_law_ 1851 = .ok (.iadd, 1) := by decide +kernel
theorem dL_law__1852 : decode cL_law_ 1852 = .ok (.iaload, 1) := by decide +kernel
theorem dL_law__1853 : decode cL_law_ 1853 = .ok (.aload_n 0, 1) := by decide +kernel
theorem dL_law__1854 : decode cL_law_ 1854 = .ok (.iload 4, 2) := by decide +kernel
theorem dL_law__1856 : decode cL_law_ 1856 = .ok (.iconst 2, 1) := by decide +kernel
theorem dL_law__1857 : decode cL_law_ 1857 = .ok (.iadd, 1) := by decide +kernel
theorem dL_law__1858 : decode cL_law_ 1858 = .ok (.iaload, 1) := by decide +kernel
theorem w_10_58 : Cond.selects "LastLoafModel" ({ cls := "LastLoafModel", name := "rota", desc := "(II)I" } : MethodName) ({ cls := "LastLoafModel", name := "rota", desc := "(II)I" } : MethodName) ∈ TB := tb_in (lwt_10 (List.mem_of_getElem? (i := 58) (by decide +kernel))) rfl
theorem w_10_59 : Cond.code ({ cls := "LastLoafModel", name := "rota", desc := "(II)I" } : MethodName) prog_14_method_101_code (4 : Nat) (Option.some ClassFile.FieldType.int) ∈ TB := tb_in (lwt_10 (List.mem_of_getElem? (i := 59) (by decide +kernel))) rfl
theorem w_10_56 : Cond.methodLink "LastLoafLaw" (247 : Nat) ({ cls := "LastLoafModel", name := "rota", desc := "(II)I" } : MethodName) ∈ TB := tb_in (lwt_10 (List.mem_of_getElem? (i := 56) (by decide +kernel))) rfl
theorem w_10_57 : Cond.instanceMethod ({ cls := "LastLoafModel", name := "rota", desc := "(II)I" } : MethodName) ∈ TB := tb_in (lwt_10 (List.mem_of_getElem? (i := 57) (by decide +kernel))) rfl
theorem dL_law__1859 : decode cL_law_ 1859 = .ok (.invokevirtual 247, 3) := by decide +kernel
theorem dL_law__1862 : decode cL_law_ 1862 = .ok (.istore 6, 2) := by decide +kernel
theorem dL_law__1864 : decode cL_law_ 1864 = .ok (.aload_n 2, 1) := by decide +kernel
theorem dL_law__1865 : decode cL_law_ 1865 = .ok (.invokevirtual 163, 3) := by decide +kernel
theorem dL_law__1868 : decode cL_law_ 1868 = .ok (.iload 5, 2) := by decide +kernel
theorem dL_law__1870 : decode cL_law_ 1870 = .ok (.if_icmp .eq 5, 3) := by decide +kernel
theorem dL_law__1875 : decode cL_law_ 1875 = .ok (.iload 5, 2) := by decide +kernel
theorem dL_law__1877 : decode cL_law_ 1877 = .ok (.ifCond .ne 15, 3) := by decide +kernel
theorem dL_law__1892 : decode cL_law_ 1892 = .ok (.goto 1359, 3) := by decide +kernel
theorem dL_law__1880 : decode cL_law_ 1880 = .ok (.aload_n 3, 1) := by decide +kernel
theorem dL_law__1881 : decode cL_law_ 1881 = .ok (.iconst 0, 1) := by decide +kernel
theorem dL_law__1882 : decode cL_law_ 1882 = .ok (.laload, 1) := by decide +kernel
theorem dL_law__1883 : decode cL_law_ 1883 = .ok (.iload 6, 2) := by decide +kernel
theorem dL_law__1885 : decode cL_law_ 1885 = .ok (.i2l, 1) := by decide +kernel
theorem dL_law__1886 : decode cL_law_ 1886 = .ok (.lcmp, 1) := by decide +kernel
theorem dL_law__1887 : decode cL_law_ 1887 = .ok (.ifCond .eq 5, 3) := by decide +kernel
def Op_rota (RR : St → St → Prop) : Prop := ∀ (σ μ : St), RR σ μ → ∀ (a0 : Int32) (a1 : Int32), ∃ (r1 : Sum Nat Int32 × St) (r2 : Int32 × St), q11_rota σ a0 a1 = some r1 ∧ q12_rota μ a0 a1 = some r2 ∧ Sx [0] r1 r2 ∧ RR r1.2 r2.2
set_option maxHeartbeats 4000000 in
set_option maxRecDepth 100000 in
theorem law_27 {RR : St → St → Prop} (hop : Op_rota RR) {Θ : Tz} {cJ : ClassId} {Q : State → Prop} {w : Wp} {aM : Nat → Nat} {ao b L : Nat} {xs : Nat → Int32} (C : Gc Θ cL_law_ 7 RL (some .boolean) room_1 cJ) (hlt : Θ.1.2.1.stackTraces = false) (Lx : Lq Θ w aM ao) (S : Ls Θ b L xs) {σ μ : St} {o : Int64} {i kc ks : Nat} (hi : i + 6 ≤ L) (hk : kc + 4 ≤ 601024 ∧ ks + 24 ≤ 7293034) (hR : RR σ μ) (K : ∀ σ' μ' o', RR σ' μ' → G Θ 7 (kc + 4) (ks + 24) Q (LPx w aM ao cJ σ' μ' o') 3251 (llv w aM ao b i) []) : G Θ 7 kc ks Q (LPx w aM ao cJ σ μ o) 1827 (llv w aM ao b i) [] := by
  obtain ⟨r1, r2, h1, h2, he, hR2⟩ := hop σ μ hR (xs (i + 1)) (xs (i + 2))
  refine g_aload_n C 1 dL_law__1827 rfl rfl ?_
  refine l_arg C S 0 4 1 rfl rfl (by omega) rfl dL_law__1828 dL_law__1829 dL_law__1831 dL_law__1832 dL_law__1833 ?_
  refine l_arg C S 0 4 2 rfl rfl (by omega) rfl dL_law__1834 dL_law__1835 dL_law__1837 dL_law__1838 dL_law__1839 ?_
  refine g_aload_n C 3 dL_law__1840 rfl rfl ?_
  refine l_callW C Lx [.ref (w.2.2.1 0), .int (xs (i + 1)), .int (xs (i + 2)), .ref ao] 4 (wr_rota (l := Θ.1.2.1) Lx.2.1 hlt Lx.2.2.2.2.2.2.2.1 h1 (Sx_in he)) w_7_0 w_6_238 w_6_239 w_1_0 ⟨rfl, rfl, (Nat.le_of_ble_eq_true rfl), (Nat.le_of_ble_eq_true rfl)⟩ (by decide +kernel) rfl rfl (Nat.le_of_ble_eq_true rfl) hk dL_law__1841 ?_
  refine g_istore C dL_law__1844 (Nat.le_of_ble_eq_true rfl) rfl ?_
  refine g_aload_n C 3 dL_law__1846 rfl rfl ?_
  refine l_arg C S 1 5 1 rfl rfl (by omega) rfl dL_law__1847 dL_law__1848 dL_law__1850 dL_law__1851 dL_law__1852 ?_
  refine l_arg C S 1 5 2 rfl rfl (by omega) rfl dL_law__1853 dL_law__1854 dL_law__1856 dL_law__1857 dL_law__1858 ?_
  refine l_callMi C Lx [.int (xs (i + 1)), .int (xs (i + 2))] r2.1 r2.2 2 rfl (c12_rota (l := Θ.1.2.1) (w := wm w aM) (n_a := (xs (i + 1))) (k_a := (xs (i + 2))) rfl Lx.2.2.1 h2) w_10_59 w_10_56 w_10_57 w_10_58 w_1_14 ⟨rfl, rfl, (Nat.le_of_ble_eq_true rfl), (Nat.le_of_ble_eq_true rfl)⟩ (by decide +kernel) rfl rfl (Nat.le_of_ble_eq_true rfl) hk dL_law__1859 ?_
  refine g_istore C dL_law__1862 (Nat.le_of_ble_eq_true rfl) rfl ?_
  refine g_aload_n C 4 dL_law__1864 rfl rfl ?_
  refine l_callMi C Lx [] (q12_thrown r2.2) r2.2 0 rfl (c12_thrown (l := Θ.1.2.1) (w := wm w aM) rfl Lx.2.2.1) w_8_130 w_8_127 w_8_128 w_8_129 w_1_14 ⟨rfl, rfl, (Nat.le_of_ble_eq_true rfl), (Nat.le_of_ble_eq_true rfl)⟩ (by decide +kernel) rfl rfl (Nat.le_of_ble_eq_true rfl) hk dL_law__1865 ?_
  refine g_iload C 1 dL_law__1868 rfl ?_
  refine g_icmp_eq C 1875 dL_law__1870 (by decide) (fun _ => ?_) (fun h => absurd (Sx_k he) h)
  refine g_iload C 1 dL_law__1875 rfl ?_
  refine g_if_ne C 1892 dL_law__1877 (by decide) (fun _ => ?_) (fun h0 => ?_)
  · refine g_goto C 3251 dL_law__1892 (by decide) ?_
    refine G.sub [2, 3, 4, 5, 6] rfl ?_
    exact K _ _ _ hR2
  · refine g_aload_n C 5 dL_law__1880 rfl rfl ?_
    refine g_iconst (v := 0) C dL_law__1881 rfl ?_
    refine l_lald C (by rw [Lx.1]) dL_law__1882 ?_
    refine g_iload C 0 dL_law__1883 rfl ?_
    refine g_i2l C dL_law__1885 ?_
    refine g_lcmp C dL_law__1886 ?_
    rw [Sx_o (f := (fun v => v)) (o := o) (by decide) he h0, lg_cmp_self]
    refine g_if_eq C 1892 dL_law__1887 (by decide) (fun _ => ?_) (fun h => absurd rfl h)
    refine g_goto C 3251 dL_law__1892 (by decide) ?_
    refine G.sub [2, 3, 4, 5, 6] rfl ?_
    exact K _ _ _ hR2
/-! case 28 -/
theorem dL_law__1895 : decode cL_law_ 1895 = .ok (.aload_n 1, 1) := by decide +kernel
theorem w_3_107 : Cond.selects "LastLoaf" ({ cls := "LastLoaf", name := "lasts", desc := "()I" } : MethodName) ({ cls := "LastLoaf", name := "lasts", desc := "()I" } : MethodName) ∈ TB := tb_in (lwt_3 (List.mem_of_getElem? (i := 107) (by decide +kernel))) rfl
theorem w_3_108 : Cond.code ({ cls := "LastLoaf", name := "lasts", desc := "()I" } : MethodName) prog_1_method_30_code (2 : Nat) (Option.some ClassFile.FieldType.int) ∈ TB := tb_in (lwt_3 (List.mem_of_getElem? (i := 108) (by decide +kernel))) rfl
theorem w_3_105 : Cond.methodLink "LastLoafLaw" (248 : Nat) ({ cls := "LastLoaf", name := "lasts", desc := "()I" } : MethodName) ∈ TB := tb_in (lwt_3 (List.mem_of_getElem? (i := 105) (by decide +kernel))) rfl
theorem w_3_106 : Cond.instanceMethod ({ cls := "LastLoaf", name := "lasts", desc := "()I" } : MethodName) ∈ TB := tb_in (lwt_3 (List.mem_of_getElem? (i := 106) (by decide +kernel))) rfl
theorem dL_law__1896 : decode cL_law_ 1896 = .ok (.invokevirtual 248, 3) := by decide +kernel
theorem dL_law__1899 : decode cL_law_ 1899 = .ok (.aload_n 2, 1) := by decide +kernel
theorem w_10_77 : Cond.selects "LastLoafModel" ({ cls := "LastLoafModel", name := "lasts", desc := "()I" } : MethodName) ({ cls := "LastLoafModel", name := "lasts", desc := "()I" } : MethodName) ∈ TB := tb_in (lwt_10 (List.mem_of_getElem? (i := 77) (by decide +kernel))) rfl
theorem w_10_78 : Cond.code ({ cls := "LastLoafModel", name := "lasts", desc := "()I" } : MethodName) prog_14_method_102_code (4 : Nat) (Option.some ClassFile.FieldType.int) ∈ TB := tb_in (lwt_10 (List.mem_of_getElem? (i := 78) (by decide +kernel))) rfl
theorem w_10_75 : Cond.methodLink "LastLoafLaw" (251 : Nat) ({ cls := "LastLoafModel", name := "lasts", desc := "()I" } : MethodName) ∈ TB := tb_in (lwt_10 (List.mem_of_getElem? (i := 75) (by decide +kernel))) rfl
theorem w_10_76 : Cond.instanceMethod ({ cls := "LastLoafModel", name := "lasts", desc := "()I" } : MethodName) ∈ TB := tb_in (lwt_10 (List.mem_of_getElem? (i := 76) (by decide +kernel))) rfl
theorem dL_law__1900 : decode cL_law_ 1900 = .ok (.invokevirtual 251, 3) := by decide +kernel
theorem dL_law__1903 : decode cL_law_ 1903 = .ok (.if_icmp .eq 1348, 3) := by decide +kernel
def Op_lasts (RR : St → St → Prop) : Prop := ∀ (σ μ : St), RR σ μ → ∃ (r1 : (Int32 × St)) (r2 : (Int32 × St)), q11_lasts σ  = some r1 ∧ q12_lasts μ  = some r2 ∧ r1.1 = r2.1 ∧ RR r1.2 r2.2
set_option maxHeartbeats 4000000 in
set_option maxRecDepth 100000 in
theorem law_28 {RR : St → St → Prop} (hop : Op_lasts RR) {Θ : Tz} {cJ : ClassId} {Q : State → Prop} {w : Wp} {aM : Nat → Nat} {ao b L : Nat} {xs : Nat → Int32} (C : Gc Θ cL_law_ 7 RL (some .boolean) room_1 cJ) (hlt : Θ.1.2.1.stackTraces = false) (Lx : Lq Θ w aM ao) (S : Ls Θ b L xs) {σ μ : St} {o : Int64} {i kc ks : Nat} (hi : i + 6 ≤ L) (hk : kc + 4 ≤ 601024 ∧ ks + 24 ≤ 7293034) (hR : RR σ μ) (K : ∀ σ' μ' o', RR σ' μ' → G Θ 7 (kc + 4) (ks + 24) Q (LPx w aM ao cJ σ' μ' o') 3251 (llv w aM ao b i) []) : G Θ 7 kc ks Q (LPx w aM ao cJ σ μ o) 1895 (llv w aM ao b i) [] := by
  obtain ⟨r1, r2, h1, h2, he, hR2⟩ := hop σ μ hR 
  refine g_aload_n C 1 dL_law__1895 rfl rfl ?_
  refine l_callCi C Lx [] r1.1 r1.2 0 rfl (c11_lasts (l := Θ.1.2.1) (w := w)  rfl Lx.2.1 h1) w_3_108 w_3_105 w_3_106 w_3_107 w_1_1 ⟨rfl, rfl, (Nat.le_of_ble_eq_true rfl), (Nat.le_of_ble_eq_true rfl)⟩ (by decide +kernel) rfl rfl (Nat.le_of_ble_eq_true rfl) ⟨Nat.le_trans (Nat.le_add_right _ _) hk.1, Nat.le_trans (Nat.le_add_right _ _) hk.2⟩ dL_law__1896 ?_
  refine g_aload_n C 2 dL_law__1899 rfl rfl ?_
  refine l_callMi C Lx [] r2.1 r2.2 0 rfl (c12_lasts (l := Θ.1.2.1) (w := wm w aM)  rfl Lx.2.2.1 h2) w_10_78 w_10_75 w_10_76 w_10_77 w_1_14 ⟨rfl, rfl, (Nat.le_of_ble_eq_true rfl), (Nat.le_of_ble_eq_true rfl)⟩ (by decide +kernel) rfl rfl (Nat.le_of_ble_eq_true rfl) ⟨Nat.le_trans (Nat.le_add_right _ _) hk.1, Nat.le_trans (Nat.le_add_right _ _) hk.2⟩ dL_law__1900 ?_
  refine g_icmp_eq C 3251 dL_law__1903 (by decide) (fun _ => ?_) (fun h => absurd (he) h)
  exact G.wid (Nat.le_add_right _ _) (Nat.le_add_right _ _) (K _ _ o hR2)
/-! case 29 -/
theorem dL_law__1908 : decode cL_law_ 1908 = .ok (.aload_n 1, 1) := by decide +kernel
theorem dL_law__1909 : decode cL_law_ 1909 = .ok (.aload_n 0, 1) := by decide +kernel
theorem dL_law__1910 : decode cL_law_ 1910 = .ok (.iload 4, 2) := by decide +kernel
theorem dL_law__1912 : decode cL_law_ 1912 = .ok (.iconst 1, 1) := by decide +kernel
theorem dL_law__1913 : decode cL_law_ 1913 = .ok (.iadd, 1) := by decide +kernel
theorem dL_law__1914 : decode cL_law_ 1914 = .ok (.iaload, 1) := by decide +kernel
theorem dL_law__1915 : decode cL_law_ 1915 = .ok (.aload_n 3, 1) := by decide +kernel
theorem w_7_25 : Cond.codeWith ({ cls := "LastLoafLaw", name := "mill", desc := "(LLastLoaf;I[J)I" } : MethodName) method_26_code (4 : Nat) (Option.some ClassFile.FieldType.int) [((0 : Nat), (9 : Nat), (12 : Nat), (13 : Nat))] ∈ TB := tb_in (lwt_7 (List.mem_of_getElem? (i := 25) (by decide +kernel))) rfl
theorem w_7_23 : Cond.methodLink "LastLoafLaw" (252 : Nat) ({ cls := "LastLoafLaw", name := "mill", desc := "(LLastLoaf;I[J)I" } : MethodName) ∈ TB := tb_in (lwt_7 (List.mem_of_getElem? (i := 23) (by decide +kernel))) rfl
theorem w_7_24 : Cond.static ({ cls := "LastLoafLaw", name := "mill", desc := "(LLastLoaf;I[J)I" } : MethodName) ∈ TB := tb_in (lwt_7 (List.mem_of_getElem? (i := 24) (by decide +kernel))) rfl
theorem dL_law__1916 : decode cL_law_ 1916 = .ok (.invokestatic 252, 3) := by decide +kernel
theorem dL_law__1919 : decode cL_law_ 1919 = .ok (.istore 5, 2) := by decide +kernel
theorem dL_law__1921 : decode cL_law_ 1921 = .ok (.aload_n 2, 1) := by decide +kernel
theorem dL_law__1922 : decode cL_law_ 1922 = .ok (.aload_n 0, 1) := by decide +kernel
theorem dL_law__1923 : decode cL_law_ 1923 = .ok (.iload 4, 2) := by decide +kernel
theorem dL_law__1925 : decode cL_law_ 1925 = .ok (.iconst 1, 1) := by decide +kernel
theorem dL_law__1926 : decode cL_law_ 1926 = .ok (.iadd, 1) := by decide +kernel
theorem dL_law__1927 : decode cL_law_ 1927 = .ok (.iaload, 1) := by decide +kernel
theorem w_10_81 : Cond.selects "LastLoafModel" ({ cls := "LastLoafModel", name := "mill", desc := "(I)I" } : MethodName) ({ cls := "LastLoafModel", name := "mill", desc := "(I)I" } : MethodName) ∈ TB := tb_in (lwt_10 (List.mem_of_getElem? (i := 81) (by decide +kernel))) rfl
theorem w_10_82 : Cond.code ({ cls := "LastLoafModel", name := "mill", desc := "(I)I" } : MethodName) prog_14_method_103_code (6 : Nat) (Option.some ClassFile.FieldType.int) ∈ TB := tb_in (lwt_10 (List.mem_of_getElem? (i := 82) (by decide +kernel))) rfl
theorem w_10_79 : Cond.methodLink "LastLoafLaw" (254 : Nat) ({ cls := "LastLoafModel", name := "mill", desc := "(I)I" } : MethodName) ∈ TB := tb_in (lwt_10 (List.mem_of_getElem? (i := 79) (by decide +kernel))) rfl
theorem w_10_80 : Cond.instanceMethod ({ cls := "LastLoafModel", name := "mill", desc := "(I)I" } : MethodName) ∈ TB := tb_in (lwt_10 (List.mem_of_getElem? (i := 80) (by decide +kernel))) rfl
theorem dL_law__1928 : decode cL_law_ 1928 = .ok (.invokevirtual 254, 3) := by decide +kernel
theorem dL_law__1931 : decode cL_law_ 1931 = .ok (.istore 6, 2) := by decide +kernel
theorem dL_law__1933 : decode cL_law_ 1933 = .ok (.aload_n 2, 1) := by decide +kernel
theorem dL_law__1934 : decode cL_law_ 1934 = .ok (.invokevirtual 163, 3) := by decide +kernel
theorem dL_law__1937 : decode cL_law_ 1937 = .ok (.iload 5, 2) := by decide +kernel
theorem dL_law__1939 : decode cL_law_ 1939 = .ok (.if_icmp .eq 5, 3) := by decide +kernel
theorem dL_law__1944 : decode cL_law_ 1944 = .ok (.iload 5, 2) := by decide +kernel
theorem dL_law__1946 : decode cL_law_ 1946 = .ok (.ifCond .ne 15, 3) := by decide +kernel
theorem dL_law__1961 : decode cL_law_ 1961 = .ok (.goto 1290, 3) := by decide +kernel
theorem dL_law__1949 : decode cL_law_ 1949 = .ok (.aload_n 3, 1) := by decide +kernel
theorem dL_law__1950 : decode cL_law_ 1950 = .ok (.iconst 0, 1) := by decide +kernel
theorem dL_law__1951 : decode cL_law_ 1951 = .ok (.laload, 1) := by decide +kernel
theorem dL_law__1952 : decode cL_law_ 1952 = .ok (.iload 6, 2) := by decide +kernel
theorem dL_law__1954 : decode cL_law_ 1954 = .ok (.i2l, 1) := by decide +kernel
theorem dL_law__1955 : decode cL_law_ 1955 = .ok (.lcmp, 1) := by decide +kernel
theorem dL_law__1956 : decode cL_law_ 1956 = .ok (.ifCond .eq 5, 3) := by decide +kernel
def Op_mill (RR : St → St → Prop) : Prop := ∀ (σ μ : St), RR σ μ → ∀ (a0 : Int32), ∃ (r1 : Sum Nat Int32 × St) (r2 : Int32 × St), q11_mill σ a0 = some r1 ∧ q12_mill μ a0 = some r2 ∧ Sx [0] r1 r2 ∧ RR r1.2 r2.2
set_option maxHeartbeats 4000000 in
set_option maxRecDepth 100000 in
theorem law_29 {RR : St → St → Prop} (hop : Op_mill RR) {Θ : Tz} {cJ : ClassId} {Q : State → Prop} {w : Wp} {aM : Nat → Nat} {ao b L : Nat} {xs : Nat → Int32} (C : Gc Θ cL_law_ 7 RL (some .boolean) room_1 cJ) (hlt : Θ.1.2.1.stackTraces = false) (Lx : Lq Θ w aM ao) (S : Ls Θ b L xs) {σ μ : St} {o : Int64} {i kc ks : Nat} (hi : i + 6 ≤ L) (hk : kc + 4 ≤ 601024 ∧ ks + 24 ≤ 7293034) (hR : RR σ μ) (K : ∀ σ' μ' o', RR σ' μ' → G Θ 7 (kc + 4) (ks + 24) Q (LPx w aM ao cJ σ' μ' o') 3251 (llv w aM ao b i) []) : G Θ 7 kc ks Q (LPx w aM ao cJ σ μ o) 1908 (llv w aM ao b i) [] := by
  obtain ⟨r1, r2, h1, h2, he, hR2⟩ := hop σ μ hR (xs (i + 1))
  refine g_aload_n C 1 dL_law__1908 rfl rfl ?_
  refine l_arg C S 0 4 1 rfl rfl (by omega) rfl dL_law__1909 dL_law__1910 dL_law__1912 dL_law__1913 dL_law__1914 ?_
  refine g_aload_n C 3 dL_law__1915 rfl rfl ?_
  refine l_callW C Lx [.ref (w.2.2.1 0), .int (xs (i + 1)), .ref ao] 3 (wr_mill (l := Θ.1.2.1) Lx.2.1 hlt Lx.2.2.2.2.2.2.2.1 h1 (Sx_in he)) w_7_25 w_7_23 w_7_24 w_1_0 ⟨rfl, rfl, (Nat.le_of_ble_eq_true rfl), (Nat.le_of_ble_eq_true rfl)⟩ (by decide +kernel) rfl rfl (Nat.le_of_ble_eq_true rfl) hk dL_law__1916 ?_
  refine g_istore C dL_law__1919 (Nat.le_of_ble_eq_true rfl) rfl ?_
  refine g_aload_n C 3 dL_law__1921 rfl rfl ?_
  refine l_arg C S 1 5 1 rfl rfl (by omega) rfl dL_law__1922 dL_law__1923 dL_law__1925 dL_law__1926 dL_law__1927 ?_
  refine l_callMi C Lx [.int (xs (i + 1))] r2.1 r2.2 1 rfl (c12_mill (l := Θ.1.2.1) (w := wm w aM) (n_a := (xs (i + 1))) rfl Lx.2.2.1 h2) w_10_82 w_10_79 w_10_80 w_10_81 w_1_14 ⟨rfl, rfl, (Nat.le_of_ble_eq_true rfl), (Nat.le_of_ble_eq_true rfl)⟩ (by decide +kernel) rfl rfl (Nat.le_of_ble_eq_true rfl) hk dL_law__1928 ?_
  refine g_istore C dL_law__1931 (Nat.le_of_ble_eq_true rfl) rfl ?_
  refine g_aload_n C 4 dL_law__1933 rfl rfl ?_
  refine l_callMi C Lx [] (q12_thrown r2.2) r2.2 0 rfl (c12_thrown (l := Θ.1.2.1) (w := wm w aM) rfl Lx.2.2.1) w_8_130 w_8_127 w_8_128 w_8_129 w_1_14 ⟨rfl, rfl, (Nat.le_of_ble_eq_true rfl), (Nat.le_of_ble_eq_true rfl)⟩ (by decide +kernel) rfl rfl (Nat.le_of_ble_eq_true rfl) hk dL_law__1934 ?_
  refine g_iload C 1 dL_law__1937 rfl ?_
  refine g_icmp_eq C 1944 dL_law__1939 (by decide) (fun _ => ?_) (fun h => absurd (Sx_k he) h)
  refine g_iload C 1 dL_law__1944 rfl ?_
  refine g_if_ne C 1961 dL_law__1946 (by decide) (fun _ => ?_) (fun h0 => ?_)
  · refine g_goto C 3251 dL_law__1961 (by decide) ?_
    refine G.sub [2, 3, 4, 5, 6] rfl ?_
    exact K _ _ _ hR2
  · refine g_aload_n C 5 dL_law__1949 rfl rfl ?_
    refine g_iconst (v := 0) C dL_law__1950 rfl ?_
    refine l_lald C (by rw [Lx.1]) dL_law__1951 ?_
    refine g_iload C 0 dL_law__1952 rfl ?_
    refine g_i2l C dL_law__1954 ?_
    refine g_lcmp C dL_law__1955 ?_
    rw [Sx_o (f := (fun v => v)) (o := o) (by decide) he h0, lg_cmp_self]
    refine g_if_eq C 1961 dL_law__1956 (by decide) (fun _ => ?_) (fun h => absurd rfl h)
    refine g_goto C 3251 dL_law__1961 (by decide) ?_
    refine G.sub [2, 3, 4, 5, 6] rfl ?_
    exact K _ _ _ hR2
/-! case 30 -/
theorem dL_law__1964 : decode cL_law_ 1964 = .ok (.aload_n 1, 1) := by decide +kernel
theorem dL_law__1965 : decode cL_law_ 1965 = .ok (.aload_n 0, 1) := by decide +kernel
theorem dL_law__1966 : decode cL_law_ 1966 = .ok (.iload 4, 2) := by decide +kernel
theorem dL_law__1968 : decode cL_law_ 1968 = .ok (.iconst 1, 1) := by decide +kernel
theorem dL_law__1969 : decode cL_law_ 1969 = .ok (.iadd, 1) := by decide +kernel
theorem dL_law__1970 : decode cL_law_ 1970 = .ok (.iaload, 1) := by decide +kernel
theorem dL_law__1971 : decode cL_law_ 1971 = .ok (.ifCond .eq 7, 3) := by decide +kernel
theorem dL_law__1974 : decode cL_law_ 1974 = .ok (.iconst 1, 1) := by decide +kernel
theorem dL_law__1975 : decode cL_law_ 1975 = .ok (.goto 4, 3) := by decide +kernel
theorem dL_law__1978 : decode cL_law_ 1978 = .ok (.iconst 0, 1) := by decide +kernel
theorem w_3_232 : Cond.selects "LastLoaf" ({ cls := "LastLoaf", name := "starves", desc := "(Z)I" } : MethodName) ({ cls := "LastLoaf", name := "starves", desc := "(Z)I" } : MethodName) ∈ TB := tb_in (lwt_3 (List.mem_of_getElem? (i := 232) (by decide +kernel))) rfl
theorem w_3_233 : Cond.code ({ cls := "LastLoaf", name := "starves", desc := "(Z)I" } : MethodName) prog_1_method_32_code (3 : Nat) (Option.some ClassFile.FieldType.int) ∈ TB := tb_in (lwt_3 (List.mem_of_getElem? (i := 233) (by decide +kernel))) rfl
theorem w_3_230 : Cond.methodLink "LastLoafLaw" (255 : Nat) ({ cls := "LastLoaf", name := "starves", desc := "(Z)I" } : MethodName) ∈ TB := tb_in (lwt_3 (List.mem_of_getElem? (i := 230) (by decide +kernel))) rfl
theorem w_3_231 : Cond.instanceMethod ({ cls := "LastLoaf", name := "starves", desc := "(Z)I" } : MethodName) ∈ TB := tb_in (lwt_3 (List.mem_of_getElem? (i := 231) (by decide +kernel))) rfl
theorem dL_law__1979 : decode cL_law_ 1979 = .ok (.invokevirtual 255, 3) := by decide +kernel
theorem dL_law__1982 : decode cL_law_ 1982 = .ok (.aload_n 2, 1) := by decide +kernel
theorem dL_law__1983 : decode cL_law_ 1983 = .ok (.aload_n 0, 1) := by decide +kernel
theorem dL_law__1984 : decode cL_law_ 1984 = .ok (.iload 4, 2) := by decide +kernel
theorem dL_law__1986 : decode cL_law_ 1986 = .ok (.iconst 1, 1) := by decide +kernel
theorem dL_law__1987 : decode cL_law_ 1987 = .ok (.iadd, 1) := by decide +kernel
theorem dL_law__1988 : decode cL_law_ 1988 = .ok (.iaload, 1) := by decide +kernel
theorem dL_law__1989 : decode cL_law_ 1989 = .ok (.ifCond .eq 7, 3) := by decide +kernel
theorem dL_law__1992 : decode cL_law_ 1992 = .ok (.iconst 1, 1) := by decide +kernel
theorem dL_law__1993 : decode cL_law_ 1993 = .ok (.goto 4, 3) := by decide +kernel
theorem dL_law__1996 : decode cL_law_ 1996 = .ok (.iconst 0, 1) := by decide +kernel
theorem w_10_85 : Cond.selects "LastLoafModel" ({ cls := "LastLoafModel", name := "starves", desc := "(Z)I" } : MethodName) ({ cls := "LastLoafModel", name := "starves", desc := "(Z)I" } : MethodName) ∈ TB := tb_in (lwt_10 (List.mem_of_getElem? (i := 85) (by decide +kernel))) rfl
theorem w_10_86 : Cond.code ({ cls := "LastLoafModel", name := "starves", desc := "(Z)I" } : MethodName) prog_14_method_104_code (6 : Nat) (Option.some ClassFile.FieldType.int) ∈ TB := tb_in (lwt_10 (List.mem_of_getElem? (i := 86) (by decide +kernel))) rfl
theorem w_10_83 : Cond.methodLink "LastLoafLaw" (259 : Nat) ({ cls := "LastLoafModel", name := "starves", desc := "(Z)I" } : MethodName) ∈ TB := tb_in (lwt_10 (List.mem_of_getElem? (i := 83) (by decide +kernel))) rfl
theorem w_10_84 : Cond.instanceMethod ({ cls := "LastLoafModel", name := "starves", desc := "(Z)I" } : MethodName) ∈ TB := tb_in (lwt_10 (List.mem_of_getElem? (i := 84) (by decide +kernel))) rfl
theorem dL_law__1997 : decode cL_law_ 1997 = .ok (.invokevirtual 259, 3) := by decide +kernel
theorem dL_law__2000 : decode cL_law_ 2000 = .ok (.if_icmp .eq 1251, 3) := by decide +kernel
def Op_starves (RR : St → St → Prop) : Prop := ∀ (σ μ : St), RR σ μ → ∀ (a0 : Bool), ∃ (r1 : (Int32 × St)) (r2 : (Int32 × St)), q11_starves σ a0 = some r1 ∧ q12_starves μ a0 = some r2 ∧ r1.1 = r2.1 ∧ RR r1.2 r2.2
set_option maxHeartbeats 4000000 in
set_option maxRecDepth 100000 in
theorem law_30 {RR : St → St → Prop} (hop : Op_starves RR) {Θ : Tz} {cJ : ClassId} {Q : State → Prop} {w : Wp} {aM : Nat → Nat} {ao b L : Nat} {xs : Nat → Int32} (C : Gc Θ cL_law_ 7 RL (some .boolean) room_1 cJ) (hlt : Θ.1.2.1.stackTraces = false) (Lx : Lq Θ w aM ao) (S : Ls Θ b L xs) {σ μ : St} {o : Int64} {i kc ks : Nat} (hi : i + 6 ≤ L) (hk : kc + 4 ≤ 601024 ∧ ks + 24 ≤ 7293034) (hR : RR σ μ) (K : ∀ σ' μ' o', RR σ' μ' → G Θ 7 (kc + 4) (ks + 24) Q (LPx w aM ao cJ σ' μ' o') 3251 (llv w aM ao b i) []) : G Θ 7 kc ks Q (LPx w aM ao cJ σ μ o) 1964 (llv w aM ao b i) [] := by
  obtain ⟨r1, r2, h1, h2, he, hR2⟩ := hop σ μ hR (decide (¬ xs (i + 1) = 0))
  refine g_aload_n C 1 dL_law__1964 rfl rfl ?_
  refine l_arg C S 0 4 1 rfl rfl (by omega) rfl dL_law__1965 dL_law__1966 dL_law__1968 dL_law__1969 dL_law__1970 ?_
  refine g_nz C dL_law__1971 dL_law__1974 dL_law__1975 dL_law__1978 ?_
  refine l_callCi C Lx [.int (b2i (decide (¬ xs (i + 1) = 0)))] r1.1 r1.2 1 rfl (c11_starves (l := Θ.1.2.1) (w := w) (who_a := (decide (¬ xs (i + 1) = 0))) rfl Lx.2.1 h1) w_3_233 w_3_230 w_3_231 w_3_232 w_1_1 ⟨rfl, rfl, (Nat.le_of_ble_eq_true rfl), (Nat.le_of_ble_eq_true rfl)⟩ (by decide +kernel) rfl rfl (Nat.le_of_ble_eq_true rfl) ⟨Nat.le_trans (Nat.le_add_right _ _) hk.1, Nat.le_trans (Nat.le_add_right _ _) hk.2⟩ dL_law__1979 ?_
  refine g_aload_n C 2 dL_law__1982 rfl rfl ?_
  refine l_arg C S 0 4 1 rfl rfl (by omega) rfl dL_law__1983 dL_law__1984 dL_law__1986 dL_law__1987 dL_law__1988 ?_
  refine g_nz C dL_law__1989 dL_law__1992 dL_law__1993 dL_law__1996 ?_
  refine l_callMi C Lx [.int (b2i (decide (¬ xs (i + 1) = 0)))] r2.1 r2.2 1 rfl (c12_starves (l := Θ.1.2.1) (w := wm w aM) (who_a := (decide (¬ xs (i + 1) = 0))) rfl Lx.2.2.1 h2) w_10_86 w_10_83 w_10_84 w_10_85 w_1_14 ⟨rfl, rfl, (Nat.le_of_ble_eq_true rfl), (Nat.le_of_ble_eq_true rfl)⟩ (by decide +kernel) rfl rfl (Nat.le_of_ble_eq_true rfl) ⟨Nat.le_trans (Nat.le_add_right _ _) hk.1, Nat.le_trans (Nat.le_add_right _ _) hk.2⟩ dL_law__1997 ?_
  refine g_icmp_eq C 3251 dL_law__2000 (by decide) (fun _ => ?_) (fun h => absurd (he) h)
  exact G.wid (Nat.le_add_right _ _) (Nat.le_add_right _ _) (K _ _ o hR2)
/-! case 31 -/
theorem dL_law__2005 : decode cL_law_ 2005 = .ok (.aload_n 1, 1) := by decide +kernel
theorem dL_law__2006 : decode cL_law_ 2006 = .ok (.aload_n 3, 1) := by decide +kernel
theorem w_7_33 : Cond.codeWith ({ cls := "LastLoafLaw", name := "ballots", desc := "(LLastLoaf;[J)I" } : MethodName) method_27_code (3 : Nat) (Option.some ClassFile.FieldType.int) [((0 : Nat), (8 : Nat), (11 : Nat), (13 : Nat))] ∈ TB := tb_in (lwt_7 (List.mem_of_getElem? (i := 33) (by decide +kernel))) rfl
theorem w_7_31 : Cond.methodLink "LastLoafLaw" (260 : Nat) ({ cls := "LastLoafLaw", name := "ballots", desc := "(LLastLoaf;[J)I" } : MethodName) ∈ TB := tb_in (lwt_7 (List.mem_of_getElem? (i := 31) (by decide +kernel))) rfl
theorem w_7_32 : Cond.static ({ cls := "LastLoafLaw", name := "ballots", desc := "(LLastLoaf;[J)I" } : MethodName) ∈ TB := tb_in (lwt_7 (List.mem_of_getElem? (i := 32) (by decide +kernel))) rfl
theorem dL_law__2007 : decode cL_law_ 2007 = .ok (.invokestatic 260, 3) := by decide +kernel
theorem dL_law__2010 : decode cL_law_ 2010 = .ok (.istore 5, 2) := by decide +kernel
theorem dL_law__2012 : decode cL_law_ 2012 = .ok (.aload_n 2, 1) := by decide +kernel
theorem w_10_89 : Cond.selects "LastLoafModel" ({ cls := "LastLoafModel", name := "ballots", desc := "()I" } : MethodName) ({ cls := "LastLoafModel", name := "ballots", desc := "()I" } : MethodName) ∈ TB := tb_in (lwt_10 (List.mem_of_getElem? (i := 89) (by decide +kernel))) rfl
theorem w_10_90 : Cond.code ({ cls := "LastLoafModel", name := "ballots", desc := "()I" } : MethodName) prog_14_method_110_code (1 : Nat) (Option.some ClassFile.FieldType.int) ∈ TB := tb_in (lwt_10 (List.mem_of_getElem? (i := 90) (by decide +kernel))) rfl
theorem w_10_87 : Cond.methodLink "LastLoafLaw" (262 : Nat) ({ cls := "LastLoafModel", name := "ballots", desc := "()I" } : MethodName) ∈ TB := tb_in (lwt_10 (List.mem_of_getElem? (i := 87) (by decide +kernel))) rfl
theorem w_10_88 : Cond.instanceMethod ({ cls := "LastLoafModel", name := "ballots", desc := "()I" } : MethodName) ∈ TB := tb_in (lwt_10 (List.mem_of_getElem? (i := 88) (by decide +kernel))) rfl
theorem dL_law__2013 : decode cL_law_ 2013 = .ok (.invokevirtual 262, 3) := by decide +kernel
theorem dL_law__2016 : decode cL_law_ 2016 = .ok (.istore 6, 2) := by decide +kernel
theorem dL_law__2018 : decode cL_law_ 2018 = .ok (.aload_n 2, 1) := by decide +kernel
theorem dL_law__2019 : decode cL_law_ 2019 = .ok (.invokevirtual 163, 3) := by decide +kernel
theorem dL_law__2022 : decode cL_law_ 2022 = .ok (.iload 5, 2) := by decide +kernel
theorem dL_law__2024 : decode cL_law_ 2024 = .ok (.if_icmp .eq 5, 3) := by decide +kernel
theorem dL_law__2029 : decode cL_law_ 2029 = .ok (.iload 5, 2) := by decide +kernel
theorem dL_law__2031 : decode cL_law_ 2031 = .ok (.ifCond .ne 15, 3) := by decide +kernel
theorem dL_law__2046 : decode cL_law_ 2046 = .ok (.goto 1205, 3) := by decide +kernel
theorem dL_law__2034 : decode cL_law_ 2034 = .ok (.aload_n 3, 1) := by decide +kernel
theorem dL_law__2035 : decode cL_law_ 2035 = .ok (.iconst 0, 1) := by decide +kernel
theorem dL_law__2036 : decode cL_law_ 2036 = .ok (.laload, 1) := by decide +kernel
theorem dL_law__2037 : decode cL_law_ 2037 = .ok (.iload 6, 2) := by decide +kernel
theorem dL_law__2039 : decode cL_law_ 2039 = .ok (.i2l, 1) := by decide +kernel
theorem dL_law__2040 : decode cL_law_ 2040 = .ok (.lcmp, 1) := by decide +kernel
theorem dL_law__2041 : decode cL_law_ 2041 = .ok (.ifCond .eq 5, 3) := by decide +kernel
def Op_ballots (RR : St → St → Prop) : Prop := ∀ (σ μ : St), RR σ μ → ∃ (r1 : Sum Nat Int32 × St) (r2 : Int32 × St), q11_ballots σ  = some r1 ∧ q12_ballots μ  = some r2 ∧ Sx [0] r1 r2 ∧ RR r1.2 r2.2
set_option maxHeartbeats 4000000 in
set_option maxRecDepth 100000 in
theorem law_31 {RR : St → St → Prop} (hop : Op_ballots RR) {Θ : Tz} {cJ : ClassId} {Q : State → Prop} {w : Wp} {aM : Nat → Nat} {ao b L : Nat} {xs : Nat → Int32} (C : Gc Θ cL_law_ 7 RL (some .boolean) room_1 cJ) (hlt : Θ.1.2.1.stackTraces = false) (Lx : Lq Θ w aM ao) (S : Ls Θ b L xs) {σ μ : St} {o : Int64} {i kc ks : Nat} (hi : i + 6 ≤ L) (hk : kc + 4 ≤ 601024 ∧ ks + 24 ≤ 7293034) (hR : RR σ μ) (K : ∀ σ' μ' o', RR σ' μ' → G Θ 7 (kc + 4) (ks + 24) Q (LPx w aM ao cJ σ' μ' o') 3251 (llv w aM ao b i) []) : G Θ 7 kc ks Q (LPx w aM ao cJ σ μ o) 2005 (llv w aM ao b i) [] := by
  obtain ⟨r1, r2, h1, h2, he, hR2⟩ := hop σ μ hR 
  refine g_aload_n C 1 dL_law__2005 rfl rfl ?_
  refine g_aload_n C 3 dL_law__2006 rfl rfl ?_
  refine l_callW C Lx [.ref (w.2.2.1 0), .ref ao] 2 (wr_ballots (l := Θ.1.2.1) Lx.2.1 hlt Lx.2.2.2.2.2.2.2.1 h1 (Sx_in he)) w_7_33 w_7_31 w_7_32 w_1_0 ⟨rfl, rfl, (Nat.le_of_ble_eq_true rfl), (Nat.le_of_ble_eq_true rfl)⟩ (by decide +kernel) rfl rfl (Nat.le_of_ble_eq_true rfl) hk dL_law__2007 ?_
  refine g_istore C dL_law__2010 (Nat.le_of_ble_eq_true rfl) rfl ?_
  refine g_aload_n C 3 dL_law__2012 rfl rfl ?_
  refine l_callMi C Lx [] r2.1 r2.2 0 rfl (c12_ballots (l := Θ.1.2.1) (w := wm w aM)  rfl Lx.2.2.1 h2) w_10_90 w_10_87 w_10_88 w_10_89 w_1_14 ⟨rfl, rfl, (Nat.le_of_ble_eq_true rfl), (Nat.le_of_ble_eq_true rfl)⟩ (by decide +kernel) rfl rfl (Nat.le_of_ble_eq_true rfl) hk dL_law__2013 ?_
  refine g_istore C dL_law__2016 (Nat.le_of_ble_eq_true rfl) rfl ?_
  refine g_aload_n C 4 dL_law__2018 rfl rfl ?_
  refine l_callMi C Lx [] (q12_thrown r2.2) r2.2 0 rfl (c12_thrown (l := Θ.1.2.1) (w := wm w aM) rfl Lx.2.2.1) w_8_130 w_8_127 w_8_128 w_8_129 w_1_14 ⟨rfl, rfl, (Nat.le_of_ble_eq_true rfl), (Nat.le_of_ble_eq_true rfl)⟩ (by decide +kernel) rfl rfl (Nat.le_of_ble_eq_true rfl) hk dL_law__2019 ?_
  refine g_iload C 1 dL_law__2022 rfl ?_
  refine g_icmp_eq C 2029 dL_law__2024 (by decide) (fun _ => ?_) (fun h => absurd (Sx_k he) h)
  refine g_iload C 1 dL_law__2029 rfl ?_
  refine g_if_ne C 2046 dL_law__2031 (by decide) (fun _ => ?_) (fun h0 => ?_)
  · refine g_goto C 3251 dL_law__2046 (by decide) ?_
    refine G.sub [2, 3, 4, 5, 6] rfl ?_
    exact K _ _ _ hR2
  · refine g_aload_n C 5 dL_law__2034 rfl rfl ?_
    refine g_iconst (v := 0) C dL_law__2035 rfl ?_
    refine l_lald C (by rw [Lx.1]) dL_law__2036 ?_
    refine g_iload C 0 dL_law__2037 rfl ?_
    refine g_i2l C dL_law__2039 ?_
    refine g_lcmp C dL_law__2040 ?_
    rw [Sx_o (f := (fun v => v)) (o := o) (by decide) he h0, lg_cmp_self]
    refine g_if_eq C 2046 dL_law__2041 (by decide) (fun _ => ?_) (fun h => absurd rfl h)
    refine g_goto C 3251 dL_law__2046 (by decide) ?_
    refine G.sub [2, 3, 4, 5, 6] rfl ?_
    exact K _ _ _ hR2
/-! case 32 -/
theorem dL_law__2049 : decode cL_law_ 2049 = .ok (.aload_n 1, 1) := by decide +kernel
theorem dL_law__2050 : decode cL_law_ 2050 = .ok (.aload_n 0, 1) := by decide +kernel
theorem dL_law__2051 : decode cL_law_ 2051 = .ok (.iload 4, 2) := by decide +kernel
theorem dL_law__2053 : decode cL_law_ 2053 = .ok (.iconst 1, 1) := by decide +kernel
theorem dL_law__2054 : decode cL_law_ 2054 = .ok (.iadd, 1) := by decide +kernel
theorem dL_law__2055 : decode cL_law_ 2055 = .ok (.iaload, 1) := by decide +kernel
theorem dL_law__2056 : decode cL_law_ 2056 = .ok (.aload_n 3, 1) := by decide +kernel
theorem w_7_93 : Cond.codeWith ({ cls := "LastLoafLaw", name := "sure", desc := "(LLastLoaf;I[J)I" } : MethodName) method_28_code (4 : Nat) (Option.some ClassFile.FieldType.int) [((0 : Nat), (9 : Nat), (12 : Nat), (24 : Nat)), ((0 : Nat), (9 : Nat), (15 : Nat), (13 : Nat))] ∈ TB := tb_in (lwt_7 (List.mem_of_getElem? (i := 93) (by decide +kernel))) rfl
theorem w_7_91 : Cond.methodLink "LastLoafLaw" (263 : Nat) ({ cls := "LastLoafLaw", name := "sure", desc := "(LLastLoaf;I[J)I" } : MethodName) ∈ TB := tb_in (lwt_7 (List.mem_of_getElem? (i := 91) (by decide +kernel))) rfl
theorem w_7_92 : Cond.static ({ cls := "LastLoafLaw", name := "sure", desc := "(LLastLoaf;I[J)I" } : MethodName) ∈ TB := tb_in (lwt_7 (List.mem_of_getElem? (i := 92) (by decide +kernel))) rfl
theorem dL_law__2057 : decode cL_law_ 2057 = .ok (.invokestatic 263, 3) := by decide +kernel
theorem dL_law__2060 : decode cL_law_ 2060 = .ok (.istore 5, 2) := by decide +kernel
theorem dL_law__2062 : decode cL_law_ 2062 = .ok (.aload_n 2, 1) := by decide +kernel
theorem dL_law__2063 : decode cL_law_ 2063 = .ok (.aload_n 0, 1) := by decide +kernel
theorem dL_law__2064 : decode cL_law_ 2064 = .ok (.iload 4, 2) := by decide +kernel
theorem dL_law__2066 : decode cL_law_ 2066 = .ok (.iconst 1, 1) := by decide +kernel
theorem dL_law__2067 : decode cL_law_ 2067 = .ok (.iadd, 1) := by decide +kernel
theorem dL_law__2068 : decode cL_law_ 2068 = .ok (.iaload, 1) := by decide +kernel
theorem w_10_113 : Cond.selects "LastLoafModel" ({ cls := "LastLoafModel", name := "sure", desc := "(I)I" } : MethodName) ({ cls := "LastLoafModel", name := "sure", desc := "(I)I" } : MethodName) ∈ TB := tb_in (lwt_10 (List.mem_of_getElem? (i := 113) (by decide +kernel))) rfl
theorem w_10_114 : Cond.code ({ cls := "LastLoafModel", name := "sure", desc := "(I)I" } : MethodName) prog_14_method_111_code (4 : Nat) (Option.some ClassFile.FieldType.int) ∈ TB := tb_in (lwt_10 (List.mem_of_getElem? (i := 114) (by decide +kernel))) rfl
theorem w_10_111 : Cond.methodLink "LastLoafLaw" (265 : Nat) ({ cls := "LastLoafModel", name := "sure", desc := "(I)I" } : MethodName) ∈ TB := tb_in (lwt_10 (List.mem_of_getElem? (i := 111) (by decide +kernel))) rfl
theorem w_10_112 : Cond.instanceMethod ({ cls := "LastLoafModel", name := "sure", desc := "(I)I" } : MethodName) ∈ TB := tb_in (lwt_10 (List.mem_of_getElem? (i := 112) (by decide +kernel))) rfl
theorem dL_law__2069 : decode cL_law_ 2069 = .ok (.invokevirtual 265, 3) := by decide +kernel
theorem dL_law__2072 : decode cL_law_ 2072 = .ok (.istore 6, 2) := by decide +kernel
theorem dL_law__2074 : decode cL_law_ 2074 = .ok (.aload_n 2, 1) := by decide +kernel
theorem dL_law__2075 : decode cL_law_ 2075 = .ok (.invokevirtual 163, 3) := by decide +kernel
theorem dL_law__2078 : decode cL_law_ 2078 = .ok (.iload 5, 2) := by decide +kernel
theorem dL_law__2080 : decode cL_law_ 2080 = .ok (.if_icmp .eq 5, 3) := by decide +kernel
theorem dL_law__2085 : decode cL_law_ 2085 = .ok (.iload 5, 2) := by decide +kernel
theorem dL_law__2087 : decode cL_law_ 2087 = .ok (.ifCond .ne 15, 3) := by decide +kernel
theorem dL_law__2102 : decode cL_law_ 2102 = .ok (.goto 1149, 3) := by decide +kernel
theorem dL_law__2090 : decode cL_law_ 2090 = .ok (.aload_n 3, 1) := by decide +kernel
theorem dL_law__2091 : decode cL_law_ 2091 = .ok (.iconst 0, 1) := by decide +kernel
theorem dL_law__2092 : decode cL_law_ 2092 = .ok (.laload, 1) := by decide +kernel
theorem dL_law__2093 : decode cL_law_ 2093 = .ok (.iload 6, 2) := by decide +kernel
theorem dL_law__2095 : decode cL_law_ 2095 = .ok (.i2l, 1) := by decide +kernel
theorem dL_law__2096 : decode cL_law_ 2096 = .ok (.lcmp, 1) := by decide +kernel
theorem dL_law__2097 : decode cL_law_ 2097 = .ok (.ifCond .eq 5, 3) := by decide +kernel
def Op_sure (RR : St → St → Prop) : Prop := ∀ (σ μ : St), RR σ μ → ∀ (a0 : Int32), ∃ (r1 : Sum Nat Int32 × St) (r2 : Int32 × St), q11_sure σ a0 = some r1 ∧ q12_sure μ a0 = some r2 ∧ Sx [2, 0] r1 r2 ∧ RR r1.2 r2.2
set_option maxHeartbeats 4000000 in
set_option maxRecDepth 100000 in
theorem law_32 {RR : St → St → Prop} (hop : Op_sure RR) {Θ : Tz} {cJ : ClassId} {Q : State → Prop} {w : Wp} {aM : Nat → Nat} {ao b L : Nat} {xs : Nat → Int32} (C : Gc Θ cL_law_ 7 RL (some .boolean) room_1 cJ) (hlt : Θ.1.2.1.stackTraces = false) (Lx : Lq Θ w aM ao) (S : Ls Θ b L xs) {σ μ : St} {o : Int64} {i kc ks : Nat} (hi : i + 6 ≤ L) (hk : kc + 4 ≤ 601024 ∧ ks + 24 ≤ 7293034) (hR : RR σ μ) (K : ∀ σ' μ' o', RR σ' μ' → G Θ 7 (kc + 4) (ks + 24) Q (LPx w aM ao cJ σ' μ' o') 3251 (llv w aM ao b i) []) : G Θ 7 kc ks Q (LPx w aM ao cJ σ μ o) 2049 (llv w aM ao b i) [] := by
  obtain ⟨r1, r2, h1, h2, he, hR2⟩ := hop σ μ hR (xs (i + 1))
  refine g_aload_n C 1 dL_law__2049 rfl rfl ?_
  refine l_arg C S 0 4 1 rfl rfl (by omega) rfl dL_law__2050 dL_law__2051 dL_law__2053 dL_law__2054 dL_law__2055 ?_
  refine g_aload_n C 3 dL_law__2056 rfl rfl ?_
  refine l_callW C Lx [.ref (w.2.2.1 0), .int (xs (i + 1)), .ref ao] 3 (wr_sure (l := Θ.1.2.1) Lx.2.1 hlt Lx.2.2.2.2.2.2.2.1 h1 (Sx_in he)) w_7_93 w_7_91 w_7_92 w_1_0 ⟨rfl, rfl, (Nat.le_of_ble_eq_true rfl), (Nat.le_of_ble_eq_true rfl)⟩ (by decide +kernel) rfl rfl (Nat.le_of_ble_eq_true rfl) hk dL_law__2057 ?_
  refine g_istore C dL_law__2060 (Nat.le_of_ble_eq_true rfl) rfl ?_
  refine g_aload_n C 3 dL_law__2062 rfl rfl ?_
  refine l_arg C S 1 5 1 rfl rfl (by omega) rfl dL_law__2063 dL_law__2064 dL_law__2066 dL_law__2067 dL_law__2068 ?_
  refine l_callMi C Lx [.int (xs (i + 1))] r2.1 r2.2 1 rfl (c12_sure (l := Θ.1.2.1) (w := wm w aM) (p_a := (xs (i + 1))) rfl Lx.2.2.1 h2) w_10_114 w_10_111 w_10_112 w_10_113 w_1_14 ⟨rfl, rfl, (Nat.le_of_ble_eq_true rfl), (Nat.le_of_ble_eq_true rfl)⟩ (by decide +kernel) rfl rfl (Nat.le_of_ble_eq_true rfl) hk dL_law__2069 ?_
  refine g_istore C dL_law__2072 (Nat.le_of_ble_eq_true rfl) rfl ?_
  refine g_aload_n C 4 dL_law__2074 rfl rfl ?_
  refine l_callMi C Lx [] (q12_thrown r2.2) r2.2 0 rfl (c12_thrown (l := Θ.1.2.1) (w := wm w aM) rfl Lx.2.2.1) w_8_130 w_8_127 w_8_128 w_8_129 w_1_14 ⟨rfl, rfl, (Nat.le_of_ble_eq_true rfl), (Nat.le_of_ble_eq_true rfl)⟩ (by decide +kernel) rfl rfl (Nat.le_of_ble_eq_true rfl) hk dL_law__2075 ?_
  refine g_iload C 1 dL_law__2078 rfl ?_
  refine g_icmp_eq C 2085 dL_law__2080 (by decide) (fun _ => ?_) (fun h => absurd (Sx_k he) h)
  refine g_iload C 1 dL_law__2085 rfl ?_
  refine g_if_ne C 2102 dL_law__2087 (by decide) (fun _ => ?_) (fun h0 => ?_)
  · refine g_goto C 3251 dL_law__2102 (by decide) ?_
    refine G.sub [2, 3, 4, 5, 6] rfl ?_
    exact K _ _ _ hR2
  · refine g_aload_n C 5 dL_law__2090 rfl rfl ?_
    refine g_iconst (v := 0) C dL_law__2091 rfl ?_
    refine l_lald C (by rw [Lx.1]) dL_law__2092 ?_
    refine g_iload C 0 dL_law__2093 rfl ?_
    refine g_i2l C dL_law__2095 ?_
    refine g_lcmp C dL_law__2096 ?_
    rw [Sx_o (f := (fun v => v)) (o := o) (by decide) he h0, lg_cmp_self]
    refine g_if_eq C 2102 dL_law__2097 (by decide) (fun _ => ?_) (fun h => absurd rfl h)
    refine g_goto C 3251 dL_law__2102 (by decide) ?_
    refine G.sub [2, 3, 4, 5, 6] rfl ?_
    exact K _ _ _ hR2
/-! case 33 -/
theorem dL_law__2105 : decode cL_law_ 2105 = .ok (.aload_n 1, 1) := by decide +kernel
theorem dL_law__2106 : decode cL_law_ 2106 = .ok (.aload_n 3, 1) := by decide +kernel
theorem w_7_108 : Cond.codeWith ({ cls := "LastLoafLaw", name := "ask", desc := "(LLastLoaf;[J)I" } : MethodName) method_29_code (3 : Nat) (Option.some ClassFile.FieldType.int) [((0 : Nat), (8 : Nat), (11 : Nat), (13 : Nat))] ∈ TB := tb_in (lwt_7 (List.mem_of_getElem? (i := 108) (by decide +kernel))) rfl
theorem w_7_106 : Cond.methodLink "LastLoafLaw" (266 : Nat) ({ cls := "LastLoafLaw", name := "ask", desc := "(LLastLoaf;[J)I" } : MethodName) ∈ TB := tb_in (lwt_7 (List.mem_of_getElem? (i := 106) (by decide +kernel))) rfl
theorem w_7_107 : Cond.static ({ cls := "LastLoafLaw", name := "ask", desc := "(LLastLoaf;[J)I" } : MethodName) ∈ TB := tb_in (lwt_7 (List.mem_of_getElem? (i := 107) (by decide +kernel))) rfl
theorem dL_law__2107 : decode cL_law_ 2107 = .ok (.invokestatic 266, 3) := by decide +kernel
theorem dL_law__2110 : decode cL_law_ 2110 = .ok (.istore 5, 2) := by decide +kernel
theorem dL_law__2112 : decode cL_law_ 2112 = .ok (.aload_n 2, 1) := by decide +kernel
theorem w_10_117 : Cond.selects "LastLoafModel" ({ cls := "LastLoafModel", name := "ask", desc := "()I" } : MethodName) ({ cls := "LastLoafModel", name := "ask", desc := "()I" } : MethodName) ∈ TB := tb_in (lwt_10 (List.mem_of_getElem? (i := 117) (by decide +kernel))) rfl
theorem w_10_118 : Cond.code ({ cls := "LastLoafModel", name := "ask", desc := "()I" } : MethodName) prog_14_method_112_code (6 : Nat) (Option.some ClassFile.FieldType.int) ∈ TB := tb_in (lwt_10 (List.mem_of_getElem? (i := 118) (by decide +kernel))) rfl
theorem w_10_115 : Cond.methodLink "LastLoafLaw" (268 : Nat) ({ cls := "LastLoafModel", name := "ask", desc := "()I" } : MethodName) ∈ TB := tb_in (lwt_10 (List.mem_of_getElem? (i := 115) (by decide +kernel))) rfl
theorem w_10_116 : Cond.instanceMethod ({ cls := "LastLoafModel", name := "ask", desc := "()I" } : MethodName) ∈ TB := tb_in (lwt_10 (List.mem_of_getElem? (i := 116) (by decide +kernel))) rfl
theorem dL_law__2113 : decode cL_law_ 2113 = .ok (.invokevirtual 268, 3) := by decide +kernel
theorem dL_law__2116 : decode cL_law_ 2116 = .ok (.istore 6, 2) := by decide +kernel
theorem dL_law__2118 : decode cL_law_ 2118 = .ok (.aload_n 2, 1) := by decide +kernel
theorem dL_law__2119 : decode cL_law_ 2119 = .ok (.invokevirtual 163, 3) := by decide +kernel
theorem dL_law__2122 : decode cL_law_ 2122 = .ok (.iload 5, 2) := by decide +kernel
theorem dL_law__2124 : decode cL_law_ 2124 = .ok (.if_icmp .eq 5, 3) := by decide +kernel
theorem dL_law__2129 : decode cL_law_ 2129 = .ok (.iload 5, 2) := by decide +kernel
theorem dL_law__2131 : decode cL_law_ 2131 = .ok (.ifCond .ne 15, 3) := by decide +kernel
theorem dL_law__2146 : decode cL_law_ 2146 = .ok (.goto 1105, 3) := by decide +kernel
theorem dL_law__2134 : decode cL_law_ 2134 = .ok (.aload_n 3, 1) := by decide +kernel
theorem dL_law__2135 : decode cL_law_ 2135 = .ok (.iconst 0, 1) := by decide +kernel
theorem dL_law__2136 : decode cL_law_ 2136 = .ok (.laload, 1) := by decide +kernel
theorem dL_law__2137 : decode cL_law_ 2137 = .ok (.iload 6, 2) := by decide +kernel
theorem dL_law__2139 : decode cL_law_ 2139 = .ok (.i2l, 1) := by decide +kernel
theorem dL_law__2140 : decode cL_law_ 2140 = .ok (.lcmp, 1) := by decide +kernel
theorem dL_law__2141 : decode cL_law_ 2141 = .ok (.ifCond .eq 5, 3) := by decide +kernel
def Op_ask (RR : St → St → Prop) : Prop := ∀ (σ μ : St), RR σ μ → ∃ (r1 : Sum Nat Int32 × St) (r2 : Int32 × St), q11_ask σ  = some r1 ∧ q12_ask μ  = some r2 ∧ Sx [0] r1 r2 ∧ RR r1.2 r2.2
set_option maxHeartbeats 4000000 in
set_option maxRecDepth 100000 in
theorem law_33 {RR : St → St → Prop} (hop : Op_ask RR) {Θ : Tz} {cJ : ClassId} {Q : State → Prop} {w : Wp} {aM : Nat → Nat} {ao b L : Nat} {xs : Nat → Int32} (C : Gc Θ cL_law_ 7 RL (some .boolean) room_1 cJ) (hlt : Θ.1.2.1.stackTraces = false) (Lx : Lq Θ w aM ao) (S : Ls Θ b L xs) {σ μ : St} {o : Int64} {i kc ks : Nat} (hi : i + 6 ≤ L) (hk : kc + 4 ≤ 601024 ∧ ks + 24 ≤ 7293034) (hR : RR σ μ) (K : ∀ σ' μ' o', RR σ' μ' → G Θ 7 (kc + 4) (ks + 24) Q (LPx w aM ao cJ σ' μ' o') 3251 (llv w aM ao b i) []) : G Θ 7 kc ks Q (LPx w aM ao cJ σ μ o) 2105 (llv w aM ao b i) [] := by
  obtain ⟨r1, r2, h1, h2, he, hR2⟩ := hop σ μ hR 
  refine g_aload_n C 1 dL_law__2105 rfl rfl ?_
  refine g_aload_n C 3 dL_law__2106 rfl rfl ?_
  refine l_callW C Lx [.ref (w.2.2.1 0), .ref ao] 2 (wr_ask (l := Θ.1.2.1) Lx.2.1 hlt Lx.2.2.2.2.2.2.2.1 h1 (Sx_in he)) w_7_108 w_7_106 w_7_107 w_1_0 ⟨rfl, rfl, (Nat.le_of_ble_eq_true rfl), (Nat.le_of_ble_eq_true rfl)⟩ (by decide +kernel) rfl rfl (Nat.le_of_ble_eq_true rfl) hk dL_law__2107 ?_
  refine g_istore C dL_law__2110 (Nat.le_of_ble_eq_true rfl) rfl ?_
  refine g_aload_n C 3 dL_law__2112 rfl rfl ?_
  refine l_callMi C Lx [] r2.1 r2.2 0 rfl (c12_ask (l := Θ.1.2.1) (w := wm w aM)  rfl Lx.2.2.1 h2) w_10_118 w_10_115 w_10_116 w_10_117 w_1_14 ⟨rfl, rfl, (Nat.le_of_ble_eq_true rfl), (Nat.le_of_ble_eq_true rfl)⟩ (by decide +kernel) rfl rfl (Nat.le_of_ble_eq_true rfl) hk dL_law__2113 ?_
  refine g_istore C dL_law__2116 (Nat.le_of_ble_eq_true rfl) rfl ?_
  refine g_aload_n C 4 dL_law__2118 rfl rfl ?_
  refine l_callMi C Lx [] (q12_thrown r2.2) r2.2 0 rfl (c12_thrown (l := Θ.1.2.1) (w := wm w aM) rfl Lx.2.2.1) w_8_130 w_8_127 w_8_128 w_8_129 w_1_14 ⟨rfl, rfl, (Nat.le_of_ble_eq_true rfl), (Nat.le_of_ble_eq_true rfl)⟩ (by decide +kernel) rfl rfl (Nat.le_of_ble_eq_true rfl) hk dL_law__2119 ?_
  refine g_iload C 1 dL_law__2122 rfl ?_
  refine g_icmp_eq C 2129 dL_law__2124 (by decide) (fun _ => ?_) (fun h => absurd (Sx_k he) h)
  refine g_iload C 1 dL_law__2129 rfl ?_
  refine g_if_ne C 2146 dL_law__2131 (by decide) (fun _ => ?_) (fun h0 => ?_)
  · refine g_goto C 3251 dL_law__2146 (by decide) ?_
    refine G.sub [2, 3, 4, 5, 6] rfl ?_
    exact K _ _ _ hR2
  · refine g_aload_n C 5 dL_law__2134 rfl rfl ?_
    refine g_iconst (v := 0) C dL_law__2135 rfl ?_
    refine l_lald C (by rw [Lx.1]) dL_law__2136 ?_
    refine g_iload C 0 dL_law__2137 rfl ?_
    refine g_i2l C dL_law__2139 ?_
    refine g_lcmp C dL_law__2140 ?_
    rw [Sx_o (f := (fun v => v)) (o := o) (by decide) he h0, lg_cmp_self]
    refine g_if_eq C 2146 dL_law__2141 (by decide) (fun _ => ?_) (fun h => absurd rfl h)
    refine g_goto C 3251 dL_law__2146 (by decide) ?_
    refine G.sub [2, 3, 4, 5, 6] rfl ?_
    exact K _ _ _ hR2
/-! case 34 -/
theorem dL_law__2149 : decode cL_law_ 2149 = .ok (.aload_n 1, 1) := by decide +kernel
theorem dL_law__2150 : decode cL_law_ 2150 = .ok (.aload_n 0, 1) := by decide +kernel
theorem dL_law__2151 : decode cL_law_ 2151 = .ok (.iload 4, 2) := by decide +kernel
theorem dL_law__2153 : decode cL_law_ 2153 = .ok (.iconst 1, 1) := by decide +kernel
theorem dL_law__2154 : decode cL_law_ 2154 = .ok (.iadd, 1) := by decide +kernel
theorem dL_law__2155 : decode cL_law_ 2155 = .ok (.iaload, 1) := by decide +kernel
theorem w_3_237 : Cond.selects "LastLoaf" ({ cls := "LastLoaf", name := "carries", desc := "(I)Z" } : MethodName) ({ cls := "LastLoaf", name := "carries", desc := "(I)Z" } : MethodName) ∈ TB := tb_in (lwt_3 (List.mem_of_getElem? (i := 237) (by decide +kernel))) rfl
theorem w_3_238 : Cond.code ({ cls := "LastLoaf", name := "carries", desc := "(I)Z" } : MethodName) prog_1_method_36_code (2 : Nat) (Option.some ClassFile.FieldType.boolean) ∈ TB := tb_in (lwt_3 (List.mem_of_getElem? (i := 238) (by decide +kernel))) rfl
theorem w_3_235 : Cond.methodLink "LastLoafLaw" (269 : Nat) ({ cls := "LastLoaf", name := "carries", desc := "(I)Z" } : MethodName) ∈ TB := tb_in (lwt_3 (List.mem_of_getElem? (i := 235) (by decide +kernel))) rfl
theorem w_3_236 : Cond.instanceMethod ({ cls := "LastLoaf", name := "carries", desc := "(I)Z" } : MethodName) ∈ TB := tb_in (lwt_3 (List.mem_of_getElem? (i := 236) (by decide +kernel))) rfl
theorem dL_law__2156 : decode cL_law_ 2156 = .ok (.invokevirtual 269, 3) := by decide +kernel
theorem dL_law__2159 : decode cL_law_ 2159 = .ok (.aload_n 2, 1) := by decide +kernel
theorem dL_law__2160 : decode cL_law_ 2160 = .ok (.aload_n 0, 1) := by decide +kernel
theorem dL_law__2161 : decode cL_law_ 2161 = .ok (.iload 4, 2) := by decide +kernel
theorem dL_law__2163 : decode cL_law_ 2163 = .ok (.iconst 1, 1) := by decide +kernel
theorem dL_law__2164 : decode cL_law_ 2164 = .ok (.iadd, 1) := by decide +kernel
theorem dL_law__2165 : decode cL_law_ 2165 = .ok (.iaload, 1) := by decide +kernel
theorem w_10_121 : Cond.selects "LastLoafModel" ({ cls := "LastLoafModel", name := "carries", desc := "(I)Z" } : MethodName) ({ cls := "LastLoafModel", name := "carries", desc := "(I)Z" } : MethodName) ∈ TB := tb_in (lwt_10 (List.mem_of_getElem? (i := 121) (by decide +kernel))) rfl
theorem w_10_122 : Cond.code ({ cls := "LastLoafModel", name := "carries", desc := "(I)Z" } : MethodName) prog_14_method_115_code (2 : Nat) (Option.some ClassFile.FieldType.boolean) ∈ TB := tb_in (lwt_10 (List.mem_of_getElem? (i := 122) (by decide +kernel))) rfl
theorem w_10_119 : Cond.methodLink "LastLoafLaw" (272 : Nat) ({ cls := "LastLoafModel", name := "carries", desc := "(I)Z" } : MethodName) ∈ TB := tb_in (lwt_10 (List.mem_of_getElem? (i := 119) (by decide +kernel))) rfl
theorem w_10_120 : Cond.instanceMethod ({ cls := "LastLoafModel", name := "carries", desc := "(I)Z" } : MethodName) ∈ TB := tb_in (lwt_10 (List.mem_of_getElem? (i := 120) (by decide +kernel))) rfl
theorem dL_law__2166 : decode cL_law_ 2166 = .ok (.invokevirtual 272, 3) := by decide +kernel
theorem dL_law__2169 : decode cL_law_ 2169 = .ok (.if_icmp .eq 1082, 3) := by decide +kernel
def Op_carries (RR : St → St → Prop) : Prop := ∀ (σ μ : St), RR σ μ → ∀ (a0 : Int32), ∃ (r1 : Bool) (r2 : (Bool × St)), q11_carries σ a0 = some r1 ∧ q12_carries μ a0 = some r2 ∧ r1 = r2.1 ∧ RR σ r2.2
set_option maxHeartbeats 4000000 in
set_option maxRecDepth 100000 in
theorem law_34 {RR : St → St → Prop} (hop : Op_carries RR) {Θ : Tz} {cJ : ClassId} {Q : State → Prop} {w : Wp} {aM : Nat → Nat} {ao b L : Nat} {xs : Nat → Int32} (C : Gc Θ cL_law_ 7 RL (some .boolean) room_1 cJ) (hlt : Θ.1.2.1.stackTraces = false) (Lx : Lq Θ w aM ao) (S : Ls Θ b L xs) {σ μ : St} {o : Int64} {i kc ks : Nat} (hi : i + 6 ≤ L) (hk : kc + 4 ≤ 601024 ∧ ks + 24 ≤ 7293034) (hR : RR σ μ) (K : ∀ σ' μ' o', RR σ' μ' → G Θ 7 (kc + 4) (ks + 24) Q (LPx w aM ao cJ σ' μ' o') 3251 (llv w aM ao b i) []) : G Θ 7 kc ks Q (LPx w aM ao cJ σ μ o) 2149 (llv w aM ao b i) [] := by
  obtain ⟨r1, r2, h1, h2, he, hR2⟩ := hop σ μ hR (xs (i + 1))
  refine g_aload_n C 1 dL_law__2149 rfl rfl ?_
  refine l_arg C S 0 4 1 rfl rfl (by omega) rfl dL_law__2150 dL_law__2151 dL_law__2153 dL_law__2154 dL_law__2155 ?_
  refine l_callCi C Lx [.int (xs (i + 1))] (b2i r1) σ 1 rfl (c11_carries (l := Θ.1.2.1) (w := w) (house_a := (xs (i + 1))) rfl Lx.2.1 h1) w_3_238 w_3_235 w_3_236 w_3_237 w_1_1 ⟨rfl, rfl, (Nat.le_of_ble_eq_true rfl), (Nat.le_of_ble_eq_true rfl)⟩ (by decide +kernel) rfl rfl (Nat.le_of_ble_eq_true rfl) ⟨Nat.le_trans (Nat.le_add_right _ _) hk.1, Nat.le_trans (Nat.le_add_right _ _) hk.2⟩ dL_law__2156 ?_
  refine g_aload_n C 2 dL_law__2159 rfl rfl ?_
  refine l_arg C S 0 4 1 rfl rfl (by omega) rfl dL_law__2160 dL_law__2161 dL_law__2163 dL_law__2164 dL_law__2165 ?_
  refine l_callMi C Lx [.int (xs (i + 1))] (b2i r2.1) r2.2 1 rfl (c12_carries (l := Θ.1.2.1) (w := wm w aM) (set_a := (xs (i + 1))) rfl Lx.2.2.1 h2) w_10_122 w_10_119 w_10_120 w_10_121 w_1_14 ⟨rfl, rfl, (Nat.le_of_ble_eq_true rfl), (Nat.le_of_ble_eq_true rfl)⟩ (by decide +kernel) rfl rfl (Nat.le_of_ble_eq_true rfl) ⟨Nat.le_trans (Nat.le_add_right _ _) hk.1, Nat.le_trans (Nat.le_add_right _ _) hk.2⟩ dL_law__2166 ?_
  refine g_icmp_eq C 3251 dL_law__2169 (by decide) (fun _ => ?_) (fun h => absurd (congrArg b2i he) h)
  exact G.wid (Nat.le_add_right _ _) (Nat.le_add_right _ _) (K _ _ o hR2)
/-! case 35 -/
theorem dL_law__2174 : decode cL_law_ 2174 = .ok (.aload_n 1, 1) := by decide +kernel
theorem dL_law__2175 : decode cL_law_ 2175 = .ok (.aload_n 0, 1) := by decide +kernel
theorem dL_law__2176 : decode cL_law_ 2176 = .ok (.iload 4, 2) := by decide +kernel
theorem dL_law__2178 : decode cL_law_ 2178 = .ok (.iconst 1, 1) := by decide +kernel
theorem dL_law__2179 : decode cL_law_ 2179 = .ok (.iadd, 1) := by decide +kernel
theorem dL_law__2180 : decode cL_law_ 2180 = .ok (.iaload, 1) := by decide +kernel
theorem dL_law__2181 : decode cL_law_ 2181 = .ok (.aload_n 3, 1) := by decide +kernel
theorem w_7_123 : Cond.codeWith ({ cls := "LastLoafLaw", name := "swings", desc := "(LLastLoaf;I[J)I" } : MethodName) method_30_code (4 : Nat) (Option.some ClassFile.FieldType.int) [((0 : Nat), (9 : Nat), (12 : Nat), (24 : Nat))] ∈ TB := tb_in (lwt_7 (List.mem_of_getElem? (i := 123) (by decide +kernel))) rfl
theorem w_7_121 : Cond.methodLink "LastLoafLaw" (273 : Nat) ({ cls := "LastLoafLaw", name := "swings", desc := "(LLastLoaf;I[J)I" } : MethodName) ∈ TB := tb_in (lwt_7 (List.mem_of_getElem? (i := 121) (by decide +kernel))) rfl
theorem w_7_122 : Cond.static ({ cls := "LastLoafLaw", name := "swings", desc := "(LLastLoaf;I[J)I" } : MethodName) ∈ TB := tb_in (lwt_7 (List.mem_of_getElem? (i := 122) (by decide +kernel))) rfl
theorem dL_law__2182 : decode cL_law_ 2182 = .ok (.invokestatic 273, 3) := by decide +kernel
theorem dL_law__2185 : decode cL_law_ 2185 = .ok (.istore 5, 2) := by decide +kernel
theorem dL_law__2187 : decode cL_law_ 2187 = .ok (.aload_n 2, 1) := by decide +kernel
theorem dL_law__2188 : decode cL_law_ 2188 = .ok (.aload_n 0, 1) := by decide +kernel
theorem dL_law__2189 : decode cL_law_ 2189 = .ok (.iload 4, 2) := by decide +kernel
theorem dL_law__2191 : decode cL_law_ 2191 = .ok (.iconst 1, 1) := by decide +kernel
theorem dL_law__2192 : decode cL_law_ 2192 = .ok (.iadd, 1) := by decide +kernel
theorem dL_law__2193 : decode cL_law_ 2193 = .ok (.iaload, 1) := by decide +kernel
theorem w_10_137 : Cond.selects "LastLoafModel" ({ cls := "LastLoafModel", name := "swings", desc := "(I)I" } : MethodName) ({ cls := "LastLoafModel", name := "swings", desc := "(I)I" } : MethodName) ∈ TB := tb_in (lwt_10 (List.mem_of_getElem? (i := 137) (by decide +kernel))) rfl
theorem w_10_138 : Cond.code ({ cls := "LastLoafModel", name := "swings", desc := "(I)I" } : MethodName) prog_14_method_117_code (2 : Nat) (Option.some ClassFile.FieldType.int) ∈ TB := tb_in (lwt_10 (List.mem_of_getElem? (i := 138) (by decide +kernel))) rfl
theorem w_10_135 : Cond.methodLink "LastLoafLaw" (275 : Nat) ({ cls := "LastLoafModel", name := "swings", desc := "(I)I" } : MethodName) ∈ TB := tb_in (lwt_10 (List.mem_of_getElem? (i := 135) (by decide +kernel))) rfl
theorem w_10_136 : Cond.instanceMethod ({ cls := "LastLoafModel", name := "swings", desc := "(I)I" } : MethodName) ∈ TB := tb_in (lwt_10 (List.mem_of_getElem? (i := 136) (by decide +kernel))) rfl
theorem dL_law__2194 : decode cL_law_ 2194 = .ok (.invokevirtual 275, 3) := by decide +kernel
theorem dL_law__2197 : decode cL_law_ 2197 = .ok (.istore 6, 2) := by decide +kernel
theorem dL_law__2199 : decode cL_law_ 2199 = .ok (.aload_n 2, 1) := by decide +kernel
theorem dL_law__2200 : decode cL_law_ 2200 = .ok (.invokevirtual 163, 3) := by decide +kernel
theorem dL_law__2203 : decode cL_law_ 2203 = .ok (.iload 5, 2) := by decide +kernel
theorem dL_law__2205 : decode cL_law_ 2205 = .ok (.if_icmp .eq 5, 3) := by decide +kernel
theorem dL_law__2210 : decode cL_law_ 2210 = .ok (.iload 5, 2) := by decide +kernel
theorem dL_law__2212 : decode cL_law_ 2212 = .ok (.ifCond .ne 15, 3) := by decide +kernel
theorem dL_law__2227 : decode cL_law_ 2227 = .ok (.goto 1024, 3) := by decide +kernel
theorem dL_law__2215 : decode cL_law_ 2215 = .ok (.aload_n 3, 1) := by decide +kernel
theorem dL_law__2216 : decode cL_law_ 2216 = .ok (.iconst 0, 1) := by decide +kernel
theorem dL_law__2217 : decode cL_law_ 2217 = .ok (.laload, 1) := by decide +kernel
theorem dL_law__2218 : decode cL_law_ 2218 = .ok (.iload 6, 2) := by decide +kernel
theorem dL_law__2220 : decode cL_law_ 2220 = .ok (.i2l, 1) := by decide +kernel
theorem dL_law__2221 : decode cL_law_ 2221 = .ok (.lcmp, 1) := by decide +kernel
theorem dL_law__2222 : decode cL_law_ 2222 = .ok (.ifCond .eq 5, 3) := by decide +kernel
def Op_swings (RR : St → St → Prop) : Prop := ∀ (σ μ : St), RR σ μ → ∀ (a0 : Int32), ∃ (r1 : Sum Nat Int32 × St) (r2 : Int32 × St), q11_swings σ a0 = some r1 ∧ q12_swings μ a0 = some r2 ∧ Sx [2] r1 r2 ∧ RR r1.2 r2.2
set_option maxHeartbeats 4000000 in
set_option maxRecDepth 100000 in
theorem law_35 {RR : St → St → Prop} (hop : Op_swings RR) {Θ : Tz} {cJ : ClassId} {Q : State → Prop} {w : Wp} {aM : Nat → Nat} {ao b L : Nat} {xs : Nat → Int32} (C : Gc Θ cL_law_ 7 RL (some .boolean) room_1 cJ) (hlt : Θ.1.2.1.stackTraces = false) (Lx : Lq Θ w aM ao) (S : Ls Θ b L xs) {σ μ : St} {o : Int64} {i kc ks : Nat} (hi : i + 6 ≤ L) (hk : kc + 4 ≤ 601024 ∧ ks + 24 ≤ 7293034) (hR : RR σ μ) (K : ∀ σ' μ' o', RR σ' μ' → G Θ 7 (kc + 4) (ks + 24) Q (LPx w aM ao cJ σ' μ' o') 3251 (llv w aM ao b i) []) : G Θ 7 kc ks Q (LPx w aM ao cJ σ μ o) 2174 (llv w aM ao b i) [] := by
  obtain ⟨r1, r2, h1, h2, he, hR2⟩ := hop σ μ hR (xs (i + 1))
  refine g_aload_n C 1 dL_law__2174 rfl rfl ?_
  refine l_arg C S 0 4 1 rfl rfl (by omega) rfl dL_law__2175 dL_law__2176 dL_law__2178 dL_law__2179 dL_law__2180 ?_
  refine g_aload_n C 3 dL_law__2181 rfl rfl ?_
  refine l_callW C Lx [.ref (w.2.2.1 0), .int (xs (i + 1)), .ref ao] 3 (wr_swings (l := Θ.1.2.1) Lx.2.1 hlt Lx.2.2.2.2.2.2.2.1 h1 (Sx_in he)) w_7_123 w_7_121 w_7_122 w_1_0 ⟨rfl, rfl, (Nat.le_of_ble_eq_true rfl), (Nat.le_of_ble_eq_true rfl)⟩ (by decide +kernel) rfl rfl (Nat.le_of_ble_eq_true rfl) hk dL_law__2182 ?_
  refine g_istore C dL_law__2185 (Nat.le_of_ble_eq_true rfl) rfl ?_
  refine g_aload_n C 3 dL_law__2187 rfl rfl ?_
  refine l_arg C S 1 5 1 rfl rfl (by omega) rfl dL_law__2188 dL_law__2189 dL_law__2191 dL_law__2192 dL_law__2193 ?_
  refine l_callMi C Lx [.int (xs (i + 1))] r2.1 r2.2 1 rfl (c12_swings (l := Θ.1.2.1) (w := wm w aM) (p_a := (xs (i + 1))) rfl Lx.2.2.1 h2) w_10_138 w_10_135 w_10_136 w_10_137 w_1_14 ⟨rfl, rfl, (Nat.le_of_ble_eq_true rfl), (Nat.le_of_ble_eq_true rfl)⟩ (by decide +kernel) rfl rfl (Nat.le_of_ble_eq_true rfl) hk dL_law__2194 ?_
  refine g_istore C dL_law__2197 (Nat.le_of_ble_eq_true rfl) rfl ?_
  refine g_aload_n C 4 dL_law__2199 rfl rfl ?_
  refine l_callMi C Lx [] (q12_thrown r2.2) r2.2 0 rfl (c12_thrown (l := Θ.1.2.1) (w := wm w aM) rfl Lx.2.2.1) w_8_130 w_8_127 w_8_128 w_8_129 w_1_14 ⟨rfl, rfl, (Nat.le_of_ble_eq_true rfl), (Nat.le_of_ble_eq_true rfl)⟩ (by decide +kernel) rfl rfl (Nat.le_of_ble_eq_true rfl) hk dL_law__2200 ?_
  refine g_iload C 1 dL_law__2203 rfl ?_
  refine g_icmp_eq C 2210 dL_law__2205 (by decide) (fun _ => ?_) (fun h => absurd (Sx_k he) h)
  refine g_iload C 1 dL_law__2210 rfl ?_
  refine g_if_ne C 2227 dL_law__2212 (by decide) (fun _ => ?_) (fun h0 => ?_)
  · refine g_goto C 3251 dL_law__2227 (by decide) ?_
    refine G.sub [2, 3, 4, 5, 6] rfl ?_
    exact K _ _ _ hR2
  · refine g_aload_n C 5 dL_law__2215 rfl rfl ?_
    refine g_iconst (v := 0) C dL_law__2216 rfl ?_
    refine l_lald C (by rw [Lx.1]) dL_law__2217 ?_
    refine g_iload C 0 dL_law__2218 rfl ?_
    refine g_i2l C dL_law__2220 ?_
    refine g_lcmp C dL_law__2221 ?_
    rw [Sx_o (f := (fun v => v)) (o := o) (by decide) he h0, lg_cmp_self]
    refine g_if_eq C 2227 dL_law__2222 (by decide) (fun _ => ?_) (fun h => absurd rfl h)
    refine g_goto C 3251 dL_law__2227 (by decide) ?_
    refine G.sub [2, 3, 4, 5, 6] rfl ?_
    exact K _ _ _ hR2
/-! case 36 -/
theorem dL_law__2230 : decode cL_law_ 2230 = .ok (.aload_n 1, 1) := by decide +kernel
theorem w_4_9 : Cond.selects "LastLoaf" ({ cls := "LastLoaf", name := "smallest", desc := "()I" } : MethodName) ({ cls := "LastLoaf", name := "smallest", desc := "()I" } : MethodName) ∈ TB := tb_in (lwt_4 (List.mem_of_getElem? (i := 9) (by decide +kernel))) rfl
theorem w_4_10 : Cond.code ({ cls := "LastLoaf", name := "smallest", desc := "()I" } : MethodName) prog_1_method_38_code (4 : Nat) (Option.some ClassFile.FieldType.int) ∈ TB := tb_in (lwt_4 (List.mem_of_getElem? (i := 10) (by decide +kernel))) rfl
theorem w_4_7 : Cond.methodLink "LastLoafLaw" (276 : Nat) ({ cls := "LastLoaf", name := "smallest", desc := "()I" } : MethodName) ∈ TB := tb_in (lwt_4 (List.mem_of_getElem? (i := 7) (by decide +kernel))) rfl
theorem w_4_8 : Cond.instanceMethod ({ cls := "LastLoaf", name := "smallest", desc := "()I" } : MethodName) ∈ TB := tb_in (lwt_4 (List.mem_of_getElem? (i := 8) (by decide +kernel))) rfl
theorem dL_law__2231 : decode cL_law_ 2231 = .ok (.invokevirtual 276, 3) := by decide +kernel
theorem dL_law__2234 : decode cL_law_ 2234 = .ok (.aload_n 2, 1) := by decide +kernel
theorem w_10_145 : Cond.selects "LastLoafModel" ({ cls := "LastLoafModel", name := "smallest", desc := "()I" } : MethodName) ({ cls := "LastLoafModel", name := "smallest", desc := "()I" } : MethodName) ∈ TB := tb_in (lwt_10 (List.mem_of_getElem? (i := 145) (by decide +kernel))) rfl
theorem w_10_146 : Cond.code ({ cls := "LastLoafModel", name := "smallest", desc := "()I" } : MethodName) prog_14_method_118_code (4 : Nat) (Option.some ClassFile.FieldType.int) ∈ TB := tb_in (lwt_10 (List.mem_of_getElem? (i := 146) (by decide +kernel))) rfl
theorem w_10_143 : Cond.methodLink "LastLoafLaw" (279 : Nat) ({ cls := "LastLoafModel", name := "smallest", desc := "()I" } : MethodName) ∈ TB := tb_in (lwt_10 (List.mem_of_getElem? (i := 143) (by decide +kernel))) rfl
theorem w_10_144 : Cond.instanceMethod ({ cls := "LastLoafModel", name := "smallest", desc := "()I" } : MethodName) ∈ TB := tb_in (lwt_10 (List.mem_of_getElem? (i := 144) (by decide +kernel))) rfl
theorem dL_law__2235 : decode cL_law_ 2235 = .ok (.invokevirtual 279, 3) := by decide +kernel
theorem dL_law__2238 : decode cL_law_ 2238 = .ok (.if_icmp .eq 1013, 3) := by decide +kernel
def Op_smallest (RR : St → St → Prop) : Prop := ∀ (σ μ : St), RR σ μ → ∃ (r1 : Int32) (r2 : (Int32 × St)), q11_smallest σ  = some r1 ∧ q12_smallest μ  = some r2 ∧ r1 = r2.1 ∧ RR σ r2.2
set_option maxHeartbeats 4000000 in
set_option maxRecDepth 100000 in
theorem law_36 {RR : St → St → Prop} (hop : Op_smallest RR) {Θ : Tz} {cJ : ClassId} {Q : State → Prop} {w : Wp} {aM : Nat → Nat} {ao b L : Nat} {xs : Nat → Int32} (C : Gc Θ cL_law_ 7 RL (some .boolean) room_1 cJ) (hlt : Θ.1.2.1.stackTraces = false) (Lx : Lq Θ w aM ao) (S : Ls Θ b L xs) {σ μ : St} {o : Int64} {i kc ks : Nat} (hi : i + 6 ≤ L) (hk : kc + 4 ≤ 601024 ∧ ks + 24 ≤ 7293034) (hR : RR σ μ) (K : ∀ σ' μ' o', RR σ' μ' → G Θ 7 (kc + 4) (ks + 24) Q (LPx w aM ao cJ σ' μ' o') 3251 (llv w aM ao b i) []) : G Θ 7 kc ks Q (LPx w aM ao cJ σ μ o) 2230 (llv w aM ao b i) [] := by
  obtain ⟨r1, r2, h1, h2, he, hR2⟩ := hop σ μ hR 
  refine g_aload_n C 1 dL_law__2230 rfl rfl ?_
  refine l_callCi C Lx [] r1 σ 0 rfl (c11_smallest (l := Θ.1.2.1) (w := w)  rfl Lx.2.1 h1) w_4_10 w_4_7 w_4_8 w_4_9 w_1_1 ⟨rfl, rfl, (Nat.le_of_ble_eq_true rfl), (Nat.le_of_ble_eq_true rfl)⟩ (by decide +kernel) rfl rfl (Nat.le_of_ble_eq_true rfl) ⟨Nat.le_trans (Nat.le_add_right _ _) hk.1, Nat.le_trans (Nat.le_add_right _ _) hk.2⟩ dL_law__2231 ?_
  refine g_aload_n C 2 dL_law__2234 rfl rfl ?_
  refine l_callMi C Lx [] r2.1 r2.2 0 rfl (c12_smallest (l := Θ.1.2.1) (w := wm w aM)  rfl Lx.2.2.1 h2) w_10_146 w_10_143 w_10_144 w_10_145 w_1_14 ⟨rfl, rfl, (Nat.le_of_ble_eq_true rfl), (Nat.le_of_ble_eq_true rfl)⟩ (by decide +kernel) rfl rfl (Nat.le_of_ble_eq_true rfl) ⟨Nat.le_trans (Nat.le_add_right _ _) hk.1, Nat.le_trans (Nat.le_add_right _ _) hk.2⟩ dL_law__2235 ?_
  refine g_icmp_eq C 3251 dL_law__2238 (by decide) (fun _ => ?_) (fun h => absurd (he) h)
  exact G.wid (Nat.le_add_right _ _) (Nat.le_add_right _ _) (K _ _ o hR2)
/-! case 37 -/
theorem dL_law__2243 : decode cL_law_ 2243 = .ok (.aload_n 1, 1) := by decide +kernel
theorem dL_law__2244 : decode cL_law_ 2244 = .ok (.aload_n 0, 1) := by decide +kernel
theorem dL_law__2245 : decode cL_law_ 2245 = .ok (.iload 4, 2) := by decide +kernel
theorem dL_law__2247 : decode cL_law_ 2247 = .ok (.iconst 1, 1) := by decide +kernel
theorem dL_law__2248 : decode cL_law_ 2248 = .ok (.iadd, 1) := by decide +kernel
theorem dL_law__2249 : decode cL_law_ 2249 = .ok (.iaload, 1) := by decide +kernel
theorem dL_law__2250 : decode cL_law_ 2250 = .ok (.aload_n 3, 1) := by decide +kernel
theorem w_7_130 : Cond.codeWith ({ cls := "LastLoafLaw", name := "bloc", desc := "(LLastLoaf;I[J)I" } : MethodName) method_31_code (4 : Nat) (Option.some ClassFile.FieldType.int) [((0 : Nat), (9 : Nat), (12 : Nat), (24 : Nat))] ∈ TB := tb_in (lwt_7 (List.mem_of_getElem? (i := 130) (by decide +kernel))) rfl
theorem w_7_128 : Cond.methodLink "LastLoafLaw" (280 : Nat) ({ cls := "LastLoafLaw", name := "bloc", desc := "(LLastLoaf;I[J)I" } : MethodName) ∈ TB := tb_in (lwt_7 (List.mem_of_getElem? (i := 128) (by decide +kernel))) rfl
theorem w_7_129 : Cond.static ({ cls := "LastLoafLaw", name := "bloc", desc := "(LLastLoaf;I[J)I" } : MethodName) ∈ TB := tb_in (lwt_7 (List.mem_of_getElem? (i := 129) (by decide +kernel))) rfl
theorem dL_law__2251 : decode cL_law_ 2251 = .ok (.invokestatic 280, 3) := by decide +kernel
theorem dL_law__2254 : decode cL_law_ 2254 = .ok (.istore 5, 2) := by decide +kernel
theorem dL_law__2256 : decode cL_law_ 2256 = .ok (.aload_n 2, 1) := by decide +kernel
theorem dL_law__2257 : decode cL_law_ 2257 = .ok (.aload_n 0, 1) := by decide +kernel
theorem dL_law__2258 : decode cL_law_ 2258 = .ok (.iload 4, 2) := by decide +kernel
theorem dL_law__2260 : decode cL_law_ 2260 = .ok (.iconst 1, 1) := by decide +kernel
theorem dL_law__2261 : decode cL_law_ 2261 = .ok (.iadd, 1) := by decide +kernel
theorem dL_law__2262 : decode cL_law_ 2262 = .ok (.iaload, 1) := by decide +kernel
theorem w_10_149 : Cond.selects "LastLoafModel" ({ cls := "LastLoafModel", name := "bloc", desc := "(I)I" } : MethodName) ({ cls := "LastLoafModel", name := "bloc", desc := "(I)I" } : MethodName) ∈ TB := tb_in (lwt_10 (List.mem_of_getElem? (i := 149) (by decide +kernel))) rfl
theorem w_10_150 : Cond.code ({ cls := "LastLoafModel", name := "bloc", desc := "(I)I" } : MethodName) prog_14_method_119_code (4 : Nat) (Option.some ClassFile.FieldType.int) ∈ TB := tb_in (lwt_10 (List.mem_of_getElem? (i := 150) (by decide +kernel))) rfl
theorem w_10_147 : Cond.methodLink "LastLoafLaw" (282 : Nat) ({ cls := "LastLoafModel", name := "bloc", desc := "(I)I" } : MethodName) ∈ TB := tb_in (lwt_10 (List.mem_of_getElem? (i := 147) (by decide +kernel))) rfl
theorem w_10_148 : Cond.instanceMethod ({ cls := "LastLoafModel", name := "bloc", desc := "(I)I" } : MethodName) ∈ TB := tb_in (lwt_10 (List.mem_of_getElem? (i := 148) (by decide +kernel))) rfl
theorem dL_law__2263 : decode cL_law_ 2263 = .ok (.invokevirtual 282, 3) := by decide +kernel
theorem dL_law__2266 : decode cL_law_ 2266 = .ok (.istore 6, 2) := by decide +kernel
theorem dL_law__2268 : decode cL_law_ 2268 = .ok (.aload_n 2, 1) := by decide +kernel
theorem dL_law__2269 : decode cL_law_ 2269 = .ok (.invokevirtual 163, 3) := by decide +kernel
theorem dL_law__2272 : decode cL_law_ 2272 = .ok (.iload 5, 2) := by decide +kernel
theorem dL_law__2274 : decode cL_law_ 2274 = .ok (.if_icmp .eq 5, 3) := by decide +kernel
theorem dL_law__2279 : decode cL_law_ 2279 = .ok (.iload 5, 2) := by decide +kernel
theorem dL_law__2281 : decode cL_law_ 2281 = .ok (.ifCond .ne 15, 3) := by decide +kernel
theorem dL_law__2296 : decode cL_law_ 2296 = .ok (.goto 955, 3) := by decide +kernel
theorem dL_law__2284 : decode cL_law_ 2284 = .ok (.aload_n 3, 1) := by decide +kernel
theorem dL_law__2285 : decode cL_law_ 2285 = .ok (.iconst 0, 1) := by decide +kernel
theorem dL_law__2286 : decode cL_law_ 2286 = .ok (.laload, 1) := by decide +kernel
theorem dL_law__2287 : decode cL_law_ 2287 = .ok (.iload 6, 2) := by decide +kernel
theorem dL_law__2289 : decode cL_law_ 2289 = .ok (.i2l, 1) := by decide +kernel
theorem dL_law__2290 : decode cL_law_ 2290 = .ok (.lcmp, 1) := by decide +kernel
theorem dL_law__2291 : decode cL_law_ 2291 = .ok (.ifCond .eq 5, 3) := by decide +kernel
def Op_bloc (RR : St → St → Prop) : Prop := ∀ (σ μ : St), RR σ μ → ∀ (a0 : Int32), ∃ (r1 : Sum Nat Int32 × St) (r2 : Int32 × St), q11_bloc σ a0 = some r1 ∧ q12_bloc μ a0 = some r2 ∧ Sx [2] r1 r2 ∧ RR r1.2 r2.2
set_option maxHeartbeats 4000000 in
set_option maxRecDepth 100000 in
theorem law_37 {RR : St → St → Prop} (hop : Op_bloc RR) {Θ : Tz} {cJ : ClassId} {Q : State → Prop} {w : Wp} {aM : Nat → Nat} {ao b L : Nat} {xs : Nat → Int32} (C : Gc Θ cL_law_ 7 RL (some .boolean) room_1 cJ) (hlt : Θ.1.2.1.stackTraces = false) (Lx : Lq Θ w aM ao) (S : Ls Θ b L xs) {σ μ : St} {o : Int64} {i kc ks : Nat} (hi : i + 6 ≤ L) (hk : kc + 4 ≤ 601024 ∧ ks + 24 ≤ 7293034) (hR : RR σ μ) (K : ∀ σ' μ' o', RR σ' μ' → G Θ 7 (kc + 4) (ks + 24) Q (LPx w aM ao cJ σ' μ' o') 3251 (llv w aM ao b i) []) : G Θ 7 kc ks Q (LPx w aM ao cJ σ μ o) 2243 (llv w aM ao b i) [] := by
  obtain ⟨r1, r2, h1, h2, he, hR2⟩ := hop σ μ hR (xs (i + 1))
  refine g_aload_n C 1 dL_law__2243 rfl rfl ?_
  refine l_arg C S 0 4 1 rfl rfl (by omega) rfl dL_law__2244 dL_law__2245 dL_law__2247 dL_law__2248 dL_law__2249 ?_
  refine g_aload_n C 3 dL_law__2250 rfl rfl ?_
  refine l_callW C Lx [.ref (w.2.2.1 0), .int (xs (i + 1)), .ref ao] 3 (wr_bloc (l := Θ.1.2.1) Lx.2.1 hlt Lx.2.2.2.2.2.2.2.1 h1 (Sx_in he)) w_7_130 w_7_128 w_7_129 w_1_0 ⟨rfl, rfl, (Nat.le_of_ble_eq_true rfl), (Nat.le_of_ble_eq_true rfl)⟩ (by decide +kernel) rfl rfl (Nat.le_of_ble_eq_true rfl) hk dL_law__2251 ?_
  refine g_istore C dL_law__2254 (Nat.le_of_ble_eq_true rfl) rfl ?_
  refine g_aload_n C 3 dL_law__2256 rfl rfl ?_
  refine l_arg C S 1 5 1 rfl rfl (by omega) rfl dL_law__2257 dL_law__2258 dL_law__2260 dL_law__2261 dL_law__2262 ?_
  refine l_callMi C Lx [.int (xs (i + 1))] r2.1 r2.2 1 rfl (c12_bloc (l := Θ.1.2.1) (w := wm w aM) (party_a := (xs (i + 1))) rfl Lx.2.2.1 h2) w_10_150 w_10_147 w_10_148 w_10_149 w_1_14 ⟨rfl, rfl, (Nat.le_of_ble_eq_true rfl), (Nat.le_of_ble_eq_true rfl)⟩ (by decide +kernel) rfl rfl (Nat.le_of_ble_eq_true rfl) hk dL_law__2263 ?_
  refine g_istore C dL_law__2266 (Nat.le_of_ble_eq_true rfl) rfl ?_
  refine g_aload_n C 4 dL_law__2268 rfl rfl ?_
  refine l_callMi C Lx [] (q12_thrown r2.2) r2.2 0 rfl (c12_thrown (l := Θ.1.2.1) (w := wm w aM) rfl Lx.2.2.1) w_8_130 w_8_127 w_8_128 w_8_129 w_1_14 ⟨rfl, rfl, (Nat.le_of_ble_eq_true rfl), (Nat.le_of_ble_eq_true rfl)⟩ (by decide +kernel) rfl rfl (Nat.le_of_ble_eq_true rfl) hk dL_law__2269 ?_
  refine g_iload C 1 dL_law__2272 rfl ?_
  refine g_icmp_eq C 2279 dL_law__2274 (by decide) (fun _ => ?_) (fun h => absurd (Sx_k he) h)
  refine g_iload C 1 dL_law__2279 rfl ?_
  refine g_if_ne C 2296 dL_law__2281 (by decide) (fun _ => ?_) (fun h0 => ?_)
  · refine g_goto C 3251 dL_law__2296 (by decide) ?_
    refine G.sub [2, 3, 4, 5, 6] rfl ?_
    exact K _ _ _ hR2
  · refine g_aload_n C 5 dL_law__2284 rfl rfl ?_
    refine g_iconst (v := 0) C dL_law__2285 rfl ?_
    refine l_lald C (by rw [Lx.1]) dL_law__2286 ?_
    refine g_iload C 0 dL_law__2287 rfl ?_
    refine g_i2l C dL_law__2289 ?_
    refine g_lcmp C dL_law__2290 ?_
    rw [Sx_o (f := (fun v => v)) (o := o) (by decide) he h0, lg_cmp_self]
    refine g_if_eq C 2296 dL_law__2291 (by decide) (fun _ => ?_) (fun h => absurd rfl h)
    refine g_goto C 3251 dL_law__2296 (by decide) ?_
    refine G.sub [2, 3, 4, 5, 6] rfl ?_
    exact K _ _ _ hR2
/-! case 38 -/
theorem dL_law__2299 : decode cL_law_ 2299 = .ok (.aload_n 1, 1) := by decide +kernel
theorem w_4_26 : Cond.selects "LastLoaf" ({ cls := "LastLoaf", name := "kingmaker", desc := "()I" } : MethodName) ({ cls := "LastLoaf", name := "kingmaker", desc := "()I" } : MethodName) ∈ TB := tb_in (lwt_4 (List.mem_of_getElem? (i := 26) (by decide +kernel))) rfl
theorem w_4_27 : Cond.code ({ cls := "LastLoaf", name := "kingmaker", desc := "()I" } : MethodName) prog_1_method_40_code (5 : Nat) (Option.some ClassFile.FieldType.int) ∈ TB := tb_in (lwt_4 (List.mem_of_getElem? (i := 27) (by decide +kernel))) rfl
theorem w_4_24 : Cond.methodLink "LastLoafLaw" (283 : Nat) ({ cls := "LastLoaf", name := "kingmaker", desc := "()I" } : MethodName) ∈ TB := tb_in (lwt_4 (List.mem_of_getElem? (i := 24) (by decide +kernel))) rfl
theorem w_4_25 : Cond.instanceMethod ({ cls := "LastLoaf", name := "kingmaker", desc := "()I" } : MethodName) ∈ TB := tb_in (lwt_4 (List.mem_of_getElem? (i := 25) (by decide +kernel))) rfl
theorem dL_law__2300 : decode cL_law_ 2300 = .ok (.invokevirtual 283, 3) := by decide +kernel
theorem dL_law__2303 : decode cL_law_ 2303 = .ok (.aload_n 2, 1) := by decide +kernel
theorem w_10_153 : Cond.selects "LastLoafModel" ({ cls := "LastLoafModel", name := "kingmaker", desc := "()I" } : MethodName) ({ cls := "LastLoafModel", name := "kingmaker", desc := "()I" } : MethodName) ∈ TB := tb_in (lwt_10 (List.mem_of_getElem? (i := 153) (by decide +kernel))) rfl
theorem w_10_154 : Cond.code ({ cls := "LastLoafModel", name := "kingmaker", desc := "()I" } : MethodName) prog_14_method_120_code (5 : Nat) (Option.some ClassFile.FieldType.int) ∈ TB := tb_in (lwt_10 (List.mem_of_getElem? (i := 154) (by decide +kernel))) rfl
theorem w_10_151 : Cond.methodLink "LastLoafLaw" (286 : Nat) ({ cls := "LastLoafModel", name := "kingmaker", desc := "()I" } : MethodName) ∈ TB := tb_in (lwt_10 (List.mem_of_getElem? (i := 151) (by decide +kernel))) rfl
theorem w_10_152 : Cond.instanceMethod ({ cls := "LastLoafModel", name := "kingmaker", desc := "()I" } : MethodName) ∈ TB := tb_in (lwt_10 (List.mem_of_getElem? (i := 152) (by decide +kernel))) rfl
theorem dL_law__2304 : decode cL_law_ 2304 = .ok (.invokevirtual 286, 3) := by decide +kernel
theorem dL_law__2307 : decode cL_law_ 2307 = .ok (.if_icmp .eq 944, 3) := by decide +kernel
def Op_kingmaker (RR : St → St → Prop) : Prop := ∀ (σ μ : St), RR σ μ → ∃ (r1 : Int32) (r2 : (Int32 × St)), q11_kingmaker σ  = some r1 ∧ q12_kingmaker μ  = some r2 ∧ r1 = r2.1 ∧ RR σ r2.2
set_option maxHeartbeats 4000000 in
set_option maxRecDepth 100000 in
theorem law_38 {RR : St → St → Prop} (hop : Op_kingmaker RR) {Θ : Tz} {cJ : ClassId} {Q : State → Prop} {w : Wp} {aM : Nat → Nat} {ao b L : Nat} {xs : Nat → Int32} (C : Gc Θ cL_law_ 7 RL (some .boolean) room_1 cJ) (hlt : Θ.1.2.1.stackTraces = false) (Lx : Lq Θ w aM ao) (S : Ls Θ b L xs) {σ μ : St} {o : Int64} {i kc ks : Nat} (hi : i + 6 ≤ L) (hk : kc + 4 ≤ 601024 ∧ ks + 24 ≤ 7293034) (hR : RR σ μ) (K : ∀ σ' μ' o', RR σ' μ' → G Θ 7 (kc + 4) (ks + 24) Q (LPx w aM ao cJ σ' μ' o') 3251 (llv w aM ao b i) []) : G Θ 7 kc ks Q (LPx w aM ao cJ σ μ o) 2299 (llv w aM ao b i) [] := by
  obtain ⟨r1, r2, h1, h2, he, hR2⟩ := hop σ μ hR 
  refine g_aload_n C 1 dL_law__2299 rfl rfl ?_
  refine l_callCi C Lx [] r1 σ 0 rfl (c11_kingmaker (l := Θ.1.2.1) (w := w)  rfl Lx.2.1 h1) w_4_27 w_4_24 w_4_25 w_4_26 w_1_1 ⟨rfl, rfl, (Nat.le_of_ble_eq_true rfl), (Nat.le_of_ble_eq_true rfl)⟩ (by decide +kernel) rfl rfl (Nat.le_of_ble_eq_true rfl) ⟨Nat.le_trans (Nat.le_add_right _ _) hk.1, Nat.le_trans (Nat.le_add_right _ _) hk.2⟩ dL_law__2300 ?_
  refine g_aload_n C 2 dL_law__2303 rfl rfl ?_
  refine l_callMi C Lx [] r2.1 r2.2 0 rfl (c12_kingmaker (l := Θ.1.2.1) (w := wm w aM)  rfl Lx.2.2.1 h2) w_10_154 w_10_151 w_10_152 w_10_153 w_1_14 ⟨rfl, rfl, (Nat.le_of_ble_eq_true rfl), (Nat.le_of_ble_eq_true rfl)⟩ (by decide +kernel) rfl rfl (Nat.le_of_ble_eq_true rfl) ⟨Nat.le_trans (Nat.le_add_right _ _) hk.1, Nat.le_trans (Nat.le_add_right _ _) hk.2⟩ dL_law__2304 ?_
  refine g_icmp_eq C 3251 dL_law__2307 (by decide) (fun _ => ?_) (fun h => absurd (he) h)
  exact G.wid (Nat.le_add_right _ _) (Nat.le_add_right _ _) (K _ _ o hR2)
/-! case 39 -/
theorem dL_law__2312 : decode cL_law_ 2312 = .ok (.aload_n 1, 1) := by decide +kernel
theorem dL_law__2313 : decode cL_law_ 2313 = .ok (.aload_n 0, 1) := by decide +kernel
theorem dL_law__2314 : decode cL_law_ 2314 = .ok (.iload 4, 2) := by decide +kernel
theorem dL_law__2316 : decode cL_law_ 2316 = .ok (.iconst 1, 1) := by decide +kernel
theorem dL_law__2317 : decode cL_law_ 2317 = .ok (.iadd, 1) := by decide +kernel
theorem dL_law__2318 : decode cL_law_ 2318 = .ok (.iaload, 1) := by decide +kernel
theorem dL_law__2319 : decode cL_law_ 2319 = .ok (.aload_n 3, 1) := by decide +kernel
theorem w_7_137 : Cond.codeWith ({ cls := "LastLoafLaw", name := "couples", desc := "(LLastLoaf;I[J)I" } : MethodName) method_32_code (4 : Nat) (Option.some ClassFile.FieldType.int) [((0 : Nat), (9 : Nat), (12 : Nat), (24 : Nat))] ∈ TB := tb_in (lwt_7 (List.mem_of_getElem? (i := 137) (by decide +kernel))) rfl
theorem w_7_135 : Cond.methodLink "LastLoafLaw" (287 : Nat) ({ cls := "LastLoafLaw", name := "couples", desc := "(LLastLoaf;I[J)I" } : MethodName) ∈ TB := tb_in (lwt_7 (List.mem_of_getElem? (i := 135) (by decide +kernel))) rfl
theorem w_7_136 : Cond.static ({ cls := "LastLoafLaw", name := "couples", desc := "(LLastLoaf;I[J)I" } : MethodName) ∈ TB := tb_in (lwt_7 (List.mem_of_getElem? (i := 136) (by decide +kernel))) rfl
theorem dL_law__2320 : decode cL_law_ 2320 = .ok (.invokestatic 287, 3) := by decide +kernel
theorem dL_law__2323 : decode cL_law_ 2323 = .ok (.istore 5, 2) := by decide +kernel
theorem dL_law__2325 : decode cL_law_ 2325 = .ok (.aload_n 2, 1) := by decide +kernel
theorem dL_law__2326 : decode cL_law_ 2326 = .ok (.aload_n 0, 1) := by decide +kernel
theorem dL_law__2327 : decode cL_law_ 2327 = .ok (.iload 4, 2) := by decide +kernel
theorem dL_law__2329 : decode cL_law_ 2329 = .ok (.iconst 1, 1) := by decide +kernel
theorem dL_law__2330 : decode cL_law_ 2330 = .ok (.iadd, 1) := by decide +kernel
theorem dL_law__2331 : decode cL_law_ 2331 = .ok (.iaload, 1) := by decide +kernel
theorem w_10_157 : Cond.selects "LastLoafModel" ({ cls := "LastLoafModel", name := "couples", desc := "(I)I" } : MethodName) ({ cls := "LastLoafModel", name := "couples", desc := "(I)I" } : MethodName) ∈ TB := tb_in (lwt_10 (List.mem_of_getElem? (i := 157) (by decide +kernel))) rfl
theorem w_10_158 : Cond.code ({ cls := "LastLoafModel", name := "couples", desc := "(I)I" } : MethodName) prog_14_method_123_code (7 : Nat) (Option.some ClassFile.FieldType.int) ∈ TB := tb_in (lwt_10 (List.mem_of_getElem? (i := 158) (by decide +kernel))) rfl
theorem w_10_155 : Cond.methodLink "LastLoafLaw" (289 : Nat) ({ cls := "LastLoafModel", name := "couples", desc := "(I)I" } : MethodName) ∈ TB := tb_in (lwt_10 (List.mem_of_getElem? (i := 155) (by decide +kernel))) rfl
theorem w_10_156 : Cond.instanceMethod ({ cls := "LastLoafModel", name := "couples", desc := "(I)I" } : MethodName) ∈ TB := tb_in (lwt_10 (List.mem_of_getElem? (i := 156) (by decide +kernel))) rfl
theorem dL_law__2332 : decode cL_law_ 2332 = .ok (.invokevirtual 289, 3) := by decide +kernel
theorem dL_law__2335 : decode cL_law_ 2335 = .ok (.istore 6, 2) := by decide +kernel
theorem dL_law__2337 : decode cL_law_ 2337 = .ok (.aload_n 2, 1) := by decide +kernel
theorem dL_law__2338 : decode cL_law_ 2338 = .ok (.invokevirtual 163, 3) := by decide +kernel
theorem dL_law__2341 : decode cL_law_ 2341 = .ok (.iload 5, 2) := by decide +kernel
theorem dL_law__2343 : decode cL_law_ 2343 = .ok (.if_icmp .eq 5, 3) := by decide +kernel
theorem dL_law__2348 : decode cL_law_ 2348 = .ok (.iload 5, 2) := by decide +kernel
theorem dL_law__2350 : decode cL_law_ 2350 = .ok (.ifCond .ne 15, 3) := by decide +kernel
theorem dL_law__2365 : decode cL_law_ 2365 = .ok (.goto 886, 3) := by decide +kernel
theorem dL_law__2353 : decode cL_law_ 2353 = .ok (.aload_n 3, 1) := by decide +kernel
theorem dL_law__2354 : decode cL_law_ 2354 = .ok (.iconst 0, 1) := by decide +kernel
theorem dL_law__2355 : decode cL_law_ 2355 = .ok (.laload, 1) := by decide +kernel
theorem dL_law__2356 : decode cL_law_ 2356 = .ok (.iload 6, 2) := by decide +kernel
theorem dL_law__2358 : decode cL_law_ 2358 = .ok (.i2l, 1) := by decide +kernel
theorem dL_law__2359 : decode cL_law_ 2359 = .ok (.lcmp, 1) := by decide +kernel
theorem dL_law__2360 : decode cL_law_ 2360 = .ok (.ifCond .eq 5, 3) := by decide +kernel
def Op_couples (RR : St → St → Prop) : Prop := ∀ (σ μ : St), RR σ μ → ∀ (a0 : Int32), ∃ (r1 : Sum Nat Int32 × St) (r2 : Int32 × St), q11_couples σ a0 = some r1 ∧ q12_couples μ a0 = some r2 ∧ Sx [2] r1 r2 ∧ RR r1.2 r2.2
set_option maxHeartbeats 4000000 in
set_option maxRecDepth 100000 in
theorem law_39 {RR : St → St → Prop} (hop : Op_couples RR) {Θ : Tz} {cJ : ClassId} {Q : State → Prop} {w : Wp} {aM : Nat → Nat} {ao b L : Nat} {xs : Nat → Int32} (C : Gc Θ cL_law_ 7 RL (some .boolean) room_1 cJ) (hlt : Θ.1.2.1.stackTraces = false) (Lx : Lq Θ w aM ao) (S : Ls Θ b L xs) {σ μ : St} {o : Int64} {i kc ks : Nat} (hi : i + 6 ≤ L) (hk : kc + 4 ≤ 601024 ∧ ks + 24 ≤ 7293034) (hR : RR σ μ) (K : ∀ σ' μ' o', RR σ' μ' → G Θ 7 (kc + 4) (ks + 24) Q (LPx w aM ao cJ σ' μ' o') 3251 (llv w aM ao b i) []) : G Θ 7 kc ks Q (LPx w aM ao cJ σ μ o) 2312 (llv w aM ao b i) [] := by
  obtain ⟨r1, r2, h1, h2, he, hR2⟩ := hop σ μ hR (xs (i + 1))
  refine g_aload_n C 1 dL_law__2312 rfl rfl ?_
  refine l_arg C S 0 4 1 rfl rfl (by omega) rfl dL_law__2313 dL_law__2314 dL_law__2316 dL_law__2317 dL_law__2318 ?_
  refine g_aload_n C 3 dL_law__2319 rfl rfl ?_
  refine l_callW C Lx [.ref (w.2.2.1 0), .int (xs (i + 1)), .ref ao] 3 (wr_couples (l := Θ.1.2.1) Lx.2.1 hlt Lx.2.2.2.2.2.2.2.1 h1 (Sx_in he)) w_7_137 w_7_135 w_7_136 w_1_0 ⟨rfl, rfl, (Nat.le_of_ble_eq_true rfl), (Nat.le_of_ble_eq_true rfl)⟩ (by decide +kernel) rfl rfl (Nat.le_of_ble_eq_true rfl) hk dL_law__2320 ?_
  refine g_istore C dL_law__2323 (Nat.le_of_ble_eq_true rfl) rfl ?_
  refine g_aload_n C 3 dL_law__2325 rfl rfl ?_
  refine l_arg C S 1 5 1 rfl rfl (by omega) rfl dL_law__2326 dL_law__2327 dL_law__2329 dL_law__2330 dL_law__2331 ?_
  refine l_callMi C Lx [.int (xs (i + 1))] r2.1 r2.2 1 rfl (c12_couples (l := Θ.1.2.1) (w := wm w aM) (one_a := (xs (i + 1))) rfl Lx.2.2.1 h2) w_10_158 w_10_155 w_10_156 w_10_157 w_1_14 ⟨rfl, rfl, (Nat.le_of_ble_eq_true rfl), (Nat.le_of_ble_eq_true rfl)⟩ (by decide +kernel) rfl rfl (Nat.le_of_ble_eq_true rfl) hk dL_law__2332 ?_
  refine g_istore C dL_law__2335 (Nat.le_of_ble_eq_true rfl) rfl ?_
  refine g_aload_n C 4 dL_law__2337 rfl rfl ?_
  refine l_callMi C Lx [] (q12_thrown r2.2) r2.2 0 rfl (c12_thrown (l := Θ.1.2.1) (w := wm w aM) rfl Lx.2.2.1) w_8_130 w_8_127 w_8_128 w_8_129 w_1_14 ⟨rfl, rfl, (Nat.le_of_ble_eq_true rfl), (Nat.le_of_ble_eq_true rfl)⟩ (by decide +kernel) rfl rfl (Nat.le_of_ble_eq_true rfl) hk dL_law__2338 ?_
  refine g_iload C 1 dL_law__2341 rfl ?_
  refine g_icmp_eq C 2348 dL_law__2343 (by decide) (fun _ => ?_) (fun h => absurd (Sx_k he) h)
  refine g_iload C 1 dL_law__2348 rfl ?_
  refine g_if_ne C 2365 dL_law__2350 (by decide) (fun _ => ?_) (fun h0 => ?_)
  · refine g_goto C 3251 dL_law__2365 (by decide) ?_
    refine G.sub [2, 3, 4, 5, 6] rfl ?_
    exact K _ _ _ hR2
  · refine g_aload_n C 5 dL_law__2353 rfl rfl ?_
    refine g_iconst (v := 0) C dL_law__2354 rfl ?_
    refine l_lald C (by rw [Lx.1]) dL_law__2355 ?_
    refine g_iload C 0 dL_law__2356 rfl ?_
    refine g_i2l C dL_law__2358 ?_
    refine g_lcmp C dL_law__2359 ?_
    rw [Sx_o (f := (fun v => v)) (o := o) (by decide) he h0, lg_cmp_self]
    refine g_if_eq C 2365 dL_law__2360 (by decide) (fun _ => ?_) (fun h => absurd rfl h)
    refine g_goto C 3251 dL_law__2365 (by decide) ?_
    refine G.sub [2, 3, 4, 5, 6] rfl ?_
    exact K _ _ _ hR2
/-! case 40 -/
theorem dL_law__2368 : decode cL_law_ 2368 = .ok (.aload_n 1, 1) := by decide +kernel
theorem w_4_35 : Cond.selects "LastLoaf" ({ cls := "LastLoaf", name := "camps", desc := "()I" } : MethodName) ({ cls := "LastLoaf", name := "camps", desc := "()I" } : MethodName) ∈ TB := tb_in (lwt_4 (List.mem_of_getElem? (i := 35) (by decide +kernel))) rfl
theorem w_4_36 : Cond.code ({ cls := "LastLoaf", name := "camps", desc := "()I" } : MethodName) prog_1_method_42_code (1 : Nat) (Option.some ClassFile.FieldType.int) ∈ TB := tb_in (lwt_4 (List.mem_of_getElem? (i := 36) (by decide +kernel))) rfl
theorem w_4_33 : Cond.methodLink "LastLoafLaw" (290 : Nat) ({ cls := "LastLoaf", name := "camps", desc := "()I" } : MethodName) ∈ TB := tb_in (lwt_4 (List.mem_of_getElem? (i := 33) (by decide +kernel))) rfl
theorem w_4_34 : Cond.instanceMethod ({ cls := "LastLoaf", name := "camps", desc := "()I" } : MethodName) ∈ TB := tb_in (lwt_4 (List.mem_of_getElem? (i := 34) (by decide +kernel))) rfl
theorem dL_law__2369 : decode cL_law_ 2369 = .ok (.invokevirtual 290, 3) := by decide +kernel
theorem dL_law__2372 : decode cL_law_ 2372 = .ok (.aload_n 2, 1) := by decide +kernel
theorem w_10_169 : Cond.selects "LastLoafModel" ({ cls := "LastLoafModel", name := "camps", desc := "()I" } : MethodName) ({ cls := "LastLoafModel", name := "camps", desc := "()I" } : MethodName) ∈ TB := tb_in (lwt_10 (List.mem_of_getElem? (i := 169) (by decide +kernel))) rfl
theorem w_10_170 : Cond.code ({ cls := "LastLoafModel", name := "camps", desc := "()I" } : MethodName) prog_14_method_124_code (7 : Nat) (Option.some ClassFile.FieldType.int) ∈ TB := tb_in (lwt_10 (List.mem_of_getElem? (i := 170) (by decide +kernel))) rfl
theorem w_10_167 : Cond.methodLink "LastLoafLaw" (293 : Nat) ({ cls := "LastLoafModel", name := "camps", desc := "()I" } : MethodName) ∈ TB := tb_in (lwt_10 (List.mem_of_getElem? (i := 167) (by decide +kernel))) rfl
theorem w_10_168 : Cond.instanceMethod ({ cls := "LastLoafModel", name := "camps", desc := "()I" } : MethodName) ∈ TB := tb_in (lwt_10 (List.mem_of_getElem? (i := 168) (by decide +kernel))) rfl
theorem dL_law__2373 : decode cL_law_ 2373 = .ok (.invokevirtual 293, 3) := by decide +kernel
theorem dL_law__2376 : decode cL_law_ 2376 = .ok (.if_icmp .eq 875, 3) := by decide +kernel
def Op_camps (RR : St → St → Prop) : Prop := ∀ (σ μ : St), RR σ μ → ∃ (r1 : (Int32 × St)) (r2 : (Int32 × St)), q11_camps σ  = some r1 ∧ q12_camps μ  = some r2 ∧ r1.1 = r2.1 ∧ RR r1.2 r2.2
set_option maxHeartbeats 4000000 in
set_option maxRecDepth 100000 in
theorem law_40 {RR : St → St → Prop} (hop : Op_camps RR) {Θ : Tz} {cJ : ClassId} {Q : State → Prop} {w : Wp} {aM : Nat → Nat} {ao b L : Nat} {xs : Nat → Int32} (C : Gc Θ cL_law_ 7 RL (some .boolean) room_1 cJ) (hlt : Θ.1.2.1.stackTraces = false) (Lx : Lq Θ w aM ao) (S : Ls Θ b L xs) {σ μ : St} {o : Int64} {i kc ks : Nat} (hi : i + 6 ≤ L) (hk : kc + 4 ≤ 601024 ∧ ks + 24 ≤ 7293034) (hR : RR σ μ) (K : ∀ σ' μ' o', RR σ' μ' → G Θ 7 (kc + 4) (ks + 24) Q (LPx w aM ao cJ σ' μ' o') 3251 (llv w aM ao b i) []) : G Θ 7 kc ks Q (LPx w aM ao cJ σ μ o) 2368 (llv w aM ao b i) [] := by
  obtain ⟨r1, r2, h1, h2, he, hR2⟩ := hop σ μ hR 
  refine g_aload_n C 1 dL_law__2368 rfl rfl ?_
  refine l_callCi C Lx [] r1.1 r1.2 0 rfl (c11_camps (l := Θ.1.2.1) (w := w)  rfl Lx.2.1 h1) w_4_36 w_4_33 w_4_34 w_4_35 w_1_1 ⟨rfl, rfl, (Nat.le_of_ble_eq_true rfl), (Nat.le_of_ble_eq_true rfl)⟩ (by decide +kernel) rfl rfl (Nat.le_of_ble_eq_true rfl) ⟨Nat.le_trans (Nat.le_add_right _ _) hk.1, Nat.le_trans (Nat.le_add_right _ _) hk.2⟩ dL_law__2369 ?_
  refine g_aload_n C 2 dL_law__2372 rfl rfl ?_
  refine l_callMi C Lx [] r2.1 r2.2 0 rfl (c12_camps (l := Θ.1.2.1) (w := wm w aM)  rfl Lx.2.2.1 h2) w_10_170 w_10_167 w_10_168 w_10_169 w_1_14 ⟨rfl, rfl, (Nat.le_of_ble_eq_true rfl), (Nat.le_of_ble_eq_true rfl)⟩ (by decide +kernel) rfl rfl (Nat.le_of_ble_eq_true rfl) ⟨Nat.le_trans (Nat.le_add_right _ _) hk.1, Nat.le_trans (Nat.le_add_right _ _) hk.2⟩ dL_law__2373 ?_
  refine g_icmp_eq C 3251 dL_law__2376 (by decide) (fun _ => ?_) (fun h => absurd (he) h)
  exact G.wid (Nat.le_add_right _ _) (Nat.le_add_right _ _) (K _ _ o hR2)
/-! case 41 -/
theorem dL_law__2381 : decode cL_law_ 2381 = .ok (.aload_n 1, 1) := by decide +kernel
theorem dL_law__2382 : decode cL_law_ 2382 = .ok (.aload_n 0, 1) := by decide +kernel
theorem dL_law__2383 : decode cL_law_ 2383 = .ok (.iload 4, 2) := by decide +kernel
theorem dL_law__2385 : decode cL_law_ 2385 = .ok (.iconst 1, 1) := by decide +kernel
theorem dL_law__2386 : decode cL_law_ 2386 = .ok (.iadd, 1) := by decide +kernel
theorem dL_law__2387 : decode cL_law_ 2387 = .ok (.iaload, 1) := by decide +kernel
theorem w_4_54 : Cond.selects "LastLoaf" ({ cls := "LastLoaf", name := "table", desc := "(I)I" } : MethodName) ({ cls := "LastLoaf", name := "table", desc := "(I)I" } : MethodName) ∈ TB := tb_in (lwt_4 (List.mem_of_getElem? (i := 54) (by decide +kernel))) rfl
theorem w_4_55 : Cond.code ({ cls := "LastLoaf", name := "table", desc := "(I)I" } : MethodName) prog_1_method_43_code (2 : Nat) (Option.some ClassFile.FieldType.int) ∈ TB := tb_in (lwt_4 (List.mem_of_getElem? (i := 55) (by decide +kernel))) rfl
theorem w_4_52 : Cond.methodLink "LastLoafLaw" (294 : Nat) ({ cls := "LastLoaf", name := "table", desc := "(I)I" } : MethodName) ∈ TB := tb_in (lwt_4 (List.mem_of_getElem? (i := 52) (by decide +kernel))) rfl
theorem w_4_53 : Cond.instanceMethod ({ cls := "LastLoaf", name := "table", desc := "(I)I" } : MethodName) ∈ TB := tb_in (lwt_4 (List.mem_of_getElem? (i := 53) (by decide +kernel))) rfl
theorem dL_law__2388 : decode cL_law_ 2388 = .ok (.invokevirtual 294, 3) := by decide +kernel
theorem dL_law__2391 : decode cL_law_ 2391 = .ok (.aload_n 2, 1) := by decide +kernel
theorem dL_law__2392 : decode cL_law_ 2392 = .ok (.aload_n 0, 1) := by decide +kernel
theorem dL_law__2393 : decode cL_law_ 2393 = .ok (.iload 4, 2) := by decide +kernel
theorem dL_law__2395 : decode cL_law_ 2395 = .ok (.iconst 1, 1) := by decide +kernel
theorem dL_law__2396 : decode cL_law_ 2396 = .ok (.iadd, 1) := by decide +kernel
theorem dL_law__2397 : decode cL_law_ 2397 = .ok (.iaload, 1) := by decide +kernel
theorem w_10_173 : Cond.selects "LastLoafModel" ({ cls := "LastLoafModel", name := "table", desc := "(I)I" } : MethodName) ({ cls := "LastLoafModel", name := "table", desc := "(I)I" } : MethodName) ∈ TB := tb_in (lwt_10 (List.mem_of_getElem? (i := 173) (by decide +kernel))) rfl
theorem w_10_174 : Cond.code ({ cls := "LastLoafModel", name := "table", desc := "(I)I" } : MethodName) prog_14_method_126_code (7 : Nat) (Option.some ClassFile.FieldType.int) ∈ TB := tb_in (lwt_10 (List.mem_of_getElem? (i := 174) (by decide +kernel))) rfl
theorem w_10_171 : Cond.methodLink "LastLoafLaw" (297 : Nat) ({ cls := "LastLoafModel", name := "table", desc := "(I)I" } : MethodName) ∈ TB := tb_in (lwt_10 (List.mem_of_getElem? (i := 171) (by decide +kernel))) rfl
theorem w_10_172 : Cond.instanceMethod ({ cls := "LastLoafModel", name := "table", desc := "(I)I" } : MethodName) ∈ TB := tb_in (lwt_10 (List.mem_of_getElem? (i := 172) (by decide +kernel))) rfl
theorem dL_law__2398 : decode cL_law_ 2398 = .ok (.invokevirtual 297, 3) := by decide +kernel
theorem dL_law__2401 : decode cL_law_ 2401 = .ok (.if_icmp .eq 850, 3) := by decide +kernel
def Op_table (RR : St → St → Prop) : Prop := ∀ (σ μ : St), RR σ μ → ∀ (a0 : Int32), ∃ (r1 : (Int32 × St)) (r2 : (Int32 × St)), q11_table σ a0 = some r1 ∧ q12_table μ a0 = some r2 ∧ r1.1 = r2.1 ∧ RR r1.2 r2.2
set_option maxHeartbeats 4000000 in
set_option maxRecDepth 100000 in
theorem law_41 {RR : St → St → Prop} (hop : Op_table RR) {Θ : Tz} {cJ : ClassId} {Q : State → Prop} {w : Wp} {aM : Nat → Nat} {ao b L : Nat} {xs : Nat → Int32} (C : Gc Θ cL_law_ 7 RL (some .boolean) room_1 cJ) (hlt : Θ.1.2.1.stackTraces = false) (Lx : Lq Θ w aM ao) (S : Ls Θ b L xs) {σ μ : St} {o : Int64} {i kc ks : Nat} (hi : i + 6 ≤ L) (hk : kc + 4 ≤ 601024 ∧ ks + 24 ≤ 7293034) (hR : RR σ μ) (K : ∀ σ' μ' o', RR σ' μ' → G Θ 7 (kc + 4) (ks + 24) Q (LPx w aM ao cJ σ' μ' o') 3251 (llv w aM ao b i) []) : G Θ 7 kc ks Q (LPx w aM ao cJ σ μ o) 2381 (llv w aM ao b i) [] := by
  obtain ⟨r1, r2, h1, h2, he, hR2⟩ := hop σ μ hR (xs (i + 1))
  refine g_aload_n C 1 dL_law__2381 rfl rfl ?_
  refine l_arg C S 0 4 1 rfl rfl (by omega) rfl dL_law__2382 dL_law__2383 dL_law__2385 dL_law__2386 dL_law__2387 ?_
  refine l_callCi C Lx [.int (xs (i + 1))] r1.1 r1.2 1 rfl (c11_table (l := Θ.1.2.1) (w := w) (k_a := (xs (i + 1))) rfl Lx.2.1 h1) w_4_55 w_4_52 w_4_53 w_4_54 w_1_1 ⟨rfl, rfl, (Nat.le_of_ble_eq_true rfl), (Nat.le_of_ble_eq_true rfl)⟩ (by decide +kernel) rfl rfl (Nat.le_of_ble_eq_true rfl) ⟨Nat.le_trans (Nat.le_add_right _ _) hk.1, Nat.le_trans (Nat.le_add_right _ _) hk.2⟩ dL_law__2388 ?_
  refine g_aload_n C 2 dL_law__2391 rfl rfl ?_
  refine l_arg C S 0 4 1 rfl rfl (by omega) rfl dL_law__2392 dL_law__2393 dL_law__2395 dL_law__2396 dL_law__2397 ?_
  refine l_callMi C Lx [.int (xs (i + 1))] r2.1 r2.2 1 rfl (c12_table (l := Θ.1.2.1) (w := wm w aM) (k_a := (xs (i + 1))) rfl Lx.2.2.1 h2) w_10_174 w_10_171 w_10_172 w_10_173 w_1_14 ⟨rfl, rfl, (Nat.le_of_ble_eq_true rfl), (Nat.le_of_ble_eq_true rfl)⟩ (by decide +kernel) rfl rfl (Nat.le_of_ble_eq_true rfl) ⟨Nat.le_trans (Nat.le_add_right _ _) hk.1, Nat.le_trans (Nat.le_add_right _ _) hk.2⟩ dL_law__2398 ?_
  refine g_icmp_eq C 3251 dL_law__2401 (by decide) (fun _ => ?_) (fun h => absurd (he) h)
  exact G.wid (Nat.le_add_right _ _) (Nat.le_add_right _ _) (K _ _ o hR2)
/-! case 42 -/
theorem dL_law__2406 : decode cL_law_ 2406 = .ok (.aload_n 1, 1) := by decide +kernel
theorem dL_law__2407 : decode cL_law_ 2407 = .ok (.aload_n 0, 1) := by decide +kernel
theorem dL_law__2408 : decode cL_law_ 2408 = .ok (.iload 4, 2) := by decide +kernel
theorem dL_law__2410 : decode cL_law_ 2410 = .ok (.iconst 1, 1) := by decide +kernel
theorem dL_law__2411 : decode cL_law_ 2411 = .ok (.iadd, 1) := by decide +kernel
theorem dL_law__2412 : decode cL_law_ 2412 = .ok (.iaload, 1) := by decide +kernel
theorem dL_law__2413 : decode cL_law_ 2413 = .ok (.aload_n 0, 1) := by decide +kernel
theorem dL_law__2414 : decode cL_law_ 2414 = .ok (.iload 4, 2) := by decide +kernel
theorem dL_law__2416 : decode cL_law_ 2416 = .ok (.iconst 2, 1) := by decide +kernel
theorem dL_law__2417 : decode cL_law_ 2417 = .ok (.iadd, 1) := by decide +kernel
theorem dL_law__2418 : decode cL_law_ 2418 = .ok (.iaload, 1) := by decide +kernel
theorem dL_law__2419 : decode cL_law_ 2419 = .ok (.aload_n 3, 1) := by decide +kernel
theorem w_7_166 : Cond.codeWith ({ cls := "LastLoafLaw", name := "slices", desc := "(LLastLoaf;II[J)I" } : MethodName) method_33_code (5 : Nat) (Option.some ClassFile.FieldType.int) [((0 : Nat), (10 : Nat), (13 : Nat), (24 : Nat)), ((0 : Nat), (10 : Nat), (17 : Nat), (13 : Nat))] ∈ TB := tb_in (lwt_7 (List.mem_of_getElem? (i := 166) (by decide +kernel))) rfl
theorem w_7_164 : Cond.methodLink "LastLoafLaw" (298 : Nat) ({ cls := "LastLoafLaw", name := "slices", desc := "(LLastLoaf;II[J)I" } : MethodName) ∈ TB := tb_in (lwt_7 (List.mem_of_getElem? (i := 164) (by decide +kernel))) rfl
theorem w_7_165 : Cond.static ({ cls := "LastLoafLaw", name := "slices", desc := "(LLastLoaf;II[J)I" } : MethodName) ∈ TB := tb_in (lwt_7 (List.mem_of_getElem? (i := 165) (by decide +kernel))) rfl
theorem dL_law__2420 : decode cL_law_ 2420 = .ok (.invokestatic 298, 3) := by decide +kernel
theorem dL_law__2423 : decode cL_law_ 2423 = .ok (.istore 5, 2) := by decide +kernel
theorem dL_law__2425 : decode cL_law_ 2425 = .ok (.aload_n 2, 1) := by decide +kernel
theorem dL_law__2426 : decode cL_law_ 2426 = .ok (.aload_n 0, 1) := by decide +kernel
theorem dL_law__2427 : decode cL_law_ 2427 = .ok (.iload 4, 2) := by decide +kernel
theorem dL_law__2429 : decode cL_law_ 2429 = .ok (.iconst 1, 1) := by decide +kernel
theorem dL_law__2430 : decode cL_law_ 2430 = .ok (.iadd, 1) := by decide +kernel
theorem dL_law__2431 : decode cL_law_ 2431 = .ok (.iaload, 1) := by decide +kernel
theorem dL_law__2432 : decode cL_law_ 2432 = .ok (.aload_n 0, 1) := by decide +kernel
theorem dL_law__2433 : decode cL_law_ 2433 = .ok (.iload 4, 2) := by decide +kernel
theorem dL_law__2435 : decode cL_law_ 2435 = .ok (.iconst 2, 1) := by decide +kernel
theorem dL_law__2436 : decode cL_law_ 2436 = .ok (.iadd, 1) := by decide +kernel
theorem dL_law__2437 : decode cL_law_ 2437 = .ok (.iaload, 1) := by decide +kernel
theorem w_10_181 : Cond.selects "LastLoafModel" ({ cls := "LastLoafModel", name := "slices", desc := "(II)I" } : MethodName) ({ cls := "LastLoafModel", name := "slices", desc := "(II)I" } : MethodName) ∈ TB := tb_in (lwt_10 (List.mem_of_getElem? (i := 181) (by decide +kernel))) rfl
theorem w_10_182 : Cond.code ({ cls := "LastLoafModel", name := "slices", desc := "(II)I" } : MethodName) prog_14_method_127_code (6 : Nat) (Option.some ClassFile.FieldType.int) ∈ TB := tb_in (lwt_10 (List.mem_of_getElem? (i := 182) (by decide +kernel))) rfl
theorem w_10_179 : Cond.methodLink "LastLoafLaw" (300 : Nat) ({ cls := "LastLoafModel", name := "slices", desc := "(II)I" } : MethodName) ∈ TB := tb_in (lwt_10 (List.mem_of_getElem? (i := 179) (by decide +kernel))) rfl
theorem w_10_180 : Cond.instanceMethod ({ cls := "LastLoafModel", name := "slices", desc := "(II)I" } : MethodName) ∈ TB := tb_in (lwt_10 (List.mem_of_getElem? (i := 180) (by decide +kernel))) rfl
theorem dL_law__2438 : decode cL_law_ 2438 = .ok (.invokevirtual 300, 3) := by decide +kernel
theorem dL_law__2441 : decode cL_law_ 2441 = .ok (.istore 6, 2) := by decide +kernel
theorem dL_law__2443 : decode cL_law_ 2443 = .ok (.aload_n 2, 1) := by decide +kernel
theorem dL_law__2444 : decode cL_law_ 2444 = .ok (.invokevirtual 163, 3) := by decide +kernel
theorem dL_law__2447 : decode cL_law_ 2447 = .ok (.iload 5, 2) := by decide +kernel
theorem dL_law__2449 : decode cL_law_ 2449 = .ok (.if_icmp .eq 5, 3) := by decide +kernel
theorem dL_law__2454 : decode cL_law_ 2454 = .ok (.iload 5, 2) := by decide +kernel
theorem dL_law__2456 : decode cL_law_ 2456 = .ok (.ifCond .ne 15, 3) := by decide +kernel
theorem dL_law__2471 : decode cL_law_ 2471 = .ok (.goto 780, 3) := by decide +kernel
theorem dL_law__2459 : decode cL_law_ 2459 = .ok (.aload_n 3, 1) := by decide +kernel
theorem dL_law__2460 : decode cL_law_ 2460 = .ok (.iconst 0, 1) := by decide +kernel
theorem dL_law__2461 : decode cL_law_ 2461 = .ok (.laload, 1) := by decide +kernel
theorem dL_law__2462 : decode cL_law_ 2462 = .ok (.iload 6, 2) := by decide +kernel
theorem dL_law__2464 : decode cL_law_ 2464 = .ok (.i2l, 1) := by decide +kernel
theorem dL_law__2465 : decode cL_law_ 2465 = .ok (.lcmp, 1) := by decide +kernel
theorem dL_law__2466 : decode cL_law_ 2466 = .ok (.ifCond .eq 5, 3) := by decide +kernel
def Op_slices (RR : St → St → Prop) : Prop := ∀ (σ μ : St), RR σ μ → ∀ (a0 : Int32) (a1 : Int32), ∃ (r1 : Sum Nat Int32 × St) (r2 : Int32 × St), q11_slices σ a0 a1 = some r1 ∧ q12_slices μ a0 a1 = some r2 ∧ Sx [2, 0] r1 r2 ∧ RR r1.2 r2.2
set_option maxHeartbeats 4000000 in
set_option maxRecDepth 100000 in
theorem law_42 {RR : St → St → Prop} (hop : Op_slices RR) {Θ : Tz} {cJ : ClassId} {Q : State → Prop} {w : Wp} {aM : Nat → Nat} {ao b L : Nat} {xs : Nat → Int32} (C : Gc Θ cL_law_ 7 RL (some .boolean) room_1 cJ) (hlt : Θ.1.2.1.stackTraces = false) (Lx : Lq Θ w aM ao) (S : Ls Θ b L xs) {σ μ : St} {o : Int64} {i kc ks : Nat} (hi : i + 6 ≤ L) (hk : kc + 4 ≤ 601024 ∧ ks + 24 ≤ 7293034) (hR : RR σ μ) (K : ∀ σ' μ' o', RR σ' μ' → G Θ 7 (kc + 4) (ks + 24) Q (LPx w aM ao cJ σ' μ' o') 3251 (llv w aM ao b i) []) : G Θ 7 kc ks Q (LPx w aM ao cJ σ μ o) 2406 (llv w aM ao b i) [] := by
  obtain ⟨r1, r2, h1, h2, he, hR2⟩ := hop σ μ hR (xs (i + 1)) (xs (i + 2))
  refine g_aload_n C 1 dL_law__2406 rfl rfl ?_
  refine l_arg C S 0 4 1 rfl rfl (by omega) rfl dL_law__2407 dL_law__2408 dL_law__2410 dL_law__2411 dL_law__2412 ?_
  refine l_arg C S 0 4 2 rfl rfl (by omega) rfl dL_law__2413 dL_law__2414 dL_law__2416 dL_law__2417 dL_law__2418 ?_
  refine g_aload_n C 3 dL_law__2419 rfl rfl ?_
  refine l_callW C Lx [.ref (w.2.2.1 0), .int (xs (i + 1)), .int (xs (i + 2)), .ref ao] 4 (wr_slices (l := Θ.1.2.1) Lx.2.1 hlt Lx.2.2.2.2.2.2.2.1 h1 (Sx_in he)) w_7_166 w_7_164 w_7_165 w_1_0 ⟨rfl, rfl, (Nat.le_of_ble_eq_true rfl), (Nat.le_of_ble_eq_true rfl)⟩ (by decide +kernel) rfl rfl (Nat.le_of_ble_eq_true rfl) hk dL_law__2420 ?_
  refine g_istore C dL_law__2423 (Nat.le_of_ble_eq_true rfl) rfl ?_
  refine g_aload_n C 3 dL_law__2425 rfl rfl ?_
  refine l_arg C S 1 5 1 rfl rfl (by omega) rfl dL_law__2426 dL_law__2427 dL_law__2429 dL_law__2430 dL_law__2431 ?_
  refine l_arg C S 1 5 2 rfl rfl (by omega) rfl dL_law__2432 dL_law__2433 dL_law__2435 dL_law__2436 dL_law__2437 ?_
  refine l_callMi C Lx [.int (xs (i + 1)), .int (xs (i + 2))] r2.1 r2.2 2 rfl (c12_slices (l := Θ.1.2.1) (w := wm w aM) (p_a := (xs (i + 1))) (n_a := (xs (i + 2))) rfl Lx.2.2.1 h2) w_10_182 w_10_179 w_10_180 w_10_181 w_1_14 ⟨rfl, rfl, (Nat.le_of_ble_eq_true rfl), (Nat.le_of_ble_eq_true rfl)⟩ (by decide +kernel) rfl rfl (Nat.le_of_ble_eq_true rfl) hk dL_law__2438 ?_
  refine g_istore C dL_law__2441 (Nat.le_of_ble_eq_true rfl) rfl ?_
  refine g_aload_n C 4 dL_law__2443 rfl rfl ?_
  refine l_callMi C Lx [] (q12_thrown r2.2) r2.2 0 rfl (c12_thrown (l := Θ.1.2.1) (w := wm w aM) rfl Lx.2.2.1) w_8_130 w_8_127 w_8_128 w_8_129 w_1_14 ⟨rfl, rfl, (Nat.le_of_ble_eq_true rfl), (Nat.le_of_ble_eq_true rfl)⟩ (by decide +kernel) rfl rfl (Nat.le_of_ble_eq_true rfl) hk dL_law__2444 ?_
  refine g_iload C 1 dL_law__2447 rfl ?_
  refine g_icmp_eq C 2454 dL_law__2449 (by decide) (fun _ => ?_) (fun h => absurd (Sx_k he) h)
  refine g_iload C 1 dL_law__2454 rfl ?_
  refine g_if_ne C 2471 dL_law__2456 (by decide) (fun _ => ?_) (fun h0 => ?_)
  · refine g_goto C 3251 dL_law__2471 (by decide) ?_
    refine G.sub [2, 3, 4, 5, 6] rfl ?_
    exact K _ _ _ hR2
  · refine g_aload_n C 5 dL_law__2459 rfl rfl ?_
    refine g_iconst (v := 0) C dL_law__2460 rfl ?_
    refine l_lald C (by rw [Lx.1]) dL_law__2461 ?_
    refine g_iload C 0 dL_law__2462 rfl ?_
    refine g_i2l C dL_law__2464 ?_
    refine g_lcmp C dL_law__2465 ?_
    rw [Sx_o (f := (fun v => v)) (o := o) (by decide) he h0, lg_cmp_self]
    refine g_if_eq C 2471 dL_law__2466 (by decide) (fun _ => ?_) (fun h => absurd rfl h)
    refine g_goto C 3251 dL_law__2471 (by decide) ?_
    refine G.sub [2, 3, 4, 5, 6] rfl ?_
    exact K _ _ _ hR2
/-! case 43 -/
theorem dL_law__2474 : decode cL_law_ 2474 = .ok (.aload_n 1, 1) := by decide +kernel
theorem dL_law__2475 : decode cL_law_ 2475 = .ok (.aload_n 0, 1) := by decide +kernel
theorem dL_law__2476 : decode cL_law_ 2476 = .ok (.iload 4, 2) := by decide +kernel
theorem dL_law__2478 : decode cL_law_ 2478 = .ok (.iconst 1, 1) := by decide +kernel
theorem dL_law__2479 : decode cL_law_ 2479 = .ok (.iadd, 1) := by decide +kernel
theorem dL_law__2480 : decode cL_law_ 2480 = .ok (.iaload, 1) := by decide +kernel
theorem dL_law__2481 : decode cL_law_ 2481 = .ok (.aload_n 3, 1) := by decide +kernel
theorem w_7_173 : Cond.codeWith ({ cls := "LastLoafLaw", name := "ring", desc := "(LLastLoaf;I[J)I" } : MethodName) method_34_code (4 : Nat) (Option.some ClassFile.FieldType.int) [((0 : Nat), (16 : Nat), (19 : Nat), (24 : Nat))] ∈ TB := tb_in (lwt_7 (List.mem_of_getElem? (i := 173) (by decide +kernel))) rfl
theorem w_7_171 : Cond.methodLink "LastLoafLaw" (301 : Nat) ({ cls := "LastLoafLaw", name := "ring", desc := "(LLastLoaf;I[J)I" } : MethodName) ∈ TB := tb_in (lwt_7 (List.mem_of_getElem? (i := 171) (by decide +kernel))) rfl
theorem w_7_172 : Cond.static ({ cls := "LastLoafLaw", name := "ring", desc := "(LLastLoaf;I[J)I" } : MethodName) ∈ TB := tb_in (lwt_7 (List.mem_of_getElem? (i := 172) (by decide +kernel))) rfl
theorem dL_law__2482 : decode cL_law_ 2482 = .ok (.invokestatic 301, 3) := by decide +kernel
theorem dL_law__2485 : decode cL_law_ 2485 = .ok (.istore 5, 2) := by decide +kernel
theorem dL_law__2487 : decode cL_law_ 2487 = .ok (.aload_n 2, 1) := by decide +kernel
theorem dL_law__2488 : decode cL_law_ 2488 = .ok (.aload_n 0, 1) := by decide +kernel
theorem dL_law__2489 : decode cL_law_ 2489 = .ok (.iload 4, 2) := by decide +kernel
theorem dL_law__2491 : decode cL_law_ 2491 = .ok (.iconst 1, 1) := by decide +kernel
theorem dL_law__2492 : decode cL_law_ 2492 = .ok (.iadd, 1) := by decide +kernel
theorem dL_law__2493 : decode cL_law_ 2493 = .ok (.iaload, 1) := by decide +kernel
theorem w_10_185 : Cond.selects "LastLoafModel" ({ cls := "LastLoafModel", name := "ring", desc := "(I)Z" } : MethodName) ({ cls := "LastLoafModel", name := "ring", desc := "(I)Z" } : MethodName) ∈ TB := tb_in (lwt_10 (List.mem_of_getElem? (i := 185) (by decide +kernel))) rfl
theorem w_10_186 : Cond.code ({ cls := "LastLoafModel", name := "ring", desc := "(I)Z" } : MethodName) prog_14_method_129_code (4 : Nat) (Option.some ClassFile.FieldType.boolean) ∈ TB := tb_in (lwt_10 (List.mem_of_getElem? (i := 186) (by decide +kernel))) rfl
theorem w_10_183 : Cond.methodLink "LastLoafLaw" (303 : Nat) ({ cls := "LastLoafModel", name := "ring", desc := "(I)Z" } : MethodName) ∈ TB := tb_in (lwt_10 (List.mem_of_getElem? (i := 183) (by decide +kernel))) rfl
theorem w_10_184 : Cond.instanceMethod ({ cls := "LastLoafModel", name := "ring", desc := "(I)Z" } : MethodName) ∈ TB := tb_in (lwt_10 (List.mem_of_getElem? (i := 184) (by decide +kernel))) rfl
theorem dL_law__2494 : decode cL_law_ 2494 = .ok (.invokevirtual 303, 3) := by decide +kernel
theorem dL_law__2497 : decode cL_law_ 2497 = .ok (.istore 6, 2) := by decide +kernel
theorem dL_law__2499 : decode cL_law_ 2499 = .ok (.aload_n 2, 1) := by decide +kernel
theorem dL_law__2500 : decode cL_law_ 2500 = .ok (.invokevirtual 163, 3) := by decide +kernel
theorem dL_law__2503 : decode cL_law_ 2503 = .ok (.iload 5, 2) := by decide +kernel
theorem dL_law__2505 : decode cL_law_ 2505 = .ok (.if_icmp .eq 5, 3) := by decide +kernel
theorem dL_law__2510 : decode cL_law_ 2510 = .ok (.iload 5, 2) := by decide +kernel
theorem dL_law__2512 : decode cL_law_ 2512 = .ok (.ifCond .ne 22, 3) := by decide +kernel
theorem dL_law__2534 : decode cL_law_ 2534 = .ok (.goto 717, 3) := by decide +kernel
theorem dL_law__2515 : decode cL_law_ 2515 = .ok (.aload_n 3, 1) := by decide +kernel
theorem dL_law__2516 : decode cL_law_ 2516 = .ok (.iconst 0, 1) := by decide +kernel
theorem dL_law__2517 : decode cL_law_ 2517 = .ok (.laload, 1) := by decide +kernel
theorem dL_law__2518 : decode cL_law_ 2518 = .ok (.iload 6, 2) := by decide +kernel
theorem dL_law__2520 : decode cL_law_ 2520 = .ok (.ifCond .eq 7, 3) := by decide +kernel
theorem dL_law__2523 : decode cL_law_ 2523 = .ok (.lconst 1, 1) := by decide +kernel
theorem dL_law__2524 : decode cL_law_ 2524 = .ok (.goto 4, 3) := by decide +kernel
theorem dL_law__2527 : decode cL_law_ 2527 = .ok (.lconst 0, 1) := by decide +kernel
theorem dL_law__2528 : decode cL_law_ 2528 = .ok (.lcmp, 1) := by decide +kernel
theorem dL_law__2529 : decode cL_law_ 2529 = .ok (.ifCond .eq 5, 3) := by decide +kernel
def Op_ring (RR : St → St → Prop) : Prop := ∀ (σ μ : St), RR σ μ → ∀ (a0 : Int32), ∃ (r1 : Sum Nat Bool × St) (r2 : Bool × St), q11_ring σ a0 = some r1 ∧ q12_ring μ a0 = some r2 ∧ Sx [2] r1 r2 ∧ RR r1.2 r2.2
set_option maxHeartbeats 4000000 in
set_option maxRecDepth 100000 in
theorem law_43 {RR : St → St → Prop} (hop : Op_ring RR) {Θ : Tz} {cJ : ClassId} {Q : State → Prop} {w : Wp} {aM : Nat → Nat} {ao b L : Nat} {xs : Nat → Int32} (C : Gc Θ cL_law_ 7 RL (some .boolean) room_1 cJ) (hlt : Θ.1.2.1.stackTraces = false) (Lx : Lq Θ w aM ao) (S : Ls Θ b L xs) {σ μ : St} {o : Int64} {i kc ks : Nat} (hi : i + 6 ≤ L) (hk : kc + 4 ≤ 601024 ∧ ks + 24 ≤ 7293034) (hR : RR σ μ) (K : ∀ σ' μ' o', RR σ' μ' → G Θ 7 (kc + 4) (ks + 24) Q (LPx w aM ao cJ σ' μ' o') 3251 (llv w aM ao b i) []) : G Θ 7 kc ks Q (LPx w aM ao cJ σ μ o) 2474 (llv w aM ao b i) [] := by
  obtain ⟨r1, r2, h1, h2, he, hR2⟩ := hop σ μ hR (xs (i + 1))
  refine g_aload_n C 1 dL_law__2474 rfl rfl ?_
  refine l_arg C S 0 4 1 rfl rfl (by omega) rfl dL_law__2475 dL_law__2476 dL_law__2478 dL_law__2479 dL_law__2480 ?_
  refine g_aload_n C 3 dL_law__2481 rfl rfl ?_
  refine l_callW C Lx [.ref (w.2.2.1 0), .int (xs (i + 1)), .ref ao] 3 (wr_ring (l := Θ.1.2.1) Lx.2.1 hlt Lx.2.2.2.2.2.2.2.1 h1 (Sx_in he)) w_7_173 w_7_171 w_7_172 w_1_0 ⟨rfl, rfl, (Nat.le_of_ble_eq_true rfl), (Nat.le_of_ble_eq_true rfl)⟩ (by decide +kernel) rfl rfl (Nat.le_of_ble_eq_true rfl) hk dL_law__2482 ?_
  refine g_istore C dL_law__2485 (Nat.le_of_ble_eq_true rfl) rfl ?_
  refine g_aload_n C 3 dL_law__2487 rfl rfl ?_
  refine l_arg C S 1 5 1 rfl rfl (by omega) rfl dL_law__2488 dL_law__2489 dL_law__2491 dL_law__2492 dL_law__2493 ?_
  refine l_callMi C Lx [.int (xs (i + 1))] (b2i r2.1) r2.2 1 rfl (c12_ring (l := Θ.1.2.1) (w := wm w aM) (p_a := (xs (i + 1))) rfl Lx.2.2.1 h2) w_10_186 w_10_183 w_10_184 w_10_185 w_1_14 ⟨rfl, rfl, (Nat.le_of_ble_eq_true rfl), (Nat.le_of_ble_eq_true rfl)⟩ (by decide +kernel) rfl rfl (Nat.le_of_ble_eq_true rfl) hk dL_law__2494 ?_
  refine g_istore C dL_law__2497 (Nat.le_of_ble_eq_true rfl) rfl ?_
  refine g_aload_n C 4 dL_law__2499 rfl rfl ?_
  refine l_callMi C Lx [] (q12_thrown r2.2) r2.2 0 rfl (c12_thrown (l := Θ.1.2.1) (w := wm w aM) rfl Lx.2.2.1) w_8_130 w_8_127 w_8_128 w_8_129 w_1_14 ⟨rfl, rfl, (Nat.le_of_ble_eq_true rfl), (Nat.le_of_ble_eq_true rfl)⟩ (by decide +kernel) rfl rfl (Nat.le_of_ble_eq_true rfl) hk dL_law__2500 ?_
  refine g_iload C 1 dL_law__2503 rfl ?_
  refine g_icmp_eq C 2510 dL_law__2505 (by decide) (fun _ => ?_) (fun h => absurd (Sx_k he) h)
  refine g_iload C 1 dL_law__2510 rfl ?_
  refine g_if_ne C 2534 dL_law__2512 (by decide) (fun _ => ?_) (fun h0 => ?_)
  · refine g_goto C 3251 dL_law__2534 (by decide) ?_
    refine G.sub [2, 3, 4, 5, 6] rfl ?_
    exact K _ _ _ hR2
  · refine g_aload_n C 5 dL_law__2515 rfl rfl ?_
    refine g_iconst (v := 0) C dL_law__2516 rfl ?_
    refine l_lald C (by rw [Lx.1]) dL_law__2517 ?_
    refine g_iload C 0 dL_law__2518 rfl ?_
    refine g_bl (b := r2.1) C dL_law__2520 dL_law__2523 dL_law__2524 dL_law__2527 ?_
    refine g_lcmp C dL_law__2528 ?_
    rw [Sx_o (f := b2i) (o := o) (by decide) he h0, lg_cmp_self]
    refine g_if_eq C 2534 dL_law__2529 (by decide) (fun _ => ?_) (fun h => absurd rfl h)
    refine g_goto C 3251 dL_law__2534 (by decide) ?_
    refine G.sub [2, 3, 4, 5, 6] rfl ?_
    exact K _ _ _ hR2
/-! case 44 -/
theorem dL_law__2537 : decode cL_law_ 2537 = .ok (.aload_n 1, 1) := by decide +kernel
theorem dL_law__2538 : decode cL_law_ 2538 = .ok (.aload_n 0, 1) := by decide +kernel
theorem dL_law__2539 : decode cL_law_ 2539 = .ok (.iload 4, 2) := by decide +kernel
theorem dL_law__2541 : decode cL_law_ 2541 = .ok (.iconst 1, 1) := by decide +kernel
theorem dL_law__2542 : decode cL_law_ 2542 = .ok (.iadd, 1) := by decide +kernel
theorem dL_law__2543 : decode cL_law_ 2543 = .ok (.iaload, 1) := by decide +kernel
theorem dL_law__2544 : decode cL_law_ 2544 = .ok (.aload_n 0, 1) := by decide +kernel
theorem dL_law__2545 : decode cL_law_ 2545 = .ok (.iload 4, 2) := by decide +kernel
theorem dL_law__2547 : decode cL_law_ 2547 = .ok (.iconst 2, 1) := by decide +kernel
theorem dL_law__2548 : decode cL_law_ 2548 = .ok (.iadd, 1) := by decide +kernel
theorem dL_law__2549 : decode cL_law_ 2549 = .ok (.iaload, 1) := by decide +kernel
theorem dL_law__2550 : decode cL_law_ 2550 = .ok (.aload_n 3, 1) := by decide +kernel
theorem w_7_180 : Cond.codeWith ({ cls := "LastLoafLaw", name := "rests", desc := "(LLastLoaf;II[J)I" } : MethodName) method_35_code (5 : Nat) (Option.some ClassFile.FieldType.int) [((0 : Nat), (10 : Nat), (13 : Nat), (24 : Nat)), ((0 : Nat), (10 : Nat), (17 : Nat), (13 : Nat)), ((0 : Nat), (10 : Nat), (21 : Nat), (45 : Nat))] ∈ TB := tb_in (lwt_7 (List.mem_of_getElem? (i := 180) (by decide +kernel))) rfl
theorem w_7_178 : Cond.methodLink "LastLoafLaw" (304 : Nat) ({ cls := "LastLoafLaw", name := "rests", desc := "(LLastLoaf;II[J)I" } : MethodName) ∈ TB := tb_in (lwt_7 (List.mem_of_getElem? (i := 178) (by decide +kernel))) rfl
theorem w_7_179 : Cond.static ({ cls := "LastLoafLaw", name := "rests", desc := "(LLastLoaf;II[J)I" } : MethodName) ∈ TB := tb_in (lwt_7 (List.mem_of_getElem? (i := 179) (by decide +kernel))) rfl
theorem dL_law__2551 : decode cL_law_ 2551 = .ok (.invokestatic 304, 3) := by decide +kernel
theorem dL_law__2554 : decode cL_law_ 2554 = .ok (.istore 5, 2) := by decide +kernel
theorem dL_law__2556 : decode cL_law_ 2556 = .ok (.aload_n 2, 1) := by decide +kernel
theorem dL_law__2557 : decode cL_law_ 2557 = .ok (.aload_n 0, 1) := by decide +kernel
theorem dL_law__2558 : decode cL_law_ 2558 = .ok (.iload 4, 2) := by decide +kernel
theorem dL_law__2560 : decode cL_law_ 2560 = .ok (.iconst 1, 1) := by decide +kernel
theorem dL_law__2561 : decode cL_law_ 2561 = .ok (.iadd, 1) := by decide +kernel
theorem dL_law__2562 : decode cL_law_ 2562 = .ok (.iaload, 1) := by decide +kernel
theorem dL_law__2563 : decode cL_law_ 2563 = .ok (.aload_n 0, 1) := by decide +kernel
theorem dL_law__2564 : decode cL_law_ 2564 = .ok (.iload 4, 2) := by decide +kernel
theorem dL_law__2566 : decode cL_law_ 2566 = .ok (.iconst 2, 1) := by decide +kernel
theorem dL_law__2567 : decode cL_law_ 2567 = .ok (.iadd, 1) := by decide +kernel
theorem dL_law__2568 : decode cL_law_ 2568 = .ok (.iaload, 1) := by decide +kernel
theorem w_10_189 : Cond.selects "LastLoafModel" ({ cls := "LastLoafModel", name := "rests", desc := "(II)I" } : MethodName) ({ cls := "LastLoafModel", name := "rests", desc := "(II)I" } : MethodName) ∈ TB := tb_in (lwt_10 (List.mem_of_getElem? (i := 189) (by decide +kernel))) rfl
theorem w_10_190 : Cond.code ({ cls := "LastLoafModel", name := "rests", desc := "(II)I" } : MethodName) prog_14_method_132_code (7 : Nat) (Option.some ClassFile.FieldType.int) ∈ TB := tb_in (lwt_10 (List.mem_of_getElem? (i := 190) (by decide +kernel))) rfl
theorem w_10_187 : Cond.methodLink "LastLoafLaw" (306 : Nat) ({ cls := "LastLoafModel", name := "rests", desc := "(II)I" } : MethodName) ∈ TB := tb_in (lwt_10 (List.mem_of_getElem? (i := 187) (by decide +kernel))) rfl
theorem w_10_188 : Cond.instanceMethod ({ cls := "LastLoafModel", name := "rests", desc := "(II)I" } : MethodName) ∈ TB := tb_in (lwt_10 (List.mem_of_getElem? (i := 188) (by decide +kernel))) rfl
theorem dL_law__2569 : decode cL_law_ 2569 = .ok (.invokevirtual 306, 3) := by decide +kernel
theorem dL_law__2572 : decode cL_law_ 2572 = .ok (.istore 6, 2) := by decide +kernel
theorem dL_law__2574 : decode cL_law_ 2574 = .ok (.aload_n 2, 1) := by decide +kernel
theorem dL_law__2575 : decode cL_law_ 2575 = .ok (.invokevirtual 163, 3) := by decide +kernel
theorem dL_law__2578 : decode cL_law_ 2578 = .ok (.iload 5, 2) := by decide +kernel
theorem dL_law__2580 : decode cL_law_ 2580 = .ok (.if_icmp .eq 5, 3) := by decide +kernel
theorem dL_law__2585 : decode cL_law_ 2585 = .ok (.iload 5, 2) := by decide +kernel
theorem dL_law__2587 : decode cL_law_ 2587 = .ok (.ifCond .ne 15, 3) := by decide +kernel
theorem dL_law__2602 : decode cL_law_ 2602 = .ok (.goto 649, 3) := by decide +kernel
theorem dL_law__2590 : decode cL_law_ 2590 = .ok (.aload_n 3, 1) := by decide +kernel
theorem dL_law__2591 : decode cL_law_ 2591 = .ok (.iconst 0, 1) := by decide +kernel
theorem dL_law__2592 : decode cL_law_ 2592 = .ok (.laload, 1) := by decide +kernel
theorem dL_law__2593 : decode cL_law_ 2593 = .ok (.iload 6, 2) := by decide +kernel
theorem dL_law__2595 : decode cL_law_ 2595 = .ok (.i2l, 1) := by decide +kernel
theorem dL_law__2596 : decode cL_law_ 2596 = .ok (.lcmp, 1) := by decide +kernel
theorem dL_law__2597 : decode cL_law_ 2597 = .ok (.ifCond .eq 5, 3) := by decide +kernel
def Op_rests (RR : St → St → Prop) : Prop := ∀ (σ μ : St), RR σ μ → ∀ (a0 : Int32) (a1 : Int32), ∃ (r1 : Sum Nat Int32 × St) (r2 : Int32 × St), q11_rests σ a0 a1 = some r1 ∧ q12_rests μ a0 a1 = some r2 ∧ Sx [2, 0, 1] r1 r2 ∧ RR r1.2 r2.2
set_option maxHeartbeats 4000000 in
set_option maxRecDepth 100000 in
theorem law_44 {RR : St → St → Prop} (hop : Op_rests RR) {Θ : Tz} {cJ : ClassId} {Q : State → Prop} {w : Wp} {aM : Nat → Nat} {ao b L : Nat} {xs : Nat → Int32} (C : Gc Θ cL_law_ 7 RL (some .boolean) room_1 cJ) (hlt : Θ.1.2.1.stackTraces = false) (Lx : Lq Θ w aM ao) (S : Ls Θ b L xs) {σ μ : St} {o : Int64} {i kc ks : Nat} (hi : i + 6 ≤ L) (hk : kc + 4 ≤ 601024 ∧ ks + 24 ≤ 7293034) (hR : RR σ μ) (K : ∀ σ' μ' o', RR σ' μ' → G Θ 7 (kc + 4) (ks + 24) Q (LPx w aM ao cJ σ' μ' o') 3251 (llv w aM ao b i) []) : G Θ 7 kc ks Q (LPx w aM ao cJ σ μ o) 2537 (llv w aM ao b i) [] := by
  obtain ⟨r1, r2, h1, h2, he, hR2⟩ := hop σ μ hR (xs (i + 1)) (xs (i + 2))
  refine g_aload_n C 1 dL_law__2537 rfl rfl ?_
  refine l_arg C S 0 4 1 rfl rfl (by omega) rfl dL_law__2538 dL_law__2539 dL_law__2541 dL_law__2542 dL_law__2543 ?_
  refine l_arg C S 0 4 2 rfl rfl (by omega) rfl dL_law__2544 dL_law__2545 dL_law__2547 dL_law__2548 dL_law__2549 ?_
  refine g_aload_n C 3 dL_law__2550 rfl rfl ?_
  refine l_callW C Lx [.ref (w.2.2.1 0), .int (xs (i + 1)), .int (xs (i + 2)), .ref ao] 4 (wr_rests (l := Θ.1.2.1) Lx.2.1 hlt Lx.2.2.2.2.2.2.2.1 h1 (Sx_in he)) w_7_180 w_7_178 w_7_179 w_1_0 ⟨rfl, rfl, (Nat.le_of_ble_eq_true rfl), (Nat.le_of_ble_eq_true rfl)⟩ (by decide +kernel) rfl rfl (Nat.le_of_ble_eq_true rfl) hk dL_law__2551 ?_
  refine g_istore C dL_law__2554 (Nat.le_of_ble_eq_true rfl) rfl ?_
  refine g_aload_n C 3 dL_law__2556 rfl rfl ?_
  refine l_arg C S 1 5 1 rfl rfl (by omega) rfl dL_law__2557 dL_law__2558 dL_law__2560 dL_law__2561 dL_law__2562 ?_
  refine l_arg C S 1 5 2 rfl rfl (by omega) rfl dL_law__2563 dL_law__2564 dL_law__2566 dL_law__2567 dL_law__2568 ?_
  refine l_callMi C Lx [.int (xs (i + 1)), .int (xs (i + 2))] r2.1 r2.2 2 rfl (c12_rests (l := Θ.1.2.1) (w := wm w aM) (p_a := (xs (i + 1))) (o_a := (xs (i + 2))) rfl Lx.2.2.1 h2) w_10_190 w_10_187 w_10_188 w_10_189 w_1_14 ⟨rfl, rfl, (Nat.le_of_ble_eq_true rfl), (Nat.le_of_ble_eq_true rfl)⟩ (by decide +kernel) rfl rfl (Nat.le_of_ble_eq_true rfl) hk dL_law__2569 ?_
  refine g_istore C dL_law__2572 (Nat.le_of_ble_eq_true rfl) rfl ?_
  refine g_aload_n C 4 dL_law__2574 rfl rfl ?_
  refine l_callMi C Lx [] (q12_thrown r2.2) r2.2 0 rfl (c12_thrown (l := Θ.1.2.1) (w := wm w aM) rfl Lx.2.2.1) w_8_130 w_8_127 w_8_128 w_8_129 w_1_14 ⟨rfl, rfl, (Nat.le_of_ble_eq_true rfl), (Nat.le_of_ble_eq_true rfl)⟩ (by decide +kernel) rfl rfl (Nat.le_of_ble_eq_true rfl) hk dL_law__2575 ?_
  refine g_iload C 1 dL_law__2578 rfl ?_
  refine g_icmp_eq C 2585 dL_law__2580 (by decide) (fun _ => ?_) (fun h => absurd (Sx_k he) h)
  refine g_iload C 1 dL_law__2585 rfl ?_
  refine g_if_ne C 2602 dL_law__2587 (by decide) (fun _ => ?_) (fun h0 => ?_)
  · refine g_goto C 3251 dL_law__2602 (by decide) ?_
    refine G.sub [2, 3, 4, 5, 6] rfl ?_
    exact K _ _ _ hR2
  · refine g_aload_n C 5 dL_law__2590 rfl rfl ?_
    refine g_iconst (v := 0) C dL_law__2591 rfl ?_
    refine l_lald C (by rw [Lx.1]) dL_law__2592 ?_
    refine g_iload C 0 dL_law__2593 rfl ?_
    refine g_i2l C dL_law__2595 ?_
    refine g_lcmp C dL_law__2596 ?_
    rw [Sx_o (f := (fun v => v)) (o := o) (by decide) he h0, lg_cmp_self]
    refine g_if_eq C 2602 dL_law__2597 (by decide) (fun _ => ?_) (fun h => absurd rfl h)
    refine g_goto C 3251 dL_law__2602 (by decide) ?_
    refine G.sub [2, 3, 4, 5, 6] rfl ?_
    exact K _ _ _ hR2
/-! case 45 -/
theorem dL_law__2605 : decode cL_law_ 2605 = .ok (.aload_n 1, 1) := by decide +kernel
theorem dL_law__2606 : decode cL_law_ 2606 = .ok (.aload_n 0, 1) := by decide +kernel
theorem dL_law__2607 : decode cL_law_ 2607 = .ok (.iload 4, 2) := by decide +kernel
theorem dL_law__2609 : decode cL_law_ 2609 = .ok (.iconst 1, 1) := by decide +kernel
theorem dL_law__2610 : decode cL_law_ 2610 = .ok (.iadd, 1) := by decide +kernel
theorem dL_law__2611 : decode cL_law_ 2611 = .ok (.iaload, 1) := by decide +kernel
theorem dL_law__2612 : decode cL_law_ 2612 = .ok (.aload_n 0, 1) := by decide +kernel
theorem dL_law__2613 : decode cL_law_ 2613 = .ok (.iload 4, 2) := by decide +kernel
theorem dL_law__2615 : decode cL_law_ 2615 = .ok (.iconst 2, 1) := by decide +kernel
theorem dL_law__2616 : decode cL_law_ 2616 = .ok (.iadd, 1) := by decide +kernel
theorem dL_law__2617 : decode cL_law_ 2617 = .ok (.iaload, 1) := by decide +kernel
theorem dL_law__2618 : decode cL_law_ 2618 = .ok (.aload_n 3, 1) := by decide +kernel
theorem w_7_196 : Cond.codeWith ({ cls := "LastLoafLaw", name := "odds", desc := "(LLastLoaf;II[J)I" } : MethodName) method_36_code (5 : Nat) (Option.some ClassFile.FieldType.int) [((0 : Nat), (10 : Nat), (13 : Nat), (13 : Nat))] ∈ TB := tb_in (lwt_7 (List.mem_of_getElem? (i := 196) (by decide +kernel))) rfl
theorem w_7_194 : Cond.methodLink "LastLoafLaw" (307 : Nat) ({ cls := "LastLoafLaw", name := "odds", desc := "(LLastLoaf;II[J)I" } : MethodName) ∈ TB := tb_in (lwt_7 (List.mem_of_getElem? (i := 194) (by decide +kernel))) rfl
theorem w_7_195 : Cond.static ({ cls := "LastLoafLaw", name := "odds", desc := "(LLastLoaf;II[J)I" } : MethodName) ∈ TB := tb_in (lwt_7 (List.mem_of_getElem? (i := 195) (by decide +kernel))) rfl
theorem dL_law__2619 : decode cL_law_ 2619 = .ok (.invokestatic 307, 3) := by decide +kernel
theorem dL_law__2622 : decode cL_law_ 2622 = .ok (.istore 5, 2) := by decide +kernel
theorem dL_law__2624 : decode cL_law_ 2624 = .ok (.aload_n 2, 1) := by decide +kernel
theorem dL_law__2625 : decode cL_law_ 2625 = .ok (.aload_n 0, 1) := by decide +kernel
theorem dL_law__2626 : decode cL_law_ 2626 = .ok (.iload 4, 2) := by decide +kernel
theorem dL_law__2628 : decode cL_law_ 2628 = .ok (.iconst 1, 1) := by decide +kernel
theorem dL_law__2629 : decode cL_law_ 2629 = .ok (.iadd, 1) := by decide +kernel
theorem dL_law__2630 : decode cL_law_ 2630 = .ok (.iaload, 1) := by decide +kernel
theorem dL_law__2631 : decode cL_law_ 2631 = .ok (.aload_n 0, 1) := by decide +kernel
theorem dL_law__2632 : decode cL_law_ 2632 = .ok (.iload 4, 2) := by decide +kernel
theorem dL_law__2634 : decode cL_law_ 2634 = .ok (.iconst 2, 1) := by decide +kernel
theorem dL_law__2635 : decode cL_law_ 2635 = .ok (.iadd, 1) := by decide +kernel
theorem dL_law__2636 : decode cL_law_ 2636 = .ok (.iaload, 1) := by decide +kernel
theorem w_10_201 : Cond.selects "LastLoafModel" ({ cls := "LastLoafModel", name := "odds", desc := "(II)I" } : MethodName) ({ cls := "LastLoafModel", name := "odds", desc := "(II)I" } : MethodName) ∈ TB := tb_in (lwt_10 (List.mem_of_getElem? (i := 201) (by decide +kernel))) rfl
theorem w_10_202 : Cond.code ({ cls := "LastLoafModel", name := "odds", desc := "(II)I" } : MethodName) prog_14_method_133_code (11 : Nat) (Option.some ClassFile.FieldType.int) ∈ TB := tb_in (lwt_10 (List.mem_of_getElem? (i := 202) (by decide +kernel))) rfl
theorem w_10_199 : Cond.methodLink "LastLoafLaw" (309 : Nat) ({ cls := "LastLoafModel", name := "odds", desc := "(II)I" } : MethodName) ∈ TB := tb_in (lwt_10 (List.mem_of_getElem? (i := 199) (by decide +kernel))) rfl
theorem w_10_200 : Cond.instanceMethod ({ cls := "LastLoafModel", name := "odds", desc := "(II)I" } : MethodName) ∈ TB := tb_in (lwt_10 (List.mem_of_getElem? (i := 200) (by decide +kernel))) rfl
theorem dL_law__2637 : decode cL_law_ 2637 = .ok (.invokevirtual 309, 3) := by decide +kernel
theorem dL_law__2640 : decode cL_law_ 2640 = .ok (.istore 6, 2) := by decide +kernel
theorem dL_law__2642 : decode cL_law_ 2642 = .ok (.aload_n 2, 1) := by decide +kernel
theorem dL_law__2643 : decode cL_law_ 2643 = .ok (.invokevirtual 163, 3) := by decide +kernel
theorem dL_law__2646 : decode cL_law_ 2646 = .ok (.iload 5, 2) := by decide +kernel
theorem dL_law__2648 : decode cL_law_ 2648 = .ok (.if_icmp .eq 5, 3) := by decide +kernel
theorem dL_law__2653 : decode cL_law_ 2653 = .ok (.iload 5, 2) := by decide +kernel
theorem dL_law__2655 : decode cL_law_ 2655 = .ok (.ifCond .ne 15, 3) := by decide +kernel
theorem dL_law__2670 : decode cL_law_ 2670 = .ok (.goto 581, 3) := by decide +kernel
theorem dL_law__2658 : decode cL_law_ 2658 = .ok (.aload_n 3, 1) := by decide +kernel
theorem dL_law__2659 : decode cL_law_ 2659 = .ok (.iconst 0, 1) := by decide +kernel
theorem dL_law__2660 : decode cL_law_ 2660 = .ok (.laload, 1) := by decide +kernel
theorem dL_law__2661 : decode cL_law_ 2661 = .ok (.iload 6, 2) := by decide +kernel
theorem dL_law__2663 : decode cL_law_ 2663 = .ok (.i2l, 1) := by decide +kernel
theorem dL_law__2664 : decode cL_law_ 2664 = .ok (.lcmp, 1) := by decide +kernel
theorem dL_law__2665 : decode cL_law_ 2665 = .ok (.ifCond .eq 5, 3) := by decide +kernel
def Op_odds (RR : St → St → Prop) : Prop := ∀ (σ μ : St), RR σ μ → ∀ (a0 : Int32) (a1 : Int32), ∃ (r1 : Sum Nat Int32 × St) (r2 : Int32 × St), q11_odds σ a0 a1 = some r1 ∧ q12_odds μ a0 a1 = some r2 ∧ Sx [0] r1 r2 ∧ RR r1.2 r2.2
set_option maxHeartbeats 4000000 in
set_option maxRecDepth 100000 in
theorem law_45 {RR : St → St → Prop} (hop : Op_odds RR) {Θ : Tz} {cJ : ClassId} {Q : State → Prop} {w : Wp} {aM : Nat → Nat} {ao b L : Nat} {xs : Nat → Int32} (C : Gc Θ cL_law_ 7 RL (some .boolean) room_1 cJ) (hlt : Θ.1.2.1.stackTraces = false) (Lx : Lq Θ w aM ao) (S : Ls Θ b L xs) {σ μ : St} {o : Int64} {i kc ks : Nat} (hi : i + 6 ≤ L) (hk : kc + 4 ≤ 601024 ∧ ks + 24 ≤ 7293034) (hR : RR σ μ) (K : ∀ σ' μ' o', RR σ' μ' → G Θ 7 (kc + 4) (ks + 24) Q (LPx w aM ao cJ σ' μ' o') 3251 (llv w aM ao b i) []) : G Θ 7 kc ks Q (LPx w aM ao cJ σ μ o) 2605 (llv w aM ao b i) [] := by
  obtain ⟨r1, r2, h1, h2, he, hR2⟩ := hop σ μ hR (xs (i + 1)) (xs (i + 2))
  refine g_aload_n C 1 dL_law__2605 rfl rfl ?_
  refine l_arg C S 0 4 1 rfl rfl (by omega) rfl dL_law__2606 dL_law__2607 dL_law__2609 dL_law__2610 dL_law__2611 ?_
  refine l_arg C S 0 4 2 rfl rfl (by omega) rfl dL_law__2612 dL_law__2613 dL_law__2615 dL_law__2616 dL_law__2617 ?_
  refine g_aload_n C 3 dL_law__2618 rfl rfl ?_
  refine l_callW C Lx [.ref (w.2.2.1 0), .int (xs (i + 1)), .int (xs (i + 2)), .ref ao] 4 (wr_odds (l := Θ.1.2.1) Lx.2.1 hlt Lx.2.2.2.2.2.2.2.1 h1 (Sx_in he)) w_7_196 w_7_194 w_7_195 w_1_0 ⟨rfl, rfl, (Nat.le_of_ble_eq_true rfl), (Nat.le_of_ble_eq_true rfl)⟩ (by decide +kernel) rfl rfl (Nat.le_of_ble_eq_true rfl) hk dL_law__2619 ?_
  refine g_istore C dL_law__2622 (Nat.le_of_ble_eq_true rfl) rfl ?_
  refine g_aload_n C 3 dL_law__2624 rfl rfl ?_
  refine l_arg C S 1 5 1 rfl rfl (by omega) rfl dL_law__2625 dL_law__2626 dL_law__2628 dL_law__2629 dL_law__2630 ?_
  refine l_arg C S 1 5 2 rfl rfl (by omega) rfl dL_law__2631 dL_law__2632 dL_law__2634 dL_law__2635 dL_law__2636 ?_
  refine l_callMi C Lx [.int (xs (i + 1)), .int (xs (i + 2))] r2.1 r2.2 2 rfl (c12_odds (l := Θ.1.2.1) (w := wm w aM) (n_a := (xs (i + 1))) (k_a := (xs (i + 2))) rfl Lx.2.2.1 h2) w_10_202 w_10_199 w_10_200 w_10_201 w_1_14 ⟨rfl, rfl, (Nat.le_of_ble_eq_true rfl), (Nat.le_of_ble_eq_true rfl)⟩ (by decide +kernel) rfl rfl (Nat.le_of_ble_eq_true rfl) hk dL_law__2637 ?_
  refine g_istore C dL_law__2640 (Nat.le_of_ble_eq_true rfl) rfl ?_
  refine g_aload_n C 4 dL_law__2642 rfl rfl ?_
  refine l_callMi C Lx [] (q12_thrown r2.2) r2.2 0 rfl (c12_thrown (l := Θ.1.2.1) (w := wm w aM) rfl Lx.2.2.1) w_8_130 w_8_127 w_8_128 w_8_129 w_1_14 ⟨rfl, rfl, (Nat.le_of_ble_eq_true rfl), (Nat.le_of_ble_eq_true rfl)⟩ (by decide +kernel) rfl rfl (Nat.le_of_ble_eq_true rfl) hk dL_law__2643 ?_
  refine g_iload C 1 dL_law__2646 rfl ?_
  refine g_icmp_eq C 2653 dL_law__2648 (by decide) (fun _ => ?_) (fun h => absurd (Sx_k he) h)
  refine g_iload C 1 dL_law__2653 rfl ?_
  refine g_if_ne C 2670 dL_law__2655 (by decide) (fun _ => ?_) (fun h0 => ?_)
  · refine g_goto C 3251 dL_law__2670 (by decide) ?_
    refine G.sub [2, 3, 4, 5, 6] rfl ?_
    exact K _ _ _ hR2
  · refine g_aload_n C 5 dL_law__2658 rfl rfl ?_
    refine g_iconst (v := 0) C dL_law__2659 rfl ?_
    refine l_lald C (by rw [Lx.1]) dL_law__2660 ?_
    refine g_iload C 0 dL_law__2661 rfl ?_
    refine g_i2l C dL_law__2663 ?_
    refine g_lcmp C dL_law__2664 ?_
    rw [Sx_o (f := (fun v => v)) (o := o) (by decide) he h0, lg_cmp_self]
    refine g_if_eq C 2670 dL_law__2665 (by decide) (fun _ => ?_) (fun h => absurd rfl h)
    refine g_goto C 3251 dL_law__2670 (by decide) ?_
    refine G.sub [2, 3, 4, 5, 6] rfl ?_
    exact K _ _ _ hR2
/-! case 46 -/
theorem dL_law__2673 : decode cL_law_ 2673 = .ok (.aload_n 1, 1) := by decide +kernel
theorem w_4_83 : Cond.selects "LastLoaf" ({ cls := "LastLoaf", name := "hungriest", desc := "()I" } : MethodName) ({ cls := "LastLoaf", name := "hungriest", desc := "()I" } : MethodName) ∈ TB := tb_in (lwt_4 (List.mem_of_getElem? (i := 83) (by decide +kernel))) rfl
theorem w_4_84 : Cond.code ({ cls := "LastLoaf", name := "hungriest", desc := "()I" } : MethodName) prog_1_method_48_code (3 : Nat) (Option.some ClassFile.FieldType.int) ∈ TB := tb_in (lwt_4 (List.mem_of_getElem? (i := 84) (by decide +kernel))) rfl
theorem w_4_81 : Cond.methodLink "LastLoafLaw" (310 : Nat) ({ cls := "LastLoaf", name := "hungriest", desc := "()I" } : MethodName) ∈ TB := tb_in (lwt_4 (List.mem_of_getElem? (i := 81) (by decide +kernel))) rfl
theorem w_4_82 : Cond.instanceMethod ({ cls := "LastLoaf", name := "hungriest", desc := "()I" } : MethodName) ∈ TB := tb_in (lwt_4 (List.mem_of_getElem? (i := 82) (by decide +kernel))) rfl
theorem dL_law__2674 : decode cL_law_ 2674 = .ok (.invokevirtual 310, 3) := by decide +kernel
theorem dL_law__2677 : decode cL_law_ 2677 = .ok (.aload_n 2, 1) := by decide +kernel
theorem w_10_207 : Cond.selects "LastLoafModel" ({ cls := "LastLoafModel", name := "hungriest", desc := "()I" } : MethodName) ({ cls := "LastLoafModel", name := "hungriest", desc := "()I" } : MethodName) ∈ TB := tb_in (lwt_10 (List.mem_of_getElem? (i := 207) (by decide +kernel))) rfl
theorem w_10_208 : Cond.code ({ cls := "LastLoafModel", name := "hungriest", desc := "()I" } : MethodName) prog_14_method_134_code (3 : Nat) (Option.some ClassFile.FieldType.int) ∈ TB := tb_in (lwt_10 (List.mem_of_getElem? (i := 208) (by decide +kernel))) rfl
theorem w_10_205 : Cond.methodLink "LastLoafLaw" (313 : Nat) ({ cls := "LastLoafModel", name := "hungriest", desc := "()I" } : MethodName) ∈ TB := tb_in (lwt_10 (List.mem_of_getElem? (i := 205) (by decide +kernel))) rfl
theorem w_10_206 : Cond.instanceMethod ({ cls := "LastLoafModel", name := "hungriest", desc := "()I" } : MethodName) ∈ TB := tb_in (lwt_10 (List.mem_of_getElem? (i := 206) (by decide +kernel))) rfl
theorem dL_law__2678 : decode cL_law_ 2678 = .ok (.invokevirtual 313, 3) := by decide +kernel
theorem dL_law__2681 : decode cL_law_ 2681 = .ok (.if_icmp .eq 570, 3) := by decide +kernel
def Op_hungriest (RR : St → St → Prop) : Prop := ∀ (σ μ : St), RR σ μ → ∃ (r1 : Int32) (r2 : (Int32 × St)), q11_hungriest σ  = some r1 ∧ q12_hungriest μ  = some r2 ∧ r1 = r2.1 ∧ RR σ r2.2
set_option maxHeartbeats 4000000 in
set_option maxRecDepth 100000 in
theorem law_46 {RR : St → St → Prop} (hop : Op_hungriest RR) {Θ : Tz} {cJ : ClassId} {Q : State → Prop} {w : Wp} {aM : Nat → Nat} {ao b L : Nat} {xs : Nat → Int32} (C : Gc Θ cL_law_ 7 RL (some .boolean) room_1 cJ) (hlt : Θ.1.2.1.stackTraces = false) (Lx : Lq Θ w aM ao) (S : Ls Θ b L xs) {σ μ : St} {o : Int64} {i kc ks : Nat} (hi : i + 6 ≤ L) (hk : kc + 4 ≤ 601024 ∧ ks + 24 ≤ 7293034) (hR : RR σ μ) (K : ∀ σ' μ' o', RR σ' μ' → G Θ 7 (kc + 4) (ks + 24) Q (LPx w aM ao cJ σ' μ' o') 3251 (llv w aM ao b i) []) : G Θ 7 kc ks Q (LPx w aM ao cJ σ μ o) 2673 (llv w aM ao b i) [] := by
  obtain ⟨r1, r2, h1, h2, he, hR2⟩ := hop σ μ hR 
  refine g_aload_n C 1 dL_law__2673 rfl rfl ?_
  refine l_callCi C Lx [] r1 σ 0 rfl (c11_hungriest (l := Θ.1.2.1) (w := w)  rfl Lx.2.1 h1) w_4_84 w_4_81 w_4_82 w_4_83 w_1_1 ⟨rfl, rfl, (Nat.le_of_ble_eq_true rfl), (Nat.le_of_ble_eq_true rfl)⟩ (by decide +kernel) rfl rfl (Nat.le_of_ble_eq_true rfl) ⟨Nat.le_trans (Nat.le_add_right _ _) hk.1, Nat.le_trans (Nat.le_add_right _ _) hk.2⟩ dL_law__2674 ?_
  refine g_aload_n C 2 dL_law__2677 rfl rfl ?_
  refine l_callMi C Lx [] r2.1 r2.2 0 rfl (c12_hungriest (l := Θ.1.2.1) (w := wm w aM)  rfl Lx.2.2.1 h2) w_10_208 w_10_205 w_10_206 w_10_207 w_1_14 ⟨rfl, rfl, (Nat.le_of_ble_eq_true rfl), (Nat.le_of_ble_eq_true rfl)⟩ (by decide +kernel) rfl rfl (Nat.le_of_ble_eq_true rfl) ⟨Nat.le_trans (Nat.le_add_right _ _) hk.1, Nat.le_trans (Nat.le_add_right _ _) hk.2⟩ dL_law__2678 ?_
  refine g_icmp_eq C 3251 dL_law__2681 (by decide) (fun _ => ?_) (fun h => absurd (he) h)
  exact G.wid (Nat.le_add_right _ _) (Nat.le_add_right _ _) (K _ _ o hR2)
/-! case 47 -/
theorem dL_law__2686 : decode cL_law_ 2686 = .ok (.aload_n 1, 1) := by decide +kernel
theorem w_4_87 : Cond.selects "LastLoaf" ({ cls := "LastLoaf", name := "loved", desc := "()I" } : MethodName) ({ cls := "LastLoaf", name := "loved", desc := "()I" } : MethodName) ∈ TB := tb_in (lwt_4 (List.mem_of_getElem? (i := 87) (by decide +kernel))) rfl
theorem w_4_88 : Cond.code ({ cls := "LastLoaf", name := "loved", desc := "()I" } : MethodName) prog_1_method_49_code (5 : Nat) (Option.some ClassFile.FieldType.int) ∈ TB := tb_in (lwt_4 (List.mem_of_getElem? (i := 88) (by decide +kernel))) rfl
theorem w_4_85 : Cond.methodLink "LastLoafLaw" (314 : Nat) ({ cls := "LastLoaf", name := "loved", desc := "()I" } : MethodName) ∈ TB := tb_in (lwt_4 (List.mem_of_getElem? (i := 85) (by decide +kernel))) rfl
theorem w_4_86 : Cond.instanceMethod ({ cls := "LastLoaf", name := "loved", desc := "()I" } : MethodName) ∈ TB := tb_in (lwt_4 (List.mem_of_getElem? (i := 86) (by decide +kernel))) rfl
theorem dL_law__2687 : decode cL_law_ 2687 = .ok (.invokevirtual 314, 3) := by decide +kernel
theorem dL_law__2690 : decode cL_law_ 2690 = .ok (.aload_n 2, 1) := by decide +kernel
theorem w_10_211 : Cond.selects "LastLoafModel" ({ cls := "LastLoafModel", name := "loved", desc := "()I" } : MethodName) ({ cls := "LastLoafModel", name := "loved", desc := "()I" } : MethodName) ∈ TB := tb_in (lwt_10 (List.mem_of_getElem? (i := 211) (by decide +kernel))) rfl
theorem w_10_212 : Cond.code ({ cls := "LastLoafModel", name := "loved", desc := "()I" } : MethodName) prog_14_method_136_code (3 : Nat) (Option.some ClassFile.FieldType.int) ∈ TB := tb_in (lwt_10 (List.mem_of_getElem? (i := 212) (by decide +kernel))) rfl
theorem w_10_209 : Cond.methodLink "LastLoafLaw" (317 : Nat) ({ cls := "LastLoafModel", name := "loved", desc := "()I" } : MethodName) ∈ TB := tb_in (lwt_10 (List.mem_of_getElem? (i := 209) (by decide +kernel))) rfl
theorem w_10_210 : Cond.instanceMethod ({ cls := "LastLoafModel", name := "loved", desc := "()I" } : MethodName) ∈ TB := tb_in (lwt_10 (List.mem_of_getElem? (i := 210) (by decide +kernel))) rfl
theorem dL_law__2691 : decode cL_law_ 2691 = .ok (.invokevirtual 317, 3) := by decide +kernel
theorem dL_law__2694 : decode cL_law_ 2694 = .ok (.if_icmp .eq 557, 3) := by decide +kernel
def Op_loved (RR : St → St → Prop) : Prop := ∀ (σ μ : St), RR σ μ → ∃ (r1 : Int32) (r2 : (Int32 × St)), q11_loved σ  = some r1 ∧ q12_loved μ  = some r2 ∧ r1 = r2.1 ∧ RR σ r2.2
set_option maxHeartbeats 4000000 in
set_option maxRecDepth 100000 in
theorem law_47 {RR : St → St → Prop} (hop : Op_loved RR) {Θ : Tz} {cJ : ClassId} {Q : State → Prop} {w : Wp} {aM : Nat → Nat} {ao b L : Nat} {xs : Nat → Int32} (C : Gc Θ cL_law_ 7 RL (some .boolean) room_1 cJ) (hlt : Θ.1.2.1.stackTraces = false) (Lx : Lq Θ w aM ao) (S : Ls Θ b L xs) {σ μ : St} {o : Int64} {i kc ks : Nat} (hi : i + 6 ≤ L) (hk : kc + 4 ≤ 601024 ∧ ks + 24 ≤ 7293034) (hR : RR σ μ) (K : ∀ σ' μ' o', RR σ' μ' → G Θ 7 (kc + 4) (ks + 24) Q (LPx w aM ao cJ σ' μ' o') 3251 (llv w aM ao b i) []) : G Θ 7 kc ks Q (LPx w aM ao cJ σ μ o) 2686 (llv w aM ao b i) [] := by
  obtain ⟨r1, r2, h1, h2, he, hR2⟩ := hop σ μ hR 
  refine g_aload_n C 1 dL_law__2686 rfl rfl ?_
  refine l_callCi C Lx [] r1 σ 0 rfl (c11_loved (l := Θ.1.2.1) (w := w)  rfl Lx.2.1 h1) w_4_88 w_4_85 w_4_86 w_4_87 w_1_1 ⟨rfl, rfl, (Nat.le_of_ble_eq_true rfl), (Nat.le_of_ble_eq_true rfl)⟩ (by decide +kernel) rfl rfl (Nat.le_of_ble_eq_true rfl) ⟨Nat.le_trans (Nat.le_add_right _ _) hk.1, Nat.le_trans (Nat.le_add_right _ _) hk.2⟩ dL_law__2687 ?_
  refine g_aload_n C 2 dL_law__2690 rfl rfl ?_
  refine l_callMi C Lx [] r2.1 r2.2 0 rfl (c12_loved (l := Θ.1.2.1) (w := wm w aM)  rfl Lx.2.2.1 h2) w_10_212 w_10_209 w_10_210 w_10_211 w_1_14 ⟨rfl, rfl, (Nat.le_of_ble_eq_true rfl), (Nat.le_of_ble_eq_true rfl)⟩ (by decide +kernel) rfl rfl (Nat.le_of_ble_eq_true rfl) ⟨Nat.le_trans (Nat.le_add_right _ _) hk.1, Nat.le_trans (Nat.le_add_right _ _) hk.2⟩ dL_law__2691 ?_
  refine g_icmp_eq C 3251 dL_law__2694 (by decide) (fun _ => ?_) (fun h => absurd (he) h)
  exact G.wid (Nat.le_add_right _ _) (Nat.le_add_right _ _) (K _ _ o hR2)

set_option maxHeartbeats 4000000 in
set_option maxRecDepth 100000 in
/-- the law, given that every call agrees -/
theorem start_of {RR : St → St → Prop} (ops : LawOps RR) (h00 : RR stC stM) {p : Program} {e : Env} {s : State} {m : MethodId} {below : List Frame} {meth : Method} {c : Code} (l : Launch) (hflags : l.flags = flags0) {b L : Nat} {xs : Nat → Int32} (hL : L ≤ 3072) (C0 : lw_At p s m meth c b L xs) : W p l e room_1 s m #[Value.ref b] below meth c s.heap [] 0 0 (lw_Z below #[Value.ref b] s) (entryFrame m ([Value.ref b] : List Value).toArray 7) := by
  obtain ⟨hx, hb, hr, hml, hown, hts, hX, hbl, hlocks, hgv⟩ := id C0
  have hn := bB hgv
  have h1 : narrow_1_1.before #[Value.ref b] s = true := bA (b := Cond.and narrow_1_2 narrow_1_3) hn
  have h23 : (Cond.and narrow_1_2 narrow_1_3).before #[Value.ref b] s = true := bB (a := narrow_1_1) hn
  have h2 := bA h23
  have h3 := bB h23
  have ht2 : ∀ w ∈ TB, w.before #[Value.ref b] s = true := fun w hw => hts w (List.mem_filter.mp hw).1
  have hA : ∀ a : Nat, a < s.heap.size → ¬ aB s.heap.size a := fun a h => Nat.not_le.mpr h
  obtain ⟨adK, adV, hSX⟩ := st_SX h1 h2 h3 hts (A := aB s.heap.size) hA
  obtain ⟨D, hD⟩ := st_cls ht2
  obtain ⟨cI, kI, oI, i1, i2, i3⟩ := Cond.arrayClass_spec (hts _ wa_1_64)
  obtain ⟨cJ, kJ, oJ, j1, j2, j3⟩ := Cond.arrayClass_spec (hts _ wa_11_41)
  obtain ⟨oR, cR, kR, r1, -, r2, r3, r4⟩ := Cond.arrayOver_spec (hts _ wa_2_22)
  have aI : ArrOfT s cI .int ∧ va_RA s cI .int := ⟨fun n z => ⟨fun k h => (by cases h), kI, i2, oI, i3⟩, i1⟩
  have aJ : ArrOfT s cJ .long ∧ va_RA s cJ .long := ⟨fun n z => ⟨fun k h => (by cases h), kJ, j2, oJ, j3⟩, j1⟩
  have aR : ArrOfT s cR (.object "LastLoaf$Village") ∧ va_RA s cR (.object "LastLoaf$Village") := ⟨fun n z => ⟨fun k h => (by cases h), kR, r2, oR, r3⟩, kR, oR, r2, r3, r1, r4⟩
  obtain ⟨w, hw⟩ : ∃ w : Wp, w = (D, (cI, cR), adC s.heap.size 0, adK, adV) := ⟨_, rfl⟩
  have hSXw : SX w (aB s.heap.size) s s.heap := by rw [hw]; exact hSX _ _ _
  have hKw : va_K w.1 classes (tysW w) s := by
    rw [hw]
    refine ⟨hD, fun k q hq => ?_⟩
    match k, hq with
    | 0, hq => cases hq; exact aI
    | 1, hq => cases hq; exact aR
    | k + 2, hq => simp [tysW] at hq
  have hJw : va_K w.1 classes [(cJ, .long)] s := by
    rw [hw]
    refine ⟨hD, fun k q hq => ?_⟩
    match k, hq with
    | 0, hq => cases hq; exact aJ
    | k + 1, hq => simp at hq
  have hKK : KK w s := ⟨hKw, st_nest hts, st_nc h1 h2 h3⟩
  have hwad : w.2.2.1 = adC s.heap.size 0 := by rw [hw]
  obtain ⟨Θ, hΘ⟩ : ∃ Θ : Tz, Θ = ((p, l, e, room_1), (s, m, #[Value.ref b], below), (meth, c), aB s.heap.size, (kdC, w)) := ⟨_, rfl⟩
  have CY : Yc Θ cL_law_ 7 RL (some .boolean) room_1 s.heap.size := by
    rw [hΘ]
    exact ⟨hx, hb, hml, hown, ht2, hlocks, hr, rfl, hKK, rfl, Nat.le_refl _, hSXw, va_AO.of (hts _ wa_2_22)⟩
  have C : Gc Θ cL_law_ 7 RL (some .boolean) room_1 cJ := by
    rw [hΘ]
    exact ⟨hx, hb, hml, hown, ht2, hlocks, hr, rfl, hKK, hJw, fun q h => h, hSXw⟩
  have hlt : Θ.1.2.1.stackTraces = false := by rw [hΘ]; exact flags_st hflags
  have S : Ls Θ b L xs := by
    rw [hΘ]
    exact ⟨hX, hbl, Nat.not_le.mpr hbl, hL⟩
  have eM : ∀ j, adM s.heap.size 194 j = s.heap.size + (194 + prmM.getD j 0) := fun _ => rfl
  have eC : ∀ i, w.2.2.1 i = s.heap.size + (0 + prmC.getD i 0) := fun i => by rw [hwad]; rfl
  have pC : ∀ i, i < kdC.length → prmC.getD i 0 < 194 := by decide +kernel
  have pM : ∀ j, j < kdM.length → prmM.getD j 0 < 18 := by decide +kernel
  have Lx : Lq Θ w (adM s.heap.size 194) (s.heap.size + 212) := by
    rw [hΘ]
    refine ⟨rfl, injC (n := 0) hwad, injM (w := wm w (adM s.heap.size 194)) (b := s.heap.size) (n := 194) rfl, fun i hi => ?_, fun j hj => ?_, ?_, fun i j hi hj h => ?_, fun i hi h => ?_, fun j hj h => ?_⟩
    · show s.heap.size ≤ w.2.2.1 i
      rw [eC]; omega
    · show s.heap.size ≤ adM s.heap.size 194 j
      rw [eM]; omega
    · show s.heap.size ≤ s.heap.size + 212
      omega
    · rw [eC, eM] at h
      have := pC i hi
      omega
    · rw [eC] at h
      have := pC i hi
      omega
    · rw [eM] at h
      have := pM j hj
      omega
  have hl := lv_entry ([.ref b]) (n := 7) (Nat.le_of_ble_eq_true rfl)
  rw [lg_entry_eq]
  generalize (lg_sl ([.ref b]) ++ List.replicate (7 - (lg_sl ([.ref b])).length) Slot.unset).toArray = ls at hl ⊢
  have hl : lv_has ls 7 [(0, .ref b)] := hl
  have hHB : HB w s.heap.size [] s.heap := ⟨rfl, fun i e h => by simp at h⟩
  obtain ⟨Q, hQ⟩ : ∃ Q : State → Prop, Q = lw_Z below #[Value.ref b] s := ⟨_, rfl⟩
  have KE : ∀ (kc ks i : Nat) (σ μ : St) (o : Int64), kc ≤ 601024 → ks ≤ 7293034 → G Θ 7 kc ks Q (LPx w (adM s.heap.size 194) (s.heap.size + 212) cJ σ μ o) 3257 (llv w (adM s.heap.size 194) (s.heap.size + 212) b i) [] := by
    intro kc ks i σ μ o hc hs
    refine g_iconst (v := 1) C dL_law__3257 rfl ?_
    intro H locs ls hH hS hl
    subst hΘ
    subst hQ
    exact W.widen hc hs (va_forget hS.2.2 (lw_ret hx hb hr hlocks dL_law__3258))
  have main : Y Θ 7 0 0 Q s.heap.size [] 0 [(0, .ref b)] [] := by
    refine y_new (ci := 11) (n := 0) (cs' := [] ++ [.inr (11, [.null, .null, .null, .null, .null, .null, .null, .null, .null, .null, .null, .null, .null, .null, .int 0, .int 0])]) (fs := [.null, .null, .null, .null, .null, .null, .null, .null, .null, .null, .null, .null, .null, .null, .int 0, .int 0]) CY inT11 tyX11_ok w_1_30 w_1_31 w_1_1 rfl (by decide) rfl rfl ⟨Nat.le_of_ble_eq_true rfl, Nat.le_of_ble_eq_true rfl⟩ dL_law__0 ?_
    refine y_dup CY dL_law__3 rfl ?_
    refine y_callI CY 0 [] 0 (k11_init (l := Θ.1.2.1) (w := Θ.2.2.2.2.2) (b := s.heap.size) (n := 0) (Q := []) rfl) w_1_34 w_1_32 w_1_33 w_1_1 rfl ⟨rfl, rfl, Nat.le_of_ble_eq_true rfl, Nat.le_of_ble_eq_true rfl⟩ (by decide +kernel) rfl rfl (Nat.le_of_ble_eq_true rfl) ⟨Nat.le_of_ble_eq_true rfl, Nat.le_of_ble_eq_true rfl⟩ dL_law__4 ?_
    refine y_astore_n CY dL_law__7 rfl (Nat.le_of_ble_eq_true rfl) rfl ?_
    refine y_new (ci := 12) (n := 194) (cs' := _) (fs := [.int 0, .null, .null, .int 0, .null, .null, .int 0, .null, .int 0, .int 0, .int 0, .int 0, .int 0, .int 0, .null, .int 0, .int 0, .int 0, .int 0, .null, .int 0, .int 0, .null, .null, .null, .null, .null, .null, .null, .null, .null, .null, .int 0]) CY inT12 tyX12_ok w_8_21 w_8_22 w_1_14 rfl (by decide) (by rw [List.nil_append]; exact ch11_len _ _ _) rfl ⟨Nat.le_of_ble_eq_true rfl, Nat.le_of_ble_eq_true rfl⟩ dL_law__8 ?_
    refine y_dup CY dL_law__11 rfl ?_
    refine y_callI CY 194 [] 0 (k12_init (l := Θ.1.2.1) (w := Θ.2.2.2.2.2) (b := s.heap.size) (n := 194) (Q := _) (by rw [List.nil_append]; exact ch11_len _ _ _)) w_8_25 w_8_23 w_8_24 w_1_14 rfl ⟨rfl, rfl, Nat.le_of_ble_eq_true rfl, Nat.le_of_ble_eq_true rfl⟩ (by decide +kernel) rfl rfl (Nat.le_of_ble_eq_true rfl) ⟨Nat.le_of_ble_eq_true rfl, Nat.le_of_ble_eq_true rfl⟩ dL_law__12 ?_
    refine y_astore_n CY dL_law__15 rfl (Nat.le_of_ble_eq_true rfl) rfl ?_
    refine y_iconst (v := 1) CY dL_law__16 rfl ?_
    have hw2 : Θ.2.2.2.2.2 = w := by rw [hΘ]
    rw [hw2]
    intro H locs ls hH hS hl
    rw [hw2] at hH
    have hz : H.size = s.heap.size + 212 := by
      rw [hH.1]
      simp only [List.nil_append, List.length_append, ch11_len, ch12_len]
    have hC : HW kdC w stC H := firstC (Q := []) (n := 0) (L := ch12 w s.heap.size 194) rfl hwad (by rw [List.append_assoc] at hH; exact hH)
    have hM : HW kdM (wm w (adM s.heap.size 194)) stM H := firstM (w := wm w (adM s.heap.size 194)) (Q := [] ++ ch11 w s.heap.size 0) (n := 194) (L := []) (by rw [List.nil_append]; exact ch11_len _ _ _) rfl (by rw [List.append_nil]; exact hH)
    have W0 : G Θ 7 (0 + 1 + 193 + 1 + 17 + 1) (0 + 16 + 8760 + 33 + 7838 + 1) Q (LPx w (adM s.heap.size 194) (s.heap.size + 212) cJ stC stM 0) 19 [(2, .ref (s.heap.size + 194)), (1, .ref (s.heap.size + 0)), (0, .ref b)] [.ref (s.heap.size + 212)] := by
      refine g_astore_n C dL_law__19 rfl (Nat.le_of_ble_eq_true rfl) rfl ?_
      refine g_iconst (v := 0) C dL_law__20 rfl ?_
      refine g_istore C dL_law__21 (Nat.le_of_ble_eq_true rfl) rfl ?_
      refine G.sub [4, 3, 2, 1, 0] rfl ?_
      have h9 := law_loop ops C hlt Lx S KE L 0 (0 + 1 + 193 + 1 + 17 + 1) (0 + 16 + 8760 + 33 + 7838 + 1) stC stM 0 (by omega) (by omega) (by omega) (by omega) h00
      have e1 : w.2.2.1 0 = s.heap.size + 0 := by rw [hwad]; rfl
      unfold llv at h9
      rw [e1] at h9
      exact h9
    refine va_newaK (atype := .long) CY.1 CY.2.1 (CY.2.2.2.2.1 _ (tb_in wa_11_41 rfl)) rfl dL_law__17 rfl (by decide) rfl (by decide) (by rw [CY.2.2.2.2.2.2.2.1]; exact Nat.le_of_ble_eq_true rfl) (by rw [CY.2.2.2.2.2.2.2.1]; exact Nat.le_of_ble_eq_true rfl) hz fun H1 cA e1 z1 o1 hAr hNm => ?_
    have hcA : cA = cJ := by
      subst hΘ
      exact Option.some.inj (hNm.symm.trans j1)
    subst hcA
    have hAe : Θ.2.2.2.1 = aB s.heap.size := by rw [hΘ]
    refine W0 H1 locs ls ⟨hC.kept (fun i hi => o1 _ ?_), hM.kept (fun j hj => o1 _ ?_), e1⟩ ?_ (lv_sub hl [0, 1, 2] rfl)
    · show w.2.2.1 i < _
      rw [eC]
      have := pC i hi
      omega
    · show adM s.heap.size 194 j < _
      rw [eM]
      have := pM j hj
      omega
    · rw [hAe]
      refine ⟨Nat.le_trans hS.1 (by rw [z1, hz]; omega), fun q h1 h2 => (o1 q ?_).trans (hS.2.1 q h1 h2), hS.2.2⟩
      have := hS.1
      rw [hz] at this
      exact Nat.lt_of_lt_of_le h1 this
  subst hΘ
  subst hQ
  exact main s.heap [] ls hHB va_S.rf hl

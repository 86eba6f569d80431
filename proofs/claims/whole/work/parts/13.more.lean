theorem w_3_115 : Cond.native ({ cls := "java/lang/System", name := "arraycopy", desc := "(Ljava/lang/Object;ILjava/lang/Object;II)V" } : MethodName) ∈ TB := tb_in (lwt_3 (List.mem_of_getElem? (i := 115) (by decide +kernel))) rfl
theorem w_3_114 : Cond.static ({ cls := "java/lang/System", name := "arraycopy", desc := "(Ljava/lang/Object;ILjava/lang/Object;II)V" } : MethodName) ∈ TB := tb_in (lwt_3 (List.mem_of_getElem? (i := 114) (by decide +kernel))) rfl
theorem w_1_15 : Cond.initialized "java/lang/System" ∈ TB := tb_in (lwt_1 (List.mem_of_getElem? (i := 15) (by decide +kernel))) rfl
/-! MORE ROWS 2: switches, the kept villages, arraycopy -/
theorem i32_ne {x v : Int32} (h : ¬ x = v) : ¬ v.toInt = x.toInt := fun e => h (Int32.toInt_inj.mp e.symm)
theorem sw_out2 {x : Int32} (a b : Int) (lo n : Nat) (ha : a = (lo : Int)) (hb : b = (lo : Int) + (n : Int)) (hn : lo + n < 100000) (h : ∀ k : Nat, k ≤ n → ¬ x = nI (lo + k)) : x.toInt < a ∨ b < x.toInt := by
  rcases Int.lt_or_le x.toInt a with h0 | h0
  · exact Or.inl h0
  · refine Or.inr ?_
    rcases Int.lt_or_le b x.toInt with h1 | h1
    · exact h1
    · exfalso
      refine h (x.toInt.toNat - lo) (by omega) ?_
      apply Int32.toInt_inj.mp
      rw [nI_toInt (by omega)]
      omega
def kpt (j : Int32) : Option Nat := if j < 0 ∨ 12 ≤ j.toNatClampNeg then none else some (74 + 10 * j.toNatClampNeg)
theorem kpt_ {j : Int32} {x : Nat} (h : kpt j = some x) : ¬ (j < 0 ∨ 12 ≤ j.toNatClampNeg) ∧ x = 74 + 10 * j.toNatClampNeg := by
  unfold kpt at h
  split at h
  · cases h
  · next q => exact ⟨q, (Option.some.inj h).symm⟩
theorem kpt_isV {j : Int32} {x : Nat} (h : kpt j = some x) : isV x := by
  obtain ⟨h1, rfl⟩ := kpt_ h
  exact ⟨3 + j.toNatClampNeg, by omega, by omega⟩
theorem kpt_at : ∀ n, n < 12 → ([74, 84, 94, 104, 114, 124, 134, 144, 154, 164, 174, 184] : List Nat)[n]? = some (74 + 10 * n) := by decide
def wlW (kd : List KD) (w : Wp) (σ : St) : va_W := kd.zipIdx.map (fun q => (w.2.2.1 q.2, cellOf w.2.2.1 w.2.1.1 w.2.1.2 (σ q.2) q.1))
theorem wlW_at {kd : List KD} {w : Wp} {σ : St} {i : Nat} {k : KD} (h : kd[i]? = some k) : (wlW kd w σ)[i]? = some (w.2.2.1 i, cellOf w.2.2.1 w.2.1.1 w.2.1.2 (σ i) k) := by
  unfold wlW
  rw [List.getElem?_map, List.getElem?_zipIdx, h]
  simp
theorem wlW_of {kd : List KD} {w : Wp} {σ : St} {i : Nat} {q : Nat × va_E} (h : (wlW kd w σ)[i]? = some q) : ∃ k, kd[i]? = some k ∧ q = (w.2.2.1 i, cellOf w.2.2.1 w.2.1.1 w.2.1.2 (σ i) k) := by
  cases hk : kd[i]? with
  | none =>
    unfold wlW at h
    rw [List.getElem?_map, List.getElem?_zipIdx, hk] at h
    simp at h
  | some k =>
    rw [wlW_at hk] at h
    exact ⟨k, rfl, (Option.some.inj h).symm⟩
def acp (σ : St) (a na b nb : Nat) (n : Int32) : Option St := if n < 0 ∨ na < n.toNatClampNeg ∨ nb < n.toNatClampNeg then none else some (fun p => if p = b then (fun k => if k < n.toNatClampNeg then σ a k else σ b k) else σ p)
theorem acp_ {σ σ1 : St} {a na b nb : Nat} {n : Int32} (h : acp σ a na b nb n = some σ1) : ¬ (n < 0 ∨ na < n.toNatClampNeg ∨ nb < n.toNatClampNeg) ∧ σ1 = fun p => if p = b then (fun k => if k < n.toNatClampNeg then σ a k else σ b k) else σ p := by
  unfold acp at h
  split at h
  · cases h
  · next q => exact ⟨q, (Option.some.inj h).symm⟩
section
variable {Θ : Tz} {cc : ByteArray} {nL kc ks : Nat} {own : String} {ret : Option FieldType} {rm : Room} {Q : State → Prop} {σ : St} {pc : Nat} {lv lv' : List (Nat × Value)} {st st0 : List Value}
theorem z_kpt (C : Zc Θ cc nL own ret rm) (hkd : Θ.2.2.2.2.1 = kdC) {j : Int32} {x : Nat} (h : kpt j = some x) (hd : decode cc pc = .ok (.aaload, 1)) (kk : Z Θ nL kc ks Q σ (pc + 1) lv (.ref (zA Θ x) :: st)) : Z Θ nL kc ks Q σ pc lv (.int j :: .ref (zA Θ 31) :: st) := by
  obtain ⟨h1, rfl⟩ := kpt_ h
  exact z_aald C 31 (kC_31 hkd) h1 (kpt_at _ (by omega)) hd kk
theorem z_acp (C : Zc Θ cc nL own ret rm) {a na b nb idx : Nat} {n : Int32} {σ1 : St} (h : acp σ a na b nb n = some σ1) (hka : Θ.2.2.2.2.1[a]? = some (.inl na)) (hkb : Θ.2.2.2.2.1[b]? = some (.inl nb)) (hlink : Cond.methodLink own idx arraycopyName ∈ TB) (hrm : 1 ≤ rm.frames ∧ 8 + (nativeFrameWords "java/lang/System" "arraycopy" 5 + 11) ≤ rm.locals) (hcat : (st.map fun v => v.category).sum ≤ 8)
    (hd : decode cc pc = .ok (.invokestatic idx, 3)) (kk : Z Θ nL kc ks Q σ1 (pc + 3) lv st) : Z Θ nL kc ks Q σ pc lv (.int n :: .int 0 :: .ref (zA Θ b) :: .int 0 :: .ref (zA Θ a) :: st) := by
  obtain ⟨hb9, rfl⟩ := acp_ h
  intro H locs ls hH hS hl
  obtain ⟨hx, hb0, hml, hown, hts, hlk, hrr, hrmm, hK, hinj, hA, hA2, hE⟩ := id C
  have hP : va_P Θ.2.2.2.2.2.1 classes (wlW Θ.2.2.2.2.1 Θ.2.2.2.2.2 σ) H := fun k q hq => by
    obtain ⟨kd, h1, rfl⟩ := wlW_of hq
    exact hH k kd h1
  have hD : va_D Θ.2.2.2.1 (wlW Θ.2.2.2.2.1 Θ.2.2.2.2.2 σ) := ⟨fun i j p q hp hq e => by
    obtain ⟨k1, h1, rfl⟩ := wlW_of hp
    obtain ⟨k2, h2, rfl⟩ := wlW_of hq
    exact hinj i j (List.getElem?_eq_some_iff.mp h1).1 (List.getElem?_eq_some_iff.mp h2).1 e, fun k q hq => by
    obtain ⟨kd, h1, rfl⟩ := wlW_of hq
    exact hA k (List.getElem?_eq_some_iff.mp h1).1⟩
  refine va_copyi (ty := .int) hx hb0 (by rw [hml, hl.1]) hown (hts _ hlink) (hts _ w_3_115) (hts _ w_3_114) (hts _ w_1_15) hK.1 hP hD hS a b 0 0 (wlW_at hka) (wlW_at hkb) rfl rfl rfl (by decide) (by decide) (fun q => hb9 (Or.inl q)) (by show 0 + _ ≤ _; omega) (by show 0 + _ ≤ _; omega) (fun i _ => rfl) (by rw [hrmm]; exact hrm.1) (by rw [hrmm]; omega) hd (fun H1 locs1 hP1 hD1 hS1 => ?_)
  refine kk H1 locs1 ls (fun i k hk => ?_) hS1 hl
  by_cases e : i = b
  · subst e
    cases hkb.symm.trans hk
    have hlt : i < (wlW Θ.2.2.2.2.1 Θ.2.2.2.2.2 σ).length := (List.getElem?_eq_some_iff.mp (wlW_at hkb)).1
    have h9 := hP1 i _ (List.getElem?_set_self hlt)
    have ef : (if i = i then (fun k => if k < n.toNatClampNeg then σ a k else σ i k) else σ i) = va_cpy (σ a) (σ i) (0 : Int32).toNatClampNeg (0 : Int32).toNatClampNeg n.toNatClampNeg := by
      funext k
      rw [if_pos rfl]
      show _ = if 0 ≤ k ∧ k < 0 + n.toNatClampNeg then σ a (0 + (k - 0)) else σ i k
      by_cases hk2 : k < n.toNatClampNeg
      · rw [if_pos hk2, if_pos ⟨Nat.zero_le _, by omega⟩]; congr 1; omega
      · rw [if_neg hk2, if_neg (by omega)]
    show va_at _ _ (_, .inl (_, nb, .inl (if i = i then (fun k => if k < n.toNatClampNeg then σ a k else σ i k) else σ i))) _
    rw [ef]
    exact h9
  · have h9 := hP1 i _ (by rw [List.getElem?_set_ne (fun q => e q.symm)]; exact wlW_at hk)
    show va_at _ _ (_, cellOf _ _ _ (if i = b then (fun k => if k < n.toNatClampNeg then σ a k else σ b k) else σ i) k) _
    rw [if_neg e]
    exact h9
end

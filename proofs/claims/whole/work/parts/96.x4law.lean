/-! LAYER 2: FAVOUR, BY THE LAW -/
def sm2 (m : Nat → Int32) (p o : Nat) : Bool := decide (m (14 + 7 * p + 1) = m (14 + 7 * o + 1) ∧ m (14 + 7 * p + 1) < 2)
def FFx (m : Nat → Int32) (p o : Nat) : Nat → Int32 := fun j => if j = 0 then nI p else if j = 1 then nI o else if j = 2 then lk m p o else if j = 3 then m (14 + 7 * o) else if j = 4 then m (14 + 7 * o + 5) else if j = 5 then m (14 + 7 * o + 6) else if j = 6 then m (14 + 7 * p + 2) else if j = 7 then b2i (sm2 m p o) else b2i (fS m p)
theorem FFx_b {m : Nat → Int32} {p o : Nat} : FB (FFx m p o) := ⟨⟨sm2 m p o, rfl⟩, ⟨fS m p, rfl⟩⟩
def lnsOf (m : Nat → Int32) : List (List Nat × Nat) := match lawP (cT (fun k => m (352 + k)) (m 2).toNatClampNeg) (m 2).toNatClampNeg with
  | .inr ls => ls
  | .inl _ => []
def favX : FavT := fun m p o => if m 1 = -1 then lk m p o + (if sm2 m p o = true then 2 else 0) else lk m p o + (evLs (FFx m p o) (0, false) (lnsOf m)).1
def abX : AbsT := fun m p => if m 1 = -1 then false else (evLs (FFx m p p) (0, false) (lnsOf m)).2
theorem lns_of {m : Nat → Int32} {N : Nat} {ls : List (List Nat × Nat)} (hN : N ≤ 400) (h2 : m 2 = nI N) (h : lawP (cT (fun k => m (352 + k)) N) N = .inr ls) : lnsOf m = ls := by
  unfold lnsOf
  rw [h2, nI_clamp (by omega), h]
def wgP (σ : St) (th : Nat) (village_a : Nat) (voter_a : Int32) (other_a : Int32) (kk : St → Option St) : Option St :=
  Option.bind (sa σ (th + 3) 9 0 voter_a) fun σ1_ =>
  Option.bind (sa σ1_ (th + 3) 9 1 other_a) fun σ3_ =>
  Option.bind (q10_likingOf σ3_ village_a voter_a other_a) fun x5_ =>
  Option.bind (sa σ3_ (th + 3) 9 2 x5_) fun σ7_ =>
  Option.bind (ag σ7_ (village_a + 1) 6 other_a) fun x9_ =>
  Option.bind (sa σ7_ (th + 3) 9 3 x9_) fun σ11_ =>
  Option.bind (ag σ11_ (village_a + 4) 6 other_a) fun x13_ =>
  Option.bind (sa σ11_ (th + 3) 9 4 x13_) fun σ15_ =>
  Option.bind (ag σ15_ (village_a + 5) 6 other_a) fun x17_ =>
  Option.bind (sa σ15_ (th + 3) 9 5 x17_) fun σ19_ =>
  Option.bind (ag σ19_ (village_a + 3) 6 voter_a) fun x21_ =>
  Option.bind (sa σ19_ (th + 3) 9 6 x21_) fun σ23_ =>
  Option.bind (Option.bind (q10_areOfOneParty σ23_ village_a voter_a other_a) fun x30_ =>
  if x30_ = true then (some (1 : Int32)) else (some (0 : Int32))) fun x25_ =>
  Option.bind (sa σ23_ (th + 3) 9 7 x25_) fun σ34_ =>
  Option.bind (sa σ34_ (th + 3) 9 8 (if q11_isIn (σ34_ village_a 9) voter_a = true then 1 else 0)) fun σ41_ => kk σ41_
def wgV (th : Nat) (rec50_ : Int32 → Int32 → St → Option (Int32 × Int32 × St)) (top53_ : Int32) (i54_ : Int32) (σ55_ : St) : Option (Int32 × Int32 × St) :=
  if (i54_ < (σ55_ th 3)) ∧ (i54_ < 412) then
  Option.bind (ag σ55_ (th + 1) 412 i54_) fun x63_ =>
  Option.bind (if (x63_ < 1009) ∧ (top53_ < 32) then (Option.bind (if x63_ < 1000 then (some x63_) else (Option.bind (ag σ55_ (th + 3) 9 (x63_ - 1000)) fun x79_ =>
  some x79_)) fun x73_ =>
  Option.bind (sa σ55_ (th + 2) 32 top53_ x73_) fun σ82_ =>
  lt (top53_ + 1) fun top84_ =>
  some (top84_, σ82_)) else (Option.bind (if 2000 ≤ x63_ then (Option.bind (Option.bind (if 0 < top53_ then (Option.bind (ag σ55_ (th + 2) 32 (top53_ - 1)) fun x101_ =>
  if x101_ = 1 then (some true) else (some false)) else (some false)) fun t98_ =>
  if t98_ = true then (Option.bind (q2_hold σ55_ th x63_) fun x105_ =>
  some (x105_)) else (some (σ55_))) fun y93_ =>
  some ((0 : Int32), y93_)) else (Option.bind (if (x63_ = 1105) ∧ (0 < top53_) then (Option.bind (ag σ55_ (th + 2) 32 (top53_ - 1)) fun x115_ =>
  Option.bind (sa σ55_ (th + 2) 32 (top53_ - 1) (1 - x115_)) fun σ117_ =>
  some (top53_, σ117_)) else (Option.bind (if 1 < top53_ then (lt (top53_ + (-1)) fun top126_ =>
  Option.bind (ag σ55_ (th + 2) 32 (top126_ - 1)) fun x128_ =>
  Option.bind (ag σ55_ (th + 2) 32 top126_) fun x130_ =>
  Option.bind (sa σ55_ (th + 2) 32 (top126_ - 1) (q2_joined x63_ x128_ x130_)) fun σ132_ =>
  some (top126_, σ132_)) else (some (top53_, σ55_))) fun y119_ =>
  some (y119_.1, y119_.2))) fun y107_ =>
  some (y107_.1, y107_.2))) fun y86_ =>
  some (y86_.1, y86_.2))) fun y65_ =>
  lt (i54_ + 1) fun i134_ =>
  rec50_ y65_.1 i134_ y65_.2
  else (some (top53_, i54_, σ55_))
theorem lt_nr {α β : Type} {a : α} {f : α → β} : lt a f = f a := by
  unfold lt
  exact Eq.trans (Eq.refl _) (Eq.refl _)
theorem wgV_eq {th : Nat} : wgV th = wgB th := by
  funext rec top i σ
  unfold wgV wgB
  simp only [lt_nr]
def wgE (th : Nat) (σ : St) : Option St := lt (up σ th 5 0) fun σ43_ => lt (up σ43_ th 6 (b2i false)) fun σ45_ => Option.bind (loop3 (wgV th) fuelN (0 : Int32) (0 : Int32) σ45_) fun y => some y.2.2
theorem weigh_eq {σ : St} {th v : Nat} {p o : Int32} : q2_weigh σ th v p o = wgP σ th v p o (wgE th) := rfl
theorem wgP_ok {σ : St} {m : Nat → Int32} {v n p o : Nat} {kk : St → Option St} {Q : St → Prop} (hv : v = 44 ∨ v = 54) (hV : RVd (vd σ v) m n) (hW : WFm m n) (hp : p < n) (ho : o < n) (hk : ∀ w : St, (∀ j, j < 9 → w 35 j = FFx m p o j) → (∀ i, i ≠ 35 → w i = σ i) → Wo (kk w) Q) : Wo (wgP σ 32 v (nI p) (nI o) kk) Q := by
  have hn := hV.1.1
  unfold wgP
  show Wo (Option.bind (sa σ 35 9 0 (nI p)) _) _
  refine wo_st (sa_nI (k := 0) rfl (by decide) (by decide)) ?_
  refine wo_st (sa_nI (k := 1) rfl (by decide) (by decide)) ?_
  have hv35 : ∀ (τ : St) (j k : Nat) (x : Int32), j < 10 → up τ 35 k x (v + j) = τ (v + j) := fun τ j k x hj => up_pl (by omega)
  have hlk : ∀ τ : St, τ (v + 6) = σ (v + 6) → q10_likingOf τ v (nI p) (nI o) = some (lk m p o) := fun τ ht => by
    unfold lk
    by_cases hpo : p = o
    · subst hpo
      rw [if_pos rfl]
      exact likingOf_eq
    · rw [if_neg hpo, likingOf_ne (by omega) (by omega) hpo, ht]
      exact congrArg some (hV.2.2.2.1 p o hp ho hpo)
  refine wo_st (hlk _ (by rw [hv35 _ 6 _ _ (by omega), hv35 _ 6 _ _ (by omega)])) ?_
  refine wo_st (sa_nI (k := 2) rfl (by decide) (by decide)) ?_
  have hag : ∀ (τ : St) (j q : Nat), j < 10 → q < 6 → τ (v + j) = σ (v + j) → ag τ (v + j) 6 (nI q) = some (σ (v + j) q) := fun τ j q hj hq ht => by rw [ag_nI (k := q) rfl hq (by decide), ht]
  refine wo_st (hag _ 1 o (by omega) (by omega) (by rw [hv35 _ 1 _ _ (by omega), hv35 _ 1 _ _ (by omega), hv35 _ 1 _ _ (by omega)])) ?_
  refine wo_st (sa_nI (k := 3) rfl (by decide) (by decide)) ?_
  refine wo_st (hag _ 4 o (by omega) (by omega) (by rw [hv35 _ 4 _ _ (by omega), hv35 _ 4 _ _ (by omega), hv35 _ 4 _ _ (by omega), hv35 _ 4 _ _ (by omega)])) ?_
  refine wo_st (sa_nI (k := 4) rfl (by decide) (by decide)) ?_
  refine wo_st (hag _ 5 o (by omega) (by omega) (by rw [hv35 _ 5 _ _ (by omega), hv35 _ 5 _ _ (by omega), hv35 _ 5 _ _ (by omega), hv35 _ 5 _ _ (by omega), hv35 _ 5 _ _ (by omega)])) ?_
  refine wo_st (sa_nI (k := 5) rfl (by decide) (by decide)) ?_
  refine wo_st (hag _ 3 p (by omega) (by omega) (by rw [hv35 _ 3 _ _ (by omega), hv35 _ 3 _ _ (by omega), hv35 _ 3 _ _ (by omega), hv35 _ 3 _ _ (by omega), hv35 _ 3 _ _ (by omega), hv35 _ 3 _ _ (by omega)])) ?_
  refine wo_st (sa_nI (k := 6) rfl (by decide) (by decide)) ?_
  have hone : ∀ τ : St, τ (v + 2) = σ (v + 2) → (Option.bind (q10_areOfOneParty τ v (nI p) (nI o)) fun x30_ => if x30_ = true then (some (1 : Int32)) else (some (0 : Int32))) = some (b2i (sm2 m p o)) := fun τ ht => by
    unfold q10_areOfOneParty sm2
    rw [hag τ 2 p (by omega) (by omega) ht, hag τ 2 o (by omega) (by omega) ht, show σ (v + 2) p = m (14 + 7 * p + 1) from (hV.2.1 p hp).2.1, show σ (v + 2) o = m (14 + 7 * o + 1) from (hV.2.1 o ho).2.1]
    simp only [Option.bind_some]
    obtain ⟨a, ha, ea⟩ := (hW.1 p hp).2.1
    have e2 : m (14 + 7 * p + 1) < 2 ↔ ¬ m (14 + 7 * p + 1) = 2 := by
      rw [ea, show (2 : Int32) = nI 2 from rfl, nI_ltI (by omega) (by omega), nI_eq (by omega) (by omega)]
      omega
    by_cases h1 : m (14 + 7 * p + 1) = m (14 + 7 * o + 1)
    · rw [if_pos h1]
      by_cases h2 : ¬ m (14 + 7 * p + 1) = 2
      · rw [if_pos h2, decide_eq_true ⟨h1, e2.mpr h2⟩]; rfl
      · rw [if_neg h2, decide_eq_false (fun q => h2 (e2.mp q.2))]; rfl
    · rw [if_neg h1, decide_eq_false (fun q => h1 q.1)]; rfl
  refine wo_st (hone _ (by rw [hv35 _ 2 _ _ (by omega), hv35 _ 2 _ _ (by omega), hv35 _ 2 _ _ (by omega), hv35 _ 2 _ _ (by omega), hv35 _ 2 _ _ (by omega), hv35 _ 2 _ _ (by omega), hv35 _ 2 _ _ (by omega)])) ?_
  refine wo_st (sa_nI (k := 7) rfl (by decide) (by decide)) ?_
  have hst9 : ∀ τ : St, τ v = σ v → (if q11_isIn (τ v 9) (nI p) = true then (1 : Int32) else 0) = b2i (fS m p) := fun τ ht => by
    rw [ht, hV.hs hp]
    cases fS m p <;> rfl
  have h0v : ∀ (τ : St) (k : Nat) (x : Int32), up τ 35 k x v = τ v := fun τ k x => up_pl (by omega)
  rw [hst9 _ (by rw [h0v, h0v, h0v, h0v, h0v, h0v, h0v, h0v])]
  refine wo_st (sa_nI (k := 8) rfl (by decide) (by decide)) ?_
  have x1 : σ (v + 1) o = m (14 + 7 * o) := (hV.2.1 o ho).1
  have x4 : σ (v + 4) o = m (14 + 7 * o + 5) := (hV.2.1 o ho).2.2.2.1
  have x5 : σ (v + 5) o = m (14 + 7 * o + 6) := (hV.2.1 o ho).2.2.2.2
  have x3 : σ (v + 3) p = m (14 + 7 * p + 2) := (hV.2.1 p hp).2.2.1
  rw [x1, x4, x5, x3]
  refine hk _ (fun j hj => ?_) (fun i hi => ?_)
  · rcases (show j = 0 ∨ j = 1 ∨ j = 2 ∨ j = 3 ∨ j = 4 ∨ j = 5 ∨ j = 6 ∨ j = 7 ∨ j = 8 by omega) with rfl | rfl | rfl | rfl | rfl | rfl | rfl | rfl | rfl <;> simp [up_eq2, FFx]
  · show up _ 35 _ _ i = _
    rw [up_pl hi, up_pl hi, up_pl hi, up_pl hi, up_pl hi, up_pl hi, up_pl hi, up_pl hi, up_pl hi]
theorem wgE_ok {σ w : St} {F : Nat → Int32} {ls : List (List Nat × Nat)} (h3 : σ 32 3 = nI (cds ls).length) (hl : (cds ls).length ≤ 400) (hc : ∀ k, k < (cds ls).length → σ 33 k = nI (ofL (cds ls) k)) (hL : ∀ l, l ∈ ls → (2000 ≤ l.2 ∧ l.2 ≤ 4000) ∧ Sg l.1 ∧ ∃ x, rn F l.1 [] = some [b2i x]) (hW35 : ∀ j, j < 9 → w 35 j = F j) (hWf : ∀ i, i ≠ 35 → w i = σ i) : Wo (wgE 32 w) (fun σ' => σ' 32 5 = (evLs F (0, false) ls).1 ∧ σ' 32 6 = b2i (evLs F (0, false) ls).2 ∧ (∀ i, i ≠ 32 → i ≠ 34 → i ≠ 35 → σ' i = σ i) ∧ ∀ k, k ≠ 5 → k ≠ 6 → σ' 32 k = σ 32 k) := by
  have hWS : WS (up (up w 32 5 0) 32 6 (b2i false)) F (cds ls) [] (up (up w 32 5 0) 32 6 (b2i false)) := ⟨by rw [up_off (by decide), up_off (by decide), hWf 32 (by decide)]; exact h3, fun k hk => by rw [up_pl (by decide), up_pl (by decide), hWf 33 (by decide)]; exact hc k hk, fun j hj => by rw [up_pl (by decide), up_pl (by decide)]; exact hW35 j hj, fun j hj => absurd hj (Nat.not_lt_zero _), fun _ _ _ => rfl, fun _ _ _ => rfl⟩
  have hg := wg_l hl ls 0 (fuelN - 1 - (cds ls).length) (up (up w 32 5 0) 32 6 (b2i false)) (0, false) hWS (by omega) (fun j hj => by rw [Nat.zero_add]) hL (by rw [up_off (by decide), up_at]) up_at
  have hfu : fuelN - 1 - (cds ls).length + 1 + (cds ls).length = fuelN := by
    have : fuelN = 1000000 := rfl
    omega
  rw [hfu] at hg
  unfold wgE
  rw [wgV_eq]
  generalize fuelN = f at hg ⊢
  dsimp only [lt]
  obtain ⟨y, ey, y1, y2, y3, y4⟩ := hg
  have ey : loop3 (wgB 32) f 0 0 (up (up w 32 5 0) 32 6 (b2i false)) = some y := ey
  rw [ey]
  refine ⟨_, rfl, y1, y2, fun i i1 i2 i3 => ?_, fun k k1 k2 => ?_⟩
  · rw [y3 i i1 i2, up_pl i1, up_pl i1]; exact hWf i i3
  · rw [y4 k k1 k2, up_off k2, up_off k1, hWf 32 (by decide)]
theorem weigh_ok {σ : St} {m : Nat → Int32} {v n p o : Nat} {ls : List (List Nat × Nat)} (hv : v = 44 ∨ v = 54) (hV : RVd (vd σ v) m n) (hW : WFm m n) (hp : p < n) (ho : o < n) (h3 : σ 32 3 = nI (cds ls).length) (hl : (cds ls).length ≤ 400) (hc : ∀ k, k < (cds ls).length → σ 33 k = nI (ofL (cds ls) k)) (hL : ∀ l, l ∈ ls → (2000 ≤ l.2 ∧ l.2 ≤ 4000) ∧ Sg l.1 ∧ ∃ x, rn (FFx m p o) l.1 [] = some [b2i x]) : Wo (q2_weigh σ 32 v (nI p) (nI o)) (fun σ' => σ' 32 5 = (evLs (FFx m p o) (0, false) ls).1 ∧ σ' 32 6 = b2i (evLs (FFx m p o) (0, false) ls).2 ∧ (∀ i, i ≠ 32 → i ≠ 34 → i ≠ 35 → σ' i = σ i) ∧ ∀ k, k ≠ 5 → k ≠ 6 → σ' 32 k = σ 32 k) := by
  rw [weigh_eq]
  exact wgP_ok hv hV hW hp ho (fun w h1 h2 => wgE_ok h3 hl hc hL h1 h2)
theorem lr_lines {a b : Int32} {c : Nat → Int32} {m : Nat → Int32} (h : LRx a b c (m 1) (m 2) (fun k => m (352 + k))) : (m 1 = -1 ∧ b = -1) ∨ ∃ N ls, N ≤ 400 ∧ m 2 = nI N ∧ lawP (cT (fun k => m (352 + k)) N) N = .inr ls ∧ ¬ m 1 = -1 ∧ m 1 = nI ls.length ∧ ¬ b = -1 ∧ a = nI (cds ls).length ∧ (cds ls).length ≤ 400 ∧ (∀ k, k < (cds ls).length → c k = nI (ofL (cds ls) k)) ∧ lnsOf m = ls ∧ ls.length ≤ 12 ∧ ∀ F, FB F → ∀ l, l ∈ ls → (2000 ≤ l.2 ∧ l.2 ≤ 4000) ∧ Sg l.1 ∧ ∃ x, rn F l.1 [] = some [b2i x] := by
  rcases h with h | ⟨N, ls, h1, h2, h3, h4, h5, h6, h7, h8⟩
  · exact Or.inl h
  · obtain ⟨l1, l2, l3⟩ := law_in h3
    refine Or.inr ⟨N, ls, h1, h2, h3, by rw [h4]; exact nI_m1 (by omega), h4, by rw [h5]; exact nI_m1 (by omega), h6, h7, h8, lns_of h1 h2 h3, l1, fun F hF l hl => ?_⟩
    obtain ⟨a1, q, p1, a2, a3⟩ := l2 l hl
    exact ⟨a1, sg_line a2 a3, rn_ex hF h1 a2 a3⟩
theorem fav11 {σ : St} {m : Nat → Int32} {v n p o : Nat} (hv : v = 44 ∨ v = 54) (hV : RVd (vd σ v) m n) (hW : WFm m n) (hL : LRx (σ 32 3) (σ 32 4) (σ 33) (m 1) (m 2) (fun k => m (352 + k))) (hp : p < n) (ho : o < n) : ∃ σ', q2_favourOf σ 32 v (nI p) (nI o) = some (favX m p o, σ') ∧ (∀ i, i ≠ 32 → i ≠ 34 → i ≠ 35 → σ' i = σ i) ∧ ∀ k, k ≠ 5 → k ≠ 6 → σ' 32 k = σ 32 k := by
  have hn := hV.1.1
  have hlk : q10_likingOf σ v (nI p) (nI o) = some (lk m p o) := by
    unfold lk
    by_cases hpo : p = o
    · subst hpo
      rw [if_pos rfl]
      exact likingOf_eq
    · rw [if_neg hpo, likingOf_ne (by omega) (by omega) hpo]
      exact congrArg some (hV.2.2.2.1 p o hp ho hpo)
  unfold q2_favourOf favX
  rw [hlk]
  simp only [Option.bind_some]
  rcases lr_lines hL with ⟨h1, h2⟩ | ⟨N, ls, h1, h2, h3, h4, -, h5, h6, h7, h8, h9, -, h10⟩
  · rw [if_pos h2, if_pos h1]
    have hone : q10_areOfOneParty σ v (nI p) (nI o) = some (sm2 m p o) := by
      unfold q10_areOfOneParty sm2
      rw [ag_nI (k := p) rfl (by omega) (by decide), ag_nI (k := o) rfl (by omega) (by decide), show σ (v + 2) p = m (14 + 7 * p + 1) from (hV.2.1 p hp).2.1, show σ (v + 2) o = m (14 + 7 * o + 1) from (hV.2.1 o ho).2.1]
      simp only [Option.bind_some]
      obtain ⟨a, ha, ea⟩ := (hW.1 p hp).2.1
      have e2 : m (14 + 7 * p + 1) < 2 ↔ ¬ m (14 + 7 * p + 1) = 2 := by
        rw [ea, show (2 : Int32) = nI 2 from rfl, nI_ltI (by omega) (by omega), nI_eq (by omega) (by omega)]
        omega
      by_cases q1 : m (14 + 7 * p + 1) = m (14 + 7 * o + 1)
      · rw [if_pos q1]
        by_cases q2 : ¬ m (14 + 7 * p + 1) = 2
        · rw [if_pos q2, decide_eq_true ⟨q1, e2.mpr q2⟩]; rfl
        · rw [if_neg q2, decide_eq_false (fun q => q2 (e2.mp q.2))]; rfl
      · rw [if_neg q1, decide_eq_false (fun q => q1 q.1)]; rfl
    rw [hone]
    refine ⟨σ, ?_, fun _ _ _ _ => rfl, fun _ _ _ => rfl⟩
    cases sm2 m p o with
    | true => rfl
    | false =>
      show some (lk m p o, σ) = some (lk m p o + 0, σ)
      rw [Int32.add_zero]
  · rw [if_neg h5, if_neg h4]
    obtain ⟨w, ew, w1, w2, w3, w4⟩ := weigh_ok hv hV hW hp ho h6 h7 h8 (h10 _ FFx_b)
    rw [ew, h9]
    exact ⟨w, by rw [← w1]; rfl, w3, w4⟩
theorem abs11 {σ : St} {m : Nat → Int32} {v n p : Nat} (hv : v = 44 ∨ v = 54) (hV : RVd (vd σ v) m n) (hW : WFm m n) (hL : LRx (σ 32 3) (σ 32 4) (σ 33) (m 1) (m 2) (fun k => m (352 + k))) (hp : p < n) : ∃ σ', q2_keepsFromVoting σ 32 v (nI p) = some (abX m p, σ') ∧ (∀ i, i ≠ 32 → i ≠ 34 → i ≠ 35 → σ' i = σ i) ∧ ∀ k, k ≠ 5 → k ≠ 6 → σ' 32 k = σ 32 k := by
  unfold q2_keepsFromVoting abX
  rcases lr_lines hL with ⟨h1, h2⟩ | ⟨N, ls, h1, h2, h3, h4, -, h5, h6, h7, h8, h9, -, h10⟩
  · rw [if_pos h2, if_pos h1]
    exact ⟨σ, rfl, fun _ _ _ _ => rfl, fun _ _ _ => rfl⟩
  · rw [if_neg h5, if_neg h4]
    obtain ⟨w, ew, w1, w2, w3, w4⟩ := weigh_ok hv hV hW hp hp h6 h7 h8 (h10 _ FFx_b)
    rw [ew, h9]
    simp only [Option.bind_some]
    rw [w2, b2i_toB]
    exact ⟨w, rfl, w3, w4⟩
/-- the sum stays small -/
theorem ev_b {F : Nat → Int32} : ∀ (ls : List (List Nat × Nat)) (s : Int32 × Bool) (B : Int), (∀ l, l ∈ ls → 2000 ≤ l.2 ∧ l.2 ≤ 4000) → B + 2000 * ls.length ≤ 1000000 → -B ≤ s.1.toInt → s.1.toInt ≤ B → -(B + 2000 * ls.length) ≤ (evLs F s ls).1.toInt ∧ (evLs F s ls).1.toInt ≤ B + 2000 * ls.length
  | [], s, B, hl, hB, h1, h2 => by
    show -(B + 2000 * ((0 : Nat) : Int)) ≤ s.1.toInt ∧ s.1.toInt ≤ B + 2000 * ((0 : Nat) : Int)
    omega
  | l :: ls, s, B, hl, hB, h1, h2 => by
    have hl2 := hl l (List.mem_cons_self ..)
    have hlen : ((l :: ls).length : Int) = (ls.length : Int) + 1 := by
      show ((ls.length + 1 : Nat) : Int) = _
      omega
    rw [hlen] at hB ⊢
    have hs : -(B + 2000) ≤ (evL F s l).1.toInt ∧ (evL F s l).1.toInt ≤ B + 2000 := by
      unfold evL
      split
      · unfold holdL
        split
        · show -(B + 2000) ≤ s.1.toInt ∧ s.1.toInt ≤ B + 2000
          omega
        · split
          · show -(B + 2000) ≤ (s.1 - nI (l.2 - 3000)).toInt ∧ (s.1 - nI (l.2 - 3000)).toInt ≤ B + 2000
            have e : (nI (l.2 - 3000)).toInt = ((l.2 - 3000 : Nat) : Int) := nI_toInt (by omega)
            rw [Int32.toInt_sub, e, Int.bmod_eq_of_le (by omega) (by omega)]
            omega
          · show -(B + 2000) ≤ (s.1 + nI (l.2 - 2000)).toInt ∧ (s.1 + nI (l.2 - 2000)).toInt ≤ B + 2000
            have e : (nI (l.2 - 2000)).toInt = ((l.2 - 2000 : Nat) : Int) := nI_toInt (by omega)
            rw [Int32.toInt_add, e, Int.bmod_eq_of_le (by omega) (by omega)]
            omega
      · omega
    have := ev_b (F := F) ls (evL F s l) (B + 2000) (fun l' h => hl l' (List.mem_cons_of_mem _ h)) (by omega) hs.1 hs.2
    have he : evLs F s (l :: ls) = evLs F (evL F s l) ls := rfl
    rw [he]
    omega
theorem fav_b {m : Nat → Int32} {n p o : Nat} (hL : ∃ a b c, LRx a b c (m 1) (m 2) (fun k => m (352 + k))) (hW : WFm m n) (hp : p < n) (ho : o < n) : -100000000 ≤ (favX m p o).toInt ∧ (favX m p o).toInt ≤ 100000000 := by
  obtain ⟨a, b, c, hL⟩ := hL
  have hk : ∃ q, q ≤ 9 ∧ lk m p o = nI q := by
    unfold lk
    split
    · exact ⟨9, by omega, rfl⟩
    · next h => exact hW.2.1 p o hp ho h
  obtain ⟨q, hq, eq⟩ := hk
  have e : (nI q).toInt = (q : Int) := nI_toInt (by omega)
  unfold favX
  rw [eq]
  rcases lr_lines hL with ⟨h1, h2⟩ | ⟨N, ls, h1, h2, h3, h4, -, h5, h6, h7, h8, h9, h11, h10⟩
  · rw [if_pos h1]
    split
    · rw [Int32.toInt_add, e, show (2 : Int32).toInt = 2 from rfl, Int.bmod_eq_of_le (by omega) (by omega)]
      omega
    · rw [Int32.add_zero, e]
      omega
  · rw [if_neg h4, h9]
    have hb := ev_b (F := FFx m p o) ls (0, false) 0 (fun l hl => (h10 (FFx m p o) FFx_b l hl).1) (by omega) (by decide) (by decide)
    rw [Int32.toInt_add, e, Int.bmod_eq_of_le (by omega) (by omega)]
    omega

/-! LAYER 2: MILL -/
theorem grist_at {n g : Nat} {σ μ : St} {x : Int32} (h : Wk 54 n σ μ) (hg : ∀ q, q < 4 → σ (54 + 7) q = nI g) (e : ag σ (54 + 7) 4 (fmod (σ 54 12) 4) = some x) : x = nI g := by
  have e12 : σ 54 12 = μ 1 4 := h.1.2.2.2.2.2.1.2.1
  obtain ⟨W, hWk, eW⟩ := h.2.2.2.2.2.1
  have hq : W % 4 < 4 := Nat.mod_lt _ (by omega)
  rw [e12, eW, fmod4 hWk, ag_nI (k := W % 4) rfl hq (by decide), hg _ hq] at e
  exact (Option.some.inj e).symm
theorem TXt.fw {v v' : Nat} {σ μ σ' μ' ρ ν ρ' ν' : St} (h : TXt (μ 1) (ν 1)) (f : Fw v σ μ σ' μ') (f' : Fw v' ρ ν ρ' ν') : TXt (μ' 1) (ν' 1) := by
  obtain ⟨h1, h2, h3⟩ := h
  refine ⟨?_, ?_, fun k => ?_⟩
  · rw [f.2.2.2.2.1 1 (by omega), f'.2.2.2.2.1 1 (by omega)]; exact h1
  · rw [f.2.2.2.2.1 2 (by omega), f'.2.2.2.2.1 2 (by omega)]; exact h2
  · rw [f.2.2.2.2.1 _ (by omega), f'.2.2.2.2.1 _ (by omega)]; exact h3 k
theorem stepF {LR : LRT} {fav : FavT} {ab : AbsT} (L : LawF LR fav ab) (LI : LawI fav ab) {n gA gB : Nat} {σ μ ρ ν : St} (h : Wk 54 n σ μ) (h' : Wk 54 n ρ ν) (hL : LR (σ 32 3) (σ 32 4) (σ 33) (μ 1 1) (μ 1 2) (fun k => μ 1 (352 + k))) (hL' : LR (ρ 32 3) (ρ 32 4) (ρ 33) (ν 1 1) (ν 1 2) (fun k => ν 1 (352 + k))) (ht : TW n σ ρ) (hx : TXt (μ 1) (ν 1)) (hgA : ∀ q, q < 4 → σ (54 + 7) q = nI gA) (hgB : ∀ q, q < 4 → ρ (54 + 7) q = nI gB) (a6 : 6 ≤ gA) (a9 : gA ≤ 99) (b6 : 6 ≤ gB) (b9 : gB ≤ 99) : R2 (stepC σ 54 false) (stepC ρ 54 false) (fun a b => TW n a b ∧ a (54 + 7) = σ (54 + 7) ∧ b (54 + 7) = ρ (54 + 7)) := by
  have hn := h.1.1.1
  obtain ⟨g, eg, a1, z1, ea1, ez1, hw1, hf1, -⟩ := feeds_ok (Or.inr rfl) h
  obtain ⟨g', eg', b1, y1, eb1, ey1, hw1', hf1', -⟩ := feeds_ok (Or.inr rfl) h'
  have hg := grist_at h hgA eg
  have hg' := grist_at h' hgB eg'
  subst hg hg'
  obtain ⟨f0, hf0, ef0⟩ := h.2.2.2.2.1
  obtain ⟨f1, hfq, ef1⟩ := h'.2.2.2.2.1
  have e11 : σ 54 11 = nI f0 := (h.1.2.2.2.2.2.1.1).trans ef0
  have e11' : ρ 54 11 = nI f1 := (h'.1.2.2.2.2.2.1.1).trans ef1
  have h8 : σ 54 8 = nI n := h.1.1.2.1
  have h8' : ρ 54 8 = nI n := h'.1.1.2.1
  have h9 : σ 54 9 = nI (bs (fS (μ 1)) n) := h.1.2.2.1.1
  have h10 : σ 54 10 = nI (bs (fB (μ 1)) n) := h.1.2.2.1.2
  have h9' : ρ 54 9 = nI (bs (fS (μ 1)) n) := ht.2.2.1.trans h9
  have h10' : ρ 54 10 = nI (bs (fB (μ 1)) n) := ht.2.2.2.1.trans h10
  rw [e11, flr9 hf0 a9] at ea1
  rw [e11', flr9 hfq b9] at eb1
  obtain ⟨x, ex, x1, ⟨F, xF, xc⟩, xk, xf⟩ := feedF (n := n) (F := min 9999 (f0 + gA)) (S := fS (μ 1)) (B := fB (μ 1)) (w := up σ 54 11 (nI (min 9999 (f0 + gA)))) hn (by omega) (by omega) (by rw [up_off (by decide)]; exact h8) (by rw [up_off (by decide)]; exact h9) (by rw [up_off (by decide)]; exact h10) up_at
  obtain ⟨y, ey, y1', ⟨G, yF, yc⟩, yk, yf⟩ := feedF (n := n) (F := min 9999 (f1 + gB)) (S := fS (μ 1)) (B := fB (μ 1)) (w := up ρ 54 11 (nI (min 9999 (f1 + gB)))) hn (by omega) (by omega) (by rw [up_off (by decide)]; exact h8') (by rw [up_off (by decide)]; exact h9') (by rw [up_off (by decide)]; exact h10') up_at
  rw [ea1] at ex
  rw [eb1] at ey
  cases ex
  cases ey
  have tw1 : TW n a1 b1 := by
    refine ⟨fun q hq => ⟨?_, ?_, ?_, ?_, ?_⟩, fun p o hp ho hne => ?_, ?_, ?_, ?_⟩
    · rw [x1 q hq, y1' q hq, up_pl (by decide), up_pl (by decide), (ht.1 q hq).1]
    · rw [xf _ (by decide) (by decide), yf _ (by decide) (by decide), up_pl (by decide), up_pl (by decide)]; exact (ht.1 q hq).2.1
    · rw [xf _ (by decide) (by decide), yf _ (by decide) (by decide), up_pl (by decide), up_pl (by decide)]; exact (ht.1 q hq).2.2.1
    · rw [xf _ (by decide) (by decide), yf _ (by decide) (by decide), up_pl (by decide), up_pl (by decide)]; exact (ht.1 q hq).2.2.2.1
    · rw [xf _ (by decide) (by decide), yf _ (by decide) (by decide), up_pl (by decide), up_pl (by decide)]; exact (ht.1 q hq).2.2.2.2
    · rw [xf _ (by decide) (by decide), yf _ (by decide) (by decide), up_pl (by decide), up_pl (by decide)]; exact ht.2.1 p o hp ho hne
    · rw [xk 9 (by decide), yk 9 (by decide), up_off (by decide), up_off (by decide)]; exact ht.2.2.1
    · rw [xk 10 (by decide), yk 10 (by decide), up_off (by decide), up_off (by decide)]; exact ht.2.2.2.1
    · rw [xk 13 (by decide), yk 13 (by decide), up_off (by decide), up_off (by decide)]; exact ht.2.2.2.2
  have hpos : ∀ i, i < n → fRn (z1 1) i = true → 0 < F ∧ 0 < G := fun i hi hr => by
    have hs : fS (μ 1) i = true := by
      unfold fRn at hr
      rw [Bool.and_eq_true] at hr
      have e := hw1.1.hs hi
      rw [xk 9 (by decide), up_off (by decide), h9, isIn_bs hn hi] at e
      rw [e]
      exact hr.1
    have hl := cn_lt' (P := nOt (fS (μ 1)) (fB (μ 1))) (Q := fun _ => true) (n := n) (fun _ _ _ => rfl) hi rfl (by unfold nOt; rw [hs]; exact Bool.false_ne_true)
    have ht := cn_top (P := fun _ => true) n
    omega
  have hLa := hf1.law (LR := LR) (Or.inr rfl) hL
  have hLb := hf1'.law (LR := LR) (Or.inr rfl) hL'
  have tx1 := hx.fw hf1 hf1'
  obtain ⟨a2, b2, ea2, eb2, tw2, ga2, gb2⟩ := loafF L LI hw1 hw1' hLa hLb tw1 tx1 xF yF (by omega) (by omega) hpos
  obtain ⟨a2', z2, ea2', ez2, hw2, hf2, -⟩ := loaf_ok L (Or.inr rfl) hw1 hLa
  obtain ⟨b2', y2, eb2', ey2, hw2', hf2', -⟩ := loaf_ok L (Or.inr rfl) hw1' hLb
  rw [ea2] at ea2'
  rw [eb2] at eb2'
  cases ea2'
  cases eb2'
  have t10 : a2 54 10 = nI (bs (fB (z2 1)) n) := hw2.1.2.2.1.2
  obtain ⟨L1, g1, q1, q2, q3, q4, -⟩ := hw2.1.2.2.2.2.2.2.2
  obtain ⟨L2, g2, r1, r2, r3, r4, -⟩ := hw2'.1.2.2.2.2.2.2.2
  obtain ⟨a3, ea3, c10, ck, cf⟩ := seatF (w := a2) (B := fB (z2 1)) hn hw2.1.1.2.1 t10 ⟨L1, g1, q1, q2, q3, q4⟩
  obtain ⟨b3, eb3, d10, dk, df⟩ := seatF (w := b2) (B := fB (z2 1)) hn hw2'.1.1.2.1 (tw2.2.2.2.1.trans t10) ⟨L2, g2, r1, r2, r3, r4⟩
  have eA : stepC σ 54 false = some (up a3 54 12 (imin 9999 ((a3 54 12) + 1))) := by
    unfold stepC
    rw [eg]
    simp only [Option.bind_some]
    rw [e11, flr9 hf0 a9, ea1]
    simp only [Option.bind_some]
    rw [ea2]
    simp only [Option.bind_some]
    rw [ea3]
    rfl
  have eB : stepC ρ 54 false = some (up b3 54 12 (imin 9999 ((b3 54 12) + 1))) := by
    unfold stepC
    rw [eg']
    simp only [Option.bind_some]
    rw [e11', flr9 hfq b9, eb1]
    simp only [Option.bind_some]
    rw [eb2]
    simp only [Option.bind_some]
    rw [eb3]
    rfl
  rw [eA, eB]
  refine r2_some ⟨⟨fun q hq => ⟨?_, ?_, ?_, ?_, ?_⟩, fun p o hp ho hne => ?_, ?_, ?_, ?_⟩, ?_, ?_⟩
  · rw [up_pl (by decide), up_pl (by decide), cf _ (by decide) (by decide) (by decide), df _ (by decide) (by decide) (by decide)]; exact (tw2.1 q hq).1
  · rw [up_pl (by decide), up_pl (by decide), cf _ (by decide) (by decide) (by decide), df _ (by decide) (by decide) (by decide)]; exact (tw2.1 q hq).2.1
  · rw [up_pl (by decide), up_pl (by decide), cf _ (by decide) (by decide) (by decide), df _ (by decide) (by decide) (by decide)]; exact (tw2.1 q hq).2.2.1
  · rw [up_pl (by decide), up_pl (by decide), cf _ (by decide) (by decide) (by decide), df _ (by decide) (by decide) (by decide)]; exact (tw2.1 q hq).2.2.2.1
  · rw [up_pl (by decide), up_pl (by decide), cf _ (by decide) (by decide) (by decide), df _ (by decide) (by decide) (by decide)]; exact (tw2.1 q hq).2.2.2.2
  · rw [up_pl (by decide), up_pl (by decide), cf _ (by decide) (by decide) (by decide), df _ (by decide) (by decide) (by decide)]; exact tw2.2.1 p o hp ho hne
  · rw [up_off (by decide), up_off (by decide), ck 9 (by decide), dk 9 (by decide)]; exact tw2.2.2.1
  · rw [up_off (by decide), up_off (by decide), c10, d10]
    congr 1
    exact bs_congr (fun p hp => by rw [(tw2.1 p hp).1])
  · rw [up_off (by decide), up_off (by decide), ck 13 (by decide), dk 13 (by decide)]; exact tw2.2.2.2.2
  · rw [up_pl (by decide), cf _ (by decide) (by decide) (by decide), ga2, xf _ (by decide) (by decide), up_pl (by decide)]
  · rw [up_pl (by decide), df _ (by decide) (by decide) (by decide), gb2, yf _ (by decide) (by decide), up_pl (by decide)]
def cB (v : Nat) (N : Int32) (b : Bool) (rec : Int32 → St → Option (Int32 × St)) (i : Int32) (s : St) : Option (Int32 × St) := if i < N then Option.bind (stepC s v b) (fun s' => rec (i + 1) s') else some (i, s)
theorem bake_eq (σ : St) (v : Nat) (N : Int32) (b : Bool) : q0_bakeWeeks σ v N b = Option.bind (loop2 (cB v N b) fuelN (0 : Int32) σ) fun y1_ => some y1_.2 := by
  unfold q0_bakeWeeks
  dsimp only [lt]
  refine congrArg (fun f : (Int32 → St → Option (Int32 × St)) → Int32 → St → Option (Int32 × St) => Option.bind (loop2 f fuelN (0 : Int32) σ) fun y1_ => some y1_.2) ?_
  funext rec i s
  unfold cB stepC
  simp only [Option.bind_assoc, Option.bind_some]
theorem two_bake {LR : LRT} {fav : FavT} {ab : AbsT} (L : LawF LR fav ab) (LI : LawI fav ab) {n gA gB N : Nat} {σ μ ρ ν : St} (hN : N ≤ 60) (h : Wk 54 n σ μ) (h' : Wk 54 n ρ ν) (hL : LR (σ 32 3) (σ 32 4) (σ 33) (μ 1 1) (μ 1 2) (fun k => μ 1 (352 + k))) (hL' : LR (ρ 32 3) (ρ 32 4) (ρ 33) (ν 1 1) (ν 1 2) (fun k => ν 1 (352 + k))) (ht : TW n σ ρ) (hx : TXt (μ 1) (ν 1)) (hgA : ∀ q, q < 4 → σ (54 + 7) q = nI gA) (hgB : ∀ q, q < 4 → ρ (54 + 7) q = nI gB) (a6 : 6 ≤ gA) (a9 : gA ≤ 99) (b6 : 6 ≤ gB) (b9 : gB ≤ 99) : R2 (q0_bakeWeeks σ 54 (nI N) false) (q0_bakeWeeks ρ 54 (nI N) false) (fun a b => TW n a b) := by
  rw [bake_eq, bake_eq]
  refine r2_bind ?_
  refine lpR22 N (fun t p w q w' => p = nI t ∧ q = nI t ∧ ∃ z z', Wk 54 n w z ∧ Wk 54 n w' z' ∧ Fw 54 σ μ w z ∧ Fw 54 ρ ν w' z' ∧ TW n w w' ∧ w (54 + 7) = σ (54 + 7) ∧ w' (54 + 7) = ρ (54 + 7)) ?_ fuelN fuelN 0 _ _ _ _ (Nat.zero_le _) (fuel_ok (by omega)) (fuel_ok (by omega)) ⟨rfl, rfl, μ, ν, h, h', Fw.rfl', Fw.rfl', ht, rfl, rfl⟩
  rintro u v t p w q w' htN ⟨rfl, rfl, z, z', hw, hw', hf, hf', tw, g1, g2⟩ IH
  unfold cB
  refine r2_ite Iff.rfl (fun hlt => ?_) (fun _ => r2_some (r2_some tw))
  have htn : t < N := (nI_ltI (by omega) (by omega)).mp hlt
  have hLw := hf.law (LR := LR) (Or.inr rfl) hL
  have hLw' := hf'.law (LR := LR) (Or.inr rfl) hL'
  obtain ⟨a, b, ea, eb, tw2, k1, k2⟩ := stepF L LI hw hw' hLw hLw' tw (hx.fw hf hf') (fun q hq => by rw [g1]; exact hgA q hq) (fun q hq => by rw [g2]; exact hgB q hq) a6 a9 b6 b9
  obtain ⟨a', y, ea', -, q1, q2, -, -⟩ := step_ok L (Or.inr rfl) hw hLw false
  obtain ⟨b', y', eb', -, r1, r2, -, -⟩ := step_ok L (Or.inr rfl) hw' hLw' false
  rw [ea] at ea'
  rw [eb] at eb'
  cases ea'
  cases eb'
  rw [ea, eb]
  simp only [Option.bind_some]
  rw [nI_1]
  exact IH _ _ _ _ htn ⟨rfl, rfl, _, _, q1, r1, hf.tr q2, hf'.tr r2, tw2, k1.trans g1, k2.trans g2⟩
theorem lpR23y {A1 A2 B1 B2 B3 R S : Type} {f : (A1 → A2 → Option R) → A1 → A2 → Option R} {g : (B1 → B2 → B3 → Option S) → B1 → B2 → B3 → Option S} {Q : R → S → Prop} (e : Nat) (I : Nat → A1 → A2 → B1 → B2 → B3 → Prop) (Ja : Nat → A1 → A2 → Prop) (QA : R → Prop) (hA : ∀ N n a1 a2, n ≤ e → e - n < N → Ja n a1 a2 → Wo (loop2 f N a1 a2) QA) (J : B1 → B2 → B3 → Prop) (r : B1 → B2 → B3 → S) (hJ : ∀ (v : B1 → B2 → B3 → Option S) (d1 : B1) (d2 : B2) (d3 : B3), J d1 d2 d3 → g v d1 d2 d3 = some (r d1 d2 d3)) (h : ∀ (u : A1 → A2 → Option R) (v : B1 → B2 → B3 → Option S) (n : Nat) (a1 : A1) (a2 : A2) (b1 : B1) (b2 : B2) (b3 : B3), n ≤ e → I n a1 a2 b1 b2 b3 → (∀ (c1 : A1) (c2 : A2) (d1 : B1) (d2 : B2) (d3 : B3), n < e → I (n + 1) c1 c2 d1 d2 d3 → R2 (u c1 c2) (v d1 d2 d3) Q) → (∀ (c1 : A1) (c2 : A2), n < e → Ja (n + 1) c1 c2 → Wo (u c1 c2) QA) → (∀ (d1 : B1) (d2 : B2) (d3 : B3), n < e → J d1 d2 d3 → v d1 d2 d3 = some (r d1 d2 d3)) → R2 (f u a1 a2) (g v b1 b2 b3) Q) : ∀ (N M n : Nat) (a1 : A1) (a2 : A2) (b1 : B1) (b2 : B2) (b3 : B3), n ≤ e → e - n < N → e - n < M → I n a1 a2 b1 b2 b3 → R2 (loop2 f N a1 a2) (loop3 g M b1 b2 b3) Q
  | 0, M, n, a1, a2, b1, b2, b3, _, hN, _, _ => absurd hN (Nat.not_lt_zero _)
  | N + 1, 0, n, a1, a2, b1, b2, b3, _, _, hM, _ => absurd hM (Nat.not_lt_zero _)
  | N + 1, M + 1, n, a1, a2, b1, b2, b3, hn, hN, hM, hI => h _ _ n a1 a2 b1 b2 b3 hn hI (fun c1 c2 d1 d2 d3 hlt hI2 => lpR23y e I Ja QA hA J r hJ h N M (n + 1) c1 c2 d1 d2 d3 hlt (by omega) (by omega) hI2) (fun c1 c2 hlt hj => hA N (n + 1) c1 c2 hlt (by omega) hj) (fun d1 d2 d3 hlt hj => by
    obtain ⟨M', rfl⟩ : ∃ M', M = M' + 1 := ⟨M - 1, by omega⟩
    exact hJ _ d1 d2 d3 hj)
theorem lpR23z {A1 A2 B1 B2 B3 R S : Type} {f : (A1 → A2 → Option R) → A1 → A2 → Option R} {g : (B1 → B2 → B3 → Option S) → B1 → B2 → B3 → Option S} {Q : R → S → Prop} (e K : Nat) (I : Nat → A1 → A2 → B1 → B2 → B3 → Prop) (J : B1 → B2 → B3 → Prop) (r : B1 → B2 → B3 → S) (hJ : ∀ (v : B1 → B2 → B3 → Option S) (d1 : B1) (d2 : B2) (d3 : B3), J d1 d2 d3 → g v d1 d2 d3 = some (r d1 d2 d3)) (h : ∀ (u : A1 → A2 → Option R) (v : B1 → B2 → B3 → Option S) (n : Nat) (a1 : A1) (a2 : A2) (b1 : B1) (b2 : B2) (b3 : B3), n < e → I n a1 a2 b1 b2 b3 → (∀ (c1 : A1) (c2 : A2) (d1 : B1) (d2 : B2) (d3 : B3), I (n + 1) c1 c2 d1 d2 d3 → R2 (u c1 c2) (v d1 d2 d3) Q) → (∀ (d1 : B1) (d2 : B2) (d3 : B3), J d1 d2 d3 → v d1 d2 d3 = some (r d1 d2 d3)) → R2 (f u a1 a2) (g v b1 b2 b3) Q) (hend : ∀ (N M : Nat) (a1 : A1) (a2 : A2) (b1 : B1) (b2 : B2) (b3 : B3), K < M → I e a1 a2 b1 b2 b3 → R2 (loop2 f (N + 1) a1 a2) (loop3 g M b1 b2 b3) Q) : ∀ (N M n : Nat) (a1 : A1) (a2 : A2) (b1 : B1) (b2 : B2) (b3 : B3), n ≤ e → e - n < N → e - n + K + 1 < M → I n a1 a2 b1 b2 b3 → R2 (loop2 f N a1 a2) (loop3 g M b1 b2 b3) Q
  | 0, M, n, a1, a2, b1, b2, b3, _, hN, _, _ => absurd hN (Nat.not_lt_zero _)
  | N + 1, 0, n, a1, a2, b1, b2, b3, _, _, hM, _ => absurd hM (Nat.not_lt_zero _)
  | N + 1, M + 1, n, a1, a2, b1, b2, b3, hn, hN, hM, hI => by
    by_cases hne : n = e
    · subst hne
      exact hend N (M + 1) a1 a2 b1 b2 b3 (by omega) hI
    · exact h _ _ n a1 a2 b1 b2 b3 (by omega) hI (fun c1 c2 d1 d2 d3 hI2 => lpR23z e K I J r hJ h hend N M (n + 1) c1 c2 d1 d2 d3 (by omega) (by omega) (by omega) hI2) (fun d1 d2 d3 hj => by
        obtain ⟨M', rfl⟩ : ∃ M', M = M' + 1 := ⟨M - 1, by omega⟩
        exact hJ _ d1 d2 d3 hj)
theorem bs_wit {n : Nat} {f f' : Nat → Bool} (hm : ∀ k, k < n → f k = true → f' k = true) (h : ¬ nI (bs f' n) = nI (bs f n)) : ∃ x, x < n ∧ f' x = true ∧ f x = false := by
  refine Classical.byContradiction (fun q => h ?_)
  congr 1
  refine bs_congr (fun p hp => ?_)
  cases h1 : f' p with
  | true =>
    cases h2 : f p with
    | true => rfl
    | false => exact absurd ⟨p, hp, h1, h2⟩ q
  | false =>
    cases h2 : f p with
    | true => rw [hm p hp h2] at h1; cases h1
    | false => rfl
theorem mill_wk {LR : LRT} {fav : FavT} {ab : AbsT} (L : LawF LR fav ab) {n N : Nat} {s u : St} (hN : N ≤ 60) (h : Wk 54 n s u) (hL : LR (s 32 3) (s 32 4) (s 33) (u 1 1) (u 1 2) (fun k => u 1 (352 + k))) : R2 (q0_bakeWeeks s 54 (nI N) false) (loop3 (fun rec51_ (more54_ : Int32) (k55_ : Int32) (σ56_ : St) =>
  if (k55_ < nI N) ∧ (more54_ = 0) then
  Option.bind (q12_passes σ56_ false) fun x64_ =>
  rec51_ (more54_ + x64_.1) (k55_ + 1) x64_.2
  else (some (more54_, k55_, σ56_))) fuelN (0 : Int32) (0 : Int32) u) (fun a y => Fw 54 s u a y.2.2 ∧ (y.1 = 0 ↔ a 54 10 = s 54 10)) := by
  rw [bake_eq]
  have hn := h.1.1.1
  have hb0 : s 54 10 = nI (bs (fB (u 1)) n) := h.1.2.2.1.2
  suffices hs : R2 (loop2 (cB 54 (nI N) false) fuelN (0 : Int32) s) (loop3 (fun rec51_ (more54_ : Int32) (k55_ : Int32) (σ56_ : St) =>
  if (k55_ < nI N) ∧ (more54_ = 0) then
  Option.bind (q12_passes σ56_ false) fun x64_ =>
  rec51_ (more54_ + x64_.1) (k55_ + 1) x64_.2
  else (some (more54_, k55_, σ56_))) fuelN (0 : Int32) (0 : Int32) u) (fun a y => Fw 54 s u a.2 y.2.2 ∧ (y.1 = 0 ↔ a.2 54 10 = s 54 10)) by
    obtain ⟨a, y, ea, ey, q⟩ := hs
    rw [ea, ey]
    exact r2_some q
  refine lpR23y N (fun t p w c q z => p = nI t ∧ q = nI t ∧ c = 0 ∧ Wk 54 n w z ∧ Fw 54 s u w z ∧ w 54 10 = s 54 10) (fun t p w => p = nI t ∧ ∃ z, Wk 54 n w z ∧ Fw 54 s u w z ∧ ∃ x, x < n ∧ q11_isIn (w 54 10) (nI x) = true ∧ fB (u 1) x = false) (fun a => (∃ z, Fw 54 s u a.2 z) ∧ ¬ a.2 54 10 = s 54 10) ?_ (fun c _ _ => ¬ c = 0) (fun c q z => (c, q, z)) (fun v c q z hj => by rw [if_neg (fun h => hj h.2)]) ?_ fuelN fuelN 0 _ _ _ _ _ (Nat.zero_le _) (fuel_ok (by omega)) (fuel_ok (by omega)) ⟨rfl, rfl, rfl, h, Fw.rfl', rfl⟩
  · intro M t p w htN hM hJ
    refine lpW2 N (fun t p w => p = nI t ∧ ∃ z, Wk 54 n w z ∧ Fw 54 s u w z ∧ ∃ x, x < n ∧ q11_isIn (w 54 10) (nI x) = true ∧ fB (u 1) x = false) ?_ M t p w htN hM hJ
    rintro rec t p w ht ⟨rfl, z, hw, hf, x, hx, x1, x2⟩ IH
    unfold cB
    refine wo_ite (fun hlt => ?_) (fun _ => ?_)
    · have htn : t < N := (nI_ltI (by omega) (by omega)).mp hlt
      obtain ⟨a, y, ea, -, q1, q2, -, q4⟩ := step_ok L (Or.inr rfl) hw (hf.law (LR := LR) (Or.inr rfl) hL) false
      rw [ea]
      simp only [Option.bind_some]
      rw [nI_1]
      exact IH _ _ htn ⟨rfl, _, q1, hf.tr q2, x, hx, q4 x (by omega) x1, x2⟩
    · refine wo_some ?_
      try dsimp only
      refine ⟨⟨z, hf⟩, fun e => ?_⟩
      rw [e, hb0, isIn_bs hn hx, x2] at x1
      cases x1
  · rintro F G t p w c q z ht ⟨rfl, rfl, rfl, hw, hf, hb⟩ IH HA HJ
    unfold cB
    by_cases htn : t < N
    · have hlt : nI t < nI N := nI_lt htn (by omega)
      rw [if_pos hlt, if_pos ⟨hlt, rfl⟩]
      obtain ⟨a, y, ea, ey, q1, q2, q3, q4⟩ := step_ok L (Or.inr rfl) hw (hf.law (LR := LR) (Or.inr rfl) hL) false
      have hfa := hf.tr q2
      obtain ⟨t1, t2⟩ := t_of q1
      have hmono : ∀ k, k < n → fB (u 1) k = true → fB (y.2 1) k = true := fun k hk hh => by
        have := q4 k (by omega) (by rw [hb, hb0, isIn_bs hn hk]; exact hh)
        rw [t1, isIn_bs hn hk] at this
        exact this
      obtain ⟨k1, k2⟩ := new_ok hn hmono
      rw [ea, ey]
      simp only [Option.bind_some]
      have q3' : y.1 = bcount (nI (bs (fB (y.2 1)) n)) - bcount (nI (bs (fB (u 1)) n)) := by rw [q3, hb, hb0, t1]
      rw [nI_1, Int32.zero_add, q3']
      by_cases hne : nI (bs (fB (y.2 1)) n) = nI (bs (fB (u 1)) n)
      · refine IH _ _ _ _ _ htn ⟨rfl, rfl, ?_, q1, hfa, ?_⟩
        · rw [hne, Int32.sub_self]
        · rw [t1, hb0]; exact hne
      · have hp := k1.mpr hne
        have hc : ¬ bcount (nI (bs (fB (y.2 1)) n)) - bcount (nI (bs (fB (u 1)) n)) = 0 := fun e => by
          rw [e] at hp
          exact Int32.lt_irrefl hp
        obtain ⟨x, hx, x1, x2⟩ := bs_wit hmono hne
        obtain ⟨a', ea', ⟨z', hz'⟩, hq⟩ := HA (nI (t + 1)) a htn ⟨rfl, _, q1, hfa, x, hx, by rw [t1, isIn_bs hn hx]; exact x1, x2⟩
        rw [HJ _ _ _ htn hc, ea']
        exact r2_some ⟨⟨hz'.1, hz'.2.1, hfa.2.2⟩, fun e => absurd e hc, fun e => absurd e hq⟩
    · have hlt : ¬ nI t < nI N := fun q => htn ((nI_ltI (by omega) (by omega)).mp q)
      rw [if_neg hlt, if_neg (fun q => hlt q.1)]
      exact r2_some ⟨hf, fun _ => hb, fun _ => rfl⟩

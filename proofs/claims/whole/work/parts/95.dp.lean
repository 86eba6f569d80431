/-! LAYER 2: WHO CAN HAVE IT BY SOME ORDER -/
def fin (b : Nat → Nat → Bool) (t S h x : Nat) : Bool := (prm t S).any (fun l => fo b h l == x)
def hA (b : Nat → Nat → Bool) : Option Nat → Nat → Nat
  | none, r => r
  | some h, r => stB b h r
def foO (b : Nat → Nat → Bool) : Option Nat → List Nat → Nat
  | none, l => hl b l
  | some h, l => fo b h l
theorem foO_c {b : Nat → Nat → Bool} {o : Option Nat} {r : Nat} {l : List Nat} : foO b o (r :: l) = fo b (hA b o r) l := by
  cases o <;> rfl
theorem prm_s {t S : Nat} : prm (t + 1) S = ((List.range 6).filter (fun r => S.testBit r)).flatMap (fun r => (prm t (wout S r)).map (fun l => r :: l)) := rfl
theorem any_s {t S : Nat} {P : List Nat → Bool} : (prm (t + 1) S).any P = (List.range 6).any (fun r => S.testBit r && (prm t (wout S r)).any (fun l => P (r :: l))) := by
  rw [prm_s, List.any_flatMap, List.any_filter]
  congr 1
  funext r
  rw [List.any_map]
  rfl
theorem fin_0 {b : Nat → Nat → Bool} {S h x : Nat} : fin b 0 S h x = (h == x) := by
  unfold fin prm
  rw [List.any_cons, List.any_nil, Bool.or_false]
  rfl
theorem fin_s {b : Nat → Nat → Bool} {t S h x : Nat} : fin b (t + 1) S h x = (List.range 6).any (fun r => S.testBit r && fin b t (wout S r) (stB b h r) x) := by
  unfold fin
  rw [any_s]
  rfl
/-- the first of a list of lists -/
theorem find_ap {α : Type} {P : α → Bool} {l l' : List α} (h : l.find? P = none) : (l ++ l').find? P = l'.find? P := by
  rw [List.find?_append, h]
  rfl
theorem find_ap2 {α : Type} {P : α → Bool} {l l' : List α} {x : α} (h : l.find? P = some x) : (l ++ l').find? P = some x := by
  rw [List.find?_append, h]
  rfl
theorem find_any {α : Type} {P : α → Bool} : ∀ {l : List α}, l.find? P = none ↔ l.any P = false
  | [] => ⟨fun _ => rfl, fun _ => rfl⟩
  | a :: l => by
    rw [List.find?_cons, List.any_cons]
    cases P a with
    | true => exact ⟨fun h => (by cases h), fun h => (by cases h)⟩
    | false =>
      rw [Bool.false_or]
      exact find_any
theorem find_map {r : Nat} {P : List Nat → Bool} : ∀ {l : List (List Nat)}, (l.map (fun l => r :: l)).find? P = (l.find? (fun l => P (r :: l))).map (fun l => r :: l)
  | [] => rfl
  | a :: l => by
    rw [List.map_cons, List.find?_cons, List.find?_cons]
    cases P (r :: a) with
    | true => rfl
    | false => exact find_map
/-- over some of the heads -/
theorem find_h {S t : Nat} {P : List Nat → Bool} : ∀ (hs : List Nat), ((∀ r, r ∈ hs → (prm t (wout S r)).any (fun l => P (r :: l)) = false) ∧ (hs.flatMap (fun r => (prm t (wout S r)).map (fun l => r :: l))).find? P = none) ∨ ∃ pre r post l, hs = pre ++ r :: post ∧ (∀ q, q ∈ pre → (prm t (wout S q)).any (fun l => P (q :: l)) = false) ∧ (prm t (wout S r)).find? (fun l => P (r :: l)) = some l ∧ (hs.flatMap (fun r => (prm t (wout S r)).map (fun l => r :: l))).find? P = some (r :: l)
  | [] => Or.inl ⟨fun _ h => absurd h List.not_mem_nil, rfl⟩
  | q :: hs => by
    rw [List.flatMap_cons]
    have hm := find_map (r := q) (P := P) (l := prm t (wout S q))
    cases hf : (prm t (wout S q)).find? (fun l => P (q :: l)) with
    | some l =>
      rw [hf] at hm
      exact Or.inr ⟨[], q, hs, l, rfl, fun _ h => absurd h List.not_mem_nil, hf, find_ap2 hm⟩
    | none =>
      rw [hf] at hm
      have hno : (prm t (wout S q)).any (fun l => P (q :: l)) = false := find_any.mp hf
      rw [find_ap hm]
      rcases find_h (S := S) (t := t) (P := P) hs with ⟨h1, h2⟩ | ⟨pre, r, post, l, h1, h2, h3, h4⟩
      · refine Or.inl ⟨fun r hr => ?_, h2⟩
        rcases List.mem_cons.mp hr with rfl | h
        · exact hno
        · exact h1 r h
      · refine Or.inr ⟨q :: pre, r, post, l, by rw [h1]; rfl, fun p hp => ?_, h3, h4⟩
        rcases List.mem_cons.mp hp with rfl | h
        · exact hno
        · exact h2 p h
theorem bs_or (f g : Nat → Bool) (n : Nat) : bs f n ||| bs g n = bs (fun p => f p || g p) n := by
  apply Nat.eq_of_testBit_eq
  intro i
  rw [Nat.testBit_or]
  by_cases h : i < n
  · rw [bs_bit f n i h, bs_bit g n i h, bs_bit _ n i h]
  · rw [bs_bit_ge f (by omega), bs_bit_ge (n := n) g (by omega), bs_bit_ge (n := n) (fun p => f p || g p) (by omega)]
    rfl
theorem or_nI : ∀ a, a < 64 → ∀ b, b < 64 → nI a ||| nI b = nI (a ||| b) := by decide +kernel
theorem or_bs {f g : Nat → Bool} {n : Nat} (hn : n ≤ 6) : nI (bs f n) ||| nI (bs g n) = nI (bs (fun p => f p || g p) n) := by
  rw [or_nI _ (bs_le hn f) _ (bs_le hn g), bs_or]
theorem anyU_s {k : Nat} {P : Nat → Bool} : (List.range (k + 1)).any P = ((List.range k).any P || P k) := by
  rw [List.range_succ, List.any_append, List.any_cons, List.any_nil, Bool.or_false]
theorem anyU_6 {n : Nat} {P : Nat → Bool} (hn : n ≤ 6) (h : ∀ k, n ≤ k → P k = false) : (List.range 6).any P = (List.range n).any P := by
  have key : ∀ d, (List.range (n + d)).any P = (List.range n).any P := fun d => by
    induction d with
    | zero => rfl
    | succ d ih => rw [← Nat.add_assoc, anyU_s, ih, h (n + d) (by omega), Bool.or_false]
  have := key (6 - n)
  rw [show n + (6 - n) = 6 from by omega] at this
  exact this
/-- sets -/
theorem sub_s1 : ∀ S, S < 64 → ∀ a, a < 64 → a &&& S = a → ∀ r, r < 6 → (S - a).testBit r = (S.testBit r && !a.testBit r) := by decide +kernel
theorem sub_s2 : ∀ S, S < 64 → ∀ a, a < 64 → a &&& S = a → ∀ r, r < 6 → (S.testBit r && !a.testBit r) = true → wout (S - a) r = S - (a ||| 2 ^ r) := by decide +kernel
theorem sub_s3 : ∀ S, S < 64 → ∀ a, a < 64 → a &&& S = a → ∀ r, r < 6 → S.testBit r = true → (a ||| 2 ^ r) &&& S = a ||| 2 ^ r := by decide +kernel
theorem sub_s4 : ∀ a, a < 64 → ∀ r, r < 6 → a.testBit r = false → pc6 (a ||| 2 ^ r) = pc6 a + 1 := by decide +kernel
theorem sub_s5 : ∀ a, a < 64 → ∀ r, r < 6 → a.testBit r = false → a < a ||| 2 ^ r := by decide +kernel
theorem sub_s6 : ∀ S, S < 64 → ∀ a, a < 64 → a &&& S = a → ∀ r, r < 6 → S.testBit r = true → a ||| 2 ^ r ≤ S := by decide +kernel
theorem sub_set (S : Nat) (hS : S < 64) (a : Nat) (ha : a < 64) (h : a &&& S = a) (r : Nat) (hr : r < 6) : (S - a).testBit r = (S.testBit r && !a.testBit r) ∧ (S.testBit r = true → a.testBit r = false → wout (S - a) r = S - (a ||| 2 ^ r) ∧ (a ||| 2 ^ r) &&& S = a ||| 2 ^ r ∧ pc6 (a ||| 2 ^ r) = pc6 a + 1 ∧ a < a ||| 2 ^ r ∧ a ||| 2 ^ r ≤ S) := ⟨sub_s1 S hS a ha h r hr, fun h1 h2 => ⟨sub_s2 S hS a ha h r hr (by rw [h1, h2]; rfl), sub_s3 S hS a ha h r hr h1, sub_s4 a ha r hr h2, sub_s5 a ha r hr h2, sub_s6 S hS a ha h r hr h1⟩⟩
theorem sub_pc : ∀ S, S < 64 → ∀ a, a < 64 → a &&& S = a → a ≤ S ∧ (a ≠ S → pc6 a < pc6 S) := by decide +kernel
theorem bit_in : ∀ a, a < 64 → ∀ r, r < 6 → (a ||| 2 ^ r).testBit r = true ∧ ∀ q, q < 6 → a.testBit q = true → (a ||| 2 ^ r).testBit q = true := by decide +kernel
def hI : Option Nat → Int32
  | none => -1
  | some h => nI h
/-- the table: who can have it, a set having met and one holding -/
def tbD (b : Nat → Nat → Bool) (n S a h : Nat) : Int32 := if a &&& S = a ∧ a.testBit h = true then nI (bs (fun x => fin b (pc6 S - pc6 a) (S - a) h x) n) else 0
def Btn (b : Nat → Nat → Bool) (n : Nat) (s : St) : Prop := ∀ a, a < n → s 11 a = nI (bs (fun x => !decide (x = a) && b a x) n)
theorem after_ok {b : Nat → Nat → Bool} {s : St} {n r : Nat} {o : Option Nat} (hn : n ≤ 6) (hB : Btn b n s) (hr : r < n) (ho : ∀ h, o = some h → h < n ∧ h ≠ r) : q5_holderAfter s (hI o) (nI r) = some (nI (hA b o r)) := by
  unfold q5_holderAfter
  cases o with
  | none =>
    rw [if_pos (show hI none = -1 from rfl)]
    rfl
  | some h =>
    obtain ⟨h1, h2⟩ := ho h rfl
    rw [show hI (some h) = nI h from rfl]
    rw [if_neg (nI_m1 (by omega)), ag_nI (k := r) rfl (by omega) (by decide), hB r hr]
    simp only [Option.bind_some]
    rw [isIn_bs hn h1, decide_eq_false h2]
    show _ = some (nI (stB b h r))
    unfold stB
    cases b r h <;> rfl
theorem with_ok {b : Nat → Nat → Bool} {s : St} {n r a S : Nat} {o : Option Nat} (hn : n ≤ 6) (hB : Btn b n s) (hr : r < n) (ha : a < 64) (ho : ∀ h, o = some h → h < n ∧ h ≠ r) (hT : s 12 ((a ||| 2 ^ r) * 6 + hA b o r) = tbD b n S (a ||| 2 ^ r) (hA b o r)) (hl : a ||| 2 ^ r < 64) : q5_endsWith s (nI a) (hI o) (nI r) = some (tbD b n S (a ||| 2 ^ r) (hA b o r)) := by
  unfold q5_endsWith
  rw [after_ok hn hB hr ho]
  simp only [Option.bind_some]
  have hlt : hA b o r < 6 := by
    cases o with
    | none => show r < 6; omega
    | some h =>
      have := (ho h rfl).1
      show stB b h r < 6
      unfold stB
      split <;> omega
  rw [set_or a ha r (by omega), ag_nI (ix_6 _ _) (by omega) (by decide), hT]
  rfl
theorem ends_ok {b : Nat → Nat → Bool} {s : St} {n S a h : Nat} (hn : n ≤ 6) (h6 : s 6 6 = nI n) (h7 : s 6 7 = nI S) (hS : S < 64) (hSn : ∀ k, n ≤ k → S.testBit k = false) (hB : Btn b n s) (ha : a < 64) (hh : h < n) (hT : ∀ a', a < a' → a' ≤ S → ∀ q, q < n → s 12 (a' * 6 + q) = tbD b n S a' q) : q5_endsOf s (nI a) (nI h) = some (tbD b n S a h) := by
  have key : Wo (q5_endsOf s (nI a) (nI h)) (fun r => r = tbD b n S a h) := by
    unfold q5_endsOf
    rw [h6, h7, isIn_bit a ha h (by omega)]
    have e0 := and_not0 (a := a) (b := S) ha hS
    by_cases hc : a &&& S = a ∧ a.testBit h = true
    · rw [if_neg (fun q => q.elim (fun q => q (e0.mpr hc.1)) (fun q => q hc.2))]
      have htb : tbD b n S a h = nI (bs (fun x => fin b (pc6 S - pc6 a) (S - a) h x) n) := by unfold tbD; rw [if_pos hc]
      rw [htb]
      by_cases haS : a = S
      · subst haS
        rw [if_pos rfl, bit_bs n (by omega) h hh]
        refine wo_some (congrArg nI (bs_congr (fun x hx => ?_)))
        rw [Nat.sub_self, fin_0]
        by_cases hxh : x = h
        · subst hxh
          rw [decide_eq_true rfl, beq_self_eq_true]
        · rw [decide_eq_false hxh, beq_false_of_ne (Ne.symm hxh)]
      · rw [if_neg (nIe (by omega) (by omega) haS)]
        obtain ⟨hle, hpc⟩ := sub_pc S hS a ha hc.1
        have hpc := hpc haS
        have et : pc6 S - pc6 a = (pc6 S - pc6 a - 1) + 1 := by omega
        have goal : bs (fun x => fin b (pc6 S - pc6 a) (S - a) h x) n = bs (fun x => (List.range n).any (fun r => (S.testBit r && !a.testBit r) && fin b (pc6 S - pc6 a - 1) (S - (a ||| 2 ^ r)) (stB b h r) x)) n := by
          refine bs_congr (fun x hx => ?_)
          rw [et, fin_s, anyU_6 hn (fun k hk => ?_)]
          · have hany : ∀ (l : List Nat) (P Q : Nat → Bool), (∀ r, r ∈ l → P r = Q r) → l.any P = l.any Q := fun l P Q hpq => by
              induction l with
              | nil => rfl
              | cons y l ih => rw [List.any_cons, List.any_cons, hpq y (List.mem_cons_self ..), ih (fun r hr => hpq r (List.mem_cons_of_mem _ hr))]
            refine hany _ _ _ (fun r hr => ?_)
            have hr : r < n := List.mem_range.mp hr
            obtain ⟨q1, q2⟩ := sub_set S hS a ha hc.1 r (by omega)
            rw [q1]
            cases hs : S.testBit r with
            | false => rfl
            | true =>
              cases hq : a.testBit r with
              | true => rfl
              | false =>
                obtain ⟨q3, -⟩ := q2 hs hq
                rw [q3]
                rfl
          · by_cases hk6 : k < 6
            · rw [(sub_set S hS a ha hc.1 k hk6).1, hSn k hk]
              rfl
            · rw [Nat.testBit_lt_two_pow (Nat.lt_of_lt_of_le (show S - a < 2 ^ 6 by omega) (Nat.pow_le_pow_right (by omega) (by omega)))]
              rfl
        rw [goal]
        dsimp only [lt]
        refine wo_bind ?_
        refine lpW2 n (fun k y q => q = nI k ∧ y = nI (bs (fun x => (List.range k).any (fun r => (S.testBit r && !a.testBit r) && fin b (pc6 S - pc6 a - 1) (S - (a ||| 2 ^ r)) (stB b h r) x)) n)) ?_ fuelN 0 _ _ (Nat.zero_le _) (fuel_ok (by omega)) ⟨rfl, ?_⟩
        · rintro rec k y q hk ⟨rfl, rfl⟩ IH
          refine wo_ite (fun hlt => ?_) (fun hge => ?_)
          · have hkn : k < n := (nI_ltI (by omega) (by omega)).mp hlt
            rw [isIn_and _ _ (by omega), isIn_not _ (by omega), isIn_bit S hS k (by omega), isIn_bit a ha k (by omega), nI_1]
            cases hg : (S.testBit k && !a.testBit k) with
            | false =>
              simp only [Bool.false_eq_true, if_false, Option.bind_some]
              refine IH _ _ hkn ⟨rfl, congrArg nI (bs_congr (fun x hx => ?_))⟩
              rw [anyU_s, hg, Bool.false_and, Bool.or_false]
            | true =>
              have hg2 := hg
              rw [Bool.and_eq_true, Bool.not_eq_true'] at hg2
              obtain ⟨q3, q4, q5, q6, q7⟩ := (sub_set S hS a ha hc.1 k (by omega)).2 hg2.1 hg2.2
              have hhk : h ≠ k := fun e => by rw [e] at hc; rw [hc.2] at hg2; cases hg2.2
              have hsl : stB b h k < n := by unfold stB; split <;> omega
              have hw := with_ok (b := b) (s := s) (n := n) (r := k) (a := a) (S := S) (o := some h) hn hB hkn ha (fun h' e => by cases e; exact ⟨hh, hhk⟩) (hT _ q6 q7 _ hsl) (by omega)
              simp only [if_true]
              rw [show nI h = hI (some h) from rfl, hw]
              simp only [Option.bind_some]
              have hbit : (a ||| 2 ^ k).testBit (hA b (some h) k) = true := by
                show (a ||| 2 ^ k).testBit (stB b h k) = true
                unfold stB
                split
                · exact (bit_in a ha k (by omega)).1
                · exact (bit_in a ha k (by omega)).2 h (by omega) hc.2
              have htd : tbD b n S (a ||| 2 ^ k) (hA b (some h) k) = nI (bs (fun x => fin b (pc6 S - pc6 (a ||| 2 ^ k)) (S - (a ||| 2 ^ k)) (stB b h k) x) n) := by
                unfold tbD
                rw [if_pos ⟨q4, hbit⟩]
                rfl
              rw [htd, or_bs hn]
              refine IH _ _ hkn ⟨rfl, congrArg nI (bs_congr (fun x hx => ?_))⟩
              rw [anyU_s, hg, Bool.true_and, q5, show pc6 S - (pc6 a + 1) = pc6 S - pc6 a - 1 from by omega]
          · have : k = n := by
              have : ¬ k < n := fun q => hge (nI_lt q (by omega))
              omega
            subst this
            exact wo_some (wo_some rfl)
        · have hz : ∀ k, bs (fun x => (List.range 0).any (fun r => (S.testBit r && !a.testBit r) && fin b (pc6 S - pc6 a - 1) (S - (a ||| 2 ^ r)) (stB b h r) x)) k = 0 := fun k => by
            induction k with
            | zero => rfl
            | succ k ih => unfold bs; rw [ih]; rfl
          rw [hz]
          rfl
    · have htb : tbD b n S a h = 0 := by unfold tbD; rw [if_neg hc]
      rw [htb, if_pos]
      · exact wo_some rfl
      · by_cases h1 : a &&& S = a
        · exact Or.inr (fun q => hc ⟨h1, q⟩)
        · exact Or.inl (fun q => h1 (e0.mp q))
  obtain ⟨r, e, rfl⟩ := key
  exact e

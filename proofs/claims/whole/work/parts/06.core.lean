/-! CORE 3: the words of the pure functions, and their rows -/
def lt {α β : Type} (e : α) (f : α → β) : β := f e
theorem lt_ {α β : Type} {e : α} {f : α → β} {r : β} (h : lt e f = r) : ∃ x, x = e ∧ f x = r := ⟨e, rfl, h⟩
theorem ob {α β : Type} {a : Option α} {f : α → Option β} {r : β} (h : a.bind f = some r) : ∃ x, a = some x ∧ f x = some r := by
  cases a with
  | none => cases h
  | some x => exact ⟨x, rfl, h⟩
def ag (σ : St) (i n : Nat) (j : Int32) : Option Int32 := if j < 0 ∨ n ≤ j.toNatClampNeg then none else some (σ i j.toNatClampNeg)
def sa (σ : St) (i n : Nat) (j x : Int32) : Option St := if j < 0 ∨ n ≤ j.toNatClampNeg then none else some (up σ i j.toNatClampNeg x)
theorem ag_ {σ : St} {i n : Nat} {j v : Int32} (h : ag σ i n j = some v) : ¬ (j < 0 ∨ n ≤ j.toNatClampNeg) ∧ v = σ i j.toNatClampNeg := by
  unfold ag at h
  split at h
  · cases h
  · next q => exact ⟨q, (Option.some.inj h).symm⟩
theorem sa_ {σ σ1 : St} {i n : Nat} {j x : Int32} (h : sa σ i n j x = some σ1) : ¬ (j < 0 ∨ n ≤ j.toNatClampNeg) ∧ σ1 = up σ i j.toNatClampNeg x := by
  unfold sa at h
  split at h
  · cases h
  · next q => exact ⟨q, (Option.some.inj h).symm⟩
def irm (x y : Int32) : Int32 := x - x / y * y
def dv (x y : Int32) : Option Int32 := if y = 0 then none else some (x / y)
def rmd (x y : Int32) : Option Int32 := if y = 0 then none else some (irm x y)
def dvl (x y : Int64) : Option Int64 := if y = 0 then none else some (x / y)
theorem dv_ {x y v : Int32} (h : dv x y = some v) : ¬ y = 0 ∧ v = x / y := by
  unfold dv at h
  split at h
  · cases h
  · next q => exact ⟨q, (Option.some.inj h).symm⟩
theorem rmd_ {x y v : Int32} (h : rmd x y = some v) : ¬ y = 0 ∧ v = irm x y := by
  unfold rmd at h
  split at h
  · cases h
  · next q => exact ⟨q, (Option.some.inj h).symm⟩
theorem dvl_ {x y v : Int64} (h : dvl x y = some v) : ¬ y = 0 ∧ v = x / y := by
  unfold dvl at h
  split at h
  · cases h
  · next q => exact ⟨q, (Option.some.inj h).symm⟩
def shl (x y : Int32) : Int32 := x <<< (y &&& 31)
def shr (x y : Int32) : Int32 := x >>> (y &&& 31)
def ushr (x y : Int32) : Int32 := (x.toUInt32 >>> (y.toUInt32 &&& Int32.toUInt32 31)).toInt32
def b2i (b : Bool) : Int32 := bif b then 1 else 0
def toB (v : Int32) : Option Bool := if v = 0 then some false else if v = 1 then some true else none
theorem toB_ {v : Int32} {b : Bool} (h : toB v = some b) : v = b2i b := by
  unfold toB at h
  split at h
  · next q => cases h; exact q
  · split at h
    · next q => cases h; exact q
    · cases h
def imin (x y : Int32) : Int32 := if y < x then y else x
def imax (x y : Int32) : Int32 := if x < y then y else x
theorem b2i_narrow (b : Bool) : narrow .boolean (.int (b2i b)) = .int (b2i b) := by cases b <;> rfl
theorem b2i_fits (b : Bool) : fits .boolean (.int (b2i b)) = true := by cases b <;> rfl
theorem b2i_0 {b : Bool} : b2i b = 0 ↔ ¬ b = true := by cases b <;> decide
abbrev zA (Θ : Tz) (i : Nat) : Nat := Θ.2.2.2.2.2.2.2.1 i
abbrev zK (Θ : Tz) (i : Nat) : Nat := Θ.2.2.2.2.2.2.2.2.1 i
theorem zc_inj {Θ : Tz} {cc : ByteArray} {nL : Nat} {own : String} {ret : Option FieldType} {rm : Room} (C : Zc Θ cc nL own ret rm) : zI Θ.2.2.2.2.1 Θ.2.2.2.2.2 := C.2.2.2.2.2.2.2.2.2.1
theorem sw_out {x : Int32} (n : Nat) (hn : n < 1000) (h : ∀ k : Nat, k ≤ n → ¬ x = nI k) : x.toInt < 0 ∨ (n : Int) < x.toInt := by
  rcases Int.lt_or_le x.toInt 0 with h0 | h0
  · exact Or.inl h0
  · refine Or.inr ?_
    rcases Int.lt_or_le (n : Int) x.toInt with h1 | h1
    · exact h1
    · exfalso
      refine h x.toInt.toNat (by omega) ?_
      apply Int32.toInt_inj.mp
      rw [nI_toInt (by omega)]
      omega

def loop1 {A1 R : Type} (body : (A1 → Option R) → A1 → Option R) : Nat → A1 → Option R
  | 0 => fun _ => none
  | n + 1 => body (loop1 body n)
theorem loop1_Z {A1 R : Type} {body : (A1 → Option R) → A1 → Option R} {P : A1 → Prop} {y : R} (h : ∀ (rec : A1 → Option R) (a1 : A1), (∀ (a1 : A1), rec a1 = some y → P a1) → body rec a1 = some y → P a1) : ∀ (n : Nat) (a1 : A1), loop1 body n a1 = some y → P a1
  | 0, _, e => by cases e
  | n + 1, a1, e => h (loop1 body n) a1 (loop1_Z h n) e

def loop2 {A1 A2 R : Type} (body : (A1 → A2 → Option R) → A1 → A2 → Option R) : Nat → A1 → A2 → Option R
  | 0 => fun _ _ => none
  | n + 1 => body (loop2 body n)
theorem loop2_Z {A1 A2 R : Type} {body : (A1 → A2 → Option R) → A1 → A2 → Option R} {P : A1 → A2 → Prop} {y : R} (h : ∀ (rec : A1 → A2 → Option R) (a1 : A1) (a2 : A2), (∀ (a1 : A1) (a2 : A2), rec a1 a2 = some y → P a1 a2) → body rec a1 a2 = some y → P a1 a2) : ∀ (n : Nat) (a1 : A1) (a2 : A2), loop2 body n a1 a2 = some y → P a1 a2
  | 0, _, _, e => by cases e
  | n + 1, a1, a2, e => h (loop2 body n) a1 a2 (loop2_Z h n) e

def loop3 {A1 A2 A3 R : Type} (body : (A1 → A2 → A3 → Option R) → A1 → A2 → A3 → Option R) : Nat → A1 → A2 → A3 → Option R
  | 0 => fun _ _ _ => none
  | n + 1 => body (loop3 body n)
theorem loop3_Z {A1 A2 A3 R : Type} {body : (A1 → A2 → A3 → Option R) → A1 → A2 → A3 → Option R} {P : A1 → A2 → A3 → Prop} {y : R} (h : ∀ (rec : A1 → A2 → A3 → Option R) (a1 : A1) (a2 : A2) (a3 : A3), (∀ (a1 : A1) (a2 : A2) (a3 : A3), rec a1 a2 a3 = some y → P a1 a2 a3) → body rec a1 a2 a3 = some y → P a1 a2 a3) : ∀ (n : Nat) (a1 : A1) (a2 : A2) (a3 : A3), loop3 body n a1 a2 a3 = some y → P a1 a2 a3
  | 0, _, _, _, e => by cases e
  | n + 1, a1, a2, a3, e => h (loop3 body n) a1 a2 a3 (loop3_Z h n) e

def loop4 {A1 A2 A3 A4 R : Type} (body : (A1 → A2 → A3 → A4 → Option R) → A1 → A2 → A3 → A4 → Option R) : Nat → A1 → A2 → A3 → A4 → Option R
  | 0 => fun _ _ _ _ => none
  | n + 1 => body (loop4 body n)
theorem loop4_Z {A1 A2 A3 A4 R : Type} {body : (A1 → A2 → A3 → A4 → Option R) → A1 → A2 → A3 → A4 → Option R} {P : A1 → A2 → A3 → A4 → Prop} {y : R} (h : ∀ (rec : A1 → A2 → A3 → A4 → Option R) (a1 : A1) (a2 : A2) (a3 : A3) (a4 : A4), (∀ (a1 : A1) (a2 : A2) (a3 : A3) (a4 : A4), rec a1 a2 a3 a4 = some y → P a1 a2 a3 a4) → body rec a1 a2 a3 a4 = some y → P a1 a2 a3 a4) : ∀ (n : Nat) (a1 : A1) (a2 : A2) (a3 : A3) (a4 : A4), loop4 body n a1 a2 a3 a4 = some y → P a1 a2 a3 a4
  | 0, _, _, _, _, e => by cases e
  | n + 1, a1, a2, a3, a4, e => h (loop4 body n) a1 a2 a3 a4 (loop4_Z h n) e

def loop5 {A1 A2 A3 A4 A5 R : Type} (body : (A1 → A2 → A3 → A4 → A5 → Option R) → A1 → A2 → A3 → A4 → A5 → Option R) : Nat → A1 → A2 → A3 → A4 → A5 → Option R
  | 0 => fun _ _ _ _ _ => none
  | n + 1 => body (loop5 body n)
theorem loop5_Z {A1 A2 A3 A4 A5 R : Type} {body : (A1 → A2 → A3 → A4 → A5 → Option R) → A1 → A2 → A3 → A4 → A5 → Option R} {P : A1 → A2 → A3 → A4 → A5 → Prop} {y : R} (h : ∀ (rec : A1 → A2 → A3 → A4 → A5 → Option R) (a1 : A1) (a2 : A2) (a3 : A3) (a4 : A4) (a5 : A5), (∀ (a1 : A1) (a2 : A2) (a3 : A3) (a4 : A4) (a5 : A5), rec a1 a2 a3 a4 a5 = some y → P a1 a2 a3 a4 a5) → body rec a1 a2 a3 a4 a5 = some y → P a1 a2 a3 a4 a5) : ∀ (n : Nat) (a1 : A1) (a2 : A2) (a3 : A3) (a4 : A4) (a5 : A5), loop5 body n a1 a2 a3 a4 a5 = some y → P a1 a2 a3 a4 a5
  | 0, _, _, _, _, _, e => by cases e
  | n + 1, a1, a2, a3, a4, a5, e => h (loop5 body n) a1 a2 a3 a4 a5 (loop5_Z h n) e

def loop6 {A1 A2 A3 A4 A5 A6 R : Type} (body : (A1 → A2 → A3 → A4 → A5 → A6 → Option R) → A1 → A2 → A3 → A4 → A5 → A6 → Option R) : Nat → A1 → A2 → A3 → A4 → A5 → A6 → Option R
  | 0 => fun _ _ _ _ _ _ => none
  | n + 1 => body (loop6 body n)
theorem loop6_Z {A1 A2 A3 A4 A5 A6 R : Type} {body : (A1 → A2 → A3 → A4 → A5 → A6 → Option R) → A1 → A2 → A3 → A4 → A5 → A6 → Option R} {P : A1 → A2 → A3 → A4 → A5 → A6 → Prop} {y : R} (h : ∀ (rec : A1 → A2 → A3 → A4 → A5 → A6 → Option R) (a1 : A1) (a2 : A2) (a3 : A3) (a4 : A4) (a5 : A5) (a6 : A6), (∀ (a1 : A1) (a2 : A2) (a3 : A3) (a4 : A4) (a5 : A5) (a6 : A6), rec a1 a2 a3 a4 a5 a6 = some y → P a1 a2 a3 a4 a5 a6) → body rec a1 a2 a3 a4 a5 a6 = some y → P a1 a2 a3 a4 a5 a6) : ∀ (n : Nat) (a1 : A1) (a2 : A2) (a3 : A3) (a4 : A4) (a5 : A5) (a6 : A6), loop6 body n a1 a2 a3 a4 a5 a6 = some y → P a1 a2 a3 a4 a5 a6
  | 0, _, _, _, _, _, _, e => by cases e
  | n + 1, a1, a2, a3, a4, a5, a6, e => h (loop6 body n) a1 a2 a3 a4 a5 a6 (loop6_Z h n) e

def loop7 {A1 A2 A3 A4 A5 A6 A7 R : Type} (body : (A1 → A2 → A3 → A4 → A5 → A6 → A7 → Option R) → A1 → A2 → A3 → A4 → A5 → A6 → A7 → Option R) : Nat → A1 → A2 → A3 → A4 → A5 → A6 → A7 → Option R
  | 0 => fun _ _ _ _ _ _ _ => none
  | n + 1 => body (loop7 body n)
theorem loop7_Z {A1 A2 A3 A4 A5 A6 A7 R : Type} {body : (A1 → A2 → A3 → A4 → A5 → A6 → A7 → Option R) → A1 → A2 → A3 → A4 → A5 → A6 → A7 → Option R} {P : A1 → A2 → A3 → A4 → A5 → A6 → A7 → Prop} {y : R} (h : ∀ (rec : A1 → A2 → A3 → A4 → A5 → A6 → A7 → Option R) (a1 : A1) (a2 : A2) (a3 : A3) (a4 : A4) (a5 : A5) (a6 : A6) (a7 : A7), (∀ (a1 : A1) (a2 : A2) (a3 : A3) (a4 : A4) (a5 : A5) (a6 : A6) (a7 : A7), rec a1 a2 a3 a4 a5 a6 a7 = some y → P a1 a2 a3 a4 a5 a6 a7) → body rec a1 a2 a3 a4 a5 a6 a7 = some y → P a1 a2 a3 a4 a5 a6 a7) : ∀ (n : Nat) (a1 : A1) (a2 : A2) (a3 : A3) (a4 : A4) (a5 : A5) (a6 : A6) (a7 : A7), loop7 body n a1 a2 a3 a4 a5 a6 a7 = some y → P a1 a2 a3 a4 a5 a6 a7
  | 0, _, _, _, _, _, _, _, e => by cases e
  | n + 1, a1, a2, a3, a4, a5, a6, a7, e => h (loop7 body n) a1 a2 a3 a4 a5 a6 a7 (loop7_Z h n) e

def loop8 {A1 A2 A3 A4 A5 A6 A7 A8 R : Type} (body : (A1 → A2 → A3 → A4 → A5 → A6 → A7 → A8 → Option R) → A1 → A2 → A3 → A4 → A5 → A6 → A7 → A8 → Option R) : Nat → A1 → A2 → A3 → A4 → A5 → A6 → A7 → A8 → Option R
  | 0 => fun _ _ _ _ _ _ _ _ => none
  | n + 1 => body (loop8 body n)
theorem loop8_Z {A1 A2 A3 A4 A5 A6 A7 A8 R : Type} {body : (A1 → A2 → A3 → A4 → A5 → A6 → A7 → A8 → Option R) → A1 → A2 → A3 → A4 → A5 → A6 → A7 → A8 → Option R} {P : A1 → A2 → A3 → A4 → A5 → A6 → A7 → A8 → Prop} {y : R} (h : ∀ (rec : A1 → A2 → A3 → A4 → A5 → A6 → A7 → A8 → Option R) (a1 : A1) (a2 : A2) (a3 : A3) (a4 : A4) (a5 : A5) (a6 : A6) (a7 : A7) (a8 : A8), (∀ (a1 : A1) (a2 : A2) (a3 : A3) (a4 : A4) (a5 : A5) (a6 : A6) (a7 : A7) (a8 : A8), rec a1 a2 a3 a4 a5 a6 a7 a8 = some y → P a1 a2 a3 a4 a5 a6 a7 a8) → body rec a1 a2 a3 a4 a5 a6 a7 a8 = some y → P a1 a2 a3 a4 a5 a6 a7 a8) : ∀ (n : Nat) (a1 : A1) (a2 : A2) (a3 : A3) (a4 : A4) (a5 : A5) (a6 : A6) (a7 : A7) (a8 : A8), loop8 body n a1 a2 a3 a4 a5 a6 a7 a8 = some y → P a1 a2 a3 a4 a5 a6 a7 a8
  | 0, _, _, _, _, _, _, _, _, e => by cases e
  | n + 1, a1, a2, a3, a4, a5, a6, a7, a8, e => h (loop8 body n) a1 a2 a3 a4 a5 a6 a7 a8 (loop8_Z h n) e

section
variable {Θ : Tz} {cc : ByteArray} {nL kc ks : Nat} {own : String} {ret : Option FieldType} {rm : Room} {Q : State → Prop} {σ : St} {pc : Nat} {lv lv' : List (Nat × Value)} {st : List Value}
theorem z_ag (C : Zc Θ cc nL own ret rm) {i n : Nat} {j v : Int32} (hv : ag σ i n j = some v) (hk : Θ.2.2.2.2.1[i]? = some (.inl n)) (hd : decode cc pc = .ok (.iaload, 1)) (kk : Z Θ nL kc ks Q σ (pc + 1) lv (.int v :: st)) : Z Θ nL kc ks Q σ pc lv (.int j :: .ref (zA Θ i) :: st) := by
  obtain ⟨h1, rfl⟩ := ag_ hv
  exact z_ald C i hk h1 hd kk
theorem z_sa (C : Zc Θ cc nL own ret rm) {i n : Nat} {j x : Int32} {σ1 : St} (hv : sa σ i n j x = some σ1) (hk : Θ.2.2.2.2.1[i]? = some (.inl n)) (hd : decode cc pc = .ok (.iastore, 1)) (kk : Z Θ nL kc ks Q σ1 (pc + 1) lv st) : Z Θ nL kc ks Q σ pc lv (.int x :: .int j :: .ref (zA Θ i) :: st) := by
  obtain ⟨h1, rfl⟩ := sa_ hv
  exact z_ast C i hk h1 hd kk
theorem z_dv (C : Zc Θ cc nL own ret rm) {x y v : Int32} (hv : dv x y = some v) (hd : decode cc pc = .ok (.idiv, 1)) (k : Z Θ nL kc ks Q σ (pc + 1) lv (.int v :: st)) : Z Θ nL kc ks Q σ pc lv (.int y :: .int x :: st) := by
  obtain ⟨h1, rfl⟩ := dv_ hv
  exact z_idiv C hd h1 k
theorem z_rmd (C : Zc Θ cc nL own ret rm) {x y v : Int32} (hv : rmd x y = some v) (hd : decode cc pc = .ok (.irem, 1)) (k : Z Θ nL kc ks Q σ (pc + 1) lv (.int v :: st)) : Z Θ nL kc ks Q σ pc lv (.int y :: .int x :: st) := by
  obtain ⟨h1, rfl⟩ := rmd_ hv
  exact z_irem C hd h1 k
theorem z_dvl (C : Zc Θ cc nL own ret rm) {x y v : Int64} (hv : dvl x y = some v) (hd : decode cc pc = .ok (.ldiv, 1)) (k : Z Θ nL kc ks Q σ (pc + 1) lv (.long v :: st)) : Z Θ nL kc ks Q σ pc lv (.long y :: .long x :: st) := by
  obtain ⟨h1, rfl⟩ := dvl_ hv
  exact z_ldiv C hd h1 k
theorem z_irm (C : Zc Θ cc nL own ret rm) {x y : Int32} (hne : ¬ y = 0) (hd : decode cc pc = .ok (.irem, 1)) (k : Z Θ nL kc ks Q σ (pc + 1) lv (.int (irm x y) :: st)) : Z Θ nL kc ks Q σ pc lv (.int y :: .int x :: st) := z_irem C hd hne k
theorem z_shl (C : Zc Θ cc nL own ret rm) {x y : Int32} (hd : decode cc pc = .ok (.ishl, 1)) (k : Z Θ nL kc ks Q σ (pc + 1) lv (.int (shl x y) :: st)) : Z Θ nL kc ks Q σ pc lv (.int y :: .int x :: st) := z_ishl C hd k
theorem z_shr (C : Zc Θ cc nL own ret rm) {x y : Int32} (hd : decode cc pc = .ok (.ishr, 1)) (k : Z Θ nL kc ks Q σ (pc + 1) lv (.int (shr x y) :: st)) : Z Θ nL kc ks Q σ pc lv (.int y :: .int x :: st) := z_ishr C hd k
theorem z_ushr (C : Zc Θ cc nL own ret rm) {x y : Int32} (hd : decode cc pc = .ok (.iushr, 1)) (k : Z Θ nL kc ks Q σ (pc + 1) lv (.int (ushr x y) :: st)) : Z Θ nL kc ks Q σ pc lv (.int y :: .int x :: st) := z_iushr C hd k
/-- a store under a name -/
theorem z_istN (C : Zc Θ cc nL own ret rm) {j : Fin 4} {i : Nat} {x x' : Int32} (hd : decode cc pc = .ok (.istore_n j, 1)) (hx : x' = x) (hi : (j : Nat) = i) (hn : i < nL) (hl' : (i, Value.int x') :: lv.filter (fun q => !(q.1 == i) && !(q.1 + 1 == i && q.2.category == 2)) = lv') (k : Z Θ nL kc ks Q σ (pc + 1) lv' st) : Z Θ nL kc ks Q σ pc lv (.int x :: st) := by subst hx; exact z_istore_n C hd hi hn hl' k
theorem z_ist (C : Zc Θ cc nL own ret rm) {i : Nat} {x x' : Int32} (hd : decode cc pc = .ok (.istore i, 2)) (hx : x' = x) (hn : i < nL) (hl' : (i, Value.int x') :: lv.filter (fun q => !(q.1 == i) && !(q.1 + 1 == i && q.2.category == 2)) = lv') (k : Z Θ nL kc ks Q σ (pc + 2) lv' st) : Z Θ nL kc ks Q σ pc lv (.int x :: st) := by subst hx; exact z_istore C hd hn hl' k
theorem z_lstN (C : Zc Θ cc nL own ret rm) {j : Fin 4} {i : Nat} {x x' : Int64} (hd : decode cc pc = .ok (.lstore_n j, 1)) (hx : x' = x) (hi : (j : Nat) = i) (hn : i + 1 < nL) (hl' : (i, Value.long x') :: lv.filter (fun q => !(q.1 == i) && (!(q.1 == i + 1) && !(q.1 + 1 == i && q.2.category == 2))) = lv') (k : Z Θ nL kc ks Q σ (pc + 1) lv' st) : Z Θ nL kc ks Q σ pc lv (.long x :: st) := by subst hx; exact z_lstore_n C hd hi hn hl' k
theorem z_lst (C : Zc Θ cc nL own ret rm) {i : Nat} {x x' : Int64} (hd : decode cc pc = .ok (.lstore i, 2)) (hx : x' = x) (hn : i + 1 < nL) (hl' : (i, Value.long x') :: lv.filter (fun q => !(q.1 == i) && (!(q.1 == i + 1) && !(q.1 + 1 == i && q.2.category == 2))) = lv') (k : Z Θ nL kc ks Q σ (pc + 2) lv' st) : Z Θ nL kc ks Q σ pc lv (.long x :: st) := by subst hx; exact z_lstore C hd hn hl' k
theorem z_inc (C : Zc Θ cc nL own ret rm) (q : Nat) {i : Nat} {n : Int} {x v w : Int32} (hd : decode cc pc = .ok (.iinc i n, 3)) (hk : lv[q]? = some (i, .int x)) (hw : Int32.ofInt n = w) (hv : v = x + w) (hn : i < nL) (hl' : (i, Value.int v) :: lv.filter (fun q => !(q.1 == i) && !(q.1 + 1 == i && q.2.category == 2)) = lv') (k : Z Θ nL kc ks Q σ (pc + 3) lv' st) : Z Θ nL kc ks Q σ pc lv st := z_iinc C q hd hk (by rw [hw, hv]) hn hl' k
/-- min, max -/
theorem z_min (C : Zc Θ cc nL own ret rm) {idx : Nat} {x y : Int32} (hlink : Cond.methodLink own idx Lib.Math.min.name ∈ TB) (hstat : Cond.static Lib.Math.min.name ∈ TB) (hini : Cond.initialized "java/lang/Math" ∈ TB) (hcode : Cond.code Lib.Math.min.name Lib.Math.min.code 2 (some .int) ∈ TB) (hrm : 1 ≤ rm.frames ∧ 8 + 13 ≤ rm.locals) (hcat : (st.map fun v => v.category).sum ≤ 8) (hk : kc ≤ rm.cells ∧ ks ≤ rm.slots) (hd : decode cc pc = .ok (.invokestatic idx, 3)) (k : Z Θ nL kc ks Q σ (pc + 3) lv (.int (imin x y) :: st)) : Z Θ nL kc ks Q σ pc lv (.int y :: .int x :: st) := fun H locs ls hH hS hl => by
  obtain ⟨hx, hb0, hml, hown, hts, hlk, hrr, hrmm, hK, hinj, hA, hA2, hE⟩ := id C
  exact va_mmin hx hb0 (by rw [hml, hl.1]) hown (hts _ hlink) (hts _ hstat) (hts _ hini) (hts _ hcode) (by rw [hrmm]; exact hrm.1) (by rw [hrmm]; omega) (by rw [hrmm]; exact hk.1) (by rw [hrmm]; exact hk.2) hd (k H locs ls hH hS hl)
theorem z_max (C : Zc Θ cc nL own ret rm) {idx : Nat} {x y : Int32} (hlink : Cond.methodLink own idx Lib.Math.max.name ∈ TB) (hstat : Cond.static Lib.Math.max.name ∈ TB) (hini : Cond.initialized "java/lang/Math" ∈ TB) (hcode : Cond.code Lib.Math.max.name Lib.Math.max.code 2 (some .int) ∈ TB) (hrm : 1 ≤ rm.frames ∧ 8 + 13 ≤ rm.locals) (hcat : (st.map fun v => v.category).sum ≤ 8) (hk : kc ≤ rm.cells ∧ ks ≤ rm.slots) (hd : decode cc pc = .ok (.invokestatic idx, 3)) (k : Z Θ nL kc ks Q σ (pc + 3) lv (.int (imax x y) :: st)) : Z Θ nL kc ks Q σ pc lv (.int y :: .int x :: st) := fun H locs ls hH hS hl => by
  obtain ⟨hx, hb0, hml, hown, hts, hlk, hrr, hrmm, hK, hinj, hA, hA2, hE⟩ := id C
  exact va_mmax hx hb0 (by rw [hml, hl.1]) hown (hts _ hlink) (hts _ hstat) (hts _ hini) (hts _ hcode) (by rw [hrmm]; exact hrm.1) (by rw [hrmm]; omega) (by rw [hrmm]; exact hk.1) (by rw [hrmm]; exact hk.2) hd (k H locs ls hH hS hl)
theorem z_lcmp (C : Zc Θ cc nL own ret rm) {x y : Int64} (hd : decode cc pc = .ok (.lcmp, 1)) (k : Z Θ nL kc ks Q σ (pc + 1) lv (.int (lg_cmp x y) :: st)) : Z Θ nL kc ks Q σ pc lv (.long y :: .long x :: st) := fun H locs ls hH hS hl => W.lcmp C.1 C.2.1 hd (k H locs ls hH hS hl)
theorem z_tswIn (C : Zc Θ cc nL own ret rm) {dflt lo hi : Int} {offs : Array Int} {len : Nat} {x : Int32} {off : Int} (tgt : Nat) (hd : decode cc pc = .ok (.tableswitch dflt lo hi offs, len)) (h1 : ¬ x.toInt < lo) (h2 : ¬ hi < x.toInt) (ho : offs[(x.toInt - lo).toNat]? = some off) (ht : (pc : Int) + off = (tgt : Int)) (k : Z Θ nL kc ks Q σ tgt lv st) : Z Θ nL kc ks Q σ pc lv (.int x :: st) := fun H locs ls hH hS hl => lv_tableIn C.1 C.2.1 hd h1 h2 ho ht (k H locs ls hH hS hl)
theorem z_tswOut (C : Zc Θ cc nL own ret rm) {dflt lo hi : Int} {offs : Array Int} {len : Nat} {x : Int32} (tgt : Nat) (hd : decode cc pc = .ok (.tableswitch dflt lo hi offs, len)) (h : x.toInt < lo ∨ hi < x.toInt) (ht : (pc : Int) + dflt = (tgt : Int)) (k : Z Θ nL kc ks Q σ tgt lv st) : Z Θ nL kc ks Q σ pc lv (.int x :: st) := fun H locs ls hH hS hl => lv_tableOut C.1 C.2.1 hd h ht (k H locs ls hH hS hl)
theorem z_lsw (C : Zc Θ cc nL own ret rm) {dflt : Int} {ps : Array (Int × Int)} {len : Nat} {x : Int32} {off : Int} (tgt : Nat) (hd : decode cc pc = .ok (.lookupswitch dflt ps, len)) (hp : (ps.toList.zip (ps.toList.drop 1)).all (fun (a, next) => a.1 < next.1) = true) (ho : Op.lookupswitch.offset ps.toList dflt x.toInt = off) (ht : (pc : Int) + off = (tgt : Int)) (k : Z Θ nL kc ks Q σ tgt lv st) : Z Θ nL kc ks Q σ pc lv (.int x :: st) := fun H locs ls hH hS hl => lv_lookup C.1 C.2.1 hd hp ho ht (k H locs ls hH hS hl)
theorem z_ldc (C : Zc Θ cc nL own ret rm) {idx : Nat} {v : Int32} (hc : Cond.constant own idx v ∈ TB) (hd : decode cc pc = .ok (.ldc idx, 2)) (k : Z Θ nL kc ks Q σ (pc + 2) lv (.int v :: st)) : Z Θ nL kc ks Q σ pc lv st := fun H locs ls hH hS hl => lv_ldc C.1 C.2.1 C.2.2.2.1 (C.2.2.2.2.1 _ hc) hd (k H locs ls hH hS hl)
theorem z_ldc2 (C : Zc Θ cc nL own ret rm) {idx : Nat} {v : Int64} (hc : Cond.constantLong own idx v ∈ TB) (hd : decode cc pc = .ok (.ldc2_w idx, 3)) (k : Z Θ nL kc ks Q σ (pc + 3) lv (.long v :: st)) : Z Θ nL kc ks Q σ pc lv st := fun H locs ls hH hS hl => lv_ldc2 C.1 C.2.1 C.2.2.2.1 (C.2.2.2.2.1 _ hc) hd (k H locs ls hH hS hl)

theorem c_lt_f (C : Zc Θ cc nL own ret rm) {x y : Int32} {off : Int} (tgt : Nat) (hd : decode cc pc = .ok (.if_icmp .ge off, 3)) (ht : (pc : Int) + off = (tgt : Int)) (kT : x < y → Z Θ nL kc ks Q σ (pc + 3) lv st) (kF : ¬ (x < y) → Z Θ nL kc ks Q σ tgt lv st) : Z Θ nL kc ks Q σ pc lv (.int y :: .int x :: st) := z_icmp_ge C tgt hd ht (fun h => kF (Int32.not_lt.mpr h)) (fun h => kT (Int32.not_le.mp h))
theorem c_lt_t (C : Zc Θ cc nL own ret rm) {x y : Int32} {off : Int} (tgt : Nat) (hd : decode cc pc = .ok (.if_icmp .lt off, 3)) (ht : (pc : Int) + off = (tgt : Int)) (kT : x < y → Z Θ nL kc ks Q σ tgt lv st) (kF : ¬ (x < y) → Z Θ nL kc ks Q σ (pc + 3) lv st) : Z Θ nL kc ks Q σ pc lv (.int y :: .int x :: st) := z_icmp_lt C tgt hd ht (fun h => kT h) (fun h => kF h)
theorem c_le_f (C : Zc Θ cc nL own ret rm) {x y : Int32} {off : Int} (tgt : Nat) (hd : decode cc pc = .ok (.if_icmp .gt off, 3)) (ht : (pc : Int) + off = (tgt : Int)) (kT : x ≤ y → Z Θ nL kc ks Q σ (pc + 3) lv st) (kF : ¬ (x ≤ y) → Z Θ nL kc ks Q σ tgt lv st) : Z Θ nL kc ks Q σ pc lv (.int y :: .int x :: st) := z_icmp_gt C tgt hd ht (fun h => kF (Int32.not_le.mpr h)) (fun h => kT (Int32.not_lt.mp h))
theorem c_le_t (C : Zc Θ cc nL own ret rm) {x y : Int32} {off : Int} (tgt : Nat) (hd : decode cc pc = .ok (.if_icmp .le off, 3)) (ht : (pc : Int) + off = (tgt : Int)) (kT : x ≤ y → Z Θ nL kc ks Q σ tgt lv st) (kF : ¬ (x ≤ y) → Z Θ nL kc ks Q σ (pc + 3) lv st) : Z Θ nL kc ks Q σ pc lv (.int y :: .int x :: st) := z_icmp_le C tgt hd ht (fun h => kT h) (fun h => kF h)
theorem c_gt_f (C : Zc Θ cc nL own ret rm) {x y : Int32} {off : Int} (tgt : Nat) (hd : decode cc pc = .ok (.if_icmp .le off, 3)) (ht : (pc : Int) + off = (tgt : Int)) (kT : y < x → Z Θ nL kc ks Q σ (pc + 3) lv st) (kF : ¬ (y < x) → Z Θ nL kc ks Q σ tgt lv st) : Z Θ nL kc ks Q σ pc lv (.int y :: .int x :: st) := z_icmp_le C tgt hd ht (fun h => kF (Int32.not_lt.mpr h)) (fun h => kT (Int32.not_le.mp h))
theorem c_gt_t (C : Zc Θ cc nL own ret rm) {x y : Int32} {off : Int} (tgt : Nat) (hd : decode cc pc = .ok (.if_icmp .gt off, 3)) (ht : (pc : Int) + off = (tgt : Int)) (kT : y < x → Z Θ nL kc ks Q σ tgt lv st) (kF : ¬ (y < x) → Z Θ nL kc ks Q σ (pc + 3) lv st) : Z Θ nL kc ks Q σ pc lv (.int y :: .int x :: st) := z_icmp_gt C tgt hd ht (fun h => kT h) (fun h => kF h)
theorem c_ge_f (C : Zc Θ cc nL own ret rm) {x y : Int32} {off : Int} (tgt : Nat) (hd : decode cc pc = .ok (.if_icmp .lt off, 3)) (ht : (pc : Int) + off = (tgt : Int)) (kT : y ≤ x → Z Θ nL kc ks Q σ (pc + 3) lv st) (kF : ¬ (y ≤ x) → Z Θ nL kc ks Q σ tgt lv st) : Z Θ nL kc ks Q σ pc lv (.int y :: .int x :: st) := z_icmp_lt C tgt hd ht (fun h => kF (Int32.not_le.mpr h)) (fun h => kT (Int32.not_lt.mp h))
theorem c_ge_t (C : Zc Θ cc nL own ret rm) {x y : Int32} {off : Int} (tgt : Nat) (hd : decode cc pc = .ok (.if_icmp .ge off, 3)) (ht : (pc : Int) + off = (tgt : Int)) (kT : y ≤ x → Z Θ nL kc ks Q σ tgt lv st) (kF : ¬ (y ≤ x) → Z Θ nL kc ks Q σ (pc + 3) lv st) : Z Θ nL kc ks Q σ pc lv (.int y :: .int x :: st) := z_icmp_ge C tgt hd ht (fun h => kT h) (fun h => kF h)
theorem c_eq_f (C : Zc Θ cc nL own ret rm) {x y : Int32} {off : Int} (tgt : Nat) (hd : decode cc pc = .ok (.if_icmp .ne off, 3)) (ht : (pc : Int) + off = (tgt : Int)) (kT : x = y → Z Θ nL kc ks Q σ (pc + 3) lv st) (kF : ¬ (x = y) → Z Θ nL kc ks Q σ tgt lv st) : Z Θ nL kc ks Q σ pc lv (.int y :: .int x :: st) := z_icmp_ne C tgt hd ht (fun h => kF h) (fun h => kT h)
theorem c_eq_t (C : Zc Θ cc nL own ret rm) {x y : Int32} {off : Int} (tgt : Nat) (hd : decode cc pc = .ok (.if_icmp .eq off, 3)) (ht : (pc : Int) + off = (tgt : Int)) (kT : x = y → Z Θ nL kc ks Q σ tgt lv st) (kF : ¬ (x = y) → Z Θ nL kc ks Q σ (pc + 3) lv st) : Z Θ nL kc ks Q σ pc lv (.int y :: .int x :: st) := z_icmp_eq C tgt hd ht (fun h => kT h) (fun h => kF h)
theorem c_ne_f (C : Zc Θ cc nL own ret rm) {x y : Int32} {off : Int} (tgt : Nat) (hd : decode cc pc = .ok (.if_icmp .eq off, 3)) (ht : (pc : Int) + off = (tgt : Int)) (kT : ¬ x = y → Z Θ nL kc ks Q σ (pc + 3) lv st) (kF : ¬ (¬ x = y) → Z Θ nL kc ks Q σ tgt lv st) : Z Θ nL kc ks Q σ pc lv (.int y :: .int x :: st) := z_icmp_eq C tgt hd ht (fun h => kF (fun n => n h)) (fun h => kT h)
theorem c_ne_t (C : Zc Θ cc nL own ret rm) {x y : Int32} {off : Int} (tgt : Nat) (hd : decode cc pc = .ok (.if_icmp .ne off, 3)) (ht : (pc : Int) + off = (tgt : Int)) (kT : ¬ x = y → Z Θ nL kc ks Q σ tgt lv st) (kF : ¬ (¬ x = y) → Z Θ nL kc ks Q σ (pc + 3) lv st) : Z Θ nL kc ks Q σ pc lv (.int y :: .int x :: st) := z_icmp_ne C tgt hd ht (fun h => kT h) (fun h => kF (fun n => n h))
theorem c0_lt_f (C : Zc Θ cc nL own ret rm) {x : Int32} {off : Int} (tgt : Nat) (hd : decode cc pc = .ok (.ifCond .ge off, 3)) (ht : (pc : Int) + off = (tgt : Int)) (kT : x < 0 → Z Θ nL kc ks Q σ (pc + 3) lv st) (kF : ¬ (x < 0) → Z Θ nL kc ks Q σ tgt lv st) : Z Θ nL kc ks Q σ pc lv (.int x :: st) := z_if_ge C tgt hd ht (fun h => kF (Int32.not_lt.mpr h)) (fun h => kT (Int32.not_le.mp h))
theorem c0_lt_t (C : Zc Θ cc nL own ret rm) {x : Int32} {off : Int} (tgt : Nat) (hd : decode cc pc = .ok (.ifCond .lt off, 3)) (ht : (pc : Int) + off = (tgt : Int)) (kT : x < 0 → Z Θ nL kc ks Q σ tgt lv st) (kF : ¬ (x < 0) → Z Θ nL kc ks Q σ (pc + 3) lv st) : Z Θ nL kc ks Q σ pc lv (.int x :: st) := z_if_lt C tgt hd ht (fun h => kT h) (fun h => kF h)
theorem c0_le_f (C : Zc Θ cc nL own ret rm) {x : Int32} {off : Int} (tgt : Nat) (hd : decode cc pc = .ok (.ifCond .gt off, 3)) (ht : (pc : Int) + off = (tgt : Int)) (kT : x ≤ 0 → Z Θ nL kc ks Q σ (pc + 3) lv st) (kF : ¬ (x ≤ 0) → Z Θ nL kc ks Q σ tgt lv st) : Z Θ nL kc ks Q σ pc lv (.int x :: st) := z_if_gt C tgt hd ht (fun h => kF (Int32.not_le.mpr h)) (fun h => kT (Int32.not_lt.mp h))
theorem c0_le_t (C : Zc Θ cc nL own ret rm) {x : Int32} {off : Int} (tgt : Nat) (hd : decode cc pc = .ok (.ifCond .le off, 3)) (ht : (pc : Int) + off = (tgt : Int)) (kT : x ≤ 0 → Z Θ nL kc ks Q σ tgt lv st) (kF : ¬ (x ≤ 0) → Z Θ nL kc ks Q σ (pc + 3) lv st) : Z Θ nL kc ks Q σ pc lv (.int x :: st) := z_if_le C tgt hd ht (fun h => kT h) (fun h => kF h)
theorem c0_gt_f (C : Zc Θ cc nL own ret rm) {x : Int32} {off : Int} (tgt : Nat) (hd : decode cc pc = .ok (.ifCond .le off, 3)) (ht : (pc : Int) + off = (tgt : Int)) (kT : 0 < x → Z Θ nL kc ks Q σ (pc + 3) lv st) (kF : ¬ (0 < x) → Z Θ nL kc ks Q σ tgt lv st) : Z Θ nL kc ks Q σ pc lv (.int x :: st) := z_if_le C tgt hd ht (fun h => kF (Int32.not_lt.mpr h)) (fun h => kT (Int32.not_le.mp h))
theorem c0_gt_t (C : Zc Θ cc nL own ret rm) {x : Int32} {off : Int} (tgt : Nat) (hd : decode cc pc = .ok (.ifCond .gt off, 3)) (ht : (pc : Int) + off = (tgt : Int)) (kT : 0 < x → Z Θ nL kc ks Q σ tgt lv st) (kF : ¬ (0 < x) → Z Θ nL kc ks Q σ (pc + 3) lv st) : Z Θ nL kc ks Q σ pc lv (.int x :: st) := z_if_gt C tgt hd ht (fun h => kT h) (fun h => kF h)
theorem c0_ge_f (C : Zc Θ cc nL own ret rm) {x : Int32} {off : Int} (tgt : Nat) (hd : decode cc pc = .ok (.ifCond .lt off, 3)) (ht : (pc : Int) + off = (tgt : Int)) (kT : 0 ≤ x → Z Θ nL kc ks Q σ (pc + 3) lv st) (kF : ¬ (0 ≤ x) → Z Θ nL kc ks Q σ tgt lv st) : Z Θ nL kc ks Q σ pc lv (.int x :: st) := z_if_lt C tgt hd ht (fun h => kF (Int32.not_le.mpr h)) (fun h => kT (Int32.not_lt.mp h))
theorem c0_ge_t (C : Zc Θ cc nL own ret rm) {x : Int32} {off : Int} (tgt : Nat) (hd : decode cc pc = .ok (.ifCond .ge off, 3)) (ht : (pc : Int) + off = (tgt : Int)) (kT : 0 ≤ x → Z Θ nL kc ks Q σ tgt lv st) (kF : ¬ (0 ≤ x) → Z Θ nL kc ks Q σ (pc + 3) lv st) : Z Θ nL kc ks Q σ pc lv (.int x :: st) := z_if_ge C tgt hd ht (fun h => kT h) (fun h => kF h)
theorem c0_eq_f (C : Zc Θ cc nL own ret rm) {x : Int32} {off : Int} (tgt : Nat) (hd : decode cc pc = .ok (.ifCond .ne off, 3)) (ht : (pc : Int) + off = (tgt : Int)) (kT : x = 0 → Z Θ nL kc ks Q σ (pc + 3) lv st) (kF : ¬ (x = 0) → Z Θ nL kc ks Q σ tgt lv st) : Z Θ nL kc ks Q σ pc lv (.int x :: st) := z_if_ne C tgt hd ht (fun h => kF h) (fun h => kT h)
theorem c0_eq_t (C : Zc Θ cc nL own ret rm) {x : Int32} {off : Int} (tgt : Nat) (hd : decode cc pc = .ok (.ifCond .eq off, 3)) (ht : (pc : Int) + off = (tgt : Int)) (kT : x = 0 → Z Θ nL kc ks Q σ tgt lv st) (kF : ¬ (x = 0) → Z Θ nL kc ks Q σ (pc + 3) lv st) : Z Θ nL kc ks Q σ pc lv (.int x :: st) := z_if_eq C tgt hd ht (fun h => kT h) (fun h => kF h)
theorem c0_ne_f (C : Zc Θ cc nL own ret rm) {x : Int32} {off : Int} (tgt : Nat) (hd : decode cc pc = .ok (.ifCond .eq off, 3)) (ht : (pc : Int) + off = (tgt : Int)) (kT : ¬ x = 0 → Z Θ nL kc ks Q σ (pc + 3) lv st) (kF : ¬ (¬ x = 0) → Z Θ nL kc ks Q σ tgt lv st) : Z Θ nL kc ks Q σ pc lv (.int x :: st) := z_if_eq C tgt hd ht (fun h => kF (fun n => n h)) (fun h => kT h)
theorem c0_ne_t (C : Zc Θ cc nL own ret rm) {x : Int32} {off : Int} (tgt : Nat) (hd : decode cc pc = .ok (.ifCond .ne off, 3)) (ht : (pc : Int) + off = (tgt : Int)) (kT : ¬ x = 0 → Z Θ nL kc ks Q σ tgt lv st) (kF : ¬ (¬ x = 0) → Z Θ nL kc ks Q σ (pc + 3) lv st) : Z Θ nL kc ks Q σ pc lv (.int x :: st) := z_if_ne C tgt hd ht (fun h => kT h) (fun h => kF (fun n => n h))
theorem cb_f (C : Zc Θ cc nL own ret rm) {b : Bool} {off : Int} (tgt : Nat) (hd : decode cc pc = .ok (.ifCond .eq off, 3)) (ht : (pc : Int) + off = (tgt : Int)) (kT : b = true → Z Θ nL kc ks Q σ (pc + 3) lv st) (kF : ¬ b = true → Z Θ nL kc ks Q σ tgt lv st) : Z Θ nL kc ks Q σ pc lv (.int (b2i b) :: st) := z_if_eq C tgt hd ht (fun h => kF (b2i_0.mp h)) (fun h => kT (Classical.not_not.mp fun n => h (b2i_0.mpr n)))
theorem cb_t (C : Zc Θ cc nL own ret rm) {b : Bool} {off : Int} (tgt : Nat) (hd : decode cc pc = .ok (.ifCond .ne off, 3)) (ht : (pc : Int) + off = (tgt : Int)) (kT : b = true → Z Θ nL kc ks Q σ tgt lv st) (kF : ¬ b = true → Z Θ nL kc ks Q σ (pc + 3) lv st) : Z Θ nL kc ks Q σ pc lv (.int (b2i b) :: st) := z_if_ne C tgt hd ht (fun h => kT (Classical.not_not.mp fun n => h (b2i_0.mpr n))) (fun h => kF (b2i_0.mp h))
end

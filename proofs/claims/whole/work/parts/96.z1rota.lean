/-! LAYER 2: ROTA, THE TREE OF TURNS -/
def eI (e : Nat) : Int32 := nI e - 1
theorem eI_0 : eI 0 = -1 := by decide +kernel
theorem eI_1 (e : Nat) : eI (e + 1) = nI e := nI_pred e
theorem eI_s (e : Nat) : eI e + 1 = eI (e + 1) := by
  rw [eI_1]
  show nI e - 1 + 1 = nI e
  exact Int32.sub_add_cancel _ _
theorem eI_lt : ∀ n, n < 7 → ∀ i, i < 8 → (eI i < nI n ↔ i < n + 1) := by decide +kernel
theorem eI_le : ∀ n, n < 7 → ∀ i, i < 8 → (nI n ≤ eI i ↔ n + 1 ≤ i) := by decide +kernel
theorem eI_m1 : ∀ i, i < 8 → (eI i = -1 ↔ i = 0) := by decide +kernel
theorem eI_nI : ∀ i, i < 8 → ∀ p, p < 7 → (nI p = eI i ↔ p + 1 = i) := by decide +kernel
abbrev ND : Type := (Nat → Nat) × (Nat → Bool) × Nat
def rFl (S b : Nat → Bool) (f : Nat) : Nat → Nat
  | 0 => f
  | p + 1 => if (b p || S p) = true then rFl S b f p else rFl S b f p - 1
theorem rFl_s {S b : Nat → Bool} {f p : Nat} : rFl S b f (p + 1) = if (b p || S p) = true then rFl S b f p else rFl S b f p - 1 := rfl
theorem rFl_le {S b : Nat → Bool} {f : Nat} : ∀ p, rFl S b f p ≤ f
  | 0 => Nat.le_refl _
  | p + 1 => by
    have := rFl_le (S := S) (b := b) (f := f) p
    rw [rFl_s]
    split <;> omega
def rH (S b : Nat → Bool) (h : Nat → Nat) (f e p : Nat) : Nat := if b p = true then h p else if S p = true then (if p + 1 = e then 0 else min 9 (h p + 1)) else if 0 < rFl S b f p then 0 else min 9 (h p + 1)
theorem rH_le {S b : Nat → Bool} {h : Nat → Nat} {f e p : Nat} (hp : h p ≤ 9) : rH S b h f e p ≤ 9 := by
  unfold rH
  split
  · exact hp
  · split
    · split <;> omega
    · split <;> omega
def rF (g : Nat → Nat) (k : Nat) (N : ND) : Nat := min 9999 (N.2.2 + g k)
def rSt (S : Nat → Bool) (g : Nat → Nat) (n k : Nat) (N : ND) (e : Nat) : ND := (rH S N.2.1 N.1 (rF g k N) e, fun p => N.2.1 p || decide (rH S N.2.1 N.1 (rF g k N) e p = 9), rFl S N.2.1 (rF g k N) n - (if e = 0 then 0 else 1))
def rOk (S R : Nat → Bool) (g : Nat → Nat) (n k : Nat) (N : ND) (e : Nat) : Bool := decide (e = 0) || (R (e - 1) && !N.2.1 (e - 1) && decide (0 < rFl S N.2.1 (rF g k N) n))
def rIt {A : Type} (f : Nat → A → A) : Nat → Nat → A → A
  | 0, _, a => a
  | m + 1, j, a => rIt f m (j + 1) (f j a)
theorem rIt_0 {A : Type} {f : Nat → A → A} {j : Nat} {a : A} : rIt f 0 j a = a := rfl
theorem rIt_1 {A : Type} {f : Nat → A → A} {m j : Nat} {a : A} : rIt f (m + 1) j a = rIt f m (j + 1) (f j a) := rfl
theorem rIt_s {A : Type} {f : Nat → A → A} : ∀ (m j : Nat) (a : A), rIt f (m + 1) j a = f (j + m) (rIt f m j a)
  | 0, j, a => rfl
  | m + 1, j, a => by
    rw [rIt_1, rIt_s m (j + 1) (f j a), rIt_1]
    congr 1
    omega
theorem rIt_pres {A : Type} {f : Nat → A → A} {P : A → Prop} (h : ∀ j a, P a → P (f j a)) : ∀ (m j : Nat) (a : A), P a → P (rIt f m j a)
  | 0, _, _, q => q
  | m + 1, j, a, q => rIt_pres h m (j + 1) _ (h j a q)
theorem rIt_keep {A : Type} {f : Nat → A → A} {a : A} (h : ∀ j, f j a = a) : ∀ (m j : Nat), rIt f m j a = a
  | 0, _ => rfl
  | m + 1, j => by rw [rIt_1, h j]; exact rIt_keep h m (j + 1)
theorem rIt_skip {A : Type} {f : Nat → A → A} : ∀ (s j : Nat) {m : Nat} {a : A}, (∀ i, j ≤ i → i < j + s → ∀ a, f i a = a) → rIt f (s + m) j a = rIt f m (j + s) a
  | 0, j, m, a, _ => by rw [Nat.zero_add, Nat.add_zero]
  | s + 1, j, m, a, h => by
    rw [show s + 1 + m = (s + m) + 1 by omega, rIt_1, h j (Nat.le_refl _) (by omega), rIt_skip s (j + 1) (fun i h1 h2 => h i (by omega) (by omega))]
    congr 1
    omega
def rRow (row : Nat → Nat) (k e : Nat) : Nat → Nat := fun i => if i = k then e else row i
abbrev RA : Type := Nat × (Nat → Nat)
def rRun (S R : Nat → Bool) (g : Nat → Nat) (n : Nat) : Nat → Nat → ND → (Nat → Nat) → RA → RA
  | 0 => fun _ N row acc => if cn N.2.1 n < acc.1 then (cn N.2.1 n, row) else acc
  | d + 1 => fun k N row acc => rIt (fun e a => if rOk S R g n k N e = true then rRun S R g n d (k + 1) (rSt S g n k N e) (rRow row k e) a else a) (n + 1) 0 acc
def rCh (S R : Nat → Bool) (g : Nat → Nat) (n d k : Nat) (N : ND) (row : Nat → Nat) (e : Nat) (a : RA) : RA := if rOk S R g n k N e = true then rRun S R g n d (k + 1) (rSt S g n k N e) (rRow row k e) a else a
theorem rRun_0 {S R : Nat → Bool} {g : Nat → Nat} {n k : Nat} {N : ND} {row : Nat → Nat} {acc : RA} : rRun S R g n 0 k N row acc = if cn N.2.1 n < acc.1 then (cn N.2.1 n, row) else acc := rfl
theorem rRun_s {S R : Nat → Bool} {g : Nat → Nat} {n d k : Nat} {N : ND} {row : Nat → Nat} {acc : RA} : rRun S R g n (d + 1) k N row acc = rIt (rCh S R g n d k N row) (n + 1) 0 acc := rfl
theorem rRun_le {S R : Nat → Bool} {g : Nat → Nat} {n M : Nat} : ∀ (d k : Nat) (N : ND) (row : Nat → Nat) (acc : RA), acc.1 ≤ M → (rRun S R g n d k N row acc).1 ≤ M
  | 0, k, N, row, acc, h => by
    rw [rRun_0]
    split
    · dsimp only; omega
    · exact h
  | d + 1, k, N, row, acc, h => by
    rw [rRun_s]
    refine rIt_pres (P := fun a : RA => a.1 ≤ M) (fun j a q => ?_) _ _ _ h
    unfold rCh
    split
    · exact rRun_le d _ _ _ _ q
    · exact q
theorem rRun_keep {S R : Nat → Bool} {g : Nat → Nat} {n : Nat} : ∀ (d k : Nat) (N : ND) (row : Nat → Nat) (acc : RA), acc.1 ≤ cn N.2.1 n → rRun S R g n d k N row acc = acc
  | 0, k, N, row, acc, h => by rw [rRun_0, if_neg (by omega)]
  | d + 1, k, N, row, acc, h => by
    rw [rRun_s]
    refine rIt_keep (fun j => ?_) _ _
    unfold rCh
    split
    · refine rRun_keep d _ _ _ _ (Nat.le_trans h (cn_le (fun p hp => ?_) n))
      show (N.2.1 p || _) = true
      rw [hp]; rfl
    · rfl
theorem rRun_any {S R : Nat → Bool} {g : Nat → Nat} {n : Nat} (hn : n ≤ 6) : ∀ (d k : Nat) (N : ND) (row : Nat → Nat) (acc acc' : RA), 6 < acc.1 → 6 < acc'.1 → rRun S R g n d k N row acc = rRun S R g n d k N row acc'
  | 0, k, N, row, acc, acc', h, h' => by
    have := cn_top (P := N.2.1) n
    rw [rRun_0, rRun_0, if_pos (by omega), if_pos (by omega)]
  | d + 1, k, N, row, acc, acc', h, h' => by
    rw [rRun_s, rRun_s, rIt_1, rIt_1]
    congr 1
    unfold rCh
    rw [if_pos (show rOk S R g n k N 0 = true from rfl), if_pos (show rOk S R g n k N 0 = true from rfl)]
    exact rRun_any hn d _ _ _ _ _ h h'
def okN (n : Nat) (N : ND) : Prop := (∀ p, p < n → N.1 p ≤ 9) ∧ N.2.2 ≤ 9999
theorem okN.st {S : Nat → Bool} {g : Nat → Nat} {n k : Nat} {N : ND} {e : Nat} (h : okN n N) : okN n (rSt S g n k N e) := by
  refine ⟨fun p hp => rH_le (h.1 p hp), ?_⟩
  show rFl S N.2.1 (rF g k N) n - _ ≤ 9999
  have := rFl_le (S := S) (b := N.2.1) (f := rF g k N) n
  unfold rF at this ⊢
  omega
theorem more9 {x : Nat} (h : x ≤ 9) : imin 9 (nI x + 1) = nI (min 9 (x + 1)) := by
  rw [nI_1, show (9 : Int32) = nI 9 from rfl, imin_nI (by omega) (by omega)]
theorem flr9 {x y : Nat} (h : x ≤ 9999) (h' : y ≤ 99) : imin 9999 (nI x + nI y) = nI (min 9999 (x + y)) := by
  rw [nI_add, show (9999 : Int32) = nI 9999 from rfl, imin_nI (by omega) (by omega)]
theorem less1 {x : Nat} (h : x ≤ 9999) : imax 0 (nI x - 1) = nI (x - 1) := by
  cases x with
  | zero => decide +kernel
  | succ x =>
    rw [nI_pred]
    unfold imax
    by_cases hx : x = 0
    · subst hx; decide +kernel
    · rw [if_pos (show (0 : Int32) < nI x from nI_lt (a := 0) (by omega) (by omega))]; rfl
theorem orB {f : Nat → Bool} {n p : Nat} (hn : n ≤ 6) (hp : p < n) : nI (bs f n) ||| shl 1 (nI p) = nI (bs (fun q => f q || decide (q = p)) n) := by
  rw [bit_bs n (by omega) p hp, or_nI _ (bs_le hn _) _ (bs_le hn _), bs_or]
theorem up_pl2 {σ : St} {i k a j : Nat} {x : Int32} (h : a ≠ i) : up σ i k x a j = σ a j := by rw [up_pl h]
theorem rRun_6 {S R : Nat → Bool} {g : Nat → Nat} {n : Nat} (hn : n ≤ 6) : ∀ (d k : Nat) (N : ND) (row : Nat → Nat) (acc : RA), (rRun S R g n d k N row acc).1 ≤ 6
  | 0, k, N, row, acc => by
    have := cn_top (P := N.2.1) n
    rw [rRun_0]
    split
    · dsimp only; omega
    · omega
  | d + 1, k, N, row, acc => by
    rw [rRun_s, rIt_1]
    refine rIt_pres (P := fun a : RA => a.1 ≤ 6) (fun j a q => ?_) _ _ _ ?_
    · unfold rCh
      split
      · exact rRun_le d _ _ _ _ q
      · exact q
    · unfold rCh
      rw [if_pos (show rOk S R g n k N 0 = true from rfl)]
      exact rRun_6 hn d _ _ _ _
theorem acp_g {σ : St} {a na b nb n : Nat} {x : Int32} (hx : x = nI n) (h1 : n ≤ na) (h2 : n ≤ nb) (hn : n < 2 ^ 31) : ∃ κ, acp σ a na b nb x = some κ ∧ (∀ i, i < n → κ b i = σ a i) ∧ ∀ i, i ≠ b → κ i = σ i := by
  subst hx
  refine ⟨fun p => if p = b then (fun k => if k < n then σ a k else σ b k) else σ p, ?_, fun i hi => ?_, fun i hi => ?_⟩
  · unfold acp
    rw [nI_clamp hn, if_neg]
    rintro (h | h | h)
    · exact nI_pos hn h
    · omega
    · omega
  · dsimp only
    rw [if_pos rfl, if_pos hi]
  · dsimp only
    rw [if_neg hi]
theorem rH_b {S b : Nat → Bool} {h : Nat → Nat} {f e p : Nat} (hb : b p = true) : rH S b h f e p = h p := by
  unfold rH
  rw [if_pos hb]
theorem rH_S {S b : Nat → Bool} {h : Nat → Nat} {f e p : Nat} (hb : b p = false) (hS : S p = true) : rH S b h f e p = if p + 1 = e then 0 else min 9 (h p + 1) := by
  unfold rH
  rw [hb, hS, if_neg Bool.false_ne_true, if_pos rfl]
theorem rH_o {S b : Nat → Bool} {h : Nat → Nat} {f e p : Nat} (hb : b p = false) (hS : S p = false) : rH S b h f e p = if 0 < rFl S b f p then 0 else min 9 (h p + 1) := by
  unfold rH
  rw [hb, hS, if_neg Bool.false_ne_true, if_neg Bool.false_ne_true]
theorem nI_0lt {b : Nat} (hb : b < 2 ^ 31) : (0 : Int32) < nI b ↔ 0 < b := nI_ltI (a := 0) (by omega) hb

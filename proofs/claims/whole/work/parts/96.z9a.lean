/-! LAYER 2: BALLOTS, NUMBERS -/
theorem smA {f : Nat → Nat} {a : Nat} : ∀ b, sm f (a + b) = sm f a + sm (fun j => f (a + j)) b
  | 0 => rfl
  | b + 1 => by
    rw [show a + (b + 1) = (a + b) + 1 by omega, sm_s, sm_s, smA b]
    omega
theorem smM {f : Nat → Nat} {n : Nat} : ∀ M, sm f (n * M) = sm (fun d => sm (fun q => f (q * n + d)) M) n
  | 0 => by
    rw [Nat.mul_zero]
    exact (sm_0 (fun _ _ => rfl)).symm
  | M + 1 => by
    rw [Nat.mul_add, Nat.mul_one, smA, smM M, ← sm_add]
    refine sm_congr (fun d _ => ?_)
    rw [sm_s, Nat.mul_comm M n]
theorem smC (f : Nat → Nat → Nat) (a : Nat) : ∀ b, sm (fun i => sm (fun j => f i j) b) a = sm (fun j => sm (fun i => f i j) a) b
  | 0 => sm_0 (fun _ _ => rfl)
  | b + 1 => by
    rw [sm_s, ← smC f a b, ← sm_add]
    exact sm_congr (fun i _ => rfl)
theorem smR (f : Nat → Nat) (x : Nat) : ∀ a, sm f a * x = sm (fun i => f i * x) a
  | 0 => Nat.zero_mul x
  | a + 1 => by rw [sm_s, sm_s, Nat.add_mul, smR f x a]
theorem smL (f : Nat → Nat) (x : Nat) : ∀ a, x * sm f a = sm (fun i => x * f i) a
  | 0 => Nat.mul_zero x
  | a + 1 => by rw [sm_s, sm_s, Nat.mul_add, smL f x a]
theorem sm1 {g : Nat → Nat} {t0 : Nat} : ∀ N, sm (fun t => if t = t0 then g t else 0) N = if t0 < N then g t0 else 0
  | 0 => by rw [if_neg (Nat.not_lt_zero _)]; rfl
  | N + 1 => by
    rw [sm_s, sm1 N]
    by_cases h1 : N = t0
    · subst h1
      rw [if_neg (Nat.lt_irrefl _), if_pos rfl, if_pos (Nat.lt_succ_self _), Nat.zero_add]
    · rw [if_neg h1, Nat.add_zero]
      by_cases h2 : t0 < N
      · rw [if_pos h2, if_pos (by omega)]
      · rw [if_neg h2, if_neg (by omega)]
def inc (c : Nat → Nat) (r : Nat) : Nat → Nat := fun q => if q = r then c q + 1 else c q
def bW (V : Nat → Bool) (ok : Nat → Nat → Bool) (fin : (Nat → Nat) → Bool) (n : Nat) : Nat → Nat → (Nat → Nat) → Nat
  | 0, _, c => if fin c = true then 1 else 0
  | k + 1, v, c => if V v = true then sm (fun r => if ok v r = true then bW V ok fin n k (v + 1) (inc c r) else 0) n else bW V ok fin n k (v + 1) c
def bG (V : Nat → Bool) (ok : Nat → Nat → Bool) (fin : (Nat → Nat) → Bool) (n : Nat) : Nat → Nat → Nat → (Nat → Nat) → Bool
  | 0, _, _, c => fin c
  | k + 1, v, code, c => if V v = true then (ok v (code % n) && bG V ok fin n k (v + 1) (code / n) (inc c (code % n))) else bG V ok fin n k (v + 1) code c
def vc (V : Nat → Bool) : Nat → Nat → Nat
  | 0, _ => 0
  | k + 1, v => (if V v = true then 1 else 0) + vc V k (v + 1)
theorem vc_cn {V : Nat → Bool} : ∀ k v, vc V k v + cn V v = cn V (v + k)
  | 0, v => Nat.zero_add _
  | k + 1, v => by
    have := vc_cn (V := V) k (v + 1)
    rw [cn_s] at this
    show (if V v = true then 1 else 0) + vc V k (v + 1) + cn V v = _
    rw [show v + (k + 1) = v + 1 + k by omega]
    omega
theorem bG_W {V : Nat → Bool} {ok : Nat → Nat → Bool} {fin : (Nat → Nat) → Bool} {n : Nat} : ∀ k v c, sm (fun code => if bG V ok fin n k v code c = true then 1 else 0) (n ^ vc V k v) = bW V ok fin n k v c
  | 0, v, c => by
    have e : vc V 0 v = 0 := rfl
    rw [e, Nat.pow_zero]
    exact Nat.zero_add _
  | k + 1, v, c => by
    show sm (fun code => if bG V ok fin n (k + 1) v code c = true then 1 else 0) (n ^ ((if V v = true then 1 else 0) + vc V k (v + 1))) = if V v = true then sm (fun r => if ok v r = true then bW V ok fin n k (v + 1) (inc c r) else 0) n else bW V ok fin n k (v + 1) c
    by_cases hV : V v = true
    · rw [if_pos hV, if_pos hV, Nat.pow_add, Nat.pow_one, smM]
      refine sm_congr (fun d hd => ?_)
      have e : ∀ q, bG V ok fin n (k + 1) v (q * n + d) c = (ok v d && bG V ok fin n k (v + 1) q (inc c d)) := fun q => by
        show (if V v = true then (ok v ((q * n + d) % n) && bG V ok fin n k (v + 1) ((q * n + d) / n) (inc c ((q * n + d) % n))) else bG V ok fin n k (v + 1) (q * n + d) c) = _
        have h1 : (q * n + d) % n = d := by rw [Nat.add_comm, Nat.add_mul_mod_self_right, Nat.mod_eq_of_lt hd]
        have h2 : (q * n + d) / n = q := by rw [Nat.add_comm, Nat.add_mul_div_right _ _ (by omega), Nat.div_eq_of_lt hd, Nat.zero_add]
        rw [if_pos hV, h1, h2]
      by_cases ho : ok v d = true
      · rw [if_pos ho, ← bG_W k (v + 1) (inc c d)]
        refine sm_congr (fun q _ => ?_)
        rw [e q, ho, Bool.true_and]
      · rw [if_neg ho]
        refine sm_0 (fun q _ => ?_)
        rw [e q, if_neg]
        intro h
        rw [Bool.and_eq_true] at h
        exact ho h.1
    · rw [if_neg hV, if_neg hV, Nat.zero_add, ← bG_W k (v + 1) c]
      refine sm_congr (fun q _ => ?_)
      have e : bG V ok fin n (k + 1) v q c = bG V ok fin n k (v + 1) q c := by
        show (if V v = true then (ok v (q % n) && bG V ok fin n k (v + 1) (q / n) (inc c (q % n))) else bG V ok fin n k (v + 1) q c) = _
        rw [if_neg hV]
      rw [e]
theorem bW_le {V : Nat → Bool} {ok : Nat → Nat → Bool} {fin : (Nat → Nat) → Bool} {n : Nat} (k v : Nat) (c : Nat → Nat) : bW V ok fin n k v c ≤ n ^ vc V k v := by
  rw [← bG_W]
  have := sm_le (f := fun code => if bG V ok fin n k v code c = true then 1 else 0) (c := 1) (fun j => by split <;> omega) (n ^ vc V k v)
  omega
/-! states -/
def stp (x : Nat → Nat) : Nat → Nat
  | 0 => 1
  | r + 1 => stp x r * (x r + 1)
theorem stp_s {x : Nat → Nat} {r : Nat} : stp x (r + 1) = stp x r * (x r + 1) := rfl
theorem stp_pos {x : Nat → Nat} : ∀ r, 0 < stp x r
  | 0 => Nat.one_pos
  | r + 1 => Nat.mul_pos (stp_pos r) (Nat.succ_pos _)
theorem stp_up {x : Nat → Nat} (q : Nat) : ∀ d, ∃ K, stp x (q + d) = stp x q * K
  | 0 => ⟨1, (Nat.mul_one _).symm⟩
  | d + 1 => by
    obtain ⟨K, e⟩ := stp_up q d
    exact ⟨K * (x (q + d) + 1), by rw [show q + (d + 1) = (q + d) + 1 by omega, stp_s, e, Nat.mul_assoc]⟩
theorem stp_lt {x : Nat → Nat} {q r : Nat} (h : q < r) : ∃ K, stp x r = stp x q * ((x q + 1) * K) := by
  obtain ⟨K, e⟩ := stp_up (x := x) (q + 1) (r - (q + 1))
  rw [show q + 1 + (r - (q + 1)) = r by omega, stp_s, Nat.mul_assoc] at e
  exact ⟨K, e⟩
def dg (x : Nat → Nat) (s r : Nat) : Nat := s / stp x r % (x r + 1)
theorem dg_le {x : Nat → Nat} {s r : Nat} : dg x s r ≤ x r := Nat.le_of_lt_succ (Nat.mod_lt _ (Nat.succ_pos _))
theorem up_mod {a b : Nat} (h : a % (b + 1) < b) : (a + 1) % (b + 1) = a % (b + 1) + 1 ∧ (a + 1) / (b + 1) = a / (b + 1) := by
  have e : a + 1 = (a % (b + 1) + 1) + (b + 1) * (a / (b + 1)) := by
    have := Nat.mod_add_div a (b + 1)
    omega
  refine ⟨?_, ?_⟩
  · rw [e, Nat.add_mul_mod_self_left, Nat.mod_eq_of_lt (by omega)]
  · rw [e, Nat.add_mul_div_left _ _ (Nat.succ_pos _), Nat.div_eq_of_lt (by omega), Nat.zero_add]
theorem dv_inc {x : Nat → Nat} {s r q : Nat} (h : dg x s r < x r) (hq : r < q) : (s + stp x r) / stp x q = s / stp x q := by
  obtain ⟨K, e⟩ := stp_lt (x := x) hq
  rw [e, ← Nat.div_div_eq_div_mul, ← Nat.div_div_eq_div_mul, ← Nat.div_div_eq_div_mul, ← Nat.div_div_eq_div_mul, Nat.add_div_right _ (stp_pos r)]
  show (s / stp x r + 1) / (x r + 1) / K = _
  rw [(up_mod h).2]
theorem dg_inc {x : Nat → Nat} {s r : Nat} (h : dg x s r < x r) (q : Nat) : dg x (s + stp x r) q = if q = r then dg x s q + 1 else dg x s q := by
  unfold dg
  rcases Nat.lt_trichotomy q r with hq | hq | hq
  · obtain ⟨K, e⟩ := stp_lt (x := x) hq
    rw [if_neg (by omega), e, Nat.add_mul_div_left _ _ (stp_pos q), Nat.add_mul_mod_self_left]
  · subst hq
    rw [if_pos rfl, Nat.add_div_right _ (stp_pos q)]
    exact (up_mod h).1
  · rw [if_neg (by omega), dv_inc h hq]
theorem dg_top {x : Nat → Nat} {s r n : Nat} (h : dg x s r < x r) (hr : r < n) (hs : s < stp x n) : s + stp x r < stp x n := by
  refine Classical.byContradiction (fun q => ?_)
  have := Nat.div_pos (Nat.not_lt.mp q) (stp_pos n)
  rw [dv_inc h hr, Nat.div_eq_of_lt hs] at this
  exact absurd this (Nat.lt_irrefl _)
theorem dg_fin {x : Nat → Nat} {s : Nat} : ∀ j, (∀ q, q < j → dg x s q = x q) → s % stp x j + 1 = stp x j
  | 0, _ => by
    show s % 1 + 1 = 1
    rw [Nat.mod_one]
  | j + 1, h => by
    have ih := dg_fin j (fun q hq => h q (by omega))
    have e := h j (Nat.lt_succ_self j)
    unfold dg at e
    rw [stp_s, Nat.mod_mul, e, Nat.mul_add, Nat.mul_one]
    omega
theorem dg_last {x : Nat → Nat} {s n q : Nat} (h : s + 1 = stp x n) (hq : q < n) : dg x s q = x q := by
  refine Classical.byContradiction (fun e => ?_)
  have h1 := dg_le (x := x) (s := s) (r := q)
  have h2 := dg_top (x := x) (s := s) (r := q) (n := n) (by omega) hq (by omega)
  have h3 := stp_pos (x := x) q
  omega
def sW (td : Nat → Bool) (x : Nat → Nat) (s r : Nat) : Option Nat := if td r = true then (if dg x s r < x r ∧ s + stp x r < 64 then some (s + stp x r) else none) else some s
def oA (f : Nat → Nat) (o : Option Nat) : Nat := match o with
  | some t => f t
  | none => 0
def aW (V : Nat → Bool) (ok : Nat → Nat → Bool) (td : Nat → Bool) (x : Nat → Nat) (n : Nat) : Nat → Nat → Nat → Nat
  | 0, _, s => if s + 1 = stp x n then 1 else 0
  | k + 1, v, s => if V v = true then sm (fun r => if ok v r = true then oA (aW V ok td x n k (v + 1)) (sW td x s r) else 0) n else aW V ok td x n k (v + 1) s
theorem aW_s {V : Nat → Bool} {ok : Nat → Nat → Bool} {td : Nat → Bool} {x : Nat → Nat} {n k v s : Nat} : aW V ok td x n (k + 1) v s = if V v = true then sm (fun r => if ok v r = true then oA (aW V ok td x n k (v + 1)) (sW td x s r) else 0) n else aW V ok td x n k (v + 1) s := rfl
def finT (td : Nat → Bool) (x : Nat → Nat) (n : Nat) (c : Nat → Nat) : Prop := ∀ r, r < n → td r = true → c r = x r
theorem bW_0 {V : Nat → Bool} {ok : Nat → Nat → Bool} {fin : (Nat → Nat) → Bool} {td : Nat → Bool} {x : Nat → Nat} {n r : Nat} (hf : ∀ c, fin c = true → finT td x n c) (hr : r < n) (ht : td r = true) : ∀ k v c, x r < c r → bW V ok fin n k v c = 0
  | 0, v, c, h => by
    show (if fin c = true then 1 else 0) = 0
    rw [if_neg]
    intro q
    have := hf c q r hr ht
    omega
  | k + 1, v, c, h => by
    show (if V v = true then sm (fun r => if ok v r = true then bW V ok fin n k (v + 1) (inc c r) else 0) n else bW V ok fin n k (v + 1) c) = 0
    split
    · refine sm_0 (fun q _ => ?_)
      split
      · refine bW_0 hf hr ht k _ _ ?_
        unfold inc
        split <;> omega
      · rfl
    · exact bW_0 hf hr ht k _ _ h
theorem sW_lt {td : Nat → Bool} {x : Nat → Nat} {n s r t : Nat} (hr : r < n) (hs : s < stp x n) (h : sW td x s r = some t) : t < stp x n := by
  unfold sW at h
  split at h
  · split at h
    · next q =>
      cases h
      exact dg_top q.1 hr hs
    · cases h
  · cases h
    exact hs
theorem aW_bW {V : Nat → Bool} {ok : Nat → Nat → Bool} {fin : (Nat → Nat) → Bool} {td : Nat → Bool} {x : Nat → Nat} {n : Nat} (hf : ∀ c, fin c = true ↔ finT td x n c) (hx : ∀ r, td r = false → x r = 0) (h64 : stp x n ≤ 64) : ∀ k v s c, s < stp x n → (∀ r, r < n → td r = true → c r = dg x s r) → aW V ok td x n k v s = bW V ok fin n k v c
  | 0, v, s, c, hs, hc => by
    show (if s + 1 = stp x n then 1 else 0) = if fin c = true then 1 else 0
    by_cases h : s + 1 = stp x n
    · rw [if_pos h, if_pos ((hf c).mpr (fun r hr ht => by rw [hc r hr ht]; exact dg_last h hr))]
    · rw [if_neg h, if_neg]
      intro q
      have q := (hf c).mp q
      apply h
      have := dg_fin (x := x) (s := s) n (fun r hr => by
        cases ht : td r with
        | true => rw [← hc r hr ht]; exact q r hr ht
        | false =>
          have h1 := dg_le (x := x) (s := s) (r := r)
          have h2 := hx r ht
          omega)
      rw [Nat.mod_eq_of_lt hs] at this
      exact this
  | k + 1, v, s, c, hs, hc => by
    rw [aW_s]
    show _ = if V v = true then sm (fun r => if ok v r = true then bW V ok fin n k (v + 1) (inc c r) else 0) n else bW V ok fin n k (v + 1) c
    by_cases hV : V v = true
    · rw [if_pos hV, if_pos hV]
      refine sm_congr (fun r hr => ?_)
      by_cases ho : ok v r = true
      · rw [if_pos ho, if_pos ho]
        cases ht : td r with
        | false =>
          have e : sW td x s r = some s := by unfold sW; rw [if_neg (by rw [ht]; decide)]
          rw [e]
          refine aW_bW hf hx h64 k (v + 1) s _ hs (fun q hq hqt => ?_)
          unfold inc
          rw [if_neg (fun h => by rw [h, ht] at hqt; cases hqt)]
          exact hc q hq hqt
        | true =>
          by_cases hd : dg x s r < x r
          · have htop := dg_top hd hr hs
            have e : sW td x s r = some (s + stp x r) := by unfold sW; rw [if_pos ht, if_pos ⟨hd, by omega⟩]
            rw [e]
            refine aW_bW hf hx h64 k (v + 1) (s + stp x r) _ htop (fun q hq hqt => ?_)
            rw [dg_inc hd q]
            unfold inc
            by_cases hqr : q = r
            · rw [if_pos hqr, if_pos hqr, hc q hq hqt]
            · rw [if_neg hqr, if_neg hqr, hc q hq hqt]
          · have e : sW td x s r = none := by unfold sW; rw [if_pos ht, if_neg (fun h => hd h.1)]
            rw [e]
            refine (bW_0 (fun c h => (hf c).mp h) hr ht k (v + 1) (inc c r) ?_).symm
            unfold inc
            rw [if_pos rfl, hc r hr ht]
            omega
      · rw [if_neg ho, if_neg ho]
    · rw [if_neg hV, if_neg hV]
      exact aW_bW hf hx h64 k (v + 1) s c hs hc
/-! forward -/
def bF (V : Nat → Bool) (ok : Nat → Nat → Bool) (td : Nat → Bool) (x : Nat → Nat) (n : Nat) : Nat → Nat → Nat
  | 0, s => if s = 0 then 1 else 0
  | v + 1, t => if V v = true then sm (fun s => sm (fun r => if ok v r = true ∧ sW td x s r = some t then bF V ok td x n v s else 0) n) (stp x n) else bF V ok td x n v t
theorem bF_s {V : Nat → Bool} {ok : Nat → Nat → Bool} {td : Nat → Bool} {x : Nat → Nat} {n v t : Nat} : bF V ok td x n (v + 1) t = if V v = true then sm (fun s => sm (fun r => if ok v r = true ∧ sW td x s r = some t then bF V ok td x n v s else 0) n) (stp x n) else bF V ok td x n v t := rfl
theorem fwd {V : Nat → Bool} {ok : Nat → Nat → Bool} {td : Nat → Bool} {x : Nat → Nat} {n v : Nat} {A A' : Nat → Nat} (hA : ∀ s, s < stp x n → A s = if V v = true then sm (fun r => if ok v r = true then oA A' (sW td x s r) else 0) n else A' s) : sm (fun t => bF V ok td x n (v + 1) t * A' t) (stp x n) = sm (fun s => bF V ok td x n v s * A s) (stp x n) := by
  by_cases hV : V v = true
  · have e1 : ∀ t, bF V ok td x n (v + 1) t * A' t = sm (fun s => sm (fun r => if ok v r = true ∧ sW td x s r = some t then bF V ok td x n v s else 0) n * A' t) (stp x n) := fun t => by
      rw [bF_s, if_pos hV, smR]
    rw [sm_congr (fun t _ => e1 t), smC]
    refine sm_congr (fun s hs => ?_)
    rw [hA s hs, if_pos hV, smL]
    have e2 : ∀ t, sm (fun r => if ok v r = true ∧ sW td x s r = some t then bF V ok td x n v s else 0) n * A' t = sm (fun r => (if ok v r = true ∧ sW td x s r = some t then bF V ok td x n v s else 0) * A' t) n := fun t => smR _ _ _
    rw [sm_congr (fun t _ => e2 t), smC]
    refine sm_congr (fun r hr => ?_)
    by_cases ho : ok v r = true
    · rw [if_pos ho]
      cases he : sW td x s r with
      | none =>
        show _ = bF V ok td x n v s * 0
        rw [Nat.mul_zero]
        refine sm_0 (fun t _ => ?_)
        rw [if_neg (fun h => (by cases h.2)), Nat.zero_mul]
      | some t0 =>
        have ht0 := sW_lt hr hs he
        show _ = bF V ok td x n v s * A' t0
        have e3 : ∀ t, (if ok v r = true ∧ some t0 = some t then bF V ok td x n v s else 0) * A' t = if t = t0 then bF V ok td x n v s * A' t else 0 := fun t => by
          by_cases h : t = t0
          · rw [if_pos h, if_pos ⟨ho, by rw [h]⟩]
          · rw [if_neg h, if_neg (fun q => h (Option.some.inj q.2).symm), Nat.zero_mul]
        rw [sm_congr (fun t _ => e3 t), sm1, if_pos ht0]
    · rw [if_neg ho, Nat.mul_zero]
      refine sm_0 (fun t _ => ?_)
      rw [if_neg (fun h => ho h.1), Nat.zero_mul]
  · refine sm_congr (fun s hs => ?_)
    rw [hA s hs, if_neg hV, bF_s, if_neg hV]
def okM (ok : Nat → Nat → Bool) (p o : Nat) (v r : Nat) : Bool := ok v r && (!decide (v = p) || decide (r = o))
theorem okM_ne {ok : Nat → Nat → Bool} {p o v r : Nat} (h : v ≠ p) : okM ok p o v r = ok v r := by
  unfold okM
  rw [decide_eq_false h, Bool.not_false, Bool.true_or, Bool.and_true]
theorem okM_eq {ok : Nat → Nat → Bool} {p o r : Nat} : okM ok p o p r = (ok p r && decide (r = o)) := by
  unfold okM
  rw [decide_eq_true (show p = p from rfl), Bool.not_true, Bool.false_or]
theorem aW_past {V : Nat → Bool} {ok : Nat → Nat → Bool} {td : Nat → Bool} {x : Nat → Nat} {n p o : Nat} : ∀ k v s, p < v → aW V (okM ok p o) td x n k v s = aW V ok td x n k v s
  | 0, v, s, _ => rfl
  | k + 1, v, s, h => by
    rw [aW_s, aW_s]
    have e : aW V (okM ok p o) td x n k (v + 1) = aW V ok td x n k (v + 1) := funext (fun t => aW_past k (v + 1) t (by omega))
    rw [e]
    by_cases hV : V v = true
    · rw [if_pos hV, if_pos hV]
      exact sm_congr (fun r _ => by rw [okM_ne (by omega)])
    · rw [if_neg hV, if_neg hV]
def wy (V : Nat → Bool) (ok : Nat → Nat → Bool) (td : Nat → Bool) (x : Nat → Nat) (n v r s : Nat) : Nat := if ok v r = true then oA (aW V ok td x n (n - v - 1) (v + 1)) (sW td x s r) else 0
theorem part_eq {V : Nat → Bool} {ok : Nat → Nat → Bool} {td : Nat → Bool} {x : Nat → Nat} {n p o : Nat} (hp : p < n) (ho : o < n) (hV : V p = true) : sm (fun s => bF V ok td x n p s * wy V ok td x n p o s) (stp x n) = aW V (okM ok p o) td x n n 0 0 := by
  have h1 : ∀ v, v ≤ p → sm (fun s => bF V ok td x n v s * aW V (okM ok p o) td x n (n - v) v s) (stp x n) = aW V (okM ok p o) td x n n 0 0 := by
    intro v
    induction v with
    | zero =>
      intro _
      have e : ∀ s, bF V ok td x n 0 s * aW V (okM ok p o) td x n (n - 0) 0 s = if s = 0 then aW V (okM ok p o) td x n (n - 0) 0 s else 0 := fun s => by
        show (if s = 0 then 1 else 0) * _ = _
        by_cases h : s = 0
        · rw [if_pos h, if_pos h, Nat.one_mul]
        · rw [if_neg h, if_neg h, Nat.zero_mul]
      rw [sm_congr (fun s _ => e s), sm1, if_pos (stp_pos n), Nat.sub_zero]
    | succ v ih =>
      intro hv
      rw [← ih (by omega)]
      refine fwd (fun s _ => ?_)
      rw [show n - v = (n - (v + 1)) + 1 by omega, aW_s]
      by_cases hVv : V v = true
      · rw [if_pos hVv, if_pos hVv]
        exact sm_congr (fun r _ => by rw [okM_ne (by omega)])
      · rw [if_neg hVv, if_neg hVv]
  rw [← h1 p (Nat.le_refl _)]
  refine sm_congr (fun s _ => ?_)
  congr 1
  rw [show n - p = (n - p - 1) + 1 by omega, aW_s, if_pos hV]
  have e : aW V (okM ok p o) td x n (n - p - 1) (p + 1) = aW V ok td x n (n - p - 1) (p + 1) := funext (fun t => aW_past _ _ t (Nat.lt_succ_self p))
  rw [e]
  have e2 : ∀ r, (if okM ok p o p r = true then oA (aW V ok td x n (n - p - 1) (p + 1)) (sW td x s r) else 0) = if r = o then wy V ok td x n p r s else 0 := fun r => by
    rw [okM_eq]
    unfold wy
    by_cases h : r = o
    · rw [if_pos h, decide_eq_true h, Bool.and_true]
    · rw [if_neg h, decide_eq_false h, Bool.and_false, if_neg (by decide)]
  rw [sm_congr (fun r _ => e2 r), sm1, if_pos ho]
/-! digits of a code -/
def vdg (V : Nat → Bool) (n p : Nat) : Nat → Nat → Nat → Nat
  | 0, _, _ => 0
  | k + 1, v, code => if V v = true then (if v = p then code % n else vdg V n p k (v + 1) (code / n)) else vdg V n p k (v + 1) code
theorem vdg_s {V : Nat → Bool} {n p k v code : Nat} : vdg V n p (k + 1) v code = if V v = true then (if v = p then code % n else vdg V n p k (v + 1) (code / n)) else vdg V n p k (v + 1) code := rfl
theorem bG_s {V : Nat → Bool} {ok : Nat → Nat → Bool} {fin : (Nat → Nat) → Bool} {n k v code : Nat} {c : Nat → Nat} : bG V ok fin n (k + 1) v code c = if V v = true then (ok v (code % n) && bG V ok fin n k (v + 1) (code / n) (inc c (code % n))) else bG V ok fin n k (v + 1) code c := rfl
theorem bG_past {V : Nat → Bool} {ok : Nat → Nat → Bool} {fin : (Nat → Nat) → Bool} {n p o : Nat} : ∀ k v code c, p < v → bG V (okM ok p o) fin n k v code c = bG V ok fin n k v code c
  | 0, v, code, c, _ => rfl
  | k + 1, v, code, c, h => by
    rw [bG_s, bG_s, okM_ne (by omega), bG_past k (v + 1) _ _ (by omega), bG_past k (v + 1) _ _ (by omega)]
theorem bG_mark {V : Nat → Bool} {ok : Nat → Nat → Bool} {fin : (Nat → Nat) → Bool} {n p o : Nat} (hV : V p = true) : ∀ k v code c, v ≤ p → p < v + k → bG V (okM ok p o) fin n k v code c = (bG V ok fin n k v code c && decide (vdg V n p k v code = o))
  | 0, v, code, c, h1, h2 => absurd h2 (by omega)
  | k + 1, v, code, c, h1, h2 => by
    rw [bG_s, bG_s, vdg_s]
    by_cases hv : V v = true
    · rw [if_pos hv, if_pos hv, if_pos hv]
      by_cases hvp : v = p
      · subst hvp
        rw [if_pos rfl, okM_eq, bG_past k (v + 1) _ _ (by omega)]
        cases ok v (code % n) <;> cases decide (code % n = o) <;> simp
      · rw [if_neg hvp, okM_ne hvp, bG_mark hV k (v + 1) _ _ (by omega) (by omega), Bool.and_assoc]
    · rw [if_neg hv, if_neg hv, if_neg hv]
      exact bG_mark hV k (v + 1) _ _ (by have : v ≠ p := (fun e => hv (by rw [e]; exact hV)); omega) (by omega)

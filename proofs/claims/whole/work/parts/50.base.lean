/-! LAYER 2: CALCULUS -/
def Wo {α : Type} (m : Option α) (Q : α → Prop) : Prop := ∃ a, m = some a ∧ Q a
def R2 {α β : Type} (m : Option α) (k : Option β) (Q : α → β → Prop) : Prop := ∃ a b, m = some a ∧ k = some b ∧ Q a b
theorem wo_mono {α : Type} {m : Option α} {Q Q' : α → Prop} (h : Wo m Q) (k : ∀ a, Q a → Q' a) : Wo m Q' := by
  obtain ⟨a, e, q⟩ := h
  exact ⟨a, e, k a q⟩
theorem wo_bind {α β : Type} {m : Option α} {f : α → Option β} {Q : β → Prop} (h : Wo m (fun a => Wo (f a) Q)) : Wo (Option.bind m f) Q := by
  obtain ⟨a, rfl, b, e, q⟩ := h
  exact ⟨b, e, q⟩
theorem wo_some {α : Type} {a : α} {Q : α → Prop} (h : Q a) : Wo (some a) Q := ⟨a, rfl, h⟩
theorem wo_ite {α : Type} {c : Prop} {_ : Decidable c} {a b : Option α} {Q : α → Prop} (h1 : c → Wo a Q) (h2 : ¬ c → Wo b Q) : Wo (if c then a else b) Q := by
  by_cases h : c
  · rw [if_pos h]; exact h1 h
  · rw [if_neg h]; exact h2 h
theorem wo_st {α β : Type} {m : Option α} {a : α} {f : α → Option β} {Q : β → Prop} (h : m = some a) (k : Wo (f a) Q) : Wo (Option.bind m f) Q := by rw [h]; exact k
theorem wo_lt {α β : Type} {e : α} {f : α → Option β} {Q : β → Prop} (k : Wo (f e) Q) : Wo (lt e f) Q := k
theorem wo_and {α : Type} {m : Option α} {Q Q' : α → Prop} (h : Wo m Q) (h' : Wo m Q') : Wo m (fun a => Q a ∧ Q' a) := by
  obtain ⟨a, e, q⟩ := h
  obtain ⟨b, e', q'⟩ := h'
  rw [e] at e'
  cases e'
  exact ⟨a, e, q, q'⟩
theorem r2_of {α β : Type} {m : Option α} {k : Option β} {P : α → Prop} {P' : β → Prop} {Q : α → β → Prop} (h : Wo m P) (h' : Wo k P') (f : ∀ a b, P a → P' b → Q a b) : R2 m k Q := by
  obtain ⟨a, e, q⟩ := h
  obtain ⟨b, e', q'⟩ := h'
  exact ⟨a, b, e, e', f a b q q'⟩
theorem r2_mono {α β : Type} {m : Option α} {k : Option β} {Q Q' : α → β → Prop} (h : R2 m k Q) (f : ∀ a b, Q a b → Q' a b) : R2 m k Q' := by
  obtain ⟨a, b, e, e', q⟩ := h
  exact ⟨a, b, e, e', f a b q⟩
theorem r2_bind {α β γ δ : Type} {m : Option α} {k : Option β} {f : α → Option γ} {g : β → Option δ} {Q : γ → δ → Prop} (h : R2 m k (fun a b => R2 (f a) (g b) Q)) : R2 (Option.bind m f) (Option.bind k g) Q := by
  obtain ⟨a, b, rfl, rfl, q⟩ := h
  exact q
theorem r2_some {α β : Type} {a : α} {b : β} {Q : α → β → Prop} (h : Q a b) : R2 (some a) (some b) Q := ⟨a, b, rfl, rfl, h⟩
theorem r2_ite {α β : Type} {c d : Prop} {_ : Decidable c} {_ : Decidable d} {a b : Option α} {a' b' : Option β} {Q : α → β → Prop} (e : c ↔ d) (h1 : c → R2 a a' Q) (h2 : ¬ c → R2 b b' Q) : R2 (if c then a else b) (if d then a' else b') Q := by
  by_cases h : c
  · rw [if_pos h, if_pos (e.mp h)]; exact h1 h
  · rw [if_neg h, if_neg (fun q => h (e.mpr q))]; exact h2 h
theorem r2_iteL {α β : Type} {c : Prop} {_ : Decidable c} {a b : Option α} {k : Option β} {Q : α → β → Prop} (h1 : c → R2 a k Q) (h2 : ¬ c → R2 b k Q) : R2 (if c then a else b) k Q := by
  by_cases h : c
  · rw [if_pos h]; exact h1 h
  · rw [if_neg h]; exact h2 h
theorem r2_iteR {α β : Type} {c : Prop} {_ : Decidable c} {a b : Option β} {k : Option α} {Q : α → β → Prop} (h1 : c → R2 k a Q) (h2 : ¬ c → R2 k b Q) : R2 k (if c then a else b) Q := by
  by_cases h : c
  · rw [if_pos h]; exact h1 h
  · rw [if_neg h]; exact h2 h
theorem r2_L {α β γ : Type} {m : Option α} {a : α} {f : α → Option γ} {k : Option β} {Q : γ → β → Prop} (h : m = some a) (kk : R2 (f a) k Q) : R2 (Option.bind m f) k Q := by rw [h]; exact kk
theorem r2_R {α β γ : Type} {m : Option α} {a : α} {f : α → Option γ} {k : Option β} {Q : β → γ → Prop} (h : m = some a) (kk : R2 k (f a) Q) : R2 k (Option.bind m f) Q := by rw [h]; exact kk
theorem r2_WL {α β γ : Type} {m : Option α} {P : α → Prop} {f : α → Option γ} {k : Option β} {Q : γ → β → Prop} (h : Wo m P) (kk : ∀ a, P a → R2 (f a) k Q) : R2 (Option.bind m f) k Q := by
  obtain ⟨a, rfl, p⟩ := h
  exact kk a p
theorem r2_WR {α β γ : Type} {m : Option α} {P : α → Prop} {f : α → Option γ} {k : Option β} {Q : β → γ → Prop} (h : Wo m P) (kk : ∀ a, P a → R2 k (f a) Q) : R2 k (Option.bind m f) Q := by
  obtain ⟨a, rfl, p⟩ := h
  exact kk a p
theorem fuel_ok {e n : Nat} (h : e ≤ 500000) : e - n < fuelN := by
  unfold fuelN
  omega
theorem lpW1 {A1 R : Type} {body : (A1 → Option R) → A1 → Option R} {Q : R → Prop} (e : Nat) (I : Nat → A1 → Prop) (h : ∀ (rec : A1 → Option R) (n : Nat) (a1 : A1), n ≤ e → I n a1 → (∀ (b1 : A1), n < e → I (n + 1) b1 → Wo (rec b1) Q) → Wo (body rec a1) Q) : ∀ (N n : Nat) (a1 : A1), n ≤ e → e - n < N → I n a1 → Wo (loop1 body N a1) Q
  | 0, n, a1, _, hN, _ => absurd hN (Nat.not_lt_zero _)
  | N + 1, n, a1, hn, hN, hI => h _ n a1 hn hI (fun b1 hlt hI2 => lpW1 e I h N (n + 1) b1 hlt (by omega) hI2)
theorem lpW2 {A1 A2 R : Type} {body : (A1 → A2 → Option R) → A1 → A2 → Option R} {Q : R → Prop} (e : Nat) (I : Nat → A1 → A2 → Prop) (h : ∀ (rec : A1 → A2 → Option R) (n : Nat) (a1 : A1) (a2 : A2), n ≤ e → I n a1 a2 → (∀ (b1 : A1) (b2 : A2), n < e → I (n + 1) b1 b2 → Wo (rec b1 b2) Q) → Wo (body rec a1 a2) Q) : ∀ (N n : Nat) (a1 : A1) (a2 : A2), n ≤ e → e - n < N → I n a1 a2 → Wo (loop2 body N a1 a2) Q
  | 0, n, a1, a2, _, hN, _ => absurd hN (Nat.not_lt_zero _)
  | N + 1, n, a1, a2, hn, hN, hI => h _ n a1 a2 hn hI (fun b1 b2 hlt hI2 => lpW2 e I h N (n + 1) b1 b2 hlt (by omega) hI2)
theorem lpW3 {A1 A2 A3 R : Type} {body : (A1 → A2 → A3 → Option R) → A1 → A2 → A3 → Option R} {Q : R → Prop} (e : Nat) (I : Nat → A1 → A2 → A3 → Prop) (h : ∀ (rec : A1 → A2 → A3 → Option R) (n : Nat) (a1 : A1) (a2 : A2) (a3 : A3), n ≤ e → I n a1 a2 a3 → (∀ (b1 : A1) (b2 : A2) (b3 : A3), n < e → I (n + 1) b1 b2 b3 → Wo (rec b1 b2 b3) Q) → Wo (body rec a1 a2 a3) Q) : ∀ (N n : Nat) (a1 : A1) (a2 : A2) (a3 : A3), n ≤ e → e - n < N → I n a1 a2 a3 → Wo (loop3 body N a1 a2 a3) Q
  | 0, n, a1, a2, a3, _, hN, _ => absurd hN (Nat.not_lt_zero _)
  | N + 1, n, a1, a2, a3, hn, hN, hI => h _ n a1 a2 a3 hn hI (fun b1 b2 b3 hlt hI2 => lpW3 e I h N (n + 1) b1 b2 b3 hlt (by omega) hI2)
theorem lpW4 {A1 A2 A3 A4 R : Type} {body : (A1 → A2 → A3 → A4 → Option R) → A1 → A2 → A3 → A4 → Option R} {Q : R → Prop} (e : Nat) (I : Nat → A1 → A2 → A3 → A4 → Prop) (h : ∀ (rec : A1 → A2 → A3 → A4 → Option R) (n : Nat) (a1 : A1) (a2 : A2) (a3 : A3) (a4 : A4), n ≤ e → I n a1 a2 a3 a4 → (∀ (b1 : A1) (b2 : A2) (b3 : A3) (b4 : A4), n < e → I (n + 1) b1 b2 b3 b4 → Wo (rec b1 b2 b3 b4) Q) → Wo (body rec a1 a2 a3 a4) Q) : ∀ (N n : Nat) (a1 : A1) (a2 : A2) (a3 : A3) (a4 : A4), n ≤ e → e - n < N → I n a1 a2 a3 a4 → Wo (loop4 body N a1 a2 a3 a4) Q
  | 0, n, a1, a2, a3, a4, _, hN, _ => absurd hN (Nat.not_lt_zero _)
  | N + 1, n, a1, a2, a3, a4, hn, hN, hI => h _ n a1 a2 a3 a4 hn hI (fun b1 b2 b3 b4 hlt hI2 => lpW4 e I h N (n + 1) b1 b2 b3 b4 hlt (by omega) hI2)
theorem lpW5 {A1 A2 A3 A4 A5 R : Type} {body : (A1 → A2 → A3 → A4 → A5 → Option R) → A1 → A2 → A3 → A4 → A5 → Option R} {Q : R → Prop} (e : Nat) (I : Nat → A1 → A2 → A3 → A4 → A5 → Prop) (h : ∀ (rec : A1 → A2 → A3 → A4 → A5 → Option R) (n : Nat) (a1 : A1) (a2 : A2) (a3 : A3) (a4 : A4) (a5 : A5), n ≤ e → I n a1 a2 a3 a4 a5 → (∀ (b1 : A1) (b2 : A2) (b3 : A3) (b4 : A4) (b5 : A5), n < e → I (n + 1) b1 b2 b3 b4 b5 → Wo (rec b1 b2 b3 b4 b5) Q) → Wo (body rec a1 a2 a3 a4 a5) Q) : ∀ (N n : Nat) (a1 : A1) (a2 : A2) (a3 : A3) (a4 : A4) (a5 : A5), n ≤ e → e - n < N → I n a1 a2 a3 a4 a5 → Wo (loop5 body N a1 a2 a3 a4 a5) Q
  | 0, n, a1, a2, a3, a4, a5, _, hN, _ => absurd hN (Nat.not_lt_zero _)
  | N + 1, n, a1, a2, a3, a4, a5, hn, hN, hI => h _ n a1 a2 a3 a4 a5 hn hI (fun b1 b2 b3 b4 b5 hlt hI2 => lpW5 e I h N (n + 1) b1 b2 b3 b4 b5 hlt (by omega) hI2)
theorem lpW6 {A1 A2 A3 A4 A5 A6 R : Type} {body : (A1 → A2 → A3 → A4 → A5 → A6 → Option R) → A1 → A2 → A3 → A4 → A5 → A6 → Option R} {Q : R → Prop} (e : Nat) (I : Nat → A1 → A2 → A3 → A4 → A5 → A6 → Prop) (h : ∀ (rec : A1 → A2 → A3 → A4 → A5 → A6 → Option R) (n : Nat) (a1 : A1) (a2 : A2) (a3 : A3) (a4 : A4) (a5 : A5) (a6 : A6), n ≤ e → I n a1 a2 a3 a4 a5 a6 → (∀ (b1 : A1) (b2 : A2) (b3 : A3) (b4 : A4) (b5 : A5) (b6 : A6), n < e → I (n + 1) b1 b2 b3 b4 b5 b6 → Wo (rec b1 b2 b3 b4 b5 b6) Q) → Wo (body rec a1 a2 a3 a4 a5 a6) Q) : ∀ (N n : Nat) (a1 : A1) (a2 : A2) (a3 : A3) (a4 : A4) (a5 : A5) (a6 : A6), n ≤ e → e - n < N → I n a1 a2 a3 a4 a5 a6 → Wo (loop6 body N a1 a2 a3 a4 a5 a6) Q
  | 0, n, a1, a2, a3, a4, a5, a6, _, hN, _ => absurd hN (Nat.not_lt_zero _)
  | N + 1, n, a1, a2, a3, a4, a5, a6, hn, hN, hI => h _ n a1 a2 a3 a4 a5 a6 hn hI (fun b1 b2 b3 b4 b5 b6 hlt hI2 => lpW6 e I h N (n + 1) b1 b2 b3 b4 b5 b6 hlt (by omega) hI2)
theorem lpR11 {A1 B1 R S : Type} {f : (A1 → Option R) → A1 → Option R} {g : (B1 → Option S) → B1 → Option S} {Q : R → S → Prop} (e : Nat) (I : Nat → A1 → B1 → Prop) (h : ∀ (u : A1 → Option R) (v : B1 → Option S) (n : Nat) (a1 : A1) (b1 : B1), n ≤ e → I n a1 b1 → (∀ (c1 : A1) (d1 : B1), n < e → I (n + 1) c1 d1 → R2 (u c1) (v d1) Q) → R2 (f u a1) (g v b1) Q) : ∀ (N M n : Nat) (a1 : A1) (b1 : B1), n ≤ e → e - n < N → e - n < M → I n a1 b1 → R2 (loop1 f N a1) (loop1 g M b1) Q
  | 0, M, n, a1, b1, _, hN, _, _ => absurd hN (Nat.not_lt_zero _)
  | N + 1, 0, n, a1, b1, _, _, hM, _ => absurd hM (Nat.not_lt_zero _)
  | N + 1, M + 1, n, a1, b1, hn, hN, hM, hI => h _ _ n a1 b1 hn hI (fun c1 d1 hlt hI2 => lpR11 e I h N M (n + 1) c1 d1 hlt (by omega) (by omega) hI2)
theorem lpR12 {A1 B1 B2 R S : Type} {f : (A1 → Option R) → A1 → Option R} {g : (B1 → B2 → Option S) → B1 → B2 → Option S} {Q : R → S → Prop} (e : Nat) (I : Nat → A1 → B1 → B2 → Prop) (h : ∀ (u : A1 → Option R) (v : B1 → B2 → Option S) (n : Nat) (a1 : A1) (b1 : B1) (b2 : B2), n ≤ e → I n a1 b1 b2 → (∀ (c1 : A1) (d1 : B1) (d2 : B2), n < e → I (n + 1) c1 d1 d2 → R2 (u c1) (v d1 d2) Q) → R2 (f u a1) (g v b1 b2) Q) : ∀ (N M n : Nat) (a1 : A1) (b1 : B1) (b2 : B2), n ≤ e → e - n < N → e - n < M → I n a1 b1 b2 → R2 (loop1 f N a1) (loop2 g M b1 b2) Q
  | 0, M, n, a1, b1, b2, _, hN, _, _ => absurd hN (Nat.not_lt_zero _)
  | N + 1, 0, n, a1, b1, b2, _, _, hM, _ => absurd hM (Nat.not_lt_zero _)
  | N + 1, M + 1, n, a1, b1, b2, hn, hN, hM, hI => h _ _ n a1 b1 b2 hn hI (fun c1 d1 d2 hlt hI2 => lpR12 e I h N M (n + 1) c1 d1 d2 hlt (by omega) (by omega) hI2)
theorem lpR13 {A1 B1 B2 B3 R S : Type} {f : (A1 → Option R) → A1 → Option R} {g : (B1 → B2 → B3 → Option S) → B1 → B2 → B3 → Option S} {Q : R → S → Prop} (e : Nat) (I : Nat → A1 → B1 → B2 → B3 → Prop) (h : ∀ (u : A1 → Option R) (v : B1 → B2 → B3 → Option S) (n : Nat) (a1 : A1) (b1 : B1) (b2 : B2) (b3 : B3), n ≤ e → I n a1 b1 b2 b3 → (∀ (c1 : A1) (d1 : B1) (d2 : B2) (d3 : B3), n < e → I (n + 1) c1 d1 d2 d3 → R2 (u c1) (v d1 d2 d3) Q) → R2 (f u a1) (g v b1 b2 b3) Q) : ∀ (N M n : Nat) (a1 : A1) (b1 : B1) (b2 : B2) (b3 : B3), n ≤ e → e - n < N → e - n < M → I n a1 b1 b2 b3 → R2 (loop1 f N a1) (loop3 g M b1 b2 b3) Q
  | 0, M, n, a1, b1, b2, b3, _, hN, _, _ => absurd hN (Nat.not_lt_zero _)
  | N + 1, 0, n, a1, b1, b2, b3, _, _, hM, _ => absurd hM (Nat.not_lt_zero _)
  | N + 1, M + 1, n, a1, b1, b2, b3, hn, hN, hM, hI => h _ _ n a1 b1 b2 b3 hn hI (fun c1 d1 d2 d3 hlt hI2 => lpR13 e I h N M (n + 1) c1 d1 d2 d3 hlt (by omega) (by omega) hI2)
theorem lpR14 {A1 B1 B2 B3 B4 R S : Type} {f : (A1 → Option R) → A1 → Option R} {g : (B1 → B2 → B3 → B4 → Option S) → B1 → B2 → B3 → B4 → Option S} {Q : R → S → Prop} (e : Nat) (I : Nat → A1 → B1 → B2 → B3 → B4 → Prop) (h : ∀ (u : A1 → Option R) (v : B1 → B2 → B3 → B4 → Option S) (n : Nat) (a1 : A1) (b1 : B1) (b2 : B2) (b3 : B3) (b4 : B4), n ≤ e → I n a1 b1 b2 b3 b4 → (∀ (c1 : A1) (d1 : B1) (d2 : B2) (d3 : B3) (d4 : B4), n < e → I (n + 1) c1 d1 d2 d3 d4 → R2 (u c1) (v d1 d2 d3 d4) Q) → R2 (f u a1) (g v b1 b2 b3 b4) Q) : ∀ (N M n : Nat) (a1 : A1) (b1 : B1) (b2 : B2) (b3 : B3) (b4 : B4), n ≤ e → e - n < N → e - n < M → I n a1 b1 b2 b3 b4 → R2 (loop1 f N a1) (loop4 g M b1 b2 b3 b4) Q
  | 0, M, n, a1, b1, b2, b3, b4, _, hN, _, _ => absurd hN (Nat.not_lt_zero _)
  | N + 1, 0, n, a1, b1, b2, b3, b4, _, _, hM, _ => absurd hM (Nat.not_lt_zero _)
  | N + 1, M + 1, n, a1, b1, b2, b3, b4, hn, hN, hM, hI => h _ _ n a1 b1 b2 b3 b4 hn hI (fun c1 d1 d2 d3 d4 hlt hI2 => lpR14 e I h N M (n + 1) c1 d1 d2 d3 d4 hlt (by omega) (by omega) hI2)
theorem lpR15 {A1 B1 B2 B3 B4 B5 R S : Type} {f : (A1 → Option R) → A1 → Option R} {g : (B1 → B2 → B3 → B4 → B5 → Option S) → B1 → B2 → B3 → B4 → B5 → Option S} {Q : R → S → Prop} (e : Nat) (I : Nat → A1 → B1 → B2 → B3 → B4 → B5 → Prop) (h : ∀ (u : A1 → Option R) (v : B1 → B2 → B3 → B4 → B5 → Option S) (n : Nat) (a1 : A1) (b1 : B1) (b2 : B2) (b3 : B3) (b4 : B4) (b5 : B5), n ≤ e → I n a1 b1 b2 b3 b4 b5 → (∀ (c1 : A1) (d1 : B1) (d2 : B2) (d3 : B3) (d4 : B4) (d5 : B5), n < e → I (n + 1) c1 d1 d2 d3 d4 d5 → R2 (u c1) (v d1 d2 d3 d4 d5) Q) → R2 (f u a1) (g v b1 b2 b3 b4 b5) Q) : ∀ (N M n : Nat) (a1 : A1) (b1 : B1) (b2 : B2) (b3 : B3) (b4 : B4) (b5 : B5), n ≤ e → e - n < N → e - n < M → I n a1 b1 b2 b3 b4 b5 → R2 (loop1 f N a1) (loop5 g M b1 b2 b3 b4 b5) Q
  | 0, M, n, a1, b1, b2, b3, b4, b5, _, hN, _, _ => absurd hN (Nat.not_lt_zero _)
  | N + 1, 0, n, a1, b1, b2, b3, b4, b5, _, _, hM, _ => absurd hM (Nat.not_lt_zero _)
  | N + 1, M + 1, n, a1, b1, b2, b3, b4, b5, hn, hN, hM, hI => h _ _ n a1 b1 b2 b3 b4 b5 hn hI (fun c1 d1 d2 d3 d4 d5 hlt hI2 => lpR15 e I h N M (n + 1) c1 d1 d2 d3 d4 d5 hlt (by omega) (by omega) hI2)
theorem lpR21 {A1 A2 B1 R S : Type} {f : (A1 → A2 → Option R) → A1 → A2 → Option R} {g : (B1 → Option S) → B1 → Option S} {Q : R → S → Prop} (e : Nat) (I : Nat → A1 → A2 → B1 → Prop) (h : ∀ (u : A1 → A2 → Option R) (v : B1 → Option S) (n : Nat) (a1 : A1) (a2 : A2) (b1 : B1), n ≤ e → I n a1 a2 b1 → (∀ (c1 : A1) (c2 : A2) (d1 : B1), n < e → I (n + 1) c1 c2 d1 → R2 (u c1 c2) (v d1) Q) → R2 (f u a1 a2) (g v b1) Q) : ∀ (N M n : Nat) (a1 : A1) (a2 : A2) (b1 : B1), n ≤ e → e - n < N → e - n < M → I n a1 a2 b1 → R2 (loop2 f N a1 a2) (loop1 g M b1) Q
  | 0, M, n, a1, a2, b1, _, hN, _, _ => absurd hN (Nat.not_lt_zero _)
  | N + 1, 0, n, a1, a2, b1, _, _, hM, _ => absurd hM (Nat.not_lt_zero _)
  | N + 1, M + 1, n, a1, a2, b1, hn, hN, hM, hI => h _ _ n a1 a2 b1 hn hI (fun c1 c2 d1 hlt hI2 => lpR21 e I h N M (n + 1) c1 c2 d1 hlt (by omega) (by omega) hI2)
theorem lpR22 {A1 A2 B1 B2 R S : Type} {f : (A1 → A2 → Option R) → A1 → A2 → Option R} {g : (B1 → B2 → Option S) → B1 → B2 → Option S} {Q : R → S → Prop} (e : Nat) (I : Nat → A1 → A2 → B1 → B2 → Prop) (h : ∀ (u : A1 → A2 → Option R) (v : B1 → B2 → Option S) (n : Nat) (a1 : A1) (a2 : A2) (b1 : B1) (b2 : B2), n ≤ e → I n a1 a2 b1 b2 → (∀ (c1 : A1) (c2 : A2) (d1 : B1) (d2 : B2), n < e → I (n + 1) c1 c2 d1 d2 → R2 (u c1 c2) (v d1 d2) Q) → R2 (f u a1 a2) (g v b1 b2) Q) : ∀ (N M n : Nat) (a1 : A1) (a2 : A2) (b1 : B1) (b2 : B2), n ≤ e → e - n < N → e - n < M → I n a1 a2 b1 b2 → R2 (loop2 f N a1 a2) (loop2 g M b1 b2) Q
  | 0, M, n, a1, a2, b1, b2, _, hN, _, _ => absurd hN (Nat.not_lt_zero _)
  | N + 1, 0, n, a1, a2, b1, b2, _, _, hM, _ => absurd hM (Nat.not_lt_zero _)
  | N + 1, M + 1, n, a1, a2, b1, b2, hn, hN, hM, hI => h _ _ n a1 a2 b1 b2 hn hI (fun c1 c2 d1 d2 hlt hI2 => lpR22 e I h N M (n + 1) c1 c2 d1 d2 hlt (by omega) (by omega) hI2)
theorem lpR23 {A1 A2 B1 B2 B3 R S : Type} {f : (A1 → A2 → Option R) → A1 → A2 → Option R} {g : (B1 → B2 → B3 → Option S) → B1 → B2 → B3 → Option S} {Q : R → S → Prop} (e : Nat) (I : Nat → A1 → A2 → B1 → B2 → B3 → Prop) (h : ∀ (u : A1 → A2 → Option R) (v : B1 → B2 → B3 → Option S) (n : Nat) (a1 : A1) (a2 : A2) (b1 : B1) (b2 : B2) (b3 : B3), n ≤ e → I n a1 a2 b1 b2 b3 → (∀ (c1 : A1) (c2 : A2) (d1 : B1) (d2 : B2) (d3 : B3), n < e → I (n + 1) c1 c2 d1 d2 d3 → R2 (u c1 c2) (v d1 d2 d3) Q) → R2 (f u a1 a2) (g v b1 b2 b3) Q) : ∀ (N M n : Nat) (a1 : A1) (a2 : A2) (b1 : B1) (b2 : B2) (b3 : B3), n ≤ e → e - n < N → e - n < M → I n a1 a2 b1 b2 b3 → R2 (loop2 f N a1 a2) (loop3 g M b1 b2 b3) Q
  | 0, M, n, a1, a2, b1, b2, b3, _, hN, _, _ => absurd hN (Nat.not_lt_zero _)
  | N + 1, 0, n, a1, a2, b1, b2, b3, _, _, hM, _ => absurd hM (Nat.not_lt_zero _)
  | N + 1, M + 1, n, a1, a2, b1, b2, b3, hn, hN, hM, hI => h _ _ n a1 a2 b1 b2 b3 hn hI (fun c1 c2 d1 d2 d3 hlt hI2 => lpR23 e I h N M (n + 1) c1 c2 d1 d2 d3 hlt (by omega) (by omega) hI2)
theorem lpR24 {A1 A2 B1 B2 B3 B4 R S : Type} {f : (A1 → A2 → Option R) → A1 → A2 → Option R} {g : (B1 → B2 → B3 → B4 → Option S) → B1 → B2 → B3 → B4 → Option S} {Q : R → S → Prop} (e : Nat) (I : Nat → A1 → A2 → B1 → B2 → B3 → B4 → Prop) (h : ∀ (u : A1 → A2 → Option R) (v : B1 → B2 → B3 → B4 → Option S) (n : Nat) (a1 : A1) (a2 : A2) (b1 : B1) (b2 : B2) (b3 : B3) (b4 : B4), n ≤ e → I n a1 a2 b1 b2 b3 b4 → (∀ (c1 : A1) (c2 : A2) (d1 : B1) (d2 : B2) (d3 : B3) (d4 : B4), n < e → I (n + 1) c1 c2 d1 d2 d3 d4 → R2 (u c1 c2) (v d1 d2 d3 d4) Q) → R2 (f u a1 a2) (g v b1 b2 b3 b4) Q) : ∀ (N M n : Nat) (a1 : A1) (a2 : A2) (b1 : B1) (b2 : B2) (b3 : B3) (b4 : B4), n ≤ e → e - n < N → e - n < M → I n a1 a2 b1 b2 b3 b4 → R2 (loop2 f N a1 a2) (loop4 g M b1 b2 b3 b4) Q
  | 0, M, n, a1, a2, b1, b2, b3, b4, _, hN, _, _ => absurd hN (Nat.not_lt_zero _)
  | N + 1, 0, n, a1, a2, b1, b2, b3, b4, _, _, hM, _ => absurd hM (Nat.not_lt_zero _)
  | N + 1, M + 1, n, a1, a2, b1, b2, b3, b4, hn, hN, hM, hI => h _ _ n a1 a2 b1 b2 b3 b4 hn hI (fun c1 c2 d1 d2 d3 d4 hlt hI2 => lpR24 e I h N M (n + 1) c1 c2 d1 d2 d3 d4 hlt (by omega) (by omega) hI2)
theorem lpR25 {A1 A2 B1 B2 B3 B4 B5 R S : Type} {f : (A1 → A2 → Option R) → A1 → A2 → Option R} {g : (B1 → B2 → B3 → B4 → B5 → Option S) → B1 → B2 → B3 → B4 → B5 → Option S} {Q : R → S → Prop} (e : Nat) (I : Nat → A1 → A2 → B1 → B2 → B3 → B4 → B5 → Prop) (h : ∀ (u : A1 → A2 → Option R) (v : B1 → B2 → B3 → B4 → B5 → Option S) (n : Nat) (a1 : A1) (a2 : A2) (b1 : B1) (b2 : B2) (b3 : B3) (b4 : B4) (b5 : B5), n ≤ e → I n a1 a2 b1 b2 b3 b4 b5 → (∀ (c1 : A1) (c2 : A2) (d1 : B1) (d2 : B2) (d3 : B3) (d4 : B4) (d5 : B5), n < e → I (n + 1) c1 c2 d1 d2 d3 d4 d5 → R2 (u c1 c2) (v d1 d2 d3 d4 d5) Q) → R2 (f u a1 a2) (g v b1 b2 b3 b4 b5) Q) : ∀ (N M n : Nat) (a1 : A1) (a2 : A2) (b1 : B1) (b2 : B2) (b3 : B3) (b4 : B4) (b5 : B5), n ≤ e → e - n < N → e - n < M → I n a1 a2 b1 b2 b3 b4 b5 → R2 (loop2 f N a1 a2) (loop5 g M b1 b2 b3 b4 b5) Q
  | 0, M, n, a1, a2, b1, b2, b3, b4, b5, _, hN, _, _ => absurd hN (Nat.not_lt_zero _)
  | N + 1, 0, n, a1, a2, b1, b2, b3, b4, b5, _, _, hM, _ => absurd hM (Nat.not_lt_zero _)
  | N + 1, M + 1, n, a1, a2, b1, b2, b3, b4, b5, hn, hN, hM, hI => h _ _ n a1 a2 b1 b2 b3 b4 b5 hn hI (fun c1 c2 d1 d2 d3 d4 d5 hlt hI2 => lpR25 e I h N M (n + 1) c1 c2 d1 d2 d3 d4 d5 hlt (by omega) (by omega) hI2)
theorem lpR31 {A1 A2 A3 B1 R S : Type} {f : (A1 → A2 → A3 → Option R) → A1 → A2 → A3 → Option R} {g : (B1 → Option S) → B1 → Option S} {Q : R → S → Prop} (e : Nat) (I : Nat → A1 → A2 → A3 → B1 → Prop) (h : ∀ (u : A1 → A2 → A3 → Option R) (v : B1 → Option S) (n : Nat) (a1 : A1) (a2 : A2) (a3 : A3) (b1 : B1), n ≤ e → I n a1 a2 a3 b1 → (∀ (c1 : A1) (c2 : A2) (c3 : A3) (d1 : B1), n < e → I (n + 1) c1 c2 c3 d1 → R2 (u c1 c2 c3) (v d1) Q) → R2 (f u a1 a2 a3) (g v b1) Q) : ∀ (N M n : Nat) (a1 : A1) (a2 : A2) (a3 : A3) (b1 : B1), n ≤ e → e - n < N → e - n < M → I n a1 a2 a3 b1 → R2 (loop3 f N a1 a2 a3) (loop1 g M b1) Q
  | 0, M, n, a1, a2, a3, b1, _, hN, _, _ => absurd hN (Nat.not_lt_zero _)
  | N + 1, 0, n, a1, a2, a3, b1, _, _, hM, _ => absurd hM (Nat.not_lt_zero _)
  | N + 1, M + 1, n, a1, a2, a3, b1, hn, hN, hM, hI => h _ _ n a1 a2 a3 b1 hn hI (fun c1 c2 c3 d1 hlt hI2 => lpR31 e I h N M (n + 1) c1 c2 c3 d1 hlt (by omega) (by omega) hI2)
theorem lpR32 {A1 A2 A3 B1 B2 R S : Type} {f : (A1 → A2 → A3 → Option R) → A1 → A2 → A3 → Option R} {g : (B1 → B2 → Option S) → B1 → B2 → Option S} {Q : R → S → Prop} (e : Nat) (I : Nat → A1 → A2 → A3 → B1 → B2 → Prop) (h : ∀ (u : A1 → A2 → A3 → Option R) (v : B1 → B2 → Option S) (n : Nat) (a1 : A1) (a2 : A2) (a3 : A3) (b1 : B1) (b2 : B2), n ≤ e → I n a1 a2 a3 b1 b2 → (∀ (c1 : A1) (c2 : A2) (c3 : A3) (d1 : B1) (d2 : B2), n < e → I (n + 1) c1 c2 c3 d1 d2 → R2 (u c1 c2 c3) (v d1 d2) Q) → R2 (f u a1 a2 a3) (g v b1 b2) Q) : ∀ (N M n : Nat) (a1 : A1) (a2 : A2) (a3 : A3) (b1 : B1) (b2 : B2), n ≤ e → e - n < N → e - n < M → I n a1 a2 a3 b1 b2 → R2 (loop3 f N a1 a2 a3) (loop2 g M b1 b2) Q
  | 0, M, n, a1, a2, a3, b1, b2, _, hN, _, _ => absurd hN (Nat.not_lt_zero _)
  | N + 1, 0, n, a1, a2, a3, b1, b2, _, _, hM, _ => absurd hM (Nat.not_lt_zero _)
  | N + 1, M + 1, n, a1, a2, a3, b1, b2, hn, hN, hM, hI => h _ _ n a1 a2 a3 b1 b2 hn hI (fun c1 c2 c3 d1 d2 hlt hI2 => lpR32 e I h N M (n + 1) c1 c2 c3 d1 d2 hlt (by omega) (by omega) hI2)
theorem lpR33 {A1 A2 A3 B1 B2 B3 R S : Type} {f : (A1 → A2 → A3 → Option R) → A1 → A2 → A3 → Option R} {g : (B1 → B2 → B3 → Option S) → B1 → B2 → B3 → Option S} {Q : R → S → Prop} (e : Nat) (I : Nat → A1 → A2 → A3 → B1 → B2 → B3 → Prop) (h : ∀ (u : A1 → A2 → A3 → Option R) (v : B1 → B2 → B3 → Option S) (n : Nat) (a1 : A1) (a2 : A2) (a3 : A3) (b1 : B1) (b2 : B2) (b3 : B3), n ≤ e → I n a1 a2 a3 b1 b2 b3 → (∀ (c1 : A1) (c2 : A2) (c3 : A3) (d1 : B1) (d2 : B2) (d3 : B3), n < e → I (n + 1) c1 c2 c3 d1 d2 d3 → R2 (u c1 c2 c3) (v d1 d2 d3) Q) → R2 (f u a1 a2 a3) (g v b1 b2 b3) Q) : ∀ (N M n : Nat) (a1 : A1) (a2 : A2) (a3 : A3) (b1 : B1) (b2 : B2) (b3 : B3), n ≤ e → e - n < N → e - n < M → I n a1 a2 a3 b1 b2 b3 → R2 (loop3 f N a1 a2 a3) (loop3 g M b1 b2 b3) Q
  | 0, M, n, a1, a2, a3, b1, b2, b3, _, hN, _, _ => absurd hN (Nat.not_lt_zero _)
  | N + 1, 0, n, a1, a2, a3, b1, b2, b3, _, _, hM, _ => absurd hM (Nat.not_lt_zero _)
  | N + 1, M + 1, n, a1, a2, a3, b1, b2, b3, hn, hN, hM, hI => h _ _ n a1 a2 a3 b1 b2 b3 hn hI (fun c1 c2 c3 d1 d2 d3 hlt hI2 => lpR33 e I h N M (n + 1) c1 c2 c3 d1 d2 d3 hlt (by omega) (by omega) hI2)
theorem lpR34 {A1 A2 A3 B1 B2 B3 B4 R S : Type} {f : (A1 → A2 → A3 → Option R) → A1 → A2 → A3 → Option R} {g : (B1 → B2 → B3 → B4 → Option S) → B1 → B2 → B3 → B4 → Option S} {Q : R → S → Prop} (e : Nat) (I : Nat → A1 → A2 → A3 → B1 → B2 → B3 → B4 → Prop) (h : ∀ (u : A1 → A2 → A3 → Option R) (v : B1 → B2 → B3 → B4 → Option S) (n : Nat) (a1 : A1) (a2 : A2) (a3 : A3) (b1 : B1) (b2 : B2) (b3 : B3) (b4 : B4), n ≤ e → I n a1 a2 a3 b1 b2 b3 b4 → (∀ (c1 : A1) (c2 : A2) (c3 : A3) (d1 : B1) (d2 : B2) (d3 : B3) (d4 : B4), n < e → I (n + 1) c1 c2 c3 d1 d2 d3 d4 → R2 (u c1 c2 c3) (v d1 d2 d3 d4) Q) → R2 (f u a1 a2 a3) (g v b1 b2 b3 b4) Q) : ∀ (N M n : Nat) (a1 : A1) (a2 : A2) (a3 : A3) (b1 : B1) (b2 : B2) (b3 : B3) (b4 : B4), n ≤ e → e - n < N → e - n < M → I n a1 a2 a3 b1 b2 b3 b4 → R2 (loop3 f N a1 a2 a3) (loop4 g M b1 b2 b3 b4) Q
  | 0, M, n, a1, a2, a3, b1, b2, b3, b4, _, hN, _, _ => absurd hN (Nat.not_lt_zero _)
  | N + 1, 0, n, a1, a2, a3, b1, b2, b3, b4, _, _, hM, _ => absurd hM (Nat.not_lt_zero _)
  | N + 1, M + 1, n, a1, a2, a3, b1, b2, b3, b4, hn, hN, hM, hI => h _ _ n a1 a2 a3 b1 b2 b3 b4 hn hI (fun c1 c2 c3 d1 d2 d3 d4 hlt hI2 => lpR34 e I h N M (n + 1) c1 c2 c3 d1 d2 d3 d4 hlt (by omega) (by omega) hI2)
theorem lpR35 {A1 A2 A3 B1 B2 B3 B4 B5 R S : Type} {f : (A1 → A2 → A3 → Option R) → A1 → A2 → A3 → Option R} {g : (B1 → B2 → B3 → B4 → B5 → Option S) → B1 → B2 → B3 → B4 → B5 → Option S} {Q : R → S → Prop} (e : Nat) (I : Nat → A1 → A2 → A3 → B1 → B2 → B3 → B4 → B5 → Prop) (h : ∀ (u : A1 → A2 → A3 → Option R) (v : B1 → B2 → B3 → B4 → B5 → Option S) (n : Nat) (a1 : A1) (a2 : A2) (a3 : A3) (b1 : B1) (b2 : B2) (b3 : B3) (b4 : B4) (b5 : B5), n ≤ e → I n a1 a2 a3 b1 b2 b3 b4 b5 → (∀ (c1 : A1) (c2 : A2) (c3 : A3) (d1 : B1) (d2 : B2) (d3 : B3) (d4 : B4) (d5 : B5), n < e → I (n + 1) c1 c2 c3 d1 d2 d3 d4 d5 → R2 (u c1 c2 c3) (v d1 d2 d3 d4 d5) Q) → R2 (f u a1 a2 a3) (g v b1 b2 b3 b4 b5) Q) : ∀ (N M n : Nat) (a1 : A1) (a2 : A2) (a3 : A3) (b1 : B1) (b2 : B2) (b3 : B3) (b4 : B4) (b5 : B5), n ≤ e → e - n < N → e - n < M → I n a1 a2 a3 b1 b2 b3 b4 b5 → R2 (loop3 f N a1 a2 a3) (loop5 g M b1 b2 b3 b4 b5) Q
  | 0, M, n, a1, a2, a3, b1, b2, b3, b4, b5, _, hN, _, _ => absurd hN (Nat.not_lt_zero _)
  | N + 1, 0, n, a1, a2, a3, b1, b2, b3, b4, b5, _, _, hM, _ => absurd hM (Nat.not_lt_zero _)
  | N + 1, M + 1, n, a1, a2, a3, b1, b2, b3, b4, b5, hn, hN, hM, hI => h _ _ n a1 a2 a3 b1 b2 b3 b4 b5 hn hI (fun c1 c2 c3 d1 d2 d3 d4 d5 hlt hI2 => lpR35 e I h N M (n + 1) c1 c2 c3 d1 d2 d3 d4 d5 hlt (by omega) (by omega) hI2)
theorem lpR41 {A1 A2 A3 A4 B1 R S : Type} {f : (A1 → A2 → A3 → A4 → Option R) → A1 → A2 → A3 → A4 → Option R} {g : (B1 → Option S) → B1 → Option S} {Q : R → S → Prop} (e : Nat) (I : Nat → A1 → A2 → A3 → A4 → B1 → Prop) (h : ∀ (u : A1 → A2 → A3 → A4 → Option R) (v : B1 → Option S) (n : Nat) (a1 : A1) (a2 : A2) (a3 : A3) (a4 : A4) (b1 : B1), n ≤ e → I n a1 a2 a3 a4 b1 → (∀ (c1 : A1) (c2 : A2) (c3 : A3) (c4 : A4) (d1 : B1), n < e → I (n + 1) c1 c2 c3 c4 d1 → R2 (u c1 c2 c3 c4) (v d1) Q) → R2 (f u a1 a2 a3 a4) (g v b1) Q) : ∀ (N M n : Nat) (a1 : A1) (a2 : A2) (a3 : A3) (a4 : A4) (b1 : B1), n ≤ e → e - n < N → e - n < M → I n a1 a2 a3 a4 b1 → R2 (loop4 f N a1 a2 a3 a4) (loop1 g M b1) Q
  | 0, M, n, a1, a2, a3, a4, b1, _, hN, _, _ => absurd hN (Nat.not_lt_zero _)
  | N + 1, 0, n, a1, a2, a3, a4, b1, _, _, hM, _ => absurd hM (Nat.not_lt_zero _)
  | N + 1, M + 1, n, a1, a2, a3, a4, b1, hn, hN, hM, hI => h _ _ n a1 a2 a3 a4 b1 hn hI (fun c1 c2 c3 c4 d1 hlt hI2 => lpR41 e I h N M (n + 1) c1 c2 c3 c4 d1 hlt (by omega) (by omega) hI2)
theorem lpR42 {A1 A2 A3 A4 B1 B2 R S : Type} {f : (A1 → A2 → A3 → A4 → Option R) → A1 → A2 → A3 → A4 → Option R} {g : (B1 → B2 → Option S) → B1 → B2 → Option S} {Q : R → S → Prop} (e : Nat) (I : Nat → A1 → A2 → A3 → A4 → B1 → B2 → Prop) (h : ∀ (u : A1 → A2 → A3 → A4 → Option R) (v : B1 → B2 → Option S) (n : Nat) (a1 : A1) (a2 : A2) (a3 : A3) (a4 : A4) (b1 : B1) (b2 : B2), n ≤ e → I n a1 a2 a3 a4 b1 b2 → (∀ (c1 : A1) (c2 : A2) (c3 : A3) (c4 : A4) (d1 : B1) (d2 : B2), n < e → I (n + 1) c1 c2 c3 c4 d1 d2 → R2 (u c1 c2 c3 c4) (v d1 d2) Q) → R2 (f u a1 a2 a3 a4) (g v b1 b2) Q) : ∀ (N M n : Nat) (a1 : A1) (a2 : A2) (a3 : A3) (a4 : A4) (b1 : B1) (b2 : B2), n ≤ e → e - n < N → e - n < M → I n a1 a2 a3 a4 b1 b2 → R2 (loop4 f N a1 a2 a3 a4) (loop2 g M b1 b2) Q
  | 0, M, n, a1, a2, a3, a4, b1, b2, _, hN, _, _ => absurd hN (Nat.not_lt_zero _)
  | N + 1, 0, n, a1, a2, a3, a4, b1, b2, _, _, hM, _ => absurd hM (Nat.not_lt_zero _)
  | N + 1, M + 1, n, a1, a2, a3, a4, b1, b2, hn, hN, hM, hI => h _ _ n a1 a2 a3 a4 b1 b2 hn hI (fun c1 c2 c3 c4 d1 d2 hlt hI2 => lpR42 e I h N M (n + 1) c1 c2 c3 c4 d1 d2 hlt (by omega) (by omega) hI2)
theorem lpR43 {A1 A2 A3 A4 B1 B2 B3 R S : Type} {f : (A1 → A2 → A3 → A4 → Option R) → A1 → A2 → A3 → A4 → Option R} {g : (B1 → B2 → B3 → Option S) → B1 → B2 → B3 → Option S} {Q : R → S → Prop} (e : Nat) (I : Nat → A1 → A2 → A3 → A4 → B1 → B2 → B3 → Prop) (h : ∀ (u : A1 → A2 → A3 → A4 → Option R) (v : B1 → B2 → B3 → Option S) (n : Nat) (a1 : A1) (a2 : A2) (a3 : A3) (a4 : A4) (b1 : B1) (b2 : B2) (b3 : B3), n ≤ e → I n a1 a2 a3 a4 b1 b2 b3 → (∀ (c1 : A1) (c2 : A2) (c3 : A3) (c4 : A4) (d1 : B1) (d2 : B2) (d3 : B3), n < e → I (n + 1) c1 c2 c3 c4 d1 d2 d3 → R2 (u c1 c2 c3 c4) (v d1 d2 d3) Q) → R2 (f u a1 a2 a3 a4) (g v b1 b2 b3) Q) : ∀ (N M n : Nat) (a1 : A1) (a2 : A2) (a3 : A3) (a4 : A4) (b1 : B1) (b2 : B2) (b3 : B3), n ≤ e → e - n < N → e - n < M → I n a1 a2 a3 a4 b1 b2 b3 → R2 (loop4 f N a1 a2 a3 a4) (loop3 g M b1 b2 b3) Q
  | 0, M, n, a1, a2, a3, a4, b1, b2, b3, _, hN, _, _ => absurd hN (Nat.not_lt_zero _)
  | N + 1, 0, n, a1, a2, a3, a4, b1, b2, b3, _, _, hM, _ => absurd hM (Nat.not_lt_zero _)
  | N + 1, M + 1, n, a1, a2, a3, a4, b1, b2, b3, hn, hN, hM, hI => h _ _ n a1 a2 a3 a4 b1 b2 b3 hn hI (fun c1 c2 c3 c4 d1 d2 d3 hlt hI2 => lpR43 e I h N M (n + 1) c1 c2 c3 c4 d1 d2 d3 hlt (by omega) (by omega) hI2)
theorem lpR44 {A1 A2 A3 A4 B1 B2 B3 B4 R S : Type} {f : (A1 → A2 → A3 → A4 → Option R) → A1 → A2 → A3 → A4 → Option R} {g : (B1 → B2 → B3 → B4 → Option S) → B1 → B2 → B3 → B4 → Option S} {Q : R → S → Prop} (e : Nat) (I : Nat → A1 → A2 → A3 → A4 → B1 → B2 → B3 → B4 → Prop) (h : ∀ (u : A1 → A2 → A3 → A4 → Option R) (v : B1 → B2 → B3 → B4 → Option S) (n : Nat) (a1 : A1) (a2 : A2) (a3 : A3) (a4 : A4) (b1 : B1) (b2 : B2) (b3 : B3) (b4 : B4), n ≤ e → I n a1 a2 a3 a4 b1 b2 b3 b4 → (∀ (c1 : A1) (c2 : A2) (c3 : A3) (c4 : A4) (d1 : B1) (d2 : B2) (d3 : B3) (d4 : B4), n < e → I (n + 1) c1 c2 c3 c4 d1 d2 d3 d4 → R2 (u c1 c2 c3 c4) (v d1 d2 d3 d4) Q) → R2 (f u a1 a2 a3 a4) (g v b1 b2 b3 b4) Q) : ∀ (N M n : Nat) (a1 : A1) (a2 : A2) (a3 : A3) (a4 : A4) (b1 : B1) (b2 : B2) (b3 : B3) (b4 : B4), n ≤ e → e - n < N → e - n < M → I n a1 a2 a3 a4 b1 b2 b3 b4 → R2 (loop4 f N a1 a2 a3 a4) (loop4 g M b1 b2 b3 b4) Q
  | 0, M, n, a1, a2, a3, a4, b1, b2, b3, b4, _, hN, _, _ => absurd hN (Nat.not_lt_zero _)
  | N + 1, 0, n, a1, a2, a3, a4, b1, b2, b3, b4, _, _, hM, _ => absurd hM (Nat.not_lt_zero _)
  | N + 1, M + 1, n, a1, a2, a3, a4, b1, b2, b3, b4, hn, hN, hM, hI => h _ _ n a1 a2 a3 a4 b1 b2 b3 b4 hn hI (fun c1 c2 c3 c4 d1 d2 d3 d4 hlt hI2 => lpR44 e I h N M (n + 1) c1 c2 c3 c4 d1 d2 d3 d4 hlt (by omega) (by omega) hI2)
theorem lpR45 {A1 A2 A3 A4 B1 B2 B3 B4 B5 R S : Type} {f : (A1 → A2 → A3 → A4 → Option R) → A1 → A2 → A3 → A4 → Option R} {g : (B1 → B2 → B3 → B4 → B5 → Option S) → B1 → B2 → B3 → B4 → B5 → Option S} {Q : R → S → Prop} (e : Nat) (I : Nat → A1 → A2 → A3 → A4 → B1 → B2 → B3 → B4 → B5 → Prop) (h : ∀ (u : A1 → A2 → A3 → A4 → Option R) (v : B1 → B2 → B3 → B4 → B5 → Option S) (n : Nat) (a1 : A1) (a2 : A2) (a3 : A3) (a4 : A4) (b1 : B1) (b2 : B2) (b3 : B3) (b4 : B4) (b5 : B5), n ≤ e → I n a1 a2 a3 a4 b1 b2 b3 b4 b5 → (∀ (c1 : A1) (c2 : A2) (c3 : A3) (c4 : A4) (d1 : B1) (d2 : B2) (d3 : B3) (d4 : B4) (d5 : B5), n < e → I (n + 1) c1 c2 c3 c4 d1 d2 d3 d4 d5 → R2 (u c1 c2 c3 c4) (v d1 d2 d3 d4 d5) Q) → R2 (f u a1 a2 a3 a4) (g v b1 b2 b3 b4 b5) Q) : ∀ (N M n : Nat) (a1 : A1) (a2 : A2) (a3 : A3) (a4 : A4) (b1 : B1) (b2 : B2) (b3 : B3) (b4 : B4) (b5 : B5), n ≤ e → e - n < N → e - n < M → I n a1 a2 a3 a4 b1 b2 b3 b4 b5 → R2 (loop4 f N a1 a2 a3 a4) (loop5 g M b1 b2 b3 b4 b5) Q
  | 0, M, n, a1, a2, a3, a4, b1, b2, b3, b4, b5, _, hN, _, _ => absurd hN (Nat.not_lt_zero _)
  | N + 1, 0, n, a1, a2, a3, a4, b1, b2, b3, b4, b5, _, _, hM, _ => absurd hM (Nat.not_lt_zero _)
  | N + 1, M + 1, n, a1, a2, a3, a4, b1, b2, b3, b4, b5, hn, hN, hM, hI => h _ _ n a1 a2 a3 a4 b1 b2 b3 b4 b5 hn hI (fun c1 c2 c3 c4 d1 d2 d3 d4 d5 hlt hI2 => lpR45 e I h N M (n + 1) c1 c2 c3 c4 d1 d2 d3 d4 d5 hlt (by omega) (by omega) hI2)
theorem lpR51 {A1 A2 A3 A4 A5 B1 R S : Type} {f : (A1 → A2 → A3 → A4 → A5 → Option R) → A1 → A2 → A3 → A4 → A5 → Option R} {g : (B1 → Option S) → B1 → Option S} {Q : R → S → Prop} (e : Nat) (I : Nat → A1 → A2 → A3 → A4 → A5 → B1 → Prop) (h : ∀ (u : A1 → A2 → A3 → A4 → A5 → Option R) (v : B1 → Option S) (n : Nat) (a1 : A1) (a2 : A2) (a3 : A3) (a4 : A4) (a5 : A5) (b1 : B1), n ≤ e → I n a1 a2 a3 a4 a5 b1 → (∀ (c1 : A1) (c2 : A2) (c3 : A3) (c4 : A4) (c5 : A5) (d1 : B1), n < e → I (n + 1) c1 c2 c3 c4 c5 d1 → R2 (u c1 c2 c3 c4 c5) (v d1) Q) → R2 (f u a1 a2 a3 a4 a5) (g v b1) Q) : ∀ (N M n : Nat) (a1 : A1) (a2 : A2) (a3 : A3) (a4 : A4) (a5 : A5) (b1 : B1), n ≤ e → e - n < N → e - n < M → I n a1 a2 a3 a4 a5 b1 → R2 (loop5 f N a1 a2 a3 a4 a5) (loop1 g M b1) Q
  | 0, M, n, a1, a2, a3, a4, a5, b1, _, hN, _, _ => absurd hN (Nat.not_lt_zero _)
  | N + 1, 0, n, a1, a2, a3, a4, a5, b1, _, _, hM, _ => absurd hM (Nat.not_lt_zero _)
  | N + 1, M + 1, n, a1, a2, a3, a4, a5, b1, hn, hN, hM, hI => h _ _ n a1 a2 a3 a4 a5 b1 hn hI (fun c1 c2 c3 c4 c5 d1 hlt hI2 => lpR51 e I h N M (n + 1) c1 c2 c3 c4 c5 d1 hlt (by omega) (by omega) hI2)
theorem lpR52 {A1 A2 A3 A4 A5 B1 B2 R S : Type} {f : (A1 → A2 → A3 → A4 → A5 → Option R) → A1 → A2 → A3 → A4 → A5 → Option R} {g : (B1 → B2 → Option S) → B1 → B2 → Option S} {Q : R → S → Prop} (e : Nat) (I : Nat → A1 → A2 → A3 → A4 → A5 → B1 → B2 → Prop) (h : ∀ (u : A1 → A2 → A3 → A4 → A5 → Option R) (v : B1 → B2 → Option S) (n : Nat) (a1 : A1) (a2 : A2) (a3 : A3) (a4 : A4) (a5 : A5) (b1 : B1) (b2 : B2), n ≤ e → I n a1 a2 a3 a4 a5 b1 b2 → (∀ (c1 : A1) (c2 : A2) (c3 : A3) (c4 : A4) (c5 : A5) (d1 : B1) (d2 : B2), n < e → I (n + 1) c1 c2 c3 c4 c5 d1 d2 → R2 (u c1 c2 c3 c4 c5) (v d1 d2) Q) → R2 (f u a1 a2 a3 a4 a5) (g v b1 b2) Q) : ∀ (N M n : Nat) (a1 : A1) (a2 : A2) (a3 : A3) (a4 : A4) (a5 : A5) (b1 : B1) (b2 : B2), n ≤ e → e - n < N → e - n < M → I n a1 a2 a3 a4 a5 b1 b2 → R2 (loop5 f N a1 a2 a3 a4 a5) (loop2 g M b1 b2) Q
  | 0, M, n, a1, a2, a3, a4, a5, b1, b2, _, hN, _, _ => absurd hN (Nat.not_lt_zero _)
  | N + 1, 0, n, a1, a2, a3, a4, a5, b1, b2, _, _, hM, _ => absurd hM (Nat.not_lt_zero _)
  | N + 1, M + 1, n, a1, a2, a3, a4, a5, b1, b2, hn, hN, hM, hI => h _ _ n a1 a2 a3 a4 a5 b1 b2 hn hI (fun c1 c2 c3 c4 c5 d1 d2 hlt hI2 => lpR52 e I h N M (n + 1) c1 c2 c3 c4 c5 d1 d2 hlt (by omega) (by omega) hI2)
theorem lpR53 {A1 A2 A3 A4 A5 B1 B2 B3 R S : Type} {f : (A1 → A2 → A3 → A4 → A5 → Option R) → A1 → A2 → A3 → A4 → A5 → Option R} {g : (B1 → B2 → B3 → Option S) → B1 → B2 → B3 → Option S} {Q : R → S → Prop} (e : Nat) (I : Nat → A1 → A2 → A3 → A4 → A5 → B1 → B2 → B3 → Prop) (h : ∀ (u : A1 → A2 → A3 → A4 → A5 → Option R) (v : B1 → B2 → B3 → Option S) (n : Nat) (a1 : A1) (a2 : A2) (a3 : A3) (a4 : A4) (a5 : A5) (b1 : B1) (b2 : B2) (b3 : B3), n ≤ e → I n a1 a2 a3 a4 a5 b1 b2 b3 → (∀ (c1 : A1) (c2 : A2) (c3 : A3) (c4 : A4) (c5 : A5) (d1 : B1) (d2 : B2) (d3 : B3), n < e → I (n + 1) c1 c2 c3 c4 c5 d1 d2 d3 → R2 (u c1 c2 c3 c4 c5) (v d1 d2 d3) Q) → R2 (f u a1 a2 a3 a4 a5) (g v b1 b2 b3) Q) : ∀ (N M n : Nat) (a1 : A1) (a2 : A2) (a3 : A3) (a4 : A4) (a5 : A5) (b1 : B1) (b2 : B2) (b3 : B3), n ≤ e → e - n < N → e - n < M → I n a1 a2 a3 a4 a5 b1 b2 b3 → R2 (loop5 f N a1 a2 a3 a4 a5) (loop3 g M b1 b2 b3) Q
  | 0, M, n, a1, a2, a3, a4, a5, b1, b2, b3, _, hN, _, _ => absurd hN (Nat.not_lt_zero _)
  | N + 1, 0, n, a1, a2, a3, a4, a5, b1, b2, b3, _, _, hM, _ => absurd hM (Nat.not_lt_zero _)
  | N + 1, M + 1, n, a1, a2, a3, a4, a5, b1, b2, b3, hn, hN, hM, hI => h _ _ n a1 a2 a3 a4 a5 b1 b2 b3 hn hI (fun c1 c2 c3 c4 c5 d1 d2 d3 hlt hI2 => lpR53 e I h N M (n + 1) c1 c2 c3 c4 c5 d1 d2 d3 hlt (by omega) (by omega) hI2)
theorem lpR54 {A1 A2 A3 A4 A5 B1 B2 B3 B4 R S : Type} {f : (A1 → A2 → A3 → A4 → A5 → Option R) → A1 → A2 → A3 → A4 → A5 → Option R} {g : (B1 → B2 → B3 → B4 → Option S) → B1 → B2 → B3 → B4 → Option S} {Q : R → S → Prop} (e : Nat) (I : Nat → A1 → A2 → A3 → A4 → A5 → B1 → B2 → B3 → B4 → Prop) (h : ∀ (u : A1 → A2 → A3 → A4 → A5 → Option R) (v : B1 → B2 → B3 → B4 → Option S) (n : Nat) (a1 : A1) (a2 : A2) (a3 : A3) (a4 : A4) (a5 : A5) (b1 : B1) (b2 : B2) (b3 : B3) (b4 : B4), n ≤ e → I n a1 a2 a3 a4 a5 b1 b2 b3 b4 → (∀ (c1 : A1) (c2 : A2) (c3 : A3) (c4 : A4) (c5 : A5) (d1 : B1) (d2 : B2) (d3 : B3) (d4 : B4), n < e → I (n + 1) c1 c2 c3 c4 c5 d1 d2 d3 d4 → R2 (u c1 c2 c3 c4 c5) (v d1 d2 d3 d4) Q) → R2 (f u a1 a2 a3 a4 a5) (g v b1 b2 b3 b4) Q) : ∀ (N M n : Nat) (a1 : A1) (a2 : A2) (a3 : A3) (a4 : A4) (a5 : A5) (b1 : B1) (b2 : B2) (b3 : B3) (b4 : B4), n ≤ e → e - n < N → e - n < M → I n a1 a2 a3 a4 a5 b1 b2 b3 b4 → R2 (loop5 f N a1 a2 a3 a4 a5) (loop4 g M b1 b2 b3 b4) Q
  | 0, M, n, a1, a2, a3, a4, a5, b1, b2, b3, b4, _, hN, _, _ => absurd hN (Nat.not_lt_zero _)
  | N + 1, 0, n, a1, a2, a3, a4, a5, b1, b2, b3, b4, _, _, hM, _ => absurd hM (Nat.not_lt_zero _)
  | N + 1, M + 1, n, a1, a2, a3, a4, a5, b1, b2, b3, b4, hn, hN, hM, hI => h _ _ n a1 a2 a3 a4 a5 b1 b2 b3 b4 hn hI (fun c1 c2 c3 c4 c5 d1 d2 d3 d4 hlt hI2 => lpR54 e I h N M (n + 1) c1 c2 c3 c4 c5 d1 d2 d3 d4 hlt (by omega) (by omega) hI2)
theorem lpR55 {A1 A2 A3 A4 A5 B1 B2 B3 B4 B5 R S : Type} {f : (A1 → A2 → A3 → A4 → A5 → Option R) → A1 → A2 → A3 → A4 → A5 → Option R} {g : (B1 → B2 → B3 → B4 → B5 → Option S) → B1 → B2 → B3 → B4 → B5 → Option S} {Q : R → S → Prop} (e : Nat) (I : Nat → A1 → A2 → A3 → A4 → A5 → B1 → B2 → B3 → B4 → B5 → Prop) (h : ∀ (u : A1 → A2 → A3 → A4 → A5 → Option R) (v : B1 → B2 → B3 → B4 → B5 → Option S) (n : Nat) (a1 : A1) (a2 : A2) (a3 : A3) (a4 : A4) (a5 : A5) (b1 : B1) (b2 : B2) (b3 : B3) (b4 : B4) (b5 : B5), n ≤ e → I n a1 a2 a3 a4 a5 b1 b2 b3 b4 b5 → (∀ (c1 : A1) (c2 : A2) (c3 : A3) (c4 : A4) (c5 : A5) (d1 : B1) (d2 : B2) (d3 : B3) (d4 : B4) (d5 : B5), n < e → I (n + 1) c1 c2 c3 c4 c5 d1 d2 d3 d4 d5 → R2 (u c1 c2 c3 c4 c5) (v d1 d2 d3 d4 d5) Q) → R2 (f u a1 a2 a3 a4 a5) (g v b1 b2 b3 b4 b5) Q) : ∀ (N M n : Nat) (a1 : A1) (a2 : A2) (a3 : A3) (a4 : A4) (a5 : A5) (b1 : B1) (b2 : B2) (b3 : B3) (b4 : B4) (b5 : B5), n ≤ e → e - n < N → e - n < M → I n a1 a2 a3 a4 a5 b1 b2 b3 b4 b5 → R2 (loop5 f N a1 a2 a3 a4 a5) (loop5 g M b1 b2 b3 b4 b5) Q
  | 0, M, n, a1, a2, a3, a4, a5, b1, b2, b3, b4, b5, _, hN, _, _ => absurd hN (Nat.not_lt_zero _)
  | N + 1, 0, n, a1, a2, a3, a4, a5, b1, b2, b3, b4, b5, _, _, hM, _ => absurd hM (Nat.not_lt_zero _)
  | N + 1, M + 1, n, a1, a2, a3, a4, a5, b1, b2, b3, b4, b5, hn, hN, hM, hI => h _ _ n a1 a2 a3 a4 a5 b1 b2 b3 b4 b5 hn hI (fun c1 c2 c3 c4 c5 d1 d2 d3 d4 d5 hlt hI2 => lpR55 e I h N M (n + 1) c1 c2 c3 c4 c5 d1 d2 d3 d4 d5 hlt (by omega) (by omega) hI2)
/-! numbers -/
theorem ag_nI {σ : St} {i n k : Nat} {j : Int32} (hj : j = nI k) (h : k < n) (hn : n < 2 ^ 31) : ag σ i n j = some (σ i k) := by
  subst hj
  unfold ag
  rw [if_neg (nI_in h hn), nI_clamp (by omega)]
theorem sa_nI {σ : St} {i n k : Nat} {j x : Int32} (hj : j = nI k) (h : k < n) (hn : n < 2 ^ 31) : sa σ i n j x = some (up σ i k x) := by
  subst hj
  unfold sa
  rw [if_neg (nI_in h hn), nI_clamp (by omega)]
theorem up_at {σ : St} {i k : Nat} {x : Int32} : up σ i k x i k = x := by simp [up]
theorem up_off {σ : St} {i k j : Nat} {x : Int32} (h : j ≠ k) : up σ i k x i j = σ i j := by simp [up, h]
theorem up_pl {σ : St} {i k a : Nat} {x : Int32} (h : a ≠ i) : up σ i k x a = σ a := by simp [up, h]
theorem up_eq2 {σ : St} {i k a j : Nat} {x : Int32} : up σ i k x a j = if a = i ∧ j = k then x else σ a j := by
  unfold up
  by_cases h1 : a = i
  · subst h1
    by_cases h2 : j = k <;> simp [h2]
  · simp [h1]
theorem imin_le {x y : Int32} : imin x y = q12_lesser x y := by
  unfold imin q12_lesser
  by_cases h : y < x
  · rw [if_pos h, if_neg (fun q => Int32.lt_asymm h q)]
  · rw [if_neg h]
    by_cases h2 : x < y
    · rw [if_pos h2]
    · rw [if_neg h2]
      exact Int32.le_antisymm (Int32.not_lt.mp h) (Int32.not_lt.mp h2)
theorem imax_gr {x y : Int32} : imax x y = q12_greater x y := by
  unfold imax q12_greater
  by_cases h : x < y
  · rw [if_pos h, if_neg (fun q => Int32.lt_asymm h q)]
  · rw [if_neg h]
    by_cases h2 : y < x
    · rw [if_pos h2]
    · rw [if_neg h2]
      exact Int32.le_antisymm (Int32.not_lt.mp h2) (Int32.not_lt.mp h)

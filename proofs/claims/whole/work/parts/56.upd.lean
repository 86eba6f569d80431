/-! LAYER 2: ONE PLACE CHANGES -/
def mu (m : Nat → Int32) (j : Nat) (x : Int32) : Nat → Int32 := fun k => if k = j then x else m k
def du (d : Nat → Nat → Int32) (j k : Nat) (x : Int32) : Nat → Nat → Int32 := fun a b => if a = j ∧ b = k then x else d a b
theorem up_mu {μ : St} {j : Nat} {x : Int32} : up μ 1 j x 1 = mu (μ 1) j x := by funext k; simp [up, mu]
theorem vd_du {σ : St} {v j k : Nat} {x : Int32} : vd (up σ (v + j) k x) v = du (vd σ v) j k x := by
  funext a b
  show up σ (v + j) k x (v + a) b = du (vd σ v) j k x a b
  rw [up_eq2]
  unfold du
  by_cases h : a = j ∧ b = k
  · rw [if_pos h, if_pos ⟨by omega, h.2⟩]
  · rw [if_neg h, if_neg (fun q => h ⟨by omega, q.2⟩)]
theorem mu_eq {m : Nat → Int32} {j : Nat} {x : Int32} : mu m j x j = x := if_pos rfl
theorem mu_ne {m : Nat → Int32} {j k : Nat} {x : Int32} (h : k ≠ j) : mu m j x k = m k := if_neg h
theorem du_eq {d : Nat → Nat → Int32} {j k : Nat} {x : Int32} : du d j k x j k = x := if_pos ⟨rfl, rfl⟩
theorem vd_du0 {σ : St} {v k : Nat} {x : Int32} : vd (up σ v k x) v = du (vd σ v) 0 k x := vd_du (j := 0)
theorem inR_nI {a N : Nat} (h : a ≤ N) : inR (nI a) N := ⟨a, h, rfl⟩
theorem RVd.uH {d : Nat → Nat → Int32} {m : Nat → Int32} {n : Nat} (hV : RVd d m n) {p : Nat} (hp : p < n) {x : Int32} : RVd (du d 1 p x) (mu m (14 + 7 * p) x) n := by
  have hn6 : n ≤ 6 := hV.1.1
  obtain ⟨⟨a1, a2, a3⟩, b, ⟨c1, c2⟩, k, g9, ⟨n1, n2, n3, n4, n5, n6⟩, ⟨x1, x2⟩, L, f, l1, l2, l3, l4, l5, l6⟩ := hV
  refine ⟨⟨a1, ?_, ?_⟩, fun q hq => ⟨?_, ?_, ?_, ?_, ?_⟩, ⟨?_, ?_⟩, fun q r hq hr hqr => ?_, fun q hq => ?_, ⟨?_, ?_, ?_, ?_, ?_, ?_⟩, ⟨fun q h1 h2 => ⟨?_, ?_, ?_⟩, fun q r h1 h2 h3 => ?_⟩, L, f, l1, l2, ?_, ?_, ?_, fun a c ha hc => ?_⟩
  · ((simp only [du, mu, true_and, and_true, false_and, and_false, if_true, if_false]) <;> (repeat' split) <;> first | rfl | omega | exact a2)
  · ((simp only [du, mu, true_and, and_true, false_and, and_false, if_true, if_false]) <;> (repeat' split) <;> first | rfl | omega | exact a3)
  · ((simp only [du, mu, true_and, and_true, false_and, and_false, if_true, if_false]) <;> (repeat' split) <;> first | rfl | omega | exact (b q hq).1)
  · ((simp only [du, mu, true_and, and_true, false_and, and_false, if_true, if_false]) <;> (repeat' split) <;> first | rfl | omega | exact (b q hq).2.1)
  · ((simp only [du, mu, true_and, and_true, false_and, and_false, if_true, if_false]) <;> (repeat' split) <;> first | rfl | omega | exact (b q hq).2.2.1)
  · ((simp only [du, mu, true_and, and_true, false_and, and_false, if_true, if_false]) <;> (repeat' split) <;> first | rfl | omega | exact (b q hq).2.2.2.1)
  · ((simp only [du, mu, true_and, and_true, false_and, and_false, if_true, if_false]) <;> (repeat' split) <;> first | rfl | omega | exact (b q hq).2.2.2.2)
  · have e : bs (fS (mu m (14 + 7 * p) x)) n = bs (fS m) n := bs_congr (fun q hq => by unfold fS; rw [mu_ne (by omega)])
    rw [e]
    ((simp only [du, mu, true_and, and_true, false_and, and_false, if_true, if_false]) <;> (repeat' split) <;> first | rfl | omega | exact c1)
  · have e : bs (fB (mu m (14 + 7 * p) x)) n = bs (fB m) n := bs_congr (fun q hq => by unfold fB; rw [mu_ne (by omega)])
    rw [e]
    ((simp only [du, mu, true_and, and_true, false_and, and_false, if_true, if_false]) <;> (repeat' split) <;> first | rfl | omega | exact c2)
  · ((simp only [du, mu, true_and, and_true, false_and, and_false, if_true, if_false]) <;> (repeat' split) <;> first | rfl | omega | exact k q r hq hr hqr)
  · ((simp only [du, mu, true_and, and_true, false_and, and_false, if_true, if_false]) <;> (repeat' split) <;> first | rfl | omega | exact g9 q hq)
  · ((simp only [du, mu, true_and, and_true, false_and, and_false, if_true, if_false]) <;> (repeat' split) <;> first | rfl | omega | exact n1)
  · ((simp only [du, mu, true_and, and_true, false_and, and_false, if_true, if_false]) <;> (repeat' split) <;> first | rfl | omega | exact n2)
  · ((simp only [du, mu, true_and, and_true, false_and, and_false, if_true, if_false]) <;> (repeat' split) <;> first | rfl | omega | exact n3)
  · ((simp only [du, mu, true_and, and_true, false_and, and_false, if_true, if_false]) <;> (repeat' split) <;> first | rfl | omega | exact n4)
  · ((simp only [du, mu, true_and, and_true, false_and, and_false, if_true, if_false]) <;> (repeat' split) <;> first | rfl | omega | exact n5)
  · ((simp only [du, mu, true_and, and_true, false_and, and_false, if_true, if_false]) <;> (repeat' split) <;> first | rfl | omega | exact n6)
  · ((simp only [du, mu, true_and, and_true, false_and, and_false, if_true, if_false]) <;> (repeat' split) <;> first | rfl | omega | exact (x1 q h1 h2).1)
  · ((simp only [du, mu, true_and, and_true, false_and, and_false, if_true, if_false]) <;> (repeat' split) <;> first | rfl | omega | exact (x1 q h1 h2).2.1)
  · ((simp only [du, mu, true_and, and_true, false_and, and_false, if_true, if_false]) <;> (repeat' split) <;> first | rfl | omega | exact (x1 q h1 h2).2.2)
  · ((simp only [du, mu, true_and, and_true, false_and, and_false, if_true, if_false]) <;> (repeat' split) <;> first | rfl | omega | exact x2 q r h1 h2 h3)
  · ((simp only [du, mu, true_and, and_true, false_and, and_false, if_true, if_false]) <;> (repeat' split) <;> first | rfl | omega | exact l3)
  · ((simp only [du, mu, true_and, and_true, false_and, and_false, if_true, if_false]) <;> (repeat' split) <;> first | rfl | omega | exact l4)
  · ((simp only [du, mu, true_and, and_true, false_and, and_false, if_true, if_false]) <;> (repeat' split) <;> first | rfl | omega | exact l5)
  · ((simp only [du, mu, true_and, and_true, false_and, and_false, if_true, if_false]) <;> (repeat' split) <;> first | rfl | omega | exact l6 a c ha hc)
theorem RVd.uP {d : Nat → Nat → Int32} {m : Nat → Int32} {n : Nat} (hV : RVd d m n) {p : Nat} (hp : p < n) {x : Int32} : RVd (du d 2 p x) (mu m (14 + 7 * p + 1) x) n := by
  have hn6 : n ≤ 6 := hV.1.1
  obtain ⟨⟨a1, a2, a3⟩, b, ⟨c1, c2⟩, k, g9, ⟨n1, n2, n3, n4, n5, n6⟩, ⟨x1, x2⟩, L, f, l1, l2, l3, l4, l5, l6⟩ := hV
  refine ⟨⟨a1, ?_, ?_⟩, fun q hq => ⟨?_, ?_, ?_, ?_, ?_⟩, ⟨?_, ?_⟩, fun q r hq hr hqr => ?_, fun q hq => ?_, ⟨?_, ?_, ?_, ?_, ?_, ?_⟩, ⟨fun q h1 h2 => ⟨?_, ?_, ?_⟩, fun q r h1 h2 h3 => ?_⟩, L, f, l1, l2, ?_, ?_, ?_, fun a c ha hc => ?_⟩
  · ((simp only [du, mu, true_and, and_true, false_and, and_false, if_true, if_false]) <;> (repeat' split) <;> first | rfl | omega | exact a2)
  · ((simp only [du, mu, true_and, and_true, false_and, and_false, if_true, if_false]) <;> (repeat' split) <;> first | rfl | omega | exact a3)
  · ((simp only [du, mu, true_and, and_true, false_and, and_false, if_true, if_false]) <;> (repeat' split) <;> first | rfl | omega | exact (b q hq).1)
  · ((simp only [du, mu, true_and, and_true, false_and, and_false, if_true, if_false]) <;> (repeat' split) <;> first | rfl | omega | exact (b q hq).2.1)
  · ((simp only [du, mu, true_and, and_true, false_and, and_false, if_true, if_false]) <;> (repeat' split) <;> first | rfl | omega | exact (b q hq).2.2.1)
  · ((simp only [du, mu, true_and, and_true, false_and, and_false, if_true, if_false]) <;> (repeat' split) <;> first | rfl | omega | exact (b q hq).2.2.2.1)
  · ((simp only [du, mu, true_and, and_true, false_and, and_false, if_true, if_false]) <;> (repeat' split) <;> first | rfl | omega | exact (b q hq).2.2.2.2)
  · have e : bs (fS (mu m (14 + 7 * p + 1) x)) n = bs (fS m) n := bs_congr (fun q hq => by unfold fS; rw [mu_ne (by omega)])
    rw [e]
    ((simp only [du, mu, true_and, and_true, false_and, and_false, if_true, if_false]) <;> (repeat' split) <;> first | rfl | omega | exact c1)
  · have e : bs (fB (mu m (14 + 7 * p + 1) x)) n = bs (fB m) n := bs_congr (fun q hq => by unfold fB; rw [mu_ne (by omega)])
    rw [e]
    ((simp only [du, mu, true_and, and_true, false_and, and_false, if_true, if_false]) <;> (repeat' split) <;> first | rfl | omega | exact c2)
  · ((simp only [du, mu, true_and, and_true, false_and, and_false, if_true, if_false]) <;> (repeat' split) <;> first | rfl | omega | exact k q r hq hr hqr)
  · ((simp only [du, mu, true_and, and_true, false_and, and_false, if_true, if_false]) <;> (repeat' split) <;> first | rfl | omega | exact g9 q hq)
  · ((simp only [du, mu, true_and, and_true, false_and, and_false, if_true, if_false]) <;> (repeat' split) <;> first | rfl | omega | exact n1)
  · ((simp only [du, mu, true_and, and_true, false_and, and_false, if_true, if_false]) <;> (repeat' split) <;> first | rfl | omega | exact n2)
  · ((simp only [du, mu, true_and, and_true, false_and, and_false, if_true, if_false]) <;> (repeat' split) <;> first | rfl | omega | exact n3)
  · ((simp only [du, mu, true_and, and_true, false_and, and_false, if_true, if_false]) <;> (repeat' split) <;> first | rfl | omega | exact n4)
  · ((simp only [du, mu, true_and, and_true, false_and, and_false, if_true, if_false]) <;> (repeat' split) <;> first | rfl | omega | exact n5)
  · ((simp only [du, mu, true_and, and_true, false_and, and_false, if_true, if_false]) <;> (repeat' split) <;> first | rfl | omega | exact n6)
  · ((simp only [du, mu, true_and, and_true, false_and, and_false, if_true, if_false]) <;> (repeat' split) <;> first | rfl | omega | exact (x1 q h1 h2).1)
  · ((simp only [du, mu, true_and, and_true, false_and, and_false, if_true, if_false]) <;> (repeat' split) <;> first | rfl | omega | exact (x1 q h1 h2).2.1)
  · ((simp only [du, mu, true_and, and_true, false_and, and_false, if_true, if_false]) <;> (repeat' split) <;> first | rfl | omega | exact (x1 q h1 h2).2.2)
  · ((simp only [du, mu, true_and, and_true, false_and, and_false, if_true, if_false]) <;> (repeat' split) <;> first | rfl | omega | exact x2 q r h1 h2 h3)
  · ((simp only [du, mu, true_and, and_true, false_and, and_false, if_true, if_false]) <;> (repeat' split) <;> first | rfl | omega | exact l3)
  · ((simp only [du, mu, true_and, and_true, false_and, and_false, if_true, if_false]) <;> (repeat' split) <;> first | rfl | omega | exact l4)
  · ((simp only [du, mu, true_and, and_true, false_and, and_false, if_true, if_false]) <;> (repeat' split) <;> first | rfl | omega | exact l5)
  · ((simp only [du, mu, true_and, and_true, false_and, and_false, if_true, if_false]) <;> (repeat' split) <;> first | rfl | omega | exact l6 a c ha hc)
theorem RVd.uD {d : Nat → Nat → Int32} {m : Nat → Int32} {n : Nat} (hV : RVd d m n) {p : Nat} (hp : p < n) {x : Int32} : RVd (du d 4 p x) (mu m (14 + 7 * p + 5) x) n := by
  have hn6 : n ≤ 6 := hV.1.1
  obtain ⟨⟨a1, a2, a3⟩, b, ⟨c1, c2⟩, k, g9, ⟨n1, n2, n3, n4, n5, n6⟩, ⟨x1, x2⟩, L, f, l1, l2, l3, l4, l5, l6⟩ := hV
  refine ⟨⟨a1, ?_, ?_⟩, fun q hq => ⟨?_, ?_, ?_, ?_, ?_⟩, ⟨?_, ?_⟩, fun q r hq hr hqr => ?_, fun q hq => ?_, ⟨?_, ?_, ?_, ?_, ?_, ?_⟩, ⟨fun q h1 h2 => ⟨?_, ?_, ?_⟩, fun q r h1 h2 h3 => ?_⟩, L, f, l1, l2, ?_, ?_, ?_, fun a c ha hc => ?_⟩
  · ((simp only [du, mu, true_and, and_true, false_and, and_false, if_true, if_false]) <;> (repeat' split) <;> first | rfl | omega | exact a2)
  · ((simp only [du, mu, true_and, and_true, false_and, and_false, if_true, if_false]) <;> (repeat' split) <;> first | rfl | omega | exact a3)
  · ((simp only [du, mu, true_and, and_true, false_and, and_false, if_true, if_false]) <;> (repeat' split) <;> first | rfl | omega | exact (b q hq).1)
  · ((simp only [du, mu, true_and, and_true, false_and, and_false, if_true, if_false]) <;> (repeat' split) <;> first | rfl | omega | exact (b q hq).2.1)
  · ((simp only [du, mu, true_and, and_true, false_and, and_false, if_true, if_false]) <;> (repeat' split) <;> first | rfl | omega | exact (b q hq).2.2.1)
  · ((simp only [du, mu, true_and, and_true, false_and, and_false, if_true, if_false]) <;> (repeat' split) <;> first | rfl | omega | exact (b q hq).2.2.2.1)
  · ((simp only [du, mu, true_and, and_true, false_and, and_false, if_true, if_false]) <;> (repeat' split) <;> first | rfl | omega | exact (b q hq).2.2.2.2)
  · have e : bs (fS (mu m (14 + 7 * p + 5) x)) n = bs (fS m) n := bs_congr (fun q hq => by unfold fS; rw [mu_ne (by omega)])
    rw [e]
    ((simp only [du, mu, true_and, and_true, false_and, and_false, if_true, if_false]) <;> (repeat' split) <;> first | rfl | omega | exact c1)
  · have e : bs (fB (mu m (14 + 7 * p + 5) x)) n = bs (fB m) n := bs_congr (fun q hq => by unfold fB; rw [mu_ne (by omega)])
    rw [e]
    ((simp only [du, mu, true_and, and_true, false_and, and_false, if_true, if_false]) <;> (repeat' split) <;> first | rfl | omega | exact c2)
  · ((simp only [du, mu, true_and, and_true, false_and, and_false, if_true, if_false]) <;> (repeat' split) <;> first | rfl | omega | exact k q r hq hr hqr)
  · ((simp only [du, mu, true_and, and_true, false_and, and_false, if_true, if_false]) <;> (repeat' split) <;> first | rfl | omega | exact g9 q hq)
  · ((simp only [du, mu, true_and, and_true, false_and, and_false, if_true, if_false]) <;> (repeat' split) <;> first | rfl | omega | exact n1)
  · ((simp only [du, mu, true_and, and_true, false_and, and_false, if_true, if_false]) <;> (repeat' split) <;> first | rfl | omega | exact n2)
  · ((simp only [du, mu, true_and, and_true, false_and, and_false, if_true, if_false]) <;> (repeat' split) <;> first | rfl | omega | exact n3)
  · ((simp only [du, mu, true_and, and_true, false_and, and_false, if_true, if_false]) <;> (repeat' split) <;> first | rfl | omega | exact n4)
  · ((simp only [du, mu, true_and, and_true, false_and, and_false, if_true, if_false]) <;> (repeat' split) <;> first | rfl | omega | exact n5)
  · ((simp only [du, mu, true_and, and_true, false_and, and_false, if_true, if_false]) <;> (repeat' split) <;> first | rfl | omega | exact n6)
  · ((simp only [du, mu, true_and, and_true, false_and, and_false, if_true, if_false]) <;> (repeat' split) <;> first | rfl | omega | exact (x1 q h1 h2).1)
  · ((simp only [du, mu, true_and, and_true, false_and, and_false, if_true, if_false]) <;> (repeat' split) <;> first | rfl | omega | exact (x1 q h1 h2).2.1)
  · ((simp only [du, mu, true_and, and_true, false_and, and_false, if_true, if_false]) <;> (repeat' split) <;> first | rfl | omega | exact (x1 q h1 h2).2.2)
  · ((simp only [du, mu, true_and, and_true, false_and, and_false, if_true, if_false]) <;> (repeat' split) <;> first | rfl | omega | exact x2 q r h1 h2 h3)
  · ((simp only [du, mu, true_and, and_true, false_and, and_false, if_true, if_false]) <;> (repeat' split) <;> first | rfl | omega | exact l3)
  · ((simp only [du, mu, true_and, and_true, false_and, and_false, if_true, if_false]) <;> (repeat' split) <;> first | rfl | omega | exact l4)
  · ((simp only [du, mu, true_and, and_true, false_and, and_false, if_true, if_false]) <;> (repeat' split) <;> first | rfl | omega | exact l5)
  · ((simp only [du, mu, true_and, and_true, false_and, and_false, if_true, if_false]) <;> (repeat' split) <;> first | rfl | omega | exact l6 a c ha hc)
theorem RVd.uR {d : Nat → Nat → Int32} {m : Nat → Int32} {n : Nat} (hV : RVd d m n) {p : Nat} (hp : p < n) {x : Int32} : RVd (du d 5 p x) (mu m (14 + 7 * p + 6) x) n := by
  have hn6 : n ≤ 6 := hV.1.1
  obtain ⟨⟨a1, a2, a3⟩, b, ⟨c1, c2⟩, k, g9, ⟨n1, n2, n3, n4, n5, n6⟩, ⟨x1, x2⟩, L, f, l1, l2, l3, l4, l5, l6⟩ := hV
  refine ⟨⟨a1, ?_, ?_⟩, fun q hq => ⟨?_, ?_, ?_, ?_, ?_⟩, ⟨?_, ?_⟩, fun q r hq hr hqr => ?_, fun q hq => ?_, ⟨?_, ?_, ?_, ?_, ?_, ?_⟩, ⟨fun q h1 h2 => ⟨?_, ?_, ?_⟩, fun q r h1 h2 h3 => ?_⟩, L, f, l1, l2, ?_, ?_, ?_, fun a c ha hc => ?_⟩
  · ((simp only [du, mu, true_and, and_true, false_and, and_false, if_true, if_false]) <;> (repeat' split) <;> first | rfl | omega | exact a2)
  · ((simp only [du, mu, true_and, and_true, false_and, and_false, if_true, if_false]) <;> (repeat' split) <;> first | rfl | omega | exact a3)
  · ((simp only [du, mu, true_and, and_true, false_and, and_false, if_true, if_false]) <;> (repeat' split) <;> first | rfl | omega | exact (b q hq).1)
  · ((simp only [du, mu, true_and, and_true, false_and, and_false, if_true, if_false]) <;> (repeat' split) <;> first | rfl | omega | exact (b q hq).2.1)
  · ((simp only [du, mu, true_and, and_true, false_and, and_false, if_true, if_false]) <;> (repeat' split) <;> first | rfl | omega | exact (b q hq).2.2.1)
  · ((simp only [du, mu, true_and, and_true, false_and, and_false, if_true, if_false]) <;> (repeat' split) <;> first | rfl | omega | exact (b q hq).2.2.2.1)
  · ((simp only [du, mu, true_and, and_true, false_and, and_false, if_true, if_false]) <;> (repeat' split) <;> first | rfl | omega | exact (b q hq).2.2.2.2)
  · have e : bs (fS (mu m (14 + 7 * p + 6) x)) n = bs (fS m) n := bs_congr (fun q hq => by unfold fS; rw [mu_ne (by omega)])
    rw [e]
    ((simp only [du, mu, true_and, and_true, false_and, and_false, if_true, if_false]) <;> (repeat' split) <;> first | rfl | omega | exact c1)
  · have e : bs (fB (mu m (14 + 7 * p + 6) x)) n = bs (fB m) n := bs_congr (fun q hq => by unfold fB; rw [mu_ne (by omega)])
    rw [e]
    ((simp only [du, mu, true_and, and_true, false_and, and_false, if_true, if_false]) <;> (repeat' split) <;> first | rfl | omega | exact c2)
  · ((simp only [du, mu, true_and, and_true, false_and, and_false, if_true, if_false]) <;> (repeat' split) <;> first | rfl | omega | exact k q r hq hr hqr)
  · ((simp only [du, mu, true_and, and_true, false_and, and_false, if_true, if_false]) <;> (repeat' split) <;> first | rfl | omega | exact g9 q hq)
  · ((simp only [du, mu, true_and, and_true, false_and, and_false, if_true, if_false]) <;> (repeat' split) <;> first | rfl | omega | exact n1)
  · ((simp only [du, mu, true_and, and_true, false_and, and_false, if_true, if_false]) <;> (repeat' split) <;> first | rfl | omega | exact n2)
  · ((simp only [du, mu, true_and, and_true, false_and, and_false, if_true, if_false]) <;> (repeat' split) <;> first | rfl | omega | exact n3)
  · ((simp only [du, mu, true_and, and_true, false_and, and_false, if_true, if_false]) <;> (repeat' split) <;> first | rfl | omega | exact n4)
  · ((simp only [du, mu, true_and, and_true, false_and, and_false, if_true, if_false]) <;> (repeat' split) <;> first | rfl | omega | exact n5)
  · ((simp only [du, mu, true_and, and_true, false_and, and_false, if_true, if_false]) <;> (repeat' split) <;> first | rfl | omega | exact n6)
  · ((simp only [du, mu, true_and, and_true, false_and, and_false, if_true, if_false]) <;> (repeat' split) <;> first | rfl | omega | exact (x1 q h1 h2).1)
  · ((simp only [du, mu, true_and, and_true, false_and, and_false, if_true, if_false]) <;> (repeat' split) <;> first | rfl | omega | exact (x1 q h1 h2).2.1)
  · ((simp only [du, mu, true_and, and_true, false_and, and_false, if_true, if_false]) <;> (repeat' split) <;> first | rfl | omega | exact (x1 q h1 h2).2.2)
  · ((simp only [du, mu, true_and, and_true, false_and, and_false, if_true, if_false]) <;> (repeat' split) <;> first | rfl | omega | exact x2 q r h1 h2 h3)
  · ((simp only [du, mu, true_and, and_true, false_and, and_false, if_true, if_false]) <;> (repeat' split) <;> first | rfl | omega | exact l3)
  · ((simp only [du, mu, true_and, and_true, false_and, and_false, if_true, if_false]) <;> (repeat' split) <;> first | rfl | omega | exact l4)
  · ((simp only [du, mu, true_and, and_true, false_and, and_false, if_true, if_false]) <;> (repeat' split) <;> first | rfl | omega | exact l5)
  · ((simp only [du, mu, true_and, and_true, false_and, and_false, if_true, if_false]) <;> (repeat' split) <;> first | rfl | omega | exact l6 a c ha hc)
theorem RVd.uK {d : Nat → Nat → Int32} {m : Nat → Int32} {n : Nat} (hV : RVd d m n) {p o : Nat} (hp : p < n) (ho : o < n) (hpo : p ≠ o) {x : Int32} : RVd (du d 6 (p * 6 + o) x) (mu m (63 + 7 * p + o) x) n := by
  have hn6 : n ≤ 6 := hV.1.1
  obtain ⟨⟨a1, a2, a3⟩, b, ⟨c1, c2⟩, k, g9, ⟨n1, n2, n3, n4, n5, n6⟩, ⟨x1, x2⟩, L, f, l1, l2, l3, l4, l5, l6⟩ := hV
  refine ⟨⟨a1, ?_, ?_⟩, fun q hq => ⟨?_, ?_, ?_, ?_, ?_⟩, ⟨?_, ?_⟩, fun q r hq hr hqr => ?_, fun q hq => ?_, ⟨?_, ?_, ?_, ?_, ?_, ?_⟩, ⟨fun q h1 h2 => ⟨?_, ?_, ?_⟩, fun q r h1 h2 h3 => ?_⟩, L, f, l1, l2, ?_, ?_, ?_, fun a c ha hc => ?_⟩
  · ((simp only [du, mu, true_and, and_true, false_and, and_false, if_true, if_false]) <;> (repeat' split) <;> first | rfl | omega | exact a2)
  · ((simp only [du, mu, true_and, and_true, false_and, and_false, if_true, if_false]) <;> (repeat' split) <;> first | rfl | omega | exact a3)
  · ((simp only [du, mu, true_and, and_true, false_and, and_false, if_true, if_false]) <;> (repeat' split) <;> first | rfl | omega | exact (b q hq).1)
  · ((simp only [du, mu, true_and, and_true, false_and, and_false, if_true, if_false]) <;> (repeat' split) <;> first | rfl | omega | exact (b q hq).2.1)
  · ((simp only [du, mu, true_and, and_true, false_and, and_false, if_true, if_false]) <;> (repeat' split) <;> first | rfl | omega | exact (b q hq).2.2.1)
  · ((simp only [du, mu, true_and, and_true, false_and, and_false, if_true, if_false]) <;> (repeat' split) <;> first | rfl | omega | exact (b q hq).2.2.2.1)
  · ((simp only [du, mu, true_and, and_true, false_and, and_false, if_true, if_false]) <;> (repeat' split) <;> first | rfl | omega | exact (b q hq).2.2.2.2)
  · have e : bs (fS (mu m (63 + 7 * p + o) x)) n = bs (fS m) n := bs_congr (fun q hq => by unfold fS; rw [mu_ne (by omega)])
    rw [e]
    ((simp only [du, mu, true_and, and_true, false_and, and_false, if_true, if_false]) <;> (repeat' split) <;> first | rfl | omega | exact c1)
  · have e : bs (fB (mu m (63 + 7 * p + o) x)) n = bs (fB m) n := bs_congr (fun q hq => by unfold fB; rw [mu_ne (by omega)])
    rw [e]
    ((simp only [du, mu, true_and, and_true, false_and, and_false, if_true, if_false]) <;> (repeat' split) <;> first | rfl | omega | exact c2)
  · ((simp only [du, mu, true_and, and_true, false_and, and_false, if_true, if_false]) <;> (repeat' split) <;> first | rfl | omega | exact k q r hq hr hqr)
  · ((simp only [du, mu, true_and, and_true, false_and, and_false, if_true, if_false]) <;> (repeat' split) <;> first | rfl | omega | exact g9 q hq)
  · ((simp only [du, mu, true_and, and_true, false_and, and_false, if_true, if_false]) <;> (repeat' split) <;> first | rfl | omega | exact n1)
  · ((simp only [du, mu, true_and, and_true, false_and, and_false, if_true, if_false]) <;> (repeat' split) <;> first | rfl | omega | exact n2)
  · ((simp only [du, mu, true_and, and_true, false_and, and_false, if_true, if_false]) <;> (repeat' split) <;> first | rfl | omega | exact n3)
  · ((simp only [du, mu, true_and, and_true, false_and, and_false, if_true, if_false]) <;> (repeat' split) <;> first | rfl | omega | exact n4)
  · ((simp only [du, mu, true_and, and_true, false_and, and_false, if_true, if_false]) <;> (repeat' split) <;> first | rfl | omega | exact n5)
  · ((simp only [du, mu, true_and, and_true, false_and, and_false, if_true, if_false]) <;> (repeat' split) <;> first | rfl | omega | exact n6)
  · ((simp only [du, mu, true_and, and_true, false_and, and_false, if_true, if_false]) <;> (repeat' split) <;> first | rfl | omega | exact (x1 q h1 h2).1)
  · ((simp only [du, mu, true_and, and_true, false_and, and_false, if_true, if_false]) <;> (repeat' split) <;> first | rfl | omega | exact (x1 q h1 h2).2.1)
  · ((simp only [du, mu, true_and, and_true, false_and, and_false, if_true, if_false]) <;> (repeat' split) <;> first | rfl | omega | exact (x1 q h1 h2).2.2)
  · ((simp only [du, mu, true_and, and_true, false_and, and_false, if_true, if_false]) <;> (repeat' split) <;> first | rfl | omega | exact x2 q r h1 h2 h3)
  · ((simp only [du, mu, true_and, and_true, false_and, and_false, if_true, if_false]) <;> (repeat' split) <;> first | rfl | omega | exact l3)
  · ((simp only [du, mu, true_and, and_true, false_and, and_false, if_true, if_false]) <;> (repeat' split) <;> first | rfl | omega | exact l4)
  · ((simp only [du, mu, true_and, and_true, false_and, and_false, if_true, if_false]) <;> (repeat' split) <;> first | rfl | omega | exact l5)
  · ((simp only [du, mu, true_and, and_true, false_and, and_false, if_true, if_false]) <;> (repeat' split) <;> first | rfl | omega | exact l6 a c ha hc)
theorem RVd.uG {d : Nat → Nat → Int32} {m : Nat → Int32} {n : Nat} (hV : RVd d m n) {g : Nat} (hg : g < 4) {x : Int32} : RVd (du d 7 g x) (mu m (10 + g) x) n := by
  have hn6 : n ≤ 6 := hV.1.1
  obtain ⟨⟨a1, a2, a3⟩, b, ⟨c1, c2⟩, k, g9, ⟨n1, n2, n3, n4, n5, n6⟩, ⟨x1, x2⟩, L, f, l1, l2, l3, l4, l5, l6⟩ := hV
  refine ⟨⟨a1, ?_, ?_⟩, fun q hq => ⟨?_, ?_, ?_, ?_, ?_⟩, ⟨?_, ?_⟩, fun q r hq hr hqr => ?_, fun q hq => ?_, ⟨?_, ?_, ?_, ?_, ?_, ?_⟩, ⟨fun q h1 h2 => ⟨?_, ?_, ?_⟩, fun q r h1 h2 h3 => ?_⟩, L, f, l1, l2, ?_, ?_, ?_, fun a c ha hc => ?_⟩
  · ((simp only [du, mu, true_and, and_true, false_and, and_false, if_true, if_false]) <;> (repeat' split) <;> first | rfl | omega | exact a2)
  · ((simp only [du, mu, true_and, and_true, false_and, and_false, if_true, if_false]) <;> (repeat' split) <;> first | rfl | omega | exact a3)
  · ((simp only [du, mu, true_and, and_true, false_and, and_false, if_true, if_false]) <;> (repeat' split) <;> first | rfl | omega | exact (b q hq).1)
  · ((simp only [du, mu, true_and, and_true, false_and, and_false, if_true, if_false]) <;> (repeat' split) <;> first | rfl | omega | exact (b q hq).2.1)
  · ((simp only [du, mu, true_and, and_true, false_and, and_false, if_true, if_false]) <;> (repeat' split) <;> first | rfl | omega | exact (b q hq).2.2.1)
  · ((simp only [du, mu, true_and, and_true, false_and, and_false, if_true, if_false]) <;> (repeat' split) <;> first | rfl | omega | exact (b q hq).2.2.2.1)
  · ((simp only [du, mu, true_and, and_true, false_and, and_false, if_true, if_false]) <;> (repeat' split) <;> first | rfl | omega | exact (b q hq).2.2.2.2)
  · have e : bs (fS (mu m (10 + g) x)) n = bs (fS m) n := bs_congr (fun q hq => by unfold fS; rw [mu_ne (by omega)])
    rw [e]
    ((simp only [du, mu, true_and, and_true, false_and, and_false, if_true, if_false]) <;> (repeat' split) <;> first | rfl | omega | exact c1)
  · have e : bs (fB (mu m (10 + g) x)) n = bs (fB m) n := bs_congr (fun q hq => by unfold fB; rw [mu_ne (by omega)])
    rw [e]
    ((simp only [du, mu, true_and, and_true, false_and, and_false, if_true, if_false]) <;> (repeat' split) <;> first | rfl | omega | exact c2)
  · ((simp only [du, mu, true_and, and_true, false_and, and_false, if_true, if_false]) <;> (repeat' split) <;> first | rfl | omega | exact k q r hq hr hqr)
  · ((simp only [du, mu, true_and, and_true, false_and, and_false, if_true, if_false]) <;> (repeat' split) <;> first | rfl | omega | exact g9 q hq)
  · ((simp only [du, mu, true_and, and_true, false_and, and_false, if_true, if_false]) <;> (repeat' split) <;> first | rfl | omega | exact n1)
  · ((simp only [du, mu, true_and, and_true, false_and, and_false, if_true, if_false]) <;> (repeat' split) <;> first | rfl | omega | exact n2)
  · ((simp only [du, mu, true_and, and_true, false_and, and_false, if_true, if_false]) <;> (repeat' split) <;> first | rfl | omega | exact n3)
  · ((simp only [du, mu, true_and, and_true, false_and, and_false, if_true, if_false]) <;> (repeat' split) <;> first | rfl | omega | exact n4)
  · ((simp only [du, mu, true_and, and_true, false_and, and_false, if_true, if_false]) <;> (repeat' split) <;> first | rfl | omega | exact n5)
  · ((simp only [du, mu, true_and, and_true, false_and, and_false, if_true, if_false]) <;> (repeat' split) <;> first | rfl | omega | exact n6)
  · ((simp only [du, mu, true_and, and_true, false_and, and_false, if_true, if_false]) <;> (repeat' split) <;> first | rfl | omega | exact (x1 q h1 h2).1)
  · ((simp only [du, mu, true_and, and_true, false_and, and_false, if_true, if_false]) <;> (repeat' split) <;> first | rfl | omega | exact (x1 q h1 h2).2.1)
  · ((simp only [du, mu, true_and, and_true, false_and, and_false, if_true, if_false]) <;> (repeat' split) <;> first | rfl | omega | exact (x1 q h1 h2).2.2)
  · ((simp only [du, mu, true_and, and_true, false_and, and_false, if_true, if_false]) <;> (repeat' split) <;> first | rfl | omega | exact x2 q r h1 h2 h3)
  · ((simp only [du, mu, true_and, and_true, false_and, and_false, if_true, if_false]) <;> (repeat' split) <;> first | rfl | omega | exact l3)
  · ((simp only [du, mu, true_and, and_true, false_and, and_false, if_true, if_false]) <;> (repeat' split) <;> first | rfl | omega | exact l4)
  · ((simp only [du, mu, true_and, and_true, false_and, and_false, if_true, if_false]) <;> (repeat' split) <;> first | rfl | omega | exact l5)
  · ((simp only [du, mu, true_and, and_true, false_and, and_false, if_true, if_false]) <;> (repeat' split) <;> first | rfl | omega | exact l6 a c ha hc)
theorem RVd.uFl {d : Nat → Nat → Int32} {m : Nat → Int32} {n : Nat} (hV : RVd d m n) {x : Int32} : RVd (du d 0 11 x) (mu m (5) x) n := by
  have hn6 : n ≤ 6 := hV.1.1
  obtain ⟨⟨a1, a2, a3⟩, b, ⟨c1, c2⟩, k, g9, ⟨n1, n2, n3, n4, n5, n6⟩, ⟨x1, x2⟩, L, f, l1, l2, l3, l4, l5, l6⟩ := hV
  refine ⟨⟨a1, ?_, ?_⟩, fun q hq => ⟨?_, ?_, ?_, ?_, ?_⟩, ⟨?_, ?_⟩, fun q r hq hr hqr => ?_, fun q hq => ?_, ⟨?_, ?_, ?_, ?_, ?_, ?_⟩, ⟨fun q h1 h2 => ⟨?_, ?_, ?_⟩, fun q r h1 h2 h3 => ?_⟩, L, f, l1, l2, ?_, ?_, ?_, fun a c ha hc => ?_⟩
  · ((simp only [du, mu, true_and, and_true, false_and, and_false, if_true, if_false]) <;> (repeat' split) <;> first | rfl | omega | exact a2)
  · ((simp only [du, mu, true_and, and_true, false_and, and_false, if_true, if_false]) <;> (repeat' split) <;> first | rfl | omega | exact a3)
  · ((simp only [du, mu, true_and, and_true, false_and, and_false, if_true, if_false]) <;> (repeat' split) <;> first | rfl | omega | exact (b q hq).1)
  · ((simp only [du, mu, true_and, and_true, false_and, and_false, if_true, if_false]) <;> (repeat' split) <;> first | rfl | omega | exact (b q hq).2.1)
  · ((simp only [du, mu, true_and, and_true, false_and, and_false, if_true, if_false]) <;> (repeat' split) <;> first | rfl | omega | exact (b q hq).2.2.1)
  · ((simp only [du, mu, true_and, and_true, false_and, and_false, if_true, if_false]) <;> (repeat' split) <;> first | rfl | omega | exact (b q hq).2.2.2.1)
  · ((simp only [du, mu, true_and, and_true, false_and, and_false, if_true, if_false]) <;> (repeat' split) <;> first | rfl | omega | exact (b q hq).2.2.2.2)
  · have e : bs (fS (mu m (5) x)) n = bs (fS m) n := bs_congr (fun q hq => by unfold fS; rw [mu_ne (by omega)])
    rw [e]
    ((simp only [du, mu, true_and, and_true, false_and, and_false, if_true, if_false]) <;> (repeat' split) <;> first | rfl | omega | exact c1)
  · have e : bs (fB (mu m (5) x)) n = bs (fB m) n := bs_congr (fun q hq => by unfold fB; rw [mu_ne (by omega)])
    rw [e]
    ((simp only [du, mu, true_and, and_true, false_and, and_false, if_true, if_false]) <;> (repeat' split) <;> first | rfl | omega | exact c2)
  · ((simp only [du, mu, true_and, and_true, false_and, and_false, if_true, if_false]) <;> (repeat' split) <;> first | rfl | omega | exact k q r hq hr hqr)
  · ((simp only [du, mu, true_and, and_true, false_and, and_false, if_true, if_false]) <;> (repeat' split) <;> first | rfl | omega | exact g9 q hq)
  · ((simp only [du, mu, true_and, and_true, false_and, and_false, if_true, if_false]) <;> (repeat' split) <;> first | rfl | omega | exact n1)
  · ((simp only [du, mu, true_and, and_true, false_and, and_false, if_true, if_false]) <;> (repeat' split) <;> first | rfl | omega | exact n2)
  · ((simp only [du, mu, true_and, and_true, false_and, and_false, if_true, if_false]) <;> (repeat' split) <;> first | rfl | omega | exact n3)
  · ((simp only [du, mu, true_and, and_true, false_and, and_false, if_true, if_false]) <;> (repeat' split) <;> first | rfl | omega | exact n4)
  · ((simp only [du, mu, true_and, and_true, false_and, and_false, if_true, if_false]) <;> (repeat' split) <;> first | rfl | omega | exact n5)
  · ((simp only [du, mu, true_and, and_true, false_and, and_false, if_true, if_false]) <;> (repeat' split) <;> first | rfl | omega | exact n6)
  · ((simp only [du, mu, true_and, and_true, false_and, and_false, if_true, if_false]) <;> (repeat' split) <;> first | rfl | omega | exact (x1 q h1 h2).1)
  · ((simp only [du, mu, true_and, and_true, false_and, and_false, if_true, if_false]) <;> (repeat' split) <;> first | rfl | omega | exact (x1 q h1 h2).2.1)
  · ((simp only [du, mu, true_and, and_true, false_and, and_false, if_true, if_false]) <;> (repeat' split) <;> first | rfl | omega | exact (x1 q h1 h2).2.2)
  · ((simp only [du, mu, true_and, and_true, false_and, and_false, if_true, if_false]) <;> (repeat' split) <;> first | rfl | omega | exact x2 q r h1 h2 h3)
  · ((simp only [du, mu, true_and, and_true, false_and, and_false, if_true, if_false]) <;> (repeat' split) <;> first | rfl | omega | exact l3)
  · ((simp only [du, mu, true_and, and_true, false_and, and_false, if_true, if_false]) <;> (repeat' split) <;> first | rfl | omega | exact l4)
  · ((simp only [du, mu, true_and, and_true, false_and, and_false, if_true, if_false]) <;> (repeat' split) <;> first | rfl | omega | exact l5)
  · ((simp only [du, mu, true_and, and_true, false_and, and_false, if_true, if_false]) <;> (repeat' split) <;> first | rfl | omega | exact l6 a c ha hc)
theorem RVd.uWe {d : Nat → Nat → Int32} {m : Nat → Int32} {n : Nat} (hV : RVd d m n) {x : Int32} : RVd (du d 0 12 x) (mu m (4) x) n := by
  have hn6 : n ≤ 6 := hV.1.1
  obtain ⟨⟨a1, a2, a3⟩, b, ⟨c1, c2⟩, k, g9, ⟨n1, n2, n3, n4, n5, n6⟩, ⟨x1, x2⟩, L, f, l1, l2, l3, l4, l5, l6⟩ := hV
  refine ⟨⟨a1, ?_, ?_⟩, fun q hq => ⟨?_, ?_, ?_, ?_, ?_⟩, ⟨?_, ?_⟩, fun q r hq hr hqr => ?_, fun q hq => ?_, ⟨?_, ?_, ?_, ?_, ?_, ?_⟩, ⟨fun q h1 h2 => ⟨?_, ?_, ?_⟩, fun q r h1 h2 h3 => ?_⟩, L, f, l1, l2, ?_, ?_, ?_, fun a c ha hc => ?_⟩
  · ((simp only [du, mu, true_and, and_true, false_and, and_false, if_true, if_false]) <;> (repeat' split) <;> first | rfl | omega | exact a2)
  · ((simp only [du, mu, true_and, and_true, false_and, and_false, if_true, if_false]) <;> (repeat' split) <;> first | rfl | omega | exact a3)
  · ((simp only [du, mu, true_and, and_true, false_and, and_false, if_true, if_false]) <;> (repeat' split) <;> first | rfl | omega | exact (b q hq).1)
  · ((simp only [du, mu, true_and, and_true, false_and, and_false, if_true, if_false]) <;> (repeat' split) <;> first | rfl | omega | exact (b q hq).2.1)
  · ((simp only [du, mu, true_and, and_true, false_and, and_false, if_true, if_false]) <;> (repeat' split) <;> first | rfl | omega | exact (b q hq).2.2.1)
  · ((simp only [du, mu, true_and, and_true, false_and, and_false, if_true, if_false]) <;> (repeat' split) <;> first | rfl | omega | exact (b q hq).2.2.2.1)
  · ((simp only [du, mu, true_and, and_true, false_and, and_false, if_true, if_false]) <;> (repeat' split) <;> first | rfl | omega | exact (b q hq).2.2.2.2)
  · have e : bs (fS (mu m (4) x)) n = bs (fS m) n := bs_congr (fun q hq => by unfold fS; rw [mu_ne (by omega)])
    rw [e]
    ((simp only [du, mu, true_and, and_true, false_and, and_false, if_true, if_false]) <;> (repeat' split) <;> first | rfl | omega | exact c1)
  · have e : bs (fB (mu m (4) x)) n = bs (fB m) n := bs_congr (fun q hq => by unfold fB; rw [mu_ne (by omega)])
    rw [e]
    ((simp only [du, mu, true_and, and_true, false_and, and_false, if_true, if_false]) <;> (repeat' split) <;> first | rfl | omega | exact c2)
  · ((simp only [du, mu, true_and, and_true, false_and, and_false, if_true, if_false]) <;> (repeat' split) <;> first | rfl | omega | exact k q r hq hr hqr)
  · ((simp only [du, mu, true_and, and_true, false_and, and_false, if_true, if_false]) <;> (repeat' split) <;> first | rfl | omega | exact g9 q hq)
  · ((simp only [du, mu, true_and, and_true, false_and, and_false, if_true, if_false]) <;> (repeat' split) <;> first | rfl | omega | exact n1)
  · ((simp only [du, mu, true_and, and_true, false_and, and_false, if_true, if_false]) <;> (repeat' split) <;> first | rfl | omega | exact n2)
  · ((simp only [du, mu, true_and, and_true, false_and, and_false, if_true, if_false]) <;> (repeat' split) <;> first | rfl | omega | exact n3)
  · ((simp only [du, mu, true_and, and_true, false_and, and_false, if_true, if_false]) <;> (repeat' split) <;> first | rfl | omega | exact n4)
  · ((simp only [du, mu, true_and, and_true, false_and, and_false, if_true, if_false]) <;> (repeat' split) <;> first | rfl | omega | exact n5)
  · ((simp only [du, mu, true_and, and_true, false_and, and_false, if_true, if_false]) <;> (repeat' split) <;> first | rfl | omega | exact n6)
  · ((simp only [du, mu, true_and, and_true, false_and, and_false, if_true, if_false]) <;> (repeat' split) <;> first | rfl | omega | exact (x1 q h1 h2).1)
  · ((simp only [du, mu, true_and, and_true, false_and, and_false, if_true, if_false]) <;> (repeat' split) <;> first | rfl | omega | exact (x1 q h1 h2).2.1)
  · ((simp only [du, mu, true_and, and_true, false_and, and_false, if_true, if_false]) <;> (repeat' split) <;> first | rfl | omega | exact (x1 q h1 h2).2.2)
  · ((simp only [du, mu, true_and, and_true, false_and, and_false, if_true, if_false]) <;> (repeat' split) <;> first | rfl | omega | exact x2 q r h1 h2 h3)
  · ((simp only [du, mu, true_and, and_true, false_and, and_false, if_true, if_false]) <;> (repeat' split) <;> first | rfl | omega | exact l3)
  · ((simp only [du, mu, true_and, and_true, false_and, and_false, if_true, if_false]) <;> (repeat' split) <;> first | rfl | omega | exact l4)
  · ((simp only [du, mu, true_and, and_true, false_and, and_false, if_true, if_false]) <;> (repeat' split) <;> first | rfl | omega | exact l5)
  · ((simp only [du, mu, true_and, and_true, false_and, and_false, if_true, if_false]) <;> (repeat' split) <;> first | rfl | omega | exact l6 a c ha hc)
theorem RVd.uWy {d : Nat → Nat → Int32} {m : Nat → Int32} {n : Nat} (hV : RVd d m n) {x : Int32} : RVd (du d 0 13 x) (mu m (6) x) n := by
  have hn6 : n ≤ 6 := hV.1.1
  obtain ⟨⟨a1, a2, a3⟩, b, ⟨c1, c2⟩, k, g9, ⟨n1, n2, n3, n4, n5, n6⟩, ⟨x1, x2⟩, L, f, l1, l2, l3, l4, l5, l6⟩ := hV
  refine ⟨⟨a1, ?_, ?_⟩, fun q hq => ⟨?_, ?_, ?_, ?_, ?_⟩, ⟨?_, ?_⟩, fun q r hq hr hqr => ?_, fun q hq => ?_, ⟨?_, ?_, ?_, ?_, ?_, ?_⟩, ⟨fun q h1 h2 => ⟨?_, ?_, ?_⟩, fun q r h1 h2 h3 => ?_⟩, L, f, l1, l2, ?_, ?_, ?_, fun a c ha hc => ?_⟩
  · ((simp only [du, mu, true_and, and_true, false_and, and_false, if_true, if_false]) <;> (repeat' split) <;> first | rfl | omega | exact a2)
  · ((simp only [du, mu, true_and, and_true, false_and, and_false, if_true, if_false]) <;> (repeat' split) <;> first | rfl | omega | exact a3)
  · ((simp only [du, mu, true_and, and_true, false_and, and_false, if_true, if_false]) <;> (repeat' split) <;> first | rfl | omega | exact (b q hq).1)
  · ((simp only [du, mu, true_and, and_true, false_and, and_false, if_true, if_false]) <;> (repeat' split) <;> first | rfl | omega | exact (b q hq).2.1)
  · ((simp only [du, mu, true_and, and_true, false_and, and_false, if_true, if_false]) <;> (repeat' split) <;> first | rfl | omega | exact (b q hq).2.2.1)
  · ((simp only [du, mu, true_and, and_true, false_and, and_false, if_true, if_false]) <;> (repeat' split) <;> first | rfl | omega | exact (b q hq).2.2.2.1)
  · ((simp only [du, mu, true_and, and_true, false_and, and_false, if_true, if_false]) <;> (repeat' split) <;> first | rfl | omega | exact (b q hq).2.2.2.2)
  · have e : bs (fS (mu m (6) x)) n = bs (fS m) n := bs_congr (fun q hq => by unfold fS; rw [mu_ne (by omega)])
    rw [e]
    ((simp only [du, mu, true_and, and_true, false_and, and_false, if_true, if_false]) <;> (repeat' split) <;> first | rfl | omega | exact c1)
  · have e : bs (fB (mu m (6) x)) n = bs (fB m) n := bs_congr (fun q hq => by unfold fB; rw [mu_ne (by omega)])
    rw [e]
    ((simp only [du, mu, true_and, and_true, false_and, and_false, if_true, if_false]) <;> (repeat' split) <;> first | rfl | omega | exact c2)
  · ((simp only [du, mu, true_and, and_true, false_and, and_false, if_true, if_false]) <;> (repeat' split) <;> first | rfl | omega | exact k q r hq hr hqr)
  · ((simp only [du, mu, true_and, and_true, false_and, and_false, if_true, if_false]) <;> (repeat' split) <;> first | rfl | omega | exact g9 q hq)
  · ((simp only [du, mu, true_and, and_true, false_and, and_false, if_true, if_false]) <;> (repeat' split) <;> first | rfl | omega | exact n1)
  · ((simp only [du, mu, true_and, and_true, false_and, and_false, if_true, if_false]) <;> (repeat' split) <;> first | rfl | omega | exact n2)
  · ((simp only [du, mu, true_and, and_true, false_and, and_false, if_true, if_false]) <;> (repeat' split) <;> first | rfl | omega | exact n3)
  · ((simp only [du, mu, true_and, and_true, false_and, and_false, if_true, if_false]) <;> (repeat' split) <;> first | rfl | omega | exact n4)
  · ((simp only [du, mu, true_and, and_true, false_and, and_false, if_true, if_false]) <;> (repeat' split) <;> first | rfl | omega | exact n5)
  · ((simp only [du, mu, true_and, and_true, false_and, and_false, if_true, if_false]) <;> (repeat' split) <;> first | rfl | omega | exact n6)
  · ((simp only [du, mu, true_and, and_true, false_and, and_false, if_true, if_false]) <;> (repeat' split) <;> first | rfl | omega | exact (x1 q h1 h2).1)
  · ((simp only [du, mu, true_and, and_true, false_and, and_false, if_true, if_false]) <;> (repeat' split) <;> first | rfl | omega | exact (x1 q h1 h2).2.1)
  · ((simp only [du, mu, true_and, and_true, false_and, and_false, if_true, if_false]) <;> (repeat' split) <;> first | rfl | omega | exact (x1 q h1 h2).2.2)
  · ((simp only [du, mu, true_and, and_true, false_and, and_false, if_true, if_false]) <;> (repeat' split) <;> first | rfl | omega | exact x2 q r h1 h2 h3)
  · ((simp only [du, mu, true_and, and_true, false_and, and_false, if_true, if_false]) <;> (repeat' split) <;> first | rfl | omega | exact l3)
  · ((simp only [du, mu, true_and, and_true, false_and, and_false, if_true, if_false]) <;> (repeat' split) <;> first | rfl | omega | exact l4)
  · ((simp only [du, mu, true_and, and_true, false_and, and_false, if_true, if_false]) <;> (repeat' split) <;> first | rfl | omega | exact l5)
  · ((simp only [du, mu, true_and, and_true, false_and, and_false, if_true, if_false]) <;> (repeat' split) <;> first | rfl | omega | exact l6 a c ha hc)
theorem RVd.uSp {d : Nat → Nat → Int32} {m : Nat → Int32} {n : Nat} (hV : RVd d m n) {x : Int32} : RVd (du d 0 14 x) (mu m (7) x) n := by
  have hn6 : n ≤ 6 := hV.1.1
  obtain ⟨⟨a1, a2, a3⟩, b, ⟨c1, c2⟩, k, g9, ⟨n1, n2, n3, n4, n5, n6⟩, ⟨x1, x2⟩, L, f, l1, l2, l3, l4, l5, l6⟩ := hV
  refine ⟨⟨a1, ?_, ?_⟩, fun q hq => ⟨?_, ?_, ?_, ?_, ?_⟩, ⟨?_, ?_⟩, fun q r hq hr hqr => ?_, fun q hq => ?_, ⟨?_, ?_, ?_, ?_, ?_, ?_⟩, ⟨fun q h1 h2 => ⟨?_, ?_, ?_⟩, fun q r h1 h2 h3 => ?_⟩, L, f, l1, l2, ?_, ?_, ?_, fun a c ha hc => ?_⟩
  · ((simp only [du, mu, true_and, and_true, false_and, and_false, if_true, if_false]) <;> (repeat' split) <;> first | rfl | omega | exact a2)
  · ((simp only [du, mu, true_and, and_true, false_and, and_false, if_true, if_false]) <;> (repeat' split) <;> first | rfl | omega | exact a3)
  · ((simp only [du, mu, true_and, and_true, false_and, and_false, if_true, if_false]) <;> (repeat' split) <;> first | rfl | omega | exact (b q hq).1)
  · ((simp only [du, mu, true_and, and_true, false_and, and_false, if_true, if_false]) <;> (repeat' split) <;> first | rfl | omega | exact (b q hq).2.1)
  · ((simp only [du, mu, true_and, and_true, false_and, and_false, if_true, if_false]) <;> (repeat' split) <;> first | rfl | omega | exact (b q hq).2.2.1)
  · ((simp only [du, mu, true_and, and_true, false_and, and_false, if_true, if_false]) <;> (repeat' split) <;> first | rfl | omega | exact (b q hq).2.2.2.1)
  · ((simp only [du, mu, true_and, and_true, false_and, and_false, if_true, if_false]) <;> (repeat' split) <;> first | rfl | omega | exact (b q hq).2.2.2.2)
  · have e : bs (fS (mu m (7) x)) n = bs (fS m) n := bs_congr (fun q hq => by unfold fS; rw [mu_ne (by omega)])
    rw [e]
    ((simp only [du, mu, true_and, and_true, false_and, and_false, if_true, if_false]) <;> (repeat' split) <;> first | rfl | omega | exact c1)
  · have e : bs (fB (mu m (7) x)) n = bs (fB m) n := bs_congr (fun q hq => by unfold fB; rw [mu_ne (by omega)])
    rw [e]
    ((simp only [du, mu, true_and, and_true, false_and, and_false, if_true, if_false]) <;> (repeat' split) <;> first | rfl | omega | exact c2)
  · ((simp only [du, mu, true_and, and_true, false_and, and_false, if_true, if_false]) <;> (repeat' split) <;> first | rfl | omega | exact k q r hq hr hqr)
  · ((simp only [du, mu, true_and, and_true, false_and, and_false, if_true, if_false]) <;> (repeat' split) <;> first | rfl | omega | exact g9 q hq)
  · ((simp only [du, mu, true_and, and_true, false_and, and_false, if_true, if_false]) <;> (repeat' split) <;> first | rfl | omega | exact n1)
  · ((simp only [du, mu, true_and, and_true, false_and, and_false, if_true, if_false]) <;> (repeat' split) <;> first | rfl | omega | exact n2)
  · ((simp only [du, mu, true_and, and_true, false_and, and_false, if_true, if_false]) <;> (repeat' split) <;> first | rfl | omega | exact n3)
  · ((simp only [du, mu, true_and, and_true, false_and, and_false, if_true, if_false]) <;> (repeat' split) <;> first | rfl | omega | exact n4)
  · ((simp only [du, mu, true_and, and_true, false_and, and_false, if_true, if_false]) <;> (repeat' split) <;> first | rfl | omega | exact n5)
  · ((simp only [du, mu, true_and, and_true, false_and, and_false, if_true, if_false]) <;> (repeat' split) <;> first | rfl | omega | exact n6)
  · ((simp only [du, mu, true_and, and_true, false_and, and_false, if_true, if_false]) <;> (repeat' split) <;> first | rfl | omega | exact (x1 q h1 h2).1)
  · ((simp only [du, mu, true_and, and_true, false_and, and_false, if_true, if_false]) <;> (repeat' split) <;> first | rfl | omega | exact (x1 q h1 h2).2.1)
  · ((simp only [du, mu, true_and, and_true, false_and, and_false, if_true, if_false]) <;> (repeat' split) <;> first | rfl | omega | exact (x1 q h1 h2).2.2)
  · ((simp only [du, mu, true_and, and_true, false_and, and_false, if_true, if_false]) <;> (repeat' split) <;> first | rfl | omega | exact x2 q r h1 h2 h3)
  · ((simp only [du, mu, true_and, and_true, false_and, and_false, if_true, if_false]) <;> (repeat' split) <;> first | rfl | omega | exact l3)
  · ((simp only [du, mu, true_and, and_true, false_and, and_false, if_true, if_false]) <;> (repeat' split) <;> first | rfl | omega | exact l4)
  · ((simp only [du, mu, true_and, and_true, false_and, and_false, if_true, if_false]) <;> (repeat' split) <;> first | rfl | omega | exact l5)
  · ((simp only [du, mu, true_and, and_true, false_and, and_false, if_true, if_false]) <;> (repeat' split) <;> first | rfl | omega | exact l6 a c ha hc)
theorem RVd.uSd {d : Nat → Nat → Int32} {m : Nat → Int32} {n : Nat} (hV : RVd d m n) {x : Int32} : RVd (du d 0 15 x) (mu m (9) x) n := by
  have hn6 : n ≤ 6 := hV.1.1
  obtain ⟨⟨a1, a2, a3⟩, b, ⟨c1, c2⟩, k, g9, ⟨n1, n2, n3, n4, n5, n6⟩, ⟨x1, x2⟩, L, f, l1, l2, l3, l4, l5, l6⟩ := hV
  refine ⟨⟨a1, ?_, ?_⟩, fun q hq => ⟨?_, ?_, ?_, ?_, ?_⟩, ⟨?_, ?_⟩, fun q r hq hr hqr => ?_, fun q hq => ?_, ⟨?_, ?_, ?_, ?_, ?_, ?_⟩, ⟨fun q h1 h2 => ⟨?_, ?_, ?_⟩, fun q r h1 h2 h3 => ?_⟩, L, f, l1, l2, ?_, ?_, ?_, fun a c ha hc => ?_⟩
  · ((simp only [du, mu, true_and, and_true, false_and, and_false, if_true, if_false]) <;> (repeat' split) <;> first | rfl | omega | exact a2)
  · ((simp only [du, mu, true_and, and_true, false_and, and_false, if_true, if_false]) <;> (repeat' split) <;> first | rfl | omega | exact a3)
  · ((simp only [du, mu, true_and, and_true, false_and, and_false, if_true, if_false]) <;> (repeat' split) <;> first | rfl | omega | exact (b q hq).1)
  · ((simp only [du, mu, true_and, and_true, false_and, and_false, if_true, if_false]) <;> (repeat' split) <;> first | rfl | omega | exact (b q hq).2.1)
  · ((simp only [du, mu, true_and, and_true, false_and, and_false, if_true, if_false]) <;> (repeat' split) <;> first | rfl | omega | exact (b q hq).2.2.1)
  · ((simp only [du, mu, true_and, and_true, false_and, and_false, if_true, if_false]) <;> (repeat' split) <;> first | rfl | omega | exact (b q hq).2.2.2.1)
  · ((simp only [du, mu, true_and, and_true, false_and, and_false, if_true, if_false]) <;> (repeat' split) <;> first | rfl | omega | exact (b q hq).2.2.2.2)
  · have e : bs (fS (mu m (9) x)) n = bs (fS m) n := bs_congr (fun q hq => by unfold fS; rw [mu_ne (by omega)])
    rw [e]
    ((simp only [du, mu, true_and, and_true, false_and, and_false, if_true, if_false]) <;> (repeat' split) <;> first | rfl | omega | exact c1)
  · have e : bs (fB (mu m (9) x)) n = bs (fB m) n := bs_congr (fun q hq => by unfold fB; rw [mu_ne (by omega)])
    rw [e]
    ((simp only [du, mu, true_and, and_true, false_and, and_false, if_true, if_false]) <;> (repeat' split) <;> first | rfl | omega | exact c2)
  · ((simp only [du, mu, true_and, and_true, false_and, and_false, if_true, if_false]) <;> (repeat' split) <;> first | rfl | omega | exact k q r hq hr hqr)
  · ((simp only [du, mu, true_and, and_true, false_and, and_false, if_true, if_false]) <;> (repeat' split) <;> first | rfl | omega | exact g9 q hq)
  · ((simp only [du, mu, true_and, and_true, false_and, and_false, if_true, if_false]) <;> (repeat' split) <;> first | rfl | omega | exact n1)
  · ((simp only [du, mu, true_and, and_true, false_and, and_false, if_true, if_false]) <;> (repeat' split) <;> first | rfl | omega | exact n2)
  · ((simp only [du, mu, true_and, and_true, false_and, and_false, if_true, if_false]) <;> (repeat' split) <;> first | rfl | omega | exact n3)
  · ((simp only [du, mu, true_and, and_true, false_and, and_false, if_true, if_false]) <;> (repeat' split) <;> first | rfl | omega | exact n4)
  · ((simp only [du, mu, true_and, and_true, false_and, and_false, if_true, if_false]) <;> (repeat' split) <;> first | rfl | omega | exact n5)
  · ((simp only [du, mu, true_and, and_true, false_and, and_false, if_true, if_false]) <;> (repeat' split) <;> first | rfl | omega | exact n6)
  · ((simp only [du, mu, true_and, and_true, false_and, and_false, if_true, if_false]) <;> (repeat' split) <;> first | rfl | omega | exact (x1 q h1 h2).1)
  · ((simp only [du, mu, true_and, and_true, false_and, and_false, if_true, if_false]) <;> (repeat' split) <;> first | rfl | omega | exact (x1 q h1 h2).2.1)
  · ((simp only [du, mu, true_and, and_true, false_and, and_false, if_true, if_false]) <;> (repeat' split) <;> first | rfl | omega | exact (x1 q h1 h2).2.2)
  · ((simp only [du, mu, true_and, and_true, false_and, and_false, if_true, if_false]) <;> (repeat' split) <;> first | rfl | omega | exact x2 q r h1 h2 h3)
  · ((simp only [du, mu, true_and, and_true, false_and, and_false, if_true, if_false]) <;> (repeat' split) <;> first | rfl | omega | exact l3)
  · ((simp only [du, mu, true_and, and_true, false_and, and_false, if_true, if_false]) <;> (repeat' split) <;> first | rfl | omega | exact l4)
  · ((simp only [du, mu, true_and, and_true, false_and, and_false, if_true, if_false]) <;> (repeat' split) <;> first | rfl | omega | exact l5)
  · ((simp only [du, mu, true_and, and_true, false_and, and_false, if_true, if_false]) <;> (repeat' split) <;> first | rfl | omega | exact l6 a c ha hc)
theorem RVd.uTx {d : Nat → Nat → Int32} {m : Nat → Int32} {n : Nat} (hV : RVd d m n) {x : Int32} : RVd (du d 0 16 x) (mu m (0) x) n := by
  have hn6 : n ≤ 6 := hV.1.1
  obtain ⟨⟨a1, a2, a3⟩, b, ⟨c1, c2⟩, k, g9, ⟨n1, n2, n3, n4, n5, n6⟩, ⟨x1, x2⟩, L, f, l1, l2, l3, l4, l5, l6⟩ := hV
  refine ⟨⟨a1, ?_, ?_⟩, fun q hq => ⟨?_, ?_, ?_, ?_, ?_⟩, ⟨?_, ?_⟩, fun q r hq hr hqr => ?_, fun q hq => ?_, ⟨?_, ?_, ?_, ?_, ?_, ?_⟩, ⟨fun q h1 h2 => ⟨?_, ?_, ?_⟩, fun q r h1 h2 h3 => ?_⟩, L, f, l1, l2, ?_, ?_, ?_, fun a c ha hc => ?_⟩
  · ((simp only [du, mu, true_and, and_true, false_and, and_false, if_true, if_false]) <;> (repeat' split) <;> first | rfl | omega | exact a2)
  · ((simp only [du, mu, true_and, and_true, false_and, and_false, if_true, if_false]) <;> (repeat' split) <;> first | rfl | omega | exact a3)
  · ((simp only [du, mu, true_and, and_true, false_and, and_false, if_true, if_false]) <;> (repeat' split) <;> first | rfl | omega | exact (b q hq).1)
  · ((simp only [du, mu, true_and, and_true, false_and, and_false, if_true, if_false]) <;> (repeat' split) <;> first | rfl | omega | exact (b q hq).2.1)
  · ((simp only [du, mu, true_and, and_true, false_and, and_false, if_true, if_false]) <;> (repeat' split) <;> first | rfl | omega | exact (b q hq).2.2.1)
  · ((simp only [du, mu, true_and, and_true, false_and, and_false, if_true, if_false]) <;> (repeat' split) <;> first | rfl | omega | exact (b q hq).2.2.2.1)
  · ((simp only [du, mu, true_and, and_true, false_and, and_false, if_true, if_false]) <;> (repeat' split) <;> first | rfl | omega | exact (b q hq).2.2.2.2)
  · have e : bs (fS (mu m (0) x)) n = bs (fS m) n := bs_congr (fun q hq => by unfold fS; rw [mu_ne (by omega)])
    rw [e]
    ((simp only [du, mu, true_and, and_true, false_and, and_false, if_true, if_false]) <;> (repeat' split) <;> first | rfl | omega | exact c1)
  · have e : bs (fB (mu m (0) x)) n = bs (fB m) n := bs_congr (fun q hq => by unfold fB; rw [mu_ne (by omega)])
    rw [e]
    ((simp only [du, mu, true_and, and_true, false_and, and_false, if_true, if_false]) <;> (repeat' split) <;> first | rfl | omega | exact c2)
  · ((simp only [du, mu, true_and, and_true, false_and, and_false, if_true, if_false]) <;> (repeat' split) <;> first | rfl | omega | exact k q r hq hr hqr)
  · ((simp only [du, mu, true_and, and_true, false_and, and_false, if_true, if_false]) <;> (repeat' split) <;> first | rfl | omega | exact g9 q hq)
  · ((simp only [du, mu, true_and, and_true, false_and, and_false, if_true, if_false]) <;> (repeat' split) <;> first | rfl | omega | exact n1)
  · ((simp only [du, mu, true_and, and_true, false_and, and_false, if_true, if_false]) <;> (repeat' split) <;> first | rfl | omega | exact n2)
  · ((simp only [du, mu, true_and, and_true, false_and, and_false, if_true, if_false]) <;> (repeat' split) <;> first | rfl | omega | exact n3)
  · ((simp only [du, mu, true_and, and_true, false_and, and_false, if_true, if_false]) <;> (repeat' split) <;> first | rfl | omega | exact n4)
  · ((simp only [du, mu, true_and, and_true, false_and, and_false, if_true, if_false]) <;> (repeat' split) <;> first | rfl | omega | exact n5)
  · ((simp only [du, mu, true_and, and_true, false_and, and_false, if_true, if_false]) <;> (repeat' split) <;> first | rfl | omega | exact n6)
  · ((simp only [du, mu, true_and, and_true, false_and, and_false, if_true, if_false]) <;> (repeat' split) <;> first | rfl | omega | exact (x1 q h1 h2).1)
  · ((simp only [du, mu, true_and, and_true, false_and, and_false, if_true, if_false]) <;> (repeat' split) <;> first | rfl | omega | exact (x1 q h1 h2).2.1)
  · ((simp only [du, mu, true_and, and_true, false_and, and_false, if_true, if_false]) <;> (repeat' split) <;> first | rfl | omega | exact (x1 q h1 h2).2.2)
  · ((simp only [du, mu, true_and, and_true, false_and, and_false, if_true, if_false]) <;> (repeat' split) <;> first | rfl | omega | exact x2 q r h1 h2 h3)
  · ((simp only [du, mu, true_and, and_true, false_and, and_false, if_true, if_false]) <;> (repeat' split) <;> first | rfl | omega | exact l3)
  · ((simp only [du, mu, true_and, and_true, false_and, and_false, if_true, if_false]) <;> (repeat' split) <;> first | rfl | omega | exact l4)
  · ((simp only [du, mu, true_and, and_true, false_and, and_false, if_true, if_false]) <;> (repeat' split) <;> first | rfl | omega | exact l5)
  · ((simp only [du, mu, true_and, and_true, false_and, and_false, if_true, if_false]) <;> (repeat' split) <;> first | rfl | omega | exact l6 a c ha hc)
theorem WFm.uH {m : Nat → Int32} {n : Nat} (hn6 : n ≤ 6) (hW : WFm m n) {p : Nat} (hp : p < n) {x : Int32} (hx : inR x 9) : WFm (mu m (14 + 7 * p) x) n := by
  obtain ⟨a, b, c, d1, d2, d3, d4, d5⟩ := hW
  refine ⟨fun q hq => ⟨?_, ?_, ?_, ?_, ?_, ?_, ?_⟩, fun q r hq hr hqr => ?_, fun q hq => ?_, ?_, ?_, ?_, ?_, ?_⟩
  · (simp only [mu]; split <;> first | omega | exact (a q hq).1 | exact hx)
  · (simp only [mu]; split <;> first | omega | exact (a q hq).2.1 | exact hx)
  · (simp only [mu]; split <;> first | omega | exact (a q hq).2.2.1 | exact hx)
  · (simp only [mu]; split <;> first | omega | exact (a q hq).2.2.2.1 | exact hx)
  · (simp only [mu]; split <;> first | omega | exact (a q hq).2.2.2.2.1 | exact hx)
  · (simp only [mu]; split <;> first | omega | exact (a q hq).2.2.2.2.2.1 | exact hx)
  · (simp only [mu]; split <;> first | omega | exact (a q hq).2.2.2.2.2.2 | exact hx)
  · (simp only [mu]; split <;> first | omega | exact b q r hq hr hqr | exact hx)
  · (simp only [mu]; split <;> first | omega | exact c q hq | exact hx)
  · (simp only [mu]; split <;> first | omega | exact d1 | exact hx)
  · (simp only [mu]; split <;> first | omega | exact d2 | exact hx)
  · (simp only [mu]; split <;> first | omega | exact d3 | exact hx)
  · (simp only [mu]; split <;> first | omega | exact d4 | exact hx)
  · (simp only [mu]; split <;> first | omega | exact d5 | exact hx)
theorem WFm.uP {m : Nat → Int32} {n : Nat} (hn6 : n ≤ 6) (hW : WFm m n) {p : Nat} (hp : p < n) {x : Int32} (hx : inR x 2) : WFm (mu m (14 + 7 * p + 1) x) n := by
  obtain ⟨a, b, c, d1, d2, d3, d4, d5⟩ := hW
  refine ⟨fun q hq => ⟨?_, ?_, ?_, ?_, ?_, ?_, ?_⟩, fun q r hq hr hqr => ?_, fun q hq => ?_, ?_, ?_, ?_, ?_, ?_⟩
  · (simp only [mu]; split <;> first | omega | exact (a q hq).1 | exact hx)
  · (simp only [mu]; split <;> first | omega | exact (a q hq).2.1 | exact hx)
  · (simp only [mu]; split <;> first | omega | exact (a q hq).2.2.1 | exact hx)
  · (simp only [mu]; split <;> first | omega | exact (a q hq).2.2.2.1 | exact hx)
  · (simp only [mu]; split <;> first | omega | exact (a q hq).2.2.2.2.1 | exact hx)
  · (simp only [mu]; split <;> first | omega | exact (a q hq).2.2.2.2.2.1 | exact hx)
  · (simp only [mu]; split <;> first | omega | exact (a q hq).2.2.2.2.2.2 | exact hx)
  · (simp only [mu]; split <;> first | omega | exact b q r hq hr hqr | exact hx)
  · (simp only [mu]; split <;> first | omega | exact c q hq | exact hx)
  · (simp only [mu]; split <;> first | omega | exact d1 | exact hx)
  · (simp only [mu]; split <;> first | omega | exact d2 | exact hx)
  · (simp only [mu]; split <;> first | omega | exact d3 | exact hx)
  · (simp only [mu]; split <;> first | omega | exact d4 | exact hx)
  · (simp only [mu]; split <;> first | omega | exact d5 | exact hx)
theorem WFm.uD {m : Nat → Int32} {n : Nat} (hn6 : n ≤ 6) (hW : WFm m n) {p : Nat} (hp : p < n) {x : Int32} (hx : inR x 999) : WFm (mu m (14 + 7 * p + 5) x) n := by
  obtain ⟨a, b, c, d1, d2, d3, d4, d5⟩ := hW
  refine ⟨fun q hq => ⟨?_, ?_, ?_, ?_, ?_, ?_, ?_⟩, fun q r hq hr hqr => ?_, fun q hq => ?_, ?_, ?_, ?_, ?_, ?_⟩
  · (simp only [mu]; split <;> first | omega | exact (a q hq).1 | exact hx)
  · (simp only [mu]; split <;> first | omega | exact (a q hq).2.1 | exact hx)
  · (simp only [mu]; split <;> first | omega | exact (a q hq).2.2.1 | exact hx)
  · (simp only [mu]; split <;> first | omega | exact (a q hq).2.2.2.1 | exact hx)
  · (simp only [mu]; split <;> first | omega | exact (a q hq).2.2.2.2.1 | exact hx)
  · (simp only [mu]; split <;> first | omega | exact (a q hq).2.2.2.2.2.1 | exact hx)
  · (simp only [mu]; split <;> first | omega | exact (a q hq).2.2.2.2.2.2 | exact hx)
  · (simp only [mu]; split <;> first | omega | exact b q r hq hr hqr | exact hx)
  · (simp only [mu]; split <;> first | omega | exact c q hq | exact hx)
  · (simp only [mu]; split <;> first | omega | exact d1 | exact hx)
  · (simp only [mu]; split <;> first | omega | exact d2 | exact hx)
  · (simp only [mu]; split <;> first | omega | exact d3 | exact hx)
  · (simp only [mu]; split <;> first | omega | exact d4 | exact hx)
  · (simp only [mu]; split <;> first | omega | exact d5 | exact hx)
theorem WFm.uR {m : Nat → Int32} {n : Nat} (hn6 : n ≤ 6) (hW : WFm m n) {p : Nat} (hp : p < n) {x : Int32} (hx : inR x 99) : WFm (mu m (14 + 7 * p + 6) x) n := by
  obtain ⟨a, b, c, d1, d2, d3, d4, d5⟩ := hW
  refine ⟨fun q hq => ⟨?_, ?_, ?_, ?_, ?_, ?_, ?_⟩, fun q r hq hr hqr => ?_, fun q hq => ?_, ?_, ?_, ?_, ?_, ?_⟩
  · (simp only [mu]; split <;> first | omega | exact (a q hq).1 | exact hx)
  · (simp only [mu]; split <;> first | omega | exact (a q hq).2.1 | exact hx)
  · (simp only [mu]; split <;> first | omega | exact (a q hq).2.2.1 | exact hx)
  · (simp only [mu]; split <;> first | omega | exact (a q hq).2.2.2.1 | exact hx)
  · (simp only [mu]; split <;> first | omega | exact (a q hq).2.2.2.2.1 | exact hx)
  · (simp only [mu]; split <;> first | omega | exact (a q hq).2.2.2.2.2.1 | exact hx)
  · (simp only [mu]; split <;> first | omega | exact (a q hq).2.2.2.2.2.2 | exact hx)
  · (simp only [mu]; split <;> first | omega | exact b q r hq hr hqr | exact hx)
  · (simp only [mu]; split <;> first | omega | exact c q hq | exact hx)
  · (simp only [mu]; split <;> first | omega | exact d1 | exact hx)
  · (simp only [mu]; split <;> first | omega | exact d2 | exact hx)
  · (simp only [mu]; split <;> first | omega | exact d3 | exact hx)
  · (simp only [mu]; split <;> first | omega | exact d4 | exact hx)
  · (simp only [mu]; split <;> first | omega | exact d5 | exact hx)
theorem WFm.uK {m : Nat → Int32} {n : Nat} (hn6 : n ≤ 6) (hW : WFm m n) {p o : Nat} (hp : p < n) (ho : o < n) (hpo : p ≠ o) {x : Int32} (hx : inR x 9) : WFm (mu m (63 + 7 * p + o) x) n := by
  obtain ⟨a, b, c, d1, d2, d3, d4, d5⟩ := hW
  refine ⟨fun q hq => ⟨?_, ?_, ?_, ?_, ?_, ?_, ?_⟩, fun q r hq hr hqr => ?_, fun q hq => ?_, ?_, ?_, ?_, ?_, ?_⟩
  · (simp only [mu]; split <;> first | omega | exact (a q hq).1 | exact hx)
  · (simp only [mu]; split <;> first | omega | exact (a q hq).2.1 | exact hx)
  · (simp only [mu]; split <;> first | omega | exact (a q hq).2.2.1 | exact hx)
  · (simp only [mu]; split <;> first | omega | exact (a q hq).2.2.2.1 | exact hx)
  · (simp only [mu]; split <;> first | omega | exact (a q hq).2.2.2.2.1 | exact hx)
  · (simp only [mu]; split <;> first | omega | exact (a q hq).2.2.2.2.2.1 | exact hx)
  · (simp only [mu]; split <;> first | omega | exact (a q hq).2.2.2.2.2.2 | exact hx)
  · (simp only [mu]; split <;> first | omega | exact b q r hq hr hqr | exact hx)
  · (simp only [mu]; split <;> first | omega | exact c q hq | exact hx)
  · (simp only [mu]; split <;> first | omega | exact d1 | exact hx)
  · (simp only [mu]; split <;> first | omega | exact d2 | exact hx)
  · (simp only [mu]; split <;> first | omega | exact d3 | exact hx)
  · (simp only [mu]; split <;> first | omega | exact d4 | exact hx)
  · (simp only [mu]; split <;> first | omega | exact d5 | exact hx)
theorem WFm.uG {m : Nat → Int32} {n : Nat} (hn6 : n ≤ 6) (hW : WFm m n) {g : Nat} (hg : g < 4) {x : Int32} (hx : inR x 99) : WFm (mu m (10 + g) x) n := by
  obtain ⟨a, b, c, d1, d2, d3, d4, d5⟩ := hW
  refine ⟨fun q hq => ⟨?_, ?_, ?_, ?_, ?_, ?_, ?_⟩, fun q r hq hr hqr => ?_, fun q hq => ?_, ?_, ?_, ?_, ?_, ?_⟩
  · (simp only [mu]; split <;> first | omega | exact (a q hq).1 | exact hx)
  · (simp only [mu]; split <;> first | omega | exact (a q hq).2.1 | exact hx)
  · (simp only [mu]; split <;> first | omega | exact (a q hq).2.2.1 | exact hx)
  · (simp only [mu]; split <;> first | omega | exact (a q hq).2.2.2.1 | exact hx)
  · (simp only [mu]; split <;> first | omega | exact (a q hq).2.2.2.2.1 | exact hx)
  · (simp only [mu]; split <;> first | omega | exact (a q hq).2.2.2.2.2.1 | exact hx)
  · (simp only [mu]; split <;> first | omega | exact (a q hq).2.2.2.2.2.2 | exact hx)
  · (simp only [mu]; split <;> first | omega | exact b q r hq hr hqr | exact hx)
  · (simp only [mu]; split <;> first | omega | exact c q hq | exact hx)
  · (simp only [mu]; split <;> first | omega | exact d1 | exact hx)
  · (simp only [mu]; split <;> first | omega | exact d2 | exact hx)
  · (simp only [mu]; split <;> first | omega | exact d3 | exact hx)
  · (simp only [mu]; split <;> first | omega | exact d4 | exact hx)
  · (simp only [mu]; split <;> first | omega | exact d5 | exact hx)
theorem WFm.uFl {m : Nat → Int32} {n : Nat} (hn6 : n ≤ 6) (hW : WFm m n) {x : Int32} (hx : inR x 9999) : WFm (mu m (5) x) n := by
  obtain ⟨a, b, c, d1, d2, d3, d4, d5⟩ := hW
  refine ⟨fun q hq => ⟨?_, ?_, ?_, ?_, ?_, ?_, ?_⟩, fun q r hq hr hqr => ?_, fun q hq => ?_, ?_, ?_, ?_, ?_, ?_⟩
  · (simp only [mu]; split <;> first | omega | exact (a q hq).1 | exact hx)
  · (simp only [mu]; split <;> first | omega | exact (a q hq).2.1 | exact hx)
  · (simp only [mu]; split <;> first | omega | exact (a q hq).2.2.1 | exact hx)
  · (simp only [mu]; split <;> first | omega | exact (a q hq).2.2.2.1 | exact hx)
  · (simp only [mu]; split <;> first | omega | exact (a q hq).2.2.2.2.1 | exact hx)
  · (simp only [mu]; split <;> first | omega | exact (a q hq).2.2.2.2.2.1 | exact hx)
  · (simp only [mu]; split <;> first | omega | exact (a q hq).2.2.2.2.2.2 | exact hx)
  · (simp only [mu]; split <;> first | omega | exact b q r hq hr hqr | exact hx)
  · (simp only [mu]; split <;> first | omega | exact c q hq | exact hx)
  · (simp only [mu]; split <;> first | omega | exact d1 | exact hx)
  · (simp only [mu]; split <;> first | omega | exact d2 | exact hx)
  · (simp only [mu]; split <;> first | omega | exact d3 | exact hx)
  · (simp only [mu]; split <;> first | omega | exact d4 | exact hx)
  · (simp only [mu]; split <;> first | omega | exact d5 | exact hx)
theorem WFm.uWe {m : Nat → Int32} {n : Nat} (hn6 : n ≤ 6) (hW : WFm m n) {x : Int32} (hx : inR x 9999) : WFm (mu m (4) x) n := by
  obtain ⟨a, b, c, d1, d2, d3, d4, d5⟩ := hW
  refine ⟨fun q hq => ⟨?_, ?_, ?_, ?_, ?_, ?_, ?_⟩, fun q r hq hr hqr => ?_, fun q hq => ?_, ?_, ?_, ?_, ?_, ?_⟩
  · (simp only [mu]; split <;> first | omega | exact (a q hq).1 | exact hx)
  · (simp only [mu]; split <;> first | omega | exact (a q hq).2.1 | exact hx)
  · (simp only [mu]; split <;> first | omega | exact (a q hq).2.2.1 | exact hx)
  · (simp only [mu]; split <;> first | omega | exact (a q hq).2.2.2.1 | exact hx)
  · (simp only [mu]; split <;> first | omega | exact (a q hq).2.2.2.2.1 | exact hx)
  · (simp only [mu]; split <;> first | omega | exact (a q hq).2.2.2.2.2.1 | exact hx)
  · (simp only [mu]; split <;> first | omega | exact (a q hq).2.2.2.2.2.2 | exact hx)
  · (simp only [mu]; split <;> first | omega | exact b q r hq hr hqr | exact hx)
  · (simp only [mu]; split <;> first | omega | exact c q hq | exact hx)
  · (simp only [mu]; split <;> first | omega | exact d1 | exact hx)
  · (simp only [mu]; split <;> first | omega | exact d2 | exact hx)
  · (simp only [mu]; split <;> first | omega | exact d3 | exact hx)
  · (simp only [mu]; split <;> first | omega | exact d4 | exact hx)
  · (simp only [mu]; split <;> first | omega | exact d5 | exact hx)
theorem WFm.uWy {m : Nat → Int32} {n : Nat} (hn6 : n ≤ 6) (hW : WFm m n) {x : Int32} (hx : inR x 5) : WFm (mu m (6) x) n := by
  obtain ⟨a, b, c, d1, d2, d3, d4, d5⟩ := hW
  refine ⟨fun q hq => ⟨?_, ?_, ?_, ?_, ?_, ?_, ?_⟩, fun q r hq hr hqr => ?_, fun q hq => ?_, ?_, ?_, ?_, ?_, ?_⟩
  · (simp only [mu]; split <;> first | omega | exact (a q hq).1 | exact hx)
  · (simp only [mu]; split <;> first | omega | exact (a q hq).2.1 | exact hx)
  · (simp only [mu]; split <;> first | omega | exact (a q hq).2.2.1 | exact hx)
  · (simp only [mu]; split <;> first | omega | exact (a q hq).2.2.2.1 | exact hx)
  · (simp only [mu]; split <;> first | omega | exact (a q hq).2.2.2.2.1 | exact hx)
  · (simp only [mu]; split <;> first | omega | exact (a q hq).2.2.2.2.2.1 | exact hx)
  · (simp only [mu]; split <;> first | omega | exact (a q hq).2.2.2.2.2.2 | exact hx)
  · (simp only [mu]; split <;> first | omega | exact b q r hq hr hqr | exact hx)
  · (simp only [mu]; split <;> first | omega | exact c q hq | exact hx)
  · (simp only [mu]; split <;> first | omega | exact d1 | exact hx)
  · (simp only [mu]; split <;> first | omega | exact d2 | exact hx)
  · (simp only [mu]; split <;> first | omega | exact d3 | exact hx)
  · (simp only [mu]; split <;> first | omega | exact d4 | exact hx)
  · (simp only [mu]; split <;> first | omega | exact d5 | exact hx)
theorem WFm.uSp {m : Nat → Int32} {n : Nat} (hn6 : n ≤ 6) (hW : WFm m n) {x : Int32} (hx : inR x 100) : WFm (mu m (7) x) n := by
  obtain ⟨a, b, c, d1, d2, d3, d4, d5⟩ := hW
  refine ⟨fun q hq => ⟨?_, ?_, ?_, ?_, ?_, ?_, ?_⟩, fun q r hq hr hqr => ?_, fun q hq => ?_, ?_, ?_, ?_, ?_, ?_⟩
  · (simp only [mu]; split <;> first | omega | exact (a q hq).1 | exact hx)
  · (simp only [mu]; split <;> first | omega | exact (a q hq).2.1 | exact hx)
  · (simp only [mu]; split <;> first | omega | exact (a q hq).2.2.1 | exact hx)
  · (simp only [mu]; split <;> first | omega | exact (a q hq).2.2.2.1 | exact hx)
  · (simp only [mu]; split <;> first | omega | exact (a q hq).2.2.2.2.1 | exact hx)
  · (simp only [mu]; split <;> first | omega | exact (a q hq).2.2.2.2.2.1 | exact hx)
  · (simp only [mu]; split <;> first | omega | exact (a q hq).2.2.2.2.2.2 | exact hx)
  · (simp only [mu]; split <;> first | omega | exact b q r hq hr hqr | exact hx)
  · (simp only [mu]; split <;> first | omega | exact c q hq | exact hx)
  · (simp only [mu]; split <;> first | omega | exact d1 | exact hx)
  · (simp only [mu]; split <;> first | omega | exact d2 | exact hx)
  · (simp only [mu]; split <;> first | omega | exact d3 | exact hx)
  · (simp only [mu]; split <;> first | omega | exact d4 | exact hx)
  · (simp only [mu]; split <;> first | omega | exact d5 | exact hx)
theorem WFm.uSd {m : Nat → Int32} {n : Nat} (hn6 : n ≤ 6) (hW : WFm m n) {x : Int32} : WFm (mu m (9) x) n := by
  obtain ⟨a, b, c, d1, d2, d3, d4, d5⟩ := hW
  refine ⟨fun q hq => ⟨?_, ?_, ?_, ?_, ?_, ?_, ?_⟩, fun q r hq hr hqr => ?_, fun q hq => ?_, ?_, ?_, ?_, ?_, ?_⟩
  · (simp only [mu]; split <;> first | omega | exact (a q hq).1)
  · (simp only [mu]; split <;> first | omega | exact (a q hq).2.1)
  · (simp only [mu]; split <;> first | omega | exact (a q hq).2.2.1)
  · (simp only [mu]; split <;> first | omega | exact (a q hq).2.2.2.1)
  · (simp only [mu]; split <;> first | omega | exact (a q hq).2.2.2.2.1)
  · (simp only [mu]; split <;> first | omega | exact (a q hq).2.2.2.2.2.1)
  · (simp only [mu]; split <;> first | omega | exact (a q hq).2.2.2.2.2.2)
  · (simp only [mu]; split <;> first | omega | exact b q r hq hr hqr)
  · (simp only [mu]; split <;> first | omega | exact c q hq)
  · (simp only [mu]; split <;> first | omega | exact d1)
  · (simp only [mu]; split <;> first | omega | exact d2)
  · (simp only [mu]; split <;> first | omega | exact d3)
  · (simp only [mu]; split <;> first | omega | exact d4)
  · (simp only [mu]; split <;> first | omega | exact d5)
theorem WFm.uTx {m : Nat → Int32} {n : Nat} (hn6 : n ≤ 6) (hW : WFm m n) {x : Int32} (hx : inR x 12) : WFm (mu m (0) x) n := by
  obtain ⟨a, b, c, d1, d2, d3, d4, d5⟩ := hW
  refine ⟨fun q hq => ⟨?_, ?_, ?_, ?_, ?_, ?_, ?_⟩, fun q r hq hr hqr => ?_, fun q hq => ?_, ?_, ?_, ?_, ?_, ?_⟩
  · (simp only [mu]; split <;> first | omega | exact (a q hq).1 | exact hx)
  · (simp only [mu]; split <;> first | omega | exact (a q hq).2.1 | exact hx)
  · (simp only [mu]; split <;> first | omega | exact (a q hq).2.2.1 | exact hx)
  · (simp only [mu]; split <;> first | omega | exact (a q hq).2.2.2.1 | exact hx)
  · (simp only [mu]; split <;> first | omega | exact (a q hq).2.2.2.2.1 | exact hx)
  · (simp only [mu]; split <;> first | omega | exact (a q hq).2.2.2.2.2.1 | exact hx)
  · (simp only [mu]; split <;> first | omega | exact (a q hq).2.2.2.2.2.2 | exact hx)
  · (simp only [mu]; split <;> first | omega | exact b q r hq hr hqr | exact hx)
  · (simp only [mu]; split <;> first | omega | exact c q hq | exact hx)
  · (simp only [mu]; split <;> first | omega | exact d1 | exact hx)
  · (simp only [mu]; split <;> first | omega | exact d2 | exact hx)
  · (simp only [mu]; split <;> first | omega | exact d3 | exact hx)
  · (simp only [mu]; split <;> first | omega | exact d4 | exact hx)
  · (simp only [mu]; split <;> first | omega | exact d5 | exact hx)
theorem WFm.uS {m : Nat → Int32} {n : Nat} (hn6 : n ≤ 6) (hW : WFm m n) {p : Nat} (hp : p < n) {x : Int32} (hx : inR x 1) : WFm (mu m (14 + 7 * p + 3) x) n := by
  obtain ⟨a, b, c, d1, d2, d3, d4, d5⟩ := hW
  refine ⟨fun q hq => ⟨?_, ?_, ?_, ?_, ?_, ?_, ?_⟩, fun q r hq hr hqr => ?_, fun q hq => ?_, ?_, ?_, ?_, ?_, ?_⟩
  · (simp only [mu]; split <;> first | omega | exact (a q hq).1 | exact hx)
  · (simp only [mu]; split <;> first | omega | exact (a q hq).2.1 | exact hx)
  · (simp only [mu]; split <;> first | omega | exact (a q hq).2.2.1 | exact hx)
  · (simp only [mu]; split <;> first | omega | exact (a q hq).2.2.2.1 | exact hx)
  · (simp only [mu]; split <;> first | omega | exact (a q hq).2.2.2.2.1 | exact hx)
  · (simp only [mu]; split <;> first | omega | exact (a q hq).2.2.2.2.2.1 | exact hx)
  · (simp only [mu]; split <;> first | omega | exact (a q hq).2.2.2.2.2.2 | exact hx)
  · (simp only [mu]; split <;> first | omega | exact b q r hq hr hqr | exact hx)
  · (simp only [mu]; split <;> first | omega | exact c q hq | exact hx)
  · (simp only [mu]; split <;> first | omega | exact d1 | exact hx)
  · (simp only [mu]; split <;> first | omega | exact d2 | exact hx)
  · (simp only [mu]; split <;> first | omega | exact d3 | exact hx)
  · (simp only [mu]; split <;> first | omega | exact d4 | exact hx)
  · (simp only [mu]; split <;> first | omega | exact d5 | exact hx)
theorem WFm.uB {m : Nat → Int32} {n : Nat} (hn6 : n ≤ 6) (hW : WFm m n) {p : Nat} (hp : p < n) {x : Int32} (hx : inR x 1) : WFm (mu m (14 + 7 * p + 4) x) n := by
  obtain ⟨a, b, c, d1, d2, d3, d4, d5⟩ := hW
  refine ⟨fun q hq => ⟨?_, ?_, ?_, ?_, ?_, ?_, ?_⟩, fun q r hq hr hqr => ?_, fun q hq => ?_, ?_, ?_, ?_, ?_, ?_⟩
  · (simp only [mu]; split <;> first | omega | exact (a q hq).1 | exact hx)
  · (simp only [mu]; split <;> first | omega | exact (a q hq).2.1 | exact hx)
  · (simp only [mu]; split <;> first | omega | exact (a q hq).2.2.1 | exact hx)
  · (simp only [mu]; split <;> first | omega | exact (a q hq).2.2.2.1 | exact hx)
  · (simp only [mu]; split <;> first | omega | exact (a q hq).2.2.2.2.1 | exact hx)
  · (simp only [mu]; split <;> first | omega | exact (a q hq).2.2.2.2.2.1 | exact hx)
  · (simp only [mu]; split <;> first | omega | exact (a q hq).2.2.2.2.2.2 | exact hx)
  · (simp only [mu]; split <;> first | omega | exact b q r hq hr hqr | exact hx)
  · (simp only [mu]; split <;> first | omega | exact c q hq | exact hx)
  · (simp only [mu]; split <;> first | omega | exact d1 | exact hx)
  · (simp only [mu]; split <;> first | omega | exact d2 | exact hx)
  · (simp only [mu]; split <;> first | omega | exact d3 | exact hx)
  · (simp only [mu]; split <;> first | omega | exact d4 | exact hx)
  · (simp only [mu]; split <;> first | omega | exact d5 | exact hx)
theorem bs_ext {a : Nat} {f : Nat → Bool} {n : Nat} (h : a < 2 ^ n) (e : ∀ q, q < n → a.testBit q = f q) : bs f n = a := by
  apply Nat.eq_of_testBit_eq
  intro q
  by_cases hq : q < n
  · rw [bs_bit _ _ _ hq, e q hq]
  · rw [bs_bit_ge _ (by omega), Nat.testBit_lt_two_pow (Nat.lt_of_lt_of_le h (Nat.pow_le_pow_right (by omega) (by omega)))]
theorem set_or : ∀ a, a < 64 → ∀ p, p < 6 → nI a ||| shl 1 (nI p) = nI (a ||| 2 ^ p) := by decide +kernel
theorem set_out : ∀ a, a < 64 → ∀ p, p < 6 → q11_without (nI a) (nI p) = nI (a &&& (63 - 2 ^ p)) := by decide +kernel
theorem out_bit : ∀ a, a < 64 → ∀ p, p < 6 → ∀ q, q < 6 → (a &&& (63 - 2 ^ p)).testBit q = (a.testBit q && !decide (q = p)) := by decide +kernel
theorem or_bit2 : ∀ a, a < 64 → ∀ p, p < 6 → ∀ q, q < 6 → (a ||| 2 ^ p).testBit q = (a.testBit q || decide (q = p)) := by decide +kernel
theorem or_lt : ∀ n, n < 7 → ∀ a, a < 2 ^ n → ∀ p, p < n → a ||| 2 ^ p < 2 ^ n := by decide +kernel
theorem out_lt : ∀ n, n < 7 → ∀ a, a < 2 ^ n → ∀ p, p < n → a &&& (63 - 2 ^ p) < 2 ^ n := by decide +kernel
theorem RVd.uS1 {d : Nat → Nat → Int32} {m : Nat → Int32} {n : Nat} (hV : RVd d m n) {p : Nat} (hp : p < n) : RVd (du d 0 9 (nI (bs (fS m) n) ||| shl 1 (nI p))) (mu m (14 + 7 * p + 3) 1) n := by
  have hn6 : n ≤ 6 := hV.1.1
  obtain ⟨⟨a1, a2, a3⟩, b, ⟨c1, c2⟩, k, g9, ⟨n1, n2, n3, n4, n5, n6⟩, ⟨x1, x2⟩, L, f, l1, l2, l3, l4, l5, l6⟩ := hV
  refine ⟨⟨a1, ?_, ?_⟩, fun q hq => ⟨?_, ?_, ?_, ?_, ?_⟩, ⟨?_, ?_⟩, fun q r hq hr hqr => ?_, fun q hq => ?_, ⟨?_, ?_, ?_, ?_, ?_, ?_⟩, ⟨fun q h1 h2 => ⟨?_, ?_, ?_⟩, fun q r h1 h2 h3 => ?_⟩, L, f, l1, l2, ?_, ?_, ?_, fun a c ha hc => ?_⟩
  · ((simp only [du, mu, true_and, and_true, false_and, and_false, if_true, if_false]) <;> (repeat' split) <;> first | rfl | omega | exact a2)
  · ((simp only [du, mu, true_and, and_true, false_and, and_false, if_true, if_false]) <;> (repeat' split) <;> first | rfl | omega | exact a3)
  · ((simp only [du, mu, true_and, and_true, false_and, and_false, if_true, if_false]) <;> (repeat' split) <;> first | rfl | omega | exact (b q hq).1)
  · ((simp only [du, mu, true_and, and_true, false_and, and_false, if_true, if_false]) <;> (repeat' split) <;> first | rfl | omega | exact (b q hq).2.1)
  · ((simp only [du, mu, true_and, and_true, false_and, and_false, if_true, if_false]) <;> (repeat' split) <;> first | rfl | omega | exact (b q hq).2.2.1)
  · ((simp only [du, mu, true_and, and_true, false_and, and_false, if_true, if_false]) <;> (repeat' split) <;> first | rfl | omega | exact (b q hq).2.2.2.1)
  · ((simp only [du, mu, true_and, and_true, false_and, and_false, if_true, if_false]) <;> (repeat' split) <;> first | rfl | omega | exact (b q hq).2.2.2.2)
  · rw [set_or _ (bs_le a1 _) p (by omega)]
    rw [du_eq]
    congr 1
    refine (bs_ext (or_lt n (by omega) _ (bs_lt _ _) p hp) (fun q hq => ?_)).symm
    rw [or_bit2 _ (bs_le a1 _) p (by omega) q (by omega), bs_bit _ _ _ hq]
    unfold fS
    by_cases hqp : q = p
    · subst hqp
      rw [mu_eq]
      simp
    · rw [mu_ne (by omega)]
      simp [hqp]
  · have e : bs (fB (mu m (14 + 7 * p + 3) 1)) n = bs (fB m) n := bs_congr (fun q hq => by unfold fB; rw [mu_ne (by omega)])
    rw [e]
    ((simp only [du, mu, true_and, and_true, false_and, and_false, if_true, if_false]) <;> (repeat' split) <;> first | rfl | omega | exact c2)
  · ((simp only [du, mu, true_and, and_true, false_and, and_false, if_true, if_false]) <;> (repeat' split) <;> first | rfl | omega | exact k q r hq hr hqr)
  · ((simp only [du, mu, true_and, and_true, false_and, and_false, if_true, if_false]) <;> (repeat' split) <;> first | rfl | omega | exact g9 q hq)
  · ((simp only [du, mu, true_and, and_true, false_and, and_false, if_true, if_false]) <;> (repeat' split) <;> first | rfl | omega | exact n1)
  · ((simp only [du, mu, true_and, and_true, false_and, and_false, if_true, if_false]) <;> (repeat' split) <;> first | rfl | omega | exact n2)
  · ((simp only [du, mu, true_and, and_true, false_and, and_false, if_true, if_false]) <;> (repeat' split) <;> first | rfl | omega | exact n3)
  · ((simp only [du, mu, true_and, and_true, false_and, and_false, if_true, if_false]) <;> (repeat' split) <;> first | rfl | omega | exact n4)
  · ((simp only [du, mu, true_and, and_true, false_and, and_false, if_true, if_false]) <;> (repeat' split) <;> first | rfl | omega | exact n5)
  · ((simp only [du, mu, true_and, and_true, false_and, and_false, if_true, if_false]) <;> (repeat' split) <;> first | rfl | omega | exact n6)
  · ((simp only [du, mu, true_and, and_true, false_and, and_false, if_true, if_false]) <;> (repeat' split) <;> first | rfl | omega | exact (x1 q h1 h2).1)
  · ((simp only [du, mu, true_and, and_true, false_and, and_false, if_true, if_false]) <;> (repeat' split) <;> first | rfl | omega | exact (x1 q h1 h2).2.1)
  · ((simp only [du, mu, true_and, and_true, false_and, and_false, if_true, if_false]) <;> (repeat' split) <;> first | rfl | omega | exact (x1 q h1 h2).2.2)
  · ((simp only [du, mu, true_and, and_true, false_and, and_false, if_true, if_false]) <;> (repeat' split) <;> first | rfl | omega | exact x2 q r h1 h2 h3)
  · ((simp only [du, mu, true_and, and_true, false_and, and_false, if_true, if_false]) <;> (repeat' split) <;> first | rfl | omega | exact l3)
  · ((simp only [du, mu, true_and, and_true, false_and, and_false, if_true, if_false]) <;> (repeat' split) <;> first | rfl | omega | exact l4)
  · ((simp only [du, mu, true_and, and_true, false_and, and_false, if_true, if_false]) <;> (repeat' split) <;> first | rfl | omega | exact l5)
  · ((simp only [du, mu, true_and, and_true, false_and, and_false, if_true, if_false]) <;> (repeat' split) <;> first | rfl | omega | exact l6 a c ha hc)
theorem RVd.uS0 {d : Nat → Nat → Int32} {m : Nat → Int32} {n : Nat} (hV : RVd d m n) {p : Nat} (hp : p < n) : RVd (du d 0 9 (q11_without (nI (bs (fS m) n)) (nI p))) (mu m (14 + 7 * p + 3) 0) n := by
  have hn6 : n ≤ 6 := hV.1.1
  obtain ⟨⟨a1, a2, a3⟩, b, ⟨c1, c2⟩, k, g9, ⟨n1, n2, n3, n4, n5, n6⟩, ⟨x1, x2⟩, L, f, l1, l2, l3, l4, l5, l6⟩ := hV
  refine ⟨⟨a1, ?_, ?_⟩, fun q hq => ⟨?_, ?_, ?_, ?_, ?_⟩, ⟨?_, ?_⟩, fun q r hq hr hqr => ?_, fun q hq => ?_, ⟨?_, ?_, ?_, ?_, ?_, ?_⟩, ⟨fun q h1 h2 => ⟨?_, ?_, ?_⟩, fun q r h1 h2 h3 => ?_⟩, L, f, l1, l2, ?_, ?_, ?_, fun a c ha hc => ?_⟩
  · ((simp only [du, mu, true_and, and_true, false_and, and_false, if_true, if_false]) <;> (repeat' split) <;> first | rfl | omega | exact a2)
  · ((simp only [du, mu, true_and, and_true, false_and, and_false, if_true, if_false]) <;> (repeat' split) <;> first | rfl | omega | exact a3)
  · ((simp only [du, mu, true_and, and_true, false_and, and_false, if_true, if_false]) <;> (repeat' split) <;> first | rfl | omega | exact (b q hq).1)
  · ((simp only [du, mu, true_and, and_true, false_and, and_false, if_true, if_false]) <;> (repeat' split) <;> first | rfl | omega | exact (b q hq).2.1)
  · ((simp only [du, mu, true_and, and_true, false_and, and_false, if_true, if_false]) <;> (repeat' split) <;> first | rfl | omega | exact (b q hq).2.2.1)
  · ((simp only [du, mu, true_and, and_true, false_and, and_false, if_true, if_false]) <;> (repeat' split) <;> first | rfl | omega | exact (b q hq).2.2.2.1)
  · ((simp only [du, mu, true_and, and_true, false_and, and_false, if_true, if_false]) <;> (repeat' split) <;> first | rfl | omega | exact (b q hq).2.2.2.2)
  · rw [set_out _ (bs_le a1 _) p (by omega)]
    rw [du_eq]
    congr 1
    refine (bs_ext (out_lt n (by omega) _ (bs_lt _ _) p hp) (fun q hq => ?_)).symm
    rw [out_bit _ (bs_le a1 _) p (by omega) q (by omega), bs_bit _ _ _ hq]
    unfold fS
    by_cases hqp : q = p
    · subst hqp
      rw [mu_eq]
      simp
    · rw [mu_ne (by omega)]
      simp [hqp]
  · have e : bs (fB (mu m (14 + 7 * p + 3) 0)) n = bs (fB m) n := bs_congr (fun q hq => by unfold fB; rw [mu_ne (by omega)])
    rw [e]
    ((simp only [du, mu, true_and, and_true, false_and, and_false, if_true, if_false]) <;> (repeat' split) <;> first | rfl | omega | exact c2)
  · ((simp only [du, mu, true_and, and_true, false_and, and_false, if_true, if_false]) <;> (repeat' split) <;> first | rfl | omega | exact k q r hq hr hqr)
  · ((simp only [du, mu, true_and, and_true, false_and, and_false, if_true, if_false]) <;> (repeat' split) <;> first | rfl | omega | exact g9 q hq)
  · ((simp only [du, mu, true_and, and_true, false_and, and_false, if_true, if_false]) <;> (repeat' split) <;> first | rfl | omega | exact n1)
  · ((simp only [du, mu, true_and, and_true, false_and, and_false, if_true, if_false]) <;> (repeat' split) <;> first | rfl | omega | exact n2)
  · ((simp only [du, mu, true_and, and_true, false_and, and_false, if_true, if_false]) <;> (repeat' split) <;> first | rfl | omega | exact n3)
  · ((simp only [du, mu, true_and, and_true, false_and, and_false, if_true, if_false]) <;> (repeat' split) <;> first | rfl | omega | exact n4)
  · ((simp only [du, mu, true_and, and_true, false_and, and_false, if_true, if_false]) <;> (repeat' split) <;> first | rfl | omega | exact n5)
  · ((simp only [du, mu, true_and, and_true, false_and, and_false, if_true, if_false]) <;> (repeat' split) <;> first | rfl | omega | exact n6)
  · ((simp only [du, mu, true_and, and_true, false_and, and_false, if_true, if_false]) <;> (repeat' split) <;> first | rfl | omega | exact (x1 q h1 h2).1)
  · ((simp only [du, mu, true_and, and_true, false_and, and_false, if_true, if_false]) <;> (repeat' split) <;> first | rfl | omega | exact (x1 q h1 h2).2.1)
  · ((simp only [du, mu, true_and, and_true, false_and, and_false, if_true, if_false]) <;> (repeat' split) <;> first | rfl | omega | exact (x1 q h1 h2).2.2)
  · ((simp only [du, mu, true_and, and_true, false_and, and_false, if_true, if_false]) <;> (repeat' split) <;> first | rfl | omega | exact x2 q r h1 h2 h3)
  · ((simp only [du, mu, true_and, and_true, false_and, and_false, if_true, if_false]) <;> (repeat' split) <;> first | rfl | omega | exact l3)
  · ((simp only [du, mu, true_and, and_true, false_and, and_false, if_true, if_false]) <;> (repeat' split) <;> first | rfl | omega | exact l4)
  · ((simp only [du, mu, true_and, and_true, false_and, and_false, if_true, if_false]) <;> (repeat' split) <;> first | rfl | omega | exact l5)
  · ((simp only [du, mu, true_and, and_true, false_and, and_false, if_true, if_false]) <;> (repeat' split) <;> first | rfl | omega | exact l6 a c ha hc)
theorem RVd.uB1 {d : Nat → Nat → Int32} {m : Nat → Int32} {n : Nat} (hV : RVd d m n) {p : Nat} (hp : p < n) : RVd (du d 0 10 (nI (bs (fB m) n) ||| shl 1 (nI p))) (mu m (14 + 7 * p + 4) 1) n := by
  have hn6 : n ≤ 6 := hV.1.1
  obtain ⟨⟨a1, a2, a3⟩, b, ⟨c1, c2⟩, k, g9, ⟨n1, n2, n3, n4, n5, n6⟩, ⟨x1, x2⟩, L, f, l1, l2, l3, l4, l5, l6⟩ := hV
  refine ⟨⟨a1, ?_, ?_⟩, fun q hq => ⟨?_, ?_, ?_, ?_, ?_⟩, ⟨?_, ?_⟩, fun q r hq hr hqr => ?_, fun q hq => ?_, ⟨?_, ?_, ?_, ?_, ?_, ?_⟩, ⟨fun q h1 h2 => ⟨?_, ?_, ?_⟩, fun q r h1 h2 h3 => ?_⟩, L, f, l1, l2, ?_, ?_, ?_, fun a c ha hc => ?_⟩
  · ((simp only [du, mu, true_and, and_true, false_and, and_false, if_true, if_false]) <;> (repeat' split) <;> first | rfl | omega | exact a2)
  · ((simp only [du, mu, true_and, and_true, false_and, and_false, if_true, if_false]) <;> (repeat' split) <;> first | rfl | omega | exact a3)
  · ((simp only [du, mu, true_and, and_true, false_and, and_false, if_true, if_false]) <;> (repeat' split) <;> first | rfl | omega | exact (b q hq).1)
  · ((simp only [du, mu, true_and, and_true, false_and, and_false, if_true, if_false]) <;> (repeat' split) <;> first | rfl | omega | exact (b q hq).2.1)
  · ((simp only [du, mu, true_and, and_true, false_and, and_false, if_true, if_false]) <;> (repeat' split) <;> first | rfl | omega | exact (b q hq).2.2.1)
  · ((simp only [du, mu, true_and, and_true, false_and, and_false, if_true, if_false]) <;> (repeat' split) <;> first | rfl | omega | exact (b q hq).2.2.2.1)
  · ((simp only [du, mu, true_and, and_true, false_and, and_false, if_true, if_false]) <;> (repeat' split) <;> first | rfl | omega | exact (b q hq).2.2.2.2)
  · have e : bs (fS (mu m (14 + 7 * p + 4) 1)) n = bs (fS m) n := bs_congr (fun q hq => by unfold fS; rw [mu_ne (by omega)])
    rw [e]
    ((simp only [du, mu, true_and, and_true, false_and, and_false, if_true, if_false]) <;> (repeat' split) <;> first | rfl | omega | exact c1)
  · rw [set_or _ (bs_le a1 _) p (by omega)]
    rw [du_eq]
    congr 1
    refine (bs_ext (or_lt n (by omega) _ (bs_lt _ _) p hp) (fun q hq => ?_)).symm
    rw [or_bit2 _ (bs_le a1 _) p (by omega) q (by omega), bs_bit _ _ _ hq]
    unfold fB
    by_cases hqp : q = p
    · subst hqp
      rw [mu_eq]
      simp
    · rw [mu_ne (by omega)]
      simp [hqp]
  · ((simp only [du, mu, true_and, and_true, false_and, and_false, if_true, if_false]) <;> (repeat' split) <;> first | rfl | omega | exact k q r hq hr hqr)
  · ((simp only [du, mu, true_and, and_true, false_and, and_false, if_true, if_false]) <;> (repeat' split) <;> first | rfl | omega | exact g9 q hq)
  · ((simp only [du, mu, true_and, and_true, false_and, and_false, if_true, if_false]) <;> (repeat' split) <;> first | rfl | omega | exact n1)
  · ((simp only [du, mu, true_and, and_true, false_and, and_false, if_true, if_false]) <;> (repeat' split) <;> first | rfl | omega | exact n2)
  · ((simp only [du, mu, true_and, and_true, false_and, and_false, if_true, if_false]) <;> (repeat' split) <;> first | rfl | omega | exact n3)
  · ((simp only [du, mu, true_and, and_true, false_and, and_false, if_true, if_false]) <;> (repeat' split) <;> first | rfl | omega | exact n4)
  · ((simp only [du, mu, true_and, and_true, false_and, and_false, if_true, if_false]) <;> (repeat' split) <;> first | rfl | omega | exact n5)
  · ((simp only [du, mu, true_and, and_true, false_and, and_false, if_true, if_false]) <;> (repeat' split) <;> first | rfl | omega | exact n6)
  · ((simp only [du, mu, true_and, and_true, false_and, and_false, if_true, if_false]) <;> (repeat' split) <;> first | rfl | omega | exact (x1 q h1 h2).1)
  · ((simp only [du, mu, true_and, and_true, false_and, and_false, if_true, if_false]) <;> (repeat' split) <;> first | rfl | omega | exact (x1 q h1 h2).2.1)
  · ((simp only [du, mu, true_and, and_true, false_and, and_false, if_true, if_false]) <;> (repeat' split) <;> first | rfl | omega | exact (x1 q h1 h2).2.2)
  · ((simp only [du, mu, true_and, and_true, false_and, and_false, if_true, if_false]) <;> (repeat' split) <;> first | rfl | omega | exact x2 q r h1 h2 h3)
  · ((simp only [du, mu, true_and, and_true, false_and, and_false, if_true, if_false]) <;> (repeat' split) <;> first | rfl | omega | exact l3)
  · ((simp only [du, mu, true_and, and_true, false_and, and_false, if_true, if_false]) <;> (repeat' split) <;> first | rfl | omega | exact l4)
  · ((simp only [du, mu, true_and, and_true, false_and, and_false, if_true, if_false]) <;> (repeat' split) <;> first | rfl | omega | exact l5)
  · ((simp only [du, mu, true_and, and_true, false_and, and_false, if_true, if_false]) <;> (repeat' split) <;> first | rfl | omega | exact l6 a c ha hc)
theorem RVd.uB0 {d : Nat → Nat → Int32} {m : Nat → Int32} {n : Nat} (hV : RVd d m n) {p : Nat} (hp : p < n) : RVd (du d 0 10 (q11_without (nI (bs (fB m) n)) (nI p))) (mu m (14 + 7 * p + 4) 0) n := by
  have hn6 : n ≤ 6 := hV.1.1
  obtain ⟨⟨a1, a2, a3⟩, b, ⟨c1, c2⟩, k, g9, ⟨n1, n2, n3, n4, n5, n6⟩, ⟨x1, x2⟩, L, f, l1, l2, l3, l4, l5, l6⟩ := hV
  refine ⟨⟨a1, ?_, ?_⟩, fun q hq => ⟨?_, ?_, ?_, ?_, ?_⟩, ⟨?_, ?_⟩, fun q r hq hr hqr => ?_, fun q hq => ?_, ⟨?_, ?_, ?_, ?_, ?_, ?_⟩, ⟨fun q h1 h2 => ⟨?_, ?_, ?_⟩, fun q r h1 h2 h3 => ?_⟩, L, f, l1, l2, ?_, ?_, ?_, fun a c ha hc => ?_⟩
  · ((simp only [du, mu, true_and, and_true, false_and, and_false, if_true, if_false]) <;> (repeat' split) <;> first | rfl | omega | exact a2)
  · ((simp only [du, mu, true_and, and_true, false_and, and_false, if_true, if_false]) <;> (repeat' split) <;> first | rfl | omega | exact a3)
  · ((simp only [du, mu, true_and, and_true, false_and, and_false, if_true, if_false]) <;> (repeat' split) <;> first | rfl | omega | exact (b q hq).1)
  · ((simp only [du, mu, true_and, and_true, false_and, and_false, if_true, if_false]) <;> (repeat' split) <;> first | rfl | omega | exact (b q hq).2.1)
  · ((simp only [du, mu, true_and, and_true, false_and, and_false, if_true, if_false]) <;> (repeat' split) <;> first | rfl | omega | exact (b q hq).2.2.1)
  · ((simp only [du, mu, true_and, and_true, false_and, and_false, if_true, if_false]) <;> (repeat' split) <;> first | rfl | omega | exact (b q hq).2.2.2.1)
  · ((simp only [du, mu, true_and, and_true, false_and, and_false, if_true, if_false]) <;> (repeat' split) <;> first | rfl | omega | exact (b q hq).2.2.2.2)
  · have e : bs (fS (mu m (14 + 7 * p + 4) 0)) n = bs (fS m) n := bs_congr (fun q hq => by unfold fS; rw [mu_ne (by omega)])
    rw [e]
    ((simp only [du, mu, true_and, and_true, false_and, and_false, if_true, if_false]) <;> (repeat' split) <;> first | rfl | omega | exact c1)
  · rw [set_out _ (bs_le a1 _) p (by omega)]
    rw [du_eq]
    congr 1
    refine (bs_ext (out_lt n (by omega) _ (bs_lt _ _) p hp) (fun q hq => ?_)).symm
    rw [out_bit _ (bs_le a1 _) p (by omega) q (by omega), bs_bit _ _ _ hq]
    unfold fB
    by_cases hqp : q = p
    · subst hqp
      rw [mu_eq]
      simp
    · rw [mu_ne (by omega)]
      simp [hqp]
  · ((simp only [du, mu, true_and, and_true, false_and, and_false, if_true, if_false]) <;> (repeat' split) <;> first | rfl | omega | exact k q r hq hr hqr)
  · ((simp only [du, mu, true_and, and_true, false_and, and_false, if_true, if_false]) <;> (repeat' split) <;> first | rfl | omega | exact g9 q hq)
  · ((simp only [du, mu, true_and, and_true, false_and, and_false, if_true, if_false]) <;> (repeat' split) <;> first | rfl | omega | exact n1)
  · ((simp only [du, mu, true_and, and_true, false_and, and_false, if_true, if_false]) <;> (repeat' split) <;> first | rfl | omega | exact n2)
  · ((simp only [du, mu, true_and, and_true, false_and, and_false, if_true, if_false]) <;> (repeat' split) <;> first | rfl | omega | exact n3)
  · ((simp only [du, mu, true_and, and_true, false_and, and_false, if_true, if_false]) <;> (repeat' split) <;> first | rfl | omega | exact n4)
  · ((simp only [du, mu, true_and, and_true, false_and, and_false, if_true, if_false]) <;> (repeat' split) <;> first | rfl | omega | exact n5)
  · ((simp only [du, mu, true_and, and_true, false_and, and_false, if_true, if_false]) <;> (repeat' split) <;> first | rfl | omega | exact n6)
  · ((simp only [du, mu, true_and, and_true, false_and, and_false, if_true, if_false]) <;> (repeat' split) <;> first | rfl | omega | exact (x1 q h1 h2).1)
  · ((simp only [du, mu, true_and, and_true, false_and, and_false, if_true, if_false]) <;> (repeat' split) <;> first | rfl | omega | exact (x1 q h1 h2).2.1)
  · ((simp only [du, mu, true_and, and_true, false_and, and_false, if_true, if_false]) <;> (repeat' split) <;> first | rfl | omega | exact (x1 q h1 h2).2.2)
  · ((simp only [du, mu, true_and, and_true, false_and, and_false, if_true, if_false]) <;> (repeat' split) <;> first | rfl | omega | exact x2 q r h1 h2 h3)
  · ((simp only [du, mu, true_and, and_true, false_and, and_false, if_true, if_false]) <;> (repeat' split) <;> first | rfl | omega | exact l3)
  · ((simp only [du, mu, true_and, and_true, false_and, and_false, if_true, if_false]) <;> (repeat' split) <;> first | rfl | omega | exact l4)
  · ((simp only [du, mu, true_and, and_true, false_and, and_false, if_true, if_false]) <;> (repeat' split) <;> first | rfl | omega | exact l5)
  · ((simp only [du, mu, true_and, and_true, false_and, and_false, if_true, if_false]) <;> (repeat' split) <;> first | rfl | omega | exact l6 a c ha hc)
/-- the village now, and nothing else, changes on both sides -/
theorem RR.vil {LR : LRT} {σ σ' μ μ' : St} (h : RR LR σ μ) (hV : RVW (vd σ' 44) (μ' 1)) (e : ∀ i, i < 44 ∨ 54 ≤ i → σ' i = σ i) (e2 : ∀ i, i ≠ 0 → i ≠ 1 → μ' i = μ i) (s3 : μ' 0 3 = μ 0 3) (s6 : μ' 0 6 = μ 0 6) (s8 : μ' 0 8 = μ 0 8) (s12 : μ' 0 12 = μ 0 12) (t1 : μ' 1 1 = μ 1 1) (t2 : μ' 1 2 = μ 1 2) (t3 : ∀ k, μ' 1 (352 + k) = μ 1 (352 + k)) (hf : RFl μ → RFl μ') : RR LR σ' μ' := by
  obtain ⟨h1, h2, h3, h4, h5, h6⟩ := h
  refine ⟨hV, ?_, ?_, ?_, ?_, ?_⟩
  · unfold RTe at h2 ⊢
    rw [e 1 (by omega), e 2 (by omega), s8, e2 5 (by decide) (by decide)]
    exact h2
  · rw [e 0 (by omega), s12]; exact h3
  · unfold RAe at h4 ⊢
    rw [e 5 (by omega), s6, e2 4 (by decide) (by decide), t1, t2]
    obtain ⟨A, f, a1, a2, a3, a4, a5, a6⟩ := h4
    refine ⟨A, f, a1, a2, a3, a4, a5, fun a ha => ⟨(a6 a ha).1.to ?_, (a6 a ha).2⟩⟩
    generalize (f + 12 - A + a) % 12 = j
    refine ⟨?_, ?_, ?_, ?_, ?_, ?_, ?_⟩ <;> intros <;> (try show σ' _ _ = σ _ _) <;> rw [e _ (by omega)]
  · unfold RIe at h5 ⊢
    rw [e 0 (by omega), e 40 (by omega), e 41 (by omega), s3, e2 2 (by decide) (by decide)]
    refine ⟨hf h5.1, h5.2.imp id (fun q => ⟨q.1, q.2.1, q.2.2.1.to ?_, q.2.2.2⟩)⟩
    refine ⟨?_, ?_, ?_, ?_, ?_, ?_, ?_⟩ <;> intros <;> (try show σ' _ _ = σ _ _) <;> rw [e _ (by omega)]
  · rw [e 32 (by omega), e 33 (by omega), t1, t2]
    have e9 : (fun k => μ' 1 (352 + k)) = (fun k => μ 1 (352 + k)) := funext t3
    rw [e9]
    exact h6

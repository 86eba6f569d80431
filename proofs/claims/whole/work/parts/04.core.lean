/-! CORE 1: the store, the world, the judgement Z -/
abbrev St : Type := Nat → Nat → Int32
/-- a place's kind: an int row of n; an object (class number, fields: none an int, some r the place r); a row of references -/
abbrev KD : Type := Nat ⊕ ((Nat × List (Option Nat)) ⊕ List Nat)
def up (σ : St) (i k : Nat) (x : Int32) : St := fun a => if a = i then (fun b => if b = k then x else σ a b) else σ a
theorem up_ne {σ : St} {i k j : Nat} {x : Int32} (h : j ≠ i) : up σ i k x j = σ j := by simp [up, h]
theorem up_eq {σ : St} {i k : Nat} {x : Int32} : up σ i k x i = upd (σ i) k x := by funext b; simp [up, upd]
def fvals (ad : Nat → Nat) (f : Nat → Int32) : Nat → List (Option Nat) → List Value
  | _, [] => []
  | k, none :: t => .int (f k) :: fvals ad f (k + 1) t
  | k, some r :: t => .ref (ad r) :: fvals ad f (k + 1) t
theorem fvals_len (ad : Nat → Nat) (f : Nat → Int32) : ∀ (fl : List (Option Nat)) (k : Nat), (fvals ad f k fl).length = fl.length
  | [], _ => rfl
  | none :: t, k => by simp [fvals, fvals_len ad f t (k + 1)]
  | some r :: t, k => by simp [fvals, fvals_len ad f t (k + 1)]
theorem fvals_off (ad : Nat → Nat) (f : Nat → Int32) (x : Int32) : ∀ (fl : List (Option Nat)) (k j : Nat), k < j → fvals ad (upd f k x) j fl = fvals ad f j fl
  | [], _, _, _ => rfl
  | none :: t, k, j, h => by
    have e : upd f k x j = f j := by simp [upd]; omega
    simp [fvals, e, fvals_off ad f x t k (j + 1) (by omega)]
  | some r :: t, k, j, h => by simp [fvals, fvals_off ad f x t k (j + 1) (by omega)]
theorem fvals_set (ad : Nat → Nat) (f : Nat → Int32) (x : Int32) : ∀ (fl : List (Option Nat)) (j k : Nat), fl[k]? = some none → fvals ad (upd f (j + k) x) j fl = (fvals ad f j fl).set k (.int x)
  | [], _, _, h => by simp at h
  | none :: t, j, 0, h => by
    have e : upd f j x j = x := by simp [upd]
    simp [fvals, e, fvals_off ad f x t j (j + 1) (by omega)]
  | some r :: t, j, 0, h => by simp at h
  | none :: t, j, k + 1, h => by
    have e : upd f (j + (k + 1)) x j = f j := by simp [upd]
    have h2 := fvals_set ad f x t (j + 1) k (by simpa using h)
    rw [show j + 1 + k = j + (k + 1) by omega] at h2
    simp [fvals, e, h2]
  | some r :: t, j, k + 1, h => by
    have h2 := fvals_set ad f x t (j + 1) k (by simpa using h)
    rw [show j + 1 + k = j + (k + 1) by omega] at h2
    simp [fvals, h2]
theorem fvals_int (ad : Nat → Nat) (f : Nat → Int32) : ∀ (fl : List (Option Nat)) (j k : Nat), fl[k]? = some none → (fvals ad f j fl)[k]? = some (.int (f (j + k)))
  | [], _, _, h => by simp at h
  | none :: t, j, 0, h => by simp [fvals]
  | some r :: t, j, 0, h => by simp at h
  | none :: t, j, k + 1, h => by
    have h2 := fvals_int ad f t (j + 1) k (by simpa using h)
    rw [show j + 1 + k = j + (k + 1) by omega] at h2
    simp [fvals, h2]
  | some r :: t, j, k + 1, h => by
    have h2 := fvals_int ad f t (j + 1) k (by simpa using h)
    rw [show j + 1 + k = j + (k + 1) by omega] at h2
    simp [fvals, h2]
theorem fvals_ref (ad : Nat → Nat) (f : Nat → Int32) (r : Nat) : ∀ (fl : List (Option Nat)) (j k : Nat), fl[k]? = some (some r) → (fvals ad f j fl)[k]? = some (.ref (ad r))
  | [], _, _, h => by simp at h
  | none :: t, j, 0, h => by simp at h
  | some r' :: t, j, 0, h => by simp at h; simp [fvals, h]
  | none :: t, j, k + 1, h => by simp [fvals, fvals_ref ad f r t (j + 1) k (by simpa using h)]
  | some r' :: t, j, k + 1, h => by simp [fvals, fvals_ref ad f r t (j + 1) k (by simpa using h)]
/-- the tables' numbers and the addresses: classes and slots; int[] and Village[]; places; literals and their bytes -/
abbrev Wp : Type := va_G × (ClassId × ClassId) × (Nat → Nat) × (Nat → Nat) × (Nat → Nat)
def cellOf (ad : Nat → Nat) (cI cR : ClassId) (f : Nat → Int32) : KD → va_E
  | .inl n => .inl (cI, n, .inl f)
  | .inr (.inl (ci, fl)) => .inr (ci, fvals ad f 0 fl)
  | .inr (.inr rs) => .inl (cR, rs.length, .inr (.inr (.inr (.inr (fun k => (rs[k]?).map ad)))))
abbrev classes : List vw_C := [(RX0, TX0, 2), (RX1, TX1, 5), (RX2, TX2, 7), (RX3, TX3, 3), (RX4, TX4, 3), (RX5, TX5, 10), (RX6, TX6, 6), (RX7, TX7, 9), (RX8, TX8, 5), (RX9, TX9, 11), (RX10, TX10, 17), (RX11, TX11, 16), (RX12, TX12, 33)]
abbrev tysW (w : Wp) : List (ClassId × FieldType) := [(w.2.1.1, .int), (w.2.1.2, .object "LastLoaf$Village")]
def HW (kd : List KD) (w : Wp) (σ : St) (H : Heap) : Prop := ∀ (i : Nat) (k : KD), kd[i]? = some k → va_at w.1 classes (w.2.2.1 i, cellOf w.2.2.1 w.2.1.1 w.2.1.2 (σ i) k) H
def AA (kd : List KD) (w : Wp) (sz : Nat) : Nat → Prop := fun q => (∃ i, i < kd.length ∧ q = w.2.2.1 i) ∨ sz ≤ q
/-- what the tables say, at any state of the run -/
def nestW : List Cond := [(Cond.methodLinkNest "LastLoaf" (11 : Nat) ({ cls := "LastLoaf$Tape", name := "<init>", desc := "()V" } : MethodName) "LastLoaf"),
  (Cond.methodLinkNest "LastLoaf$Village" (35 : Nat) ({ cls := "LastLoaf$Log", name := "<init>", desc := "()V" } : MethodName) "LastLoaf"),
  (Cond.methodLinkNest "LastLoaf" (28 : Nat) ({ cls := "LastLoaf$Law", name := "<init>", desc := "()V" } : MethodName) "LastLoaf"),
  (Cond.methodLinkNest "LastLoaf" (60 : Nat) ({ cls := "LastLoaf$Poll", name := "<init>", desc := "()V" } : MethodName) "LastLoaf"),
  (Cond.methodLinkNest "LastLoaf" (76 : Nat) ({ cls := "LastLoaf$Turns", name := "<init>", desc := "()V" } : MethodName) "LastLoaf"),
  (Cond.methodLinkNest "LastLoaf" (83 : Nat) ({ cls := "LastLoaf$SecretBallots", name := "<init>", desc := "()V" } : MethodName) "LastLoaf"),
  (Cond.methodLinkNest "LastLoaf" (90 : Nat) ({ cls := "LastLoaf$Friends", name := "<init>", desc := "()V" } : MethodName) "LastLoaf"),
  (Cond.methodLinkNest "LastLoaf$Poll" (58 : Nat) ({ cls := "LastLoaf", name := "isIn", desc := "(II)Z" } : MethodName) "LastLoaf"),
  (Cond.methodLinkNest "LastLoaf$Law" (70 : Nat) ({ cls := "LastLoaf", name := "isIn", desc := "(II)Z" } : MethodName) "LastLoaf"),
  (Cond.methodLinkNest "LastLoaf$Baker" (63 : Nat) ({ cls := "LastLoaf", name := "isIn", desc := "(II)Z" } : MethodName) "LastLoaf"),
  (Cond.methodLinkNest "LastLoaf$Poll" (116 : Nat) ({ cls := "LastLoaf", name := "without", desc := "(II)I" } : MethodName) "LastLoaf"),
  (Cond.methodLinkNest "LastLoaf$Poll" (119 : Nat) ({ cls := "LastLoaf", name := "leastOf", desc := "(I)I" } : MethodName) "LastLoaf"),
  (Cond.methodLinkNest "LastLoaf$Friends" (45 : Nat) ({ cls := "LastLoaf", name := "isIn", desc := "(II)Z" } : MethodName) "LastLoaf"),
  (Cond.castable "java/lang/IllegalArgumentException" "java/lang/IllegalArgumentException"),
  (Cond.declares ({ cls := "java/lang/RuntimeException", name := "<init>", desc := "()V" } : MethodName)),
  (Cond.declares ({ cls := "java/lang/RuntimeException", name := "<init>", desc := "(Ljava/lang/String;)V" } : MethodName)),
  (Cond.declares ({ cls := "java/lang/Exception", name := "<init>", desc := "()V" } : MethodName)),
  (Cond.declares ({ cls := "java/lang/Exception", name := "<init>", desc := "(Ljava/lang/String;)V" } : MethodName)),
  (Cond.declares ({ cls := "java/lang/Throwable", name := "<init>", desc := "()V" } : MethodName)),
  (Cond.declares ({ cls := "java/lang/Throwable", name := "<init>", desc := "(Ljava/lang/String;)V" } : MethodName)),
  (Cond.castable "java/lang/UnsupportedOperationException" "java/lang/UnsupportedOperationException"),
  (Cond.castable "java/lang/IndexOutOfBoundsException" "java/lang/IndexOutOfBoundsException"),
  (Cond.methodLinkNest "LastLoaf$Village" (98 : Nat) ({ cls := "LastLoaf", name := "isIn", desc := "(II)Z" } : MethodName) "LastLoaf"),
  (Cond.castable "java/util/NoSuchElementException" "java/util/NoSuchElementException"),
  (Cond.castable "java/lang/IllegalStateException" "java/lang/IllegalStateException"),
  (Cond.methodLinkNest "LastLoaf$Turns" (90 : Nat) ({ cls := "LastLoaf", name := "isIn", desc := "(II)Z" } : MethodName) "LastLoaf"),
  (Cond.methodLinkNest "LastLoaf$SecretBallots" (63 : Nat) ({ cls := "LastLoaf", name := "isIn", desc := "(II)Z" } : MethodName) "LastLoaf"),
  (Cond.methodLinkNest "LastLoaf$Friends" (38 : Nat) ({ cls := "LastLoaf", name := "leastOf", desc := "(I)I" } : MethodName) "LastLoaf"),
  (Cond.methodLinkNest "LastLoaf$Friends" (42 : Nat) ({ cls := "LastLoaf", name := "without", desc := "(II)I" } : MethodName) "LastLoaf")]
def ncW : List (String × String) := [("java/lang/IllegalArgumentException", "java/lang/IllegalStateException"), ("java/lang/IllegalArgumentException", "java/lang/IndexOutOfBoundsException"), ("java/lang/IllegalArgumentException", "java/lang/UnsupportedOperationException"), ("java/lang/IllegalArgumentException", "java/util/NoSuchElementException"), ("java/lang/IllegalStateException", "java/lang/IllegalArgumentException"), ("java/lang/IllegalStateException", "java/lang/IndexOutOfBoundsException"), ("java/lang/IllegalStateException", "java/lang/UnsupportedOperationException"), ("java/lang/IllegalStateException", "java/util/NoSuchElementException"), ("java/lang/IndexOutOfBoundsException", "java/lang/IllegalArgumentException"), ("java/lang/IndexOutOfBoundsException", "java/lang/IllegalStateException"), ("java/lang/IndexOutOfBoundsException", "java/lang/UnsupportedOperationException"), ("java/lang/IndexOutOfBoundsException", "java/util/NoSuchElementException"), ("java/lang/UnsupportedOperationException", "java/lang/IllegalArgumentException"), ("java/lang/UnsupportedOperationException", "java/lang/IllegalStateException"), ("java/lang/UnsupportedOperationException", "java/lang/IndexOutOfBoundsException"), ("java/lang/UnsupportedOperationException", "java/util/NoSuchElementException"), ("java/util/NoSuchElementException", "java/lang/IllegalArgumentException"), ("java/util/NoSuchElementException", "java/lang/IllegalStateException"), ("java/util/NoSuchElementException", "java/lang/IndexOutOfBoundsException"), ("java/util/NoSuchElementException", "java/lang/UnsupportedOperationException")]
def KK (w : Wp) (U : State) : Prop := va_K w.1 classes (tysW w) U ∧ (∀ x ∈ nestW, va_Nw x U) ∧ ∀ q ∈ ncW, va_Nc q.1 q.2 U
def isNest : Cond → Bool
  | .methodLinkNest _ _ _ _ => true
  | .castable _ _ => true
  | .declares _ => true
  | _ => false
theorem nest_all : ∀ x ∈ nestW, isNest x = true := by decide +kernel
theorem nest_warm {x : Cond} (hx : x ∈ nestW) {s U : State} (hW : s.WarmedH U.vm) (h : va_Nw x s) : va_Nw x U := by
  have hn := nest_all x hx
  cases x <;> first | exact va_Nw.warmM hW h | exact va_Nw.warmC hW h | exact va_Nw.warmD hW h | cases hn
theorem nest_same {x : Cond} (hx : x ∈ nestW) {s U : State} (hv : s.vm = U.vm) (h : va_Nw x s) : va_Nw x U := by
  have hn := nest_all x hx
  cases x <;> first | exact va_Nw.same rfl hv h | cases hn
theorem KK.warm {w : Wp} {s U : State} (hW : s.WarmedH U.vm) (h : KK w s) : KK w U := ⟨va_K.moved hW.alike h.1, fun x hx => nest_warm hx hW (h.2.1 x hx), fun q hq => va_Nc.moved hW.alike (h.2.2 q hq)⟩
theorem KK.same {w : Wp} {s U : State} (hv : s.vm = U.vm) (h : KK w s) : KK w U := ⟨va_K.moved (by rw [← hv]; exact Vm.Alike.refl _) h.1, fun x hx => nest_same hx hv (h.2.1 x hx), fun q hq => va_Nc.moved (by rw [← hv]; exact Vm.Alike.refl _) (h.2.2 q hq)⟩
/-- the words of every method: the good ones of the tables -/
def TB : List Cond := lw_tbl.filter goodWord
theorem TB_good : ∀ w ∈ TB, goodWord w = true := fun w h => (List.mem_filter.mp h).2
theorem tb_in {w : Cond} (h : w ∈ lw_tbl) (g : goodWord w = true) : w ∈ TB := List.mem_filter.mpr ⟨h, g⟩
theorem tb_GoodIn {y y2 : Cond} (h : y2 ∈ TB) : GoodIn (y :: TB) (y2 :: TB) := fun w hw => by
  have h1 : w ∈ TB := (List.mem_cons.mp hw).elim (fun e => by rw [e]; exact h) id
  exact ⟨List.mem_cons_of_mem _ h1, good_of_word (TB_good w h1)⟩
/-- strings and what a throw needs, outside the world -/
def strB : List (List Int32) := [[112, 101, 114, 115, 111, 110],
  [104, 117, 110, 103, 101, 114],
  [112, 97, 114, 116, 121],
  [99, 114, 117, 115, 116],
  [99, 114, 117, 109, 98],
  [115, 107, 105, 110],
  [115, 116, 97, 110, 100, 115],
  [108, 105, 107, 101, 115],
  [103, 114, 105, 115, 116],
  [115, 112, 114, 105, 110, 103],
  [115, 117, 109, 109, 101, 114],
  [97, 117, 116, 117, 109, 110],
  [119, 105, 110, 116, 101, 114],
  [102, 108, 111, 117, 114],
  [119, 97, 121],
  [115, 112, 101, 101, 99, 104],
  [119, 101, 101, 107],
  [116, 104, 101, 32, 116, 101, 120, 116, 32, 111, 102, 32, 116, 104, 101, 32, 118, 105, 108, 108, 97, 103, 101, 32, 105, 115, 32, 119, 114, 111, 110, 103],
  [116, 104, 101, 114, 101, 32, 97, 114, 101, 32, 116, 119, 101, 108, 118, 101, 32, 116, 101, 120, 116, 115],
  [115, 119, 97, 121],
  [115, 112, 105, 116, 101],
  [97, 98, 115, 116, 97, 105, 110],
  [105, 102],
  [110, 111, 116],
  [115, 97, 109, 101],
  [115, 116, 97, 110, 100, 105, 110, 103],
  [118, 111, 116, 101, 114],
  [111, 116, 104, 101, 114],
  [104, 97, 100],
  [114, 117, 110],
  [97, 110, 100],
  [111, 114],
  [116, 104, 101, 32, 116, 101, 120, 116, 32, 111, 102, 32, 116, 104, 101, 32, 108, 97, 119, 32, 105, 115, 32, 119, 114, 111, 110, 103],
  [116, 104, 101, 114, 101, 32, 105, 115, 32, 110, 111, 32, 115, 117, 99, 104, 32, 112, 101, 114, 115, 111, 110],
  [110, 111, 116, 104, 105, 110, 103, 32, 115, 117, 99, 104, 32, 105, 115, 32, 107, 110, 111, 119, 110, 32, 111, 102, 32, 97, 32, 112, 101, 114, 115, 111, 110],
  [98, 111, 116, 104, 32, 97, 114, 101, 32, 111, 110, 101],
  [116, 104, 101, 114, 101, 32, 105, 115, 32, 110, 111, 32, 115, 117, 99, 104, 32, 115, 101, 97, 115, 111, 110],
  [116, 104, 101, 32, 110, 117, 109, 98, 101, 114, 32, 105, 115, 32, 110, 111, 110, 101],
  [119, 104, 111, 32, 105, 115, 32, 111, 110, 32, 116, 104, 101, 32, 98, 101, 110, 99, 104, 32, 99, 97, 110, 110, 111, 116, 32, 115, 116, 97, 110, 100],
  [116, 104, 101, 114, 101, 32, 105, 115, 32, 110, 111, 32, 115, 117, 99, 104, 32, 112, 97, 114, 116, 121],
  [110, 111, 32, 108, 111, 97, 102, 32, 99, 97, 110, 32, 98, 101, 32, 112, 97, 115, 115, 101, 100, 32, 111, 110],
  [119, 104, 111, 32, 105, 115, 32, 102, 101, 116, 99, 104, 101, 100, 32, 109, 117, 115, 116, 32, 98, 101, 32, 111, 110, 32, 116, 104, 101, 32, 98, 101, 110, 99, 104],
  [116, 104, 101, 32, 116, 97, 112, 101, 32, 116, 101, 108, 108, 115, 32, 110, 111, 32, 98, 97, 108, 108, 111, 116, 115],
  [119, 104, 111, 32, 115, 112, 101, 97, 107, 115, 32, 109, 117, 115, 116, 32, 98, 101, 32, 97, 32, 114, 117, 110, 110, 101, 114],
  [110, 111, 116, 104, 105, 110, 103, 32, 115, 117, 99, 104, 32, 105, 115, 32, 116, 111, 108, 100, 32, 111, 102, 32, 119, 101, 101, 107, 115, 32, 97, 104, 101, 97, 100],
  [116, 104, 101, 32, 108, 111, 103, 32, 104, 97, 115, 32, 110, 111, 32, 115, 117, 99, 104, 32, 99, 111, 108, 117, 109, 110]]
def strL : List Nat := [6, 6, 5, 5, 5, 4, 6, 5, 5, 6, 6, 6, 6, 5, 3, 6, 4, 32, 22, 4, 5, 7, 2, 3, 4, 8, 5, 5, 3, 3, 3, 2, 28, 23, 33, 12, 23, 18, 32, 22, 24, 35, 25, 27, 35, 26]
def strR : List (String × Nat × String × Nat) := [("LastLoaf$Reader", 53, "person", 0),
  ("LastLoaf$Reader", 103, "hunger", 1),
  ("LastLoaf$Reader", 107, "party", 2),
  ("LastLoaf$Reader", 121, "crust", 3),
  ("LastLoaf$Reader", 123, "crumb", 4),
  ("LastLoaf$Reader", 112, "skin", 5),
  ("LastLoaf$Reader", 116, "stands", 6),
  ("LastLoaf$Reader", 62, "likes", 7),
  ("LastLoaf$Reader", 67, "grist", 8),
  ("LastLoaf$Reader", 133, "spring", 9),
  ("LastLoaf$Reader", 135, "summer", 10),
  ("LastLoaf$Reader", 137, "autumn", 11),
  ("LastLoaf$Reader", 139, "winter", 12),
  ("LastLoaf$Reader", 72, "flour", 13),
  ("LastLoaf$Reader", 82, "way", 14),
  ("LastLoaf$Reader", 86, "speech", 15),
  ("LastLoaf$Reader", 90, "week", 16),
  ("LastLoaf", 124, "the text of the village is wrong", 17),
  ("LastLoaf", 134, "there are twelve texts", 18),
  ("LastLoaf$Reader", 152, "sway", 19),
  ("LastLoaf$Reader", 154, "spite", 20),
  ("LastLoaf$Reader", 156, "abstain", 21),
  ("LastLoaf$Reader", 158, "if", 22),
  ("LastLoaf$Reader", 187, "not", 23),
  ("LastLoaf$Reader", 192, "same", 24),
  ("LastLoaf$Reader", 194, "standing", 25),
  ("LastLoaf$Reader", 204, "voter", 26),
  ("LastLoaf$Reader", 206, "other", 27),
  ("LastLoaf$Reader", 208, "had", 28),
  ("LastLoaf$Reader", 210, "run", 29),
  ("LastLoaf$Reader", 176, "and", 30),
  ("LastLoaf$Reader", 185, "or", 31),
  ("LastLoaf", 143, "the text of the law is wrong", 32),
  ("LastLoaf", 466, "there is no such person", 33),
  ("LastLoaf", 209, "nothing such is known of a person", 34),
  ("LastLoaf", 468, "both are one", 35),
  ("LastLoaf", 225, "there is no such season", 36),
  ("LastLoaf", 460, "the number is none", 37),
  ("LastLoaf", 249, "who is on the bench cannot stand", 38),
  ("LastLoaf", 462, "there is no such party", 39),
  ("LastLoaf", 272, "no loaf can be passed on", 40),
  ("LastLoaf", 277, "who is fetched must be on the bench", 41),
  ("LastLoaf", 464, "the tape tells no ballots", 42),
  ("LastLoaf", 391, "who speaks must be a runner", 43),
  ("LastLoaf", 418, "nothing such is told of weeks ahead", 44),
  ("LastLoaf", 438, "the log has no such column", 45),
  ("LastLoafModel", 246, "sway", 19),
  ("LastLoafModel", 248, "spite", 20),
  ("LastLoafModel", 250, "abstain", 21),
  ("LastLoafModel", 252, "if", 22),
  ("LastLoafModel", 227, "not", 23),
  ("LastLoafModel", 213, "same", 24),
  ("LastLoafModel", 219, "standing", 25),
  ("LastLoafModel", 202, "voter", 26),
  ("LastLoafModel", 204, "other", 27),
  ("LastLoafModel", 152, "likes", 7),
  ("LastLoafModel", 119, "hunger", 1),
  ("LastLoafModel", 206, "had", 28),
  ("LastLoafModel", 208, "run", 29),
  ("LastLoafModel", 131, "skin", 5),
  ("LastLoafModel", 239, "and", 30),
  ("LastLoafModel", 244, "or", 31),
  ("LastLoafModel", 147, "person", 0),
  ("LastLoafModel", 125, "party", 2),
  ("LastLoafModel", 127, "crust", 3),
  ("LastLoafModel", 129, "crumb", 4),
  ("LastLoafModel", 133, "stands", 6),
  ("LastLoafModel", 157, "flour", 13),
  ("LastLoafModel", 162, "grist", 8),
  ("LastLoafModel", 139, "spring", 9),
  ("LastLoafModel", 141, "summer", 10),
  ("LastLoafModel", 143, "autumn", 11),
  ("LastLoafModel", 145, "winter", 12),
  ("LastLoafModel", 167, "way", 14),
  ("LastLoafModel", 169, "speech", 15),
  ("LastLoafModel", 171, "week", 16)]
def SX (w : Wp) (A : Nat → Prop) (U : State) (H : Heap) : Prop := vk_S 46 strL strB w.2.2.2.1 w.2.2.2.2 A U H ∧ (∀ q ∈ strR, vk_R q.1 q.2.1 q.2.2.1 (w.2.2.2.1 q.2.2.2) U) ∧ va_Z "java/lang/String" "COMPACT_STRINGS" "Z" (.int 1) A U H ∧ va_Zq "jdk/internal/util/Preconditions" "SIOOBE_FORMATTER" "Ljava/util/function/BiFunction;" A U H ∧ vx_Zq Bundle.tN "UNASSIGNED_STACK" Bundle.steD A U H ∧ vx_Zq Bundle.tN "SUPPRESSED_SENTINEL" Bundle.listD A U H
theorem SX.kept {w : Wp} {A : Nat → Prop} {U : State} {H H1 : Heap} (h : SX w A U H) (hq : ∀ a : Nat, a < H.size → ¬ A a → H1[a]? = H[a]?) : SX w A U H1 := ⟨h.1.kept hq, h.2.1, h.2.2.1.kept hq, h.2.2.2.1.kept hq, h.2.2.2.2.1.kept hq, h.2.2.2.2.2.kept hq⟩
theorem SX.narrow {w : Wp} {A B : Nat → Prop} {U : State} {H : Heap} (h : SX w A U H) (hAB : ∀ q, B q → A q) : SX w B U H := ⟨h.1.narrow hAB, h.2.1, h.2.2.1.narrow hAB, h.2.2.2.1.narrow hAB, h.2.2.2.2.1.narrow hAB, h.2.2.2.2.2.narrow hAB⟩
theorem SX.warm {w : Wp} {A : Nat → Prop} {s U : State} {H : Heap} (hW : s.WarmedH U.vm) (h : SX w A s H) : SX w A U H := ⟨h.1.moved hW.alike, fun q hq => vk_R.warm hW (h.2.1 q hq), h.2.2.1.moved hW.alike, h.2.2.2.1.moved hW.alike, h.2.2.2.2.1.moved hW.alike, h.2.2.2.2.2.moved hW.alike⟩
theorem SX.same {w : Wp} {A : Nat → Prop} {s U : State} {H : Heap} (hv : U.vm = s.vm) (h : SX w A s H) : SX w A U H := by
  have ha : s.vm.Alike U.vm := by rw [hv]; exact Vm.Alike.refl _
  exact ⟨h.1.moved ha, fun q hq => vk_R.same hv (h.2.1 q hq), h.2.2.1.moved ha, h.2.2.2.1.moved ha, h.2.2.2.2.1.moved ha, h.2.2.2.2.2.moved ha⟩
abbrev Tz : Type := (Program × Launch × Env × Room) × (State × MethodId × Array Value × List Frame) × (Method × Code) × (Nat → Prop) × (List KD × Wp)
/-- what holds through a whole body -/
def Zc (Θ : Tz) (cc : ByteArray) (nL : Nat) (own : String) (ret : Option FieldType) (rm : Room) : Prop :=
  Θ.1.1.tables.exec = Jvm.exec ∧ Θ.2.2.1.2.code = cc ∧ Θ.2.2.1.2.maxLocals = nL ∧ Θ.2.1.1.vm.findClass own = some Θ.2.1.2.1.cls ∧ (∀ w ∈ TB, w.before Θ.2.1.2.2.1 Θ.2.1.1 = true) ∧ Θ.2.2.1.1.locks = false ∧ Θ.2.2.1.1.sig.returnType = ret ∧ Θ.1.2.2.2 = rm ∧
  KK Θ.2.2.2.2.2 Θ.2.1.1 ∧ (∀ i j, i < Θ.2.2.2.2.1.length → j < Θ.2.2.2.2.1.length → Θ.2.2.2.2.2.2.2.1 i = Θ.2.2.2.2.2.2.2.1 j → i = j) ∧ (∀ i, i < Θ.2.2.2.2.1.length → Θ.2.2.2.1 (Θ.2.2.2.2.2.2.2.1 i)) ∧ (∀ q, Θ.2.1.1.heap.size ≤ q → Θ.2.2.2.1 q) ∧ SX Θ.2.2.2.2.2 Θ.2.2.2.1 Θ.2.1.1 Θ.2.1.1.heap
abbrev zW (Θ : Tz) (H : Heap) (locs : List Loc) (kc ks : Nat) (Q : State → Prop) (g : JFrame) : Prop := W Θ.1.1 Θ.1.2.1 Θ.1.2.2.1 Θ.1.2.2.2 Θ.2.1.1 Θ.2.1.2.1 Θ.2.1.2.2.1 Θ.2.1.2.2.2 Θ.2.2.1.1 Θ.2.2.1.2 H locs kc ks Q g
/-- at pc with these locals, this stack and this store the body comes to Q -/
def Z (Θ : Tz) (nL kc ks : Nat) (Q : State → Prop) (σ : St) (pc : Nat) (lv : List (Nat × Value)) (st : List Value) : Prop :=
  ∀ (H : Heap) (locs : List Loc) (ls : Array Slot), HW Θ.2.2.2.2.1 Θ.2.2.2.2.2 σ H → va_S Θ.2.2.2.1 Θ.2.1.1.heap H locs → lv_has ls nL lv → zW Θ H locs kc ks Q (F0 Θ.2.1.2.1 pc ls st)
def Qc (kd : List KD) (w : Wp) (A : Nat → Prop) (ρ : Option Value × St) : Array Value → State → Outcome → State → Prop := fun _ st o t => (o = .returned ρ.1 ∧ HW kd w ρ.2 t.heap) ∧ va_F A st t
abbrev zQ (Θ : Tz) (ρ : Option Value × St) : State → Prop := MQ Θ.2.1.2.2.2 (Qc Θ.2.2.2.2.1 Θ.2.2.2.2.2 Θ.2.2.2.1 ρ) Θ.2.1.2.2.1 Θ.2.1.1 0 0 Θ.2.2.2.1
section
variable {Θ : Tz} {cc : ByteArray} {nL kc ks : Nat} {own : String} {ret : Option FieldType} {rm : Room} {Q : State → Prop} {σ : St} {pc : Nat} {lv lv' : List (Nat × Value)} {st : List Value}
theorem Z.sub (qs : List Nat) (h : lv_pick lv qs = lv') (k : Z Θ nL kc ks Q σ pc lv' st) : Z Θ nL kc ks Q σ pc lv st := fun H locs ls hH hS hl => k H locs ls hH hS (lv_sub hl qs h)
theorem z_iconst (C : Zc Θ cc nL own ret rm) {n : Int} {v : Int32} (hd : decode cc pc = .ok (.iconst n, 1)) (hv : Int32.ofInt n = v) (k : Z Θ nL kc ks Q σ (pc + 1) lv (.int v :: st)) : Z Θ nL kc ks Q σ pc lv st := fun H locs ls hH hS hl => lv_iconst C.1 C.2.1 hd hv (k H locs ls hH hS hl)
theorem z_bipush (C : Zc Θ cc nL own ret rm) {n : Int} {v : Int32} (hd : decode cc pc = .ok (.bipush n, 2)) (hv : (Int8.ofInt n).toInt32 = v) (k : Z Θ nL kc ks Q σ (pc + 2) lv (.int v :: st)) : Z Θ nL kc ks Q σ pc lv st := fun H locs ls hH hS hl => lv_bipush C.1 C.2.1 hd hv (k H locs ls hH hS hl)
theorem z_sipush (C : Zc Θ cc nL own ret rm) {n : Int} {v : Int32} (hd : decode cc pc = .ok (.sipush n, 3)) (hv : (Int16.ofInt n).toInt32 = v) (k : Z Θ nL kc ks Q σ (pc + 3) lv (.int v :: st)) : Z Θ nL kc ks Q σ pc lv st := fun H locs ls hH hS hl => lv_sipush C.1 C.2.1 hd hv (k H locs ls hH hS hl)
theorem z_lconst (C : Zc Θ cc nL own ret rm) {n : Fin 2} {v : Int64} (hd : decode cc pc = .ok (.lconst n, 1)) (hv : Int64.ofNat (n : Nat) = v) (k : Z Θ nL kc ks Q σ (pc + 1) lv (.long v :: st)) : Z Θ nL kc ks Q σ pc lv st := fun H locs ls hH hS hl => lv_lconst C.1 C.2.1 hd hv (k H locs ls hH hS hl)
theorem z_iload_n (C : Zc Θ cc nL own ret rm) (q : Nat) {j : Fin 4} {i : Nat} {x : Int32} (hd : decode cc pc = .ok (.iload_n j, 1)) (hi : (j : Nat) = i) (hk : lv[q]? = some (i, .int x)) (k : Z Θ nL kc ks Q σ (pc + 1) lv (.int x :: st)) : Z Θ nL kc ks Q σ pc lv st := fun H locs ls hH hS hl => lv_iload_n C.1 C.2.1 hd hi (lv_at hl q hk) (k H locs ls hH hS hl)
theorem z_iload (C : Zc Θ cc nL own ret rm) (q : Nat) {i : Nat} {x : Int32} (hd : decode cc pc = .ok (.iload i, 2)) (hk : lv[q]? = some (i, .int x)) (k : Z Θ nL kc ks Q σ (pc + 2) lv (.int x :: st)) : Z Θ nL kc ks Q σ pc lv st := fun H locs ls hH hS hl => lv_iload C.1 C.2.1 hd (lv_at hl q hk) (k H locs ls hH hS hl)
theorem z_aload_n (C : Zc Θ cc nL own ret rm) (q : Nat) {j : Fin 4} {i x : Nat} (hd : decode cc pc = .ok (.aload_n j, 1)) (hi : (j : Nat) = i) (hk : lv[q]? = some (i, .ref x)) (k : Z Θ nL kc ks Q σ (pc + 1) lv (.ref x :: st)) : Z Θ nL kc ks Q σ pc lv st := fun H locs ls hH hS hl => lv_aload_n C.1 C.2.1 hd hi (lv_at hl q hk) (k H locs ls hH hS hl)
theorem z_aload (C : Zc Θ cc nL own ret rm) (q : Nat) {i x : Nat} (hd : decode cc pc = .ok (.aload i, 2)) (hk : lv[q]? = some (i, .ref x)) (k : Z Θ nL kc ks Q σ (pc + 2) lv (.ref x :: st)) : Z Θ nL kc ks Q σ pc lv st := fun H locs ls hH hS hl => lv_aload C.1 C.2.1 hd (lv_at hl q hk) (k H locs ls hH hS hl)
theorem z_lload_n (C : Zc Θ cc nL own ret rm) (q : Nat) {j : Fin 4} {i : Nat} {x : Int64} (hd : decode cc pc = .ok (.lload_n j, 1)) (hi : (j : Nat) = i) (hk : lv[q]? = some (i, .long x)) (k : Z Θ nL kc ks Q σ (pc + 1) lv (.long x :: st)) : Z Θ nL kc ks Q σ pc lv st := fun H locs ls hH hS hl => lv_lload_n C.1 C.2.1 hd hi (lv_at hl q hk) (k H locs ls hH hS hl)
theorem z_lload (C : Zc Θ cc nL own ret rm) (q : Nat) {i : Nat} {x : Int64} (hd : decode cc pc = .ok (.lload i, 2)) (hk : lv[q]? = some (i, .long x)) (k : Z Θ nL kc ks Q σ (pc + 2) lv (.long x :: st)) : Z Θ nL kc ks Q σ pc lv st := fun H locs ls hH hS hl => lv_lload C.1 C.2.1 hd (lv_at hl q hk) (k H locs ls hH hS hl)
theorem z_istore_n (C : Zc Θ cc nL own ret rm) {j : Fin 4} {i : Nat} {x : Int32} (hd : decode cc pc = .ok (.istore_n j, 1)) (hi : (j : Nat) = i) (hn : i < nL) (hl' : (i, Value.int x) :: lv.filter (fun q => !(q.1 == i) && !(q.1 + 1 == i && q.2.category == 2)) = lv') (k : Z Θ nL kc ks Q σ (pc + 1) lv' st) : Z Θ nL kc ks Q σ pc lv (.int x :: st) := fun H locs ls hH hS hl => lv_istore_n C.1 C.2.1 hd hi hl hn hl' (fun ls h => k H locs ls hH hS h)
theorem z_istore (C : Zc Θ cc nL own ret rm) {i : Nat} {x : Int32} (hd : decode cc pc = .ok (.istore i, 2)) (hn : i < nL) (hl' : (i, Value.int x) :: lv.filter (fun q => !(q.1 == i) && !(q.1 + 1 == i && q.2.category == 2)) = lv') (k : Z Θ nL kc ks Q σ (pc + 2) lv' st) : Z Θ nL kc ks Q σ pc lv (.int x :: st) := fun H locs ls hH hS hl => lv_istore C.1 C.2.1 hd hl hn hl' (fun ls h => k H locs ls hH hS h)
theorem z_lstore_n (C : Zc Θ cc nL own ret rm) {j : Fin 4} {i : Nat} {x : Int64} (hd : decode cc pc = .ok (.lstore_n j, 1)) (hi : (j : Nat) = i) (hn : i + 1 < nL) (hl' : (i, Value.long x) :: lv.filter (fun q => !(q.1 == i) && (!(q.1 == i + 1) && !(q.1 + 1 == i && q.2.category == 2))) = lv') (k : Z Θ nL kc ks Q σ (pc + 1) lv' st) : Z Θ nL kc ks Q σ pc lv (.long x :: st) := fun H locs ls hH hS hl => lv_lstore_n C.1 C.2.1 hd hi hl hn hl' (fun ls h => k H locs ls hH hS h)
theorem z_lstore (C : Zc Θ cc nL own ret rm) {i : Nat} {x : Int64} (hd : decode cc pc = .ok (.lstore i, 2)) (hn : i + 1 < nL) (hl' : (i, Value.long x) :: lv.filter (fun q => !(q.1 == i) && (!(q.1 == i + 1) && !(q.1 + 1 == i && q.2.category == 2))) = lv') (k : Z Θ nL kc ks Q σ (pc + 2) lv' st) : Z Θ nL kc ks Q σ pc lv (.long x :: st) := fun H locs ls hH hS hl => lv_lstore C.1 C.2.1 hd hl hn hl' (fun ls h => k H locs ls hH hS h)
theorem z_iinc (C : Zc Θ cc nL own ret rm) (q : Nat) {i : Nat} {n : Int} {x v : Int32} (hd : decode cc pc = .ok (.iinc i n, 3)) (hk : lv[q]? = some (i, .int x)) (hv : x + Int32.ofInt n = v) (hn : i < nL) (hl' : (i, Value.int v) :: lv.filter (fun q => !(q.1 == i) && !(q.1 + 1 == i && q.2.category == 2)) = lv') (k : Z Θ nL kc ks Q σ (pc + 3) lv' st) : Z Θ nL kc ks Q σ pc lv st := fun H locs ls hH hS hl => lv_iinc C.1 C.2.1 hd hl hk hv hn hl' (fun ls h => k H locs ls hH hS h)
theorem z_iadd (C : Zc Θ cc nL own ret rm) {x y : Int32} (hd : decode cc pc = .ok (.iadd, 1)) (k : Z Θ nL kc ks Q σ (pc + 1) lv (.int (x + y) :: st)) : Z Θ nL kc ks Q σ pc lv (.int y :: .int x :: st) := fun H locs ls hH hS hl => lv_iadd C.1 C.2.1 hd (k H locs ls hH hS hl)
theorem z_isub (C : Zc Θ cc nL own ret rm) {x y : Int32} (hd : decode cc pc = .ok (.isub, 1)) (k : Z Θ nL kc ks Q σ (pc + 1) lv (.int (x - y) :: st)) : Z Θ nL kc ks Q σ pc lv (.int y :: .int x :: st) := fun H locs ls hH hS hl => lv_isub C.1 C.2.1 hd (k H locs ls hH hS hl)
theorem z_imul (C : Zc Θ cc nL own ret rm) {x y : Int32} (hd : decode cc pc = .ok (.imul, 1)) (k : Z Θ nL kc ks Q σ (pc + 1) lv (.int (x * y) :: st)) : Z Θ nL kc ks Q σ pc lv (.int y :: .int x :: st) := fun H locs ls hH hS hl => lv_imul C.1 C.2.1 hd (k H locs ls hH hS hl)
theorem z_iand (C : Zc Θ cc nL own ret rm) {x y : Int32} (hd : decode cc pc = .ok (.iand, 1)) (k : Z Θ nL kc ks Q σ (pc + 1) lv (.int (x &&& y) :: st)) : Z Θ nL kc ks Q σ pc lv (.int y :: .int x :: st) := fun H locs ls hH hS hl => lv_iand C.1 C.2.1 hd (k H locs ls hH hS hl)
theorem z_ior (C : Zc Θ cc nL own ret rm) {x y : Int32} (hd : decode cc pc = .ok (.ior, 1)) (k : Z Θ nL kc ks Q σ (pc + 1) lv (.int (x ||| y) :: st)) : Z Θ nL kc ks Q σ pc lv (.int y :: .int x :: st) := fun H locs ls hH hS hl => lv_ior C.1 C.2.1 hd (k H locs ls hH hS hl)
theorem z_ixor (C : Zc Θ cc nL own ret rm) {x y : Int32} (hd : decode cc pc = .ok (.ixor, 1)) (k : Z Θ nL kc ks Q σ (pc + 1) lv (.int (x ^^^ y) :: st)) : Z Θ nL kc ks Q σ pc lv (.int y :: .int x :: st) := fun H locs ls hH hS hl => lv_ixor C.1 C.2.1 hd (k H locs ls hH hS hl)
theorem z_ishl (C : Zc Θ cc nL own ret rm) {x y : Int32} (hd : decode cc pc = .ok (.ishl, 1)) (k : Z Θ nL kc ks Q σ (pc + 1) lv (.int (x <<< (y &&& 31)) :: st)) : Z Θ nL kc ks Q σ pc lv (.int y :: .int x :: st) := fun H locs ls hH hS hl => lv_ishl C.1 C.2.1 hd (k H locs ls hH hS hl)
theorem z_ishr (C : Zc Θ cc nL own ret rm) {x y : Int32} (hd : decode cc pc = .ok (.ishr, 1)) (k : Z Θ nL kc ks Q σ (pc + 1) lv (.int (x >>> (y &&& 31)) :: st)) : Z Θ nL kc ks Q σ pc lv (.int y :: .int x :: st) := fun H locs ls hH hS hl => lv_ishr C.1 C.2.1 hd (k H locs ls hH hS hl)
theorem z_ladd (C : Zc Θ cc nL own ret rm) {x y : Int64} (hd : decode cc pc = .ok (.ladd, 1)) (k : Z Θ nL kc ks Q σ (pc + 1) lv (.long (x + y) :: st)) : Z Θ nL kc ks Q σ pc lv (.long y :: .long x :: st) := fun H locs ls hH hS hl => lv_ladd C.1 C.2.1 hd (k H locs ls hH hS hl)
theorem z_lsub (C : Zc Θ cc nL own ret rm) {x y : Int64} (hd : decode cc pc = .ok (.lsub, 1)) (k : Z Θ nL kc ks Q σ (pc + 1) lv (.long (x - y) :: st)) : Z Θ nL kc ks Q σ pc lv (.long y :: .long x :: st) := fun H locs ls hH hS hl => lv_lsub C.1 C.2.1 hd (k H locs ls hH hS hl)
theorem z_lmul (C : Zc Θ cc nL own ret rm) {x y : Int64} (hd : decode cc pc = .ok (.lmul, 1)) (k : Z Θ nL kc ks Q σ (pc + 1) lv (.long (x * y) :: st)) : Z Θ nL kc ks Q σ pc lv (.long y :: .long x :: st) := fun H locs ls hH hS hl => lv_lmul C.1 C.2.1 hd (k H locs ls hH hS hl)
theorem z_idiv (C : Zc Θ cc nL own ret rm) {x y : Int32} (hd : decode cc pc = .ok (.idiv, 1)) (hne : ¬ y = 0) (k : Z Θ nL kc ks Q σ (pc + 1) lv (.int (x / y) :: st)) : Z Θ nL kc ks Q σ pc lv (.int y :: .int x :: st) := fun H locs ls hH hS hl => lv_idiv C.1 C.2.1 hd hne (k H locs ls hH hS hl)
theorem z_irem (C : Zc Θ cc nL own ret rm) {x y : Int32} (hd : decode cc pc = .ok (.irem, 1)) (hne : ¬ y = 0) (k : Z Θ nL kc ks Q σ (pc + 1) lv (.int (x - x / y * y) :: st)) : Z Θ nL kc ks Q σ pc lv (.int y :: .int x :: st) := fun H locs ls hH hS hl => lv_irem C.1 C.2.1 hd hne (k H locs ls hH hS hl)
theorem z_ldiv (C : Zc Θ cc nL own ret rm) {x y : Int64} (hd : decode cc pc = .ok (.ldiv, 1)) (hne : ¬ y = 0) (k : Z Θ nL kc ks Q σ (pc + 1) lv (.long (x / y) :: st)) : Z Θ nL kc ks Q σ pc lv (.long y :: .long x :: st) := fun H locs ls hH hS hl => lv_ldiv C.1 C.2.1 hd hne (k H locs ls hH hS hl)
theorem z_ineg (C : Zc Θ cc nL own ret rm) {x : Int32} (hd : decode cc pc = .ok (.ineg, 1)) (k : Z Θ nL kc ks Q σ (pc + 1) lv (.int (-x) :: st)) : Z Θ nL kc ks Q σ pc lv (.int x :: st) := fun H locs ls hH hS hl => lv_ineg C.1 C.2.1 hd (k H locs ls hH hS hl)
theorem z_iushr (C : Zc Θ cc nL own ret rm) {x y : Int32} (hd : decode cc pc = .ok (.iushr, 1)) (k : Z Θ nL kc ks Q σ (pc + 1) lv (.int ((x.toUInt32 >>> (y.toUInt32 &&& Int32.toUInt32 31)).toInt32) :: st)) : Z Θ nL kc ks Q σ pc lv (.int y :: .int x :: st) := fun H locs ls hH hS hl => lv_iushr C.1 C.2.1 hd rfl (k H locs ls hH hS hl)
theorem z_i2l (C : Zc Θ cc nL own ret rm) {x : Int32} (hd : decode cc pc = .ok (.i2l, 1)) (k : Z Θ nL kc ks Q σ (pc + 1) lv (.long x.toInt64 :: st)) : Z Θ nL kc ks Q σ pc lv (.int x :: st) := fun H locs ls hH hS hl => lv_i2l C.1 C.2.1 hd rfl (k H locs ls hH hS hl)
theorem z_l2i (C : Zc Θ cc nL own ret rm) {x : Int64} (hd : decode cc pc = .ok (.l2i, 1)) (k : Z Θ nL kc ks Q σ (pc + 1) lv (.int x.toInt32 :: st)) : Z Θ nL kc ks Q σ pc lv (.long x :: st) := fun H locs ls hH hS hl => lv_l2i C.1 C.2.1 hd rfl (k H locs ls hH hS hl)
theorem z_dup (C : Zc Θ cc nL own ret rm) {v : Value} (hd : decode cc pc = .ok (.dup, 1)) (hc : v.category = 1) (k : Z Θ nL kc ks Q σ (pc + 1) lv (v :: v :: st)) : Z Θ nL kc ks Q σ pc lv (v :: st) := fun H locs ls hH hS hl => lv_dup C.1 C.2.1 hd hc (k H locs ls hH hS hl)
theorem z_dup2 (C : Zc Θ cc nL own ret rm) {v w : Value} (hd : decode cc pc = .ok (.dup2, 1)) (hc : v.category = 1) (hw : w.category = 1) (k : Z Θ nL kc ks Q σ (pc + 1) lv (v :: w :: v :: w :: st)) : Z Θ nL kc ks Q σ pc lv (v :: w :: st) := fun H locs ls hH hS hl => lv_dup2_11 C.1 C.2.1 hd hc hw (k H locs ls hH hS hl)
theorem z_pop (C : Zc Θ cc nL own ret rm) {v : Value} (hd : decode cc pc = .ok (.pop, 1)) (hc : v.category = 1) (k : Z Θ nL kc ks Q σ (pc + 1) lv st) : Z Θ nL kc ks Q σ pc lv (v :: st) := fun H locs ls hH hS hl => lv_pop C.1 C.2.1 hd hc (k H locs ls hH hS hl)
theorem z_goto (C : Zc Θ cc nL own ret rm) {off : Int} (tgt : Nat) (hd : decode cc pc = .ok (.goto off, 3)) (ht : (pc : Int) + off = (tgt : Int)) (k : Z Θ nL kc ks Q σ tgt lv st) : Z Θ nL kc ks Q σ pc lv st := fun H locs ls hH hS hl => lv_goto C.1 C.2.1 hd ht (k H locs ls hH hS hl)
theorem z_if_eq (C : Zc Θ cc nL own ret rm) {x : Int32} {off : Int} (tgt : Nat) (hd : decode cc pc = .ok (.ifCond .eq off, 3)) (ht : (pc : Int) + off = (tgt : Int)) (kt : x = 0 → Z Θ nL kc ks Q σ tgt lv st) (kf : ¬ x = 0 → Z Θ nL kc ks Q σ (pc + 3) lv st) : Z Θ nL kc ks Q σ pc lv (.int x :: st) := fun H locs ls hH hS hl => lv_if_eq C.1 C.2.1 hd ht (fun h => kt h H locs ls hH hS hl) (fun h => kf h H locs ls hH hS hl)
theorem z_if_ne (C : Zc Θ cc nL own ret rm) {x : Int32} {off : Int} (tgt : Nat) (hd : decode cc pc = .ok (.ifCond .ne off, 3)) (ht : (pc : Int) + off = (tgt : Int)) (kt : ¬ x = 0 → Z Θ nL kc ks Q σ tgt lv st) (kf : x = 0 → Z Θ nL kc ks Q σ (pc + 3) lv st) : Z Θ nL kc ks Q σ pc lv (.int x :: st) := fun H locs ls hH hS hl => lv_if_ne C.1 C.2.1 hd ht (fun h => kt h H locs ls hH hS hl) (fun h => kf h H locs ls hH hS hl)
theorem z_if_lt (C : Zc Θ cc nL own ret rm) {x : Int32} {off : Int} (tgt : Nat) (hd : decode cc pc = .ok (.ifCond .lt off, 3)) (ht : (pc : Int) + off = (tgt : Int)) (kt : x < 0 → Z Θ nL kc ks Q σ tgt lv st) (kf : ¬ x < 0 → Z Θ nL kc ks Q σ (pc + 3) lv st) : Z Θ nL kc ks Q σ pc lv (.int x :: st) := fun H locs ls hH hS hl => lv_if_lt C.1 C.2.1 hd ht (fun h => kt h H locs ls hH hS hl) (fun h => kf h H locs ls hH hS hl)
theorem z_if_ge (C : Zc Θ cc nL own ret rm) {x : Int32} {off : Int} (tgt : Nat) (hd : decode cc pc = .ok (.ifCond .ge off, 3)) (ht : (pc : Int) + off = (tgt : Int)) (kt : 0 ≤ x → Z Θ nL kc ks Q σ tgt lv st) (kf : ¬ 0 ≤ x → Z Θ nL kc ks Q σ (pc + 3) lv st) : Z Θ nL kc ks Q σ pc lv (.int x :: st) := fun H locs ls hH hS hl => lv_if_ge C.1 C.2.1 hd ht (fun h => kt h H locs ls hH hS hl) (fun h => kf h H locs ls hH hS hl)
theorem z_if_gt (C : Zc Θ cc nL own ret rm) {x : Int32} {off : Int} (tgt : Nat) (hd : decode cc pc = .ok (.ifCond .gt off, 3)) (ht : (pc : Int) + off = (tgt : Int)) (kt : 0 < x → Z Θ nL kc ks Q σ tgt lv st) (kf : ¬ 0 < x → Z Θ nL kc ks Q σ (pc + 3) lv st) : Z Θ nL kc ks Q σ pc lv (.int x :: st) := fun H locs ls hH hS hl => lv_if_gt C.1 C.2.1 hd ht (fun h => kt h H locs ls hH hS hl) (fun h => kf h H locs ls hH hS hl)
theorem z_if_le (C : Zc Θ cc nL own ret rm) {x : Int32} {off : Int} (tgt : Nat) (hd : decode cc pc = .ok (.ifCond .le off, 3)) (ht : (pc : Int) + off = (tgt : Int)) (kt : x ≤ 0 → Z Θ nL kc ks Q σ tgt lv st) (kf : ¬ x ≤ 0 → Z Θ nL kc ks Q σ (pc + 3) lv st) : Z Θ nL kc ks Q σ pc lv (.int x :: st) := fun H locs ls hH hS hl => lv_if_le C.1 C.2.1 hd ht (fun h => kt h H locs ls hH hS hl) (fun h => kf h H locs ls hH hS hl)
theorem z_icmp_eq (C : Zc Θ cc nL own ret rm) {x y : Int32} {off : Int} (tgt : Nat) (hd : decode cc pc = .ok (.if_icmp .eq off, 3)) (ht : (pc : Int) + off = (tgt : Int)) (kt : x = y → Z Θ nL kc ks Q σ tgt lv st) (kf : ¬ x = y → Z Θ nL kc ks Q σ (pc + 3) lv st) : Z Θ nL kc ks Q σ pc lv (.int y :: .int x :: st) := fun H locs ls hH hS hl => lv_icmp_eq C.1 C.2.1 hd ht (fun h => kt h H locs ls hH hS hl) (fun h => kf h H locs ls hH hS hl)
theorem z_icmp_ne (C : Zc Θ cc nL own ret rm) {x y : Int32} {off : Int} (tgt : Nat) (hd : decode cc pc = .ok (.if_icmp .ne off, 3)) (ht : (pc : Int) + off = (tgt : Int)) (kt : ¬ x = y → Z Θ nL kc ks Q σ tgt lv st) (kf : x = y → Z Θ nL kc ks Q σ (pc + 3) lv st) : Z Θ nL kc ks Q σ pc lv (.int y :: .int x :: st) := fun H locs ls hH hS hl => lv_icmp_ne C.1 C.2.1 hd ht (fun h => kt h H locs ls hH hS hl) (fun h => kf h H locs ls hH hS hl)
theorem z_icmp_lt (C : Zc Θ cc nL own ret rm) {x y : Int32} {off : Int} (tgt : Nat) (hd : decode cc pc = .ok (.if_icmp .lt off, 3)) (ht : (pc : Int) + off = (tgt : Int)) (kt : x < y → Z Θ nL kc ks Q σ tgt lv st) (kf : ¬ x < y → Z Θ nL kc ks Q σ (pc + 3) lv st) : Z Θ nL kc ks Q σ pc lv (.int y :: .int x :: st) := fun H locs ls hH hS hl => lv_icmp_lt C.1 C.2.1 hd ht (fun h => kt h H locs ls hH hS hl) (fun h => kf h H locs ls hH hS hl)
theorem z_icmp_ge (C : Zc Θ cc nL own ret rm) {x y : Int32} {off : Int} (tgt : Nat) (hd : decode cc pc = .ok (.if_icmp .ge off, 3)) (ht : (pc : Int) + off = (tgt : Int)) (kt : y ≤ x → Z Θ nL kc ks Q σ tgt lv st) (kf : ¬ y ≤ x → Z Θ nL kc ks Q σ (pc + 3) lv st) : Z Θ nL kc ks Q σ pc lv (.int y :: .int x :: st) := fun H locs ls hH hS hl => lv_icmp_ge C.1 C.2.1 hd ht (fun h => kt h H locs ls hH hS hl) (fun h => kf h H locs ls hH hS hl)
theorem z_icmp_gt (C : Zc Θ cc nL own ret rm) {x y : Int32} {off : Int} (tgt : Nat) (hd : decode cc pc = .ok (.if_icmp .gt off, 3)) (ht : (pc : Int) + off = (tgt : Int)) (kt : y < x → Z Θ nL kc ks Q σ tgt lv st) (kf : ¬ y < x → Z Θ nL kc ks Q σ (pc + 3) lv st) : Z Θ nL kc ks Q σ pc lv (.int y :: .int x :: st) := fun H locs ls hH hS hl => lv_icmp_gt C.1 C.2.1 hd ht (fun h => kt h H locs ls hH hS hl) (fun h => kf h H locs ls hH hS hl)
theorem z_icmp_le (C : Zc Θ cc nL own ret rm) {x y : Int32} {off : Int} (tgt : Nat) (hd : decode cc pc = .ok (.if_icmp .le off, 3)) (ht : (pc : Int) + off = (tgt : Int)) (kt : x ≤ y → Z Θ nL kc ks Q σ tgt lv st) (kf : ¬ x ≤ y → Z Θ nL kc ks Q σ (pc + 3) lv st) : Z Θ nL kc ks Q σ pc lv (.int y :: .int x :: st) := fun H locs ls hH hS hl => lv_icmp_le C.1 C.2.1 hd ht (fun h => kt h H locs ls hH hS hl) (fun h => kf h H locs ls hH hS hl)
end

/-! THE FIRST WORLDS -/
def prmC : List Nat := [0, 1, 2, 31, 32, 47, 169, 170, 171, 172, 173, 174, 175, 176, 177, 178, 179, 180, 181, 182, 183, 184, 185, 186, 187, 188, 189, 190, 191, 192, 193, 48, 23, 24, 25, 26, 27, 28, 29, 30, 43, 44, 45, 46, 3, 4, 5, 6, 7, 8, 9, 10, 11, 12, 13, 14, 15, 16, 17, 18, 19, 20, 21, 22, 33, 34, 35, 36, 37, 38, 39, 40, 41, 42, 49, 50, 51, 52, 53, 54, 55, 56, 57, 58, 59, 60, 61, 62, 63, 64, 65, 66, 67, 68, 69, 70, 71, 72, 73, 74, 75, 76, 77, 78, 79, 80, 81, 82, 83, 84, 85, 86, 87, 88, 89, 90, 91, 92, 93, 94, 95, 96, 97, 98, 99, 100, 101, 102, 103, 104, 105, 106, 107, 108, 109, 110, 111, 112, 113, 114, 115, 116, 117, 118, 119, 120, 121, 122, 123, 124, 125, 126, 127, 128, 129, 130, 131, 132, 133, 134, 135, 136, 137, 138, 139, 140, 141, 142, 143, 144, 145, 146, 147, 148, 149, 150, 151, 152, 153, 154, 155, 156, 157, 158, 159, 160, 161, 162, 163, 164, 165, 166, 167, 168]
def adC (b n : Nat) : Nat → Nat := fun p => b + (n + prmC.getD p 0)
def stC : St := fun p => ([fun k => ([0, 0, 0, 0, 0, 0, 0, 0, 0, 0, 0, 0, 0, 0, 0, (-1)] : List Int32).getD k 0, fun k => ([0, 0, 0, 0, 0] : List Int32).getD k 0, (fun _ => 0), fun k => ([0, 0, 0, 0, 0, 0] : List Int32).getD k 0, (fun _ => 0), fun k => ([0, 0, 0] : List Int32).getD k 0, fun k => ([0, 0, 0, 0, 0, 0, 0, 0, 0, 0] : List Int32).getD k 0, (fun _ => 0), (fun _ => 0), (fun _ => 0), (fun _ => 0), (fun _ => 0), (fun _ => 0), fun k => ([0, 0] : List Int32).getD k 0, fun k => ([0, 0, 0, 0, 0, 0, 0, 0, 0, 0, 0] : List Int32).getD k 0, (fun _ => 0), (fun _ => 0), (fun _ => 0), (fun _ => 0), (fun _ => 0), (fun _ => 0), fun k => ([0, 0, 0, 0, 0, 0, 0, 1, 0] : List Int32).getD k 0, (fun _ => 0), (fun _ => 0), (fun _ => 0), (fun _ => 0), (fun _ => 0), fun k => ([0, 0, 0, 0, 0] : List Int32).getD k 0, (fun _ => 0), (fun _ => 0), (fun _ => 0), fun _ => 0, fun k => ([0, 0, 0, 0, (-1), 0, 0] : List Int32).getD k 0, (fun _ => 0), (fun _ => 0), (fun _ => 0), fun k => ([0, 0, 0, 0, (-1), 0, 0] : List Int32).getD k 0, (fun _ => 0), (fun _ => 0), (fun _ => 0), fun k => ([0, 0, 0, 0, (-1), 0, 0] : List Int32).getD k 0, (fun _ => 0), (fun _ => 0), (fun _ => 0), fun k => ([0, 0, 0, 0, 0, 0, 0, 0, 0, 0, 0, 0, 0, 0, 0, 1, 0] : List Int32).getD k 0, (fun _ => 0), (fun _ => 0), (fun _ => 0), (fun _ => 0), (fun _ => 0), (fl9 (fun _ => 0) 36 5), (fl9 (fun _ => 0) 4 5), fun k => ([0, 0, 0] : List Int32).getD k 0, (fun _ => 0), fun k => ([0, 0, 0, 0, 0, 0, 0, 0, 0, 0, 0, 0, 0, 0, 0, 1, 0] : List Int32).getD k 0, (fun _ => 0), (fun _ => 0), (fun _ => 0), (fun _ => 0), (fun _ => 0), (fl9 (fun _ => 0) 36 5), (fl9 (fun _ => 0) 4 5), fun k => ([0, 0, 0] : List Int32).getD k 0, (fun _ => 0), fun k => ([0, 0, 0, 0, 0, 0, 0, 0, 0, 0, 0, 0, 0, 0, 0, 1, 0] : List Int32).getD k 0, (fun _ => 0), (fun _ => 0), (fun _ => 0), (fun _ => 0), (fun _ => 0), (fl9 (fun _ => 0) 36 5), (fl9 (fun _ => 0) 4 5), fun k => ([0, 0, 0] : List Int32).getD k 0, (fun _ => 0), fun k => ([0, 0, 0, 0, 0, 0, 0, 0, 0, 0, 0, 0, 0, 0, 0, 1, 0] : List Int32).getD k 0, (fun _ => 0), (fun _ => 0), (fun _ => 0), (fun _ => 0), (fun _ => 0), (fl9 (fun _ => 0) 36 5), (fl9 (fun _ => 0) 4 5), fun k => ([0, 0, 0] : List Int32).getD k 0, (fun _ => 0), fun k => ([0, 0, 0, 0, 0, 0, 0, 0, 0, 0, 0, 0, 0, 0, 0, 1, 0] : List Int32).getD k 0, (fun _ => 0), (fun _ => 0), (fun _ => 0), (fun _ => 0), (fun _ => 0), (fl9 (fun _ => 0) 36 5), (fl9 (fun _ => 0) 4 5), fun k => ([0, 0, 0] : List Int32).getD k 0, (fun _ => 0), fun k => ([0, 0, 0, 0, 0, 0, 0, 0, 0, 0, 0, 0, 0, 0, 0, 1, 0] : List Int32).getD k 0, (fun _ => 0), (fun _ => 0), (fun _ => 0), (fun _ => 0), (fun _ => 0), (fl9 (fun _ => 0) 36 5), (fl9 (fun _ => 0) 4 5), fun k => ([0, 0, 0] : List Int32).getD k 0, (fun _ => 0), fun k => ([0, 0, 0, 0, 0, 0, 0, 0, 0, 0, 0, 0, 0, 0, 0, 1, 0] : List Int32).getD k 0, (fun _ => 0), (fun _ => 0), (fun _ => 0), (fun _ => 0), (fun _ => 0), (fl9 (fun _ => 0) 36 5), (fl9 (fun _ => 0) 4 5), fun k => ([0, 0, 0] : List Int32).getD k 0, (fun _ => 0), fun k => ([0, 0, 0, 0, 0, 0, 0, 0, 0, 0, 0, 0, 0, 0, 0, 1, 0] : List Int32).getD k 0, (fun _ => 0), (fun _ => 0), (fun _ => 0), (fun _ => 0), (fun _ => 0), (fl9 (fun _ => 0) 36 5), (fl9 (fun _ => 0) 4 5), fun k => ([0, 0, 0] : List Int32).getD k 0, (fun _ => 0), fun k => ([0, 0, 0, 0, 0, 0, 0, 0, 0, 0, 0, 0, 0, 0, 0, 1, 0] : List Int32).getD k 0, (fun _ => 0), (fun _ => 0), (fun _ => 0), (fun _ => 0), (fun _ => 0), (fl9 (fun _ => 0) 36 5), (fl9 (fun _ => 0) 4 5), fun k => ([0, 0, 0] : List Int32).getD k 0, (fun _ => 0), fun k => ([0, 0, 0, 0, 0, 0, 0, 0, 0, 0, 0, 0, 0, 0, 0, 1, 0] : List Int32).getD k 0, (fun _ => 0), (fun _ => 0), (fun _ => 0), (fun _ => 0), (fun _ => 0), (fl9 (fun _ => 0) 36 5), (fl9 (fun _ => 0) 4 5), fun k => ([0, 0, 0] : List Int32).getD k 0, (fun _ => 0), fun k => ([0, 0, 0, 0, 0, 0, 0, 0, 0, 0, 0, 0, 0, 0, 0, 1, 0] : List Int32).getD k 0, (fun _ => 0), (fun _ => 0), (fun _ => 0), (fun _ => 0), (fun _ => 0), (fl9 (fun _ => 0) 36 5), (fl9 (fun _ => 0) 4 5), fun k => ([0, 0, 0] : List Int32).getD k 0, (fun _ => 0), fun k => ([0, 0, 0, 0, 0, 0, 0, 0, 0, 0, 0, 0, 0, 0, 0, 1, 0] : List Int32).getD k 0, (fun _ => 0), (fun _ => 0), (fun _ => 0), (fun _ => 0), (fun _ => 0), (fl9 (fun _ => 0) 36 5), (fl9 (fun _ => 0) 4 5), fun k => ([0, 0, 0] : List Int32).getD k 0, (fun _ => 0), fun k => ([0, 0, 0, 0, 0, 0, 0, 0, 0, 0, 0, 0, 0, 0, 0, 1, 0] : List Int32).getD k 0, (fun _ => 0), (fun _ => 0), (fun _ => 0), (fun _ => 0), (fun _ => 0), (fl9 (fun _ => 0) 36 5), (fl9 (fun _ => 0) 4 5), fun k => ([0, 0, 0] : List Int32).getD k 0, (fun _ => 0), fun k => ([0, 0, 0, 0, 0, 0, 0, 0, 0, 0, 0, 0, 0, 0, 0, 1, 0] : List Int32).getD k 0, (fun _ => 0), (fun _ => 0), (fun _ => 0), (fun _ => 0), (fun _ => 0), (fl9 (fun _ => 0) 36 5), (fl9 (fun _ => 0) 4 5), fun k => ([0, 0, 0] : List Int32).getD k 0, (fun _ => 0), fun k => ([0, 0, 0, 0, 0, 0, 0, 0, 0, 0, 0, 0, 0, 0, 0, 1, 0] : List Int32).getD k 0, (fun _ => 0), (fun _ => 0), (fun _ => 0), (fun _ => 0), (fun _ => 0), (fl9 (fun _ => 0) 36 5), (fl9 (fun _ => 0) 4 5), fun k => ([0, 0, 0] : List Int32).getD k 0, (fun _ => 0)] : List (Nat → Int32)).getD p (fun _ => 0)
def plC (w : Wp) (b n p : Nat) : Prop := ∀ k : KD, kdC[p]? = some k → (ch11 w b n)[prmC.getD p 0]? = some (cellOf (adC b n) w.2.1.1 w.2.1.2 (stC p) k)
theorem plC_0 (w : Wp) (b n : Nat) : plC w b n 0 := fun k h => by
  have e : (.inr (.inl (11, [some 1, some 44, some 54, some 32, some 36, some 3, some 64, some 40, some 5, some 6, some 13, some 14, some 21, some 27, none, none])) : KD) = k := Option.some.inj (show some (.inr (.inl (11, [some 1, some 44, some 54, some 32, some 36, some 3, some 64, some 40, some 5, some 6, some 13, some 14, some 21, some 27, none, none])) : KD) = some k from h)
  subst e
  rfl
theorem plC_1 (w : Wp) (b n : Nat) : plC w b n 1 := fun k h => by
  have e : (.inr (.inl (8, [some 2, none, none, none, none])) : KD) = k := Option.some.inj (show some (.inr (.inl (8, [some 2, none, none, none, none])) : KD) = some k from h)
  subst e
  rfl
theorem plC_2 (w : Wp) (b n : Nat) : plC w b n 2 := fun k h => by
  have e : (.inl 400 : KD) = k := Option.some.inj (show some (.inl 400 : KD) = some k from h)
  subst e
  rfl
theorem plC_3 (w : Wp) (b n : Nat) : plC w b n 3 := fun k h => by
  have e : (.inr (.inl (6, [some 1, some 54, some 36, some 4, none, none])) : KD) = k := Option.some.inj (show some (.inr (.inl (6, [some 1, some 54, some 36, some 4, none, none])) : KD) = some k from h)
  subst e
  rfl
theorem plC_4 (w : Wp) (b n : Nat) : plC w b n 4 := fun k h => by
  have e : (.inl 32 : KD) = k := Option.some.inj (show some (.inl 32 : KD) = some k from h)
  subst e
  rfl
theorem plC_5 (w : Wp) (b n : Nat) : plC w b n 5 := fun k h => by
  have e : (.inr (.inl (4, [some 31, none, none])) : KD) = k := Option.some.inj (show some (.inr (.inl (4, [some 31, none, none])) : KD) = some k from h)
  subst e
  rfl
theorem plC_6 (w : Wp) (b n : Nat) : plC w b n 6 := fun k h => by
  have e : (.inr (.inl (5, [some 7, some 8, some 9, some 10, some 11, some 12, none, none, none, none])) : KD) = k := Option.some.inj (show some (.inr (.inl (5, [some 7, some 8, some 9, some 10, some 11, some 12, none, none, none, none])) : KD) = some k from h)
  subst e
  rfl
theorem plC_7 (w : Wp) (b n : Nat) : plC w b n 7 := fun k h => by
  have e : (.inl 36 : KD) = k := Option.some.inj (show some (.inl 36 : KD) = some k from h)
  subst e
  rfl
theorem plC_8 (w : Wp) (b n : Nat) : plC w b n 8 := fun k h => by
  have e : (.inl 36 : KD) = k := Option.some.inj (show some (.inl 36 : KD) = some k from h)
  subst e
  rfl
theorem plC_9 (w : Wp) (b n : Nat) : plC w b n 9 := fun k h => by
  have e : (.inl 6 : KD) = k := Option.some.inj (show some (.inl 6 : KD) = some k from h)
  subst e
  rfl
theorem plC_10 (w : Wp) (b n : Nat) : plC w b n 10 := fun k h => by
  have e : (.inl 6 : KD) = k := Option.some.inj (show some (.inl 6 : KD) = some k from h)
  subst e
  rfl
theorem plC_11 (w : Wp) (b n : Nat) : plC w b n 11 := fun k h => by
  have e : (.inl 6 : KD) = k := Option.some.inj (show some (.inl 6 : KD) = some k from h)
  subst e
  rfl
theorem plC_12 (w : Wp) (b n : Nat) : plC w b n 12 := fun k h => by
  have e : (.inl 384 : KD) = k := Option.some.inj (show some (.inl 384 : KD) = some k from h)
  subst e
  rfl
theorem plC_13 (w : Wp) (b n : Nat) : plC w b n 13 := fun k h => by
  have e : (.inr (.inl (0, [some 6, some 32])) : KD) = k := Option.some.inj (show some (.inr (.inl (0, [some 6, some 32])) : KD) = some k from h)
  subst e
  rfl
theorem plC_14 (w : Wp) (b n : Nat) : plC w b n 14 := fun k h => by
  have e : (.inr (.inl (9, [some 15, some 16, some 17, some 18, some 19, some 20, none, none, none, none, none])) : KD) = k := Option.some.inj (show some (.inr (.inl (9, [some 15, some 16, some 17, some 18, some 19, some 20, none, none, none, none, none])) : KD) = some k from h)
  subst e
  rfl
theorem plC_15 (w : Wp) (b n : Nat) : plC w b n 15 := fun k h => by
  have e : (.inl 36 : KD) = k := Option.some.inj (show some (.inl 36 : KD) = some k from h)
  subst e
  rfl
theorem plC_16 (w : Wp) (b n : Nat) : plC w b n 16 := fun k h => by
  have e : (.inl 6 : KD) = k := Option.some.inj (show some (.inl 6 : KD) = some k from h)
  subst e
  rfl
theorem plC_17 (w : Wp) (b n : Nat) : plC w b n 17 := fun k h => by
  have e : (.inl 6 : KD) = k := Option.some.inj (show some (.inl 6 : KD) = some k from h)
  subst e
  rfl
theorem plC_18 (w : Wp) (b n : Nat) : plC w b n 18 := fun k h => by
  have e : (.inl 5 : KD) = k := Option.some.inj (show some (.inl 5 : KD) = some k from h)
  subst e
  rfl
theorem plC_19 (w : Wp) (b n : Nat) : plC w b n 19 := fun k h => by
  have e : (.inl 5 : KD) = k := Option.some.inj (show some (.inl 5 : KD) = some k from h)
  subst e
  rfl
theorem plC_20 (w : Wp) (b n : Nat) : plC w b n 20 := fun k h => by
  have e : (.inl 5 : KD) = k := Option.some.inj (show some (.inl 5 : KD) = some k from h)
  subst e
  rfl
theorem plC_21 (w : Wp) (b n : Nat) : plC w b n 21 := fun k h => by
  have e : (.inr (.inl (7, [some 22, some 23, some 24, some 25, some 26, none, none, none, none])) : KD) = k := Option.some.inj (show some (.inr (.inl (7, [some 22, some 23, some 24, some 25, some 26, none, none, none, none])) : KD) = some k from h)
  subst e
  rfl
theorem plC_22 (w : Wp) (b n : Nat) : plC w b n 22 := fun k h => by
  have e : (.inl 6 : KD) = k := Option.some.inj (show some (.inl 6 : KD) = some k from h)
  subst e
  rfl
theorem plC_23 (w : Wp) (b n : Nat) : plC w b n 23 := fun k h => by
  have e : (.inl 6 : KD) = k := Option.some.inj (show some (.inl 6 : KD) = some k from h)
  subst e
  rfl
theorem plC_24 (w : Wp) (b n : Nat) : plC w b n 24 := fun k h => by
  have e : (.inl 6 : KD) = k := Option.some.inj (show some (.inl 6 : KD) = some k from h)
  subst e
  rfl
theorem plC_25 (w : Wp) (b n : Nat) : plC w b n 25 := fun k h => by
  have e : (.inl 448 : KD) = k := Option.some.inj (show some (.inl 448 : KD) = some k from h)
  subst e
  rfl
theorem plC_26 (w : Wp) (b n : Nat) : plC w b n 26 := fun k h => by
  have e : (.inl 448 : KD) = k := Option.some.inj (show some (.inl 448 : KD) = some k from h)
  subst e
  rfl
theorem plC_27 (w : Wp) (b n : Nat) : plC w b n 27 := fun k h => by
  have e : (.inr (.inl (1, [some 28, some 29, some 30, none, none])) : KD) = k := Option.some.inj (show some (.inr (.inl (1, [some 28, some 29, some 30, none, none])) : KD) = some k from h)
  subst e
  rfl
theorem plC_28 (w : Wp) (b n : Nat) : plC w b n 28 := fun k h => by
  have e : (.inl 36 : KD) = k := Option.some.inj (show some (.inl 36 : KD) = some k from h)
  subst e
  rfl
theorem plC_29 (w : Wp) (b n : Nat) : plC w b n 29 := fun k h => by
  have e : (.inl 64 : KD) = k := Option.some.inj (show some (.inl 64 : KD) = some k from h)
  subst e
  rfl
theorem plC_30 (w : Wp) (b n : Nat) : plC w b n 30 := fun k h => by
  have e : (.inl 384 : KD) = k := Option.some.inj (show some (.inl 384 : KD) = some k from h)
  subst e
  rfl
theorem plC_31 (w : Wp) (b n : Nat) : plC w b n 31 := fun k h => by
  have e : (.inr (.inr [74, 84, 94, 104, 114, 124, 134, 144, 154, 164, 174, 184]) : KD) = k := Option.some.inj (show some (.inr (.inr [74, 84, 94, 104, 114, 124, 134, 144, 154, 164, 174, 184]) : KD) = some k from h)
  subst e
  have hf : (va_up (va_up (va_up (va_up (va_up (va_up (va_up (va_up (va_up (va_up (va_up (va_up (fun _ => none) 0 (some (b + ((n + 47) + 2)))) 1 (some (b + ((n + 47) + 12)))) 2 (some (b + ((n + 47) + 22)))) 3 (some (b + ((n + 47) + 32)))) 4 (some (b + ((n + 47) + 42)))) 5 (some (b + ((n + 47) + 52)))) 6 (some (b + ((n + 47) + 62)))) 7 (some (b + ((n + 47) + 72)))) 8 (some (b + ((n + 47) + 82)))) 9 (some (b + ((n + 47) + 92)))) 10 (some (b + ((n + 47) + 102)))) 11 (some (b + ((n + 47) + 112)))) = (fun k => (([74, 84, 94, 104, 114, 124, 134, 144, 154, 164, 174, 184] : List Nat)[k]?).map (adC b n)) := by
    funext k
    match k with
    | 0 => rfl
    | 1 => rfl
    | 2 => rfl
    | 3 => rfl
    | 4 => rfl
    | 5 => rfl
    | 6 => rfl
    | 7 => rfl
    | 8 => rfl
    | 9 => rfl
    | 10 => rfl
    | 11 => rfl
    | k + 12 => simp [va_up]
  show some (.inl (w.2.1.2, 12, .inr (.inr (.inr (.inr (va_up (va_up (va_up (va_up (va_up (va_up (va_up (va_up (va_up (va_up (va_up (va_up (fun _ => none) 0 (some (b + ((n + 47) + 2)))) 1 (some (b + ((n + 47) + 12)))) 2 (some (b + ((n + 47) + 22)))) 3 (some (b + ((n + 47) + 32)))) 4 (some (b + ((n + 47) + 42)))) 5 (some (b + ((n + 47) + 52)))) 6 (some (b + ((n + 47) + 62)))) 7 (some (b + ((n + 47) + 72)))) 8 (some (b + ((n + 47) + 82)))) 9 (some (b + ((n + 47) + 92)))) 10 (some (b + ((n + 47) + 102)))) 11 (some (b + ((n + 47) + 112))))))))) = some (.inl (w.2.1.2, 12, .inr (.inr (.inr (.inr (fun k => (([74, 84, 94, 104, 114, 124, 134, 144, 154, 164, 174, 184] : List Nat)[k]?).map (adC b n)))))))
  rw [hf]
theorem plC_32 (w : Wp) (b n : Nat) : plC w b n 32 := fun k h => by
  have e : (.inr (.inl (2, [some 33, some 34, some 35, none, none, none, none])) : KD) = k := Option.some.inj (show some (.inr (.inl (2, [some 33, some 34, some 35, none, none, none, none])) : KD) = some k from h)
  subst e
  rfl
theorem plC_33 (w : Wp) (b n : Nat) : plC w b n 33 := fun k h => by
  have e : (.inl 412 : KD) = k := Option.some.inj (show some (.inl 412 : KD) = some k from h)
  subst e
  rfl
theorem plC_34 (w : Wp) (b n : Nat) : plC w b n 34 := fun k h => by
  have e : (.inl 32 : KD) = k := Option.some.inj (show some (.inl 32 : KD) = some k from h)
  subst e
  rfl
theorem plC_35 (w : Wp) (b n : Nat) : plC w b n 35 := fun k h => by
  have e : (.inl 9 : KD) = k := Option.some.inj (show some (.inl 9 : KD) = some k from h)
  subst e
  rfl
theorem plC_36 (w : Wp) (b n : Nat) : plC w b n 36 := fun k h => by
  have e : (.inr (.inl (2, [some 37, some 38, some 39, none, none, none, none])) : KD) = k := Option.some.inj (show some (.inr (.inl (2, [some 37, some 38, some 39, none, none, none, none])) : KD) = some k from h)
  subst e
  rfl
theorem plC_37 (w : Wp) (b n : Nat) : plC w b n 37 := fun k h => by
  have e : (.inl 412 : KD) = k := Option.some.inj (show some (.inl 412 : KD) = some k from h)
  subst e
  rfl
theorem plC_38 (w : Wp) (b n : Nat) : plC w b n 38 := fun k h => by
  have e : (.inl 32 : KD) = k := Option.some.inj (show some (.inl 32 : KD) = some k from h)
  subst e
  rfl
theorem plC_39 (w : Wp) (b n : Nat) : plC w b n 39 := fun k h => by
  have e : (.inl 9 : KD) = k := Option.some.inj (show some (.inl 9 : KD) = some k from h)
  subst e
  rfl
theorem plC_40 (w : Wp) (b n : Nat) : plC w b n 40 := fun k h => by
  have e : (.inr (.inl (2, [some 41, some 42, some 43, none, none, none, none])) : KD) = k := Option.some.inj (show some (.inr (.inl (2, [some 41, some 42, some 43, none, none, none, none])) : KD) = some k from h)
  subst e
  rfl
theorem plC_41 (w : Wp) (b n : Nat) : plC w b n 41 := fun k h => by
  have e : (.inl 412 : KD) = k := Option.some.inj (show some (.inl 412 : KD) = some k from h)
  subst e
  rfl
theorem plC_42 (w : Wp) (b n : Nat) : plC w b n 42 := fun k h => by
  have e : (.inl 32 : KD) = k := Option.some.inj (show some (.inl 32 : KD) = some k from h)
  subst e
  rfl
theorem plC_43 (w : Wp) (b n : Nat) : plC w b n 43 := fun k h => by
  have e : (.inl 9 : KD) = k := Option.some.inj (show some (.inl 9 : KD) = some k from h)
  subst e
  rfl
theorem plC_44 (w : Wp) (b n : Nat) : plC w b n 44 := fun k h => by
  have e : (.inr (.inl (10, [some 45, some 46, some 47, some 48, some 49, some 50, some 51, some 52, none, none, none, none, none, none, none, none, none])) : KD) = k := Option.some.inj (show some (.inr (.inl (10, [some 45, some 46, some 47, some 48, some 49, some 50, some 51, some 52, none, none, none, none, none, none, none, none, none])) : KD) = some k from h)
  subst e
  rfl
theorem plC_45 (w : Wp) (b n : Nat) : plC w b n 45 := fun k h => by
  have e : (.inl 6 : KD) = k := Option.some.inj (show some (.inl 6 : KD) = some k from h)
  subst e
  rfl
theorem plC_46 (w : Wp) (b n : Nat) : plC w b n 46 := fun k h => by
  have e : (.inl 6 : KD) = k := Option.some.inj (show some (.inl 6 : KD) = some k from h)
  subst e
  rfl
theorem plC_47 (w : Wp) (b n : Nat) : plC w b n 47 := fun k h => by
  have e : (.inl 6 : KD) = k := Option.some.inj (show some (.inl 6 : KD) = some k from h)
  subst e
  rfl
theorem plC_48 (w : Wp) (b n : Nat) : plC w b n 48 := fun k h => by
  have e : (.inl 6 : KD) = k := Option.some.inj (show some (.inl 6 : KD) = some k from h)
  subst e
  rfl
theorem plC_49 (w : Wp) (b n : Nat) : plC w b n 49 := fun k h => by
  have e : (.inl 6 : KD) = k := Option.some.inj (show some (.inl 6 : KD) = some k from h)
  subst e
  rfl
theorem plC_50 (w : Wp) (b n : Nat) : plC w b n 50 := fun k h => by
  have e : (.inl 36 : KD) = k := Option.some.inj (show some (.inl 36 : KD) = some k from h)
  subst e
  rfl
theorem plC_51 (w : Wp) (b n : Nat) : plC w b n 51 := fun k h => by
  have e : (.inl 4 : KD) = k := Option.some.inj (show some (.inl 4 : KD) = some k from h)
  subst e
  rfl
theorem plC_52 (w : Wp) (b n : Nat) : plC w b n 52 := fun k h => by
  have e : (.inr (.inl (3, [some 53, none, none])) : KD) = k := Option.some.inj (show some (.inr (.inl (3, [some 53, none, none])) : KD) = some k from h)
  subst e
  rfl
theorem plC_53 (w : Wp) (b n : Nat) : plC w b n 53 := fun k h => by
  have e : (.inl 240 : KD) = k := Option.some.inj (show some (.inl 240 : KD) = some k from h)
  subst e
  rfl
theorem plC_54 (w : Wp) (b n : Nat) : plC w b n 54 := fun k h => by
  have e : (.inr (.inl (10, [some 55, some 56, some 57, some 58, some 59, some 60, some 61, some 62, none, none, none, none, none, none, none, none, none])) : KD) = k := Option.some.inj (show some (.inr (.inl (10, [some 55, some 56, some 57, some 58, some 59, some 60, some 61, some 62, none, none, none, none, none, none, none, none, none])) : KD) = some k from h)
  subst e
  rfl
theorem plC_55 (w : Wp) (b n : Nat) : plC w b n 55 := fun k h => by
  have e : (.inl 6 : KD) = k := Option.some.inj (show some (.inl 6 : KD) = some k from h)
  subst e
  rfl
theorem plC_56 (w : Wp) (b n : Nat) : plC w b n 56 := fun k h => by
  have e : (.inl 6 : KD) = k := Option.some.inj (show some (.inl 6 : KD) = some k from h)
  subst e
  rfl
theorem plC_57 (w : Wp) (b n : Nat) : plC w b n 57 := fun k h => by
  have e : (.inl 6 : KD) = k := Option.some.inj (show some (.inl 6 : KD) = some k from h)
  subst e
  rfl
theorem plC_58 (w : Wp) (b n : Nat) : plC w b n 58 := fun k h => by
  have e : (.inl 6 : KD) = k := Option.some.inj (show some (.inl 6 : KD) = some k from h)
  subst e
  rfl
theorem plC_59 (w : Wp) (b n : Nat) : plC w b n 59 := fun k h => by
  have e : (.inl 6 : KD) = k := Option.some.inj (show some (.inl 6 : KD) = some k from h)
  subst e
  rfl
theorem plC_60 (w : Wp) (b n : Nat) : plC w b n 60 := fun k h => by
  have e : (.inl 36 : KD) = k := Option.some.inj (show some (.inl 36 : KD) = some k from h)
  subst e
  rfl
theorem plC_61 (w : Wp) (b n : Nat) : plC w b n 61 := fun k h => by
  have e : (.inl 4 : KD) = k := Option.some.inj (show some (.inl 4 : KD) = some k from h)
  subst e
  rfl
theorem plC_62 (w : Wp) (b n : Nat) : plC w b n 62 := fun k h => by
  have e : (.inr (.inl (3, [some 63, none, none])) : KD) = k := Option.some.inj (show some (.inr (.inl (3, [some 63, none, none])) : KD) = some k from h)
  subst e
  rfl
theorem plC_63 (w : Wp) (b n : Nat) : plC w b n 63 := fun k h => by
  have e : (.inl 240 : KD) = k := Option.some.inj (show some (.inl 240 : KD) = some k from h)
  subst e
  rfl
theorem plC_64 (w : Wp) (b n : Nat) : plC w b n 64 := fun k h => by
  have e : (.inr (.inl (10, [some 65, some 66, some 67, some 68, some 69, some 70, some 71, some 72, none, none, none, none, none, none, none, none, none])) : KD) = k := Option.some.inj (show some (.inr (.inl (10, [some 65, some 66, some 67, some 68, some 69, some 70, some 71, some 72, none, none, none, none, none, none, none, none, none])) : KD) = some k from h)
  subst e
  rfl
theorem plC_65 (w : Wp) (b n : Nat) : plC w b n 65 := fun k h => by
  have e : (.inl 6 : KD) = k := Option.some.inj (show some (.inl 6 : KD) = some k from h)
  subst e
  rfl
theorem plC_66 (w : Wp) (b n : Nat) : plC w b n 66 := fun k h => by
  have e : (.inl 6 : KD) = k := Option.some.inj (show some (.inl 6 : KD) = some k from h)
  subst e
  rfl
theorem plC_67 (w : Wp) (b n : Nat) : plC w b n 67 := fun k h => by
  have e : (.inl 6 : KD) = k := Option.some.inj (show some (.inl 6 : KD) = some k from h)
  subst e
  rfl
theorem plC_68 (w : Wp) (b n : Nat) : plC w b n 68 := fun k h => by
  have e : (.inl 6 : KD) = k := Option.some.inj (show some (.inl 6 : KD) = some k from h)
  subst e
  rfl
theorem plC_69 (w : Wp) (b n : Nat) : plC w b n 69 := fun k h => by
  have e : (.inl 6 : KD) = k := Option.some.inj (show some (.inl 6 : KD) = some k from h)
  subst e
  rfl
theorem plC_70 (w : Wp) (b n : Nat) : plC w b n 70 := fun k h => by
  have e : (.inl 36 : KD) = k := Option.some.inj (show some (.inl 36 : KD) = some k from h)
  subst e
  rfl
theorem plC_71 (w : Wp) (b n : Nat) : plC w b n 71 := fun k h => by
  have e : (.inl 4 : KD) = k := Option.some.inj (show some (.inl 4 : KD) = some k from h)
  subst e
  rfl
theorem plC_72 (w : Wp) (b n : Nat) : plC w b n 72 := fun k h => by
  have e : (.inr (.inl (3, [some 73, none, none])) : KD) = k := Option.some.inj (show some (.inr (.inl (3, [some 73, none, none])) : KD) = some k from h)
  subst e
  rfl
theorem plC_73 (w : Wp) (b n : Nat) : plC w b n 73 := fun k h => by
  have e : (.inl 240 : KD) = k := Option.some.inj (show some (.inl 240 : KD) = some k from h)
  subst e
  rfl
theorem plC_74 (w : Wp) (b n : Nat) : plC w b n 74 := fun k h => by
  have e : (.inr (.inl (10, [some 75, some 76, some 77, some 78, some 79, some 80, some 81, some 82, none, none, none, none, none, none, none, none, none])) : KD) = k := Option.some.inj (show some (.inr (.inl (10, [some 75, some 76, some 77, some 78, some 79, some 80, some 81, some 82, none, none, none, none, none, none, none, none, none])) : KD) = some k from h)
  subst e
  rfl
theorem plC_75 (w : Wp) (b n : Nat) : plC w b n 75 := fun k h => by
  have e : (.inl 6 : KD) = k := Option.some.inj (show some (.inl 6 : KD) = some k from h)
  subst e
  rfl
theorem plC_76 (w : Wp) (b n : Nat) : plC w b n 76 := fun k h => by
  have e : (.inl 6 : KD) = k := Option.some.inj (show some (.inl 6 : KD) = some k from h)
  subst e
  rfl
theorem plC_77 (w : Wp) (b n : Nat) : plC w b n 77 := fun k h => by
  have e : (.inl 6 : KD) = k := Option.some.inj (show some (.inl 6 : KD) = some k from h)
  subst e
  rfl
theorem plC_78 (w : Wp) (b n : Nat) : plC w b n 78 := fun k h => by
  have e : (.inl 6 : KD) = k := Option.some.inj (show some (.inl 6 : KD) = some k from h)
  subst e
  rfl
theorem plC_79 (w : Wp) (b n : Nat) : plC w b n 79 := fun k h => by
  have e : (.inl 6 : KD) = k := Option.some.inj (show some (.inl 6 : KD) = some k from h)
  subst e
  rfl
theorem plC_80 (w : Wp) (b n : Nat) : plC w b n 80 := fun k h => by
  have e : (.inl 36 : KD) = k := Option.some.inj (show some (.inl 36 : KD) = some k from h)
  subst e
  rfl
theorem plC_81 (w : Wp) (b n : Nat) : plC w b n 81 := fun k h => by
  have e : (.inl 4 : KD) = k := Option.some.inj (show some (.inl 4 : KD) = some k from h)
  subst e
  rfl
theorem plC_82 (w : Wp) (b n : Nat) : plC w b n 82 := fun k h => by
  have e : (.inr (.inl (3, [some 83, none, none])) : KD) = k := Option.some.inj (show some (.inr (.inl (3, [some 83, none, none])) : KD) = some k from h)
  subst e
  rfl
theorem plC_83 (w : Wp) (b n : Nat) : plC w b n 83 := fun k h => by
  have e : (.inl 240 : KD) = k := Option.some.inj (show some (.inl 240 : KD) = some k from h)
  subst e
  rfl
theorem plC_84 (w : Wp) (b n : Nat) : plC w b n 84 := fun k h => by
  have e : (.inr (.inl (10, [some 85, some 86, some 87, some 88, some 89, some 90, some 91, some 92, none, none, none, none, none, none, none, none, none])) : KD) = k := Option.some.inj (show some (.inr (.inl (10, [some 85, some 86, some 87, some 88, some 89, some 90, some 91, some 92, none, none, none, none, none, none, none, none, none])) : KD) = some k from h)
  subst e
  rfl
theorem plC_85 (w : Wp) (b n : Nat) : plC w b n 85 := fun k h => by
  have e : (.inl 6 : KD) = k := Option.some.inj (show some (.inl 6 : KD) = some k from h)
  subst e
  rfl
theorem plC_86 (w : Wp) (b n : Nat) : plC w b n 86 := fun k h => by
  have e : (.inl 6 : KD) = k := Option.some.inj (show some (.inl 6 : KD) = some k from h)
  subst e
  rfl
theorem plC_87 (w : Wp) (b n : Nat) : plC w b n 87 := fun k h => by
  have e : (.inl 6 : KD) = k := Option.some.inj (show some (.inl 6 : KD) = some k from h)
  subst e
  rfl
theorem plC_88 (w : Wp) (b n : Nat) : plC w b n 88 := fun k h => by
  have e : (.inl 6 : KD) = k := Option.some.inj (show some (.inl 6 : KD) = some k from h)
  subst e
  rfl
theorem plC_89 (w : Wp) (b n : Nat) : plC w b n 89 := fun k h => by
  have e : (.inl 6 : KD) = k := Option.some.inj (show some (.inl 6 : KD) = some k from h)
  subst e
  rfl
theorem plC_90 (w : Wp) (b n : Nat) : plC w b n 90 := fun k h => by
  have e : (.inl 36 : KD) = k := Option.some.inj (show some (.inl 36 : KD) = some k from h)
  subst e
  rfl
theorem plC_91 (w : Wp) (b n : Nat) : plC w b n 91 := fun k h => by
  have e : (.inl 4 : KD) = k := Option.some.inj (show some (.inl 4 : KD) = some k from h)
  subst e
  rfl
theorem plC_92 (w : Wp) (b n : Nat) : plC w b n 92 := fun k h => by
  have e : (.inr (.inl (3, [some 93, none, none])) : KD) = k := Option.some.inj (show some (.inr (.inl (3, [some 93, none, none])) : KD) = some k from h)
  subst e
  rfl
theorem plC_93 (w : Wp) (b n : Nat) : plC w b n 93 := fun k h => by
  have e : (.inl 240 : KD) = k := Option.some.inj (show some (.inl 240 : KD) = some k from h)
  subst e
  rfl
theorem plC_94 (w : Wp) (b n : Nat) : plC w b n 94 := fun k h => by
  have e : (.inr (.inl (10, [some 95, some 96, some 97, some 98, some 99, some 100, some 101, some 102, none, none, none, none, none, none, none, none, none])) : KD) = k := Option.some.inj (show some (.inr (.inl (10, [some 95, some 96, some 97, some 98, some 99, some 100, some 101, some 102, none, none, none, none, none, none, none, none, none])) : KD) = some k from h)
  subst e
  rfl
theorem plC_95 (w : Wp) (b n : Nat) : plC w b n 95 := fun k h => by
  have e : (.inl 6 : KD) = k := Option.some.inj (show some (.inl 6 : KD) = some k from h)
  subst e
  rfl
theorem plC_96 (w : Wp) (b n : Nat) : plC w b n 96 := fun k h => by
  have e : (.inl 6 : KD) = k := Option.some.inj (show some (.inl 6 : KD) = some k from h)
  subst e
  rfl
theorem plC_97 (w : Wp) (b n : Nat) : plC w b n 97 := fun k h => by
  have e : (.inl 6 : KD) = k := Option.some.inj (show some (.inl 6 : KD) = some k from h)
  subst e
  rfl
theorem plC_98 (w : Wp) (b n : Nat) : plC w b n 98 := fun k h => by
  have e : (.inl 6 : KD) = k := Option.some.inj (show some (.inl 6 : KD) = some k from h)
  subst e
  rfl
theorem plC_99 (w : Wp) (b n : Nat) : plC w b n 99 := fun k h => by
  have e : (.inl 6 : KD) = k := Option.some.inj (show some (.inl 6 : KD) = some k from h)
  subst e
  rfl
theorem plC_100 (w : Wp) (b n : Nat) : plC w b n 100 := fun k h => by
  have e : (.inl 36 : KD) = k := Option.some.inj (show some (.inl 36 : KD) = some k from h)
  subst e
  rfl
theorem plC_101 (w : Wp) (b n : Nat) : plC w b n 101 := fun k h => by
  have e : (.inl 4 : KD) = k := Option.some.inj (show some (.inl 4 : KD) = some k from h)
  subst e
  rfl
theorem plC_102 (w : Wp) (b n : Nat) : plC w b n 102 := fun k h => by
  have e : (.inr (.inl (3, [some 103, none, none])) : KD) = k := Option.some.inj (show some (.inr (.inl (3, [some 103, none, none])) : KD) = some k from h)
  subst e
  rfl
theorem plC_103 (w : Wp) (b n : Nat) : plC w b n 103 := fun k h => by
  have e : (.inl 240 : KD) = k := Option.some.inj (show some (.inl 240 : KD) = some k from h)
  subst e
  rfl
theorem plC_104 (w : Wp) (b n : Nat) : plC w b n 104 := fun k h => by
  have e : (.inr (.inl (10, [some 105, some 106, some 107, some 108, some 109, some 110, some 111, some 112, none, none, none, none, none, none, none, none, none])) : KD) = k := Option.some.inj (show some (.inr (.inl (10, [some 105, some 106, some 107, some 108, some 109, some 110, some 111, some 112, none, none, none, none, none, none, none, none, none])) : KD) = some k from h)
  subst e
  rfl
theorem plC_105 (w : Wp) (b n : Nat) : plC w b n 105 := fun k h => by
  have e : (.inl 6 : KD) = k := Option.some.inj (show some (.inl 6 : KD) = some k from h)
  subst e
  rfl
theorem plC_106 (w : Wp) (b n : Nat) : plC w b n 106 := fun k h => by
  have e : (.inl 6 : KD) = k := Option.some.inj (show some (.inl 6 : KD) = some k from h)
  subst e
  rfl
theorem plC_107 (w : Wp) (b n : Nat) : plC w b n 107 := fun k h => by
  have e : (.inl 6 : KD) = k := Option.some.inj (show some (.inl 6 : KD) = some k from h)
  subst e
  rfl
theorem plC_108 (w : Wp) (b n : Nat) : plC w b n 108 := fun k h => by
  have e : (.inl 6 : KD) = k := Option.some.inj (show some (.inl 6 : KD) = some k from h)
  subst e
  rfl
theorem plC_109 (w : Wp) (b n : Nat) : plC w b n 109 := fun k h => by
  have e : (.inl 6 : KD) = k := Option.some.inj (show some (.inl 6 : KD) = some k from h)
  subst e
  rfl
theorem plC_110 (w : Wp) (b n : Nat) : plC w b n 110 := fun k h => by
  have e : (.inl 36 : KD) = k := Option.some.inj (show some (.inl 36 : KD) = some k from h)
  subst e
  rfl
theorem plC_111 (w : Wp) (b n : Nat) : plC w b n 111 := fun k h => by
  have e : (.inl 4 : KD) = k := Option.some.inj (show some (.inl 4 : KD) = some k from h)
  subst e
  rfl
theorem plC_112 (w : Wp) (b n : Nat) : plC w b n 112 := fun k h => by
  have e : (.inr (.inl (3, [some 113, none, none])) : KD) = k := Option.some.inj (show some (.inr (.inl (3, [some 113, none, none])) : KD) = some k from h)
  subst e
  rfl
theorem plC_113 (w : Wp) (b n : Nat) : plC w b n 113 := fun k h => by
  have e : (.inl 240 : KD) = k := Option.some.inj (show some (.inl 240 : KD) = some k from h)
  subst e
  rfl
theorem plC_114 (w : Wp) (b n : Nat) : plC w b n 114 := fun k h => by
  have e : (.inr (.inl (10, [some 115, some 116, some 117, some 118, some 119, some 120, some 121, some 122, none, none, none, none, none, none, none, none, none])) : KD) = k := Option.some.inj (show some (.inr (.inl (10, [some 115, some 116, some 117, some 118, some 119, some 120, some 121, some 122, none, none, none, none, none, none, none, none, none])) : KD) = some k from h)
  subst e
  rfl
theorem plC_115 (w : Wp) (b n : Nat) : plC w b n 115 := fun k h => by
  have e : (.inl 6 : KD) = k := Option.some.inj (show some (.inl 6 : KD) = some k from h)
  subst e
  rfl
theorem plC_116 (w : Wp) (b n : Nat) : plC w b n 116 := fun k h => by
  have e : (.inl 6 : KD) = k := Option.some.inj (show some (.inl 6 : KD) = some k from h)
  subst e
  rfl
theorem plC_117 (w : Wp) (b n : Nat) : plC w b n 117 := fun k h => by
  have e : (.inl 6 : KD) = k := Option.some.inj (show some (.inl 6 : KD) = some k from h)
  subst e
  rfl
theorem plC_118 (w : Wp) (b n : Nat) : plC w b n 118 := fun k h => by
  have e : (.inl 6 : KD) = k := Option.some.inj (show some (.inl 6 : KD) = some k from h)
  subst e
  rfl
theorem plC_119 (w : Wp) (b n : Nat) : plC w b n 119 := fun k h => by
  have e : (.inl 6 : KD) = k := Option.some.inj (show some (.inl 6 : KD) = some k from h)
  subst e
  rfl
theorem plC_120 (w : Wp) (b n : Nat) : plC w b n 120 := fun k h => by
  have e : (.inl 36 : KD) = k := Option.some.inj (show some (.inl 36 : KD) = some k from h)
  subst e
  rfl
theorem plC_121 (w : Wp) (b n : Nat) : plC w b n 121 := fun k h => by
  have e : (.inl 4 : KD) = k := Option.some.inj (show some (.inl 4 : KD) = some k from h)
  subst e
  rfl
theorem plC_122 (w : Wp) (b n : Nat) : plC w b n 122 := fun k h => by
  have e : (.inr (.inl (3, [some 123, none, none])) : KD) = k := Option.some.inj (show some (.inr (.inl (3, [some 123, none, none])) : KD) = some k from h)
  subst e
  rfl
theorem plC_123 (w : Wp) (b n : Nat) : plC w b n 123 := fun k h => by
  have e : (.inl 240 : KD) = k := Option.some.inj (show some (.inl 240 : KD) = some k from h)
  subst e
  rfl
theorem plC_124 (w : Wp) (b n : Nat) : plC w b n 124 := fun k h => by
  have e : (.inr (.inl (10, [some 125, some 126, some 127, some 128, some 129, some 130, some 131, some 132, none, none, none, none, none, none, none, none, none])) : KD) = k := Option.some.inj (show some (.inr (.inl (10, [some 125, some 126, some 127, some 128, some 129, some 130, some 131, some 132, none, none, none, none, none, none, none, none, none])) : KD) = some k from h)
  subst e
  rfl
theorem plC_125 (w : Wp) (b n : Nat) : plC w b n 125 := fun k h => by
  have e : (.inl 6 : KD) = k := Option.some.inj (show some (.inl 6 : KD) = some k from h)
  subst e
  rfl
theorem plC_126 (w : Wp) (b n : Nat) : plC w b n 126 := fun k h => by
  have e : (.inl 6 : KD) = k := Option.some.inj (show some (.inl 6 : KD) = some k from h)
  subst e
  rfl
theorem plC_127 (w : Wp) (b n : Nat) : plC w b n 127 := fun k h => by
  have e : (.inl 6 : KD) = k := Option.some.inj (show some (.inl 6 : KD) = some k from h)
  subst e
  rfl
theorem plC_128 (w : Wp) (b n : Nat) : plC w b n 128 := fun k h => by
  have e : (.inl 6 : KD) = k := Option.some.inj (show some (.inl 6 : KD) = some k from h)
  subst e
  rfl
theorem plC_129 (w : Wp) (b n : Nat) : plC w b n 129 := fun k h => by
  have e : (.inl 6 : KD) = k := Option.some.inj (show some (.inl 6 : KD) = some k from h)
  subst e
  rfl
theorem plC_130 (w : Wp) (b n : Nat) : plC w b n 130 := fun k h => by
  have e : (.inl 36 : KD) = k := Option.some.inj (show some (.inl 36 : KD) = some k from h)
  subst e
  rfl
theorem plC_131 (w : Wp) (b n : Nat) : plC w b n 131 := fun k h => by
  have e : (.inl 4 : KD) = k := Option.some.inj (show some (.inl 4 : KD) = some k from h)
  subst e
  rfl
theorem plC_132 (w : Wp) (b n : Nat) : plC w b n 132 := fun k h => by
  have e : (.inr (.inl (3, [some 133, none, none])) : KD) = k := Option.some.inj (show some (.inr (.inl (3, [some 133, none, none])) : KD) = some k from h)
  subst e
  rfl
theorem plC_133 (w : Wp) (b n : Nat) : plC w b n 133 := fun k h => by
  have e : (.inl 240 : KD) = k := Option.some.inj (show some (.inl 240 : KD) = some k from h)
  subst e
  rfl
theorem plC_134 (w : Wp) (b n : Nat) : plC w b n 134 := fun k h => by
  have e : (.inr (.inl (10, [some 135, some 136, some 137, some 138, some 139, some 140, some 141, some 142, none, none, none, none, none, none, none, none, none])) : KD) = k := Option.some.inj (show some (.inr (.inl (10, [some 135, some 136, some 137, some 138, some 139, some 140, some 141, some 142, none, none, none, none, none, none, none, none, none])) : KD) = some k from h)
  subst e
  rfl
theorem plC_135 (w : Wp) (b n : Nat) : plC w b n 135 := fun k h => by
  have e : (.inl 6 : KD) = k := Option.some.inj (show some (.inl 6 : KD) = some k from h)
  subst e
  rfl
theorem plC_136 (w : Wp) (b n : Nat) : plC w b n 136 := fun k h => by
  have e : (.inl 6 : KD) = k := Option.some.inj (show some (.inl 6 : KD) = some k from h)
  subst e
  rfl
theorem plC_137 (w : Wp) (b n : Nat) : plC w b n 137 := fun k h => by
  have e : (.inl 6 : KD) = k := Option.some.inj (show some (.inl 6 : KD) = some k from h)
  subst e
  rfl
theorem plC_138 (w : Wp) (b n : Nat) : plC w b n 138 := fun k h => by
  have e : (.inl 6 : KD) = k := Option.some.inj (show some (.inl 6 : KD) = some k from h)
  subst e
  rfl
theorem plC_139 (w : Wp) (b n : Nat) : plC w b n 139 := fun k h => by
  have e : (.inl 6 : KD) = k := Option.some.inj (show some (.inl 6 : KD) = some k from h)
  subst e
  rfl
theorem plC_140 (w : Wp) (b n : Nat) : plC w b n 140 := fun k h => by
  have e : (.inl 36 : KD) = k := Option.some.inj (show some (.inl 36 : KD) = some k from h)
  subst e
  rfl
theorem plC_141 (w : Wp) (b n : Nat) : plC w b n 141 := fun k h => by
  have e : (.inl 4 : KD) = k := Option.some.inj (show some (.inl 4 : KD) = some k from h)
  subst e
  rfl
theorem plC_142 (w : Wp) (b n : Nat) : plC w b n 142 := fun k h => by
  have e : (.inr (.inl (3, [some 143, none, none])) : KD) = k := Option.some.inj (show some (.inr (.inl (3, [some 143, none, none])) : KD) = some k from h)
  subst e
  rfl
theorem plC_143 (w : Wp) (b n : Nat) : plC w b n 143 := fun k h => by
  have e : (.inl 240 : KD) = k := Option.some.inj (show some (.inl 240 : KD) = some k from h)
  subst e
  rfl
theorem plC_144 (w : Wp) (b n : Nat) : plC w b n 144 := fun k h => by
  have e : (.inr (.inl (10, [some 145, some 146, some 147, some 148, some 149, some 150, some 151, some 152, none, none, none, none, none, none, none, none, none])) : KD) = k := Option.some.inj (show some (.inr (.inl (10, [some 145, some 146, some 147, some 148, some 149, some 150, some 151, some 152, none, none, none, none, none, none, none, none, none])) : KD) = some k from h)
  subst e
  rfl
theorem plC_145 (w : Wp) (b n : Nat) : plC w b n 145 := fun k h => by
  have e : (.inl 6 : KD) = k := Option.some.inj (show some (.inl 6 : KD) = some k from h)
  subst e
  rfl
theorem plC_146 (w : Wp) (b n : Nat) : plC w b n 146 := fun k h => by
  have e : (.inl 6 : KD) = k := Option.some.inj (show some (.inl 6 : KD) = some k from h)
  subst e
  rfl
theorem plC_147 (w : Wp) (b n : Nat) : plC w b n 147 := fun k h => by
  have e : (.inl 6 : KD) = k := Option.some.inj (show some (.inl 6 : KD) = some k from h)
  subst e
  rfl
theorem plC_148 (w : Wp) (b n : Nat) : plC w b n 148 := fun k h => by
  have e : (.inl 6 : KD) = k := Option.some.inj (show some (.inl 6 : KD) = some k from h)
  subst e
  rfl
theorem plC_149 (w : Wp) (b n : Nat) : plC w b n 149 := fun k h => by
  have e : (.inl 6 : KD) = k := Option.some.inj (show some (.inl 6 : KD) = some k from h)
  subst e
  rfl
theorem plC_150 (w : Wp) (b n : Nat) : plC w b n 150 := fun k h => by
  have e : (.inl 36 : KD) = k := Option.some.inj (show some (.inl 36 : KD) = some k from h)
  subst e
  rfl
theorem plC_151 (w : Wp) (b n : Nat) : plC w b n 151 := fun k h => by
  have e : (.inl 4 : KD) = k := Option.some.inj (show some (.inl 4 : KD) = some k from h)
  subst e
  rfl
theorem plC_152 (w : Wp) (b n : Nat) : plC w b n 152 := fun k h => by
  have e : (.inr (.inl (3, [some 153, none, none])) : KD) = k := Option.some.inj (show some (.inr (.inl (3, [some 153, none, none])) : KD) = some k from h)
  subst e
  rfl
theorem plC_153 (w : Wp) (b n : Nat) : plC w b n 153 := fun k h => by
  have e : (.inl 240 : KD) = k := Option.some.inj (show some (.inl 240 : KD) = some k from h)
  subst e
  rfl
theorem plC_154 (w : Wp) (b n : Nat) : plC w b n 154 := fun k h => by
  have e : (.inr (.inl (10, [some 155, some 156, some 157, some 158, some 159, some 160, some 161, some 162, none, none, none, none, none, none, none, none, none])) : KD) = k := Option.some.inj (show some (.inr (.inl (10, [some 155, some 156, some 157, some 158, some 159, some 160, some 161, some 162, none, none, none, none, none, none, none, none, none])) : KD) = some k from h)
  subst e
  rfl
theorem plC_155 (w : Wp) (b n : Nat) : plC w b n 155 := fun k h => by
  have e : (.inl 6 : KD) = k := Option.some.inj (show some (.inl 6 : KD) = some k from h)
  subst e
  rfl
theorem plC_156 (w : Wp) (b n : Nat) : plC w b n 156 := fun k h => by
  have e : (.inl 6 : KD) = k := Option.some.inj (show some (.inl 6 : KD) = some k from h)
  subst e
  rfl
theorem plC_157 (w : Wp) (b n : Nat) : plC w b n 157 := fun k h => by
  have e : (.inl 6 : KD) = k := Option.some.inj (show some (.inl 6 : KD) = some k from h)
  subst e
  rfl
theorem plC_158 (w : Wp) (b n : Nat) : plC w b n 158 := fun k h => by
  have e : (.inl 6 : KD) = k := Option.some.inj (show some (.inl 6 : KD) = some k from h)
  subst e
  rfl
theorem plC_159 (w : Wp) (b n : Nat) : plC w b n 159 := fun k h => by
  have e : (.inl 6 : KD) = k := Option.some.inj (show some (.inl 6 : KD) = some k from h)
  subst e
  rfl
theorem plC_160 (w : Wp) (b n : Nat) : plC w b n 160 := fun k h => by
  have e : (.inl 36 : KD) = k := Option.some.inj (show some (.inl 36 : KD) = some k from h)
  subst e
  rfl
theorem plC_161 (w : Wp) (b n : Nat) : plC w b n 161 := fun k h => by
  have e : (.inl 4 : KD) = k := Option.some.inj (show some (.inl 4 : KD) = some k from h)
  subst e
  rfl
theorem plC_162 (w : Wp) (b n : Nat) : plC w b n 162 := fun k h => by
  have e : (.inr (.inl (3, [some 163, none, none])) : KD) = k := Option.some.inj (show some (.inr (.inl (3, [some 163, none, none])) : KD) = some k from h)
  subst e
  rfl
theorem plC_163 (w : Wp) (b n : Nat) : plC w b n 163 := fun k h => by
  have e : (.inl 240 : KD) = k := Option.some.inj (show some (.inl 240 : KD) = some k from h)
  subst e
  rfl
theorem plC_164 (w : Wp) (b n : Nat) : plC w b n 164 := fun k h => by
  have e : (.inr (.inl (10, [some 165, some 166, some 167, some 168, some 169, some 170, some 171, some 172, none, none, none, none, none, none, none, none, none])) : KD) = k := Option.some.inj (show some (.inr (.inl (10, [some 165, some 166, some 167, some 168, some 169, some 170, some 171, some 172, none, none, none, none, none, none, none, none, none])) : KD) = some k from h)
  subst e
  rfl
theorem plC_165 (w : Wp) (b n : Nat) : plC w b n 165 := fun k h => by
  have e : (.inl 6 : KD) = k := Option.some.inj (show some (.inl 6 : KD) = some k from h)
  subst e
  rfl
theorem plC_166 (w : Wp) (b n : Nat) : plC w b n 166 := fun k h => by
  have e : (.inl 6 : KD) = k := Option.some.inj (show some (.inl 6 : KD) = some k from h)
  subst e
  rfl
theorem plC_167 (w : Wp) (b n : Nat) : plC w b n 167 := fun k h => by
  have e : (.inl 6 : KD) = k := Option.some.inj (show some (.inl 6 : KD) = some k from h)
  subst e
  rfl
theorem plC_168 (w : Wp) (b n : Nat) : plC w b n 168 := fun k h => by
  have e : (.inl 6 : KD) = k := Option.some.inj (show some (.inl 6 : KD) = some k from h)
  subst e
  rfl
theorem plC_169 (w : Wp) (b n : Nat) : plC w b n 169 := fun k h => by
  have e : (.inl 6 : KD) = k := Option.some.inj (show some (.inl 6 : KD) = some k from h)
  subst e
  rfl
theorem plC_170 (w : Wp) (b n : Nat) : plC w b n 170 := fun k h => by
  have e : (.inl 36 : KD) = k := Option.some.inj (show some (.inl 36 : KD) = some k from h)
  subst e
  rfl
theorem plC_171 (w : Wp) (b n : Nat) : plC w b n 171 := fun k h => by
  have e : (.inl 4 : KD) = k := Option.some.inj (show some (.inl 4 : KD) = some k from h)
  subst e
  rfl
theorem plC_172 (w : Wp) (b n : Nat) : plC w b n 172 := fun k h => by
  have e : (.inr (.inl (3, [some 173, none, none])) : KD) = k := Option.some.inj (show some (.inr (.inl (3, [some 173, none, none])) : KD) = some k from h)
  subst e
  rfl
theorem plC_173 (w : Wp) (b n : Nat) : plC w b n 173 := fun k h => by
  have e : (.inl 240 : KD) = k := Option.some.inj (show some (.inl 240 : KD) = some k from h)
  subst e
  rfl
theorem plC_174 (w : Wp) (b n : Nat) : plC w b n 174 := fun k h => by
  have e : (.inr (.inl (10, [some 175, some 176, some 177, some 178, some 179, some 180, some 181, some 182, none, none, none, none, none, none, none, none, none])) : KD) = k := Option.some.inj (show some (.inr (.inl (10, [some 175, some 176, some 177, some 178, some 179, some 180, some 181, some 182, none, none, none, none, none, none, none, none, none])) : KD) = some k from h)
  subst e
  rfl
theorem plC_175 (w : Wp) (b n : Nat) : plC w b n 175 := fun k h => by
  have e : (.inl 6 : KD) = k := Option.some.inj (show some (.inl 6 : KD) = some k from h)
  subst e
  rfl
theorem plC_176 (w : Wp) (b n : Nat) : plC w b n 176 := fun k h => by
  have e : (.inl 6 : KD) = k := Option.some.inj (show some (.inl 6 : KD) = some k from h)
  subst e
  rfl
theorem plC_177 (w : Wp) (b n : Nat) : plC w b n 177 := fun k h => by
  have e : (.inl 6 : KD) = k := Option.some.inj (show some (.inl 6 : KD) = some k from h)
  subst e
  rfl
theorem plC_178 (w : Wp) (b n : Nat) : plC w b n 178 := fun k h => by
  have e : (.inl 6 : KD) = k := Option.some.inj (show some (.inl 6 : KD) = some k from h)
  subst e
  rfl
theorem plC_179 (w : Wp) (b n : Nat) : plC w b n 179 := fun k h => by
  have e : (.inl 6 : KD) = k := Option.some.inj (show some (.inl 6 : KD) = some k from h)
  subst e
  rfl
theorem plC_180 (w : Wp) (b n : Nat) : plC w b n 180 := fun k h => by
  have e : (.inl 36 : KD) = k := Option.some.inj (show some (.inl 36 : KD) = some k from h)
  subst e
  rfl
theorem plC_181 (w : Wp) (b n : Nat) : plC w b n 181 := fun k h => by
  have e : (.inl 4 : KD) = k := Option.some.inj (show some (.inl 4 : KD) = some k from h)
  subst e
  rfl
theorem plC_182 (w : Wp) (b n : Nat) : plC w b n 182 := fun k h => by
  have e : (.inr (.inl (3, [some 183, none, none])) : KD) = k := Option.some.inj (show some (.inr (.inl (3, [some 183, none, none])) : KD) = some k from h)
  subst e
  rfl
theorem plC_183 (w : Wp) (b n : Nat) : plC w b n 183 := fun k h => by
  have e : (.inl 240 : KD) = k := Option.some.inj (show some (.inl 240 : KD) = some k from h)
  subst e
  rfl
theorem plC_184 (w : Wp) (b n : Nat) : plC w b n 184 := fun k h => by
  have e : (.inr (.inl (10, [some 185, some 186, some 187, some 188, some 189, some 190, some 191, some 192, none, none, none, none, none, none, none, none, none])) : KD) = k := Option.some.inj (show some (.inr (.inl (10, [some 185, some 186, some 187, some 188, some 189, some 190, some 191, some 192, none, none, none, none, none, none, none, none, none])) : KD) = some k from h)
  subst e
  rfl
theorem plC_185 (w : Wp) (b n : Nat) : plC w b n 185 := fun k h => by
  have e : (.inl 6 : KD) = k := Option.some.inj (show some (.inl 6 : KD) = some k from h)
  subst e
  rfl
theorem plC_186 (w : Wp) (b n : Nat) : plC w b n 186 := fun k h => by
  have e : (.inl 6 : KD) = k := Option.some.inj (show some (.inl 6 : KD) = some k from h)
  subst e
  rfl
theorem plC_187 (w : Wp) (b n : Nat) : plC w b n 187 := fun k h => by
  have e : (.inl 6 : KD) = k := Option.some.inj (show some (.inl 6 : KD) = some k from h)
  subst e
  rfl
theorem plC_188 (w : Wp) (b n : Nat) : plC w b n 188 := fun k h => by
  have e : (.inl 6 : KD) = k := Option.some.inj (show some (.inl 6 : KD) = some k from h)
  subst e
  rfl
theorem plC_189 (w : Wp) (b n : Nat) : plC w b n 189 := fun k h => by
  have e : (.inl 6 : KD) = k := Option.some.inj (show some (.inl 6 : KD) = some k from h)
  subst e
  rfl
theorem plC_190 (w : Wp) (b n : Nat) : plC w b n 190 := fun k h => by
  have e : (.inl 36 : KD) = k := Option.some.inj (show some (.inl 36 : KD) = some k from h)
  subst e
  rfl
theorem plC_191 (w : Wp) (b n : Nat) : plC w b n 191 := fun k h => by
  have e : (.inl 4 : KD) = k := Option.some.inj (show some (.inl 4 : KD) = some k from h)
  subst e
  rfl
theorem plC_192 (w : Wp) (b n : Nat) : plC w b n 192 := fun k h => by
  have e : (.inr (.inl (3, [some 193, none, none])) : KD) = k := Option.some.inj (show some (.inr (.inl (3, [some 193, none, none])) : KD) = some k from h)
  subst e
  rfl
theorem plC_193 (w : Wp) (b n : Nat) : plC w b n 193 := fun k h => by
  have e : (.inl 240 : KD) = k := Option.some.inj (show some (.inl 240 : KD) = some k from h)
  subst e
  rfl
theorem plC_n (w : Wp) (b n p : Nat) (h : 194 ≤ p) : plC w b n p := fun k hk => absurd (List.getElem?_eq_some_iff.mp hk).1 (Nat.not_lt.mpr h)
theorem ptC_0_1 (w : Wp) (b n p : Nat) (h1 : 0 ≤ p) (h2 : p < 1) : plC w b n p := by
  have e : p = 0 := by omega
  subst e
  exact plC_0 w b n
theorem ptC_1_2 (w : Wp) (b n p : Nat) (h1 : 1 ≤ p) (h2 : p < 2) : plC w b n p := by
  have e : p = 1 := by omega
  subst e
  exact plC_1 w b n
theorem ptC_2_3 (w : Wp) (b n p : Nat) (h1 : 2 ≤ p) (h2 : p < 3) : plC w b n p := by
  have e : p = 2 := by omega
  subst e
  exact plC_2 w b n
theorem ptC_1_3 (w : Wp) (b n p : Nat) (h1 : 1 ≤ p) (h2 : p < 3) : plC w b n p := (Nat.lt_or_ge p 2).elim (fun h => ptC_1_2 w b n p h1 h) (fun h => ptC_2_3 w b n p h h2)
theorem ptC_0_3 (w : Wp) (b n p : Nat) (h1 : 0 ≤ p) (h2 : p < 3) : plC w b n p := (Nat.lt_or_ge p 1).elim (fun h => ptC_0_1 w b n p h1 h) (fun h => ptC_1_3 w b n p h h2)
theorem ptC_3_4 (w : Wp) (b n p : Nat) (h1 : 3 ≤ p) (h2 : p < 4) : plC w b n p := by
  have e : p = 3 := by omega
  subst e
  exact plC_3 w b n
theorem ptC_4_5 (w : Wp) (b n p : Nat) (h1 : 4 ≤ p) (h2 : p < 5) : plC w b n p := by
  have e : p = 4 := by omega
  subst e
  exact plC_4 w b n
theorem ptC_5_6 (w : Wp) (b n p : Nat) (h1 : 5 ≤ p) (h2 : p < 6) : plC w b n p := by
  have e : p = 5 := by omega
  subst e
  exact plC_5 w b n
theorem ptC_4_6 (w : Wp) (b n p : Nat) (h1 : 4 ≤ p) (h2 : p < 6) : plC w b n p := (Nat.lt_or_ge p 5).elim (fun h => ptC_4_5 w b n p h1 h) (fun h => ptC_5_6 w b n p h h2)
theorem ptC_3_6 (w : Wp) (b n p : Nat) (h1 : 3 ≤ p) (h2 : p < 6) : plC w b n p := (Nat.lt_or_ge p 4).elim (fun h => ptC_3_4 w b n p h1 h) (fun h => ptC_4_6 w b n p h h2)
theorem ptC_0_6 (w : Wp) (b n p : Nat) (h1 : 0 ≤ p) (h2 : p < 6) : plC w b n p := (Nat.lt_or_ge p 3).elim (fun h => ptC_0_3 w b n p h1 h) (fun h => ptC_3_6 w b n p h h2)
theorem ptC_6_7 (w : Wp) (b n p : Nat) (h1 : 6 ≤ p) (h2 : p < 7) : plC w b n p := by
  have e : p = 6 := by omega
  subst e
  exact plC_6 w b n
theorem ptC_7_8 (w : Wp) (b n p : Nat) (h1 : 7 ≤ p) (h2 : p < 8) : plC w b n p := by
  have e : p = 7 := by omega
  subst e
  exact plC_7 w b n
theorem ptC_8_9 (w : Wp) (b n p : Nat) (h1 : 8 ≤ p) (h2 : p < 9) : plC w b n p := by
  have e : p = 8 := by omega
  subst e
  exact plC_8 w b n
theorem ptC_7_9 (w : Wp) (b n p : Nat) (h1 : 7 ≤ p) (h2 : p < 9) : plC w b n p := (Nat.lt_or_ge p 8).elim (fun h => ptC_7_8 w b n p h1 h) (fun h => ptC_8_9 w b n p h h2)
theorem ptC_6_9 (w : Wp) (b n p : Nat) (h1 : 6 ≤ p) (h2 : p < 9) : plC w b n p := (Nat.lt_or_ge p 7).elim (fun h => ptC_6_7 w b n p h1 h) (fun h => ptC_7_9 w b n p h h2)
theorem ptC_9_10 (w : Wp) (b n p : Nat) (h1 : 9 ≤ p) (h2 : p < 10) : plC w b n p := by
  have e : p = 9 := by omega
  subst e
  exact plC_9 w b n
theorem ptC_10_11 (w : Wp) (b n p : Nat) (h1 : 10 ≤ p) (h2 : p < 11) : plC w b n p := by
  have e : p = 10 := by omega
  subst e
  exact plC_10 w b n
theorem ptC_11_12 (w : Wp) (b n p : Nat) (h1 : 11 ≤ p) (h2 : p < 12) : plC w b n p := by
  have e : p = 11 := by omega
  subst e
  exact plC_11 w b n
theorem ptC_10_12 (w : Wp) (b n p : Nat) (h1 : 10 ≤ p) (h2 : p < 12) : plC w b n p := (Nat.lt_or_ge p 11).elim (fun h => ptC_10_11 w b n p h1 h) (fun h => ptC_11_12 w b n p h h2)
theorem ptC_9_12 (w : Wp) (b n p : Nat) (h1 : 9 ≤ p) (h2 : p < 12) : plC w b n p := (Nat.lt_or_ge p 10).elim (fun h => ptC_9_10 w b n p h1 h) (fun h => ptC_10_12 w b n p h h2)
theorem ptC_6_12 (w : Wp) (b n p : Nat) (h1 : 6 ≤ p) (h2 : p < 12) : plC w b n p := (Nat.lt_or_ge p 9).elim (fun h => ptC_6_9 w b n p h1 h) (fun h => ptC_9_12 w b n p h h2)
theorem ptC_0_12 (w : Wp) (b n p : Nat) (h1 : 0 ≤ p) (h2 : p < 12) : plC w b n p := (Nat.lt_or_ge p 6).elim (fun h => ptC_0_6 w b n p h1 h) (fun h => ptC_6_12 w b n p h h2)
theorem ptC_12_13 (w : Wp) (b n p : Nat) (h1 : 12 ≤ p) (h2 : p < 13) : plC w b n p := by
  have e : p = 12 := by omega
  subst e
  exact plC_12 w b n
theorem ptC_13_14 (w : Wp) (b n p : Nat) (h1 : 13 ≤ p) (h2 : p < 14) : plC w b n p := by
  have e : p = 13 := by omega
  subst e
  exact plC_13 w b n
theorem ptC_14_15 (w : Wp) (b n p : Nat) (h1 : 14 ≤ p) (h2 : p < 15) : plC w b n p := by
  have e : p = 14 := by omega
  subst e
  exact plC_14 w b n
theorem ptC_13_15 (w : Wp) (b n p : Nat) (h1 : 13 ≤ p) (h2 : p < 15) : plC w b n p := (Nat.lt_or_ge p 14).elim (fun h => ptC_13_14 w b n p h1 h) (fun h => ptC_14_15 w b n p h h2)
theorem ptC_12_15 (w : Wp) (b n p : Nat) (h1 : 12 ≤ p) (h2 : p < 15) : plC w b n p := (Nat.lt_or_ge p 13).elim (fun h => ptC_12_13 w b n p h1 h) (fun h => ptC_13_15 w b n p h h2)
theorem ptC_15_16 (w : Wp) (b n p : Nat) (h1 : 15 ≤ p) (h2 : p < 16) : plC w b n p := by
  have e : p = 15 := by omega
  subst e
  exact plC_15 w b n
theorem ptC_16_17 (w : Wp) (b n p : Nat) (h1 : 16 ≤ p) (h2 : p < 17) : plC w b n p := by
  have e : p = 16 := by omega
  subst e
  exact plC_16 w b n
theorem ptC_17_18 (w : Wp) (b n p : Nat) (h1 : 17 ≤ p) (h2 : p < 18) : plC w b n p := by
  have e : p = 17 := by omega
  subst e
  exact plC_17 w b n
theorem ptC_16_18 (w : Wp) (b n p : Nat) (h1 : 16 ≤ p) (h2 : p < 18) : plC w b n p := (Nat.lt_or_ge p 17).elim (fun h => ptC_16_17 w b n p h1 h) (fun h => ptC_17_18 w b n p h h2)
theorem ptC_15_18 (w : Wp) (b n p : Nat) (h1 : 15 ≤ p) (h2 : p < 18) : plC w b n p := (Nat.lt_or_ge p 16).elim (fun h => ptC_15_16 w b n p h1 h) (fun h => ptC_16_18 w b n p h h2)
theorem ptC_12_18 (w : Wp) (b n p : Nat) (h1 : 12 ≤ p) (h2 : p < 18) : plC w b n p := (Nat.lt_or_ge p 15).elim (fun h => ptC_12_15 w b n p h1 h) (fun h => ptC_15_18 w b n p h h2)
theorem ptC_18_19 (w : Wp) (b n p : Nat) (h1 : 18 ≤ p) (h2 : p < 19) : plC w b n p := by
  have e : p = 18 := by omega
  subst e
  exact plC_18 w b n
theorem ptC_19_20 (w : Wp) (b n p : Nat) (h1 : 19 ≤ p) (h2 : p < 20) : plC w b n p := by
  have e : p = 19 := by omega
  subst e
  exact plC_19 w b n
theorem ptC_20_21 (w : Wp) (b n p : Nat) (h1 : 20 ≤ p) (h2 : p < 21) : plC w b n p := by
  have e : p = 20 := by omega
  subst e
  exact plC_20 w b n
theorem ptC_19_21 (w : Wp) (b n p : Nat) (h1 : 19 ≤ p) (h2 : p < 21) : plC w b n p := (Nat.lt_or_ge p 20).elim (fun h => ptC_19_20 w b n p h1 h) (fun h => ptC_20_21 w b n p h h2)
theorem ptC_18_21 (w : Wp) (b n p : Nat) (h1 : 18 ≤ p) (h2 : p < 21) : plC w b n p := (Nat.lt_or_ge p 19).elim (fun h => ptC_18_19 w b n p h1 h) (fun h => ptC_19_21 w b n p h h2)
theorem ptC_21_22 (w : Wp) (b n p : Nat) (h1 : 21 ≤ p) (h2 : p < 22) : plC w b n p := by
  have e : p = 21 := by omega
  subst e
  exact plC_21 w b n
theorem ptC_22_23 (w : Wp) (b n p : Nat) (h1 : 22 ≤ p) (h2 : p < 23) : plC w b n p := by
  have e : p = 22 := by omega
  subst e
  exact plC_22 w b n
theorem ptC_23_24 (w : Wp) (b n p : Nat) (h1 : 23 ≤ p) (h2 : p < 24) : plC w b n p := by
  have e : p = 23 := by omega
  subst e
  exact plC_23 w b n
theorem ptC_22_24 (w : Wp) (b n p : Nat) (h1 : 22 ≤ p) (h2 : p < 24) : plC w b n p := (Nat.lt_or_ge p 23).elim (fun h => ptC_22_23 w b n p h1 h) (fun h => ptC_23_24 w b n p h h2)
theorem ptC_21_24 (w : Wp) (b n p : Nat) (h1 : 21 ≤ p) (h2 : p < 24) : plC w b n p := (Nat.lt_or_ge p 22).elim (fun h => ptC_21_22 w b n p h1 h) (fun h => ptC_22_24 w b n p h h2)
theorem ptC_18_24 (w : Wp) (b n p : Nat) (h1 : 18 ≤ p) (h2 : p < 24) : plC w b n p := (Nat.lt_or_ge p 21).elim (fun h => ptC_18_21 w b n p h1 h) (fun h => ptC_21_24 w b n p h h2)
theorem ptC_12_24 (w : Wp) (b n p : Nat) (h1 : 12 ≤ p) (h2 : p < 24) : plC w b n p := (Nat.lt_or_ge p 18).elim (fun h => ptC_12_18 w b n p h1 h) (fun h => ptC_18_24 w b n p h h2)
theorem ptC_0_24 (w : Wp) (b n p : Nat) (h1 : 0 ≤ p) (h2 : p < 24) : plC w b n p := (Nat.lt_or_ge p 12).elim (fun h => ptC_0_12 w b n p h1 h) (fun h => ptC_12_24 w b n p h h2)
theorem ptC_24_25 (w : Wp) (b n p : Nat) (h1 : 24 ≤ p) (h2 : p < 25) : plC w b n p := by
  have e : p = 24 := by omega
  subst e
  exact plC_24 w b n
theorem ptC_25_26 (w : Wp) (b n p : Nat) (h1 : 25 ≤ p) (h2 : p < 26) : plC w b n p := by
  have e : p = 25 := by omega
  subst e
  exact plC_25 w b n
theorem ptC_26_27 (w : Wp) (b n p : Nat) (h1 : 26 ≤ p) (h2 : p < 27) : plC w b n p := by
  have e : p = 26 := by omega
  subst e
  exact plC_26 w b n
theorem ptC_25_27 (w : Wp) (b n p : Nat) (h1 : 25 ≤ p) (h2 : p < 27) : plC w b n p := (Nat.lt_or_ge p 26).elim (fun h => ptC_25_26 w b n p h1 h) (fun h => ptC_26_27 w b n p h h2)
theorem ptC_24_27 (w : Wp) (b n p : Nat) (h1 : 24 ≤ p) (h2 : p < 27) : plC w b n p := (Nat.lt_or_ge p 25).elim (fun h => ptC_24_25 w b n p h1 h) (fun h => ptC_25_27 w b n p h h2)
theorem ptC_27_28 (w : Wp) (b n p : Nat) (h1 : 27 ≤ p) (h2 : p < 28) : plC w b n p := by
  have e : p = 27 := by omega
  subst e
  exact plC_27 w b n
theorem ptC_28_29 (w : Wp) (b n p : Nat) (h1 : 28 ≤ p) (h2 : p < 29) : plC w b n p := by
  have e : p = 28 := by omega
  subst e
  exact plC_28 w b n
theorem ptC_29_30 (w : Wp) (b n p : Nat) (h1 : 29 ≤ p) (h2 : p < 30) : plC w b n p := by
  have e : p = 29 := by omega
  subst e
  exact plC_29 w b n
theorem ptC_28_30 (w : Wp) (b n p : Nat) (h1 : 28 ≤ p) (h2 : p < 30) : plC w b n p := (Nat.lt_or_ge p 29).elim (fun h => ptC_28_29 w b n p h1 h) (fun h => ptC_29_30 w b n p h h2)
theorem ptC_27_30 (w : Wp) (b n p : Nat) (h1 : 27 ≤ p) (h2 : p < 30) : plC w b n p := (Nat.lt_or_ge p 28).elim (fun h => ptC_27_28 w b n p h1 h) (fun h => ptC_28_30 w b n p h h2)
theorem ptC_24_30 (w : Wp) (b n p : Nat) (h1 : 24 ≤ p) (h2 : p < 30) : plC w b n p := (Nat.lt_or_ge p 27).elim (fun h => ptC_24_27 w b n p h1 h) (fun h => ptC_27_30 w b n p h h2)
theorem ptC_30_31 (w : Wp) (b n p : Nat) (h1 : 30 ≤ p) (h2 : p < 31) : plC w b n p := by
  have e : p = 30 := by omega
  subst e
  exact plC_30 w b n
theorem ptC_31_32 (w : Wp) (b n p : Nat) (h1 : 31 ≤ p) (h2 : p < 32) : plC w b n p := by
  have e : p = 31 := by omega
  subst e
  exact plC_31 w b n
theorem ptC_32_33 (w : Wp) (b n p : Nat) (h1 : 32 ≤ p) (h2 : p < 33) : plC w b n p := by
  have e : p = 32 := by omega
  subst e
  exact plC_32 w b n
theorem ptC_31_33 (w : Wp) (b n p : Nat) (h1 : 31 ≤ p) (h2 : p < 33) : plC w b n p := (Nat.lt_or_ge p 32).elim (fun h => ptC_31_32 w b n p h1 h) (fun h => ptC_32_33 w b n p h h2)
theorem ptC_30_33 (w : Wp) (b n p : Nat) (h1 : 30 ≤ p) (h2 : p < 33) : plC w b n p := (Nat.lt_or_ge p 31).elim (fun h => ptC_30_31 w b n p h1 h) (fun h => ptC_31_33 w b n p h h2)
theorem ptC_33_34 (w : Wp) (b n p : Nat) (h1 : 33 ≤ p) (h2 : p < 34) : plC w b n p := by
  have e : p = 33 := by omega
  subst e
  exact plC_33 w b n
theorem ptC_34_35 (w : Wp) (b n p : Nat) (h1 : 34 ≤ p) (h2 : p < 35) : plC w b n p := by
  have e : p = 34 := by omega
  subst e
  exact plC_34 w b n
theorem ptC_35_36 (w : Wp) (b n p : Nat) (h1 : 35 ≤ p) (h2 : p < 36) : plC w b n p := by
  have e : p = 35 := by omega
  subst e
  exact plC_35 w b n
theorem ptC_34_36 (w : Wp) (b n p : Nat) (h1 : 34 ≤ p) (h2 : p < 36) : plC w b n p := (Nat.lt_or_ge p 35).elim (fun h => ptC_34_35 w b n p h1 h) (fun h => ptC_35_36 w b n p h h2)
theorem ptC_33_36 (w : Wp) (b n p : Nat) (h1 : 33 ≤ p) (h2 : p < 36) : plC w b n p := (Nat.lt_or_ge p 34).elim (fun h => ptC_33_34 w b n p h1 h) (fun h => ptC_34_36 w b n p h h2)
theorem ptC_30_36 (w : Wp) (b n p : Nat) (h1 : 30 ≤ p) (h2 : p < 36) : plC w b n p := (Nat.lt_or_ge p 33).elim (fun h => ptC_30_33 w b n p h1 h) (fun h => ptC_33_36 w b n p h h2)
theorem ptC_24_36 (w : Wp) (b n p : Nat) (h1 : 24 ≤ p) (h2 : p < 36) : plC w b n p := (Nat.lt_or_ge p 30).elim (fun h => ptC_24_30 w b n p h1 h) (fun h => ptC_30_36 w b n p h h2)
theorem ptC_36_37 (w : Wp) (b n p : Nat) (h1 : 36 ≤ p) (h2 : p < 37) : plC w b n p := by
  have e : p = 36 := by omega
  subst e
  exact plC_36 w b n
theorem ptC_37_38 (w : Wp) (b n p : Nat) (h1 : 37 ≤ p) (h2 : p < 38) : plC w b n p := by
  have e : p = 37 := by omega
  subst e
  exact plC_37 w b n
theorem ptC_38_39 (w : Wp) (b n p : Nat) (h1 : 38 ≤ p) (h2 : p < 39) : plC w b n p := by
  have e : p = 38 := by omega
  subst e
  exact plC_38 w b n
theorem ptC_37_39 (w : Wp) (b n p : Nat) (h1 : 37 ≤ p) (h2 : p < 39) : plC w b n p := (Nat.lt_or_ge p 38).elim (fun h => ptC_37_38 w b n p h1 h) (fun h => ptC_38_39 w b n p h h2)
theorem ptC_36_39 (w : Wp) (b n p : Nat) (h1 : 36 ≤ p) (h2 : p < 39) : plC w b n p := (Nat.lt_or_ge p 37).elim (fun h => ptC_36_37 w b n p h1 h) (fun h => ptC_37_39 w b n p h h2)
theorem ptC_39_40 (w : Wp) (b n p : Nat) (h1 : 39 ≤ p) (h2 : p < 40) : plC w b n p := by
  have e : p = 39 := by omega
  subst e
  exact plC_39 w b n
theorem ptC_40_41 (w : Wp) (b n p : Nat) (h1 : 40 ≤ p) (h2 : p < 41) : plC w b n p := by
  have e : p = 40 := by omega
  subst e
  exact plC_40 w b n
theorem ptC_41_42 (w : Wp) (b n p : Nat) (h1 : 41 ≤ p) (h2 : p < 42) : plC w b n p := by
  have e : p = 41 := by omega
  subst e
  exact plC_41 w b n
theorem ptC_40_42 (w : Wp) (b n p : Nat) (h1 : 40 ≤ p) (h2 : p < 42) : plC w b n p := (Nat.lt_or_ge p 41).elim (fun h => ptC_40_41 w b n p h1 h) (fun h => ptC_41_42 w b n p h h2)
theorem ptC_39_42 (w : Wp) (b n p : Nat) (h1 : 39 ≤ p) (h2 : p < 42) : plC w b n p := (Nat.lt_or_ge p 40).elim (fun h => ptC_39_40 w b n p h1 h) (fun h => ptC_40_42 w b n p h h2)
theorem ptC_36_42 (w : Wp) (b n p : Nat) (h1 : 36 ≤ p) (h2 : p < 42) : plC w b n p := (Nat.lt_or_ge p 39).elim (fun h => ptC_36_39 w b n p h1 h) (fun h => ptC_39_42 w b n p h h2)
theorem ptC_42_43 (w : Wp) (b n p : Nat) (h1 : 42 ≤ p) (h2 : p < 43) : plC w b n p := by
  have e : p = 42 := by omega
  subst e
  exact plC_42 w b n
theorem ptC_43_44 (w : Wp) (b n p : Nat) (h1 : 43 ≤ p) (h2 : p < 44) : plC w b n p := by
  have e : p = 43 := by omega
  subst e
  exact plC_43 w b n
theorem ptC_44_45 (w : Wp) (b n p : Nat) (h1 : 44 ≤ p) (h2 : p < 45) : plC w b n p := by
  have e : p = 44 := by omega
  subst e
  exact plC_44 w b n
theorem ptC_43_45 (w : Wp) (b n p : Nat) (h1 : 43 ≤ p) (h2 : p < 45) : plC w b n p := (Nat.lt_or_ge p 44).elim (fun h => ptC_43_44 w b n p h1 h) (fun h => ptC_44_45 w b n p h h2)
theorem ptC_42_45 (w : Wp) (b n p : Nat) (h1 : 42 ≤ p) (h2 : p < 45) : plC w b n p := (Nat.lt_or_ge p 43).elim (fun h => ptC_42_43 w b n p h1 h) (fun h => ptC_43_45 w b n p h h2)
theorem ptC_45_46 (w : Wp) (b n p : Nat) (h1 : 45 ≤ p) (h2 : p < 46) : plC w b n p := by
  have e : p = 45 := by omega
  subst e
  exact plC_45 w b n
theorem ptC_46_47 (w : Wp) (b n p : Nat) (h1 : 46 ≤ p) (h2 : p < 47) : plC w b n p := by
  have e : p = 46 := by omega
  subst e
  exact plC_46 w b n
theorem ptC_47_48 (w : Wp) (b n p : Nat) (h1 : 47 ≤ p) (h2 : p < 48) : plC w b n p := by
  have e : p = 47 := by omega
  subst e
  exact plC_47 w b n
theorem ptC_46_48 (w : Wp) (b n p : Nat) (h1 : 46 ≤ p) (h2 : p < 48) : plC w b n p := (Nat.lt_or_ge p 47).elim (fun h => ptC_46_47 w b n p h1 h) (fun h => ptC_47_48 w b n p h h2)
theorem ptC_45_48 (w : Wp) (b n p : Nat) (h1 : 45 ≤ p) (h2 : p < 48) : plC w b n p := (Nat.lt_or_ge p 46).elim (fun h => ptC_45_46 w b n p h1 h) (fun h => ptC_46_48 w b n p h h2)
theorem ptC_42_48 (w : Wp) (b n p : Nat) (h1 : 42 ≤ p) (h2 : p < 48) : plC w b n p := (Nat.lt_or_ge p 45).elim (fun h => ptC_42_45 w b n p h1 h) (fun h => ptC_45_48 w b n p h h2)
theorem ptC_36_48 (w : Wp) (b n p : Nat) (h1 : 36 ≤ p) (h2 : p < 48) : plC w b n p := (Nat.lt_or_ge p 42).elim (fun h => ptC_36_42 w b n p h1 h) (fun h => ptC_42_48 w b n p h h2)
theorem ptC_24_48 (w : Wp) (b n p : Nat) (h1 : 24 ≤ p) (h2 : p < 48) : plC w b n p := (Nat.lt_or_ge p 36).elim (fun h => ptC_24_36 w b n p h1 h) (fun h => ptC_36_48 w b n p h h2)
theorem ptC_0_48 (w : Wp) (b n p : Nat) (h1 : 0 ≤ p) (h2 : p < 48) : plC w b n p := (Nat.lt_or_ge p 24).elim (fun h => ptC_0_24 w b n p h1 h) (fun h => ptC_24_48 w b n p h h2)
theorem ptC_48_49 (w : Wp) (b n p : Nat) (h1 : 48 ≤ p) (h2 : p < 49) : plC w b n p := by
  have e : p = 48 := by omega
  subst e
  exact plC_48 w b n
theorem ptC_49_50 (w : Wp) (b n p : Nat) (h1 : 49 ≤ p) (h2 : p < 50) : plC w b n p := by
  have e : p = 49 := by omega
  subst e
  exact plC_49 w b n
theorem ptC_50_51 (w : Wp) (b n p : Nat) (h1 : 50 ≤ p) (h2 : p < 51) : plC w b n p := by
  have e : p = 50 := by omega
  subst e
  exact plC_50 w b n
theorem ptC_49_51 (w : Wp) (b n p : Nat) (h1 : 49 ≤ p) (h2 : p < 51) : plC w b n p := (Nat.lt_or_ge p 50).elim (fun h => ptC_49_50 w b n p h1 h) (fun h => ptC_50_51 w b n p h h2)
theorem ptC_48_51 (w : Wp) (b n p : Nat) (h1 : 48 ≤ p) (h2 : p < 51) : plC w b n p := (Nat.lt_or_ge p 49).elim (fun h => ptC_48_49 w b n p h1 h) (fun h => ptC_49_51 w b n p h h2)
theorem ptC_51_52 (w : Wp) (b n p : Nat) (h1 : 51 ≤ p) (h2 : p < 52) : plC w b n p := by
  have e : p = 51 := by omega
  subst e
  exact plC_51 w b n
theorem ptC_52_53 (w : Wp) (b n p : Nat) (h1 : 52 ≤ p) (h2 : p < 53) : plC w b n p := by
  have e : p = 52 := by omega
  subst e
  exact plC_52 w b n
theorem ptC_53_54 (w : Wp) (b n p : Nat) (h1 : 53 ≤ p) (h2 : p < 54) : plC w b n p := by
  have e : p = 53 := by omega
  subst e
  exact plC_53 w b n
theorem ptC_52_54 (w : Wp) (b n p : Nat) (h1 : 52 ≤ p) (h2 : p < 54) : plC w b n p := (Nat.lt_or_ge p 53).elim (fun h => ptC_52_53 w b n p h1 h) (fun h => ptC_53_54 w b n p h h2)
theorem ptC_51_54 (w : Wp) (b n p : Nat) (h1 : 51 ≤ p) (h2 : p < 54) : plC w b n p := (Nat.lt_or_ge p 52).elim (fun h => ptC_51_52 w b n p h1 h) (fun h => ptC_52_54 w b n p h h2)
theorem ptC_48_54 (w : Wp) (b n p : Nat) (h1 : 48 ≤ p) (h2 : p < 54) : plC w b n p := (Nat.lt_or_ge p 51).elim (fun h => ptC_48_51 w b n p h1 h) (fun h => ptC_51_54 w b n p h h2)
theorem ptC_54_55 (w : Wp) (b n p : Nat) (h1 : 54 ≤ p) (h2 : p < 55) : plC w b n p := by
  have e : p = 54 := by omega
  subst e
  exact plC_54 w b n
theorem ptC_55_56 (w : Wp) (b n p : Nat) (h1 : 55 ≤ p) (h2 : p < 56) : plC w b n p := by
  have e : p = 55 := by omega
  subst e
  exact plC_55 w b n
theorem ptC_56_57 (w : Wp) (b n p : Nat) (h1 : 56 ≤ p) (h2 : p < 57) : plC w b n p := by
  have e : p = 56 := by omega
  subst e
  exact plC_56 w b n
theorem ptC_55_57 (w : Wp) (b n p : Nat) (h1 : 55 ≤ p) (h2 : p < 57) : plC w b n p := (Nat.lt_or_ge p 56).elim (fun h => ptC_55_56 w b n p h1 h) (fun h => ptC_56_57 w b n p h h2)
theorem ptC_54_57 (w : Wp) (b n p : Nat) (h1 : 54 ≤ p) (h2 : p < 57) : plC w b n p := (Nat.lt_or_ge p 55).elim (fun h => ptC_54_55 w b n p h1 h) (fun h => ptC_55_57 w b n p h h2)
theorem ptC_57_58 (w : Wp) (b n p : Nat) (h1 : 57 ≤ p) (h2 : p < 58) : plC w b n p := by
  have e : p = 57 := by omega
  subst e
  exact plC_57 w b n
theorem ptC_58_59 (w : Wp) (b n p : Nat) (h1 : 58 ≤ p) (h2 : p < 59) : plC w b n p := by
  have e : p = 58 := by omega
  subst e
  exact plC_58 w b n
theorem ptC_59_60 (w : Wp) (b n p : Nat) (h1 : 59 ≤ p) (h2 : p < 60) : plC w b n p := by
  have e : p = 59 := by omega
  subst e
  exact plC_59 w b n
theorem ptC_58_60 (w : Wp) (b n p : Nat) (h1 : 58 ≤ p) (h2 : p < 60) : plC w b n p := (Nat.lt_or_ge p 59).elim (fun h => ptC_58_59 w b n p h1 h) (fun h => ptC_59_60 w b n p h h2)
theorem ptC_57_60 (w : Wp) (b n p : Nat) (h1 : 57 ≤ p) (h2 : p < 60) : plC w b n p := (Nat.lt_or_ge p 58).elim (fun h => ptC_57_58 w b n p h1 h) (fun h => ptC_58_60 w b n p h h2)
theorem ptC_54_60 (w : Wp) (b n p : Nat) (h1 : 54 ≤ p) (h2 : p < 60) : plC w b n p := (Nat.lt_or_ge p 57).elim (fun h => ptC_54_57 w b n p h1 h) (fun h => ptC_57_60 w b n p h h2)
theorem ptC_48_60 (w : Wp) (b n p : Nat) (h1 : 48 ≤ p) (h2 : p < 60) : plC w b n p := (Nat.lt_or_ge p 54).elim (fun h => ptC_48_54 w b n p h1 h) (fun h => ptC_54_60 w b n p h h2)
theorem ptC_60_61 (w : Wp) (b n p : Nat) (h1 : 60 ≤ p) (h2 : p < 61) : plC w b n p := by
  have e : p = 60 := by omega
  subst e
  exact plC_60 w b n
theorem ptC_61_62 (w : Wp) (b n p : Nat) (h1 : 61 ≤ p) (h2 : p < 62) : plC w b n p := by
  have e : p = 61 := by omega
  subst e
  exact plC_61 w b n
theorem ptC_62_63 (w : Wp) (b n p : Nat) (h1 : 62 ≤ p) (h2 : p < 63) : plC w b n p := by
  have e : p = 62 := by omega
  subst e
  exact plC_62 w b n
theorem ptC_61_63 (w : Wp) (b n p : Nat) (h1 : 61 ≤ p) (h2 : p < 63) : plC w b n p := (Nat.lt_or_ge p 62).elim (fun h => ptC_61_62 w b n p h1 h) (fun h => ptC_62_63 w b n p h h2)
theorem ptC_60_63 (w : Wp) (b n p : Nat) (h1 : 60 ≤ p) (h2 : p < 63) : plC w b n p := (Nat.lt_or_ge p 61).elim (fun h => ptC_60_61 w b n p h1 h) (fun h => ptC_61_63 w b n p h h2)
theorem ptC_63_64 (w : Wp) (b n p : Nat) (h1 : 63 ≤ p) (h2 : p < 64) : plC w b n p := by
  have e : p = 63 := by omega
  subst e
  exact plC_63 w b n
theorem ptC_64_65 (w : Wp) (b n p : Nat) (h1 : 64 ≤ p) (h2 : p < 65) : plC w b n p := by
  have e : p = 64 := by omega
  subst e
  exact plC_64 w b n
theorem ptC_65_66 (w : Wp) (b n p : Nat) (h1 : 65 ≤ p) (h2 : p < 66) : plC w b n p := by
  have e : p = 65 := by omega
  subst e
  exact plC_65 w b n
theorem ptC_64_66 (w : Wp) (b n p : Nat) (h1 : 64 ≤ p) (h2 : p < 66) : plC w b n p := (Nat.lt_or_ge p 65).elim (fun h => ptC_64_65 w b n p h1 h) (fun h => ptC_65_66 w b n p h h2)
theorem ptC_63_66 (w : Wp) (b n p : Nat) (h1 : 63 ≤ p) (h2 : p < 66) : plC w b n p := (Nat.lt_or_ge p 64).elim (fun h => ptC_63_64 w b n p h1 h) (fun h => ptC_64_66 w b n p h h2)
theorem ptC_60_66 (w : Wp) (b n p : Nat) (h1 : 60 ≤ p) (h2 : p < 66) : plC w b n p := (Nat.lt_or_ge p 63).elim (fun h => ptC_60_63 w b n p h1 h) (fun h => ptC_63_66 w b n p h h2)
theorem ptC_66_67 (w : Wp) (b n p : Nat) (h1 : 66 ≤ p) (h2 : p < 67) : plC w b n p := by
  have e : p = 66 := by omega
  subst e
  exact plC_66 w b n
theorem ptC_67_68 (w : Wp) (b n p : Nat) (h1 : 67 ≤ p) (h2 : p < 68) : plC w b n p := by
  have e : p = 67 := by omega
  subst e
  exact plC_67 w b n
theorem ptC_68_69 (w : Wp) (b n p : Nat) (h1 : 68 ≤ p) (h2 : p < 69) : plC w b n p := by
  have e : p = 68 := by omega
  subst e
  exact plC_68 w b n
theorem ptC_67_69 (w : Wp) (b n p : Nat) (h1 : 67 ≤ p) (h2 : p < 69) : plC w b n p := (Nat.lt_or_ge p 68).elim (fun h => ptC_67_68 w b n p h1 h) (fun h => ptC_68_69 w b n p h h2)
theorem ptC_66_69 (w : Wp) (b n p : Nat) (h1 : 66 ≤ p) (h2 : p < 69) : plC w b n p := (Nat.lt_or_ge p 67).elim (fun h => ptC_66_67 w b n p h1 h) (fun h => ptC_67_69 w b n p h h2)
theorem ptC_69_70 (w : Wp) (b n p : Nat) (h1 : 69 ≤ p) (h2 : p < 70) : plC w b n p := by
  have e : p = 69 := by omega
  subst e
  exact plC_69 w b n
theorem ptC_70_71 (w : Wp) (b n p : Nat) (h1 : 70 ≤ p) (h2 : p < 71) : plC w b n p := by
  have e : p = 70 := by omega
  subst e
  exact plC_70 w b n
theorem ptC_71_72 (w : Wp) (b n p : Nat) (h1 : 71 ≤ p) (h2 : p < 72) : plC w b n p := by
  have e : p = 71 := by omega
  subst e
  exact plC_71 w b n
theorem ptC_70_72 (w : Wp) (b n p : Nat) (h1 : 70 ≤ p) (h2 : p < 72) : plC w b n p := (Nat.lt_or_ge p 71).elim (fun h => ptC_70_71 w b n p h1 h) (fun h => ptC_71_72 w b n p h h2)
theorem ptC_69_72 (w : Wp) (b n p : Nat) (h1 : 69 ≤ p) (h2 : p < 72) : plC w b n p := (Nat.lt_or_ge p 70).elim (fun h => ptC_69_70 w b n p h1 h) (fun h => ptC_70_72 w b n p h h2)
theorem ptC_66_72 (w : Wp) (b n p : Nat) (h1 : 66 ≤ p) (h2 : p < 72) : plC w b n p := (Nat.lt_or_ge p 69).elim (fun h => ptC_66_69 w b n p h1 h) (fun h => ptC_69_72 w b n p h h2)
theorem ptC_60_72 (w : Wp) (b n p : Nat) (h1 : 60 ≤ p) (h2 : p < 72) : plC w b n p := (Nat.lt_or_ge p 66).elim (fun h => ptC_60_66 w b n p h1 h) (fun h => ptC_66_72 w b n p h h2)
theorem ptC_48_72 (w : Wp) (b n p : Nat) (h1 : 48 ≤ p) (h2 : p < 72) : plC w b n p := (Nat.lt_or_ge p 60).elim (fun h => ptC_48_60 w b n p h1 h) (fun h => ptC_60_72 w b n p h h2)
theorem ptC_72_73 (w : Wp) (b n p : Nat) (h1 : 72 ≤ p) (h2 : p < 73) : plC w b n p := by
  have e : p = 72 := by omega
  subst e
  exact plC_72 w b n
theorem ptC_73_74 (w : Wp) (b n p : Nat) (h1 : 73 ≤ p) (h2 : p < 74) : plC w b n p := by
  have e : p = 73 := by omega
  subst e
  exact plC_73 w b n
theorem ptC_74_75 (w : Wp) (b n p : Nat) (h1 : 74 ≤ p) (h2 : p < 75) : plC w b n p := by
  have e : p = 74 := by omega
  subst e
  exact plC_74 w b n
theorem ptC_73_75 (w : Wp) (b n p : Nat) (h1 : 73 ≤ p) (h2 : p < 75) : plC w b n p := (Nat.lt_or_ge p 74).elim (fun h => ptC_73_74 w b n p h1 h) (fun h => ptC_74_75 w b n p h h2)
theorem ptC_72_75 (w : Wp) (b n p : Nat) (h1 : 72 ≤ p) (h2 : p < 75) : plC w b n p := (Nat.lt_or_ge p 73).elim (fun h => ptC_72_73 w b n p h1 h) (fun h => ptC_73_75 w b n p h h2)
theorem ptC_75_76 (w : Wp) (b n p : Nat) (h1 : 75 ≤ p) (h2 : p < 76) : plC w b n p := by
  have e : p = 75 := by omega
  subst e
  exact plC_75 w b n
theorem ptC_76_77 (w : Wp) (b n p : Nat) (h1 : 76 ≤ p) (h2 : p < 77) : plC w b n p := by
  have e : p = 76 := by omega
  subst e
  exact plC_76 w b n
theorem ptC_77_78 (w : Wp) (b n p : Nat) (h1 : 77 ≤ p) (h2 : p < 78) : plC w b n p := by
  have e : p = 77 := by omega
  subst e
  exact plC_77 w b n
theorem ptC_76_78 (w : Wp) (b n p : Nat) (h1 : 76 ≤ p) (h2 : p < 78) : plC w b n p := (Nat.lt_or_ge p 77).elim (fun h => ptC_76_77 w b n p h1 h) (fun h => ptC_77_78 w b n p h h2)
theorem ptC_75_78 (w : Wp) (b n p : Nat) (h1 : 75 ≤ p) (h2 : p < 78) : plC w b n p := (Nat.lt_or_ge p 76).elim (fun h => ptC_75_76 w b n p h1 h) (fun h => ptC_76_78 w b n p h h2)
theorem ptC_72_78 (w : Wp) (b n p : Nat) (h1 : 72 ≤ p) (h2 : p < 78) : plC w b n p := (Nat.lt_or_ge p 75).elim (fun h => ptC_72_75 w b n p h1 h) (fun h => ptC_75_78 w b n p h h2)
theorem ptC_78_79 (w : Wp) (b n p : Nat) (h1 : 78 ≤ p) (h2 : p < 79) : plC w b n p := by
  have e : p = 78 := by omega
  subst e
  exact plC_78 w b n
theorem ptC_79_80 (w : Wp) (b n p : Nat) (h1 : 79 ≤ p) (h2 : p < 80) : plC w b n p := by
  have e : p = 79 := by omega
  subst e
  exact plC_79 w b n
theorem ptC_80_81 (w : Wp) (b n p : Nat) (h1 : 80 ≤ p) (h2 : p < 81) : plC w b n p := by
  have e : p = 80 := by omega
  subst e
  exact plC_80 w b n
theorem ptC_79_81 (w : Wp) (b n p : Nat) (h1 : 79 ≤ p) (h2 : p < 81) : plC w b n p := (Nat.lt_or_ge p 80).elim (fun h => ptC_79_80 w b n p h1 h) (fun h => ptC_80_81 w b n p h h2)
theorem ptC_78_81 (w : Wp) (b n p : Nat) (h1 : 78 ≤ p) (h2 : p < 81) : plC w b n p := (Nat.lt_or_ge p 79).elim (fun h => ptC_78_79 w b n p h1 h) (fun h => ptC_79_81 w b n p h h2)
theorem ptC_81_82 (w : Wp) (b n p : Nat) (h1 : 81 ≤ p) (h2 : p < 82) : plC w b n p := by
  have e : p = 81 := by omega
  subst e
  exact plC_81 w b n
theorem ptC_82_83 (w : Wp) (b n p : Nat) (h1 : 82 ≤ p) (h2 : p < 83) : plC w b n p := by
  have e : p = 82 := by omega
  subst e
  exact plC_82 w b n
theorem ptC_83_84 (w : Wp) (b n p : Nat) (h1 : 83 ≤ p) (h2 : p < 84) : plC w b n p := by
  have e : p = 83 := by omega
  subst e
  exact plC_83 w b n
theorem ptC_82_84 (w : Wp) (b n p : Nat) (h1 : 82 ≤ p) (h2 : p < 84) : plC w b n p := (Nat.lt_or_ge p 83).elim (fun h => ptC_82_83 w b n p h1 h) (fun h => ptC_83_84 w b n p h h2)
theorem ptC_81_84 (w : Wp) (b n p : Nat) (h1 : 81 ≤ p) (h2 : p < 84) : plC w b n p := (Nat.lt_or_ge p 82).elim (fun h => ptC_81_82 w b n p h1 h) (fun h => ptC_82_84 w b n p h h2)
theorem ptC_78_84 (w : Wp) (b n p : Nat) (h1 : 78 ≤ p) (h2 : p < 84) : plC w b n p := (Nat.lt_or_ge p 81).elim (fun h => ptC_78_81 w b n p h1 h) (fun h => ptC_81_84 w b n p h h2)
theorem ptC_72_84 (w : Wp) (b n p : Nat) (h1 : 72 ≤ p) (h2 : p < 84) : plC w b n p := (Nat.lt_or_ge p 78).elim (fun h => ptC_72_78 w b n p h1 h) (fun h => ptC_78_84 w b n p h h2)
theorem ptC_84_85 (w : Wp) (b n p : Nat) (h1 : 84 ≤ p) (h2 : p < 85) : plC w b n p := by
  have e : p = 84 := by omega
  subst e
  exact plC_84 w b n
theorem ptC_85_86 (w : Wp) (b n p : Nat) (h1 : 85 ≤ p) (h2 : p < 86) : plC w b n p := by
  have e : p = 85 := by omega
  subst e
  exact plC_85 w b n
theorem ptC_86_87 (w : Wp) (b n p : Nat) (h1 : 86 ≤ p) (h2 : p < 87) : plC w b n p := by
  have e : p = 86 := by omega
  subst e
  exact plC_86 w b n
theorem ptC_85_87 (w : Wp) (b n p : Nat) (h1 : 85 ≤ p) (h2 : p < 87) : plC w b n p := (Nat.lt_or_ge p 86).elim (fun h => ptC_85_86 w b n p h1 h) (fun h => ptC_86_87 w b n p h h2)
theorem ptC_84_87 (w : Wp) (b n p : Nat) (h1 : 84 ≤ p) (h2 : p < 87) : plC w b n p := (Nat.lt_or_ge p 85).elim (fun h => ptC_84_85 w b n p h1 h) (fun h => ptC_85_87 w b n p h h2)
theorem ptC_87_88 (w : Wp) (b n p : Nat) (h1 : 87 ≤ p) (h2 : p < 88) : plC w b n p := by
  have e : p = 87 := by omega
  subst e
  exact plC_87 w b n
theorem ptC_88_89 (w : Wp) (b n p : Nat) (h1 : 88 ≤ p) (h2 : p < 89) : plC w b n p := by
  have e : p = 88 := by omega
  subst e
  exact plC_88 w b n
theorem ptC_89_90 (w : Wp) (b n p : Nat) (h1 : 89 ≤ p) (h2 : p < 90) : plC w b n p := by
  have e : p = 89 := by omega
  subst e
  exact plC_89 w b n
theorem ptC_88_90 (w : Wp) (b n p : Nat) (h1 : 88 ≤ p) (h2 : p < 90) : plC w b n p := (Nat.lt_or_ge p 89).elim (fun h => ptC_88_89 w b n p h1 h) (fun h => ptC_89_90 w b n p h h2)
theorem ptC_87_90 (w : Wp) (b n p : Nat) (h1 : 87 ≤ p) (h2 : p < 90) : plC w b n p := (Nat.lt_or_ge p 88).elim (fun h => ptC_87_88 w b n p h1 h) (fun h => ptC_88_90 w b n p h h2)
theorem ptC_84_90 (w : Wp) (b n p : Nat) (h1 : 84 ≤ p) (h2 : p < 90) : plC w b n p := (Nat.lt_or_ge p 87).elim (fun h => ptC_84_87 w b n p h1 h) (fun h => ptC_87_90 w b n p h h2)
theorem ptC_90_91 (w : Wp) (b n p : Nat) (h1 : 90 ≤ p) (h2 : p < 91) : plC w b n p := by
  have e : p = 90 := by omega
  subst e
  exact plC_90 w b n
theorem ptC_91_92 (w : Wp) (b n p : Nat) (h1 : 91 ≤ p) (h2 : p < 92) : plC w b n p := by
  have e : p = 91 := by omega
  subst e
  exact plC_91 w b n
theorem ptC_92_93 (w : Wp) (b n p : Nat) (h1 : 92 ≤ p) (h2 : p < 93) : plC w b n p := by
  have e : p = 92 := by omega
  subst e
  exact plC_92 w b n
theorem ptC_91_93 (w : Wp) (b n p : Nat) (h1 : 91 ≤ p) (h2 : p < 93) : plC w b n p := (Nat.lt_or_ge p 92).elim (fun h => ptC_91_92 w b n p h1 h) (fun h => ptC_92_93 w b n p h h2)
theorem ptC_90_93 (w : Wp) (b n p : Nat) (h1 : 90 ≤ p) (h2 : p < 93) : plC w b n p := (Nat.lt_or_ge p 91).elim (fun h => ptC_90_91 w b n p h1 h) (fun h => ptC_91_93 w b n p h h2)
theorem ptC_93_94 (w : Wp) (b n p : Nat) (h1 : 93 ≤ p) (h2 : p < 94) : plC w b n p := by
  have e : p = 93 := by omega
  subst e
  exact plC_93 w b n
theorem ptC_94_95 (w : Wp) (b n p : Nat) (h1 : 94 ≤ p) (h2 : p < 95) : plC w b n p := by
  have e : p = 94 := by omega
  subst e
  exact plC_94 w b n
theorem ptC_93_95 (w : Wp) (b n p : Nat) (h1 : 93 ≤ p) (h2 : p < 95) : plC w b n p := (Nat.lt_or_ge p 94).elim (fun h => ptC_93_94 w b n p h1 h) (fun h => ptC_94_95 w b n p h h2)
theorem ptC_95_96 (w : Wp) (b n p : Nat) (h1 : 95 ≤ p) (h2 : p < 96) : plC w b n p := by
  have e : p = 95 := by omega
  subst e
  exact plC_95 w b n
theorem ptC_96_97 (w : Wp) (b n p : Nat) (h1 : 96 ≤ p) (h2 : p < 97) : plC w b n p := by
  have e : p = 96 := by omega
  subst e
  exact plC_96 w b n
theorem ptC_95_97 (w : Wp) (b n p : Nat) (h1 : 95 ≤ p) (h2 : p < 97) : plC w b n p := (Nat.lt_or_ge p 96).elim (fun h => ptC_95_96 w b n p h1 h) (fun h => ptC_96_97 w b n p h h2)
theorem ptC_93_97 (w : Wp) (b n p : Nat) (h1 : 93 ≤ p) (h2 : p < 97) : plC w b n p := (Nat.lt_or_ge p 95).elim (fun h => ptC_93_95 w b n p h1 h) (fun h => ptC_95_97 w b n p h h2)
theorem ptC_90_97 (w : Wp) (b n p : Nat) (h1 : 90 ≤ p) (h2 : p < 97) : plC w b n p := (Nat.lt_or_ge p 93).elim (fun h => ptC_90_93 w b n p h1 h) (fun h => ptC_93_97 w b n p h h2)
theorem ptC_84_97 (w : Wp) (b n p : Nat) (h1 : 84 ≤ p) (h2 : p < 97) : plC w b n p := (Nat.lt_or_ge p 90).elim (fun h => ptC_84_90 w b n p h1 h) (fun h => ptC_90_97 w b n p h h2)
theorem ptC_72_97 (w : Wp) (b n p : Nat) (h1 : 72 ≤ p) (h2 : p < 97) : plC w b n p := (Nat.lt_or_ge p 84).elim (fun h => ptC_72_84 w b n p h1 h) (fun h => ptC_84_97 w b n p h h2)
theorem ptC_48_97 (w : Wp) (b n p : Nat) (h1 : 48 ≤ p) (h2 : p < 97) : plC w b n p := (Nat.lt_or_ge p 72).elim (fun h => ptC_48_72 w b n p h1 h) (fun h => ptC_72_97 w b n p h h2)
theorem ptC_0_97 (w : Wp) (b n p : Nat) (h1 : 0 ≤ p) (h2 : p < 97) : plC w b n p := (Nat.lt_or_ge p 48).elim (fun h => ptC_0_48 w b n p h1 h) (fun h => ptC_48_97 w b n p h h2)
theorem ptC_97_98 (w : Wp) (b n p : Nat) (h1 : 97 ≤ p) (h2 : p < 98) : plC w b n p := by
  have e : p = 97 := by omega
  subst e
  exact plC_97 w b n
theorem ptC_98_99 (w : Wp) (b n p : Nat) (h1 : 98 ≤ p) (h2 : p < 99) : plC w b n p := by
  have e : p = 98 := by omega
  subst e
  exact plC_98 w b n
theorem ptC_99_100 (w : Wp) (b n p : Nat) (h1 : 99 ≤ p) (h2 : p < 100) : plC w b n p := by
  have e : p = 99 := by omega
  subst e
  exact plC_99 w b n
theorem ptC_98_100 (w : Wp) (b n p : Nat) (h1 : 98 ≤ p) (h2 : p < 100) : plC w b n p := (Nat.lt_or_ge p 99).elim (fun h => ptC_98_99 w b n p h1 h) (fun h => ptC_99_100 w b n p h h2)
theorem ptC_97_100 (w : Wp) (b n p : Nat) (h1 : 97 ≤ p) (h2 : p < 100) : plC w b n p := (Nat.lt_or_ge p 98).elim (fun h => ptC_97_98 w b n p h1 h) (fun h => ptC_98_100 w b n p h h2)
theorem ptC_100_101 (w : Wp) (b n p : Nat) (h1 : 100 ≤ p) (h2 : p < 101) : plC w b n p := by
  have e : p = 100 := by omega
  subst e
  exact plC_100 w b n
theorem ptC_101_102 (w : Wp) (b n p : Nat) (h1 : 101 ≤ p) (h2 : p < 102) : plC w b n p := by
  have e : p = 101 := by omega
  subst e
  exact plC_101 w b n
theorem ptC_102_103 (w : Wp) (b n p : Nat) (h1 : 102 ≤ p) (h2 : p < 103) : plC w b n p := by
  have e : p = 102 := by omega
  subst e
  exact plC_102 w b n
theorem ptC_101_103 (w : Wp) (b n p : Nat) (h1 : 101 ≤ p) (h2 : p < 103) : plC w b n p := (Nat.lt_or_ge p 102).elim (fun h => ptC_101_102 w b n p h1 h) (fun h => ptC_102_103 w b n p h h2)
theorem ptC_100_103 (w : Wp) (b n p : Nat) (h1 : 100 ≤ p) (h2 : p < 103) : plC w b n p := (Nat.lt_or_ge p 101).elim (fun h => ptC_100_101 w b n p h1 h) (fun h => ptC_101_103 w b n p h h2)
theorem ptC_97_103 (w : Wp) (b n p : Nat) (h1 : 97 ≤ p) (h2 : p < 103) : plC w b n p := (Nat.lt_or_ge p 100).elim (fun h => ptC_97_100 w b n p h1 h) (fun h => ptC_100_103 w b n p h h2)
theorem ptC_103_104 (w : Wp) (b n p : Nat) (h1 : 103 ≤ p) (h2 : p < 104) : plC w b n p := by
  have e : p = 103 := by omega
  subst e
  exact plC_103 w b n
theorem ptC_104_105 (w : Wp) (b n p : Nat) (h1 : 104 ≤ p) (h2 : p < 105) : plC w b n p := by
  have e : p = 104 := by omega
  subst e
  exact plC_104 w b n
theorem ptC_105_106 (w : Wp) (b n p : Nat) (h1 : 105 ≤ p) (h2 : p < 106) : plC w b n p := by
  have e : p = 105 := by omega
  subst e
  exact plC_105 w b n
theorem ptC_104_106 (w : Wp) (b n p : Nat) (h1 : 104 ≤ p) (h2 : p < 106) : plC w b n p := (Nat.lt_or_ge p 105).elim (fun h => ptC_104_105 w b n p h1 h) (fun h => ptC_105_106 w b n p h h2)
theorem ptC_103_106 (w : Wp) (b n p : Nat) (h1 : 103 ≤ p) (h2 : p < 106) : plC w b n p := (Nat.lt_or_ge p 104).elim (fun h => ptC_103_104 w b n p h1 h) (fun h => ptC_104_106 w b n p h h2)
theorem ptC_106_107 (w : Wp) (b n p : Nat) (h1 : 106 ≤ p) (h2 : p < 107) : plC w b n p := by
  have e : p = 106 := by omega
  subst e
  exact plC_106 w b n
theorem ptC_107_108 (w : Wp) (b n p : Nat) (h1 : 107 ≤ p) (h2 : p < 108) : plC w b n p := by
  have e : p = 107 := by omega
  subst e
  exact plC_107 w b n
theorem ptC_108_109 (w : Wp) (b n p : Nat) (h1 : 108 ≤ p) (h2 : p < 109) : plC w b n p := by
  have e : p = 108 := by omega
  subst e
  exact plC_108 w b n
theorem ptC_107_109 (w : Wp) (b n p : Nat) (h1 : 107 ≤ p) (h2 : p < 109) : plC w b n p := (Nat.lt_or_ge p 108).elim (fun h => ptC_107_108 w b n p h1 h) (fun h => ptC_108_109 w b n p h h2)
theorem ptC_106_109 (w : Wp) (b n p : Nat) (h1 : 106 ≤ p) (h2 : p < 109) : plC w b n p := (Nat.lt_or_ge p 107).elim (fun h => ptC_106_107 w b n p h1 h) (fun h => ptC_107_109 w b n p h h2)
theorem ptC_103_109 (w : Wp) (b n p : Nat) (h1 : 103 ≤ p) (h2 : p < 109) : plC w b n p := (Nat.lt_or_ge p 106).elim (fun h => ptC_103_106 w b n p h1 h) (fun h => ptC_106_109 w b n p h h2)
theorem ptC_97_109 (w : Wp) (b n p : Nat) (h1 : 97 ≤ p) (h2 : p < 109) : plC w b n p := (Nat.lt_or_ge p 103).elim (fun h => ptC_97_103 w b n p h1 h) (fun h => ptC_103_109 w b n p h h2)
theorem ptC_109_110 (w : Wp) (b n p : Nat) (h1 : 109 ≤ p) (h2 : p < 110) : plC w b n p := by
  have e : p = 109 := by omega
  subst e
  exact plC_109 w b n
theorem ptC_110_111 (w : Wp) (b n p : Nat) (h1 : 110 ≤ p) (h2 : p < 111) : plC w b n p := by
  have e : p = 110 := by omega
  subst e
  exact plC_110 w b n
theorem ptC_111_112 (w : Wp) (b n p : Nat) (h1 : 111 ≤ p) (h2 : p < 112) : plC w b n p := by
  have e : p = 111 := by omega
  subst e
  exact plC_111 w b n
theorem ptC_110_112 (w : Wp) (b n p : Nat) (h1 : 110 ≤ p) (h2 : p < 112) : plC w b n p := (Nat.lt_or_ge p 111).elim (fun h => ptC_110_111 w b n p h1 h) (fun h => ptC_111_112 w b n p h h2)
theorem ptC_109_112 (w : Wp) (b n p : Nat) (h1 : 109 ≤ p) (h2 : p < 112) : plC w b n p := (Nat.lt_or_ge p 110).elim (fun h => ptC_109_110 w b n p h1 h) (fun h => ptC_110_112 w b n p h h2)
theorem ptC_112_113 (w : Wp) (b n p : Nat) (h1 : 112 ≤ p) (h2 : p < 113) : plC w b n p := by
  have e : p = 112 := by omega
  subst e
  exact plC_112 w b n
theorem ptC_113_114 (w : Wp) (b n p : Nat) (h1 : 113 ≤ p) (h2 : p < 114) : plC w b n p := by
  have e : p = 113 := by omega
  subst e
  exact plC_113 w b n
theorem ptC_114_115 (w : Wp) (b n p : Nat) (h1 : 114 ≤ p) (h2 : p < 115) : plC w b n p := by
  have e : p = 114 := by omega
  subst e
  exact plC_114 w b n
theorem ptC_113_115 (w : Wp) (b n p : Nat) (h1 : 113 ≤ p) (h2 : p < 115) : plC w b n p := (Nat.lt_or_ge p 114).elim (fun h => ptC_113_114 w b n p h1 h) (fun h => ptC_114_115 w b n p h h2)
theorem ptC_112_115 (w : Wp) (b n p : Nat) (h1 : 112 ≤ p) (h2 : p < 115) : plC w b n p := (Nat.lt_or_ge p 113).elim (fun h => ptC_112_113 w b n p h1 h) (fun h => ptC_113_115 w b n p h h2)
theorem ptC_109_115 (w : Wp) (b n p : Nat) (h1 : 109 ≤ p) (h2 : p < 115) : plC w b n p := (Nat.lt_or_ge p 112).elim (fun h => ptC_109_112 w b n p h1 h) (fun h => ptC_112_115 w b n p h h2)
theorem ptC_115_116 (w : Wp) (b n p : Nat) (h1 : 115 ≤ p) (h2 : p < 116) : plC w b n p := by
  have e : p = 115 := by omega
  subst e
  exact plC_115 w b n
theorem ptC_116_117 (w : Wp) (b n p : Nat) (h1 : 116 ≤ p) (h2 : p < 117) : plC w b n p := by
  have e : p = 116 := by omega
  subst e
  exact plC_116 w b n
theorem ptC_117_118 (w : Wp) (b n p : Nat) (h1 : 117 ≤ p) (h2 : p < 118) : plC w b n p := by
  have e : p = 117 := by omega
  subst e
  exact plC_117 w b n
theorem ptC_116_118 (w : Wp) (b n p : Nat) (h1 : 116 ≤ p) (h2 : p < 118) : plC w b n p := (Nat.lt_or_ge p 117).elim (fun h => ptC_116_117 w b n p h1 h) (fun h => ptC_117_118 w b n p h h2)
theorem ptC_115_118 (w : Wp) (b n p : Nat) (h1 : 115 ≤ p) (h2 : p < 118) : plC w b n p := (Nat.lt_or_ge p 116).elim (fun h => ptC_115_116 w b n p h1 h) (fun h => ptC_116_118 w b n p h h2)
theorem ptC_118_119 (w : Wp) (b n p : Nat) (h1 : 118 ≤ p) (h2 : p < 119) : plC w b n p := by
  have e : p = 118 := by omega
  subst e
  exact plC_118 w b n
theorem ptC_119_120 (w : Wp) (b n p : Nat) (h1 : 119 ≤ p) (h2 : p < 120) : plC w b n p := by
  have e : p = 119 := by omega
  subst e
  exact plC_119 w b n
theorem ptC_120_121 (w : Wp) (b n p : Nat) (h1 : 120 ≤ p) (h2 : p < 121) : plC w b n p := by
  have e : p = 120 := by omega
  subst e
  exact plC_120 w b n
theorem ptC_119_121 (w : Wp) (b n p : Nat) (h1 : 119 ≤ p) (h2 : p < 121) : plC w b n p := (Nat.lt_or_ge p 120).elim (fun h => ptC_119_120 w b n p h1 h) (fun h => ptC_120_121 w b n p h h2)
theorem ptC_118_121 (w : Wp) (b n p : Nat) (h1 : 118 ≤ p) (h2 : p < 121) : plC w b n p := (Nat.lt_or_ge p 119).elim (fun h => ptC_118_119 w b n p h1 h) (fun h => ptC_119_121 w b n p h h2)
theorem ptC_115_121 (w : Wp) (b n p : Nat) (h1 : 115 ≤ p) (h2 : p < 121) : plC w b n p := (Nat.lt_or_ge p 118).elim (fun h => ptC_115_118 w b n p h1 h) (fun h => ptC_118_121 w b n p h h2)
theorem ptC_109_121 (w : Wp) (b n p : Nat) (h1 : 109 ≤ p) (h2 : p < 121) : plC w b n p := (Nat.lt_or_ge p 115).elim (fun h => ptC_109_115 w b n p h1 h) (fun h => ptC_115_121 w b n p h h2)
theorem ptC_97_121 (w : Wp) (b n p : Nat) (h1 : 97 ≤ p) (h2 : p < 121) : plC w b n p := (Nat.lt_or_ge p 109).elim (fun h => ptC_97_109 w b n p h1 h) (fun h => ptC_109_121 w b n p h h2)
theorem ptC_121_122 (w : Wp) (b n p : Nat) (h1 : 121 ≤ p) (h2 : p < 122) : plC w b n p := by
  have e : p = 121 := by omega
  subst e
  exact plC_121 w b n
theorem ptC_122_123 (w : Wp) (b n p : Nat) (h1 : 122 ≤ p) (h2 : p < 123) : plC w b n p := by
  have e : p = 122 := by omega
  subst e
  exact plC_122 w b n
theorem ptC_123_124 (w : Wp) (b n p : Nat) (h1 : 123 ≤ p) (h2 : p < 124) : plC w b n p := by
  have e : p = 123 := by omega
  subst e
  exact plC_123 w b n
theorem ptC_122_124 (w : Wp) (b n p : Nat) (h1 : 122 ≤ p) (h2 : p < 124) : plC w b n p := (Nat.lt_or_ge p 123).elim (fun h => ptC_122_123 w b n p h1 h) (fun h => ptC_123_124 w b n p h h2)
theorem ptC_121_124 (w : Wp) (b n p : Nat) (h1 : 121 ≤ p) (h2 : p < 124) : plC w b n p := (Nat.lt_or_ge p 122).elim (fun h => ptC_121_122 w b n p h1 h) (fun h => ptC_122_124 w b n p h h2)
theorem ptC_124_125 (w : Wp) (b n p : Nat) (h1 : 124 ≤ p) (h2 : p < 125) : plC w b n p := by
  have e : p = 124 := by omega
  subst e
  exact plC_124 w b n
theorem ptC_125_126 (w : Wp) (b n p : Nat) (h1 : 125 ≤ p) (h2 : p < 126) : plC w b n p := by
  have e : p = 125 := by omega
  subst e
  exact plC_125 w b n
theorem ptC_126_127 (w : Wp) (b n p : Nat) (h1 : 126 ≤ p) (h2 : p < 127) : plC w b n p := by
  have e : p = 126 := by omega
  subst e
  exact plC_126 w b n
theorem ptC_125_127 (w : Wp) (b n p : Nat) (h1 : 125 ≤ p) (h2 : p < 127) : plC w b n p := (Nat.lt_or_ge p 126).elim (fun h => ptC_125_126 w b n p h1 h) (fun h => ptC_126_127 w b n p h h2)
theorem ptC_124_127 (w : Wp) (b n p : Nat) (h1 : 124 ≤ p) (h2 : p < 127) : plC w b n p := (Nat.lt_or_ge p 125).elim (fun h => ptC_124_125 w b n p h1 h) (fun h => ptC_125_127 w b n p h h2)
theorem ptC_121_127 (w : Wp) (b n p : Nat) (h1 : 121 ≤ p) (h2 : p < 127) : plC w b n p := (Nat.lt_or_ge p 124).elim (fun h => ptC_121_124 w b n p h1 h) (fun h => ptC_124_127 w b n p h h2)
theorem ptC_127_128 (w : Wp) (b n p : Nat) (h1 : 127 ≤ p) (h2 : p < 128) : plC w b n p := by
  have e : p = 127 := by omega
  subst e
  exact plC_127 w b n
theorem ptC_128_129 (w : Wp) (b n p : Nat) (h1 : 128 ≤ p) (h2 : p < 129) : plC w b n p := by
  have e : p = 128 := by omega
  subst e
  exact plC_128 w b n
theorem ptC_129_130 (w : Wp) (b n p : Nat) (h1 : 129 ≤ p) (h2 : p < 130) : plC w b n p := by
  have e : p = 129 := by omega
  subst e
  exact plC_129 w b n
theorem ptC_128_130 (w : Wp) (b n p : Nat) (h1 : 128 ≤ p) (h2 : p < 130) : plC w b n p := (Nat.lt_or_ge p 129).elim (fun h => ptC_128_129 w b n p h1 h) (fun h => ptC_129_130 w b n p h h2)
theorem ptC_127_130 (w : Wp) (b n p : Nat) (h1 : 127 ≤ p) (h2 : p < 130) : plC w b n p := (Nat.lt_or_ge p 128).elim (fun h => ptC_127_128 w b n p h1 h) (fun h => ptC_128_130 w b n p h h2)
theorem ptC_130_131 (w : Wp) (b n p : Nat) (h1 : 130 ≤ p) (h2 : p < 131) : plC w b n p := by
  have e : p = 130 := by omega
  subst e
  exact plC_130 w b n
theorem ptC_131_132 (w : Wp) (b n p : Nat) (h1 : 131 ≤ p) (h2 : p < 132) : plC w b n p := by
  have e : p = 131 := by omega
  subst e
  exact plC_131 w b n
theorem ptC_132_133 (w : Wp) (b n p : Nat) (h1 : 132 ≤ p) (h2 : p < 133) : plC w b n p := by
  have e : p = 132 := by omega
  subst e
  exact plC_132 w b n
theorem ptC_131_133 (w : Wp) (b n p : Nat) (h1 : 131 ≤ p) (h2 : p < 133) : plC w b n p := (Nat.lt_or_ge p 132).elim (fun h => ptC_131_132 w b n p h1 h) (fun h => ptC_132_133 w b n p h h2)
theorem ptC_130_133 (w : Wp) (b n p : Nat) (h1 : 130 ≤ p) (h2 : p < 133) : plC w b n p := (Nat.lt_or_ge p 131).elim (fun h => ptC_130_131 w b n p h1 h) (fun h => ptC_131_133 w b n p h h2)
theorem ptC_127_133 (w : Wp) (b n p : Nat) (h1 : 127 ≤ p) (h2 : p < 133) : plC w b n p := (Nat.lt_or_ge p 130).elim (fun h => ptC_127_130 w b n p h1 h) (fun h => ptC_130_133 w b n p h h2)
theorem ptC_121_133 (w : Wp) (b n p : Nat) (h1 : 121 ≤ p) (h2 : p < 133) : plC w b n p := (Nat.lt_or_ge p 127).elim (fun h => ptC_121_127 w b n p h1 h) (fun h => ptC_127_133 w b n p h h2)
theorem ptC_133_134 (w : Wp) (b n p : Nat) (h1 : 133 ≤ p) (h2 : p < 134) : plC w b n p := by
  have e : p = 133 := by omega
  subst e
  exact plC_133 w b n
theorem ptC_134_135 (w : Wp) (b n p : Nat) (h1 : 134 ≤ p) (h2 : p < 135) : plC w b n p := by
  have e : p = 134 := by omega
  subst e
  exact plC_134 w b n
theorem ptC_135_136 (w : Wp) (b n p : Nat) (h1 : 135 ≤ p) (h2 : p < 136) : plC w b n p := by
  have e : p = 135 := by omega
  subst e
  exact plC_135 w b n
theorem ptC_134_136 (w : Wp) (b n p : Nat) (h1 : 134 ≤ p) (h2 : p < 136) : plC w b n p := (Nat.lt_or_ge p 135).elim (fun h => ptC_134_135 w b n p h1 h) (fun h => ptC_135_136 w b n p h h2)
theorem ptC_133_136 (w : Wp) (b n p : Nat) (h1 : 133 ≤ p) (h2 : p < 136) : plC w b n p := (Nat.lt_or_ge p 134).elim (fun h => ptC_133_134 w b n p h1 h) (fun h => ptC_134_136 w b n p h h2)
theorem ptC_136_137 (w : Wp) (b n p : Nat) (h1 : 136 ≤ p) (h2 : p < 137) : plC w b n p := by
  have e : p = 136 := by omega
  subst e
  exact plC_136 w b n
theorem ptC_137_138 (w : Wp) (b n p : Nat) (h1 : 137 ≤ p) (h2 : p < 138) : plC w b n p := by
  have e : p = 137 := by omega
  subst e
  exact plC_137 w b n
theorem ptC_138_139 (w : Wp) (b n p : Nat) (h1 : 138 ≤ p) (h2 : p < 139) : plC w b n p := by
  have e : p = 138 := by omega
  subst e
  exact plC_138 w b n
theorem ptC_137_139 (w : Wp) (b n p : Nat) (h1 : 137 ≤ p) (h2 : p < 139) : plC w b n p := (Nat.lt_or_ge p 138).elim (fun h => ptC_137_138 w b n p h1 h) (fun h => ptC_138_139 w b n p h h2)
theorem ptC_136_139 (w : Wp) (b n p : Nat) (h1 : 136 ≤ p) (h2 : p < 139) : plC w b n p := (Nat.lt_or_ge p 137).elim (fun h => ptC_136_137 w b n p h1 h) (fun h => ptC_137_139 w b n p h h2)
theorem ptC_133_139 (w : Wp) (b n p : Nat) (h1 : 133 ≤ p) (h2 : p < 139) : plC w b n p := (Nat.lt_or_ge p 136).elim (fun h => ptC_133_136 w b n p h1 h) (fun h => ptC_136_139 w b n p h h2)
theorem ptC_139_140 (w : Wp) (b n p : Nat) (h1 : 139 ≤ p) (h2 : p < 140) : plC w b n p := by
  have e : p = 139 := by omega
  subst e
  exact plC_139 w b n
theorem ptC_140_141 (w : Wp) (b n p : Nat) (h1 : 140 ≤ p) (h2 : p < 141) : plC w b n p := by
  have e : p = 140 := by omega
  subst e
  exact plC_140 w b n
theorem ptC_141_142 (w : Wp) (b n p : Nat) (h1 : 141 ≤ p) (h2 : p < 142) : plC w b n p := by
  have e : p = 141 := by omega
  subst e
  exact plC_141 w b n
theorem ptC_140_142 (w : Wp) (b n p : Nat) (h1 : 140 ≤ p) (h2 : p < 142) : plC w b n p := (Nat.lt_or_ge p 141).elim (fun h => ptC_140_141 w b n p h1 h) (fun h => ptC_141_142 w b n p h h2)
theorem ptC_139_142 (w : Wp) (b n p : Nat) (h1 : 139 ≤ p) (h2 : p < 142) : plC w b n p := (Nat.lt_or_ge p 140).elim (fun h => ptC_139_140 w b n p h1 h) (fun h => ptC_140_142 w b n p h h2)
theorem ptC_142_143 (w : Wp) (b n p : Nat) (h1 : 142 ≤ p) (h2 : p < 143) : plC w b n p := by
  have e : p = 142 := by omega
  subst e
  exact plC_142 w b n
theorem ptC_143_144 (w : Wp) (b n p : Nat) (h1 : 143 ≤ p) (h2 : p < 144) : plC w b n p := by
  have e : p = 143 := by omega
  subst e
  exact plC_143 w b n
theorem ptC_144_145 (w : Wp) (b n p : Nat) (h1 : 144 ≤ p) (h2 : p < 145) : plC w b n p := by
  have e : p = 144 := by omega
  subst e
  exact plC_144 w b n
theorem ptC_143_145 (w : Wp) (b n p : Nat) (h1 : 143 ≤ p) (h2 : p < 145) : plC w b n p := (Nat.lt_or_ge p 144).elim (fun h => ptC_143_144 w b n p h1 h) (fun h => ptC_144_145 w b n p h h2)
theorem ptC_142_145 (w : Wp) (b n p : Nat) (h1 : 142 ≤ p) (h2 : p < 145) : plC w b n p := (Nat.lt_or_ge p 143).elim (fun h => ptC_142_143 w b n p h1 h) (fun h => ptC_143_145 w b n p h h2)
theorem ptC_139_145 (w : Wp) (b n p : Nat) (h1 : 139 ≤ p) (h2 : p < 145) : plC w b n p := (Nat.lt_or_ge p 142).elim (fun h => ptC_139_142 w b n p h1 h) (fun h => ptC_142_145 w b n p h h2)
theorem ptC_133_145 (w : Wp) (b n p : Nat) (h1 : 133 ≤ p) (h2 : p < 145) : plC w b n p := (Nat.lt_or_ge p 139).elim (fun h => ptC_133_139 w b n p h1 h) (fun h => ptC_139_145 w b n p h h2)
theorem ptC_121_145 (w : Wp) (b n p : Nat) (h1 : 121 ≤ p) (h2 : p < 145) : plC w b n p := (Nat.lt_or_ge p 133).elim (fun h => ptC_121_133 w b n p h1 h) (fun h => ptC_133_145 w b n p h h2)
theorem ptC_97_145 (w : Wp) (b n p : Nat) (h1 : 97 ≤ p) (h2 : p < 145) : plC w b n p := (Nat.lt_or_ge p 121).elim (fun h => ptC_97_121 w b n p h1 h) (fun h => ptC_121_145 w b n p h h2)
theorem ptC_145_146 (w : Wp) (b n p : Nat) (h1 : 145 ≤ p) (h2 : p < 146) : plC w b n p := by
  have e : p = 145 := by omega
  subst e
  exact plC_145 w b n
theorem ptC_146_147 (w : Wp) (b n p : Nat) (h1 : 146 ≤ p) (h2 : p < 147) : plC w b n p := by
  have e : p = 146 := by omega
  subst e
  exact plC_146 w b n
theorem ptC_147_148 (w : Wp) (b n p : Nat) (h1 : 147 ≤ p) (h2 : p < 148) : plC w b n p := by
  have e : p = 147 := by omega
  subst e
  exact plC_147 w b n
theorem ptC_146_148 (w : Wp) (b n p : Nat) (h1 : 146 ≤ p) (h2 : p < 148) : plC w b n p := (Nat.lt_or_ge p 147).elim (fun h => ptC_146_147 w b n p h1 h) (fun h => ptC_147_148 w b n p h h2)
theorem ptC_145_148 (w : Wp) (b n p : Nat) (h1 : 145 ≤ p) (h2 : p < 148) : plC w b n p := (Nat.lt_or_ge p 146).elim (fun h => ptC_145_146 w b n p h1 h) (fun h => ptC_146_148 w b n p h h2)
theorem ptC_148_149 (w : Wp) (b n p : Nat) (h1 : 148 ≤ p) (h2 : p < 149) : plC w b n p := by
  have e : p = 148 := by omega
  subst e
  exact plC_148 w b n
theorem ptC_149_150 (w : Wp) (b n p : Nat) (h1 : 149 ≤ p) (h2 : p < 150) : plC w b n p := by
  have e : p = 149 := by omega
  subst e
  exact plC_149 w b n
theorem ptC_150_151 (w : Wp) (b n p : Nat) (h1 : 150 ≤ p) (h2 : p < 151) : plC w b n p := by
  have e : p = 150 := by omega
  subst e
  exact plC_150 w b n
theorem ptC_149_151 (w : Wp) (b n p : Nat) (h1 : 149 ≤ p) (h2 : p < 151) : plC w b n p := (Nat.lt_or_ge p 150).elim (fun h => ptC_149_150 w b n p h1 h) (fun h => ptC_150_151 w b n p h h2)
theorem ptC_148_151 (w : Wp) (b n p : Nat) (h1 : 148 ≤ p) (h2 : p < 151) : plC w b n p := (Nat.lt_or_ge p 149).elim (fun h => ptC_148_149 w b n p h1 h) (fun h => ptC_149_151 w b n p h h2)
theorem ptC_145_151 (w : Wp) (b n p : Nat) (h1 : 145 ≤ p) (h2 : p < 151) : plC w b n p := (Nat.lt_or_ge p 148).elim (fun h => ptC_145_148 w b n p h1 h) (fun h => ptC_148_151 w b n p h h2)
theorem ptC_151_152 (w : Wp) (b n p : Nat) (h1 : 151 ≤ p) (h2 : p < 152) : plC w b n p := by
  have e : p = 151 := by omega
  subst e
  exact plC_151 w b n
theorem ptC_152_153 (w : Wp) (b n p : Nat) (h1 : 152 ≤ p) (h2 : p < 153) : plC w b n p := by
  have e : p = 152 := by omega
  subst e
  exact plC_152 w b n
theorem ptC_153_154 (w : Wp) (b n p : Nat) (h1 : 153 ≤ p) (h2 : p < 154) : plC w b n p := by
  have e : p = 153 := by omega
  subst e
  exact plC_153 w b n
theorem ptC_152_154 (w : Wp) (b n p : Nat) (h1 : 152 ≤ p) (h2 : p < 154) : plC w b n p := (Nat.lt_or_ge p 153).elim (fun h => ptC_152_153 w b n p h1 h) (fun h => ptC_153_154 w b n p h h2)
theorem ptC_151_154 (w : Wp) (b n p : Nat) (h1 : 151 ≤ p) (h2 : p < 154) : plC w b n p := (Nat.lt_or_ge p 152).elim (fun h => ptC_151_152 w b n p h1 h) (fun h => ptC_152_154 w b n p h h2)
theorem ptC_154_155 (w : Wp) (b n p : Nat) (h1 : 154 ≤ p) (h2 : p < 155) : plC w b n p := by
  have e : p = 154 := by omega
  subst e
  exact plC_154 w b n
theorem ptC_155_156 (w : Wp) (b n p : Nat) (h1 : 155 ≤ p) (h2 : p < 156) : plC w b n p := by
  have e : p = 155 := by omega
  subst e
  exact plC_155 w b n
theorem ptC_156_157 (w : Wp) (b n p : Nat) (h1 : 156 ≤ p) (h2 : p < 157) : plC w b n p := by
  have e : p = 156 := by omega
  subst e
  exact plC_156 w b n
theorem ptC_155_157 (w : Wp) (b n p : Nat) (h1 : 155 ≤ p) (h2 : p < 157) : plC w b n p := (Nat.lt_or_ge p 156).elim (fun h => ptC_155_156 w b n p h1 h) (fun h => ptC_156_157 w b n p h h2)
theorem ptC_154_157 (w : Wp) (b n p : Nat) (h1 : 154 ≤ p) (h2 : p < 157) : plC w b n p := (Nat.lt_or_ge p 155).elim (fun h => ptC_154_155 w b n p h1 h) (fun h => ptC_155_157 w b n p h h2)
theorem ptC_151_157 (w : Wp) (b n p : Nat) (h1 : 151 ≤ p) (h2 : p < 157) : plC w b n p := (Nat.lt_or_ge p 154).elim (fun h => ptC_151_154 w b n p h1 h) (fun h => ptC_154_157 w b n p h h2)
theorem ptC_145_157 (w : Wp) (b n p : Nat) (h1 : 145 ≤ p) (h2 : p < 157) : plC w b n p := (Nat.lt_or_ge p 151).elim (fun h => ptC_145_151 w b n p h1 h) (fun h => ptC_151_157 w b n p h h2)
theorem ptC_157_158 (w : Wp) (b n p : Nat) (h1 : 157 ≤ p) (h2 : p < 158) : plC w b n p := by
  have e : p = 157 := by omega
  subst e
  exact plC_157 w b n
theorem ptC_158_159 (w : Wp) (b n p : Nat) (h1 : 158 ≤ p) (h2 : p < 159) : plC w b n p := by
  have e : p = 158 := by omega
  subst e
  exact plC_158 w b n
theorem ptC_159_160 (w : Wp) (b n p : Nat) (h1 : 159 ≤ p) (h2 : p < 160) : plC w b n p := by
  have e : p = 159 := by omega
  subst e
  exact plC_159 w b n
theorem ptC_158_160 (w : Wp) (b n p : Nat) (h1 : 158 ≤ p) (h2 : p < 160) : plC w b n p := (Nat.lt_or_ge p 159).elim (fun h => ptC_158_159 w b n p h1 h) (fun h => ptC_159_160 w b n p h h2)
theorem ptC_157_160 (w : Wp) (b n p : Nat) (h1 : 157 ≤ p) (h2 : p < 160) : plC w b n p := (Nat.lt_or_ge p 158).elim (fun h => ptC_157_158 w b n p h1 h) (fun h => ptC_158_160 w b n p h h2)
theorem ptC_160_161 (w : Wp) (b n p : Nat) (h1 : 160 ≤ p) (h2 : p < 161) : plC w b n p := by
  have e : p = 160 := by omega
  subst e
  exact plC_160 w b n
theorem ptC_161_162 (w : Wp) (b n p : Nat) (h1 : 161 ≤ p) (h2 : p < 162) : plC w b n p := by
  have e : p = 161 := by omega
  subst e
  exact plC_161 w b n
theorem ptC_162_163 (w : Wp) (b n p : Nat) (h1 : 162 ≤ p) (h2 : p < 163) : plC w b n p := by
  have e : p = 162 := by omega
  subst e
  exact plC_162 w b n
theorem ptC_161_163 (w : Wp) (b n p : Nat) (h1 : 161 ≤ p) (h2 : p < 163) : plC w b n p := (Nat.lt_or_ge p 162).elim (fun h => ptC_161_162 w b n p h1 h) (fun h => ptC_162_163 w b n p h h2)
theorem ptC_160_163 (w : Wp) (b n p : Nat) (h1 : 160 ≤ p) (h2 : p < 163) : plC w b n p := (Nat.lt_or_ge p 161).elim (fun h => ptC_160_161 w b n p h1 h) (fun h => ptC_161_163 w b n p h h2)
theorem ptC_157_163 (w : Wp) (b n p : Nat) (h1 : 157 ≤ p) (h2 : p < 163) : plC w b n p := (Nat.lt_or_ge p 160).elim (fun h => ptC_157_160 w b n p h1 h) (fun h => ptC_160_163 w b n p h h2)
theorem ptC_163_164 (w : Wp) (b n p : Nat) (h1 : 163 ≤ p) (h2 : p < 164) : plC w b n p := by
  have e : p = 163 := by omega
  subst e
  exact plC_163 w b n
theorem ptC_164_165 (w : Wp) (b n p : Nat) (h1 : 164 ≤ p) (h2 : p < 165) : plC w b n p := by
  have e : p = 164 := by omega
  subst e
  exact plC_164 w b n
theorem ptC_165_166 (w : Wp) (b n p : Nat) (h1 : 165 ≤ p) (h2 : p < 166) : plC w b n p := by
  have e : p = 165 := by omega
  subst e
  exact plC_165 w b n
theorem ptC_164_166 (w : Wp) (b n p : Nat) (h1 : 164 ≤ p) (h2 : p < 166) : plC w b n p := (Nat.lt_or_ge p 165).elim (fun h => ptC_164_165 w b n p h1 h) (fun h => ptC_165_166 w b n p h h2)
theorem ptC_163_166 (w : Wp) (b n p : Nat) (h1 : 163 ≤ p) (h2 : p < 166) : plC w b n p := (Nat.lt_or_ge p 164).elim (fun h => ptC_163_164 w b n p h1 h) (fun h => ptC_164_166 w b n p h h2)
theorem ptC_166_167 (w : Wp) (b n p : Nat) (h1 : 166 ≤ p) (h2 : p < 167) : plC w b n p := by
  have e : p = 166 := by omega
  subst e
  exact plC_166 w b n
theorem ptC_167_168 (w : Wp) (b n p : Nat) (h1 : 167 ≤ p) (h2 : p < 168) : plC w b n p := by
  have e : p = 167 := by omega
  subst e
  exact plC_167 w b n
theorem ptC_168_169 (w : Wp) (b n p : Nat) (h1 : 168 ≤ p) (h2 : p < 169) : plC w b n p := by
  have e : p = 168 := by omega
  subst e
  exact plC_168 w b n
theorem ptC_167_169 (w : Wp) (b n p : Nat) (h1 : 167 ≤ p) (h2 : p < 169) : plC w b n p := (Nat.lt_or_ge p 168).elim (fun h => ptC_167_168 w b n p h1 h) (fun h => ptC_168_169 w b n p h h2)
theorem ptC_166_169 (w : Wp) (b n p : Nat) (h1 : 166 ≤ p) (h2 : p < 169) : plC w b n p := (Nat.lt_or_ge p 167).elim (fun h => ptC_166_167 w b n p h1 h) (fun h => ptC_167_169 w b n p h h2)
theorem ptC_163_169 (w : Wp) (b n p : Nat) (h1 : 163 ≤ p) (h2 : p < 169) : plC w b n p := (Nat.lt_or_ge p 166).elim (fun h => ptC_163_166 w b n p h1 h) (fun h => ptC_166_169 w b n p h h2)
theorem ptC_157_169 (w : Wp) (b n p : Nat) (h1 : 157 ≤ p) (h2 : p < 169) : plC w b n p := (Nat.lt_or_ge p 163).elim (fun h => ptC_157_163 w b n p h1 h) (fun h => ptC_163_169 w b n p h h2)
theorem ptC_145_169 (w : Wp) (b n p : Nat) (h1 : 145 ≤ p) (h2 : p < 169) : plC w b n p := (Nat.lt_or_ge p 157).elim (fun h => ptC_145_157 w b n p h1 h) (fun h => ptC_157_169 w b n p h h2)
theorem ptC_169_170 (w : Wp) (b n p : Nat) (h1 : 169 ≤ p) (h2 : p < 170) : plC w b n p := by
  have e : p = 169 := by omega
  subst e
  exact plC_169 w b n
theorem ptC_170_171 (w : Wp) (b n p : Nat) (h1 : 170 ≤ p) (h2 : p < 171) : plC w b n p := by
  have e : p = 170 := by omega
  subst e
  exact plC_170 w b n
theorem ptC_171_172 (w : Wp) (b n p : Nat) (h1 : 171 ≤ p) (h2 : p < 172) : plC w b n p := by
  have e : p = 171 := by omega
  subst e
  exact plC_171 w b n
theorem ptC_170_172 (w : Wp) (b n p : Nat) (h1 : 170 ≤ p) (h2 : p < 172) : plC w b n p := (Nat.lt_or_ge p 171).elim (fun h => ptC_170_171 w b n p h1 h) (fun h => ptC_171_172 w b n p h h2)
theorem ptC_169_172 (w : Wp) (b n p : Nat) (h1 : 169 ≤ p) (h2 : p < 172) : plC w b n p := (Nat.lt_or_ge p 170).elim (fun h => ptC_169_170 w b n p h1 h) (fun h => ptC_170_172 w b n p h h2)
theorem ptC_172_173 (w : Wp) (b n p : Nat) (h1 : 172 ≤ p) (h2 : p < 173) : plC w b n p := by
  have e : p = 172 := by omega
  subst e
  exact plC_172 w b n
theorem ptC_173_174 (w : Wp) (b n p : Nat) (h1 : 173 ≤ p) (h2 : p < 174) : plC w b n p := by
  have e : p = 173 := by omega
  subst e
  exact plC_173 w b n
theorem ptC_174_175 (w : Wp) (b n p : Nat) (h1 : 174 ≤ p) (h2 : p < 175) : plC w b n p := by
  have e : p = 174 := by omega
  subst e
  exact plC_174 w b n
theorem ptC_173_175 (w : Wp) (b n p : Nat) (h1 : 173 ≤ p) (h2 : p < 175) : plC w b n p := (Nat.lt_or_ge p 174).elim (fun h => ptC_173_174 w b n p h1 h) (fun h => ptC_174_175 w b n p h h2)
theorem ptC_172_175 (w : Wp) (b n p : Nat) (h1 : 172 ≤ p) (h2 : p < 175) : plC w b n p := (Nat.lt_or_ge p 173).elim (fun h => ptC_172_173 w b n p h1 h) (fun h => ptC_173_175 w b n p h h2)
theorem ptC_169_175 (w : Wp) (b n p : Nat) (h1 : 169 ≤ p) (h2 : p < 175) : plC w b n p := (Nat.lt_or_ge p 172).elim (fun h => ptC_169_172 w b n p h1 h) (fun h => ptC_172_175 w b n p h h2)
theorem ptC_175_176 (w : Wp) (b n p : Nat) (h1 : 175 ≤ p) (h2 : p < 176) : plC w b n p := by
  have e : p = 175 := by omega
  subst e
  exact plC_175 w b n
theorem ptC_176_177 (w : Wp) (b n p : Nat) (h1 : 176 ≤ p) (h2 : p < 177) : plC w b n p := by
  have e : p = 176 := by omega
  subst e
  exact plC_176 w b n
theorem ptC_177_178 (w : Wp) (b n p : Nat) (h1 : 177 ≤ p) (h2 : p < 178) : plC w b n p := by
  have e : p = 177 := by omega
  subst e
  exact plC_177 w b n
theorem ptC_176_178 (w : Wp) (b n p : Nat) (h1 : 176 ≤ p) (h2 : p < 178) : plC w b n p := (Nat.lt_or_ge p 177).elim (fun h => ptC_176_177 w b n p h1 h) (fun h => ptC_177_178 w b n p h h2)
theorem ptC_175_178 (w : Wp) (b n p : Nat) (h1 : 175 ≤ p) (h2 : p < 178) : plC w b n p := (Nat.lt_or_ge p 176).elim (fun h => ptC_175_176 w b n p h1 h) (fun h => ptC_176_178 w b n p h h2)
theorem ptC_178_179 (w : Wp) (b n p : Nat) (h1 : 178 ≤ p) (h2 : p < 179) : plC w b n p := by
  have e : p = 178 := by omega
  subst e
  exact plC_178 w b n
theorem ptC_179_180 (w : Wp) (b n p : Nat) (h1 : 179 ≤ p) (h2 : p < 180) : plC w b n p := by
  have e : p = 179 := by omega
  subst e
  exact plC_179 w b n
theorem ptC_180_181 (w : Wp) (b n p : Nat) (h1 : 180 ≤ p) (h2 : p < 181) : plC w b n p := by
  have e : p = 180 := by omega
  subst e
  exact plC_180 w b n
theorem ptC_179_181 (w : Wp) (b n p : Nat) (h1 : 179 ≤ p) (h2 : p < 181) : plC w b n p := (Nat.lt_or_ge p 180).elim (fun h => ptC_179_180 w b n p h1 h) (fun h => ptC_180_181 w b n p h h2)
theorem ptC_178_181 (w : Wp) (b n p : Nat) (h1 : 178 ≤ p) (h2 : p < 181) : plC w b n p := (Nat.lt_or_ge p 179).elim (fun h => ptC_178_179 w b n p h1 h) (fun h => ptC_179_181 w b n p h h2)
theorem ptC_175_181 (w : Wp) (b n p : Nat) (h1 : 175 ≤ p) (h2 : p < 181) : plC w b n p := (Nat.lt_or_ge p 178).elim (fun h => ptC_175_178 w b n p h1 h) (fun h => ptC_178_181 w b n p h h2)
theorem ptC_169_181 (w : Wp) (b n p : Nat) (h1 : 169 ≤ p) (h2 : p < 181) : plC w b n p := (Nat.lt_or_ge p 175).elim (fun h => ptC_169_175 w b n p h1 h) (fun h => ptC_175_181 w b n p h h2)
theorem ptC_181_182 (w : Wp) (b n p : Nat) (h1 : 181 ≤ p) (h2 : p < 182) : plC w b n p := by
  have e : p = 181 := by omega
  subst e
  exact plC_181 w b n
theorem ptC_182_183 (w : Wp) (b n p : Nat) (h1 : 182 ≤ p) (h2 : p < 183) : plC w b n p := by
  have e : p = 182 := by omega
  subst e
  exact plC_182 w b n
theorem ptC_183_184 (w : Wp) (b n p : Nat) (h1 : 183 ≤ p) (h2 : p < 184) : plC w b n p := by
  have e : p = 183 := by omega
  subst e
  exact plC_183 w b n
theorem ptC_182_184 (w : Wp) (b n p : Nat) (h1 : 182 ≤ p) (h2 : p < 184) : plC w b n p := (Nat.lt_or_ge p 183).elim (fun h => ptC_182_183 w b n p h1 h) (fun h => ptC_183_184 w b n p h h2)
theorem ptC_181_184 (w : Wp) (b n p : Nat) (h1 : 181 ≤ p) (h2 : p < 184) : plC w b n p := (Nat.lt_or_ge p 182).elim (fun h => ptC_181_182 w b n p h1 h) (fun h => ptC_182_184 w b n p h h2)
theorem ptC_184_185 (w : Wp) (b n p : Nat) (h1 : 184 ≤ p) (h2 : p < 185) : plC w b n p := by
  have e : p = 184 := by omega
  subst e
  exact plC_184 w b n
theorem ptC_185_186 (w : Wp) (b n p : Nat) (h1 : 185 ≤ p) (h2 : p < 186) : plC w b n p := by
  have e : p = 185 := by omega
  subst e
  exact plC_185 w b n
theorem ptC_186_187 (w : Wp) (b n p : Nat) (h1 : 186 ≤ p) (h2 : p < 187) : plC w b n p := by
  have e : p = 186 := by omega
  subst e
  exact plC_186 w b n
theorem ptC_185_187 (w : Wp) (b n p : Nat) (h1 : 185 ≤ p) (h2 : p < 187) : plC w b n p := (Nat.lt_or_ge p 186).elim (fun h => ptC_185_186 w b n p h1 h) (fun h => ptC_186_187 w b n p h h2)
theorem ptC_184_187 (w : Wp) (b n p : Nat) (h1 : 184 ≤ p) (h2 : p < 187) : plC w b n p := (Nat.lt_or_ge p 185).elim (fun h => ptC_184_185 w b n p h1 h) (fun h => ptC_185_187 w b n p h h2)
theorem ptC_181_187 (w : Wp) (b n p : Nat) (h1 : 181 ≤ p) (h2 : p < 187) : plC w b n p := (Nat.lt_or_ge p 184).elim (fun h => ptC_181_184 w b n p h1 h) (fun h => ptC_184_187 w b n p h h2)
theorem ptC_187_188 (w : Wp) (b n p : Nat) (h1 : 187 ≤ p) (h2 : p < 188) : plC w b n p := by
  have e : p = 187 := by omega
  subst e
  exact plC_187 w b n
theorem ptC_188_189 (w : Wp) (b n p : Nat) (h1 : 188 ≤ p) (h2 : p < 189) : plC w b n p := by
  have e : p = 188 := by omega
  subst e
  exact plC_188 w b n
theorem ptC_189_190 (w : Wp) (b n p : Nat) (h1 : 189 ≤ p) (h2 : p < 190) : plC w b n p := by
  have e : p = 189 := by omega
  subst e
  exact plC_189 w b n
theorem ptC_188_190 (w : Wp) (b n p : Nat) (h1 : 188 ≤ p) (h2 : p < 190) : plC w b n p := (Nat.lt_or_ge p 189).elim (fun h => ptC_188_189 w b n p h1 h) (fun h => ptC_189_190 w b n p h h2)
theorem ptC_187_190 (w : Wp) (b n p : Nat) (h1 : 187 ≤ p) (h2 : p < 190) : plC w b n p := (Nat.lt_or_ge p 188).elim (fun h => ptC_187_188 w b n p h1 h) (fun h => ptC_188_190 w b n p h h2)
theorem ptC_190_191 (w : Wp) (b n p : Nat) (h1 : 190 ≤ p) (h2 : p < 191) : plC w b n p := by
  have e : p = 190 := by omega
  subst e
  exact plC_190 w b n
theorem ptC_191_192 (w : Wp) (b n p : Nat) (h1 : 191 ≤ p) (h2 : p < 192) : plC w b n p := by
  have e : p = 191 := by omega
  subst e
  exact plC_191 w b n
theorem ptC_190_192 (w : Wp) (b n p : Nat) (h1 : 190 ≤ p) (h2 : p < 192) : plC w b n p := (Nat.lt_or_ge p 191).elim (fun h => ptC_190_191 w b n p h1 h) (fun h => ptC_191_192 w b n p h h2)
theorem ptC_192_193 (w : Wp) (b n p : Nat) (h1 : 192 ≤ p) (h2 : p < 193) : plC w b n p := by
  have e : p = 192 := by omega
  subst e
  exact plC_192 w b n
theorem ptC_193_194 (w : Wp) (b n p : Nat) (h1 : 193 ≤ p) (h2 : p < 194) : plC w b n p := by
  have e : p = 193 := by omega
  subst e
  exact plC_193 w b n
theorem ptC_192_194 (w : Wp) (b n p : Nat) (h1 : 192 ≤ p) (h2 : p < 194) : plC w b n p := (Nat.lt_or_ge p 193).elim (fun h => ptC_192_193 w b n p h1 h) (fun h => ptC_193_194 w b n p h h2)
theorem ptC_190_194 (w : Wp) (b n p : Nat) (h1 : 190 ≤ p) (h2 : p < 194) : plC w b n p := (Nat.lt_or_ge p 192).elim (fun h => ptC_190_192 w b n p h1 h) (fun h => ptC_192_194 w b n p h h2)
theorem ptC_187_194 (w : Wp) (b n p : Nat) (h1 : 187 ≤ p) (h2 : p < 194) : plC w b n p := (Nat.lt_or_ge p 190).elim (fun h => ptC_187_190 w b n p h1 h) (fun h => ptC_190_194 w b n p h h2)
theorem ptC_181_194 (w : Wp) (b n p : Nat) (h1 : 181 ≤ p) (h2 : p < 194) : plC w b n p := (Nat.lt_or_ge p 187).elim (fun h => ptC_181_187 w b n p h1 h) (fun h => ptC_187_194 w b n p h h2)
theorem ptC_169_194 (w : Wp) (b n p : Nat) (h1 : 169 ≤ p) (h2 : p < 194) : plC w b n p := (Nat.lt_or_ge p 181).elim (fun h => ptC_169_181 w b n p h1 h) (fun h => ptC_181_194 w b n p h h2)
theorem ptC_145_194 (w : Wp) (b n p : Nat) (h1 : 145 ≤ p) (h2 : p < 194) : plC w b n p := (Nat.lt_or_ge p 169).elim (fun h => ptC_145_169 w b n p h1 h) (fun h => ptC_169_194 w b n p h h2)
theorem ptC_97_194 (w : Wp) (b n p : Nat) (h1 : 97 ≤ p) (h2 : p < 194) : plC w b n p := (Nat.lt_or_ge p 145).elim (fun h => ptC_97_145 w b n p h1 h) (fun h => ptC_145_194 w b n p h h2)
theorem ptC_0_194 (w : Wp) (b n p : Nat) (h1 : 0 ≤ p) (h2 : p < 194) : plC w b n p := (Nat.lt_or_ge p 97).elim (fun h => ptC_0_97 w b n p h1 h) (fun h => ptC_97_194 w b n p h h2)
theorem firstC {w : Wp} {b n : Nat} {Q L : List va_E} {H : Heap} (hQ : Q.length = n) (hw : w.2.2.1 = adC b n) (hH : HB w b (Q ++ (ch11 w b n ++ L)) H) : HW kdC w stC H := by
  intro p k hk
  have hp : p < 194 := (List.getElem?_eq_some_iff.mp hk).1
  have h1 := ptC_0_194 w b n p (Nat.zero_le _) hp k hk
  rw [hw]
  refine hH.2 (n + prmC.getD p 0) _ (cq_get hQ ?_)
  rw [List.getElem?_append_left (List.getElem?_eq_some_iff.mp h1).1]
  exact h1
theorem injC {w : Wp} {b n : Nat} (hw : w.2.2.1 = adC b n) : zI kdC w := by
  intro i j hi hj h
  rw [hw] at h
  have e : prmC.getD i 0 = prmC.getD j 0 := by
    have : b + (n + prmC.getD i 0) = b + (n + prmC.getD j 0) := h
    omega
  exact (by decide +kernel : ∀ i, i < 194 → ∀ j, j < 194 → prmC.getD i 0 = prmC.getD j 0 → i = j) i hi j hj e
def prmM : List Nat := [0, 1, 2, 3, 4, 5, 6, 7, 8, 9, 10, 11, 12, 13, 14, 15, 16, 17]
def adM (b n : Nat) : Nat → Nat := fun p => b + (n + prmM.getD p 0)
def stM : St := fun p => ([fun k => ([0, 0, 0, 0, 0, 0, 0, 0, 0, 0, 0, 0, (-1), 0, 0, 0, 0, 0, 0, 0, 0, 0, 0, 0, 0, 0, 0, 0, 0, 0, 0, 0, 0] : List Int32).getD k 0, (upd (upd (upd (upd (upd (upd (fun _ => 0) 1 (-1)) 9 1) 10 5) 11 5) 12 5) 13 5), (fun _ => 0), (fun _ => 0), (fun _ => 0), (fun _ => 0), (fun _ => 0), (fun _ => 0), (fun _ => 0), (fun _ => 0), (fun _ => 0), (fun _ => 0), (fun _ => 0), (fun _ => 0), (fun _ => 0), (fun _ => 0), (fun _ => 0), (fun _ => 0)] : List (Nat → Int32)).getD p (fun _ => 0)
def plM (w : Wp) (b n p : Nat) : Prop := ∀ k : KD, kdM[p]? = some k → (ch12 w b n)[prmM.getD p 0]? = some (cellOf (adM b n) w.2.1.1 w.2.1.2 (stM p) k)
theorem plM_0 (w : Wp) (b n : Nat) : plM w b n 0 := fun k h => by
  have e : (.inr (.inl (12, [none, some 1, some 2, none, some 3, some 4, none, some 5, none, none, none, none, none, none, some 6, none, none, none, none, some 7, none, none, some 8, some 9, some 10, some 11, some 12, some 13, some 14, some 15, some 16, some 17, none])) : KD) = k := Option.some.inj (show some (.inr (.inl (12, [none, some 1, some 2, none, some 3, some 4, none, some 5, none, none, none, none, none, none, some 6, none, none, none, none, some 7, none, none, some 8, some 9, some 10, some 11, some 12, some 13, some 14, some 15, some 16, some 17, none])) : KD) = some k from h)
  subst e
  rfl
theorem plM_1 (w : Wp) (b n : Nat) : plM w b n 1 := fun k h => by
  have e : (.inl 752 : KD) = k := Option.some.inj (show some (.inl 752 : KD) = some k from h)
  subst e
  rfl
theorem plM_2 (w : Wp) (b n : Nat) : plM w b n 2 := fun k h => by
  have e : (.inl 752 : KD) = k := Option.some.inj (show some (.inl 752 : KD) = some k from h)
  subst e
  rfl
theorem plM_3 (w : Wp) (b n : Nat) : plM w b n 3 := fun k h => by
  have e : (.inl 352 : KD) = k := Option.some.inj (show some (.inl 352 : KD) = some k from h)
  subst e
  rfl
theorem plM_4 (w : Wp) (b n : Nat) : plM w b n 4 := fun k h => by
  have e : (.inl 4224 : KD) = k := Option.some.inj (show some (.inl 4224 : KD) = some k from h)
  subst e
  rfl
theorem plM_5 (w : Wp) (b n : Nat) : plM w b n 5 := fun k h => by
  have e : (.inl 400 : KD) = k := Option.some.inj (show some (.inl 400 : KD) = some k from h)
  subst e
  rfl
theorem plM_6 (w : Wp) (b n : Nat) : plM w b n 6 := fun k h => by
  have e : (.inl 7 : KD) = k := Option.some.inj (show some (.inl 7 : KD) = some k from h)
  subst e
  rfl
theorem plM_7 (w : Wp) (b n : Nat) : plM w b n 7 := fun k h => by
  have e : (.inl 49 : KD) = k := Option.some.inj (show some (.inl 49 : KD) = some k from h)
  subst e
  rfl
theorem plM_8 (w : Wp) (b n : Nat) : plM w b n 8 := fun k h => by
  have e : (.inl 7 : KD) = k := Option.some.inj (show some (.inl 7 : KD) = some k from h)
  subst e
  rfl
theorem plM_9 (w : Wp) (b n : Nat) : plM w b n 9 := fun k h => by
  have e : (.inl 7 : KD) = k := Option.some.inj (show some (.inl 7 : KD) = some k from h)
  subst e
  rfl
theorem plM_10 (w : Wp) (b n : Nat) : plM w b n 10 := fun k h => by
  have e : (.inl 56 : KD) = k := Option.some.inj (show some (.inl 56 : KD) = some k from h)
  subst e
  rfl
theorem plM_11 (w : Wp) (b n : Nat) : plM w b n 11 := fun k h => by
  have e : (.inl 8 : KD) = k := Option.some.inj (show some (.inl 8 : KD) = some k from h)
  subst e
  rfl
theorem plM_12 (w : Wp) (b n : Nat) : plM w b n 12 := fun k h => by
  have e : (.inl 8 : KD) = k := Option.some.inj (show some (.inl 8 : KD) = some k from h)
  subst e
  rfl
theorem plM_13 (w : Wp) (b n : Nat) : plM w b n 13 := fun k h => by
  have e : (.inl 8 : KD) = k := Option.some.inj (show some (.inl 8 : KD) = some k from h)
  subst e
  rfl
theorem plM_14 (w : Wp) (b n : Nat) : plM w b n 14 := fun k h => by
  have e : (.inl 49 : KD) = k := Option.some.inj (show some (.inl 49 : KD) = some k from h)
  subst e
  rfl
theorem plM_15 (w : Wp) (b n : Nat) : plM w b n 15 := fun k h => by
  have e : (.inl 7 : KD) = k := Option.some.inj (show some (.inl 7 : KD) = some k from h)
  subst e
  rfl
theorem plM_16 (w : Wp) (b n : Nat) : plM w b n 16 := fun k h => by
  have e : (.inl 128 : KD) = k := Option.some.inj (show some (.inl 128 : KD) = some k from h)
  subst e
  rfl
theorem plM_17 (w : Wp) (b n : Nat) : plM w b n 17 := fun k h => by
  have e : (.inl 1024 : KD) = k := Option.some.inj (show some (.inl 1024 : KD) = some k from h)
  subst e
  rfl
theorem plM_n (w : Wp) (b n p : Nat) (h : 18 ≤ p) : plM w b n p := fun k hk => absurd (List.getElem?_eq_some_iff.mp hk).1 (Nat.not_lt.mpr h)
theorem ptM_0_1 (w : Wp) (b n p : Nat) (h1 : 0 ≤ p) (h2 : p < 1) : plM w b n p := by
  have e : p = 0 := by omega
  subst e
  exact plM_0 w b n
theorem ptM_1_2 (w : Wp) (b n p : Nat) (h1 : 1 ≤ p) (h2 : p < 2) : plM w b n p := by
  have e : p = 1 := by omega
  subst e
  exact plM_1 w b n
theorem ptM_0_2 (w : Wp) (b n p : Nat) (h1 : 0 ≤ p) (h2 : p < 2) : plM w b n p := (Nat.lt_or_ge p 1).elim (fun h => ptM_0_1 w b n p h1 h) (fun h => ptM_1_2 w b n p h h2)
theorem ptM_2_3 (w : Wp) (b n p : Nat) (h1 : 2 ≤ p) (h2 : p < 3) : plM w b n p := by
  have e : p = 2 := by omega
  subst e
  exact plM_2 w b n
theorem ptM_3_4 (w : Wp) (b n p : Nat) (h1 : 3 ≤ p) (h2 : p < 4) : plM w b n p := by
  have e : p = 3 := by omega
  subst e
  exact plM_3 w b n
theorem ptM_2_4 (w : Wp) (b n p : Nat) (h1 : 2 ≤ p) (h2 : p < 4) : plM w b n p := (Nat.lt_or_ge p 3).elim (fun h => ptM_2_3 w b n p h1 h) (fun h => ptM_3_4 w b n p h h2)
theorem ptM_0_4 (w : Wp) (b n p : Nat) (h1 : 0 ≤ p) (h2 : p < 4) : plM w b n p := (Nat.lt_or_ge p 2).elim (fun h => ptM_0_2 w b n p h1 h) (fun h => ptM_2_4 w b n p h h2)
theorem ptM_4_5 (w : Wp) (b n p : Nat) (h1 : 4 ≤ p) (h2 : p < 5) : plM w b n p := by
  have e : p = 4 := by omega
  subst e
  exact plM_4 w b n
theorem ptM_5_6 (w : Wp) (b n p : Nat) (h1 : 5 ≤ p) (h2 : p < 6) : plM w b n p := by
  have e : p = 5 := by omega
  subst e
  exact plM_5 w b n
theorem ptM_4_6 (w : Wp) (b n p : Nat) (h1 : 4 ≤ p) (h2 : p < 6) : plM w b n p := (Nat.lt_or_ge p 5).elim (fun h => ptM_4_5 w b n p h1 h) (fun h => ptM_5_6 w b n p h h2)
theorem ptM_6_7 (w : Wp) (b n p : Nat) (h1 : 6 ≤ p) (h2 : p < 7) : plM w b n p := by
  have e : p = 6 := by omega
  subst e
  exact plM_6 w b n
theorem ptM_7_8 (w : Wp) (b n p : Nat) (h1 : 7 ≤ p) (h2 : p < 8) : plM w b n p := by
  have e : p = 7 := by omega
  subst e
  exact plM_7 w b n
theorem ptM_8_9 (w : Wp) (b n p : Nat) (h1 : 8 ≤ p) (h2 : p < 9) : plM w b n p := by
  have e : p = 8 := by omega
  subst e
  exact plM_8 w b n
theorem ptM_7_9 (w : Wp) (b n p : Nat) (h1 : 7 ≤ p) (h2 : p < 9) : plM w b n p := (Nat.lt_or_ge p 8).elim (fun h => ptM_7_8 w b n p h1 h) (fun h => ptM_8_9 w b n p h h2)
theorem ptM_6_9 (w : Wp) (b n p : Nat) (h1 : 6 ≤ p) (h2 : p < 9) : plM w b n p := (Nat.lt_or_ge p 7).elim (fun h => ptM_6_7 w b n p h1 h) (fun h => ptM_7_9 w b n p h h2)
theorem ptM_4_9 (w : Wp) (b n p : Nat) (h1 : 4 ≤ p) (h2 : p < 9) : plM w b n p := (Nat.lt_or_ge p 6).elim (fun h => ptM_4_6 w b n p h1 h) (fun h => ptM_6_9 w b n p h h2)
theorem ptM_0_9 (w : Wp) (b n p : Nat) (h1 : 0 ≤ p) (h2 : p < 9) : plM w b n p := (Nat.lt_or_ge p 4).elim (fun h => ptM_0_4 w b n p h1 h) (fun h => ptM_4_9 w b n p h h2)
theorem ptM_9_10 (w : Wp) (b n p : Nat) (h1 : 9 ≤ p) (h2 : p < 10) : plM w b n p := by
  have e : p = 9 := by omega
  subst e
  exact plM_9 w b n
theorem ptM_10_11 (w : Wp) (b n p : Nat) (h1 : 10 ≤ p) (h2 : p < 11) : plM w b n p := by
  have e : p = 10 := by omega
  subst e
  exact plM_10 w b n
theorem ptM_9_11 (w : Wp) (b n p : Nat) (h1 : 9 ≤ p) (h2 : p < 11) : plM w b n p := (Nat.lt_or_ge p 10).elim (fun h => ptM_9_10 w b n p h1 h) (fun h => ptM_10_11 w b n p h h2)
theorem ptM_11_12 (w : Wp) (b n p : Nat) (h1 : 11 ≤ p) (h2 : p < 12) : plM w b n p := by
  have e : p = 11 := by omega
  subst e
  exact plM_11 w b n
theorem ptM_12_13 (w : Wp) (b n p : Nat) (h1 : 12 ≤ p) (h2 : p < 13) : plM w b n p := by
  have e : p = 12 := by omega
  subst e
  exact plM_12 w b n
theorem ptM_11_13 (w : Wp) (b n p : Nat) (h1 : 11 ≤ p) (h2 : p < 13) : plM w b n p := (Nat.lt_or_ge p 12).elim (fun h => ptM_11_12 w b n p h1 h) (fun h => ptM_12_13 w b n p h h2)
theorem ptM_9_13 (w : Wp) (b n p : Nat) (h1 : 9 ≤ p) (h2 : p < 13) : plM w b n p := (Nat.lt_or_ge p 11).elim (fun h => ptM_9_11 w b n p h1 h) (fun h => ptM_11_13 w b n p h h2)
theorem ptM_13_14 (w : Wp) (b n p : Nat) (h1 : 13 ≤ p) (h2 : p < 14) : plM w b n p := by
  have e : p = 13 := by omega
  subst e
  exact plM_13 w b n
theorem ptM_14_15 (w : Wp) (b n p : Nat) (h1 : 14 ≤ p) (h2 : p < 15) : plM w b n p := by
  have e : p = 14 := by omega
  subst e
  exact plM_14 w b n
theorem ptM_13_15 (w : Wp) (b n p : Nat) (h1 : 13 ≤ p) (h2 : p < 15) : plM w b n p := (Nat.lt_or_ge p 14).elim (fun h => ptM_13_14 w b n p h1 h) (fun h => ptM_14_15 w b n p h h2)
theorem ptM_15_16 (w : Wp) (b n p : Nat) (h1 : 15 ≤ p) (h2 : p < 16) : plM w b n p := by
  have e : p = 15 := by omega
  subst e
  exact plM_15 w b n
theorem ptM_16_17 (w : Wp) (b n p : Nat) (h1 : 16 ≤ p) (h2 : p < 17) : plM w b n p := by
  have e : p = 16 := by omega
  subst e
  exact plM_16 w b n
theorem ptM_17_18 (w : Wp) (b n p : Nat) (h1 : 17 ≤ p) (h2 : p < 18) : plM w b n p := by
  have e : p = 17 := by omega
  subst e
  exact plM_17 w b n
theorem ptM_16_18 (w : Wp) (b n p : Nat) (h1 : 16 ≤ p) (h2 : p < 18) : plM w b n p := (Nat.lt_or_ge p 17).elim (fun h => ptM_16_17 w b n p h1 h) (fun h => ptM_17_18 w b n p h h2)
theorem ptM_15_18 (w : Wp) (b n p : Nat) (h1 : 15 ≤ p) (h2 : p < 18) : plM w b n p := (Nat.lt_or_ge p 16).elim (fun h => ptM_15_16 w b n p h1 h) (fun h => ptM_16_18 w b n p h h2)
theorem ptM_13_18 (w : Wp) (b n p : Nat) (h1 : 13 ≤ p) (h2 : p < 18) : plM w b n p := (Nat.lt_or_ge p 15).elim (fun h => ptM_13_15 w b n p h1 h) (fun h => ptM_15_18 w b n p h h2)
theorem ptM_9_18 (w : Wp) (b n p : Nat) (h1 : 9 ≤ p) (h2 : p < 18) : plM w b n p := (Nat.lt_or_ge p 13).elim (fun h => ptM_9_13 w b n p h1 h) (fun h => ptM_13_18 w b n p h h2)
theorem ptM_0_18 (w : Wp) (b n p : Nat) (h1 : 0 ≤ p) (h2 : p < 18) : plM w b n p := (Nat.lt_or_ge p 9).elim (fun h => ptM_0_9 w b n p h1 h) (fun h => ptM_9_18 w b n p h h2)
theorem firstM {w : Wp} {b n : Nat} {Q L : List va_E} {H : Heap} (hQ : Q.length = n) (hw : w.2.2.1 = adM b n) (hH : HB w b (Q ++ (ch12 w b n ++ L)) H) : HW kdM w stM H := by
  intro p k hk
  have hp : p < 18 := (List.getElem?_eq_some_iff.mp hk).1
  have h1 := ptM_0_18 w b n p (Nat.zero_le _) hp k hk
  rw [hw]
  refine hH.2 (n + prmM.getD p 0) _ (cq_get hQ ?_)
  rw [List.getElem?_append_left (List.getElem?_eq_some_iff.mp h1).1]
  exact h1
theorem injM {w : Wp} {b n : Nat} (hw : w.2.2.1 = adM b n) : zI kdM w := by
  intro i j hi hj h
  rw [hw] at h
  have e : prmM.getD i 0 = prmM.getD j 0 := by
    have : b + (n + prmM.getD i 0) = b + (n + prmM.getD j 0) := h
    omega
  exact (by decide +kernel : ∀ i, i < 18 → ∀ j, j < 18 → prmM.getD i 0 = prmM.getD j 0 → i = j) i hi j hj e

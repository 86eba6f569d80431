/-! PLACES -/
def kdC : List KD := [
  .inr (.inl (11, [some 1, some 44, some 54, some 32, some 36, some 3, some 64, some 40, some 5, some 6, some 13, some 14, some 21, some 27, none, none])),
  .inr (.inl (8, [some 2, none, none, none, none])),
  .inl 400,
  .inr (.inl (6, [some 1, some 54, some 36, some 4, none, none])),
  .inl 32,
  .inr (.inl (4, [some 31, none, none])),
  .inr (.inl (5, [some 7, some 8, some 9, some 10, some 11, some 12, none, none, none, none])),
  .inl 36,
  .inl 36,
  .inl 6,
  .inl 6,
  .inl 6,
  .inl 384,
  .inr (.inl (0, [some 6, some 32])),
  .inr (.inl (9, [some 15, some 16, some 17, some 18, some 19, some 20, none, none, none, none, none])),
  .inl 36,
  .inl 6,
  .inl 6,
  .inl 5,
  .inl 5,
  .inl 5,
  .inr (.inl (7, [some 22, some 23, some 24, some 25, some 26, none, none, none, none])),
  .inl 6,
  .inl 6,
  .inl 6,
  .inl 448,
  .inl 448,
  .inr (.inl (1, [some 28, some 29, some 30, none, none])),
  .inl 36,
  .inl 64,
  .inl 384,
  .inr (.inr [74, 84, 94, 104, 114, 124, 134, 144, 154, 164, 174, 184]),
  .inr (.inl (2, [some 33, some 34, some 35, none, none, none, none])),
  .inl 412,
  .inl 32,
  .inl 9,
  .inr (.inl (2, [some 37, some 38, some 39, none, none, none, none])),
  .inl 412,
  .inl 32,
  .inl 9,
  .inr (.inl (2, [some 41, some 42, some 43, none, none, none, none])),
  .inl 412,
  .inl 32,
  .inl 9,
  .inr (.inl (10, [some 45, some 46, some 47, some 48, some 49, some 50, some 51, some 52, none, none, none, none, none, none, none, none, none])),
  .inl 6,
  .inl 6,
  .inl 6,
  .inl 6,
  .inl 6,
  .inl 36,
  .inl 4,
  .inr (.inl (3, [some 53, none, none])),
  .inl 240,
  .inr (.inl (10, [some 55, some 56, some 57, some 58, some 59, some 60, some 61, some 62, none, none, none, none, none, none, none, none, none])),
  .inl 6,
  .inl 6,
  .inl 6,
  .inl 6,
  .inl 6,
  .inl 36,
  .inl 4,
  .inr (.inl (3, [some 63, none, none])),
  .inl 240,
  .inr (.inl (10, [some 65, some 66, some 67, some 68, some 69, some 70, some 71, some 72, none, none, none, none, none, none, none, none, none])),
  .inl 6,
  .inl 6,
  .inl 6,
  .inl 6,
  .inl 6,
  .inl 36,
  .inl 4,
  .inr (.inl (3, [some 73, none, none])),
  .inl 240,
  .inr (.inl (10, [some 75, some 76, some 77, some 78, some 79, some 80, some 81, some 82, none, none, none, none, none, none, none, none, none])),
  .inl 6,
  .inl 6,
  .inl 6,
  .inl 6,
  .inl 6,
  .inl 36,
  .inl 4,
  .inr (.inl (3, [some 83, none, none])),
  .inl 240,
  .inr (.inl (10, [some 85, some 86, some 87, some 88, some 89, some 90, some 91, some 92, none, none, none, none, none, none, none, none, none])),
  .inl 6,
  .inl 6,
  .inl 6,
  .inl 6,
  .inl 6,
  .inl 36,
  .inl 4,
  .inr (.inl (3, [some 93, none, none])),
  .inl 240,
  .inr (.inl (10, [some 95, some 96, some 97, some 98, some 99, some 100, some 101, some 102, none, none, none, none, none, none, none, none, none])),
  .inl 6,
  .inl 6,
  .inl 6,
  .inl 6,
  .inl 6,
  .inl 36,
  .inl 4,
  .inr (.inl (3, [some 103, none, none])),
  .inl 240,
  .inr (.inl (10, [some 105, some 106, some 107, some 108, some 109, some 110, some 111, some 112, none, none, none, none, none, none, none, none, none])),
  .inl 6,
  .inl 6,
  .inl 6,
  .inl 6,
  .inl 6,
  .inl 36,
  .inl 4,
  .inr (.inl (3, [some 113, none, none])),
  .inl 240,
  .inr (.inl (10, [some 115, some 116, some 117, some 118, some 119, some 120, some 121, some 122, none, none, none, none, none, none, none, none, none])),
  .inl 6,
  .inl 6,
  .inl 6,
  .inl 6,
  .inl 6,
  .inl 36,
  .inl 4,
  .inr (.inl (3, [some 123, none, none])),
  .inl 240,
  .inr (.inl (10, [some 125, some 126, some 127, some 128, some 129, some 130, some 131, some 132, none, none, none, none, none, none, none, none, none])),
  .inl 6,
  .inl 6,
  .inl 6,
  .inl 6,
  .inl 6,
  .inl 36,
  .inl 4,
  .inr (.inl (3, [some 133, none, none])),
  .inl 240,
  .inr (.inl (10, [some 135, some 136, some 137, some 138, some 139, some 140, some 141, some 142, none, none, none, none, none, none, none, none, none])),
  .inl 6,
  .inl 6,
  .inl 6,
  .inl 6,
  .inl 6,
  .inl 36,
  .inl 4,
  .inr (.inl (3, [some 143, none, none])),
  .inl 240,
  .inr (.inl (10, [some 145, some 146, some 147, some 148, some 149, some 150, some 151, some 152, none, none, none, none, none, none, none, none, none])),
  .inl 6,
  .inl 6,
  .inl 6,
  .inl 6,
  .inl 6,
  .inl 36,
  .inl 4,
  .inr (.inl (3, [some 153, none, none])),
  .inl 240,
  .inr (.inl (10, [some 155, some 156, some 157, some 158, some 159, some 160, some 161, some 162, none, none, none, none, none, none, none, none, none])),
  .inl 6,
  .inl 6,
  .inl 6,
  .inl 6,
  .inl 6,
  .inl 36,
  .inl 4,
  .inr (.inl (3, [some 163, none, none])),
  .inl 240,
  .inr (.inl (10, [some 165, some 166, some 167, some 168, some 169, some 170, some 171, some 172, none, none, none, none, none, none, none, none, none])),
  .inl 6,
  .inl 6,
  .inl 6,
  .inl 6,
  .inl 6,
  .inl 36,
  .inl 4,
  .inr (.inl (3, [some 173, none, none])),
  .inl 240,
  .inr (.inl (10, [some 175, some 176, some 177, some 178, some 179, some 180, some 181, some 182, none, none, none, none, none, none, none, none, none])),
  .inl 6,
  .inl 6,
  .inl 6,
  .inl 6,
  .inl 6,
  .inl 36,
  .inl 4,
  .inr (.inl (3, [some 183, none, none])),
  .inl 240,
  .inr (.inl (10, [some 185, some 186, some 187, some 188, some 189, some 190, some 191, some 192, none, none, none, none, none, none, none, none, none])),
  .inl 6,
  .inl 6,
  .inl 6,
  .inl 6,
  .inl 6,
  .inl 36,
  .inl 4,
  .inr (.inl (3, [some 193, none, none])),
  .inl 240]
theorem kC_0 {Θ : Tz} (h : Θ.2.2.2.2.1 = kdC) : Θ.2.2.2.2.1[0]? = some (.inr (.inl (11, [some 1, some 44, some 54, some 32, some 36, some 3, some 64, some 40, some 5, some 6, some 13, some 14, some 21, some 27, none, none]))) := by rw [h]; rfl
theorem kC_1 {Θ : Tz} (h : Θ.2.2.2.2.1 = kdC) : Θ.2.2.2.2.1[1]? = some (.inr (.inl (8, [some 2, none, none, none, none]))) := by rw [h]; rfl
theorem kC_2 {Θ : Tz} (h : Θ.2.2.2.2.1 = kdC) : Θ.2.2.2.2.1[2]? = some (.inl 400) := by rw [h]; rfl
theorem kC_3 {Θ : Tz} (h : Θ.2.2.2.2.1 = kdC) : Θ.2.2.2.2.1[3]? = some (.inr (.inl (6, [some 1, some 54, some 36, some 4, none, none]))) := by rw [h]; rfl
theorem kC_4 {Θ : Tz} (h : Θ.2.2.2.2.1 = kdC) : Θ.2.2.2.2.1[4]? = some (.inl 32) := by rw [h]; rfl
theorem kC_5 {Θ : Tz} (h : Θ.2.2.2.2.1 = kdC) : Θ.2.2.2.2.1[5]? = some (.inr (.inl (4, [some 31, none, none]))) := by rw [h]; rfl
theorem kC_6 {Θ : Tz} (h : Θ.2.2.2.2.1 = kdC) : Θ.2.2.2.2.1[6]? = some (.inr (.inl (5, [some 7, some 8, some 9, some 10, some 11, some 12, none, none, none, none]))) := by rw [h]; rfl
theorem kC_7 {Θ : Tz} (h : Θ.2.2.2.2.1 = kdC) : Θ.2.2.2.2.1[7]? = some (.inl 36) := by rw [h]; rfl
theorem kC_8 {Θ : Tz} (h : Θ.2.2.2.2.1 = kdC) : Θ.2.2.2.2.1[8]? = some (.inl 36) := by rw [h]; rfl
theorem kC_9 {Θ : Tz} (h : Θ.2.2.2.2.1 = kdC) : Θ.2.2.2.2.1[9]? = some (.inl 6) := by rw [h]; rfl
theorem kC_10 {Θ : Tz} (h : Θ.2.2.2.2.1 = kdC) : Θ.2.2.2.2.1[10]? = some (.inl 6) := by rw [h]; rfl
theorem kC_11 {Θ : Tz} (h : Θ.2.2.2.2.1 = kdC) : Θ.2.2.2.2.1[11]? = some (.inl 6) := by rw [h]; rfl
theorem kC_12 {Θ : Tz} (h : Θ.2.2.2.2.1 = kdC) : Θ.2.2.2.2.1[12]? = some (.inl 384) := by rw [h]; rfl
theorem kC_13 {Θ : Tz} (h : Θ.2.2.2.2.1 = kdC) : Θ.2.2.2.2.1[13]? = some (.inr (.inl (0, [some 6, some 32]))) := by rw [h]; rfl
theorem kC_14 {Θ : Tz} (h : Θ.2.2.2.2.1 = kdC) : Θ.2.2.2.2.1[14]? = some (.inr (.inl (9, [some 15, some 16, some 17, some 18, some 19, some 20, none, none, none, none, none]))) := by rw [h]; rfl
theorem kC_15 {Θ : Tz} (h : Θ.2.2.2.2.1 = kdC) : Θ.2.2.2.2.1[15]? = some (.inl 36) := by rw [h]; rfl
theorem kC_16 {Θ : Tz} (h : Θ.2.2.2.2.1 = kdC) : Θ.2.2.2.2.1[16]? = some (.inl 6) := by rw [h]; rfl
theorem kC_17 {Θ : Tz} (h : Θ.2.2.2.2.1 = kdC) : Θ.2.2.2.2.1[17]? = some (.inl 6) := by rw [h]; rfl
theorem kC_18 {Θ : Tz} (h : Θ.2.2.2.2.1 = kdC) : Θ.2.2.2.2.1[18]? = some (.inl 5) := by rw [h]; rfl
theorem kC_19 {Θ : Tz} (h : Θ.2.2.2.2.1 = kdC) : Θ.2.2.2.2.1[19]? = some (.inl 5) := by rw [h]; rfl
theorem kC_20 {Θ : Tz} (h : Θ.2.2.2.2.1 = kdC) : Θ.2.2.2.2.1[20]? = some (.inl 5) := by rw [h]; rfl
theorem kC_21 {Θ : Tz} (h : Θ.2.2.2.2.1 = kdC) : Θ.2.2.2.2.1[21]? = some (.inr (.inl (7, [some 22, some 23, some 24, some 25, some 26, none, none, none, none]))) := by rw [h]; rfl
theorem kC_22 {Θ : Tz} (h : Θ.2.2.2.2.1 = kdC) : Θ.2.2.2.2.1[22]? = some (.inl 6) := by rw [h]; rfl
theorem kC_23 {Θ : Tz} (h : Θ.2.2.2.2.1 = kdC) : Θ.2.2.2.2.1[23]? = some (.inl 6) := by rw [h]; rfl
theorem kC_24 {Θ : Tz} (h : Θ.2.2.2.2.1 = kdC) : Θ.2.2.2.2.1[24]? = some (.inl 6) := by rw [h]; rfl
theorem kC_25 {Θ : Tz} (h : Θ.2.2.2.2.1 = kdC) : Θ.2.2.2.2.1[25]? = some (.inl 448) := by rw [h]; rfl
theorem kC_26 {Θ : Tz} (h : Θ.2.2.2.2.1 = kdC) : Θ.2.2.2.2.1[26]? = some (.inl 448) := by rw [h]; rfl
theorem kC_27 {Θ : Tz} (h : Θ.2.2.2.2.1 = kdC) : Θ.2.2.2.2.1[27]? = some (.inr (.inl (1, [some 28, some 29, some 30, none, none]))) := by rw [h]; rfl
theorem kC_28 {Θ : Tz} (h : Θ.2.2.2.2.1 = kdC) : Θ.2.2.2.2.1[28]? = some (.inl 36) := by rw [h]; rfl
theorem kC_29 {Θ : Tz} (h : Θ.2.2.2.2.1 = kdC) : Θ.2.2.2.2.1[29]? = some (.inl 64) := by rw [h]; rfl
theorem kC_30 {Θ : Tz} (h : Θ.2.2.2.2.1 = kdC) : Θ.2.2.2.2.1[30]? = some (.inl 384) := by rw [h]; rfl
theorem kC_31 {Θ : Tz} (h : Θ.2.2.2.2.1 = kdC) : Θ.2.2.2.2.1[31]? = some (.inr (.inr [74, 84, 94, 104, 114, 124, 134, 144, 154, 164, 174, 184])) := by rw [h]; rfl
theorem kC_32 {Θ : Tz} (h : Θ.2.2.2.2.1 = kdC) : Θ.2.2.2.2.1[32]? = some (.inr (.inl (2, [some 33, some 34, some 35, none, none, none, none]))) := by rw [h]; rfl
theorem kC_33 {Θ : Tz} (h : Θ.2.2.2.2.1 = kdC) : Θ.2.2.2.2.1[33]? = some (.inl 412) := by rw [h]; rfl
theorem kC_34 {Θ : Tz} (h : Θ.2.2.2.2.1 = kdC) : Θ.2.2.2.2.1[34]? = some (.inl 32) := by rw [h]; rfl
theorem kC_35 {Θ : Tz} (h : Θ.2.2.2.2.1 = kdC) : Θ.2.2.2.2.1[35]? = some (.inl 9) := by rw [h]; rfl
theorem kC_36 {Θ : Tz} (h : Θ.2.2.2.2.1 = kdC) : Θ.2.2.2.2.1[36]? = some (.inr (.inl (2, [some 37, some 38, some 39, none, none, none, none]))) := by rw [h]; rfl
theorem kC_37 {Θ : Tz} (h : Θ.2.2.2.2.1 = kdC) : Θ.2.2.2.2.1[37]? = some (.inl 412) := by rw [h]; rfl
theorem kC_38 {Θ : Tz} (h : Θ.2.2.2.2.1 = kdC) : Θ.2.2.2.2.1[38]? = some (.inl 32) := by rw [h]; rfl
theorem kC_39 {Θ : Tz} (h : Θ.2.2.2.2.1 = kdC) : Θ.2.2.2.2.1[39]? = some (.inl 9) := by rw [h]; rfl
theorem kC_40 {Θ : Tz} (h : Θ.2.2.2.2.1 = kdC) : Θ.2.2.2.2.1[40]? = some (.inr (.inl (2, [some 41, some 42, some 43, none, none, none, none]))) := by rw [h]; rfl
theorem kC_41 {Θ : Tz} (h : Θ.2.2.2.2.1 = kdC) : Θ.2.2.2.2.1[41]? = some (.inl 412) := by rw [h]; rfl
theorem kC_42 {Θ : Tz} (h : Θ.2.2.2.2.1 = kdC) : Θ.2.2.2.2.1[42]? = some (.inl 32) := by rw [h]; rfl
theorem kC_43 {Θ : Tz} (h : Θ.2.2.2.2.1 = kdC) : Θ.2.2.2.2.1[43]? = some (.inl 9) := by rw [h]; rfl
def kdM : List KD := [
  .inr (.inl (12, [none, some 1, some 2, none, some 3, some 4, none, some 5, none, none, none, none, none, none, some 6, none, none, none, none, some 7, none, none, some 8, some 9, some 10, some 11, some 12, some 13, some 14, some 15, some 16, some 17, none])),
  .inl 752,
  .inl 752,
  .inl 352,
  .inl 4224,
  .inl 400,
  .inl 7,
  .inl 49,
  .inl 7,
  .inl 7,
  .inl 56,
  .inl 8,
  .inl 8,
  .inl 8,
  .inl 49,
  .inl 7,
  .inl 128,
  .inl 1024]
theorem kM_0 {Θ : Tz} (h : Θ.2.2.2.2.1 = kdM) : Θ.2.2.2.2.1[0]? = some (.inr (.inl (12, [none, some 1, some 2, none, some 3, some 4, none, some 5, none, none, none, none, none, none, some 6, none, none, none, none, some 7, none, none, some 8, some 9, some 10, some 11, some 12, some 13, some 14, some 15, some 16, some 17, none]))) := by rw [h]; rfl
theorem kM_1 {Θ : Tz} (h : Θ.2.2.2.2.1 = kdM) : Θ.2.2.2.2.1[1]? = some (.inl 752) := by rw [h]; rfl
theorem kM_2 {Θ : Tz} (h : Θ.2.2.2.2.1 = kdM) : Θ.2.2.2.2.1[2]? = some (.inl 752) := by rw [h]; rfl
theorem kM_3 {Θ : Tz} (h : Θ.2.2.2.2.1 = kdM) : Θ.2.2.2.2.1[3]? = some (.inl 352) := by rw [h]; rfl
theorem kM_4 {Θ : Tz} (h : Θ.2.2.2.2.1 = kdM) : Θ.2.2.2.2.1[4]? = some (.inl 4224) := by rw [h]; rfl
theorem kM_5 {Θ : Tz} (h : Θ.2.2.2.2.1 = kdM) : Θ.2.2.2.2.1[5]? = some (.inl 400) := by rw [h]; rfl
theorem kM_6 {Θ : Tz} (h : Θ.2.2.2.2.1 = kdM) : Θ.2.2.2.2.1[6]? = some (.inl 7) := by rw [h]; rfl
theorem kM_7 {Θ : Tz} (h : Θ.2.2.2.2.1 = kdM) : Θ.2.2.2.2.1[7]? = some (.inl 49) := by rw [h]; rfl
theorem kM_8 {Θ : Tz} (h : Θ.2.2.2.2.1 = kdM) : Θ.2.2.2.2.1[8]? = some (.inl 7) := by rw [h]; rfl
theorem kM_9 {Θ : Tz} (h : Θ.2.2.2.2.1 = kdM) : Θ.2.2.2.2.1[9]? = some (.inl 7) := by rw [h]; rfl
theorem kM_10 {Θ : Tz} (h : Θ.2.2.2.2.1 = kdM) : Θ.2.2.2.2.1[10]? = some (.inl 56) := by rw [h]; rfl
theorem kM_11 {Θ : Tz} (h : Θ.2.2.2.2.1 = kdM) : Θ.2.2.2.2.1[11]? = some (.inl 8) := by rw [h]; rfl
theorem kM_12 {Θ : Tz} (h : Θ.2.2.2.2.1 = kdM) : Θ.2.2.2.2.1[12]? = some (.inl 8) := by rw [h]; rfl
theorem kM_13 {Θ : Tz} (h : Θ.2.2.2.2.1 = kdM) : Θ.2.2.2.2.1[13]? = some (.inl 8) := by rw [h]; rfl
theorem kM_14 {Θ : Tz} (h : Θ.2.2.2.2.1 = kdM) : Θ.2.2.2.2.1[14]? = some (.inl 49) := by rw [h]; rfl
theorem kM_15 {Θ : Tz} (h : Θ.2.2.2.2.1 = kdM) : Θ.2.2.2.2.1[15]? = some (.inl 7) := by rw [h]; rfl
theorem kM_16 {Θ : Tz} (h : Θ.2.2.2.2.1 = kdM) : Θ.2.2.2.2.1[16]? = some (.inl 128) := by rw [h]; rfl
theorem kM_17 {Θ : Tz} (h : Θ.2.2.2.2.1 = kdM) : Θ.2.2.2.2.1[17]? = some (.inl 1024) := by rw [h]; rfl
def isV (a : Nat) : Prop := ∃ j, j < 15 ∧ a = 44 + 10 * j
def isLog (a : Nat) : Prop := ∃ j, j < 15 ∧ a = 44 + 10 * j + 8
def isLaw (a : Nat) : Prop := a = 32 ∨ a = 36 ∨ a = 40
theorem isV_44 : isV 44 := ⟨0, by decide, rfl⟩
theorem isV_54 : isV 54 := ⟨1, by decide, rfl⟩
theorem isV_64 : isV 64 := ⟨2, by decide, rfl⟩
theorem isLaw_32 : isLaw 32 := by unfold isLaw; omega
theorem isLaw_36 : isLaw 36 := by unfold isLaw; omega
theorem isLaw_40 : isLaw 40 := by unfold isLaw; omega
theorem isLog_of {a : Nat} (h : isV a) : isLog (a + 8) := by
  obtain ⟨j, hj, rfl⟩ := h
  exact ⟨j, hj, rfl⟩
theorem xV_0 : ∀ j, j < 15 → kdC[44 + 10 * j]? = some (.inr (.inl (10, [some (44 + 10 * j + 1), some (44 + 10 * j + 2), some (44 + 10 * j + 3), some (44 + 10 * j + 4), some (44 + 10 * j + 5), some (44 + 10 * j + 6), some (44 + 10 * j + 7), some (44 + 10 * j + 8), none, none, none, none, none, none, none, none, none]))) := fun j hj => match j, hj with
  | 0, _ => rfl
  | 1, _ => rfl
  | 2, _ => rfl
  | 3, _ => rfl
  | 4, _ => rfl
  | 5, _ => rfl
  | 6, _ => rfl
  | 7, _ => rfl
  | 8, _ => rfl
  | 9, _ => rfl
  | 10, _ => rfl
  | 11, _ => rfl
  | 12, _ => rfl
  | 13, _ => rfl
  | 14, _ => rfl
  | j + 15, h => absurd h (by omega)
theorem kV_0 {Θ : Tz} (h : Θ.2.2.2.2.1 = kdC) {a : Nat} (ha : isV a) : Θ.2.2.2.2.1[a]? = some (.inr (.inl (10, [some (a + 1), some (a + 2), some (a + 3), some (a + 4), some (a + 5), some (a + 6), some (a + 7), some (a + 8), none, none, none, none, none, none, none, none, none]))) := by
  obtain ⟨j, hj, rfl⟩ := ha
  rw [h]
  exact xV_0 j hj
theorem xV_1 : ∀ j, j < 15 → kdC[44 + 10 * j + 1]? = some (.inl 6) := fun j hj => match j, hj with
  | 0, _ => rfl
  | 1, _ => rfl
  | 2, _ => rfl
  | 3, _ => rfl
  | 4, _ => rfl
  | 5, _ => rfl
  | 6, _ => rfl
  | 7, _ => rfl
  | 8, _ => rfl
  | 9, _ => rfl
  | 10, _ => rfl
  | 11, _ => rfl
  | 12, _ => rfl
  | 13, _ => rfl
  | 14, _ => rfl
  | j + 15, h => absurd h (by omega)
theorem kV_1 {Θ : Tz} (h : Θ.2.2.2.2.1 = kdC) {a : Nat} (ha : isV a) : Θ.2.2.2.2.1[a + 1]? = some (.inl 6) := by
  obtain ⟨j, hj, rfl⟩ := ha
  rw [h]
  exact xV_1 j hj
theorem xV_2 : ∀ j, j < 15 → kdC[44 + 10 * j + 2]? = some (.inl 6) := fun j hj => match j, hj with
  | 0, _ => rfl
  | 1, _ => rfl
  | 2, _ => rfl
  | 3, _ => rfl
  | 4, _ => rfl
  | 5, _ => rfl
  | 6, _ => rfl
  | 7, _ => rfl
  | 8, _ => rfl
  | 9, _ => rfl
  | 10, _ => rfl
  | 11, _ => rfl
  | 12, _ => rfl
  | 13, _ => rfl
  | 14, _ => rfl
  | j + 15, h => absurd h (by omega)
theorem kV_2 {Θ : Tz} (h : Θ.2.2.2.2.1 = kdC) {a : Nat} (ha : isV a) : Θ.2.2.2.2.1[a + 2]? = some (.inl 6) := by
  obtain ⟨j, hj, rfl⟩ := ha
  rw [h]
  exact xV_2 j hj
theorem xV_3 : ∀ j, j < 15 → kdC[44 + 10 * j + 3]? = some (.inl 6) := fun j hj => match j, hj with
  | 0, _ => rfl
  | 1, _ => rfl
  | 2, _ => rfl
  | 3, _ => rfl
  | 4, _ => rfl
  | 5, _ => rfl
  | 6, _ => rfl
  | 7, _ => rfl
  | 8, _ => rfl
  | 9, _ => rfl
  | 10, _ => rfl
  | 11, _ => rfl
  | 12, _ => rfl
  | 13, _ => rfl
  | 14, _ => rfl
  | j + 15, h => absurd h (by omega)
theorem kV_3 {Θ : Tz} (h : Θ.2.2.2.2.1 = kdC) {a : Nat} (ha : isV a) : Θ.2.2.2.2.1[a + 3]? = some (.inl 6) := by
  obtain ⟨j, hj, rfl⟩ := ha
  rw [h]
  exact xV_3 j hj
theorem xV_4 : ∀ j, j < 15 → kdC[44 + 10 * j + 4]? = some (.inl 6) := fun j hj => match j, hj with
  | 0, _ => rfl
  | 1, _ => rfl
  | 2, _ => rfl
  | 3, _ => rfl
  | 4, _ => rfl
  | 5, _ => rfl
  | 6, _ => rfl
  | 7, _ => rfl
  | 8, _ => rfl
  | 9, _ => rfl
  | 10, _ => rfl
  | 11, _ => rfl
  | 12, _ => rfl
  | 13, _ => rfl
  | 14, _ => rfl
  | j + 15, h => absurd h (by omega)
theorem kV_4 {Θ : Tz} (h : Θ.2.2.2.2.1 = kdC) {a : Nat} (ha : isV a) : Θ.2.2.2.2.1[a + 4]? = some (.inl 6) := by
  obtain ⟨j, hj, rfl⟩ := ha
  rw [h]
  exact xV_4 j hj
theorem xV_5 : ∀ j, j < 15 → kdC[44 + 10 * j + 5]? = some (.inl 6) := fun j hj => match j, hj with
  | 0, _ => rfl
  | 1, _ => rfl
  | 2, _ => rfl
  | 3, _ => rfl
  | 4, _ => rfl
  | 5, _ => rfl
  | 6, _ => rfl
  | 7, _ => rfl
  | 8, _ => rfl
  | 9, _ => rfl
  | 10, _ => rfl
  | 11, _ => rfl
  | 12, _ => rfl
  | 13, _ => rfl
  | 14, _ => rfl
  | j + 15, h => absurd h (by omega)
theorem kV_5 {Θ : Tz} (h : Θ.2.2.2.2.1 = kdC) {a : Nat} (ha : isV a) : Θ.2.2.2.2.1[a + 5]? = some (.inl 6) := by
  obtain ⟨j, hj, rfl⟩ := ha
  rw [h]
  exact xV_5 j hj
theorem xV_6 : ∀ j, j < 15 → kdC[44 + 10 * j + 6]? = some (.inl 36) := fun j hj => match j, hj with
  | 0, _ => rfl
  | 1, _ => rfl
  | 2, _ => rfl
  | 3, _ => rfl
  | 4, _ => rfl
  | 5, _ => rfl
  | 6, _ => rfl
  | 7, _ => rfl
  | 8, _ => rfl
  | 9, _ => rfl
  | 10, _ => rfl
  | 11, _ => rfl
  | 12, _ => rfl
  | 13, _ => rfl
  | 14, _ => rfl
  | j + 15, h => absurd h (by omega)
theorem kV_6 {Θ : Tz} (h : Θ.2.2.2.2.1 = kdC) {a : Nat} (ha : isV a) : Θ.2.2.2.2.1[a + 6]? = some (.inl 36) := by
  obtain ⟨j, hj, rfl⟩ := ha
  rw [h]
  exact xV_6 j hj
theorem xV_7 : ∀ j, j < 15 → kdC[44 + 10 * j + 7]? = some (.inl 4) := fun j hj => match j, hj with
  | 0, _ => rfl
  | 1, _ => rfl
  | 2, _ => rfl
  | 3, _ => rfl
  | 4, _ => rfl
  | 5, _ => rfl
  | 6, _ => rfl
  | 7, _ => rfl
  | 8, _ => rfl
  | 9, _ => rfl
  | 10, _ => rfl
  | 11, _ => rfl
  | 12, _ => rfl
  | 13, _ => rfl
  | 14, _ => rfl
  | j + 15, h => absurd h (by omega)
theorem kV_7 {Θ : Tz} (h : Θ.2.2.2.2.1 = kdC) {a : Nat} (ha : isV a) : Θ.2.2.2.2.1[a + 7]? = some (.inl 4) := by
  obtain ⟨j, hj, rfl⟩ := ha
  rw [h]
  exact xV_7 j hj
theorem xLog_0 : ∀ j, j < 15 → kdC[44 + 10 * j + 8]? = some (.inr (.inl (3, [some (44 + 10 * j + 8 + 1), none, none]))) := fun j hj => match j, hj with
  | 0, _ => rfl
  | 1, _ => rfl
  | 2, _ => rfl
  | 3, _ => rfl
  | 4, _ => rfl
  | 5, _ => rfl
  | 6, _ => rfl
  | 7, _ => rfl
  | 8, _ => rfl
  | 9, _ => rfl
  | 10, _ => rfl
  | 11, _ => rfl
  | 12, _ => rfl
  | 13, _ => rfl
  | 14, _ => rfl
  | j + 15, h => absurd h (by omega)
theorem kLog_0 {Θ : Tz} (h : Θ.2.2.2.2.1 = kdC) {a : Nat} (ha : isLog a) : Θ.2.2.2.2.1[a]? = some (.inr (.inl (3, [some (a + 1), none, none]))) := by
  obtain ⟨j, hj, rfl⟩ := ha
  rw [h]
  exact xLog_0 j hj
theorem xLog_1 : ∀ j, j < 15 → kdC[44 + 10 * j + 8 + 1]? = some (.inl 240) := fun j hj => match j, hj with
  | 0, _ => rfl
  | 1, _ => rfl
  | 2, _ => rfl
  | 3, _ => rfl
  | 4, _ => rfl
  | 5, _ => rfl
  | 6, _ => rfl
  | 7, _ => rfl
  | 8, _ => rfl
  | 9, _ => rfl
  | 10, _ => rfl
  | 11, _ => rfl
  | 12, _ => rfl
  | 13, _ => rfl
  | 14, _ => rfl
  | j + 15, h => absurd h (by omega)
theorem kLog_1 {Θ : Tz} (h : Θ.2.2.2.2.1 = kdC) {a : Nat} (ha : isLog a) : Θ.2.2.2.2.1[a + 1]? = some (.inl 240) := by
  obtain ⟨j, hj, rfl⟩ := ha
  rw [h]
  exact xLog_1 j hj
theorem kLaw_0 {Θ : Tz} (h : Θ.2.2.2.2.1 = kdC) {a : Nat} (ha : isLaw a) : Θ.2.2.2.2.1[a]? = some (.inr (.inl (2, [some (a + 1), some (a + 2), some (a + 3), none, none, none, none]))) := by
  rw [h]
  rcases ha with rfl | rfl | rfl <;> rfl
theorem kLaw_1 {Θ : Tz} (h : Θ.2.2.2.2.1 = kdC) {a : Nat} (ha : isLaw a) : Θ.2.2.2.2.1[a + 1]? = some (.inl 412) := by
  rw [h]
  rcases ha with rfl | rfl | rfl <;> rfl
theorem kLaw_2 {Θ : Tz} (h : Θ.2.2.2.2.1 = kdC) {a : Nat} (ha : isLaw a) : Θ.2.2.2.2.1[a + 2]? = some (.inl 32) := by
  rw [h]
  rcases ha with rfl | rfl | rfl <;> rfl
theorem kLaw_3 {Θ : Tz} (h : Θ.2.2.2.2.1 = kdC) {a : Nat} (ha : isLaw a) : Θ.2.2.2.2.1[a + 3]? = some (.inl 9) := by
  rw [h]
  rcases ha with rfl | rfl | rfl <;> rfl

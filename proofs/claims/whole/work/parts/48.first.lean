/-! THE FIRST WORLDS -/
theorem bk4_0 (w : Wp) (b n i : Nat) (hi : i < 10) : (ch4 w b n)[2 + i]? = (ch10 w b (n + 2))[i]? := by
  unfold ch4
  rw [show 2 + i = (0 + i) + 2 from by omega]
  rw [show (0 + i) + 2 = ((0 + i) + 1) + 1 from rfl, List.getElem?_cons_succ]
  rw [show (0 + i) + 1 = ((0 + i) + 0) + 1 from rfl, List.getElem?_cons_succ]
  rw [List.getElem?_append_left (by simp only [List.length_append, List.length_nil, ch8_len, ch3_len, ch10_len, ch2_len, ch6_len, ch4_len, ch5_len, ch0_len, ch9_len, ch7_len, ch1_len, ch11_len, ch12_len]; omega)]
  rw [List.getElem?_append_left (by simp only [List.length_append, List.length_nil, ch8_len, ch3_len, ch10_len, ch2_len, ch6_len, ch4_len, ch5_len, ch0_len, ch9_len, ch7_len, ch1_len, ch11_len, ch12_len]; omega)]
  rw [List.getElem?_append_left (by simp only [List.length_append, List.length_nil, ch8_len, ch3_len, ch10_len, ch2_len, ch6_len, ch4_len, ch5_len, ch0_len, ch9_len, ch7_len, ch1_len, ch11_len, ch12_len]; omega)]
  rw [List.getElem?_append_left (by simp only [List.length_append, List.length_nil, ch8_len, ch3_len, ch10_len, ch2_len, ch6_len, ch4_len, ch5_len, ch0_len, ch9_len, ch7_len, ch1_len, ch11_len, ch12_len]; omega)]
  rw [List.getElem?_append_left (by simp only [List.length_append, List.length_nil, ch8_len, ch3_len, ch10_len, ch2_len, ch6_len, ch4_len, ch5_len, ch0_len, ch9_len, ch7_len, ch1_len, ch11_len, ch12_len]; omega)]
  rw [List.getElem?_append_left (by simp only [List.length_append, List.length_nil, ch8_len, ch3_len, ch10_len, ch2_len, ch6_len, ch4_len, ch5_len, ch0_len, ch9_len, ch7_len, ch1_len, ch11_len, ch12_len]; omega)]
  rw [List.getElem?_append_left (by simp only [List.length_append, List.length_nil, ch8_len, ch3_len, ch10_len, ch2_len, ch6_len, ch4_len, ch5_len, ch0_len, ch9_len, ch7_len, ch1_len, ch11_len, ch12_len]; omega)]
  rw [List.getElem?_append_left (by simp only [List.length_append, List.length_nil, ch8_len, ch3_len, ch10_len, ch2_len, ch6_len, ch4_len, ch5_len, ch0_len, ch9_len, ch7_len, ch1_len, ch11_len, ch12_len]; omega)]
  rw [List.getElem?_append_left (by simp only [List.length_append, List.length_nil, ch8_len, ch3_len, ch10_len, ch2_len, ch6_len, ch4_len, ch5_len, ch0_len, ch9_len, ch7_len, ch1_len, ch11_len, ch12_len]; omega)]
  rw [List.getElem?_append_left (by simp only [List.length_append, List.length_nil, ch8_len, ch3_len, ch10_len, ch2_len, ch6_len, ch4_len, ch5_len, ch0_len, ch9_len, ch7_len, ch1_len, ch11_len, ch12_len]; omega)]
  rw [List.getElem?_append_left (by simp only [List.length_append, List.length_nil, ch8_len, ch3_len, ch10_len, ch2_len, ch6_len, ch4_len, ch5_len, ch0_len, ch9_len, ch7_len, ch1_len, ch11_len, ch12_len]; omega)]
  rw [List.getElem?_append_right (by simp only [List.length_append, List.length_nil, ch8_len, ch3_len, ch10_len, ch2_len, ch6_len, ch4_len, ch5_len, ch0_len, ch9_len, ch7_len, ch1_len, ch11_len, ch12_len]; omega)]
  exact congrArg (fun q => (ch10 w b (n + 2))[q]?) (by simp only [List.length_append, List.length_nil, ch8_len, ch3_len, ch10_len, ch2_len, ch6_len, ch4_len, ch5_len, ch0_len, ch9_len, ch7_len, ch1_len, ch11_len, ch12_len]; omega)
theorem bk4_1 (w : Wp) (b n i : Nat) (hi : i < 10) : (ch4 w b n)[12 + i]? = (ch10 w b (n + 12))[i]? := by
  unfold ch4
  rw [show 12 + i = (10 + i) + 2 from by omega]
  rw [show (10 + i) + 2 = ((10 + i) + 1) + 1 from rfl, List.getElem?_cons_succ]
  rw [show (10 + i) + 1 = ((10 + i) + 0) + 1 from rfl, List.getElem?_cons_succ]
  rw [List.getElem?_append_left (by simp only [List.length_append, List.length_nil, ch8_len, ch3_len, ch10_len, ch2_len, ch6_len, ch4_len, ch5_len, ch0_len, ch9_len, ch7_len, ch1_len, ch11_len, ch12_len]; omega)]
  rw [List.getElem?_append_left (by simp only [List.length_append, List.length_nil, ch8_len, ch3_len, ch10_len, ch2_len, ch6_len, ch4_len, ch5_len, ch0_len, ch9_len, ch7_len, ch1_len, ch11_len, ch12_len]; omega)]
  rw [List.getElem?_append_left (by simp only [List.length_append, List.length_nil, ch8_len, ch3_len, ch10_len, ch2_len, ch6_len, ch4_len, ch5_len, ch0_len, ch9_len, ch7_len, ch1_len, ch11_len, ch12_len]; omega)]
  rw [List.getElem?_append_left (by simp only [List.length_append, List.length_nil, ch8_len, ch3_len, ch10_len, ch2_len, ch6_len, ch4_len, ch5_len, ch0_len, ch9_len, ch7_len, ch1_len, ch11_len, ch12_len]; omega)]
  rw [List.getElem?_append_left (by simp only [List.length_append, List.length_nil, ch8_len, ch3_len, ch10_len, ch2_len, ch6_len, ch4_len, ch5_len, ch0_len, ch9_len, ch7_len, ch1_len, ch11_len, ch12_len]; omega)]
  rw [List.getElem?_append_left (by simp only [List.length_append, List.length_nil, ch8_len, ch3_len, ch10_len, ch2_len, ch6_len, ch4_len, ch5_len, ch0_len, ch9_len, ch7_len, ch1_len, ch11_len, ch12_len]; omega)]
  rw [List.getElem?_append_left (by simp only [List.length_append, List.length_nil, ch8_len, ch3_len, ch10_len, ch2_len, ch6_len, ch4_len, ch5_len, ch0_len, ch9_len, ch7_len, ch1_len, ch11_len, ch12_len]; omega)]
  rw [List.getElem?_append_left (by simp only [List.length_append, List.length_nil, ch8_len, ch3_len, ch10_len, ch2_len, ch6_len, ch4_len, ch5_len, ch0_len, ch9_len, ch7_len, ch1_len, ch11_len, ch12_len]; omega)]
  rw [List.getElem?_append_left (by simp only [List.length_append, List.length_nil, ch8_len, ch3_len, ch10_len, ch2_len, ch6_len, ch4_len, ch5_len, ch0_len, ch9_len, ch7_len, ch1_len, ch11_len, ch12_len]; omega)]
  rw [List.getElem?_append_left (by simp only [List.length_append, List.length_nil, ch8_len, ch3_len, ch10_len, ch2_len, ch6_len, ch4_len, ch5_len, ch0_len, ch9_len, ch7_len, ch1_len, ch11_len, ch12_len]; omega)]
  rw [List.getElem?_append_right (by simp only [List.length_append, List.length_nil, ch8_len, ch3_len, ch10_len, ch2_len, ch6_len, ch4_len, ch5_len, ch0_len, ch9_len, ch7_len, ch1_len, ch11_len, ch12_len]; omega)]
  exact congrArg (fun q => (ch10 w b (n + 12))[q]?) (by simp only [List.length_append, List.length_nil, ch8_len, ch3_len, ch10_len, ch2_len, ch6_len, ch4_len, ch5_len, ch0_len, ch9_len, ch7_len, ch1_len, ch11_len, ch12_len]; omega)
theorem bk4_2 (w : Wp) (b n i : Nat) (hi : i < 10) : (ch4 w b n)[22 + i]? = (ch10 w b (n + 22))[i]? := by
  unfold ch4
  rw [show 22 + i = (20 + i) + 2 from by omega]
  rw [show (20 + i) + 2 = ((20 + i) + 1) + 1 from rfl, List.getElem?_cons_succ]
  rw [show (20 + i) + 1 = ((20 + i) + 0) + 1 from rfl, List.getElem?_cons_succ]
  rw [List.getElem?_append_left (by simp only [List.length_append, List.length_nil, ch8_len, ch3_len, ch10_len, ch2_len, ch6_len, ch4_len, ch5_len, ch0_len, ch9_len, ch7_len, ch1_len, ch11_len, ch12_len]; omega)]
  rw [List.getElem?_append_left (by simp only [List.length_append, List.length_nil, ch8_len, ch3_len, ch10_len, ch2_len, ch6_len, ch4_len, ch5_len, ch0_len, ch9_len, ch7_len, ch1_len, ch11_len, ch12_len]; omega)]
  rw [List.getElem?_append_left (by simp only [List.length_append, List.length_nil, ch8_len, ch3_len, ch10_len, ch2_len, ch6_len, ch4_len, ch5_len, ch0_len, ch9_len, ch7_len, ch1_len, ch11_len, ch12_len]; omega)]
  rw [List.getElem?_append_left (by simp only [List.length_append, List.length_nil, ch8_len, ch3_len, ch10_len, ch2_len, ch6_len, ch4_len, ch5_len, ch0_len, ch9_len, ch7_len, ch1_len, ch11_len, ch12_len]; omega)]
  rw [List.getElem?_append_left (by simp only [List.length_append, List.length_nil, ch8_len, ch3_len, ch10_len, ch2_len, ch6_len, ch4_len, ch5_len, ch0_len, ch9_len, ch7_len, ch1_len, ch11_len, ch12_len]; omega)]
  rw [List.getElem?_append_left (by simp only [List.length_append, List.length_nil, ch8_len, ch3_len, ch10_len, ch2_len, ch6_len, ch4_len, ch5_len, ch0_len, ch9_len, ch7_len, ch1_len, ch11_len, ch12_len]; omega)]
  rw [List.getElem?_append_left (by simp only [List.length_append, List.length_nil, ch8_len, ch3_len, ch10_len, ch2_len, ch6_len, ch4_len, ch5_len, ch0_len, ch9_len, ch7_len, ch1_len, ch11_len, ch12_len]; omega)]
  rw [List.getElem?_append_left (by simp only [List.length_append, List.length_nil, ch8_len, ch3_len, ch10_len, ch2_len, ch6_len, ch4_len, ch5_len, ch0_len, ch9_len, ch7_len, ch1_len, ch11_len, ch12_len]; omega)]
  rw [List.getElem?_append_left (by simp only [List.length_append, List.length_nil, ch8_len, ch3_len, ch10_len, ch2_len, ch6_len, ch4_len, ch5_len, ch0_len, ch9_len, ch7_len, ch1_len, ch11_len, ch12_len]; omega)]
  rw [List.getElem?_append_right (by simp only [List.length_append, List.length_nil, ch8_len, ch3_len, ch10_len, ch2_len, ch6_len, ch4_len, ch5_len, ch0_len, ch9_len, ch7_len, ch1_len, ch11_len, ch12_len]; omega)]
  exact congrArg (fun q => (ch10 w b (n + 22))[q]?) (by simp only [List.length_append, List.length_nil, ch8_len, ch3_len, ch10_len, ch2_len, ch6_len, ch4_len, ch5_len, ch0_len, ch9_len, ch7_len, ch1_len, ch11_len, ch12_len]; omega)
theorem bk4_3 (w : Wp) (b n i : Nat) (hi : i < 10) : (ch4 w b n)[32 + i]? = (ch10 w b (n + 32))[i]? := by
  unfold ch4
  rw [show 32 + i = (30 + i) + 2 from by omega]
  rw [show (30 + i) + 2 = ((30 + i) + 1) + 1 from rfl, List.getElem?_cons_succ]
  rw [show (30 + i) + 1 = ((30 + i) + 0) + 1 from rfl, List.getElem?_cons_succ]
  rw [List.getElem?_append_left (by simp only [List.length_append, List.length_nil, ch8_len, ch3_len, ch10_len, ch2_len, ch6_len, ch4_len, ch5_len, ch0_len, ch9_len, ch7_len, ch1_len, ch11_len, ch12_len]; omega)]
  rw [List.getElem?_append_left (by simp only [List.length_append, List.length_nil, ch8_len, ch3_len, ch10_len, ch2_len, ch6_len, ch4_len, ch5_len, ch0_len, ch9_len, ch7_len, ch1_len, ch11_len, ch12_len]; omega)]
  rw [List.getElem?_append_left (by simp only [List.length_append, List.length_nil, ch8_len, ch3_len, ch10_len, ch2_len, ch6_len, ch4_len, ch5_len, ch0_len, ch9_len, ch7_len, ch1_len, ch11_len, ch12_len]; omega)]
  rw [List.getElem?_append_left (by simp only [List.length_append, List.length_nil, ch8_len, ch3_len, ch10_len, ch2_len, ch6_len, ch4_len, ch5_len, ch0_len, ch9_len, ch7_len, ch1_len, ch11_len, ch12_len]; omega)]
  rw [List.getElem?_append_left (by simp only [List.length_append, List.length_nil, ch8_len, ch3_len, ch10_len, ch2_len, ch6_len, ch4_len, ch5_len, ch0_len, ch9_len, ch7_len, ch1_len, ch11_len, ch12_len]; omega)]
  rw [List.getElem?_append_left (by simp only [List.length_append, List.length_nil, ch8_len, ch3_len, ch10_len, ch2_len, ch6_len, ch4_len, ch5_len, ch0_len, ch9_len, ch7_len, ch1_len, ch11_len, ch12_len]; omega)]
  rw [List.getElem?_append_left (by simp only [List.length_append, List.length_nil, ch8_len, ch3_len, ch10_len, ch2_len, ch6_len, ch4_len, ch5_len, ch0_len, ch9_len, ch7_len, ch1_len, ch11_len, ch12_len]; omega)]
  rw [List.getElem?_append_left (by simp only [List.length_append, List.length_nil, ch8_len, ch3_len, ch10_len, ch2_len, ch6_len, ch4_len, ch5_len, ch0_len, ch9_len, ch7_len, ch1_len, ch11_len, ch12_len]; omega)]
  rw [List.getElem?_append_right (by simp only [List.length_append, List.length_nil, ch8_len, ch3_len, ch10_len, ch2_len, ch6_len, ch4_len, ch5_len, ch0_len, ch9_len, ch7_len, ch1_len, ch11_len, ch12_len]; omega)]
  exact congrArg (fun q => (ch10 w b (n + 32))[q]?) (by simp only [List.length_append, List.length_nil, ch8_len, ch3_len, ch10_len, ch2_len, ch6_len, ch4_len, ch5_len, ch0_len, ch9_len, ch7_len, ch1_len, ch11_len, ch12_len]; omega)
theorem bk4_4 (w : Wp) (b n i : Nat) (hi : i < 10) : (ch4 w b n)[42 + i]? = (ch10 w b (n + 42))[i]? := by
  unfold ch4
  rw [show 42 + i = (40 + i) + 2 from by omega]
  rw [show (40 + i) + 2 = ((40 + i) + 1) + 1 from rfl, List.getElem?_cons_succ]
  rw [show (40 + i) + 1 = ((40 + i) + 0) + 1 from rfl, List.getElem?_cons_succ]
  rw [List.getElem?_append_left (by simp only [List.length_append, List.length_nil, ch8_len, ch3_len, ch10_len, ch2_len, ch6_len, ch4_len, ch5_len, ch0_len, ch9_len, ch7_len, ch1_len, ch11_len, ch12_len]; omega)]
  rw [List.getElem?_append_left (by simp only [List.length_append, List.length_nil, ch8_len, ch3_len, ch10_len, ch2_len, ch6_len, ch4_len, ch5_len, ch0_len, ch9_len, ch7_len, ch1_len, ch11_len, ch12_len]; omega)]
  rw [List.getElem?_append_left (by simp only [List.length_append, List.length_nil, ch8_len, ch3_len, ch10_len, ch2_len, ch6_len, ch4_len, ch5_len, ch0_len, ch9_len, ch7_len, ch1_len, ch11_len, ch12_len]; omega)]
  rw [List.getElem?_append_left (by simp only [List.length_append, List.length_nil, ch8_len, ch3_len, ch10_len, ch2_len, ch6_len, ch4_len, ch5_len, ch0_len, ch9_len, ch7_len, ch1_len, ch11_len, ch12_len]; omega)]
  rw [List.getElem?_append_left (by simp only [List.length_append, List.length_nil, ch8_len, ch3_len, ch10_len, ch2_len, ch6_len, ch4_len, ch5_len, ch0_len, ch9_len, ch7_len, ch1_len, ch11_len, ch12_len]; omega)]
  rw [List.getElem?_append_left (by simp only [List.length_append, List.length_nil, ch8_len, ch3_len, ch10_len, ch2_len, ch6_len, ch4_len, ch5_len, ch0_len, ch9_len, ch7_len, ch1_len, ch11_len, ch12_len]; omega)]
  rw [List.getElem?_append_left (by simp only [List.length_append, List.length_nil, ch8_len, ch3_len, ch10_len, ch2_len, ch6_len, ch4_len, ch5_len, ch0_len, ch9_len, ch7_len, ch1_len, ch11_len, ch12_len]; omega)]
  rw [List.getElem?_append_right (by simp only [List.length_append, List.length_nil, ch8_len, ch3_len, ch10_len, ch2_len, ch6_len, ch4_len, ch5_len, ch0_len, ch9_len, ch7_len, ch1_len, ch11_len, ch12_len]; omega)]
  exact congrArg (fun q => (ch10 w b (n + 42))[q]?) (by simp only [List.length_append, List.length_nil, ch8_len, ch3_len, ch10_len, ch2_len, ch6_len, ch4_len, ch5_len, ch0_len, ch9_len, ch7_len, ch1_len, ch11_len, ch12_len]; omega)
theorem bk4_5 (w : Wp) (b n i : Nat) (hi : i < 10) : (ch4 w b n)[52 + i]? = (ch10 w b (n + 52))[i]? := by
  unfold ch4
  rw [show 52 + i = (50 + i) + 2 from by omega]
  rw [show (50 + i) + 2 = ((50 + i) + 1) + 1 from rfl, List.getElem?_cons_succ]
  rw [show (50 + i) + 1 = ((50 + i) + 0) + 1 from rfl, List.getElem?_cons_succ]
  rw [List.getElem?_append_left (by simp only [List.length_append, List.length_nil, ch8_len, ch3_len, ch10_len, ch2_len, ch6_len, ch4_len, ch5_len, ch0_len, ch9_len, ch7_len, ch1_len, ch11_len, ch12_len]; omega)]
  rw [List.getElem?_append_left (by simp only [List.length_append, List.length_nil, ch8_len, ch3_len, ch10_len, ch2_len, ch6_len, ch4_len, ch5_len, ch0_len, ch9_len, ch7_len, ch1_len, ch11_len, ch12_len]; omega)]
  rw [List.getElem?_append_left (by simp only [List.length_append, List.length_nil, ch8_len, ch3_len, ch10_len, ch2_len, ch6_len, ch4_len, ch5_len, ch0_len, ch9_len, ch7_len, ch1_len, ch11_len, ch12_len]; omega)]
  rw [List.getElem?_append_left (by simp only [List.length_append, List.length_nil, ch8_len, ch3_len, ch10_len, ch2_len, ch6_len, ch4_len, ch5_len, ch0_len, ch9_len, ch7_len, ch1_len, ch11_len, ch12_len]; omega)]
  rw [List.getElem?_append_left (by simp only [List.length_append, List.length_nil, ch8_len, ch3_len, ch10_len, ch2_len, ch6_len, ch4_len, ch5_len, ch0_len, ch9_len, ch7_len, ch1_len, ch11_len, ch12_len]; omega)]
  rw [List.getElem?_append_left (by simp only [List.length_append, List.length_nil, ch8_len, ch3_len, ch10_len, ch2_len, ch6_len, ch4_len, ch5_len, ch0_len, ch9_len, ch7_len, ch1_len, ch11_len, ch12_len]; omega)]
  rw [List.getElem?_append_right (by simp only [List.length_append, List.length_nil, ch8_len, ch3_len, ch10_len, ch2_len, ch6_len, ch4_len, ch5_len, ch0_len, ch9_len, ch7_len, ch1_len, ch11_len, ch12_len]; omega)]
  exact congrArg (fun q => (ch10 w b (n + 52))[q]?) (by simp only [List.length_append, List.length_nil, ch8_len, ch3_len, ch10_len, ch2_len, ch6_len, ch4_len, ch5_len, ch0_len, ch9_len, ch7_len, ch1_len, ch11_len, ch12_len]; omega)
theorem bk4_6 (w : Wp) (b n i : Nat) (hi : i < 10) : (ch4 w b n)[62 + i]? = (ch10 w b (n + 62))[i]? := by
  unfold ch4
  rw [show 62 + i = (60 + i) + 2 from by omega]
  rw [show (60 + i) + 2 = ((60 + i) + 1) + 1 from rfl, List.getElem?_cons_succ]
  rw [show (60 + i) + 1 = ((60 + i) + 0) + 1 from rfl, List.getElem?_cons_succ]
  rw [List.getElem?_append_left (by simp only [List.length_append, List.length_nil, ch8_len, ch3_len, ch10_len, ch2_len, ch6_len, ch4_len, ch5_len, ch0_len, ch9_len, ch7_len, ch1_len, ch11_len, ch12_len]; omega)]
  rw [List.getElem?_append_left (by simp only [List.length_append, List.length_nil, ch8_len, ch3_len, ch10_len, ch2_len, ch6_len, ch4_len, ch5_len, ch0_len, ch9_len, ch7_len, ch1_len, ch11_len, ch12_len]; omega)]
  rw [List.getElem?_append_left (by simp only [List.length_append, List.length_nil, ch8_len, ch3_len, ch10_len, ch2_len, ch6_len, ch4_len, ch5_len, ch0_len, ch9_len, ch7_len, ch1_len, ch11_len, ch12_len]; omega)]
  rw [List.getElem?_append_left (by simp only [List.length_append, List.length_nil, ch8_len, ch3_len, ch10_len, ch2_len, ch6_len, ch4_len, ch5_len, ch0_len, ch9_len, ch7_len, ch1_len, ch11_len, ch12_len]; omega)]
  rw [List.getElem?_append_left (by simp only [List.length_append, List.length_nil, ch8_len, ch3_len, ch10_len, ch2_len, ch6_len, ch4_len, ch5_len, ch0_len, ch9_len, ch7_len, ch1_len, ch11_len, ch12_len]; omega)]
  rw [List.getElem?_append_right (by simp only [List.length_append, List.length_nil, ch8_len, ch3_len, ch10_len, ch2_len, ch6_len, ch4_len, ch5_len, ch0_len, ch9_len, ch7_len, ch1_len, ch11_len, ch12_len]; omega)]
  exact congrArg (fun q => (ch10 w b (n + 62))[q]?) (by simp only [List.length_append, List.length_nil, ch8_len, ch3_len, ch10_len, ch2_len, ch6_len, ch4_len, ch5_len, ch0_len, ch9_len, ch7_len, ch1_len, ch11_len, ch12_len]; omega)
theorem bk4_7 (w : Wp) (b n i : Nat) (hi : i < 10) : (ch4 w b n)[72 + i]? = (ch10 w b (n + 72))[i]? := by
  unfold ch4
  rw [show 72 + i = (70 + i) + 2 from by omega]
  rw [show (70 + i) + 2 = ((70 + i) + 1) + 1 from rfl, List.getElem?_cons_succ]
  rw [show (70 + i) + 1 = ((70 + i) + 0) + 1 from rfl, List.getElem?_cons_succ]
  rw [List.getElem?_append_left (by simp only [List.length_append, List.length_nil, ch8_len, ch3_len, ch10_len, ch2_len, ch6_len, ch4_len, ch5_len, ch0_len, ch9_len, ch7_len, ch1_len, ch11_len, ch12_len]; omega)]
  rw [List.getElem?_append_left (by simp only [List.length_append, List.length_nil, ch8_len, ch3_len, ch10_len, ch2_len, ch6_len, ch4_len, ch5_len, ch0_len, ch9_len, ch7_len, ch1_len, ch11_len, ch12_len]; omega)]
  rw [List.getElem?_append_left (by simp only [List.length_append, List.length_nil, ch8_len, ch3_len, ch10_len, ch2_len, ch6_len, ch4_len, ch5_len, ch0_len, ch9_len, ch7_len, ch1_len, ch11_len, ch12_len]; omega)]
  rw [List.getElem?_append_left (by simp only [List.length_append, List.length_nil, ch8_len, ch3_len, ch10_len, ch2_len, ch6_len, ch4_len, ch5_len, ch0_len, ch9_len, ch7_len, ch1_len, ch11_len, ch12_len]; omega)]
  rw [List.getElem?_append_right (by simp only [List.length_append, List.length_nil, ch8_len, ch3_len, ch10_len, ch2_len, ch6_len, ch4_len, ch5_len, ch0_len, ch9_len, ch7_len, ch1_len, ch11_len, ch12_len]; omega)]
  exact congrArg (fun q => (ch10 w b (n + 72))[q]?) (by simp only [List.length_append, List.length_nil, ch8_len, ch3_len, ch10_len, ch2_len, ch6_len, ch4_len, ch5_len, ch0_len, ch9_len, ch7_len, ch1_len, ch11_len, ch12_len]; omega)
theorem bk4_8 (w : Wp) (b n i : Nat) (hi : i < 10) : (ch4 w b n)[82 + i]? = (ch10 w b (n + 82))[i]? := by
  unfold ch4
  rw [show 82 + i = (80 + i) + 2 from by omega]
  rw [show (80 + i) + 2 = ((80 + i) + 1) + 1 from rfl, List.getElem?_cons_succ]
  rw [show (80 + i) + 1 = ((80 + i) + 0) + 1 from rfl, List.getElem?_cons_succ]
  rw [List.getElem?_append_left (by simp only [List.length_append, List.length_nil, ch8_len, ch3_len, ch10_len, ch2_len, ch6_len, ch4_len, ch5_len, ch0_len, ch9_len, ch7_len, ch1_len, ch11_len, ch12_len]; omega)]
  rw [List.getElem?_append_left (by simp only [List.length_append, List.length_nil, ch8_len, ch3_len, ch10_len, ch2_len, ch6_len, ch4_len, ch5_len, ch0_len, ch9_len, ch7_len, ch1_len, ch11_len, ch12_len]; omega)]
  rw [List.getElem?_append_left (by simp only [List.length_append, List.length_nil, ch8_len, ch3_len, ch10_len, ch2_len, ch6_len, ch4_len, ch5_len, ch0_len, ch9_len, ch7_len, ch1_len, ch11_len, ch12_len]; omega)]
  rw [List.getElem?_append_right (by simp only [List.length_append, List.length_nil, ch8_len, ch3_len, ch10_len, ch2_len, ch6_len, ch4_len, ch5_len, ch0_len, ch9_len, ch7_len, ch1_len, ch11_len, ch12_len]; omega)]
  exact congrArg (fun q => (ch10 w b (n + 82))[q]?) (by simp only [List.length_append, List.length_nil, ch8_len, ch3_len, ch10_len, ch2_len, ch6_len, ch4_len, ch5_len, ch0_len, ch9_len, ch7_len, ch1_len, ch11_len, ch12_len]; omega)
theorem bk4_9 (w : Wp) (b n i : Nat) (hi : i < 10) : (ch4 w b n)[92 + i]? = (ch10 w b (n + 92))[i]? := by
  unfold ch4
  rw [show 92 + i = (90 + i) + 2 from by omega]
  rw [show (90 + i) + 2 = ((90 + i) + 1) + 1 from rfl, List.getElem?_cons_succ]
  rw [show (90 + i) + 1 = ((90 + i) + 0) + 1 from rfl, List.getElem?_cons_succ]
  rw [List.getElem?_append_left (by simp only [List.length_append, List.length_nil, ch8_len, ch3_len, ch10_len, ch2_len, ch6_len, ch4_len, ch5_len, ch0_len, ch9_len, ch7_len, ch1_len, ch11_len, ch12_len]; omega)]
  rw [List.getElem?_append_left (by simp only [List.length_append, List.length_nil, ch8_len, ch3_len, ch10_len, ch2_len, ch6_len, ch4_len, ch5_len, ch0_len, ch9_len, ch7_len, ch1_len, ch11_len, ch12_len]; omega)]
  rw [List.getElem?_append_right (by simp only [List.length_append, List.length_nil, ch8_len, ch3_len, ch10_len, ch2_len, ch6_len, ch4_len, ch5_len, ch0_len, ch9_len, ch7_len, ch1_len, ch11_len, ch12_len]; omega)]
  exact congrArg (fun q => (ch10 w b (n + 92))[q]?) (by simp only [List.length_append, List.length_nil, ch8_len, ch3_len, ch10_len, ch2_len, ch6_len, ch4_len, ch5_len, ch0_len, ch9_len, ch7_len, ch1_len, ch11_len, ch12_len]; omega)
theorem bk4_10 (w : Wp) (b n i : Nat) (hi : i < 10) : (ch4 w b n)[102 + i]? = (ch10 w b (n + 102))[i]? := by
  unfold ch4
  rw [show 102 + i = (100 + i) + 2 from by omega]
  rw [show (100 + i) + 2 = ((100 + i) + 1) + 1 from rfl, List.getElem?_cons_succ]
  rw [show (100 + i) + 1 = ((100 + i) + 0) + 1 from rfl, List.getElem?_cons_succ]
  rw [List.getElem?_append_left (by simp only [List.length_append, List.length_nil, ch8_len, ch3_len, ch10_len, ch2_len, ch6_len, ch4_len, ch5_len, ch0_len, ch9_len, ch7_len, ch1_len, ch11_len, ch12_len]; omega)]
  rw [List.getElem?_append_right (by simp only [List.length_append, List.length_nil, ch8_len, ch3_len, ch10_len, ch2_len, ch6_len, ch4_len, ch5_len, ch0_len, ch9_len, ch7_len, ch1_len, ch11_len, ch12_len]; omega)]
  exact congrArg (fun q => (ch10 w b (n + 102))[q]?) (by simp only [List.length_append, List.length_nil, ch8_len, ch3_len, ch10_len, ch2_len, ch6_len, ch4_len, ch5_len, ch0_len, ch9_len, ch7_len, ch1_len, ch11_len, ch12_len]; omega)
theorem bk4_11 (w : Wp) (b n i : Nat) (hi : i < 10) : (ch4 w b n)[112 + i]? = (ch10 w b (n + 112))[i]? := by
  unfold ch4
  rw [show 112 + i = (110 + i) + 2 from by omega]
  rw [show (110 + i) + 2 = ((110 + i) + 1) + 1 from rfl, List.getElem?_cons_succ]
  rw [show (110 + i) + 1 = ((110 + i) + 0) + 1 from rfl, List.getElem?_cons_succ]
  rw [List.getElem?_append_right (by simp only [List.length_append, List.length_nil, ch8_len, ch3_len, ch10_len, ch2_len, ch6_len, ch4_len, ch5_len, ch0_len, ch9_len, ch7_len, ch1_len, ch11_len, ch12_len]; omega)]
  exact congrArg (fun q => (ch10 w b (n + 112))[q]?) (by simp only [List.length_append, List.length_nil, ch8_len, ch3_len, ch10_len, ch2_len, ch6_len, ch4_len, ch5_len, ch0_len, ch9_len, ch7_len, ch1_len, ch11_len, ch12_len]; omega)
theorem bk11_0 (w : Wp) (b n i : Nat) (hi : i < 2) : (ch11 w b n)[1 + i]? = (ch8 w b (n + 1))[i]? := by
  unfold ch11
  rw [show 1 + i = (0 + i) + 1 from by omega]
  rw [show (0 + i) + 1 = ((0 + i) + 0) + 1 from rfl, List.getElem?_cons_succ]
  rw [List.getElem?_append_left (by simp only [List.length_append, List.length_nil, ch8_len, ch3_len, ch10_len, ch2_len, ch6_len, ch4_len, ch5_len, ch0_len, ch9_len, ch7_len, ch1_len, ch11_len, ch12_len]; omega)]
  rw [List.getElem?_append_left (by simp only [List.length_append, List.length_nil, ch8_len, ch3_len, ch10_len, ch2_len, ch6_len, ch4_len, ch5_len, ch0_len, ch9_len, ch7_len, ch1_len, ch11_len, ch12_len]; omega)]
  rw [List.getElem?_append_left (by simp only [List.length_append, List.length_nil, ch8_len, ch3_len, ch10_len, ch2_len, ch6_len, ch4_len, ch5_len, ch0_len, ch9_len, ch7_len, ch1_len, ch11_len, ch12_len]; omega)]
  rw [List.getElem?_append_left (by simp only [List.length_append, List.length_nil, ch8_len, ch3_len, ch10_len, ch2_len, ch6_len, ch4_len, ch5_len, ch0_len, ch9_len, ch7_len, ch1_len, ch11_len, ch12_len]; omega)]
  rw [List.getElem?_append_left (by simp only [List.length_append, List.length_nil, ch8_len, ch3_len, ch10_len, ch2_len, ch6_len, ch4_len, ch5_len, ch0_len, ch9_len, ch7_len, ch1_len, ch11_len, ch12_len]; omega)]
  rw [List.getElem?_append_left (by simp only [List.length_append, List.length_nil, ch8_len, ch3_len, ch10_len, ch2_len, ch6_len, ch4_len, ch5_len, ch0_len, ch9_len, ch7_len, ch1_len, ch11_len, ch12_len]; omega)]
  rw [List.getElem?_append_left (by simp only [List.length_append, List.length_nil, ch8_len, ch3_len, ch10_len, ch2_len, ch6_len, ch4_len, ch5_len, ch0_len, ch9_len, ch7_len, ch1_len, ch11_len, ch12_len]; omega)]
  rw [List.getElem?_append_left (by simp only [List.length_append, List.length_nil, ch8_len, ch3_len, ch10_len, ch2_len, ch6_len, ch4_len, ch5_len, ch0_len, ch9_len, ch7_len, ch1_len, ch11_len, ch12_len]; omega)]
  rw [List.getElem?_append_left (by simp only [List.length_append, List.length_nil, ch8_len, ch3_len, ch10_len, ch2_len, ch6_len, ch4_len, ch5_len, ch0_len, ch9_len, ch7_len, ch1_len, ch11_len, ch12_len]; omega)]
  rw [List.getElem?_append_left (by simp only [List.length_append, List.length_nil, ch8_len, ch3_len, ch10_len, ch2_len, ch6_len, ch4_len, ch5_len, ch0_len, ch9_len, ch7_len, ch1_len, ch11_len, ch12_len]; omega)]
  rw [List.getElem?_append_left (by simp only [List.length_append, List.length_nil, ch8_len, ch3_len, ch10_len, ch2_len, ch6_len, ch4_len, ch5_len, ch0_len, ch9_len, ch7_len, ch1_len, ch11_len, ch12_len]; omega)]
  rw [List.getElem?_append_left (by simp only [List.length_append, List.length_nil, ch8_len, ch3_len, ch10_len, ch2_len, ch6_len, ch4_len, ch5_len, ch0_len, ch9_len, ch7_len, ch1_len, ch11_len, ch12_len]; omega)]
  rw [List.getElem?_append_left (by simp only [List.length_append, List.length_nil, ch8_len, ch3_len, ch10_len, ch2_len, ch6_len, ch4_len, ch5_len, ch0_len, ch9_len, ch7_len, ch1_len, ch11_len, ch12_len]; omega)]
  rw [List.getElem?_append_right (by simp only [List.length_append, List.length_nil, ch8_len, ch3_len, ch10_len, ch2_len, ch6_len, ch4_len, ch5_len, ch0_len, ch9_len, ch7_len, ch1_len, ch11_len, ch12_len]; omega)]
  exact congrArg (fun q => (ch8 w b (n + 1))[q]?) (by simp only [List.length_append, List.length_nil, ch8_len, ch3_len, ch10_len, ch2_len, ch6_len, ch4_len, ch5_len, ch0_len, ch9_len, ch7_len, ch1_len, ch11_len, ch12_len]; omega)
theorem bk11_1 (w : Wp) (b n i : Nat) (hi : i < 10) : (ch11 w b n)[3 + i]? = (ch10 w b (n + 3))[i]? := by
  unfold ch11
  rw [show 3 + i = (2 + i) + 1 from by omega]
  rw [show (2 + i) + 1 = ((2 + i) + 0) + 1 from rfl, List.getElem?_cons_succ]
  rw [List.getElem?_append_left (by simp only [List.length_append, List.length_nil, ch8_len, ch3_len, ch10_len, ch2_len, ch6_len, ch4_len, ch5_len, ch0_len, ch9_len, ch7_len, ch1_len, ch11_len, ch12_len]; omega)]
  rw [List.getElem?_append_left (by simp only [List.length_append, List.length_nil, ch8_len, ch3_len, ch10_len, ch2_len, ch6_len, ch4_len, ch5_len, ch0_len, ch9_len, ch7_len, ch1_len, ch11_len, ch12_len]; omega)]
  rw [List.getElem?_append_left (by simp only [List.length_append, List.length_nil, ch8_len, ch3_len, ch10_len, ch2_len, ch6_len, ch4_len, ch5_len, ch0_len, ch9_len, ch7_len, ch1_len, ch11_len, ch12_len]; omega)]
  rw [List.getElem?_append_left (by simp only [List.length_append, List.length_nil, ch8_len, ch3_len, ch10_len, ch2_len, ch6_len, ch4_len, ch5_len, ch0_len, ch9_len, ch7_len, ch1_len, ch11_len, ch12_len]; omega)]
  rw [List.getElem?_append_left (by simp only [List.length_append, List.length_nil, ch8_len, ch3_len, ch10_len, ch2_len, ch6_len, ch4_len, ch5_len, ch0_len, ch9_len, ch7_len, ch1_len, ch11_len, ch12_len]; omega)]
  rw [List.getElem?_append_left (by simp only [List.length_append, List.length_nil, ch8_len, ch3_len, ch10_len, ch2_len, ch6_len, ch4_len, ch5_len, ch0_len, ch9_len, ch7_len, ch1_len, ch11_len, ch12_len]; omega)]
  rw [List.getElem?_append_left (by simp only [List.length_append, List.length_nil, ch8_len, ch3_len, ch10_len, ch2_len, ch6_len, ch4_len, ch5_len, ch0_len, ch9_len, ch7_len, ch1_len, ch11_len, ch12_len]; omega)]
  rw [List.getElem?_append_left (by simp only [List.length_append, List.length_nil, ch8_len, ch3_len, ch10_len, ch2_len, ch6_len, ch4_len, ch5_len, ch0_len, ch9_len, ch7_len, ch1_len, ch11_len, ch12_len]; omega)]
  rw [List.getElem?_append_left (by simp only [List.length_append, List.length_nil, ch8_len, ch3_len, ch10_len, ch2_len, ch6_len, ch4_len, ch5_len, ch0_len, ch9_len, ch7_len, ch1_len, ch11_len, ch12_len]; omega)]
  rw [List.getElem?_append_left (by simp only [List.length_append, List.length_nil, ch8_len, ch3_len, ch10_len, ch2_len, ch6_len, ch4_len, ch5_len, ch0_len, ch9_len, ch7_len, ch1_len, ch11_len, ch12_len]; omega)]
  rw [List.getElem?_append_left (by simp only [List.length_append, List.length_nil, ch8_len, ch3_len, ch10_len, ch2_len, ch6_len, ch4_len, ch5_len, ch0_len, ch9_len, ch7_len, ch1_len, ch11_len, ch12_len]; omega)]
  rw [List.getElem?_append_left (by simp only [List.length_append, List.length_nil, ch8_len, ch3_len, ch10_len, ch2_len, ch6_len, ch4_len, ch5_len, ch0_len, ch9_len, ch7_len, ch1_len, ch11_len, ch12_len]; omega)]
  rw [List.getElem?_append_right (by simp only [List.length_append, List.length_nil, ch8_len, ch3_len, ch10_len, ch2_len, ch6_len, ch4_len, ch5_len, ch0_len, ch9_len, ch7_len, ch1_len, ch11_len, ch12_len]; omega)]
  exact congrArg (fun q => (ch10 w b (n + 3))[q]?) (by simp only [List.length_append, List.length_nil, ch8_len, ch3_len, ch10_len, ch2_len, ch6_len, ch4_len, ch5_len, ch0_len, ch9_len, ch7_len, ch1_len, ch11_len, ch12_len]; omega)
theorem bk11_2 (w : Wp) (b n i : Nat) (hi : i < 10) : (ch11 w b n)[13 + i]? = (ch10 w b (n + 13))[i]? := by
  unfold ch11
  rw [show 13 + i = (12 + i) + 1 from by omega]
  rw [show (12 + i) + 1 = ((12 + i) + 0) + 1 from rfl, List.getElem?_cons_succ]
  rw [List.getElem?_append_left (by simp only [List.length_append, List.length_nil, ch8_len, ch3_len, ch10_len, ch2_len, ch6_len, ch4_len, ch5_len, ch0_len, ch9_len, ch7_len, ch1_len, ch11_len, ch12_len]; omega)]
  rw [List.getElem?_append_left (by simp only [List.length_append, List.length_nil, ch8_len, ch3_len, ch10_len, ch2_len, ch6_len, ch4_len, ch5_len, ch0_len, ch9_len, ch7_len, ch1_len, ch11_len, ch12_len]; omega)]
  rw [List.getElem?_append_left (by simp only [List.length_append, List.length_nil, ch8_len, ch3_len, ch10_len, ch2_len, ch6_len, ch4_len, ch5_len, ch0_len, ch9_len, ch7_len, ch1_len, ch11_len, ch12_len]; omega)]
  rw [List.getElem?_append_left (by simp only [List.length_append, List.length_nil, ch8_len, ch3_len, ch10_len, ch2_len, ch6_len, ch4_len, ch5_len, ch0_len, ch9_len, ch7_len, ch1_len, ch11_len, ch12_len]; omega)]
  rw [List.getElem?_append_left (by simp only [List.length_append, List.length_nil, ch8_len, ch3_len, ch10_len, ch2_len, ch6_len, ch4_len, ch5_len, ch0_len, ch9_len, ch7_len, ch1_len, ch11_len, ch12_len]; omega)]
  rw [List.getElem?_append_left (by simp only [List.length_append, List.length_nil, ch8_len, ch3_len, ch10_len, ch2_len, ch6_len, ch4_len, ch5_len, ch0_len, ch9_len, ch7_len, ch1_len, ch11_len, ch12_len]; omega)]
  rw [List.getElem?_append_left (by simp only [List.length_append, List.length_nil, ch8_len, ch3_len, ch10_len, ch2_len, ch6_len, ch4_len, ch5_len, ch0_len, ch9_len, ch7_len, ch1_len, ch11_len, ch12_len]; omega)]
  rw [List.getElem?_append_left (by simp only [List.length_append, List.length_nil, ch8_len, ch3_len, ch10_len, ch2_len, ch6_len, ch4_len, ch5_len, ch0_len, ch9_len, ch7_len, ch1_len, ch11_len, ch12_len]; omega)]
  rw [List.getElem?_append_left (by simp only [List.length_append, List.length_nil, ch8_len, ch3_len, ch10_len, ch2_len, ch6_len, ch4_len, ch5_len, ch0_len, ch9_len, ch7_len, ch1_len, ch11_len, ch12_len]; omega)]
  rw [List.getElem?_append_left (by simp only [List.length_append, List.length_nil, ch8_len, ch3_len, ch10_len, ch2_len, ch6_len, ch4_len, ch5_len, ch0_len, ch9_len, ch7_len, ch1_len, ch11_len, ch12_len]; omega)]
  rw [List.getElem?_append_left (by simp only [List.length_append, List.length_nil, ch8_len, ch3_len, ch10_len, ch2_len, ch6_len, ch4_len, ch5_len, ch0_len, ch9_len, ch7_len, ch1_len, ch11_len, ch12_len]; omega)]
  rw [List.getElem?_append_right (by simp only [List.length_append, List.length_nil, ch8_len, ch3_len, ch10_len, ch2_len, ch6_len, ch4_len, ch5_len, ch0_len, ch9_len, ch7_len, ch1_len, ch11_len, ch12_len]; omega)]
  exact congrArg (fun q => (ch10 w b (n + 13))[q]?) (by simp only [List.length_append, List.length_nil, ch8_len, ch3_len, ch10_len, ch2_len, ch6_len, ch4_len, ch5_len, ch0_len, ch9_len, ch7_len, ch1_len, ch11_len, ch12_len]; omega)
theorem bk11_3 (w : Wp) (b n i : Nat) (hi : i < 4) : (ch11 w b n)[23 + i]? = (ch2 w b (n + 23))[i]? := by
  unfold ch11
  rw [show 23 + i = (22 + i) + 1 from by omega]
  rw [show (22 + i) + 1 = ((22 + i) + 0) + 1 from rfl, List.getElem?_cons_succ]
  rw [List.getElem?_append_left (by simp only [List.length_append, List.length_nil, ch8_len, ch3_len, ch10_len, ch2_len, ch6_len, ch4_len, ch5_len, ch0_len, ch9_len, ch7_len, ch1_len, ch11_len, ch12_len]; omega)]
  rw [List.getElem?_append_left (by simp only [List.length_append, List.length_nil, ch8_len, ch3_len, ch10_len, ch2_len, ch6_len, ch4_len, ch5_len, ch0_len, ch9_len, ch7_len, ch1_len, ch11_len, ch12_len]; omega)]
  rw [List.getElem?_append_left (by simp only [List.length_append, List.length_nil, ch8_len, ch3_len, ch10_len, ch2_len, ch6_len, ch4_len, ch5_len, ch0_len, ch9_len, ch7_len, ch1_len, ch11_len, ch12_len]; omega)]
  rw [List.getElem?_append_left (by simp only [List.length_append, List.length_nil, ch8_len, ch3_len, ch10_len, ch2_len, ch6_len, ch4_len, ch5_len, ch0_len, ch9_len, ch7_len, ch1_len, ch11_len, ch12_len]; omega)]
  rw [List.getElem?_append_left (by simp only [List.length_append, List.length_nil, ch8_len, ch3_len, ch10_len, ch2_len, ch6_len, ch4_len, ch5_len, ch0_len, ch9_len, ch7_len, ch1_len, ch11_len, ch12_len]; omega)]
  rw [List.getElem?_append_left (by simp only [List.length_append, List.length_nil, ch8_len, ch3_len, ch10_len, ch2_len, ch6_len, ch4_len, ch5_len, ch0_len, ch9_len, ch7_len, ch1_len, ch11_len, ch12_len]; omega)]
  rw [List.getElem?_append_left (by simp only [List.length_append, List.length_nil, ch8_len, ch3_len, ch10_len, ch2_len, ch6_len, ch4_len, ch5_len, ch0_len, ch9_len, ch7_len, ch1_len, ch11_len, ch12_len]; omega)]
  rw [List.getElem?_append_left (by simp only [List.length_append, List.length_nil, ch8_len, ch3_len, ch10_len, ch2_len, ch6_len, ch4_len, ch5_len, ch0_len, ch9_len, ch7_len, ch1_len, ch11_len, ch12_len]; omega)]
  rw [List.getElem?_append_left (by simp only [List.length_append, List.length_nil, ch8_len, ch3_len, ch10_len, ch2_len, ch6_len, ch4_len, ch5_len, ch0_len, ch9_len, ch7_len, ch1_len, ch11_len, ch12_len]; omega)]
  rw [List.getElem?_append_left (by simp only [List.length_append, List.length_nil, ch8_len, ch3_len, ch10_len, ch2_len, ch6_len, ch4_len, ch5_len, ch0_len, ch9_len, ch7_len, ch1_len, ch11_len, ch12_len]; omega)]
  rw [List.getElem?_append_right (by simp only [List.length_append, List.length_nil, ch8_len, ch3_len, ch10_len, ch2_len, ch6_len, ch4_len, ch5_len, ch0_len, ch9_len, ch7_len, ch1_len, ch11_len, ch12_len]; omega)]
  exact congrArg (fun q => (ch2 w b (n + 23))[q]?) (by simp only [List.length_append, List.length_nil, ch8_len, ch3_len, ch10_len, ch2_len, ch6_len, ch4_len, ch5_len, ch0_len, ch9_len, ch7_len, ch1_len, ch11_len, ch12_len]; omega)
theorem bk11_4 (w : Wp) (b n i : Nat) (hi : i < 4) : (ch11 w b n)[27 + i]? = (ch2 w b (n + 27))[i]? := by
  unfold ch11
  rw [show 27 + i = (26 + i) + 1 from by omega]
  rw [show (26 + i) + 1 = ((26 + i) + 0) + 1 from rfl, List.getElem?_cons_succ]
  rw [List.getElem?_append_left (by simp only [List.length_append, List.length_nil, ch8_len, ch3_len, ch10_len, ch2_len, ch6_len, ch4_len, ch5_len, ch0_len, ch9_len, ch7_len, ch1_len, ch11_len, ch12_len]; omega)]
  rw [List.getElem?_append_left (by simp only [List.length_append, List.length_nil, ch8_len, ch3_len, ch10_len, ch2_len, ch6_len, ch4_len, ch5_len, ch0_len, ch9_len, ch7_len, ch1_len, ch11_len, ch12_len]; omega)]
  rw [List.getElem?_append_left (by simp only [List.length_append, List.length_nil, ch8_len, ch3_len, ch10_len, ch2_len, ch6_len, ch4_len, ch5_len, ch0_len, ch9_len, ch7_len, ch1_len, ch11_len, ch12_len]; omega)]
  rw [List.getElem?_append_left (by simp only [List.length_append, List.length_nil, ch8_len, ch3_len, ch10_len, ch2_len, ch6_len, ch4_len, ch5_len, ch0_len, ch9_len, ch7_len, ch1_len, ch11_len, ch12_len]; omega)]
  rw [List.getElem?_append_left (by simp only [List.length_append, List.length_nil, ch8_len, ch3_len, ch10_len, ch2_len, ch6_len, ch4_len, ch5_len, ch0_len, ch9_len, ch7_len, ch1_len, ch11_len, ch12_len]; omega)]
  rw [List.getElem?_append_left (by simp only [List.length_append, List.length_nil, ch8_len, ch3_len, ch10_len, ch2_len, ch6_len, ch4_len, ch5_len, ch0_len, ch9_len, ch7_len, ch1_len, ch11_len, ch12_len]; omega)]
  rw [List.getElem?_append_left (by simp only [List.length_append, List.length_nil, ch8_len, ch3_len, ch10_len, ch2_len, ch6_len, ch4_len, ch5_len, ch0_len, ch9_len, ch7_len, ch1_len, ch11_len, ch12_len]; omega)]
  rw [List.getElem?_append_left (by simp only [List.length_append, List.length_nil, ch8_len, ch3_len, ch10_len, ch2_len, ch6_len, ch4_len, ch5_len, ch0_len, ch9_len, ch7_len, ch1_len, ch11_len, ch12_len]; omega)]
  rw [List.getElem?_append_left (by simp only [List.length_append, List.length_nil, ch8_len, ch3_len, ch10_len, ch2_len, ch6_len, ch4_len, ch5_len, ch0_len, ch9_len, ch7_len, ch1_len, ch11_len, ch12_len]; omega)]
  rw [List.getElem?_append_right (by simp only [List.length_append, List.length_nil, ch8_len, ch3_len, ch10_len, ch2_len, ch6_len, ch4_len, ch5_len, ch0_len, ch9_len, ch7_len, ch1_len, ch11_len, ch12_len]; omega)]
  exact congrArg (fun q => (ch2 w b (n + 27))[q]?) (by simp only [List.length_append, List.length_nil, ch8_len, ch3_len, ch10_len, ch2_len, ch6_len, ch4_len, ch5_len, ch0_len, ch9_len, ch7_len, ch1_len, ch11_len, ch12_len]; omega)
theorem bk11_5 (w : Wp) (b n i : Nat) (hi : i < 2) : (ch11 w b n)[31 + i]? = (ch6 w b (n + 31) (b + (n + 1)) (b + (n + 13)) (b + (n + 27)))[i]? := by
  unfold ch11
  rw [show 31 + i = (30 + i) + 1 from by omega]
  rw [show (30 + i) + 1 = ((30 + i) + 0) + 1 from rfl, List.getElem?_cons_succ]
  rw [List.getElem?_append_left (by simp only [List.length_append, List.length_nil, ch8_len, ch3_len, ch10_len, ch2_len, ch6_len, ch4_len, ch5_len, ch0_len, ch9_len, ch7_len, ch1_len, ch11_len, ch12_len]; omega)]
  rw [List.getElem?_append_left (by simp only [List.length_append, List.length_nil, ch8_len, ch3_len, ch10_len, ch2_len, ch6_len, ch4_len, ch5_len, ch0_len, ch9_len, ch7_len, ch1_len, ch11_len, ch12_len]; omega)]
  rw [List.getElem?_append_left (by simp only [List.length_append, List.length_nil, ch8_len, ch3_len, ch10_len, ch2_len, ch6_len, ch4_len, ch5_len, ch0_len, ch9_len, ch7_len, ch1_len, ch11_len, ch12_len]; omega)]
  rw [List.getElem?_append_left (by simp only [List.length_append, List.length_nil, ch8_len, ch3_len, ch10_len, ch2_len, ch6_len, ch4_len, ch5_len, ch0_len, ch9_len, ch7_len, ch1_len, ch11_len, ch12_len]; omega)]
  rw [List.getElem?_append_left (by simp only [List.length_append, List.length_nil, ch8_len, ch3_len, ch10_len, ch2_len, ch6_len, ch4_len, ch5_len, ch0_len, ch9_len, ch7_len, ch1_len, ch11_len, ch12_len]; omega)]
  rw [List.getElem?_append_left (by simp only [List.length_append, List.length_nil, ch8_len, ch3_len, ch10_len, ch2_len, ch6_len, ch4_len, ch5_len, ch0_len, ch9_len, ch7_len, ch1_len, ch11_len, ch12_len]; omega)]
  rw [List.getElem?_append_left (by simp only [List.length_append, List.length_nil, ch8_len, ch3_len, ch10_len, ch2_len, ch6_len, ch4_len, ch5_len, ch0_len, ch9_len, ch7_len, ch1_len, ch11_len, ch12_len]; omega)]
  rw [List.getElem?_append_left (by simp only [List.length_append, List.length_nil, ch8_len, ch3_len, ch10_len, ch2_len, ch6_len, ch4_len, ch5_len, ch0_len, ch9_len, ch7_len, ch1_len, ch11_len, ch12_len]; omega)]
  rw [List.getElem?_append_right (by simp only [List.length_append, List.length_nil, ch8_len, ch3_len, ch10_len, ch2_len, ch6_len, ch4_len, ch5_len, ch0_len, ch9_len, ch7_len, ch1_len, ch11_len, ch12_len]; omega)]
  exact congrArg (fun q => (ch6 w b (n + 31) (b + (n + 1)) (b + (n + 13)) (b + (n + 27)))[q]?) (by simp only [List.length_append, List.length_nil, ch8_len, ch3_len, ch10_len, ch2_len, ch6_len, ch4_len, ch5_len, ch0_len, ch9_len, ch7_len, ch1_len, ch11_len, ch12_len]; omega)
theorem bk11_6 (w : Wp) (b n i : Nat) (hi : i < 10) : (ch11 w b n)[33 + i]? = (ch10 w b (n + 33))[i]? := by
  unfold ch11
  rw [show 33 + i = (32 + i) + 1 from by omega]
  rw [show (32 + i) + 1 = ((32 + i) + 0) + 1 from rfl, List.getElem?_cons_succ]
  rw [List.getElem?_append_left (by simp only [List.length_append, List.length_nil, ch8_len, ch3_len, ch10_len, ch2_len, ch6_len, ch4_len, ch5_len, ch0_len, ch9_len, ch7_len, ch1_len, ch11_len, ch12_len]; omega)]
  rw [List.getElem?_append_left (by simp only [List.length_append, List.length_nil, ch8_len, ch3_len, ch10_len, ch2_len, ch6_len, ch4_len, ch5_len, ch0_len, ch9_len, ch7_len, ch1_len, ch11_len, ch12_len]; omega)]
  rw [List.getElem?_append_left (by simp only [List.length_append, List.length_nil, ch8_len, ch3_len, ch10_len, ch2_len, ch6_len, ch4_len, ch5_len, ch0_len, ch9_len, ch7_len, ch1_len, ch11_len, ch12_len]; omega)]
  rw [List.getElem?_append_left (by simp only [List.length_append, List.length_nil, ch8_len, ch3_len, ch10_len, ch2_len, ch6_len, ch4_len, ch5_len, ch0_len, ch9_len, ch7_len, ch1_len, ch11_len, ch12_len]; omega)]
  rw [List.getElem?_append_left (by simp only [List.length_append, List.length_nil, ch8_len, ch3_len, ch10_len, ch2_len, ch6_len, ch4_len, ch5_len, ch0_len, ch9_len, ch7_len, ch1_len, ch11_len, ch12_len]; omega)]
  rw [List.getElem?_append_left (by simp only [List.length_append, List.length_nil, ch8_len, ch3_len, ch10_len, ch2_len, ch6_len, ch4_len, ch5_len, ch0_len, ch9_len, ch7_len, ch1_len, ch11_len, ch12_len]; omega)]
  rw [List.getElem?_append_left (by simp only [List.length_append, List.length_nil, ch8_len, ch3_len, ch10_len, ch2_len, ch6_len, ch4_len, ch5_len, ch0_len, ch9_len, ch7_len, ch1_len, ch11_len, ch12_len]; omega)]
  rw [List.getElem?_append_right (by simp only [List.length_append, List.length_nil, ch8_len, ch3_len, ch10_len, ch2_len, ch6_len, ch4_len, ch5_len, ch0_len, ch9_len, ch7_len, ch1_len, ch11_len, ch12_len]; omega)]
  exact congrArg (fun q => (ch10 w b (n + 33))[q]?) (by simp only [List.length_append, List.length_nil, ch8_len, ch3_len, ch10_len, ch2_len, ch6_len, ch4_len, ch5_len, ch0_len, ch9_len, ch7_len, ch1_len, ch11_len, ch12_len]; omega)
theorem bk11_7 (w : Wp) (b n i : Nat) (hi : i < 4) : (ch11 w b n)[43 + i]? = (ch2 w b (n + 43))[i]? := by
  unfold ch11
  rw [show 43 + i = (42 + i) + 1 from by omega]
  rw [show (42 + i) + 1 = ((42 + i) + 0) + 1 from rfl, List.getElem?_cons_succ]
  rw [List.getElem?_append_left (by simp only [List.length_append, List.length_nil, ch8_len, ch3_len, ch10_len, ch2_len, ch6_len, ch4_len, ch5_len, ch0_len, ch9_len, ch7_len, ch1_len, ch11_len, ch12_len]; omega)]
  rw [List.getElem?_append_left (by simp only [List.length_append, List.length_nil, ch8_len, ch3_len, ch10_len, ch2_len, ch6_len, ch4_len, ch5_len, ch0_len, ch9_len, ch7_len, ch1_len, ch11_len, ch12_len]; omega)]
  rw [List.getElem?_append_left (by simp only [List.length_append, List.length_nil, ch8_len, ch3_len, ch10_len, ch2_len, ch6_len, ch4_len, ch5_len, ch0_len, ch9_len, ch7_len, ch1_len, ch11_len, ch12_len]; omega)]
  rw [List.getElem?_append_left (by simp only [List.length_append, List.length_nil, ch8_len, ch3_len, ch10_len, ch2_len, ch6_len, ch4_len, ch5_len, ch0_len, ch9_len, ch7_len, ch1_len, ch11_len, ch12_len]; omega)]
  rw [List.getElem?_append_left (by simp only [List.length_append, List.length_nil, ch8_len, ch3_len, ch10_len, ch2_len, ch6_len, ch4_len, ch5_len, ch0_len, ch9_len, ch7_len, ch1_len, ch11_len, ch12_len]; omega)]
  rw [List.getElem?_append_left (by simp only [List.length_append, List.length_nil, ch8_len, ch3_len, ch10_len, ch2_len, ch6_len, ch4_len, ch5_len, ch0_len, ch9_len, ch7_len, ch1_len, ch11_len, ch12_len]; omega)]
  rw [List.getElem?_append_right (by simp only [List.length_append, List.length_nil, ch8_len, ch3_len, ch10_len, ch2_len, ch6_len, ch4_len, ch5_len, ch0_len, ch9_len, ch7_len, ch1_len, ch11_len, ch12_len]; omega)]
  exact congrArg (fun q => (ch2 w b (n + 43))[q]?) (by simp only [List.length_append, List.length_nil, ch8_len, ch3_len, ch10_len, ch2_len, ch6_len, ch4_len, ch5_len, ch0_len, ch9_len, ch7_len, ch1_len, ch11_len, ch12_len]; omega)
theorem bk11_8 (w : Wp) (b n i : Nat) (hi : i < 122) : (ch11 w b n)[47 + i]? = (ch4 w b (n + 47))[i]? := by
  unfold ch11
  rw [show 47 + i = (46 + i) + 1 from by omega]
  rw [show (46 + i) + 1 = ((46 + i) + 0) + 1 from rfl, List.getElem?_cons_succ]
  rw [List.getElem?_append_left (by simp only [List.length_append, List.length_nil, ch8_len, ch3_len, ch10_len, ch2_len, ch6_len, ch4_len, ch5_len, ch0_len, ch9_len, ch7_len, ch1_len, ch11_len, ch12_len]; omega)]
  rw [List.getElem?_append_left (by simp only [List.length_append, List.length_nil, ch8_len, ch3_len, ch10_len, ch2_len, ch6_len, ch4_len, ch5_len, ch0_len, ch9_len, ch7_len, ch1_len, ch11_len, ch12_len]; omega)]
  rw [List.getElem?_append_left (by simp only [List.length_append, List.length_nil, ch8_len, ch3_len, ch10_len, ch2_len, ch6_len, ch4_len, ch5_len, ch0_len, ch9_len, ch7_len, ch1_len, ch11_len, ch12_len]; omega)]
  rw [List.getElem?_append_left (by simp only [List.length_append, List.length_nil, ch8_len, ch3_len, ch10_len, ch2_len, ch6_len, ch4_len, ch5_len, ch0_len, ch9_len, ch7_len, ch1_len, ch11_len, ch12_len]; omega)]
  rw [List.getElem?_append_left (by simp only [List.length_append, List.length_nil, ch8_len, ch3_len, ch10_len, ch2_len, ch6_len, ch4_len, ch5_len, ch0_len, ch9_len, ch7_len, ch1_len, ch11_len, ch12_len]; omega)]
  rw [List.getElem?_append_right (by simp only [List.length_append, List.length_nil, ch8_len, ch3_len, ch10_len, ch2_len, ch6_len, ch4_len, ch5_len, ch0_len, ch9_len, ch7_len, ch1_len, ch11_len, ch12_len]; omega)]
  exact congrArg (fun q => (ch4 w b (n + 47))[q]?) (by simp only [List.length_append, List.length_nil, ch8_len, ch3_len, ch10_len, ch2_len, ch6_len, ch4_len, ch5_len, ch0_len, ch9_len, ch7_len, ch1_len, ch11_len, ch12_len]; omega)
theorem bk11_9 (w : Wp) (b n i : Nat) (hi : i < 7) : (ch11 w b n)[169 + i]? = (ch5 w b (n + 169))[i]? := by
  unfold ch11
  rw [show 169 + i = (168 + i) + 1 from by omega]
  rw [show (168 + i) + 1 = ((168 + i) + 0) + 1 from rfl, List.getElem?_cons_succ]
  rw [List.getElem?_append_left (by simp only [List.length_append, List.length_nil, ch8_len, ch3_len, ch10_len, ch2_len, ch6_len, ch4_len, ch5_len, ch0_len, ch9_len, ch7_len, ch1_len, ch11_len, ch12_len]; omega)]
  rw [List.getElem?_append_left (by simp only [List.length_append, List.length_nil, ch8_len, ch3_len, ch10_len, ch2_len, ch6_len, ch4_len, ch5_len, ch0_len, ch9_len, ch7_len, ch1_len, ch11_len, ch12_len]; omega)]
  rw [List.getElem?_append_left (by simp only [List.length_append, List.length_nil, ch8_len, ch3_len, ch10_len, ch2_len, ch6_len, ch4_len, ch5_len, ch0_len, ch9_len, ch7_len, ch1_len, ch11_len, ch12_len]; omega)]
  rw [List.getElem?_append_left (by simp only [List.length_append, List.length_nil, ch8_len, ch3_len, ch10_len, ch2_len, ch6_len, ch4_len, ch5_len, ch0_len, ch9_len, ch7_len, ch1_len, ch11_len, ch12_len]; omega)]
  rw [List.getElem?_append_right (by simp only [List.length_append, List.length_nil, ch8_len, ch3_len, ch10_len, ch2_len, ch6_len, ch4_len, ch5_len, ch0_len, ch9_len, ch7_len, ch1_len, ch11_len, ch12_len]; omega)]
  exact congrArg (fun q => (ch5 w b (n + 169))[q]?) (by simp only [List.length_append, List.length_nil, ch8_len, ch3_len, ch10_len, ch2_len, ch6_len, ch4_len, ch5_len, ch0_len, ch9_len, ch7_len, ch1_len, ch11_len, ch12_len]; omega)
theorem bk11_10 (w : Wp) (b n i : Nat) (hi : i < 1) : (ch11 w b n)[176 + i]? = (ch0 w b (n + 176) (b + (n + 169)) (b + (n + 23)))[i]? := by
  unfold ch11
  rw [show 176 + i = (175 + i) + 1 from by omega]
  rw [show (175 + i) + 1 = ((175 + i) + 0) + 1 from rfl, List.getElem?_cons_succ]
  rw [List.getElem?_append_left (by simp only [List.length_append, List.length_nil, ch8_len, ch3_len, ch10_len, ch2_len, ch6_len, ch4_len, ch5_len, ch0_len, ch9_len, ch7_len, ch1_len, ch11_len, ch12_len]; omega)]
  rw [List.getElem?_append_left (by simp only [List.length_append, List.length_nil, ch8_len, ch3_len, ch10_len, ch2_len, ch6_len, ch4_len, ch5_len, ch0_len, ch9_len, ch7_len, ch1_len, ch11_len, ch12_len]; omega)]
  rw [List.getElem?_append_left (by simp only [List.length_append, List.length_nil, ch8_len, ch3_len, ch10_len, ch2_len, ch6_len, ch4_len, ch5_len, ch0_len, ch9_len, ch7_len, ch1_len, ch11_len, ch12_len]; omega)]
  rw [List.getElem?_append_right (by simp only [List.length_append, List.length_nil, ch8_len, ch3_len, ch10_len, ch2_len, ch6_len, ch4_len, ch5_len, ch0_len, ch9_len, ch7_len, ch1_len, ch11_len, ch12_len]; omega)]
  exact congrArg (fun q => (ch0 w b (n + 176) (b + (n + 169)) (b + (n + 23)))[q]?) (by simp only [List.length_append, List.length_nil, ch8_len, ch3_len, ch10_len, ch2_len, ch6_len, ch4_len, ch5_len, ch0_len, ch9_len, ch7_len, ch1_len, ch11_len, ch12_len]; omega)
theorem bk11_11 (w : Wp) (b n i : Nat) (hi : i < 7) : (ch11 w b n)[177 + i]? = (ch9 w b (n + 177))[i]? := by
  unfold ch11
  rw [show 177 + i = (176 + i) + 1 from by omega]
  rw [show (176 + i) + 1 = ((176 + i) + 0) + 1 from rfl, List.getElem?_cons_succ]
  rw [List.getElem?_append_left (by simp only [List.length_append, List.length_nil, ch8_len, ch3_len, ch10_len, ch2_len, ch6_len, ch4_len, ch5_len, ch0_len, ch9_len, ch7_len, ch1_len, ch11_len, ch12_len]; omega)]
  rw [List.getElem?_append_left (by simp only [List.length_append, List.length_nil, ch8_len, ch3_len, ch10_len, ch2_len, ch6_len, ch4_len, ch5_len, ch0_len, ch9_len, ch7_len, ch1_len, ch11_len, ch12_len]; omega)]
  rw [List.getElem?_append_right (by simp only [List.length_append, List.length_nil, ch8_len, ch3_len, ch10_len, ch2_len, ch6_len, ch4_len, ch5_len, ch0_len, ch9_len, ch7_len, ch1_len, ch11_len, ch12_len]; omega)]
  exact congrArg (fun q => (ch9 w b (n + 177))[q]?) (by simp only [List.length_append, List.length_nil, ch8_len, ch3_len, ch10_len, ch2_len, ch6_len, ch4_len, ch5_len, ch0_len, ch9_len, ch7_len, ch1_len, ch11_len, ch12_len]; omega)
theorem bk11_12 (w : Wp) (b n i : Nat) (hi : i < 6) : (ch11 w b n)[184 + i]? = (ch7 w b (n + 184))[i]? := by
  unfold ch11
  rw [show 184 + i = (183 + i) + 1 from by omega]
  rw [show (183 + i) + 1 = ((183 + i) + 0) + 1 from rfl, List.getElem?_cons_succ]
  rw [List.getElem?_append_left (by simp only [List.length_append, List.length_nil, ch8_len, ch3_len, ch10_len, ch2_len, ch6_len, ch4_len, ch5_len, ch0_len, ch9_len, ch7_len, ch1_len, ch11_len, ch12_len]; omega)]
  rw [List.getElem?_append_right (by simp only [List.length_append, List.length_nil, ch8_len, ch3_len, ch10_len, ch2_len, ch6_len, ch4_len, ch5_len, ch0_len, ch9_len, ch7_len, ch1_len, ch11_len, ch12_len]; omega)]
  exact congrArg (fun q => (ch7 w b (n + 184))[q]?) (by simp only [List.length_append, List.length_nil, ch8_len, ch3_len, ch10_len, ch2_len, ch6_len, ch4_len, ch5_len, ch0_len, ch9_len, ch7_len, ch1_len, ch11_len, ch12_len]; omega)
theorem bk11_13 (w : Wp) (b n i : Nat) (hi : i < 4) : (ch11 w b n)[190 + i]? = (ch1 w b (n + 190))[i]? := by
  unfold ch11
  rw [show 190 + i = (189 + i) + 1 from by omega]
  rw [show (189 + i) + 1 = ((189 + i) + 0) + 1 from rfl, List.getElem?_cons_succ]
  rw [List.getElem?_append_right (by simp only [List.length_append, List.length_nil, ch8_len, ch3_len, ch10_len, ch2_len, ch6_len, ch4_len, ch5_len, ch0_len, ch9_len, ch7_len, ch1_len, ch11_len, ch12_len]; omega)]
  exact congrArg (fun q => (ch1 w b (n + 190))[q]?) (by simp only [List.length_append, List.length_nil, ch8_len, ch3_len, ch10_len, ch2_len, ch6_len, ch4_len, ch5_len, ch0_len, ch9_len, ch7_len, ch1_len, ch11_len, ch12_len]; omega)
def prmC : List Nat := [0, 1, 2, 31, 32, 47, 169, 170, 171, 172, 173, 174, 175, 176, 177, 178, 179, 180, 181, 182, 183, 184, 185, 186, 187, 188, 189, 190, 191, 192, 193, 48, 23, 24, 25, 26, 27, 28, 29, 30, 43, 44, 45, 46, 3, 4, 5, 6, 7, 8, 9, 10, 11, 12, 13, 14, 15, 16, 17, 18, 19, 20, 21, 22, 33, 34, 35, 36, 37, 38, 39, 40, 41, 42, 49, 50, 51, 52, 53, 54, 55, 56, 57, 58, 59, 60, 61, 62, 63, 64, 65, 66, 67, 68, 69, 70, 71, 72, 73, 74, 75, 76, 77, 78, 79, 80, 81, 82, 83, 84, 85, 86, 87, 88, 89, 90, 91, 92, 93, 94, 95, 96, 97, 98, 99, 100, 101, 102, 103, 104, 105, 106, 107, 108, 109, 110, 111, 112, 113, 114, 115, 116, 117, 118, 119, 120, 121, 122, 123, 124, 125, 126, 127, 128, 129, 130, 131, 132, 133, 134, 135, 136, 137, 138, 139, 140, 141, 142, 143, 144, 145, 146, 147, 148, 149, 150, 151, 152, 153, 154, 155, 156, 157, 158, 159, 160, 161, 162, 163, 164, 165, 166, 167, 168]
def adC (b n : Nat) : Nat → Nat := fun p => b + (n + prmC.getD p 0)
theorem adC_eq {b n p q : Nat} (h : prmC.getD p 0 = q) : adC b n p = b + (n + q) := by unfold adC; rw [h]
def stC : St := fun p =>
  bif Nat.beq p 0 then (fun k => bif Nat.beq k 15 then (-1) else 0) else
  bif Nat.beq p 21 then (fun k => bif Nat.beq k 7 then 1 else 0) else
  bif Nat.beq p 32 then (fun k => bif Nat.beq k 4 then (-1) else 0) else
  bif Nat.beq p 36 then (fun k => bif Nat.beq k 4 then (-1) else 0) else
  bif Nat.beq p 40 then (fun k => bif Nat.beq k 4 then (-1) else 0) else
  bif Nat.ble p 43 then (fun _ => 0) else
  bif Nat.beq ((p - 44) % 10) 0 then (fun k => bif Nat.beq k 15 then 1 else 0) else
  bif Nat.beq ((p - 44) % 10) 6 then fl9 (fun _ => 0) 36 5 else
  bif Nat.beq ((p - 44) % 10) 7 then fl9 (fun _ => 0) 4 5 else (fun _ => 0)
def plC (w : Wp) (b n p : Nat) : Prop := ∀ k : KD, kdC[p]? = some k → (ch11 w b n)[prmC.getD p 0]? = some (cellOf (adC b n) w.2.1.1 w.2.1.2 (stC p) k)
theorem plC_0 (w : Wp) (b n : Nat) : plC w b n 0 := fun k h => by
  have e : (.inr (.inl (11, [some 1, some 44, some 54, some 32, some 36, some 3, some 64, some 40, some 5, some 6, some 13, some 14, some 21, some 27, none, none])) : KD) = k := Option.some.inj (show some (.inr (.inl (11, [some 1, some 44, some 54, some 32, some 36, some 3, some 64, some 40, some 5, some 6, some 13, some 14, some 21, some 27, none, none])) : KD) = some k from h)
  subst e
  refine (congrArg (fun q => (ch11 w b n)[q]?) (show prmC.getD 0 0 = 0 from by decide)).trans ?_
  show _ = some ((.inr (11, [.ref (adC b n 1), .ref (adC b n 44), .ref (adC b n 54), .ref (adC b n 32), .ref (adC b n 36), .ref (adC b n 3), .ref (adC b n 64), .ref (adC b n 40), .ref (adC b n 5), .ref (adC b n 6), .ref (adC b n 13), .ref (adC b n 14), .ref (adC b n 21), .ref (adC b n 27), .int 0, .int (-1)])) : va_E)
  rw [adC_eq (p := 1) (q := 1) (by decide), adC_eq (p := 44) (q := 3) (by decide), adC_eq (p := 54) (q := 13) (by decide), adC_eq (p := 32) (q := 23) (by decide), adC_eq (p := 36) (q := 27) (by decide), adC_eq (p := 3) (q := 31) (by decide), adC_eq (p := 64) (q := 33) (by decide), adC_eq (p := 40) (q := 43) (by decide), adC_eq (p := 5) (q := 47) (by decide), adC_eq (p := 6) (q := 169) (by decide), adC_eq (p := 13) (q := 176) (by decide), adC_eq (p := 14) (q := 177) (by decide), adC_eq (p := 21) (q := 184) (by decide), adC_eq (p := 27) (q := 190) (by decide)]
  rfl
theorem plC_1 (w : Wp) (b n : Nat) : plC w b n 1 := fun k h => by
  have e : (.inr (.inl (8, [some 2, none, none, none, none])) : KD) = k := Option.some.inj (show some (.inr (.inl (8, [some 2, none, none, none, none])) : KD) = some k from h)
  subst e
  refine (congrArg (fun q => (ch11 w b n)[q]?) (show prmC.getD 1 0 = 1 + 0 from by decide)).trans ?_
  refine (bk11_0 w b n 0 (by decide)).trans ?_
  show _ = some ((.inr (8, [.ref (adC b n 2), .int 0, .int 0, .int 0, .int 0])) : va_E)
  rw [adC_eq (p := 2) (q := 2) (by decide)]
  rfl
theorem plC_2 (w : Wp) (b n : Nat) : plC w b n 2 := fun k h => by
  have e : (.inl 400 : KD) = k := Option.some.inj (show some (.inl 400 : KD) = some k from h)
  subst e
  refine (congrArg (fun q => (ch11 w b n)[q]?) (show prmC.getD 2 0 = 1 + 1 from by decide)).trans ?_
  refine (bk11_0 w b n 1 (by decide)).trans ?_
  show _ = some ((.inl (w.2.1.1, 400, .inl (fun _ => 0))) : va_E)
  rfl
theorem plC_3 (w : Wp) (b n : Nat) : plC w b n 3 := fun k h => by
  have e : (.inr (.inl (6, [some 1, some 54, some 36, some 4, none, none])) : KD) = k := Option.some.inj (show some (.inr (.inl (6, [some 1, some 54, some 36, some 4, none, none])) : KD) = some k from h)
  subst e
  refine (congrArg (fun q => (ch11 w b n)[q]?) (show prmC.getD 3 0 = 31 + 0 from by decide)).trans ?_
  refine (bk11_5 w b n 0 (by decide)).trans ?_
  show _ = some ((.inr (6, [.ref (adC b n 1), .ref (adC b n 54), .ref (adC b n 36), .ref (adC b n 4), .int 0, .int 0])) : va_E)
  rw [adC_eq (p := 1) (q := 1) (by decide), adC_eq (p := 54) (q := 13) (by decide), adC_eq (p := 36) (q := 27) (by decide), adC_eq (p := 4) (q := 32) (by decide)]
  rfl
theorem plC_4 (w : Wp) (b n : Nat) : plC w b n 4 := fun k h => by
  have e : (.inl 32 : KD) = k := Option.some.inj (show some (.inl 32 : KD) = some k from h)
  subst e
  refine (congrArg (fun q => (ch11 w b n)[q]?) (show prmC.getD 4 0 = 31 + 1 from by decide)).trans ?_
  refine (bk11_5 w b n 1 (by decide)).trans ?_
  show _ = some ((.inl (w.2.1.1, 32, .inl (fun _ => 0))) : va_E)
  rfl
theorem plC_5 (w : Wp) (b n : Nat) : plC w b n 5 := fun k h => by
  have e : (.inr (.inl (4, [some 31, none, none])) : KD) = k := Option.some.inj (show some (.inr (.inl (4, [some 31, none, none])) : KD) = some k from h)
  subst e
  refine (congrArg (fun q => (ch11 w b n)[q]?) (show prmC.getD 5 0 = 47 + 0 from by decide)).trans ?_
  refine (bk11_8 w b n 0 (by decide)).trans ?_
  show _ = some ((.inr (4, [.ref (adC b n 31), .int 0, .int 0])) : va_E)
  rw [adC_eq (p := 31) (q := 48) (by decide)]
  rfl
theorem plC_6 (w : Wp) (b n : Nat) : plC w b n 6 := fun k h => by
  have e : (.inr (.inl (5, [some 7, some 8, some 9, some 10, some 11, some 12, none, none, none, none])) : KD) = k := Option.some.inj (show some (.inr (.inl (5, [some 7, some 8, some 9, some 10, some 11, some 12, none, none, none, none])) : KD) = some k from h)
  subst e
  refine (congrArg (fun q => (ch11 w b n)[q]?) (show prmC.getD 6 0 = 169 + 0 from by decide)).trans ?_
  refine (bk11_9 w b n 0 (by decide)).trans ?_
  show _ = some ((.inr (5, [.ref (adC b n 7), .ref (adC b n 8), .ref (adC b n 9), .ref (adC b n 10), .ref (adC b n 11), .ref (adC b n 12), .int 0, .int 0, .int 0, .int 0])) : va_E)
  rw [adC_eq (p := 7) (q := 170) (by decide), adC_eq (p := 8) (q := 171) (by decide), adC_eq (p := 9) (q := 172) (by decide), adC_eq (p := 10) (q := 173) (by decide), adC_eq (p := 11) (q := 174) (by decide), adC_eq (p := 12) (q := 175) (by decide)]
  rfl
theorem plC_7 (w : Wp) (b n : Nat) : plC w b n 7 := fun k h => by
  have e : (.inl 36 : KD) = k := Option.some.inj (show some (.inl 36 : KD) = some k from h)
  subst e
  refine (congrArg (fun q => (ch11 w b n)[q]?) (show prmC.getD 7 0 = 169 + 1 from by decide)).trans ?_
  refine (bk11_9 w b n 1 (by decide)).trans ?_
  show _ = some ((.inl (w.2.1.1, 36, .inl (fun _ => 0))) : va_E)
  rfl
theorem plC_8 (w : Wp) (b n : Nat) : plC w b n 8 := fun k h => by
  have e : (.inl 36 : KD) = k := Option.some.inj (show some (.inl 36 : KD) = some k from h)
  subst e
  refine (congrArg (fun q => (ch11 w b n)[q]?) (show prmC.getD 8 0 = 169 + 2 from by decide)).trans ?_
  refine (bk11_9 w b n 2 (by decide)).trans ?_
  show _ = some ((.inl (w.2.1.1, 36, .inl (fun _ => 0))) : va_E)
  rfl
theorem plC_9 (w : Wp) (b n : Nat) : plC w b n 9 := fun k h => by
  have e : (.inl 6 : KD) = k := Option.some.inj (show some (.inl 6 : KD) = some k from h)
  subst e
  refine (congrArg (fun q => (ch11 w b n)[q]?) (show prmC.getD 9 0 = 169 + 3 from by decide)).trans ?_
  refine (bk11_9 w b n 3 (by decide)).trans ?_
  show _ = some ((.inl (w.2.1.1, 6, .inl (fun _ => 0))) : va_E)
  rfl
theorem plC_10 (w : Wp) (b n : Nat) : plC w b n 10 := fun k h => by
  have e : (.inl 6 : KD) = k := Option.some.inj (show some (.inl 6 : KD) = some k from h)
  subst e
  refine (congrArg (fun q => (ch11 w b n)[q]?) (show prmC.getD 10 0 = 169 + 4 from by decide)).trans ?_
  refine (bk11_9 w b n 4 (by decide)).trans ?_
  show _ = some ((.inl (w.2.1.1, 6, .inl (fun _ => 0))) : va_E)
  rfl
theorem plC_11 (w : Wp) (b n : Nat) : plC w b n 11 := fun k h => by
  have e : (.inl 6 : KD) = k := Option.some.inj (show some (.inl 6 : KD) = some k from h)
  subst e
  refine (congrArg (fun q => (ch11 w b n)[q]?) (show prmC.getD 11 0 = 169 + 5 from by decide)).trans ?_
  refine (bk11_9 w b n 5 (by decide)).trans ?_
  show _ = some ((.inl (w.2.1.1, 6, .inl (fun _ => 0))) : va_E)
  rfl
theorem plC_12 (w : Wp) (b n : Nat) : plC w b n 12 := fun k h => by
  have e : (.inl 384 : KD) = k := Option.some.inj (show some (.inl 384 : KD) = some k from h)
  subst e
  refine (congrArg (fun q => (ch11 w b n)[q]?) (show prmC.getD 12 0 = 169 + 6 from by decide)).trans ?_
  refine (bk11_9 w b n 6 (by decide)).trans ?_
  show _ = some ((.inl (w.2.1.1, 384, .inl (fun _ => 0))) : va_E)
  rfl
theorem plC_13 (w : Wp) (b n : Nat) : plC w b n 13 := fun k h => by
  have e : (.inr (.inl (0, [some 6, some 32])) : KD) = k := Option.some.inj (show some (.inr (.inl (0, [some 6, some 32])) : KD) = some k from h)
  subst e
  refine (congrArg (fun q => (ch11 w b n)[q]?) (show prmC.getD 13 0 = 176 + 0 from by decide)).trans ?_
  refine (bk11_10 w b n 0 (by decide)).trans ?_
  show _ = some ((.inr (0, [.ref (adC b n 6), .ref (adC b n 32)])) : va_E)
  rw [adC_eq (p := 6) (q := 169) (by decide), adC_eq (p := 32) (q := 23) (by decide)]
  rfl
theorem plC_14 (w : Wp) (b n : Nat) : plC w b n 14 := fun k h => by
  have e : (.inr (.inl (9, [some 15, some 16, some 17, some 18, some 19, some 20, none, none, none, none, none])) : KD) = k := Option.some.inj (show some (.inr (.inl (9, [some 15, some 16, some 17, some 18, some 19, some 20, none, none, none, none, none])) : KD) = some k from h)
  subst e
  refine (congrArg (fun q => (ch11 w b n)[q]?) (show prmC.getD 14 0 = 177 + 0 from by decide)).trans ?_
  refine (bk11_11 w b n 0 (by decide)).trans ?_
  show _ = some ((.inr (9, [.ref (adC b n 15), .ref (adC b n 16), .ref (adC b n 17), .ref (adC b n 18), .ref (adC b n 19), .ref (adC b n 20), .int 0, .int 0, .int 0, .int 0, .int 0])) : va_E)
  rw [adC_eq (p := 15) (q := 178) (by decide), adC_eq (p := 16) (q := 179) (by decide), adC_eq (p := 17) (q := 180) (by decide), adC_eq (p := 18) (q := 181) (by decide), adC_eq (p := 19) (q := 182) (by decide), adC_eq (p := 20) (q := 183) (by decide)]
  rfl
theorem plC_15 (w : Wp) (b n : Nat) : plC w b n 15 := fun k h => by
  have e : (.inl 36 : KD) = k := Option.some.inj (show some (.inl 36 : KD) = some k from h)
  subst e
  refine (congrArg (fun q => (ch11 w b n)[q]?) (show prmC.getD 15 0 = 177 + 1 from by decide)).trans ?_
  refine (bk11_11 w b n 1 (by decide)).trans ?_
  show _ = some ((.inl (w.2.1.1, 36, .inl (fun _ => 0))) : va_E)
  rfl
theorem plC_16 (w : Wp) (b n : Nat) : plC w b n 16 := fun k h => by
  have e : (.inl 6 : KD) = k := Option.some.inj (show some (.inl 6 : KD) = some k from h)
  subst e
  refine (congrArg (fun q => (ch11 w b n)[q]?) (show prmC.getD 16 0 = 177 + 2 from by decide)).trans ?_
  refine (bk11_11 w b n 2 (by decide)).trans ?_
  show _ = some ((.inl (w.2.1.1, 6, .inl (fun _ => 0))) : va_E)
  rfl
theorem plC_17 (w : Wp) (b n : Nat) : plC w b n 17 := fun k h => by
  have e : (.inl 6 : KD) = k := Option.some.inj (show some (.inl 6 : KD) = some k from h)
  subst e
  refine (congrArg (fun q => (ch11 w b n)[q]?) (show prmC.getD 17 0 = 177 + 3 from by decide)).trans ?_
  refine (bk11_11 w b n 3 (by decide)).trans ?_
  show _ = some ((.inl (w.2.1.1, 6, .inl (fun _ => 0))) : va_E)
  rfl
theorem plC_18 (w : Wp) (b n : Nat) : plC w b n 18 := fun k h => by
  have e : (.inl 5 : KD) = k := Option.some.inj (show some (.inl 5 : KD) = some k from h)
  subst e
  refine (congrArg (fun q => (ch11 w b n)[q]?) (show prmC.getD 18 0 = 177 + 4 from by decide)).trans ?_
  refine (bk11_11 w b n 4 (by decide)).trans ?_
  show _ = some ((.inl (w.2.1.1, 5, .inl (fun _ => 0))) : va_E)
  rfl
theorem plC_19 (w : Wp) (b n : Nat) : plC w b n 19 := fun k h => by
  have e : (.inl 5 : KD) = k := Option.some.inj (show some (.inl 5 : KD) = some k from h)
  subst e
  refine (congrArg (fun q => (ch11 w b n)[q]?) (show prmC.getD 19 0 = 177 + 5 from by decide)).trans ?_
  refine (bk11_11 w b n 5 (by decide)).trans ?_
  show _ = some ((.inl (w.2.1.1, 5, .inl (fun _ => 0))) : va_E)
  rfl
theorem plC_20 (w : Wp) (b n : Nat) : plC w b n 20 := fun k h => by
  have e : (.inl 5 : KD) = k := Option.some.inj (show some (.inl 5 : KD) = some k from h)
  subst e
  refine (congrArg (fun q => (ch11 w b n)[q]?) (show prmC.getD 20 0 = 177 + 6 from by decide)).trans ?_
  refine (bk11_11 w b n 6 (by decide)).trans ?_
  show _ = some ((.inl (w.2.1.1, 5, .inl (fun _ => 0))) : va_E)
  rfl
theorem plC_21 (w : Wp) (b n : Nat) : plC w b n 21 := fun k h => by
  have e : (.inr (.inl (7, [some 22, some 23, some 24, some 25, some 26, none, none, none, none])) : KD) = k := Option.some.inj (show some (.inr (.inl (7, [some 22, some 23, some 24, some 25, some 26, none, none, none, none])) : KD) = some k from h)
  subst e
  refine (congrArg (fun q => (ch11 w b n)[q]?) (show prmC.getD 21 0 = 184 + 0 from by decide)).trans ?_
  refine (bk11_12 w b n 0 (by decide)).trans ?_
  show _ = some ((.inr (7, [.ref (adC b n 22), .ref (adC b n 23), .ref (adC b n 24), .ref (adC b n 25), .ref (adC b n 26), .int 0, .int 0, .int 1, .int 0])) : va_E)
  rw [adC_eq (p := 22) (q := 185) (by decide), adC_eq (p := 23) (q := 186) (by decide), adC_eq (p := 24) (q := 187) (by decide), adC_eq (p := 25) (q := 188) (by decide), adC_eq (p := 26) (q := 189) (by decide)]
  rfl
theorem plC_22 (w : Wp) (b n : Nat) : plC w b n 22 := fun k h => by
  have e : (.inl 6 : KD) = k := Option.some.inj (show some (.inl 6 : KD) = some k from h)
  subst e
  refine (congrArg (fun q => (ch11 w b n)[q]?) (show prmC.getD 22 0 = 184 + 1 from by decide)).trans ?_
  refine (bk11_12 w b n 1 (by decide)).trans ?_
  show _ = some ((.inl (w.2.1.1, 6, .inl (fun _ => 0))) : va_E)
  rfl
theorem plC_23 (w : Wp) (b n : Nat) : plC w b n 23 := fun k h => by
  have e : (.inl 6 : KD) = k := Option.some.inj (show some (.inl 6 : KD) = some k from h)
  subst e
  refine (congrArg (fun q => (ch11 w b n)[q]?) (show prmC.getD 23 0 = 184 + 2 from by decide)).trans ?_
  refine (bk11_12 w b n 2 (by decide)).trans ?_
  show _ = some ((.inl (w.2.1.1, 6, .inl (fun _ => 0))) : va_E)
  rfl
theorem plC_24 (w : Wp) (b n : Nat) : plC w b n 24 := fun k h => by
  have e : (.inl 6 : KD) = k := Option.some.inj (show some (.inl 6 : KD) = some k from h)
  subst e
  refine (congrArg (fun q => (ch11 w b n)[q]?) (show prmC.getD 24 0 = 184 + 3 from by decide)).trans ?_
  refine (bk11_12 w b n 3 (by decide)).trans ?_
  show _ = some ((.inl (w.2.1.1, 6, .inl (fun _ => 0))) : va_E)
  rfl
theorem plC_25 (w : Wp) (b n : Nat) : plC w b n 25 := fun k h => by
  have e : (.inl 448 : KD) = k := Option.some.inj (show some (.inl 448 : KD) = some k from h)
  subst e
  refine (congrArg (fun q => (ch11 w b n)[q]?) (show prmC.getD 25 0 = 184 + 4 from by decide)).trans ?_
  refine (bk11_12 w b n 4 (by decide)).trans ?_
  show _ = some ((.inl (w.2.1.1, 448, .inl (fun _ => 0))) : va_E)
  rfl
theorem plC_26 (w : Wp) (b n : Nat) : plC w b n 26 := fun k h => by
  have e : (.inl 448 : KD) = k := Option.some.inj (show some (.inl 448 : KD) = some k from h)
  subst e
  refine (congrArg (fun q => (ch11 w b n)[q]?) (show prmC.getD 26 0 = 184 + 5 from by decide)).trans ?_
  refine (bk11_12 w b n 5 (by decide)).trans ?_
  show _ = some ((.inl (w.2.1.1, 448, .inl (fun _ => 0))) : va_E)
  rfl
theorem plC_27 (w : Wp) (b n : Nat) : plC w b n 27 := fun k h => by
  have e : (.inr (.inl (1, [some 28, some 29, some 30, none, none])) : KD) = k := Option.some.inj (show some (.inr (.inl (1, [some 28, some 29, some 30, none, none])) : KD) = some k from h)
  subst e
  refine (congrArg (fun q => (ch11 w b n)[q]?) (show prmC.getD 27 0 = 190 + 0 from by decide)).trans ?_
  refine (bk11_13 w b n 0 (by decide)).trans ?_
  show _ = some ((.inr (1, [.ref (adC b n 28), .ref (adC b n 29), .ref (adC b n 30), .int 0, .int 0])) : va_E)
  rw [adC_eq (p := 28) (q := 191) (by decide), adC_eq (p := 29) (q := 192) (by decide), adC_eq (p := 30) (q := 193) (by decide)]
  rfl
theorem plC_28 (w : Wp) (b n : Nat) : plC w b n 28 := fun k h => by
  have e : (.inl 36 : KD) = k := Option.some.inj (show some (.inl 36 : KD) = some k from h)
  subst e
  refine (congrArg (fun q => (ch11 w b n)[q]?) (show prmC.getD 28 0 = 190 + 1 from by decide)).trans ?_
  refine (bk11_13 w b n 1 (by decide)).trans ?_
  show _ = some ((.inl (w.2.1.1, 36, .inl (fun _ => 0))) : va_E)
  rfl
theorem plC_29 (w : Wp) (b n : Nat) : plC w b n 29 := fun k h => by
  have e : (.inl 64 : KD) = k := Option.some.inj (show some (.inl 64 : KD) = some k from h)
  subst e
  refine (congrArg (fun q => (ch11 w b n)[q]?) (show prmC.getD 29 0 = 190 + 2 from by decide)).trans ?_
  refine (bk11_13 w b n 2 (by decide)).trans ?_
  show _ = some ((.inl (w.2.1.1, 64, .inl (fun _ => 0))) : va_E)
  rfl
theorem plC_30 (w : Wp) (b n : Nat) : plC w b n 30 := fun k h => by
  have e : (.inl 384 : KD) = k := Option.some.inj (show some (.inl 384 : KD) = some k from h)
  subst e
  refine (congrArg (fun q => (ch11 w b n)[q]?) (show prmC.getD 30 0 = 190 + 3 from by decide)).trans ?_
  refine (bk11_13 w b n 3 (by decide)).trans ?_
  show _ = some ((.inl (w.2.1.1, 384, .inl (fun _ => 0))) : va_E)
  rfl
theorem plC_31 (w : Wp) (b n : Nat) : plC w b n 31 := fun k h => by
  have e : (.inr (.inr [74, 84, 94, 104, 114, 124, 134, 144, 154, 164, 174, 184]) : KD) = k := Option.some.inj (show some (.inr (.inr [74, 84, 94, 104, 114, 124, 134, 144, 154, 164, 174, 184]) : KD) = some k from h)
  subst e
  have hf : (va_up (va_up (va_up (va_up (va_up (va_up (va_up (va_up (va_up (va_up (va_up (va_up (fun _ => none) 0 (some (b + ((n + 47) + 2)))) 1 (some (b + ((n + 47) + 12)))) 2 (some (b + ((n + 47) + 22)))) 3 (some (b + ((n + 47) + 32)))) 4 (some (b + ((n + 47) + 42)))) 5 (some (b + ((n + 47) + 52)))) 6 (some (b + ((n + 47) + 62)))) 7 (some (b + ((n + 47) + 72)))) 8 (some (b + ((n + 47) + 82)))) 9 (some (b + ((n + 47) + 92)))) 10 (some (b + ((n + 47) + 102)))) 11 (some (b + ((n + 47) + 112)))) = (fun k => (([74, 84, 94, 104, 114, 124, 134, 144, 154, 164, 174, 184] : List Nat)[k]?).map (adC b n)) := by
    funext k
    match k with
    | 0 => rfl
    | 1 => rfl
    | 2 => rfl
    | 3 => rfl
    | 4 => rfl
    | 5 => rfl
    | 6 => rfl
    | 7 => rfl
    | 8 => rfl
    | 9 => rfl
    | 10 => rfl
    | 11 => rfl
    | k + 12 => simp [va_up]
  refine (congrArg (fun q => (ch11 w b n)[q]?) (show prmC.getD 31 0 = 47 + 1 from by decide)).trans ?_
  refine (bk11_8 w b n 1 (by decide)).trans ?_
  show some ((.inl (w.2.1.2, 12, .inr (.inr (.inr (.inr (va_up (va_up (va_up (va_up (va_up (va_up (va_up (va_up (va_up (va_up (va_up (va_up (fun _ => none) 0 (some (b + ((n + 47) + 2)))) 1 (some (b + ((n + 47) + 12)))) 2 (some (b + ((n + 47) + 22)))) 3 (some (b + ((n + 47) + 32)))) 4 (some (b + ((n + 47) + 42)))) 5 (some (b + ((n + 47) + 52)))) 6 (some (b + ((n + 47) + 62)))) 7 (some (b + ((n + 47) + 72)))) 8 (some (b + ((n + 47) + 82)))) 9 (some (b + ((n + 47) + 92)))) 10 (some (b + ((n + 47) + 102)))) 11 (some (b + ((n + 47) + 112))))))))) : va_E) = some ((.inl (w.2.1.2, 12, .inr (.inr (.inr (.inr (fun k => (([74, 84, 94, 104, 114, 124, 134, 144, 154, 164, 174, 184] : List Nat)[k]?).map (adC b n))))))) : va_E)
  rw [hf]
theorem plC_32 (w : Wp) (b n : Nat) : plC w b n 32 := fun k h => by
  have e : (.inr (.inl (2, [some 33, some 34, some 35, none, none, none, none])) : KD) = k := Option.some.inj (show some (.inr (.inl (2, [some 33, some 34, some 35, none, none, none, none])) : KD) = some k from h)
  subst e
  refine (congrArg (fun q => (ch11 w b n)[q]?) (show prmC.getD 32 0 = 23 + 0 from by decide)).trans ?_
  refine (bk11_3 w b n 0 (by decide)).trans ?_
  show _ = some ((.inr (2, [.ref (adC b n 33), .ref (adC b n 34), .ref (adC b n 35), .int 0, .int (-1), .int 0, .int 0])) : va_E)
  rw [adC_eq (p := 33) (q := 24) (by decide), adC_eq (p := 34) (q := 25) (by decide), adC_eq (p := 35) (q := 26) (by decide)]
  rfl
theorem plC_33 (w : Wp) (b n : Nat) : plC w b n 33 := fun k h => by
  have e : (.inl 412 : KD) = k := Option.some.inj (show some (.inl 412 : KD) = some k from h)
  subst e
  refine (congrArg (fun q => (ch11 w b n)[q]?) (show prmC.getD 33 0 = 23 + 1 from by decide)).trans ?_
  refine (bk11_3 w b n 1 (by decide)).trans ?_
  show _ = some ((.inl (w.2.1.1, 412, .inl (fun _ => 0))) : va_E)
  rfl
theorem plC_34 (w : Wp) (b n : Nat) : plC w b n 34 := fun k h => by
  have e : (.inl 32 : KD) = k := Option.some.inj (show some (.inl 32 : KD) = some k from h)
  subst e
  refine (congrArg (fun q => (ch11 w b n)[q]?) (show prmC.getD 34 0 = 23 + 2 from by decide)).trans ?_
  refine (bk11_3 w b n 2 (by decide)).trans ?_
  show _ = some ((.inl (w.2.1.1, 32, .inl (fun _ => 0))) : va_E)
  rfl
theorem plC_35 (w : Wp) (b n : Nat) : plC w b n 35 := fun k h => by
  have e : (.inl 9 : KD) = k := Option.some.inj (show some (.inl 9 : KD) = some k from h)
  subst e
  refine (congrArg (fun q => (ch11 w b n)[q]?) (show prmC.getD 35 0 = 23 + 3 from by decide)).trans ?_
  refine (bk11_3 w b n 3 (by decide)).trans ?_
  show _ = some ((.inl (w.2.1.1, 9, .inl (fun _ => 0))) : va_E)
  rfl
theorem plC_36 (w : Wp) (b n : Nat) : plC w b n 36 := fun k h => by
  have e : (.inr (.inl (2, [some 37, some 38, some 39, none, none, none, none])) : KD) = k := Option.some.inj (show some (.inr (.inl (2, [some 37, some 38, some 39, none, none, none, none])) : KD) = some k from h)
  subst e
  refine (congrArg (fun q => (ch11 w b n)[q]?) (show prmC.getD 36 0 = 27 + 0 from by decide)).trans ?_
  refine (bk11_4 w b n 0 (by decide)).trans ?_
  show _ = some ((.inr (2, [.ref (adC b n 37), .ref (adC b n 38), .ref (adC b n 39), .int 0, .int (-1), .int 0, .int 0])) : va_E)
  rw [adC_eq (p := 37) (q := 28) (by decide), adC_eq (p := 38) (q := 29) (by decide), adC_eq (p := 39) (q := 30) (by decide)]
  rfl
theorem plC_37 (w : Wp) (b n : Nat) : plC w b n 37 := fun k h => by
  have e : (.inl 412 : KD) = k := Option.some.inj (show some (.inl 412 : KD) = some k from h)
  subst e
  refine (congrArg (fun q => (ch11 w b n)[q]?) (show prmC.getD 37 0 = 27 + 1 from by decide)).trans ?_
  refine (bk11_4 w b n 1 (by decide)).trans ?_
  show _ = some ((.inl (w.2.1.1, 412, .inl (fun _ => 0))) : va_E)
  rfl
theorem plC_38 (w : Wp) (b n : Nat) : plC w b n 38 := fun k h => by
  have e : (.inl 32 : KD) = k := Option.some.inj (show some (.inl 32 : KD) = some k from h)
  subst e
  refine (congrArg (fun q => (ch11 w b n)[q]?) (show prmC.getD 38 0 = 27 + 2 from by decide)).trans ?_
  refine (bk11_4 w b n 2 (by decide)).trans ?_
  show _ = some ((.inl (w.2.1.1, 32, .inl (fun _ => 0))) : va_E)
  rfl
theorem plC_39 (w : Wp) (b n : Nat) : plC w b n 39 := fun k h => by
  have e : (.inl 9 : KD) = k := Option.some.inj (show some (.inl 9 : KD) = some k from h)
  subst e
  refine (congrArg (fun q => (ch11 w b n)[q]?) (show prmC.getD 39 0 = 27 + 3 from by decide)).trans ?_
  refine (bk11_4 w b n 3 (by decide)).trans ?_
  show _ = some ((.inl (w.2.1.1, 9, .inl (fun _ => 0))) : va_E)
  rfl
theorem plC_40 (w : Wp) (b n : Nat) : plC w b n 40 := fun k h => by
  have e : (.inr (.inl (2, [some 41, some 42, some 43, none, none, none, none])) : KD) = k := Option.some.inj (show some (.inr (.inl (2, [some 41, some 42, some 43, none, none, none, none])) : KD) = some k from h)
  subst e
  refine (congrArg (fun q => (ch11 w b n)[q]?) (show prmC.getD 40 0 = 43 + 0 from by decide)).trans ?_
  refine (bk11_7 w b n 0 (by decide)).trans ?_
  show _ = some ((.inr (2, [.ref (adC b n 41), .ref (adC b n 42), .ref (adC b n 43), .int 0, .int (-1), .int 0, .int 0])) : va_E)
  rw [adC_eq (p := 41) (q := 44) (by decide), adC_eq (p := 42) (q := 45) (by decide), adC_eq (p := 43) (q := 46) (by decide)]
  rfl
theorem plC_41 (w : Wp) (b n : Nat) : plC w b n 41 := fun k h => by
  have e : (.inl 412 : KD) = k := Option.some.inj (show some (.inl 412 : KD) = some k from h)
  subst e
  refine (congrArg (fun q => (ch11 w b n)[q]?) (show prmC.getD 41 0 = 43 + 1 from by decide)).trans ?_
  refine (bk11_7 w b n 1 (by decide)).trans ?_
  show _ = some ((.inl (w.2.1.1, 412, .inl (fun _ => 0))) : va_E)
  rfl
theorem plC_42 (w : Wp) (b n : Nat) : plC w b n 42 := fun k h => by
  have e : (.inl 32 : KD) = k := Option.some.inj (show some (.inl 32 : KD) = some k from h)
  subst e
  refine (congrArg (fun q => (ch11 w b n)[q]?) (show prmC.getD 42 0 = 43 + 2 from by decide)).trans ?_
  refine (bk11_7 w b n 2 (by decide)).trans ?_
  show _ = some ((.inl (w.2.1.1, 32, .inl (fun _ => 0))) : va_E)
  rfl
theorem plC_43 (w : Wp) (b n : Nat) : plC w b n 43 := fun k h => by
  have e : (.inl 9 : KD) = k := Option.some.inj (show some (.inl 9 : KD) = some k from h)
  subst e
  refine (congrArg (fun q => (ch11 w b n)[q]?) (show prmC.getD 43 0 = 43 + 3 from by decide)).trans ?_
  refine (bk11_7 w b n 3 (by decide)).trans ?_
  show _ = some ((.inl (w.2.1.1, 9, .inl (fun _ => 0))) : va_E)
  rfl
theorem plC_44 (w : Wp) (b n : Nat) : plC w b n 44 := fun k h => by
  have e : (.inr (.inl (10, [some 45, some 46, some 47, some 48, some 49, some 50, some 51, some 52, none, none, none, none, none, none, none, none, none])) : KD) = k := Option.some.inj (show some (.inr (.inl (10, [some 45, some 46, some 47, some 48, some 49, some 50, some 51, some 52, none, none, none, none, none, none, none, none, none])) : KD) = some k from h)
  subst e
  refine (congrArg (fun q => (ch11 w b n)[q]?) (show prmC.getD 44 0 = 3 + 0 from by decide)).trans ?_
  refine (bk11_1 w b n 0 (by decide)).trans ?_
  show _ = some ((.inr (10, [.ref (adC b n 45), .ref (adC b n 46), .ref (adC b n 47), .ref (adC b n 48), .ref (adC b n 49), .ref (adC b n 50), .ref (adC b n 51), .ref (adC b n 52), .int 0, .int 0, .int 0, .int 0, .int 0, .int 0, .int 0, .int 1, .int 0])) : va_E)
  rw [adC_eq (p := 45) (q := 4) (by decide), adC_eq (p := 46) (q := 5) (by decide), adC_eq (p := 47) (q := 6) (by decide), adC_eq (p := 48) (q := 7) (by decide), adC_eq (p := 49) (q := 8) (by decide), adC_eq (p := 50) (q := 9) (by decide), adC_eq (p := 51) (q := 10) (by decide), adC_eq (p := 52) (q := 11) (by decide)]
  rfl
theorem plC_45 (w : Wp) (b n : Nat) : plC w b n 45 := fun k h => by
  have e : (.inl 6 : KD) = k := Option.some.inj (show some (.inl 6 : KD) = some k from h)
  subst e
  refine (congrArg (fun q => (ch11 w b n)[q]?) (show prmC.getD 45 0 = 3 + 1 from by decide)).trans ?_
  refine (bk11_1 w b n 1 (by decide)).trans ?_
  show _ = some ((.inl (w.2.1.1, 6, .inl (fun _ => 0))) : va_E)
  rfl
theorem plC_46 (w : Wp) (b n : Nat) : plC w b n 46 := fun k h => by
  have e : (.inl 6 : KD) = k := Option.some.inj (show some (.inl 6 : KD) = some k from h)
  subst e
  refine (congrArg (fun q => (ch11 w b n)[q]?) (show prmC.getD 46 0 = 3 + 2 from by decide)).trans ?_
  refine (bk11_1 w b n 2 (by decide)).trans ?_
  show _ = some ((.inl (w.2.1.1, 6, .inl (fun _ => 0))) : va_E)
  rfl
theorem plC_47 (w : Wp) (b n : Nat) : plC w b n 47 := fun k h => by
  have e : (.inl 6 : KD) = k := Option.some.inj (show some (.inl 6 : KD) = some k from h)
  subst e
  refine (congrArg (fun q => (ch11 w b n)[q]?) (show prmC.getD 47 0 = 3 + 3 from by decide)).trans ?_
  refine (bk11_1 w b n 3 (by decide)).trans ?_
  show _ = some ((.inl (w.2.1.1, 6, .inl (fun _ => 0))) : va_E)
  rfl
theorem plC_48 (w : Wp) (b n : Nat) : plC w b n 48 := fun k h => by
  have e : (.inl 6 : KD) = k := Option.some.inj (show some (.inl 6 : KD) = some k from h)
  subst e
  refine (congrArg (fun q => (ch11 w b n)[q]?) (show prmC.getD 48 0 = 3 + 4 from by decide)).trans ?_
  refine (bk11_1 w b n 4 (by decide)).trans ?_
  show _ = some ((.inl (w.2.1.1, 6, .inl (fun _ => 0))) : va_E)
  rfl
theorem plC_49 (w : Wp) (b n : Nat) : plC w b n 49 := fun k h => by
  have e : (.inl 6 : KD) = k := Option.some.inj (show some (.inl 6 : KD) = some k from h)
  subst e
  refine (congrArg (fun q => (ch11 w b n)[q]?) (show prmC.getD 49 0 = 3 + 5 from by decide)).trans ?_
  refine (bk11_1 w b n 5 (by decide)).trans ?_
  show _ = some ((.inl (w.2.1.1, 6, .inl (fun _ => 0))) : va_E)
  rfl
theorem plC_50 (w : Wp) (b n : Nat) : plC w b n 50 := fun k h => by
  have e : (.inl 36 : KD) = k := Option.some.inj (show some (.inl 36 : KD) = some k from h)
  subst e
  refine (congrArg (fun q => (ch11 w b n)[q]?) (show prmC.getD 50 0 = 3 + 6 from by decide)).trans ?_
  refine (bk11_1 w b n 6 (by decide)).trans ?_
  show _ = some ((.inl (w.2.1.1, 36, .inl (fl9 (fun _ => 0) 36 5))) : va_E)
  rfl
theorem plC_51 (w : Wp) (b n : Nat) : plC w b n 51 := fun k h => by
  have e : (.inl 4 : KD) = k := Option.some.inj (show some (.inl 4 : KD) = some k from h)
  subst e
  refine (congrArg (fun q => (ch11 w b n)[q]?) (show prmC.getD 51 0 = 3 + 7 from by decide)).trans ?_
  refine (bk11_1 w b n 7 (by decide)).trans ?_
  show _ = some ((.inl (w.2.1.1, 4, .inl (fl9 (fun _ => 0) 4 5))) : va_E)
  rfl
theorem plC_52 (w : Wp) (b n : Nat) : plC w b n 52 := fun k h => by
  have e : (.inr (.inl (3, [some 53, none, none])) : KD) = k := Option.some.inj (show some (.inr (.inl (3, [some 53, none, none])) : KD) = some k from h)
  subst e
  refine (congrArg (fun q => (ch11 w b n)[q]?) (show prmC.getD 52 0 = 3 + 8 from by decide)).trans ?_
  refine (bk11_1 w b n 8 (by decide)).trans ?_
  show _ = some ((.inr (3, [.ref (adC b n 53), .int 0, .int 0])) : va_E)
  rw [adC_eq (p := 53) (q := 12) (by decide)]
  rfl
theorem plC_53 (w : Wp) (b n : Nat) : plC w b n 53 := fun k h => by
  have e : (.inl 240 : KD) = k := Option.some.inj (show some (.inl 240 : KD) = some k from h)
  subst e
  refine (congrArg (fun q => (ch11 w b n)[q]?) (show prmC.getD 53 0 = 3 + 9 from by decide)).trans ?_
  refine (bk11_1 w b n 9 (by decide)).trans ?_
  show _ = some ((.inl (w.2.1.1, 240, .inl (fun _ => 0))) : va_E)
  rfl
theorem plC_54 (w : Wp) (b n : Nat) : plC w b n 54 := fun k h => by
  have e : (.inr (.inl (10, [some 55, some 56, some 57, some 58, some 59, some 60, some 61, some 62, none, none, none, none, none, none, none, none, none])) : KD) = k := Option.some.inj (show some (.inr (.inl (10, [some 55, some 56, some 57, some 58, some 59, some 60, some 61, some 62, none, none, none, none, none, none, none, none, none])) : KD) = some k from h)
  subst e
  refine (congrArg (fun q => (ch11 w b n)[q]?) (show prmC.getD 54 0 = 13 + 0 from by decide)).trans ?_
  refine (bk11_2 w b n 0 (by decide)).trans ?_
  show _ = some ((.inr (10, [.ref (adC b n 55), .ref (adC b n 56), .ref (adC b n 57), .ref (adC b n 58), .ref (adC b n 59), .ref (adC b n 60), .ref (adC b n 61), .ref (adC b n 62), .int 0, .int 0, .int 0, .int 0, .int 0, .int 0, .int 0, .int 1, .int 0])) : va_E)
  rw [adC_eq (p := 55) (q := 14) (by decide), adC_eq (p := 56) (q := 15) (by decide), adC_eq (p := 57) (q := 16) (by decide), adC_eq (p := 58) (q := 17) (by decide), adC_eq (p := 59) (q := 18) (by decide), adC_eq (p := 60) (q := 19) (by decide), adC_eq (p := 61) (q := 20) (by decide), adC_eq (p := 62) (q := 21) (by decide)]
  rfl
theorem plC_55 (w : Wp) (b n : Nat) : plC w b n 55 := fun k h => by
  have e : (.inl 6 : KD) = k := Option.some.inj (show some (.inl 6 : KD) = some k from h)
  subst e
  refine (congrArg (fun q => (ch11 w b n)[q]?) (show prmC.getD 55 0 = 13 + 1 from by decide)).trans ?_
  refine (bk11_2 w b n 1 (by decide)).trans ?_
  show _ = some ((.inl (w.2.1.1, 6, .inl (fun _ => 0))) : va_E)
  rfl
theorem plC_56 (w : Wp) (b n : Nat) : plC w b n 56 := fun k h => by
  have e : (.inl 6 : KD) = k := Option.some.inj (show some (.inl 6 : KD) = some k from h)
  subst e
  refine (congrArg (fun q => (ch11 w b n)[q]?) (show prmC.getD 56 0 = 13 + 2 from by decide)).trans ?_
  refine (bk11_2 w b n 2 (by decide)).trans ?_
  show _ = some ((.inl (w.2.1.1, 6, .inl (fun _ => 0))) : va_E)
  rfl
theorem plC_57 (w : Wp) (b n : Nat) : plC w b n 57 := fun k h => by
  have e : (.inl 6 : KD) = k := Option.some.inj (show some (.inl 6 : KD) = some k from h)
  subst e
  refine (congrArg (fun q => (ch11 w b n)[q]?) (show prmC.getD 57 0 = 13 + 3 from by decide)).trans ?_
  refine (bk11_2 w b n 3 (by decide)).trans ?_
  show _ = some ((.inl (w.2.1.1, 6, .inl (fun _ => 0))) : va_E)
  rfl
theorem plC_58 (w : Wp) (b n : Nat) : plC w b n 58 := fun k h => by
  have e : (.inl 6 : KD) = k := Option.some.inj (show some (.inl 6 : KD) = some k from h)
  subst e
  refine (congrArg (fun q => (ch11 w b n)[q]?) (show prmC.getD 58 0 = 13 + 4 from by decide)).trans ?_
  refine (bk11_2 w b n 4 (by decide)).trans ?_
  show _ = some ((.inl (w.2.1.1, 6, .inl (fun _ => 0))) : va_E)
  rfl
theorem plC_59 (w : Wp) (b n : Nat) : plC w b n 59 := fun k h => by
  have e : (.inl 6 : KD) = k := Option.some.inj (show some (.inl 6 : KD) = some k from h)
  subst e
  refine (congrArg (fun q => (ch11 w b n)[q]?) (show prmC.getD 59 0 = 13 + 5 from by decide)).trans ?_
  refine (bk11_2 w b n 5 (by decide)).trans ?_
  show _ = some ((.inl (w.2.1.1, 6, .inl (fun _ => 0))) : va_E)
  rfl
theorem plC_60 (w : Wp) (b n : Nat) : plC w b n 60 := fun k h => by
  have e : (.inl 36 : KD) = k := Option.some.inj (show some (.inl 36 : KD) = some k from h)
  subst e
  refine (congrArg (fun q => (ch11 w b n)[q]?) (show prmC.getD 60 0 = 13 + 6 from by decide)).trans ?_
  refine (bk11_2 w b n 6 (by decide)).trans ?_
  show _ = some ((.inl (w.2.1.1, 36, .inl (fl9 (fun _ => 0) 36 5))) : va_E)
  rfl
theorem plC_61 (w : Wp) (b n : Nat) : plC w b n 61 := fun k h => by
  have e : (.inl 4 : KD) = k := Option.some.inj (show some (.inl 4 : KD) = some k from h)
  subst e
  refine (congrArg (fun q => (ch11 w b n)[q]?) (show prmC.getD 61 0 = 13 + 7 from by decide)).trans ?_
  refine (bk11_2 w b n 7 (by decide)).trans ?_
  show _ = some ((.inl (w.2.1.1, 4, .inl (fl9 (fun _ => 0) 4 5))) : va_E)
  rfl
theorem plC_62 (w : Wp) (b n : Nat) : plC w b n 62 := fun k h => by
  have e : (.inr (.inl (3, [some 63, none, none])) : KD) = k := Option.some.inj (show some (.inr (.inl (3, [some 63, none, none])) : KD) = some k from h)
  subst e
  refine (congrArg (fun q => (ch11 w b n)[q]?) (show prmC.getD 62 0 = 13 + 8 from by decide)).trans ?_
  refine (bk11_2 w b n 8 (by decide)).trans ?_
  show _ = some ((.inr (3, [.ref (adC b n 63), .int 0, .int 0])) : va_E)
  rw [adC_eq (p := 63) (q := 22) (by decide)]
  rfl
theorem plC_63 (w : Wp) (b n : Nat) : plC w b n 63 := fun k h => by
  have e : (.inl 240 : KD) = k := Option.some.inj (show some (.inl 240 : KD) = some k from h)
  subst e
  refine (congrArg (fun q => (ch11 w b n)[q]?) (show prmC.getD 63 0 = 13 + 9 from by decide)).trans ?_
  refine (bk11_2 w b n 9 (by decide)).trans ?_
  show _ = some ((.inl (w.2.1.1, 240, .inl (fun _ => 0))) : va_E)
  rfl
theorem plC_64 (w : Wp) (b n : Nat) : plC w b n 64 := fun k h => by
  have e : (.inr (.inl (10, [some 65, some 66, some 67, some 68, some 69, some 70, some 71, some 72, none, none, none, none, none, none, none, none, none])) : KD) = k := Option.some.inj (show some (.inr (.inl (10, [some 65, some 66, some 67, some 68, some 69, some 70, some 71, some 72, none, none, none, none, none, none, none, none, none])) : KD) = some k from h)
  subst e
  refine (congrArg (fun q => (ch11 w b n)[q]?) (show prmC.getD 64 0 = 33 + 0 from by decide)).trans ?_
  refine (bk11_6 w b n 0 (by decide)).trans ?_
  show _ = some ((.inr (10, [.ref (adC b n 65), .ref (adC b n 66), .ref (adC b n 67), .ref (adC b n 68), .ref (adC b n 69), .ref (adC b n 70), .ref (adC b n 71), .ref (adC b n 72), .int 0, .int 0, .int 0, .int 0, .int 0, .int 0, .int 0, .int 1, .int 0])) : va_E)
  rw [adC_eq (p := 65) (q := 34) (by decide), adC_eq (p := 66) (q := 35) (by decide), adC_eq (p := 67) (q := 36) (by decide), adC_eq (p := 68) (q := 37) (by decide), adC_eq (p := 69) (q := 38) (by decide), adC_eq (p := 70) (q := 39) (by decide), adC_eq (p := 71) (q := 40) (by decide), adC_eq (p := 72) (q := 41) (by decide)]
  rfl
theorem plC_65 (w : Wp) (b n : Nat) : plC w b n 65 := fun k h => by
  have e : (.inl 6 : KD) = k := Option.some.inj (show some (.inl 6 : KD) = some k from h)
  subst e
  refine (congrArg (fun q => (ch11 w b n)[q]?) (show prmC.getD 65 0 = 33 + 1 from by decide)).trans ?_
  refine (bk11_6 w b n 1 (by decide)).trans ?_
  show _ = some ((.inl (w.2.1.1, 6, .inl (fun _ => 0))) : va_E)
  rfl
theorem plC_66 (w : Wp) (b n : Nat) : plC w b n 66 := fun k h => by
  have e : (.inl 6 : KD) = k := Option.some.inj (show some (.inl 6 : KD) = some k from h)
  subst e
  refine (congrArg (fun q => (ch11 w b n)[q]?) (show prmC.getD 66 0 = 33 + 2 from by decide)).trans ?_
  refine (bk11_6 w b n 2 (by decide)).trans ?_
  show _ = some ((.inl (w.2.1.1, 6, .inl (fun _ => 0))) : va_E)
  rfl
theorem plC_67 (w : Wp) (b n : Nat) : plC w b n 67 := fun k h => by
  have e : (.inl 6 : KD) = k := Option.some.inj (show some (.inl 6 : KD) = some k from h)
  subst e
  refine (congrArg (fun q => (ch11 w b n)[q]?) (show prmC.getD 67 0 = 33 + 3 from by decide)).trans ?_
  refine (bk11_6 w b n 3 (by decide)).trans ?_
  show _ = some ((.inl (w.2.1.1, 6, .inl (fun _ => 0))) : va_E)
  rfl
theorem plC_68 (w : Wp) (b n : Nat) : plC w b n 68 := fun k h => by
  have e : (.inl 6 : KD) = k := Option.some.inj (show some (.inl 6 : KD) = some k from h)
  subst e
  refine (congrArg (fun q => (ch11 w b n)[q]?) (show prmC.getD 68 0 = 33 + 4 from by decide)).trans ?_
  refine (bk11_6 w b n 4 (by decide)).trans ?_
  show _ = some ((.inl (w.2.1.1, 6, .inl (fun _ => 0))) : va_E)
  rfl
theorem plC_69 (w : Wp) (b n : Nat) : plC w b n 69 := fun k h => by
  have e : (.inl 6 : KD) = k := Option.some.inj (show some (.inl 6 : KD) = some k from h)
  subst e
  refine (congrArg (fun q => (ch11 w b n)[q]?) (show prmC.getD 69 0 = 33 + 5 from by decide)).trans ?_
  refine (bk11_6 w b n 5 (by decide)).trans ?_
  show _ = some ((.inl (w.2.1.1, 6, .inl (fun _ => 0))) : va_E)
  rfl
theorem plC_70 (w : Wp) (b n : Nat) : plC w b n 70 := fun k h => by
  have e : (.inl 36 : KD) = k := Option.some.inj (show some (.inl 36 : KD) = some k from h)
  subst e
  refine (congrArg (fun q => (ch11 w b n)[q]?) (show prmC.getD 70 0 = 33 + 6 from by decide)).trans ?_
  refine (bk11_6 w b n 6 (by decide)).trans ?_
  show _ = some ((.inl (w.2.1.1, 36, .inl (fl9 (fun _ => 0) 36 5))) : va_E)
  rfl
theorem plC_71 (w : Wp) (b n : Nat) : plC w b n 71 := fun k h => by
  have e : (.inl 4 : KD) = k := Option.some.inj (show some (.inl 4 : KD) = some k from h)
  subst e
  refine (congrArg (fun q => (ch11 w b n)[q]?) (show prmC.getD 71 0 = 33 + 7 from by decide)).trans ?_
  refine (bk11_6 w b n 7 (by decide)).trans ?_
  show _ = some ((.inl (w.2.1.1, 4, .inl (fl9 (fun _ => 0) 4 5))) : va_E)
  rfl
theorem plC_72 (w : Wp) (b n : Nat) : plC w b n 72 := fun k h => by
  have e : (.inr (.inl (3, [some 73, none, none])) : KD) = k := Option.some.inj (show some (.inr (.inl (3, [some 73, none, none])) : KD) = some k from h)
  subst e
  refine (congrArg (fun q => (ch11 w b n)[q]?) (show prmC.getD 72 0 = 33 + 8 from by decide)).trans ?_
  refine (bk11_6 w b n 8 (by decide)).trans ?_
  show _ = some ((.inr (3, [.ref (adC b n 73), .int 0, .int 0])) : va_E)
  rw [adC_eq (p := 73) (q := 42) (by decide)]
  rfl
theorem plC_73 (w : Wp) (b n : Nat) : plC w b n 73 := fun k h => by
  have e : (.inl 240 : KD) = k := Option.some.inj (show some (.inl 240 : KD) = some k from h)
  subst e
  refine (congrArg (fun q => (ch11 w b n)[q]?) (show prmC.getD 73 0 = 33 + 9 from by decide)).trans ?_
  refine (bk11_6 w b n 9 (by decide)).trans ?_
  show _ = some ((.inl (w.2.1.1, 240, .inl (fun _ => 0))) : va_E)
  rfl
theorem plC_74 (w : Wp) (b n : Nat) : plC w b n 74 := fun k h => by
  have e : (.inr (.inl (10, [some 75, some 76, some 77, some 78, some 79, some 80, some 81, some 82, none, none, none, none, none, none, none, none, none])) : KD) = k := Option.some.inj (show some (.inr (.inl (10, [some 75, some 76, some 77, some 78, some 79, some 80, some 81, some 82, none, none, none, none, none, none, none, none, none])) : KD) = some k from h)
  subst e
  refine (congrArg (fun q => (ch11 w b n)[q]?) (show prmC.getD 74 0 = 47 + 2 from by decide)).trans ?_
  refine (bk11_8 w b n 2 (by decide)).trans ?_
  refine (congrArg (fun q => (ch4 w b (n + 47))[q]?) (show 2 = 2 + 0 from rfl)).trans ?_
  refine (bk4_0 w b (n + 47) 0 (by decide)).trans ?_
  show _ = some ((.inr (10, [.ref (adC b n 75), .ref (adC b n 76), .ref (adC b n 77), .ref (adC b n 78), .ref (adC b n 79), .ref (adC b n 80), .ref (adC b n 81), .ref (adC b n 82), .int 0, .int 0, .int 0, .int 0, .int 0, .int 0, .int 0, .int 1, .int 0])) : va_E)
  rw [adC_eq (p := 75) (q := 50) (by decide), adC_eq (p := 76) (q := 51) (by decide), adC_eq (p := 77) (q := 52) (by decide), adC_eq (p := 78) (q := 53) (by decide), adC_eq (p := 79) (q := 54) (by decide), adC_eq (p := 80) (q := 55) (by decide), adC_eq (p := 81) (q := 56) (by decide), adC_eq (p := 82) (q := 57) (by decide)]
  rfl
theorem plC_75 (w : Wp) (b n : Nat) : plC w b n 75 := fun k h => by
  have e : (.inl 6 : KD) = k := Option.some.inj (show some (.inl 6 : KD) = some k from h)
  subst e
  refine (congrArg (fun q => (ch11 w b n)[q]?) (show prmC.getD 75 0 = 47 + 3 from by decide)).trans ?_
  refine (bk11_8 w b n 3 (by decide)).trans ?_
  refine (congrArg (fun q => (ch4 w b (n + 47))[q]?) (show 3 = 2 + 1 from rfl)).trans ?_
  refine (bk4_0 w b (n + 47) 1 (by decide)).trans ?_
  show _ = some ((.inl (w.2.1.1, 6, .inl (fun _ => 0))) : va_E)
  rfl
theorem plC_76 (w : Wp) (b n : Nat) : plC w b n 76 := fun k h => by
  have e : (.inl 6 : KD) = k := Option.some.inj (show some (.inl 6 : KD) = some k from h)
  subst e
  refine (congrArg (fun q => (ch11 w b n)[q]?) (show prmC.getD 76 0 = 47 + 4 from by decide)).trans ?_
  refine (bk11_8 w b n 4 (by decide)).trans ?_
  refine (congrArg (fun q => (ch4 w b (n + 47))[q]?) (show 4 = 2 + 2 from rfl)).trans ?_
  refine (bk4_0 w b (n + 47) 2 (by decide)).trans ?_
  show _ = some ((.inl (w.2.1.1, 6, .inl (fun _ => 0))) : va_E)
  rfl
theorem plC_77 (w : Wp) (b n : Nat) : plC w b n 77 := fun k h => by
  have e : (.inl 6 : KD) = k := Option.some.inj (show some (.inl 6 : KD) = some k from h)
  subst e
  refine (congrArg (fun q => (ch11 w b n)[q]?) (show prmC.getD 77 0 = 47 + 5 from by decide)).trans ?_
  refine (bk11_8 w b n 5 (by decide)).trans ?_
  refine (congrArg (fun q => (ch4 w b (n + 47))[q]?) (show 5 = 2 + 3 from rfl)).trans ?_
  refine (bk4_0 w b (n + 47) 3 (by decide)).trans ?_
  show _ = some ((.inl (w.2.1.1, 6, .inl (fun _ => 0))) : va_E)
  rfl
theorem plC_78 (w : Wp) (b n : Nat) : plC w b n 78 := fun k h => by
  have e : (.inl 6 : KD) = k := Option.some.inj (show some (.inl 6 : KD) = some k from h)
  subst e
  refine (congrArg (fun q => (ch11 w b n)[q]?) (show prmC.getD 78 0 = 47 + 6 from by decide)).trans ?_
  refine (bk11_8 w b n 6 (by decide)).trans ?_
  refine (congrArg (fun q => (ch4 w b (n + 47))[q]?) (show 6 = 2 + 4 from rfl)).trans ?_
  refine (bk4_0 w b (n + 47) 4 (by decide)).trans ?_
  show _ = some ((.inl (w.2.1.1, 6, .inl (fun _ => 0))) : va_E)
  rfl
theorem plC_79 (w : Wp) (b n : Nat) : plC w b n 79 := fun k h => by
  have e : (.inl 6 : KD) = k := Option.some.inj (show some (.inl 6 : KD) = some k from h)
  subst e
  refine (congrArg (fun q => (ch11 w b n)[q]?) (show prmC.getD 79 0 = 47 + 7 from by decide)).trans ?_
  refine (bk11_8 w b n 7 (by decide)).trans ?_
  refine (congrArg (fun q => (ch4 w b (n + 47))[q]?) (show 7 = 2 + 5 from rfl)).trans ?_
  refine (bk4_0 w b (n + 47) 5 (by decide)).trans ?_
  show _ = some ((.inl (w.2.1.1, 6, .inl (fun _ => 0))) : va_E)
  rfl
theorem plC_80 (w : Wp) (b n : Nat) : plC w b n 80 := fun k h => by
  have e : (.inl 36 : KD) = k := Option.some.inj (show some (.inl 36 : KD) = some k from h)
  subst e
  refine (congrArg (fun q => (ch11 w b n)[q]?) (show prmC.getD 80 0 = 47 + 8 from by decide)).trans ?_
  refine (bk11_8 w b n 8 (by decide)).trans ?_
  refine (congrArg (fun q => (ch4 w b (n + 47))[q]?) (show 8 = 2 + 6 from rfl)).trans ?_
  refine (bk4_0 w b (n + 47) 6 (by decide)).trans ?_
  show _ = some ((.inl (w.2.1.1, 36, .inl (fl9 (fun _ => 0) 36 5))) : va_E)
  rfl
theorem plC_81 (w : Wp) (b n : Nat) : plC w b n 81 := fun k h => by
  have e : (.inl 4 : KD) = k := Option.some.inj (show some (.inl 4 : KD) = some k from h)
  subst e
  refine (congrArg (fun q => (ch11 w b n)[q]?) (show prmC.getD 81 0 = 47 + 9 from by decide)).trans ?_
  refine (bk11_8 w b n 9 (by decide)).trans ?_
  refine (congrArg (fun q => (ch4 w b (n + 47))[q]?) (show 9 = 2 + 7 from rfl)).trans ?_
  refine (bk4_0 w b (n + 47) 7 (by decide)).trans ?_
  show _ = some ((.inl (w.2.1.1, 4, .inl (fl9 (fun _ => 0) 4 5))) : va_E)
  rfl
theorem plC_82 (w : Wp) (b n : Nat) : plC w b n 82 := fun k h => by
  have e : (.inr (.inl (3, [some 83, none, none])) : KD) = k := Option.some.inj (show some (.inr (.inl (3, [some 83, none, none])) : KD) = some k from h)
  subst e
  refine (congrArg (fun q => (ch11 w b n)[q]?) (show prmC.getD 82 0 = 47 + 10 from by decide)).trans ?_
  refine (bk11_8 w b n 10 (by decide)).trans ?_
  refine (congrArg (fun q => (ch4 w b (n + 47))[q]?) (show 10 = 2 + 8 from rfl)).trans ?_
  refine (bk4_0 w b (n + 47) 8 (by decide)).trans ?_
  show _ = some ((.inr (3, [.ref (adC b n 83), .int 0, .int 0])) : va_E)
  rw [adC_eq (p := 83) (q := 58) (by decide)]
  rfl
theorem plC_83 (w : Wp) (b n : Nat) : plC w b n 83 := fun k h => by
  have e : (.inl 240 : KD) = k := Option.some.inj (show some (.inl 240 : KD) = some k from h)
  subst e
  refine (congrArg (fun q => (ch11 w b n)[q]?) (show prmC.getD 83 0 = 47 + 11 from by decide)).trans ?_
  refine (bk11_8 w b n 11 (by decide)).trans ?_
  refine (congrArg (fun q => (ch4 w b (n + 47))[q]?) (show 11 = 2 + 9 from rfl)).trans ?_
  refine (bk4_0 w b (n + 47) 9 (by decide)).trans ?_
  show _ = some ((.inl (w.2.1.1, 240, .inl (fun _ => 0))) : va_E)
  rfl
theorem plC_84 (w : Wp) (b n : Nat) : plC w b n 84 := fun k h => by
  have e : (.inr (.inl (10, [some 85, some 86, some 87, some 88, some 89, some 90, some 91, some 92, none, none, none, none, none, none, none, none, none])) : KD) = k := Option.some.inj (show some (.inr (.inl (10, [some 85, some 86, some 87, some 88, some 89, some 90, some 91, some 92, none, none, none, none, none, none, none, none, none])) : KD) = some k from h)
  subst e
  refine (congrArg (fun q => (ch11 w b n)[q]?) (show prmC.getD 84 0 = 47 + 12 from by decide)).trans ?_
  refine (bk11_8 w b n 12 (by decide)).trans ?_
  refine (congrArg (fun q => (ch4 w b (n + 47))[q]?) (show 12 = 12 + 0 from rfl)).trans ?_
  refine (bk4_1 w b (n + 47) 0 (by decide)).trans ?_
  show _ = some ((.inr (10, [.ref (adC b n 85), .ref (adC b n 86), .ref (adC b n 87), .ref (adC b n 88), .ref (adC b n 89), .ref (adC b n 90), .ref (adC b n 91), .ref (adC b n 92), .int 0, .int 0, .int 0, .int 0, .int 0, .int 0, .int 0, .int 1, .int 0])) : va_E)
  rw [adC_eq (p := 85) (q := 60) (by decide), adC_eq (p := 86) (q := 61) (by decide), adC_eq (p := 87) (q := 62) (by decide), adC_eq (p := 88) (q := 63) (by decide), adC_eq (p := 89) (q := 64) (by decide), adC_eq (p := 90) (q := 65) (by decide), adC_eq (p := 91) (q := 66) (by decide), adC_eq (p := 92) (q := 67) (by decide)]
  rfl
theorem plC_85 (w : Wp) (b n : Nat) : plC w b n 85 := fun k h => by
  have e : (.inl 6 : KD) = k := Option.some.inj (show some (.inl 6 : KD) = some k from h)
  subst e
  refine (congrArg (fun q => (ch11 w b n)[q]?) (show prmC.getD 85 0 = 47 + 13 from by decide)).trans ?_
  refine (bk11_8 w b n 13 (by decide)).trans ?_
  refine (congrArg (fun q => (ch4 w b (n + 47))[q]?) (show 13 = 12 + 1 from rfl)).trans ?_
  refine (bk4_1 w b (n + 47) 1 (by decide)).trans ?_
  show _ = some ((.inl (w.2.1.1, 6, .inl (fun _ => 0))) : va_E)
  rfl
theorem plC_86 (w : Wp) (b n : Nat) : plC w b n 86 := fun k h => by
  have e : (.inl 6 : KD) = k := Option.some.inj (show some (.inl 6 : KD) = some k from h)
  subst e
  refine (congrArg (fun q => (ch11 w b n)[q]?) (show prmC.getD 86 0 = 47 + 14 from by decide)).trans ?_
  refine (bk11_8 w b n 14 (by decide)).trans ?_
  refine (congrArg (fun q => (ch4 w b (n + 47))[q]?) (show 14 = 12 + 2 from rfl)).trans ?_
  refine (bk4_1 w b (n + 47) 2 (by decide)).trans ?_
  show _ = some ((.inl (w.2.1.1, 6, .inl (fun _ => 0))) : va_E)
  rfl
theorem plC_87 (w : Wp) (b n : Nat) : plC w b n 87 := fun k h => by
  have e : (.inl 6 : KD) = k := Option.some.inj (show some (.inl 6 : KD) = some k from h)
  subst e
  refine (congrArg (fun q => (ch11 w b n)[q]?) (show prmC.getD 87 0 = 47 + 15 from by decide)).trans ?_
  refine (bk11_8 w b n 15 (by decide)).trans ?_
  refine (congrArg (fun q => (ch4 w b (n + 47))[q]?) (show 15 = 12 + 3 from rfl)).trans ?_
  refine (bk4_1 w b (n + 47) 3 (by decide)).trans ?_
  show _ = some ((.inl (w.2.1.1, 6, .inl (fun _ => 0))) : va_E)
  rfl
theorem plC_88 (w : Wp) (b n : Nat) : plC w b n 88 := fun k h => by
  have e : (.inl 6 : KD) = k := Option.some.inj (show some (.inl 6 : KD) = some k from h)
  subst e
  refine (congrArg (fun q => (ch11 w b n)[q]?) (show prmC.getD 88 0 = 47 + 16 from by decide)).trans ?_
  refine (bk11_8 w b n 16 (by decide)).trans ?_
  refine (congrArg (fun q => (ch4 w b (n + 47))[q]?) (show 16 = 12 + 4 from rfl)).trans ?_
  refine (bk4_1 w b (n + 47) 4 (by decide)).trans ?_
  show _ = some ((.inl (w.2.1.1, 6, .inl (fun _ => 0))) : va_E)
  rfl
theorem plC_89 (w : Wp) (b n : Nat) : plC w b n 89 := fun k h => by
  have e : (.inl 6 : KD) = k := Option.some.inj (show some (.inl 6 : KD) = some k from h)
  subst e
  refine (congrArg (fun q => (ch11 w b n)[q]?) (show prmC.getD 89 0 = 47 + 17 from by decide)).trans ?_
  refine (bk11_8 w b n 17 (by decide)).trans ?_
  refine (congrArg (fun q => (ch4 w b (n + 47))[q]?) (show 17 = 12 + 5 from rfl)).trans ?_
  refine (bk4_1 w b (n + 47) 5 (by decide)).trans ?_
  show _ = some ((.inl (w.2.1.1, 6, .inl (fun _ => 0))) : va_E)
  rfl
theorem plC_90 (w : Wp) (b n : Nat) : plC w b n 90 := fun k h => by
  have e : (.inl 36 : KD) = k := Option.some.inj (show some (.inl 36 : KD) = some k from h)
  subst e
  refine (congrArg (fun q => (ch11 w b n)[q]?) (show prmC.getD 90 0 = 47 + 18 from by decide)).trans ?_
  refine (bk11_8 w b n 18 (by decide)).trans ?_
  refine (congrArg (fun q => (ch4 w b (n + 47))[q]?) (show 18 = 12 + 6 from rfl)).trans ?_
  refine (bk4_1 w b (n + 47) 6 (by decide)).trans ?_
  show _ = some ((.inl (w.2.1.1, 36, .inl (fl9 (fun _ => 0) 36 5))) : va_E)
  rfl
theorem plC_91 (w : Wp) (b n : Nat) : plC w b n 91 := fun k h => by
  have e : (.inl 4 : KD) = k := Option.some.inj (show some (.inl 4 : KD) = some k from h)
  subst e
  refine (congrArg (fun q => (ch11 w b n)[q]?) (show prmC.getD 91 0 = 47 + 19 from by decide)).trans ?_
  refine (bk11_8 w b n 19 (by decide)).trans ?_
  refine (congrArg (fun q => (ch4 w b (n + 47))[q]?) (show 19 = 12 + 7 from rfl)).trans ?_
  refine (bk4_1 w b (n + 47) 7 (by decide)).trans ?_
  show _ = some ((.inl (w.2.1.1, 4, .inl (fl9 (fun _ => 0) 4 5))) : va_E)
  rfl
theorem plC_92 (w : Wp) (b n : Nat) : plC w b n 92 := fun k h => by
  have e : (.inr (.inl (3, [some 93, none, none])) : KD) = k := Option.some.inj (show some (.inr (.inl (3, [some 93, none, none])) : KD) = some k from h)
  subst e
  refine (congrArg (fun q => (ch11 w b n)[q]?) (show prmC.getD 92 0 = 47 + 20 from by decide)).trans ?_
  refine (bk11_8 w b n 20 (by decide)).trans ?_
  refine (congrArg (fun q => (ch4 w b (n + 47))[q]?) (show 20 = 12 + 8 from rfl)).trans ?_
  refine (bk4_1 w b (n + 47) 8 (by decide)).trans ?_
  show _ = some ((.inr (3, [.ref (adC b n 93), .int 0, .int 0])) : va_E)
  rw [adC_eq (p := 93) (q := 68) (by decide)]
  rfl
theorem plC_93 (w : Wp) (b n : Nat) : plC w b n 93 := fun k h => by
  have e : (.inl 240 : KD) = k := Option.some.inj (show some (.inl 240 : KD) = some k from h)
  subst e
  refine (congrArg (fun q => (ch11 w b n)[q]?) (show prmC.getD 93 0 = 47 + 21 from by decide)).trans ?_
  refine (bk11_8 w b n 21 (by decide)).trans ?_
  refine (congrArg (fun q => (ch4 w b (n + 47))[q]?) (show 21 = 12 + 9 from rfl)).trans ?_
  refine (bk4_1 w b (n + 47) 9 (by decide)).trans ?_
  show _ = some ((.inl (w.2.1.1, 240, .inl (fun _ => 0))) : va_E)
  rfl
theorem plC_94 (w : Wp) (b n : Nat) : plC w b n 94 := fun k h => by
  have e : (.inr (.inl (10, [some 95, some 96, some 97, some 98, some 99, some 100, some 101, some 102, none, none, none, none, none, none, none, none, none])) : KD) = k := Option.some.inj (show some (.inr (.inl (10, [some 95, some 96, some 97, some 98, some 99, some 100, some 101, some 102, none, none, none, none, none, none, none, none, none])) : KD) = some k from h)
  subst e
  refine (congrArg (fun q => (ch11 w b n)[q]?) (show prmC.getD 94 0 = 47 + 22 from by decide)).trans ?_
  refine (bk11_8 w b n 22 (by decide)).trans ?_
  refine (congrArg (fun q => (ch4 w b (n + 47))[q]?) (show 22 = 22 + 0 from rfl)).trans ?_
  refine (bk4_2 w b (n + 47) 0 (by decide)).trans ?_
  show _ = some ((.inr (10, [.ref (adC b n 95), .ref (adC b n 96), .ref (adC b n 97), .ref (adC b n 98), .ref (adC b n 99), .ref (adC b n 100), .ref (adC b n 101), .ref (adC b n 102), .int 0, .int 0, .int 0, .int 0, .int 0, .int 0, .int 0, .int 1, .int 0])) : va_E)
  rw [adC_eq (p := 95) (q := 70) (by decide), adC_eq (p := 96) (q := 71) (by decide), adC_eq (p := 97) (q := 72) (by decide), adC_eq (p := 98) (q := 73) (by decide), adC_eq (p := 99) (q := 74) (by decide), adC_eq (p := 100) (q := 75) (by decide), adC_eq (p := 101) (q := 76) (by decide), adC_eq (p := 102) (q := 77) (by decide)]
  rfl
theorem plC_95 (w : Wp) (b n : Nat) : plC w b n 95 := fun k h => by
  have e : (.inl 6 : KD) = k := Option.some.inj (show some (.inl 6 : KD) = some k from h)
  subst e
  refine (congrArg (fun q => (ch11 w b n)[q]?) (show prmC.getD 95 0 = 47 + 23 from by decide)).trans ?_
  refine (bk11_8 w b n 23 (by decide)).trans ?_
  refine (congrArg (fun q => (ch4 w b (n + 47))[q]?) (show 23 = 22 + 1 from rfl)).trans ?_
  refine (bk4_2 w b (n + 47) 1 (by decide)).trans ?_
  show _ = some ((.inl (w.2.1.1, 6, .inl (fun _ => 0))) : va_E)
  rfl
theorem plC_96 (w : Wp) (b n : Nat) : plC w b n 96 := fun k h => by
  have e : (.inl 6 : KD) = k := Option.some.inj (show some (.inl 6 : KD) = some k from h)
  subst e
  refine (congrArg (fun q => (ch11 w b n)[q]?) (show prmC.getD 96 0 = 47 + 24 from by decide)).trans ?_
  refine (bk11_8 w b n 24 (by decide)).trans ?_
  refine (congrArg (fun q => (ch4 w b (n + 47))[q]?) (show 24 = 22 + 2 from rfl)).trans ?_
  refine (bk4_2 w b (n + 47) 2 (by decide)).trans ?_
  show _ = some ((.inl (w.2.1.1, 6, .inl (fun _ => 0))) : va_E)
  rfl
theorem plC_97 (w : Wp) (b n : Nat) : plC w b n 97 := fun k h => by
  have e : (.inl 6 : KD) = k := Option.some.inj (show some (.inl 6 : KD) = some k from h)
  subst e
  refine (congrArg (fun q => (ch11 w b n)[q]?) (show prmC.getD 97 0 = 47 + 25 from by decide)).trans ?_
  refine (bk11_8 w b n 25 (by decide)).trans ?_
  refine (congrArg (fun q => (ch4 w b (n + 47))[q]?) (show 25 = 22 + 3 from rfl)).trans ?_
  refine (bk4_2 w b (n + 47) 3 (by decide)).trans ?_
  show _ = some ((.inl (w.2.1.1, 6, .inl (fun _ => 0))) : va_E)
  rfl
theorem plC_98 (w : Wp) (b n : Nat) : plC w b n 98 := fun k h => by
  have e : (.inl 6 : KD) = k := Option.some.inj (show some (.inl 6 : KD) = some k from h)
  subst e
  refine (congrArg (fun q => (ch11 w b n)[q]?) (show prmC.getD 98 0 = 47 + 26 from by decide)).trans ?_
  refine (bk11_8 w b n 26 (by decide)).trans ?_
  refine (congrArg (fun q => (ch4 w b (n + 47))[q]?) (show 26 = 22 + 4 from rfl)).trans ?_
  refine (bk4_2 w b (n + 47) 4 (by decide)).trans ?_
  show _ = some ((.inl (w.2.1.1, 6, .inl (fun _ => 0))) : va_E)
  rfl
theorem plC_99 (w : Wp) (b n : Nat) : plC w b n 99 := fun k h => by
  have e : (.inl 6 : KD) = k := Option.some.inj (show some (.inl 6 : KD) = some k from h)
  subst e
  refine (congrArg (fun q => (ch11 w b n)[q]?) (show prmC.getD 99 0 = 47 + 27 from by decide)).trans ?_
  refine (bk11_8 w b n 27 (by decide)).trans ?_
  refine (congrArg (fun q => (ch4 w b (n + 47))[q]?) (show 27 = 22 + 5 from rfl)).trans ?_
  refine (bk4_2 w b (n + 47) 5 (by decide)).trans ?_
  show _ = some ((.inl (w.2.1.1, 6, .inl (fun _ => 0))) : va_E)
  rfl
theorem plC_100 (w : Wp) (b n : Nat) : plC w b n 100 := fun k h => by
  have e : (.inl 36 : KD) = k := Option.some.inj (show some (.inl 36 : KD) = some k from h)
  subst e
  refine (congrArg (fun q => (ch11 w b n)[q]?) (show prmC.getD 100 0 = 47 + 28 from by decide)).trans ?_
  refine (bk11_8 w b n 28 (by decide)).trans ?_
  refine (congrArg (fun q => (ch4 w b (n + 47))[q]?) (show 28 = 22 + 6 from rfl)).trans ?_
  refine (bk4_2 w b (n + 47) 6 (by decide)).trans ?_
  show _ = some ((.inl (w.2.1.1, 36, .inl (fl9 (fun _ => 0) 36 5))) : va_E)
  rfl
theorem plC_101 (w : Wp) (b n : Nat) : plC w b n 101 := fun k h => by
  have e : (.inl 4 : KD) = k := Option.some.inj (show some (.inl 4 : KD) = some k from h)
  subst e
  refine (congrArg (fun q => (ch11 w b n)[q]?) (show prmC.getD 101 0 = 47 + 29 from by decide)).trans ?_
  refine (bk11_8 w b n 29 (by decide)).trans ?_
  refine (congrArg (fun q => (ch4 w b (n + 47))[q]?) (show 29 = 22 + 7 from rfl)).trans ?_
  refine (bk4_2 w b (n + 47) 7 (by decide)).trans ?_
  show _ = some ((.inl (w.2.1.1, 4, .inl (fl9 (fun _ => 0) 4 5))) : va_E)
  rfl
theorem plC_102 (w : Wp) (b n : Nat) : plC w b n 102 := fun k h => by
  have e : (.inr (.inl (3, [some 103, none, none])) : KD) = k := Option.some.inj (show some (.inr (.inl (3, [some 103, none, none])) : KD) = some k from h)
  subst e
  refine (congrArg (fun q => (ch11 w b n)[q]?) (show prmC.getD 102 0 = 47 + 30 from by decide)).trans ?_
  refine (bk11_8 w b n 30 (by decide)).trans ?_
  refine (congrArg (fun q => (ch4 w b (n + 47))[q]?) (show 30 = 22 + 8 from rfl)).trans ?_
  refine (bk4_2 w b (n + 47) 8 (by decide)).trans ?_
  show _ = some ((.inr (3, [.ref (adC b n 103), .int 0, .int 0])) : va_E)
  rw [adC_eq (p := 103) (q := 78) (by decide)]
  rfl
theorem plC_103 (w : Wp) (b n : Nat) : plC w b n 103 := fun k h => by
  have e : (.inl 240 : KD) = k := Option.some.inj (show some (.inl 240 : KD) = some k from h)
  subst e
  refine (congrArg (fun q => (ch11 w b n)[q]?) (show prmC.getD 103 0 = 47 + 31 from by decide)).trans ?_
  refine (bk11_8 w b n 31 (by decide)).trans ?_
  refine (congrArg (fun q => (ch4 w b (n + 47))[q]?) (show 31 = 22 + 9 from rfl)).trans ?_
  refine (bk4_2 w b (n + 47) 9 (by decide)).trans ?_
  show _ = some ((.inl (w.2.1.1, 240, .inl (fun _ => 0))) : va_E)
  rfl
theorem plC_104 (w : Wp) (b n : Nat) : plC w b n 104 := fun k h => by
  have e : (.inr (.inl (10, [some 105, some 106, some 107, some 108, some 109, some 110, some 111, some 112, none, none, none, none, none, none, none, none, none])) : KD) = k := Option.some.inj (show some (.inr (.inl (10, [some 105, some 106, some 107, some 108, some 109, some 110, some 111, some 112, none, none, none, none, none, none, none, none, none])) : KD) = some k from h)
  subst e
  refine (congrArg (fun q => (ch11 w b n)[q]?) (show prmC.getD 104 0 = 47 + 32 from by decide)).trans ?_
  refine (bk11_8 w b n 32 (by decide)).trans ?_
  refine (congrArg (fun q => (ch4 w b (n + 47))[q]?) (show 32 = 32 + 0 from rfl)).trans ?_
  refine (bk4_3 w b (n + 47) 0 (by decide)).trans ?_
  show _ = some ((.inr (10, [.ref (adC b n 105), .ref (adC b n 106), .ref (adC b n 107), .ref (adC b n 108), .ref (adC b n 109), .ref (adC b n 110), .ref (adC b n 111), .ref (adC b n 112), .int 0, .int 0, .int 0, .int 0, .int 0, .int 0, .int 0, .int 1, .int 0])) : va_E)
  rw [adC_eq (p := 105) (q := 80) (by decide), adC_eq (p := 106) (q := 81) (by decide), adC_eq (p := 107) (q := 82) (by decide), adC_eq (p := 108) (q := 83) (by decide), adC_eq (p := 109) (q := 84) (by decide), adC_eq (p := 110) (q := 85) (by decide), adC_eq (p := 111) (q := 86) (by decide), adC_eq (p := 112) (q := 87) (by decide)]
  rfl
theorem plC_105 (w : Wp) (b n : Nat) : plC w b n 105 := fun k h => by
  have e : (.inl 6 : KD) = k := Option.some.inj (show some (.inl 6 : KD) = some k from h)
  subst e
  refine (congrArg (fun q => (ch11 w b n)[q]?) (show prmC.getD 105 0 = 47 + 33 from by decide)).trans ?_
  refine (bk11_8 w b n 33 (by decide)).trans ?_
  refine (congrArg (fun q => (ch4 w b (n + 47))[q]?) (show 33 = 32 + 1 from rfl)).trans ?_
  refine (bk4_3 w b (n + 47) 1 (by decide)).trans ?_
  show _ = some ((.inl (w.2.1.1, 6, .inl (fun _ => 0))) : va_E)
  rfl
theorem plC_106 (w : Wp) (b n : Nat) : plC w b n 106 := fun k h => by
  have e : (.inl 6 : KD) = k := Option.some.inj (show some (.inl 6 : KD) = some k from h)
  subst e
  refine (congrArg (fun q => (ch11 w b n)[q]?) (show prmC.getD 106 0 = 47 + 34 from by decide)).trans ?_
  refine (bk11_8 w b n 34 (by decide)).trans ?_
  refine (congrArg (fun q => (ch4 w b (n + 47))[q]?) (show 34 = 32 + 2 from rfl)).trans ?_
  refine (bk4_3 w b (n + 47) 2 (by decide)).trans ?_
  show _ = some ((.inl (w.2.1.1, 6, .inl (fun _ => 0))) : va_E)
  rfl
theorem plC_107 (w : Wp) (b n : Nat) : plC w b n 107 := fun k h => by
  have e : (.inl 6 : KD) = k := Option.some.inj (show some (.inl 6 : KD) = some k from h)
  subst e
  refine (congrArg (fun q => (ch11 w b n)[q]?) (show prmC.getD 107 0 = 47 + 35 from by decide)).trans ?_
  refine (bk11_8 w b n 35 (by decide)).trans ?_
  refine (congrArg (fun q => (ch4 w b (n + 47))[q]?) (show 35 = 32 + 3 from rfl)).trans ?_
  refine (bk4_3 w b (n + 47) 3 (by decide)).trans ?_
  show _ = some ((.inl (w.2.1.1, 6, .inl (fun _ => 0))) : va_E)
  rfl
theorem plC_108 (w : Wp) (b n : Nat) : plC w b n 108 := fun k h => by
  have e : (.inl 6 : KD) = k := Option.some.inj (show some (.inl 6 : KD) = some k from h)
  subst e
  refine (congrArg (fun q => (ch11 w b n)[q]?) (show prmC.getD 108 0 = 47 + 36 from by decide)).trans ?_
  refine (bk11_8 w b n 36 (by decide)).trans ?_
  refine (congrArg (fun q => (ch4 w b (n + 47))[q]?) (show 36 = 32 + 4 from rfl)).trans ?_
  refine (bk4_3 w b (n + 47) 4 (by decide)).trans ?_
  show _ = some ((.inl (w.2.1.1, 6, .inl (fun _ => 0))) : va_E)
  rfl
theorem plC_109 (w : Wp) (b n : Nat) : plC w b n 109 := fun k h => by
  have e : (.inl 6 : KD) = k := Option.some.inj (show some (.inl 6 : KD) = some k from h)
  subst e
  refine (congrArg (fun q => (ch11 w b n)[q]?) (show prmC.getD 109 0 = 47 + 37 from by decide)).trans ?_
  refine (bk11_8 w b n 37 (by decide)).trans ?_
  refine (congrArg (fun q => (ch4 w b (n + 47))[q]?) (show 37 = 32 + 5 from rfl)).trans ?_
  refine (bk4_3 w b (n + 47) 5 (by decide)).trans ?_
  show _ = some ((.inl (w.2.1.1, 6, .inl (fun _ => 0))) : va_E)
  rfl
theorem plC_110 (w : Wp) (b n : Nat) : plC w b n 110 := fun k h => by
  have e : (.inl 36 : KD) = k := Option.some.inj (show some (.inl 36 : KD) = some k from h)
  subst e
  refine (congrArg (fun q => (ch11 w b n)[q]?) (show prmC.getD 110 0 = 47 + 38 from by decide)).trans ?_
  refine (bk11_8 w b n 38 (by decide)).trans ?_
  refine (congrArg (fun q => (ch4 w b (n + 47))[q]?) (show 38 = 32 + 6 from rfl)).trans ?_
  refine (bk4_3 w b (n + 47) 6 (by decide)).trans ?_
  show _ = some ((.inl (w.2.1.1, 36, .inl (fl9 (fun _ => 0) 36 5))) : va_E)
  rfl
theorem plC_111 (w : Wp) (b n : Nat) : plC w b n 111 := fun k h => by
  have e : (.inl 4 : KD) = k := Option.some.inj (show some (.inl 4 : KD) = some k from h)
  subst e
  refine (congrArg (fun q => (ch11 w b n)[q]?) (show prmC.getD 111 0 = 47 + 39 from by decide)).trans ?_
  refine (bk11_8 w b n 39 (by decide)).trans ?_
  refine (congrArg (fun q => (ch4 w b (n + 47))[q]?) (show 39 = 32 + 7 from rfl)).trans ?_
  refine (bk4_3 w b (n + 47) 7 (by decide)).trans ?_
  show _ = some ((.inl (w.2.1.1, 4, .inl (fl9 (fun _ => 0) 4 5))) : va_E)
  rfl
theorem plC_112 (w : Wp) (b n : Nat) : plC w b n 112 := fun k h => by
  have e : (.inr (.inl (3, [some 113, none, none])) : KD) = k := Option.some.inj (show some (.inr (.inl (3, [some 113, none, none])) : KD) = some k from h)
  subst e
  refine (congrArg (fun q => (ch11 w b n)[q]?) (show prmC.getD 112 0 = 47 + 40 from by decide)).trans ?_
  refine (bk11_8 w b n 40 (by decide)).trans ?_
  refine (congrArg (fun q => (ch4 w b (n + 47))[q]?) (show 40 = 32 + 8 from rfl)).trans ?_
  refine (bk4_3 w b (n + 47) 8 (by decide)).trans ?_
  show _ = some ((.inr (3, [.ref (adC b n 113), .int 0, .int 0])) : va_E)
  rw [adC_eq (p := 113) (q := 88) (by decide)]
  rfl
theorem plC_113 (w : Wp) (b n : Nat) : plC w b n 113 := fun k h => by
  have e : (.inl 240 : KD) = k := Option.some.inj (show some (.inl 240 : KD) = some k from h)
  subst e
  refine (congrArg (fun q => (ch11 w b n)[q]?) (show prmC.getD 113 0 = 47 + 41 from by decide)).trans ?_
  refine (bk11_8 w b n 41 (by decide)).trans ?_
  refine (congrArg (fun q => (ch4 w b (n + 47))[q]?) (show 41 = 32 + 9 from rfl)).trans ?_
  refine (bk4_3 w b (n + 47) 9 (by decide)).trans ?_
  show _ = some ((.inl (w.2.1.1, 240, .inl (fun _ => 0))) : va_E)
  rfl
theorem plC_114 (w : Wp) (b n : Nat) : plC w b n 114 := fun k h => by
  have e : (.inr (.inl (10, [some 115, some 116, some 117, some 118, some 119, some 120, some 121, some 122, none, none, none, none, none, none, none, none, none])) : KD) = k := Option.some.inj (show some (.inr (.inl (10, [some 115, some 116, some 117, some 118, some 119, some 120, some 121, some 122, none, none, none, none, none, none, none, none, none])) : KD) = some k from h)
  subst e
  refine (congrArg (fun q => (ch11 w b n)[q]?) (show prmC.getD 114 0 = 47 + 42 from by decide)).trans ?_
  refine (bk11_8 w b n 42 (by decide)).trans ?_
  refine (congrArg (fun q => (ch4 w b (n + 47))[q]?) (show 42 = 42 + 0 from rfl)).trans ?_
  refine (bk4_4 w b (n + 47) 0 (by decide)).trans ?_
  show _ = some ((.inr (10, [.ref (adC b n 115), .ref (adC b n 116), .ref (adC b n 117), .ref (adC b n 118), .ref (adC b n 119), .ref (adC b n 120), .ref (adC b n 121), .ref (adC b n 122), .int 0, .int 0, .int 0, .int 0, .int 0, .int 0, .int 0, .int 1, .int 0])) : va_E)
  rw [adC_eq (p := 115) (q := 90) (by decide), adC_eq (p := 116) (q := 91) (by decide), adC_eq (p := 117) (q := 92) (by decide), adC_eq (p := 118) (q := 93) (by decide), adC_eq (p := 119) (q := 94) (by decide), adC_eq (p := 120) (q := 95) (by decide), adC_eq (p := 121) (q := 96) (by decide), adC_eq (p := 122) (q := 97) (by decide)]
  rfl
theorem plC_115 (w : Wp) (b n : Nat) : plC w b n 115 := fun k h => by
  have e : (.inl 6 : KD) = k := Option.some.inj (show some (.inl 6 : KD) = some k from h)
  subst e
  refine (congrArg (fun q => (ch11 w b n)[q]?) (show prmC.getD 115 0 = 47 + 43 from by decide)).trans ?_
  refine (bk11_8 w b n 43 (by decide)).trans ?_
  refine (congrArg (fun q => (ch4 w b (n + 47))[q]?) (show 43 = 42 + 1 from rfl)).trans ?_
  refine (bk4_4 w b (n + 47) 1 (by decide)).trans ?_
  show _ = some ((.inl (w.2.1.1, 6, .inl (fun _ => 0))) : va_E)
  rfl
theorem plC_116 (w : Wp) (b n : Nat) : plC w b n 116 := fun k h => by
  have e : (.inl 6 : KD) = k := Option.some.inj (show some (.inl 6 : KD) = some k from h)
  subst e
  refine (congrArg (fun q => (ch11 w b n)[q]?) (show prmC.getD 116 0 = 47 + 44 from by decide)).trans ?_
  refine (bk11_8 w b n 44 (by decide)).trans ?_
  refine (congrArg (fun q => (ch4 w b (n + 47))[q]?) (show 44 = 42 + 2 from rfl)).trans ?_
  refine (bk4_4 w b (n + 47) 2 (by decide)).trans ?_
  show _ = some ((.inl (w.2.1.1, 6, .inl (fun _ => 0))) : va_E)
  rfl
theorem plC_117 (w : Wp) (b n : Nat) : plC w b n 117 := fun k h => by
  have e : (.inl 6 : KD) = k := Option.some.inj (show some (.inl 6 : KD) = some k from h)
  subst e
  refine (congrArg (fun q => (ch11 w b n)[q]?) (show prmC.getD 117 0 = 47 + 45 from by decide)).trans ?_
  refine (bk11_8 w b n 45 (by decide)).trans ?_
  refine (congrArg (fun q => (ch4 w b (n + 47))[q]?) (show 45 = 42 + 3 from rfl)).trans ?_
  refine (bk4_4 w b (n + 47) 3 (by decide)).trans ?_
  show _ = some ((.inl (w.2.1.1, 6, .inl (fun _ => 0))) : va_E)
  rfl
theorem plC_118 (w : Wp) (b n : Nat) : plC w b n 118 := fun k h => by
  have e : (.inl 6 : KD) = k := Option.some.inj (show some (.inl 6 : KD) = some k from h)
  subst e
  refine (congrArg (fun q => (ch11 w b n)[q]?) (show prmC.getD 118 0 = 47 + 46 from by decide)).trans ?_
  refine (bk11_8 w b n 46 (by decide)).trans ?_
  refine (congrArg (fun q => (ch4 w b (n + 47))[q]?) (show 46 = 42 + 4 from rfl)).trans ?_
  refine (bk4_4 w b (n + 47) 4 (by decide)).trans ?_
  show _ = some ((.inl (w.2.1.1, 6, .inl (fun _ => 0))) : va_E)
  rfl
theorem plC_119 (w : Wp) (b n : Nat) : plC w b n 119 := fun k h => by
  have e : (.inl 6 : KD) = k := Option.some.inj (show some (.inl 6 : KD) = some k from h)
  subst e
  refine (congrArg (fun q => (ch11 w b n)[q]?) (show prmC.getD 119 0 = 47 + 47 from by decide)).trans ?_
  refine (bk11_8 w b n 47 (by decide)).trans ?_
  refine (congrArg (fun q => (ch4 w b (n + 47))[q]?) (show 47 = 42 + 5 from rfl)).trans ?_
  refine (bk4_4 w b (n + 47) 5 (by decide)).trans ?_
  show _ = some ((.inl (w.2.1.1, 6, .inl (fun _ => 0))) : va_E)
  rfl
theorem plC_120 (w : Wp) (b n : Nat) : plC w b n 120 := fun k h => by
  have e : (.inl 36 : KD) = k := Option.some.inj (show some (.inl 36 : KD) = some k from h)
  subst e
  refine (congrArg (fun q => (ch11 w b n)[q]?) (show prmC.getD 120 0 = 47 + 48 from by decide)).trans ?_
  refine (bk11_8 w b n 48 (by decide)).trans ?_
  refine (congrArg (fun q => (ch4 w b (n + 47))[q]?) (show 48 = 42 + 6 from rfl)).trans ?_
  refine (bk4_4 w b (n + 47) 6 (by decide)).trans ?_
  show _ = some ((.inl (w.2.1.1, 36, .inl (fl9 (fun _ => 0) 36 5))) : va_E)
  rfl
theorem plC_121 (w : Wp) (b n : Nat) : plC w b n 121 := fun k h => by
  have e : (.inl 4 : KD) = k := Option.some.inj (show some (.inl 4 : KD) = some k from h)
  subst e
  refine (congrArg (fun q => (ch11 w b n)[q]?) (show prmC.getD 121 0 = 47 + 49 from by decide)).trans ?_
  refine (bk11_8 w b n 49 (by decide)).trans ?_
  refine (congrArg (fun q => (ch4 w b (n + 47))[q]?) (show 49 = 42 + 7 from rfl)).trans ?_
  refine (bk4_4 w b (n + 47) 7 (by decide)).trans ?_
  show _ = some ((.inl (w.2.1.1, 4, .inl (fl9 (fun _ => 0) 4 5))) : va_E)
  rfl
theorem plC_122 (w : Wp) (b n : Nat) : plC w b n 122 := fun k h => by
  have e : (.inr (.inl (3, [some 123, none, none])) : KD) = k := Option.some.inj (show some (.inr (.inl (3, [some 123, none, none])) : KD) = some k from h)
  subst e
  refine (congrArg (fun q => (ch11 w b n)[q]?) (show prmC.getD 122 0 = 47 + 50 from by decide)).trans ?_
  refine (bk11_8 w b n 50 (by decide)).trans ?_
  refine (congrArg (fun q => (ch4 w b (n + 47))[q]?) (show 50 = 42 + 8 from rfl)).trans ?_
  refine (bk4_4 w b (n + 47) 8 (by decide)).trans ?_
  show _ = some ((.inr (3, [.ref (adC b n 123), .int 0, .int 0])) : va_E)
  rw [adC_eq (p := 123) (q := 98) (by decide)]
  rfl
theorem plC_123 (w : Wp) (b n : Nat) : plC w b n 123 := fun k h => by
  have e : (.inl 240 : KD) = k := Option.some.inj (show some (.inl 240 : KD) = some k from h)
  subst e
  refine (congrArg (fun q => (ch11 w b n)[q]?) (show prmC.getD 123 0 = 47 + 51 from by decide)).trans ?_
  refine (bk11_8 w b n 51 (by decide)).trans ?_
  refine (congrArg (fun q => (ch4 w b (n + 47))[q]?) (show 51 = 42 + 9 from rfl)).trans ?_
  refine (bk4_4 w b (n + 47) 9 (by decide)).trans ?_
  show _ = some ((.inl (w.2.1.1, 240, .inl (fun _ => 0))) : va_E)
  rfl
theorem plC_124 (w : Wp) (b n : Nat) : plC w b n 124 := fun k h => by
  have e : (.inr (.inl (10, [some 125, some 126, some 127, some 128, some 129, some 130, some 131, some 132, none, none, none, none, none, none, none, none, none])) : KD) = k := Option.some.inj (show some (.inr (.inl (10, [some 125, some 126, some 127, some 128, some 129, some 130, some 131, some 132, none, none, none, none, none, none, none, none, none])) : KD) = some k from h)
  subst e
  refine (congrArg (fun q => (ch11 w b n)[q]?) (show prmC.getD 124 0 = 47 + 52 from by decide)).trans ?_
  refine (bk11_8 w b n 52 (by decide)).trans ?_
  refine (congrArg (fun q => (ch4 w b (n + 47))[q]?) (show 52 = 52 + 0 from rfl)).trans ?_
  refine (bk4_5 w b (n + 47) 0 (by decide)).trans ?_
  show _ = some ((.inr (10, [.ref (adC b n 125), .ref (adC b n 126), .ref (adC b n 127), .ref (adC b n 128), .ref (adC b n 129), .ref (adC b n 130), .ref (adC b n 131), .ref (adC b n 132), .int 0, .int 0, .int 0, .int 0, .int 0, .int 0, .int 0, .int 1, .int 0])) : va_E)
  rw [adC_eq (p := 125) (q := 100) (by decide), adC_eq (p := 126) (q := 101) (by decide), adC_eq (p := 127) (q := 102) (by decide), adC_eq (p := 128) (q := 103) (by decide), adC_eq (p := 129) (q := 104) (by decide), adC_eq (p := 130) (q := 105) (by decide), adC_eq (p := 131) (q := 106) (by decide), adC_eq (p := 132) (q := 107) (by decide)]
  rfl
theorem plC_125 (w : Wp) (b n : Nat) : plC w b n 125 := fun k h => by
  have e : (.inl 6 : KD) = k := Option.some.inj (show some (.inl 6 : KD) = some k from h)
  subst e
  refine (congrArg (fun q => (ch11 w b n)[q]?) (show prmC.getD 125 0 = 47 + 53 from by decide)).trans ?_
  refine (bk11_8 w b n 53 (by decide)).trans ?_
  refine (congrArg (fun q => (ch4 w b (n + 47))[q]?) (show 53 = 52 + 1 from rfl)).trans ?_
  refine (bk4_5 w b (n + 47) 1 (by decide)).trans ?_
  show _ = some ((.inl (w.2.1.1, 6, .inl (fun _ => 0))) : va_E)
  rfl
theorem plC_126 (w : Wp) (b n : Nat) : plC w b n 126 := fun k h => by
  have e : (.inl 6 : KD) = k := Option.some.inj (show some (.inl 6 : KD) = some k from h)
  subst e
  refine (congrArg (fun q => (ch11 w b n)[q]?) (show prmC.getD 126 0 = 47 + 54 from by decide)).trans ?_
  refine (bk11_8 w b n 54 (by decide)).trans ?_
  refine (congrArg (fun q => (ch4 w b (n + 47))[q]?) (show 54 = 52 + 2 from rfl)).trans ?_
  refine (bk4_5 w b (n + 47) 2 (by decide)).trans ?_
  show _ = some ((.inl (w.2.1.1, 6, .inl (fun _ => 0))) : va_E)
  rfl
theorem plC_127 (w : Wp) (b n : Nat) : plC w b n 127 := fun k h => by
  have e : (.inl 6 : KD) = k := Option.some.inj (show some (.inl 6 : KD) = some k from h)
  subst e
  refine (congrArg (fun q => (ch11 w b n)[q]?) (show prmC.getD 127 0 = 47 + 55 from by decide)).trans ?_
  refine (bk11_8 w b n 55 (by decide)).trans ?_
  refine (congrArg (fun q => (ch4 w b (n + 47))[q]?) (show 55 = 52 + 3 from rfl)).trans ?_
  refine (bk4_5 w b (n + 47) 3 (by decide)).trans ?_
  show _ = some ((.inl (w.2.1.1, 6, .inl (fun _ => 0))) : va_E)
  rfl
theorem plC_128 (w : Wp) (b n : Nat) : plC w b n 128 := fun k h => by
  have e : (.inl 6 : KD) = k := Option.some.inj (show some (.inl 6 : KD) = some k from h)
  subst e
  refine (congrArg (fun q => (ch11 w b n)[q]?) (show prmC.getD 128 0 = 47 + 56 from by decide)).trans ?_
  refine (bk11_8 w b n 56 (by decide)).trans ?_
  refine (congrArg (fun q => (ch4 w b (n + 47))[q]?) (show 56 = 52 + 4 from rfl)).trans ?_
  refine (bk4_5 w b (n + 47) 4 (by decide)).trans ?_
  show _ = some ((.inl (w.2.1.1, 6, .inl (fun _ => 0))) : va_E)
  rfl
theorem plC_129 (w : Wp) (b n : Nat) : plC w b n 129 := fun k h => by
  have e : (.inl 6 : KD) = k := Option.some.inj (show some (.inl 6 : KD) = some k from h)
  subst e
  refine (congrArg (fun q => (ch11 w b n)[q]?) (show prmC.getD 129 0 = 47 + 57 from by decide)).trans ?_
  refine (bk11_8 w b n 57 (by decide)).trans ?_
  refine (congrArg (fun q => (ch4 w b (n + 47))[q]?) (show 57 = 52 + 5 from rfl)).trans ?_
  refine (bk4_5 w b (n + 47) 5 (by decide)).trans ?_
  show _ = some ((.inl (w.2.1.1, 6, .inl (fun _ => 0))) : va_E)
  rfl
theorem plC_130 (w : Wp) (b n : Nat) : plC w b n 130 := fun k h => by
  have e : (.inl 36 : KD) = k := Option.some.inj (show some (.inl 36 : KD) = some k from h)
  subst e
  refine (congrArg (fun q => (ch11 w b n)[q]?) (show prmC.getD 130 0 = 47 + 58 from by decide)).trans ?_
  refine (bk11_8 w b n 58 (by decide)).trans ?_
  refine (congrArg (fun q => (ch4 w b (n + 47))[q]?) (show 58 = 52 + 6 from rfl)).trans ?_
  refine (bk4_5 w b (n + 47) 6 (by decide)).trans ?_
  show _ = some ((.inl (w.2.1.1, 36, .inl (fl9 (fun _ => 0) 36 5))) : va_E)
  rfl
theorem plC_131 (w : Wp) (b n : Nat) : plC w b n 131 := fun k h => by
  have e : (.inl 4 : KD) = k := Option.some.inj (show some (.inl 4 : KD) = some k from h)
  subst e
  refine (congrArg (fun q => (ch11 w b n)[q]?) (show prmC.getD 131 0 = 47 + 59 from by decide)).trans ?_
  refine (bk11_8 w b n 59 (by decide)).trans ?_
  refine (congrArg (fun q => (ch4 w b (n + 47))[q]?) (show 59 = 52 + 7 from rfl)).trans ?_
  refine (bk4_5 w b (n + 47) 7 (by decide)).trans ?_
  show _ = some ((.inl (w.2.1.1, 4, .inl (fl9 (fun _ => 0) 4 5))) : va_E)
  rfl
theorem plC_132 (w : Wp) (b n : Nat) : plC w b n 132 := fun k h => by
  have e : (.inr (.inl (3, [some 133, none, none])) : KD) = k := Option.some.inj (show some (.inr (.inl (3, [some 133, none, none])) : KD) = some k from h)
  subst e
  refine (congrArg (fun q => (ch11 w b n)[q]?) (show prmC.getD 132 0 = 47 + 60 from by decide)).trans ?_
  refine (bk11_8 w b n 60 (by decide)).trans ?_
  refine (congrArg (fun q => (ch4 w b (n + 47))[q]?) (show 60 = 52 + 8 from rfl)).trans ?_
  refine (bk4_5 w b (n + 47) 8 (by decide)).trans ?_
  show _ = some ((.inr (3, [.ref (adC b n 133), .int 0, .int 0])) : va_E)
  rw [adC_eq (p := 133) (q := 108) (by decide)]
  rfl
theorem plC_133 (w : Wp) (b n : Nat) : plC w b n 133 := fun k h => by
  have e : (.inl 240 : KD) = k := Option.some.inj (show some (.inl 240 : KD) = some k from h)
  subst e
  refine (congrArg (fun q => (ch11 w b n)[q]?) (show prmC.getD 133 0 = 47 + 61 from by decide)).trans ?_
  refine (bk11_8 w b n 61 (by decide)).trans ?_
  refine (congrArg (fun q => (ch4 w b (n + 47))[q]?) (show 61 = 52 + 9 from rfl)).trans ?_
  refine (bk4_5 w b (n + 47) 9 (by decide)).trans ?_
  show _ = some ((.inl (w.2.1.1, 240, .inl (fun _ => 0))) : va_E)
  rfl
theorem plC_134 (w : Wp) (b n : Nat) : plC w b n 134 := fun k h => by
  have e : (.inr (.inl (10, [some 135, some 136, some 137, some 138, some 139, some 140, some 141, some 142, none, none, none, none, none, none, none, none, none])) : KD) = k := Option.some.inj (show some (.inr (.inl (10, [some 135, some 136, some 137, some 138, some 139, some 140, some 141, some 142, none, none, none, none, none, none, none, none, none])) : KD) = some k from h)
  subst e
  refine (congrArg (fun q => (ch11 w b n)[q]?) (show prmC.getD 134 0 = 47 + 62 from by decide)).trans ?_
  refine (bk11_8 w b n 62 (by decide)).trans ?_
  refine (congrArg (fun q => (ch4 w b (n + 47))[q]?) (show 62 = 62 + 0 from rfl)).trans ?_
  refine (bk4_6 w b (n + 47) 0 (by decide)).trans ?_
  show _ = some ((.inr (10, [.ref (adC b n 135), .ref (adC b n 136), .ref (adC b n 137), .ref (adC b n 138), .ref (adC b n 139), .ref (adC b n 140), .ref (adC b n 141), .ref (adC b n 142), .int 0, .int 0, .int 0, .int 0, .int 0, .int 0, .int 0, .int 1, .int 0])) : va_E)
  rw [adC_eq (p := 135) (q := 110) (by decide), adC_eq (p := 136) (q := 111) (by decide), adC_eq (p := 137) (q := 112) (by decide), adC_eq (p := 138) (q := 113) (by decide), adC_eq (p := 139) (q := 114) (by decide), adC_eq (p := 140) (q := 115) (by decide), adC_eq (p := 141) (q := 116) (by decide), adC_eq (p := 142) (q := 117) (by decide)]
  rfl
theorem plC_135 (w : Wp) (b n : Nat) : plC w b n 135 := fun k h => by
  have e : (.inl 6 : KD) = k := Option.some.inj (show some (.inl 6 : KD) = some k from h)
  subst e
  refine (congrArg (fun q => (ch11 w b n)[q]?) (show prmC.getD 135 0 = 47 + 63 from by decide)).trans ?_
  refine (bk11_8 w b n 63 (by decide)).trans ?_
  refine (congrArg (fun q => (ch4 w b (n + 47))[q]?) (show 63 = 62 + 1 from rfl)).trans ?_
  refine (bk4_6 w b (n + 47) 1 (by decide)).trans ?_
  show _ = some ((.inl (w.2.1.1, 6, .inl (fun _ => 0))) : va_E)
  rfl
theorem plC_136 (w : Wp) (b n : Nat) : plC w b n 136 := fun k h => by
  have e : (.inl 6 : KD) = k := Option.some.inj (show some (.inl 6 : KD) = some k from h)
  subst e
  refine (congrArg (fun q => (ch11 w b n)[q]?) (show prmC.getD 136 0 = 47 + 64 from by decide)).trans ?_
  refine (bk11_8 w b n 64 (by decide)).trans ?_
  refine (congrArg (fun q => (ch4 w b (n + 47))[q]?) (show 64 = 62 + 2 from rfl)).trans ?_
  refine (bk4_6 w b (n + 47) 2 (by decide)).trans ?_
  show _ = some ((.inl (w.2.1.1, 6, .inl (fun _ => 0))) : va_E)
  rfl
theorem plC_137 (w : Wp) (b n : Nat) : plC w b n 137 := fun k h => by
  have e : (.inl 6 : KD) = k := Option.some.inj (show some (.inl 6 : KD) = some k from h)
  subst e
  refine (congrArg (fun q => (ch11 w b n)[q]?) (show prmC.getD 137 0 = 47 + 65 from by decide)).trans ?_
  refine (bk11_8 w b n 65 (by decide)).trans ?_
  refine (congrArg (fun q => (ch4 w b (n + 47))[q]?) (show 65 = 62 + 3 from rfl)).trans ?_
  refine (bk4_6 w b (n + 47) 3 (by decide)).trans ?_
  show _ = some ((.inl (w.2.1.1, 6, .inl (fun _ => 0))) : va_E)
  rfl
theorem plC_138 (w : Wp) (b n : Nat) : plC w b n 138 := fun k h => by
  have e : (.inl 6 : KD) = k := Option.some.inj (show some (.inl 6 : KD) = some k from h)
  subst e
  refine (congrArg (fun q => (ch11 w b n)[q]?) (show prmC.getD 138 0 = 47 + 66 from by decide)).trans ?_
  refine (bk11_8 w b n 66 (by decide)).trans ?_
  refine (congrArg (fun q => (ch4 w b (n + 47))[q]?) (show 66 = 62 + 4 from rfl)).trans ?_
  refine (bk4_6 w b (n + 47) 4 (by decide)).trans ?_
  show _ = some ((.inl (w.2.1.1, 6, .inl (fun _ => 0))) : va_E)
  rfl
theorem plC_139 (w : Wp) (b n : Nat) : plC w b n 139 := fun k h => by
  have e : (.inl 6 : KD) = k := Option.some.inj (show some (.inl 6 : KD) = some k from h)
  subst e
  refine (congrArg (fun q => (ch11 w b n)[q]?) (show prmC.getD 139 0 = 47 + 67 from by decide)).trans ?_
  refine (bk11_8 w b n 67 (by decide)).trans ?_
  refine (congrArg (fun q => (ch4 w b (n + 47))[q]?) (show 67 = 62 + 5 from rfl)).trans ?_
  refine (bk4_6 w b (n + 47) 5 (by decide)).trans ?_
  show _ = some ((.inl (w.2.1.1, 6, .inl (fun _ => 0))) : va_E)
  rfl
theorem plC_140 (w : Wp) (b n : Nat) : plC w b n 140 := fun k h => by
  have e : (.inl 36 : KD) = k := Option.some.inj (show some (.inl 36 : KD) = some k from h)
  subst e
  refine (congrArg (fun q => (ch11 w b n)[q]?) (show prmC.getD 140 0 = 47 + 68 from by decide)).trans ?_
  refine (bk11_8 w b n 68 (by decide)).trans ?_
  refine (congrArg (fun q => (ch4 w b (n + 47))[q]?) (show 68 = 62 + 6 from rfl)).trans ?_
  refine (bk4_6 w b (n + 47) 6 (by decide)).trans ?_
  show _ = some ((.inl (w.2.1.1, 36, .inl (fl9 (fun _ => 0) 36 5))) : va_E)
  rfl
theorem plC_141 (w : Wp) (b n : Nat) : plC w b n 141 := fun k h => by
  have e : (.inl 4 : KD) = k := Option.some.inj (show some (.inl 4 : KD) = some k from h)
  subst e
  refine (congrArg (fun q => (ch11 w b n)[q]?) (show prmC.getD 141 0 = 47 + 69 from by decide)).trans ?_
  refine (bk11_8 w b n 69 (by decide)).trans ?_
  refine (congrArg (fun q => (ch4 w b (n + 47))[q]?) (show 69 = 62 + 7 from rfl)).trans ?_
  refine (bk4_6 w b (n + 47) 7 (by decide)).trans ?_
  show _ = some ((.inl (w.2.1.1, 4, .inl (fl9 (fun _ => 0) 4 5))) : va_E)
  rfl
theorem plC_142 (w : Wp) (b n : Nat) : plC w b n 142 := fun k h => by
  have e : (.inr (.inl (3, [some 143, none, none])) : KD) = k := Option.some.inj (show some (.inr (.inl (3, [some 143, none, none])) : KD) = some k from h)
  subst e
  refine (congrArg (fun q => (ch11 w b n)[q]?) (show prmC.getD 142 0 = 47 + 70 from by decide)).trans ?_
  refine (bk11_8 w b n 70 (by decide)).trans ?_
  refine (congrArg (fun q => (ch4 w b (n + 47))[q]?) (show 70 = 62 + 8 from rfl)).trans ?_
  refine (bk4_6 w b (n + 47) 8 (by decide)).trans ?_
  show _ = some ((.inr (3, [.ref (adC b n 143), .int 0, .int 0])) : va_E)
  rw [adC_eq (p := 143) (q := 118) (by decide)]
  rfl
theorem plC_143 (w : Wp) (b n : Nat) : plC w b n 143 := fun k h => by
  have e : (.inl 240 : KD) = k := Option.some.inj (show some (.inl 240 : KD) = some k from h)
  subst e
  refine (congrArg (fun q => (ch11 w b n)[q]?) (show prmC.getD 143 0 = 47 + 71 from by decide)).trans ?_
  refine (bk11_8 w b n 71 (by decide)).trans ?_
  refine (congrArg (fun q => (ch4 w b (n + 47))[q]?) (show 71 = 62 + 9 from rfl)).trans ?_
  refine (bk4_6 w b (n + 47) 9 (by decide)).trans ?_
  show _ = some ((.inl (w.2.1.1, 240, .inl (fun _ => 0))) : va_E)
  rfl
theorem plC_144 (w : Wp) (b n : Nat) : plC w b n 144 := fun k h => by
  have e : (.inr (.inl (10, [some 145, some 146, some 147, some 148, some 149, some 150, some 151, some 152, none, none, none, none, none, none, none, none, none])) : KD) = k := Option.some.inj (show some (.inr (.inl (10, [some 145, some 146, some 147, some 148, some 149, some 150, some 151, some 152, none, none, none, none, none, none, none, none, none])) : KD) = some k from h)
  subst e
  refine (congrArg (fun q => (ch11 w b n)[q]?) (show prmC.getD 144 0 = 47 + 72 from by decide)).trans ?_
  refine (bk11_8 w b n 72 (by decide)).trans ?_
  refine (congrArg (fun q => (ch4 w b (n + 47))[q]?) (show 72 = 72 + 0 from rfl)).trans ?_
  refine (bk4_7 w b (n + 47) 0 (by decide)).trans ?_
  show _ = some ((.inr (10, [.ref (adC b n 145), .ref (adC b n 146), .ref (adC b n 147), .ref (adC b n 148), .ref (adC b n 149), .ref (adC b n 150), .ref (adC b n 151), .ref (adC b n 152), .int 0, .int 0, .int 0, .int 0, .int 0, .int 0, .int 0, .int 1, .int 0])) : va_E)
  rw [adC_eq (p := 145) (q := 120) (by decide), adC_eq (p := 146) (q := 121) (by decide), adC_eq (p := 147) (q := 122) (by decide), adC_eq (p := 148) (q := 123) (by decide), adC_eq (p := 149) (q := 124) (by decide), adC_eq (p := 150) (q := 125) (by decide), adC_eq (p := 151) (q := 126) (by decide), adC_eq (p := 152) (q := 127) (by decide)]
  rfl
theorem plC_145 (w : Wp) (b n : Nat) : plC w b n 145 := fun k h => by
  have e : (.inl 6 : KD) = k := Option.some.inj (show some (.inl 6 : KD) = some k from h)
  subst e
  refine (congrArg (fun q => (ch11 w b n)[q]?) (show prmC.getD 145 0 = 47 + 73 from by decide)).trans ?_
  refine (bk11_8 w b n 73 (by decide)).trans ?_
  refine (congrArg (fun q => (ch4 w b (n + 47))[q]?) (show 73 = 72 + 1 from rfl)).trans ?_
  refine (bk4_7 w b (n + 47) 1 (by decide)).trans ?_
  show _ = some ((.inl (w.2.1.1, 6, .inl (fun _ => 0))) : va_E)
  rfl
theorem plC_146 (w : Wp) (b n : Nat) : plC w b n 146 := fun k h => by
  have e : (.inl 6 : KD) = k := Option.some.inj (show some (.inl 6 : KD) = some k from h)
  subst e
  refine (congrArg (fun q => (ch11 w b n)[q]?) (show prmC.getD 146 0 = 47 + 74 from by decide)).trans ?_
  refine (bk11_8 w b n 74 (by decide)).trans ?_
  refine (congrArg (fun q => (ch4 w b (n + 47))[q]?) (show 74 = 72 + 2 from rfl)).trans ?_
  refine (bk4_7 w b (n + 47) 2 (by decide)).trans ?_
  show _ = some ((.inl (w.2.1.1, 6, .inl (fun _ => 0))) : va_E)
  rfl
theorem plC_147 (w : Wp) (b n : Nat) : plC w b n 147 := fun k h => by
  have e : (.inl 6 : KD) = k := Option.some.inj (show some (.inl 6 : KD) = some k from h)
  subst e
  refine (congrArg (fun q => (ch11 w b n)[q]?) (show prmC.getD 147 0 = 47 + 75 from by decide)).trans ?_
  refine (bk11_8 w b n 75 (by decide)).trans ?_
  refine (congrArg (fun q => (ch4 w b (n + 47))[q]?) (show 75 = 72 + 3 from rfl)).trans ?_
  refine (bk4_7 w b (n + 47) 3 (by decide)).trans ?_
  show _ = some ((.inl (w.2.1.1, 6, .inl (fun _ => 0))) : va_E)
  rfl
theorem plC_148 (w : Wp) (b n : Nat) : plC w b n 148 := fun k h => by
  have e : (.inl 6 : KD) = k := Option.some.inj (show some (.inl 6 : KD) = some k from h)
  subst e
  refine (congrArg (fun q => (ch11 w b n)[q]?) (show prmC.getD 148 0 = 47 + 76 from by decide)).trans ?_
  refine (bk11_8 w b n 76 (by decide)).trans ?_
  refine (congrArg (fun q => (ch4 w b (n + 47))[q]?) (show 76 = 72 + 4 from rfl)).trans ?_
  refine (bk4_7 w b (n + 47) 4 (by decide)).trans ?_
  show _ = some ((.inl (w.2.1.1, 6, .inl (fun _ => 0))) : va_E)
  rfl
theorem plC_149 (w : Wp) (b n : Nat) : plC w b n 149 := fun k h => by
  have e : (.inl 6 : KD) = k := Option.some.inj (show some (.inl 6 : KD) = some k from h)
  subst e
  refine (congrArg (fun q => (ch11 w b n)[q]?) (show prmC.getD 149 0 = 47 + 77 from by decide)).trans ?_
  refine (bk11_8 w b n 77 (by decide)).trans ?_
  refine (congrArg (fun q => (ch4 w b (n + 47))[q]?) (show 77 = 72 + 5 from rfl)).trans ?_
  refine (bk4_7 w b (n + 47) 5 (by decide)).trans ?_
  show _ = some ((.inl (w.2.1.1, 6, .inl (fun _ => 0))) : va_E)
  rfl
theorem plC_150 (w : Wp) (b n : Nat) : plC w b n 150 := fun k h => by
  have e : (.inl 36 : KD) = k := Option.some.inj (show some (.inl 36 : KD) = some k from h)
  subst e
  refine (congrArg (fun q => (ch11 w b n)[q]?) (show prmC.getD 150 0 = 47 + 78 from by decide)).trans ?_
  refine (bk11_8 w b n 78 (by decide)).trans ?_
  refine (congrArg (fun q => (ch4 w b (n + 47))[q]?) (show 78 = 72 + 6 from rfl)).trans ?_
  refine (bk4_7 w b (n + 47) 6 (by decide)).trans ?_
  show _ = some ((.inl (w.2.1.1, 36, .inl (fl9 (fun _ => 0) 36 5))) : va_E)
  rfl
theorem plC_151 (w : Wp) (b n : Nat) : plC w b n 151 := fun k h => by
  have e : (.inl 4 : KD) = k := Option.some.inj (show some (.inl 4 : KD) = some k from h)
  subst e
  refine (congrArg (fun q => (ch11 w b n)[q]?) (show prmC.getD 151 0 = 47 + 79 from by decide)).trans ?_
  refine (bk11_8 w b n 79 (by decide)).trans ?_
  refine (congrArg (fun q => (ch4 w b (n + 47))[q]?) (show 79 = 72 + 7 from rfl)).trans ?_
  refine (bk4_7 w b (n + 47) 7 (by decide)).trans ?_
  show _ = some ((.inl (w.2.1.1, 4, .inl (fl9 (fun _ => 0) 4 5))) : va_E)
  rfl
theorem plC_152 (w : Wp) (b n : Nat) : plC w b n 152 := fun k h => by
  have e : (.inr (.inl (3, [some 153, none, none])) : KD) = k := Option.some.inj (show some (.inr (.inl (3, [some 153, none, none])) : KD) = some k from h)
  subst e
  refine (congrArg (fun q => (ch11 w b n)[q]?) (show prmC.getD 152 0 = 47 + 80 from by decide)).trans ?_
  refine (bk11_8 w b n 80 (by decide)).trans ?_
  refine (congrArg (fun q => (ch4 w b (n + 47))[q]?) (show 80 = 72 + 8 from rfl)).trans ?_
  refine (bk4_7 w b (n + 47) 8 (by decide)).trans ?_
  show _ = some ((.inr (3, [.ref (adC b n 153), .int 0, .int 0])) : va_E)
  rw [adC_eq (p := 153) (q := 128) (by decide)]
  rfl
theorem plC_153 (w : Wp) (b n : Nat) : plC w b n 153 := fun k h => by
  have e : (.inl 240 : KD) = k := Option.some.inj (show some (.inl 240 : KD) = some k from h)
  subst e
  refine (congrArg (fun q => (ch11 w b n)[q]?) (show prmC.getD 153 0 = 47 + 81 from by decide)).trans ?_
  refine (bk11_8 w b n 81 (by decide)).trans ?_
  refine (congrArg (fun q => (ch4 w b (n + 47))[q]?) (show 81 = 72 + 9 from rfl)).trans ?_
  refine (bk4_7 w b (n + 47) 9 (by decide)).trans ?_
  show _ = some ((.inl (w.2.1.1, 240, .inl (fun _ => 0))) : va_E)
  rfl
theorem plC_154 (w : Wp) (b n : Nat) : plC w b n 154 := fun k h => by
  have e : (.inr (.inl (10, [some 155, some 156, some 157, some 158, some 159, some 160, some 161, some 162, none, none, none, none, none, none, none, none, none])) : KD) = k := Option.some.inj (show some (.inr (.inl (10, [some 155, some 156, some 157, some 158, some 159, some 160, some 161, some 162, none, none, none, none, none, none, none, none, none])) : KD) = some k from h)
  subst e
  refine (congrArg (fun q => (ch11 w b n)[q]?) (show prmC.getD 154 0 = 47 + 82 from by decide)).trans ?_
  refine (bk11_8 w b n 82 (by decide)).trans ?_
  refine (congrArg (fun q => (ch4 w b (n + 47))[q]?) (show 82 = 82 + 0 from rfl)).trans ?_
  refine (bk4_8 w b (n + 47) 0 (by decide)).trans ?_
  show _ = some ((.inr (10, [.ref (adC b n 155), .ref (adC b n 156), .ref (adC b n 157), .ref (adC b n 158), .ref (adC b n 159), .ref (adC b n 160), .ref (adC b n 161), .ref (adC b n 162), .int 0, .int 0, .int 0, .int 0, .int 0, .int 0, .int 0, .int 1, .int 0])) : va_E)
  rw [adC_eq (p := 155) (q := 130) (by decide), adC_eq (p := 156) (q := 131) (by decide), adC_eq (p := 157) (q := 132) (by decide), adC_eq (p := 158) (q := 133) (by decide), adC_eq (p := 159) (q := 134) (by decide), adC_eq (p := 160) (q := 135) (by decide), adC_eq (p := 161) (q := 136) (by decide), adC_eq (p := 162) (q := 137) (by decide)]
  rfl
theorem plC_155 (w : Wp) (b n : Nat) : plC w b n 155 := fun k h => by
  have e : (.inl 6 : KD) = k := Option.some.inj (show some (.inl 6 : KD) = some k from h)
  subst e
  refine (congrArg (fun q => (ch11 w b n)[q]?) (show prmC.getD 155 0 = 47 + 83 from by decide)).trans ?_
  refine (bk11_8 w b n 83 (by decide)).trans ?_
  refine (congrArg (fun q => (ch4 w b (n + 47))[q]?) (show 83 = 82 + 1 from rfl)).trans ?_
  refine (bk4_8 w b (n + 47) 1 (by decide)).trans ?_
  show _ = some ((.inl (w.2.1.1, 6, .inl (fun _ => 0))) : va_E)
  rfl
theorem plC_156 (w : Wp) (b n : Nat) : plC w b n 156 := fun k h => by
  have e : (.inl 6 : KD) = k := Option.some.inj (show some (.inl 6 : KD) = some k from h)
  subst e
  refine (congrArg (fun q => (ch11 w b n)[q]?) (show prmC.getD 156 0 = 47 + 84 from by decide)).trans ?_
  refine (bk11_8 w b n 84 (by decide)).trans ?_
  refine (congrArg (fun q => (ch4 w b (n + 47))[q]?) (show 84 = 82 + 2 from rfl)).trans ?_
  refine (bk4_8 w b (n + 47) 2 (by decide)).trans ?_
  show _ = some ((.inl (w.2.1.1, 6, .inl (fun _ => 0))) : va_E)
  rfl
theorem plC_157 (w : Wp) (b n : Nat) : plC w b n 157 := fun k h => by
  have e : (.inl 6 : KD) = k := Option.some.inj (show some (.inl 6 : KD) = some k from h)
  subst e
  refine (congrArg (fun q => (ch11 w b n)[q]?) (show prmC.getD 157 0 = 47 + 85 from by decide)).trans ?_
  refine (bk11_8 w b n 85 (by decide)).trans ?_
  refine (congrArg (fun q => (ch4 w b (n + 47))[q]?) (show 85 = 82 + 3 from rfl)).trans ?_
  refine (bk4_8 w b (n + 47) 3 (by decide)).trans ?_
  show _ = some ((.inl (w.2.1.1, 6, .inl (fun _ => 0))) : va_E)
  rfl
theorem plC_158 (w : Wp) (b n : Nat) : plC w b n 158 := fun k h => by
  have e : (.inl 6 : KD) = k := Option.some.inj (show some (.inl 6 : KD) = some k from h)
  subst e
  refine (congrArg (fun q => (ch11 w b n)[q]?) (show prmC.getD 158 0 = 47 + 86 from by decide)).trans ?_
  refine (bk11_8 w b n 86 (by decide)).trans ?_
  refine (congrArg (fun q => (ch4 w b (n + 47))[q]?) (show 86 = 82 + 4 from rfl)).trans ?_
  refine (bk4_8 w b (n + 47) 4 (by decide)).trans ?_
  show _ = some ((.inl (w.2.1.1, 6, .inl (fun _ => 0))) : va_E)
  rfl
theorem plC_159 (w : Wp) (b n : Nat) : plC w b n 159 := fun k h => by
  have e : (.inl 6 : KD) = k := Option.some.inj (show some (.inl 6 : KD) = some k from h)
  subst e
  refine (congrArg (fun q => (ch11 w b n)[q]?) (show prmC.getD 159 0 = 47 + 87 from by decide)).trans ?_
  refine (bk11_8 w b n 87 (by decide)).trans ?_
  refine (congrArg (fun q => (ch4 w b (n + 47))[q]?) (show 87 = 82 + 5 from rfl)).trans ?_
  refine (bk4_8 w b (n + 47) 5 (by decide)).trans ?_
  show _ = some ((.inl (w.2.1.1, 6, .inl (fun _ => 0))) : va_E)
  rfl
theorem plC_160 (w : Wp) (b n : Nat) : plC w b n 160 := fun k h => by
  have e : (.inl 36 : KD) = k := Option.some.inj (show some (.inl 36 : KD) = some k from h)
  subst e
  refine (congrArg (fun q => (ch11 w b n)[q]?) (show prmC.getD 160 0 = 47 + 88 from by decide)).trans ?_
  refine (bk11_8 w b n 88 (by decide)).trans ?_
  refine (congrArg (fun q => (ch4 w b (n + 47))[q]?) (show 88 = 82 + 6 from rfl)).trans ?_
  refine (bk4_8 w b (n + 47) 6 (by decide)).trans ?_
  show _ = some ((.inl (w.2.1.1, 36, .inl (fl9 (fun _ => 0) 36 5))) : va_E)
  rfl
theorem plC_161 (w : Wp) (b n : Nat) : plC w b n 161 := fun k h => by
  have e : (.inl 4 : KD) = k := Option.some.inj (show some (.inl 4 : KD) = some k from h)
  subst e
  refine (congrArg (fun q => (ch11 w b n)[q]?) (show prmC.getD 161 0 = 47 + 89 from by decide)).trans ?_
  refine (bk11_8 w b n 89 (by decide)).trans ?_
  refine (congrArg (fun q => (ch4 w b (n + 47))[q]?) (show 89 = 82 + 7 from rfl)).trans ?_
  refine (bk4_8 w b (n + 47) 7 (by decide)).trans ?_
  show _ = some ((.inl (w.2.1.1, 4, .inl (fl9 (fun _ => 0) 4 5))) : va_E)
  rfl
theorem plC_162 (w : Wp) (b n : Nat) : plC w b n 162 := fun k h => by
  have e : (.inr (.inl (3, [some 163, none, none])) : KD) = k := Option.some.inj (show some (.inr (.inl (3, [some 163, none, none])) : KD) = some k from h)
  subst e
  refine (congrArg (fun q => (ch11 w b n)[q]?) (show prmC.getD 162 0 = 47 + 90 from by decide)).trans ?_
  refine (bk11_8 w b n 90 (by decide)).trans ?_
  refine (congrArg (fun q => (ch4 w b (n + 47))[q]?) (show 90 = 82 + 8 from rfl)).trans ?_
  refine (bk4_8 w b (n + 47) 8 (by decide)).trans ?_
  show _ = some ((.inr (3, [.ref (adC b n 163), .int 0, .int 0])) : va_E)
  rw [adC_eq (p := 163) (q := 138) (by decide)]
  rfl
theorem plC_163 (w : Wp) (b n : Nat) : plC w b n 163 := fun k h => by
  have e : (.inl 240 : KD) = k := Option.some.inj (show some (.inl 240 : KD) = some k from h)
  subst e
  refine (congrArg (fun q => (ch11 w b n)[q]?) (show prmC.getD 163 0 = 47 + 91 from by decide)).trans ?_
  refine (bk11_8 w b n 91 (by decide)).trans ?_
  refine (congrArg (fun q => (ch4 w b (n + 47))[q]?) (show 91 = 82 + 9 from rfl)).trans ?_
  refine (bk4_8 w b (n + 47) 9 (by decide)).trans ?_
  show _ = some ((.inl (w.2.1.1, 240, .inl (fun _ => 0))) : va_E)
  rfl
theorem plC_164 (w : Wp) (b n : Nat) : plC w b n 164 := fun k h => by
  have e : (.inr (.inl (10, [some 165, some 166, some 167, some 168, some 169, some 170, some 171, some 172, none, none, none, none, none, none, none, none, none])) : KD) = k := Option.some.inj (show some (.inr (.inl (10, [some 165, some 166, some 167, some 168, some 169, some 170, some 171, some 172, none, none, none, none, none, none, none, none, none])) : KD) = some k from h)
  subst e
  refine (congrArg (fun q => (ch11 w b n)[q]?) (show prmC.getD 164 0 = 47 + 92 from by decide)).trans ?_
  refine (bk11_8 w b n 92 (by decide)).trans ?_
  refine (congrArg (fun q => (ch4 w b (n + 47))[q]?) (show 92 = 92 + 0 from rfl)).trans ?_
  refine (bk4_9 w b (n + 47) 0 (by decide)).trans ?_
  show _ = some ((.inr (10, [.ref (adC b n 165), .ref (adC b n 166), .ref (adC b n 167), .ref (adC b n 168), .ref (adC b n 169), .ref (adC b n 170), .ref (adC b n 171), .ref (adC b n 172), .int 0, .int 0, .int 0, .int 0, .int 0, .int 0, .int 0, .int 1, .int 0])) : va_E)
  rw [adC_eq (p := 165) (q := 140) (by decide), adC_eq (p := 166) (q := 141) (by decide), adC_eq (p := 167) (q := 142) (by decide), adC_eq (p := 168) (q := 143) (by decide), adC_eq (p := 169) (q := 144) (by decide), adC_eq (p := 170) (q := 145) (by decide), adC_eq (p := 171) (q := 146) (by decide), adC_eq (p := 172) (q := 147) (by decide)]
  rfl
theorem plC_165 (w : Wp) (b n : Nat) : plC w b n 165 := fun k h => by
  have e : (.inl 6 : KD) = k := Option.some.inj (show some (.inl 6 : KD) = some k from h)
  subst e
  refine (congrArg (fun q => (ch11 w b n)[q]?) (show prmC.getD 165 0 = 47 + 93 from by decide)).trans ?_
  refine (bk11_8 w b n 93 (by decide)).trans ?_
  refine (congrArg (fun q => (ch4 w b (n + 47))[q]?) (show 93 = 92 + 1 from rfl)).trans ?_
  refine (bk4_9 w b (n + 47) 1 (by decide)).trans ?_
  show _ = some ((.inl (w.2.1.1, 6, .inl (fun _ => 0))) : va_E)
  rfl
theorem plC_166 (w : Wp) (b n : Nat) : plC w b n 166 := fun k h => by
  have e : (.inl 6 : KD) = k := Option.some.inj (show some (.inl 6 : KD) = some k from h)
  subst e
  refine (congrArg (fun q => (ch11 w b n)[q]?) (show prmC.getD 166 0 = 47 + 94 from by decide)).trans ?_
  refine (bk11_8 w b n 94 (by decide)).trans ?_
  refine (congrArg (fun q => (ch4 w b (n + 47))[q]?) (show 94 = 92 + 2 from rfl)).trans ?_
  refine (bk4_9 w b (n + 47) 2 (by decide)).trans ?_
  show _ = some ((.inl (w.2.1.1, 6, .inl (fun _ => 0))) : va_E)
  rfl
theorem plC_167 (w : Wp) (b n : Nat) : plC w b n 167 := fun k h => by
  have e : (.inl 6 : KD) = k := Option.some.inj (show some (.inl 6 : KD) = some k from h)
  subst e
  refine (congrArg (fun q => (ch11 w b n)[q]?) (show prmC.getD 167 0 = 47 + 95 from by decide)).trans ?_
  refine (bk11_8 w b n 95 (by decide)).trans ?_
  refine (congrArg (fun q => (ch4 w b (n + 47))[q]?) (show 95 = 92 + 3 from rfl)).trans ?_
  refine (bk4_9 w b (n + 47) 3 (by decide)).trans ?_
  show _ = some ((.inl (w.2.1.1, 6, .inl (fun _ => 0))) : va_E)
  rfl
theorem plC_168 (w : Wp) (b n : Nat) : plC w b n 168 := fun k h => by
  have e : (.inl 6 : KD) = k := Option.some.inj (show some (.inl 6 : KD) = some k from h)
  subst e
  refine (congrArg (fun q => (ch11 w b n)[q]?) (show prmC.getD 168 0 = 47 + 96 from by decide)).trans ?_
  refine (bk11_8 w b n 96 (by decide)).trans ?_
  refine (congrArg (fun q => (ch4 w b (n + 47))[q]?) (show 96 = 92 + 4 from rfl)).trans ?_
  refine (bk4_9 w b (n + 47) 4 (by decide)).trans ?_
  show _ = some ((.inl (w.2.1.1, 6, .inl (fun _ => 0))) : va_E)
  rfl
theorem plC_169 (w : Wp) (b n : Nat) : plC w b n 169 := fun k h => by
  have e : (.inl 6 : KD) = k := Option.some.inj (show some (.inl 6 : KD) = some k from h)
  subst e
  refine (congrArg (fun q => (ch11 w b n)[q]?) (show prmC.getD 169 0 = 47 + 97 from by decide)).trans ?_
  refine (bk11_8 w b n 97 (by decide)).trans ?_
  refine (congrArg (fun q => (ch4 w b (n + 47))[q]?) (show 97 = 92 + 5 from rfl)).trans ?_
  refine (bk4_9 w b (n + 47) 5 (by decide)).trans ?_
  show _ = some ((.inl (w.2.1.1, 6, .inl (fun _ => 0))) : va_E)
  rfl
theorem plC_170 (w : Wp) (b n : Nat) : plC w b n 170 := fun k h => by
  have e : (.inl 36 : KD) = k := Option.some.inj (show some (.inl 36 : KD) = some k from h)
  subst e
  refine (congrArg (fun q => (ch11 w b n)[q]?) (show prmC.getD 170 0 = 47 + 98 from by decide)).trans ?_
  refine (bk11_8 w b n 98 (by decide)).trans ?_
  refine (congrArg (fun q => (ch4 w b (n + 47))[q]?) (show 98 = 92 + 6 from rfl)).trans ?_
  refine (bk4_9 w b (n + 47) 6 (by decide)).trans ?_
  show _ = some ((.inl (w.2.1.1, 36, .inl (fl9 (fun _ => 0) 36 5))) : va_E)
  rfl
theorem plC_171 (w : Wp) (b n : Nat) : plC w b n 171 := fun k h => by
  have e : (.inl 4 : KD) = k := Option.some.inj (show some (.inl 4 : KD) = some k from h)
  subst e
  refine (congrArg (fun q => (ch11 w b n)[q]?) (show prmC.getD 171 0 = 47 + 99 from by decide)).trans ?_
  refine (bk11_8 w b n 99 (by decide)).trans ?_
  refine (congrArg (fun q => (ch4 w b (n + 47))[q]?) (show 99 = 92 + 7 from rfl)).trans ?_
  refine (bk4_9 w b (n + 47) 7 (by decide)).trans ?_
  show _ = some ((.inl (w.2.1.1, 4, .inl (fl9 (fun _ => 0) 4 5))) : va_E)
  rfl
theorem plC_172 (w : Wp) (b n : Nat) : plC w b n 172 := fun k h => by
  have e : (.inr (.inl (3, [some 173, none, none])) : KD) = k := Option.some.inj (show some (.inr (.inl (3, [some 173, none, none])) : KD) = some k from h)
  subst e
  refine (congrArg (fun q => (ch11 w b n)[q]?) (show prmC.getD 172 0 = 47 + 100 from by decide)).trans ?_
  refine (bk11_8 w b n 100 (by decide)).trans ?_
  refine (congrArg (fun q => (ch4 w b (n + 47))[q]?) (show 100 = 92 + 8 from rfl)).trans ?_
  refine (bk4_9 w b (n + 47) 8 (by decide)).trans ?_
  show _ = some ((.inr (3, [.ref (adC b n 173), .int 0, .int 0])) : va_E)
  rw [adC_eq (p := 173) (q := 148) (by decide)]
  rfl
theorem plC_173 (w : Wp) (b n : Nat) : plC w b n 173 := fun k h => by
  have e : (.inl 240 : KD) = k := Option.some.inj (show some (.inl 240 : KD) = some k from h)
  subst e
  refine (congrArg (fun q => (ch11 w b n)[q]?) (show prmC.getD 173 0 = 47 + 101 from by decide)).trans ?_
  refine (bk11_8 w b n 101 (by decide)).trans ?_
  refine (congrArg (fun q => (ch4 w b (n + 47))[q]?) (show 101 = 92 + 9 from rfl)).trans ?_
  refine (bk4_9 w b (n + 47) 9 (by decide)).trans ?_
  show _ = some ((.inl (w.2.1.1, 240, .inl (fun _ => 0))) : va_E)
  rfl
theorem plC_174 (w : Wp) (b n : Nat) : plC w b n 174 := fun k h => by
  have e : (.inr (.inl (10, [some 175, some 176, some 177, some 178, some 179, some 180, some 181, some 182, none, none, none, none, none, none, none, none, none])) : KD) = k := Option.some.inj (show some (.inr (.inl (10, [some 175, some 176, some 177, some 178, some 179, some 180, some 181, some 182, none, none, none, none, none, none, none, none, none])) : KD) = some k from h)
  subst e
  refine (congrArg (fun q => (ch11 w b n)[q]?) (show prmC.getD 174 0 = 47 + 102 from by decide)).trans ?_
  refine (bk11_8 w b n 102 (by decide)).trans ?_
  refine (congrArg (fun q => (ch4 w b (n + 47))[q]?) (show 102 = 102 + 0 from rfl)).trans ?_
  refine (bk4_10 w b (n + 47) 0 (by decide)).trans ?_
  show _ = some ((.inr (10, [.ref (adC b n 175), .ref (adC b n 176), .ref (adC b n 177), .ref (adC b n 178), .ref (adC b n 179), .ref (adC b n 180), .ref (adC b n 181), .ref (adC b n 182), .int 0, .int 0, .int 0, .int 0, .int 0, .int 0, .int 0, .int 1, .int 0])) : va_E)
  rw [adC_eq (p := 175) (q := 150) (by decide), adC_eq (p := 176) (q := 151) (by decide), adC_eq (p := 177) (q := 152) (by decide), adC_eq (p := 178) (q := 153) (by decide), adC_eq (p := 179) (q := 154) (by decide), adC_eq (p := 180) (q := 155) (by decide), adC_eq (p := 181) (q := 156) (by decide), adC_eq (p := 182) (q := 157) (by decide)]
  rfl
theorem plC_175 (w : Wp) (b n : Nat) : plC w b n 175 := fun k h => by
  have e : (.inl 6 : KD) = k := Option.some.inj (show some (.inl 6 : KD) = some k from h)
  subst e
  refine (congrArg (fun q => (ch11 w b n)[q]?) (show prmC.getD 175 0 = 47 + 103 from by decide)).trans ?_
  refine (bk11_8 w b n 103 (by decide)).trans ?_
  refine (congrArg (fun q => (ch4 w b (n + 47))[q]?) (show 103 = 102 + 1 from rfl)).trans ?_
  refine (bk4_10 w b (n + 47) 1 (by decide)).trans ?_
  show _ = some ((.inl (w.2.1.1, 6, .inl (fun _ => 0))) : va_E)
  rfl
theorem plC_176 (w : Wp) (b n : Nat) : plC w b n 176 := fun k h => by
  have e : (.inl 6 : KD) = k := Option.some.inj (show some (.inl 6 : KD) = some k from h)
  subst e
  refine (congrArg (fun q => (ch11 w b n)[q]?) (show prmC.getD 176 0 = 47 + 104 from by decide)).trans ?_
  refine (bk11_8 w b n 104 (by decide)).trans ?_
  refine (congrArg (fun q => (ch4 w b (n + 47))[q]?) (show 104 = 102 + 2 from rfl)).trans ?_
  refine (bk4_10 w b (n + 47) 2 (by decide)).trans ?_
  show _ = some ((.inl (w.2.1.1, 6, .inl (fun _ => 0))) : va_E)
  rfl
theorem plC_177 (w : Wp) (b n : Nat) : plC w b n 177 := fun k h => by
  have e : (.inl 6 : KD) = k := Option.some.inj (show some (.inl 6 : KD) = some k from h)
  subst e
  refine (congrArg (fun q => (ch11 w b n)[q]?) (show prmC.getD 177 0 = 47 + 105 from by decide)).trans ?_
  refine (bk11_8 w b n 105 (by decide)).trans ?_
  refine (congrArg (fun q => (ch4 w b (n + 47))[q]?) (show 105 = 102 + 3 from rfl)).trans ?_
  refine (bk4_10 w b (n + 47) 3 (by decide)).trans ?_
  show _ = some ((.inl (w.2.1.1, 6, .inl (fun _ => 0))) : va_E)
  rfl
theorem plC_178 (w : Wp) (b n : Nat) : plC w b n 178 := fun k h => by
  have e : (.inl 6 : KD) = k := Option.some.inj (show some (.inl 6 : KD) = some k from h)
  subst e
  refine (congrArg (fun q => (ch11 w b n)[q]?) (show prmC.getD 178 0 = 47 + 106 from by decide)).trans ?_
  refine (bk11_8 w b n 106 (by decide)).trans ?_
  refine (congrArg (fun q => (ch4 w b (n + 47))[q]?) (show 106 = 102 + 4 from rfl)).trans ?_
  refine (bk4_10 w b (n + 47) 4 (by decide)).trans ?_
  show _ = some ((.inl (w.2.1.1, 6, .inl (fun _ => 0))) : va_E)
  rfl
theorem plC_179 (w : Wp) (b n : Nat) : plC w b n 179 := fun k h => by
  have e : (.inl 6 : KD) = k := Option.some.inj (show some (.inl 6 : KD) = some k from h)
  subst e
  refine (congrArg (fun q => (ch11 w b n)[q]?) (show prmC.getD 179 0 = 47 + 107 from by decide)).trans ?_
  refine (bk11_8 w b n 107 (by decide)).trans ?_
  refine (congrArg (fun q => (ch4 w b (n + 47))[q]?) (show 107 = 102 + 5 from rfl)).trans ?_
  refine (bk4_10 w b (n + 47) 5 (by decide)).trans ?_
  show _ = some ((.inl (w.2.1.1, 6, .inl (fun _ => 0))) : va_E)
  rfl
theorem plC_180 (w : Wp) (b n : Nat) : plC w b n 180 := fun k h => by
  have e : (.inl 36 : KD) = k := Option.some.inj (show some (.inl 36 : KD) = some k from h)
  subst e
  refine (congrArg (fun q => (ch11 w b n)[q]?) (show prmC.getD 180 0 = 47 + 108 from by decide)).trans ?_
  refine (bk11_8 w b n 108 (by decide)).trans ?_
  refine (congrArg (fun q => (ch4 w b (n + 47))[q]?) (show 108 = 102 + 6 from rfl)).trans ?_
  refine (bk4_10 w b (n + 47) 6 (by decide)).trans ?_
  show _ = some ((.inl (w.2.1.1, 36, .inl (fl9 (fun _ => 0) 36 5))) : va_E)
  rfl
theorem plC_181 (w : Wp) (b n : Nat) : plC w b n 181 := fun k h => by
  have e : (.inl 4 : KD) = k := Option.some.inj (show some (.inl 4 : KD) = some k from h)
  subst e
  refine (congrArg (fun q => (ch11 w b n)[q]?) (show prmC.getD 181 0 = 47 + 109 from by decide)).trans ?_
  refine (bk11_8 w b n 109 (by decide)).trans ?_
  refine (congrArg (fun q => (ch4 w b (n + 47))[q]?) (show 109 = 102 + 7 from rfl)).trans ?_
  refine (bk4_10 w b (n + 47) 7 (by decide)).trans ?_
  show _ = some ((.inl (w.2.1.1, 4, .inl (fl9 (fun _ => 0) 4 5))) : va_E)
  rfl
theorem plC_182 (w : Wp) (b n : Nat) : plC w b n 182 := fun k h => by
  have e : (.inr (.inl (3, [some 183, none, none])) : KD) = k := Option.some.inj (show some (.inr (.inl (3, [some 183, none, none])) : KD) = some k from h)
  subst e
  refine (congrArg (fun q => (ch11 w b n)[q]?) (show prmC.getD 182 0 = 47 + 110 from by decide)).trans ?_
  refine (bk11_8 w b n 110 (by decide)).trans ?_
  refine (congrArg (fun q => (ch4 w b (n + 47))[q]?) (show 110 = 102 + 8 from rfl)).trans ?_
  refine (bk4_10 w b (n + 47) 8 (by decide)).trans ?_
  show _ = some ((.inr (3, [.ref (adC b n 183), .int 0, .int 0])) : va_E)
  rw [adC_eq (p := 183) (q := 158) (by decide)]
  rfl
theorem plC_183 (w : Wp) (b n : Nat) : plC w b n 183 := fun k h => by
  have e : (.inl 240 : KD) = k := Option.some.inj (show some (.inl 240 : KD) = some k from h)
  subst e
  refine (congrArg (fun q => (ch11 w b n)[q]?) (show prmC.getD 183 0 = 47 + 111 from by decide)).trans ?_
  refine (bk11_8 w b n 111 (by decide)).trans ?_
  refine (congrArg (fun q => (ch4 w b (n + 47))[q]?) (show 111 = 102 + 9 from rfl)).trans ?_
  refine (bk4_10 w b (n + 47) 9 (by decide)).trans ?_
  show _ = some ((.inl (w.2.1.1, 240, .inl (fun _ => 0))) : va_E)
  rfl
theorem plC_184 (w : Wp) (b n : Nat) : plC w b n 184 := fun k h => by
  have e : (.inr (.inl (10, [some 185, some 186, some 187, some 188, some 189, some 190, some 191, some 192, none, none, none, none, none, none, none, none, none])) : KD) = k := Option.some.inj (show some (.inr (.inl (10, [some 185, some 186, some 187, some 188, some 189, some 190, some 191, some 192, none, none, none, none, none, none, none, none, none])) : KD) = some k from h)
  subst e
  refine (congrArg (fun q => (ch11 w b n)[q]?) (show prmC.getD 184 0 = 47 + 112 from by decide)).trans ?_
  refine (bk11_8 w b n 112 (by decide)).trans ?_
  refine (congrArg (fun q => (ch4 w b (n + 47))[q]?) (show 112 = 112 + 0 from rfl)).trans ?_
  refine (bk4_11 w b (n + 47) 0 (by decide)).trans ?_
  show _ = some ((.inr (10, [.ref (adC b n 185), .ref (adC b n 186), .ref (adC b n 187), .ref (adC b n 188), .ref (adC b n 189), .ref (adC b n 190), .ref (adC b n 191), .ref (adC b n 192), .int 0, .int 0, .int 0, .int 0, .int 0, .int 0, .int 0, .int 1, .int 0])) : va_E)
  rw [adC_eq (p := 185) (q := 160) (by decide), adC_eq (p := 186) (q := 161) (by decide), adC_eq (p := 187) (q := 162) (by decide), adC_eq (p := 188) (q := 163) (by decide), adC_eq (p := 189) (q := 164) (by decide), adC_eq (p := 190) (q := 165) (by decide), adC_eq (p := 191) (q := 166) (by decide), adC_eq (p := 192) (q := 167) (by decide)]
  rfl
theorem plC_185 (w : Wp) (b n : Nat) : plC w b n 185 := fun k h => by
  have e : (.inl 6 : KD) = k := Option.some.inj (show some (.inl 6 : KD) = some k from h)
  subst e
  refine (congrArg (fun q => (ch11 w b n)[q]?) (show prmC.getD 185 0 = 47 + 113 from by decide)).trans ?_
  refine (bk11_8 w b n 113 (by decide)).trans ?_
  refine (congrArg (fun q => (ch4 w b (n + 47))[q]?) (show 113 = 112 + 1 from rfl)).trans ?_
  refine (bk4_11 w b (n + 47) 1 (by decide)).trans ?_
  show _ = some ((.inl (w.2.1.1, 6, .inl (fun _ => 0))) : va_E)
  rfl
theorem plC_186 (w : Wp) (b n : Nat) : plC w b n 186 := fun k h => by
  have e : (.inl 6 : KD) = k := Option.some.inj (show some (.inl 6 : KD) = some k from h)
  subst e
  refine (congrArg (fun q => (ch11 w b n)[q]?) (show prmC.getD 186 0 = 47 + 114 from by decide)).trans ?_
  refine (bk11_8 w b n 114 (by decide)).trans ?_
  refine (congrArg (fun q => (ch4 w b (n + 47))[q]?) (show 114 = 112 + 2 from rfl)).trans ?_
  refine (bk4_11 w b (n + 47) 2 (by decide)).trans ?_
  show _ = some ((.inl (w.2.1.1, 6, .inl (fun _ => 0))) : va_E)
  rfl
theorem plC_187 (w : Wp) (b n : Nat) : plC w b n 187 := fun k h => by
  have e : (.inl 6 : KD) = k := Option.some.inj (show some (.inl 6 : KD) = some k from h)
  subst e
  refine (congrArg (fun q => (ch11 w b n)[q]?) (show prmC.getD 187 0 = 47 + 115 from by decide)).trans ?_
  refine (bk11_8 w b n 115 (by decide)).trans ?_
  refine (congrArg (fun q => (ch4 w b (n + 47))[q]?) (show 115 = 112 + 3 from rfl)).trans ?_
  refine (bk4_11 w b (n + 47) 3 (by decide)).trans ?_
  show _ = some ((.inl (w.2.1.1, 6, .inl (fun _ => 0))) : va_E)
  rfl
theorem plC_188 (w : Wp) (b n : Nat) : plC w b n 188 := fun k h => by
  have e : (.inl 6 : KD) = k := Option.some.inj (show some (.inl 6 : KD) = some k from h)
  subst e
  refine (congrArg (fun q => (ch11 w b n)[q]?) (show prmC.getD 188 0 = 47 + 116 from by decide)).trans ?_
  refine (bk11_8 w b n 116 (by decide)).trans ?_
  refine (congrArg (fun q => (ch4 w b (n + 47))[q]?) (show 116 = 112 + 4 from rfl)).trans ?_
  refine (bk4_11 w b (n + 47) 4 (by decide)).trans ?_
  show _ = some ((.inl (w.2.1.1, 6, .inl (fun _ => 0))) : va_E)
  rfl
theorem plC_189 (w : Wp) (b n : Nat) : plC w b n 189 := fun k h => by
  have e : (.inl 6 : KD) = k := Option.some.inj (show some (.inl 6 : KD) = some k from h)
  subst e
  refine (congrArg (fun q => (ch11 w b n)[q]?) (show prmC.getD 189 0 = 47 + 117 from by decide)).trans ?_
  refine (bk11_8 w b n 117 (by decide)).trans ?_
  refine (congrArg (fun q => (ch4 w b (n + 47))[q]?) (show 117 = 112 + 5 from rfl)).trans ?_
  refine (bk4_11 w b (n + 47) 5 (by decide)).trans ?_
  show _ = some ((.inl (w.2.1.1, 6, .inl (fun _ => 0))) : va_E)
  rfl
theorem plC_190 (w : Wp) (b n : Nat) : plC w b n 190 := fun k h => by
  have e : (.inl 36 : KD) = k := Option.some.inj (show some (.inl 36 : KD) = some k from h)
  subst e
  refine (congrArg (fun q => (ch11 w b n)[q]?) (show prmC.getD 190 0 = 47 + 118 from by decide)).trans ?_
  refine (bk11_8 w b n 118 (by decide)).trans ?_
  refine (congrArg (fun q => (ch4 w b (n + 47))[q]?) (show 118 = 112 + 6 from rfl)).trans ?_
  refine (bk4_11 w b (n + 47) 6 (by decide)).trans ?_
  show _ = some ((.inl (w.2.1.1, 36, .inl (fl9 (fun _ => 0) 36 5))) : va_E)
  rfl
theorem plC_191 (w : Wp) (b n : Nat) : plC w b n 191 := fun k h => by
  have e : (.inl 4 : KD) = k := Option.some.inj (show some (.inl 4 : KD) = some k from h)
  subst e
  refine (congrArg (fun q => (ch11 w b n)[q]?) (show prmC.getD 191 0 = 47 + 119 from by decide)).trans ?_
  refine (bk11_8 w b n 119 (by decide)).trans ?_
  refine (congrArg (fun q => (ch4 w b (n + 47))[q]?) (show 119 = 112 + 7 from rfl)).trans ?_
  refine (bk4_11 w b (n + 47) 7 (by decide)).trans ?_
  show _ = some ((.inl (w.2.1.1, 4, .inl (fl9 (fun _ => 0) 4 5))) : va_E)
  rfl
theorem plC_192 (w : Wp) (b n : Nat) : plC w b n 192 := fun k h => by
  have e : (.inr (.inl (3, [some 193, none, none])) : KD) = k := Option.some.inj (show some (.inr (.inl (3, [some 193, none, none])) : KD) = some k from h)
  subst e
  refine (congrArg (fun q => (ch11 w b n)[q]?) (show prmC.getD 192 0 = 47 + 120 from by decide)).trans ?_
  refine (bk11_8 w b n 120 (by decide)).trans ?_
  refine (congrArg (fun q => (ch4 w b (n + 47))[q]?) (show 120 = 112 + 8 from rfl)).trans ?_
  refine (bk4_11 w b (n + 47) 8 (by decide)).trans ?_
  show _ = some ((.inr (3, [.ref (adC b n 193), .int 0, .int 0])) : va_E)
  rw [adC_eq (p := 193) (q := 168) (by decide)]
  rfl
theorem plC_193 (w : Wp) (b n : Nat) : plC w b n 193 := fun k h => by
  have e : (.inl 240 : KD) = k := Option.some.inj (show some (.inl 240 : KD) = some k from h)
  subst e
  refine (congrArg (fun q => (ch11 w b n)[q]?) (show prmC.getD 193 0 = 47 + 121 from by decide)).trans ?_
  refine (bk11_8 w b n 121 (by decide)).trans ?_
  refine (congrArg (fun q => (ch4 w b (n + 47))[q]?) (show 121 = 112 + 9 from rfl)).trans ?_
  refine (bk4_11 w b (n + 47) 9 (by decide)).trans ?_
  show _ = some ((.inl (w.2.1.1, 240, .inl (fun _ => 0))) : va_E)
  rfl
theorem plC_n (w : Wp) (b n p : Nat) (h : 194 ≤ p) : plC w b n p := fun k hk => absurd (List.getElem?_eq_some_iff.mp hk).1 (Nat.not_lt.mpr h)
theorem ptC_0_1 (w : Wp) (b n p : Nat) (h1 : 0 ≤ p) (h2 : p < 1) : plC w b n p := by
  have e : p = 0 := by omega
  subst e
  exact plC_0 w b n
theorem ptC_1_2 (w : Wp) (b n p : Nat) (h1 : 1 ≤ p) (h2 : p < 2) : plC w b n p := by
  have e : p = 1 := by omega
  subst e
  exact plC_1 w b n
theorem ptC_2_3 (w : Wp) (b n p : Nat) (h1 : 2 ≤ p) (h2 : p < 3) : plC w b n p := by
  have e : p = 2 := by omega
  subst e
  exact plC_2 w b n
theorem ptC_1_3 (w : Wp) (b n p : Nat) (h1 : 1 ≤ p) (h2 : p < 3) : plC w b n p := (Nat.lt_or_ge p 2).elim (fun h => ptC_1_2 w b n p h1 h) (fun h => ptC_2_3 w b n p h h2)
theorem ptC_0_3 (w : Wp) (b n p : Nat) (h1 : 0 ≤ p) (h2 : p < 3) : plC w b n p := (Nat.lt_or_ge p 1).elim (fun h => ptC_0_1 w b n p h1 h) (fun h => ptC_1_3 w b n p h h2)
theorem ptC_3_4 (w : Wp) (b n p : Nat) (h1 : 3 ≤ p) (h2 : p < 4) : plC w b n p := by
  have e : p = 3 := by omega
  subst e
  exact plC_3 w b n
theorem ptC_4_5 (w : Wp) (b n p : Nat) (h1 : 4 ≤ p) (h2 : p < 5) : plC w b n p := by
  have e : p = 4 := by omega
  subst e
  exact plC_4 w b n
theorem ptC_5_6 (w : Wp) (b n p : Nat) (h1 : 5 ≤ p) (h2 : p < 6) : plC w b n p := by
  have e : p = 5 := by omega
  subst e
  exact plC_5 w b n
theorem ptC_4_6 (w : Wp) (b n p : Nat) (h1 : 4 ≤ p) (h2 : p < 6) : plC w b n p := (Nat.lt_or_ge p 5).elim (fun h => ptC_4_5 w b n p h1 h) (fun h => ptC_5_6 w b n p h h2)
theorem ptC_3_6 (w : Wp) (b n p : Nat) (h1 : 3 ≤ p) (h2 : p < 6) : plC w b n p := (Nat.lt_or_ge p 4).elim (fun h => ptC_3_4 w b n p h1 h) (fun h => ptC_4_6 w b n p h h2)
theorem ptC_0_6 (w : Wp) (b n p : Nat) (h1 : 0 ≤ p) (h2 : p < 6) : plC w b n p := (Nat.lt_or_ge p 3).elim (fun h => ptC_0_3 w b n p h1 h) (fun h => ptC_3_6 w b n p h h2)
theorem ptC_6_7 (w : Wp) (b n p : Nat) (h1 : 6 ≤ p) (h2 : p < 7) : plC w b n p := by
  have e : p = 6 := by omega
  subst e
  exact plC_6 w b n
theorem ptC_7_8 (w : Wp) (b n p : Nat) (h1 : 7 ≤ p) (h2 : p < 8) : plC w b n p := by
  have e : p = 7 := by omega
  subst e
  exact plC_7 w b n
theorem ptC_8_9 (w : Wp) (b n p : Nat) (h1 : 8 ≤ p) (h2 : p < 9) : plC w b n p := by
  have e : p = 8 := by omega
  subst e
  exact plC_8 w b n
theorem ptC_7_9 (w : Wp) (b n p : Nat) (h1 : 7 ≤ p) (h2 : p < 9) : plC w b n p := (Nat.lt_or_ge p 8).elim (fun h => ptC_7_8 w b n p h1 h) (fun h => ptC_8_9 w b n p h h2)
theorem ptC_6_9 (w : Wp) (b n p : Nat) (h1 : 6 ≤ p) (h2 : p < 9) : plC w b n p := (Nat.lt_or_ge p 7).elim (fun h => ptC_6_7 w b n p h1 h) (fun h => ptC_7_9 w b n p h h2)
theorem ptC_9_10 (w : Wp) (b n p : Nat) (h1 : 9 ≤ p) (h2 : p < 10) : plC w b n p := by
  have e : p = 9 := by omega
  subst e
  exact plC_9 w b n
theorem ptC_10_11 (w : Wp) (b n p : Nat) (h1 : 10 ≤ p) (h2 : p < 11) : plC w b n p := by
  have e : p = 10 := by omega
  subst e
  exact plC_10 w b n
theorem ptC_11_12 (w : Wp) (b n p : Nat) (h1 : 11 ≤ p) (h2 : p < 12) : plC w b n p := by
  have e : p = 11 := by omega
  subst e
  exact plC_11 w b n
theorem ptC_10_12 (w : Wp) (b n p : Nat) (h1 : 10 ≤ p) (h2 : p < 12) : plC w b n p := (Nat.lt_or_ge p 11).elim (fun h => ptC_10_11 w b n p h1 h) (fun h => ptC_11_12 w b n p h h2)
theorem ptC_9_12 (w : Wp) (b n p : Nat) (h1 : 9 ≤ p) (h2 : p < 12) : plC w b n p := (Nat.lt_or_ge p 10).elim (fun h => ptC_9_10 w b n p h1 h) (fun h => ptC_10_12 w b n p h h2)
theorem ptC_6_12 (w : Wp) (b n p : Nat) (h1 : 6 ≤ p) (h2 : p < 12) : plC w b n p := (Nat.lt_or_ge p 9).elim (fun h => ptC_6_9 w b n p h1 h) (fun h => ptC_9_12 w b n p h h2)
theorem ptC_0_12 (w : Wp) (b n p : Nat) (h1 : 0 ≤ p) (h2 : p < 12) : plC w b n p := (Nat.lt_or_ge p 6).elim (fun h => ptC_0_6 w b n p h1 h) (fun h => ptC_6_12 w b n p h h2)
theorem ptC_12_13 (w : Wp) (b n p : Nat) (h1 : 12 ≤ p) (h2 : p < 13) : plC w b n p := by
  have e : p = 12 := by omega
  subst e
  exact plC_12 w b n
theorem ptC_13_14 (w : Wp) (b n p : Nat) (h1 : 13 ≤ p) (h2 : p < 14) : plC w b n p := by
  have e : p = 13 := by omega
  subst e
  exact plC_13 w b n
theorem ptC_14_15 (w : Wp) (b n p : Nat) (h1 : 14 ≤ p) (h2 : p < 15) : plC w b n p := by
  have e : p = 14 := by omega
  subst e
  exact plC_14 w b n
theorem ptC_13_15 (w : Wp) (b n p : Nat) (h1 : 13 ≤ p) (h2 : p < 15) : plC w b n p := (Nat.lt_or_ge p 14).elim (fun h => ptC_13_14 w b n p h1 h) (fun h => ptC_14_15 w b n p h h2)
theorem ptC_12_15 (w : Wp) (b n p : Nat) (h1 : 12 ≤ p) (h2 : p < 15) : plC w b n p := (Nat.lt_or_ge p 13).elim (fun h => ptC_12_13 w b n p h1 h) (fun h => ptC_13_15 w b n p h h2)
theorem ptC_15_16 (w : Wp) (b n p : Nat) (h1 : 15 ≤ p) (h2 : p < 16) : plC w b n p := by
  have e : p = 15 := by omega
  subst e
  exact plC_15 w b n
theorem ptC_16_17 (w : Wp) (b n p : Nat) (h1 : 16 ≤ p) (h2 : p < 17) : plC w b n p := by
  have e : p = 16 := by omega
  subst e
  exact plC_16 w b n
theorem ptC_17_18 (w : Wp) (b n p : Nat) (h1 : 17 ≤ p) (h2 : p < 18) : plC w b n p := by
  have e : p = 17 := by omega
  subst e
  exact plC_17 w b n
theorem ptC_16_18 (w : Wp) (b n p : Nat) (h1 : 16 ≤ p) (h2 : p < 18) : plC w b n p := (Nat.lt_or_ge p 17).elim (fun h => ptC_16_17 w b n p h1 h) (fun h => ptC_17_18 w b n p h h2)
theorem ptC_15_18 (w : Wp) (b n p : Nat) (h1 : 15 ≤ p) (h2 : p < 18) : plC w b n p := (Nat.lt_or_ge p 16).elim (fun h => ptC_15_16 w b n p h1 h) (fun h => ptC_16_18 w b n p h h2)
theorem ptC_12_18 (w : Wp) (b n p : Nat) (h1 : 12 ≤ p) (h2 : p < 18) : plC w b n p := (Nat.lt_or_ge p 15).elim (fun h => ptC_12_15 w b n p h1 h) (fun h => ptC_15_18 w b n p h h2)
theorem ptC_18_19 (w : Wp) (b n p : Nat) (h1 : 18 ≤ p) (h2 : p < 19) : plC w b n p := by
  have e : p = 18 := by omega
  subst e
  exact plC_18 w b n
theorem ptC_19_20 (w : Wp) (b n p : Nat) (h1 : 19 ≤ p) (h2 : p < 20) : plC w b n p := by
  have e : p = 19 := by omega
  subst e
  exact plC_19 w b n
theorem ptC_20_21 (w : Wp) (b n p : Nat) (h1 : 20 ≤ p) (h2 : p < 21) : plC w b n p := by
  have e : p = 20 := by omega
  subst e
  exact plC_20 w b n
theorem ptC_19_21 (w : Wp) (b n p : Nat) (h1 : 19 ≤ p) (h2 : p < 21) : plC w b n p := (Nat.lt_or_ge p 20).elim (fun h => ptC_19_20 w b n p h1 h) (fun h => ptC_20_21 w b n p h h2)
theorem ptC_18_21 (w : Wp) (b n p : Nat) (h1 : 18 ≤ p) (h2 : p < 21) : plC w b n p := (Nat.lt_or_ge p 19).elim (fun h => ptC_18_19 w b n p h1 h) (fun h => ptC_19_21 w b n p h h2)
theorem ptC_21_22 (w : Wp) (b n p : Nat) (h1 : 21 ≤ p) (h2 : p < 22) : plC w b n p := by
  have e : p = 21 := by omega
  subst e
  exact plC_21 w b n
theorem ptC_22_23 (w : Wp) (b n p : Nat) (h1 : 22 ≤ p) (h2 : p < 23) : plC w b n p := by
  have e : p = 22 := by omega
  subst e
  exact plC_22 w b n
theorem ptC_23_24 (w : Wp) (b n p : Nat) (h1 : 23 ≤ p) (h2 : p < 24) : plC w b n p := by
  have e : p = 23 := by omega
  subst e
  exact plC_23 w b n
theorem ptC_22_24 (w : Wp) (b n p : Nat) (h1 : 22 ≤ p) (h2 : p < 24) : plC w b n p := (Nat.lt_or_ge p 23).elim (fun h => ptC_22_23 w b n p h1 h) (fun h => ptC_23_24 w b n p h h2)
theorem ptC_21_24 (w : Wp) (b n p : Nat) (h1 : 21 ≤ p) (h2 : p < 24) : plC w b n p := (Nat.lt_or_ge p 22).elim (fun h => ptC_21_22 w b n p h1 h) (fun h => ptC_22_24 w b n p h h2)
theorem ptC_18_24 (w : Wp) (b n p : Nat) (h1 : 18 ≤ p) (h2 : p < 24) : plC w b n p := (Nat.lt_or_ge p 21).elim (fun h => ptC_18_21 w b n p h1 h) (fun h => ptC_21_24 w b n p h h2)
theorem ptC_12_24 (w : Wp) (b n p : Nat) (h1 : 12 ≤ p) (h2 : p < 24) : plC w b n p := (Nat.lt_or_ge p 18).elim (fun h => ptC_12_18 w b n p h1 h) (fun h => ptC_18_24 w b n p h h2)
theorem ptC_0_24 (w : Wp) (b n p : Nat) (h1 : 0 ≤ p) (h2 : p < 24) : plC w b n p := (Nat.lt_or_ge p 12).elim (fun h => ptC_0_12 w b n p h1 h) (fun h => ptC_12_24 w b n p h h2)
theorem ptC_24_25 (w : Wp) (b n p : Nat) (h1 : 24 ≤ p) (h2 : p < 25) : plC w b n p := by
  have e : p = 24 := by omega
  subst e
  exact plC_24 w b n
theorem ptC_25_26 (w : Wp) (b n p : Nat) (h1 : 25 ≤ p) (h2 : p < 26) : plC w b n p := by
  have e : p = 25 := by omega
  subst e
  exact plC_25 w b n
theorem ptC_26_27 (w : Wp) (b n p : Nat) (h1 : 26 ≤ p) (h2 : p < 27) : plC w b n p := by
  have e : p = 26 := by omega
  subst e
  exact plC_26 w b n
theorem ptC_25_27 (w : Wp) (b n p : Nat) (h1 : 25 ≤ p) (h2 : p < 27) : plC w b n p := (Nat.lt_or_ge p 26).elim (fun h => ptC_25_26 w b n p h1 h) (fun h => ptC_26_27 w b n p h h2)
theorem ptC_24_27 (w : Wp) (b n p : Nat) (h1 : 24 ≤ p) (h2 : p < 27) : plC w b n p := (Nat.lt_or_ge p 25).elim (fun h => ptC_24_25 w b n p h1 h) (fun h => ptC_25_27 w b n p h h2)
theorem ptC_27_28 (w : Wp) (b n p : Nat) (h1 : 27 ≤ p) (h2 : p < 28) : plC w b n p := by
  have e : p = 27 := by omega
  subst e
  exact plC_27 w b n
theorem ptC_28_29 (w : Wp) (b n p : Nat) (h1 : 28 ≤ p) (h2 : p < 29) : plC w b n p := by
  have e : p = 28 := by omega
  subst e
  exact plC_28 w b n
theorem ptC_29_30 (w : Wp) (b n p : Nat) (h1 : 29 ≤ p) (h2 : p < 30) : plC w b n p := by
  have e : p = 29 := by omega
  subst e
  exact plC_29 w b n
theorem ptC_28_30 (w : Wp) (b n p : Nat) (h1 : 28 ≤ p) (h2 : p < 30) : plC w b n p := (Nat.lt_or_ge p 29).elim (fun h => ptC_28_29 w b n p h1 h) (fun h => ptC_29_30 w b n p h h2)
theorem ptC_27_30 (w : Wp) (b n p : Nat) (h1 : 27 ≤ p) (h2 : p < 30) : plC w b n p := (Nat.lt_or_ge p 28).elim (fun h => ptC_27_28 w b n p h1 h) (fun h => ptC_28_30 w b n p h h2)
theorem ptC_24_30 (w : Wp) (b n p : Nat) (h1 : 24 ≤ p) (h2 : p < 30) : plC w b n p := (Nat.lt_or_ge p 27).elim (fun h => ptC_24_27 w b n p h1 h) (fun h => ptC_27_30 w b n p h h2)
theorem ptC_30_31 (w : Wp) (b n p : Nat) (h1 : 30 ≤ p) (h2 : p < 31) : plC w b n p := by
  have e : p = 30 := by omega
  subst e
  exact plC_30 w b n
theorem ptC_31_32 (w : Wp) (b n p : Nat) (h1 : 31 ≤ p) (h2 : p < 32) : plC w b n p := by
  have e : p = 31 := by omega
  subst e
  exact plC_31 w b n
theorem ptC_32_33 (w : Wp) (b n p : Nat) (h1 : 32 ≤ p) (h2 : p < 33) : plC w b n p := by
  have e : p = 32 := by omega
  subst e
  exact plC_32 w b n
theorem ptC_31_33 (w : Wp) (b n p : Nat) (h1 : 31 ≤ p) (h2 : p < 33) : plC w b n p := (Nat.lt_or_ge p 32).elim (fun h => ptC_31_32 w b n p h1 h) (fun h => ptC_32_33 w b n p h h2)
theorem ptC_30_33 (w : Wp) (b n p : Nat) (h1 : 30 ≤ p) (h2 : p < 33) : plC w b n p := (Nat.lt_or_ge p 31).elim (fun h => ptC_30_31 w b n p h1 h) (fun h => ptC_31_33 w b n p h h2)
theorem ptC_33_34 (w : Wp) (b n p : Nat) (h1 : 33 ≤ p) (h2 : p < 34) : plC w b n p := by
  have e : p = 33 := by omega
  subst e
  exact plC_33 w b n
theorem ptC_34_35 (w : Wp) (b n p : Nat) (h1 : 34 ≤ p) (h2 : p < 35) : plC w b n p := by
  have e : p = 34 := by omega
  subst e
  exact plC_34 w b n
theorem ptC_35_36 (w : Wp) (b n p : Nat) (h1 : 35 ≤ p) (h2 : p < 36) : plC w b n p := by
  have e : p = 35 := by omega
  subst e
  exact plC_35 w b n
theorem ptC_34_36 (w : Wp) (b n p : Nat) (h1 : 34 ≤ p) (h2 : p < 36) : plC w b n p := (Nat.lt_or_ge p 35).elim (fun h => ptC_34_35 w b n p h1 h) (fun h => ptC_35_36 w b n p h h2)
theorem ptC_33_36 (w : Wp) (b n p : Nat) (h1 : 33 ≤ p) (h2 : p < 36) : plC w b n p := (Nat.lt_or_ge p 34).elim (fun h => ptC_33_34 w b n p h1 h) (fun h => ptC_34_36 w b n p h h2)
theorem ptC_30_36 (w : Wp) (b n p : Nat) (h1 : 30 ≤ p) (h2 : p < 36) : plC w b n p := (Nat.lt_or_ge p 33).elim (fun h => ptC_30_33 w b n p h1 h) (fun h => ptC_33_36 w b n p h h2)
theorem ptC_24_36 (w : Wp) (b n p : Nat) (h1 : 24 ≤ p) (h2 : p < 36) : plC w b n p := (Nat.lt_or_ge p 30).elim (fun h => ptC_24_30 w b n p h1 h) (fun h => ptC_30_36 w b n p h h2)
theorem ptC_36_37 (w : Wp) (b n p : Nat) (h1 : 36 ≤ p) (h2 : p < 37) : plC w b n p := by
  have e : p = 36 := by omega
  subst e
  exact plC_36 w b n
theorem ptC_37_38 (w : Wp) (b n p : Nat) (h1 : 37 ≤ p) (h2 : p < 38) : plC w b n p := by
  have e : p = 37 := by omega
  subst e
  exact plC_37 w b n
theorem ptC_38_39 (w : Wp) (b n p : Nat) (h1 : 38 ≤ p) (h2 : p < 39) : plC w b n p := by
  have e : p = 38 := by omega
  subst e
  exact plC_38 w b n
theorem ptC_37_39 (w : Wp) (b n p : Nat) (h1 : 37 ≤ p) (h2 : p < 39) : plC w b n p := (Nat.lt_or_ge p 38).elim (fun h => ptC_37_38 w b n p h1 h) (fun h => ptC_38_39 w b n p h h2)
theorem ptC_36_39 (w : Wp) (b n p : Nat) (h1 : 36 ≤ p) (h2 : p < 39) : plC w b n p := (Nat.lt_or_ge p 37).elim (fun h => ptC_36_37 w b n p h1 h) (fun h => ptC_37_39 w b n p h h2)
theorem ptC_39_40 (w : Wp) (b n p : Nat) (h1 : 39 ≤ p) (h2 : p < 40) : plC w b n p := by
  have e : p = 39 := by omega
  subst e
  exact plC_39 w b n
theorem ptC_40_41 (w : Wp) (b n p : Nat) (h1 : 40 ≤ p) (h2 : p < 41) : plC w b n p := by
  have e : p = 40 := by omega
  subst e
  exact plC_40 w b n
theorem ptC_41_42 (w : Wp) (b n p : Nat) (h1 : 41 ≤ p) (h2 : p < 42) : plC w b n p := by
  have e : p = 41 := by omega
  subst e
  exact plC_41 w b n
theorem ptC_40_42 (w : Wp) (b n p : Nat) (h1 : 40 ≤ p) (h2 : p < 42) : plC w b n p := (Nat.lt_or_ge p 41).elim (fun h => ptC_40_41 w b n p h1 h) (fun h => ptC_41_42 w b n p h h2)
theorem ptC_39_42 (w : Wp) (b n p : Nat) (h1 : 39 ≤ p) (h2 : p < 42) : plC w b n p := (Nat.lt_or_ge p 40).elim (fun h => ptC_39_40 w b n p h1 h) (fun h => ptC_40_42 w b n p h h2)
theorem ptC_36_42 (w : Wp) (b n p : Nat) (h1 : 36 ≤ p) (h2 : p < 42) : plC w b n p := (Nat.lt_or_ge p 39).elim (fun h => ptC_36_39 w b n p h1 h) (fun h => ptC_39_42 w b n p h h2)
theorem ptC_42_43 (w : Wp) (b n p : Nat) (h1 : 42 ≤ p) (h2 : p < 43) : plC w b n p := by
  have e : p = 42 := by omega
  subst e
  exact plC_42 w b n
theorem ptC_43_44 (w : Wp) (b n p : Nat) (h1 : 43 ≤ p) (h2 : p < 44) : plC w b n p := by
  have e : p = 43 := by omega
  subst e
  exact plC_43 w b n
theorem ptC_44_45 (w : Wp) (b n p : Nat) (h1 : 44 ≤ p) (h2 : p < 45) : plC w b n p := by
  have e : p = 44 := by omega
  subst e
  exact plC_44 w b n
theorem ptC_43_45 (w : Wp) (b n p : Nat) (h1 : 43 ≤ p) (h2 : p < 45) : plC w b n p := (Nat.lt_or_ge p 44).elim (fun h => ptC_43_44 w b n p h1 h) (fun h => ptC_44_45 w b n p h h2)
theorem ptC_42_45 (w : Wp) (b n p : Nat) (h1 : 42 ≤ p) (h2 : p < 45) : plC w b n p := (Nat.lt_or_ge p 43).elim (fun h => ptC_42_43 w b n p h1 h) (fun h => ptC_43_45 w b n p h h2)
theorem ptC_45_46 (w : Wp) (b n p : Nat) (h1 : 45 ≤ p) (h2 : p < 46) : plC w b n p := by
  have e : p = 45 := by omega
  subst e
  exact plC_45 w b n
theorem ptC_46_47 (w : Wp) (b n p : Nat) (h1 : 46 ≤ p) (h2 : p < 47) : plC w b n p := by
  have e : p = 46 := by omega
  subst e
  exact plC_46 w b n
theorem ptC_47_48 (w : Wp) (b n p : Nat) (h1 : 47 ≤ p) (h2 : p < 48) : plC w b n p := by
  have e : p = 47 := by omega
  subst e
  exact plC_47 w b n
theorem ptC_46_48 (w : Wp) (b n p : Nat) (h1 : 46 ≤ p) (h2 : p < 48) : plC w b n p := (Nat.lt_or_ge p 47).elim (fun h => ptC_46_47 w b n p h1 h) (fun h => ptC_47_48 w b n p h h2)
theorem ptC_45_48 (w : Wp) (b n p : Nat) (h1 : 45 ≤ p) (h2 : p < 48) : plC w b n p := (Nat.lt_or_ge p 46).elim (fun h => ptC_45_46 w b n p h1 h) (fun h => ptC_46_48 w b n p h h2)
theorem ptC_42_48 (w : Wp) (b n p : Nat) (h1 : 42 ≤ p) (h2 : p < 48) : plC w b n p := (Nat.lt_or_ge p 45).elim (fun h => ptC_42_45 w b n p h1 h) (fun h => ptC_45_48 w b n p h h2)
theorem ptC_36_48 (w : Wp) (b n p : Nat) (h1 : 36 ≤ p) (h2 : p < 48) : plC w b n p := (Nat.lt_or_ge p 42).elim (fun h => ptC_36_42 w b n p h1 h) (fun h => ptC_42_48 w b n p h h2)
theorem ptC_24_48 (w : Wp) (b n p : Nat) (h1 : 24 ≤ p) (h2 : p < 48) : plC w b n p := (Nat.lt_or_ge p 36).elim (fun h => ptC_24_36 w b n p h1 h) (fun h => ptC_36_48 w b n p h h2)
theorem ptC_0_48 (w : Wp) (b n p : Nat) (h1 : 0 ≤ p) (h2 : p < 48) : plC w b n p := (Nat.lt_or_ge p 24).elim (fun h => ptC_0_24 w b n p h1 h) (fun h => ptC_24_48 w b n p h h2)
theorem ptC_48_49 (w : Wp) (b n p : Nat) (h1 : 48 ≤ p) (h2 : p < 49) : plC w b n p := by
  have e : p = 48 := by omega
  subst e
  exact plC_48 w b n
theorem ptC_49_50 (w : Wp) (b n p : Nat) (h1 : 49 ≤ p) (h2 : p < 50) : plC w b n p := by
  have e : p = 49 := by omega
  subst e
  exact plC_49 w b n
theorem ptC_50_51 (w : Wp) (b n p : Nat) (h1 : 50 ≤ p) (h2 : p < 51) : plC w b n p := by
  have e : p = 50 := by omega
  subst e
  exact plC_50 w b n
theorem ptC_49_51 (w : Wp) (b n p : Nat) (h1 : 49 ≤ p) (h2 : p < 51) : plC w b n p := (Nat.lt_or_ge p 50).elim (fun h => ptC_49_50 w b n p h1 h) (fun h => ptC_50_51 w b n p h h2)
theorem ptC_48_51 (w : Wp) (b n p : Nat) (h1 : 48 ≤ p) (h2 : p < 51) : plC w b n p := (Nat.lt_or_ge p 49).elim (fun h => ptC_48_49 w b n p h1 h) (fun h => ptC_49_51 w b n p h h2)
theorem ptC_51_52 (w : Wp) (b n p : Nat) (h1 : 51 ≤ p) (h2 : p < 52) : plC w b n p := by
  have e : p = 51 := by omega
  subst e
  exact plC_51 w b n
theorem ptC_52_53 (w : Wp) (b n p : Nat) (h1 : 52 ≤ p) (h2 : p < 53) : plC w b n p := by
  have e : p = 52 := by omega
  subst e
  exact plC_52 w b n
theorem ptC_53_54 (w : Wp) (b n p : Nat) (h1 : 53 ≤ p) (h2 : p < 54) : plC w b n p := by
  have e : p = 53 := by omega
  subst e
  exact plC_53 w b n
theorem ptC_52_54 (w : Wp) (b n p : Nat) (h1 : 52 ≤ p) (h2 : p < 54) : plC w b n p := (Nat.lt_or_ge p 53).elim (fun h => ptC_52_53 w b n p h1 h) (fun h => ptC_53_54 w b n p h h2)
theorem ptC_51_54 (w : Wp) (b n p : Nat) (h1 : 51 ≤ p) (h2 : p < 54) : plC w b n p := (Nat.lt_or_ge p 52).elim (fun h => ptC_51_52 w b n p h1 h) (fun h => ptC_52_54 w b n p h h2)
theorem ptC_48_54 (w : Wp) (b n p : Nat) (h1 : 48 ≤ p) (h2 : p < 54) : plC w b n p := (Nat.lt_or_ge p 51).elim (fun h => ptC_48_51 w b n p h1 h) (fun h => ptC_51_54 w b n p h h2)
theorem ptC_54_55 (w : Wp) (b n p : Nat) (h1 : 54 ≤ p) (h2 : p < 55) : plC w b n p := by
  have e : p = 54 := by omega
  subst e
  exact plC_54 w b n
theorem ptC_55_56 (w : Wp) (b n p : Nat) (h1 : 55 ≤ p) (h2 : p < 56) : plC w b n p := by
  have e : p = 55 := by omega
  subst e
  exact plC_55 w b n
theorem ptC_56_57 (w : Wp) (b n p : Nat) (h1 : 56 ≤ p) (h2 : p < 57) : plC w b n p := by
  have e : p = 56 := by omega
  subst e
  exact plC_56 w b n
theorem ptC_55_57 (w : Wp) (b n p : Nat) (h1 : 55 ≤ p) (h2 : p < 57) : plC w b n p := (Nat.lt_or_ge p 56).elim (fun h => ptC_55_56 w b n p h1 h) (fun h => ptC_56_57 w b n p h h2)
theorem ptC_54_57 (w : Wp) (b n p : Nat) (h1 : 54 ≤ p) (h2 : p < 57) : plC w b n p := (Nat.lt_or_ge p 55).elim (fun h => ptC_54_55 w b n p h1 h) (fun h => ptC_55_57 w b n p h h2)
theorem ptC_57_58 (w : Wp) (b n p : Nat) (h1 : 57 ≤ p) (h2 : p < 58) : plC w b n p := by
  have e : p = 57 := by omega
  subst e
  exact plC_57 w b n
theorem ptC_58_59 (w : Wp) (b n p : Nat) (h1 : 58 ≤ p) (h2 : p < 59) : plC w b n p := by
  have e : p = 58 := by omega
  subst e
  exact plC_58 w b n
theorem ptC_59_60 (w : Wp) (b n p : Nat) (h1 : 59 ≤ p) (h2 : p < 60) : plC w b n p := by
  have e : p = 59 := by omega
  subst e
  exact plC_59 w b n
theorem ptC_58_60 (w : Wp) (b n p : Nat) (h1 : 58 ≤ p) (h2 : p < 60) : plC w b n p := (Nat.lt_or_ge p 59).elim (fun h => ptC_58_59 w b n p h1 h) (fun h => ptC_59_60 w b n p h h2)
theorem ptC_57_60 (w : Wp) (b n p : Nat) (h1 : 57 ≤ p) (h2 : p < 60) : plC w b n p := (Nat.lt_or_ge p 58).elim (fun h => ptC_57_58 w b n p h1 h) (fun h => ptC_58_60 w b n p h h2)
theorem ptC_54_60 (w : Wp) (b n p : Nat) (h1 : 54 ≤ p) (h2 : p < 60) : plC w b n p := (Nat.lt_or_ge p 57).elim (fun h => ptC_54_57 w b n p h1 h) (fun h => ptC_57_60 w b n p h h2)
theorem ptC_48_60 (w : Wp) (b n p : Nat) (h1 : 48 ≤ p) (h2 : p < 60) : plC w b n p := (Nat.lt_or_ge p 54).elim (fun h => ptC_48_54 w b n p h1 h) (fun h => ptC_54_60 w b n p h h2)
theorem ptC_60_61 (w : Wp) (b n p : Nat) (h1 : 60 ≤ p) (h2 : p < 61) : plC w b n p := by
  have e : p = 60 := by omega
  subst e
  exact plC_60 w b n
theorem ptC_61_62 (w : Wp) (b n p : Nat) (h1 : 61 ≤ p) (h2 : p < 62) : plC w b n p := by
  have e : p = 61 := by omega
  subst e
  exact plC_61 w b n
theorem ptC_62_63 (w : Wp) (b n p : Nat) (h1 : 62 ≤ p) (h2 : p < 63) : plC w b n p := by
  have e : p = 62 := by omega
  subst e
  exact plC_62 w b n
theorem ptC_61_63 (w : Wp) (b n p : Nat) (h1 : 61 ≤ p) (h2 : p < 63) : plC w b n p := (Nat.lt_or_ge p 62).elim (fun h => ptC_61_62 w b n p h1 h) (fun h => ptC_62_63 w b n p h h2)
theorem ptC_60_63 (w : Wp) (b n p : Nat) (h1 : 60 ≤ p) (h2 : p < 63) : plC w b n p := (Nat.lt_or_ge p 61).elim (fun h => ptC_60_61 w b n p h1 h) (fun h => ptC_61_63 w b n p h h2)
theorem ptC_63_64 (w : Wp) (b n p : Nat) (h1 : 63 ≤ p) (h2 : p < 64) : plC w b n p := by
  have e : p = 63 := by omega
  subst e
  exact plC_63 w b n
theorem ptC_64_65 (w : Wp) (b n p : Nat) (h1 : 64 ≤ p) (h2 : p < 65) : plC w b n p := by
  have e : p = 64 := by omega
  subst e
  exact plC_64 w b n
theorem ptC_65_66 (w : Wp) (b n p : Nat) (h1 : 65 ≤ p) (h2 : p < 66) : plC w b n p := by
  have e : p = 65 := by omega
  subst e
  exact plC_65 w b n
theorem ptC_64_66 (w : Wp) (b n p : Nat) (h1 : 64 ≤ p) (h2 : p < 66) : plC w b n p := (Nat.lt_or_ge p 65).elim (fun h => ptC_64_65 w b n p h1 h) (fun h => ptC_65_66 w b n p h h2)
theorem ptC_63_66 (w : Wp) (b n p : Nat) (h1 : 63 ≤ p) (h2 : p < 66) : plC w b n p := (Nat.lt_or_ge p 64).elim (fun h => ptC_63_64 w b n p h1 h) (fun h => ptC_64_66 w b n p h h2)
theorem ptC_60_66 (w : Wp) (b n p : Nat) (h1 : 60 ≤ p) (h2 : p < 66) : plC w b n p := (Nat.lt_or_ge p 63).elim (fun h => ptC_60_63 w b n p h1 h) (fun h => ptC_63_66 w b n p h h2)
theorem ptC_66_67 (w : Wp) (b n p : Nat) (h1 : 66 ≤ p) (h2 : p < 67) : plC w b n p := by
  have e : p = 66 := by omega
  subst e
  exact plC_66 w b n
theorem ptC_67_68 (w : Wp) (b n p : Nat) (h1 : 67 ≤ p) (h2 : p < 68) : plC w b n p := by
  have e : p = 67 := by omega
  subst e
  exact plC_67 w b n
theorem ptC_68_69 (w : Wp) (b n p : Nat) (h1 : 68 ≤ p) (h2 : p < 69) : plC w b n p := by
  have e : p = 68 := by omega
  subst e
  exact plC_68 w b n
theorem ptC_67_69 (w : Wp) (b n p : Nat) (h1 : 67 ≤ p) (h2 : p < 69) : plC w b n p := (Nat.lt_or_ge p 68).elim (fun h => ptC_67_68 w b n p h1 h) (fun h => ptC_68_69 w b n p h h2)
theorem ptC_66_69 (w : Wp) (b n p : Nat) (h1 : 66 ≤ p) (h2 : p < 69) : plC w b n p := (Nat.lt_or_ge p 67).elim (fun h => ptC_66_67 w b n p h1 h) (fun h => ptC_67_69 w b n p h h2)
theorem ptC_69_70 (w : Wp) (b n p : Nat) (h1 : 69 ≤ p) (h2 : p < 70) : plC w b n p := by
  have e : p = 69 := by omega
  subst e
  exact plC_69 w b n
theorem ptC_70_71 (w : Wp) (b n p : Nat) (h1 : 70 ≤ p) (h2 : p < 71) : plC w b n p := by
  have e : p = 70 := by omega
  subst e
  exact plC_70 w b n
theorem ptC_71_72 (w : Wp) (b n p : Nat) (h1 : 71 ≤ p) (h2 : p < 72) : plC w b n p := by
  have e : p = 71 := by omega
  subst e
  exact plC_71 w b n
theorem ptC_70_72 (w : Wp) (b n p : Nat) (h1 : 70 ≤ p) (h2 : p < 72) : plC w b n p := (Nat.lt_or_ge p 71).elim (fun h => ptC_70_71 w b n p h1 h) (fun h => ptC_71_72 w b n p h h2)
theorem ptC_69_72 (w : Wp) (b n p : Nat) (h1 : 69 ≤ p) (h2 : p < 72) : plC w b n p := (Nat.lt_or_ge p 70).elim (fun h => ptC_69_70 w b n p h1 h) (fun h => ptC_70_72 w b n p h h2)
theorem ptC_66_72 (w : Wp) (b n p : Nat) (h1 : 66 ≤ p) (h2 : p < 72) : plC w b n p := (Nat.lt_or_ge p 69).elim (fun h => ptC_66_69 w b n p h1 h) (fun h => ptC_69_72 w b n p h h2)
theorem ptC_60_72 (w : Wp) (b n p : Nat) (h1 : 60 ≤ p) (h2 : p < 72) : plC w b n p := (Nat.lt_or_ge p 66).elim (fun h => ptC_60_66 w b n p h1 h) (fun h => ptC_66_72 w b n p h h2)
theorem ptC_48_72 (w : Wp) (b n p : Nat) (h1 : 48 ≤ p) (h2 : p < 72) : plC w b n p := (Nat.lt_or_ge p 60).elim (fun h => ptC_48_60 w b n p h1 h) (fun h => ptC_60_72 w b n p h h2)
theorem ptC_72_73 (w : Wp) (b n p : Nat) (h1 : 72 ≤ p) (h2 : p < 73) : plC w b n p := by
  have e : p = 72 := by omega
  subst e
  exact plC_72 w b n
theorem ptC_73_74 (w : Wp) (b n p : Nat) (h1 : 73 ≤ p) (h2 : p < 74) : plC w b n p := by
  have e : p = 73 := by omega
  subst e
  exact plC_73 w b n
theorem ptC_74_75 (w : Wp) (b n p : Nat) (h1 : 74 ≤ p) (h2 : p < 75) : plC w b n p := by
  have e : p = 74 := by omega
  subst e
  exact plC_74 w b n
theorem ptC_73_75 (w : Wp) (b n p : Nat) (h1 : 73 ≤ p) (h2 : p < 75) : plC w b n p := (Nat.lt_or_ge p 74).elim (fun h => ptC_73_74 w b n p h1 h) (fun h => ptC_74_75 w b n p h h2)
theorem ptC_72_75 (w : Wp) (b n p : Nat) (h1 : 72 ≤ p) (h2 : p < 75) : plC w b n p := (Nat.lt_or_ge p 73).elim (fun h => ptC_72_73 w b n p h1 h) (fun h => ptC_73_75 w b n p h h2)
theorem ptC_75_76 (w : Wp) (b n p : Nat) (h1 : 75 ≤ p) (h2 : p < 76) : plC w b n p := by
  have e : p = 75 := by omega
  subst e
  exact plC_75 w b n
theorem ptC_76_77 (w : Wp) (b n p : Nat) (h1 : 76 ≤ p) (h2 : p < 77) : plC w b n p := by
  have e : p = 76 := by omega
  subst e
  exact plC_76 w b n
theorem ptC_77_78 (w : Wp) (b n p : Nat) (h1 : 77 ≤ p) (h2 : p < 78) : plC w b n p := by
  have e : p = 77 := by omega
  subst e
  exact plC_77 w b n
theorem ptC_76_78 (w : Wp) (b n p : Nat) (h1 : 76 ≤ p) (h2 : p < 78) : plC w b n p := (Nat.lt_or_ge p 77).elim (fun h => ptC_76_77 w b n p h1 h) (fun h => ptC_77_78 w b n p h h2)
theorem ptC_75_78 (w : Wp) (b n p : Nat) (h1 : 75 ≤ p) (h2 : p < 78) : plC w b n p := (Nat.lt_or_ge p 76).elim (fun h => ptC_75_76 w b n p h1 h) (fun h => ptC_76_78 w b n p h h2)
theorem ptC_72_78 (w : Wp) (b n p : Nat) (h1 : 72 ≤ p) (h2 : p < 78) : plC w b n p := (Nat.lt_or_ge p 75).elim (fun h => ptC_72_75 w b n p h1 h) (fun h => ptC_75_78 w b n p h h2)
theorem ptC_78_79 (w : Wp) (b n p : Nat) (h1 : 78 ≤ p) (h2 : p < 79) : plC w b n p := by
  have e : p = 78 := by omega
  subst e
  exact plC_78 w b n
theorem ptC_79_80 (w : Wp) (b n p : Nat) (h1 : 79 ≤ p) (h2 : p < 80) : plC w b n p := by
  have e : p = 79 := by omega
  subst e
  exact plC_79 w b n
theorem ptC_80_81 (w : Wp) (b n p : Nat) (h1 : 80 ≤ p) (h2 : p < 81) : plC w b n p := by
  have e : p = 80 := by omega
  subst e
  exact plC_80 w b n
theorem ptC_79_81 (w : Wp) (b n p : Nat) (h1 : 79 ≤ p) (h2 : p < 81) : plC w b n p := (Nat.lt_or_ge p 80).elim (fun h => ptC_79_80 w b n p h1 h) (fun h => ptC_80_81 w b n p h h2)
theorem ptC_78_81 (w : Wp) (b n p : Nat) (h1 : 78 ≤ p) (h2 : p < 81) : plC w b n p := (Nat.lt_or_ge p 79).elim (fun h => ptC_78_79 w b n p h1 h) (fun h => ptC_79_81 w b n p h h2)
theorem ptC_81_82 (w : Wp) (b n p : Nat) (h1 : 81 ≤ p) (h2 : p < 82) : plC w b n p := by
  have e : p = 81 := by omega
  subst e
  exact plC_81 w b n
theorem ptC_82_83 (w : Wp) (b n p : Nat) (h1 : 82 ≤ p) (h2 : p < 83) : plC w b n p := by
  have e : p = 82 := by omega
  subst e
  exact plC_82 w b n
theorem ptC_83_84 (w : Wp) (b n p : Nat) (h1 : 83 ≤ p) (h2 : p < 84) : plC w b n p := by
  have e : p = 83 := by omega
  subst e
  exact plC_83 w b n
theorem ptC_82_84 (w : Wp) (b n p : Nat) (h1 : 82 ≤ p) (h2 : p < 84) : plC w b n p := (Nat.lt_or_ge p 83).elim (fun h => ptC_82_83 w b n p h1 h) (fun h => ptC_83_84 w b n p h h2)
theorem ptC_81_84 (w : Wp) (b n p : Nat) (h1 : 81 ≤ p) (h2 : p < 84) : plC w b n p := (Nat.lt_or_ge p 82).elim (fun h => ptC_81_82 w b n p h1 h) (fun h => ptC_82_84 w b n p h h2)
theorem ptC_78_84 (w : Wp) (b n p : Nat) (h1 : 78 ≤ p) (h2 : p < 84) : plC w b n p := (Nat.lt_or_ge p 81).elim (fun h => ptC_78_81 w b n p h1 h) (fun h => ptC_81_84 w b n p h h2)
theorem ptC_72_84 (w : Wp) (b n p : Nat) (h1 : 72 ≤ p) (h2 : p < 84) : plC w b n p := (Nat.lt_or_ge p 78).elim (fun h => ptC_72_78 w b n p h1 h) (fun h => ptC_78_84 w b n p h h2)
theorem ptC_84_85 (w : Wp) (b n p : Nat) (h1 : 84 ≤ p) (h2 : p < 85) : plC w b n p := by
  have e : p = 84 := by omega
  subst e
  exact plC_84 w b n
theorem ptC_85_86 (w : Wp) (b n p : Nat) (h1 : 85 ≤ p) (h2 : p < 86) : plC w b n p := by
  have e : p = 85 := by omega
  subst e
  exact plC_85 w b n
theorem ptC_86_87 (w : Wp) (b n p : Nat) (h1 : 86 ≤ p) (h2 : p < 87) : plC w b n p := by
  have e : p = 86 := by omega
  subst e
  exact plC_86 w b n
theorem ptC_85_87 (w : Wp) (b n p : Nat) (h1 : 85 ≤ p) (h2 : p < 87) : plC w b n p := (Nat.lt_or_ge p 86).elim (fun h => ptC_85_86 w b n p h1 h) (fun h => ptC_86_87 w b n p h h2)
theorem ptC_84_87 (w : Wp) (b n p : Nat) (h1 : 84 ≤ p) (h2 : p < 87) : plC w b n p := (Nat.lt_or_ge p 85).elim (fun h => ptC_84_85 w b n p h1 h) (fun h => ptC_85_87 w b n p h h2)
theorem ptC_87_88 (w : Wp) (b n p : Nat) (h1 : 87 ≤ p) (h2 : p < 88) : plC w b n p := by
  have e : p = 87 := by omega
  subst e
  exact plC_87 w b n
theorem ptC_88_89 (w : Wp) (b n p : Nat) (h1 : 88 ≤ p) (h2 : p < 89) : plC w b n p := by
  have e : p = 88 := by omega
  subst e
  exact plC_88 w b n
theorem ptC_89_90 (w : Wp) (b n p : Nat) (h1 : 89 ≤ p) (h2 : p < 90) : plC w b n p := by
  have e : p = 89 := by omega
  subst e
  exact plC_89 w b n
theorem ptC_88_90 (w : Wp) (b n p : Nat) (h1 : 88 ≤ p) (h2 : p < 90) : plC w b n p := (Nat.lt_or_ge p 89).elim (fun h => ptC_88_89 w b n p h1 h) (fun h => ptC_89_90 w b n p h h2)
theorem ptC_87_90 (w : Wp) (b n p : Nat) (h1 : 87 ≤ p) (h2 : p < 90) : plC w b n p := (Nat.lt_or_ge p 88).elim (fun h => ptC_87_88 w b n p h1 h) (fun h => ptC_88_90 w b n p h h2)
theorem ptC_84_90 (w : Wp) (b n p : Nat) (h1 : 84 ≤ p) (h2 : p < 90) : plC w b n p := (Nat.lt_or_ge p 87).elim (fun h => ptC_84_87 w b n p h1 h) (fun h => ptC_87_90 w b n p h h2)
theorem ptC_90_91 (w : Wp) (b n p : Nat) (h1 : 90 ≤ p) (h2 : p < 91) : plC w b n p := by
  have e : p = 90 := by omega
  subst e
  exact plC_90 w b n
theorem ptC_91_92 (w : Wp) (b n p : Nat) (h1 : 91 ≤ p) (h2 : p < 92) : plC w b n p := by
  have e : p = 91 := by omega
  subst e
  exact plC_91 w b n
theorem ptC_92_93 (w : Wp) (b n p : Nat) (h1 : 92 ≤ p) (h2 : p < 93) : plC w b n p := by
  have e : p = 92 := by omega
  subst e
  exact plC_92 w b n
theorem ptC_91_93 (w : Wp) (b n p : Nat) (h1 : 91 ≤ p) (h2 : p < 93) : plC w b n p := (Nat.lt_or_ge p 92).elim (fun h => ptC_91_92 w b n p h1 h) (fun h => ptC_92_93 w b n p h h2)
theorem ptC_90_93 (w : Wp) (b n p : Nat) (h1 : 90 ≤ p) (h2 : p < 93) : plC w b n p := (Nat.lt_or_ge p 91).elim (fun h => ptC_90_91 w b n p h1 h) (fun h => ptC_91_93 w b n p h h2)
theorem ptC_93_94 (w : Wp) (b n p : Nat) (h1 : 93 ≤ p) (h2 : p < 94) : plC w b n p := by
  have e : p = 93 := by omega
  subst e
  exact plC_93 w b n
theorem ptC_94_95 (w : Wp) (b n p : Nat) (h1 : 94 ≤ p) (h2 : p < 95) : plC w b n p := by
  have e : p = 94 := by omega
  subst e
  exact plC_94 w b n
theorem ptC_93_95 (w : Wp) (b n p : Nat) (h1 : 93 ≤ p) (h2 : p < 95) : plC w b n p := (Nat.lt_or_ge p 94).elim (fun h => ptC_93_94 w b n p h1 h) (fun h => ptC_94_95 w b n p h h2)
theorem ptC_95_96 (w : Wp) (b n p : Nat) (h1 : 95 ≤ p) (h2 : p < 96) : plC w b n p := by
  have e : p = 95 := by omega
  subst e
  exact plC_95 w b n
theorem ptC_96_97 (w : Wp) (b n p : Nat) (h1 : 96 ≤ p) (h2 : p < 97) : plC w b n p := by
  have e : p = 96 := by omega
  subst e
  exact plC_96 w b n
theorem ptC_95_97 (w : Wp) (b n p : Nat) (h1 : 95 ≤ p) (h2 : p < 97) : plC w b n p := (Nat.lt_or_ge p 96).elim (fun h => ptC_95_96 w b n p h1 h) (fun h => ptC_96_97 w b n p h h2)
theorem ptC_93_97 (w : Wp) (b n p : Nat) (h1 : 93 ≤ p) (h2 : p < 97) : plC w b n p := (Nat.lt_or_ge p 95).elim (fun h => ptC_93_95 w b n p h1 h) (fun h => ptC_95_97 w b n p h h2)
theorem ptC_90_97 (w : Wp) (b n p : Nat) (h1 : 90 ≤ p) (h2 : p < 97) : plC w b n p := (Nat.lt_or_ge p 93).elim (fun h => ptC_90_93 w b n p h1 h) (fun h => ptC_93_97 w b n p h h2)
theorem ptC_84_97 (w : Wp) (b n p : Nat) (h1 : 84 ≤ p) (h2 : p < 97) : plC w b n p := (Nat.lt_or_ge p 90).elim (fun h => ptC_84_90 w b n p h1 h) (fun h => ptC_90_97 w b n p h h2)
theorem ptC_72_97 (w : Wp) (b n p : Nat) (h1 : 72 ≤ p) (h2 : p < 97) : plC w b n p := (Nat.lt_or_ge p 84).elim (fun h => ptC_72_84 w b n p h1 h) (fun h => ptC_84_97 w b n p h h2)
theorem ptC_48_97 (w : Wp) (b n p : Nat) (h1 : 48 ≤ p) (h2 : p < 97) : plC w b n p := (Nat.lt_or_ge p 72).elim (fun h => ptC_48_72 w b n p h1 h) (fun h => ptC_72_97 w b n p h h2)
theorem ptC_0_97 (w : Wp) (b n p : Nat) (h1 : 0 ≤ p) (h2 : p < 97) : plC w b n p := (Nat.lt_or_ge p 48).elim (fun h => ptC_0_48 w b n p h1 h) (fun h => ptC_48_97 w b n p h h2)
theorem ptC_97_98 (w : Wp) (b n p : Nat) (h1 : 97 ≤ p) (h2 : p < 98) : plC w b n p := by
  have e : p = 97 := by omega
  subst e
  exact plC_97 w b n
theorem ptC_98_99 (w : Wp) (b n p : Nat) (h1 : 98 ≤ p) (h2 : p < 99) : plC w b n p := by
  have e : p = 98 := by omega
  subst e
  exact plC_98 w b n
theorem ptC_99_100 (w : Wp) (b n p : Nat) (h1 : 99 ≤ p) (h2 : p < 100) : plC w b n p := by
  have e : p = 99 := by omega
  subst e
  exact plC_99 w b n
theorem ptC_98_100 (w : Wp) (b n p : Nat) (h1 : 98 ≤ p) (h2 : p < 100) : plC w b n p := (Nat.lt_or_ge p 99).elim (fun h => ptC_98_99 w b n p h1 h) (fun h => ptC_99_100 w b n p h h2)
theorem ptC_97_100 (w : Wp) (b n p : Nat) (h1 : 97 ≤ p) (h2 : p < 100) : plC w b n p := (Nat.lt_or_ge p 98).elim (fun h => ptC_97_98 w b n p h1 h) (fun h => ptC_98_100 w b n p h h2)
theorem ptC_100_101 (w : Wp) (b n p : Nat) (h1 : 100 ≤ p) (h2 : p < 101) : plC w b n p := by
  have e : p = 100 := by omega
  subst e
  exact plC_100 w b n
theorem ptC_101_102 (w : Wp) (b n p : Nat) (h1 : 101 ≤ p) (h2 : p < 102) : plC w b n p := by
  have e : p = 101 := by omega
  subst e
  exact plC_101 w b n
theorem ptC_102_103 (w : Wp) (b n p : Nat) (h1 : 102 ≤ p) (h2 : p < 103) : plC w b n p := by
  have e : p = 102 := by omega
  subst e
  exact plC_102 w b n
theorem ptC_101_103 (w : Wp) (b n p : Nat) (h1 : 101 ≤ p) (h2 : p < 103) : plC w b n p := (Nat.lt_or_ge p 102).elim (fun h => ptC_101_102 w b n p h1 h) (fun h => ptC_102_103 w b n p h h2)
theorem ptC_100_103 (w : Wp) (b n p : Nat) (h1 : 100 ≤ p) (h2 : p < 103) : plC w b n p := (Nat.lt_or_ge p 101).elim (fun h => ptC_100_101 w b n p h1 h) (fun h => ptC_101_103 w b n p h h2)
theorem ptC_97_103 (w : Wp) (b n p : Nat) (h1 : 97 ≤ p) (h2 : p < 103) : plC w b n p := (Nat.lt_or_ge p 100).elim (fun h => ptC_97_100 w b n p h1 h) (fun h => ptC_100_103 w b n p h h2)
theorem ptC_103_104 (w : Wp) (b n p : Nat) (h1 : 103 ≤ p) (h2 : p < 104) : plC w b n p := by
  have e : p = 103 := by omega
  subst e
  exact plC_103 w b n
theorem ptC_104_105 (w : Wp) (b n p : Nat) (h1 : 104 ≤ p) (h2 : p < 105) : plC w b n p := by
  have e : p = 104 := by omega
  subst e
  exact plC_104 w b n
theorem ptC_105_106 (w : Wp) (b n p : Nat) (h1 : 105 ≤ p) (h2 : p < 106) : plC w b n p := by
  have e : p = 105 := by omega
  subst e
  exact plC_105 w b n
theorem ptC_104_106 (w : Wp) (b n p : Nat) (h1 : 104 ≤ p) (h2 : p < 106) : plC w b n p := (Nat.lt_or_ge p 105).elim (fun h => ptC_104_105 w b n p h1 h) (fun h => ptC_105_106 w b n p h h2)
theorem ptC_103_106 (w : Wp) (b n p : Nat) (h1 : 103 ≤ p) (h2 : p < 106) : plC w b n p := (Nat.lt_or_ge p 104).elim (fun h => ptC_103_104 w b n p h1 h) (fun h => ptC_104_106 w b n p h h2)
theorem ptC_106_107 (w : Wp) (b n p : Nat) (h1 : 106 ≤ p) (h2 : p < 107) : plC w b n p := by
  have e : p = 106 := by omega
  subst e
  exact plC_106 w b n
theorem ptC_107_108 (w : Wp) (b n p : Nat) (h1 : 107 ≤ p) (h2 : p < 108) : plC w b n p := by
  have e : p = 107 := by omega
  subst e
  exact plC_107 w b n
theorem ptC_108_109 (w : Wp) (b n p : Nat) (h1 : 108 ≤ p) (h2 : p < 109) : plC w b n p := by
  have e : p = 108 := by omega
  subst e
  exact plC_108 w b n
theorem ptC_107_109 (w : Wp) (b n p : Nat) (h1 : 107 ≤ p) (h2 : p < 109) : plC w b n p := (Nat.lt_or_ge p 108).elim (fun h => ptC_107_108 w b n p h1 h) (fun h => ptC_108_109 w b n p h h2)
theorem ptC_106_109 (w : Wp) (b n p : Nat) (h1 : 106 ≤ p) (h2 : p < 109) : plC w b n p := (Nat.lt_or_ge p 107).elim (fun h => ptC_106_107 w b n p h1 h) (fun h => ptC_107_109 w b n p h h2)
theorem ptC_103_109 (w : Wp) (b n p : Nat) (h1 : 103 ≤ p) (h2 : p < 109) : plC w b n p := (Nat.lt_or_ge p 106).elim (fun h => ptC_103_106 w b n p h1 h) (fun h => ptC_106_109 w b n p h h2)
theorem ptC_97_109 (w : Wp) (b n p : Nat) (h1 : 97 ≤ p) (h2 : p < 109) : plC w b n p := (Nat.lt_or_ge p 103).elim (fun h => ptC_97_103 w b n p h1 h) (fun h => ptC_103_109 w b n p h h2)
theorem ptC_109_110 (w : Wp) (b n p : Nat) (h1 : 109 ≤ p) (h2 : p < 110) : plC w b n p := by
  have e : p = 109 := by omega
  subst e
  exact plC_109 w b n
theorem ptC_110_111 (w : Wp) (b n p : Nat) (h1 : 110 ≤ p) (h2 : p < 111) : plC w b n p := by
  have e : p = 110 := by omega
  subst e
  exact plC_110 w b n
theorem ptC_111_112 (w : Wp) (b n p : Nat) (h1 : 111 ≤ p) (h2 : p < 112) : plC w b n p := by
  have e : p = 111 := by omega
  subst e
  exact plC_111 w b n
theorem ptC_110_112 (w : Wp) (b n p : Nat) (h1 : 110 ≤ p) (h2 : p < 112) : plC w b n p := (Nat.lt_or_ge p 111).elim (fun h => ptC_110_111 w b n p h1 h) (fun h => ptC_111_112 w b n p h h2)
theorem ptC_109_112 (w : Wp) (b n p : Nat) (h1 : 109 ≤ p) (h2 : p < 112) : plC w b n p := (Nat.lt_or_ge p 110).elim (fun h => ptC_109_110 w b n p h1 h) (fun h => ptC_110_112 w b n p h h2)
theorem ptC_112_113 (w : Wp) (b n p : Nat) (h1 : 112 ≤ p) (h2 : p < 113) : plC w b n p := by
  have e : p = 112 := by omega
  subst e
  exact plC_112 w b n
theorem ptC_113_114 (w : Wp) (b n p : Nat) (h1 : 113 ≤ p) (h2 : p < 114) : plC w b n p := by
  have e : p = 113 := by omega
  subst e
  exact plC_113 w b n
theorem ptC_114_115 (w : Wp) (b n p : Nat) (h1 : 114 ≤ p) (h2 : p < 115) : plC w b n p := by
  have e : p = 114 := by omega
  subst e
  exact plC_114 w b n
theorem ptC_113_115 (w : Wp) (b n p : Nat) (h1 : 113 ≤ p) (h2 : p < 115) : plC w b n p := (Nat.lt_or_ge p 114).elim (fun h => ptC_113_114 w b n p h1 h) (fun h => ptC_114_115 w b n p h h2)
theorem ptC_112_115 (w : Wp) (b n p : Nat) (h1 : 112 ≤ p) (h2 : p < 115) : plC w b n p := (Nat.lt_or_ge p 113).elim (fun h => ptC_112_113 w b n p h1 h) (fun h => ptC_113_115 w b n p h h2)
theorem ptC_109_115 (w : Wp) (b n p : Nat) (h1 : 109 ≤ p) (h2 : p < 115) : plC w b n p := (Nat.lt_or_ge p 112).elim (fun h => ptC_109_112 w b n p h1 h) (fun h => ptC_112_115 w b n p h h2)
theorem ptC_115_116 (w : Wp) (b n p : Nat) (h1 : 115 ≤ p) (h2 : p < 116) : plC w b n p := by
  have e : p = 115 := by omega
  subst e
  exact plC_115 w b n
theorem ptC_116_117 (w : Wp) (b n p : Nat) (h1 : 116 ≤ p) (h2 : p < 117) : plC w b n p := by
  have e : p = 116 := by omega
  subst e
  exact plC_116 w b n
theorem ptC_117_118 (w : Wp) (b n p : Nat) (h1 : 117 ≤ p) (h2 : p < 118) : plC w b n p := by
  have e : p = 117 := by omega
  subst e
  exact plC_117 w b n
theorem ptC_116_118 (w : Wp) (b n p : Nat) (h1 : 116 ≤ p) (h2 : p < 118) : plC w b n p := (Nat.lt_or_ge p 117).elim (fun h => ptC_116_117 w b n p h1 h) (fun h => ptC_117_118 w b n p h h2)
theorem ptC_115_118 (w : Wp) (b n p : Nat) (h1 : 115 ≤ p) (h2 : p < 118) : plC w b n p := (Nat.lt_or_ge p 116).elim (fun h => ptC_115_116 w b n p h1 h) (fun h => ptC_116_118 w b n p h h2)
theorem ptC_118_119 (w : Wp) (b n p : Nat) (h1 : 118 ≤ p) (h2 : p < 119) : plC w b n p := by
  have e : p = 118 := by omega
  subst e
  exact plC_118 w b n
theorem ptC_119_120 (w : Wp) (b n p : Nat) (h1 : 119 ≤ p) (h2 : p < 120) : plC w b n p := by
  have e : p = 119 := by omega
  subst e
  exact plC_119 w b n
theorem ptC_120_121 (w : Wp) (b n p : Nat) (h1 : 120 ≤ p) (h2 : p < 121) : plC w b n p := by
  have e : p = 120 := by omega
  subst e
  exact plC_120 w b n
theorem ptC_119_121 (w : Wp) (b n p : Nat) (h1 : 119 ≤ p) (h2 : p < 121) : plC w b n p := (Nat.lt_or_ge p 120).elim (fun h => ptC_119_120 w b n p h1 h) (fun h => ptC_120_121 w b n p h h2)
theorem ptC_118_121 (w : Wp) (b n p : Nat) (h1 : 118 ≤ p) (h2 : p < 121) : plC w b n p := (Nat.lt_or_ge p 119).elim (fun h => ptC_118_119 w b n p h1 h) (fun h => ptC_119_121 w b n p h h2)
theorem ptC_115_121 (w : Wp) (b n p : Nat) (h1 : 115 ≤ p) (h2 : p < 121) : plC w b n p := (Nat.lt_or_ge p 118).elim (fun h => ptC_115_118 w b n p h1 h) (fun h => ptC_118_121 w b n p h h2)
theorem ptC_109_121 (w : Wp) (b n p : Nat) (h1 : 109 ≤ p) (h2 : p < 121) : plC w b n p := (Nat.lt_or_ge p 115).elim (fun h => ptC_109_115 w b n p h1 h) (fun h => ptC_115_121 w b n p h h2)
theorem ptC_97_121 (w : Wp) (b n p : Nat) (h1 : 97 ≤ p) (h2 : p < 121) : plC w b n p := (Nat.lt_or_ge p 109).elim (fun h => ptC_97_109 w b n p h1 h) (fun h => ptC_109_121 w b n p h h2)
theorem ptC_121_122 (w : Wp) (b n p : Nat) (h1 : 121 ≤ p) (h2 : p < 122) : plC w b n p := by
  have e : p = 121 := by omega
  subst e
  exact plC_121 w b n
theorem ptC_122_123 (w : Wp) (b n p : Nat) (h1 : 122 ≤ p) (h2 : p < 123) : plC w b n p := by
  have e : p = 122 := by omega
  subst e
  exact plC_122 w b n
theorem ptC_123_124 (w : Wp) (b n p : Nat) (h1 : 123 ≤ p) (h2 : p < 124) : plC w b n p := by
  have e : p = 123 := by omega
  subst e
  exact plC_123 w b n
theorem ptC_122_124 (w : Wp) (b n p : Nat) (h1 : 122 ≤ p) (h2 : p < 124) : plC w b n p := (Nat.lt_or_ge p 123).elim (fun h => ptC_122_123 w b n p h1 h) (fun h => ptC_123_124 w b n p h h2)
theorem ptC_121_124 (w : Wp) (b n p : Nat) (h1 : 121 ≤ p) (h2 : p < 124) : plC w b n p := (Nat.lt_or_ge p 122).elim (fun h => ptC_121_122 w b n p h1 h) (fun h => ptC_122_124 w b n p h h2)
theorem ptC_124_125 (w : Wp) (b n p : Nat) (h1 : 124 ≤ p) (h2 : p < 125) : plC w b n p := by
  have e : p = 124 := by omega
  subst e
  exact plC_124 w b n
theorem ptC_125_126 (w : Wp) (b n p : Nat) (h1 : 125 ≤ p) (h2 : p < 126) : plC w b n p := by
  have e : p = 125 := by omega
  subst e
  exact plC_125 w b n
theorem ptC_126_127 (w : Wp) (b n p : Nat) (h1 : 126 ≤ p) (h2 : p < 127) : plC w b n p := by
  have e : p = 126 := by omega
  subst e
  exact plC_126 w b n
theorem ptC_125_127 (w : Wp) (b n p : Nat) (h1 : 125 ≤ p) (h2 : p < 127) : plC w b n p := (Nat.lt_or_ge p 126).elim (fun h => ptC_125_126 w b n p h1 h) (fun h => ptC_126_127 w b n p h h2)
theorem ptC_124_127 (w : Wp) (b n p : Nat) (h1 : 124 ≤ p) (h2 : p < 127) : plC w b n p := (Nat.lt_or_ge p 125).elim (fun h => ptC_124_125 w b n p h1 h) (fun h => ptC_125_127 w b n p h h2)
theorem ptC_121_127 (w : Wp) (b n p : Nat) (h1 : 121 ≤ p) (h2 : p < 127) : plC w b n p := (Nat.lt_or_ge p 124).elim (fun h => ptC_121_124 w b n p h1 h) (fun h => ptC_124_127 w b n p h h2)
theorem ptC_127_128 (w : Wp) (b n p : Nat) (h1 : 127 ≤ p) (h2 : p < 128) : plC w b n p := by
  have e : p = 127 := by omega
  subst e
  exact plC_127 w b n
theorem ptC_128_129 (w : Wp) (b n p : Nat) (h1 : 128 ≤ p) (h2 : p < 129) : plC w b n p := by
  have e : p = 128 := by omega
  subst e
  exact plC_128 w b n
theorem ptC_129_130 (w : Wp) (b n p : Nat) (h1 : 129 ≤ p) (h2 : p < 130) : plC w b n p := by
  have e : p = 129 := by omega
  subst e
  exact plC_129 w b n
theorem ptC_128_130 (w : Wp) (b n p : Nat) (h1 : 128 ≤ p) (h2 : p < 130) : plC w b n p := (Nat.lt_or_ge p 129).elim (fun h => ptC_128_129 w b n p h1 h) (fun h => ptC_129_130 w b n p h h2)
theorem ptC_127_130 (w : Wp) (b n p : Nat) (h1 : 127 ≤ p) (h2 : p < 130) : plC w b n p := (Nat.lt_or_ge p 128).elim (fun h => ptC_127_128 w b n p h1 h) (fun h => ptC_128_130 w b n p h h2)
theorem ptC_130_131 (w : Wp) (b n p : Nat) (h1 : 130 ≤ p) (h2 : p < 131) : plC w b n p := by
  have e : p = 130 := by omega
  subst e
  exact plC_130 w b n
theorem ptC_131_132 (w : Wp) (b n p : Nat) (h1 : 131 ≤ p) (h2 : p < 132) : plC w b n p := by
  have e : p = 131 := by omega
  subst e
  exact plC_131 w b n
theorem ptC_132_133 (w : Wp) (b n p : Nat) (h1 : 132 ≤ p) (h2 : p < 133) : plC w b n p := by
  have e : p = 132 := by omega
  subst e
  exact plC_132 w b n
theorem ptC_131_133 (w : Wp) (b n p : Nat) (h1 : 131 ≤ p) (h2 : p < 133) : plC w b n p := (Nat.lt_or_ge p 132).elim (fun h => ptC_131_132 w b n p h1 h) (fun h => ptC_132_133 w b n p h h2)
theorem ptC_130_133 (w : Wp) (b n p : Nat) (h1 : 130 ≤ p) (h2 : p < 133) : plC w b n p := (Nat.lt_or_ge p 131).elim (fun h => ptC_130_131 w b n p h1 h) (fun h => ptC_131_133 w b n p h h2)
theorem ptC_127_133 (w : Wp) (b n p : Nat) (h1 : 127 ≤ p) (h2 : p < 133) : plC w b n p := (Nat.lt_or_ge p 130).elim (fun h => ptC_127_130 w b n p h1 h) (fun h => ptC_130_133 w b n p h h2)
theorem ptC_121_133 (w : Wp) (b n p : Nat) (h1 : 121 ≤ p) (h2 : p < 133) : plC w b n p := (Nat.lt_or_ge p 127).elim (fun h => ptC_121_127 w b n p h1 h) (fun h => ptC_127_133 w b n p h h2)
theorem ptC_133_134 (w : Wp) (b n p : Nat) (h1 : 133 ≤ p) (h2 : p < 134) : plC w b n p := by
  have e : p = 133 := by omega
  subst e
  exact plC_133 w b n
theorem ptC_134_135 (w : Wp) (b n p : Nat) (h1 : 134 ≤ p) (h2 : p < 135) : plC w b n p := by
  have e : p = 134 := by omega
  subst e
  exact plC_134 w b n
theorem ptC_135_136 (w : Wp) (b n p : Nat) (h1 : 135 ≤ p) (h2 : p < 136) : plC w b n p := by
  have e : p = 135 := by omega
  subst e
  exact plC_135 w b n
theorem ptC_134_136 (w : Wp) (b n p : Nat) (h1 : 134 ≤ p) (h2 : p < 136) : plC w b n p := (Nat.lt_or_ge p 135).elim (fun h => ptC_134_135 w b n p h1 h) (fun h => ptC_135_136 w b n p h h2)
theorem ptC_133_136 (w : Wp) (b n p : Nat) (h1 : 133 ≤ p) (h2 : p < 136) : plC w b n p := (Nat.lt_or_ge p 134).elim (fun h => ptC_133_134 w b n p h1 h) (fun h => ptC_134_136 w b n p h h2)
theorem ptC_136_137 (w : Wp) (b n p : Nat) (h1 : 136 ≤ p) (h2 : p < 137) : plC w b n p := by
  have e : p = 136 := by omega
  subst e
  exact plC_136 w b n
theorem ptC_137_138 (w : Wp) (b n p : Nat) (h1 : 137 ≤ p) (h2 : p < 138) : plC w b n p := by
  have e : p = 137 := by omega
  subst e
  exact plC_137 w b n
theorem ptC_138_139 (w : Wp) (b n p : Nat) (h1 : 138 ≤ p) (h2 : p < 139) : plC w b n p := by
  have e : p = 138 := by omega
  subst e
  exact plC_138 w b n
theorem ptC_137_139 (w : Wp) (b n p : Nat) (h1 : 137 ≤ p) (h2 : p < 139) : plC w b n p := (Nat.lt_or_ge p 138).elim (fun h => ptC_137_138 w b n p h1 h) (fun h => ptC_138_139 w b n p h h2)
theorem ptC_136_139 (w : Wp) (b n p : Nat) (h1 : 136 ≤ p) (h2 : p < 139) : plC w b n p := (Nat.lt_or_ge p 137).elim (fun h => ptC_136_137 w b n p h1 h) (fun h => ptC_137_139 w b n p h h2)
theorem ptC_133_139 (w : Wp) (b n p : Nat) (h1 : 133 ≤ p) (h2 : p < 139) : plC w b n p := (Nat.lt_or_ge p 136).elim (fun h => ptC_133_136 w b n p h1 h) (fun h => ptC_136_139 w b n p h h2)
theorem ptC_139_140 (w : Wp) (b n p : Nat) (h1 : 139 ≤ p) (h2 : p < 140) : plC w b n p := by
  have e : p = 139 := by omega
  subst e
  exact plC_139 w b n
theorem ptC_140_141 (w : Wp) (b n p : Nat) (h1 : 140 ≤ p) (h2 : p < 141) : plC w b n p := by
  have e : p = 140 := by omega
  subst e
  exact plC_140 w b n
theorem ptC_141_142 (w : Wp) (b n p : Nat) (h1 : 141 ≤ p) (h2 : p < 142) : plC w b n p := by
  have e : p = 141 := by omega
  subst e
  exact plC_141 w b n
theorem ptC_140_142 (w : Wp) (b n p : Nat) (h1 : 140 ≤ p) (h2 : p < 142) : plC w b n p := (Nat.lt_or_ge p 141).elim (fun h => ptC_140_141 w b n p h1 h) (fun h => ptC_141_142 w b n p h h2)
theorem ptC_139_142 (w : Wp) (b n p : Nat) (h1 : 139 ≤ p) (h2 : p < 142) : plC w b n p := (Nat.lt_or_ge p 140).elim (fun h => ptC_139_140 w b n p h1 h) (fun h => ptC_140_142 w b n p h h2)
theorem ptC_142_143 (w : Wp) (b n p : Nat) (h1 : 142 ≤ p) (h2 : p < 143) : plC w b n p := by
  have e : p = 142 := by omega
  subst e
  exact plC_142 w b n
theorem ptC_143_144 (w : Wp) (b n p : Nat) (h1 : 143 ≤ p) (h2 : p < 144) : plC w b n p := by
  have e : p = 143 := by omega
  subst e
  exact plC_143 w b n
theorem ptC_144_145 (w : Wp) (b n p : Nat) (h1 : 144 ≤ p) (h2 : p < 145) : plC w b n p := by
  have e : p = 144 := by omega
  subst e
  exact plC_144 w b n
theorem ptC_143_145 (w : Wp) (b n p : Nat) (h1 : 143 ≤ p) (h2 : p < 145) : plC w b n p := (Nat.lt_or_ge p 144).elim (fun h => ptC_143_144 w b n p h1 h) (fun h => ptC_144_145 w b n p h h2)
theorem ptC_142_145 (w : Wp) (b n p : Nat) (h1 : 142 ≤ p) (h2 : p < 145) : plC w b n p := (Nat.lt_or_ge p 143).elim (fun h => ptC_142_143 w b n p h1 h) (fun h => ptC_143_145 w b n p h h2)
theorem ptC_139_145 (w : Wp) (b n p : Nat) (h1 : 139 ≤ p) (h2 : p < 145) : plC w b n p := (Nat.lt_or_ge p 142).elim (fun h => ptC_139_142 w b n p h1 h) (fun h => ptC_142_145 w b n p h h2)
theorem ptC_133_145 (w : Wp) (b n p : Nat) (h1 : 133 ≤ p) (h2 : p < 145) : plC w b n p := (Nat.lt_or_ge p 139).elim (fun h => ptC_133_139 w b n p h1 h) (fun h => ptC_139_145 w b n p h h2)
theorem ptC_121_145 (w : Wp) (b n p : Nat) (h1 : 121 ≤ p) (h2 : p < 145) : plC w b n p := (Nat.lt_or_ge p 133).elim (fun h => ptC_121_133 w b n p h1 h) (fun h => ptC_133_145 w b n p h h2)
theorem ptC_97_145 (w : Wp) (b n p : Nat) (h1 : 97 ≤ p) (h2 : p < 145) : plC w b n p := (Nat.lt_or_ge p 121).elim (fun h => ptC_97_121 w b n p h1 h) (fun h => ptC_121_145 w b n p h h2)
theorem ptC_145_146 (w : Wp) (b n p : Nat) (h1 : 145 ≤ p) (h2 : p < 146) : plC w b n p := by
  have e : p = 145 := by omega
  subst e
  exact plC_145 w b n
theorem ptC_146_147 (w : Wp) (b n p : Nat) (h1 : 146 ≤ p) (h2 : p < 147) : plC w b n p := by
  have e : p = 146 := by omega
  subst e
  exact plC_146 w b n
theorem ptC_147_148 (w : Wp) (b n p : Nat) (h1 : 147 ≤ p) (h2 : p < 148) : plC w b n p := by
  have e : p = 147 := by omega
  subst e
  exact plC_147 w b n
theorem ptC_146_148 (w : Wp) (b n p : Nat) (h1 : 146 ≤ p) (h2 : p < 148) : plC w b n p := (Nat.lt_or_ge p 147).elim (fun h => ptC_146_147 w b n p h1 h) (fun h => ptC_147_148 w b n p h h2)
theorem ptC_145_148 (w : Wp) (b n p : Nat) (h1 : 145 ≤ p) (h2 : p < 148) : plC w b n p := (Nat.lt_or_ge p 146).elim (fun h => ptC_145_146 w b n p h1 h) (fun h => ptC_146_148 w b n p h h2)
theorem ptC_148_149 (w : Wp) (b n p : Nat) (h1 : 148 ≤ p) (h2 : p < 149) : plC w b n p := by
  have e : p = 148 := by omega
  subst e
  exact plC_148 w b n
theorem ptC_149_150 (w : Wp) (b n p : Nat) (h1 : 149 ≤ p) (h2 : p < 150) : plC w b n p := by
  have e : p = 149 := by omega
  subst e
  exact plC_149 w b n
theorem ptC_150_151 (w : Wp) (b n p : Nat) (h1 : 150 ≤ p) (h2 : p < 151) : plC w b n p := by
  have e : p = 150 := by omega
  subst e
  exact plC_150 w b n
theorem ptC_149_151 (w : Wp) (b n p : Nat) (h1 : 149 ≤ p) (h2 : p < 151) : plC w b n p := (Nat.lt_or_ge p 150).elim (fun h => ptC_149_150 w b n p h1 h) (fun h => ptC_150_151 w b n p h h2)
theorem ptC_148_151 (w : Wp) (b n p : Nat) (h1 : 148 ≤ p) (h2 : p < 151) : plC w b n p := (Nat.lt_or_ge p 149).elim (fun h => ptC_148_149 w b n p h1 h) (fun h => ptC_149_151 w b n p h h2)
theorem ptC_145_151 (w : Wp) (b n p : Nat) (h1 : 145 ≤ p) (h2 : p < 151) : plC w b n p := (Nat.lt_or_ge p 148).elim (fun h => ptC_145_148 w b n p h1 h) (fun h => ptC_148_151 w b n p h h2)
theorem ptC_151_152 (w : Wp) (b n p : Nat) (h1 : 151 ≤ p) (h2 : p < 152) : plC w b n p := by
  have e : p = 151 := by omega
  subst e
  exact plC_151 w b n
theorem ptC_152_153 (w : Wp) (b n p : Nat) (h1 : 152 ≤ p) (h2 : p < 153) : plC w b n p := by
  have e : p = 152 := by omega
  subst e
  exact plC_152 w b n
theorem ptC_153_154 (w : Wp) (b n p : Nat) (h1 : 153 ≤ p) (h2 : p < 154) : plC w b n p := by
  have e : p = 153 := by omega
  subst e
  exact plC_153 w b n
theorem ptC_152_154 (w : Wp) (b n p : Nat) (h1 : 152 ≤ p) (h2 : p < 154) : plC w b n p := (Nat.lt_or_ge p 153).elim (fun h => ptC_152_153 w b n p h1 h) (fun h => ptC_153_154 w b n p h h2)
theorem ptC_151_154 (w : Wp) (b n p : Nat) (h1 : 151 ≤ p) (h2 : p < 154) : plC w b n p := (Nat.lt_or_ge p 152).elim (fun h => ptC_151_152 w b n p h1 h) (fun h => ptC_152_154 w b n p h h2)
theorem ptC_154_155 (w : Wp) (b n p : Nat) (h1 : 154 ≤ p) (h2 : p < 155) : plC w b n p := by
  have e : p = 154 := by omega
  subst e
  exact plC_154 w b n
theorem ptC_155_156 (w : Wp) (b n p : Nat) (h1 : 155 ≤ p) (h2 : p < 156) : plC w b n p := by
  have e : p = 155 := by omega
  subst e
  exact plC_155 w b n
theorem ptC_156_157 (w : Wp) (b n p : Nat) (h1 : 156 ≤ p) (h2 : p < 157) : plC w b n p := by
  have e : p = 156 := by omega
  subst e
  exact plC_156 w b n
theorem ptC_155_157 (w : Wp) (b n p : Nat) (h1 : 155 ≤ p) (h2 : p < 157) : plC w b n p := (Nat.lt_or_ge p 156).elim (fun h => ptC_155_156 w b n p h1 h) (fun h => ptC_156_157 w b n p h h2)
theorem ptC_154_157 (w : Wp) (b n p : Nat) (h1 : 154 ≤ p) (h2 : p < 157) : plC w b n p := (Nat.lt_or_ge p 155).elim (fun h => ptC_154_155 w b n p h1 h) (fun h => ptC_155_157 w b n p h h2)
theorem ptC_151_157 (w : Wp) (b n p : Nat) (h1 : 151 ≤ p) (h2 : p < 157) : plC w b n p := (Nat.lt_or_ge p 154).elim (fun h => ptC_151_154 w b n p h1 h) (fun h => ptC_154_157 w b n p h h2)
theorem ptC_145_157 (w : Wp) (b n p : Nat) (h1 : 145 ≤ p) (h2 : p < 157) : plC w b n p := (Nat.lt_or_ge p 151).elim (fun h => ptC_145_151 w b n p h1 h) (fun h => ptC_151_157 w b n p h h2)
theorem ptC_157_158 (w : Wp) (b n p : Nat) (h1 : 157 ≤ p) (h2 : p < 158) : plC w b n p := by
  have e : p = 157 := by omega
  subst e
  exact plC_157 w b n
theorem ptC_158_159 (w : Wp) (b n p : Nat) (h1 : 158 ≤ p) (h2 : p < 159) : plC w b n p := by
  have e : p = 158 := by omega
  subst e
  exact plC_158 w b n
theorem ptC_159_160 (w : Wp) (b n p : Nat) (h1 : 159 ≤ p) (h2 : p < 160) : plC w b n p := by
  have e : p = 159 := by omega
  subst e
  exact plC_159 w b n
theorem ptC_158_160 (w : Wp) (b n p : Nat) (h1 : 158 ≤ p) (h2 : p < 160) : plC w b n p := (Nat.lt_or_ge p 159).elim (fun h => ptC_158_159 w b n p h1 h) (fun h => ptC_159_160 w b n p h h2)
theorem ptC_157_160 (w : Wp) (b n p : Nat) (h1 : 157 ≤ p) (h2 : p < 160) : plC w b n p := (Nat.lt_or_ge p 158).elim (fun h => ptC_157_158 w b n p h1 h) (fun h => ptC_158_160 w b n p h h2)
theorem ptC_160_161 (w : Wp) (b n p : Nat) (h1 : 160 ≤ p) (h2 : p < 161) : plC w b n p := by
  have e : p = 160 := by omega
  subst e
  exact plC_160 w b n
theorem ptC_161_162 (w : Wp) (b n p : Nat) (h1 : 161 ≤ p) (h2 : p < 162) : plC w b n p := by
  have e : p = 161 := by omega
  subst e
  exact plC_161 w b n
theorem ptC_162_163 (w : Wp) (b n p : Nat) (h1 : 162 ≤ p) (h2 : p < 163) : plC w b n p := by
  have e : p = 162 := by omega
  subst e
  exact plC_162 w b n
theorem ptC_161_163 (w : Wp) (b n p : Nat) (h1 : 161 ≤ p) (h2 : p < 163) : plC w b n p := (Nat.lt_or_ge p 162).elim (fun h => ptC_161_162 w b n p h1 h) (fun h => ptC_162_163 w b n p h h2)
theorem ptC_160_163 (w : Wp) (b n p : Nat) (h1 : 160 ≤ p) (h2 : p < 163) : plC w b n p := (Nat.lt_or_ge p 161).elim (fun h => ptC_160_161 w b n p h1 h) (fun h => ptC_161_163 w b n p h h2)
theorem ptC_157_163 (w : Wp) (b n p : Nat) (h1 : 157 ≤ p) (h2 : p < 163) : plC w b n p := (Nat.lt_or_ge p 160).elim (fun h => ptC_157_160 w b n p h1 h) (fun h => ptC_160_163 w b n p h h2)
theorem ptC_163_164 (w : Wp) (b n p : Nat) (h1 : 163 ≤ p) (h2 : p < 164) : plC w b n p := by
  have e : p = 163 := by omega
  subst e
  exact plC_163 w b n
theorem ptC_164_165 (w : Wp) (b n p : Nat) (h1 : 164 ≤ p) (h2 : p < 165) : plC w b n p := by
  have e : p = 164 := by omega
  subst e
  exact plC_164 w b n
theorem ptC_165_166 (w : Wp) (b n p : Nat) (h1 : 165 ≤ p) (h2 : p < 166) : plC w b n p := by
  have e : p = 165 := by omega
  subst e
  exact plC_165 w b n
theorem ptC_164_166 (w : Wp) (b n p : Nat) (h1 : 164 ≤ p) (h2 : p < 166) : plC w b n p := (Nat.lt_or_ge p 165).elim (fun h => ptC_164_165 w b n p h1 h) (fun h => ptC_165_166 w b n p h h2)
theorem ptC_163_166 (w : Wp) (b n p : Nat) (h1 : 163 ≤ p) (h2 : p < 166) : plC w b n p := (Nat.lt_or_ge p 164).elim (fun h => ptC_163_164 w b n p h1 h) (fun h => ptC_164_166 w b n p h h2)
theorem ptC_166_167 (w : Wp) (b n p : Nat) (h1 : 166 ≤ p) (h2 : p < 167) : plC w b n p := by
  have e : p = 166 := by omega
  subst e
  exact plC_166 w b n
theorem ptC_167_168 (w : Wp) (b n p : Nat) (h1 : 167 ≤ p) (h2 : p < 168) : plC w b n p := by
  have e : p = 167 := by omega
  subst e
  exact plC_167 w b n
theorem ptC_168_169 (w : Wp) (b n p : Nat) (h1 : 168 ≤ p) (h2 : p < 169) : plC w b n p := by
  have e : p = 168 := by omega
  subst e
  exact plC_168 w b n
theorem ptC_167_169 (w : Wp) (b n p : Nat) (h1 : 167 ≤ p) (h2 : p < 169) : plC w b n p := (Nat.lt_or_ge p 168).elim (fun h => ptC_167_168 w b n p h1 h) (fun h => ptC_168_169 w b n p h h2)
theorem ptC_166_169 (w : Wp) (b n p : Nat) (h1 : 166 ≤ p) (h2 : p < 169) : plC w b n p := (Nat.lt_or_ge p 167).elim (fun h => ptC_166_167 w b n p h1 h) (fun h => ptC_167_169 w b n p h h2)
theorem ptC_163_169 (w : Wp) (b n p : Nat) (h1 : 163 ≤ p) (h2 : p < 169) : plC w b n p := (Nat.lt_or_ge p 166).elim (fun h => ptC_163_166 w b n p h1 h) (fun h => ptC_166_169 w b n p h h2)
theorem ptC_157_169 (w : Wp) (b n p : Nat) (h1 : 157 ≤ p) (h2 : p < 169) : plC w b n p := (Nat.lt_or_ge p 163).elim (fun h => ptC_157_163 w b n p h1 h) (fun h => ptC_163_169 w b n p h h2)
theorem ptC_145_169 (w : Wp) (b n p : Nat) (h1 : 145 ≤ p) (h2 : p < 169) : plC w b n p := (Nat.lt_or_ge p 157).elim (fun h => ptC_145_157 w b n p h1 h) (fun h => ptC_157_169 w b n p h h2)
theorem ptC_169_170 (w : Wp) (b n p : Nat) (h1 : 169 ≤ p) (h2 : p < 170) : plC w b n p := by
  have e : p = 169 := by omega
  subst e
  exact plC_169 w b n
theorem ptC_170_171 (w : Wp) (b n p : Nat) (h1 : 170 ≤ p) (h2 : p < 171) : plC w b n p := by
  have e : p = 170 := by omega
  subst e
  exact plC_170 w b n
theorem ptC_171_172 (w : Wp) (b n p : Nat) (h1 : 171 ≤ p) (h2 : p < 172) : plC w b n p := by
  have e : p = 171 := by omega
  subst e
  exact plC_171 w b n
theorem ptC_170_172 (w : Wp) (b n p : Nat) (h1 : 170 ≤ p) (h2 : p < 172) : plC w b n p := (Nat.lt_or_ge p 171).elim (fun h => ptC_170_171 w b n p h1 h) (fun h => ptC_171_172 w b n p h h2)
theorem ptC_169_172 (w : Wp) (b n p : Nat) (h1 : 169 ≤ p) (h2 : p < 172) : plC w b n p := (Nat.lt_or_ge p 170).elim (fun h => ptC_169_170 w b n p h1 h) (fun h => ptC_170_172 w b n p h h2)
theorem ptC_172_173 (w : Wp) (b n p : Nat) (h1 : 172 ≤ p) (h2 : p < 173) : plC w b n p := by
  have e : p = 172 := by omega
  subst e
  exact plC_172 w b n
theorem ptC_173_174 (w : Wp) (b n p : Nat) (h1 : 173 ≤ p) (h2 : p < 174) : plC w b n p := by
  have e : p = 173 := by omega
  subst e
  exact plC_173 w b n
theorem ptC_174_175 (w : Wp) (b n p : Nat) (h1 : 174 ≤ p) (h2 : p < 175) : plC w b n p := by
  have e : p = 174 := by omega
  subst e
  exact plC_174 w b n
theorem ptC_173_175 (w : Wp) (b n p : Nat) (h1 : 173 ≤ p) (h2 : p < 175) : plC w b n p := (Nat.lt_or_ge p 174).elim (fun h => ptC_173_174 w b n p h1 h) (fun h => ptC_174_175 w b n p h h2)
theorem ptC_172_175 (w : Wp) (b n p : Nat) (h1 : 172 ≤ p) (h2 : p < 175) : plC w b n p := (Nat.lt_or_ge p 173).elim (fun h => ptC_172_173 w b n p h1 h) (fun h => ptC_173_175 w b n p h h2)
theorem ptC_169_175 (w : Wp) (b n p : Nat) (h1 : 169 ≤ p) (h2 : p < 175) : plC w b n p := (Nat.lt_or_ge p 172).elim (fun h => ptC_169_172 w b n p h1 h) (fun h => ptC_172_175 w b n p h h2)
theorem ptC_175_176 (w : Wp) (b n p : Nat) (h1 : 175 ≤ p) (h2 : p < 176) : plC w b n p := by
  have e : p = 175 := by omega
  subst e
  exact plC_175 w b n
theorem ptC_176_177 (w : Wp) (b n p : Nat) (h1 : 176 ≤ p) (h2 : p < 177) : plC w b n p := by
  have e : p = 176 := by omega
  subst e
  exact plC_176 w b n
theorem ptC_177_178 (w : Wp) (b n p : Nat) (h1 : 177 ≤ p) (h2 : p < 178) : plC w b n p := by
  have e : p = 177 := by omega
  subst e
  exact plC_177 w b n
theorem ptC_176_178 (w : Wp) (b n p : Nat) (h1 : 176 ≤ p) (h2 : p < 178) : plC w b n p := (Nat.lt_or_ge p 177).elim (fun h => ptC_176_177 w b n p h1 h) (fun h => ptC_177_178 w b n p h h2)
theorem ptC_175_178 (w : Wp) (b n p : Nat) (h1 : 175 ≤ p) (h2 : p < 178) : plC w b n p := (Nat.lt_or_ge p 176).elim (fun h => ptC_175_176 w b n p h1 h) (fun h => ptC_176_178 w b n p h h2)
theorem ptC_178_179 (w : Wp) (b n p : Nat) (h1 : 178 ≤ p) (h2 : p < 179) : plC w b n p := by
  have e : p = 178 := by omega
  subst e
  exact plC_178 w b n
theorem ptC_179_180 (w : Wp) (b n p : Nat) (h1 : 179 ≤ p) (h2 : p < 180) : plC w b n p := by
  have e : p = 179 := by omega
  subst e
  exact plC_179 w b n
theorem ptC_180_181 (w : Wp) (b n p : Nat) (h1 : 180 ≤ p) (h2 : p < 181) : plC w b n p := by
  have e : p = 180 := by omega
  subst e
  exact plC_180 w b n
theorem ptC_179_181 (w : Wp) (b n p : Nat) (h1 : 179 ≤ p) (h2 : p < 181) : plC w b n p := (Nat.lt_or_ge p 180).elim (fun h => ptC_179_180 w b n p h1 h) (fun h => ptC_180_181 w b n p h h2)
theorem ptC_178_181 (w : Wp) (b n p : Nat) (h1 : 178 ≤ p) (h2 : p < 181) : plC w b n p := (Nat.lt_or_ge p 179).elim (fun h => ptC_178_179 w b n p h1 h) (fun h => ptC_179_181 w b n p h h2)
theorem ptC_175_181 (w : Wp) (b n p : Nat) (h1 : 175 ≤ p) (h2 : p < 181) : plC w b n p := (Nat.lt_or_ge p 178).elim (fun h => ptC_175_178 w b n p h1 h) (fun h => ptC_178_181 w b n p h h2)
theorem ptC_169_181 (w : Wp) (b n p : Nat) (h1 : 169 ≤ p) (h2 : p < 181) : plC w b n p := (Nat.lt_or_ge p 175).elim (fun h => ptC_169_175 w b n p h1 h) (fun h => ptC_175_181 w b n p h h2)
theorem ptC_181_182 (w : Wp) (b n p : Nat) (h1 : 181 ≤ p) (h2 : p < 182) : plC w b n p := by
  have e : p = 181 := by omega
  subst e
  exact plC_181 w b n
theorem ptC_182_183 (w : Wp) (b n p : Nat) (h1 : 182 ≤ p) (h2 : p < 183) : plC w b n p := by
  have e : p = 182 := by omega
  subst e
  exact plC_182 w b n
theorem ptC_183_184 (w : Wp) (b n p : Nat) (h1 : 183 ≤ p) (h2 : p < 184) : plC w b n p := by
  have e : p = 183 := by omega
  subst e
  exact plC_183 w b n
theorem ptC_182_184 (w : Wp) (b n p : Nat) (h1 : 182 ≤ p) (h2 : p < 184) : plC w b n p := (Nat.lt_or_ge p 183).elim (fun h => ptC_182_183 w b n p h1 h) (fun h => ptC_183_184 w b n p h h2)
theorem ptC_181_184 (w : Wp) (b n p : Nat) (h1 : 181 ≤ p) (h2 : p < 184) : plC w b n p := (Nat.lt_or_ge p 182).elim (fun h => ptC_181_182 w b n p h1 h) (fun h => ptC_182_184 w b n p h h2)
theorem ptC_184_185 (w : Wp) (b n p : Nat) (h1 : 184 ≤ p) (h2 : p < 185) : plC w b n p := by
  have e : p = 184 := by omega
  subst e
  exact plC_184 w b n
theorem ptC_185_186 (w : Wp) (b n p : Nat) (h1 : 185 ≤ p) (h2 : p < 186) : plC w b n p := by
  have e : p = 185 := by omega
  subst e
  exact plC_185 w b n
theorem ptC_186_187 (w : Wp) (b n p : Nat) (h1 : 186 ≤ p) (h2 : p < 187) : plC w b n p := by
  have e : p = 186 := by omega
  subst e
  exact plC_186 w b n
theorem ptC_185_187 (w : Wp) (b n p : Nat) (h1 : 185 ≤ p) (h2 : p < 187) : plC w b n p := (Nat.lt_or_ge p 186).elim (fun h => ptC_185_186 w b n p h1 h) (fun h => ptC_186_187 w b n p h h2)
theorem ptC_184_187 (w : Wp) (b n p : Nat) (h1 : 184 ≤ p) (h2 : p < 187) : plC w b n p := (Nat.lt_or_ge p 185).elim (fun h => ptC_184_185 w b n p h1 h) (fun h => ptC_185_187 w b n p h h2)
theorem ptC_181_187 (w : Wp) (b n p : Nat) (h1 : 181 ≤ p) (h2 : p < 187) : plC w b n p := (Nat.lt_or_ge p 184).elim (fun h => ptC_181_184 w b n p h1 h) (fun h => ptC_184_187 w b n p h h2)
theorem ptC_187_188 (w : Wp) (b n p : Nat) (h1 : 187 ≤ p) (h2 : p < 188) : plC w b n p := by
  have e : p = 187 := by omega
  subst e
  exact plC_187 w b n
theorem ptC_188_189 (w : Wp) (b n p : Nat) (h1 : 188 ≤ p) (h2 : p < 189) : plC w b n p := by
  have e : p = 188 := by omega
  subst e
  exact plC_188 w b n
theorem ptC_189_190 (w : Wp) (b n p : Nat) (h1 : 189 ≤ p) (h2 : p < 190) : plC w b n p := by
  have e : p = 189 := by omega
  subst e
  exact plC_189 w b n
theorem ptC_188_190 (w : Wp) (b n p : Nat) (h1 : 188 ≤ p) (h2 : p < 190) : plC w b n p := (Nat.lt_or_ge p 189).elim (fun h => ptC_188_189 w b n p h1 h) (fun h => ptC_189_190 w b n p h h2)
theorem ptC_187_190 (w : Wp) (b n p : Nat) (h1 : 187 ≤ p) (h2 : p < 190) : plC w b n p := (Nat.lt_or_ge p 188).elim (fun h => ptC_187_188 w b n p h1 h) (fun h => ptC_188_190 w b n p h h2)
theorem ptC_190_191 (w : Wp) (b n p : Nat) (h1 : 190 ≤ p) (h2 : p < 191) : plC w b n p := by
  have e : p = 190 := by omega
  subst e
  exact plC_190 w b n
theorem ptC_191_192 (w : Wp) (b n p : Nat) (h1 : 191 ≤ p) (h2 : p < 192) : plC w b n p := by
  have e : p = 191 := by omega
  subst e
  exact plC_191 w b n
theorem ptC_190_192 (w : Wp) (b n p : Nat) (h1 : 190 ≤ p) (h2 : p < 192) : plC w b n p := (Nat.lt_or_ge p 191).elim (fun h => ptC_190_191 w b n p h1 h) (fun h => ptC_191_192 w b n p h h2)
theorem ptC_192_193 (w : Wp) (b n p : Nat) (h1 : 192 ≤ p) (h2 : p < 193) : plC w b n p := by
  have e : p = 192 := by omega
  subst e
  exact plC_192 w b n
theorem ptC_193_194 (w : Wp) (b n p : Nat) (h1 : 193 ≤ p) (h2 : p < 194) : plC w b n p := by
  have e : p = 193 := by omega
  subst e
  exact plC_193 w b n
theorem ptC_192_194 (w : Wp) (b n p : Nat) (h1 : 192 ≤ p) (h2 : p < 194) : plC w b n p := (Nat.lt_or_ge p 193).elim (fun h => ptC_192_193 w b n p h1 h) (fun h => ptC_193_194 w b n p h h2)
theorem ptC_190_194 (w : Wp) (b n p : Nat) (h1 : 190 ≤ p) (h2 : p < 194) : plC w b n p := (Nat.lt_or_ge p 192).elim (fun h => ptC_190_192 w b n p h1 h) (fun h => ptC_192_194 w b n p h h2)
theorem ptC_187_194 (w : Wp) (b n p : Nat) (h1 : 187 ≤ p) (h2 : p < 194) : plC w b n p := (Nat.lt_or_ge p 190).elim (fun h => ptC_187_190 w b n p h1 h) (fun h => ptC_190_194 w b n p h h2)
theorem ptC_181_194 (w : Wp) (b n p : Nat) (h1 : 181 ≤ p) (h2 : p < 194) : plC w b n p := (Nat.lt_or_ge p 187).elim (fun h => ptC_181_187 w b n p h1 h) (fun h => ptC_187_194 w b n p h h2)
theorem ptC_169_194 (w : Wp) (b n p : Nat) (h1 : 169 ≤ p) (h2 : p < 194) : plC w b n p := (Nat.lt_or_ge p 181).elim (fun h => ptC_169_181 w b n p h1 h) (fun h => ptC_181_194 w b n p h h2)
theorem ptC_145_194 (w : Wp) (b n p : Nat) (h1 : 145 ≤ p) (h2 : p < 194) : plC w b n p := (Nat.lt_or_ge p 169).elim (fun h => ptC_145_169 w b n p h1 h) (fun h => ptC_169_194 w b n p h h2)
theorem ptC_97_194 (w : Wp) (b n p : Nat) (h1 : 97 ≤ p) (h2 : p < 194) : plC w b n p := (Nat.lt_or_ge p 145).elim (fun h => ptC_97_145 w b n p h1 h) (fun h => ptC_145_194 w b n p h h2)
theorem ptC_0_194 (w : Wp) (b n p : Nat) (h1 : 0 ≤ p) (h2 : p < 194) : plC w b n p := (Nat.lt_or_ge p 97).elim (fun h => ptC_0_97 w b n p h1 h) (fun h => ptC_97_194 w b n p h h2)
theorem firstC {w : Wp} {b n : Nat} {Q L : List va_E} {H : Heap} (hQ : Q.length = n) (hw : w.2.2.1 = adC b n) (hH : HB w b (Q ++ (ch11 w b n ++ L)) H) : HW kdC w stC H := by
  intro p k hk
  have hp : p < 194 := (List.getElem?_eq_some_iff.mp hk).1
  have h1 := ptC_0_194 w b n p (Nat.zero_le _) hp k hk
  rw [hw]
  refine hH.2 (n + prmC.getD p 0) _ (cq_get hQ ?_)
  rw [List.getElem?_append_left (List.getElem?_eq_some_iff.mp h1).1]
  exact h1
theorem injC {w : Wp} {b n : Nat} (hw : w.2.2.1 = adC b n) : zI kdC w := by
  intro i j hi hj h
  rw [hw] at h
  have e : prmC.getD i 0 = prmC.getD j 0 := by
    have : b + (n + prmC.getD i 0) = b + (n + prmC.getD j 0) := h
    omega
  exact (by decide +kernel : ∀ i, i < 194 → ∀ j, j < 194 → prmC.getD i 0 = prmC.getD j 0 → i = j) i hi j hj e
def prmM : List Nat := [0, 1, 2, 3, 4, 5, 6, 7, 8, 9, 10, 11, 12, 13, 14, 15, 16, 17]
def adM (b n : Nat) : Nat → Nat := fun p => b + (n + prmM.getD p 0)
def stM : St := fun p => ([fun k => ([0, 0, 0, 0, 0, 0, 0, 0, 0, 0, 0, 0, (-1), 0, 0, 0, 0, 0, 0, 0, 0, 0, 0, 0, 0, 0, 0, 0, 0, 0, 0, 0, 0] : List Int32).getD k 0, (upd (upd (upd (upd (upd (upd (fun _ => 0) 1 (-1)) 9 1) 10 5) 11 5) 12 5) 13 5), (fun _ => 0), (fun _ => 0), (fun _ => 0), (fun _ => 0), (fun _ => 0), (fun _ => 0), (fun _ => 0), (fun _ => 0), (fun _ => 0), (fun _ => 0), (fun _ => 0), (fun _ => 0), (fun _ => 0), (fun _ => 0), (fun _ => 0), (fun _ => 0)] : List (Nat → Int32)).getD p (fun _ => 0)
def plM (w : Wp) (b n p : Nat) : Prop := ∀ k : KD, kdM[p]? = some k → (ch12 w b n)[prmM.getD p 0]? = some (cellOf (adM b n) w.2.1.1 w.2.1.2 (stM p) k)
theorem plM_0 (w : Wp) (b n : Nat) : plM w b n 0 := fun k h => by
  have e : (.inr (.inl (12, [none, some 1, some 2, none, some 3, some 4, none, some 5, none, none, none, none, none, none, some 6, none, none, none, none, some 7, none, none, some 8, some 9, some 10, some 11, some 12, some 13, some 14, some 15, some 16, some 17, none])) : KD) = k := Option.some.inj (show some (.inr (.inl (12, [none, some 1, some 2, none, some 3, some 4, none, some 5, none, none, none, none, none, none, some 6, none, none, none, none, some 7, none, none, some 8, some 9, some 10, some 11, some 12, some 13, some 14, some 15, some 16, some 17, none])) : KD) = some k from h)
  subst e
  rfl
theorem plM_1 (w : Wp) (b n : Nat) : plM w b n 1 := fun k h => by
  have e : (.inl 752 : KD) = k := Option.some.inj (show some (.inl 752 : KD) = some k from h)
  subst e
  rfl
theorem plM_2 (w : Wp) (b n : Nat) : plM w b n 2 := fun k h => by
  have e : (.inl 752 : KD) = k := Option.some.inj (show some (.inl 752 : KD) = some k from h)
  subst e
  rfl
theorem plM_3 (w : Wp) (b n : Nat) : plM w b n 3 := fun k h => by
  have e : (.inl 352 : KD) = k := Option.some.inj (show some (.inl 352 : KD) = some k from h)
  subst e
  rfl
theorem plM_4 (w : Wp) (b n : Nat) : plM w b n 4 := fun k h => by
  have e : (.inl 4224 : KD) = k := Option.some.inj (show some (.inl 4224 : KD) = some k from h)
  subst e
  rfl
theorem plM_5 (w : Wp) (b n : Nat) : plM w b n 5 := fun k h => by
  have e : (.inl 400 : KD) = k := Option.some.inj (show some (.inl 400 : KD) = some k from h)
  subst e
  rfl
theorem plM_6 (w : Wp) (b n : Nat) : plM w b n 6 := fun k h => by
  have e : (.inl 7 : KD) = k := Option.some.inj (show some (.inl 7 : KD) = some k from h)
  subst e
  rfl
theorem plM_7 (w : Wp) (b n : Nat) : plM w b n 7 := fun k h => by
  have e : (.inl 49 : KD) = k := Option.some.inj (show some (.inl 49 : KD) = some k from h)
  subst e
  rfl
theorem plM_8 (w : Wp) (b n : Nat) : plM w b n 8 := fun k h => by
  have e : (.inl 7 : KD) = k := Option.some.inj (show some (.inl 7 : KD) = some k from h)
  subst e
  rfl
theorem plM_9 (w : Wp) (b n : Nat) : plM w b n 9 := fun k h => by
  have e : (.inl 7 : KD) = k := Option.some.inj (show some (.inl 7 : KD) = some k from h)
  subst e
  rfl
theorem plM_10 (w : Wp) (b n : Nat) : plM w b n 10 := fun k h => by
  have e : (.inl 56 : KD) = k := Option.some.inj (show some (.inl 56 : KD) = some k from h)
  subst e
  rfl
theorem plM_11 (w : Wp) (b n : Nat) : plM w b n 11 := fun k h => by
  have e : (.inl 8 : KD) = k := Option.some.inj (show some (.inl 8 : KD) = some k from h)
  subst e
  rfl
theorem plM_12 (w : Wp) (b n : Nat) : plM w b n 12 := fun k h => by
  have e : (.inl 8 : KD) = k := Option.some.inj (show some (.inl 8 : KD) = some k from h)
  subst e
  rfl
theorem plM_13 (w : Wp) (b n : Nat) : plM w b n 13 := fun k h => by
  have e : (.inl 8 : KD) = k := Option.some.inj (show some (.inl 8 : KD) = some k from h)
  subst e
  rfl
theorem plM_14 (w : Wp) (b n : Nat) : plM w b n 14 := fun k h => by
  have e : (.inl 49 : KD) = k := Option.some.inj (show some (.inl 49 : KD) = some k from h)
  subst e
  rfl
theorem plM_15 (w : Wp) (b n : Nat) : plM w b n 15 := fun k h => by
  have e : (.inl 7 : KD) = k := Option.some.inj (show some (.inl 7 : KD) = some k from h)
  subst e
  rfl
theorem plM_16 (w : Wp) (b n : Nat) : plM w b n 16 := fun k h => by
  have e : (.inl 128 : KD) = k := Option.some.inj (show some (.inl 128 : KD) = some k from h)
  subst e
  rfl
theorem plM_17 (w : Wp) (b n : Nat) : plM w b n 17 := fun k h => by
  have e : (.inl 1024 : KD) = k := Option.some.inj (show some (.inl 1024 : KD) = some k from h)
  subst e
  rfl
theorem plM_n (w : Wp) (b n p : Nat) (h : 18 ≤ p) : plM w b n p := fun k hk => absurd (List.getElem?_eq_some_iff.mp hk).1 (Nat.not_lt.mpr h)
theorem ptM_0_1 (w : Wp) (b n p : Nat) (h1 : 0 ≤ p) (h2 : p < 1) : plM w b n p := by
  have e : p = 0 := by omega
  subst e
  exact plM_0 w b n
theorem ptM_1_2 (w : Wp) (b n p : Nat) (h1 : 1 ≤ p) (h2 : p < 2) : plM w b n p := by
  have e : p = 1 := by omega
  subst e
  exact plM_1 w b n
theorem ptM_0_2 (w : Wp) (b n p : Nat) (h1 : 0 ≤ p) (h2 : p < 2) : plM w b n p := (Nat.lt_or_ge p 1).elim (fun h => ptM_0_1 w b n p h1 h) (fun h => ptM_1_2 w b n p h h2)
theorem ptM_2_3 (w : Wp) (b n p : Nat) (h1 : 2 ≤ p) (h2 : p < 3) : plM w b n p := by
  have e : p = 2 := by omega
  subst e
  exact plM_2 w b n
theorem ptM_3_4 (w : Wp) (b n p : Nat) (h1 : 3 ≤ p) (h2 : p < 4) : plM w b n p := by
  have e : p = 3 := by omega
  subst e
  exact plM_3 w b n
theorem ptM_2_4 (w : Wp) (b n p : Nat) (h1 : 2 ≤ p) (h2 : p < 4) : plM w b n p := (Nat.lt_or_ge p 3).elim (fun h => ptM_2_3 w b n p h1 h) (fun h => ptM_3_4 w b n p h h2)
theorem ptM_0_4 (w : Wp) (b n p : Nat) (h1 : 0 ≤ p) (h2 : p < 4) : plM w b n p := (Nat.lt_or_ge p 2).elim (fun h => ptM_0_2 w b n p h1 h) (fun h => ptM_2_4 w b n p h h2)
theorem ptM_4_5 (w : Wp) (b n p : Nat) (h1 : 4 ≤ p) (h2 : p < 5) : plM w b n p := by
  have e : p = 4 := by omega
  subst e
  exact plM_4 w b n
theorem ptM_5_6 (w : Wp) (b n p : Nat) (h1 : 5 ≤ p) (h2 : p < 6) : plM w b n p := by
  have e : p = 5 := by omega
  subst e
  exact plM_5 w b n
theorem ptM_4_6 (w : Wp) (b n p : Nat) (h1 : 4 ≤ p) (h2 : p < 6) : plM w b n p := (Nat.lt_or_ge p 5).elim (fun h => ptM_4_5 w b n p h1 h) (fun h => ptM_5_6 w b n p h h2)
theorem ptM_6_7 (w : Wp) (b n p : Nat) (h1 : 6 ≤ p) (h2 : p < 7) : plM w b n p := by
  have e : p = 6 := by omega
  subst e
  exact plM_6 w b n
theorem ptM_7_8 (w : Wp) (b n p : Nat) (h1 : 7 ≤ p) (h2 : p < 8) : plM w b n p := by
  have e : p = 7 := by omega
  subst e
  exact plM_7 w b n
theorem ptM_8_9 (w : Wp) (b n p : Nat) (h1 : 8 ≤ p) (h2 : p < 9) : plM w b n p := by
  have e : p = 8 := by omega
  subst e
  exact plM_8 w b n
theorem ptM_7_9 (w : Wp) (b n p : Nat) (h1 : 7 ≤ p) (h2 : p < 9) : plM w b n p := (Nat.lt_or_ge p 8).elim (fun h => ptM_7_8 w b n p h1 h) (fun h => ptM_8_9 w b n p h h2)
theorem ptM_6_9 (w : Wp) (b n p : Nat) (h1 : 6 ≤ p) (h2 : p < 9) : plM w b n p := (Nat.lt_or_ge p 7).elim (fun h => ptM_6_7 w b n p h1 h) (fun h => ptM_7_9 w b n p h h2)
theorem ptM_4_9 (w : Wp) (b n p : Nat) (h1 : 4 ≤ p) (h2 : p < 9) : plM w b n p := (Nat.lt_or_ge p 6).elim (fun h => ptM_4_6 w b n p h1 h) (fun h => ptM_6_9 w b n p h h2)
theorem ptM_0_9 (w : Wp) (b n p : Nat) (h1 : 0 ≤ p) (h2 : p < 9) : plM w b n p := (Nat.lt_or_ge p 4).elim (fun h => ptM_0_4 w b n p h1 h) (fun h => ptM_4_9 w b n p h h2)
theorem ptM_9_10 (w : Wp) (b n p : Nat) (h1 : 9 ≤ p) (h2 : p < 10) : plM w b n p := by
  have e : p = 9 := by omega
  subst e
  exact plM_9 w b n
theorem ptM_10_11 (w : Wp) (b n p : Nat) (h1 : 10 ≤ p) (h2 : p < 11) : plM w b n p := by
  have e : p = 10 := by omega
  subst e
  exact plM_10 w b n
theorem ptM_9_11 (w : Wp) (b n p : Nat) (h1 : 9 ≤ p) (h2 : p < 11) : plM w b n p := (Nat.lt_or_ge p 10).elim (fun h => ptM_9_10 w b n p h1 h) (fun h => ptM_10_11 w b n p h h2)
theorem ptM_11_12 (w : Wp) (b n p : Nat) (h1 : 11 ≤ p) (h2 : p < 12) : plM w b n p := by
  have e : p = 11 := by omega
  subst e
  exact plM_11 w b n
theorem ptM_12_13 (w : Wp) (b n p : Nat) (h1 : 12 ≤ p) (h2 : p < 13) : plM w b n p := by
  have e : p = 12 := by omega
  subst e
  exact plM_12 w b n
theorem ptM_11_13 (w : Wp) (b n p : Nat) (h1 : 11 ≤ p) (h2 : p < 13) : plM w b n p := (Nat.lt_or_ge p 12).elim (fun h => ptM_11_12 w b n p h1 h) (fun h => ptM_12_13 w b n p h h2)
theorem ptM_9_13 (w : Wp) (b n p : Nat) (h1 : 9 ≤ p) (h2 : p < 13) : plM w b n p := (Nat.lt_or_ge p 11).elim (fun h => ptM_9_11 w b n p h1 h) (fun h => ptM_11_13 w b n p h h2)
theorem ptM_13_14 (w : Wp) (b n p : Nat) (h1 : 13 ≤ p) (h2 : p < 14) : plM w b n p := by
  have e : p = 13 := by omega
  subst e
  exact plM_13 w b n
theorem ptM_14_15 (w : Wp) (b n p : Nat) (h1 : 14 ≤ p) (h2 : p < 15) : plM w b n p := by
  have e : p = 14 := by omega
  subst e
  exact plM_14 w b n
theorem ptM_13_15 (w : Wp) (b n p : Nat) (h1 : 13 ≤ p) (h2 : p < 15) : plM w b n p := (Nat.lt_or_ge p 14).elim (fun h => ptM_13_14 w b n p h1 h) (fun h => ptM_14_15 w b n p h h2)
theorem ptM_15_16 (w : Wp) (b n p : Nat) (h1 : 15 ≤ p) (h2 : p < 16) : plM w b n p := by
  have e : p = 15 := by omega
  subst e
  exact plM_15 w b n
theorem ptM_16_17 (w : Wp) (b n p : Nat) (h1 : 16 ≤ p) (h2 : p < 17) : plM w b n p := by
  have e : p = 16 := by omega
  subst e
  exact plM_16 w b n
theorem ptM_17_18 (w : Wp) (b n p : Nat) (h1 : 17 ≤ p) (h2 : p < 18) : plM w b n p := by
  have e : p = 17 := by omega
  subst e
  exact plM_17 w b n
theorem ptM_16_18 (w : Wp) (b n p : Nat) (h1 : 16 ≤ p) (h2 : p < 18) : plM w b n p := (Nat.lt_or_ge p 17).elim (fun h => ptM_16_17 w b n p h1 h) (fun h => ptM_17_18 w b n p h h2)
theorem ptM_15_18 (w : Wp) (b n p : Nat) (h1 : 15 ≤ p) (h2 : p < 18) : plM w b n p := (Nat.lt_or_ge p 16).elim (fun h => ptM_15_16 w b n p h1 h) (fun h => ptM_16_18 w b n p h h2)
theorem ptM_13_18 (w : Wp) (b n p : Nat) (h1 : 13 ≤ p) (h2 : p < 18) : plM w b n p := (Nat.lt_or_ge p 15).elim (fun h => ptM_13_15 w b n p h1 h) (fun h => ptM_15_18 w b n p h h2)
theorem ptM_9_18 (w : Wp) (b n p : Nat) (h1 : 9 ≤ p) (h2 : p < 18) : plM w b n p := (Nat.lt_or_ge p 13).elim (fun h => ptM_9_13 w b n p h1 h) (fun h => ptM_13_18 w b n p h h2)
theorem ptM_0_18 (w : Wp) (b n p : Nat) (h1 : 0 ≤ p) (h2 : p < 18) : plM w b n p := (Nat.lt_or_ge p 9).elim (fun h => ptM_0_9 w b n p h1 h) (fun h => ptM_9_18 w b n p h h2)
theorem firstM {w : Wp} {b n : Nat} {Q L : List va_E} {H : Heap} (hQ : Q.length = n) (hw : w.2.2.1 = adM b n) (hH : HB w b (Q ++ (ch12 w b n ++ L)) H) : HW kdM w stM H := by
  intro p k hk
  have hp : p < 18 := (List.getElem?_eq_some_iff.mp hk).1
  have h1 := ptM_0_18 w b n p (Nat.zero_le _) hp k hk
  rw [hw]
  refine hH.2 (n + prmM.getD p 0) _ (cq_get hQ ?_)
  rw [List.getElem?_append_left (List.getElem?_eq_some_iff.mp h1).1]
  exact h1
theorem injM {w : Wp} {b n : Nat} (hw : w.2.2.1 = adM b n) : zI kdM w := by
  intro i j hi hj h
  rw [hw] at h
  have e : prmM.getD i 0 = prmM.getD j 0 := by
    have : b + (n + prmM.getD i 0) = b + (n + prmM.getD j 0) := h
    omega
  exact (by decide +kernel : ∀ i, i < 18 → ∀ j, j < 18 → prmM.getD i 0 = prmM.getD j 0 → i = j) i hi j hj e

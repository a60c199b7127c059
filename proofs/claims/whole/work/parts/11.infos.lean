/-! PART 11: words of the classes, methods with their rooms -/
set_option maxRecDepth 100000 in
theorem inW0 : ∀ w ∈ u_ws RX0 TX0 6, w ∈ nl_W := by
  have h : u_ws RX0 TX0 6 = [365, 367, 369, 371, 373, 375].filterMap (fun i => lw_tbl[i]?) := by rfl
  have hg : (u_ws RX0 TX0 6).all goodWord = true := by decide +kernel
  intro w hw
  have h2 := List.all_eq_true.mp hg w hw
  rw [h] at hw
  obtain ⟨i, -, hi⟩ := List.mem_filterMap.mp hw
  exact nl_W_in hi h2
set_option maxRecDepth 100000 in
theorem inW1 : ∀ w ∈ u_ws RX1 TX1 10, w ∈ nl_W := by
  have h : u_ws RX1 TX1 10 = [221, 223, 225, 227, 229, 231, 233, 235, 237, 239].filterMap (fun i => lw_tbl[i]?) := by rfl
  have hg : (u_ws RX1 TX1 10).all goodWord = true := by decide +kernel
  intro w hw
  have h2 := List.all_eq_true.mp hg w hw
  rw [h] at hw
  obtain ⟨i, -, hi⟩ := List.mem_filterMap.mp hw
  exact nl_W_in hi h2
set_option maxRecDepth 100000 in
theorem inW2 : ∀ w ∈ u_ws RX2 TX2 3, w ∈ nl_W := by
  have h : u_ws RX2 TX2 3 = [344, 346, 348].filterMap (fun i => lw_tbl[i]?) := by rfl
  have hg : (u_ws RX2 TX2 3).all goodWord = true := by decide +kernel
  intro w hw
  have h2 := List.all_eq_true.mp hg w hw
  rw [h] at hw
  obtain ⟨i, -, hi⟩ := List.mem_filterMap.mp hw
  exact nl_W_in hi h2
set_option maxRecDepth 100000 in
theorem inW3 : ∀ w ∈ u_ws RX3 TX3 12, w ∈ nl_W := by
  have h : u_ws RX3 TX3 12 = [163, 165, 167, 169, 171, 173, 175, 177, 179, 181, 183, 185].filterMap (fun i => lw_tbl[i]?) := by rfl
  have hg : (u_ws RX3 TX3 12).all goodWord = true := by decide +kernel
  intro w hw
  have h2 := List.all_eq_true.mp hg w hw
  rw [h] at hw
  obtain ⟨i, -, hi⟩ := List.mem_filterMap.mp hw
  exact nl_W_in hi h2
set_option maxRecDepth 100000 in
theorem inW4 : ∀ w ∈ u_ws RX4 TX4 3, w ∈ nl_W := by
  have h : u_ws RX4 TX4 3 = [255, 257, 259].filterMap (fun i => lw_tbl[i]?) := by rfl
  have hg : (u_ws RX4 TX4 3).all goodWord = true := by decide +kernel
  intro w hw
  have h2 := List.all_eq_true.mp hg w hw
  rw [h] at hw
  obtain ⟨i, -, hi⟩ := List.mem_filterMap.mp hw
  exact nl_W_in hi h2
set_option maxRecDepth 100000 in
theorem inW5 : ∀ w ∈ u_ws RX5 TX5 7, w ∈ nl_W := by
  have h : u_ws RX5 TX5 7 = [100, 102, 104, 106, 108, 110, 112].filterMap (fun i => lw_tbl[i]?) := by rfl
  have hg : (u_ws RX5 TX5 7).all goodWord = true := by decide +kernel
  intro w hw
  have h2 := List.all_eq_true.mp hg w hw
  rw [h] at hw
  obtain ⟨i, -, hi⟩ := List.mem_filterMap.mp hw
  exact nl_W_in hi h2
set_option maxRecDepth 100000 in
theorem inW6 : ∀ w ∈ u_ws RX6 TX6 4, w ∈ nl_W := by
  have h : u_ws RX6 TX6 4 = [392, 394, 396, 398].filterMap (fun i => lw_tbl[i]?) := by rfl
  have hg : (u_ws RX6 TX6 4).all goodWord = true := by decide +kernel
  intro w hw
  have h2 := List.all_eq_true.mp hg w hw
  rw [h] at hw
  obtain ⟨i, -, hi⟩ := List.mem_filterMap.mp hw
  exact nl_W_in hi h2
set_option maxRecDepth 100000 in
theorem inW7 : ∀ w ∈ u_ws RX7 TX7 10, w ∈ nl_W := by
  have h : u_ws RX7 TX7 10 = [291, 293, 295, 297, 299, 301, 303, 305, 307, 309].filterMap (fun i => lw_tbl[i]?) := by rfl
  have hg : (u_ws RX7 TX7 10).all goodWord = true := by decide +kernel
  intro w hw
  have h2 := List.all_eq_true.mp hg w hw
  rw [h] at hw
  obtain ⟨i, -, hi⟩ := List.mem_filterMap.mp hw
  exact nl_W_in hi h2
set_option maxRecDepth 100000 in
theorem inW8 : ∀ w ∈ u_ws RX8 TX8 3, w ∈ nl_W := by
  have h : u_ws RX8 TX8 3 = [325, 327, 329].filterMap (fun i => lw_tbl[i]?) := by rfl
  have hg : (u_ws RX8 TX8 3).all goodWord = true := by decide +kernel
  intro w hw
  have h2 := List.all_eq_true.mp hg w hw
  rw [h] at hw
  obtain ⟨i, -, hi⟩ := List.mem_filterMap.mp hw
  exact nl_W_in hi h2
set_option maxRecDepth 100000 in
theorem inW9 : ∀ w ∈ u_ws RX9 TX9 16, w ∈ nl_W := by
  have h : u_ws RX9 TX9 16 = [417, 419, 421, 423, 425, 427, 429, 431, 433, 435, 437, 439, 441, 443, 445, 447].filterMap (fun i => lw_tbl[i]?) := by rfl
  have hg : (u_ws RX9 TX9 16).all goodWord = true := by decide +kernel
  intro w hw
  have h2 := List.all_eq_true.mp hg w hw
  rw [h] at hw
  obtain ⟨i, -, hi⟩ := List.mem_filterMap.mp hw
  exact nl_W_in hi h2
set_option maxRecDepth 100000 in
theorem inW10 : ∀ w ∈ u_ws RX10 TX10 24, w ∈ nl_W := by
  have h : u_ws RX10 TX10 24 = [1000, 1002, 1004, 1006, 1008, 1010, 1012, 1014, 1016, 1018, 1020, 1022, 1024, 1026, 1028, 1030, 1032, 1034, 1036, 1038, 1040, 1042, 1044, 1046].filterMap (fun i => lw_tbl[i]?) := by rfl
  have hg : (u_ws RX10 TX10 24).all goodWord = true := by decide +kernel
  intro w hw
  have h2 := List.all_eq_true.mp hg w hw
  rw [h] at hw
  obtain ⟨i, -, hi⟩ := List.mem_filterMap.mp hw
  exact nl_W_in hi h2
def m_J0_indexOf_0f7a4 : nl_MI := (yJ0_indexOf_0f7a4, cJ0_indexOf_0f7a4, 2, (some .int), { frames := 4, cells := 0, slots := 0, locals := 200 })
set_option maxRecDepth 100000 in
theorem hm_J0_indexOf_0f7a4 : nl_cal 1 m_J0_indexOf_0f7a4 1 := ⟨(nl_W_in (i := 562) rfl rfl), (nl_W_in (i := 69) rfl rfl), ⟨by decide +kernel, by decide +kernel, by decide +kernel⟩, ⟨(nl_W_in (i := 560) rfl rfl), (nl_W_in (i := 561) rfl rfl)⟩⟩
def m_X5_init : nl_MI := (yX5_init, cX5_init, 1, none, { frames := 1, cells := 1, slots := 120, locals := 26 })
set_option maxRecDepth 100000 in
theorem hm_X5_init : nl_cal 2 m_X5_init 0 := ⟨(nl_W_in (i := 89) rfl rfl), (nl_W_in (i := 58) rfl rfl), ⟨by decide +kernel, by decide +kernel, by decide +kernel⟩, ⟨rfl, (nl_W_in (i := 88) rfl rfl)⟩⟩
def m_X3_init : nl_MI := (yX3_init, cX3_init, 1, none, { frames := 1, cells := 4, slots := 23, locals := 26 })
set_option maxRecDepth 100000 in
theorem hm_X3_init : nl_cal 2 m_X3_init 0 := ⟨(nl_W_in (i := 120) rfl rfl), (nl_W_in (i := 59) rfl rfl), ⟨by decide +kernel, by decide +kernel, by decide +kernel⟩, ⟨rfl, (nl_W_in (i := 119) rfl rfl)⟩⟩
def m_X1_init : nl_MI := (yX1_init, cX1_init, 1, none, { frames := 1, cells := 2, slots := 10, locals := 26 })
set_option maxRecDepth 100000 in
theorem hm_X1_init : nl_cal 2 m_X1_init 0 := ⟨(nl_W_in (i := 192) rfl rfl), (nl_W_in (i := 60) rfl rfl), ⟨by decide +kernel, by decide +kernel, by decide +kernel⟩, ⟨rfl, (nl_W_in (i := 191) rfl rfl)⟩⟩
def m_X4_init : nl_MI := (yX4_init, cX4_init, 2, none, { frames := 2, cells := 73, slots := 504, locals := 46 })
set_option maxRecDepth 100000 in
theorem hm_X4_init : nl_cal 2 m_X4_init 0 := ⟨(nl_W_in (i := 246) rfl rfl), (nl_W_in (i := 61) rfl rfl), ⟨by decide +kernel, by decide +kernel, by decide +kernel⟩, ⟨rfl, (nl_W_in (i := 245) rfl rfl)⟩⟩
def m_X7_init : nl_MI := (yX7_init, cX7_init, 1, none, { frames := 2, cells := 8, slots := 55, locals := 46 })
set_option maxRecDepth 100000 in
theorem hm_X7_init : nl_cal 2 m_X7_init 0 := ⟨(nl_W_in (i := 267) rfl rfl), (nl_W_in (i := 62) rfl rfl), ⟨by decide +kernel, by decide +kernel, by decide +kernel⟩, ⟨rfl, (nl_W_in (i := 266) rfl rfl)⟩⟩
def m_X8_init : nl_MI := (yX8_init, cX8_init, 1, none, { frames := 1, cells := 0, slots := 0, locals := 26 })
set_option maxRecDepth 100000 in
theorem hm_X8_init : nl_cal 2 m_X8_init 0 := ⟨(nl_W_in (i := 317) rfl rfl), (nl_W_in (i := 63) rfl rfl), ⟨by decide +kernel, by decide +kernel, by decide +kernel⟩, ⟨rfl, (nl_W_in (i := 316) rfl rfl)⟩⟩
def m_X2_init : nl_MI := (yX2_init, cX2_init, 1, none, { frames := 1, cells := 0, slots := 0, locals := 26 })
set_option maxRecDepth 100000 in
theorem hm_X2_init : nl_cal 2 m_X2_init 0 := ⟨(nl_W_in (i := 336) rfl rfl), (nl_W_in (i := 64) rfl rfl), ⟨by decide +kernel, by decide +kernel, by decide +kernel⟩, ⟨rfl, (nl_W_in (i := 335) rfl rfl)⟩⟩
def m_X0_init : nl_MI := (yX0_init, cX0_init, 1, none, { frames := 1, cells := 1, slots := 16, locals := 26 })
set_option maxRecDepth 100000 in
theorem hm_X0_init : nl_cal 2 m_X0_init 0 := ⟨(nl_W_in (i := 355) rfl rfl), (nl_W_in (i := 65) rfl rfl), ⟨by decide +kernel, by decide +kernel, by decide +kernel⟩, ⟨rfl, (nl_W_in (i := 354) rfl rfl)⟩⟩
def m_X6_init : nl_MI := (yX6_init, cX6_init, 1, none, { frames := 1, cells := 1, slots := 40, locals := 26 })
set_option maxRecDepth 100000 in
theorem hm_X6_init : nl_cal 2 m_X6_init 0 := ⟨(nl_W_in (i := 381) rfl rfl), (nl_W_in (i := 66) rfl rfl), ⟨by decide +kernel, by decide +kernel, by decide +kernel⟩, ⟨rfl, (nl_W_in (i := 380) rfl rfl)⟩⟩
def m_X9_init : nl_MI := (yX9_init, cX9_init, 2, none, { frames := 3, cells := 138, slots := 1293, locals := 67 })
set_option maxRecDepth 100000 in
theorem hm_X9_init : nl_cal 2 m_X9_init 0 := ⟨(nl_W_in (i := 79) rfl rfl), (nl_W_in (i := 57) rfl rfl), ⟨by decide +kernel, by decide +kernel, by decide +kernel⟩, ⟨rfl, (nl_W_in (i := 78) rfl rfl)⟩⟩
def m_X9_isRow : nl_MI := (yX9_isRow, cX9_isRow, 1, (some .boolean), { frames := 1, cells := 0, slots := 0, locals := 26 })
set_option maxRecDepth 100000 in
theorem hm_X9_isRow : nl_cal 0 m_X9_isRow 1 := ⟨(nl_W_in (i := 456) rfl rfl), (nl_W_in (i := 57) rfl rfl), ⟨by decide +kernel, by decide +kernel, by decide +kernel⟩, (nl_W_in (i := 455) rfl rfl)⟩
def m_X9_isWithin : nl_MI := (yX9_isWithin, cX9_isWithin, 2, (some .boolean), { frames := 1, cells := 0, slots := 0, locals := 26 })
set_option maxRecDepth 100000 in
theorem hm_X9_isWithin : nl_cal 0 m_X9_isWithin 2 := ⟨(nl_W_in (i := 459) rfl rfl), (nl_W_in (i := 57) rfl rfl), ⟨by decide +kernel, by decide +kernel, by decide +kernel⟩, (nl_W_in (i := 458) rfl rfl)⟩
def m_X9_found : nl_MI := (yX9_found, cX9_found, 2, (some .int), { frames := 1, cells := 0, slots := 0, locals := 26 })
set_option maxRecDepth 100000 in
theorem hm_X9_found : nl_cal 1 m_X9_found 1 := ⟨(nl_W_in (i := 464) rfl rfl), (nl_W_in (i := 57) rfl rfl), ⟨by decide +kernel, by decide +kernel, by decide +kernel⟩, ⟨(nl_W_in (i := 463) rfl rfl), (nl_W_in (i := 0) rfl rfl)⟩⟩
def m_X6_make : nl_MI := (yX6_make, cX6_make, 4, none, { frames := 1, cells := 0, slots := 0, locals := 26 })
set_option maxRecDepth 100000 in
theorem hm_X6_make : nl_cal 1 m_X6_make 2 := ⟨(nl_W_in (i := 469) rfl rfl), (nl_W_in (i := 66) rfl rfl), ⟨by decide +kernel, by decide +kernel, by decide +kernel⟩, ⟨(nl_W_in (i := 467) rfl rfl), (nl_W_in (i := 468) rfl rfl)⟩⟩
def m_X9_fine : nl_MI := (yX9_fine, cX9_fine, 2, (some .int), { frames := 1, cells := 0, slots := 0, locals := 26 })
set_option maxRecDepth 100000 in
theorem hm_X9_fine : nl_cal 1 m_X9_fine 1 := ⟨(nl_W_in (i := 473) rfl rfl), (nl_W_in (i := 57) rfl rfl), ⟨by decide +kernel, by decide +kernel, by decide +kernel⟩, ⟨(nl_W_in (i := 472) rfl rfl), (nl_W_in (i := 1) rfl rfl)⟩⟩
def m_X9_row : nl_MI := (yX9_row, cX9_row, 4, (some .int), { frames := 2, cells := 0, slots := 0, locals := 49 })
set_option maxRecDepth 100000 in
theorem hm_X9_row : nl_cal 1 m_X9_row 3 := ⟨(nl_W_in (i := 453) rfl rfl), (nl_W_in (i := 57) rfl rfl), ⟨by decide +kernel, by decide +kernel, by decide +kernel⟩, ⟨(nl_W_in (i := 451) rfl rfl), (nl_W_in (i := 452) rfl rfl)⟩⟩
def m_X6_hasStretch : nl_MI := (yX6_hasStretch, cX6_hasStretch, 3, (some .boolean), { frames := 1, cells := 0, slots := 0, locals := 26 })
set_option maxRecDepth 100000 in
theorem hm_X6_hasStretch : nl_cal 1 m_X6_hasStretch 2 := ⟨(nl_W_in (i := 481) rfl rfl), (nl_W_in (i := 66) rfl rfl), ⟨by decide +kernel, by decide +kernel, by decide +kernel⟩, ⟨(nl_W_in (i := 479) rfl rfl), (nl_W_in (i := 480) rfl rfl)⟩⟩
def m_X6_put : nl_MI := (yX6_put, cX6_put, 4, (some .int), { frames := 1, cells := 0, slots := 0, locals := 26 })
set_option maxRecDepth 100000 in
theorem hm_X6_put : nl_cal 1 m_X6_put 2 := ⟨(nl_W_in (i := 485) rfl rfl), (nl_W_in (i := 66) rfl rfl), ⟨by decide +kernel, by decide +kernel, by decide +kernel⟩, ⟨(nl_W_in (i := 483) rfl rfl), (nl_W_in (i := 484) rfl rfl)⟩⟩
def m_X9_set : nl_MI := (yX9_set, cX9_set, 5, (some .int), { frames := 2, cells := 0, slots := 0, locals := 49 })
set_option maxRecDepth 100000 in
theorem hm_X9_set : nl_cal 1 m_X9_set 3 := ⟨(nl_W_in (i := 477) rfl rfl), (nl_W_in (i := 57) rfl rfl), ⟨by decide +kernel, by decide +kernel, by decide +kernel⟩, ⟨(nl_W_in (i := 475) rfl rfl), (nl_W_in (i := 476) rfl rfl)⟩⟩
def m_X9_copy : nl_MI := (yX9_copy, cX9_copy, 8, (some .int), { frames := 2, cells := 0, slots := 0, locals := 48 })
set_option maxRecDepth 100000 in
theorem hm_X9_copy : nl_cal 1 m_X9_copy 5 := ⟨(nl_W_in (i := 489) rfl rfl), (nl_W_in (i := 57) rfl rfl), ⟨by decide +kernel, by decide +kernel, by decide +kernel⟩, ⟨(nl_W_in (i := 487) rfl rfl), (nl_W_in (i := 488) rfl rfl)⟩⟩
def m_X9_drop : nl_MI := (yX9_drop, cX9_drop, 3, (some .int), { frames := 2, cells := 0, slots := 0, locals := 47 })
set_option maxRecDepth 100000 in
theorem hm_X9_drop : nl_cal 1 m_X9_drop 1 := ⟨(nl_W_in (i := 496) rfl rfl), (nl_W_in (i := 57) rfl rfl), ⟨by decide +kernel, by decide +kernel, by decide +kernel⟩, ⟨(nl_W_in (i := 494) rfl rfl), (nl_W_in (i := 495) rfl rfl)⟩⟩
def m_X5_append : nl_MI := (yX5_append, cX5_append, 2, (some .int), { frames := 1, cells := 0, slots := 0, locals := 26 })
set_option maxRecDepth 100000 in
theorem hm_X5_append : nl_cal 1 m_X5_append 1 := ⟨(nl_W_in (i := 505) rfl rfl), (nl_W_in (i := 58) rfl rfl), ⟨by decide +kernel, by decide +kernel, by decide +kernel⟩, ⟨(nl_W_in (i := 503) rfl rfl), (nl_W_in (i := 504) rfl rfl)⟩⟩
def m_X9_feed : nl_MI := (yX9_feed, cX9_feed, 2, (some .int), { frames := 2, cells := 0, slots := 0, locals := 47 })
set_option maxRecDepth 100000 in
theorem hm_X9_feed : nl_cal 1 m_X9_feed 1 := ⟨(nl_W_in (i := 500) rfl rfl), (nl_W_in (i := 57) rfl rfl), ⟨by decide +kernel, by decide +kernel, by decide +kernel⟩, ⟨(nl_W_in (i := 498) rfl rfl), (nl_W_in (i := 499) rfl rfl)⟩⟩
def m_X5_isFigure : nl_MI := (yX5_isFigure, cX5_isFigure, 2, (some .boolean), { frames := 1, cells := 0, slots := 0, locals := 26 })
set_option maxRecDepth 100000 in
theorem hm_X5_isFigure : nl_cal 1 m_X5_isFigure 1 := ⟨(nl_W_in (i := 521) rfl rfl), (nl_W_in (i := 58) rfl rfl), ⟨by decide +kernel, by decide +kernel, by decide +kernel⟩, ⟨(nl_W_in (i := 520) rfl rfl), (nl_W_in (i := 3) rfl rfl)⟩⟩
def m_X5_readFigures : nl_MI := (yX5_readFigures, cX5_readFigures, 1, none, { frames := 2, cells := 0, slots := 0, locals := 47 })
set_option maxRecDepth 100000 in
theorem hm_X5_readFigures : nl_cal 1 m_X5_readFigures 0 := ⟨(nl_W_in (i := 525) rfl rfl), (nl_W_in (i := 58) rfl rfl), ⟨by decide +kernel, by decide +kernel, by decide +kernel⟩, ⟨(nl_W_in (i := 524) rfl rfl), (nl_W_in (i := 4) rfl rfl)⟩⟩
def m_X5_step : nl_MI := (yX5_step, cX5_step, 1, none, { frames := 3, cells := 0, slots := 0, locals := 67 })
set_option maxRecDepth 100000 in
theorem hm_X5_step : nl_cal 1 m_X5_step 0 := ⟨(nl_W_in (i := 517) rfl rfl), (nl_W_in (i := 58) rfl rfl), ⟨by decide +kernel, by decide +kernel, by decide +kernel⟩, ⟨(nl_W_in (i := 516) rfl rfl), (nl_W_in (i := 2) rfl rfl)⟩⟩
def m_X5_blame : nl_MI := (yX5_blame, cX5_blame, 2, none, { frames := 1, cells := 0, slots := 0, locals := 26 })
set_option maxRecDepth 100000 in
theorem hm_X5_blame : nl_cal 1 m_X5_blame 1 := ⟨(nl_W_in (i := 537) rfl rfl), (nl_W_in (i := 58) rfl rfl), ⟨by decide +kernel, by decide +kernel, by decide +kernel⟩, ⟨(nl_W_in (i := 536) rfl rfl), (nl_W_in (i := 7) rfl rfl)⟩⟩
def m_X5_takeLetter : nl_MI := (yX5_takeLetter, cX5_takeLetter, 2, none, { frames := 4, cells := 0, slots := 0, locals := 87 })
set_option maxRecDepth 100000 in
theorem hm_X5_takeLetter : nl_cal 1 m_X5_takeLetter 1 := ⟨(nl_W_in (i := 533) rfl rfl), (nl_W_in (i := 58) rfl rfl), ⟨by decide +kernel, by decide +kernel, by decide +kernel⟩, ⟨(nl_W_in (i := 532) rfl rfl), (nl_W_in (i := 6) rfl rfl)⟩⟩
def m_X5_checkNumber : nl_MI := (yX5_checkNumber, cX5_checkNumber, 3, none, { frames := 2, cells := 0, slots := 0, locals := 47 })
set_option maxRecDepth 100000 in
theorem hm_X5_checkNumber : nl_cal 1 m_X5_checkNumber 2 := ⟨(nl_W_in (i := 545) rfl rfl), (nl_W_in (i := 58) rfl rfl), ⟨by decide +kernel, by decide +kernel, by decide +kernel⟩, ⟨(nl_W_in (i := 544) rfl rfl), (nl_W_in (i := 9) rfl rfl)⟩⟩
def m_X5_takeNumber : nl_MI := (yX5_takeNumber, cX5_takeNumber, 4, (some .int), { frames := 4, cells := 0, slots := 0, locals := 87 })
set_option maxRecDepth 100000 in
theorem hm_X5_takeNumber : nl_cal 1 m_X5_takeNumber 2 := ⟨(nl_W_in (i := 541) rfl rfl), (nl_W_in (i := 58) rfl rfl), ⟨by decide +kernel, by decide +kernel, by decide +kernel⟩, ⟨(nl_W_in (i := 540) rfl rfl), (nl_W_in (i := 8) rfl rfl)⟩⟩
def m_X5_takeSign : nl_MI := (yX5_takeSign, cX5_takeSign, 2, none, { frames := 4, cells := 0, slots := 0, locals := 87 })
set_option maxRecDepth 100000 in
theorem hm_X5_takeSign : nl_cal 1 m_X5_takeSign 1 := ⟨(nl_W_in (i := 549) rfl rfl), (nl_W_in (i := 58) rfl rfl), ⟨by decide +kernel, by decide +kernel, by decide +kernel⟩, ⟨(nl_W_in (i := 548) rfl rfl), (nl_W_in (i := 10) rfl rfl)⟩⟩
def m_X5_readLaw : nl_MI := (yX5_readLaw, cX5_readLaw, 2, none, { frames := 5, cells := 0, slots := 0, locals := 110 })
set_option maxRecDepth 100000 in
theorem hm_X5_readLaw : nl_cal 1 m_X5_readLaw 1 := ⟨(nl_W_in (i := 529) rfl rfl), (nl_W_in (i := 58) rfl rfl), ⟨by decide +kernel, by decide +kernel, by decide +kernel⟩, ⟨(nl_W_in (i := 528) rfl rfl), (nl_W_in (i := 5) rfl rfl)⟩⟩
def m_X5_readColours : nl_MI := (yX5_readColours, cX5_readColours, 4, none, { frames := 5, cells := 0, slots := 0, locals := 110 })
set_option maxRecDepth 100000 in
theorem hm_X5_readColours : nl_cal 1 m_X5_readColours 1 := ⟨(nl_W_in (i := 553) rfl rfl), (nl_W_in (i := 58) rfl rfl), ⟨by decide +kernel, by decide +kernel, by decide +kernel⟩, ⟨(nl_W_in (i := 552) rfl rfl), (nl_W_in (i := 11) rfl rfl)⟩⟩
def m_X5_readSuitor : nl_MI := (yX5_readSuitor, cX5_readSuitor, 4, none, { frames := 5, cells := 0, slots := 0, locals := 110 })
set_option maxRecDepth 100000 in
theorem hm_X5_readSuitor : nl_cal 1 m_X5_readSuitor 3 := ⟨(nl_W_in (i := 648) rfl rfl), (nl_W_in (i := 58) rfl rfl), ⟨by decide +kernel, by decide +kernel, by decide +kernel⟩, ⟨(nl_W_in (i := 647) rfl rfl), (nl_W_in (i := 13) rfl rfl)⟩⟩
def m_X5_readSuitors : nl_MI := (yX5_readSuitors, cX5_readSuitors, 4, none, { frames := 6, cells := 0, slots := 0, locals := 221 })
set_option maxRecDepth 100000 in
theorem hm_X5_readSuitors : nl_cal 1 m_X5_readSuitors 1 := ⟨(nl_W_in (i := 557) rfl rfl), (nl_W_in (i := 58) rfl rfl), ⟨by decide +kernel, by decide +kernel, by decide +kernel⟩, ⟨(nl_W_in (i := 556) rfl rfl), (nl_W_in (i := 12) rfl rfl)⟩⟩
def m_X5_readInto : nl_MI := (yX5_readInto, cX5_readInto, 2, (some .int), { frames := 7, cells := 0, slots := 0, locals := 244 })
set_option maxRecDepth 100000 in
theorem hm_X5_readInto : nl_cal 1 m_X5_readInto 1 := ⟨(nl_W_in (i := 513) rfl rfl), (nl_W_in (i := 58) rfl rfl), ⟨by decide +kernel, by decide +kernel, by decide +kernel⟩, ⟨(nl_W_in (i := 511) rfl rfl), (nl_W_in (i := 512) rfl rfl)⟩⟩
def m_X1_begin : nl_MI := (yX1_begin, cX1_begin, 3, none, { frames := 1, cells := 0, slots := 0, locals := 26 })
set_option maxRecDepth 100000 in
theorem hm_X1_begin : nl_cal 1 m_X1_begin 1 := ⟨(nl_W_in (i := 653) rfl rfl), (nl_W_in (i := 60) rfl rfl), ⟨by decide +kernel, by decide +kernel, by decide +kernel⟩, ⟨(nl_W_in (i := 651) rfl rfl), (nl_W_in (i := 652) rfl rfl)⟩⟩
def m_X4_forget : nl_MI := (yX4_forget, cX4_forget, 1, none, { frames := 1, cells := 0, slots := 0, locals := 26 })
set_option maxRecDepth 100000 in
theorem hm_X4_forget : nl_cal 1 m_X4_forget 0 := ⟨(nl_W_in (i := 657) rfl rfl), (nl_W_in (i := 61) rfl rfl), ⟨by decide +kernel, by decide +kernel, by decide +kernel⟩, ⟨(nl_W_in (i := 655) rfl rfl), (nl_W_in (i := 656) rfl rfl)⟩⟩
def m_X9_loom : nl_MI := (yX9_loom, cX9_loom, 3, (some .int), { frames := 8, cells := 0, slots := 0, locals := 265 })
set_option maxRecDepth 100000 in
theorem hm_X9_loom : nl_cal 1 m_X9_loom 0 := ⟨(nl_W_in (i := 509) rfl rfl), (nl_W_in (i := 57) rfl rfl), ⟨by decide +kernel, by decide +kernel, by decide +kernel⟩, ⟨(nl_W_in (i := 507) rfl rfl), (nl_W_in (i := 508) rfl rfl)⟩⟩
def m_X9_fault : nl_MI := (yX9_fault, cX9_fault, 1, (some .int), { frames := 1, cells := 0, slots := 0, locals := 26 })
set_option maxRecDepth 100000 in
theorem hm_X9_fault : nl_cal 1 m_X9_fault 0 := ⟨(nl_W_in (i := 662) rfl rfl), (nl_W_in (i := 57) rfl rfl), ⟨by decide +kernel, by decide +kernel, by decide +kernel⟩, ⟨(nl_W_in (i := 660) rfl rfl), (nl_W_in (i := 661) rfl rfl)⟩⟩
def m_X1_yarnFor : nl_MI := (yX1_yarnFor, cX1_yarnFor, 3, (some .int), { frames := 1, cells := 0, slots := 0, locals := 26 })
set_option maxRecDepth 100000 in
theorem hm_X1_yarnFor : nl_cal 1 m_X1_yarnFor 1 := ⟨(nl_W_in (i := 671) rfl rfl), (nl_W_in (i := 60) rfl rfl), ⟨by decide +kernel, by decide +kernel, by decide +kernel⟩, ⟨(nl_W_in (i := 669) rfl rfl), (nl_W_in (i := 670) rfl rfl)⟩⟩
def m_X1_become : nl_MI := (yX1_become, cX1_become, 2, none, { frames := 1, cells := 0, slots := 0, locals := 26 })
set_option maxRecDepth 100000 in
theorem hm_X1_become : nl_cal 1 m_X1_become 1 := ⟨(nl_W_in (i := 680) rfl rfl), (nl_W_in (i := 60) rfl rfl), ⟨by decide +kernel, by decide +kernel, by decide +kernel⟩, ⟨(nl_W_in (i := 678) rfl rfl), (nl_W_in (i := 679) rfl rfl)⟩⟩
def m_X4_keep : nl_MI := (yX4_keep, cX4_keep, 2, none, { frames := 2, cells := 0, slots := 0, locals := 47 })
set_option maxRecDepth 100000 in
theorem hm_X4_keep : nl_cal 1 m_X4_keep 1 := ⟨(nl_W_in (i := 676) rfl rfl), (nl_W_in (i := 61) rfl rfl), ⟨by decide +kernel, by decide +kernel, by decide +kernel⟩, ⟨(nl_W_in (i := 674) rfl rfl), (nl_W_in (i := 675) rfl rfl)⟩⟩
def m_X1_hangMore : nl_MI := (yX1_hangMore, cX1_hangMore, 2, none, { frames := 2, cells := 0, slots := 0, locals := 48 })
set_option maxRecDepth 100000 in
theorem hm_X1_hangMore : nl_cal 1 m_X1_hangMore 1 := ⟨(nl_W_in (i := 686) rfl rfl), (nl_W_in (i := 60) rfl rfl), ⟨by decide +kernel, by decide +kernel, by decide +kernel⟩, ⟨(nl_W_in (i := 684) rfl rfl), (nl_W_in (i := 685) rfl rfl)⟩⟩
def m_X3_divides : nl_MI := (yX3_divides, cX3_divides, 2, (some .boolean), { frames := 1, cells := 0, slots := 0, locals := 26 })
set_option maxRecDepth 100000 in
theorem hm_X3_divides : nl_cal 0 m_X3_divides 2 := ⟨(nl_W_in (i := 695) rfl rfl), (nl_W_in (i := 59) rfl rfl), ⟨by decide +kernel, by decide +kernel, by decide +kernel⟩, (nl_W_in (i := 694) rfl rfl)⟩
def m_X3_colourAt : nl_MI := (yX3_colourAt, cX3_colourAt, 2, (some .int), { frames := 1, cells := 0, slots := 0, locals := 26 })
set_option maxRecDepth 100000 in
theorem hm_X3_colourAt : nl_cal 1 m_X3_colourAt 1 := ⟨(nl_W_in (i := 707) rfl rfl), (nl_W_in (i := 59) rfl rfl), ⟨by decide +kernel, by decide +kernel, by decide +kernel⟩, ⟨(nl_W_in (i := 705) rfl rfl), (nl_W_in (i := 706) rfl rfl)⟩⟩
def m_X3_lookTheSame : nl_MI := (yX3_lookTheSame, cX3_lookTheSame, 5, (some .boolean), { frames := 2, cells := 0, slots := 0, locals := 47 })
set_option maxRecDepth 100000 in
theorem hm_X3_lookTheSame : nl_cal 1 m_X3_lookTheSame 3 := ⟨(nl_W_in (i := 703) rfl rfl), (nl_W_in (i := 59) rfl rfl), ⟨by decide +kernel, by decide +kernel, by decide +kernel⟩, ⟨(nl_W_in (i := 701) rfl rfl), (nl_W_in (i := 702) rfl rfl)⟩⟩
def m_X1_isDoubtful : nl_MI := (yX1_isDoubtful, cX1_isDoubtful, 4, (some .boolean), { frames := 3, cells := 0, slots := 0, locals := 71 })
set_option maxRecDepth 100000 in
theorem hm_X1_isDoubtful : nl_cal 1 m_X1_isDoubtful 3 := ⟨(nl_W_in (i := 699) rfl rfl), (nl_W_in (i := 60) rfl rfl), ⟨by decide +kernel, by decide +kernel, by decide +kernel⟩, ⟨(nl_W_in (i := 698) rfl rfl), (nl_W_in (i := 14) rfl rfl)⟩⟩
def m_X1_passEvening : nl_MI := (yX1_passEvening, cX1_passEvening, 3, none, { frames := 4, cells := 0, slots := 0, locals := 94 })
set_option maxRecDepth 100000 in
theorem hm_X1_passEvening : nl_cal 1 m_X1_passEvening 1 := ⟨(nl_W_in (i := 692) rfl rfl), (nl_W_in (i := 60) rfl rfl), ⟨by decide +kernel, by decide +kernel, by decide +kernel⟩, ⟨(nl_W_in (i := 690) rfl rfl), (nl_W_in (i := 691) rfl rfl)⟩⟩
def m_X9_weave : nl_MI := (yX9_weave, cX9_weave, 2, (some .int), { frames := 5, cells := 0, slots := 0, locals := 116 })
set_option maxRecDepth 100000 in
theorem hm_X9_weave : nl_cal 1 m_X9_weave 1 := ⟨(nl_W_in (i := 666) rfl rfl), (nl_W_in (i := 57) rfl rfl), ⟨by decide +kernel, by decide +kernel, by decide +kernel⟩, ⟨(nl_W_in (i := 664) rfl rfl), (nl_W_in (i := 665) rfl rfl)⟩⟩
def m_X3_mostUndone : nl_MI := (yX3_mostUndone, cX3_mostUndone, 3, (some .int), { frames := 2, cells := 0, slots := 0, locals := 47 })
set_option maxRecDepth 100000 in
theorem hm_X3_mostUndone : nl_cal 1 m_X3_mostUndone 2 := ⟨(nl_W_in (i := 716) rfl rfl), (nl_W_in (i := 59) rfl rfl), ⟨by decide +kernel, by decide +kernel, by decide +kernel⟩, ⟨(nl_W_in (i := 714) rfl rfl), (nl_W_in (i := 715) rfl rfl)⟩⟩
def m_X1_fewestNoticed : nl_MI := (yX1_fewestNoticed, cX1_fewestNoticed, 1, (some .int), { frames := 1, cells := 0, slots := 0, locals := 26 })
set_option maxRecDepth 100000 in
theorem hm_X1_fewestNoticed : nl_cal 0 m_X1_fewestNoticed 1 := ⟨(nl_W_in (i := 725) rfl rfl), (nl_W_in (i := 60) rfl rfl), ⟨by decide +kernel, by decide +kernel, by decide +kernel⟩, (nl_W_in (i := 724) rfl rfl)⟩
def m_X1_passNight : nl_MI := (yX1_passNight, cX1_passNight, 4, none, { frames := 2, cells := 0, slots := 0, locals := 47 })
set_option maxRecDepth 100000 in
theorem hm_X1_passNight : nl_cal 1 m_X1_passNight 2 := ⟨(nl_W_in (i := 722) rfl rfl), (nl_W_in (i := 60) rfl rfl), ⟨by decide +kernel, by decide +kernel, by decide +kernel⟩, ⟨(nl_W_in (i := 720) rfl rfl), (nl_W_in (i := 721) rfl rfl)⟩⟩
def m_X9_unpick : nl_MI := (yX9_unpick, cX9_unpick, 2, (some .int), { frames := 3, cells := 0, slots := 0, locals := 70 })
set_option maxRecDepth 100000 in
theorem hm_X9_unpick : nl_cal 1 m_X9_unpick 1 := ⟨(nl_W_in (i := 712) rfl rfl), (nl_W_in (i := 57) rfl rfl), ⟨by decide +kernel, by decide +kernel, by decide +kernel⟩, ⟨(nl_W_in (i := 710) rfl rfl), (nl_W_in (i := 711) rfl rfl)⟩⟩
def m_X4_takeBack : nl_MI := (yX4_takeBack, cX4_takeBack, 2, none, { frames := 2, cells := 0, slots := 0, locals := 47 })
set_option maxRecDepth 100000 in
theorem hm_X4_takeBack : nl_cal 1 m_X4_takeBack 1 := ⟨(nl_W_in (i := 733) rfl rfl), (nl_W_in (i := 61) rfl rfl), ⟨by decide +kernel, by decide +kernel, by decide +kernel⟩, ⟨(nl_W_in (i := 731) rfl rfl), (nl_W_in (i := 732) rfl rfl)⟩⟩
def m_X9_undo : nl_MI := (yX9_undo, cX9_undo, 1, (some .int), { frames := 3, cells := 0, slots := 0, locals := 68 })
set_option maxRecDepth 100000 in
theorem hm_X9_undo : nl_cal 1 m_X9_undo 0 := ⟨(nl_W_in (i := 729) rfl rfl), (nl_W_in (i := 57) rfl rfl), ⟨by decide +kernel, by decide +kernel, by decide +kernel⟩, ⟨(nl_W_in (i := 727) rfl rfl), (nl_W_in (i := 728) rfl rfl)⟩⟩
def m_X9_cloth : nl_MI := (yX9_cloth, cX9_cloth, 2, (some .int), { frames := 1, cells := 0, slots := 0, locals := 26 })
set_option maxRecDepth 100000 in
theorem hm_X9_cloth : nl_cal 1 m_X9_cloth 1 := ⟨(nl_W_in (i := 737) rfl rfl), (nl_W_in (i := 57) rfl rfl), ⟨by decide +kernel, by decide +kernel, by decide +kernel⟩, ⟨(nl_W_in (i := 735) rfl rfl), (nl_W_in (i := 736) rfl rfl)⟩⟩
def m_X9_colour : nl_MI := (yX9_colour, cX9_colour, 2, (some .int), { frames := 2, cells := 0, slots := 0, locals := 47 })
set_option maxRecDepth 100000 in
theorem hm_X9_colour : nl_cal 1 m_X9_colour 1 := ⟨(nl_W_in (i := 741) rfl rfl), (nl_W_in (i := 57) rfl rfl), ⟨by decide +kernel, by decide +kernel, by decide +kernel⟩, ⟨(nl_W_in (i := 739) rfl rfl), (nl_W_in (i := 740) rfl rfl)⟩⟩
def m_X9_isSuitor : nl_MI := (yX9_isSuitor, cX9_isSuitor, 2, (some .boolean), { frames := 1, cells := 0, slots := 0, locals := 26 })
set_option maxRecDepth 100000 in
theorem hm_X9_isSuitor : nl_cal 1 m_X9_isSuitor 1 := ⟨(nl_W_in (i := 750) rfl rfl), (nl_W_in (i := 57) rfl rfl), ⟨by decide +kernel, by decide +kernel, by decide +kernel⟩, ⟨(nl_W_in (i := 749) rfl rfl), (nl_W_in (i := 15) rfl rfl)⟩⟩
def m_X1_knows : nl_MI := (yX1_knows, cX1_knows, 3, (some .boolean), { frames := 1, cells := 0, slots := 0, locals := 26 })
set_option maxRecDepth 100000 in
theorem hm_X1_knows : nl_cal 1 m_X1_knows 2 := ⟨(nl_W_in (i := 754) rfl rfl), (nl_W_in (i := 60) rfl rfl), ⟨by decide +kernel, by decide +kernel, by decide +kernel⟩, ⟨(nl_W_in (i := 752) rfl rfl), (nl_W_in (i := 753) rfl rfl)⟩⟩
def m_X9_suitor : nl_MI := (yX9_suitor, cX9_suitor, 3, (some .int), { frames := 2, cells := 0, slots := 0, locals := 48 })
set_option maxRecDepth 100000 in
theorem hm_X9_suitor : nl_cal 1 m_X9_suitor 2 := ⟨(nl_W_in (i := 746) rfl rfl), (nl_W_in (i := 57) rfl rfl), ⟨by decide +kernel, by decide +kernel, by decide +kernel⟩, ⟨(nl_W_in (i := 744) rfl rfl), (nl_W_in (i := 745) rfl rfl)⟩⟩
def m_X9_isHabit : nl_MI := (yX9_isHabit, cX9_isHabit, 2, (some .boolean), { frames := 2, cells := 0, slots := 0, locals := 47 })
set_option maxRecDepth 100000 in
theorem hm_X9_isHabit : nl_cal 0 m_X9_isHabit 2 := ⟨(nl_W_in (i := 762) rfl rfl), (nl_W_in (i := 57) rfl rfl), ⟨by decide +kernel, by decide +kernel, by decide +kernel⟩, (nl_W_in (i := 761) rfl rfl)⟩
def m_X3_become : nl_MI := (yX3_become, cX3_become, 2, none, { frames := 1, cells := 0, slots := 0, locals := 26 })
set_option maxRecDepth 100000 in
theorem hm_X3_become : nl_cal 1 m_X3_become 1 := ⟨(nl_W_in (i := 770) rfl rfl), (nl_W_in (i := 59) rfl rfl), ⟨by decide +kernel, by decide +kernel, by decide +kernel⟩, ⟨(nl_W_in (i := 768) rfl rfl), (nl_W_in (i := 769) rfl rfl)⟩⟩
def m_X7_undoes : nl_MI := (yX7_undoes, cX7_undoes, 2, none, { frames := 3, cells := 0, slots := 0, locals := 70 })
set_option maxRecDepth 100000 in
theorem hm_X7_undoes : nl_cal 1 m_X7_undoes 1 := ⟨(nl_W_in (i := 784) rfl rfl), (nl_W_in (i := 62) rfl rfl), ⟨by decide +kernel, by decide +kernel, by decide +kernel⟩, ⟨(nl_W_in (i := 783) rfl rfl), (nl_W_in (i := 18) rfl rfl)⟩⟩
def m_X1_firstWhoKnows : nl_MI := (yX1_firstWhoKnows, cX1_firstWhoKnows, 3, (some .int), { frames := 2, cells := 0, slots := 0, locals := 48 })
set_option maxRecDepth 100000 in
theorem hm_X1_firstWhoKnows : nl_cal 1 m_X1_firstWhoKnows 1 := ⟨(nl_W_in (i := 791) rfl rfl), (nl_W_in (i := 60) rfl rfl), ⟨by decide +kernel, by decide +kernel, by decide +kernel⟩, ⟨(nl_W_in (i := 789) rfl rfl), (nl_W_in (i := 790) rfl rfl)⟩⟩
def m_X7_endOfNight : nl_MI := (yX7_endOfNight, cX7_endOfNight, 2, (some .int), { frames := 4, cells := 0, slots := 0, locals := 91 })
set_option maxRecDepth 100000 in
theorem hm_X7_endOfNight : nl_cal 1 m_X7_endOfNight 1 := ⟨(nl_W_in (i := 780) rfl rfl), (nl_W_in (i := 62) rfl rfl), ⟨by decide +kernel, by decide +kernel, by decide +kernel⟩, ⟨(nl_W_in (i := 779) rfl rfl), (nl_W_in (i := 17) rfl rfl)⟩⟩
def m_X7_weaves : nl_MI := (yX7_weaves, cX7_weaves, 3, (some .boolean), { frames := 3, cells := 0, slots := 0, locals := 69 })
set_option maxRecDepth 100000 in
theorem hm_X7_weaves : nl_cal 1 m_X7_weaves 1 := ⟨(nl_W_in (i := 802) rfl rfl), (nl_W_in (i := 62) rfl rfl), ⟨by decide +kernel, by decide +kernel, by decide +kernel⟩, ⟨(nl_W_in (i := 801) rfl rfl), (nl_W_in (i := 20) rfl rfl)⟩⟩
def m_X7_endOfDay : nl_MI := (yX7_endOfDay, cX7_endOfDay, 4, (some .int), { frames := 5, cells := 0, slots := 0, locals := 116 })
set_option maxRecDepth 100000 in
theorem hm_X7_endOfDay : nl_cal 1 m_X7_endOfDay 2 := ⟨(nl_W_in (i := 798) rfl rfl), (nl_W_in (i := 62) rfl rfl), ⟨by decide +kernel, by decide +kernel, by decide +kernel⟩, ⟨(nl_W_in (i := 797) rfl rfl), (nl_W_in (i := 19) rfl rfl)⟩⟩
def m_X7_foretellHabit : nl_MI := (yX7_foretellHabit, cX7_foretellHabit, 5, none, { frames := 6, cells := 0, slots := 0, locals := 139 })
set_option maxRecDepth 100000 in
theorem hm_X7_foretellHabit : nl_cal 1 m_X7_foretellHabit 3 := ⟨(nl_W_in (i := 775) rfl rfl), (nl_W_in (i := 62) rfl rfl), ⟨by decide +kernel, by decide +kernel, by decide +kernel⟩, ⟨(nl_W_in (i := 774) rfl rfl), (nl_W_in (i := 16) rfl rfl)⟩⟩
def m_X7_foretell : nl_MI := (yX7_foretell, cX7_foretell, 5, none, { frames := 7, cells := 0, slots := 0, locals := 163 })
set_option maxRecDepth 100000 in
theorem hm_X7_foretell : nl_cal 1 m_X7_foretell 4 := ⟨(nl_W_in (i := 766) rfl rfl), (nl_W_in (i := 62) rfl rfl), ⟨by decide +kernel, by decide +kernel, by decide +kernel⟩, ⟨(nl_W_in (i := 764) rfl rfl), (nl_W_in (i := 765) rfl rfl)⟩⟩
def m_X9_holds : nl_MI := (yX9_holds, cX9_holds, 4, (some .int), { frames := 8, cells := 0, slots := 0, locals := 187 })
set_option maxRecDepth 100000 in
theorem hm_X9_holds : nl_cal 1 m_X9_holds 3 := ⟨(nl_W_in (i := 759) rfl rfl), (nl_W_in (i := 57) rfl rfl), ⟨by decide +kernel, by decide +kernel, by decide +kernel⟩, ⟨(nl_W_in (i := 757) rfl rfl), (nl_W_in (i := 758) rfl rfl)⟩⟩
def m_X7_findLongest : nl_MI := (yX7_findLongest, cX7_findLongest, 5, none, { frames := 7, cells := 0, slots := 0, locals := 163 })
set_option maxRecDepth 100000 in
theorem hm_X7_findLongest : nl_cal 1 m_X7_findLongest 2 := ⟨(nl_W_in (i := 813) rfl rfl), (nl_W_in (i := 62) rfl rfl), ⟨by decide +kernel, by decide +kernel, by decide +kernel⟩, ⟨(nl_W_in (i := 811) rfl rfl), (nl_W_in (i := 812) rfl rfl)⟩⟩
def m_X9_longest : nl_MI := (yX9_longest, cX9_longest, 2, (some .int), { frames := 8, cells := 0, slots := 0, locals := 187 })
set_option maxRecDepth 100000 in
theorem hm_X9_longest : nl_cal 1 m_X9_longest 1 := ⟨(nl_W_in (i := 809) rfl rfl), (nl_W_in (i := 57) rfl rfl), ⟨by decide +kernel, by decide +kernel, by decide +kernel⟩, ⟨(nl_W_in (i := 807) rfl rfl), (nl_W_in (i := 808) rfl rfl)⟩⟩
def m_X7_daysTillKnown : nl_MI := (yX7_daysTillKnown, cX7_daysTillKnown, 5, (some .int), { frames := 5, cells := 0, slots := 0, locals := 116 })
set_option maxRecDepth 100000 in
theorem hm_X7_daysTillKnown : nl_cal 1 m_X7_daysTillKnown 3 := ⟨(nl_W_in (i := 825) rfl rfl), (nl_W_in (i := 62) rfl rfl), ⟨by decide +kernel, by decide +kernel, by decide +kernel⟩, ⟨(nl_W_in (i := 824) rfl rfl), (nl_W_in (i := 21) rfl rfl)⟩⟩
def m_X7_findSoonest : nl_MI := (yX7_findSoonest, cX7_findSoonest, 8, none, { frames := 6, cells := 0, slots := 0, locals := 140 })
set_option maxRecDepth 100000 in
theorem hm_X7_findSoonest : nl_cal 1 m_X7_findSoonest 5 := ⟨(nl_W_in (i := 821) rfl rfl), (nl_W_in (i := 62) rfl rfl), ⟨by decide +kernel, by decide +kernel, by decide +kernel⟩, ⟨(nl_W_in (i := 819) rfl rfl), (nl_W_in (i := 820) rfl rfl)⟩⟩
def m_X9_soonest : nl_MI := (yX9_soonest, cX9_soonest, 5, (some .int), { frames := 7, cells := 0, slots := 0, locals := 167 })
set_option maxRecDepth 100000 in
theorem hm_X9_soonest : nl_cal 1 m_X9_soonest 4 := ⟨(nl_W_in (i := 817) rfl rfl), (nl_W_in (i := 57) rfl rfl), ⟨by decide +kernel, by decide +kernel, by decide +kernel⟩, ⟨(nl_W_in (i := 815) rfl rfl), (nl_W_in (i := 816) rfl rfl)⟩⟩
def m_X8_sameFrom : nl_MI := (yX8_sameFrom, cX8_sameFrom, 4, (some .int), { frames := 2, cells := 0, slots := 0, locals := 47 })
set_option maxRecDepth 100000 in
theorem hm_X8_sameFrom : nl_cal 0 m_X8_sameFrom 3 := ⟨(nl_W_in (i := 838) rfl rfl), (nl_W_in (i := 63) rfl rfl), ⟨by decide +kernel, by decide +kernel, by decide +kernel⟩, (nl_W_in (i := 837) rfl rfl)⟩
def m_X8_find : nl_MI := (yX8_find, cX8_find, 5, none, { frames := 3, cells := 0, slots := 0, locals := 70 })
set_option maxRecDepth 100000 in
theorem hm_X8_find : nl_cal 1 m_X8_find 1 := ⟨(nl_W_in (i := 834) rfl rfl), (nl_W_in (i := 63) rfl rfl), ⟨by decide +kernel, by decide +kernel, by decide +kernel⟩, ⟨(nl_W_in (i := 832) rfl rfl), (nl_W_in (i := 833) rfl rfl)⟩⟩
def m_X9_twice : nl_MI := (yX9_twice, cX9_twice, 2, (some .int), { frames := 4, cells := 0, slots := 0, locals := 94 })
set_option maxRecDepth 100000 in
theorem hm_X9_twice : nl_cal 1 m_X9_twice 1 := ⟨(nl_W_in (i := 830) rfl rfl), (nl_W_in (i := 57) rfl rfl), ⟨by decide +kernel, by decide +kernel, by decide +kernel⟩, ⟨(nl_W_in (i := 828) rfl rfl), (nl_W_in (i := 829) rfl rfl)⟩⟩
def m_X3_lengthsThatLookAs : nl_MI := (yX3_lengthsThatLookAs, cX3_lengthsThatLookAs, 5, (some .int), { frames := 3, cells := 0, slots := 0, locals := 71 })
set_option maxRecDepth 100000 in
theorem hm_X3_lengthsThatLookAs : nl_cal 1 m_X3_lengthsThatLookAs 2 := ⟨(nl_W_in (i := 847) rfl rfl), (nl_W_in (i := 59) rfl rfl), ⟨by decide +kernel, by decide +kernel, by decide +kernel⟩, ⟨(nl_W_in (i := 845) rfl rfl), (nl_W_in (i := 846) rfl rfl)⟩⟩
def m_X9_looks : nl_MI := (yX9_looks, cX9_looks, 2, (some .int), { frames := 4, cells := 0, slots := 0, locals := 95 })
set_option maxRecDepth 100000 in
theorem hm_X9_looks : nl_cal 1 m_X9_looks 1 := ⟨(nl_W_in (i := 843) rfl rfl), (nl_W_in (i := 57) rfl rfl), ⟨by decide +kernel, by decide +kernel, by decide +kernel⟩, ⟨(nl_W_in (i := 841) rfl rfl), (nl_W_in (i := 842) rfl rfl)⟩⟩
def m_X6_areWithin : nl_MI := (yX6_areWithin, cX6_areWithin, 5, (some .boolean), { frames := 1, cells := 0, slots := 0, locals := 26 })
set_option maxRecDepth 100000 in
theorem hm_X6_areWithin : nl_cal 1 m_X6_areWithin 3 := ⟨(nl_W_in (i := 856) rfl rfl), (nl_W_in (i := 66) rfl rfl), ⟨by decide +kernel, by decide +kernel, by decide +kernel⟩, ⟨(nl_W_in (i := 854) rfl rfl), (nl_W_in (i := 855) rfl rfl)⟩⟩
def m_X2_addNight : nl_MI := (yX2_addNight, cX2_addNight, 7, none, { frames := 2, cells := 0, slots := 0, locals := 47 })
set_option maxRecDepth 100000 in
theorem hm_X2_addNight : nl_cal 1 m_X2_addNight 3 := ⟨(nl_W_in (i := 866) rfl rfl), (nl_W_in (i := 64) rfl rfl), ⟨by decide +kernel, by decide +kernel, by decide +kernel⟩, ⟨(nl_W_in (i := 865) rfl rfl), (nl_W_in (i := 22) rfl rfl)⟩⟩
def m_X2_explain : nl_MI := (yX2_explain, cX2_explain, 10, none, { frames := 3, cells := 0, slots := 0, locals := 73 })
set_option maxRecDepth 100000 in
theorem hm_X2_explain : nl_cal 1 m_X2_explain 5 := ⟨(nl_W_in (i := 860) rfl rfl), (nl_W_in (i := 64) rfl rfl), ⟨by decide +kernel, by decide +kernel, by decide +kernel⟩, ⟨(nl_W_in (i := 858) rfl rfl), (nl_W_in (i := 859) rfl rfl)⟩⟩
def m_X9_seen : nl_MI := (yX9_seen, cX9_seen, 6, (some .int), { frames := 4, cells := 0, slots := 0, locals := 102 })
set_option maxRecDepth 100000 in
theorem hm_X9_seen : nl_cal 1 m_X9_seen 4 := ⟨(nl_W_in (i := 852) rfl rfl), (nl_W_in (i := 57) rfl rfl), ⟨by decide +kernel, by decide +kernel, by decide +kernel⟩, ⟨(nl_W_in (i := 850) rfl rfl), (nl_W_in (i := 851) rfl rfl)⟩⟩
def m_X9_image : nl_MI := (yX9_image, cX9_image, 2, (some .int), { frames := 2, cells := 0, slots := 0, locals := 47 })
set_option maxRecDepth 100000 in
theorem hm_X9_image : nl_cal 1 m_X9_image 1 := ⟨(nl_W_in (i := 870) rfl rfl), (nl_W_in (i := 57) rfl rfl), ⟨by decide +kernel, by decide +kernel, by decide +kernel⟩, ⟨(nl_W_in (i := 868) rfl rfl), (nl_W_in (i := 869) rfl rfl)⟩⟩
def m_X9_restore : nl_MI := (yX9_restore, cX9_restore, 2, (some .int), { frames := 2, cells := 0, slots := 0, locals := 47 })
set_option maxRecDepth 100000 in
theorem hm_X9_restore : nl_cal 1 m_X9_restore 1 := ⟨(nl_W_in (i := 876) rfl rfl), (nl_W_in (i := 57) rfl rfl), ⟨by decide +kernel, by decide +kernel, by decide +kernel⟩, ⟨(nl_W_in (i := 874) rfl rfl), (nl_W_in (i := 875) rfl rfl)⟩⟩
def m_X9_kind : nl_MI := (yX9_kind, cX9_kind, 2, (some .int), { frames := 2, cells := 0, slots := 0, locals := 47 })
set_option maxRecDepth 100000 in
theorem hm_X9_kind : nl_cal 1 m_X9_kind 1 := ⟨(nl_W_in (i := 880) rfl rfl), (nl_W_in (i := 57) rfl rfl), ⟨by decide +kernel, by decide +kernel, by decide +kernel⟩, ⟨(nl_W_in (i := 878) rfl rfl), (nl_W_in (i := 879) rfl rfl)⟩⟩
def m_X9_isOneOf : nl_MI := (yX9_isOneOf, cX9_isOneOf, 4, (some .boolean), { frames := 1, cells := 0, slots := 0, locals := 26 })
set_option maxRecDepth 100000 in
theorem hm_X9_isOneOf : nl_cal 0 m_X9_isOneOf 2 := ⟨(nl_W_in (i := 887) rfl rfl), (nl_W_in (i := 57) rfl rfl), ⟨by decide +kernel, by decide +kernel, by decide +kernel⟩, (nl_W_in (i := 886) rfl rfl)⟩
def m_X9_as : nl_MI := (yX9_as, cX9_as, 3, (some .int), { frames := 2, cells := 0, slots := 0, locals := 49 })
set_option maxRecDepth 100000 in
theorem hm_X9_as : nl_cal 1 m_X9_as 2 := ⟨(nl_W_in (i := 884) rfl rfl), (nl_W_in (i := 57) rfl rfl), ⟨by decide +kernel, by decide +kernel, by decide +kernel⟩, ⟨(nl_W_in (i := 882) rfl rfl), (nl_W_in (i := 883) rfl rfl)⟩⟩
def m_X0_turnTo : nl_MI := (yX0_turnTo, cX0_turnTo, 5, none, { frames := 1, cells := 0, slots := 0, locals := 26 })
set_option maxRecDepth 100000 in
theorem hm_X0_turnTo : nl_cal 1 m_X0_turnTo 4 := ⟨(nl_W_in (i := 897) rfl rfl), (nl_W_in (i := 65) rfl rfl), ⟨by decide +kernel, by decide +kernel, by decide +kernel⟩, ⟨(nl_W_in (i := 895) rfl rfl), (nl_W_in (i := 896) rfl rfl)⟩⟩
def m_X0_leave : nl_MI := (yX0_leave, cX0_leave, 2, none, { frames := 1, cells := 0, slots := 0, locals := 26 })
set_option maxRecDepth 100000 in
theorem hm_X0_leave : nl_cal 1 m_X0_leave 1 := ⟨(nl_W_in (i := 909) rfl rfl), (nl_W_in (i := 65) rfl rfl), ⟨by decide +kernel, by decide +kernel, by decide +kernel⟩, ⟨(nl_W_in (i := 908) rfl rfl), (nl_W_in (i := 24) rfl rfl)⟩⟩
def m_X0_size10 : nl_MI := (yX0_size10, cX0_size10, 1, (some .int), { frames := 2, cells := 0, slots := 0, locals := 47 })
set_option maxRecDepth 100000 in
theorem hm_X0_size10 : nl_cal 1 m_X0_size10 0 := ⟨(nl_W_in (i := 913) rfl rfl), (nl_W_in (i := 65) rfl rfl), ⟨by decide +kernel, by decide +kernel, by decide +kernel⟩, ⟨(nl_W_in (i := 912) rfl rfl), (nl_W_in (i := 25) rfl rfl)⟩⟩
def m_X0_mark20 : nl_MI := (yX0_mark20, cX0_mark20, 1, (some .int), { frames := 2, cells := 0, slots := 0, locals := 47 })
set_option maxRecDepth 100000 in
theorem hm_X0_mark20 : nl_cal 1 m_X0_mark20 0 := ⟨(nl_W_in (i := 925) rfl rfl), (nl_W_in (i := 65) rfl rfl), ⟨by decide +kernel, by decide +kernel, by decide +kernel⟩, ⟨(nl_W_in (i := 924) rfl rfl), (nl_W_in (i := 28) rfl rfl)⟩⟩
def m_X0_mark21 : nl_MI := (yX0_mark21, cX0_mark21, 1, (some .int), { frames := 3, cells := 0, slots := 0, locals := 67 })
set_option maxRecDepth 100000 in
theorem hm_X0_mark21 : nl_cal 1 m_X0_mark21 0 := ⟨(nl_W_in (i := 921) rfl rfl), (nl_W_in (i := 65) rfl rfl), ⟨by decide +kernel, by decide +kernel, by decide +kernel⟩, ⟨(nl_W_in (i := 920) rfl rfl), (nl_W_in (i := 27) rfl rfl)⟩⟩
def m_X0_mark24 : nl_MI := (yX0_mark24, cX0_mark24, 1, (some .int), { frames := 4, cells := 0, slots := 0, locals := 87 })
set_option maxRecDepth 100000 in
theorem hm_X0_mark24 : nl_cal 1 m_X0_mark24 0 := ⟨(nl_W_in (i := 917) rfl rfl), (nl_W_in (i := 65) rfl rfl), ⟨by decide +kernel, by decide +kernel, by decide +kernel⟩, ⟨(nl_W_in (i := 916) rfl rfl), (nl_W_in (i := 26) rfl rfl)⟩⟩
def m_X0_mark22 : nl_MI := (yX0_mark22, cX0_mark22, 1, (some .int), { frames := 4, cells := 0, slots := 0, locals := 87 })
set_option maxRecDepth 100000 in
theorem hm_X0_mark22 : nl_cal 1 m_X0_mark22 0 := ⟨(nl_W_in (i := 929) rfl rfl), (nl_W_in (i := 65) rfl rfl), ⟨by decide +kernel, by decide +kernel, by decide +kernel⟩, ⟨(nl_W_in (i := 928) rfl rfl), (nl_W_in (i := 29) rfl rfl)⟩⟩
def m_X0_size11 : nl_MI := (yX0_size11, cX0_size11, 2, (some .int), { frames := 5, cells := 0, slots := 0, locals := 107 })
set_option maxRecDepth 100000 in
theorem hm_X0_size11 : nl_cal 1 m_X0_size11 0 := ⟨(nl_W_in (i := 905) rfl rfl), (nl_W_in (i := 65) rfl rfl), ⟨by decide +kernel, by decide +kernel, by decide +kernel⟩, ⟨(nl_W_in (i := 904) rfl rfl), (nl_W_in (i := 23) rfl rfl)⟩⟩
def m_X0_size12 : nl_MI := (yX0_size12, cX0_size12, 1, (some .int), { frames := 6, cells := 0, slots := 0, locals := 128 })
set_option maxRecDepth 100000 in
theorem hm_X0_size12 : nl_cal 1 m_X0_size12 0 := ⟨(nl_W_in (i := 933) rfl rfl), (nl_W_in (i := 65) rfl rfl), ⟨by decide +kernel, by decide +kernel, by decide +kernel⟩, ⟨(nl_W_in (i := 932) rfl rfl), (nl_W_in (i := 30) rfl rfl)⟩⟩
def m_X0_size13 : nl_MI := (yX0_size13, cX0_size13, 1, (some .int), { frames := 3, cells := 0, slots := 0, locals := 67 })
set_option maxRecDepth 100000 in
theorem hm_X0_size13 : nl_cal 1 m_X0_size13 0 := ⟨(nl_W_in (i := 937) rfl rfl), (nl_W_in (i := 65) rfl rfl), ⟨by decide +kernel, by decide +kernel, by decide +kernel⟩, ⟨(nl_W_in (i := 936) rfl rfl), (nl_W_in (i := 31) rfl rfl)⟩⟩
def m_X0_size14 : nl_MI := (yX0_size14, cX0_size14, 1, (some .int), { frames := 4, cells := 0, slots := 0, locals := 87 })
set_option maxRecDepth 100000 in
theorem hm_X0_size14 : nl_cal 1 m_X0_size14 0 := ⟨(nl_W_in (i := 941) rfl rfl), (nl_W_in (i := 65) rfl rfl), ⟨by decide +kernel, by decide +kernel, by decide +kernel⟩, ⟨(nl_W_in (i := 940) rfl rfl), (nl_W_in (i := 32) rfl rfl)⟩⟩
def m_X0_size : nl_MI := (yX0_size, cX0_size, 1, (some .int), { frames := 7, cells := 0, slots := 0, locals := 148 })
set_option maxRecDepth 100000 in
theorem hm_X0_size : nl_cal 1 m_X0_size 0 := ⟨(nl_W_in (i := 901) rfl rfl), (nl_W_in (i := 65) rfl rfl), ⟨by decide +kernel, by decide +kernel, by decide +kernel⟩, ⟨(nl_W_in (i := 899) rfl rfl), (nl_W_in (i := 900) rfl rfl)⟩⟩
def m_X0_mark23 : nl_MI := (yX0_mark23, cX0_mark23, 2, (some .int), { frames := 5, cells := 0, slots := 0, locals := 107 })
set_option maxRecDepth 100000 in
theorem hm_X0_mark23 : nl_cal 1 m_X0_mark23 0 := ⟨(nl_W_in (i := 949) rfl rfl), (nl_W_in (i := 65) rfl rfl), ⟨by decide +kernel, by decide +kernel, by decide +kernel⟩, ⟨(nl_W_in (i := 948) rfl rfl), (nl_W_in (i := 33) rfl rfl)⟩⟩
def m_X0_mark : nl_MI := (yX0_mark, cX0_mark, 1, (some .int), { frames := 6, cells := 0, slots := 0, locals := 128 })
set_option maxRecDepth 100000 in
theorem hm_X0_mark : nl_cal 1 m_X0_mark 0 := ⟨(nl_W_in (i := 945) rfl rfl), (nl_W_in (i := 65) rfl rfl), ⟨by decide +kernel, by decide +kernel, by decide +kernel⟩, ⟨(nl_W_in (i := 943) rfl rfl), (nl_W_in (i := 944) rfl rfl)⟩⟩
def m_X9_ask : nl_MI := (yX9_ask, cX9_ask, 3, (some .int), { frames := 8, cells := 0, slots := 0, locals := 168 })
set_option maxRecDepth 100000 in
theorem hm_X9_ask : nl_cal 1 m_X9_ask 2 := ⟨(nl_W_in (i := 893) rfl rfl), (nl_W_in (i := 57) rfl rfl), ⟨by decide +kernel, by decide +kernel, by decide +kernel⟩, ⟨(nl_W_in (i := 891) rfl rfl), (nl_W_in (i := 892) rfl rfl)⟩⟩
def m_X9_trace : nl_MI := (yX9_trace, cX9_trace, 2, (some .int), { frames := 1, cells := 0, slots := 0, locals := 26 })
set_option maxRecDepth 100000 in
theorem hm_X9_trace : nl_cal 1 m_X9_trace 1 := ⟨(nl_W_in (i := 953) rfl rfl), (nl_W_in (i := 57) rfl rfl), ⟨by decide +kernel, by decide +kernel, by decide +kernel⟩, ⟨(nl_W_in (i := 951) rfl rfl), (nl_W_in (i := 952) rfl rfl)⟩⟩
def m_X9_rowsThere : nl_MI := (yX9_rowsThere, cX9_rowsThere, 3, (some .int), { frames := 1, cells := 0, slots := 0, locals := 26 })
set_option maxRecDepth 100000 in
theorem hm_X9_rowsThere : nl_cal 1 m_X9_rowsThere 0 := ⟨(nl_W_in (i := 961) rfl rfl), (nl_W_in (i := 57) rfl rfl), ⟨by decide +kernel, by decide +kernel, by decide +kernel⟩, ⟨(nl_W_in (i := 960) rfl rfl), (nl_W_in (i := 34) rfl rfl)⟩⟩
def m_X1_whoKnows : nl_MI := (yX1_whoKnows, cX1_whoKnows, 4, (some .int), { frames := 2, cells := 0, slots := 0, locals := 48 })
set_option maxRecDepth 100000 in
theorem hm_X1_whoKnows : nl_cal 1 m_X1_whoKnows 1 := ⟨(nl_W_in (i := 965) rfl rfl), (nl_W_in (i := 60) rfl rfl), ⟨by decide +kernel, by decide +kernel, by decide +kernel⟩, ⟨(nl_W_in (i := 963) rfl rfl), (nl_W_in (i := 964) rfl rfl)⟩⟩
def m_X9_count : nl_MI := (yX9_count, cX9_count, 2, (some .int), { frames := 3, cells := 0, slots := 0, locals := 71 })
set_option maxRecDepth 100000 in
theorem hm_X9_count : nl_cal 1 m_X9_count 1 := ⟨(nl_W_in (i := 957) rfl rfl), (nl_W_in (i := 57) rfl rfl), ⟨by decide +kernel, by decide +kernel, by decide +kernel⟩, ⟨(nl_W_in (i := 955) rfl rfl), (nl_W_in (i := 956) rfl rfl)⟩⟩
def m_X9_status : nl_MI := (yX9_status, cX9_status, 1, (some .int), { frames := 1, cells := 0, slots := 0, locals := 26 })
set_option maxRecDepth 100000 in
theorem hm_X9_status : nl_cal 1 m_X9_status 0 := ⟨(nl_W_in (i := 969) rfl rfl), (nl_W_in (i := 57) rfl rfl), ⟨by decide +kernel, by decide +kernel, by decide +kernel⟩, ⟨(nl_W_in (i := 967) rfl rfl), (nl_W_in (i := 968) rfl rfl)⟩⟩
def m_X10_init : nl_MI := (yX10_init, cX10_init, 2, none, { frames := 1, cells := 11, slots := 1866, locals := 26 })
set_option maxRecDepth 100000 in
theorem hm_X10_init : nl_cal 2 m_X10_init 0 := ⟨(nl_W_in (i := 974) rfl rfl), (nl_W_in (i := 67) rfl rfl), ⟨by decide +kernel, by decide +kernel, by decide +kernel⟩, ⟨rfl, (nl_W_in (i := 973) rfl rfl)⟩⟩
def m_X10_in : nl_MI := (yX10_in, cX10_in, 6, (some .boolean), { frames := 1, cells := 0, slots := 0, locals := 26 })
set_option maxRecDepth 100000 in
theorem hm_X10_in : nl_cal 0 m_X10_in 3 := ⟨(nl_W_in (i := 1059) rfl rfl), (nl_W_in (i := 67) rfl rfl), ⟨by decide +kernel, by decide +kernel, by decide +kernel⟩, (nl_W_in (i := 1058) rfl rfl)⟩
def m_X10_found : nl_MI := (yX10_found, cX10_found, 2, (some .int), { frames := 1, cells := 0, slots := 0, locals := 26 })
set_option maxRecDepth 100000 in
theorem hm_X10_found : nl_cal 1 m_X10_found 1 := ⟨(nl_W_in (i := 1065) rfl rfl), (nl_W_in (i := 67) rfl rfl), ⟨by decide +kernel, by decide +kernel, by decide +kernel⟩, ⟨(nl_W_in (i := 1064) rfl rfl), (nl_W_in (i := 35) rfl rfl)⟩⟩
def m_X10_well : nl_MI := (yX10_well, cX10_well, 2, (some .int), { frames := 1, cells := 0, slots := 0, locals := 26 })
set_option maxRecDepth 100000 in
theorem hm_X10_well : nl_cal 1 m_X10_well 1 := ⟨(nl_W_in (i := 1070) rfl rfl), (nl_W_in (i := 67) rfl rfl), ⟨by decide +kernel, by decide +kernel, by decide +kernel⟩, ⟨(nl_W_in (i := 1069) rfl rfl), (nl_W_in (i := 36) rfl rfl)⟩⟩
def m_X10_isRow : nl_MI := (yX10_isRow, cX10_isRow, 1, (some .boolean), { frames := 2, cells := 0, slots := 0, locals := 51 })
set_option maxRecDepth 100000 in
theorem hm_X10_isRow : nl_cal 0 m_X10_isRow 1 := ⟨(nl_W_in (i := 1055) rfl rfl), (nl_W_in (i := 67) rfl rfl), ⟨by decide +kernel, by decide +kernel, by decide +kernel⟩, (nl_W_in (i := 1054) rfl rfl)⟩
def m_X10_row : nl_MI := (yX10_row, cX10_row, 5, (some .int), { frames := 3, cells := 0, slots := 0, locals := 71 })
set_option maxRecDepth 100000 in
theorem hm_X10_row : nl_cal 1 m_X10_row 3 := ⟨(nl_W_in (i := 1052) rfl rfl), (nl_W_in (i := 67) rfl rfl), ⟨by decide +kernel, by decide +kernel, by decide +kernel⟩, ⟨(nl_W_in (i := 1050) rfl rfl), (nl_W_in (i := 1051) rfl rfl)⟩⟩
def m_X10_set : nl_MI := (yX10_set, cX10_set, 4, (some .int), { frames := 3, cells := 0, slots := 0, locals := 71 })
set_option maxRecDepth 100000 in
theorem hm_X10_set : nl_cal 1 m_X10_set 3 := ⟨(nl_W_in (i := 1074) rfl rfl), (nl_W_in (i := 67) rfl rfl), ⟨by decide +kernel, by decide +kernel, by decide +kernel⟩, ⟨(nl_W_in (i := 1072) rfl rfl), (nl_W_in (i := 1073) rfl rfl)⟩⟩
def m_X10_copy : nl_MI := (yX10_copy, cX10_copy, 8, (some .int), { frames := 3, cells := 0, slots := 0, locals := 71 })
set_option maxRecDepth 100000 in
theorem hm_X10_copy : nl_cal 1 m_X10_copy 5 := ⟨(nl_W_in (i := 1078) rfl rfl), (nl_W_in (i := 67) rfl rfl), ⟨by decide +kernel, by decide +kernel, by decide +kernel⟩, ⟨(nl_W_in (i := 1076) rfl rfl), (nl_W_in (i := 1077) rfl rfl)⟩⟩
def m_X10_drop : nl_MI := (yX10_drop, cX10_drop, 3, (some .int), { frames := 3, cells := 0, slots := 0, locals := 71 })
set_option maxRecDepth 100000 in
theorem hm_X10_drop : nl_cal 1 m_X10_drop 1 := ⟨(nl_W_in (i := 1082) rfl rfl), (nl_W_in (i := 67) rfl rfl), ⟨by decide +kernel, by decide +kernel, by decide +kernel⟩, ⟨(nl_W_in (i := 1080) rfl rfl), (nl_W_in (i := 1081) rfl rfl)⟩⟩
def m_X10_feed : nl_MI := (yX10_feed, cX10_feed, 2, (some .int), { frames := 2, cells := 0, slots := 0, locals := 51 })
set_option maxRecDepth 100000 in
theorem hm_X10_feed : nl_cal 1 m_X10_feed 1 := ⟨(nl_W_in (i := 1086) rfl rfl), (nl_W_in (i := 67) rfl rfl), ⟨by decide +kernel, by decide +kernel, by decide +kernel⟩, ⟨(nl_W_in (i := 1084) rfl rfl), (nl_W_in (i := 1085) rfl rfl)⟩⟩
def m_X10_isFigure : nl_MI := (yX10_isFigure, cX10_isFigure, 1, (some .boolean), { frames := 2, cells := 0, slots := 0, locals := 51 })
set_option maxRecDepth 100000 in
theorem hm_X10_isFigure : nl_cal 0 m_X10_isFigure 1 := ⟨(nl_W_in (i := 1113) rfl rfl), (nl_W_in (i := 67) rfl rfl), ⟨by decide +kernel, by decide +kernel, by decide +kernel⟩, (nl_W_in (i := 1112) rfl rfl)⟩
def m_X10_next : nl_MI := (yX10_next, cX10_next, 2, none, { frames := 3, cells := 0, slots := 0, locals := 71 })
set_option maxRecDepth 100000 in
theorem hm_X10_next : nl_cal 1 m_X10_next 0 := ⟨(nl_W_in (i := 1108) rfl rfl), (nl_W_in (i := 67) rfl rfl), ⟨by decide +kernel, by decide +kernel, by decide +kernel⟩, ⟨(nl_W_in (i := 1107) rfl rfl), (nl_W_in (i := 40) rfl rfl)⟩⟩
def m_X10_fails : nl_MI := (yX10_fails, cX10_fails, 2, (some .boolean), { frames := 1, cells := 0, slots := 0, locals := 26 })
set_option maxRecDepth 100000 in
theorem hm_X10_fails : nl_cal 1 m_X10_fails 1 := ⟨(nl_W_in (i := 1119) rfl rfl), (nl_W_in (i := 67) rfl rfl), ⟨by decide +kernel, by decide +kernel, by decide +kernel⟩, ⟨(nl_W_in (i := 1118) rfl rfl), (nl_W_in (i := 41) rfl rfl)⟩⟩
def m_X10_number : nl_MI := (yX10_number, cX10_number, 4, (some .boolean), { frames := 4, cells := 0, slots := 0, locals := 92 })
set_option maxRecDepth 100000 in
theorem hm_X10_number : nl_cal 1 m_X10_number 3 := ⟨(nl_W_in (i := 1123) rfl rfl), (nl_W_in (i := 67) rfl rfl), ⟨by decide +kernel, by decide +kernel, by decide +kernel⟩, ⟨(nl_W_in (i := 1122) rfl rfl), (nl_W_in (i := 42) rfl rfl)⟩⟩
def m_X10_sign : nl_MI := (yX10_sign, cX10_sign, 2, (some .boolean), { frames := 4, cells := 0, slots := 0, locals := 92 })
set_option maxRecDepth 100000 in
theorem hm_X10_sign : nl_cal 1 m_X10_sign 1 := ⟨(nl_W_in (i := 1127) rfl rfl), (nl_W_in (i := 67) rfl rfl), ⟨by decide +kernel, by decide +kernel, by decide +kernel⟩, ⟨(nl_W_in (i := 1126) rfl rfl), (nl_W_in (i := 43) rfl rfl)⟩⟩
def m_X10_letter : nl_MI := (yX10_letter, cX10_letter, 2, (some .boolean), { frames := 4, cells := 0, slots := 0, locals := 92 })
set_option maxRecDepth 100000 in
theorem hm_X10_letter : nl_cal 1 m_X10_letter 1 := ⟨(nl_W_in (i := 1104) rfl rfl), (nl_W_in (i := 67) rfl rfl), ⟨by decide +kernel, by decide +kernel, by decide +kernel⟩, ⟨(nl_W_in (i := 1103) rfl rfl), (nl_W_in (i := 39) rfl rfl)⟩⟩
def m_X10_readsLaw : nl_MI := (yX10_readsLaw, cX10_readsLaw, 2, (some .boolean), { frames := 5, cells := 0, slots := 0, locals := 115 })
set_option maxRecDepth 100000 in
theorem hm_X10_readsLaw : nl_cal 1 m_X10_readsLaw 0 := ⟨(nl_W_in (i := 1100) rfl rfl), (nl_W_in (i := 67) rfl rfl), ⟨by decide +kernel, by decide +kernel, by decide +kernel⟩, ⟨(nl_W_in (i := 1099) rfl rfl), (nl_W_in (i := 38) rfl rfl)⟩⟩
def m_X10_readsColours : nl_MI := (yX10_readsColours, cX10_readsColours, 3, (some .boolean), { frames := 5, cells := 0, slots := 0, locals := 115 })
set_option maxRecDepth 100000 in
theorem hm_X10_readsColours : nl_cal 1 m_X10_readsColours 0 := ⟨(nl_W_in (i := 1131) rfl rfl), (nl_W_in (i := 67) rfl rfl), ⟨by decide +kernel, by decide +kernel, by decide +kernel⟩, ⟨(nl_W_in (i := 1130) rfl rfl), (nl_W_in (i := 44) rfl rfl)⟩⟩
def m_X10_sortOf : nl_MI := (yX10_sortOf, cX10_sortOf, 1, (some .int), { frames := 1, cells := 0, slots := 0, locals := 26 })
set_option maxRecDepth 100000 in
theorem hm_X10_sortOf : nl_cal 0 m_X10_sortOf 1 := ⟨(nl_W_in (i := 1138) rfl rfl), (nl_W_in (i := 67) rfl rfl), ⟨by decide +kernel, by decide +kernel, by decide +kernel⟩, (nl_W_in (i := 1137) rfl rfl)⟩
def m_X10_readsSuitor : nl_MI := (yX10_readsSuitor, cX10_readsSuitor, 3, (some .boolean), { frames := 5, cells := 0, slots := 0, locals := 115 })
set_option maxRecDepth 100000 in
theorem hm_X10_readsSuitor : nl_cal 1 m_X10_readsSuitor 0 := ⟨(nl_W_in (i := 1135) rfl rfl), (nl_W_in (i := 67) rfl rfl), ⟨by decide +kernel, by decide +kernel, by decide +kernel⟩, ⟨(nl_W_in (i := 1134) rfl rfl), (nl_W_in (i := 45) rfl rfl)⟩⟩
def m_X10_reads : nl_MI := (yX10_reads, cX10_reads, 2, (some .boolean), { frames := 6, cells := 0, slots := 0, locals := 137 })
set_option maxRecDepth 100000 in
theorem hm_X10_reads : nl_cal 1 m_X10_reads 0 := ⟨(nl_W_in (i := 1096) rfl rfl), (nl_W_in (i := 67) rfl rfl), ⟨by decide +kernel, by decide +kernel, by decide +kernel⟩, ⟨(nl_W_in (i := 1095) rfl rfl), (nl_W_in (i := 37) rfl rfl)⟩⟩
def m_X10_copies : nl_MI := (yX10_copies, cX10_copies, 5, none, { frames := 1, cells := 0, slots := 0, locals := 26 })
set_option maxRecDepth 100000 in
theorem hm_X10_copies : nl_cal 0 m_X10_copies 4 := ⟨(nl_W_in (i := 1142) rfl rfl), (nl_W_in (i := 67) rfl rfl), ⟨by decide +kernel, by decide +kernel, by decide +kernel⟩, (nl_W_in (i := 1141) rfl rfl)⟩
def m_X10_loom : nl_MI := (yX10_loom, cX10_loom, 1, (some .int), { frames := 7, cells := 0, slots := 0, locals := 158 })
set_option maxRecDepth 100000 in
theorem hm_X10_loom : nl_cal 1 m_X10_loom 0 := ⟨(nl_W_in (i := 1092) rfl rfl), (nl_W_in (i := 67) rfl rfl), ⟨by decide +kernel, by decide +kernel, by decide +kernel⟩, ⟨(nl_W_in (i := 1090) rfl rfl), (nl_W_in (i := 1091) rfl rfl)⟩⟩
def m_X10_fault : nl_MI := (yX10_fault, cX10_fault, 1, (some .int), { frames := 1, cells := 0, slots := 0, locals := 26 })
set_option maxRecDepth 100000 in
theorem hm_X10_fault : nl_cal 1 m_X10_fault 0 := ⟨(nl_W_in (i := 1146) rfl rfl), (nl_W_in (i := 67) rfl rfl), ⟨by decide +kernel, by decide +kernel, by decide +kernel⟩, ⟨(nl_W_in (i := 1144) rfl rfl), (nl_W_in (i := 1145) rfl rfl)⟩⟩
def m_X10_isSuitor : nl_MI := (yX10_isSuitor, cX10_isSuitor, 2, (some .boolean), { frames := 2, cells := 0, slots := 0, locals := 51 })
set_option maxRecDepth 100000 in
theorem hm_X10_isSuitor : nl_cal 1 m_X10_isSuitor 1 := ⟨(nl_W_in (i := 1211) rfl rfl), (nl_W_in (i := 67) rfl rfl), ⟨by decide +kernel, by decide +kernel, by decide +kernel⟩, ⟨(nl_W_in (i := 1210) rfl rfl), (nl_W_in (i := 47) rfl rfl)⟩⟩
def m_X10_isTwo : nl_MI := (yX10_isTwo, cX10_isTwo, 1, (some .boolean), { frames := 2, cells := 0, slots := 0, locals := 51 })
set_option maxRecDepth 100000 in
theorem hm_X10_isTwo : nl_cal 0 m_X10_isTwo 1 := ⟨(nl_W_in (i := 1251) rfl rfl), (nl_W_in (i := 67) rfl rfl), ⟨by decide +kernel, by decide +kernel, by decide +kernel⟩, (nl_W_in (i := 1250) rfl rfl)⟩
def m_X10_colourAt : nl_MI := (yX10_colourAt, cX10_colourAt, 2, (some .int), { frames := 1, cells := 0, slots := 0, locals := 26 })
set_option maxRecDepth 100000 in
theorem hm_X10_colourAt : nl_cal 0 m_X10_colourAt 2 := ⟨(nl_W_in (i := 1177) rfl rfl), (nl_W_in (i := 67) rfl rfl), ⟨by decide +kernel, by decide +kernel, by decide +kernel⟩, (nl_W_in (i := 1176) rfl rfl)⟩
def m_X10_yarn : nl_MI := (yX10_yarn, cX10_yarn, 1, (some .int), { frames := 1, cells := 0, slots := 0, locals := 26 })
set_option maxRecDepth 100000 in
theorem hm_X10_yarn : nl_cal 0 m_X10_yarn 1 := ⟨(nl_W_in (i := 1158) rfl rfl), (nl_W_in (i := 67) rfl rfl), ⟨by decide +kernel, by decide +kernel, by decide +kernel⟩, (nl_W_in (i := 1157) rfl rfl)⟩
def m_X10_wants : nl_MI := (yX10_wants, cX10_wants, 5, (some .int), { frames := 1, cells := 0, slots := 0, locals := 26 })
set_option maxRecDepth 100000 in
theorem hm_X10_wants : nl_cal 0 m_X10_wants 2 := ⟨(nl_W_in (i := 1155) rfl rfl), (nl_W_in (i := 67) rfl rfl), ⟨by decide +kernel, by decide +kernel, by decide +kernel⟩, (nl_W_in (i := 1154) rfl rfl)⟩
def m_X10_weaves : nl_MI := (yX10_weaves, cX10_weaves, 4, none, { frames := 1, cells := 0, slots := 0, locals := 26 })
set_option maxRecDepth 100000 in
theorem hm_X10_weaves : nl_cal 0 m_X10_weaves 2 := ⟨(nl_W_in (i := 1165) rfl rfl), (nl_W_in (i := 67) rfl rfl), ⟨by decide +kernel, by decide +kernel, by decide +kernel⟩, (nl_W_in (i := 1164) rfl rfl)⟩
def m_X10_comes : nl_MI := (yX10_comes, cX10_comes, 2, (some .boolean), { frames := 1, cells := 0, slots := 0, locals := 26 })
set_option maxRecDepth 100000 in
theorem hm_X10_comes : nl_cal 0 m_X10_comes 2 := ⟨(nl_W_in (i := 1171) rfl rfl), (nl_W_in (i := 67) rfl rfl), ⟨by decide +kernel, by decide +kernel, by decide +kernel⟩, (nl_W_in (i := 1170) rfl rfl)⟩
def m_X10_looksSame : nl_MI := (yX10_looksSame, cX10_looksSame, 3, (some .boolean), { frames := 2, cells := 0, slots := 0, locals := 47 })
set_option maxRecDepth 100000 in
theorem hm_X10_looksSame : nl_cal 0 m_X10_looksSame 2 := ⟨(nl_W_in (i := 1174) rfl rfl), (nl_W_in (i := 67) rfl rfl), ⟨by decide +kernel, by decide +kernel, by decide +kernel⟩, (nl_W_in (i := 1173) rfl rfl)⟩
def m_X10_looks : nl_MI := (yX10_looks, cX10_looks, 5, none, { frames := 3, cells := 0, slots := 0, locals := 69 })
set_option maxRecDepth 100000 in
theorem hm_X10_looks : nl_cal 0 m_X10_looks 1 := ⟨(nl_W_in (i := 1168) rfl rfl), (nl_W_in (i := 67) rfl rfl), ⟨by decide +kernel, by decide +kernel, by decide +kernel⟩, (nl_W_in (i := 1167) rfl rfl)⟩
def m_X10_feasts : nl_MI := (yX10_feasts, cX10_feasts, 2, (some .boolean), { frames := 1, cells := 0, slots := 0, locals := 26 })
set_option maxRecDepth 100000 in
theorem hm_X10_feasts : nl_cal 0 m_X10_feasts 1 := ⟨(nl_W_in (i := 1180) rfl rfl), (nl_W_in (i := 67) rfl rfl), ⟨by decide +kernel, by decide +kernel, by decide +kernel⟩, (nl_W_in (i := 1179) rfl rfl)⟩
def m_X10_isMoon : nl_MI := (yX10_isMoon, cX10_isMoon, 1, (some .boolean), { frames := 1, cells := 0, slots := 0, locals := 26 })
set_option maxRecDepth 100000 in
theorem hm_X10_isMoon : nl_cal 0 m_X10_isMoon 1 := ⟨(nl_W_in (i := 1188) rfl rfl), (nl_W_in (i := 67) rfl rfl), ⟨by decide +kernel, by decide +kernel, by decide +kernel⟩, (nl_W_in (i := 1187) rfl rfl)⟩
def m_X10_undoes : nl_MI := (yX10_undoes, cX10_undoes, 4, none, { frames := 2, cells := 0, slots := 0, locals := 47 })
set_option maxRecDepth 100000 in
theorem hm_X10_undoes : nl_cal 0 m_X10_undoes 2 := ⟨(nl_W_in (i := 1191) rfl rfl), (nl_W_in (i := 67) rfl rfl), ⟨by decide +kernel, by decide +kernel, by decide +kernel⟩, (nl_W_in (i := 1190) rfl rfl)⟩
def m_X10_knows : nl_MI := (yX10_knows, cX10_knows, 2, (some .boolean), { frames := 1, cells := 0, slots := 0, locals := 26 })
set_option maxRecDepth 100000 in
theorem hm_X10_knows : nl_cal 0 m_X10_knows 2 := ⟨(nl_W_in (i := 1215) rfl rfl), (nl_W_in (i := 67) rfl rfl), ⟨by decide +kernel, by decide +kernel, by decide +kernel⟩, (nl_W_in (i := 1214) rfl rfl)⟩
def m_X10_remember : nl_MI := (yX10_remember, cX10_remember, 2, none, { frames := 2, cells := 0, slots := 0, locals := 50 })
set_option maxRecDepth 100000 in
theorem hm_X10_remember : nl_cal 1 m_X10_remember 0 := ⟨(nl_W_in (i := 1162) rfl rfl), (nl_W_in (i := 67) rfl rfl), ⟨by decide +kernel, by decide +kernel, by decide +kernel⟩, ⟨(nl_W_in (i := 1161) rfl rfl), (nl_W_in (i := 46) rfl rfl)⟩⟩
def m_X10_weave : nl_MI := (yX10_weave, cX10_weave, 3, (some .int), { frames := 4, cells := 0, slots := 0, locals := 93 })
set_option maxRecDepth 100000 in
theorem hm_X10_weave : nl_cal 1 m_X10_weave 1 := ⟨(nl_W_in (i := 1150) rfl rfl), (nl_W_in (i := 67) rfl rfl), ⟨by decide +kernel, by decide +kernel, by decide +kernel⟩, ⟨(nl_W_in (i := 1148) rfl rfl), (nl_W_in (i := 1149) rfl rfl)⟩⟩
def m_X10_unpick : nl_MI := (yX10_unpick, cX10_unpick, 2, (some .int), { frames := 3, cells := 0, slots := 0, locals := 71 })
set_option maxRecDepth 100000 in
theorem hm_X10_unpick : nl_cal 1 m_X10_unpick 1 := ⟨(nl_W_in (i := 1184) rfl rfl), (nl_W_in (i := 67) rfl rfl), ⟨by decide +kernel, by decide +kernel, by decide +kernel⟩, ⟨(nl_W_in (i := 1182) rfl rfl), (nl_W_in (i := 1183) rfl rfl)⟩⟩
def m_X10_undo : nl_MI := (yX10_undo, cX10_undo, 1, (some .int), { frames := 2, cells := 0, slots := 0, locals := 50 })
set_option maxRecDepth 100000 in
theorem hm_X10_undo : nl_cal 1 m_X10_undo 0 := ⟨(nl_W_in (i := 1195) rfl rfl), (nl_W_in (i := 67) rfl rfl), ⟨by decide +kernel, by decide +kernel, by decide +kernel⟩, ⟨(nl_W_in (i := 1193) rfl rfl), (nl_W_in (i := 1194) rfl rfl)⟩⟩
def m_X10_cloth : nl_MI := (yX10_cloth, cX10_cloth, 2, (some .int), { frames := 2, cells := 0, slots := 0, locals := 46 })
set_option maxRecDepth 100000 in
theorem hm_X10_cloth : nl_cal 1 m_X10_cloth 1 := ⟨(nl_W_in (i := 1199) rfl rfl), (nl_W_in (i := 67) rfl rfl), ⟨by decide +kernel, by decide +kernel, by decide +kernel⟩, ⟨(nl_W_in (i := 1197) rfl rfl), (nl_W_in (i := 1198) rfl rfl)⟩⟩
def m_X10_colour : nl_MI := (yX10_colour, cX10_colour, 2, (some .int), { frames := 2, cells := 0, slots := 0, locals := 51 })
set_option maxRecDepth 100000 in
theorem hm_X10_colour : nl_cal 1 m_X10_colour 1 := ⟨(nl_W_in (i := 1203) rfl rfl), (nl_W_in (i := 67) rfl rfl), ⟨by decide +kernel, by decide +kernel, by decide +kernel⟩, ⟨(nl_W_in (i := 1201) rfl rfl), (nl_W_in (i := 1202) rfl rfl)⟩⟩
def m_X10_suitor : nl_MI := (yX10_suitor, cX10_suitor, 4, (some .int), { frames := 3, cells := 0, slots := 0, locals := 72 })
set_option maxRecDepth 100000 in
theorem hm_X10_suitor : nl_cal 1 m_X10_suitor 2 := ⟨(nl_W_in (i := 1207) rfl rfl), (nl_W_in (i := 67) rfl rfl), ⟨by decide +kernel, by decide +kernel, by decide +kernel⟩, ⟨(nl_W_in (i := 1205) rfl rfl), (nl_W_in (i := 1206) rfl rfl)⟩⟩
def m_X10_lesser : nl_MI := (yX10_lesser, cX10_lesser, 2, (some .int), { frames := 1, cells := 0, slots := 0, locals := 26 })
set_option maxRecDepth 100000 in
theorem hm_X10_lesser : nl_cal 0 m_X10_lesser 2 := ⟨(nl_W_in (i := 1230) rfl rfl), (nl_W_in (i := 67) rfl rfl), ⟨by decide +kernel, by decide +kernel, by decide +kernel⟩, (nl_W_in (i := 1229) rfl rfl)⟩
def m_X10_wovenBy : nl_MI := (yX10_wovenBy, cX10_wovenBy, 2, (some .int), { frames := 2, cells := 0, slots := 0, locals := 47 })
set_option maxRecDepth 100000 in
theorem hm_X10_wovenBy : nl_cal 0 m_X10_wovenBy 2 := ⟨(nl_W_in (i := 1240) rfl rfl), (nl_W_in (i := 67) rfl rfl), ⟨by decide +kernel, by decide +kernel, by decide +kernel⟩, (nl_W_in (i := 1239) rfl rfl)⟩
def m_X10_undoneBy : nl_MI := (yX10_undoneBy, cX10_undoneBy, 2, (some .int), { frames := 2, cells := 0, slots := 0, locals := 47 })
set_option maxRecDepth 100000 in
theorem hm_X10_undoneBy : nl_cal 0 m_X10_undoneBy 2 := ⟨(nl_W_in (i := 1227) rfl rfl), (nl_W_in (i := 67) rfl rfl), ⟨by decide +kernel, by decide +kernel, by decide +kernel⟩, (nl_W_in (i := 1226) rfl rfl)⟩
def m_X10_whoKnows : nl_MI := (yX10_whoKnows, cX10_whoKnows, 2, (some .int), { frames := 2, cells := 0, slots := 0, locals := 47 })
set_option maxRecDepth 100000 in
theorem hm_X10_whoKnows : nl_cal 0 m_X10_whoKnows 1 := ⟨(nl_W_in (i := 1233) rfl rfl), (nl_W_in (i := 67) rfl rfl), ⟨by decide +kernel, by decide +kernel, by decide +kernel⟩, (nl_W_in (i := 1232) rfl rfl)⟩
def m_X10_dayGoes : nl_MI := (yX10_dayGoes, cX10_dayGoes, 4, (some .int), { frames := 4, cells := 0, slots := 0, locals := 93 })
set_option maxRecDepth 100000 in
theorem hm_X10_dayGoes : nl_cal 1 m_X10_dayGoes 2 := ⟨(nl_W_in (i := 1237) rfl rfl), (nl_W_in (i := 67) rfl rfl), ⟨by decide +kernel, by decide +kernel, by decide +kernel⟩, ⟨(nl_W_in (i := 1236) rfl rfl), (nl_W_in (i := 49) rfl rfl)⟩⟩
def m_X10_habit : nl_MI := (yX10_habit, cX10_habit, 3, none, { frames := 5, cells := 0, slots := 0, locals := 116 })
set_option maxRecDepth 100000 in
theorem hm_X10_habit : nl_cal 1 m_X10_habit 2 := ⟨(nl_W_in (i := 1224) rfl rfl), (nl_W_in (i := 67) rfl rfl), ⟨by decide +kernel, by decide +kernel, by decide +kernel⟩, ⟨(nl_W_in (i := 1223) rfl rfl), (nl_W_in (i := 48) rfl rfl)⟩⟩
def m_X10_holds : nl_MI := (yX10_holds, cX10_holds, 4, (some .int), { frames := 6, cells := 0, slots := 0, locals := 138 })
set_option maxRecDepth 100000 in
theorem hm_X10_holds : nl_cal 1 m_X10_holds 3 := ⟨(nl_W_in (i := 1220) rfl rfl), (nl_W_in (i := 67) rfl rfl), ⟨by decide +kernel, by decide +kernel, by decide +kernel⟩, ⟨(nl_W_in (i := 1218) rfl rfl), (nl_W_in (i := 1219) rfl rfl)⟩⟩
def m_X10_longest : nl_MI := (yX10_longest, cX10_longest, 5, (some .int), { frames := 6, cells := 0, slots := 0, locals := 138 })
set_option maxRecDepth 100000 in
theorem hm_X10_longest : nl_cal 1 m_X10_longest 1 := ⟨(nl_W_in (i := 1244) rfl rfl), (nl_W_in (i := 67) rfl rfl), ⟨by decide +kernel, by decide +kernel, by decide +kernel⟩, ⟨(nl_W_in (i := 1242) rfl rfl), (nl_W_in (i := 1243) rfl rfl)⟩⟩
def m_X10_knowsBy : nl_MI := (yX10_knowsBy, cX10_knowsBy, 7, (some .int), { frames := 4, cells := 0, slots := 0, locals := 93 })
set_option maxRecDepth 100000 in
theorem hm_X10_knowsBy : nl_cal 1 m_X10_knowsBy 4 := ⟨(nl_W_in (i := 1255) rfl rfl), (nl_W_in (i := 67) rfl rfl), ⟨by decide +kernel, by decide +kernel, by decide +kernel⟩, ⟨(nl_W_in (i := 1254) rfl rfl), (nl_W_in (i := 50) rfl rfl)⟩⟩
def m_X10_soonest : nl_MI := (yX10_soonest, cX10_soonest, 9, (some .int), { frames := 5, cells := 0, slots := 0, locals := 119 })
set_option maxRecDepth 100000 in
theorem hm_X10_soonest : nl_cal 1 m_X10_soonest 4 := ⟨(nl_W_in (i := 1248) rfl rfl), (nl_W_in (i := 67) rfl rfl), ⟨by decide +kernel, by decide +kernel, by decide +kernel⟩, ⟨(nl_W_in (i := 1246) rfl rfl), (nl_W_in (i := 1247) rfl rfl)⟩⟩
def m_X10_alike : nl_MI := (yX10_alike, cX10_alike, 4, (some .int), { frames := 2, cells := 0, slots := 0, locals := 47 })
set_option maxRecDepth 100000 in
theorem hm_X10_alike : nl_cal 1 m_X10_alike 2 := ⟨(nl_W_in (i := 1263) rfl rfl), (nl_W_in (i := 67) rfl rfl), ⟨by decide +kernel, by decide +kernel, by decide +kernel⟩, ⟨(nl_W_in (i := 1262) rfl rfl), (nl_W_in (i := 51) rfl rfl)⟩⟩
def m_X10_twice : nl_MI := (yX10_twice, cX10_twice, 7, (some .int), { frames := 3, cells := 0, slots := 0, locals := 70 })
set_option maxRecDepth 100000 in
theorem hm_X10_twice : nl_cal 1 m_X10_twice 1 := ⟨(nl_W_in (i := 1259) rfl rfl), (nl_W_in (i := 67) rfl rfl), ⟨by decide +kernel, by decide +kernel, by decide +kernel⟩, ⟨(nl_W_in (i := 1257) rfl rfl), (nl_W_in (i := 1258) rfl rfl)⟩⟩
def m_X10_looks_ : nl_MI := (yX10_looks_, cX10_looks_, 6, (some .int), { frames := 2, cells := 0, slots := 0, locals := 47 })
set_option maxRecDepth 100000 in
theorem hm_X10_looks_ : nl_cal 1 m_X10_looks_ 1 := ⟨(nl_W_in (i := 1267) rfl rfl), (nl_W_in (i := 67) rfl rfl), ⟨by decide +kernel, by decide +kernel, by decide +kernel⟩, ⟨(nl_W_in (i := 1265) rfl rfl), (nl_W_in (i := 1266) rfl rfl)⟩⟩
def m_X10_waysOf : nl_MI := (yX10_waysOf, cX10_waysOf, 10, (some .int), { frames := 2, cells := 0, slots := 0, locals := 51 })
set_option maxRecDepth 100000 in
theorem hm_X10_waysOf : nl_cal 1 m_X10_waysOf 4 := ⟨(nl_W_in (i := 1276) rfl rfl), (nl_W_in (i := 67) rfl rfl), ⟨by decide +kernel, by decide +kernel, by decide +kernel⟩, ⟨(nl_W_in (i := 1275) rfl rfl), (nl_W_in (i := 52) rfl rfl)⟩⟩
def m_X10_seen : nl_MI := (yX10_seen, cX10_seen, 13, (some .int), { frames := 3, cells := 0, slots := 0, locals := 80 })
set_option maxRecDepth 100000 in
theorem hm_X10_seen : nl_cal 1 m_X10_seen 4 := ⟨(nl_W_in (i := 1271) rfl rfl), (nl_W_in (i := 67) rfl rfl), ⟨by decide +kernel, by decide +kernel, by decide +kernel⟩, ⟨(nl_W_in (i := 1269) rfl rfl), (nl_W_in (i := 1270) rfl rfl)⟩⟩
def m_X10_image : nl_MI := (yX10_image, cX10_image, 2, (some .int), { frames := 3, cells := 0, slots := 0, locals := 71 })
set_option maxRecDepth 100000 in
theorem hm_X10_image : nl_cal 1 m_X10_image 1 := ⟨(nl_W_in (i := 1280) rfl rfl), (nl_W_in (i := 67) rfl rfl), ⟨by decide +kernel, by decide +kernel, by decide +kernel⟩, ⟨(nl_W_in (i := 1278) rfl rfl), (nl_W_in (i := 1279) rfl rfl)⟩⟩
def m_X10_restore : nl_MI := (yX10_restore, cX10_restore, 2, (some .int), { frames := 3, cells := 0, slots := 0, locals := 71 })
set_option maxRecDepth 100000 in
theorem hm_X10_restore : nl_cal 1 m_X10_restore 1 := ⟨(nl_W_in (i := 1284) rfl rfl), (nl_W_in (i := 67) rfl rfl), ⟨by decide +kernel, by decide +kernel, by decide +kernel⟩, ⟨(nl_W_in (i := 1282) rfl rfl), (nl_W_in (i := 1283) rfl rfl)⟩⟩
def m_X10_kind : nl_MI := (yX10_kind, cX10_kind, 2, (some .int), { frames := 3, cells := 0, slots := 0, locals := 72 })
set_option maxRecDepth 100000 in
theorem hm_X10_kind : nl_cal 1 m_X10_kind 1 := ⟨(nl_W_in (i := 1288) rfl rfl), (nl_W_in (i := 67) rfl rfl), ⟨by decide +kernel, by decide +kernel, by decide +kernel⟩, ⟨(nl_W_in (i := 1286) rfl rfl), (nl_W_in (i := 1287) rfl rfl)⟩⟩
def m_X10_isOf : nl_MI := (yX10_isOf, cX10_isOf, 2, (some .boolean), { frames := 1, cells := 0, slots := 0, locals := 26 })
set_option maxRecDepth 100000 in
theorem hm_X10_isOf : nl_cal 0 m_X10_isOf 2 := ⟨(nl_W_in (i := 1296) rfl rfl), (nl_W_in (i := 67) rfl rfl), ⟨by decide +kernel, by decide +kernel, by decide +kernel⟩, (nl_W_in (i := 1295) rfl rfl)⟩
def m_X10_as : nl_MI := (yX10_as, cX10_as, 3, (some .int), { frames := 3, cells := 0, slots := 0, locals := 72 })
set_option maxRecDepth 100000 in
theorem hm_X10_as : nl_cal 1 m_X10_as 2 := ⟨(nl_W_in (i := 1292) rfl rfl), (nl_W_in (i := 67) rfl rfl), ⟨by decide +kernel, by decide +kernel, by decide +kernel⟩, ⟨(nl_W_in (i := 1290) rfl rfl), (nl_W_in (i := 1291) rfl rfl)⟩⟩
def m_X10_leave : nl_MI := (yX10_leave, cX10_leave, 7, none, { frames := 1, cells := 0, slots := 0, locals := 26 })
set_option maxRecDepth 100000 in
theorem hm_X10_leave : nl_cal 1 m_X10_leave 1 := ⟨(nl_W_in (i := 1311) rfl rfl), (nl_W_in (i := 67) rfl rfl), ⟨by decide +kernel, by decide +kernel, by decide +kernel⟩, ⟨(nl_W_in (i := 1310) rfl rfl), (nl_W_in (i := 54) rfl rfl)⟩⟩
def m_X10_mark : nl_MI := (yX10_mark, cX10_mark, 4, (some .int), { frames := 2, cells := 0, slots := 0, locals := 52 })
set_option maxRecDepth 100000 in
theorem hm_X10_mark : nl_cal 1 m_X10_mark 1 := ⟨(nl_W_in (i := 1304) rfl rfl), (nl_W_in (i := 67) rfl rfl), ⟨by decide +kernel, by decide +kernel, by decide +kernel⟩, ⟨(nl_W_in (i := 1303) rfl rfl), (nl_W_in (i := 53) rfl rfl)⟩⟩
def m_X10_sizeOf : nl_MI := (yX10_sizeOf, cX10_sizeOf, 4, (some .int), { frames := 2, cells := 0, slots := 0, locals := 52 })
set_option maxRecDepth 100000 in
theorem hm_X10_sizeOf : nl_cal 1 m_X10_sizeOf 1 := ⟨(nl_W_in (i := 1318) rfl rfl), (nl_W_in (i := 67) rfl rfl), ⟨by decide +kernel, by decide +kernel, by decide +kernel⟩, ⟨(nl_W_in (i := 1317) rfl rfl), (nl_W_in (i := 55) rfl rfl)⟩⟩
def m_X10_ask : nl_MI := (yX10_ask, cX10_ask, 5, (some .int), { frames := 3, cells := 0, slots := 0, locals := 75 })
set_option maxRecDepth 100000 in
theorem hm_X10_ask : nl_cal 1 m_X10_ask 2 := ⟨(nl_W_in (i := 1300) rfl rfl), (nl_W_in (i := 67) rfl rfl), ⟨by decide +kernel, by decide +kernel, by decide +kernel⟩, ⟨(nl_W_in (i := 1298) rfl rfl), (nl_W_in (i := 1299) rfl rfl)⟩⟩
def m_X10_trace : nl_MI := (yX10_trace, cX10_trace, 2, (some .int), { frames := 2, cells := 0, slots := 0, locals := 51 })
set_option maxRecDepth 100000 in
theorem hm_X10_trace : nl_cal 1 m_X10_trace 1 := ⟨(nl_W_in (i := 1325) rfl rfl), (nl_W_in (i := 67) rfl rfl), ⟨by decide +kernel, by decide +kernel, by decide +kernel⟩, ⟨(nl_W_in (i := 1323) rfl rfl), (nl_W_in (i := 1324) rfl rfl)⟩⟩
def m_X10_count : nl_MI := (yX10_count, cX10_count, 5, (some .int), { frames := 2, cells := 0, slots := 0, locals := 47 })
set_option maxRecDepth 100000 in
theorem hm_X10_count : nl_cal 1 m_X10_count 1 := ⟨(nl_W_in (i := 1329) rfl rfl), (nl_W_in (i := 67) rfl rfl), ⟨by decide +kernel, by decide +kernel, by decide +kernel⟩, ⟨(nl_W_in (i := 1327) rfl rfl), (nl_W_in (i := 1328) rfl rfl)⟩⟩
def m_X10_status : nl_MI := (yX10_status, cX10_status, 1, (some .int), { frames := 1, cells := 0, slots := 0, locals := 26 })
set_option maxRecDepth 100000 in
theorem hm_X10_status : nl_cal 1 m_X10_status 0 := ⟨(nl_W_in (i := 1333) rfl rfl), (nl_W_in (i := 67) rfl rfl), ⟨by decide +kernel, by decide +kernel, by decide +kernel⟩, ⟨(nl_W_in (i := 1331) rfl rfl), (nl_W_in (i := 1332) rfl rfl)⟩⟩

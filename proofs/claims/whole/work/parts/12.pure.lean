/-! PART 12: small pure words -/
def nb (p : Prop) [Decidable p] : Int32 := if p then 1 else 0
theorem nb_0 {p : Prop} [Decidable p] : (nb p = 0) = ¬ p := by
  unfold nb; by_cases h : p <;> simp [h]
theorem nb_1 {p : Prop} [Decidable p] : (nb p = 1) = p := by
  unfold nb; by_cases h : p <;> simp [h]
theorem nb_t {p : Prop} [Decidable p] (h : p) : nb p = 1 := if_pos h
theorem nb_f {p : Prop} [Decidable p] (h : ¬ p) : nb p = 0 := if_neg h
theorem nb_01 {p : Prop} [Decidable p] : nb p = 0 ∨ nb p = 1 := by
  unfold nb; by_cases h : p <;> simp [h]
theorem nb_ok {p : Prop} [Decidable p] : nl_rok (some .boolean) (some (.int (nb p))) = True := eq_true nb_01
theorem rok_int {x : Int32} : nl_rok (some .int) (some (.int x)) = True := rfl
theorem rok_void : nl_rok none none = True := rfl
theorem rok_0 : nl_rok (some .boolean) (some (.int 0)) = True := eq_true (Or.inl rfl)
theorem rok_1 : nl_rok (some .boolean) (some (.int 1)) = True := eq_true (Or.inr rfl)
theorem nl_hs_1 {w : nl_HW} {a : Nat} {c : va_E} : (nl_hs w a c).1 a = c := by simp [nl_hs, va_up]
theorem nl_hs_n {w : nl_HW} {a b : Nat} {c : va_E} (h : b ≠ a) : (nl_hs w a c).1 b = w.1 b := by simp [nl_hs, va_up, h]
theorem nl_hs_2 {w : nl_HW} {a : Nat} {c : va_E} : (nl_hs w a c).2 = w.2 := rfl
theorem nl_hs_hs {w : nl_HW} {a : Nat} {c d : va_E} : nl_hs (nl_hs w a c) a d = nl_hs w a d := by
  simp only [nl_hs]
  congr 1
  funext k
  by_cases h : k = a <;> simp [va_up, h]
theorem i64_le {x y : Int32} : (x.toInt64 ≤ y.toInt64) = (x ≤ y) := by
  rw [Int64.le_iff_toInt_le, Int32.le_iff_toInt_le, Int32.toInt_toInt64, Int32.toInt_toInt64]
theorem i64_l0 {x : Int32} : ((0 : Int64) ≤ x.toInt64) = ((0 : Int32) ≤ x) := i64_le (x := 0)
theorem i64_r0 {x : Int32} : (x.toInt64 ≤ (0 : Int64)) = (x ≤ (0 : Int32)) := i64_le (y := 0)
theorem i64_l1 {x : Int32} : ((1 : Int64) ≤ x.toInt64) = ((1 : Int32) ≤ x) := i64_le (x := 1)
theorem i64_r1 {x : Int32} : (x.toInt64 ≤ (1 : Int64)) = (x ≤ (1 : Int32)) := i64_le (y := 1)
theorem i64_l2 {x : Int32} : ((2 : Int64) ≤ x.toInt64) = ((2 : Int32) ≤ x) := i64_le (x := 2)
theorem i64_r2 {x : Int32} : (x.toInt64 ≤ (2 : Int64)) = (x ≤ (2 : Int32)) := i64_le (y := 2)
theorem i64_l3 {x : Int32} : ((3 : Int64) ≤ x.toInt64) = ((3 : Int32) ≤ x) := i64_le (x := 3)
theorem i64_r3 {x : Int32} : (x.toInt64 ≤ (3 : Int64)) = (x ≤ (3 : Int32)) := i64_le (y := 3)
theorem i64_l4 {x : Int32} : ((4 : Int64) ≤ x.toInt64) = ((4 : Int32) ≤ x) := i64_le (x := 4)
theorem i64_r4 {x : Int32} : (x.toInt64 ≤ (4 : Int64)) = (x ≤ (4 : Int32)) := i64_le (y := 4)
theorem i64_l5 {x : Int32} : ((5 : Int64) ≤ x.toInt64) = ((5 : Int32) ≤ x) := i64_le (x := 5)
theorem i64_r5 {x : Int32} : (x.toInt64 ≤ (5 : Int64)) = (x ≤ (5 : Int32)) := i64_le (y := 5)
theorem i64_l6 {x : Int32} : ((6 : Int64) ≤ x.toInt64) = ((6 : Int32) ≤ x) := i64_le (x := 6)
theorem i64_r6 {x : Int32} : (x.toInt64 ≤ (6 : Int64)) = (x ≤ (6 : Int32)) := i64_le (y := 6)
theorem i64_l7 {x : Int32} : ((7 : Int64) ≤ x.toInt64) = ((7 : Int32) ≤ x) := i64_le (x := 7)
theorem i64_r7 {x : Int32} : (x.toInt64 ≤ (7 : Int64)) = (x ≤ (7 : Int32)) := i64_le (y := 7)
theorem i64_l8 {x : Int32} : ((8 : Int64) ≤ x.toInt64) = ((8 : Int32) ≤ x) := i64_le (x := 8)
theorem i64_r8 {x : Int32} : (x.toInt64 ≤ (8 : Int64)) = (x ≤ (8 : Int32)) := i64_le (y := 8)
theorem i64_l9 {x : Int32} : ((9 : Int64) ≤ x.toInt64) = ((9 : Int32) ≤ x) := i64_le (x := 9)
theorem i64_r9 {x : Int32} : (x.toInt64 ≤ (9 : Int64)) = (x ≤ (9 : Int32)) := i64_le (y := 9)
theorem i64_l40 {x : Int32} : ((40 : Int64) ≤ x.toInt64) = ((40 : Int32) ≤ x) := i64_le (x := 40)
theorem i64_r40 {x : Int32} : (x.toInt64 ≤ (40 : Int64)) = (x ≤ (40 : Int32)) := i64_le (y := 40)
theorem i64_l48 {x : Int32} : ((48 : Int64) ≤ x.toInt64) = ((48 : Int32) ≤ x) := i64_le (x := 48)
theorem i64_r48 {x : Int32} : (x.toInt64 ≤ (48 : Int64)) = (x ≤ (48 : Int32)) := i64_le (y := 48)
theorem i64_l57 {x : Int32} : ((57 : Int64) ≤ x.toInt64) = ((57 : Int32) ≤ x) := i64_le (x := 57)
theorem i64_r57 {x : Int32} : (x.toInt64 ≤ (57 : Int64)) = (x ≤ (57 : Int32)) := i64_le (y := 57)
theorem i64_l97 {x : Int32} : ((97 : Int64) ≤ x.toInt64) = ((97 : Int32) ≤ x) := i64_le (x := 97)
theorem i64_r97 {x : Int32} : (x.toInt64 ≤ (97 : Int64)) = (x ≤ (97 : Int32)) := i64_le (y := 97)
theorem i64_l122 {x : Int32} : ((122 : Int64) ≤ x.toInt64) = ((122 : Int32) ≤ x) := i64_le (x := 122)
theorem i64_r122 {x : Int32} : (x.toInt64 ≤ (122 : Int64)) = (x ≤ (122 : Int32)) := i64_le (y := 122)
theorem i64_l255 {x : Int32} : ((255 : Int64) ≤ x.toInt64) = ((255 : Int32) ≤ x) := i64_le (x := 255)
theorem i64_r255 {x : Int32} : (x.toInt64 ≤ (255 : Int64)) = (x ≤ (255 : Int32)) := i64_le (y := 255)
theorem ck_0 : (0 : Int32).toNatClampNeg = 0 := rfl
theorem vi_0 : vp_in (0 : Int32) 48 = True := eq_true (vp_in_nI (n := 0) (by decide) (by decide))
theorem an_0 {n : Nat} : (0 : Int32) + nI n = nI (0 + n) := nI_add 0 n
theorem ck_1 : (1 : Int32).toNatClampNeg = 1 := rfl
theorem vi_1 : vp_in (1 : Int32) 48 = True := eq_true (vp_in_nI (n := 1) (by decide) (by decide))
theorem an_1 {n : Nat} : (1 : Int32) + nI n = nI (1 + n) := nI_add 1 n
theorem ck_2 : (2 : Int32).toNatClampNeg = 2 := rfl
theorem vi_2 : vp_in (2 : Int32) 48 = True := eq_true (vp_in_nI (n := 2) (by decide) (by decide))
theorem an_2 {n : Nat} : (2 : Int32) + nI n = nI (2 + n) := nI_add 2 n
theorem ck_3 : (3 : Int32).toNatClampNeg = 3 := rfl
theorem vi_3 : vp_in (3 : Int32) 48 = True := eq_true (vp_in_nI (n := 3) (by decide) (by decide))
theorem an_3 {n : Nat} : (3 : Int32) + nI n = nI (3 + n) := nI_add 3 n
theorem ck_4 : (4 : Int32).toNatClampNeg = 4 := rfl
theorem vi_4 : vp_in (4 : Int32) 48 = True := eq_true (vp_in_nI (n := 4) (by decide) (by decide))
theorem an_4 {n : Nat} : (4 : Int32) + nI n = nI (4 + n) := nI_add 4 n
theorem ck_5 : (5 : Int32).toNatClampNeg = 5 := rfl
theorem vi_5 : vp_in (5 : Int32) 48 = True := eq_true (vp_in_nI (n := 5) (by decide) (by decide))
theorem an_5 {n : Nat} : (5 : Int32) + nI n = nI (5 + n) := nI_add 5 n
theorem ck_6 : (6 : Int32).toNatClampNeg = 6 := rfl
theorem vi_6 : vp_in (6 : Int32) 48 = True := eq_true (vp_in_nI (n := 6) (by decide) (by decide))
theorem an_6 {n : Nat} : (6 : Int32) + nI n = nI (6 + n) := nI_add 6 n
theorem ck_7 : (7 : Int32).toNatClampNeg = 7 := rfl
theorem vi_7 : vp_in (7 : Int32) 48 = True := eq_true (vp_in_nI (n := 7) (by decide) (by decide))
theorem an_7 {n : Nat} : (7 : Int32) + nI n = nI (7 + n) := nI_add 7 n
theorem ck_8 : (8 : Int32).toNatClampNeg = 8 := rfl
theorem vi_8 : vp_in (8 : Int32) 48 = True := eq_true (vp_in_nI (n := 8) (by decide) (by decide))
theorem an_8 {n : Nat} : (8 : Int32) + nI n = nI (8 + n) := nI_add 8 n
theorem ck_9 : (9 : Int32).toNatClampNeg = 9 := rfl
theorem vi_9 : vp_in (9 : Int32) 48 = True := eq_true (vp_in_nI (n := 9) (by decide) (by decide))
theorem an_9 {n : Nat} : (9 : Int32) + nI n = nI (9 + n) := nI_add 9 n
theorem ck_10 : (10 : Int32).toNatClampNeg = 10 := rfl
theorem vi_10 : vp_in (10 : Int32) 48 = True := eq_true (vp_in_nI (n := 10) (by decide) (by decide))
theorem an_10 {n : Nat} : (10 : Int32) + nI n = nI (10 + n) := nI_add 10 n
theorem ck_11 : (11 : Int32).toNatClampNeg = 11 := rfl
theorem vi_11 : vp_in (11 : Int32) 48 = True := eq_true (vp_in_nI (n := 11) (by decide) (by decide))
theorem an_11 {n : Nat} : (11 : Int32) + nI n = nI (11 + n) := nI_add 11 n
theorem ck_12 : (12 : Int32).toNatClampNeg = 12 := rfl
theorem vi_12 : vp_in (12 : Int32) 48 = True := eq_true (vp_in_nI (n := 12) (by decide) (by decide))
theorem an_12 {n : Nat} : (12 : Int32) + nI n = nI (12 + n) := nI_add 12 n
theorem ck_13 : (13 : Int32).toNatClampNeg = 13 := rfl
theorem vi_13 : vp_in (13 : Int32) 48 = True := eq_true (vp_in_nI (n := 13) (by decide) (by decide))
theorem an_13 {n : Nat} : (13 : Int32) + nI n = nI (13 + n) := nI_add 13 n
theorem ck_14 : (14 : Int32).toNatClampNeg = 14 := rfl
theorem vi_14 : vp_in (14 : Int32) 48 = True := eq_true (vp_in_nI (n := 14) (by decide) (by decide))
theorem an_14 {n : Nat} : (14 : Int32) + nI n = nI (14 + n) := nI_add 14 n
theorem ck_15 : (15 : Int32).toNatClampNeg = 15 := rfl
theorem vi_15 : vp_in (15 : Int32) 48 = True := eq_true (vp_in_nI (n := 15) (by decide) (by decide))
theorem an_15 {n : Nat} : (15 : Int32) + nI n = nI (15 + n) := nI_add 15 n
theorem ck_16 : (16 : Int32).toNatClampNeg = 16 := rfl
theorem vi_16 : vp_in (16 : Int32) 48 = True := eq_true (vp_in_nI (n := 16) (by decide) (by decide))
theorem an_16 {n : Nat} : (16 : Int32) + nI n = nI (16 + n) := nI_add 16 n
theorem ck_17 : (17 : Int32).toNatClampNeg = 17 := rfl
theorem vi_17 : vp_in (17 : Int32) 48 = True := eq_true (vp_in_nI (n := 17) (by decide) (by decide))
theorem an_17 {n : Nat} : (17 : Int32) + nI n = nI (17 + n) := nI_add 17 n
theorem ck_18 : (18 : Int32).toNatClampNeg = 18 := rfl
theorem vi_18 : vp_in (18 : Int32) 48 = True := eq_true (vp_in_nI (n := 18) (by decide) (by decide))
theorem an_18 {n : Nat} : (18 : Int32) + nI n = nI (18 + n) := nI_add 18 n
theorem ck_19 : (19 : Int32).toNatClampNeg = 19 := rfl
theorem vi_19 : vp_in (19 : Int32) 48 = True := eq_true (vp_in_nI (n := 19) (by decide) (by decide))
theorem an_19 {n : Nat} : (19 : Int32) + nI n = nI (19 + n) := nI_add 19 n
theorem ck_20 : (20 : Int32).toNatClampNeg = 20 := rfl
theorem vi_20 : vp_in (20 : Int32) 48 = True := eq_true (vp_in_nI (n := 20) (by decide) (by decide))
theorem an_20 {n : Nat} : (20 : Int32) + nI n = nI (20 + n) := nI_add 20 n
theorem ck_21 : (21 : Int32).toNatClampNeg = 21 := rfl
theorem vi_21 : vp_in (21 : Int32) 48 = True := eq_true (vp_in_nI (n := 21) (by decide) (by decide))
theorem an_21 {n : Nat} : (21 : Int32) + nI n = nI (21 + n) := nI_add 21 n
theorem ck_22 : (22 : Int32).toNatClampNeg = 22 := rfl
theorem vi_22 : vp_in (22 : Int32) 48 = True := eq_true (vp_in_nI (n := 22) (by decide) (by decide))
theorem an_22 {n : Nat} : (22 : Int32) + nI n = nI (22 + n) := nI_add 22 n
theorem ck_23 : (23 : Int32).toNatClampNeg = 23 := rfl
theorem vi_23 : vp_in (23 : Int32) 48 = True := eq_true (vp_in_nI (n := 23) (by decide) (by decide))
theorem an_23 {n : Nat} : (23 : Int32) + nI n = nI (23 + n) := nI_add 23 n
theorem ck_24 : (24 : Int32).toNatClampNeg = 24 := rfl
theorem vi_24 : vp_in (24 : Int32) 48 = True := eq_true (vp_in_nI (n := 24) (by decide) (by decide))
theorem an_24 {n : Nat} : (24 : Int32) + nI n = nI (24 + n) := nI_add 24 n
theorem ck_25 : (25 : Int32).toNatClampNeg = 25 := rfl
theorem vi_25 : vp_in (25 : Int32) 48 = True := eq_true (vp_in_nI (n := 25) (by decide) (by decide))
theorem an_25 {n : Nat} : (25 : Int32) + nI n = nI (25 + n) := nI_add 25 n
theorem ck_26 : (26 : Int32).toNatClampNeg = 26 := rfl
theorem vi_26 : vp_in (26 : Int32) 48 = True := eq_true (vp_in_nI (n := 26) (by decide) (by decide))
theorem an_26 {n : Nat} : (26 : Int32) + nI n = nI (26 + n) := nI_add 26 n
theorem ck_27 : (27 : Int32).toNatClampNeg = 27 := rfl
theorem vi_27 : vp_in (27 : Int32) 48 = True := eq_true (vp_in_nI (n := 27) (by decide) (by decide))
theorem an_27 {n : Nat} : (27 : Int32) + nI n = nI (27 + n) := nI_add 27 n
theorem ck_28 : (28 : Int32).toNatClampNeg = 28 := rfl
theorem vi_28 : vp_in (28 : Int32) 48 = True := eq_true (vp_in_nI (n := 28) (by decide) (by decide))
theorem an_28 {n : Nat} : (28 : Int32) + nI n = nI (28 + n) := nI_add 28 n
theorem ck_29 : (29 : Int32).toNatClampNeg = 29 := rfl
theorem vi_29 : vp_in (29 : Int32) 48 = True := eq_true (vp_in_nI (n := 29) (by decide) (by decide))
theorem an_29 {n : Nat} : (29 : Int32) + nI n = nI (29 + n) := nI_add 29 n
theorem ck_30 : (30 : Int32).toNatClampNeg = 30 := rfl
theorem vi_30 : vp_in (30 : Int32) 48 = True := eq_true (vp_in_nI (n := 30) (by decide) (by decide))
theorem an_30 {n : Nat} : (30 : Int32) + nI n = nI (30 + n) := nI_add 30 n
theorem ck_31 : (31 : Int32).toNatClampNeg = 31 := rfl
theorem vi_31 : vp_in (31 : Int32) 48 = True := eq_true (vp_in_nI (n := 31) (by decide) (by decide))
theorem an_31 {n : Nat} : (31 : Int32) + nI n = nI (31 + n) := nI_add 31 n
theorem ck_32 : (32 : Int32).toNatClampNeg = 32 := rfl
theorem vi_32 : vp_in (32 : Int32) 48 = True := eq_true (vp_in_nI (n := 32) (by decide) (by decide))
theorem an_32 {n : Nat} : (32 : Int32) + nI n = nI (32 + n) := nI_add 32 n
theorem ck_33 : (33 : Int32).toNatClampNeg = 33 := rfl
theorem vi_33 : vp_in (33 : Int32) 48 = True := eq_true (vp_in_nI (n := 33) (by decide) (by decide))
theorem an_33 {n : Nat} : (33 : Int32) + nI n = nI (33 + n) := nI_add 33 n
theorem ck_34 : (34 : Int32).toNatClampNeg = 34 := rfl
theorem vi_34 : vp_in (34 : Int32) 48 = True := eq_true (vp_in_nI (n := 34) (by decide) (by decide))
theorem an_34 {n : Nat} : (34 : Int32) + nI n = nI (34 + n) := nI_add 34 n
theorem ck_35 : (35 : Int32).toNatClampNeg = 35 := rfl
theorem vi_35 : vp_in (35 : Int32) 48 = True := eq_true (vp_in_nI (n := 35) (by decide) (by decide))
theorem an_35 {n : Nat} : (35 : Int32) + nI n = nI (35 + n) := nI_add 35 n
theorem ck_36 : (36 : Int32).toNatClampNeg = 36 := rfl
theorem vi_36 : vp_in (36 : Int32) 48 = True := eq_true (vp_in_nI (n := 36) (by decide) (by decide))
theorem an_36 {n : Nat} : (36 : Int32) + nI n = nI (36 + n) := nI_add 36 n
theorem ck_37 : (37 : Int32).toNatClampNeg = 37 := rfl
theorem vi_37 : vp_in (37 : Int32) 48 = True := eq_true (vp_in_nI (n := 37) (by decide) (by decide))
theorem an_37 {n : Nat} : (37 : Int32) + nI n = nI (37 + n) := nI_add 37 n
theorem ck_38 : (38 : Int32).toNatClampNeg = 38 := rfl
theorem vi_38 : vp_in (38 : Int32) 48 = True := eq_true (vp_in_nI (n := 38) (by decide) (by decide))
theorem an_38 {n : Nat} : (38 : Int32) + nI n = nI (38 + n) := nI_add 38 n
theorem ck_39 : (39 : Int32).toNatClampNeg = 39 := rfl
theorem vi_39 : vp_in (39 : Int32) 48 = True := eq_true (vp_in_nI (n := 39) (by decide) (by decide))
theorem an_39 {n : Nat} : (39 : Int32) + nI n = nI (39 + n) := nI_add 39 n
theorem ck_40 : (40 : Int32).toNatClampNeg = 40 := rfl
theorem vi_40 : vp_in (40 : Int32) 48 = True := eq_true (vp_in_nI (n := 40) (by decide) (by decide))
theorem an_40 {n : Nat} : (40 : Int32) + nI n = nI (40 + n) := nI_add 40 n
theorem ck_41 : (41 : Int32).toNatClampNeg = 41 := rfl
theorem vi_41 : vp_in (41 : Int32) 48 = True := eq_true (vp_in_nI (n := 41) (by decide) (by decide))
theorem an_41 {n : Nat} : (41 : Int32) + nI n = nI (41 + n) := nI_add 41 n
theorem ck_42 : (42 : Int32).toNatClampNeg = 42 := rfl
theorem vi_42 : vp_in (42 : Int32) 48 = True := eq_true (vp_in_nI (n := 42) (by decide) (by decide))
theorem an_42 {n : Nat} : (42 : Int32) + nI n = nI (42 + n) := nI_add 42 n
theorem ck_43 : (43 : Int32).toNatClampNeg = 43 := rfl
theorem vi_43 : vp_in (43 : Int32) 48 = True := eq_true (vp_in_nI (n := 43) (by decide) (by decide))
theorem an_43 {n : Nat} : (43 : Int32) + nI n = nI (43 + n) := nI_add 43 n
theorem ck_44 : (44 : Int32).toNatClampNeg = 44 := rfl
theorem vi_44 : vp_in (44 : Int32) 48 = True := eq_true (vp_in_nI (n := 44) (by decide) (by decide))
theorem an_44 {n : Nat} : (44 : Int32) + nI n = nI (44 + n) := nI_add 44 n
theorem ck_45 : (45 : Int32).toNatClampNeg = 45 := rfl
theorem vi_45 : vp_in (45 : Int32) 48 = True := eq_true (vp_in_nI (n := 45) (by decide) (by decide))
theorem an_45 {n : Nat} : (45 : Int32) + nI n = nI (45 + n) := nI_add 45 n
theorem ck_46 : (46 : Int32).toNatClampNeg = 46 := rfl
theorem vi_46 : vp_in (46 : Int32) 48 = True := eq_true (vp_in_nI (n := 46) (by decide) (by decide))
theorem an_46 {n : Nat} : (46 : Int32) + nI n = nI (46 + n) := nI_add 46 n
theorem ck_47 : (47 : Int32).toNatClampNeg = 47 := rfl
theorem vi_47 : vp_in (47 : Int32) 48 = True := eq_true (vp_in_nI (n := 47) (by decide) (by decide))
theorem an_47 {n : Nat} : (47 : Int32) + nI n = nI (47 + n) := nI_add 47 n
theorem ck_48 : (48 : Int32).toNatClampNeg = 48 := rfl
theorem an_48 {n : Nat} : (48 : Int32) + nI n = nI (48 + n) := nI_add 48 n

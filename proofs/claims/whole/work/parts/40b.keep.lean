/-! what a night keeps -/
theorem undo_8 {t : Nat → Int32} {k : Nat} {n : Int32} : p_undo k n t 8 = t 8 + 1 := by
  rw [p_undo, pk_us, p_uns_l (by omega)]
theorem undo_n9 {t : Nat → Int32} {k : Nat} {n : Int32} : p_undo k n t 9 = 0 := by
  rw [p_undo, pk_un (by omega), pk_us]
theorem undo_10 {t : Nat → Int32} {k : Nat} {n : Int32} : p_undo k n t 10 = t 10 - n := by
  rw [p_undo, pk_un (by omega), pk_un (by omega), pk_us, p_uns_l (by omega)]
theorem undo_o {t : Nat → Int32} {k j : Nat} {n : Int32} (h : j < 38) (h8 : j ≠ 8) (h9 : j ≠ 9) (h10 : j ≠ 10) : p_undo k n t j = t j := by
  rw [p_undo, pk_un h8, pk_un h9, pk_un h10, p_uns_l h]
theorem uns_43 {n : Int32} {j : Nat} (hj : 43 ≤ j) : ∀ m s (t : Nat → Int32), s + m ≤ 5 → p_uns n m s t j = t j
  | 0, _, _, _ => rfl
  | m + 1, s, t, h => by
    rw [p_uns, uns_43 hj m (s + 1) _ (by omega), p_un1_o (by omega)]
theorem undo_43 {t : Nat → Int32} {k j : Nat} {n : Int32} (h : 43 ≤ j) (hk : k ≤ 5) : p_undo k n t j = t j := by
  rw [p_undo, pk_un (by omega), pk_un (by omega), pk_un (by omega), uns_43 h k 0 t (by omega)]

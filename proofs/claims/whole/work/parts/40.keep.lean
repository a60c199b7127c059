/-! what a row keeps -/
theorem wv_11 {t : Nat → Int32} {n : Int32} : p_weaves t n 11 = t 11 + p_fr t n := by
  rw [p_weaves, pk_un (by omega), pk_us]
theorem wv_12 {t : Nat → Int32} {n : Int32} : p_weaves t n 12 = t 12 + (n - p_fr t n) := by
  rw [p_weaves, pk_us]
theorem yl_wv {t : Nat → Int32} {n : Int32} : yl (p_weaves t n) = yl t - p_wants t n := by
  rw [yl, yl, wv_o (by omega), wv_11, wv_12, p_wants]
  have e : t 12 + (n - p_fr t n) = t 12 + n - p_fr t n := by grind
  rw [e]
  generalize (t 12 + n - p_fr t n) / 4 = z1
  generalize t 12 / 4 = z2
  grind
theorem yl_of {t t' : Nat → Int32} (h1 : t' 1 = t 1) (h2 : t' 11 = t 11) (h3 : t' 12 = t 12) : yl t' = yl t := by
  rw [yl, yl, h1, h2, h3]
theorem yl_eve {t : Nat → Int32} {c k : Nat} : yl (p_eve c k t) = yl t := by
  refine yl_of ?_ ?_ ?_ <;> rw [p_eve, pk_un (by omega), p_feast_o (by omega) (by omega), p_looks_l (by omega)]
theorem yl_undo {t : Nat → Int32} {k : Nat} {n : Int32} : yl (p_undo k n t) = yl t := by
  refine yl_of ?_ ?_ ?_ <;> rw [p_undo, pk_un (by omega), pk_un (by omega), pk_un (by omega), p_uns_l (by omega)]

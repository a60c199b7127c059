/-! doubts that do not grow -/
theorem uns_38z {n : Int32} {j : Nat} (hj : j < 5) : ∀ m s (t : Nat → Int32), ¬ 4 ≤ t (23 + j) → p_uns n m s t (38 + j) = t (38 + j)
  | 0, _, _, _ => rfl
  | m + 1, s, t, h4 => by
    rw [p_uns, uns_38z hj m (s + 1) (p_un1 n s t) (by rw [p_un1_o (by omega)]; exact h4)]
    by_cases h : j = s
    · subst h
      rw [p_un1, pk_us, nb_f (fun z => h4 z.1), Int32.add_zero]
    · exact p_un1_o (by omega)
theorem undo_38z {t : Nat → Int32} {k j : Nat} {n : Int32} (hj : j < 5) (h4 : ¬ 4 ≤ t (23 + j)) : p_undo k n t (38 + j) = t (38 + j) := by
  rw [p_undo, pk_un (by omega), pk_un (by omega), pk_un (by omega), uns_38z hj k 0 t h4]
theorem looks_38z {c j : Nat} (hj : j < 5) : ∀ m s (t : Nat → Int32), s + m ≤ 5 → ¬ t (23 + j) < 4 → p_looks c m s t (38 + j) = t (38 + j)
  | 0, _, _, _, _ => rfl
  | m + 1, s, t, hm, h4 => by
    rw [p_looks, looks_38z hj m (s + 1) (p_look1 c s t) (by omega) (by rw [p_look1_n (by omega) (by omega)]; exact h4)]
    by_cases h : j = s
    · subst h
      rw [p_look1, if_neg (fun z => h4 z.1)]
    · exact p_look1_n (by omega) (by omega)

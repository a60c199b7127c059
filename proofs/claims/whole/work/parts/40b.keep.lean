/-! what a night keeps -/
theorem undo_8 {t : Nat → Int32} {k : Nat} {n : Int32} : p_undo k n t 8 = t 8 + 1 := by
  rw [p_undo, pk_us, p_uns_l (by omega)]
theorem undo_n9 {t : Nat → Int32} {k : Nat} {n : Int32} : p_undo k n t 9 = 0 := by
  rw [p_undo, pk_un (by omega), pk_us]
theorem undo_10 {t : Nat → Int32} {k : Nat} {n : Int32} : p_undo k n t 10 = t 10 - n := by
  rw [p_undo, pk_un (by omega), pk_un (by omega), pk_us, p_uns_l (by omega)]
theorem undo_o {t : Nat → Int32} {k j : Nat} {n : Int32} (h : j < 38) (h8 : j ≠ 8) (h9 : j ≠ 9) (h10 : j ≠ 10) : p_undo k n t j = t j := by
  rw [p_undo, pk_un h8, pk_un h9, pk_un h10, p_uns_l h]
theorem uns_43 {n : Int32} {j : Nat} (hj : 43 ≤ j) : ∀ m s (t : Nat → Int32), s + m ≤ 5 → p_uns n m s t j = t j
  | 0, _, _, _ => rfl
  | m + 1, s, t, h => by
    rw [p_uns, uns_43 hj m (s + 1) _ (by omega), p_un1_o (by omega)]
theorem undo_43 {t : Nat → Int32} {k j : Nat} {n : Int32} (h : 43 ≤ j) (hk : k ≤ 5) : p_undo k n t j = t j := by
  rw [p_undo, pk_un (by omega), pk_un (by omega), pk_un (by omega), uns_43 h k 0 t (by omega)]
theorem uns_38 {n : Int32} {j : Nat} : ∀ m s (t : Nat → Int32), p_uns n m s t (38 + j) = t (38 + j) ∨ (s ≤ j ∧ p_uns n m s t (38 + j) = t (38 + j) + 1)
  | 0, _, _ => Or.inl rfl
  | m + 1, s, t => by
    rw [p_uns]
    by_cases h : j = s
    · subst h
      rcases uns_38 (n := n) (j := j) m (j + 1) (p_un1 n j t) with e | e
      · rw [e, p_un1, pk_us]
        by_cases q : 4 ≤ t (23 + j) ∧ t 8 - t 8 / t (28 + j) * t (28 + j) = 0 ∧ t (23 + j) - 4 < n
        · rw [nb_t q]
          exact Or.inr ⟨Nat.le_refl _, rfl⟩
        · rw [nb_f q]
          exact Or.inl (Int32.add_zero _)
      · omega
    · have e0 : p_un1 n s t (38 + j) = t (38 + j) := p_un1_o (by omega)
      rcases uns_38 (n := n) (j := j) m (s + 1) (p_un1 n s t) with e | ⟨e1, e⟩
      · rw [e, e0]
        exact Or.inl rfl
      · rw [e, e0]
        exact Or.inr ⟨by omega, rfl⟩
theorem undo_38 {t : Nat → Int32} {k j : Nat} {n : Int32} : p_undo k n t (38 + j) = t (38 + j) ∨ p_undo k n t (38 + j) = t (38 + j) + 1 := by
  rw [p_undo, pk_un (by omega), pk_un (by omega), pk_un (by omega)]
  rcases uns_38 (n := n) (j := j) k 0 t with e | ⟨_, e⟩
  · exact Or.inl e
  · exact Or.inr e

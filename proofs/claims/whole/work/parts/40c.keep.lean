/-! what an evening keeps -/
theorem look1_38 {c s : Nat} {t : Nat → Int32} : p_look1 c s t (38 + s) = t (38 + s) ∨ p_look1 c s t (38 + s) = t (38 + s) + 1 := by
  unfold p_look1
  split
  · rw [pk_un (by omega), pk_us]
    by_cases q : 0 ≤ t (43 + s) ∧ p_dbt t c s = true
    · rw [nb_t q]
      exact Or.inr rfl
    · rw [nb_f q]
      exact Or.inl (Int32.add_zero _)
  · exact Or.inl rfl
theorem look1_43 {c s : Nat} {t : Nat → Int32} : p_look1 c s t (43 + s) = t (43 + s) ∨ p_look1 c s t (43 + s) = t 10 := by
  unfold p_look1
  split
  · rw [pk_us]
    exact Or.inr rfl
  · exact Or.inl rfl
theorem looks_38 {c j : Nat} (hj : j < 5) : ∀ m s (t : Nat → Int32), s + m ≤ 5 → p_looks c m s t (38 + j) = t (38 + j) ∨ (s ≤ j ∧ p_looks c m s t (38 + j) = t (38 + j) + 1)
  | 0, _, _, _ => Or.inl rfl
  | m + 1, s, t, hm => by
    rw [p_looks]
    by_cases h : j = s
    · subst h
      rcases looks_38 (c := c) hj m (j + 1) (p_look1 c j t) (by omega) with e | e
      · rw [e]
        rcases look1_38 (c := c) (s := j) (t := t) with e2 | e2
        · exact Or.inl e2
        · exact Or.inr ⟨Nat.le_refl _, e2⟩
      · omega
    · have e0 : p_look1 c s t (38 + j) = t (38 + j) := p_look1_n (by omega) (by omega)
      rcases looks_38 (c := c) hj m (s + 1) (p_look1 c s t) (by omega) with e | ⟨e1, e⟩
      · rw [e, e0]
        exact Or.inl rfl
      · rw [e, e0]
        exact Or.inr ⟨by omega, rfl⟩
theorem looks_43 {c j : Nat} (hj : j < 5) : ∀ m s (t : Nat → Int32), s + m ≤ 5 → p_looks c m s t (43 + j) = t (43 + j) ∨ p_looks c m s t (43 + j) = t 10
  | 0, _, _, _ => Or.inl rfl
  | m + 1, s, t, hm => by
    rw [p_looks]
    have e10 : p_look1 c s t 10 = t 10 := p_look1_n (by omega) (by omega)
    rcases looks_43 (c := c) hj m (s + 1) (p_look1 c s t) (by omega) with e | e
    · by_cases h : j = s
      · subst h
        rw [e]
        exact look1_43
      · rw [e, p_look1_n (by omega) (by omega)]
        exact Or.inl rfl
    · rw [e, e10]
      exact Or.inr rfl

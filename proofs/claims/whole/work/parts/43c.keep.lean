/-! an evening -/
theorem feast_n13 {t : Nat → Int32} : p_feast t 13 = t 13 ∨ p_feast t 13 = t 13 + 1 := by
  unfold p_feast
  split
  · rw [pk_un (by omega), pk_us]
    by_cases q : t 10 - t 14 < t 5
    · rw [nb_t q]
      exact Or.inr rfl
    · rw [nb_f q]
      exact Or.inl (Int32.add_zero _)
  · exact Or.inl rfl
theorem okD_eve {t : Nat → Int32} {c k D : Nat} (h : okD D t) (h9 : t 9 = 0) (hk5 : k ≤ 5) : okD D (p_eve c k t) := by
  obtain ⟨k', e8, e7, hk, ⟨B, eB, hB⟩, hd⟩ := h
  have ev : ∀ j, j < 38 → j ≠ 9 → j ≠ 13 → j ≠ 14 → p_eve c k t j = t j := fun j a1 a2 a3 a4 => by rw [p_eve, pk_un a2, p_feast_o a3 a4, p_looks_l a1]
  have q1 : q9 (p_eve c k t) = 1 := if_neg (by rw [p_eve, pk_us]; decide)
  have q0 : q9 t = 0 := if_pos h9
  rw [q0] at hB
  refine ⟨k', by rw [ev 8 (by omega) (by omega) (by omega) (by omega)]; exact e8, by rw [ev 7 (by omega) (by omega) (by omega) (by omega)]; exact e7, hk, ?_, fun s hs => ?_⟩
  · have e13 : p_eve c k t 13 = p_feast (p_looks c k 0 t) 13 := by rw [p_eve, pk_un (by omega)]
    have l13 : p_looks c k 0 t 13 = t 13 := p_looks_l (by omega) k 0 t
    rw [q1, e13]
    rcases feast_n13 (t := p_looks c k 0 t) with e | e
    · exact ⟨B, by rw [e, l13]; exact eB, by omega⟩
    · exact ⟨B + 1, by rw [e, l13, eB, nI_1], by omega⟩
  · obtain ⟨C, eC, hC⟩ := hd s hs
    rw [q0] at hC
    have e38 : p_eve c k t (38 + s) = p_looks c k 0 t (38 + s) := by rw [p_eve, pk_un (by omega), p_feast_o (by omega) (by omega)]
    rw [q1, e38, ev (23 + s) (by omega) (by omega) (by omega) (by omega)]
    by_cases h4 : t (23 + s) < 4
    · rw [if_pos h4] at hC ⊢
      rcases looks_38 (c := c) (j := s) (by omega) k 0 t (by omega) with e | ⟨_, e⟩
      · exact ⟨C, by rw [e]; exact eC, by omega⟩
      · exact ⟨C + 1, by rw [e, eC, nI_1], by omega⟩
    · rw [if_neg h4] at hC ⊢
      exact ⟨C, by rw [looks_38z (by omega) k 0 t (by omega) h4]; exact eC, by omega⟩

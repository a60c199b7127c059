/-! blame and doubts grow with the days -/
def q9 (t : Nat → Int32) : Nat := if t 9 = 0 then 0 else 1
def okD (D : Nat) (t : Nat → Int32) : Prop := ∃ k : Nat, t 8 = nI D ∧ t 7 = nI k ∧ k ≤ 5 ∧ (∃ B, t 13 = nI B ∧ B + 1 ≤ D + q9 t) ∧ ∀ s, s < k → ∃ B, t (38 + s) = nI B ∧ B + 1 ≤ D + (if t (23 + s) < 4 then q9 t else 0)
theorem okD_undo {t : Nat → Int32} {k D : Nat} {n : Int32} (h : okD D t) (h9 : ¬ t 9 = 0) : okD (D + 1) (p_undo k n t) := by
  obtain ⟨k', e8, e7, hk, ⟨B, eB, hB⟩, hd⟩ := h
  have q0 : q9 (p_undo k n t) = 0 := if_pos undo_n9
  have q1 : q9 t = 1 := if_neg h9
  rw [q1] at hB
  refine ⟨k', by rw [undo_8, e8, nI_1], by rw [undo_o (by omega) (by omega) (by omega) (by omega)]; exact e7, hk, ⟨B, by rw [undo_o (by omega) (by omega) (by omega) (by omega)]; exact eB, by omega⟩, fun s hs => ?_⟩
  obtain ⟨C, eC, hC⟩ := hd s hs
  rw [q0, undo_o (j := 23 + s) (by omega) (by omega) (by omega) (by omega)]
  rw [q1] at hC
  by_cases h4 : t (23 + s) < 4
  · rw [if_pos h4] at hC ⊢
    refine ⟨C, ?_, by omega⟩
    rw [undo_38z (by omega) (by grind)]
    exact eC
  · rw [if_neg h4] at hC ⊢
    rcases undo_38 (t := t) (k := k) (j := s) (n := n) with e | e
    · exact ⟨C, by rw [e]; exact eC, by omega⟩
    · exact ⟨C + 1, by rw [e, eC, nI_1], by omega⟩

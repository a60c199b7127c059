/-! weaving leaves blame and doubts -/
theorem okD_wv {t : Nat → Int32} {D : Nat} {n : Int32} (h : okD D t) : okD D (p_weaves t n) := by
  obtain ⟨k', e8, e7, hk, ⟨B, eB, hB⟩, hd⟩ := h
  have qq : q9 (p_weaves t n) = q9 t := by rw [q9, q9, wv_o (by omega)]
  refine ⟨k', by rw [wv_o (by omega)]; exact e8, by rw [wv_o (by omega)]; exact e7, hk, ⟨B, by rw [wv_o (by omega)]; exact eB, by rw [qq]; exact hB⟩, fun s hs => ?_⟩
  obtain ⟨C, eC, hC⟩ := hd s hs
  rw [qq, wv_o (j := 38 + s) (by omega), wv_o (j := 23 + s) (by omega)]
  exact ⟨C, eC, hC⟩

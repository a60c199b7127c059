/-! a parsed row stands -/
theorem fin_ok {T : Nat → Int32} {P : Nat} (h : isOk (pFin T P r00).1) : ∃ c k, okP 1 c k (pFin T P r00).2 := by
  have e := pFin.eq_1 T P r00
  rw [pSu] at e
  have hb : ∀ j, j ≠ 6 → j ≠ 7 → j < 15 ∨ 38 ≤ j → (pFin T P r00).2 j = (pLw T P (.inl 0, r00)).2 j := by
    intro j h6 h7 hj
    rw [e, sui_n h7 (by omega) 6 0 _ (by omega)]
    dsimp only
    rw [pk_un h7, cs_n h6 (by omega)]
  have hc : ∀ j, 15 ≤ j → j < 23 → (pFin T P r00).2 j = (pCs T P (pLw T P (.inl 0, r00))).2 j := by
    intro j h1 h2
    rw [e, sui_n (by omega) (by omega) 6 0 _ (by omega)]
    dsimp only
    exact pk_un (by omega)
  have h6 : (pFin T P r00).2 6 = (pCs T P (pLw T P (.inl 0, r00))).2 6 := by
    rw [e, sui_n (by omega) (by omega) 6 0 _ (by omega)]
    dsimp only
    exact pk_un (by omega)
  rw [e] at h
  obtain ⟨ok2, k, hk, e7, hs⟩ := sui_ok 6 0 _ rfl (by omega) (by rw [nI_0]; dsimp only; exact pk_us) (fun s z => by omega) h
  rw [← e] at e7 hs
  dsimp only at ok2
  have ok2' := ok2
  rw [pCs] at ok2'
  obtain ⟨ok3, c, c1, c8, e6, hcol⟩ := col_ok 9 0 _ rfl (by omega) (by rw [nI_0]; dsimp only; exact pk_us) (fun s z => by omega) ok2'
  have ok4 : isOk (pLw T P (.inl 0, r00)).1 := let_ok ok3
  rw [← pCs] at e6 hcol
  obtain ⟨l0, l1, l2, l3, l4, l5⟩ := lw_ok ok4
  have hr : ∀ j, 8 ≤ j → j < 15 ∨ 38 ≤ j → (pFin T P r00).2 j = r00 j := fun j h1 h2 => (hb j (by omega) (by omega) (by omega)).trans (lw_n (by omega))
  rw [← hb 0 (by omega) (by omega) (by omega)] at l0
  rw [← hb 1 (by omega) (by omega) (by omega)] at l1
  rw [← hb 2 (by omega) (by omega) (by omega)] at l2
  rw [← hb 3 (by omega) (by omega) (by omega)] at l3
  rw [← hb 4 (by omega) (by omega) (by omega)] at l4
  rw [← hb 5 (by omega) (by omega) (by omega)] at l5
  rw [← h6] at e6
  have hcol' : ∀ s, s < c → 0 ≤ (pFin T P r00).2 (15 + s) ∧ (pFin T P r00).2 (15 + s) ≤ 3 := fun s hs => by rw [hc _ (by omega) (by omega)]; exact hcol s hs
  clear hb hc h6 e hcol h ok2 ok2' ok3 ok4
  generalize (pFin T P r00).2 = R at *
  obtain ⟨ln, hln, el⟩ := nI_upto 24 (by decide) (by omega) (show 0 ≤ R 0 by have := l0.1; grind) l0.2
  have ln4 : 4 ≤ ln := by
    have := l0.1
    rw [el, show (4 : Int32) = nI 4 by decide, nI_leI (by omega) (by omega)] at this
    exact this
  have r8 : R 8 = nI 1 := hr 8 (by omega) (by omega)
  have r9 : R 9 = 0 := hr 9 (by omega) (by omega)
  have r10 : R 10 = nI 0 := hr 10 (by omega) (by omega)
  have r11 : R 11 = nI 0 := hr 11 (by omega) (by omega)
  have r12 : R 12 = 0 := hr 12 (by omega) (by omega)
  have r13 : R 13 = nI 0 := hr 13 (by omega) (by omega)
  have r14 : R 14 = 0 := hr 14 (by omega) (by omega)
  have r38 : ∀ s, s < 5 → R (38 + s) = nI 0 := fun s hs => by
    rw [hr _ (by omega) (by omega), r00, if_neg (by omega), if_neg (by omega), nI_0]
  have r43 : ∀ s, s < 5 → R (43 + s) = -1 := fun s hs => by
    rw [hr _ (by omega) (by omega), r00, if_neg (by omega), if_pos (by omega)]
  have ry : 0 ≤ yl R := by
    rw [yl, r11, r12, nI_0, show (0 : Int32) / 4 = 0 by decide]
    have := l1
    grind
  refine ⟨c, k, ⟨⟨ln, c, k, 0, 0, 1, ⟨el, ln4, hln⟩, ⟨e6, c1, c8⟩, ⟨e7, hk⟩, ⟨r10, r11, Nat.le_refl _, by omega⟩, ⟨r8, by omega, by omega⟩, Or.inl r9, l1, l2, l3, l4, l5, ?_, ry, ?_, ?_, ?_, ?_⟩, ⟨k, r8, e7, hk, ⟨0, r13, by omega⟩, fun s hs => ⟨0, r38 s (by omega), by omega⟩⟩, by omega, by omega⟩, e6, c1, c8, e7, hk⟩
  · rw [r12]; decide
  · rw [r13]; decide
  · rw [r14]; decide
  · intro s hs
    have := hcol' s hs
    exact ⟨this.1, by have := this.2; grind⟩
  · intro s hs2
    have g := hs s hs2
    refine ⟨g.1, g.2.1, g.2.2, ?_, Or.inl (r43 s (by omega))⟩
    rw [r38 s (by omega)]
    decide

/-! acts: what is kept -/
section
variable {h h' : Nat → va_E} {A c k x D a : Nat} {st y : Int32} {tC tM tM' bf t u : Nat → Int32}
theorem cloth_agr (g : agr c k tC tM) (hc : clothAt h a tC y) : clothAt h a tM y := by
  obtain ⟨c1, c2, c3⟩ := hc
  refine ⟨?_, ?_, ?_⟩
  · rw [c1]
    simp only [cC]
    rw [g 8 (by omega), g 9 (by omega), g 10 (by omega), g 11 (by omega), g 12 (by omega), g 13 (by omega), g 14 (by omega)]
  · rw [c2, tr_eq (fun i hi => (g _ (by omega)))]
  · rw [c3, tr_eq (fun i hi => (g _ (by omega)))]
theorem tr48_z {o : Nat} : z48 (tr 48 o t) := fun j hj => by rw [tr, if_neg (by omega)]
theorem tr48_at {o j : Nat} (hj : j < 48) : tr 48 o t j = t (o + j) := by rw [tr, if_pos hj]
theorem rem_old {j : Nat} (hA : A < 24) (hj : j < A) : tr 48 (48 * j) (p_rem A t bf) = tr 48 (48 * j) bf := by
  refine tr_eq (fun i hi => ?_)
  rw [p_rem, if_neg (by omega), p_cp, if_neg (by omega)]
theorem rem_new (hA : A < 24) (hz : z48 t) : tr 48 (48 * A) (p_rem A t bf) = t := by
  funext i
  rw [tr]
  by_cases q : i < 48
  · rw [if_pos q, p_rem, if_neg (by omega), p_cp, if_pos (by omega)]
    congr 1
    omega
  · rw [if_neg q, hz i (by omega)]
theorem rem_old24 {j : Nat} (hj : j < 23) : tr 48 (48 * j) (p_rem 24 t bf) = tr 48 (48 * (j + 1)) bf := by
  funext i
  rw [tr, tr]
  by_cases q : i < 48
  · rw [if_pos q, if_pos q, p_rem, if_pos rfl, p_cp, if_neg (by omega), shf, if_pos (by omega)]
    congr 1
    omega
  · rw [if_neg q, if_neg q]
theorem rem_new24 (hz : z48 t) : tr 48 (48 * 23) (p_rem 24 t bf) = t := by
  funext i
  rw [tr]
  by_cases q : i < 48
  · rw [if_pos q, p_rem, if_pos rfl, p_cp, if_pos (by omega), show 0 + (48 * 23 + i - 48 * 23) = i by omega]
  · rw [if_neg q, hz i (by omega)]
theorem gP_keep (g1 : A ≤ 24) (hx : x < 24) (g3 : h 18 = nl_ra 4 24 keptF) (g5 : ∀ i, i < 24 → ∃ u z, clothAt h (19 + 3 * i) u z) (g6 : ∀ j, j < A → clothAt h (19 + 3 * ((x + 24 - A + j) % 24)) (tr 48 (48 * j) bf) (yl (tr 48 (48 * j) bf)) ∧ sameL tM (tr 48 (48 * j) bf) ∧ ∃ D, D ≤ 999 ∧ okP D c k (tr 48 (48 * j) bf))
    (hz : z48 tM) (hD : D ≤ 999) (ho : okP D c k tM) (hst : ¬ st = 0) (hs : sameL tM tM')
    (e17 : h' 17 = cP (nI (nxR x)) (nI (nxA A))) (e145 : h' 145 = nl_ia 1152 (p_rem A tM bf)) (ex : clothAt h' (19 + 3 * x) tM (yl tM)) (eo : ∀ q, 18 ≤ q → q ≤ 90 → q < 19 + 3 * x ∨ 19 + 3 * x + 2 < q → h' q = h q) : gP h' (nxA A) st c k tM' := by
  have nx : nxR x < 24 := by rw [nxR]; split <;> omega
  have nA : nxA A ≤ 24 := by rw [nxA]; split <;> omega
  have lw : ∀ {r : Nat → Int32}, sameL tM r → sameL tM' r := fun q j hj => (q j hj).trans (hs j hj).symm
  refine ⟨nA, fun z => absurd z hst, nxR x, p_rem A tM bf, nx, e17, (eo 18 (by omega) (by omega) (by omega)).trans g3, e145, fun i hi => ?_, fun j hj => ?_⟩
  · by_cases q : i = x
    · subst q; exact ⟨_, _, ex⟩
    · obtain ⟨u, z, g⟩ := g5 i hi
      exact ⟨u, z, cl_fr g (fun q r1 r2 => eo q (by omega) (by omega) (by omega))⟩
  · by_cases hA : A < 24
    · have eA : nxA A = A + 1 := if_pos hA
      rw [eA] at hj ⊢
      have ps : (nxR x + 24 - (A + 1) + j) % 24 = (x + 24 - A + j) % 24 := by
        rw [nxR]
        split
        · congr 1; omega
        · have : x = 23 := by omega
          subst this
          omega
      rw [ps]
      by_cases qj : j = A
      · subst qj
        have e0 : (x + 24 - j + j) % 24 = x := by
          rw [Nat.sub_add_cancel (by omega)]
          omega
        rw [rem_new hA hz, e0]
        exact ⟨ex, lw (fun _ _ => rfl), D, hD, ho⟩
      · have hjA : j < A := by omega
        obtain ⟨y1, y2, y3⟩ := g6 j hjA
        rw [rem_old hA hjA]
        have ne : (x + 24 - A + j) % 24 ≠ x := by omega
        have lt := Nat.mod_lt (x + 24 - A + j) (y := 24) (by omega)
        exact ⟨cl_fr y1 (fun q r1 r2 => eo q (by omega) (by omega) (by omega)), lw y2, y3⟩
    · have eA4 : A = 24 := by omega
      subst eA4
      have eA : nxA 24 = 24 := if_neg (by omega)
      rw [eA] at hj ⊢
      by_cases qj : j = 23
      · subst qj
        have e0 : (nxR x + 24 - 24 + 23) % 24 = x := by
          rw [nxR]
          split <;> omega
        rw [rem_new24 hz, e0]
        exact ⟨ex, lw (fun _ _ => rfl), D, hD, ho⟩
      · have hj2 : j < 23 := by omega
        have ps : (nxR x + 24 - 24 + j) % 24 = (x + 24 - 24 + (j + 1)) % 24 := by
          rw [nxR]
          split
          · congr 1; omega
          · have : x = 23 := by omega
            subst this
            omega
        obtain ⟨y1, y2, y3⟩ := g6 (j + 1) (by omega)
        rw [rem_old24 hj2, ps]
        have ne : (x + 24 - 24 + (j + 1)) % 24 ≠ x := by omega
        have lt := Nat.mod_lt (x + 24 - 24 + (j + 1)) (y := 24) (by omega)
        exact ⟨cl_fr y1 (fun q r1 r2 => eo q (by omega) (by omega) (by omega)), lw y2, y3⟩
theorem agr_wok {n : Int32} (g : agr c k tC tM) : wOK tM n = wOK tC n := by
  rw [wOK, wOK, g 9 (by omega), g 0 (by omega), g 10 (by omega), agr_wants g, agr_yl g]
theorem agr_uok {n : Int32} (g : agr c k tC tM) : uOK tM n = uOK tC n := by
  rw [uOK, uOK, g 9 (by omega), g 2 (by omega), g 10 (by omega), g 3 (by omega), g 8 (by omega)]
theorem okP_acts {n : Int32} (o : okP D c k t) (h0 : 0 ≤ n ∧ n ≤ 6) (hw : wOK t n) : okP D c k (p_eve c k (p_weaves t n)) := by
  obtain ⟨m, hm, rfl⟩ := nI_upto 6 (by decide) (by omega) h0.1 h0.2
  obtain ⟨ln, H, e0, hl, e10, hH⟩ := okP_ln o
  have hH2 : H + m ≤ ln := by
    have := hw.2.1
    rw [e0, e10, show nI m ≤ nI ln - nI H ↔ m + H ≤ ln from in_stretch (by omega) (by omega) (by omega)] at this
    omega
  exact okP_eve (okP_wv o hm e0 hl e10 hH2 hw.2.2) ((wv_o (by omega)).trans hw.1)
theorem okP_undo {n : Int32} (o : okP D c k t) (h0 : 0 ≤ n ∧ n ≤ 9) (hu : uOK t n) (hD : D < 1900) : okP (D + 1) c k (p_undo k n t) := by
  obtain ⟨m, hm, rfl⟩ := nI_upto 9 (by decide) (by omega) h0.1 h0.2
  obtain ⟨ln, H, e0, hl, e10, hH⟩ := okP_ln o
  have hmH : m ≤ H := by
    have := hu.2.2.1
    rw [e10, nI_leI (by omega) (by omega)] at this
    exact this
  exact ⟨okR_undo o.1 hu.1 o.2.2.2.2.2 e10 (by omega) hmH hD, (undo_o (by omega) (by omega) (by omega) (by omega)).trans o.2.1, o.2.2.1, o.2.2.2.1, (undo_o (by omega) (by omega) (by omega) (by omega)).trans o.2.2.2.2.1, o.2.2.2.2.2⟩
theorem okP_day (o : okP D c k t) : t 8 = nI D := by
  obtain ⟨⟨_, ⟨k', e8, _⟩, _⟩, _⟩ := o
  exact e8
end

/-! what every row keeps is kept -/
theorem nI_div4 {a : Nat} (h : a < 2 ^ 31) : nI a / 4 = nI (a / 4) := by
  apply Int32.toInt_inj.mp
  rw [Int32.toInt_div, nI_toInt h, nI_toInt (by omega), show (4 : Int32).toInt = 4 from rfl, Int.tdiv_eq_ediv_of_nonneg (by omega)]
  rw [Int.bmod_eq_of_le (by omega) (by omega)]
  omega
theorem nI_sub {a b : Nat} (h : b ≤ a) : nI a - nI b = nI (a - b) := by
  have := nI_add (a - b) b
  rw [Nat.sub_add_cancel h] at this
  rw [← this]
  grind
theorem yl_nat {t : Nat → Int32} {Y Hi W : Nat} (e1 : t 1 = nI Y) (e11 : t 11 = nI Hi) (e12 : t 12 = nI W) (hW : W < 2 ^ 31) : yl t = nI Y - nI (Hi + W / 4) := by
  rw [yl, e1, e11, e12, nI_div4 hW, ← nI_add]
  grind
theorem yl_le {t : Nat → Int32} {Y Hi W v : Nat} (e1 : t 1 = nI Y) (e11 : t 11 = nI Hi) (e12 : t 12 = nI W) (hW : W < 10000) (hY : Y < 10000) (hHi : Hi < 10000) (hv : v < 10000) : nI v ≤ yl t ↔ v + (Hi + W / 4) ≤ Y := by
  rw [yl_nat e1 e11 e12 (by omega)]
  exact in_stretch (by omega) (by omega) (by omega)
theorem fr_nat {t : Nat → Int32} {H Hi m : Nat} (e10 : t 10 = nI H) (e11 : t 11 = nI Hi) (hH : H ≤ Hi) (hHi : Hi ≤ 24) (hm : m ≤ 6) : p_fr t (nI m) = nI (H + m - Hi) := by
  rw [p_fr, e10, e11, nI_add]
  by_cases q : Hi ≤ H + m
  · rw [nI_sub q]
    split
    · rfl
    · next z =>
      have : H + m - Hi = 0 := by
        rcases Nat.eq_zero_or_pos (H + m - Hi) with z2 | z2
        · exact z2
        · exact absurd (by rw [← nI_0]; exact nI_lt z2 (by omega)) z
      rw [this, nI_0]
  · have e : nI (H + m) - nI Hi = 0 - nI (Hi - (H + m)) := by
      rw [← nI_sub (by omega)]
      grind
    have p : 0 < nI (Hi - (H + m)) := by rw [← nI_0]; exact nI_lt (by omega) (by omega)
    have p2 : nI (Hi - (H + m)) ≤ 24 := by rw [nI_24]; exact nI_le (by omega) (by omega)
    rw [if_neg (by rw [e]; grind), show H + m - Hi = 0 by omega, nI_0]
theorem wants_nat {t : Nat → Int32} {H Hi W m : Nat} (e10 : t 10 = nI H) (e11 : t 11 = nI Hi) (e12 : t 12 = nI W) (hW : W < 10000) (hH : H ≤ Hi) (hHi : Hi ≤ 24) (hm : m ≤ 6) : p_wants t (nI m) = nI (H + m - Hi + (W + m - (H + m - Hi)) / 4 - W / 4) := by
  rw [p_wants, fr_nat e10 e11 hH hHi hm, e12, nI_add, nI_sub (by omega), nI_div4 (by omega), nI_div4 (by omega), nI_add, nI_sub (by omega)]
theorem nI_2000 : (2000 : Int32) = nI 2000 := by decide
theorem okT_of {t t' : Nat → Int32} {Dm Dm' D' : Nat} (h : okT Dm t) (hs : sameL t t') (hD : okD D' t') (d2 : 1 ≤ D') (d3 : D' ≤ Dm') (hm : Dm' ≤ 1900) (h9 : t' 9 = 0 ∨ t' 9 = 1) (hh : ∃ H Hi ln, t 0 = nI ln ∧ ln ≤ 24 ∧ t' 10 = nI H ∧ t' 11 = nI Hi ∧ H ≤ Hi ∧ Hi ≤ ln) (h12 : 0 ≤ t' 12 ∧ t' 12 ≤ 399) (hy : 0 ≤ yl t') (h14 : 0 ≤ t' 14 ∧ t' 14 ≤ 24) (h43 : ∀ s, s < 5 → t' (43 + s) = t (43 + s) ∨ ∃ j, j ≤ 24 ∧ t' (43 + s) = nI j) : okT Dm' t' := by
  obtain ⟨ln, c, k, H, Hi, D, ⟨o0, o1, o2⟩, ⟨o3, o4, o5⟩, ⟨o6, o7⟩, ⟨o8, o9, o10, o11⟩, ⟨o12, o13, o14⟩, o15, o16, o17, o18, o19, o20, o21, o22, o23, o24, o25, o26⟩ := h
  obtain ⟨H', Hi', ln', p0, p1, p2, p3, p4, p5⟩ := hh
  obtain ⟨k', d1, g7, gk, ⟨B, eB, hB⟩, hd⟩ := hD
  have el : ln' = ln := (nI_eq (by omega) (by omega)).mp (p0.symm.trans o0)
  subst el
  have e7 : t' 7 = nI k := (hs 7 (by omega)).trans o6
  have ek : k' = k := (nI_eq (by omega) (by omega)).mp (g7.symm.trans e7)
  subst ek
  have q01 : q9 t' ≤ 1 := by rw [q9]; split <;> omega
  refine ⟨ln', c, k', H', Hi', D', ⟨(hs 0 (by omega)).trans o0, o1, o2⟩, ⟨(hs 6 (by omega)).trans o3, o4, o5⟩, ⟨e7, o7⟩, ⟨p2, p3, p4, p5⟩, ⟨d1, d2, d3⟩, h9, ?_, ?_, ?_, ?_, ?_, h12, hy, ?_, h14, fun s hs' => ?_, fun s hs' => ?_⟩
  · rw [hs 1 (by omega)]; exact o16
  · rw [hs 2 (by omega)]; exact o17
  · rw [hs 3 (by omega)]; exact o18
  · rw [hs 4 (by omega)]; exact o19
  · rw [hs 5 (by omega)]; exact o20
  · rw [eB]
    exact ⟨nI_pos' (by omega), by rw [nI_2000]; exact nI_le (by omega) (by omega)⟩
  · rw [hs (15 + s) (by omega)]; exact o25 s hs'
  · have r := o26 s hs'
    rw [hs (23 + s) (by omega), hs (28 + s) (by omega), hs (33 + s) (by omega)]
    refine ⟨r.1, r.2.1, r.2.2.1, ?_, ?_⟩
    · obtain ⟨C, eC, hC⟩ := hd s hs'
      have : C ≤ 2000 := by
        split at hC <;> omega
      rw [eC]
      exact ⟨nI_pos' (by omega), by rw [nI_2000]; exact nI_le (by omega) (by omega)⟩
    · rcases h43 s (by omega) with e | e
      · rw [e]; exact r.2.2.2.2
      · exact Or.inr e
/-- a row that stands: its day is D -/
def okR (D : Nat) (t : Nat → Int32) : Prop := okT D t ∧ okD D t ∧ 1 ≤ D ∧ D ≤ 1900
theorem okR_wv {t : Nat → Int32} {D m ln H : Nat} (h : okR D t) (hm : m ≤ 6) (e0 : t 0 = nI ln) (hl : ln ≤ 24) (e10 : t 10 = nI H) (hH : H + m ≤ ln) (hw : p_wants t (nI m) ≤ yl t) : okR D (p_weaves t (nI m)) := by
  obtain ⟨hT, hD, d1, d2⟩ := h
  refine ⟨?_, okD_wv hD, d1, d2⟩
  have hT' := hT
  obtain ⟨ln', c, k, H', Hi, D', ⟨o0, o1, o2⟩, ⟨o3, o4, o5⟩, ⟨o6, o7⟩, ⟨o8, o9, o10, o11⟩, ⟨o12, o13, o14⟩, o15, o16, o17, o18, o19, o20, o21, o22, o23, o24, o25, o26⟩ := hT'
  have el : ln' = ln := (nI_eq (by omega) (by omega)).mp (o0.symm.trans e0)
  subst el
  have eh : H' = H := (nI_eq (by omega) (by omega)).mp (o8.symm.trans e10)
  subst eh
  obtain ⟨Y, hY, e1⟩ := nI_upto 99 (by decide) (by omega) o16.1 o16.2
  obtain ⟨W, hW, e12⟩ := nI_upto 399 (by decide) (by omega) o21.1 o21.2
  rw [wants_nat o8 o9 e12 (by omega) o10 (by omega) hm, yl_le e1 o9 e12 (by omega) (by omega) (by omega) (by omega)] at hw
  have f12 : p_weaves t (nI m) 12 = nI (W + m - (H' + m - Hi)) := by
    rw [wv_12, fr_nat o8 o9 o10 (by omega) hm, e12, nI_sub (by omega), nI_add]
    congr 1
    omega
  have f11 : p_weaves t (nI m) 11 = nI (Hi + (H' + m - Hi)) := by
    rw [wv_11, fr_nat o8 o9 o10 (by omega) hm, o9, nI_add]
  have f1 : p_weaves t (nI m) 1 = nI Y := by rw [wv_o (by omega)]; exact e1
  refine okT_of hT wv_law (okD_wv hD) d1 (Nat.le_refl _) d2 (by rw [wv_o (by omega)]; exact o15) ⟨H' + m, Hi + (H' + m - Hi), ln', o0, o2, by rw [wv_10, o8, nI_add], f11, by omega, by omega⟩ ?_ ?_ (by rw [wv_o (by omega)]; exact o24) (fun s hs => Or.inl (wv_o (by omega)))
  · rw [f12]
    exact ⟨nI_pos' (by omega), by rw [show (399 : Int32) = nI 399 by decide]; exact nI_le (by omega) (by omega)⟩
  · rw [← nI_0, yl_le f1 f11 f12 (by omega) (by omega) (by omega) (by omega)]
    omega
theorem eve_o {c k j : Nat} {t : Nat → Int32} (a1 : j < 38) (a2 : j ≠ 9) (a3 : j ≠ 13) (a4 : j ≠ 14) : p_eve c k t j = t j := by rw [p_eve, pk_un a2, p_feast_o a3 a4, p_looks_l a1]
theorem feast_14 {t : Nat → Int32} : p_feast t 14 = t 14 ∨ p_feast t 14 = t 10 := by
  unfold p_feast
  split
  · rw [pk_us]; exact Or.inr rfl
  · exact Or.inl rfl
theorem okR_eve {t : Nat → Int32} {D c k : Nat} (h : okR D t) (h9 : t 9 = 0) (hk5 : k ≤ 5) : okR D (p_eve c k t) := by
  obtain ⟨hT, hD, d1, d2⟩ := h
  refine ⟨?_, okD_eve hD h9 hk5, d1, d2⟩
  have hT' := hT
  obtain ⟨ln, c', k', H, Hi, D', ⟨o0, o1, o2⟩, ⟨o3, o4, o5⟩, ⟨o6, o7⟩, ⟨o8, o9, o10, o11⟩, ⟨o12, o13, o14⟩, o15, o16, o17, o18, o19, o20, o21, o22, o23, o24, o25, o26⟩ := hT'
  have bH : 0 ≤ t 10 ∧ t 10 ≤ 24 := by rw [o8, nI_24]; exact ⟨nI_pos' (by omega), nI_le (by omega) (by omega)⟩
  refine okT_of hT (fun j hj => eve_o (by omega) (by omega) (by omega) (by omega)) (okD_eve hD h9 hk5) d1 (Nat.le_refl _) d2 (Or.inr (by rw [p_eve, pk_us])) ⟨H, Hi, ln, o0, o2, by rw [eve_o (by omega) (by omega) (by omega) (by omega)]; exact o8, by rw [eve_o (by omega) (by omega) (by omega) (by omega)]; exact o9, o10, o11⟩ (by rw [eve_o (by omega) (by omega) (by omega) (by omega)]; exact o21) (by rw [yl_eve]; exact o22) ?_ (fun s hs => ?_)
  · rw [p_eve, pk_un (by omega)]
    rcases feast_14 (t := p_looks c k 0 t) with e | e
    · rw [e, p_looks_l (by omega)]; exact o24
    · rw [e, p_looks_l (by omega)]; exact bH
  · rw [p_eve, pk_un (by omega), p_feast_o (by omega) (by omega)]
    rcases looks_43 (c := c) hs k 0 t (by omega) with e | e
    · exact Or.inl e
    · exact Or.inr ⟨H, by omega, by rw [e, o8]⟩
theorem okR_undo {t : Nat → Int32} {D k m H : Nat} (h : okR D t) (h9 : ¬ t 9 = 0) (hk5 : k ≤ 5) (e10 : t 10 = nI H) (hH : H ≤ 24) (hm : m ≤ H) (hD19 : D < 1900) : okR (D + 1) (p_undo k (nI m) t) := by
  obtain ⟨hT, hD, d1, d2⟩ := h
  refine ⟨?_, okD_undo hD h9, by omega, by omega⟩
  have hT' := hT
  obtain ⟨ln, c', k', H', Hi, D', ⟨o0, o1, o2⟩, ⟨o3, o4, o5⟩, ⟨o6, o7⟩, ⟨o8, o9, o10, o11⟩, ⟨o12, o13, o14⟩, o15, o16, o17, o18, o19, o20, o21, o22, o23, o24, o25, o26⟩ := hT'
  have eh : H' = H := (nI_eq (by omega) (by omega)).mp (o8.symm.trans e10)
  subst eh
  refine okT_of hT (fun j hj => undo_o (by omega) (by omega) (by omega) (by omega)) (okD_undo hD h9) (by omega) (Nat.le_refl _) (by omega) (Or.inl undo_n9) ⟨H' - m, Hi, ln, o0, o2, by rw [undo_10, o8, nI_sub hm], by rw [undo_o (by omega) (by omega) (by omega) (by omega)]; exact o9, by omega, o11⟩ (by rw [undo_o (by omega) (by omega) (by omega) (by omega)]; exact o21) (by rw [yl_undo]; exact o22) (by rw [undo_o (by omega) (by omega) (by omega) (by omega)]; exact o24) (fun s hs => Or.inl (undo_43 (by omega) hk5))

/-! images -/
section
variable {G : nl_G} {l : Launch} {E : Nat × Nat} {w : nl_HW} {Post : nl_R}
theorem two_in {i : Nat} (hi : i < 2) : 0 ≤ nI i ∧ nI i ≤ 1 := ⟨nI_pos' (by omega), by rw [show (1 : Int32) = nI 1 by decide]; exact nI_le (by omega) (by omega)⟩
theorem cp_row {t im : Nat → Int32} {i : Nat} (hz : z48 t) : tr 48 (48 * i) (p_cp t im 0 (48 * i) 48) = t := by
  funext j
  rw [tr]
  by_cases q : j < 48
  · rw [if_pos q, p_cp, if_pos (by omega)]
    congr 1
    omega
  · rw [if_neg q, hz j (by omega)]
theorem cp_row_o {t im : Nat → Int32} {i x : Nat} (h : x ≠ i) : tr 48 (48 * x) (p_cp t im 0 (48 * i) 48) = tr 48 (48 * x) im := by
  refine tr_eq (fun j hj => ?_)
  rw [p_cp, if_neg (by omega)]
theorem pr_image {v : Int32} (hI : Inv E w) (h : ∀ v' w1, nxt G l E m_X10_image [.ref 139, .int v] v' w1 → Post (some (.int v')) w1) : nl_Sat G l m_X9_image [.ref 0, .int v] w Post := by
  have hI' := hI
  obtain ⟨e2, L, M, st, lf, fi, P, A, T, at_, beg, tok, val, siz, en, da, c, k, tC, tM, hLM, ⟨h0, h1⟩, g1, g2, g3, g4, ⟨kf, im, j1, j2, j3, j4, j5, j6⟩, g6, g7⟩ := hI'
  have g3' := g3
  obtain ⟨k1, ⟨u0, k2⟩, k3, k4, k5, k6, k7, k8, k9, k10, k11, k12⟩ := g3'
  have b9 : tC 9 = 0 ∨ tC 9 = 1 := by
    rw [← k6 9 (by omega)]
    by_cases q : st = 0
    · exact Or.inl ((k11 q).1 9)
    · obtain ⟨D, _, o⟩ := k12 q
      exact (okP_b o).2.2.2.2.2.1
  have hL4 : L = 4 ∨ L = 9 := by unfold gLM at hLM; omega
  refine sp_X9_image h0 k1 hL4 k3 j1 j2 j3 (fun i hi => ?_) b9 (fun q => h _ _ ⟨io_of h1, fun P2 hP => ?_⟩) (fun q q2 => h _ _ ⟨io_of h1, fun P2 hP => ?_⟩) (fun i hi ev q => ?_)
  · obtain ⟨t, y, y1, y2, _⟩ := j6 i hi
    exact ⟨⟨t, y1⟩, t, y, y2⟩
  · exact sp_X10_image h1 k4 j5 j4 (fun _ => hP _ hI) (fun z => absurd z q) (fun i hi ev z => absurd (by rw [ev]; exact two_in hi) q)
  · exact sp_X10_image h1 k4 j5 j4 (fun z => absurd q z) (fun _ _ => hP _ hI) (fun i hi ev z => absurd q2 z)
  · subst ev
    obtain ⟨D, d1, oM⟩ := k12 q
    have o1 : ∀ q, q ≠ 93 → (q < 123 + 8 * i ∨ 127 + 8 * i < q) → (q < 128 + 8 * i ∨ 130 + 8 * i < q) → (nl_hs (putC (putL w (123 + 8 * i) tC) (128 + 8 * i) tC (yl tC)) 93 (nl_za 2 (upd kf i 1))).1 q = w.1 q := fun q r1 r2 r3 => (nl_hs_n r1).trans ((putC_n (by omega)).trans (putL_n (by omega)))
    have f1 : (nl_hs (putC (putL w (123 + 8 * i) tC) (128 + 8 * i) tC (yl tC)) 93 (nl_za 2 (upd kf i 1))).2 = w.2 := rfl
    have f2 : lawAt (nl_hs (putC (putL w (123 + 8 * i) tC) (128 + 8 * i) tC (yl tC)) 93 (nl_za 2 (upd kf i 1))).1 (123 + 8 * i) tC := law_of putL_at (fun q r1 r2 => (nl_hs_n (by omega)).trans (putC_n (by omega)))
    have f3 : clothAt (nl_hs (putC (putL w (123 + 8 * i) tC) (128 + 8 * i) tC (yl tC)) 93 (nl_za 2 (upd kf i 1))).1 (128 + 8 * i) tC (yl tC) := cl_fr putC_at (fun q r1 r2 => nl_hs_n (by omega))
    have f4 : (nl_hs (putC (putL w (123 + 8 * i) tC) (128 + 8 * i) tC (yl tC)) 93 (nl_za 2 (upd kf i 1))).1 93 = nl_za 2 (upd kf i 1) := nl_hs_1
    generalize nl_hs (putC (putL w (123 + 8 * i) tC) (128 + 8 * i) tC (yl tC)) 93 (nl_za 2 (upd kf i 1)) = w1 at o1 f1 f2 f3 f4 ⊢
    have m139 : w1.1 139 = cM fi (nI P) lf st (nI A) (nI T) at_ beg tok val siz en da := (o1 139 (by omega) (by omega) (by omega)).trans h1
    refine h _ _ ⟨io_of m139, fun P2 hP => sp_X10_image m139 ((o1 144 (by omega) (by omega) (by omega)).trans k4) ((o1 146 (by omega) (by omega) (by omega)).trans j5) ((o1 147 (by omega) (by omega) (by omega)).trans j4) (fun z => absurd (two_in hi) z) (fun _ z => absurd z q) (fun i2 hi2 ev z => ?_)⟩
    have ei : i2 = i := (nI_eq (by omega) (by omega)).mp ev.symm
    subst ei
    refine hP _ ?_
    have o' : ∀ q, q ≠ 146 → q ≠ 147 → (nl_hs (nl_hs w1 146 (nl_ia 96 (p_cp tM im 0 (48 * i2) 48))) 147 (nl_za 2 (upd kf i2 1))).1 q = w1.1 q := fun q r1 r2 => (nl_hs_n r2).trans (nl_hs_n r1)
    have o : ∀ q, q ≠ 93 → (q < 123 + 8 * i2 ∨ 127 + 8 * i2 < q) → (q < 128 + 8 * i2 ∨ 130 + 8 * i2 < q) → q ≠ 146 → q ≠ 147 → (nl_hs (nl_hs w1 146 (nl_ia 96 (p_cp tM im 0 (48 * i2) 48))) 147 (nl_za 2 (upd kf i2 1))).1 q = w.1 q := fun q r1 r2 r3 r4 r5 => (o' q r4 r5).trans (o1 q r1 r2 r3)
    refine ⟨f1.trans e2, L, M, st, lf, fi, P, A, T, at_, beg, tok, val, siz, en, da, c, k, tC, tM, hLM, ⟨?_, ?_⟩, g1.fr (fun q hq => o q (by omega) (by omega) (by omega) (by omega) (by omega)), g2.fr (fun q hq => o q (by omega) (by omega) (by omega) (by omega) (by omega)), gK.fr hLM g3 (fun q hq => o q (by omega) (by omega) (by omega) (by omega) (by omega)), g4.fr (fun q hq => o q (by omega) (by omega) (by omega) (by omega) (by omega)), ⟨upd kf i2 1, p_cp tM im 0 (48 * i2) 48, ?_, ?_, ?_, nl_hs_1, ?_, fun x hx => ?_⟩, g6.fr (fun q hq => o q (by omega) (by omega) (by omega) (by omega) (by omega)), g7.fr (fun q hq => o q (by omega) (by omega) (by omega) (by omega) (by omega))⟩
    · rw [o 0 (by omega) (by omega) (by omega) (by omega) (by omega)]; exact h0
    · rw [o' 139 (by omega) (by omega)]; exact m139
    · rw [o 91 (by omega) (by omega) (by omega) (by omega) (by omega)]; exact j1
    · rw [o 92 (by omega) (by omega) (by omega) (by omega) (by omega)]; exact j2
    · rw [o' 93 (by omega) (by omega)]; exact f4
    · rw [nl_hs_n (by omega), nl_hs_1]
    · by_cases qx : x = i2
      · subst qx
        rw [cp_row k5]
        exact ⟨tC, yl tC, law_of f2 (fun q r1 r2 => o' q (by omega) (by omega)), cl_fr f3 (fun q r1 r2 => o' q (by omega) (by omega)), b9, fun _ => ⟨q, rfl, c, k, D, d1, k6, oM⟩⟩
      · obtain ⟨t, y, y1, y2, y3, y4⟩ := j6 x hx
        rw [cp_row_o qx, pk_un qx]
        exact ⟨t, y, law_of y1 (fun q r1 r2 => o q (by omega) (by omega) (by omega) (by omega) (by omega)), cl_fr y2 (fun q r1 r2 => o q (by omega) (by omega) (by omega) (by omega) (by omega)), y3, y4⟩
theorem pr_restore {v : Int32} (hI : Inv E w) (h : ∀ v' w1, nxt G l E m_X10_restore [.ref 139, .int v] v' w1 → Post (some (.int v')) w1) : nl_Sat G l m_X9_restore [.ref 0, .int v] w Post := by
  have hI' := hI
  obtain ⟨e2, L, M, st, lf, fi, P, A, T, at_, beg, tok, val, siz, en, da, c, k, tC, tM, hLM, ⟨h0, h1⟩, g1, g2, g3, ⟨p1, p2, x, bf, p3, p4, p5, p6, p7, p8⟩, g5, g6, g7⟩ := hI'
  have g5' := g5
  obtain ⟨kf, im, j1, j2, j3, j4, j5, j6⟩ := g5'
  obtain ⟨k1, ⟨u0, k2⟩, k3, k4, k5, k6, k7, k8, k9, k10, k11, k12⟩ := g3
  have hL4 : L = 4 ∨ L = 9 := by unfold gLM at hLM; omega
  obtain ⟨ti, yi, hti⟩ : ∃ (ti : Nat → Nat → Int32) (yi : Nat → Int32), ∀ i, i < 2 → lawAt w.1 (123 + 8 * i) (ti i) ∧ clothAt w.1 (128 + 8 * i) (ti i) (yi i) ∧ (ti i 9 = 0 ∨ ti i 9 = 1) ∧ (¬ kf i = 0 → ¬ st = 0 ∧ yi i = yl (ti i) ∧ ∃ c k D, D ≤ 999 ∧ agr c k (ti i) (tr 48 (48 * i) im) ∧ okP D c k (tr 48 (48 * i) im)) := by
    obtain ⟨t0, y0, q0⟩ := j6 0 (by omega)
    obtain ⟨t1, y1, q1⟩ := j6 1 (by omega)
    refine ⟨fun i => if i = 0 then t0 else t1, fun i => if i = 0 then y0 else y1, fun i hi => ?_⟩
    by_cases q : i = 0
    · subst q; exact q0
    · have : i = 1 := by omega
      subst this; exact q1
  refine sp_X9_restore h0 k1 hL4 k3 j1 j2 j3 p4 (fun i hi => ⟨(hti i hi).1, (hti i hi).2.1, (hti i hi).2.2.1⟩) (fun q => h _ _ ⟨io_of h1, fun P2 hP => ?_⟩) (fun i hi ev q => h _ _ ⟨io_of h1, fun P2 hP => ?_⟩) (fun i hi ev q => ?_)
  · exact sp_X10_restore h1 k4 j5 j4 (fun _ => hP _ hI) (fun i hi ev z => absurd (by rw [ev]; exact two_in hi) q) (fun i hi ev z => absurd (by rw [ev]; exact two_in hi) q)
  · subst ev
    refine sp_X10_restore h1 k4 j5 j4 (fun z => absurd (two_in hi) z) (fun i2 hi2 ev z => hP _ hI) (fun i2 hi2 ev z => ?_)
    have ei : i2 = i := (nI_eq (by omega) (by omega)).mp ev.symm
    subst ei
    exact absurd q z
  · subst ev
    obtain ⟨t1, t2, t3, t4⟩ := hti i hi
    obtain ⟨hst, ey, c', k', D, d1, ag, oM⟩ := t4 q
    have zu : z48 (tr 48 (48 * i) im) := tr48_z
    have cpz : p_cp im tM (48 * i) 0 48 = tr 48 (48 * i) im := by
      funext j
      rw [p_cp, tr]
      by_cases q : j < 48
      · rw [if_pos (by omega), if_pos q]
        congr 1
      · rw [if_neg (by omega), if_neg q, k5 j (by omega)]
    rw [ey]
    generalize ti i = tC' at t1 t2 t3 ag ⊢
    have o1 : ∀ q, q ≠ 17 → (q < 14 ∨ 16 < q) → (q < L ∨ L + 4 < q) → (nl_hs (putC (putL w L tC') 14 tC' (yl tC')) 17 (cP 0 0)).1 q = w.1 q := fun q r1 r2 r3 => (nl_hs_n r1).trans ((putC_n (by omega)).trans (putL_n (by omega)))
    have f1 : (nl_hs (putC (putL w L tC') 14 tC' (yl tC')) 17 (cP 0 0)).2 = w.2 := rfl
    have f2 : lawAt (nl_hs (putC (putL w L tC') 14 tC' (yl tC')) 17 (cP 0 0)).1 L tC' := law_of putL_at (fun q r1 r2 => (nl_hs_n (by omega)).trans (putC_n (by omega)))
    have f3 : clothAt (nl_hs (putC (putL w L tC') 14 tC' (yl tC')) 17 (cP 0 0)).1 14 tC' (yl tC') := cl_fr putC_at (fun q r1 r2 => nl_hs_n (by omega))
    have f4 : (nl_hs (putC (putL w L tC') 14 tC' (yl tC')) 17 (cP 0 0)).1 17 = cP 0 0 := nl_hs_1
    generalize nl_hs (putC (putL w L tC') 14 tC' (yl tC')) 17 (cP 0 0) = w1 at o1 f1 f2 f3 f4 ⊢
    have m139 : w1.1 139 = cM fi (nI P) lf st (nI A) (nI T) at_ beg tok val siz en da := (o1 139 (by omega) (by omega) (by omega)).trans h1
    refine h _ _ ⟨io_of m139, fun P2 hP => sp_X10_restore m139 ((o1 144 (by omega) (by omega) (by omega)).trans k4) ((o1 146 (by omega) (by omega) (by omega)).trans j5) ((o1 147 (by omega) (by omega) (by omega)).trans j4) (fun z => absurd (two_in hi) z) (fun i2 hi2 ev z => ?_) (fun i2 hi2 ev z => ?_)⟩
    · have ei : i2 = i := (nI_eq (by omega) (by omega)).mp ev.symm
      subst ei
      exact absurd z q
    · have ei : i2 = i := (nI_eq (by omega) (by omega)).mp ev.symm
      subst ei
      rw [cpz]
      refine hP _ ?_
      generalize tr 48 (48 * i2) im = tM' at ag oM zu
      have o' : ∀ q, q ≠ 139 → q ≠ 144 → (nl_hs (nl_hs w1 144 (nl_ia 48 tM')) 139 (cM fi (nI P) lf st 0 (nI T) at_ beg tok val siz en da)).1 q = w1.1 q := fun q r1 r2 => (nl_hs_n r1).trans (nl_hs_n r2)
      have o : ∀ q, q ≠ 17 → (q < 14 ∨ 16 < q) → (q < L ∨ L + 4 < q) → q ≠ 139 → q ≠ 144 → (nl_hs (nl_hs w1 144 (nl_ia 48 tM')) 139 (cM fi (nI P) lf st 0 (nI T) at_ beg tok val siz en da)).1 q = w.1 q := fun q r1 r2 r3 r4 r5 => (o' q r4 r5).trans (o1 q r1 r2 r3)
      have z0 : (0 : Int32) = nI 0 := by decide
      refine ⟨f1.trans e2, L, M, st, lf, fi, P, 0, T, at_, beg, tok, val, siz, en, da, c', k', tC', tM', hLM, ⟨?_, ?_⟩, g1.fr (fun q hq => o q (by omega) (by omega) (by omega) (by omega) (by omega)), g2.fr (fun q hq => o q (by omega) (by omega) (by omega) (by omega) (by omega)), ⟨law_of f2 (fun q r1 r2 => o' q (by omega) (by omega)), ⟨u0, law_of k2 (fun q r1 r2 => o q (by unfold gLM at hLM; omega) (by unfold gLM at hLM; omega) (by unfold gLM at hLM; omega) (by unfold gLM at hLM; omega) (by unfold gLM at hLM; omega))⟩, cl_fr f3 (fun q r1 r2 => o' q (by omega) (by omega)), ?_, zu, ag, oM.2.2.2.1, oM.2.2.2.2.2, oM.2.1, oM.2.2.2.2.1, fun z => absurd z hst, fun _ => ⟨D, d1, oM⟩⟩, ⟨by omega, fun _ => rfl, 0, bf, by omega, ?_, ?_, ?_, fun i hi => ?_, fun j hj => by omega⟩, g5.fr (fun q hq => o q (by omega) (by omega) (by omega) (by omega) (by omega)), g6.fr (fun q hq => o q (by omega) (by omega) (by omega) (by omega) (by omega)), g7.fr (fun q hq => o q (by omega) (by omega) (by omega) (by omega) (by omega))⟩
      · rw [o 0 (by omega) (by omega) (by omega) (by omega) (by omega)]; exact h0
      · rw [nl_hs_1, nI_0]
      · rw [nl_hs_n (by omega), nl_hs_1]
      · rw [o' 17 (by omega) (by omega), nI_0]; exact f4
      · rw [o 18 (by omega) (by omega) (by omega) (by omega) (by omega)]; exact p5
      · rw [o 145 (by omega) (by omega) (by omega) (by omega) (by omega)]; exact p6
      · obtain ⟨u2, z2, q2⟩ := p7 i hi
        exact ⟨u2, z2, cl_fr q2 (fun q r1 r2 => o q (by omega) (by omega) (by omega) (by omega) (by omega))⟩
end

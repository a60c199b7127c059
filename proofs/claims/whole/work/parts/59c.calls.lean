/-! acts: unpick, undo -/
theorem okT_mono {D D' : Nat} {t : Nat → Int32} (h : okT D t) (hd : D ≤ D') : okT D' t := by
  obtain ⟨ln, c, k, H, Hi, Dd, o0, o1, o2, o3, ⟨o4, o5, o6⟩, o7⟩ := h
  exact ⟨ln, c, k, H, Hi, Dd, o0, o1, o2, o3, ⟨o4, o5, by omega⟩, o7⟩
section
variable {G : nl_G} {l : Launch} {E : Nat × Nat} {w : nl_HW} {Post : nl_R}
theorem pr_unpick {n : Int32} (hI : Inv E w) (h : ∀ v' w1, nxt G l E m_X10_unpick [.ref 139, .int n] v' w1 → Post (some (.int v')) w1) : nl_Sat G l m_X9_unpick [.ref 0, .int n] w Post := by
  have hI' := hI
  obtain ⟨e2, L, M, st, lf, fi, P, A, T, at_, beg, tok, val, siz, en, da, c, k, tC, tM, hLM, ⟨h0, h1⟩, g1, g2, ⟨k1, ⟨u0, k2⟩, k3, k4, k5, k6, k7, k8, k9, k10, k11, k12⟩, ⟨p1, p2, x, bf, p3, p4, p5, p6, p7, p8⟩, g5, g6, g7⟩ := hI'
  obtain ⟨D, hD⟩ : ∃ D, ¬ st = 0 → D ≤ 999 ∧ okP D c k tM := by
    by_cases q : st = 0
    · exact ⟨0, fun z => absurd q z⟩
    · obtain ⟨D, d1, d2⟩ := k12 q; exact ⟨D, fun _ => ⟨d1, d2⟩⟩
  have hC : ¬ st = 0 → okT D tC := fun q => (agr_okP (agr_s k6) (hD q).2).1.1
  have hM : ¬ st = 0 → okT 999 tM := fun q => okT_mono (hD q).2.1.1 (hD q).1
  have hL4 : L = 4 ∨ L = 9 := by unfold gLM at hLM; omega
  have e8 := k6 8 (by omega)
  refine sp_X9_unpick h0 k1 hL4 k3 p4 p5 p3 p1 (p7 x p3) hC ((k6 7 (by omega)).symm.trans k10) k8 (fun q => h _ _ ⟨io_of h1, fun P2 hP => ?_⟩) (fun q q2 => h _ _ ⟨io_of h1, fun P2 hP => ?_⟩) (fun q q2 q3 => h _ _ ⟨io_of h1, fun P2 hP => ?_⟩) (fun q q2 q3 q4 => h _ _ ⟨io_of h1, fun P2 hP => ?_⟩) (fun q q2 q3 q4 => ?_)
  · exact sp_X10_unpick h1 k4 p6 p1 hM k10 k8 (fun _ => hP _ hI) (fun z => absurd q z) (fun z => absurd q z) (fun z => absurd q z) (fun z => absurd q z)
  · exact sp_X10_unpick h1 k4 p6 p1 hM k10 k8 (fun z => absurd z q) (fun _ _ => hP _ hI) (fun _ z => absurd z q2) (fun _ z => absurd z q2) (fun _ z => absurd z q2)
  · exact sp_X10_unpick h1 k4 p6 p1 hM k10 k8 (fun z => absurd z q) (fun _ z => absurd q2 z) (fun _ _ _ => hP _ hI) (fun _ _ z => absurd (by rw [← agr_uok k6]; exact z) q3) (fun _ _ z => absurd (by rw [← agr_uok k6]; exact z) q3)
  · exact sp_X10_unpick h1 k4 p6 p1 hM k10 k8 (fun z => absurd z q) (fun _ z => absurd q2 z) (fun _ _ z => absurd (by rw [agr_uok k6]; exact q3) z) (fun _ _ _ _ => hP _ hI) (fun _ _ _ z => absurd (by rw [← e8]; exact z) q4)
  · obtain ⟨d1, oM⟩ := hD q
    have ag : agr c k (p_undo k n tC) (p_undo k n tM) := agr_undo k6
    have q3M : uOK tM n := by rw [agr_uok k6]; exact q3
    have q4M : tM 8 < 999 := by rw [e8]; exact q4
    have d9 : D + 1 ≤ 999 := by
      have := q4M
      rw [okP_day oM, show (999 : Int32) = nI 999 by decide, nI_ltI (by omega) (by omega)] at this
      omega
    have o2 := okP_undo oM q2 q3M (by omega)
    have ylC : yl tC = yl (p_undo k n tC) := yl_undo.symm
    have sl : sameL tC (p_undo k n tC) := un_law
    have slM : sameL tM (p_undo k n tM) := un_law
    have z2 : z48 (p_undo k n tM) := z48_undo k8 k5
    have hw1 : putC (keepW w x A tC (yl tC)) 14 (p_undo k n tC) (yl tC) = putC (keepW w x A tC (yl tC)) 14 (p_undo k n tC) (yl (p_undo k n tC)) := by rw [← ylC]
    rw [hw1]
    have cM' : clothAt w.1 14 tM (yl tM) := by rw [agr_yl k6]; exact cloth_agr k6 k3
    have o1 : ∀ q, q ≠ 17 → (q < 19 + 3 * x ∨ 19 + 3 * x + 2 < q) → (q < 14 ∨ 16 < q) → (putC (keepW w x A tC (yl tC)) 14 (p_undo k n tC) (yl (p_undo k n tC))).1 q = w.1 q := fun q y1 y2 y3 => (putC_n (by omega)).trans (keepW_n y2 y1)
    have f1 : (putC (keepW w x A tC (yl tC)) 14 (p_undo k n tC) (yl (p_undo k n tC))).2 = w.2 := rfl
    have f2 : clothAt (putC (keepW w x A tC (yl tC)) 14 (p_undo k n tC) (yl (p_undo k n tC))).1 14 (p_undo k n tC) (yl (p_undo k n tC)) := putC_at
    have f3 : (putC (keepW w x A tC (yl tC)) 14 (p_undo k n tC) (yl (p_undo k n tC))).1 17 = cP (nI (nxR x)) (nI (nxA A)) := (putC_n (by omega)).trans nl_hs_1
    have f4 : clothAt (putC (keepW w x A tC (yl tC)) 14 (p_undo k n tC) (yl (p_undo k n tC))).1 (19 + 3 * x) tC (yl tC) := cl_fr (cloth_of (putC_at (w := w) (a := 19 + 3 * x) (t := tC) (y := yl tC)) (nl_hs_n (by omega)) (nl_hs_n (by omega)) (nl_hs_n (by omega))) (fun q r1 r2 => putC_n (by omega))
    have e10 : p_undo k n tC 10 = p_undo k n tM 10 := (ag 10 (by omega)).symm
    rw [e10]
    generalize putC (keepW w x A tC (yl tC)) 14 (p_undo k n tC) (yl (p_undo k n tC)) = w1 at o1 f1 f2 f3 f4 ⊢
    generalize p_undo k n tC = tC' at ag sl f2
    have m139 : w1.1 139 = cM fi (nI P) lf st (nI A) (nI T) at_ beg tok val siz en da := (o1 139 (by omega) (by omega) (by omega)).trans h1
    refine h _ _ ⟨io_of m139, fun P2 hP => sp_X10_unpick m139 ((o1 144 (by omega) (by omega) (by omega)).trans k4) ((o1 145 (by omega) (by omega) (by omega)).trans p6) p1 hM k10 k8 (fun z => absurd z q) (fun _ z => absurd q2 z) (fun _ _ z => absurd q3M z) (fun _ _ _ z => absurd q4M z) (fun _ _ _ _ => hP _ ?_)⟩
    generalize p_undo k n tM = tM' at ag o2 slM z2
    have o : ∀ q, q ≠ 17 → (q < 19 + 3 * x ∨ 19 + 3 * x + 2 < q) → (q < 14 ∨ 16 < q) → q ≠ 139 → q ≠ 144 → q ≠ 145 → (nl_hs (remW w1 A tM bf (cM fi (nI P) lf st (nI (nxA A)) (nI T) at_ beg tok val siz en da)) 144 (nl_ia 48 tM')).1 q = w.1 q := fun q y1 y2 y3 y4 y5 y6 => by
      rw [nl_hs_n y5, remW, nl_hs_n y4, nl_hs_n y6]
      exact o1 q y1 y2 y3
    have o' : ∀ q, q ≠ 139 → q ≠ 144 → q ≠ 145 → (nl_hs (remW w1 A tM bf (cM fi (nI P) lf st (nI (nxA A)) (nI T) at_ beg tok val siz en da)) 144 (nl_ia 48 tM')).1 q = w1.1 q := fun q y4 y5 y6 => by
      rw [nl_hs_n y5, remW, nl_hs_n y4, nl_hs_n y6]
    refine ⟨f1.trans e2, L, M, st, lf, fi, P, nxA A, T, at_, beg, tok, val, siz, en, da, c, k, tC', tM', hLM, ⟨?_, ?_⟩, g1.fr (fun q hq => o q (by omega) (by omega) (by omega) (by omega) (by omega) (by omega)), g2.fr (fun q hq => o q (by omega) (by omega) (by omega) (by omega) (by omega) (by omega)), ⟨lawAt.to (law_of k1 (fun q r1 r2 => o q (by omega) (by omega) (by omega) (by omega) (by omega) (by omega))) sl, ⟨u0, law_of k2 (fun q r1 r2 => o q (by unfold gLM at hLM; omega) (by unfold gLM at hLM; omega) (by unfold gLM at hLM; omega) (by unfold gLM at hLM; omega) (by unfold gLM at hLM; omega) (by unfold gLM at hLM; omega))⟩, cl_fr f2 (fun q r1 r2 => o' q (by omega) (by omega) (by omega)), nl_hs_1, z2, ag, k7, k8, o2.2.1, o2.2.2.2.2.1, fun z => absurd z q, fun _ => ⟨D + 1, d9, o2⟩⟩, ?_, g5.fr (fun q hq => o q (by omega) (by omega) (by omega) (by omega) (by omega) (by omega)), g6.fr (fun q hq => o q (by omega) (by omega) (by omega) (by omega) (by omega) (by omega)), g7.fr (fun q hq => o q (by omega) (by omega) (by omega) (by omega) (by omega) (by omega))⟩
    · rw [o 0 (by omega) (by omega) (by omega) (by omega) (by omega) (by omega)]; exact h0
    · rw [nl_hs_n (by omega), remW, nl_hs_1]
    · refine gP_keep p1 p3 p5 p7 p8 k5 d1 oM q slM ?_ ?_ ?_ (fun q y1 y2 y3 => ?_)
      · rw [o' 17 (by omega) (by omega) (by omega)]; exact f3
      · rw [nl_hs_n (by omega), remW, nl_hs_n (by omega), nl_hs_1]
      · rw [agr_yl k6]
        exact cl_fr (cloth_agr k6 f4) (fun q r1 r2 => o' q (by omega) (by omega) (by omega))
      · exact o q (by omega) y3 (by omega) (by omega) (by omega) (by omega)
def mix (t u : Nat → Int32) : Nat → Int32 := fun i => if i < 8 ∨ (15 ≤ i ∧ i < 38) then t i else u i
theorem mix_law {t u : Nat → Int32} : sameL t (mix t u) := fun j hj => by rw [mix, if_pos hj]
theorem mix_o {t u : Nat → Int32} {j : Nat} (hj : ¬ (j < 8 ∨ (15 ≤ j ∧ j < 38))) : mix t u j = u j := by rw [mix, if_neg hj]
theorem mix_cloth {h : Nat → va_E} {a : Nat} {t u : Nat → Int32} {y : Int32} (g : clothAt h a u y) : clothAt h a (mix t u) y := by
  obtain ⟨c1, c2, c3⟩ := g
  refine ⟨?_, ?_, ?_⟩
  · rw [c1]
    simp only [cC]
    rw [mix_o (by omega), mix_o (by omega), mix_o (by omega), mix_o (by omega), mix_o (by omega), mix_o (by omega), mix_o (by omega)]
  · rw [c2, tr_eq (fun i hi => mix_o (by omega))]
  · rw [c3, tr_eq (fun i hi => mix_o (by omega))]
theorem pr_undo (hI : Inv E w) (h : ∀ v' w1, nxt G l E m_X10_undo [.ref 139] v' w1 → Post (some (.int v')) w1) : nl_Sat G l m_X9_undo [.ref 0] w Post := by
  have hI' := hI
  obtain ⟨e2, L, M, st, lf, fi, P, A, T, at_, beg, tok, val, siz, en, da, c, k, tC, tM, hLM, ⟨h0, h1⟩, g1, g2, ⟨k1, ⟨u0, k2⟩, k3, k4, k5, k6, k7, k8, k9, k10, k11, k12⟩, ⟨p1, p2, x, bf, p3, p4, p5, p6, p7, p8⟩, g5, g6, g7⟩ := hI'
  have pos : ∀ B, A = B + 1 → (x + 24 - A + B) % 24 = if 0 < x then x - 1 else 23 := fun B e => by
    split <;> omega
  refine sp_X9_undo (t := tr 48 (48 * (A - 1)) bf) (y := yl (tr 48 (48 * (A - 1)) bf)) h0 k3 p4 p5 p3 p1 (fun q => h _ _ ⟨io_of h1, fun P2 hP => ?_⟩) (fun q => ?_) (fun B eB => ?_)
  · exact sp_X10_undo h1 k4 p6 p1 (fun _ => hP _ hI) (fun B z => by omega)
  · obtain ⟨y1, y2, D, y3, y4⟩ := p8 (A - 1) (by omega)
    rw [pos (A - 1) (by omega)] at y1
    exact ⟨y1, (okP_b y4).2.2.2.2.2.1⟩
  · have hst : ¬ st = 0 := fun z => by have := p2 z; omega
    obtain ⟨y1, y2, D, y3, y4⟩ := p8 B (by omega)
    rw [show A - 1 = B by omega]
    have zu : z48 (tr 48 (48 * B) bf) := tr48_z
    have cpz : p_cp bf tM (48 * B) 0 48 = tr 48 (48 * B) bf := by
      funext i
      rw [p_cp, tr]
      by_cases q : i < 48
      · rw [if_pos (by omega), if_pos q]
        congr 1
      · rw [if_neg (by omega), if_neg q, k5 i (by omega)]
    generalize hu : tr 48 (48 * B) bf = u at y1 y2 y4 zu cpz ⊢
    have xx : (if 0 < x then x - 1 else 23) < 24 := by split <;> omega
    have px : ∀ j, j < B → ((if 0 < x then x - 1 else 23) + 24 - B + j) % 24 = (x + 24 - A + j) % 24 := fun j hj => by
      split
      · congr 1; omega
      · omega
    generalize (if 0 < x then x - 1 else 23) = x' at xx px ⊢
    have o1 : ∀ q, q ≠ 17 → (q < 14 ∨ 16 < q) → (putC (nl_hs w 17 (cP (nI x') (nI B))) 14 u (yl u)).1 q = w.1 q := fun q r1 r2 => (putC_n (by omega)).trans (nl_hs_n r1)
    have f1 : (putC (nl_hs w 17 (cP (nI x') (nI B))) 14 u (yl u)).2 = w.2 := rfl
    have f2 : clothAt (putC (nl_hs w 17 (cP (nI x') (nI B))) 14 u (yl u)).1 14 u (yl u) := putC_at
    have f3 : (putC (nl_hs w 17 (cP (nI x') (nI B))) 14 u (yl u)).1 17 = cP (nI x') (nI B) := (putC_n (by omega)).trans nl_hs_1
    generalize putC (nl_hs w 17 (cP (nI x') (nI B))) 14 u (yl u) = w1 at o1 f1 f2 f3 ⊢
    have m139 : w1.1 139 = cM fi (nI P) lf st (nI A) (nI T) at_ beg tok val siz en da := (o1 139 (by omega) (by omega)).trans h1
    refine h _ _ ⟨io_of m139, fun P2 hP => sp_X10_undo m139 ((o1 144 (by omega) (by omega)).trans k4) ((o1 145 (by omega) (by omega)).trans p6) p1 (fun z => by omega) (fun B2 eB2 => ?_)⟩
    have eb : B2 = B := by omega
    subst eb
    rw [cpz]
    refine hP _ ?_
    have o' : ∀ q, q ≠ 139 → q ≠ 144 → (nl_hs (nl_hs w1 139 (cM fi (nI P) lf st (nI B2) (nI T) at_ beg tok val siz en da)) 144 (nl_ia 48 u)).1 q = w1.1 q := fun q r1 r2 => (nl_hs_n r2).trans (nl_hs_n r1)
    have o : ∀ q, q ≠ 17 → (q < 14 ∨ 16 < q) → q ≠ 139 → q ≠ 144 → (nl_hs (nl_hs w1 139 (cM fi (nI P) lf st (nI B2) (nI T) at_ beg tok val siz en da)) 144 (nl_ia 48 u)).1 q = w.1 q := fun q r1 r2 r3 r4 => (o' q r3 r4).trans (o1 q r1 r2)
    have yC : yl u = yl (mix tC u) := by
      refine (yl_of ?_ (mix_o (by omega)) (mix_o (by omega))).symm
      rw [mix, if_pos (by omega), ← k6 1 (by omega), y2 1 (by omega)]
    have ag : agr c k (mix tC u) u := fun j hj => by
      by_cases q : j < 8 ∨ (15 ≤ j ∧ j < 38)
      · rw [mix, if_pos q, ← k6 j hj, y2 j q]
      · rw [mix_o q]
    have lM : sameL u tM := fun j hj => (y2 j hj).symm
    refine ⟨f1.trans e2, L, M, st, lf, fi, P, B2, T, at_, beg, tok, val, siz, en, da, c, k, mix tC u, u, hLM, ⟨?_, ?_⟩, g1.fr (fun q hq => o q (by omega) (by omega) (by omega) (by omega)), g2.fr (fun q hq => o q (by omega) (by omega) (by omega) (by omega)), ⟨lawAt.to (law_of k1 (fun q r1 r2 => o q (by unfold gLM at hLM; omega) (by unfold gLM at hLM; omega) (by unfold gLM at hLM; omega) (by unfold gLM at hLM; omega))) mix_law, ⟨u0, law_of k2 (fun q r1 r2 => o q (by unfold gLM at hLM; omega) (by unfold gLM at hLM; omega) (by unfold gLM at hLM; omega) (by unfold gLM at hLM; omega))⟩, ?_, nl_hs_1, zu, ag, k7, k8, y4.2.1, y4.2.2.2.2.1, fun z => absurd z hst, fun _ => ⟨D, y3, y4⟩⟩, ⟨by omega, fun z => absurd z hst, x', bf, xx, ?_, ?_, ?_, fun i hi => ?_, fun j hj => ?_⟩, g5.fr (fun q hq => o q (by omega) (by omega) (by omega) (by omega)), g6.fr (fun q hq => o q (by omega) (by omega) (by omega) (by omega)), g7.fr (fun q hq => o q (by omega) (by omega) (by omega) (by omega))⟩
    · rw [o 0 (by omega) (by omega) (by omega) (by omega)]; exact h0
    · rw [nl_hs_n (by omega), nl_hs_1]
    · rw [← yC]
      exact mix_cloth (cl_fr f2 (fun q r1 r2 => o' q (by omega) (by omega)))
    · rw [o' 17 (by omega) (by omega)]; exact f3
    · rw [o 18 (by omega) (by omega) (by omega) (by omega)]; exact p5
    · rw [o 145 (by omega) (by omega) (by omega) (by omega)]; exact p6
    · obtain ⟨u2, z2, q2⟩ := p7 i hi
      exact ⟨u2, z2, cl_fr q2 (fun q r1 r2 => o q (by omega) (by omega) (by omega) (by omega))⟩
    · obtain ⟨z1, z2, z3⟩ := p8 j (by omega)
      rw [px j hj]
      have lt := Nat.mod_lt (x + 24 - A + j) (y := 24) (by omega)
      exact ⟨cl_fr z1 (fun q r1 r2 => o q (by omega) (by omega) (by omega) (by omega)), sameL_trans lM z2, z3⟩
end

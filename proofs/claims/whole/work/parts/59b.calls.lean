/-! acts: weave, unpick, undo -/
section
variable {G : nl_G} {l : Launch} {E : Nat × Nat} {w : nl_HW} {Post : nl_R}
theorem pr_weave {n : Int32} (hI : Inv E w) (h : ∀ v' w1, nxt G l E m_X10_weave [.ref 139, .int n] v' w1 → Post (some (.int v')) w1) : nl_Sat G l m_X9_weave [.ref 0, .int n] w Post := by
  have hI' := hI
  obtain ⟨e2, L, M, st, lf, fi, P, A, T, at_, beg, tok, val, siz, en, da, c, k, tC, tM, hLM, ⟨h0, h1⟩, g1, g2, ⟨k1, ⟨u0, k2⟩, k3, k4, k5, k6, k7, k8, k9, k10, k11, k12⟩, ⟨p1, p2, x, bf, p3, p4, p5, p6, p7, p8⟩, g5, g6, g7⟩ := hI'
  obtain ⟨D, hD⟩ : ∃ D, ¬ st = 0 → D ≤ 999 ∧ okP D c k tM := by
    by_cases q : st = 0
    · exact ⟨0, fun z => absurd q z⟩
    · obtain ⟨D, d1, d2⟩ := k12 q; exact ⟨D, fun _ => ⟨d1, d2⟩⟩
  have hC : ¬ st = 0 → okT D tC := fun q => (agr_okP (agr_s k6) (hD q).2).1.1
  have hM : ¬ st = 0 → okT D tM := fun q => (hD q).2.1.1
  have hL4 : L = 4 ∨ L = 9 := by unfold gLM at hLM; omega
  refine sp_X9_weave h0 k1 hL4 k3 p4 p5 p3 p1 (p7 x p3) rfl hC ((k6 6 (by omega)).symm.trans k9) k7 ((k6 7 (by omega)).symm.trans k10) k8 (fun q => h _ _ ⟨io_of h1, fun P2 hP => ?_⟩) (fun q q2 => h _ _ ⟨io_of h1, fun P2 hP => ?_⟩) (fun q q2 q3 => h _ _ ⟨io_of h1, fun P2 hP => ?_⟩) (fun q q2 q3 => ?_)
  · exact sp_X10_weave h1 k4 p6 p1 hM k9 k7 k10 k8 (fun _ => hP _ hI) (fun z => absurd q z) (fun z => absurd q z) (fun z => absurd q z)
  · exact sp_X10_weave h1 k4 p6 p1 hM k9 k7 k10 k8 (fun z => absurd z q) (fun _ _ => hP _ hI) (fun _ z => absurd z q2) (fun _ z => absurd z q2)
  · exact sp_X10_weave h1 k4 p6 p1 hM k9 k7 k10 k8 (fun z => absurd z q) (fun _ z => absurd q2 z) (fun _ _ _ => hP _ hI) (fun _ _ z => absurd (by rw [← agr_wok k6]; exact z) q3)
  · obtain ⟨d1, oM⟩ := hD q
    have hc1 := oM.2.2.1
    have ag : agr c k (p_eve c k (p_weaves tC n)) (p_eve c k (p_weaves tM n)) := agr_eve (agr_wv k6) hc1
    have q3M : wOK tM n := by rw [agr_wok k6]; exact q3
    have o2 := okP_acts oM q2 q3M
    have ylC : yl tC - p_wants tC n = yl (p_eve c k (p_weaves tC n)) := by rw [yl_eve, yl_wv]
    have sl : sameL tC (p_eve c k (p_weaves tC n)) := sameL_trans wv_law eve_law
    have slM : sameL tM (p_eve c k (p_weaves tM n)) := sameL_trans wv_law eve_law
    have z2 : z48 (p_eve c k (p_weaves tM n)) := z48_eve k8 (z48_wv k5)
    rw [ylC]
    have cM' : clothAt w.1 14 tM (yl tM) := by rw [agr_yl k6]; exact cloth_agr k6 k3
    have o1 : ∀ q, q ≠ 17 → (q < 19 + 3 * x ∨ 19 + 3 * x + 2 < q) → (q < 14 ∨ 16 < q) → (putC (keepW w x A tC (yl tC)) 14 (p_eve c k (p_weaves tC n)) (yl (p_eve c k (p_weaves tC n)))).1 q = w.1 q := fun q y1 y2 y3 => (putC_n (by omega)).trans (keepW_n y2 y1)
    have f1 : (putC (keepW w x A tC (yl tC)) 14 (p_eve c k (p_weaves tC n)) (yl (p_eve c k (p_weaves tC n)))).2 = w.2 := rfl
    have f2 : clothAt (putC (keepW w x A tC (yl tC)) 14 (p_eve c k (p_weaves tC n)) (yl (p_eve c k (p_weaves tC n)))).1 14 (p_eve c k (p_weaves tC n)) (yl (p_eve c k (p_weaves tC n))) := putC_at
    have f3 : (putC (keepW w x A tC (yl tC)) 14 (p_eve c k (p_weaves tC n)) (yl (p_eve c k (p_weaves tC n)))).1 17 = cP (nI (nxR x)) (nI (nxA A)) := (putC_n (by omega)).trans nl_hs_1
    have f4 : clothAt (putC (keepW w x A tC (yl tC)) 14 (p_eve c k (p_weaves tC n)) (yl (p_eve c k (p_weaves tC n)))).1 (19 + 3 * x) tC (yl tC) := cl_fr (cloth_of (putC_at (w := w) (a := 19 + 3 * x) (t := tC) (y := yl tC)) (nl_hs_n (by omega)) (nl_hs_n (by omega)) (nl_hs_n (by omega))) (fun q r1 r2 => putC_n (by omega))
    have e10 : p_eve c k (p_weaves tC n) 10 = p_eve c k (p_weaves tM n) 10 := (ag 10 (by omega)).symm
    rw [e10]
    generalize putC (keepW w x A tC (yl tC)) 14 (p_eve c k (p_weaves tC n)) (yl (p_eve c k (p_weaves tC n))) = w1 at o1 f1 f2 f3 f4 ⊢
    generalize p_eve c k (p_weaves tC n) = tC' at ag sl f2
    have m139 : w1.1 139 = cM fi (nI P) lf st (nI A) (nI T) at_ beg tok val siz en da := (o1 139 (by omega) (by omega) (by omega)).trans h1
    refine h _ _ ⟨io_of m139, fun P2 hP => sp_X10_weave m139 ((o1 144 (by omega) (by omega) (by omega)).trans k4) ((o1 145 (by omega) (by omega) (by omega)).trans p6) p1 hM k9 k7 k10 k8 (fun z => absurd z q) (fun _ z => absurd q2 z) (fun _ _ z => absurd q3M z) (fun _ _ _ => hP _ ?_)⟩
    generalize p_eve c k (p_weaves tM n) = tM' at ag o2 slM z2
    have o : ∀ q, q ≠ 17 → (q < 19 + 3 * x ∨ 19 + 3 * x + 2 < q) → (q < 14 ∨ 16 < q) → q ≠ 139 → q ≠ 144 → q ≠ 145 → (nl_hs (remW w1 A tM bf (cM fi (nI P) lf st (nI (nxA A)) (nI T) at_ beg tok val siz en da)) 144 (nl_ia 48 tM')).1 q = w.1 q := fun q y1 y2 y3 y4 y5 y6 => by
      rw [nl_hs_n y5, remW, nl_hs_n y4, nl_hs_n y6]
      exact o1 q y1 y2 y3
    have o' : ∀ q, q ≠ 139 → q ≠ 144 → q ≠ 145 → (nl_hs (remW w1 A tM bf (cM fi (nI P) lf st (nI (nxA A)) (nI T) at_ beg tok val siz en da)) 144 (nl_ia 48 tM')).1 q = w1.1 q := fun q y4 y5 y6 => by
      rw [nl_hs_n y5, remW, nl_hs_n y4, nl_hs_n y6]
    refine ⟨f1.trans e2, L, M, st, lf, fi, P, nxA A, T, at_, beg, tok, val, siz, en, da, c, k, tC', tM', hLM, ⟨?_, ?_⟩, g1.fr (fun q hq => o q (by omega) (by omega) (by omega) (by omega) (by omega) (by omega)), g2.fr (fun q hq => o q (by omega) (by omega) (by omega) (by omega) (by omega) (by omega)), ⟨lawAt.to (law_of k1 (fun q r1 r2 => o q (by omega) (by omega) (by omega) (by omega) (by omega) (by omega))) sl, ⟨u0, law_of k2 (fun q r1 r2 => o q (by unfold gLM at hLM; omega) (by unfold gLM at hLM; omega) (by unfold gLM at hLM; omega) (by unfold gLM at hLM; omega) (by unfold gLM at hLM; omega) (by unfold gLM at hLM; omega))⟩, cl_fr f2 (fun q r1 r2 => o' q (by omega) (by omega) (by omega)), nl_hs_1, z2, ag, k7, k8, o2.2.1, o2.2.2.2.2.1, fun z => absurd z q, fun _ => ⟨D, d1, o2⟩⟩, ?_, g5.fr (fun q hq => o q (by omega) (by omega) (by omega) (by omega) (by omega) (by omega)), g6.fr (fun q hq => o q (by omega) (by omega) (by omega) (by omega) (by omega) (by omega)), g7.fr (fun q hq => o q (by omega) (by omega) (by omega) (by omega) (by omega) (by omega))⟩
    · rw [o 0 (by omega) (by omega) (by omega) (by omega) (by omega) (by omega)]; exact h0
    · rw [nl_hs_n (by omega), remW, nl_hs_1]
    · refine gP_keep p1 p3 p5 p7 p8 k5 d1 oM q slM ?_ ?_ ?_ (fun q y1 y2 y3 => ?_)
      · rw [o' 17 (by omega) (by omega) (by omega)]; exact f3
      · rw [nl_hs_n (by omega), remW, nl_hs_n (by omega), nl_hs_1]
      · rw [agr_yl k6]
        exact cl_fr (cloth_agr k6 f4) (fun q r1 r2 => o' q (by omega) (by omega) (by omega))
      · exact o q (by omega) y3 (by omega) (by omega) (by omega) (by omega)
end

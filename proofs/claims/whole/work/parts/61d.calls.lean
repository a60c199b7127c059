/-! loom -/
section
variable {G : nl_G} {l : Launch} {E : Nat × Nat} {w : nl_HW} {Post : nl_R}
theorem begin_o {t : Nat → Int32} {j : Nat} (h : j < 8 ∨ (15 ≤ j ∧ j < 38)) : p_begin t j = t j := by
  rw [p_begin, if_neg (by omega), if_neg (by omega), if_neg (by omega), if_neg (by omega)]
theorem fin_r00 {T : Nat → Int32} {P j : Nat} (h1 : 8 ≤ j) (h2 : j < 15 ∨ 38 ≤ j) : (pFin T P r00).2 j = r00 j := by
  rw [pFin, pSu, sui_n (by omega) (by omega) 6 0 _ (by omega)]
  dsimp only
  rw [pk_un (by omega), cs_n (by omega) (by omega)]
  exact lw_n (by omega)
def cut48 (t : Nat → Int32) : Nat → Int32 := fun j => if j < 48 then t j else 0
theorem cut_at {t : Nat → Int32} {j : Nat} (h : j < 48) : cut48 t j = t j := if_pos h
theorem cut_cloth {h : Nat → va_E} {a : Nat} {t : Nat → Int32} {y : Int32} (g : clothAt h a t y) : clothAt h a (cut48 t) y := by
  obtain ⟨c1, c2, c3⟩ := g
  refine ⟨?_, ?_, ?_⟩
  · rw [c1]
    simp only [cC]
    rw [cut_at (by omega), cut_at (by omega), cut_at (by omega), cut_at (by omega), cut_at (by omega), cut_at (by omega), cut_at (by omega)]
  · rw [c2, tr_eq (fun i hi => cut_at (by omega))]
  · rw [c3, tr_eq (fun i hi => cut_at (by omega))]
theorem begin_law {u : Nat → Int32} : sameL u (cut48 (p_begin u)) := fun j hj => by rw [cut_at (by omega), begin_o hj]
theorem begin_yl {u : Nat → Int32} : yl (cut48 (p_begin u)) = u 1 := by
  have a1 : cut48 (p_begin u) 1 = u 1 := begin_law 1 (by omega)
  have a2 : cut48 (p_begin u) 11 = 0 := rfl
  have a3 : cut48 (p_begin u) 12 = 0 := rfl
  rw [yl, a1, a2, a3, show (0 : Int32) / 4 = 0 by decide]
  grind
theorem begin_agr {T u : Nat → Int32} {P c k : Nat} (h : lawEq u (pFin T P r00).2) (o : okP 1 c k (pFin T P r00).2) : agr c k (cut48 (p_begin u)) (pFin T P r00).2 := by
  intro j hj
  have c8 := o.2.2.2.1
  have k5 := o.2.2.2.2.2
  by_cases q : j < 8 ∨ (15 ≤ j ∧ j < 38)
  · rw [begin_law j q]
    exact (h c k o.2.1 o.2.2.2.2.1 c8 k5 j (by omega)).symm
  · rw [fin_r00 (by omega) (by omega), r00, cut48]
    by_cases q48 : j < 48
    · rw [if_pos q48, p_begin]
      by_cases q8 : j = 8
      · rw [if_pos q8, if_pos q8]
      · rw [if_neg q8, if_neg q8]
        by_cases q9 : 9 ≤ j ∧ j < 15
        · rw [if_pos q9, if_neg (by omega)]
        · rw [if_neg q9]
          by_cases q38 : 38 ≤ j ∧ j < 43
          · rw [if_pos q38, if_neg (by omega)]
          · rw [if_neg q38, if_pos (by omega), if_pos (by omega)]
    · rw [if_neg q48, if_neg (by omega), if_neg (by omega)]
theorem gI_st {h : Nat → va_E} {st st' : Int32} (g : gI h st) (hs : ¬ st' = 0) : gI h st' := by
  obtain ⟨kf, im, x1, x2, x3, x4, x5, x6⟩ := g
  refine ⟨kf, im, x1, x2, x3, x4, x5, fun i hi => ?_⟩
  obtain ⟨t, y, y1, y2, y3, y4⟩ := x6 i hi
  exact ⟨t, y, y1, y2, y3, fun q => ⟨hs, (y4 q).2⟩⟩
theorem pr_loom (hI : Inv E w) (h : ∀ v' w1, nxt G l E m_X10_loom [.ref 139] v' w1 → Post (some (.int v')) w1) : nl_Sat G l m_X9_loom [.ref 0] w Post := by
  have hI' := hI
  obtain ⟨e2, L, M, st, lf, fi, P, A, T, at_, beg, tok, val, siz, en, da, c, k, tC, tM, hLM, ⟨h0, h1⟩, g1, ⟨p0, F, b1, b2, b3, b4, b5, t1, t2, t3, t4⟩, g3, g4, g5, g6, g7⟩ := hI'
  have g3' := g3
  obtain ⟨k1, ⟨u0, k2⟩, k3, k4, k5, k6, k7, k8, k9, k10, k11, k12⟩ := g3'
  have g4' := g4
  obtain ⟨p1, p2, x, bf, p3, p4, p5, p6, p7, p8⟩ := g4'
  have g6' := g6
  obtain ⟨g60, g61, g62, g63, g64, ⟨r9, z9, g65⟩, g66⟩ := g6'
  refine sp_X9_loom (r := r00) h0 hLM t1 t2 p0 k2 k3 p4 (fun W1 f p u _ ep w2 wo w0 w2' wl => ?_) (fun W1 p u ep le w2 wo w0 w2' wl wc wp => ?_)
  · have m139 : W1.1 139 = cM fi (nI P) lf st (nI A) (nI T) at_ beg tok val siz en da := (wo 139 (by omega) (by omega) (by unfold gLM at hLM; omega)).trans h1
    refine h _ _ ⟨io_of m139, fun P2 hP => sp_X10_loom m139 ((wo 144 (by omega) (by omega) (by unfold gLM at hLM; omega)).trans k4) k5 ((wo 149 (by omega) (by omega) (by unfold gLM at hLM; omega)).trans g65) z9 ((wo 143 (by omega) (by omega) (by unfold gLM at hLM; omega)).trans t3) p0 t4 (fun W2 f2 p2 ep2 q1 q2 q3 q4 => ?_) (fun W2 p2 ep2 => ?_)⟩
    · rw [ep] at ep2
      cases ep2
      refine hP _ ?_
      obtain ⟨x1, x2, x3, x4, q3⟩ := q3
      obtain ⟨y1, y2, y3, y4, y5, w2'⟩ := w2'
      obtain ⟨r, zr, q4⟩ := q4
      have o : ∀ q, q ≠ 0 → q ≠ 2 → (q < M ∨ M + 4 < q) → q ≠ 139 → q ≠ 149 → W2.1 q = w.1 q := fun q r1 r2 r3 r4 r5 => (q2 q r4 r5).trans (wo q r1 r2 r3)
      have hM9 : M = 4 ∨ M = 9 := by unfold gLM at hLM; omega
      refine ⟨(q1.trans w2).trans e2, L, M, st, nI f, fi, 0, A, T, x1, x2, x3, x4, nI P, en, da, c, k, tC, tM, hLM, ⟨(q2 0 (by omega) (by omega)).trans w0, by rw [nI_0]; exact q3⟩, g1.fr (fun q hq => o q (by omega) (by omega) (by omega) (by omega) (by omega)), ⟨by omega, F, y1, y2, y3, y4, y5, by rw [nI_0]; exact (q2 2 (by omega) (by omega)).trans w2', (o 3 (by omega) (by omega) (by omega) (by omega) (by omega)).trans t2, (o 143 (by omega) (by omega) (by omega) (by omega) (by omega)).trans t3, fun j hj => by omega⟩, ⟨law_of k1 (fun q r1 r2 => o q (by unfold gLM at hLM; omega) (by unfold gLM at hLM; omega) (by unfold gLM at hLM; omega) (by unfold gLM at hLM; omega) (by unfold gLM at hLM; omega)), ⟨u, law_of wl (fun q r1 r2 => q2 q (by omega) (by omega))⟩, cl_fr k3 (fun q r1 r2 => o q (by omega) (by omega) (by omega) (by omega) (by omega)), (o 144 (by omega) (by omega) (by omega) (by omega) (by omega)).trans k4, k5, k6, k7, k8, k9, k10, k11, k12⟩, g4.fr (fun q hq => o q (by omega) (by omega) (by omega) (by omega) (by omega)), g5.fr (fun q hq => o q (by omega) (by omega) (by omega) (by omega) (by omega)), ⟨?_, ?_, ?_, ?_, ?_, ⟨r, zr, q4⟩, ?_⟩, g7.fr (fun q hq => o q (by omega) (by omega) (by omega) (by omega) (by omega))⟩
      · obtain ⟨y1, y2, y3, y4, y5, y6, y7, y8, e⟩ := g60
        exact ⟨y1, y2, y3, y4, y5, y6, y7, y8, (o 94 (by omega) (by omega) (by omega) (by omega) (by omega)).trans e⟩
      · obtain ⟨u, e⟩ := g61
        exact ⟨u, law_of e (fun q r1 r2 => o q (by omega) (by omega) (by omega) (by omega) (by omega))⟩
      · obtain ⟨u, z, e⟩ := g62
        exact ⟨u, z, cl_fr e (fun q r1 r2 => o q (by omega) (by omega) (by omega) (by omega) (by omega))⟩
      · obtain ⟨y1, y2, y3, e⟩ := g63
        exact ⟨y1, y2, y3, (o 103 (by omega) (by omega) (by omega) (by omega) (by omega)).trans e⟩
      · obtain ⟨y1, y2, y3, e⟩ := g64
        exact ⟨y1, y2, y3, (o 104 (by omega) (by omega) (by omega) (by omega) (by omega)).trans e⟩
      · obtain ⟨r, z, e⟩ := g66
        exact ⟨r, z, (o 150 (by omega) (by omega) (by omega) (by omega) (by omega)).trans e⟩
    · rw [ep] at ep2
      cases ep2
  · have hM9 : M = 4 ∨ M = 9 := by unfold gLM at hLM; omega
    have m139 : W1.1 139 = cM fi (nI P) lf st (nI A) (nI T) at_ beg tok val siz en da := (wo 139 (by omega) (by omega) (by omega) (by omega) (by omega)).trans h1
    obtain ⟨c', k', oM⟩ := fin_ok (T := F) (P := P) ⟨p, ep⟩
    have e7 : u 7 = (pFin F P r00).2 7 := le c' k' oM.2.1 oM.2.2.2.2.1 oM.2.2.2.1 oM.2.2.2.2.2 7 (by omega)
    rw [e7]
    refine h _ _ ⟨io_of m139, fun P2 hP => sp_X10_loom m139 ((wo 144 (by omega) (by omega) (by omega) (by omega) (by omega)).trans k4) k5 ((wo 149 (by omega) (by omega) (by omega) (by omega) (by omega)).trans g65) z9 ((wo 143 (by omega) (by omega) (by omega) (by omega) (by omega)).trans t3) p0 t4 (fun W2 f2 p2 ep2 => ?_) (fun W2 p2 ep2 q1 q2 q3 q4 q5 q6 => ?_)⟩
    · rw [ep] at ep2
      cases ep2
    · refine hP _ ?_
      obtain ⟨x1, x2, x3, x4, q3⟩ := q3
      obtain ⟨y1, y2, y3, y4, y5, w2'⟩ := w2'
      obtain ⟨r, zr, q4⟩ := q4
      have ag := begin_agr le oM
      have o : ∀ q, q ≠ 0 → q ≠ 2 → q ≠ 17 → (q < M ∨ M + 4 < q) → (q < 14 ∨ 16 < q) → q ≠ 139 → q ≠ 149 → q ≠ 144 → W2.1 q = w.1 q := fun q r1 r2 r3 r4 r5 r6 r7 r8 => (q2 q r6 r7 r8).trans (wo q r1 r2 r3 r4 r5)
      have wc' : clothAt W1.1 14 (cut48 (p_begin u)) (yl (cut48 (p_begin u))) := by
        rw [begin_yl]
        exact cut_cloth wc
      refine ⟨(q1.trans w2).trans e2, M, L, 1, lf, fi, 0, 0, T, x1, x2, x3, x4, nI P, en, da, c', k', cut48 (p_begin u), (pFin F P r00).2, by unfold gLM at hLM ⊢; omega, ⟨(q2 0 (by omega) (by omega) (by omega)).trans w0, by rw [nI_0]; exact q3⟩, g1.fr (fun q hq => o q (by omega) (by omega) (by omega) (by omega) (by omega) (by omega) (by omega) (by omega)), ⟨by omega, F, y1, y2, y3, y4, y5, by rw [nI_0]; exact (q2 2 (by omega) (by omega) (by omega)).trans w2', (o 3 (by omega) (by omega) (by omega) (by omega) (by omega) (by omega) (by omega) (by omega)).trans t2, (o 143 (by omega) (by omega) (by omega) (by omega) (by omega) (by omega) (by omega) (by omega)).trans t3, fun j hj => by omega⟩, ⟨lawAt.to (law_of wl (fun q r1 r2 => q2 q (by omega) (by omega) (by omega))) begin_law, ⟨tC, law_of k1 (fun q r1 r2 => o q (by unfold gLM at hLM; omega) (by unfold gLM at hLM; omega) (by unfold gLM at hLM; omega) (by unfold gLM at hLM; omega) (by unfold gLM at hLM; omega) (by unfold gLM at hLM; omega) (by unfold gLM at hLM; omega) (by unfold gLM at hLM; omega))⟩, cl_fr wc' (fun q r1 r2 => q2 q (by omega) (by omega) (by omega)), q5, q6, ag, oM.2.2.2.1, oM.2.2.2.2.2, oM.2.1, oM.2.2.2.2.1, fun z => absurd z (by decide), fun _ => ⟨1, by omega, oM⟩⟩, ⟨by omega, fun _ => rfl, 0, bf, by omega, ?_, ?_, ?_, fun i hi => ?_, fun j hj => by omega⟩, gI_st (g5.fr (fun q hq => o q (by omega) (by omega) (by omega) (by omega) (by omega) (by omega) (by omega) (by omega))) (by decide), ⟨?_, ?_, ?_, ?_, ?_, ⟨r, zr, q4⟩, ?_⟩, g7.fr (fun q hq => o q (by omega) (by omega) (by omega) (by omega) (by omega) (by omega) (by omega) (by omega))⟩
      · rw [q2 17 (by omega) (by omega) (by omega), nI_0]; exact wp
      · rw [o 18 (by omega) (by omega) (by omega) (by omega) (by omega) (by omega) (by omega) (by omega)]; exact p5
      · rw [o 145 (by omega) (by omega) (by omega) (by omega) (by omega) (by omega) (by omega) (by omega)]; exact p6
      · obtain ⟨u2, z2, q2⟩ := p7 i hi
        exact ⟨u2, z2, cl_fr q2 (fun q r1 r2 => o q (by omega) (by omega) (by omega) (by omega) (by omega) (by omega) (by omega) (by omega))⟩
      · obtain ⟨y1, y2, y3, y4, y5, y6, y7, y8, e⟩ := g60
        exact ⟨y1, y2, y3, y4, y5, y6, y7, y8, (o 94 (by omega) (by omega) (by omega) (by omega) (by omega) (by omega) (by omega) (by omega)).trans e⟩
      · obtain ⟨u, e⟩ := g61
        exact ⟨u, law_of e (fun q r1 r2 => o q (by omega) (by omega) (by omega) (by omega) (by omega) (by omega) (by omega) (by omega))⟩
      · obtain ⟨u, z, e⟩ := g62
        exact ⟨u, z, cl_fr e (fun q r1 r2 => o q (by omega) (by omega) (by omega) (by omega) (by omega) (by omega) (by omega) (by omega))⟩
      · obtain ⟨y1, y2, y3, e⟩ := g63
        exact ⟨y1, y2, y3, (o 103 (by omega) (by omega) (by omega) (by omega) (by omega) (by omega) (by omega) (by omega)).trans e⟩
      · obtain ⟨y1, y2, y3, e⟩ := g64
        exact ⟨y1, y2, y3, (o 104 (by omega) (by omega) (by omega) (by omega) (by omega) (by omega) (by omega) (by omega)).trans e⟩
      · obtain ⟨r, z, e⟩ := g66
        exact ⟨r, z, (o 150 (by omega) (by omega) (by omega) (by omega) (by omega) (by omega) (by omega) (by omega)).trans e⟩
end

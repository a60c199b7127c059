/-! foretold, twice, seen -/
section
variable {G : nl_G} {l : Launch} {E : Nat × Nat} {w w1 w2 : nl_HW} {Post : nl_R} {u v a b : Int32} {L M P A T c k : Nat} {st lf fi at_ beg tok val siz en da : Int32} {tC tM : Nat → Int32}
theorem Inv_scr (e2 : w.2 = E) (hLM : gLM L M) (h0 : w.1 0 = cX L M st lf fi) (g : gAll w.1 L M st P A T c k tC tM) (hs : scr w w1) (hm : scm (cM fi (nI P) lf st (nI A) (nI T) at_ beg tok val siz) w1 w2) : Inv E w2 := by
  obtain ⟨s1, s2, s3, s4, s5⟩ := hs
  obtain ⟨m1, m2, ⟨en', da', m3⟩, r, zr, m4⟩ := hm
  obtain ⟨g1, g2, g3, g4, g5, ⟨_, _, _, ⟨x1, x2, x3, g63⟩, ⟨x4, x5, x6, g64⟩, ⟨r9, z9, g65⟩, _⟩, g7⟩ := g
  have o : ∀ q, q < 94 ∨ 102 < q → q ≠ 139 → q ≠ 150 → w2.1 q = w.1 q := fun q r1 r2 r3 => (m2 q r2 r3).trans (s2 q r1)
  have o1 : ∀ q, q ≠ 139 → q ≠ 150 → w2.1 q = w1.1 q := m2
  refine ⟨(m1.trans s1).trans e2, L, M, st, lf, fi, P, A, T, at_, beg, tok, val, siz, en', da', c, k, tC, tM, hLM, ⟨(o 0 (by omega) (by omega) (by omega)).trans h0, m3⟩, g1.fr (fun q hq => o q (by omega) (by omega) (by omega)), g2.fr (fun q hq => o q (by omega) (by omega) (by omega)), gK.fr hLM g3 (fun q hq => o q (by omega) (by omega) (by omega)), g4.fr (fun q hq => o q (by omega) (by omega) (by omega)), g5.fr (fun q hq => o q (by omega) (by omega) (by omega)), ⟨?_, ?_, ?_, ⟨x1, x2, x3, (o 103 (by omega) (by omega) (by omega)).trans g63⟩, ⟨x4, x5, x6, (o 104 (by omega) (by omega) (by omega)).trans g64⟩, ⟨r9, z9, (o 149 (by omega) (by omega) (by omega)).trans g65⟩, r, zr, m4⟩, g7.fr (fun q hq => o q (by omega) (by omega) (by omega))⟩
  · obtain ⟨a1, a2, a3, a4, a5, a6, a7, a8, e⟩ := s3
    exact ⟨a1, a2, a3, a4, a5, a6, a7, a8, (o1 94 (by omega) (by omega)).trans e⟩
  · obtain ⟨u, e⟩ := s4
    exact ⟨u, law_of e (fun q r1 r2 => o1 q (by omega) (by omega))⟩
  · obtain ⟨u, z, e⟩ := s5
    exact ⟨u, z, cl_fr e (fun q r1 r2 => o1 q (by omega) (by omega))⟩
theorem pr_holds (hI : Inv E w) (h : ∀ v' w1, nxt G l E m_X10_holds [.ref 139, .int a, .int b, .int v] v' w1 → Post (some (.int v')) w1) : nl_Sat G l m_X9_holds [.ref 0, .int a, .int b, .int v] w Post := by
  have hI' := hI
  obtain ⟨e2, L, M, st, lf, fi, P, A, T, at_, beg, tok, val, siz, en, da, c, k, tC, tM, hLM, ⟨h0, h1⟩, gall⟩ := hI'
  have gall' : gAll w.1 L M st P A T c k tC tM := gall
  obtain ⟨g1, g2, ⟨k1, k2, k3, k4, k5, k6, k7, k8, k9, k10, k11, k12⟩, g4, g5, ⟨⟨s1, s2, s3, s4, s5, s6, s7, s8, g60⟩, ⟨u95, g61⟩, ⟨u100, z100, g62⟩, g63, g64, g65, gg, zg, g66⟩, g7⟩ := gall
  have hL4 : L = 4 ∨ L = 9 := by unfold gLM at hLM; omega
  obtain ⟨D, hD⟩ : ∃ D, ¬ st = 0 → D ≤ 999 ∧ okP D c k tM := by
    by_cases q : st = 0
    · exact ⟨0, fun z => absurd q z⟩
    · obtain ⟨D, d1, d2⟩ := k12 q; exact ⟨D, fun _ => ⟨d1, d2⟩⟩
  have hM : ¬ st = 0 → okP D c k tM ∧ D ≤ 1000 := fun q => ⟨(hD q).2, by have := (hD q).1; omega⟩
  have hC : ¬ st = 0 → okP D c k tC ∧ D ≤ 1000 := fun q => ⟨agr_okP (agr_s k6) (hD q).2, by have := (hD q).1; omega⟩
  refine sp_X9_holds h0 g60 k1 hL4 g61 k3 g62 hC (fun q => h _ _ ⟨io_of h1, fun P2 hP => ?_⟩) (fun q q2 => h _ _ ⟨io_of h1, fun P2 hP => ?_⟩) (fun q q2 w1 hs => ?_)
  · exact sp_X10_holds h1 k4 g66 k5 zg hM (fun _ => hP _ hI) (fun z => absurd q z) (fun z => absurd q z)
  · exact sp_X10_holds h1 k4 g66 k5 zg hM (fun z => absurd z q) (fun _ _ => hP _ hI) (fun _ z => absurd z q2)
  · have o := hs.2.1
    have m139 : w1.1 139 = cM fi (nI P) lf st (nI A) (nI T) at_ beg tok val siz en da := (o 139 (by omega)).trans h1
    refine h _ _ ⟨io_of m139, fun P2 hP => sp_X10_holds m139 ((o 144 (by omega)).trans k4) ((o 150 (by omega)).trans g66) k5 zg hM (fun z => absurd z q) (fun _ z => absurd q2 z) (fun _ _ w2 hm => ?_)⟩
    rw [agr_hold k6 (hD q).2.2.2.1]
    exact hP _ (Inv_scr e2 hLM h0 gall' hs hm)
theorem pr_longest (hI : Inv E w) (h : ∀ v' w1, nxt G l E m_X10_longest [.ref 139, .int v] v' w1 → Post (some (.int v')) w1) : nl_Sat G l m_X9_longest [.ref 0, .int v] w Post := by
  have hI' := hI
  obtain ⟨e2, L, M, st, lf, fi, P, A, T, at_, beg, tok, val, siz, en, da, c, k, tC, tM, hLM, ⟨h0, h1⟩, gall⟩ := hI'
  have gall' : gAll w.1 L M st P A T c k tC tM := gall
  obtain ⟨g1, g2, ⟨k1, k2, k3, k4, k5, k6, k7, k8, k9, k10, k11, k12⟩, g4, g5, ⟨⟨s1, s2, s3, s4, s5, s6, s7, s8, g60⟩, ⟨u95, g61⟩, ⟨u100, z100, g62⟩, g63, g64, g65, gg, zg, g66⟩, g7⟩ := gall
  have hL4 : L = 4 ∨ L = 9 := by unfold gLM at hLM; omega
  obtain ⟨D, hD⟩ : ∃ D, ¬ st = 0 → D ≤ 999 ∧ okP D c k tM := by
    by_cases q : st = 0
    · exact ⟨0, fun z => absurd q z⟩
    · obtain ⟨D, d1, d2⟩ := k12 q; exact ⟨D, fun _ => ⟨d1, d2⟩⟩
  have hM : ¬ st = 0 → okP D c k tM ∧ D ≤ 1000 := fun q => ⟨(hD q).2, by have := (hD q).1; omega⟩
  have hC : ¬ st = 0 → okP D c k tC ∧ D ≤ 1000 := fun q => ⟨agr_okP (agr_s k6) (hD q).2, by have := (hD q).1; omega⟩
  refine sp_X9_longest h0 g60 k1 hL4 g61 k3 g62 hC (fun q => h _ _ ⟨io_of h1, fun P2 hP => ?_⟩) (fun q q2 => h _ _ ⟨io_of h1, fun P2 hP => ?_⟩) (fun q q2 w1 hs => ?_)
  · exact sp_X10_longest h1 k4 g66 k5 zg hM (fun _ => hP _ hI) (fun z => absurd q z) (fun z => absurd q z)
  · exact sp_X10_longest h1 k4 g66 k5 zg hM (fun z => absurd z q) (fun _ _ => hP _ hI) (fun _ z => absurd z q2)
  · have o := hs.2.1
    have m139 : w1.1 139 = cM fi (nI P) lf st (nI A) (nI T) at_ beg tok val siz en da := (o 139 (by omega)).trans h1
    refine h _ _ ⟨io_of m139, fun P2 hP => sp_X10_longest m139 ((o 144 (by omega)).trans k4) ((o 150 (by omega)).trans g66) k5 zg hM (fun z => absurd z q) (fun _ z => absurd q2 z) (fun _ _ w2 hm => ?_)⟩
    rw [agr_lg k6 (hD q).2.2.2.1]
    exact hP _ (Inv_scr e2 hLM h0 gall' hs hm)
theorem pr_soonest (hI : Inv E w) (h : ∀ v' w1, nxt G l E m_X10_soonest [.ref 139, .int u, .int a, .int b, .int v] v' w1 → Post (some (.int v')) w1) : nl_Sat G l m_X9_soonest [.ref 0, .int u, .int a, .int b, .int v] w Post := by
  have hI' := hI
  obtain ⟨e2, L, M, st, lf, fi, P, A, T, at_, beg, tok, val, siz, en, da, c, k, tC, tM, hLM, ⟨h0, h1⟩, gall⟩ := hI'
  have gall' : gAll w.1 L M st P A T c k tC tM := gall
  obtain ⟨g1, g2, ⟨k1, k2, k3, k4, k5, k6, k7, k8, k9, k10, k11, k12⟩, g4, g5, ⟨⟨s1, s2, s3, s4, s5, s6, s7, s8, g60⟩, ⟨u95, g61⟩, ⟨u100, z100, g62⟩, g63, g64, g65, gg, zg, g66⟩, g7⟩ := gall
  have hL4 : L = 4 ∨ L = 9 := by unfold gLM at hLM; omega
  have hz : st = 0 → k = 0 := fun q => (k11 q).2.2
  obtain ⟨D, hD⟩ : ∃ D, ¬ st = 0 → D ≤ 999 ∧ okP D c k tM := by
    by_cases q : st = 0
    · exact ⟨0, fun z => absurd q z⟩
    · obtain ⟨D, d1, d2⟩ := k12 q; exact ⟨D, fun _ => ⟨d1, d2⟩⟩
  have hM : 0 < k → okP D c k tM ∧ D ≤ 1000 := fun q => by
    have hq : ¬ st = 0 := fun z => by have := hz z; omega
    exact ⟨(hD hq).2, by have := (hD hq).1; omega⟩
  have hC : ¬ st = 0 → okP D c k tC ∧ D ≤ 1000 := fun q => ⟨agr_okP (agr_s k6) (hD q).2, by have := (hD q).1; omega⟩
  refine sp_X9_soonest h0 g60 k1 hL4 g61 k3 g62 hC ((k6 7 (by omega)).symm.trans k10) k8 hz (fun q => h _ _ ⟨io_of h1, fun P2 hP => ?_⟩) (fun s hs2 ev q2 w1 hs => ?_)
  · exact sp_X10_soonest h1 k4 g66 k5 zg hM k10 k8 (fun _ => hP _ hI) (fun s hs2 ev z => absurd (q.elim (fun q => q s hs2 ev) (fun q => q z)) (fun x => x))
  · have o := hs.2.1
    have m139 : w1.1 139 = cM fi (nI P) lf st (nI A) (nI T) at_ beg tok val siz en da := (o 139 (by omega)).trans h1
    refine h _ _ ⟨io_of m139, fun P2 hP => sp_X10_soonest m139 ((o 144 (by omega)).trans k4) ((o 150 (by omega)).trans g66) k5 zg hM k10 k8 (fun z => absurd (z.elim (fun z => z s hs2 ev) (fun z => z q2)) (fun x => x)) (fun s3 hs3 ev3 _ w2 hm => ?_)⟩
    have es : s3 = s := (nI_eq (by omega) (by omega)).mp (ev3.symm.trans ev)
    subst es
    rw [agr_soon k6 (hM (by omega)).1.2.2.1 hs2]
    exact hP _ (Inv_scr e2 hLM h0 gall' hs hm)
theorem pr_twice (hI : Inv E w) (h : ∀ v' w1, nxt G l E m_X10_twice [.ref 139, .int v] v' w1 → Post (some (.int v')) w1) : nl_Sat G l m_X9_twice [.ref 0, .int v] w Post := by
  have hI' := hI
  obtain ⟨e2, L, M, st, lf, fi, P, A, T, at_, beg, tok, val, siz, en, da, c, k, tC, tM, hLM, ⟨h0, h1⟩, g1, g2, g3, g4, g5, ⟨g60, g61, g62, ⟨t1, t2, t3, g63⟩, g64, g65, g66⟩, g7⟩ := hI'
  have g3' := g3
  obtain ⟨k1, k2, k3, k4, k5, k6, k7, k8, k9, k10, k11, k12⟩ := g3'
  have hL4 : L = 4 ∨ L = 9 := by unfold gLM at hLM; omega
  obtain ⟨ln, ho⟩ : ∃ ln, ¬ st = 0 → tM 0 = nI ln ∧ ln ≤ 24 ∧ tM 6 = nI c ∧ 1 ≤ c ∧ c ≤ 8 := by
    by_cases q : st = 0
    · exact ⟨0, fun z => absurd q z⟩
    · obtain ⟨D, _, o⟩ := k12 q
      obtain ⟨ln, H, a1, a2, a3, a4⟩ := okP_ln o
      exact ⟨ln, fun _ => ⟨a1, a2, k9, o.2.2.1, k7⟩⟩
  have ho2 : ¬ st = 0 → tC 0 = nI ln ∧ ln ≤ 24 ∧ tC 6 = nI c ∧ 1 ≤ c ∧ c ≤ 8 := fun q => by
    obtain ⟨a1, a2, a3, a4, a5⟩ := ho q
    exact ⟨(k6 0 (by omega)).symm.trans a1, a2, (k6 6 (by omega)).symm.trans a3, a4, a5⟩
  refine sp_X9_twice h0 g63 k1 hL4 ho2 (fun q => h _ _ ⟨io_of h1, fun P2 hP => ?_⟩) (fun q q2 => h _ _ ⟨io_of h1, fun P2 hP => ?_⟩) (fun q q2 x y z => ?_)
  · exact sp_X10_twice h1 k4 ho (fun _ => hP _ hI) (fun z => absurd q z) (fun z => absurd q z)
  · exact sp_X10_twice h1 k4 ho (fun z => absurd z q) (fun _ _ => hP _ hI) (fun _ z => absurd z q2)
  · have m139 : (nl_hs w 103 (cT x y z)).1 139 = cM fi (nI P) lf st (nI A) (nI T) at_ beg tok val siz en da := (nl_hs_n (by omega)).trans h1
    refine h _ _ ⟨io_of m139, fun P2 hP => sp_X10_twice m139 ((nl_hs_n (by omega)).trans k4) ho (fun z => absurd z q) (fun _ z => absurd q2 z) (fun _ _ => ?_)⟩
    rw [agr_two k6 (ho q).2.2.2.1]
    refine hP _ ?_
    have o : ∀ q, q ≠ 103 → (nl_hs w 103 (cT x y z)).1 q = w.1 q := fun q hq => nl_hs_n hq
    refine ⟨e2, L, M, st, lf, fi, P, A, T, at_, beg, tok, val, siz, en, da, c, k, tC, tM, hLM, ⟨(o 0 (by omega)).trans h0, m139⟩, g1.fr (fun q hq => o q (by omega)), g2.fr (fun q hq => o q (by omega)), gK.fr hLM g3 (fun q hq => o q (by omega)), g4.fr (fun q hq => o q (by omega)), g5.fr (fun q hq => o q (by omega)), ⟨?_, ?_, ?_, ⟨x, y, z, nl_hs_1⟩, ?_, ?_, ?_⟩, g7.fr (fun q hq => o q (by omega))⟩
    · obtain ⟨a1, a2, a3, a4, a5, a6, a7, a8, e⟩ := g60
      exact ⟨a1, a2, a3, a4, a5, a6, a7, a8, (o 94 (by omega)).trans e⟩
    · obtain ⟨u, e⟩ := g61
      exact ⟨u, law_of e (fun q r1 r2 => o q (by omega))⟩
    · obtain ⟨u, z, e⟩ := g62
      exact ⟨u, z, cl_fr e (fun q r1 r2 => o q (by omega))⟩
    · obtain ⟨a, b, c, e⟩ := g64
      exact ⟨a, b, c, (o 104 (by omega)).trans e⟩
    · obtain ⟨r, z, e⟩ := g65
      exact ⟨r, z, (o 149 (by omega)).trans e⟩
    · obtain ⟨r, z, e⟩ := g66
      exact ⟨r, z, (o 150 (by omega)).trans e⟩
end

/-! asked, foretold -/
section
variable {G : nl_G} {l : Launch} {E : Nat × Nat} {w : nl_HW} {Post : nl_R} {u v a b : Int32}
theorem pl_eq {f f' : Nat → Int32} : ∀ (xs : List Int32) T j, (j < T → f j = f' j) → j < T + xs.length → pl xs T f j = pl xs T f' j
  | [], T, j, h, hj => h (by simpa using hj)
  | x :: xs, T, j, h, hj => by
    rw [pl, pl]
    refine pl_eq (f := upd f T x) (f' := upd f' T x) xs (T + 1) j (fun q => ?_) (by simp only [List.length_cons] at hj; omega)
    by_cases z : j = T
    · subst z; rw [pk_us, pk_us]
    · rw [pk_un z, pk_un z]; exact h (by omega)
theorem okP_so {c k D : Nat} {t : Nat → Int32} (o : okP D c k t) : ∀ s, s < k → ∃ q, 1 ≤ q ∧ q ≤ 5 ∧ t (23 + s) = nI q := fun s hs => by
  obtain ⟨_, a1, a2⟩ := (okP_S o s hs).1
  obtain ⟨q, hq, e⟩ := nI_upto 5 (by decide) (by omega) (show 0 ≤ t (23 + s) by grind) a2
  refine ⟨q, ?_, hq, e⟩
  rw [e, show (1 : Int32) = nI 1 by decide, nI_leI (by omega) (by omega)] at a1
  exact a1
theorem pr_as (hG : (G.2.1 1).2 = (6, nearF)) (hI : Inv E w) (h : ∀ v' w1, nxt G l E m_X10_as [.ref 139, .int v, .int u] v' w1 → Post (some (.int v')) w1) : nl_Sat G l m_X9_as [.ref 0, .int v, .int u] w Post := by
  have hI' := hI
  obtain ⟨e2, L, M, st, lf, fi, P, A, T, at_, beg, tok, val, siz, en, da, c, k, tC, tM, hLM, ⟨h0, h1⟩, gall⟩ := hI'
  have gall' : gAll w.1 L M st P A T c k tC tM := gall
  obtain ⟨g1, g2, ⟨k1, k2, k3, k4, k5, k6, k7, k8, k9, k10, k11, k12⟩, g4⟩ := gall
  have hz : st = 0 → k = 0 := fun q => (k11 q).2.2
  have hsM : ∀ s, s < k → ∃ o, 1 ≤ o ∧ o ≤ 5 ∧ tM (23 + s) = nI o := fun s hs => by
    obtain ⟨D, _, o⟩ := k12 (fun q => by have := hz q; omega)
    exact okP_so o s hs
  have hsC : ∀ s, s < k → ∃ o, 1 ≤ o ∧ o ≤ 5 ∧ tC (23 + s) = nI o := fun s hs => by
    rw [← k6 (23 + s) (by omega)]
    exact hsM s hs
  have m0 : ∀ f, (nl_hs w 0 (cX L M st lf f)).1 139 = cM fi (nI P) lf st (nI A) (nI T) at_ beg tok val siz en da := fun f => (nl_hs_n (by omega)).trans h1
  have m4 : ∀ f, (nl_hs w 0 (cX L M st lf f)).1 144 = nl_ia 48 tM := fun f => (nl_hs_n (by omega)).trans k4
  have five : ∀ {b : Nat}, b ≤ 5 → 0 ≤ nI b ∧ nI b ≤ 5 := fun hb => ⟨nI_pos' (by omega), by rw [nI_5]; exact nI_le hb (by omega)⟩
  refine sp_X9_as hG h0 k1 ((k6 7 (by omega)).symm.trans k10) k8 hz hsC (fun q => h _ _ ⟨io_of h1, fun P2 hP => ?_⟩) (fun s o b hs ev eo o1 o5 b5 eu q => h _ _ ⟨io_of (m0 _), fun P2 hP => ?_⟩) (fun s o b hs ev eo o1 o5 b5 eu q => h _ _ ⟨io_of (m0 _), fun P2 hP => ?_⟩)
  · exact sp_X10_as h1 k4 k10 k8 hsM (fun _ => hP _ hI) (fun s o b hs ev eo o1 o5 b5 eu z => absurd ⟨⟨s, hs, ev⟩, by rw [eu]; exact five b5⟩ q) (fun s o b hs ev eo o1 o5 b5 eu z => absurd ⟨⟨s, hs, ev⟩, by rw [eu]; exact five b5⟩ q)
  · subst ev
    subst eu
    refine sp_X10_as (m0 _) (m4 _) k10 k8 hsM (fun z => absurd ⟨⟨s, hs, rfl⟩, five b5⟩ z) (fun s2 o2 b2 hs2 ev eo2 _ _ _ eu z => hP _ (Inv_fi e2 hLM gall')) (fun s2 o2 b2 hs2 ev eo2 p1 p5 pb eu z => ?_)
    have es : s2 = s := (nI_eq (by omega) (by omega)).mp ev.symm
    have eb : b2 = b := (nI_eq (by omega) (by omega)).mp eu.symm
    subst es
    subst eb
    rw [k6 (23 + s2) (by omega), eo] at eo2
    have eo3 : o = o2 := (nI_eq (by omega) (by omega)).mp eo2
    subst eo3
    exact absurd z q
  · subst ev
    subst eu
    refine sp_X10_as (m0 _) (m4 _) k10 k8 hsM (fun z => absurd ⟨⟨s, hs, rfl⟩, five b5⟩ z) (fun s2 o2 b2 hs2 ev eo2 p1 p5 pb eu z => ?_) (fun s2 o2 b2 hs2 ev eo2 _ _ _ eu z => ?_)
    · have es : s2 = s := (nI_eq (by omega) (by omega)).mp ev.symm
      have eb : b2 = b := (nI_eq (by omega) (by omega)).mp eu.symm
      subst es
      subst eb
      rw [k6 (23 + s2) (by omega), eo] at eo2
      have eo3 : o = o2 := (nI_eq (by omega) (by omega)).mp eo2
      subst eo3
      exact absurd q z
    · have es : s2 = s := (nI_eq (by omega) (by omega)).mp ev.symm
      subst es
      exact hP _ (Inv_fi e2 hLM gall')
theorem pr_ask (hI : Inv E w) (h : ∀ v' w1, nxt G l E m_X10_ask [.ref 139, .int v, .int u] v' w1 → Post (some (.int v')) w1) : nl_Sat G l m_X9_ask [.ref 0, .int v, .int u] w Post := by
  have hI' := hI
  obtain ⟨e2, L, M, st, lf, fi, P, A, T, at_, beg, tok, val, siz, en, da, c, k, tC, tM, hLM, ⟨h0, h1⟩, g1, g2, g3, g4, g5, g6, hT, x1, x2, x3, x4, f, f', q1, q2, q3, q4⟩ := hI'
  have g3' := g3
  obtain ⟨k1, k2, k3, k4, k5, k6, k7, k8, k9, k10, k11, k12⟩ := g3'
  have hz : st = 0 → k = 0 := fun q => (k11 q).2.2
  have hL4 : L = 4 ∨ L = 9 := by unfold gLM at hLM; omega
  have hsM : ∀ s, s < k → ∃ o, 1 ≤ o ∧ o ≤ 5 ∧ tM (23 + s) = nI o := fun s hs => by
    obtain ⟨D, _, o⟩ := k12 (fun q => by have := hz q; omega)
    exact okP_so o s hs
  have hsC : ∀ s, s < k → ∃ o, 1 ≤ o ∧ o ≤ 5 ∧ tC (23 + s) = nI o := fun s hs => by
    rw [← k6 (23 + s) (by omega)]
    exact hsM s hs
  refine sp_X9_ask h0 k1 hL4 k3 q1 q2 ((k6 7 (by omega)).symm.trans k10) k8 hz hsC (fun q => h _ _ ⟨io_of h1, fun P2 hP => ?_⟩) (fun s o b hs ev eo o1 o5 b5 eu => ?_)
  · exact sp_X10_ask h1 q3 k4 k10 k8 hsM (fun _ => hP _ hI) (fun s o b hs ev eo o1 o5 b5 eu => absurd ⟨⟨s, hs, ev⟩, by rw [eu]; exact two_in b5⟩ q)
  · subst ev
    subst eu
    have o1' : ∀ q, q ≠ 105 → q ≠ 106 → (askW w (askL o b).length (pl (askL o b) 0 f) (nI s) (nI o) (tC (38 + s)) (tC (33 + s))).1 q = w.1 q := fun q r1 r2 => (nl_hs_n r1).trans (nl_hs_n r2)
    have f1 : (askW w (askL o b).length (pl (askL o b) 0 f) (nI s) (nI o) (tC (38 + s)) (tC (33 + s))).2 = w.2 := rfl
    have f2 : (askW w (askL o b).length (pl (askL o b) 0 f) (nI s) (nI o) (tC (38 + s)) (tC (33 + s))).1 105 = cA (nI (askL o b).length) (nI s) (nI o) (tC (38 + s)) (tC (33 + s)) := nl_hs_1
    have f3 : (askW w (askL o b).length (pl (askL o b) 0 f) (nI s) (nI o) (tC (38 + s)) (tC (33 + s))).1 106 = nl_ia 16 (pl (askL o b) 0 f) := (nl_hs_n (by omega)).trans nl_hs_1
    generalize askW w (askL o b).length (pl (askL o b) 0 f) (nI s) (nI o) (tC (38 + s)) (tC (33 + s)) = w1 at o1' f1 f2 f3 ⊢
    have m139 : w1.1 139 = cM fi (nI P) lf st (nI A) (nI T) at_ beg tok val siz en da := (o1' 139 (by omega) (by omega)).trans h1
    have hlen : (askL o b).length ≤ 16 := by
      unfold askL
      repeat' split
      all_goals decide
    refine h _ _ ⟨io_of m139, fun P2 hP => sp_X10_ask m139 ((o1' 148 (by omega) (by omega)).trans q3) ((o1' 144 (by omega) (by omega)).trans k4) k10 k8 hsM (fun z => absurd ⟨⟨s, hs, rfl⟩, two_in b5⟩ z) (fun s2 o2 b2 hs2 ev eo2 p1 p5 pb eu => ?_)⟩
    have es : s2 = s := (nI_eq (by omega) (by omega)).mp ev.symm
    have eb : b2 = b := (nI_eq (by omega) (by omega)).mp eu.symm
    subst es
    subst eb
    rw [k6 (23 + s2) (by omega), eo] at eo2
    have eo3 : o = o2 := (nI_eq (by omega) (by omega)).mp eo2
    subst eo3
    rw [k6 (38 + s2) (by omega), k6 (33 + s2) (by omega)]
    refine hP _ ?_
    have o' : ∀ q, q ≠ 139 → q ≠ 148 → (trW w1 (fun T => cM fi (nI P) lf st (nI A) (nI T) at_ beg tok val siz en da) (askL o b2).length (pl (askL o b2) 0 f')).1 q = w1.1 q := fun q r1 r2 => (nl_hs_n r1).trans (nl_hs_n r2)
    have oo : ∀ q, q ≠ 105 → q ≠ 106 → q ≠ 139 → q ≠ 148 → (trW w1 (fun T => cM fi (nI P) lf st (nI A) (nI T) at_ beg tok val siz en da) (askL o b2).length (pl (askL o b2) 0 f')).1 q = w.1 q := fun q r1 r2 r3 r4 => (o' q r3 r4).trans (o1' q r1 r2)
    refine ⟨f1.trans e2, L, M, st, lf, fi, P, A, (askL o b2).length, at_, beg, tok, val, siz, en, da, c, k, tC, tM, hLM, ⟨?_, trW_5⟩, g1.fr (fun q hq => oo q (by omega) (by omega) (by omega) (by omega)), g2.fr (fun q hq => oo q (by omega) (by omega) (by omega) (by omega)), gK.fr hLM g3 (fun q hq => oo q (by omega) (by omega) (by omega) (by omega)), g4.fr (fun q hq => oo q (by omega) (by omega) (by omega) (by omega)), g5.fr (fun q hq => oo q (by omega) (by omega) (by omega) (by omega)), g6.fr (fun q hq => oo q (by omega) (by omega) (by omega) (by omega)), hlen, nI s2, nI o, tC (38 + s2), tC (33 + s2), pl (askL o b2) 0 f, pl (askL o b2) 0 f', ?_, ?_, ?_, fun j hj => pl_eq _ 0 j (fun z => by omega) (by omega)⟩
    · rw [oo 0 (by omega) (by omega) (by omega) (by omega)]; exact h0
    · rw [o' 105 (by omega) (by omega)]; exact f2
    · rw [o' 106 (by omega) (by omega)]; exact f3
    · exact (nl_hs_n (by omega)).trans nl_hs_1
end

/-! calls on rows -/
section
variable {G : nl_G} {l : Launch} {E : Nat × Nat} {w : nl_HW} {Post : nl_R} {h h' : Nat → va_E} {th la sz la' sz' its its' f1 : Nat → Int32} {it : Nat → Nat → Int32} {i : Nat} {t1 l1 s1 l2 s2 : Int32}
theorem gA_upd (a1 : gRC h th la sz it) (c1 : ∀ i, i < 8 → (th i = 0 ∧ sz' i = -1) ∨ (¬ th i = 0 ∧ sz' i = sz i ∧ la' i = la i ∧ ∃ c, c ≤ 40 ∧ sz i = nI c)) (c2 : ∀ i j, i < 8 → j < 40 → it i j = its (40 * i + j)) (hi : i < 8)
    (r1 : h' (107 + 2 * i) = cR (107 + 2 * i) t1 l1 s1) (r2 : h' (107 + 2 * i + 1) = nl_ia 40 f1) (r3 : h' 140 = nl_ia 8 (upd la' i l2)) (r4 : h' 141 = nl_ia 8 (upd sz' i s2)) (r5 : h' 142 = nl_ia 320 its') (r6 : ∀ q, q = 1 ∨ (107 ≤ q ∧ q ≤ 122) → q ≠ 107 + 2 * i → q ≠ 107 + 2 * i + 1 → h' q = h q)
    (ci : (t1 = 0 ∧ s2 = -1) ∨ (¬ t1 = 0 ∧ s2 = s1 ∧ l2 = l1 ∧ ∃ c, c ≤ 40 ∧ s1 = nI c)) (cf : ∀ j, j < 40 → f1 j = its' (40 * i + j)) (co : ∀ x j, x < 8 → x ≠ i → j < 40 → its' (40 * x + j) = its (40 * x + j)) : gA h' := by
  refine ⟨upd th i t1, upd la i l1, upd sz i s1, fun x => if x = i then f1 else it x, upd la' i l2, upd sz' i s2, its', ⟨(r6 1 (by omega) (by omega) (by omega)).trans a1.1, fun x hx => ?_⟩, ⟨r3, r4, r5⟩, fun x hx => ?_, fun x j hx hj => ?_⟩
  · by_cases q : x = i
    · subst q
      dsimp only
      rw [pk_us, pk_us, pk_us, if_pos rfl]
      exact ⟨r1, r2⟩
    · dsimp only
      rw [pk_un q, pk_un q, pk_un q, if_neg q, r6 _ (by omega) (by omega) (by omega), r6 _ (by omega) (by omega) (by omega)]
      exact a1.2 x hx
  · by_cases q : x = i
    · subst q
      rw [pk_us, pk_us, pk_us, pk_us, pk_us]
      exact ci
    · rw [pk_un q, pk_un q, pk_un q, pk_un q, pk_un q]
      exact c1 x hx
  · by_cases q : x = i
    · subst q
      dsimp only
      rw [if_pos rfl]
      exact cf j hj
    · dsimp only
      rw [if_neg q, co x j hx q hj]
      exact c2 x j hx hj
theorem nI_row {i : Nat} (hi : i < 8) : 0 ≤ nI i ∧ nI i < 8 := ⟨nI_pos' (by omega), by rw [nI_8]; exact nI_lt hi (by omega)⟩
theorem pr_row {r la n : Int32} (hI : Inv E w) (h : ∀ v w1, nxt G l E m_X10_row [.ref 139, .int r, .int la, .int n] v w1 → Post (some (.int v)) w1) : nl_Sat G l m_X9_row [.ref 0, .int r, .int la, .int n] w Post := by
  have hI' := hI
  obtain ⟨e2, L, M, st, lf, fi, P, A, T, at_, beg, tok, val, siz, en, da, c, k, tC, tM, hLM, ⟨h0, h1⟩, gall⟩ := hI'
  have gall' : gAll w.1 L M st P A T c k tC tM := gall
  obtain ⟨⟨th, lan, sz, it, la', sz', its, a1, a2, a3, a4⟩, g2, g3, g4, g5, g6, g7⟩ := gall
  refine sp_X9_row h0 a1 (fun q => h _ _ ⟨io_of h1, fun P2 hP => ?_⟩) (fun q q2 => h _ _ ⟨io_of ((nl_hs_n (by omega)).trans h1), fun P2 hP => ?_⟩) (fun i hi er q1 q2 q3 => h _ _ ⟨io_of (((nl_hs_n (by omega)).trans ((nl_hs_n (by omega)).trans (nl_hs_n (by omega)))).trans h1), fun P2 hP => ?_⟩)
  · exact sp_X10_row h1 a2 (fun _ => hP _ hI) (fun z => absurd z q) (fun i hi er z1 z2 z3 => absurd ⟨by rw [er]; exact nI_row hi, z1, z2⟩ q)
  · have b2 : gRM (nl_hs w 0 (cX L M st lf 4)).1 la' sz' its := ⟨(nl_hs_n (by omega)).trans a2.1, (nl_hs_n (by omega)).trans a2.2.1, (nl_hs_n (by omega)).trans a2.2.2⟩
    exact sp_X10_row ((nl_hs_n (by omega)).trans h1) b2 (fun z => absurd q z) (fun _ _ => hP _ (Inv_fi e2 hLM gall')) (fun i hi er z1 z2 z3 => absurd q2 (by grind))
  · subst er
    have m1 := ((nl_hs_n (a := 0) (b := 139) (w := nl_hs (nl_hs w (107 + 2 * i) (cR (107 + 2 * i) 1 la n)) (107 + 2 * i + 1) (nl_ia 40 (zo 0 40 (it i)))) (c := cX L M st lf 0) (by omega)).trans ((nl_hs_n (by omega)).trans (nl_hs_n (by omega)))).trans h1
    have b2 : gRM (nl_hs (nl_hs (nl_hs w (107 + 2 * i) (cR (107 + 2 * i) 1 la n)) (107 + 2 * i + 1) (nl_ia 40 (zo 0 40 (it i)))) 0 (cX L M st lf 0)).1 la' sz' its := ⟨(((nl_hs_n (by omega)).trans ((nl_hs_n (by omega)).trans (nl_hs_n (by omega))))).trans a2.1, (((nl_hs_n (by omega)).trans ((nl_hs_n (by omega)).trans (nl_hs_n (by omega))))).trans a2.2.1, (((nl_hs_n (by omega)).trans ((nl_hs_n (by omega)).trans (nl_hs_n (by omega))))).trans a2.2.2⟩
    refine sp_X10_row m1 b2 (fun z => absurd ⟨nI_row hi, q1, q2⟩ z) (fun _ z => absurd z (by grind)) (fun i2 hi2 er z1 z2 z3 => ?_)
    have ei : i2 = i := (nI_eq (by omega) (by omega)).mp er.symm
    subst ei
    refine hP _ ?_
    have o : ∀ q, q ≠ 0 → q ≠ 139 → q ≠ 107 + 2 * i2 → q ≠ 107 + 2 * i2 + 1 → q ≠ 140 → q ≠ 141 → q ≠ 142 → (nl_hs (nl_hs (nl_hs (nl_hs (nl_hs (nl_hs (nl_hs w (107 + 2 * i2) (cR (107 + 2 * i2) 1 la n)) (107 + 2 * i2 + 1) (nl_ia 40 (zo 0 40 (it i2)))) 0 (cX L M st lf 0)) 140 (nl_ia 8 (upd la' i2 la))) 141 (nl_ia 8 (upd sz' i2 n))) 142 (nl_ia 320 (zo (40 * i2) 40 its))) 139 (cM 0 (nI P) lf st (nI A) (nI T) at_ beg tok val siz en da)).1 q = w.1 q := fun q y1 y2 y3 y4 y5 y6 y7 => by
      rw [nl_hs_n y2, nl_hs_n y7, nl_hs_n y6, nl_hs_n y5, nl_hs_n y1, nl_hs_n y4, nl_hs_n y3]
    refine ⟨e2, L, M, st, lf, 0, P, A, T, at_, beg, tok, val, siz, en, da, c, k, tC, tM, hLM, ⟨?_, nl_hs_1⟩, ?_, g2.fr (fun q hq => o q (by omega) (by omega) (by omega) (by omega) (by omega) (by omega) (by omega)), gK.fr hLM g3 (fun q hq => o q (by omega) (by omega) (by omega) (by omega) (by omega) (by omega) (by omega)), g4.fr (fun q hq => o q (by omega) (by omega) (by omega) (by omega) (by omega) (by omega) (by omega)), g5.fr (fun q hq => o q (by omega) (by omega) (by omega) (by omega) (by omega) (by omega) (by omega)), g6.fr (fun q hq => o q (by omega) (by omega) (by omega) (by omega) (by omega) (by omega) (by omega)), g7.fr (fun q hq => o q (by omega) (by omega) (by omega) (by omega) (by omega) (by omega) (by omega))⟩
    · rw [nl_hs_n (by omega), nl_hs_n (by omega), nl_hs_n (by omega), nl_hs_n (by omega), nl_hs_1]
    · obtain ⟨N, hN, eN⟩ := nI_upto 40 (by decide) (by omega) q3 q2
      refine gA_upd a1 a3 a4 hi (t1 := 1) (l1 := la) (s1 := n) (f1 := zo 0 40 (it i2)) (l2 := la) (s2 := n) (its' := zo (40 * i2) 40 its) ?_ ?_ ?_ ?_ ?_ (fun q hq y1 y2 => o q (by omega) (by omega) y1 y2 (by omega) (by omega) (by omega)) (Or.inr ⟨by decide, rfl, rfl, N, hN, eN⟩) (fun j hj => ?_) (fun x j hx hxi hj => ?_)
      · rw [nl_hs_n (by omega), nl_hs_n (by omega), nl_hs_n (by omega), nl_hs_n (by omega), nl_hs_n (by omega), nl_hs_n (by omega), nl_hs_1]
      · rw [nl_hs_n (by omega), nl_hs_n (by omega), nl_hs_n (by omega), nl_hs_n (by omega), nl_hs_n (by omega), nl_hs_1]
      · rw [nl_hs_n (by omega), nl_hs_n (by omega), nl_hs_n (by omega), nl_hs_1]
      · rw [nl_hs_n (by omega), nl_hs_n (by omega), nl_hs_1]
      · rw [nl_hs_n (by omega), nl_hs_1]
      · rw [zo, zo, if_pos (by omega), if_pos (by omega)]
      · rw [zo, if_neg (by omega)]
end

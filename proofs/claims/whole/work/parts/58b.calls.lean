/-! calls on rows: set, drop, copy, feed -/
section
variable {G : nl_G} {l : Launch} {E : Nat × Nat} {w : nl_HW} {Post : nl_R}
theorem pr_set {r j v : Int32} (hI : Inv E w) (h : ∀ v' w1, nxt G l E m_X10_set [.ref 139, .int r, .int j, .int v] v' w1 → Post (some (.int v')) w1) : nl_Sat G l m_X9_set [.ref 0, .int r, .int j, .int v] w Post := by
  have hI' := hI
  obtain ⟨e2, L, M, st, lf, fi, P, A, T, at_, beg, tok, val, siz, en, da, c, k, tC, tM, hLM, ⟨h0, h1⟩, gall⟩ := hI'
  have gall' : gAll w.1 L M st P A T c k tC tM := gall
  obtain ⟨⟨th, lan, sz, it, la', sz', its, a1, a2, a3, a4⟩, g2, g3, g4, g5, g6, g7⟩ := gall
  have hs' : ∀ i, i < 8 → sz' i ≤ 40 := fun i hi => by
    rcases a3 i hi with ⟨_, q2⟩ | ⟨_, q2, _, c, q4, q5⟩
    · rw [q2]; decide
    · rw [q2, q5, nI_40]; exact nI_le q4 (by omega)
  have hs1 : ∀ i, i < 8 → ¬ th i = 0 → sz i ≤ 40 ∧ 0 ≤ sz i ∧ sz' i = sz i ∧ la' i = lan i := fun i hi q => by
    rcases a3 i hi with ⟨q1, _⟩ | ⟨_, q2, q3, c, q4, q5⟩
    · exact absurd q1 q
    · exact ⟨by rw [q5, nI_40]; exact nI_le q4 (by omega), by rw [q5]; exact nI_pos' (by omega), q2, q3⟩
  have hneg : ∀ i, i < 8 → th i = 0 → sz' i < 0 := fun i hi q => by
    rcases a3 i hi with ⟨_, q2⟩ | ⟨q1, _⟩
    · rw [q2]; decide
    · exact absurd q q1
  refine sp_X9_set h0 a1 (fun i hi q => (hs1 i hi q).1) (fun q => h _ _ ⟨io_of h1, fun P2 hP => ?_⟩) (fun i hi er q => h _ _ ⟨io_of ((nl_hs_n (by omega)).trans h1), fun P2 hP => ?_⟩) (fun i hi er q q2 => h _ _ ⟨io_of ((nl_hs_n (by omega)).trans h1), fun P2 hP => ?_⟩) (fun i k2 hi er q q2 q3 q4 => h _ _ ⟨io_of ((nl_hs_n (by omega)).trans ((nl_hs_n (by omega)).trans h1)), fun P2 hP => ?_⟩) (fun i hi q => (hs1 i hi q).2.1)
  · exact sp_X10_set h1 a2 hs' (fun _ => hP _ hI) (fun i hi er z => absurd (by rw [er]; exact nI_row hi) q) (fun i hi er z1 z2 => absurd (by rw [er]; exact nI_row hi) q) (fun i k3 hi er z1 z2 z3 z4 => absurd (by rw [er]; exact nI_row hi) q)
  · subst er
    have b2 : gRM (nl_hs w 0 (cX L M st lf 1)).1 la' sz' its := ⟨(nl_hs_n (by omega)).trans a2.1, (nl_hs_n (by omega)).trans a2.2.1, (nl_hs_n (by omega)).trans a2.2.2⟩
    have hn := hneg i hi q
    refine sp_X10_set ((nl_hs_n (by omega)).trans h1) b2 hs' (fun z => absurd (nI_row hi) z) (fun i2 hi2 er z => hP _ (Inv_fi e2 hLM gall')) (fun i2 hi2 er z1 z2 => ?_) (fun i2 k3 hi2 er z1 z2 z3 z4 => ?_)
    · have ei : i2 = i := (nI_eq (by omega) (by omega)).mp er.symm
      subst ei
      exact absurd hn z1
    · have ei : i2 = i := (nI_eq (by omega) (by omega)).mp er.symm
      subst ei
      exact absurd hn z1
  · subst er
    have b2 : gRM (nl_hs w 0 (cX L M st lf 2)).1 la' sz' its := ⟨(nl_hs_n (by omega)).trans a2.1, (nl_hs_n (by omega)).trans a2.2.1, (nl_hs_n (by omega)).trans a2.2.2⟩
    obtain ⟨s1, s2, s3, s4⟩ := hs1 i hi q
    refine sp_X10_set ((nl_hs_n (by omega)).trans h1) b2 hs' (fun z => absurd (nI_row hi) z) (fun i2 hi2 er z => ?_) (fun i2 hi2 er z1 z2 => hP _ (Inv_fi e2 hLM gall')) (fun i2 k3 hi2 er z1 z2 z3 z4 => ?_)
    · have ei : i2 = i := (nI_eq (by omega) (by omega)).mp er.symm
      subst ei
      rw [s3] at z
      exact absurd z (by grind)
    · have ei : i2 = i := (nI_eq (by omega) (by omega)).mp er.symm
      subst ei
      rw [s3] at z2
      exact absurd z2 q2
  · subst er
    obtain ⟨s1, s2, s3, s4⟩ := hs1 i hi q
    have m1 := ((nl_hs_n (a := 0) (b := 139) (w := nl_hs w (107 + 2 * i + 1) (nl_ia 40 (upd (it i) k2 (p_cut (lan i) v)))) (c := cX L M st lf 0) (by omega)).trans (nl_hs_n (by omega))).trans h1
    have b2 : gRM (nl_hs (nl_hs w (107 + 2 * i + 1) (nl_ia 40 (upd (it i) k2 (p_cut (lan i) v)))) 0 (cX L M st lf 0)).1 la' sz' its := ⟨((nl_hs_n (by omega)).trans (nl_hs_n (by omega))).trans a2.1, ((nl_hs_n (by omega)).trans (nl_hs_n (by omega))).trans a2.2.1, ((nl_hs_n (by omega)).trans (nl_hs_n (by omega))).trans a2.2.2⟩
    refine sp_X10_set m1 b2 hs' (fun z => absurd (nI_row hi) z) (fun i2 hi2 er z => ?_) (fun i2 hi2 er z1 z2 => ?_) (fun i2 k3 hi2 er z1 z2 z3 z4 => ?_)
    · have ei : i2 = i := (nI_eq (by omega) (by omega)).mp er.symm
      subst ei
      rw [s3] at z
      exact absurd z (by grind)
    · have ei : i2 = i := (nI_eq (by omega) (by omega)).mp er.symm
      subst ei
      rw [s3] at z2
      exact absurd q2 z2
    · have ei : i2 = i := (nI_eq (by omega) (by omega)).mp er.symm
      subst ei
      have ek : k3 = k2 := (nI_eq (by omega) (by omega)).mp (z4.symm.trans q4)
      subst ek
      rw [s4]
      refine hP _ ?_
      have o : ∀ q, q ≠ 0 → q ≠ 139 → q ≠ 107 + 2 * i2 + 1 → q ≠ 142 → (nl_hs (nl_hs (nl_hs (nl_hs w (107 + 2 * i2 + 1) (nl_ia 40 (upd (it i2) k3 (p_cut (lan i2) v)))) 0 (cX L M st lf 0)) 142 (nl_ia 320 (upd its (40 * i2 + k3) (p_cut (lan i2) v)))) 139 (cM 0 (nI P) lf st (nI A) (nI T) at_ beg tok val siz en da)).1 q = w.1 q := fun q y1 y2 y3 y4 => by
        rw [nl_hs_n y2, nl_hs_n y4, nl_hs_n y1, nl_hs_n y3]
      refine ⟨e2, L, M, st, lf, 0, P, A, T, at_, beg, tok, val, siz, en, da, c, k, tC, tM, hLM, ⟨?_, nl_hs_1⟩, ?_, g2.fr (fun q hq => o q (by omega) (by omega) (by omega) (by omega)), gK.fr hLM g3 (fun q hq => o q (by omega) (by omega) (by omega) (by omega)), g4.fr (fun q hq => o q (by omega) (by omega) (by omega) (by omega)), g5.fr (fun q hq => o q (by omega) (by omega) (by omega) (by omega)), g6.fr (fun q hq => o q (by omega) (by omega) (by omega) (by omega)), g7.fr (fun q hq => o q (by omega) (by omega) (by omega) (by omega))⟩
      · rw [nl_hs_n (by omega), nl_hs_n (by omega), nl_hs_1]
      · obtain ⟨x1, x2⟩ := a1.2 i2 hi
        refine gA_upd a1 a3 a4 hi (t1 := th i2) (l1 := lan i2) (s1 := sz i2) (f1 := upd (it i2) k3 (p_cut (lan i2) v)) (l2 := la' i2) (s2 := sz' i2) (its' := upd its (40 * i2 + k3) (p_cut (lan i2) v)) ?_ ?_ ?_ ?_ ?_ (fun q hq y1 y2 => o q (by omega) (by omega) y2 (by omega)) (a3 i2 hi) (fun j hj => ?_) (fun x j hx hxi hj => ?_)
        · rw [o _ (by omega) (by omega) (by omega) (by omega)]; exact x1
        · rw [nl_hs_n (by omega), nl_hs_n (by omega), nl_hs_n (by omega), nl_hs_1]
        · rw [o _ (by omega) (by omega) (by omega) (by omega), upd_same rfl]; exact a2.1
        · rw [o _ (by omega) (by omega) (by omega) (by omega), upd_same rfl]; exact a2.2.1
        · rw [nl_hs_n (by omega), nl_hs_1]
        · by_cases qj : j = k3
          · subst qj; rw [pk_us, pk_us]
          · rw [pk_un qj, pk_un (by omega)]; exact a4 i2 j hi hj
        · rw [pk_un (by omega)]
theorem pr_drop {r : Int32} (hI : Inv E w) (h : ∀ v' w1, nxt G l E m_X10_drop [.ref 139, .int r] v' w1 → Post (some (.int v')) w1) : nl_Sat G l m_X9_drop [.ref 0, .int r] w Post := by
  have hI' := hI
  obtain ⟨e2, L, M, st, lf, fi, P, A, T, at_, beg, tok, val, siz, en, da, c, k, tC, tM, hLM, ⟨h0, h1⟩, gall⟩ := hI'
  have gall' : gAll w.1 L M st P A T c k tC tM := gall
  obtain ⟨⟨th, lan, sz, it, la', sz', its, a1, a2, a3, a4⟩, g2, g3, g4, g5, g6, g7⟩ := gall
  refine sp_X9_drop h0 a1 (fun q => h _ _ ⟨io_of h1, fun P2 hP => ?_⟩) (fun i hi er q => h _ _ ⟨io_of ((nl_hs_n (by omega)).trans h1), fun P2 hP => ?_⟩) (fun i hi er q => h _ _ ⟨io_of ((nl_hs_n (by omega)).trans ((nl_hs_n (by omega)).trans h1)), fun P2 hP => ?_⟩)
  · exact sp_X10_drop h1 a2 (fun _ => hP _ hI) (fun i hi er z => absurd (by rw [er]; exact nI_row hi) q) (fun i hi er z => absurd (by rw [er]; exact nI_row hi) q)
  · subst er
    have b2 : gRM (nl_hs w 0 (cX L M st lf 1)).1 la' sz' its := ⟨(nl_hs_n (by omega)).trans a2.1, (nl_hs_n (by omega)).trans a2.2.1, (nl_hs_n (by omega)).trans a2.2.2⟩
    refine sp_X10_drop ((nl_hs_n (by omega)).trans h1) b2 (fun z => absurd (nI_row hi) z) (fun i2 hi2 er z => hP _ (Inv_fi e2 hLM gall')) (fun i2 hi2 er z => ?_)
    have ei : i2 = i := (nI_eq (by omega) (by omega)).mp er.symm
    subst ei
    rcases a3 i2 hi with ⟨_, q2⟩ | ⟨q1, _⟩
    · exact absurd (by rw [q2]; decide) z
    · exact absurd q q1
  · subst er
    have m1 := ((nl_hs_n (a := 0) (b := 139) (w := nl_hs w (107 + 2 * i) (cR (107 + 2 * i) 0 (lan i) (sz i))) (c := cX L M st lf 0) (by omega)).trans (nl_hs_n (by omega))).trans h1
    have b2 : gRM (nl_hs (nl_hs w (107 + 2 * i) (cR (107 + 2 * i) 0 (lan i) (sz i))) 0 (cX L M st lf 0)).1 la' sz' its := ⟨((nl_hs_n (by omega)).trans (nl_hs_n (by omega))).trans a2.1, ((nl_hs_n (by omega)).trans (nl_hs_n (by omega))).trans a2.2.1, ((nl_hs_n (by omega)).trans (nl_hs_n (by omega))).trans a2.2.2⟩
    have s3 : sz' i = sz i ∧ ¬ sz i < 0 := by
      rcases a3 i hi with ⟨q1, _⟩ | ⟨_, q2, q3, c, q4, q5⟩
      · exact absurd q1 q
      · exact ⟨q2, by rw [q5]; exact nI_pos (by omega)⟩
    refine sp_X10_drop m1 b2 (fun z => absurd (nI_row hi) z) (fun i2 hi2 er z => ?_) (fun i2 hi2 er z => ?_)
    · have ei : i2 = i := (nI_eq (by omega) (by omega)).mp er.symm
      subst ei
      rw [s3.1] at z
      exact absurd z s3.2
    · have ei : i2 = i := (nI_eq (by omega) (by omega)).mp er.symm
      subst ei
      rw [s3.1]
      refine hP _ ?_
      have o : ∀ q, q ≠ 0 → q ≠ 139 → q ≠ 107 + 2 * i2 → q ≠ 141 → (nl_hs (nl_hs (nl_hs (nl_hs w (107 + 2 * i2) (cR (107 + 2 * i2) 0 (lan i2) (sz i2))) 0 (cX L M st lf 0)) 141 (nl_ia 8 (upd sz' i2 (-1)))) 139 (cM 0 (nI P) lf st (nI A) (nI T) at_ beg tok val siz en da)).1 q = w.1 q := fun q y1 y2 y3 y4 => by
        rw [nl_hs_n y2, nl_hs_n y4, nl_hs_n y1, nl_hs_n y3]
      refine ⟨e2, L, M, st, lf, 0, P, A, T, at_, beg, tok, val, siz, en, da, c, k, tC, tM, hLM, ⟨?_, nl_hs_1⟩, ?_, g2.fr (fun q hq => o q (by omega) (by omega) (by omega) (by omega)), gK.fr hLM g3 (fun q hq => o q (by omega) (by omega) (by omega) (by omega)), g4.fr (fun q hq => o q (by omega) (by omega) (by omega) (by omega)), g5.fr (fun q hq => o q (by omega) (by omega) (by omega) (by omega)), g6.fr (fun q hq => o q (by omega) (by omega) (by omega) (by omega)), g7.fr (fun q hq => o q (by omega) (by omega) (by omega) (by omega))⟩
      · rw [nl_hs_n (by omega), nl_hs_n (by omega), nl_hs_1]
      · obtain ⟨x1, x2⟩ := a1.2 i2 hi
        refine gA_upd a1 a3 a4 hi (t1 := 0) (l1 := lan i2) (s1 := sz i2) (f1 := it i2) (l2 := la' i2) (s2 := -1) (its' := its) ?_ ?_ ?_ ?_ ?_ (fun q hq y1 y2 => o q (by omega) (by omega) y1 (by omega)) (Or.inl ⟨rfl, rfl⟩) (fun j hj => a4 i2 j hi hj) (fun x j hx hxi hj => rfl)
        · rw [nl_hs_n (by omega), nl_hs_n (by omega), nl_hs_n (by omega), nl_hs_1]
        · rw [o _ (by omega) (by omega) (by omega) (by omega)]; exact x2
        · rw [o _ (by omega) (by omega) (by omega) (by omega), upd_same rfl]; exact a2.1
        · rw [nl_hs_n (by omega), nl_hs_1]
        · rw [o _ (by omega) (by omega) (by omega) (by omega)]; exact a2.2.2
theorem pr_feed {v : Int32} (hI : Inv E w) (h : ∀ v' w1, nxt G l E m_X10_feed [.ref 139, .int v] v' w1 → Post (some (.int v')) w1) : nl_Sat G l m_X9_feed [.ref 0, .int v] w Post := by
  have hI' := hI
  obtain ⟨e2, L, M, st, lf, fi, P, A, T, at_, beg, tok, val, siz, en, da, c, k, tC, tM, hLM, ⟨h0, h1⟩, g1, ⟨p0, F, b1, b2, b3, b4, b5, t1, t2, t3, t4⟩, g3, g4, g5, g6, g7⟩ := hI'
  refine sp_X9_feed h0 t1 t2 p0 (fun q => h _ _ ⟨io_of h1, fun P2 hP => ?_⟩) (fun q q2 => h _ _ ⟨io_of h1, fun P2 hP => ?_⟩) (fun q q2 => h _ _ ⟨io_of ((nl_hs_n (by omega)).trans ((nl_hs_n (by omega)).trans h1)), fun P2 hP => ?_⟩)
  · exact sp_X10_feed h1 t3 p0 (fun _ => hP _ hI) (fun z => absurd z q) (fun z => absurd z q)
  · exact sp_X10_feed h1 t3 p0 (fun z => absurd q z) (fun _ _ => hP _ hI) (fun _ z => by omega)
  · have m1 := ((nl_hs_n (a := 2) (b := 139) (w := nl_hs w 3 (nl_ia 120 (upd F P v))) (c := cRd (nI (P + 1)) b1 b2 b3 b4 b5) (by omega)).trans (nl_hs_n (by omega))).trans h1
    refine sp_X10_feed m1 ((nl_hs_n (by omega)).trans ((nl_hs_n (by omega)).trans t3)) p0 (fun z => absurd q z) (fun _ z => by omega) (fun _ _ => hP _ ?_)
    have o : ∀ q, q ≠ 2 → q ≠ 3 → q ≠ 139 → q ≠ 143 → (nl_hs (nl_hs (nl_hs (nl_hs w 3 (nl_ia 120 (upd F P v))) 2 (cRd (nI (P + 1)) b1 b2 b3 b4 b5)) 143 (nl_ia 120 (upd F P v))) 139 (cM fi (nI (P + 1)) lf st (nI A) (nI T) at_ beg tok val siz en da)).1 q = w.1 q := fun q y1 y2 y3 y4 => by
      rw [nl_hs_n y3, nl_hs_n y4, nl_hs_n y1, nl_hs_n y2]
    refine ⟨e2, L, M, st, lf, fi, P + 1, A, T, at_, beg, tok, val, siz, en, da, c, k, tC, tM, hLM, ⟨(o 0 (by omega) (by omega) (by omega) (by omega)).trans h0, nl_hs_1⟩, g1.fr (fun q hq => o q (by omega) (by omega) (by omega) (by omega)), ⟨by omega, upd F P v, b1, b2, b3, b4, b5, ?_, ?_, ?_, fun j hj => ?_⟩, gK.fr hLM g3 (fun q hq => o q (by omega) (by omega) (by omega) (by omega)), g4.fr (fun q hq => o q (by omega) (by omega) (by omega) (by omega)), g5.fr (fun q hq => o q (by omega) (by omega) (by omega) (by omega)), g6.fr (fun q hq => o q (by omega) (by omega) (by omega) (by omega)), g7.fr (fun q hq => o q (by omega) (by omega) (by omega) (by omega))⟩
    · rw [nl_hs_n (by omega), nl_hs_n (by omega), nl_hs_1]
    · rw [nl_hs_n (by omega), nl_hs_n (by omega), nl_hs_n (by omega), nl_hs_1]
    · rw [nl_hs_n (by omega), nl_hs_1]
    · by_cases z : j = P
      · subst z; rw [pk_us]; exact q.1
      · rw [pk_un z]; exact t4 j (by omega)
end

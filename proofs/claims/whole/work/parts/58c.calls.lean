/-! calls on rows: copy -/
section
variable {G : nl_G} {l : Launch} {E : Nat × Nat} {w : nl_HW} {Post : nl_R}
theorem pr_copy {a i b j n : Int32} (hI : Inv E w) (h : ∀ v' w1, nxt G l E m_X10_copy [.ref 139, .int a, .int i, .int b, .int j, .int n] v' w1 → Post (some (.int v')) w1) : nl_Sat G l m_X9_copy [.ref 0, .int a, .int i, .int b, .int j, .int n] w Post := by
  have hI' := hI
  obtain ⟨e2, L, M, st, lf, fi, P, A, T, at_, beg, tok, val, siz, en, da, c, k, tC, tM, hLM, ⟨h0, h1⟩, gall⟩ := hI'
  have gall' : gAll w.1 L M st P A T c k tC tM := gall
  obtain ⟨⟨th, lan, sz, it, la', sz', its, a1, a2, a3, a4⟩, g2, g3, g4, g5, g6, g7⟩ := gall
  have hsC : ∀ x, x < 8 → ¬ th x = 0 → ∃ c, c ≤ 40 ∧ sz x = nI c := fun x hx q => by
    rcases a3 x hx with ⟨q1, _⟩ | ⟨_, _, _, q⟩
    · exact absurd q1 q
    · exact q
  have hsM : ∀ x, x < 8 → ¬ sz' x < 0 → ∃ c, c ≤ 40 ∧ sz' x = nI c := fun x hx q => by
    rcases a3 x hx with ⟨_, q2⟩ | ⟨_, q2, _, c, q4, q5⟩
    · exact absurd (by rw [q2]; decide) q
    · exact ⟨c, q4, by rw [q2]; exact q5⟩
  have ng : ∀ x, x < 8 → (th x = 0 ↔ sz' x < 0) := fun x hx => by
    rcases a3 x hx with ⟨q1, q2⟩ | ⟨q1, q2, _, c, q4, q5⟩
    · exact ⟨fun _ => by rw [q2]; decide, fun _ => q1⟩
    · exact ⟨fun z => absurd z q1, fun z => absurd z (by rw [q2, q5]; exact nI_pos (by omega))⟩
  have same : ∀ x, x < 8 → ¬ th x = 0 → sz' x = sz x ∧ la' x = lan x := fun x hx q => by
    rcases a3 x hx with ⟨q1, _⟩ | ⟨_, q2, q3, _⟩
    · exact absurd q1 q
    · exact ⟨q2, q3⟩
  have b0 : ∀ f, gRM (nl_hs w 0 (cX L M st lf f)).1 la' sz' its := fun f => ⟨(nl_hs_n (by omega)).trans a2.1, (nl_hs_n (by omega)).trans a2.2.1, (nl_hs_n (by omega)).trans a2.2.2⟩
  have m0 : ∀ f, (nl_hs w 0 (cX L M st lf f)).1 139 = cM fi (nI P) lf st (nI A) (nI T) at_ beg tok val siz en da := fun f => (nl_hs_n (by omega)).trans h1
  have uniq : ∀ {x y : Nat}, x < 8 → y < 8 → nI x = nI y → x = y := fun hx hy e => (nI_eq (by omega) (by omega)).mp e
  refine sp_X9_copy h0 a1 hsC (fun q => h _ _ ⟨io_of h1, fun P2 hP => ?_⟩) (fun X Y hX hY ea eb q => h _ _ ⟨io_of (m0 _), fun P2 hP => ?_⟩) (fun X Y hX hY ea eb q q2 => h _ _ ⟨io_of (m0 _), fun P2 hP => ?_⟩) (fun X Y hX hY ea eb q q2 q3 => h _ _ ⟨io_of (m0 _), fun P2 hP => ?_⟩) (fun X Y I J N hX hY ea eb q q2 q3 ei ej en' hIN hJN => h _ _ ⟨io_of ((nl_hs_n (by omega)).trans ((nl_hs_n (by omega)).trans h1)), fun P2 hP => ?_⟩)
  · exact sp_X10_copy h1 a2 hsM (fun _ => hP _ hI) (fun X Y hX hY ea eb z => absurd ⟨by rw [ea]; exact nI_row hX, by rw [eb]; exact nI_row hY⟩ q) (fun X Y hX hY ea eb z z2 => absurd ⟨by rw [ea]; exact nI_row hX, by rw [eb]; exact nI_row hY⟩ q) (fun X Y hX hY ea eb z z2 z3 => absurd ⟨by rw [ea]; exact nI_row hX, by rw [eb]; exact nI_row hY⟩ q) (fun X Y I J N hX hY ea eb z z2 z3 _ _ _ _ _ => absurd ⟨by rw [ea]; exact nI_row hX, by rw [eb]; exact nI_row hY⟩ q)
  · subst ea
    subst eb
    have ok : nI X = nI X ∧ nI Y = nI Y := ⟨rfl, rfl⟩
    refine sp_X10_copy (m0 _) (b0 _) hsM (fun z => absurd ⟨nI_row hX, nI_row hY⟩ z) (fun X2 Y2 hX2 hY2 ea eb z => hP _ (Inv_fi e2 hLM gall')) (fun X2 Y2 hX2 hY2 ea eb z z2 => ?_) (fun X2 Y2 hX2 hY2 ea eb z z2 z3 => ?_) (fun X2 Y2 I J N hX2 hY2 ea eb z z2 z3 _ _ _ _ _ => ?_)
    · have eX : X2 = X := uniq hX2 hX ea.symm
      have eY : Y2 = Y := uniq hY2 hY eb.symm
      subst eX
      subst eY
      exact absurd (q.imp (ng _ hX).mp (ng _ hY).mp) z
    · have eX : X2 = X := uniq hX2 hX ea.symm
      have eY : Y2 = Y := uniq hY2 hY eb.symm
      subst eX
      subst eY
      exact absurd (q.imp (ng _ hX).mp (ng _ hY).mp) z
    · have eX : X2 = X := uniq hX2 hX ea.symm
      have eY : Y2 = Y := uniq hY2 hY eb.symm
      subst eX
      subst eY
      exact absurd (q.imp (ng _ hX).mp (ng _ hY).mp) z
  · subst ea
    subst eb
    have qn : ¬ (sz' X < 0 ∨ sz' Y < 0) := fun z => q (z.imp (ng _ hX).mpr (ng _ hY).mpr)
    have lX := (same X hX (fun z => q (Or.inl z))).2
    have lY := (same Y hY (fun z => q (Or.inr z))).2
    refine sp_X10_copy (m0 _) (b0 _) hsM (fun z => absurd ⟨nI_row hX, nI_row hY⟩ z) (fun X2 Y2 hX2 hY2 ea eb z => ?_) (fun X2 Y2 hX2 hY2 ea eb z z2 => hP _ (Inv_fi e2 hLM gall')) (fun X2 Y2 hX2 hY2 ea eb z z2 z3 => ?_) (fun X2 Y2 I J N hX2 hY2 ea eb z z2 z3 _ _ _ _ _ => ?_)
    · have eX : X2 = X := uniq hX2 hX ea.symm
      have eY : Y2 = Y := uniq hY2 hY eb.symm
      subst eX
      subst eY
      exact absurd z qn
    · have eX : X2 = X := uniq hX2 hX ea.symm
      have eY : Y2 = Y := uniq hY2 hY eb.symm
      subst eX
      subst eY
      rw [lX, lY] at z2
      exact absurd z2 q2
    · have eX : X2 = X := uniq hX2 hX ea.symm
      have eY : Y2 = Y := uniq hY2 hY eb.symm
      subst eX
      subst eY
      rw [lX, lY] at z2
      exact absurd z2 q2
  · subst ea
    subst eb
    have qn : ¬ (sz' X < 0 ∨ sz' Y < 0) := fun z => q (z.imp (ng _ hX).mpr (ng _ hY).mpr)
    obtain ⟨sX, lX⟩ := same X hX (fun z => q (Or.inl z))
    obtain ⟨sY, lY⟩ := same Y hY (fun z => q (Or.inr z))
    refine sp_X10_copy (m0 _) (b0 _) hsM (fun z => absurd ⟨nI_row hX, nI_row hY⟩ z) (fun X2 Y2 hX2 hY2 ea eb z => ?_) (fun X2 Y2 hX2 hY2 ea eb z z2 => ?_) (fun X2 Y2 hX2 hY2 ea eb z z2 z3 => hP _ (Inv_fi e2 hLM gall')) (fun X2 Y2 I J N hX2 hY2 ea eb z z2 z3 _ _ _ _ _ => ?_)
    · have eX : X2 = X := uniq hX2 hX ea.symm
      have eY : Y2 = Y := uniq hY2 hY eb.symm
      subst eX
      subst eY
      exact absurd z qn
    · have eX : X2 = X := uniq hX2 hX ea.symm
      have eY : Y2 = Y := uniq hY2 hY eb.symm
      subst eX
      subst eY
      rw [lX, lY] at z2
      exact absurd q2 z2
    · have eX : X2 = X := uniq hX2 hX ea.symm
      have eY : Y2 = Y := uniq hY2 hY eb.symm
      subst eX
      subst eY
      rw [sX, sY] at z3
      exact absurd z3 q3
  · subst ea
    subst eb
    have qn : ¬ (sz' X < 0 ∨ sz' Y < 0) := fun z => q (z.imp (ng _ hX).mpr (ng _ hY).mpr)
    obtain ⟨sX, lX⟩ := same X hX (fun z => q (Or.inl z))
    obtain ⟨sY, lY⟩ := same Y hY (fun z => q (Or.inr z))
    have m1 := ((nl_hs_n (a := 0) (b := 139) (w := nl_hs w (107 + 2 * Y + 1) (nl_ia 40 (p_cp (it X) (it Y) I J N))) (c := cX L M st lf 0) (by omega)).trans (nl_hs_n (by omega))).trans h1
    have b2 : gRM (nl_hs (nl_hs w (107 + 2 * Y + 1) (nl_ia 40 (p_cp (it X) (it Y) I J N))) 0 (cX L M st lf 0)).1 la' sz' its := ⟨((nl_hs_n (by omega)).trans (nl_hs_n (by omega))).trans a2.1, ((nl_hs_n (by omega)).trans (nl_hs_n (by omega))).trans a2.2.1, ((nl_hs_n (by omega)).trans (nl_hs_n (by omega))).trans a2.2.2⟩
    refine sp_X10_copy m1 b2 hsM (fun z => absurd ⟨nI_row hX, nI_row hY⟩ z) (fun X2 Y2 hX2 hY2 ea eb z => ?_) (fun X2 Y2 hX2 hY2 ea eb z z2 => ?_) (fun X2 Y2 hX2 hY2 ea eb z z2 z3 => ?_) (fun X2 Y2 I2 J2 N2 hX2 hY2 ea eb z z2 z3 z4 z5 z6 z7 z8 => ?_)
    · have eX : X2 = X := uniq hX2 hX ea.symm
      have eY : Y2 = Y := uniq hY2 hY eb.symm
      subst eX
      subst eY
      exact absurd z qn
    · have eX : X2 = X := uniq hX2 hX ea.symm
      have eY : Y2 = Y := uniq hY2 hY eb.symm
      subst eX
      subst eY
      rw [lX, lY] at z2
      exact absurd q2 z2
    · have eX : X2 = X := uniq hX2 hX ea.symm
      have eY : Y2 = Y := uniq hY2 hY eb.symm
      subst eX
      subst eY
      rw [sX, sY] at z3
      exact absurd q3 z3
    · have eX : X2 = X := uniq hX2 hX ea.symm
      have eY : Y2 = Y := uniq hY2 hY eb.symm
      subst eX
      subst eY
      have eI : I2 = I := (nI_eq (by omega) (by omega)).mp (z4.symm.trans ei)
      have eJ : J2 = J := (nI_eq (by omega) (by omega)).mp (z5.symm.trans ej)
      have eN : N2 = N := (nI_eq (by omega) (by omega)).mp (z6.symm.trans en')
      subst eI
      subst eJ
      subst eN
      refine hP _ ?_
      have o : ∀ q, q ≠ 0 → q ≠ 139 → q ≠ 107 + 2 * Y2 + 1 → q ≠ 142 → (nl_hs (nl_hs (nl_hs (nl_hs w (107 + 2 * Y2 + 1) (nl_ia 40 (p_cp (it X2) (it Y2) I2 J2 N2))) 0 (cX L M st lf 0)) 142 (nl_ia 320 (p_cp its its (40 * X2 + I2) (40 * Y2 + J2) N2))) 139 (cM 0 (nI P) lf st (nI A) (nI T) at_ beg tok val siz en da)).1 q = w.1 q := fun q y1 y2 y3 y4 => by
        rw [nl_hs_n y2, nl_hs_n y4, nl_hs_n y1, nl_hs_n y3]
      refine ⟨e2, L, M, st, lf, 0, P, A, T, at_, beg, tok, val, siz, en, da, c, k, tC, tM, hLM, ⟨?_, nl_hs_1⟩, ?_, g2.fr (fun q hq => o q (by omega) (by omega) (by omega) (by omega)), gK.fr hLM g3 (fun q hq => o q (by omega) (by omega) (by omega) (by omega)), g4.fr (fun q hq => o q (by omega) (by omega) (by omega) (by omega)), g5.fr (fun q hq => o q (by omega) (by omega) (by omega) (by omega)), g6.fr (fun q hq => o q (by omega) (by omega) (by omega) (by omega)), g7.fr (fun q hq => o q (by omega) (by omega) (by omega) (by omega))⟩
      · rw [nl_hs_n (by omega), nl_hs_n (by omega), nl_hs_1]
      · obtain ⟨x1, x2⟩ := a1.2 Y2 hY
        refine gA_upd a1 a3 a4 hY (t1 := th Y2) (l1 := lan Y2) (s1 := sz Y2) (f1 := p_cp (it X2) (it Y2) I2 J2 N2) (l2 := la' Y2) (s2 := sz' Y2) (its' := p_cp its its (40 * X2 + I2) (40 * Y2 + J2) N2) ?_ ?_ ?_ ?_ ?_ (fun q hq y1 y2 => o q (by omega) (by omega) y2 (by omega)) (a3 Y2 hY) (fun j hj => ?_) (fun x j hx hxi hj => ?_)
        · rw [o _ (by omega) (by omega) (by omega) (by omega)]; exact x1
        · rw [nl_hs_n (by omega), nl_hs_n (by omega), nl_hs_n (by omega), nl_hs_1]
        · rw [o _ (by omega) (by omega) (by omega) (by omega), upd_same rfl]; exact a2.1
        · rw [o _ (by omega) (by omega) (by omega) (by omega), upd_same rfl]; exact a2.2.1
        · rw [nl_hs_n (by omega), nl_hs_1]
        · rw [p_cp, p_cp]
          by_cases qj : J2 ≤ j ∧ j < J2 + N2
          · rw [if_pos qj, if_pos (by omega), a4 X2 _ hX (by omega)]
            congr 1
            omega
          · rw [if_neg qj, if_neg (by omega)]
            exact a4 Y2 j hY hj
        · rw [p_cp, if_neg (by omega)]
end

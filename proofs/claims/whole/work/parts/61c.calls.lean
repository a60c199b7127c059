/-! seen -/
section
variable {G : nl_G} {l : Launch} {E : Nat × Nat} {w : nl_HW} {Post : nl_R} {rv jv nv v : Int32}
theorem pr_seen (hI : Inv E w) (h : ∀ v' w1, nxt G l E m_X10_seen [.ref 139, .int rv, .int jv, .int nv, .int v] v' w1 → Post (some (.int v')) w1) : nl_Sat G l m_X9_seen [.ref 0, .int rv, .int jv, .int nv, .int v] w Post := by
  have hI' := hI
  obtain ⟨e2, L, M, st, lf, fi, P, A, T, at_, beg, tok, val, siz, en, da, c, k, tC, tM, hLM, ⟨h0, h1⟩, gall⟩ := hI'
  have gall' : gAll w.1 L M st P A T c k tC tM := gall
  obtain ⟨⟨th, lan, sz, it, la', sz', its, a1, a2, a3, a4⟩, g2, g3, g4, g5, g6, g7⟩ := gall
  have g3' := g3
  obtain ⟨k1, k2, k3, k4, k5, k6, k7, k8, k9, k10, k11, k12⟩ := g3'
  have g6' := g6
  obtain ⟨g60, g61, g62, g63, ⟨b1, b2, b3, g64⟩, g65, g66⟩ := g6'
  have hL4 : L = 4 ∨ L = 9 := by unfold gLM at hLM; omega
  obtain ⟨ln, ho⟩ : ∃ ln, ¬ st = 0 → tM 0 = nI ln ∧ ln ≤ 24 ∧ (0 ≤ tM 2 ∧ tM 2 ≤ 9) ∧ (tM 9 = 0 ∨ tM 9 = 1) := by
    by_cases q : st = 0
    · exact ⟨0, fun z => absurd q z⟩
    · obtain ⟨D, _, o⟩ := k12 q
      obtain ⟨ln, H, c1, c2, c3, c4⟩ := okP_ln o
      have ob := okP_b o
      exact ⟨ln, fun _ => ⟨c1, c2, ⟨ob.2.2.2.1, ob.2.2.2.2.2.2⟩, ob.2.2.2.2.2.1⟩⟩
  have ho2 : ¬ st = 0 → tC 0 = nI ln ∧ ln ≤ 24 ∧ (0 ≤ tC 2 ∧ tC 2 ≤ 9) ∧ (tC 9 = 0 ∨ tC 9 = 1) := fun q => by
    obtain ⟨c1, c2, c3, c4⟩ := ho q
    rw [k6 0 (by omega)] at c1
    rw [k6 2 (by omega)] at c3
    rw [k6 9 (by omega)] at c4
    exact ⟨c1, c2, c3, c4⟩
  have e0 : tM 0 = tC 0 := k6 0 (by omega)
  have hsC : ∀ x, x < 8 → ¬ th x = 0 → ∃ c, c ≤ 40 ∧ sz x = nI c := fun x hx q => by
    rcases a3 x hx with ⟨q1, _⟩ | ⟨_, _, _, q⟩
    · exact absurd q1 q
    · exact q
  have hsM : ∀ x, x < 8 → sz' x < 0 ∨ ∃ c, c ≤ 40 ∧ sz' x = nI c := fun x hx => by
    rcases a3 x hx with ⟨_, q2⟩ | ⟨_, q2, _, c, q4, q5⟩
    · exact Or.inl (by rw [q2]; decide)
    · exact Or.inr ⟨c, q4, by rw [q2]; exact q5⟩
  have same : ∀ x, x < 8 → ¬ th x = 0 → sz' x = sz x := fun x hx q => by
    rcases a3 x hx with ⟨q1, _⟩ | ⟨_, q2, _⟩
    · exact absurd q1 q
    · exact q2
  have ngt : ∀ x, x < 8 → th x = 0 → sz' x < 0 := fun x hx q => by
    rcases a3 x hx with ⟨_, q2⟩ | ⟨q1, _⟩
    · rw [q2]; decide
    · exact absurd q q1
  have uniq : ∀ {x y : Nat}, x < 8 → y < 8 → nI x = nI y → x = y := fun hx hy e => (nI_eq (by omega) (by omega)).mp e
  have eight : ∀ {N : Nat}, 1 ≤ N → N ≤ 8 → 1 ≤ nI N ∧ nI N ≤ 8 := fun h1 h2 => ⟨by rw [show (1 : Int32) = nI 1 by decide]; exact nI_le h1 (by omega), by rw [nI_8]; exact nI_le h2 (by omega)⟩
  have m0 : ∀ f, (nl_hs w 0 (cX L M st lf f)).1 139 = cM fi (nI P) lf st (nI A) (nI T) at_ beg tok val siz en da := fun f => (nl_hs_n (by omega)).trans h1
  have m4 : ∀ f, (nl_hs w 0 (cX L M st lf f)).1 144 = nl_ia 48 tM := fun f => (nl_hs_n (by omega)).trans k4
  have b0 : ∀ f, gRM (nl_hs w 0 (cX L M st lf f)).1 la' sz' its := fun f => ⟨(nl_hs_n (by omega)).trans a2.1, (nl_hs_n (by omega)).trans a2.2.1, (nl_hs_n (by omega)).trans a2.2.2⟩
  refine sp_X9_seen h0 g64 k1 hL4 k3 a1 hsC ho2 (fun q => h _ _ ⟨io_of h1, fun P2 hP => ?_⟩) (fun q q2 => h _ _ ⟨io_of h1, fun P2 hP => ?_⟩) (fun x q hx er q2 q3 => h _ _ ⟨io_of (m0 _), fun P2 hP => ?_⟩) (fun x N C q hx er en' n1 n8 qv q3 eC hC q4 => h _ _ ⟨io_of (m0 _), fun P2 hP => ?_⟩) (fun x I N C q hx er ej en' n1 n8 qv q3 eC hC hIN q4 => h _ _ ⟨io_of h1, fun P2 hP => ?_⟩) (fun x I N C q hx er ej en' n1 n8 qv q3 eC hC hIN q4 d1 d2 d3 => ?_)
  · exact sp_X10_seen h1 k4 a2 a4 hsM ho (fun _ => hP _ hI) (fun z => absurd q z) (fun x z => absurd q z) (fun x N C z => absurd q z) (fun x I N C z => absurd q z) (fun x I N C z => absurd q z)
  · refine sp_X10_seen h1 k4 a2 a4 hsM ho (fun z => absurd z q) (fun _ _ => hP _ hI) (fun x _ hx er z => absurd ⟨by rw [er]; exact nI_row hx, z⟩ q2) (fun x N C _ hx er en' n1 n8 qv _ _ _ => absurd ⟨by rw [er]; exact nI_row hx, by rw [en']; exact eight n1 n8, qv⟩ q2) (fun x I N C _ hx er ej en' n1 n8 qv _ _ _ _ => absurd ⟨by rw [er]; exact nI_row hx, by rw [en']; exact eight n1 n8, qv⟩ q2) (fun x I N C _ hx er ej en' n1 n8 qv _ _ _ _ => absurd ⟨by rw [er]; exact nI_row hx, by rw [en']; exact eight n1 n8, qv⟩ q2)
  · subst er
    have ng := ngt x hx q3
    have nn : ∀ {C : Nat}, C ≤ 40 → sz' x = nI C → False := fun hc e => by rw [e] at ng; exact nI_pos (by omega) ng
    refine sp_X10_seen (m0 _) (m4 _) (b0 _) a4 hsM ho (fun z => absurd z q) (fun _ z => absurd ⟨nI_row hx, q2⟩ z) (fun x2 _ hx2 er _ z => hP _ (Inv_fi e2 hLM gall')) (fun x2 N C _ hx2 er en' n1 n8 qv eC hC _ => ?_) (fun x2 I N C _ hx2 er ej en' n1 n8 qv eC hC _ _ => ?_) (fun x2 I N C _ hx2 er ej en' n1 n8 qv eC hC _ _ => ?_)
    · have ex := uniq hx2 hx er.symm
      subst ex
      exact (nn hC eC).elim
    · have ex := uniq hx2 hx er.symm
      subst ex
      exact (nn hC eC).elim
    · have ex := uniq hx2 hx er.symm
      subst ex
      exact (nn hC eC).elim
  · subst er
    subst en'
    have sx := same x hx q3
    refine sp_X10_seen (m0 _) (m4 _) (b0 _) a4 hsM ho (fun z => absurd z q) (fun _ z => absurd ⟨nI_row hx, eight n1 n8, qv⟩ z) (fun x2 _ hx2 er _ z => ?_) (fun x2 N2 C2 _ hx2 er en' _ _ _ eC2 hC2 _ => hP _ (Inv_fi e2 hLM gall')) (fun x2 I N2 C2 _ hx2 er ej en' _ _ _ eC2 hC2 z _ => ?_) (fun x2 I N2 C2 _ hx2 er ej en' _ _ _ eC2 hC2 z _ => ?_)
    · have ex := uniq hx2 hx er.symm
      subst ex
      rw [sx, eC] at z
      exact absurd z (nI_pos (by omega))
    · have ex := uniq hx2 hx er.symm
      subst ex
      have eN : N2 = N := (nI_eq (by omega) (by omega)).mp en'.symm
      subst eN
      rw [sx, eC] at eC2
      have eC3 : C = C2 := (nI_eq (by omega) (by omega)).mp eC2
      subst eC3
      exact absurd z (q4 I ej (by omega))
    · have ex := uniq hx2 hx er.symm
      subst ex
      have eN : N2 = N := (nI_eq (by omega) (by omega)).mp en'.symm
      subst eN
      rw [sx, eC] at eC2
      have eC3 : C = C2 := (nI_eq (by omega) (by omega)).mp eC2
      subst eC3
      exact absurd z (q4 I ej (by omega))
  · subst er
    subst en'
    subst ej
    have sx := same x hx q3
    refine sp_X10_seen h1 k4 a2 a4 hsM ho (fun z => absurd z q) (fun _ z => absurd ⟨nI_row hx, eight n1 n8, qv⟩ z) (fun x2 _ hx2 er _ z => ?_) (fun x2 N2 C2 _ hx2 er en' _ _ _ eC2 hC2 z => ?_) (fun x2 I2 N2 C2 _ hx2 er ej en' _ _ _ eC2 hC2 z _ => hP _ hI) (fun x2 I2 N2 C2 _ hx2 er ej en' _ _ _ eC2 hC2 z z2 => ?_)
    · have ex := uniq hx2 hx er.symm
      subst ex
      rw [sx, eC] at z
      exact absurd z (nI_pos (by omega))
    · have ex := uniq hx2 hx er.symm
      subst ex
      have eN : N2 = N := (nI_eq (by omega) (by omega)).mp en'.symm
      subst eN
      rw [sx, eC] at eC2
      have eC3 : C = C2 := (nI_eq (by omega) (by omega)).mp eC2
      subst eC3
      exact absurd hIN (z I rfl (by omega))
    · have ex := uniq hx2 hx er.symm
      subst ex
      have eN : N2 = N := (nI_eq (by omega) (by omega)).mp en'.symm
      subst eN
      have eI : I2 = I := (nI_eq (by omega) (by omega)).mp ej.symm
      subst eI
      rw [e0] at z2
      exact absurd z2 q4
  · subst er
    subst en'
    subst ej
    have sx := same x hx q3
    have o1 : ∀ q, q ≠ 0 → q ≠ 104 → (nl_hs (nl_hs w 104 (cE d1 d2 d3)) 0 (cX L M st lf 0)).1 q = w.1 q := fun q r1 r2 => (nl_hs_n r1).trans (nl_hs_n r2)
    have m139 : (nl_hs (nl_hs w 104 (cE d1 d2 d3)) 0 (cX L M st lf 0)).1 139 = cM fi (nI P) lf st (nI A) (nI T) at_ beg tok val siz en da := (o1 139 (by omega) (by omega)).trans h1
    refine h _ _ ⟨io_of m139, fun P2 hP => sp_X10_seen m139 ((o1 144 (by omega) (by omega)).trans k4) ⟨(o1 140 (by omega) (by omega)).trans a2.1, (o1 141 (by omega) (by omega)).trans a2.2.1, (o1 142 (by omega) (by omega)).trans a2.2.2⟩ a4 hsM ho (fun z => absurd z q) (fun _ z => absurd ⟨nI_row hx, eight n1 n8, qv⟩ z) (fun x2 _ hx2 er _ z => ?_) (fun x2 N2 C2 _ hx2 er en' _ _ _ eC2 hC2 z => ?_) (fun x2 I2 N2 C2 _ hx2 er ej en' _ _ _ eC2 hC2 z z2 => ?_) (fun x2 I2 N2 C2 _ hx2 er ej en' _ _ _ eC2 hC2 z z2 => ?_)⟩
    · have ex := uniq hx2 hx er.symm
      subst ex
      rw [sx, eC] at z
      exact absurd z (nI_pos (by omega))
    · have ex := uniq hx2 hx er.symm
      subst ex
      have eN : N2 = N := (nI_eq (by omega) (by omega)).mp en'.symm
      subst eN
      rw [sx, eC] at eC2
      have eC3 : C = C2 := (nI_eq (by omega) (by omega)).mp eC2
      subst eC3
      exact absurd hIN (z I rfl (by omega))
    · have ex := uniq hx2 hx er.symm
      subst ex
      have eN : N2 = N := (nI_eq (by omega) (by omega)).mp en'.symm
      subst eN
      have eI : I2 = I := (nI_eq (by omega) (by omega)).mp ej.symm
      subst eI
      rw [e0] at z2
      exact absurd q4 z2
    · have ex := uniq hx2 hx er.symm
      subst ex
      have eN : N2 = N := (nI_eq (by omega) (by omega)).mp en'.symm
      subst eN
      have eI : I2 = I := (nI_eq (by omega) (by omega)).mp ej.symm
      subst eI
      rw [agr_sees k6]
      refine hP _ ?_
      have o : ∀ q, q ≠ 0 → q ≠ 104 → q ≠ 139 → (nl_hs (nl_hs (nl_hs w 104 (cE d1 d2 d3)) 0 (cX L M st lf 0)) 139 (cM 0 (nI P) lf st (nI A) (nI T) at_ beg tok val siz en da)).1 q = w.1 q := fun q r1 r2 r3 => (nl_hs_n r3).trans (o1 q r1 r2)
      refine ⟨e2, L, M, st, lf, 0, P, A, T, at_, beg, tok, val, siz, en, da, c, k, tC, tM, hLM, ⟨(nl_hs_n (by omega)).trans nl_hs_1, nl_hs_1⟩, gall'.1.fr (fun q hq => o q (by omega) (by omega) (by omega)), g2.fr (fun q hq => o q (by omega) (by omega) (by omega)), gK.fr hLM g3 (fun q hq => o q (by omega) (by omega) (by omega)), g4.fr (fun q hq => o q (by omega) (by omega) (by omega)), g5.fr (fun q hq => o q (by omega) (by omega) (by omega)), ⟨?_, ?_, ?_, ?_, ⟨d1, d2, d3, (nl_hs_n (by omega)).trans ((nl_hs_n (by omega)).trans nl_hs_1)⟩, ?_, ?_⟩, g7.fr (fun q hq => o q (by omega) (by omega) (by omega))⟩
      · obtain ⟨y1, y2, y3, y4, y5, y6, y7, y8, e⟩ := g60
        exact ⟨y1, y2, y3, y4, y5, y6, y7, y8, (o 94 (by omega) (by omega) (by omega)).trans e⟩
      · obtain ⟨u, e⟩ := g61
        exact ⟨u, law_of e (fun q r1 r2 => o q (by omega) (by omega) (by omega))⟩
      · obtain ⟨u, z, e⟩ := g62
        exact ⟨u, z, cl_fr e (fun q r1 r2 => o q (by omega) (by omega) (by omega))⟩
      · obtain ⟨y1, y2, y3, e⟩ := g63
        exact ⟨y1, y2, y3, (o 103 (by omega) (by omega) (by omega)).trans e⟩
      · obtain ⟨r, z, e⟩ := g65
        exact ⟨r, z, (o 149 (by omega) (by omega) (by omega)).trans e⟩
      · obtain ⟨r, z, e⟩ := g66
        exact ⟨r, z, (o 150 (by omega) (by omega) (by omega)).trans e⟩
end

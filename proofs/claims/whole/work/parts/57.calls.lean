/-! calls that only read -/
def gAll (h : Nat → va_E) (L M : Nat) (st : Int32) (P A T c k : Nat) (tC tM : Nat → Int32) : Prop := gA h ∧ gT h P ∧ gK h L M st c k tC tM ∧ gP h A st c k tM ∧ gI h st ∧ gS h ∧ gQ h T
theorem gAll.fr {h h' : Nat → va_E} {L M P A T c k : Nat} {st : Int32} {tC tM : Nat → Int32} (hL : gLM L M) (g : gAll h L M st P A T c k tC tM) (e : ∀ q, q ≠ 0 → q ≠ 139 → h' q = h q) : gAll h' L M st P A T c k tC tM := by
  obtain ⟨g1, g2, g3, g4, g5, g6, g7⟩ := g
  exact ⟨g1.fr (fun q hq => e q (by omega) (by omega)), g2.fr (fun q hq => e q (by omega) (by omega)), gK.fr hL g3 (fun q hq => e q (by omega) (by omega)), g4.fr (fun q hq => e q (by omega) (by omega)), g5.fr (fun q hq => e q (by omega) (by omega)), g6.fr (fun q hq => e q (by omega) (by omega)), g7.fr (fun q hq => e q (by omega) (by omega))⟩
section
variable {G : nl_G} {l : Launch} {E : Nat × Nat} {w : nl_HW} {Post : nl_R} {L M P A T c k : Nat} {tC tM : Nat → Int32} {st lf fi f at_ beg tok val siz en da u v : Int32}
/-- a finding was left -/
theorem Inv_fi (e2 : w.2 = E) (hLM : gLM L M) (g : gAll w.1 L M st P A T c k tC tM) : Inv E (nl_hs (nl_hs w 0 (cX L M st lf f)) 139 (cM f (nI P) lf st (nI A) (nI T) at_ beg tok val siz en da)) :=
  ⟨e2, L, M, st, lf, f, P, A, T, at_, beg, tok, val, siz, en, da, c, k, tC, tM, hLM, ⟨(nl_hs_n (by omega)).trans nl_hs_1, nl_hs_1⟩, g.fr hLM (fun q h0 h1 => (nl_hs_n h1).trans (nl_hs_n h0))⟩
theorem pr_cloth (hI : Inv E w) (h : ∀ r w1, nxt G l E m_X10_cloth [.ref 139, .int v] r w1 → Post (some (.int r)) w1) : nl_Sat G l m_X9_cloth [.ref 0, .int v] w Post := by
  have hI' := hI
  obtain ⟨e2, L, M, st, lf, fi, P, A, T, at_, beg, tok, val, siz, en, da, c, k, tC, tM, hLM, ⟨h0, h1⟩, g1, g2, ⟨k1, k2, k3, k4, k5, k6, k7, k8, k9, k10, k11, k12⟩, g4⟩ := hI'
  have b9 : tC 9 = 0 ∨ tC 9 = 1 := by
    rw [← k6 9 (by omega)]
    by_cases q : st = 0
    · exact Or.inl ((k11 q).1 9)
    · obtain ⟨D, _, o⟩ := k12 q
      exact (okP_b o).2.2.2.2.2.1
  exact sp_X9_cloth h0 k1 k3 rfl b9 (h _ _ ⟨io_of h1, fun P2 hP => sp_X10_cloth h1 k4 (by rw [agr_cloth k6]; exact hP _ hI)⟩)
theorem okP_ln {D : Nat} (o : okP D c k tM) : ∃ ln H, tM 0 = nI ln ∧ ln ≤ 24 ∧ tM 10 = nI H ∧ H ≤ ln := by
  obtain ⟨⟨⟨ln, c', k', H, Hi, D', ⟨o0, o1, o2⟩, _, _, ⟨o8, o9, o10, o11⟩, _⟩, _⟩, _⟩ := o
  exact ⟨ln, H, o0, o2, o8, by omega⟩
theorem pr_colour (hI : Inv E w) (h : ∀ r w1, nxt G l E m_X10_colour [.ref 139, .int v] r w1 → Post (some (.int r)) w1) : nl_Sat G l m_X9_colour [.ref 0, .int v] w Post := by
  have hI' := hI
  obtain ⟨e2, L, M, st, lf, fi, P, A, T, at_, beg, tok, val, siz, en, da, c, k, tC, tM, hLM, ⟨h0, h1⟩, g1, g2, ⟨k1, k2, k3, k4, k5, k6, k7, k8, k9, k10, k11, k12⟩, g4⟩ := hI'
  obtain ⟨ln, e0, hn, hz, hc1⟩ : ∃ ln, tM 0 = nI ln ∧ ln ≤ 24 ∧ (st = 0 → ln = 0) ∧ (¬ st = 0 → 1 ≤ c) := by
    by_cases q : st = 0
    · exact ⟨0, by rw [(k11 q).1 0, nI_0], by omega, fun _ => rfl, fun z => absurd q z⟩
    · obtain ⟨D, _, o⟩ := k12 q
      obtain ⟨ln, H, a1, a2, _⟩ := okP_ln o
      exact ⟨ln, a1, a2, fun z => absurd z q, fun _ => o.2.2.1⟩
  have hc2 : 0 < ln → 1 ≤ c := fun z => hc1 (fun q => by have := hz q; omega)
  refine sp_X9_colour h0 k1 ((k6 0 (by omega)).symm.trans e0) hn hz ((k6 6 (by omega)).symm.trans k9) k7 hc1 (fun q => h _ _ ⟨io_of h1, fun P2 hP => sp_X10_colour h1 k4 e0 hn k9 k7 hc2 (fun _ => hP _ hI) (fun s hs e => absurd e (q s hs))⟩) (fun s hs e => h _ _ ⟨io_of h1, fun P2 hP => sp_X10_colour h1 k4 e0 hn k9 k7 hc2 (fun q => absurd e (q s hs)) (fun s2 hs2 e' => ?_)⟩)
  have es : s2 = s := (nI_eq (by omega) (by omega)).mp (e'.symm.trans e)
  subst es
  rw [agr_col k6 (hc2 (by omega))]
  exact hP _ hI
theorem pr_suitor (hI : Inv E w) (h : ∀ r w1, nxt G l E m_X10_suitor [.ref 139, .int v, .int u] r w1 → Post (some (.int r)) w1) : nl_Sat G l m_X9_suitor [.ref 0, .int v, .int u] w Post := by
  have hI' := hI
  obtain ⟨e2, L, M, st, lf, fi, P, A, T, at_, beg, tok, val, siz, en, da, c, k, tC, tM, hLM, ⟨h0, h1⟩, g1, g2, ⟨k1, k2, k3, k4, k5, k6, k7, k8, k9, k10, k11, k12⟩, g4⟩ := hI'
  have hz : st = 0 → k = 0 := fun q => (k11 q).2.2
  have hlk : ∀ s, s < k → tM (43 + s) = -1 ∨ ∃ j, j ≤ 24 ∧ tM (43 + s) = nI j := fun s hs => by
    obtain ⟨D, _, o⟩ := k12 (fun q => by have := hz q; omega)
    exact (okP_S o s hs).2.2.2.2
  refine sp_X9_suitor h0 k1 k3 ((k6 7 (by omega)).symm.trans k10) k8 hz (fun q => h _ _ ⟨io_of h1, fun P2 hP => sp_X10_suitor h1 k4 k10 k8 hlk (fun _ => hP _ hI) (fun s hs e => absurd e (q s hs))⟩) (fun s hs e => h _ _ ⟨io_of h1, fun P2 hP => sp_X10_suitor h1 k4 k10 k8 hlk (fun q => absurd e (q s hs)) (fun s2 hs2 e' => ?_)⟩)
  have es : s2 = s := (nI_eq (by omega) (by omega)).mp (e'.symm.trans e)
  subst es
  rw [agr_suit k6 hs]
  exact hP _ hI
theorem pr_kind (hI : Inv E w) (h : ∀ r w1, nxt G l E m_X10_kind [.ref 139, .int v] r w1 → Post (some (.int r)) w1) : nl_Sat G l m_X9_kind [.ref 0, .int v] w Post := by
  have hI' := hI
  obtain ⟨e2, L, M, st, lf, fi, P, A, T, at_, beg, tok, val, siz, en, da, c, k, tC, tM, hLM, ⟨h0, h1⟩, g1, g2, ⟨k1, k2, k3, k4, k5, k6, k7, k8, k9, k10, k11, k12⟩, g4⟩ := hI'
  have hz : st = 0 → k = 0 := fun q => (k11 q).2.2
  refine sp_X9_kind h0 k1 ((k6 7 (by omega)).symm.trans k10) k8 hz (fun q => h _ _ ⟨io_of h1, fun P2 hP => sp_X10_kind h1 k4 k10 k8 (fun _ => hP _ hI) (fun s hs e => absurd e (q s hs))⟩) (fun s hs e => h _ _ ⟨io_of h1, fun P2 hP => sp_X10_kind h1 k4 k10 k8 (fun q => absurd e (q s hs)) (fun s2 hs2 e' => ?_)⟩)
  have es : s2 = s := (nI_eq (by omega) (by omega)).mp (e'.symm.trans e)
  subst es
  rw [k6 (23 + s2) (by omega)]
  exact hP _ hI
theorem pr_trace (hI : Inv E w) (h : ∀ r w1, nxt G l E m_X10_trace [.ref 139, .int v] r w1 → Post (some (.int r)) w1) : nl_Sat G l m_X9_trace [.ref 0, .int v] w Post := by
  have hI' := hI
  obtain ⟨e2, L, M, st, lf, fi, P, A, T, at_, beg, tok, val, siz, en, da, c, k, tC, tM, hLM, ⟨h0, h1⟩, g1, g2, g3, g4, g5, g6, hT, x1, x2, x3, x4, f, f', q1, q2, q3, q4⟩ := hI'
  refine sp_X9_trace h0 q1 q2 hT (fun q => h _ _ ⟨io_of h1, fun P2 hP => sp_X10_trace h1 q3 hT (fun _ => hP _ hI) (fun s hs e => absurd e (q s hs))⟩) (fun s hs e => h _ _ ⟨io_of h1, fun P2 hP => sp_X10_trace h1 q3 hT (fun q => absurd e (q s hs)) (fun s2 hs2 e' => ?_)⟩)
  have es : s2 = s := (nI_eq (by omega) (by omega)).mp (e'.symm.trans e)
  subst es
  rw [← q4 s2 hs]
  exact hP _ hI
theorem pr_looks (hI : Inv E w) (h : ∀ r w1, nxt G l E m_X10_looks_ [.ref 139, .int v] r w1 → Post (some (.int r)) w1) : nl_Sat G l m_X9_looks [.ref 0, .int v] w Post := by
  have hI' := hI
  obtain ⟨e2, L, M, st, lf, fi, P, A, T, at_, beg, tok, val, siz, en, da, c, k, tC, tM, hLM, ⟨h0, h1⟩, g1, g2, ⟨k1, k2, k3, k4, k5, k6, k7, k8, k9, k10, k11, k12⟩, g4⟩ := hI'
  obtain ⟨ln, H, ho⟩ : ∃ ln H, ¬ st = 0 → tM 0 = nI ln ∧ ln ≤ 24 ∧ tM 6 = nI c ∧ 1 ≤ c ∧ c ≤ 8 ∧ tM 10 = nI H ∧ H ≤ ln := by
    by_cases q : st = 0
    · exact ⟨0, 0, fun z => absurd q z⟩
    · obtain ⟨D, _, o⟩ := k12 q
      obtain ⟨ln, H, a1, a2, a3, a4⟩ := okP_ln o
      exact ⟨ln, H, fun _ => ⟨a1, a2, k9, o.2.2.1, k7, a3, a4⟩⟩
  have ho2 : ¬ st = 0 → tC 0 = nI ln ∧ ln ≤ 24 ∧ tC 6 = nI c ∧ 1 ≤ c ∧ c ≤ 8 ∧ tC 10 = nI H ∧ H ≤ ln := fun q => by
    obtain ⟨a1, a2, a3, a4, a5, a6, a7⟩ := ho q
    exact ⟨(k6 0 (by omega)).symm.trans a1, a2, (k6 6 (by omega)).symm.trans a3, a4, a5, (k6 10 (by omega)).symm.trans a6, a7⟩
  have e10 := k6 10 (by omega)
  have bn : ¬ st = 0 → ∀ n, v = nI n → n ≤ H → ¬ v < 0 ∧ v ≤ tM 10 := fun q n e hn => by
    obtain ⟨a1, a2, a3, a4, a5, a6, a7⟩ := ho q
    rw [e, a6]
    exact ⟨nI_pos (by omega), nI_le hn (by omega)⟩
  refine sp_X9_looks (Dm := 0) h0 k1 k3 ho2 (fun q => h _ _ ⟨io_of h1, fun P2 hP => ?_⟩) (fun q q2 => h _ _ ⟨io_of h1, fun P2 hP => ?_⟩) (fun q q2 q3 => h _ _ ⟨io_of h1, fun P2 hP => ?_⟩) (fun n q q2 q3 => h _ _ ⟨io_of h1, fun P2 hP => ?_⟩)
  · exact sp_X10_looks_ h1 k4 ho (fun _ => hP _ hI) (fun z => absurd q z) (fun z => absurd q z) (fun n z => absurd q z)
  · exact sp_X10_looks_ h1 k4 ho (fun z => absurd z q) (fun _ _ => hP _ hI) (fun _ z => absurd q2 z) (fun n _ z z2 => absurd q2 (bn q n z z2).1)
  · exact sp_X10_looks_ h1 k4 ho (fun z => absurd z q) (fun _ z => absurd z q2) (fun _ _ _ => hP _ hI) (fun n _ z z2 => absurd (bn q n z z2).2 (by rw [e10]; exact q3))
  · refine sp_X10_looks_ h1 k4 ho (fun z => absurd z q) (fun _ z => absurd z (bn q n q2 q3).1) (fun _ _ z => absurd (bn q n q2 q3).2 z) (fun n2 _ z z2 => ?_)
    obtain ⟨a1, a2, a3, a4, a5, a6, a7⟩ := ho q
    have es : n2 = n := (nI_eq (by omega) (by omega)).mp (z.symm.trans q2)
    subst es
    rw [agr_len k6 a4]
    exact hP _ hI
theorem cnt_eq {p q : Nat → Bool} : ∀ n, (∀ i, i < n → p i = q i) → p_cnt p n = p_cnt q n
  | 0, _ => rfl
  | n + 1, h => by rw [p_cnt, p_cnt, h n (by omega), cnt_eq n (fun i hi => h i (by omega))]
theorem pr_count (hI : Inv E w) (h : ∀ r w1, nxt G l E m_X10_count [.ref 139, .int v] r w1 → Post (some (.int r)) w1) : nl_Sat G l m_X9_count [.ref 0, .int v] w Post := by
  have hI' := hI
  obtain ⟨e2, L, M, st, lf, fi, P, A, T, at_, beg, tok, val, siz, en, da, c, k, tC, tM, hLM, ⟨h0, h1⟩, ⟨th, la, sz, it, la', sz', its, a1, a2, a3, a4⟩, ⟨t0, T2, b1, b2, b3, b4, b5, t1, t2, t3, t4⟩, ⟨k1, k2, k3, k4, k5, k6, k7, k8, k9, k10, k11, k12⟩, ⟨p1, p2, x, bf, p3, p4, p5⟩, g5⟩ := hI'
  have ec : p_cnt (fun i => decide (¬ sz' i < 0)) 8 = p_cnt (fun i => decide (¬ th i = 0)) 8 := by
    refine cnt_eq 8 (fun i hi => ?_)
    rcases a3 i hi with ⟨q1, q2⟩ | ⟨q1, q2, q3, c, q4, q5⟩
    · rw [decide_eq_false (by rw [q2]; decide), decide_eq_false (fun z => z q1)]
    · rw [decide_eq_true (by rw [q2, q5]; exact nI_pos (by omega)), decide_eq_true q1]
  refine sp_X9_count h0 a1 k1 k3 p4 t1 ((k6 7 (by omega)).symm.trans k10) k8 (fun q => ?_) (h _ _ ⟨io_of h1, fun P2 hP => sp_X10_count h1 a2 k4 k10 k8 (by rw [ec, agr_count k6]; exact hP _ hI)⟩)
  obtain ⟨z1, z2, z3⟩ := k11 q
  exact ⟨(k6 0 (by omega)).symm.trans (z1 0), (k6 6 (by omega)).symm.trans (z1 6), (k6 8 (by omega)).symm.trans (z1 8), z3⟩
end

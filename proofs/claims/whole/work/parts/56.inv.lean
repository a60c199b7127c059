/-! what holds between two calls -/
def gA (h : Nat → va_E) : Prop := ∃ th la sz it la' sz' its, gRC h th la sz it ∧ gRM h la' sz' its ∧ (∀ i, i < 8 → (th i = 0 ∧ sz' i = -1) ∨ (¬ th i = 0 ∧ sz' i = sz i ∧ la' i = la i ∧ ∃ c, c ≤ 40 ∧ sz i = nI c)) ∧ ∀ i j, i < 8 → j < 40 → it i j = its (40 * i + j)
def gT (h : Nat → va_E) (P : Nat) : Prop := P ≤ 120 ∧ ∃ T a b c d f, h 2 = cRd (nI P) a b c d f ∧ h 3 = nl_ia 120 T ∧ h 143 = nl_ia 120 T ∧ ∀ j, j < P → 0 ≤ T j
def gK (h : Nat → va_E) (L M : Nat) (st : Int32) (c k : Nat) (tC tM : Nat → Int32) : Prop := lawAt h L tC ∧ (∃ u, lawAt h M u) ∧ clothAt h 14 tC (yl tC) ∧ h 144 = nl_ia 48 tM ∧ z48 tM ∧ agr c k tC tM ∧ c ≤ 8 ∧ k ≤ 5 ∧ tM 6 = nI c ∧ tM 7 = nI k ∧ (st = 0 → (∀ j, tM j = 0) ∧ c = 0 ∧ k = 0) ∧ (¬ st = 0 → ∃ D, D ≤ 999 ∧ okP D c k tM)
def gP (h : Nat → va_E) (A : Nat) (st : Int32) (c k : Nat) (tM : Nat → Int32) : Prop := A ≤ 24 ∧ (st = 0 → A = 0) ∧ ∃ x bf, x < 24 ∧ h 17 = cP (nI x) (nI A) ∧ h 18 = nl_ra 4 24 keptF ∧ h 145 = nl_ia 1152 bf ∧ (∀ i, i < 24 → ∃ u z, clothAt h (19 + 3 * i) u z) ∧ ∀ j, j < A → clothAt h (19 + 3 * ((x + 24 - A + j) % 24)) (tr 48 (48 * j) bf) (yl (tr 48 (48 * j) bf)) ∧ sameL tM (tr 48 (48 * j) bf) ∧ ∃ D, D ≤ 999 ∧ okP D c k (tr 48 (48 * j) bf)
def gI (h : Nat → va_E) (st : Int32) : Prop := ∃ kf im, h 91 = nl_ra 3 2 imgL ∧ h 92 = nl_ra 4 2 imgW ∧ h 93 = nl_za 2 kf ∧ h 147 = nl_za 2 kf ∧ h 146 = nl_ia 96 im ∧ ∀ i, i < 2 → ∃ t y, lawAt h (123 + 8 * i) t ∧ clothAt h (128 + 8 * i) t y ∧ (t 9 = 0 ∨ t 9 = 1) ∧ (¬ kf i = 0 → ¬ st = 0 ∧ y = yl t ∧ ∃ c k D, D ≤ 999 ∧ agr c k t (tr 48 (48 * i) im) ∧ okP D c k (tr 48 (48 * i) im))
def gS (h : Nat → va_E) : Prop := (∃ s1 s2 s3 s4 s5 s6 s7 s8, h 94 = cS s1 s2 s3 s4 s5 s6 s7 s8) ∧ (∃ u, lawAt h 95 u) ∧ (∃ u z, clothAt h 100 u z) ∧ (∃ a b c, h 103 = cT a b c) ∧ (∃ a b c, h 104 = cE a b c) ∧ (∃ r, z48 r ∧ h 149 = nl_ia 48 r) ∧ ∃ g, z48 g ∧ h 150 = nl_ia 48 g
def gQ (h : Nat → va_E) (T : Nat) : Prop := T ≤ 16 ∧ ∃ a b c d f f', h 105 = cA (nI T) a b c d ∧ h 106 = nl_ia 16 f ∧ h 148 = nl_ia 16 f' ∧ ∀ j, j < T → f j = f' j
def gLM (L M : Nat) : Prop := (L = 4 ∧ M = 9) ∨ (L = 9 ∧ M = 4)
def Inv (E : Nat × Nat) (w : nl_HW) : Prop := w.2 = E ∧ ∃ L M st lf fi P A T at_ beg tok val siz en da c k tC tM, gLM L M ∧ (w.1 0 = cX L M st lf fi ∧ w.1 139 = cM fi (nI P) lf st (nI A) (nI T) at_ beg tok val siz en da) ∧ gA w.1 ∧ gT w.1 P ∧ gK w.1 L M st c k tC tM ∧ gP w.1 A st c k tM ∧ gI w.1 st ∧ gS w.1 ∧ gQ w.1 T
section
variable {h h' : Nat → va_E} {L M P A T c k : Nat} {st : Int32} {tC tM : Nat → Int32}
theorem gA.fr (g : gA h) (e : ∀ q, q = 1 ∨ (107 ≤ q ∧ q ≤ 122) ∨ (140 ≤ q ∧ q ≤ 142) → h' q = h q) : gA h' := by
  obtain ⟨th, la, sz, it, la', sz', its, ⟨a1, a2⟩, ⟨b1, b2, b3⟩, c1, c2⟩ := g
  refine ⟨th, la, sz, it, la', sz', its, ⟨(e 1 (by omega)).trans a1, fun i hi => ?_⟩, ⟨(e _ (by omega)).trans b1, (e _ (by omega)).trans b2, (e _ (by omega)).trans b3⟩, c1, c2⟩
  obtain ⟨x1, x2⟩ := a2 i hi
  exact ⟨(e _ (by omega)).trans x1, (e _ (by omega)).trans x2⟩
theorem gT.fr (g : gT h P) (e : ∀ q, q = 2 ∨ q = 3 ∨ q = 143 → h' q = h q) : gT h' P := by
  obtain ⟨p, T, a, b, c, d, f, x1, x2, x3, x4⟩ := g
  exact ⟨p, T, a, b, c, d, f, (e _ (by omega)).trans x1, (e _ (by omega)).trans x2, (e _ (by omega)).trans x3, x4⟩
theorem cl_fr {a : Nat} {t : Nat → Int32} {y : Int32} (g : clothAt h a t y) (e : ∀ q, a ≤ q → q ≤ a + 2 → h' q = h q) : clothAt h' a t y := cloth_of g (e _ (by omega) (by omega)) (e _ (by omega) (by omega)) (e _ (by omega) (by omega))
theorem gK.fr (hL : gLM L M) (g : gK h L M st c k tC tM) (e : ∀ q, (4 ≤ q ∧ q ≤ 16) ∨ q = 144 → h' q = h q) : gK h' L M st c k tC tM := by
  obtain ⟨x1, ⟨u, x2⟩, x3, x4, x5⟩ := g
  unfold gLM at hL
  exact ⟨law_of x1 (fun q r1 r2 => e q (by omega)), ⟨u, law_of x2 (fun q r1 r2 => e q (by omega))⟩, cl_fr x3 (fun q r1 r2 => e q (by omega)), (e _ (by omega)).trans x4, x5⟩
theorem gP.fr (g : gP h A st c k tM) (e : ∀ q, (17 ≤ q ∧ q ≤ 90) ∨ q = 145 → h' q = h q) : gP h' A st c k tM := by
  obtain ⟨a1, a2, x, bf, x1, x2, x3, x4, x5, x6⟩ := g
  refine ⟨a1, a2, x, bf, x1, (e _ (by omega)).trans x2, (e _ (by omega)).trans x3, (e _ (by omega)).trans x4, fun i hi => ?_, fun j hj => ?_⟩
  · obtain ⟨u, z, y⟩ := x5 i hi
    exact ⟨u, z, cl_fr y (fun q r1 r2 => e q (by omega))⟩
  · obtain ⟨y1, y2⟩ := x6 j hj
    have := Nat.mod_lt (x + 24 - A + j) (y := 24) (by omega)
    exact ⟨cl_fr y1 (fun q r1 r2 => e q (by omega)), y2⟩
theorem gI.fr (g : gI h st) (e : ∀ q, (91 ≤ q ∧ q ≤ 93) ∨ (123 ≤ q ∧ q ≤ 138) ∨ q = 146 ∨ q = 147 → h' q = h q) : gI h' st := by
  obtain ⟨kf, im, x1, x2, x3, x4, x5, x6⟩ := g
  refine ⟨kf, im, (e _ (by omega)).trans x1, (e _ (by omega)).trans x2, (e _ (by omega)).trans x3, (e _ (by omega)).trans x4, (e _ (by omega)).trans x5, fun i hi => ?_⟩
  obtain ⟨t, y, y1, y2, y3⟩ := x6 i hi
  exact ⟨t, y, law_of y1 (fun q r1 r2 => e q (by omega)), cl_fr y2 (fun q r1 r2 => e q (by omega)), y3⟩
theorem gS.fr (g : gS h) (e : ∀ q, (94 ≤ q ∧ q ≤ 104) ∨ q = 149 ∨ q = 150 → h' q = h q) : gS h' := by
  obtain ⟨⟨s1, s2, s3, s4, s5, s6, s7, s8, x1⟩, ⟨u, x2⟩, ⟨u2, z2, x3⟩, ⟨a1, b1, c1, x4⟩, ⟨a2, b2, c2, x5⟩, ⟨r, z, x6⟩, g, zg, x7⟩ := g
  exact ⟨⟨s1, s2, s3, s4, s5, s6, s7, s8, (e _ (by omega)).trans x1⟩, ⟨u, law_of x2 (fun q r1 r2 => e q (by omega))⟩, ⟨u2, z2, cl_fr x3 (fun q r1 r2 => e q (by omega))⟩, ⟨a1, b1, c1, (e _ (by omega)).trans x4⟩, ⟨a2, b2, c2, (e _ (by omega)).trans x5⟩, ⟨r, z, (e _ (by omega)).trans x6⟩, g, zg, (e _ (by omega)).trans x7⟩
theorem gQ.fr (g : gQ h T) (e : ∀ q, q = 105 ∨ q = 106 ∨ q = 148 → h' q = h q) : gQ h' T := by
  obtain ⟨p, a, b, c, d, f, f', x1, x2, x3, x4⟩ := g
  exact ⟨p, a, b, c, d, f, f', (e _ (by omega)).trans x1, (e _ (by omega)).trans x2, (e _ (by omega)).trans x3, x4⟩
end
/-- what is known when the class has answered v and the reference is to be asked -/
def nxt (G : nl_G) (l : Launch) (E : Nat × Nat) (mM : nl_MI) (am : List Value) (v : Int32) (w1 : nl_HW) : Prop := nl_io 10 (w1.1 139) ∧ ∀ Post2 : nl_R, (∀ w2, Inv E w2 → Post2 (some (.int v)) w2) → nl_Sat G l mM am w1 Post2
section
variable {G : nl_G} {l : Launch} {E : Nat × Nat} {w : nl_HW} {Post : nl_R} {a b c d v : Int32}
theorem pr_fault (hI : Inv E w) (h : ∀ v w1, nxt G l E m_X10_fault [.ref 139] v w1 → Post (some (.int v)) w1) : nl_Sat G l m_X9_fault [.ref 0] w Post := by
  have hI' := hI
  obtain ⟨e2, L, M, st, lf, fi, P, A, T, at_, beg, tok, val, siz, en, da, c, k, tC, tM, hLM, ⟨h0, h1⟩, rest⟩ := hI'
  exact sp_X9_fault h0 (h _ _ ⟨io_of h1, fun P2 hP => sp_X10_fault h1 (hP _ hI)⟩)
theorem pr_status (hI : Inv E w) (h : ∀ v w1, nxt G l E m_X10_status [.ref 139] v w1 → Post (some (.int v)) w1) : nl_Sat G l m_X9_status [.ref 0] w Post := by
  have hI' := hI
  obtain ⟨e2, L, M, st, lf, fi, P, A, T, at_, beg, tok, val, siz, en, da, c, k, tC, tM, hLM, ⟨h0, h1⟩, rest⟩ := hI'
  exact sp_X9_status h0 (h _ _ ⟨io_of h1, fun P2 hP => sp_X10_status h1 (hP _ hI)⟩)
end

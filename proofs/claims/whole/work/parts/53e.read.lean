/-! reading: the class reads the colours -/
def pBl (f : Nat) : PS → PS
  | .inl p => .inr (f, p)
  | .inr z => .inr z
/-- after a colour: a comma, and one more; or a semicolon -/
def p_col (T : Nat → Int32) (P : Nat) : Nat → Nat → PR → PR
  | 0, _, x => x
  | m + 1, i, x => if i = 8 then (pBl 3 (pChk T P 0 3 x.1), x.2) else
    match pNum T P 0 3 x.1 with
    | .inr z => (.inr z, upd (upd x.2 (15 + i) (pVal T P x.1)) 6 (nI (i + 1)))
    | .inl p => if (tk T P p).1 = 3 then p_col T P m (i + 1) (.inl (tk T P p).2.2, upd (upd x.2 (15 + i) (pVal T P x.1)) 6 (nI (i + 1))) else (pSgn T P 4 (.inl p), upd (upd x.2 (15 + i) (pVal T P x.1)) 6 (nI (i + 1)))
def pCs (T : Nat → Int32) (P : Nat) (x : PR) : PR := p_col T P 9 0 (pLet T P 99 x.1, upd x.2 6 0)
/-- A, and the colours with their count -/
def Ac (A : Nat → Prop) (r : Nat → Int32) : Nat → Prop := fun j => A j ∨ j = 6 ∨ (15 ≤ j ∧ ∃ c, r 6 = nI c ∧ c ≤ 8 ∧ j < 15 + c)
section
variable {G : nl_G} {l : Launch} {w W : nl_HW} {Post : nl_R} {P M k i : Nat} {T u : Nat → Int32} {c lo hi y v : Int32} {e : va_E} {s s' : PS} {x : PR} {A : Nat → Prop}
theorem law_told (hl : lawAt W.1 M u) (hi : i < 8) : lawAt (nl_hs W (M + 1) (nl_ia 8 (upd (tr 8 15 u) i y))).1 M (upd u (15 + i) y) := by
  obtain ⟨l1, l2, l3, l4, l5⟩ := hl
  refine ⟨?_, ?_, ?_, ?_, ?_⟩
  · rw [nl_hs_n (by omega), l1]
    simp only [cL]
    rw [pk_un (by omega), pk_un (by omega), pk_un (by omega), pk_un (by omega), pk_un (by omega), pk_un (by omega), pk_un (by omega), pk_un (by omega)]
  · rw [nl_hs_1, tr_in hi]
  · rw [nl_hs_n (by omega), l3, tr_out (by omega)]
  · rw [nl_hs_n (by omega), l4, tr_out (by omega)]
  · rw [nl_hs_n (by omega), l5, tr_out (by omega)]
theorem law_kinds (hl : lawAt W.1 M u) (hi : i < 5) : lawAt (nl_hs W (M + 2) (nl_ia 5 (upd (tr 5 23 u) i y))).1 M (upd u (23 + i) y) := by
  obtain ⟨l1, l2, l3, l4, l5⟩ := hl
  refine ⟨?_, ?_, ?_, ?_, ?_⟩
  · rw [nl_hs_n (by omega), l1]
    simp only [cL]
    rw [pk_un (by omega), pk_un (by omega), pk_un (by omega), pk_un (by omega), pk_un (by omega), pk_un (by omega), pk_un (by omega), pk_un (by omega)]
  · rw [nl_hs_n (by omega), l2, tr_out (by omega)]
  · rw [nl_hs_1, tr_in hi]
  · rw [nl_hs_n (by omega), l4, tr_out (by omega)]
  · rw [nl_hs_n (by omega), l5, tr_out (by omega)]
theorem law_limits (hl : lawAt W.1 M u) (hi : i < 5) : lawAt (nl_hs W (M + 4) (nl_ia 5 (upd (tr 5 33 u) i y))).1 M (upd u (33 + i) y) := by
  obtain ⟨l1, l2, l3, l4, l5⟩ := hl
  refine ⟨?_, ?_, ?_, ?_, ?_⟩
  · rw [nl_hs_n (by omega), l1]
    simp only [cL]
    rw [pk_un (by omega), pk_un (by omega), pk_un (by omega), pk_un (by omega), pk_un (by omega), pk_un (by omega), pk_un (by omega), pk_un (by omega)]
  · rw [nl_hs_n (by omega), l2, tr_out (by omega)]
  · rw [nl_hs_n (by omega), l3, tr_out (by omega)]
  · rw [nl_hs_n (by omega), l4, tr_out (by omega)]
  · rw [nl_hs_1, tr_in hi]
/-- a number of the law was put, in whatever cell -/
theorem rI_putA {j q0 : Nat} {e : va_E} (hM : M = 4 ∨ M = 9) (i1 : W.2 = w.2) (i2 : ∀ q, q ≠ 2 → q < M ∨ M + 4 < q → W.1 q = w.1 q) (i3 : rdC T P s (W.1 2)) (hq : M ≤ q0 ∧ q0 ≤ M + 4) (hl : lawAt (nl_hs W q0 e).1 M (upd u j y)) (i5 : isOk s → ∀ j, A j → u j = x.2 j) (hv : isOk s → y = v) : rI w (nl_hs W q0 e) T P M (s, upd x.2 j v) (fun i => A i ∨ i = j) := by
  refine ⟨i1, fun q h1 h2 => (nl_hs_n (by omega)).trans (i2 q h1 h2), by rw [nl_hs_n (by omega)]; exact i3, upd u j y, hl, fun z i hi => ?_⟩
  by_cases q : i = j
  · subst q
    show upd u i y i = upd x.2 i v i
    rw [pk_us, pk_us]; exact hv z
  · show upd u j y i = upd x.2 j v i
    rw [pk_un q, pk_un q]
    exact i5 z i (hi.resolve_right q)
theorem rI_mono {B : Nat → Prop} (hI : rI w W T P M x A) (h : isOk x.1 → ∀ j, B j → A j) : rI w W T P M x B := by
  obtain ⟨i1, i2, i3, u, i4, i5⟩ := hI
  exact ⟨i1, i2, i3, u, i4, fun z j hj => i5 z j (h z j hj)⟩
theorem sq_chk (hI : rI w W T P M x A) (hM : M = 4 ∨ M = 9) (h : ∀ W', rI w W' T P M (pChk T P lo hi x.1, x.2) A → Post none W') : nl_Sat G l m_X5_checkNumber [.ref 2, .int lo, .int hi] W Post :=
  sp_X5_checkNumber hI.2.2.1 (fun _ he => h _ (rI_rd hI hM he (fun ⟨q, z⟩ => by
    rcases x with ⟨s, r⟩
    rcases s with p | z2
    · exact ⟨p, rfl⟩
    · cases z)))
theorem sq_blame {f : Nat} (hI : rI w W T P M x A) (hM : M = 4 ∨ M = 9) (hf : 1 ≤ f ∧ f ≤ 3) (h : ∀ W', rI w W' T P M (pBl f x.1, x.2) A → Post none W') : nl_Sat G l m_X5_blame [.ref 2, .int (nI f)] W Post := by
  have i3 := hI.2.2.1
  rcases x with ⟨s, r⟩
  rcases s with p | ⟨f2, p⟩
  · obtain ⟨hp, v, e0, hv⟩ := i3
    refine sp_X5_blame e0 (fun z => absurd rfl z) (fun _ => h _ (rI_rd (s' := .inr (f, p)) hI hM ⟨hf, hp, _, _, _, rfl⟩ (fun ⟨q, z⟩ => by cases z)))
  · obtain ⟨hf2, hp, a, b, c, e0⟩ := i3
    exact sp_X5_blame e0 (fun _ => h _ hI) (fun z => absurd z (bad_ne hf2))
theorem num_chk : pNum T P lo hi (pChk T P lo hi s) = pNum T P lo hi s := by
  rcases s with p | z
  · cases h : pChk T P lo hi (.inl p) with
    | inl q =>
      obtain ⟨rfl, h1, h2, h3⟩ := chk_ok h
      rfl
    | inr z => rw [pNum, pNum, h]; rfl
  · rfl
theorem val_chk (h : isOk (pChk T P lo hi s)) : pVal T P (pChk T P lo hi s) = pVal T P s := by
  rcases s with p | z
  · obtain ⟨q, h⟩ := h
    obtain ⟨rfl, h1, h2, h3⟩ := chk_ok h
    rw [h]
  · rfl
end

/-! how often one should look -/
def p_kn (c k s : Nat) (a b : Int32) : Nat → Nat → (Nat → Int32) → Int32
  | 0, _, _ => -1000000
  | m + 1, d, t => if ¬ p_wants t (p_min a (t 0 - t 10)) ≤ yl t then -1000000 else
    if p_eve c k (p_weaves t (p_min a (t 0 - t 10))) (33 + s) ≤ p_eve c k (p_weaves t (p_min a (t 0 - t 10))) (38 + s) then nI d else
    if p_eve c k (p_weaves t (p_min a (t 0 - t 10))) 10 = p_eve c k (p_weaves t (p_min a (t 0 - t 10))) 0 then -1000000 else
    if p_undo k (p_unby (p_eve c k (p_weaves t (p_min a (t 0 - t 10)))) b) (p_eve c k (p_weaves t (p_min a (t 0 - t 10)))) (33 + s) ≤ p_undo k (p_unby (p_eve c k (p_weaves t (p_min a (t 0 - t 10)))) b) (p_eve c k (p_weaves t (p_min a (t 0 - t 10)))) (38 + s) then nI d else
    p_kn c k s a b m (d + 1) (p_undo k (p_unby (p_eve c k (p_weaves t (p_min a (t 0 - t 10)))) b) (p_eve c k (p_weaves t (p_min a (t 0 - t 10)))))
def p_kb (c k s : Nat) (a b : Int32) (t : Nat → Int32) : Int32 :=
  if t 9 = 1 then (if p_undo k (p_unby t b) t (33 + s) ≤ p_undo k (p_unby t b) t (38 + s) then 1 else p_kn c k s a b 200 1 (p_undo k (p_unby t b) t)) else p_kn c k s a b 200 1 t
def p_kn0 (c k s : Nat) (a b : Int32) (t : Nat → Int32) : Int32 := if t (33 + s) ≤ t (38 + s) then 0 else p_kb c k s a b t
def p_so (f : Nat → Int32) : Nat → Nat → Int32 × Int32 → Int32 × Int32
  | 0, _, S => S
  | m + 1, e, S => p_so f m (e + 1) (if ¬ f e = -1000000 ∧ (S.2 = -1000000 ∨ f e < S.2) then (nI e, f e) else S)
def p_sof (c k s : Nat) (a b : Int32) (t : Nat → Int32) (e : Nat) : Int32 := p_kn0 c k s a b (upd t (28 + s) (nI e))
def p_soon (c k s : Nat) (a b : Int32) (t : Nat → Int32) (v : Int32) : Int32 := if v = 0 then (p_so (p_sof c k s a b t) 9 1 (-1000000, -1000000)).1 else (p_so (p_sof c k s a b t) 9 1 (-1000000, -1000000)).2
theorem so_zero {f : Nat → Int32} (h : ∀ e, f e = 0) : ∀ m e x, p_so f m e (x, 0) = (x, 0)
  | 0, _, _ => rfl
  | m + 1, e, x => by
    rw [p_so, if_neg (by rw [h]; dsimp only; decide), so_zero h m]
theorem so_known {f : Nat → Int32} (h : ∀ e, f e = 0) : p_so f 9 1 (-1000000, -1000000) = (1, 0) := by
  rw [p_so, if_pos (by rw [h]; dsimp only; decide), h, so_zero h]
  rfl
/-- rows that differ at most in what a feast and an evening leave -/
def eqv (t u : Nat → Int32) : Prop := ∀ j, j ≠ 9 → j ≠ 13 → j ≠ 14 → u j = t j
section
variable {c k : Nat} {t u : Nat → Int32} {n b : Int32}
theorem eqv_fr (h : eqv t u) : p_fr u n = p_fr t n := by
  rw [p_fr, p_fr, h 10 (by omega) (by omega) (by omega), h 11 (by omega) (by omega) (by omega)]
theorem eqv_wants (h : eqv t u) : p_wants u n = p_wants t n := by
  rw [p_wants, p_wants, eqv_fr h, h 12 (by omega) (by omega) (by omega)]
theorem eqv_yl (h : eqv t u) : yl u = yl t := yl_of (h 1 (by omega) (by omega) (by omega)) (h 11 (by omega) (by omega) (by omega)) (h 12 (by omega) (by omega) (by omega))
theorem eqv_unby (h : eqv t u) : p_unby u b = p_unby t b := by
  rw [p_unby, p_unby, h 3 (by omega) (by omega) (by omega), h 8 (by omega) (by omega) (by omega), h 2 (by omega) (by omega) (by omega), h 10 (by omega) (by omega) (by omega)]
theorem eqv_upd {i : Nat} {v : Int32} (h : eqv t u) : eqv (upd t i v) (upd u i v) := by
  intro j a1 a2 a3
  by_cases q : j = i
  · subst q; rw [pk_us, pk_us]
  · rw [pk_un q, pk_un q]; exact h j a1 a2 a3
theorem eqv_wv (h : eqv t u) : eqv (p_weaves t n) (p_weaves u n) := by
  rw [p_weaves, p_weaves, eqv_fr h, h 10 (by omega) (by omega) (by omega), h 11 (by omega) (by omega) (by omega), h 12 (by omega) (by omega) (by omega)]
  exact eqv_upd (eqv_upd (eqv_upd h))
theorem eqv_ls {th : Int32} (h : eqv t u) : p_ls u c th = p_ls t c th := by
  unfold p_ls col
  rw [h 10 (by omega) (by omega) (by omega), h _ (by omega) (by omega) (by omega), h _ (by omega) (by omega) (by omega), h _ (by omega) (by omega) (by omega), h _ (by omega) (by omega) (by omega)]
theorem eqv_dbt {s : Nat} (h : eqv t u) : p_dbt u c s = p_dbt t c s := by
  unfold p_dbt
  rw [eqv_ls h, h 10 (by omega) (by omega) (by omega), h (23 + s) (by omega) (by omega) (by omega), h (43 + s) (by omega) (by omega) (by omega)]
theorem eqv_look1 {s : Nat} (h : eqv t u) : eqv (p_look1 c s t) (p_look1 c s u) := by
  unfold p_look1
  rw [eqv_dbt h, h 10 (by omega) (by omega) (by omega), h 8 (by omega) (by omega) (by omega), h (23 + s) (by omega) (by omega) (by omega), h (43 + s) (by omega) (by omega) (by omega), h (28 + s) (by omega) (by omega) (by omega), h (38 + s) (by omega) (by omega) (by omega)]
  split
  · exact eqv_upd (eqv_upd h)
  · exact h
theorem eqv_looks : ∀ m s (t u : Nat → Int32), eqv t u → eqv (p_looks c m s t) (p_looks c m s u)
  | 0, _, _, _, h => h
  | m + 1, s, t, u, h => by
    rw [p_looks, p_looks]
    exact eqv_looks m (s + 1) _ _ (eqv_look1 h)
theorem eqv_eve (h : eqv t u) : eqv (p_eve c k t) (p_looks c k 0 u) := by
  intro j a1 a2 a3
  rw [p_eve, pk_un a1, p_feast_o a2 a3]
  exact eqv_looks k 0 t u h j a1 a2 a3
theorem eqv_un1 {s : Nat} (h : eqv t u) : eqv (p_un1 n s t) (p_un1 n s u) := by
  unfold p_un1
  rw [h 8 (by omega) (by omega) (by omega), h (23 + s) (by omega) (by omega) (by omega), h (28 + s) (by omega) (by omega) (by omega), h (38 + s) (by omega) (by omega) (by omega)]
  exact eqv_upd h
theorem eqv_uns : ∀ m s (t u : Nat → Int32), eqv t u → eqv (p_uns n m s t) (p_uns n m s u)
  | 0, _, _, _, h => h
  | m + 1, s, t, u, h => by
    rw [p_uns, p_uns]
    exact eqv_uns m (s + 1) _ _ (eqv_un1 h)
theorem eqv_undo (h : eqv t u) : eqv (p_undo k n t) (p_undo k n u) := by
  have e := eqv_uns (n := n) k 0 t u h
  rw [p_undo, p_undo, e 10 (by omega) (by omega) (by omega), e 8 (by omega) (by omega) (by omega)]
  exact eqv_upd (eqv_upd (eqv_upd e))
theorem eqv_E {H : Nat} (h : eqv t u) (ho : okE t c k H) : okE u c k H := by
  obtain ⟨o1, o2, o3, o4, o5, o6, o7, o8⟩ := ho
  exact ⟨(h 6 (by omega) (by omega) (by omega)).trans o1, o2, o3, (h 7 (by omega) (by omega) (by omega)).trans o4, o5, (h 10 (by omega) (by omega) (by omega)).trans o6, o7, fun s hs => by rw [h (28 + s) (by omega) (by omega) (by omega), h (43 + s) (by omega) (by omega) (by omega)]; exact o8 s hs⟩
theorem yl_upd {j : Nat} {v : Int32} (h : 20 ≤ j) : yl (upd t j v) = yl t := yl_of (pk_un (by omega)) (pk_un (by omega)) (pk_un (by omega))
/-- another every -/
theorem okP_every {D s e : Nat} (h : okP D c k t) (hs5 : s < 5) (he : 1 ≤ e ∧ e ≤ 9) : okP D c k (upd t (28 + s) (nI e)) := by

  · obtain ⟨⟨⟨ln, c', k', H, Hi, D', ⟨o0, o1, o2⟩, ⟨o3, o4, o5⟩, ⟨o6, o7⟩, ⟨o8, o9, o10, o11⟩, ⟨o12, o13, o14⟩, o15, o16, o17, o18, o19, o20, o21, o22, o23, o24, o25, o26⟩, hD, d1, d2⟩, p6, p1, p8, p7, p5⟩ := h
    have un : ∀ j, j ≠ 28 + s → upd t (28 + s) (nI e) j = t j := fun j hj => pk_un hj
    refine ⟨⟨⟨ln, c', k', H, Hi, D', ⟨(un _ (by omega)).trans o0, o1, o2⟩, ⟨(un _ (by omega)).trans o3, o4, o5⟩, ⟨(un _ (by omega)).trans o6, o7⟩, ⟨(un _ (by omega)).trans o8, (un _ (by omega)).trans o9, o10, o11⟩, ⟨(un _ (by omega)).trans o12, o13, o14⟩, ?_, ?_, ?_, ?_, ?_, ?_, ?_, ?_, ?_, ?_, ?_, ?_⟩, ?_, d1, d2⟩, (un _ (by omega)).trans p6, p1, p8, (un _ (by omega)).trans p7, p5⟩
    · rw [un _ (by omega)]; exact o15
    · rw [un _ (by omega)]; exact o16
    · rw [un _ (by omega)]; exact o17
    · rw [un _ (by omega)]; exact o18
    · rw [un _ (by omega)]; exact o19
    · rw [un _ (by omega)]; exact o20
    · rw [un _ (by omega)]; exact o21
    · rw [yl_upd (by omega)]; exact o22
    · rw [un _ (by omega)]; exact o23
    · rw [un _ (by omega)]; exact o24
    · intro i hi
      rw [un _ (by omega)]; exact o25 i hi
    · intro i hi
      have r := o26 i hi
      rw [un (23 + i) (by omega), un (33 + i) (by omega), un (38 + i) (by omega), un (43 + i) (by omega)]
      refine ⟨r.1, ?_, r.2.2⟩
      by_cases q : i = s
      · subst q
        rw [pk_us]
        exact ⟨by rw [show (1 : Int32) = nI 1 by decide]; exact nI_le he.1 (by omega), by rw [show (9 : Int32) = nI 9 by decide]; exact nI_le he.2 (by omega)⟩
      · rw [un _ (by omega)]; exact r.2.1
    · obtain ⟨k', e8, e7, hk, ⟨B, eB, hB⟩, hd⟩ := hD
      have qq : q9 (upd t (28 + s) (nI e)) = q9 t := by rw [q9, q9, un _ (by omega)]
      refine ⟨k', (un _ (by omega)).trans e8, (un _ (by omega)).trans e7, hk, ⟨B, (un _ (by omega)).trans eB, by rw [qq]; exact hB⟩, fun i hi => ?_⟩
      rw [qq, un (38 + i) (by omega), un (23 + i) (by omega)]
      exact hd i hi
end

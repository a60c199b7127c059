/-! a habit, day by day -/
def okP (D c k : Nat) (t : Nat → Int32) : Prop := okR D t ∧ t 6 = nI c ∧ 1 ≤ c ∧ c ≤ 8 ∧ t 7 = nI k ∧ k ≤ 5
section
variable {D c k : Nat} {t : Nat → Int32} {a b : Int32}
theorem okP_wov (h : okP D c k t) (ha : 0 ≤ a ∧ a ≤ 6) : ∃ ln H m, t 0 = nI ln ∧ ln ≤ 24 ∧ t 10 = nI H ∧ H + m ≤ ln ∧ m ≤ 6 ∧ p_min a (t 0 - t 10) = nI m := by
  obtain ⟨⟨⟨ln, c', k', H, Hi, D', ⟨o0, o1, o2⟩, _, _, ⟨o8, o9, o10, o11⟩, _⟩, _⟩, _⟩ := h
  obtain ⟨A, hA, rfl⟩ := nI_upto 6 (by decide) (by omega) ha.1 ha.2
  rw [o0, o8, nI_sub (by omega), p_min]
  by_cases q : A < ln - H
  · exact ⟨ln, H, A, rfl, o2, rfl, by omega, hA, if_pos (nI_lt q (by omega))⟩
  · exact ⟨ln, H, ln - H, rfl, o2, rfl, by omega, by omega, if_neg (nI_nlt (by omega) (by omega))⟩
theorem okP_unb (h : okP D c k t) (hb : 0 ≤ b ∧ b ≤ 9) : ∃ H m, t 10 = nI H ∧ H ≤ 24 ∧ m ≤ H ∧ p_unby t b = nI m := by
  obtain ⟨⟨⟨ln, c', k', H, Hi, D', ⟨o0, o1, o2⟩, _, _, ⟨o8, o9, o10, o11⟩, _, _, _, o17, _⟩, _⟩, _⟩ := h
  obtain ⟨B, hB, rfl⟩ := nI_upto 9 (by decide) (by omega) hb.1 hb.2
  obtain ⟨T, hT, eT⟩ := nI_upto 9 (by decide) (by omega) o17.1 o17.2
  rw [p_unby, o8, eT]
  split
  · exact ⟨H, 0, rfl, by omega, by omega, nI_0.symm⟩
  · have mm : ∀ x y : Nat, x ≤ 24 → y ≤ 24 → p_min (nI x) (nI y) = nI (min x y) := by
      intro x y hx hy
      rw [p_min]
      by_cases q : x < y
      · rw [if_pos (nI_lt q (by omega)), Nat.min_eq_left (by omega)]
      · rw [if_neg (nI_nlt (by omega) (by omega)), Nat.min_eq_right (by omega)]
    rw [mm T H (by omega) (by omega), mm _ _ (by omega) (by omega)]
    exact ⟨H, _, rfl, by omega, by omega, rfl⟩
theorem okP_E (h : okP D c k t) : ∃ H, okE t c k H := by
  obtain ⟨⟨⟨ln, c', k', H, Hi, D', ⟨o0, o1, o2⟩, ⟨o3, o4, o5⟩, ⟨o6, o7⟩, ⟨o8, o9, o10, o11⟩, ⟨o12, o13, o14⟩, o15, o16, o17, o18, o19, o20, o21, o22, o23, o24, o25, o26⟩, _⟩, p6, p1, p8, p7, p5⟩ := h
  have ek : k' = k := (nI_eq (by omega) (by omega)).mp (o6.symm.trans p7)
  subst ek
  exact ⟨H, p6, p1, p8, p7, p5, o8, by omega, fun s hs => ⟨by have := (o26 s hs).2.1; grind, (o26 s hs).2.2.2.2⟩⟩
theorem okP_S (h : okP D c k t) : ∀ s, s < k → (¬ t (28 + s) = 0 ∧ 1 ≤ t (23 + s) ∧ t (23 + s) ≤ 5) ∧ (1 ≤ t (28 + s) ∧ t (28 + s) ≤ 9) ∧ (1 ≤ t (33 + s) ∧ t (33 + s) ≤ 9) ∧ (0 ≤ t (38 + s) ∧ t (38 + s) ≤ 2000) ∧ (t (43 + s) = -1 ∨ ∃ j, j ≤ 24 ∧ t (43 + s) = nI j) := by
  obtain ⟨⟨⟨ln, c', k', H, Hi, D', ⟨o0, o1, o2⟩, ⟨o3, o4, o5⟩, ⟨o6, o7⟩, ⟨o8, o9, o10, o11⟩, ⟨o12, o13, o14⟩, o15, o16, o17, o18, o19, o20, o21, o22, o23, o24, o25, o26⟩, _⟩, p6, p1, p8, p7, p5⟩ := h
  have ek : k' = k := (nI_eq (by omega) (by omega)).mp (o6.symm.trans p7)
  subst ek
  intro s hs
  have r := o26 s hs
  exact ⟨⟨by have := r.2.1; grind, r.1.1, r.1.2⟩, r.2.1, r.2.2.1, r.2.2.2.1, r.2.2.2.2⟩
theorem okP_b (h : okP D c k t) : 0 ≤ t 10 ∧ t 10 ≤ t 11 ∧ t 11 ≤ 24 ∧ 0 ≤ t 2 ∧ (0 ≤ t 13 ∧ t 13 ≤ 100000) ∧ (t 9 = 0 ∨ t 9 = 1) ∧ t 2 ≤ 9 := by
  obtain ⟨⟨⟨ln, c', k', H, Hi, D', ⟨o0, o1, o2⟩, ⟨o3, o4, o5⟩, ⟨o6, o7⟩, ⟨o8, o9, o10, o11⟩, ⟨o12, o13, o14⟩, o15, o16, o17, o18, o19, o20, o21, o22, o23, o24, o25, o26⟩, _⟩, _⟩ := h
  refine ⟨by rw [o8]; exact nI_pos' (by omega), by rw [o8, o9]; exact nI_le o10 (by omega), by rw [o9, nI_24]; exact nI_le (by omega) (by omega), o17.1, ⟨o23.1, by have := o23.2; grind⟩, o15, o17.2⟩
theorem okP_wv {m ln H : Nat} (h : okP D c k t) (hm : m ≤ 6) (e0 : t 0 = nI ln) (hl : ln ≤ 24) (e10 : t 10 = nI H) (hH : H + m ≤ ln) (hw : p_wants t (nI m) ≤ yl t) : okP D c k (p_weaves t (nI m)) :=
  ⟨okR_wv h.1 hm e0 hl e10 hH hw, (wv_o (by omega)).trans h.2.1, h.2.2.1, h.2.2.2.1, (wv_o (by omega)).trans h.2.2.2.2.1, h.2.2.2.2.2⟩
theorem okP_eve (h : okP D c k t) (h9 : t 9 = 0) : okP D c k (p_eve c k t) :=
  ⟨okR_eve h.1 h9 h.2.2.2.2.2, (eve_o (by omega) (by omega) (by omega) (by omega)).trans h.2.1, h.2.2.1, h.2.2.2.1, (eve_o (by omega) (by omega) (by omega) (by omega)).trans h.2.2.2.2.1, h.2.2.2.2.2⟩
theorem okP_night (h : okP D c k t) (h9 : ¬ t 9 = 0) (hb : 0 ≤ b ∧ b ≤ 9) (hD : D < 1900) : okP (D + 1) c k (p_undo k (p_unby t b) t) := by
  obtain ⟨H, m, e10, hH, hm, e⟩ := okP_unb h hb
  rw [e]
  exact ⟨okR_undo h.1 h9 h.2.2.2.2.2 e10 hH hm hD, (undo_o (by omega) (by omega) (by omega) (by omega)).trans h.2.1, h.2.2.1, h.2.2.2.1, (undo_o (by omega) (by omega) (by omega) (by omega)).trans h.2.2.2.2.1, h.2.2.2.2.2⟩
theorem sameL_trans {t1 t2 t3 : Nat → Int32} (h : sameL t1 t2) (h2 : sameL t2 t3) : sameL t1 t3 := fun j hj => (h2 j hj).trans (h j hj)
theorem eve_law : sameL t (p_eve c k t) := fun j hj => eve_o (by omega) (by omega) (by omega) (by omega)
/-- the day that does not end a habit before its night -/
theorem day_last (q1 : p_wants t (p_min a (t 0 - t 10)) ≤ yl t) (q2 : ¬ p_weaves t (p_min a (t 0 - t 10)) 10 = p_weaves t (p_min a (t 0 - t 10)) 0) (q3 : ¬ p_fb (p_looks c k 0 (p_weaves t (p_min a (t 0 - t 10)))) = true) : p_day c k a b t = (if p_who (p_undo k (p_unby (p_eve c k (p_weaves t (p_min a (t 0 - t 10)))) b) (p_eve c k (p_weaves t (p_min a (t 0 - t 10))))) k 0 = -1000000 then 0 else 4, p_undo k (p_unby (p_eve c k (p_weaves t (p_min a (t 0 - t 10)))) b) (p_eve c k (p_weaves t (p_min a (t 0 - t 10))))) := by
  rw [p_day, if_neg (fun z => z q1), if_neg q2, if_neg q3, p_eve, unby_9, undo_9]
theorem day_ok (h : okP D c k t) (h9 : t 9 = 0) (ha : 0 ≤ a ∧ a ≤ 6) (hb : 0 ≤ b ∧ b ≤ 9) (hD : D < 1900) (hr : (p_day c k a b t).1 = 0 ∨ (p_day c k a b t).1 = 4) : okP (D + 1) c k (p_day c k a b t).2 ∧ (p_day c k a b t).2 9 = 0 ∧ sameL t (p_day c k a b t).2 := by
  by_cases q1 : p_wants t (p_min a (t 0 - t 10)) ≤ yl t
  · by_cases q2 : p_weaves t (p_min a (t 0 - t 10)) 10 = p_weaves t (p_min a (t 0 - t 10)) 0
    · rw [p_day, if_neg (fun z => z q1), if_pos q2] at hr
      exact absurd hr (show ¬ ((2 : Int32) = 0 ∨ (2 : Int32) = 4) by decide)
    · by_cases q3 : p_fb (p_looks c k 0 (p_weaves t (p_min a (t 0 - t 10)))) = true
      · rw [p_day, if_neg (fun z => z q1), if_neg q2, if_pos q3] at hr
        exact absurd hr (show ¬ ((3 : Int32) = 0 ∨ (3 : Int32) = 4) by decide)
      · rw [day_last q1 q2 q3]
        obtain ⟨ln, H, m, e0, hl, e10, hH, hm, em⟩ := okP_wov h ha
        rw [em] at q1 ⊢
        have w := okP_wv h hm e0 hl e10 hH q1
        have v := okP_eve w ((wv_o (by omega)).trans h9)
        exact ⟨okP_night v (by rw [p_eve, pk_us]; decide) hb hD, by dsimp only; exact undo_n9, sameL_trans wv_law (sameL_trans eve_law un_law)⟩
  · rw [p_day, if_pos q1] at hr
    exact absurd hr (show ¬ ((1 : Int32) = 0 ∨ (1 : Int32) = 4) by decide)
def p_go (c k : Nat) (a b : Int32) : Nat → Nat → (Nat → Int32) → Int32 × Nat × (Nat → Int32)
  | 0, d, t => (0, d, t)
  | m + 1, d, t => if (p_day c k a b t).1 = 0 then p_go c k a b m (d + 1) (p_day c k a b t).2 else ((p_day c k a b t).1, d, (p_day c k a b t).2)
def p_hab (c k : Nat) (a b : Int32) (t : Nat → Int32) : Int32 × Nat × (Nat → Int32) :=
  if t 9 = 1 then (if p_who (p_undo k (p_unby t b) t) k 0 = -1000000 then p_go c k a b 200 0 (p_undo k (p_unby t b) t) else (4, 0, p_undo k (p_unby t b) t)) else p_go c k a b 200 0 t
def p_habw (c k : Nat) (a b : Int32) (t : Nat → Int32) : Int32 := if (p_hab c k a b t).1 = 4 then p_who (p_hab c k a b t).2.2 k 0 else -1000000
end

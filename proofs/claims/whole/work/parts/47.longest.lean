/-! the habit that holds longest -/
section
variable {c k : Nat} {t : Nat → Int32} {a b b' : Int32}
theorem unby_ge (h : t 2 ≤ b) (h' : t 2 ≤ b') : p_unby t b = p_unby t b' := by
  have m1 : ∀ x y : Int32, t 2 ≤ x → p_min x (p_min (t 2) y) = p_min (t 2) y := by
    intro x y hx
    have : p_min (t 2) y ≤ t 2 := by
      rw [p_min]
      split <;> grind
    generalize p_min (t 2) y = z at this ⊢
    rw [p_min, if_neg (by grind)]
  rw [p_unby, p_unby, m1 _ _ h, m1 _ _ h']
theorem day_ge (h : t 2 ≤ b) (h' : t 2 ≤ b') : p_day c k a b t = p_day c k a b' t := by
  have e : p_feast (p_looks c k 0 (p_weaves t (p_min a (t 0 - t 10)))) 2 = t 2 := by rw [p_feast_o (by omega) (by omega), p_looks_l (by omega), wv_o (by omega)]
  rw [p_day, p_day, unby_ge (b := b) (b' := b') (by rw [e]; exact h) (by rw [e]; exact h')]
theorem go_ge : ∀ m d (t : Nat → Int32), t 2 ≤ b → t 2 ≤ b' → p_go c k a b m d t = p_go c k a b' m d t
  | 0, _, _, _, _ => rfl
  | m + 1, d, t, h, h' => by
    rw [p_go, p_go, day_ge h h']
    split
    · exact go_ge m _ _ (by rw [day_7 (by omega)]; exact h) (by rw [day_7 (by omega)]; exact h')
    · rfl
theorem hab_ge (h : t 2 ≤ b) (h' : t 2 ≤ b') : p_hab c k a b t = p_hab c k a b' t := by
  have e : p_undo k (p_unby t b') t 2 = t 2 := undo_o (by omega) (by omega) (by omega) (by omega)
  rw [p_hab, p_hab, unby_ge h h', go_ge _ _ t h h', go_ge _ _ (p_undo k (p_unby t b') t) (by rw [e]; exact h) (by rw [e]; exact h')]
theorem go_le : ∀ m d (t : Nat → Int32), (p_go c k a b m d t).2.1 ≤ d + m
  | 0, _, _ => Nat.le_refl _
  | m + 1, d, t => by
    rw [p_go]
    split
    · have := go_le m (d + 1) (p_day c k a b t).2
      omega
    · dsimp only
      omega
theorem hab_le : (p_hab c k a b t).2.1 ≤ 200 := by
  rw [p_hab]
  split
  · split
    · have := go_le (c := c) (k := k) (a := a) (b := b) 200 0 (p_undo k (p_unby t b) t)
      omega
    · dsimp only
      omega
  · have := go_le (c := c) (k := k) (a := a) (b := b) 200 0 t
    omega
end
/-- the best of m habits from the j-th on: its number, and its days and one -/
def p_best (f : Nat → Nat) : Nat → Nat → Nat × Nat → Nat × Nat
  | 0, _, S => S
  | m + 1, j, S => p_best f m (j + 1) (if S.2 < f j + 1 then (j, f j + 1) else S)
theorem best_skip {f : Nat → Nat} {S : Nat × Nat} {m : Nat} : ∀ n j, (∀ i, i < n → f (j + i) + 1 ≤ S.2) → p_best f (n + m) j S = p_best f m (j + n) S
  | 0, j, _ => by rw [Nat.zero_add, Nat.add_zero]
  | n + 1, j, h => by
    rw [show n + 1 + m = (n + m) + 1 by omega, p_best, if_neg (by have h00 : f j + 1 ≤ S.2 := h 0 (by omega); omega), best_skip n (j + 1) (fun i hi => by rw [show j + 1 + i = j + (i + 1) by omega]; exact h (i + 1) (by omega)), show j + 1 + n = j + (n + 1) by omega]
theorem best_stop {f : Nat → Nat} {S : Nat × Nat} (h : ∀ j, f j ≤ 200) (hS : 201 ≤ S.2) (m j : Nat) : p_best f m j S = S := by
  have := best_skip (f := f) (S := S) (m := 0) m j (fun i _ => by have := h (j + i); omega)
  rw [Nat.add_zero] at this
  rw [this, p_best]
def p_hf (c k : Nat) (t : Nat → Int32) (j : Nat) : Nat := (p_hab c k (nI (j / 10)) (nI (j % 10)) t).2.1
theorem hf_le {c k : Nat} {t : Nat → Int32} (j : Nat) : p_hf c k t j ≤ 200 := hab_le
theorem hf_ge {c k T a b : Nat} {t : Nat → Int32} (h : t 2 = nI T) (h1 : T ≤ b) (h2 : b < 10) : p_hf c k t (10 * a + b) = p_hf c k t (10 * a + T) := by
  rw [p_hf, p_hf, show (10 * a + b) / 10 = a by omega, show (10 * a + T) / 10 = a by omega, show (10 * a + b) % 10 = b by omega, show (10 * a + T) % 10 = T by omega]
  rw [hab_ge (b := nI b) (b' := nI T) (by rw [h]; exact nI_le h1 (by omega)) (by rw [h]; exact nI_le (Nat.le_refl _) (by omega))]
def p_lg (c k : Nat) (t : Nat → Int32) (v : Int32) : Int32 := if v = 0 then nI ((p_best (p_hf c k t) 70 0 (0, 0)).1 / 10) else if v = 1 then nI ((p_best (p_hf c k t) 70 0 (0, 0)).1 % 10) else nI (p_best (p_hf c k t) 70 0 (0, 0)).2 - 1

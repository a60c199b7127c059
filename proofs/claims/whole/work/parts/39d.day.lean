/-! the class: the end of a day -/
theorem p_un1_9 {n v : Int32} {s : Nat} {t : Nat → Int32} : p_un1 n s (upd t 9 v) = upd (p_un1 n s t) 9 v := by
  funext i
  rw [p_un1, p_un1]
  rw [pk_un (show 38 + s ≠ 9 by omega), pk_un (show 23 + s ≠ 9 by omega), pk_un (show 28 + s ≠ 9 by omega), pk_un (show 8 ≠ 9 by omega)]
  by_cases h1 : i = 38 + s
  · subst h1; rw [pk_us, pk_un (by omega), pk_us]
  · rw [pk_un h1]
    by_cases h2 : i = 9
    · subst h2; rw [pk_us, pk_us]
    · rw [pk_un h2, pk_un h2, pk_un h1]
theorem p_uns_9 {n v : Int32} : ∀ (m s : Nat) (t : Nat → Int32), p_uns n m s (upd t 9 v) = upd (p_uns n m s t) 9 v
  | 0, s, t => rfl
  | m + 1, s, t => by rw [p_uns, p_uns, p_un1_9, p_uns_9 m]
theorem undo_9 {k : Nat} {n v : Int32} {t : Nat → Int32} : p_undo k n (upd t 9 v) = p_undo k n t := by
  funext i
  rw [p_undo, p_undo, p_uns_9, pk_un (show 10 ≠ 9 by omega), pk_un (show 8 ≠ 9 by omega)]
  by_cases h8 : i = 8
  · rw [h8, pk_us, pk_us]
  · rw [pk_un h8, pk_un h8]
    by_cases h9 : i = 9
    · rw [h9, pk_us, pk_us]
    · rw [pk_un h9, pk_un h9]
      by_cases h10 : i = 10
      · rw [h10, pk_us, pk_us]
      · rw [pk_un h10, pk_un h10, pk_un h9]
theorem unby_9 {b v : Int32} {t : Nat → Int32} : p_unby (upd t 9 v) b = p_unby t b := by
  rw [p_unby, p_unby, pk_un (show 3 ≠ 9 by omega), pk_un (show 8 ≠ 9 by omega), pk_un (show 2 ≠ 9 by omega), pk_un (show 10 ≠ 9 by omega)]
theorem feast_13 {t : Nat → Int32} (h0 : 0 ≤ t 13) (h1 : t 13 ≤ 100000) : t 13 < p_feast t 13 ↔ p_fb t = true := by
  unfold p_feast p_fb
  by_cases q : ¬ t 4 = 0 ∧ t 8 - t 8 / t 4 * t 4 = 0
  · rw [if_pos q, pk_un (by omega), pk_us, decide_eq_true_eq]
    by_cases q2 : t 10 - t 14 < t 5
    · rw [nb_t q2]
      exact ⟨fun _ => ⟨q, q2⟩, fun _ => by grind⟩
    · rw [nb_f q2]
      exact ⟨fun z => by grind, fun z => absurd z.2 q2⟩
  · rw [if_neg q, decide_eq_true_eq]
    exact ⟨fun z => by grind, fun z => absurd z.1 q⟩

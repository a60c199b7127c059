/-! methods that only read, the second layer -/
def f_X9_isHabit : nl_F
  | [.int a, .int b], _, K => K (.int (nb ((0 ≤ a ∧ a ≤ 6) ∧ (0 ≤ b ∧ b ≤ 9))))
  | _, _, _ => False
theorem sf_X9_isHabit {G : nl_G} {l : Launch} : nl_FS G l 0 0 m_X9_isHabit f_X9_isHabit := by
  intro av w Post h
  unfold f_X9_isHabit at h
  split at h
  · refine ⟨trivial, nl_sat0 (rt := some .boolean) ok_X9_isHabit rfl ⟨rfl, rfl⟩ rfl rfl (Nat.le_of_ble_eq_true rfl) fun Z hZ => hZ 9 _ _ _ _ ?_⟩
    simp only [Nat.reduceMod, Nat.reduceDiv, nl_run_s, nl_wpB_c, nl_ldI, nl_ldL, nl_ldR, nl_nth, nl_set, nl_pk, nl_i1, nl_gf, nl_pf, nl_al, nl_as, nl_rl, nl_rs, nl_io, nl_cp, nl_cl, nl_ok4, nl_psh, nl_rc, nl_sw, nl_ent, nl_hs_1, nl_hs_2, nl_hs_hs, nl_c1, rok_int, rok_void, rok_0, rok_1, nb_ok, nb_0, nb_1, true_and, and_true, and_self, true_implies, not_true_eq_false, not_false_eq_true, false_implies, ns_ic, ns_lc, ns_ldI, ns_ldL, ns_ldR, ns_stI, ns_stL, ns_stR, ns_inc, ns_add, ns_sub, ns_mul, ns_div, ns_rem, ns_neg, ns_shl, ns_or, ns_and, ns_i2l, ns_l2i, ns_i2b, ns_i2s, ns_i2c, ns_ladd, ns_lmul, ns_ldiv, ns_lrem, ns_lcmp, ns_dup, ns_dup2, ns_go, ns_fall, ns_ifeq, ns_ifne, ns_iflt, ns_ifge, ns_ifgt, ns_ifle, ns_cmeq, ns_cmne, ns_cmlt, ns_cmge, ns_cmgt, ns_cmle, ns_iret, ns_vret, ns_get, ns_putI, ns_putZ, ns_putR, ns_ial, ns_ialc, ns_ias, ns_zal, ns_zas, ns_ral, ns_ras, ns_len, ns_min, ns_max, ns_cpy, ns_obj, ns_nea, ns_txt, ns_new, ns_naI, ns_naZ, ns_naR, ns_call, ns_sw, ns_fn, cb_X9_isHabit_0, cb_X9_isHabit_22, cb_X9_isHabit_23, f_X9_isWithin]
    ((repeat' (first | refine And.intro ?_ ?_ | intro _)) <;> first | (rw [nb_f (by grind)] at h; exact h) | (rw [nb_t (by grind)] at h; exact h))
  · exact h.elim
def f_X9_isSuitor : nl_F
  | [.ref a, .int s], h, K => match h a with
    | .inr (9, [.ref x0, .ref x1, .ref x2, .ref x3, .ref x4, .ref x5, .ref x6, .ref x7, .ref x8, .ref x9, .ref x10, .ref x11, .ref x12, .int sta, .int lfa, .int lfi]) => match h x2 with
      | .inr (3, [.int thr, .int yrn, .int tir, .int moo, .int fst, .int gro, .int cls, .int sui, .ref r1, .ref r2, .ref r3, .ref r4]) => K (.int (nb (¬ sta = 0 ∧ 0 ≤ s ∧ s < sui)))
      | _ => False
    | _ => False
  | _, _, _ => False
theorem sf_X9_isSuitor {G : nl_G} {l : Launch} : nl_FS G l 1 9 m_X9_isSuitor f_X9_isSuitor := by
  intro av w Post h
  unfold f_X9_isSuitor at h
  split at h
  · split at h
    · rename_i h1
      split at h
      · rename_i h2
        refine ⟨by simp only [nl_rc, nl_io, h1], nl_sat0 (rt := some .boolean) ok_X9_isSuitor rfl ⟨rfl, rfl⟩ rfl rfl (Nat.le_of_ble_eq_true rfl) fun Z hZ => hZ 9 _ _ _ _ ?_⟩
        simp only [Nat.reduceMod, Nat.reduceDiv, nl_run_s, nl_wpB_c, nl_ldI, nl_ldL, nl_ldR, nl_nth, nl_set, nl_pk, nl_i1, nl_gf, nl_pf, nl_al, nl_as, nl_rl, nl_rs, nl_io, nl_cp, nl_cl, nl_ok4, nl_psh, nl_rc, nl_sw, nl_ent, nl_hs_1, nl_hs_2, nl_hs_hs, nl_c1, rok_int, rok_void, rok_0, rok_1, nb_ok, nb_0, nb_1, true_and, and_true, and_self, true_implies, not_true_eq_false, not_false_eq_true, false_implies, ns_ic, ns_lc, ns_ldI, ns_ldL, ns_ldR, ns_stI, ns_stL, ns_stR, ns_inc, ns_add, ns_sub, ns_mul, ns_div, ns_rem, ns_neg, ns_shl, ns_or, ns_and, ns_i2l, ns_l2i, ns_i2b, ns_i2s, ns_i2c, ns_ladd, ns_lmul, ns_ldiv, ns_lrem, ns_lcmp, ns_dup, ns_dup2, ns_go, ns_fall, ns_ifeq, ns_ifne, ns_iflt, ns_ifge, ns_ifgt, ns_ifle, ns_cmeq, ns_cmne, ns_cmlt, ns_cmge, ns_cmgt, ns_cmle, ns_iret, ns_vret, ns_get, ns_putI, ns_putZ, ns_putR, ns_ial, ns_ialc, ns_ias, ns_zal, ns_zas, ns_ral, ns_ras, ns_len, ns_min, ns_max, ns_cpy, ns_obj, ns_nea, ns_txt, ns_new, ns_naI, ns_naZ, ns_naR, ns_call, ns_sw, ns_fn, cb_X9_isSuitor_0, cb_X9_isSuitor_26, cb_X9_isSuitor_27, h1, h2]
        ((repeat' (first | refine And.intro ?_ ?_ | intro _)) <;> first | (rw [nb_f (by grind)] at h; exact h) | (rw [nb_t (by grind)] at h; exact h))
      · exact h.elim
    · exact h.elim
  · exact h.elim
def p_most (tir moo d hg : Int32) : Int32 := if ¬ moo = 0 ∧ d - d / moo * moo = 0 then 0 else if hg < tir then hg else tir
def f_X3_mostUndone : nl_F
  | [.ref a, .int d, .int hg], h, K => match h a with
    | .inr (3, [.int thr, .int yrn, .int tir, .int moo, .int fst, .int gro, .int cls, .int sui, .ref r1, .ref r2, .ref r3, .ref r4]) => K (.int (p_most tir moo d hg))
    | _ => False
  | _, _, _ => False
theorem sf_X3_mostUndone {G : nl_G} {l : Launch} : nl_FS G l 1 3 m_X3_mostUndone f_X3_mostUndone := by
  intro av w Post h
  unfold f_X3_mostUndone at h
  split at h
  · split at h
    · rename_i h1
      refine ⟨by simp only [nl_rc, nl_io, h1], nl_sat0 (rt := some .int) ok_X3_mostUndone rfl ⟨rfl, rfl⟩ rfl rfl (Nat.le_of_ble_eq_true rfl) fun Z hZ => hZ 9 _ _ _ _ ?_⟩
      simp only [Nat.reduceMod, Nat.reduceDiv, nl_run_s, nl_wpB_c, nl_ldI, nl_ldL, nl_ldR, nl_nth, nl_set, nl_pk, nl_i1, nl_gf, nl_pf, nl_al, nl_as, nl_rl, nl_rs, nl_io, nl_cp, nl_cl, nl_ok4, nl_psh, nl_rc, nl_sw, nl_ent, nl_hs_1, nl_hs_2, nl_hs_hs, nl_c1, rok_int, rok_void, rok_0, rok_1, nb_ok, nb_0, nb_1, true_and, and_true, and_self, true_implies, not_true_eq_false, not_false_eq_true, false_implies, ns_ic, ns_lc, ns_ldI, ns_ldL, ns_ldR, ns_stI, ns_stL, ns_stR, ns_inc, ns_add, ns_sub, ns_mul, ns_div, ns_rem, ns_neg, ns_shl, ns_or, ns_and, ns_i2l, ns_l2i, ns_i2b, ns_i2s, ns_i2c, ns_ladd, ns_lmul, ns_ldiv, ns_lrem, ns_lcmp, ns_dup, ns_dup2, ns_go, ns_fall, ns_ifeq, ns_ifne, ns_iflt, ns_ifge, ns_ifgt, ns_ifle, ns_cmeq, ns_cmne, ns_cmlt, ns_cmge, ns_cmgt, ns_cmle, ns_iret, ns_vret, ns_get, ns_putI, ns_putZ, ns_putR, ns_ial, ns_ialc, ns_ias, ns_zal, ns_zas, ns_ral, ns_ras, ns_len, ns_min, ns_max, ns_cpy, ns_obj, ns_nea, ns_txt, ns_new, ns_naI, ns_naZ, ns_naR, ns_call, ns_sw, ns_fn, cb_X3_mostUndone_0, cb_X3_mostUndone_15, cb_X3_mostUndone_23, h1, f_X3_divides]
      refine ⟨fun h2 => ?_, fun h2 => ?_⟩
      · rw [p_most, if_neg h2] at h; exact h
      · rw [p_most, if_pos (Classical.not_not.mp h2)] at h; exact h
    · exact h.elim
  · exact h.elim
def f_X10_isRow : nl_F
  | [.int a], _, K => K (.int (nb (0 ≤ a ∧ a ≤ 7)))
  | _, _, _ => False
theorem sf_X10_isRow {G : nl_G} {l : Launch} : nl_FS G l 0 0 m_X10_isRow f_X10_isRow := by
  intro av w Post h
  unfold f_X10_isRow at h
  split at h
  · refine ⟨trivial, nl_sat0 (rt := some .boolean) ok_X10_isRow rfl ⟨rfl, rfl⟩ rfl rfl (Nat.le_of_ble_eq_true rfl) fun Z hZ => hZ 9 _ _ _ _ ?_⟩
    simp only [Nat.reduceMod, Nat.reduceDiv, nl_run_s, nl_wpB_c, nl_ldI, nl_ldL, nl_ldR, nl_nth, nl_set, nl_pk, nl_i1, nl_gf, nl_pf, nl_al, nl_as, nl_rl, nl_rs, nl_io, nl_cp, nl_cl, nl_ok4, nl_psh, nl_rc, nl_sw, nl_ent, nl_hs_1, nl_hs_2, nl_hs_hs, nl_c1, rok_int, rok_void, rok_0, rok_1, nb_ok, nb_0, nb_1, true_and, and_true, and_self, true_implies, not_true_eq_false, not_false_eq_true, false_implies, ns_ic, ns_lc, ns_ldI, ns_ldL, ns_ldR, ns_stI, ns_stL, ns_stR, ns_inc, ns_add, ns_sub, ns_mul, ns_div, ns_rem, ns_neg, ns_shl, ns_or, ns_and, ns_i2l, ns_l2i, ns_i2b, ns_i2s, ns_i2c, ns_ladd, ns_lmul, ns_ldiv, ns_lrem, ns_lcmp, ns_dup, ns_dup2, ns_go, ns_fall, ns_ifeq, ns_ifne, ns_iflt, ns_ifge, ns_ifgt, ns_ifle, ns_cmeq, ns_cmne, ns_cmlt, ns_cmge, ns_cmgt, ns_cmle, ns_iret, ns_vret, ns_get, ns_putI, ns_putZ, ns_putR, ns_ial, ns_ialc, ns_ias, ns_zal, ns_zas, ns_ral, ns_ras, ns_len, ns_min, ns_max, ns_cpy, ns_obj, ns_nea, ns_txt, ns_new, ns_naI, ns_naZ, ns_naR, ns_call, ns_sw, ns_fn, cb_X10_isRow_0, f_X10_in, i64_l0, i64_r7]
    exact h
  · exact h.elim
def f_X10_isFigure : nl_F
  | [.int a], _, K => K (.int (nb (48 ≤ a ∧ a ≤ 57)))
  | _, _, _ => False
theorem sf_X10_isFigure {G : nl_G} {l : Launch} : nl_FS G l 0 0 m_X10_isFigure f_X10_isFigure := by
  intro av w Post h
  unfold f_X10_isFigure at h
  split at h
  · refine ⟨trivial, nl_sat0 (rt := some .boolean) ok_X10_isFigure rfl ⟨rfl, rfl⟩ rfl rfl (Nat.le_of_ble_eq_true rfl) fun Z hZ => hZ 9 _ _ _ _ ?_⟩
    simp only [Nat.reduceMod, Nat.reduceDiv, nl_run_s, nl_wpB_c, nl_ldI, nl_ldL, nl_ldR, nl_nth, nl_set, nl_pk, nl_i1, nl_gf, nl_pf, nl_al, nl_as, nl_rl, nl_rs, nl_io, nl_cp, nl_cl, nl_ok4, nl_psh, nl_rc, nl_sw, nl_ent, nl_hs_1, nl_hs_2, nl_hs_hs, nl_c1, rok_int, rok_void, rok_0, rok_1, nb_ok, nb_0, nb_1, true_and, and_true, and_self, true_implies, not_true_eq_false, not_false_eq_true, false_implies, ns_ic, ns_lc, ns_ldI, ns_ldL, ns_ldR, ns_stI, ns_stL, ns_stR, ns_inc, ns_add, ns_sub, ns_mul, ns_div, ns_rem, ns_neg, ns_shl, ns_or, ns_and, ns_i2l, ns_l2i, ns_i2b, ns_i2s, ns_i2c, ns_ladd, ns_lmul, ns_ldiv, ns_lrem, ns_lcmp, ns_dup, ns_dup2, ns_go, ns_fall, ns_ifeq, ns_ifne, ns_iflt, ns_ifge, ns_ifgt, ns_ifle, ns_cmeq, ns_cmne, ns_cmlt, ns_cmge, ns_cmgt, ns_cmle, ns_iret, ns_vret, ns_get, ns_putI, ns_putZ, ns_putR, ns_ial, ns_ialc, ns_ias, ns_zal, ns_zas, ns_ral, ns_ras, ns_len, ns_min, ns_max, ns_cpy, ns_obj, ns_nea, ns_txt, ns_new, ns_naI, ns_naZ, ns_naR, ns_call, ns_sw, ns_fn, cb_X10_isFigure_0, f_X10_in, i64_l48, i64_r57]
    exact h
  · exact h.elim
def f_X10_isTwo : nl_F
  | [.int a], _, K => K (.int (nb (0 ≤ a ∧ a ≤ 1)))
  | _, _, _ => False
theorem sf_X10_isTwo {G : nl_G} {l : Launch} : nl_FS G l 0 0 m_X10_isTwo f_X10_isTwo := by
  intro av w Post h
  unfold f_X10_isTwo at h
  split at h
  · refine ⟨trivial, nl_sat0 (rt := some .boolean) ok_X10_isTwo rfl ⟨rfl, rfl⟩ rfl rfl (Nat.le_of_ble_eq_true rfl) fun Z hZ => hZ 9 _ _ _ _ ?_⟩
    simp only [Nat.reduceMod, Nat.reduceDiv, nl_run_s, nl_wpB_c, nl_ldI, nl_ldL, nl_ldR, nl_nth, nl_set, nl_pk, nl_i1, nl_gf, nl_pf, nl_al, nl_as, nl_rl, nl_rs, nl_io, nl_cp, nl_cl, nl_ok4, nl_psh, nl_rc, nl_sw, nl_ent, nl_hs_1, nl_hs_2, nl_hs_hs, nl_c1, rok_int, rok_void, rok_0, rok_1, nb_ok, nb_0, nb_1, true_and, and_true, and_self, true_implies, not_true_eq_false, not_false_eq_true, false_implies, ns_ic, ns_lc, ns_ldI, ns_ldL, ns_ldR, ns_stI, ns_stL, ns_stR, ns_inc, ns_add, ns_sub, ns_mul, ns_div, ns_rem, ns_neg, ns_shl, ns_or, ns_and, ns_i2l, ns_l2i, ns_i2b, ns_i2s, ns_i2c, ns_ladd, ns_lmul, ns_ldiv, ns_lrem, ns_lcmp, ns_dup, ns_dup2, ns_go, ns_fall, ns_ifeq, ns_ifne, ns_iflt, ns_ifge, ns_ifgt, ns_ifle, ns_cmeq, ns_cmne, ns_cmlt, ns_cmge, ns_cmgt, ns_cmle, ns_iret, ns_vret, ns_get, ns_putI, ns_putZ, ns_putR, ns_ial, ns_ialc, ns_ias, ns_zal, ns_zas, ns_ral, ns_ras, ns_len, ns_min, ns_max, ns_cpy, ns_obj, ns_nea, ns_txt, ns_new, ns_naI, ns_naZ, ns_naR, ns_call, ns_sw, ns_fn, cb_X10_isTwo_0, f_X10_in, i64_l0, i64_r1]
    exact h
  · exact h.elim
def f_X10_isSuitor : nl_F
  | [.ref a, .int s], h, K => match h a with
    | .inr (10, fs) => match nl_nth fs 8 with
      | some (.ref q) => match h q with
        | .inl (0, 48, .inl t) => K (.int (nb (0 ≤ s ∧ s ≤ t 7 - 1)))
        | _ => False
      | _ => False
    | _ => False
  | _, _, _ => False
theorem sf_X10_isSuitor {G : nl_G} {l : Launch} : nl_FS G l 1 10 m_X10_isSuitor f_X10_isSuitor := by
  intro av w Post h
  unfold f_X10_isSuitor at h
  split at h
  · split at h
    · rename_i h1
      split at h
      · rename_i h2
        split at h
        · rename_i h3
          refine ⟨by simp only [nl_rc, nl_io, h1], nl_sat0 (rt := some .boolean) ok_X10_isSuitor rfl ⟨rfl, rfl⟩ rfl rfl (Nat.le_of_ble_eq_true rfl) fun Z hZ => hZ 9 _ _ _ _ ?_⟩
          simp only [Nat.reduceMod, Nat.reduceDiv, nl_run_s, nl_wpB_c, nl_ldI, nl_ldL, nl_ldR, nl_nth, nl_set, nl_pk, nl_i1, nl_gf, nl_pf, nl_al, nl_as, nl_rl, nl_rs, nl_io, nl_cp, nl_cl, nl_ok4, nl_psh, nl_rc, nl_sw, nl_ent, nl_hs_1, nl_hs_2, nl_hs_hs, nl_c1, rok_int, rok_void, rok_0, rok_1, nb_ok, nb_0, nb_1, true_and, and_true, and_self, true_implies, not_true_eq_false, not_false_eq_true, false_implies, ns_ic, ns_lc, ns_ldI, ns_ldL, ns_ldR, ns_stI, ns_stL, ns_stR, ns_inc, ns_add, ns_sub, ns_mul, ns_div, ns_rem, ns_neg, ns_shl, ns_or, ns_and, ns_i2l, ns_l2i, ns_i2b, ns_i2s, ns_i2c, ns_ladd, ns_lmul, ns_ldiv, ns_lrem, ns_lcmp, ns_dup, ns_dup2, ns_go, ns_fall, ns_ifeq, ns_ifne, ns_iflt, ns_ifge, ns_ifgt, ns_ifle, ns_cmeq, ns_cmne, ns_cmlt, ns_cmge, ns_cmgt, ns_cmle, ns_iret, ns_vret, ns_get, ns_putI, ns_putZ, ns_putR, ns_ial, ns_ialc, ns_ias, ns_zal, ns_zas, ns_ral, ns_ras, ns_len, ns_min, ns_max, ns_cpy, ns_obj, ns_nea, ns_txt, ns_new, ns_naI, ns_naZ, ns_naR, ns_call, ns_sw, ns_fn, cb_X10_isSuitor_0, h1, h2, h3, f_X10_in, i64_l0, i64_le, ck_7, vi_7]
          exact h
        · exact h.elim
      · exact h.elim
    · exact h.elim
  · exact h.elim
def p_min (a b : Int32) : Int32 := if a < b then a else b
def f_X10_wovenBy : nl_F
  | [.ref q, .int a], h, K => match h q with
    | .inl (0, 48, .inl t) => K (.int (p_min a (t 0 - t 10)))
    | _ => False
  | _, _, _ => False
theorem sf_X10_wovenBy {G : nl_G} {l : Launch} : nl_FS G l 0 0 m_X10_wovenBy f_X10_wovenBy := by
  intro av w Post h
  unfold f_X10_wovenBy at h
  split at h
  · split at h
    · rename_i h1
      refine ⟨trivial, nl_sat0 (rt := some .int) ok_X10_wovenBy rfl ⟨rfl, rfl⟩ rfl rfl (Nat.le_of_ble_eq_true rfl) fun Z hZ => hZ 9 _ _ _ _ ?_⟩
      simp only [Nat.reduceMod, Nat.reduceDiv, nl_run_s, nl_wpB_c, nl_ldI, nl_ldL, nl_ldR, nl_nth, nl_set, nl_pk, nl_i1, nl_gf, nl_pf, nl_al, nl_as, nl_rl, nl_rs, nl_io, nl_cp, nl_cl, nl_ok4, nl_psh, nl_rc, nl_sw, nl_ent, nl_hs_1, nl_hs_2, nl_hs_hs, nl_c1, rok_int, rok_void, rok_0, rok_1, nb_ok, nb_0, nb_1, true_and, and_true, and_self, true_implies, not_true_eq_false, not_false_eq_true, false_implies, ns_ic, ns_lc, ns_ldI, ns_ldL, ns_ldR, ns_stI, ns_stL, ns_stR, ns_inc, ns_add, ns_sub, ns_mul, ns_div, ns_rem, ns_neg, ns_shl, ns_or, ns_and, ns_i2l, ns_l2i, ns_i2b, ns_i2s, ns_i2c, ns_ladd, ns_lmul, ns_ldiv, ns_lrem, ns_lcmp, ns_dup, ns_dup2, ns_go, ns_fall, ns_ifeq, ns_ifne, ns_iflt, ns_ifge, ns_ifgt, ns_ifle, ns_cmeq, ns_cmne, ns_cmlt, ns_cmge, ns_cmgt, ns_cmle, ns_iret, ns_vret, ns_get, ns_putI, ns_putZ, ns_putR, ns_ial, ns_ialc, ns_ias, ns_zal, ns_zas, ns_ral, ns_ras, ns_len, ns_min, ns_max, ns_cpy, ns_obj, ns_nea, ns_txt, ns_new, ns_naI, ns_naZ, ns_naR, ns_call, ns_sw, ns_fn, cb_X10_wovenBy_0, h1, ck_0, vi_0, ck_10, vi_10, f_X10_lesser]
      exact h
    · exact h.elim
  · exact h.elim
def p_unby (t : Nat → Int32) (b : Int32) : Int32 := if ¬ t 3 = 0 ∧ t 8 - t 8 / t 3 * t 3 = 0 then 0 else p_min b (p_min (t 2) (t 10))
def f_X10_undoneBy : nl_F
  | [.ref q, .int b], h, K => match h q with
    | .inl (0, 48, .inl t) => K (.int (p_unby t b))
    | _ => False
  | _, _, _ => False
theorem sf_X10_undoneBy {G : nl_G} {l : Launch} : nl_FS G l 0 0 m_X10_undoneBy f_X10_undoneBy := by
  intro av w Post h
  unfold f_X10_undoneBy at h
  split at h
  · split at h
    · rename_i h1
      refine ⟨trivial, nl_sat0 (rt := some .int) ok_X10_undoneBy rfl ⟨rfl, rfl⟩ rfl rfl (Nat.le_of_ble_eq_true rfl) fun Z hZ => hZ 9 _ _ _ _ ?_⟩
      simp only [Nat.reduceMod, Nat.reduceDiv, nl_run_s, nl_wpB_c, nl_ldI, nl_ldL, nl_ldR, nl_nth, nl_set, nl_pk, nl_i1, nl_gf, nl_pf, nl_al, nl_as, nl_rl, nl_rs, nl_io, nl_cp, nl_cl, nl_ok4, nl_psh, nl_rc, nl_sw, nl_ent, nl_hs_1, nl_hs_2, nl_hs_hs, nl_c1, rok_int, rok_void, rok_0, rok_1, nb_ok, nb_0, nb_1, true_and, and_true, and_self, true_implies, not_true_eq_false, not_false_eq_true, false_implies, ns_ic, ns_lc, ns_ldI, ns_ldL, ns_ldR, ns_stI, ns_stL, ns_stR, ns_inc, ns_add, ns_sub, ns_mul, ns_div, ns_rem, ns_neg, ns_shl, ns_or, ns_and, ns_i2l, ns_l2i, ns_i2b, ns_i2s, ns_i2c, ns_ladd, ns_lmul, ns_ldiv, ns_lrem, ns_lcmp, ns_dup, ns_dup2, ns_go, ns_fall, ns_ifeq, ns_ifne, ns_iflt, ns_ifge, ns_ifgt, ns_ifle, ns_cmeq, ns_cmne, ns_cmlt, ns_cmge, ns_cmgt, ns_cmle, ns_iret, ns_vret, ns_get, ns_putI, ns_putZ, ns_putR, ns_ial, ns_ialc, ns_ias, ns_zal, ns_zas, ns_ral, ns_ras, ns_len, ns_min, ns_max, ns_cpy, ns_obj, ns_nea, ns_txt, ns_new, ns_naI, ns_naZ, ns_naR, ns_call, ns_sw, ns_fn, cb_X10_undoneBy_0, cb_X10_undoneBy_11, cb_X10_undoneBy_25, h1, ck_2, vi_2, ck_10, vi_10, f_X10_lesser, f_X10_isMoon]
      refine ⟨fun h2 => ?_, fun h2 => ?_⟩
      · rw [p_unby, if_neg h2] at h; exact h
      · rw [p_unby, if_pos (Classical.not_not.mp h2)] at h; exact h
    · exact h.elim
  · exact h.elim
/-- who knows first, from suitor s on, n left -/
def p_who (t : Nat → Int32) : Nat → Nat → Int32
  | 0, _ => -1000000
  | n + 1, s => if t (33 + s) ≤ t (38 + s) then nI s else p_who t n (s + 1)
theorem sp_X10_whoKnows {G : nl_G} {l : Launch} {w : nl_HW} {Post : nl_R} {a k : Nat} {t : Nat → Int32} (ha : w.1 a = nl_ia 48 t) (h7 : t 7 = nI k) (hk : k ≤ 5) (h : Post (some (.int (p_who t k 0))) w) : nl_Sat G l m_X10_whoKnows [.ref a] w Post := by
  refine nl_sat0 (rt := some .int) ok_X10_whoKnows rfl ⟨rfl, rfl⟩ rfl rfl (Nat.le_of_ble_eq_true rfl) fun Z hZ => hZ 9 _ _ _ _ ?_
  simp only [Nat.reduceMod, Nat.reduceDiv, nl_run_s, nl_wpB_c, nl_ldI, nl_ldL, nl_ldR, nl_nth, nl_set, nl_pk, nl_i1, nl_gf, nl_pf, nl_al, nl_as, nl_rl, nl_rs, nl_io, nl_cp, nl_cl, nl_ok4, nl_psh, nl_rc, nl_sw, nl_ent, nl_hs_1, nl_hs_2, nl_hs_hs, nl_c1, rok_int, rok_void, rok_0, rok_1, nb_ok, nb_0, nb_1, true_and, and_true, and_self, true_implies, not_true_eq_false, not_false_eq_true, false_implies, ns_ic, ns_lc, ns_ldI, ns_ldL, ns_ldR, ns_stI, ns_stL, ns_stR, ns_inc, ns_add, ns_sub, ns_mul, ns_div, ns_rem, ns_neg, ns_shl, ns_or, ns_and, ns_i2l, ns_l2i, ns_i2b, ns_i2s, ns_i2c, ns_ladd, ns_lmul, ns_ldiv, ns_lrem, ns_lcmp, ns_dup, ns_dup2, ns_go, ns_fall, ns_ifeq, ns_ifne, ns_iflt, ns_ifge, ns_ifgt, ns_ifle, ns_cmeq, ns_cmne, ns_cmlt, ns_cmge, ns_cmgt, ns_cmle, ns_iret, ns_vret, ns_get, ns_putI, ns_putZ, ns_putR, ns_ial, ns_ialc, ns_ias, ns_zal, ns_zas, ns_ral, ns_ras, ns_len, ns_min, ns_max, ns_cpy, ns_obj, ns_nea, ns_txt, ns_new, ns_naI, ns_naZ, ns_naR, ns_call, ns_sw, ns_fn, cb_X10_whoKnows_0, cb_X10_whoKnows_2, cb_X10_whoKnows_20, cb_X10_whoKnows_26]
  have loop : ∀ n s, s + n = k → Post (some (.int (p_who t n s))) w → Z 2 [.ref a, .int (nI s)] [] w := by
    intro n
    induction n with
    | zero =>
      intro s hs hp
      refine hZ 9 _ _ _ _ ?_
      simp (disch := omega) only [Nat.reduceMod, Nat.reduceDiv, nl_run_s, nl_wpB_c, nl_ldI, nl_ldL, nl_ldR, nl_nth, nl_set, nl_pk, nl_i1, nl_gf, nl_pf, nl_al, nl_as, nl_rl, nl_rs, nl_io, nl_cp, nl_cl, nl_ok4, nl_psh, nl_rc, nl_sw, nl_ent, nl_hs_1, nl_hs_2, nl_hs_hs, nl_c1, rok_int, rok_void, rok_0, rok_1, nb_ok, nb_0, nb_1, true_and, and_true, and_self, true_implies, not_true_eq_false, not_false_eq_true, false_implies, ns_ic, ns_lc, ns_ldI, ns_ldL, ns_ldR, ns_stI, ns_stL, ns_stR, ns_inc, ns_add, ns_sub, ns_mul, ns_div, ns_rem, ns_neg, ns_shl, ns_or, ns_and, ns_i2l, ns_l2i, ns_i2b, ns_i2s, ns_i2c, ns_ladd, ns_lmul, ns_ldiv, ns_lrem, ns_lcmp, ns_dup, ns_dup2, ns_go, ns_fall, ns_ifeq, ns_ifne, ns_iflt, ns_ifge, ns_ifgt, ns_ifle, ns_cmeq, ns_cmne, ns_cmlt, ns_cmge, ns_cmgt, ns_cmle, ns_iret, ns_vret, ns_get, ns_putI, ns_putZ, ns_putR, ns_ial, ns_ialc, ns_ias, ns_zal, ns_zas, ns_ral, ns_ras, ns_len, ns_min, ns_max, ns_cpy, ns_obj, ns_nea, ns_txt, ns_new, ns_naI, ns_naZ, ns_naR, ns_call, ns_sw, ns_fn, cb_X10_whoKnows_0, cb_X10_whoKnows_2, cb_X10_whoKnows_20, cb_X10_whoKnows_26, nI_1, nI_add, nI_leI, nI_ltI, nI_eq, nI_clamp, vp_in_nI, pk_sub, an_15, an_23, an_28, an_33, an_38, an_43, ha, ck_7, vi_7, h7, f_X10_knows]
      exact ⟨fun _ => hp, fun q => absurd (by omega) q⟩
    | succ n ih =>
      intro s hs hp
      refine hZ 9 _ _ _ _ ?_
      simp (disch := omega) only [Nat.reduceMod, Nat.reduceDiv, nl_run_s, nl_wpB_c, nl_ldI, nl_ldL, nl_ldR, nl_nth, nl_set, nl_pk, nl_i1, nl_gf, nl_pf, nl_al, nl_as, nl_rl, nl_rs, nl_io, nl_cp, nl_cl, nl_ok4, nl_psh, nl_rc, nl_sw, nl_ent, nl_hs_1, nl_hs_2, nl_hs_hs, nl_c1, rok_int, rok_void, rok_0, rok_1, nb_ok, nb_0, nb_1, true_and, and_true, and_self, true_implies, not_true_eq_false, not_false_eq_true, false_implies, ns_ic, ns_lc, ns_ldI, ns_ldL, ns_ldR, ns_stI, ns_stL, ns_stR, ns_inc, ns_add, ns_sub, ns_mul, ns_div, ns_rem, ns_neg, ns_shl, ns_or, ns_and, ns_i2l, ns_l2i, ns_i2b, ns_i2s, ns_i2c, ns_ladd, ns_lmul, ns_ldiv, ns_lrem, ns_lcmp, ns_dup, ns_dup2, ns_go, ns_fall, ns_ifeq, ns_ifne, ns_iflt, ns_ifge, ns_ifgt, ns_ifle, ns_cmeq, ns_cmne, ns_cmlt, ns_cmge, ns_cmgt, ns_cmle, ns_iret, ns_vret, ns_get, ns_putI, ns_putZ, ns_putR, ns_ial, ns_ialc, ns_ias, ns_zal, ns_zas, ns_ral, ns_ras, ns_len, ns_min, ns_max, ns_cpy, ns_obj, ns_nea, ns_txt, ns_new, ns_naI, ns_naZ, ns_naR, ns_call, ns_sw, ns_fn, cb_X10_whoKnows_0, cb_X10_whoKnows_2, cb_X10_whoKnows_20, cb_X10_whoKnows_26, nI_1, nI_add, nI_leI, nI_ltI, nI_eq, nI_clamp, vp_in_nI, pk_sub, an_15, an_23, an_28, an_33, an_38, an_43, ha, ck_7, vi_7, h7, f_X10_knows]
      refine ⟨fun q => absurd q (by omega), fun q => ⟨fun q2 => ih (s + 1) (by omega) ?_, fun q2 => ?_⟩⟩
      · rw [p_who, if_neg q2] at hp; exact hp
      · rw [p_who, if_pos (Classical.not_not.mp q2)] at hp; exact hp
  exact loop k 0 (by omega) h

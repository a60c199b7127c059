/-! leaves that only read -/
def f_X9_isRow : nl_F
  | [.int a], _, K => K (.int (nb (0 ≤ a ∧ a < 8)))
  | _, _, _ => False
theorem sf_X9_isRow {G : nl_G} {l : Launch} : nl_FS G l 0 0 m_X9_isRow f_X9_isRow := by
  intro av w Post h
  unfold f_X9_isRow at h
  split at h
  · refine ⟨trivial, nl_sat0 (rt := some .boolean) ok_X9_isRow rfl ⟨rfl, rfl⟩ rfl rfl (Nat.le_of_ble_eq_true rfl) fun Z hZ => hZ 9 _ _ _ _ ?_⟩
    simp only [Nat.reduceMod, Nat.reduceDiv, nl_run_s, nl_wpB_c, nl_ldI, nl_ldL, nl_ldR, nl_nth, nl_set, nl_pk, nl_i1, nl_gf, nl_pf, nl_al, nl_as, nl_rl, nl_rs, nl_io, nl_cp, nl_cl, nl_ok4, nl_psh, nl_rc, nl_sw, nl_ent, nl_hs_1, nl_hs_2, nl_hs_hs, nl_c1, rok_int, rok_void, rok_0, rok_1, nb_ok, nb_0, nb_1, true_and, and_true, and_self, true_implies, not_true_eq_false, not_false_eq_true, false_implies, ns_ic, ns_lc, ns_ldI, ns_ldL, ns_ldR, ns_stI, ns_stL, ns_stR, ns_inc, ns_add, ns_sub, ns_mul, ns_div, ns_rem, ns_neg, ns_shl, ns_or, ns_and, ns_i2l, ns_l2i, ns_i2b, ns_i2s, ns_i2c, ns_ladd, ns_lmul, ns_ldiv, ns_lrem, ns_lcmp, ns_dup, ns_dup2, ns_go, ns_fall, ns_ifeq, ns_ifne, ns_iflt, ns_ifge, ns_ifgt, ns_ifle, ns_cmeq, ns_cmne, ns_cmlt, ns_cmge, ns_cmgt, ns_cmle, ns_iret, ns_vret, ns_get, ns_putI, ns_putZ, ns_putR, ns_ial, ns_ialc, ns_ias, ns_zal, ns_zas, ns_ral, ns_ras, ns_len, ns_min, ns_max, ns_cpy, ns_obj, ns_nea, ns_txt, ns_new, ns_naI, ns_naZ, ns_naR, ns_call, ns_sw, ns_fn, cb_X9_isRow_0, cb_X9_isRow_14, cb_X9_isRow_15]
    ((repeat' (first | refine And.intro ?_ ?_ | intro _)) <;> first | (rw [nb_f (by grind)] at h; exact h) | (rw [nb_t (by grind)] at h; exact h))
  · exact h.elim
def f_X9_isWithin : nl_F
  | [.int a, .int b], _, K => K (.int (nb (0 ≤ a ∧ a ≤ b)))
  | _, _, _ => False
theorem sf_X9_isWithin {G : nl_G} {l : Launch} : nl_FS G l 0 0 m_X9_isWithin f_X9_isWithin := by
  intro av w Post h
  unfold f_X9_isWithin at h
  split at h
  · refine ⟨trivial, nl_sat0 (rt := some .boolean) ok_X9_isWithin rfl ⟨rfl, rfl⟩ rfl rfl (Nat.le_of_ble_eq_true rfl) fun Z hZ => hZ 9 _ _ _ _ ?_⟩
    simp only [Nat.reduceMod, Nat.reduceDiv, nl_run_s, nl_wpB_c, nl_ldI, nl_ldL, nl_ldR, nl_nth, nl_set, nl_pk, nl_i1, nl_gf, nl_pf, nl_al, nl_as, nl_rl, nl_rs, nl_io, nl_cp, nl_cl, nl_ok4, nl_psh, nl_rc, nl_sw, nl_ent, nl_hs_1, nl_hs_2, nl_hs_hs, nl_c1, rok_int, rok_void, rok_0, rok_1, nb_ok, nb_0, nb_1, true_and, and_true, and_self, true_implies, not_true_eq_false, not_false_eq_true, false_implies, ns_ic, ns_lc, ns_ldI, ns_ldL, ns_ldR, ns_stI, ns_stL, ns_stR, ns_inc, ns_add, ns_sub, ns_mul, ns_div, ns_rem, ns_neg, ns_shl, ns_or, ns_and, ns_i2l, ns_l2i, ns_i2b, ns_i2s, ns_i2c, ns_ladd, ns_lmul, ns_ldiv, ns_lrem, ns_lcmp, ns_dup, ns_dup2, ns_go, ns_fall, ns_ifeq, ns_ifne, ns_iflt, ns_ifge, ns_ifgt, ns_ifle, ns_cmeq, ns_cmne, ns_cmlt, ns_cmge, ns_cmgt, ns_cmle, ns_iret, ns_vret, ns_get, ns_putI, ns_putZ, ns_putR, ns_ial, ns_ialc, ns_ias, ns_zal, ns_zas, ns_ral, ns_ras, ns_len, ns_min, ns_max, ns_cpy, ns_obj, ns_nea, ns_txt, ns_new, ns_naI, ns_naZ, ns_naR, ns_call, ns_sw, ns_fn, cb_X9_isWithin_0, cb_X9_isWithin_13, cb_X9_isWithin_14]
    ((repeat' (first | refine And.intro ?_ ?_ | intro _)) <;> first | (rw [nb_f (by grind)] at h; exact h) | (rw [nb_t (by grind)] at h; exact h))
  · exact h.elim
def f_X3_divides : nl_F
  | [.int d, .int x], _, K => K (.int (nb (¬ d = 0 ∧ x - x / d * d = 0)))
  | _, _, _ => False
theorem sf_X3_divides {G : nl_G} {l : Launch} : nl_FS G l 0 0 m_X3_divides f_X3_divides := by
  intro av w Post h
  unfold f_X3_divides at h
  split at h
  · refine ⟨trivial, nl_sat0 (rt := some .boolean) ok_X3_divides rfl ⟨rfl, rfl⟩ rfl rfl (Nat.le_of_ble_eq_true rfl) fun Z hZ => hZ 9 _ _ _ _ ?_⟩
    simp only [Nat.reduceMod, Nat.reduceDiv, nl_run_s, nl_wpB_c, nl_ldI, nl_ldL, nl_ldR, nl_nth, nl_set, nl_pk, nl_i1, nl_gf, nl_pf, nl_al, nl_as, nl_rl, nl_rs, nl_io, nl_cp, nl_cl, nl_ok4, nl_psh, nl_rc, nl_sw, nl_ent, nl_hs_1, nl_hs_2, nl_hs_hs, nl_c1, rok_int, rok_void, rok_0, rok_1, nb_ok, nb_0, nb_1, true_and, and_true, and_self, true_implies, not_true_eq_false, not_false_eq_true, false_implies, ns_ic, ns_lc, ns_ldI, ns_ldL, ns_ldR, ns_stI, ns_stL, ns_stR, ns_inc, ns_add, ns_sub, ns_mul, ns_div, ns_rem, ns_neg, ns_shl, ns_or, ns_and, ns_i2l, ns_l2i, ns_i2b, ns_i2s, ns_i2c, ns_ladd, ns_lmul, ns_ldiv, ns_lrem, ns_lcmp, ns_dup, ns_dup2, ns_go, ns_fall, ns_ifeq, ns_ifne, ns_iflt, ns_ifge, ns_ifgt, ns_ifle, ns_cmeq, ns_cmne, ns_cmlt, ns_cmge, ns_cmgt, ns_cmle, ns_iret, ns_vret, ns_get, ns_putI, ns_putZ, ns_putR, ns_ial, ns_ialc, ns_ias, ns_zal, ns_zas, ns_ral, ns_ras, ns_len, ns_min, ns_max, ns_cpy, ns_obj, ns_nea, ns_txt, ns_new, ns_naI, ns_naZ, ns_naR, ns_call, ns_sw, ns_fn, cb_X3_divides_0, cb_X3_divides_14, cb_X3_divides_15]
    rename_i d x
    refine ⟨fun h1 => ?_, fun h1 => ⟨h1, fun h2 => ?_, fun h2 => ?_⟩⟩
    · rw [nb_f (fun q => q.1 h1)] at h; exact h
    · rw [nb_f (fun q => h2 q.2)] at h; exact h
    · rw [nb_t ⟨h1, h2⟩] at h; exact h
  · exact h.elim
def f_X1_fewestNoticed : nl_F
  | [.int k], _, K => K (.int (if k = 4 then 1 else if k = 5 then 2 else 10))
  | _, _, _ => False
theorem sf_X1_fewestNoticed {G : nl_G} {l : Launch} : nl_FS G l 0 0 m_X1_fewestNoticed f_X1_fewestNoticed := by
  intro av w Post h
  unfold f_X1_fewestNoticed at h
  split at h
  · refine ⟨trivial, nl_sat0 (rt := some .int) ok_X1_fewestNoticed rfl ⟨rfl, rfl⟩ rfl rfl (Nat.le_of_ble_eq_true rfl) fun Z hZ => hZ 9 _ _ _ _ ?_⟩
    simp only [Nat.reduceMod, Nat.reduceDiv, nl_run_s, nl_wpB_c, nl_ldI, nl_ldL, nl_ldR, nl_nth, nl_set, nl_pk, nl_i1, nl_gf, nl_pf, nl_al, nl_as, nl_rl, nl_rs, nl_io, nl_cp, nl_cl, nl_ok4, nl_psh, nl_rc, nl_sw, nl_ent, nl_hs_1, nl_hs_2, nl_hs_hs, nl_c1, rok_int, rok_void, rok_0, rok_1, nb_ok, nb_0, nb_1, true_and, and_true, and_self, true_implies, not_true_eq_false, not_false_eq_true, false_implies, ns_ic, ns_lc, ns_ldI, ns_ldL, ns_ldR, ns_stI, ns_stL, ns_stR, ns_inc, ns_add, ns_sub, ns_mul, ns_div, ns_rem, ns_neg, ns_shl, ns_or, ns_and, ns_i2l, ns_l2i, ns_i2b, ns_i2s, ns_i2c, ns_ladd, ns_lmul, ns_ldiv, ns_lrem, ns_lcmp, ns_dup, ns_dup2, ns_go, ns_fall, ns_ifeq, ns_ifne, ns_iflt, ns_ifge, ns_ifgt, ns_ifle, ns_cmeq, ns_cmne, ns_cmlt, ns_cmge, ns_cmgt, ns_cmle, ns_iret, ns_vret, ns_get, ns_putI, ns_putZ, ns_putR, ns_ial, ns_ialc, ns_ias, ns_zal, ns_zas, ns_ral, ns_ras, ns_len, ns_min, ns_max, ns_cpy, ns_obj, ns_nea, ns_txt, ns_new, ns_naI, ns_naZ, ns_naR, ns_call, ns_sw, ns_fn, cb_X1_fewestNoticed_0, cb_X1_fewestNoticed_28, cb_X1_fewestNoticed_30, cb_X1_fewestNoticed_32]
    refine ⟨fun h1 => ?_, fun h1 => ⟨fun h2 => ?_, fun h2 => ?_⟩⟩
    · rw [if_pos h1] at h; exact h
    · rw [if_neg h1, if_pos h2] at h; exact h
    · rw [if_neg h1, if_neg h2] at h; exact h
  · exact h.elim
def f_X3_colourAt : nl_F
  | [.ref a, .int p], h, K => match h a with
    | .inr (3, [.int thr, .int yrn, .int tir, .int moo, .int fst, .int gro, .int cls, .int sui, .ref r1, .ref r2, .ref r3, .ref r4]) => match h r1 with
      | .inl (0, 8, .inl told) => (0 ≤ p ∧ 0 < cls → vp_in (p - p / cls * cls) 8 ∧ K (.int (told (p - p / cls * cls).toNatClampNeg))) ∧ (¬ (0 ≤ p ∧ 0 < cls) → K (.int (-1000000)))
      | _ => False
    | _ => False
  | _, _, _ => False
theorem sf_X3_colourAt {G : nl_G} {l : Launch} : nl_FS G l 1 3 m_X3_colourAt f_X3_colourAt := by
  intro av w Post h
  unfold f_X3_colourAt at h
  split at h
  · split at h
    · rename_i h1
      split at h
      · rename_i h2
        refine ⟨by simp only [nl_rc, nl_io, h1], nl_sat0 (rt := some .int) ok_X3_colourAt rfl ⟨rfl, rfl⟩ rfl rfl (Nat.le_of_ble_eq_true rfl) fun Z hZ => hZ 9 _ _ _ _ ?_⟩
        simp only [Nat.reduceMod, Nat.reduceDiv, nl_run_s, nl_wpB_c, nl_ldI, nl_ldL, nl_ldR, nl_nth, nl_set, nl_pk, nl_i1, nl_gf, nl_pf, nl_al, nl_as, nl_rl, nl_rs, nl_io, nl_cp, nl_cl, nl_ok4, nl_psh, nl_rc, nl_sw, nl_ent, nl_hs_1, nl_hs_2, nl_hs_hs, nl_c1, rok_int, rok_void, rok_0, rok_1, nb_ok, nb_0, nb_1, true_and, and_true, and_self, true_implies, not_true_eq_false, not_false_eq_true, false_implies, ns_ic, ns_lc, ns_ldI, ns_ldL, ns_ldR, ns_stI, ns_stL, ns_stR, ns_inc, ns_add, ns_sub, ns_mul, ns_div, ns_rem, ns_neg, ns_shl, ns_or, ns_and, ns_i2l, ns_l2i, ns_i2b, ns_i2s, ns_i2c, ns_ladd, ns_lmul, ns_ldiv, ns_lrem, ns_lcmp, ns_dup, ns_dup2, ns_go, ns_fall, ns_ifeq, ns_ifne, ns_iflt, ns_ifge, ns_ifgt, ns_ifle, ns_cmeq, ns_cmne, ns_cmlt, ns_cmge, ns_cmgt, ns_cmle, ns_iret, ns_vret, ns_get, ns_putI, ns_putZ, ns_putR, ns_ial, ns_ialc, ns_ias, ns_zal, ns_zas, ns_ral, ns_ras, ns_len, ns_min, ns_max, ns_cpy, ns_obj, ns_nea, ns_txt, ns_new, ns_naI, ns_naZ, ns_naR, ns_call, ns_sw, ns_fn, cb_X3_colourAt_0, cb_X3_colourAt_25, cb_X3_colourAt_27, h1, h2]
        refine ⟨fun h3 => h.2 (by grind), fun h3 => ⟨fun h4 => h.2 (by grind), fun h4 => ⟨by grind, h.1 (by grind)⟩⟩⟩
      · exact h.elim
    · exact h.elim
  · exact h.elim
def p_yf (hig han wea n : Int32) : Int32 := n - (if hig - han < n then hig - han else n) + (wea + (if hig - han < n then hig - han else n)) / 4 - wea / 4
def f_X1_yarnFor : nl_F
  | [.ref a, .int n], h, K => match h a with
    | .inr (1, [.int day, .int nig, .int han, .int hig, .int wea, .int yar, .int bla, .int fea, .ref q1, .ref q2]) => K (.int (p_yf hig han wea n))
    | _ => False
  | _, _, _ => False
theorem sf_X1_yarnFor {G : nl_G} {l : Launch} : nl_FS G l 1 1 m_X1_yarnFor f_X1_yarnFor := by
  intro av w Post h
  unfold f_X1_yarnFor at h
  split at h
  · split at h
    · rename_i h1
      refine ⟨by simp only [nl_rc, nl_io, h1], nl_sat0 (rt := some .int) ok_X1_yarnFor rfl ⟨rfl, rfl⟩ rfl rfl (Nat.le_of_ble_eq_true rfl) fun Z hZ => hZ 9 _ _ _ _ ?_⟩
      simp only [Nat.reduceMod, Nat.reduceDiv, nl_run_s, nl_wpB_c, nl_ldI, nl_ldL, nl_ldR, nl_nth, nl_set, nl_pk, nl_i1, nl_gf, nl_pf, nl_al, nl_as, nl_rl, nl_rs, nl_io, nl_cp, nl_cl, nl_ok4, nl_psh, nl_rc, nl_sw, nl_ent, nl_hs_1, nl_hs_2, nl_hs_hs, nl_c1, rok_int, rok_void, rok_0, rok_1, nb_ok, nb_0, nb_1, true_and, and_true, and_self, true_implies, not_true_eq_false, not_false_eq_true, false_implies, ns_ic, ns_lc, ns_ldI, ns_ldL, ns_ldR, ns_stI, ns_stL, ns_stR, ns_inc, ns_add, ns_sub, ns_mul, ns_div, ns_rem, ns_neg, ns_shl, ns_or, ns_and, ns_i2l, ns_l2i, ns_i2b, ns_i2s, ns_i2c, ns_ladd, ns_lmul, ns_ldiv, ns_lrem, ns_lcmp, ns_dup, ns_dup2, ns_go, ns_fall, ns_ifeq, ns_ifne, ns_iflt, ns_ifge, ns_ifgt, ns_ifle, ns_cmeq, ns_cmne, ns_cmlt, ns_cmge, ns_cmgt, ns_cmle, ns_iret, ns_vret, ns_get, ns_putI, ns_putZ, ns_putR, ns_ial, ns_ialc, ns_ias, ns_zal, ns_zas, ns_ral, ns_ras, ns_len, ns_min, ns_max, ns_cpy, ns_obj, ns_nea, ns_txt, ns_new, ns_naI, ns_naZ, ns_naR, ns_call, ns_sw, ns_fn, cb_X1_yarnFor_0, h1]
      exact ⟨by decide, by decide, h⟩
    · exact h.elim
  · exact h.elim
def f_X1_knows : nl_F
  | [.ref a, .ref b, .int s], h, K => match h a, h b with
    | .inr (1, [.int day, .int nig, .int han, .int hig, .int wea, .int yar, .int bla, .int fea, .ref q1, .ref q2]), .inr (3, [.int thr, .int yrn, .int tir, .int moo, .int fst, .int gro, .int cls, .int sui, .ref r1, .ref r2, .ref r3, .ref r4]) => match h q1, h r4 with
      | .inl (0, 5, .inl d), .inl (0, 5, .inl li) => vp_in s 5 ∧ K (.int (nb (li s.toNatClampNeg ≤ d s.toNatClampNeg)))
      | _, _ => False
    | _, _ => False
  | _, _, _ => False
theorem sf_X1_knows {G : nl_G} {l : Launch} : nl_FS G l 1 1 m_X1_knows f_X1_knows := by
  intro av w Post h
  unfold f_X1_knows at h
  split at h
  · split at h
    · rename_i h1 h2
      split at h
      · rename_i h3 h4
        obtain ⟨h5, h⟩ := h
        refine ⟨by simp only [nl_rc, nl_io, h1], nl_sat0 (rt := some .boolean) ok_X1_knows rfl ⟨rfl, rfl⟩ rfl rfl (Nat.le_of_ble_eq_true rfl) fun Z hZ => hZ 9 _ _ _ _ ?_⟩
        simp only [Nat.reduceMod, Nat.reduceDiv, nl_run_s, nl_wpB_c, nl_ldI, nl_ldL, nl_ldR, nl_nth, nl_set, nl_pk, nl_i1, nl_gf, nl_pf, nl_al, nl_as, nl_rl, nl_rs, nl_io, nl_cp, nl_cl, nl_ok4, nl_psh, nl_rc, nl_sw, nl_ent, nl_hs_1, nl_hs_2, nl_hs_hs, nl_c1, rok_int, rok_void, rok_0, rok_1, nb_ok, nb_0, nb_1, true_and, and_true, and_self, true_implies, not_true_eq_false, not_false_eq_true, false_implies, ns_ic, ns_lc, ns_ldI, ns_ldL, ns_ldR, ns_stI, ns_stL, ns_stR, ns_inc, ns_add, ns_sub, ns_mul, ns_div, ns_rem, ns_neg, ns_shl, ns_or, ns_and, ns_i2l, ns_l2i, ns_i2b, ns_i2s, ns_i2c, ns_ladd, ns_lmul, ns_ldiv, ns_lrem, ns_lcmp, ns_dup, ns_dup2, ns_go, ns_fall, ns_ifeq, ns_ifne, ns_iflt, ns_ifge, ns_ifgt, ns_ifle, ns_cmeq, ns_cmne, ns_cmlt, ns_cmge, ns_cmgt, ns_cmle, ns_iret, ns_vret, ns_get, ns_putI, ns_putZ, ns_putR, ns_ial, ns_ialc, ns_ias, ns_zal, ns_zas, ns_ral, ns_ras, ns_len, ns_min, ns_max, ns_cpy, ns_obj, ns_nea, ns_txt, ns_new, ns_naI, ns_naZ, ns_naR, ns_call, ns_sw, ns_fn, cb_X1_knows_0, cb_X1_knows_19, cb_X1_knows_20, h1, h2, h3, h4, h5]
        ((repeat' (first | refine And.intro ?_ ?_ | intro _)) <;> first | (rw [nb_f (by grind)] at h; exact h) | (rw [nb_t (by grind)] at h; exact h))
      · exact h.elim
    · exact h.elim
  · exact h.elim
def f_X6_hasStretch : nl_F
  | [.ref a, .int i, .int n], h, K => match h a with
    | .inr (6, [.ref it, .int the, .int lan, .int siz]) => K (.int (nb (0 ≤ i ∧ 0 ≤ n ∧ i ≤ siz - n)))
    | _ => False
  | _, _, _ => False
theorem sf_X6_hasStretch {G : nl_G} {l : Launch} : nl_FS G l 1 6 m_X6_hasStretch f_X6_hasStretch := by
  intro av w Post h
  unfold f_X6_hasStretch at h
  split at h
  · split at h
    · rename_i h1
      refine ⟨by simp only [nl_rc, nl_io, h1], nl_sat0 (rt := some .boolean) ok_X6_hasStretch rfl ⟨rfl, rfl⟩ rfl rfl (Nat.le_of_ble_eq_true rfl) fun Z hZ => hZ 9 _ _ _ _ ?_⟩
      simp only [Nat.reduceMod, Nat.reduceDiv, nl_run_s, nl_wpB_c, nl_ldI, nl_ldL, nl_ldR, nl_nth, nl_set, nl_pk, nl_i1, nl_gf, nl_pf, nl_al, nl_as, nl_rl, nl_rs, nl_io, nl_cp, nl_cl, nl_ok4, nl_psh, nl_rc, nl_sw, nl_ent, nl_hs_1, nl_hs_2, nl_hs_hs, nl_c1, rok_int, rok_void, rok_0, rok_1, nb_ok, nb_0, nb_1, true_and, and_true, and_self, true_implies, not_true_eq_false, not_false_eq_true, false_implies, ns_ic, ns_lc, ns_ldI, ns_ldL, ns_ldR, ns_stI, ns_stL, ns_stR, ns_inc, ns_add, ns_sub, ns_mul, ns_div, ns_rem, ns_neg, ns_shl, ns_or, ns_and, ns_i2l, ns_l2i, ns_i2b, ns_i2s, ns_i2c, ns_ladd, ns_lmul, ns_ldiv, ns_lrem, ns_lcmp, ns_dup, ns_dup2, ns_go, ns_fall, ns_ifeq, ns_ifne, ns_iflt, ns_ifge, ns_ifgt, ns_ifle, ns_cmeq, ns_cmne, ns_cmlt, ns_cmge, ns_cmgt, ns_cmle, ns_iret, ns_vret, ns_get, ns_putI, ns_putZ, ns_putR, ns_ial, ns_ialc, ns_ias, ns_zal, ns_zas, ns_ral, ns_ras, ns_len, ns_min, ns_max, ns_cpy, ns_obj, ns_nea, ns_txt, ns_new, ns_naI, ns_naZ, ns_naR, ns_call, ns_sw, ns_fn, cb_X6_hasStretch_0, cb_X6_hasStretch_22, cb_X6_hasStretch_23, h1]
      ((repeat' (first | refine And.intro ?_ ?_ | intro _)) <;> first | (rw [nb_f (by grind)] at h; exact h) | (rw [nb_t (by grind)] at h; exact h))
    · exact h.elim
  · exact h.elim
def f_X5_isFigure : nl_F
  | [.ref a, .int i], h, K => match h a with
    | .inr (5, [.ref tp, .int len, .int nex, .int pla, .int tok, .int val, .int fau]) => match h tp with
      | .inl (0, 120, .inl t) => (i < len → vp_in i 120) ∧ K (.int (nb (i < len ∧ 48 ≤ t i.toNatClampNeg ∧ t i.toNatClampNeg ≤ 57)))
      | _ => False
    | _ => False
  | _, _, _ => False
theorem sf_X5_isFigure {G : nl_G} {l : Launch} : nl_FS G l 1 5 m_X5_isFigure f_X5_isFigure := by
  intro av w Post h
  unfold f_X5_isFigure at h
  split at h
  · split at h
    · rename_i h1
      split at h
      · rename_i h2
        obtain ⟨h5, h⟩ := h
        refine ⟨by simp only [nl_rc, nl_io, h1], nl_sat0 (rt := some .boolean) ok_X5_isFigure rfl ⟨rfl, rfl⟩ rfl rfl (Nat.le_of_ble_eq_true rfl) fun Z hZ => hZ 9 _ _ _ _ ?_⟩
        simp only [Nat.reduceMod, Nat.reduceDiv, nl_run_s, nl_wpB_c, nl_ldI, nl_ldL, nl_ldR, nl_nth, nl_set, nl_pk, nl_i1, nl_gf, nl_pf, nl_al, nl_as, nl_rl, nl_rs, nl_io, nl_cp, nl_cl, nl_ok4, nl_psh, nl_rc, nl_sw, nl_ent, nl_hs_1, nl_hs_2, nl_hs_hs, nl_c1, rok_int, rok_void, rok_0, rok_1, nb_ok, nb_0, nb_1, true_and, and_true, and_self, true_implies, not_true_eq_false, not_false_eq_true, false_implies, ns_ic, ns_lc, ns_ldI, ns_ldL, ns_ldR, ns_stI, ns_stL, ns_stR, ns_inc, ns_add, ns_sub, ns_mul, ns_div, ns_rem, ns_neg, ns_shl, ns_or, ns_and, ns_i2l, ns_l2i, ns_i2b, ns_i2s, ns_i2c, ns_ladd, ns_lmul, ns_ldiv, ns_lrem, ns_lcmp, ns_dup, ns_dup2, ns_go, ns_fall, ns_ifeq, ns_ifne, ns_iflt, ns_ifge, ns_ifgt, ns_ifle, ns_cmeq, ns_cmne, ns_cmlt, ns_cmge, ns_cmgt, ns_cmle, ns_iret, ns_vret, ns_get, ns_putI, ns_putZ, ns_putR, ns_ial, ns_ialc, ns_ias, ns_zal, ns_zas, ns_ral, ns_ras, ns_len, ns_min, ns_max, ns_cpy, ns_obj, ns_nea, ns_txt, ns_new, ns_naI, ns_naZ, ns_naR, ns_call, ns_sw, ns_fn, cb_X5_isFigure_0, cb_X5_isFigure_34, cb_X5_isFigure_35, h1, h2]
        (repeat' (first | exact h5 (by grind) | refine And.intro ?_ ?_ | intro _)) <;> first | (rw [nb_f (by grind)] at h; exact h) | (rw [nb_t (by grind)] at h; exact h)
      · exact h.elim
    · exact h.elim
  · exact h.elim
-- the reference's
def f_X10_in : nl_F
  | [.long a, .long b, .long c], _, K => K (.int (nb (b ≤ a ∧ a ≤ c)))
  | _, _, _ => False
theorem sf_X10_in {G : nl_G} {l : Launch} : nl_FS G l 0 0 m_X10_in f_X10_in := by
  intro av w Post h
  unfold f_X10_in at h
  split at h
  · refine ⟨trivial, nl_sat0 (rt := some .boolean) ok_X10_in rfl ⟨rfl, rfl⟩ rfl rfl (Nat.le_of_ble_eq_true rfl) fun Z hZ => hZ 9 _ _ _ _ ?_⟩
    rename_i a b c
    have c1 : (lg_cmp a b < 0) = ¬ b ≤ a := by rw [← lg_cmp_ge]; grind
    have c2 : (0 < lg_cmp a c) = ¬ a ≤ c := by
      unfold lg_cmp
      by_cases q1 : a > c
      · simp [q1]
      · by_cases q2 : a = c
        · simp [q2]
        · simp only [q1, q2, if_false]
          have : a ≤ c := Int64.not_lt.mp q1
          simp [this]
    simp only [Nat.reduceMod, Nat.reduceDiv, nl_run_s, nl_wpB_c, nl_ldI, nl_ldL, nl_ldR, nl_nth, nl_set, nl_pk, nl_i1, nl_gf, nl_pf, nl_al, nl_as, nl_rl, nl_rs, nl_io, nl_cp, nl_cl, nl_ok4, nl_psh, nl_rc, nl_sw, nl_ent, nl_hs_1, nl_hs_2, nl_hs_hs, nl_c1, rok_int, rok_void, rok_0, rok_1, nb_ok, nb_0, nb_1, true_and, and_true, and_self, true_implies, not_true_eq_false, not_false_eq_true, false_implies, ns_ic, ns_lc, ns_ldI, ns_ldL, ns_ldR, ns_stI, ns_stL, ns_stR, ns_inc, ns_add, ns_sub, ns_mul, ns_div, ns_rem, ns_neg, ns_shl, ns_or, ns_and, ns_i2l, ns_l2i, ns_i2b, ns_i2s, ns_i2c, ns_ladd, ns_lmul, ns_ldiv, ns_lrem, ns_lcmp, ns_dup, ns_dup2, ns_go, ns_fall, ns_ifeq, ns_ifne, ns_iflt, ns_ifge, ns_ifgt, ns_ifle, ns_cmeq, ns_cmne, ns_cmlt, ns_cmge, ns_cmgt, ns_cmle, ns_iret, ns_vret, ns_get, ns_putI, ns_putZ, ns_putR, ns_ial, ns_ialc, ns_ias, ns_zal, ns_zas, ns_ral, ns_ras, ns_len, ns_min, ns_max, ns_cpy, ns_obj, ns_nea, ns_txt, ns_new, ns_naI, ns_naZ, ns_naR, ns_call, ns_sw, ns_fn, cb_X10_in_0, cb_X10_in_17, cb_X10_in_18, c1, c2]
    (repeat' (first | refine And.intro ?_ ?_ | intro _))
    all_goals first | (rw [nb_f (fun q => by simp_all)] at h; exact h) | (rw [nb_t (by simp_all)] at h; exact h)
  · exact h.elim
def f_X10_sortOf : nl_F
  | [.int c], _, K => K (.int (if c = 107 then 1 else if c = 112 then 2 else if c = 119 then 3 else if c = 110 then 4 else if c = 109 then 5 else 0))
  | _, _, _ => False
theorem sf_X10_sortOf {G : nl_G} {l : Launch} : nl_FS G l 0 0 m_X10_sortOf f_X10_sortOf := by
  intro av w Post h
  unfold f_X10_sortOf at h
  split at h
  · refine ⟨trivial, nl_sat0 (rt := some .int) ok_X10_sortOf rfl ⟨rfl, rfl⟩ rfl rfl (Nat.le_of_ble_eq_true rfl) fun Z hZ => hZ 9 _ _ _ _ ?_⟩
    simp only [Nat.reduceMod, Nat.reduceDiv, nl_run_s, nl_wpB_c, nl_ldI, nl_ldL, nl_ldR, nl_nth, nl_set, nl_pk, nl_i1, nl_gf, nl_pf, nl_al, nl_as, nl_rl, nl_rs, nl_io, nl_cp, nl_cl, nl_ok4, nl_psh, nl_rc, nl_sw, nl_ent, nl_hs_1, nl_hs_2, nl_hs_hs, nl_c1, rok_int, rok_void, rok_0, rok_1, nb_ok, nb_0, nb_1, true_and, and_true, and_self, true_implies, not_true_eq_false, not_false_eq_true, false_implies, ns_ic, ns_lc, ns_ldI, ns_ldL, ns_ldR, ns_stI, ns_stL, ns_stR, ns_inc, ns_add, ns_sub, ns_mul, ns_div, ns_rem, ns_neg, ns_shl, ns_or, ns_and, ns_i2l, ns_l2i, ns_i2b, ns_i2s, ns_i2c, ns_ladd, ns_lmul, ns_ldiv, ns_lrem, ns_lcmp, ns_dup, ns_dup2, ns_go, ns_fall, ns_ifeq, ns_ifne, ns_iflt, ns_ifge, ns_ifgt, ns_ifle, ns_cmeq, ns_cmne, ns_cmlt, ns_cmge, ns_cmgt, ns_cmle, ns_iret, ns_vret, ns_get, ns_putI, ns_putZ, ns_putR, ns_ial, ns_ialc, ns_ias, ns_zal, ns_zas, ns_ral, ns_ras, ns_len, ns_min, ns_max, ns_cpy, ns_obj, ns_nea, ns_txt, ns_new, ns_naI, ns_naZ, ns_naR, ns_call, ns_sw, ns_fn, cb_X10_sortOf_0, cb_X10_sortOf_10, cb_X10_sortOf_20, cb_X10_sortOf_30, cb_X10_sortOf_40, cb_X10_sortOf_50, cb_X10_sortOf_51]
    (repeat' (first | refine And.intro ?_ ?_ | intro _))
    all_goals simp_all
  · exact h.elim
def f_X10_colourAt : nl_F
  | [.ref a, .int p], h, K => match h a with
    | .inl (0, 48, .inl t) => ¬ t 6 = 0 ∧ vp_in (15 + (p - p / t 6 * t 6)) 48 ∧ K (.int (t (15 + (p - p / t 6 * t 6)).toNatClampNeg))
    | _ => False
  | _, _, _ => False
theorem sf_X10_colourAt {G : nl_G} {l : Launch} : nl_FS G l 0 0 m_X10_colourAt f_X10_colourAt := by
  intro av w Post h
  unfold f_X10_colourAt at h
  split at h
  · split at h
    · rename_i h1
      refine ⟨trivial, nl_sat0 (rt := some .int) ok_X10_colourAt rfl ⟨rfl, rfl⟩ rfl rfl (Nat.le_of_ble_eq_true rfl) fun Z hZ => hZ 9 _ _ _ _ ?_⟩
      simp only [Nat.reduceMod, Nat.reduceDiv, nl_run_s, nl_wpB_c, nl_ldI, nl_ldL, nl_ldR, nl_nth, nl_set, nl_pk, nl_i1, nl_gf, nl_pf, nl_al, nl_as, nl_rl, nl_rs, nl_io, nl_cp, nl_cl, nl_ok4, nl_psh, nl_rc, nl_sw, nl_ent, nl_hs_1, nl_hs_2, nl_hs_hs, nl_c1, rok_int, rok_void, rok_0, rok_1, nb_ok, nb_0, nb_1, true_and, and_true, and_self, true_implies, not_true_eq_false, not_false_eq_true, false_implies, ns_ic, ns_lc, ns_ldI, ns_ldL, ns_ldR, ns_stI, ns_stL, ns_stR, ns_inc, ns_add, ns_sub, ns_mul, ns_div, ns_rem, ns_neg, ns_shl, ns_or, ns_and, ns_i2l, ns_l2i, ns_i2b, ns_i2s, ns_i2c, ns_ladd, ns_lmul, ns_ldiv, ns_lrem, ns_lcmp, ns_dup, ns_dup2, ns_go, ns_fall, ns_ifeq, ns_ifne, ns_iflt, ns_ifge, ns_ifgt, ns_ifle, ns_cmeq, ns_cmne, ns_cmlt, ns_cmge, ns_cmgt, ns_cmle, ns_iret, ns_vret, ns_get, ns_putI, ns_putZ, ns_putR, ns_ial, ns_ialc, ns_ias, ns_zal, ns_zas, ns_ral, ns_ras, ns_len, ns_min, ns_max, ns_cpy, ns_obj, ns_nea, ns_txt, ns_new, ns_naI, ns_naZ, ns_naR, ns_call, ns_sw, ns_fn, cb_X10_colourAt_0, h1, ck_6, vi_6]
      exact h
    · exact h.elim
  · exact h.elim
def f_X10_yarn : nl_F
  | [.ref a], h, K => match h a with
    | .inl (0, 48, .inl t) => K (.int (t 1 - t 11 - t 12 / 4))
    | _ => False
  | _, _, _ => False
theorem sf_X10_yarn {G : nl_G} {l : Launch} : nl_FS G l 0 0 m_X10_yarn f_X10_yarn := by
  intro av w Post h
  unfold f_X10_yarn at h
  split at h
  · split at h
    · rename_i h1
      refine ⟨trivial, nl_sat0 (rt := some .int) ok_X10_yarn rfl ⟨rfl, rfl⟩ rfl rfl (Nat.le_of_ble_eq_true rfl) fun Z hZ => hZ 9 _ _ _ _ ?_⟩
      simp only [Nat.reduceMod, Nat.reduceDiv, nl_run_s, nl_wpB_c, nl_ldI, nl_ldL, nl_ldR, nl_nth, nl_set, nl_pk, nl_i1, nl_gf, nl_pf, nl_al, nl_as, nl_rl, nl_rs, nl_io, nl_cp, nl_cl, nl_ok4, nl_psh, nl_rc, nl_sw, nl_ent, nl_hs_1, nl_hs_2, nl_hs_hs, nl_c1, rok_int, rok_void, rok_0, rok_1, nb_ok, nb_0, nb_1, true_and, and_true, and_self, true_implies, not_true_eq_false, not_false_eq_true, false_implies, ns_ic, ns_lc, ns_ldI, ns_ldL, ns_ldR, ns_stI, ns_stL, ns_stR, ns_inc, ns_add, ns_sub, ns_mul, ns_div, ns_rem, ns_neg, ns_shl, ns_or, ns_and, ns_i2l, ns_l2i, ns_i2b, ns_i2s, ns_i2c, ns_ladd, ns_lmul, ns_ldiv, ns_lrem, ns_lcmp, ns_dup, ns_dup2, ns_go, ns_fall, ns_ifeq, ns_ifne, ns_iflt, ns_ifge, ns_ifgt, ns_ifle, ns_cmeq, ns_cmne, ns_cmlt, ns_cmge, ns_cmgt, ns_cmle, ns_iret, ns_vret, ns_get, ns_putI, ns_putZ, ns_putR, ns_ial, ns_ialc, ns_ias, ns_zal, ns_zas, ns_ral, ns_ras, ns_len, ns_min, ns_max, ns_cpy, ns_obj, ns_nea, ns_txt, ns_new, ns_naI, ns_naZ, ns_naR, ns_call, ns_sw, ns_fn, cb_X10_yarn_0, h1, ck_1, ck_11, ck_12, vi_1, vi_11, vi_12]
      exact ⟨by decide, h⟩
    · exact h.elim
  · exact h.elim
def p_fr (t : Nat → Int32) (n : Int32) : Int32 := if 0 < t 10 + n - t 11 then t 10 + n - t 11 else 0
def p_wants (t : Nat → Int32) (n : Int32) : Int32 := p_fr t n + (t 12 + n - p_fr t n) / 4 - t 12 / 4
def f_X10_wants : nl_F
  | [.ref a, .int n], h, K => match h a with
    | .inl (0, 48, .inl t) => K (.int (p_wants t n))
    | _ => False
  | _, _, _ => False
theorem sf_X10_wants {G : nl_G} {l : Launch} : nl_FS G l 0 0 m_X10_wants f_X10_wants := by
  intro av w Post h
  unfold f_X10_wants at h
  split at h
  · split at h
    · rename_i h1
      refine ⟨trivial, nl_sat0 (rt := some .int) ok_X10_wants rfl ⟨rfl, rfl⟩ rfl rfl (Nat.le_of_ble_eq_true rfl) fun Z hZ => hZ 9 _ _ _ _ ?_⟩
      simp only [Nat.reduceMod, Nat.reduceDiv, nl_run_s, nl_wpB_c, nl_ldI, nl_ldL, nl_ldR, nl_nth, nl_set, nl_pk, nl_i1, nl_gf, nl_pf, nl_al, nl_as, nl_rl, nl_rs, nl_io, nl_cp, nl_cl, nl_ok4, nl_psh, nl_rc, nl_sw, nl_ent, nl_hs_1, nl_hs_2, nl_hs_hs, nl_c1, rok_int, rok_void, rok_0, rok_1, nb_ok, nb_0, nb_1, true_and, and_true, and_self, true_implies, not_true_eq_false, not_false_eq_true, false_implies, ns_ic, ns_lc, ns_ldI, ns_ldL, ns_ldR, ns_stI, ns_stL, ns_stR, ns_inc, ns_add, ns_sub, ns_mul, ns_div, ns_rem, ns_neg, ns_shl, ns_or, ns_and, ns_i2l, ns_l2i, ns_i2b, ns_i2s, ns_i2c, ns_ladd, ns_lmul, ns_ldiv, ns_lrem, ns_lcmp, ns_dup, ns_dup2, ns_go, ns_fall, ns_ifeq, ns_ifne, ns_iflt, ns_ifge, ns_ifgt, ns_ifle, ns_cmeq, ns_cmne, ns_cmlt, ns_cmge, ns_cmgt, ns_cmle, ns_iret, ns_vret, ns_get, ns_putI, ns_putZ, ns_putR, ns_ial, ns_ialc, ns_ias, ns_zal, ns_zas, ns_ral, ns_ras, ns_len, ns_min, ns_max, ns_cpy, ns_obj, ns_nea, ns_txt, ns_new, ns_naI, ns_naZ, ns_naR, ns_call, ns_sw, ns_fn, cb_X10_wants_0, cb_X10_wants_20, cb_X10_wants_21, h1, ck_10, ck_11, ck_12, vi_10, vi_11, vi_12]
      refine ⟨fun h2 => ⟨by decide, by decide, ?_⟩, fun h2 => ⟨by decide, by decide, ?_⟩⟩
      · rw [p_wants, p_fr, if_neg (by grind)] at h; exact h
      · rw [p_wants, p_fr, if_pos (by grind)] at h; exact h
    · exact h.elim
  · exact h.elim
def f_X10_comes : nl_F
  | [.ref a, .int s], h, K => match h a with
    | .inl (0, 48, .inl t) => vp_in (28 + s) 48 ∧ ¬ t (28 + s).toNatClampNeg = 0 ∧ K (.int (nb (t 8 - t 8 / t (28 + s).toNatClampNeg * t (28 + s).toNatClampNeg = 0)))
    | _ => False
  | _, _, _ => False
theorem sf_X10_comes {G : nl_G} {l : Launch} : nl_FS G l 0 0 m_X10_comes f_X10_comes := by
  intro av w Post h
  unfold f_X10_comes at h
  split at h
  · split at h
    · rename_i h1
      obtain ⟨h2, h3, h⟩ := h
      refine ⟨trivial, nl_sat0 (rt := some .boolean) ok_X10_comes rfl ⟨rfl, rfl⟩ rfl rfl (Nat.le_of_ble_eq_true rfl) fun Z hZ => hZ 9 _ _ _ _ ?_⟩
      simp only [Nat.reduceMod, Nat.reduceDiv, nl_run_s, nl_wpB_c, nl_ldI, nl_ldL, nl_ldR, nl_nth, nl_set, nl_pk, nl_i1, nl_gf, nl_pf, nl_al, nl_as, nl_rl, nl_rs, nl_io, nl_cp, nl_cl, nl_ok4, nl_psh, nl_rc, nl_sw, nl_ent, nl_hs_1, nl_hs_2, nl_hs_hs, nl_c1, rok_int, rok_void, rok_0, rok_1, nb_ok, nb_0, nb_1, true_and, and_true, and_self, true_implies, not_true_eq_false, not_false_eq_true, false_implies, ns_ic, ns_lc, ns_ldI, ns_ldL, ns_ldR, ns_stI, ns_stL, ns_stR, ns_inc, ns_add, ns_sub, ns_mul, ns_div, ns_rem, ns_neg, ns_shl, ns_or, ns_and, ns_i2l, ns_l2i, ns_i2b, ns_i2s, ns_i2c, ns_ladd, ns_lmul, ns_ldiv, ns_lrem, ns_lcmp, ns_dup, ns_dup2, ns_go, ns_fall, ns_ifeq, ns_ifne, ns_iflt, ns_ifge, ns_ifgt, ns_ifle, ns_cmeq, ns_cmne, ns_cmlt, ns_cmge, ns_cmgt, ns_cmle, ns_iret, ns_vret, ns_get, ns_putI, ns_putZ, ns_putR, ns_ial, ns_ialc, ns_ias, ns_zal, ns_zas, ns_ral, ns_ras, ns_len, ns_min, ns_max, ns_cpy, ns_obj, ns_nea, ns_txt, ns_new, ns_naI, ns_naZ, ns_naR, ns_call, ns_sw, ns_fn, cb_X10_comes_0, cb_X10_comes_18, cb_X10_comes_19, h1, ck_8, vi_8, h2, h3]
      refine ⟨fun h4 => ?_, fun h4 => ?_⟩
      · rw [nb_f h4] at h; exact h
      · rw [nb_t h4] at h; exact h
    · exact h.elim
  · exact h.elim
def f_X10_isMoon : nl_F
  | [.ref a], h, K => match h a with
    | .inl (0, 48, .inl t) => K (.int (nb (¬ t 3 = 0 ∧ t 8 - t 8 / t 3 * t 3 = 0)))
    | _ => False
  | _, _, _ => False
theorem sf_X10_isMoon {G : nl_G} {l : Launch} : nl_FS G l 0 0 m_X10_isMoon f_X10_isMoon := by
  intro av w Post h
  unfold f_X10_isMoon at h
  split at h
  · split at h
    · rename_i h1
      refine ⟨trivial, nl_sat0 (rt := some .boolean) ok_X10_isMoon rfl ⟨rfl, rfl⟩ rfl rfl (Nat.le_of_ble_eq_true rfl) fun Z hZ => hZ 9 _ _ _ _ ?_⟩
      simp only [Nat.reduceMod, Nat.reduceDiv, nl_run_s, nl_wpB_c, nl_ldI, nl_ldL, nl_ldR, nl_nth, nl_set, nl_pk, nl_i1, nl_gf, nl_pf, nl_al, nl_as, nl_rl, nl_rs, nl_io, nl_cp, nl_cl, nl_ok4, nl_psh, nl_rc, nl_sw, nl_ent, nl_hs_1, nl_hs_2, nl_hs_hs, nl_c1, rok_int, rok_void, rok_0, rok_1, nb_ok, nb_0, nb_1, true_and, and_true, and_self, true_implies, not_true_eq_false, not_false_eq_true, false_implies, ns_ic, ns_lc, ns_ldI, ns_ldL, ns_ldR, ns_stI, ns_stL, ns_stR, ns_inc, ns_add, ns_sub, ns_mul, ns_div, ns_rem, ns_neg, ns_shl, ns_or, ns_and, ns_i2l, ns_l2i, ns_i2b, ns_i2s, ns_i2c, ns_ladd, ns_lmul, ns_ldiv, ns_lrem, ns_lcmp, ns_dup, ns_dup2, ns_go, ns_fall, ns_ifeq, ns_ifne, ns_iflt, ns_ifge, ns_ifgt, ns_ifle, ns_cmeq, ns_cmne, ns_cmlt, ns_cmge, ns_cmgt, ns_cmle, ns_iret, ns_vret, ns_get, ns_putI, ns_putZ, ns_putR, ns_ial, ns_ialc, ns_ias, ns_zal, ns_zas, ns_ral, ns_ras, ns_len, ns_min, ns_max, ns_cpy, ns_obj, ns_nea, ns_txt, ns_new, ns_naI, ns_naZ, ns_naR, ns_call, ns_sw, ns_fn, cb_X10_isMoon_0, cb_X10_isMoon_21, cb_X10_isMoon_22, h1, ck_8, vi_8, ck_3, vi_3]
      refine ⟨fun h1 => ?_, fun h1 => ⟨h1, fun h2 => ?_, fun h2 => ?_⟩⟩
      · rw [nb_f (fun q => q.1 h1)] at h; exact h
      · rw [nb_f (fun q => h2 q.2)] at h; exact h
      · rw [nb_t ⟨h1, h2⟩] at h; exact h
    · exact h.elim
  · exact h.elim
def f_X10_knows : nl_F
  | [.ref a, .int s], h, K => match h a with
    | .inl (0, 48, .inl t) => vp_in (38 + s) 48 ∧ vp_in (33 + s) 48 ∧ K (.int (nb (t (33 + s).toNatClampNeg ≤ t (38 + s).toNatClampNeg)))
    | _ => False
  | _, _, _ => False
theorem sf_X10_knows {G : nl_G} {l : Launch} : nl_FS G l 0 0 m_X10_knows f_X10_knows := by
  intro av w Post h
  unfold f_X10_knows at h
  split at h
  · split at h
    · rename_i h1
      obtain ⟨h2, h3, h⟩ := h
      refine ⟨trivial, nl_sat0 (rt := some .boolean) ok_X10_knows rfl ⟨rfl, rfl⟩ rfl rfl (Nat.le_of_ble_eq_true rfl) fun Z hZ => hZ 9 _ _ _ _ ?_⟩
      simp only [Nat.reduceMod, Nat.reduceDiv, nl_run_s, nl_wpB_c, nl_ldI, nl_ldL, nl_ldR, nl_nth, nl_set, nl_pk, nl_i1, nl_gf, nl_pf, nl_al, nl_as, nl_rl, nl_rs, nl_io, nl_cp, nl_cl, nl_ok4, nl_psh, nl_rc, nl_sw, nl_ent, nl_hs_1, nl_hs_2, nl_hs_hs, nl_c1, rok_int, rok_void, rok_0, rok_1, nb_ok, nb_0, nb_1, true_and, and_true, and_self, true_implies, not_true_eq_false, not_false_eq_true, false_implies, ns_ic, ns_lc, ns_ldI, ns_ldL, ns_ldR, ns_stI, ns_stL, ns_stR, ns_inc, ns_add, ns_sub, ns_mul, ns_div, ns_rem, ns_neg, ns_shl, ns_or, ns_and, ns_i2l, ns_l2i, ns_i2b, ns_i2s, ns_i2c, ns_ladd, ns_lmul, ns_ldiv, ns_lrem, ns_lcmp, ns_dup, ns_dup2, ns_go, ns_fall, ns_ifeq, ns_ifne, ns_iflt, ns_ifge, ns_ifgt, ns_ifle, ns_cmeq, ns_cmne, ns_cmlt, ns_cmge, ns_cmgt, ns_cmle, ns_iret, ns_vret, ns_get, ns_putI, ns_putZ, ns_putR, ns_ial, ns_ialc, ns_ias, ns_zal, ns_zas, ns_ral, ns_ras, ns_len, ns_min, ns_max, ns_cpy, ns_obj, ns_nea, ns_txt, ns_new, ns_naI, ns_naZ, ns_naR, ns_call, ns_sw, ns_fn, cb_X10_knows_0, cb_X10_knows_19, cb_X10_knows_20, h1, h2, h3]
      ((repeat' (first | refine And.intro ?_ ?_ | intro _)) <;> first | (rw [nb_f (by grind)] at h; exact h) | (rw [nb_t (by grind)] at h; exact h))
    · exact h.elim
  · exact h.elim
def f_X10_lesser : nl_F
  | [.int a, .int b], _, K => K (.int (if a < b then a else b))
  | _, _, _ => False
theorem sf_X10_lesser {G : nl_G} {l : Launch} : nl_FS G l 0 0 m_X10_lesser f_X10_lesser := by
  intro av w Post h
  unfold f_X10_lesser at h
  split at h
  · refine ⟨trivial, nl_sat0 (rt := some .int) ok_X10_lesser rfl ⟨rfl, rfl⟩ rfl rfl (Nat.le_of_ble_eq_true rfl) fun Z hZ => hZ 9 _ _ _ _ ?_⟩
    simp only [Nat.reduceMod, Nat.reduceDiv, nl_run_s, nl_wpB_c, nl_ldI, nl_ldL, nl_ldR, nl_nth, nl_set, nl_pk, nl_i1, nl_gf, nl_pf, nl_al, nl_as, nl_rl, nl_rs, nl_io, nl_cp, nl_cl, nl_ok4, nl_psh, nl_rc, nl_sw, nl_ent, nl_hs_1, nl_hs_2, nl_hs_hs, nl_c1, rok_int, rok_void, rok_0, rok_1, nb_ok, nb_0, nb_1, true_and, and_true, and_self, true_implies, not_true_eq_false, not_false_eq_true, false_implies, ns_ic, ns_lc, ns_ldI, ns_ldL, ns_ldR, ns_stI, ns_stL, ns_stR, ns_inc, ns_add, ns_sub, ns_mul, ns_div, ns_rem, ns_neg, ns_shl, ns_or, ns_and, ns_i2l, ns_l2i, ns_i2b, ns_i2s, ns_i2c, ns_ladd, ns_lmul, ns_ldiv, ns_lrem, ns_lcmp, ns_dup, ns_dup2, ns_go, ns_fall, ns_ifeq, ns_ifne, ns_iflt, ns_ifge, ns_ifgt, ns_ifle, ns_cmeq, ns_cmne, ns_cmlt, ns_cmge, ns_cmgt, ns_cmle, ns_iret, ns_vret, ns_get, ns_putI, ns_putZ, ns_putR, ns_ial, ns_ialc, ns_ias, ns_zal, ns_zas, ns_ral, ns_ras, ns_len, ns_min, ns_max, ns_cpy, ns_obj, ns_nea, ns_txt, ns_new, ns_naI, ns_naZ, ns_naR, ns_call, ns_sw, ns_fn, cb_X10_lesser_0, cb_X10_lesser_9, cb_X10_lesser_10]
    refine ⟨fun h1 => ?_, fun h1 => ?_⟩
    · rw [if_neg (by grind)] at h; exact h
    · rw [if_pos (by grind)] at h; exact h
  · exact h.elim
def f_X10_isOf : nl_F
  | [.int o, .int k], _, K => K (.int (nb (k = 0 ∨ o = k ∨ k = 1 ∧ (o = 2 ∨ o = 3) ∨ k = 4 ∧ o = 5)))
  | _, _, _ => False
theorem sf_X10_isOf {G : nl_G} {l : Launch} : nl_FS G l 0 0 m_X10_isOf f_X10_isOf := by
  intro av w Post h
  unfold f_X10_isOf at h
  split at h
  · refine ⟨trivial, nl_sat0 (rt := some .boolean) ok_X10_isOf rfl ⟨rfl, rfl⟩ rfl rfl (Nat.le_of_ble_eq_true rfl) fun Z hZ => hZ 9 _ _ _ _ ?_⟩
    simp only [Nat.reduceMod, Nat.reduceDiv, nl_run_s, nl_wpB_c, nl_ldI, nl_ldL, nl_ldR, nl_nth, nl_set, nl_pk, nl_i1, nl_gf, nl_pf, nl_al, nl_as, nl_rl, nl_rs, nl_io, nl_cp, nl_cl, nl_ok4, nl_psh, nl_rc, nl_sw, nl_ent, nl_hs_1, nl_hs_2, nl_hs_hs, nl_c1, rok_int, rok_void, rok_0, rok_1, nb_ok, nb_0, nb_1, true_and, and_true, and_self, true_implies, not_true_eq_false, not_false_eq_true, false_implies, ns_ic, ns_lc, ns_ldI, ns_ldL, ns_ldR, ns_stI, ns_stL, ns_stR, ns_inc, ns_add, ns_sub, ns_mul, ns_div, ns_rem, ns_neg, ns_shl, ns_or, ns_and, ns_i2l, ns_l2i, ns_i2b, ns_i2s, ns_i2c, ns_ladd, ns_lmul, ns_ldiv, ns_lrem, ns_lcmp, ns_dup, ns_dup2, ns_go, ns_fall, ns_ifeq, ns_ifne, ns_iflt, ns_ifge, ns_ifgt, ns_ifle, ns_cmeq, ns_cmne, ns_cmlt, ns_cmge, ns_cmgt, ns_cmle, ns_iret, ns_vret, ns_get, ns_putI, ns_putZ, ns_putR, ns_ial, ns_ialc, ns_ias, ns_zal, ns_zas, ns_ral, ns_ras, ns_len, ns_min, ns_max, ns_cpy, ns_obj, ns_nea, ns_txt, ns_new, ns_naI, ns_naZ, ns_naR, ns_call, ns_sw, ns_fn, cb_X10_isOf_0, cb_X10_isOf_24, cb_X10_isOf_34, cb_X10_isOf_38, cb_X10_isOf_39]
    ((repeat' (first | refine And.intro ?_ ?_ | intro _)) <;> first | (rw [nb_f (by grind)] at h; exact h) | (rw [nb_t (by grind)] at h; exact h))
  · exact h.elim

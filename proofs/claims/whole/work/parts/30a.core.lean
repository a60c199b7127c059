/-! one row of 48 numbers, and what days and nights do to it: the reference's side -/
theorem nl_sat2 {G : nl_G} {l : Launch} {mi : nl_MI} {av : List Value} {w : nl_HW} {Post : nl_R} {cd : Nat → List nl_I} {rt : Option FieldType} (hc : nl_OKC G l mi cd) (hrt : mi.2.2.2.1 = rt) (h0 : mi.2.2.2.2.cells = 0 ∧ mi.2.2.2.2.slots = 0) (hp : plainName mi.1.cls = true) (hv : av.all nl_okv = true) (hlen : (nl_ent av).length ≤ mi.2.2.1)
    (h : ∀ (e : Nat × Nat) (Z : Nat → nl_K) (J : nl_J) (R : nl_R), e = w.2 → (∀ s t, J s t = Z t) → (∀ v w1, w1.2 = w.2 → nl_rok rt v → Post v w1 → R v w1) → (∀ pc ls st w1, nl_wpB G l e J R (cd pc) ls st w1 → Z pc ls st w1) → Z 0 (nl_ent av) [] w) : nl_Sat G l mi av w Post := by
  subst hrt
  have e : (w.2.1 + mi.2.2.2.2.cells, w.2.2 + mi.2.2.2.2.slots) = w.2 := by rw [h0.1, h0.2]; rfl
  refine nl_sat hp hv hlen hc 0 ?_
  show nl_At _ _ _ _ _ _ _ _ _
  refine h w.2 _ (fun _ t => nl_At G l mi (nl_QM G mi (w.2.1 + mi.2.2.2.2.cells, w.2.2 + mi.2.2.2.2.slots) Post) w.2 t) (fun v w1 => w1.2 = (w.2.1 + mi.2.2.2.2.cells, w.2.2 + mi.2.2.2.2.slots) ∧ nl_rok mi.2.2.2.1 v ∧ Post v w1) rfl (fun _ _ => rfl) (fun v w1 h1 h2 h3 => ⟨by rw [e]; exact h1, h2, h3⟩) fun pc ls st w1 hb => ?_
  rcases hc pc with h0 | ⟨x, is, e1, e2, e3⟩
  · rw [h0] at hb; exact hb.elim
  · rw [e1] at hb
    rw [← e2]
    exact nl_blk (e := w.2) ⟨Nat.le_add_right _ _, Nat.le_add_right _ _⟩ (nl_ret G l mi w.2 Post) (fun _ _ _ _ _ q => q) is x e3 ls st w1 hb
theorem nl_hs_id {w : nl_HW} {a : Nat} {c : va_E} (h : w.1 a = c) : nl_hs w a c = w := by
  obtain ⟨x, y⟩ := w
  simp only [nl_hs]
  congr 1
  funext i
  by_cases hi : i = a
  · subst hi; simp only [va_up, if_true]; exact h.symm
  · simp only [va_up, hi, if_false]
def p_weaves (t : Nat → Int32) (n : Int32) : Nat → Int32 := upd (upd (upd t 10 (t 10 + n)) 11 (t 11 + p_fr t n)) 12 (t 12 + (n - p_fr t n))
theorem sp_X10_weaves {G : nl_G} {l : Launch} {w : nl_HW} {Post : nl_R} {a : Nat} {t : Nat → Int32} {n : Int32} (ha : w.1 a = nl_ia 48 t) (h : Post none (nl_hs w a (nl_ia 48 (p_weaves t n)))) : nl_Sat G l m_X10_weaves [.ref a, .int n] w Post := by
  refine nl_sat0 (rt := none) ok_X10_weaves rfl ⟨rfl, rfl⟩ rfl rfl (Nat.le_of_ble_eq_true rfl) fun Z hZ => hZ 9 _ _ _ _ ?_
  simp (disch := omega) only [Nat.reduceMod, Nat.reduceDiv, Nat.reduceAdd, Nat.reduceLT, List.set_cons_zero, List.set_cons_succ, List.length_cons, List.length_nil, nl_run_s, nl_wpB_c, nl_ldI, nl_ldL, nl_ldR, nl_nth, nl_set, nl_pk, nl_i1, nl_gf, nl_pf, nl_al, nl_as, nl_rl, nl_rs, nl_io, nl_cp, nl_cl, nl_ok4, nl_psh, nl_rc, nl_sw, nl_ent, nl_hs_1, nl_hs_2, nl_hs_hs, nl_c1, rok_int, rok_void, rok_0, rok_1, nb_ok, nb_0, nb_1, true_and, and_true, and_self, true_implies, not_true_eq_false, not_false_eq_true, false_implies, ns_ic, ns_lc, ns_ldI, ns_ldL, ns_ldR, ns_stI, ns_stL, ns_stR, ns_inc, ns_add, ns_sub, ns_mul, ns_div, ns_rem, ns_neg, ns_shl, ns_or, ns_and, ns_i2l, ns_l2i, ns_i2b, ns_i2s, ns_i2c, ns_ladd, ns_lmul, ns_ldiv, ns_lrem, ns_lcmp, ns_dup, ns_dup2, ns_go, ns_fall, ns_ifeq, ns_ifne, ns_iflt, ns_ifge, ns_ifgt, ns_ifle, ns_cmeq, ns_cmne, ns_cmlt, ns_cmge, ns_cmgt, ns_cmle, ns_iret, ns_vret, ns_get, ns_putI, ns_putZ, ns_putR, ns_ial, ns_ialc, ns_ias, ns_zal, ns_zas, ns_ral, ns_ras, ns_len, ns_min, ns_max, ns_cpy, ns_obj, ns_nea, ns_txt, ns_new, ns_naI, ns_naZ, ns_naR, ns_call, ns_sw, ns_fn, cb_X10_weaves_0, cb_X10_weaves_20, cb_X10_weaves_21, nl_hs_n, pk_us, pk_un, nI_1, nI_add, nI_leI, nI_ltI, nI_eq, nI_clamp, vp_in_nI, pk_sub, an_15, an_23, an_28, an_33, an_38, an_43, ha, ck_10, vi_10, ck_11, vi_11, ck_12, vi_12]
  refine ⟨fun h2 => ?_, fun h2 => ?_⟩
  · rw [p_weaves, p_fr, if_neg (by grind)] at h; exact h
  · rw [p_weaves, p_fr, if_pos (by grind)] at h; exact h
def p_ls (t : Nat → Int32) (c : Nat) (th : Int32) : Bool := decide (1 < t 10 ∧ 1 < th ∧ col t c ((t 10).toNatClampNeg - 1) = col t c (th.toNatClampNeg - 1) ∧ col t c ((t 10).toNatClampNeg - 2) = col t c (th.toNatClampNeg - 2))
/-- what an evening needs of the row -/
def okE (t : Nat → Int32) (c k H : Nat) : Prop := t 6 = nI c ∧ 1 ≤ c ∧ c ≤ 8 ∧ t 7 = nI k ∧ k ≤ 5 ∧ t 10 = nI H ∧ H ≤ 24 ∧ ∀ s, s < k → ¬ t (28 + s) = 0 ∧ (t (43 + s) = -1 ∨ ∃ j, j ≤ 24 ∧ t (43 + s) = nI j)
theorem sp_X10_looksSame {G : nl_G} {l : Launch} {w : nl_HW} {Post : nl_R} {a c H : Nat} {t : Nat → Int32} {th : Int32} (ha : w.1 a = nl_ia 48 t) (hc : t 6 = nI c) (h1 : 1 ≤ c) (h8 : c ≤ 8) (hH : t 10 = nI H) (hH4 : H ≤ 24) (hth : th = -1 ∨ ∃ j, j ≤ 24 ∧ th = nI j) (h : Post (some (.int (nb (p_ls t c th = true)))) w) : nl_Sat G l m_X10_looksSame [.ref a, .int th] w Post := by
  refine nl_sat2 (rt := some .boolean) ok_X10_looksSame rfl ⟨rfl, rfl⟩ rfl rfl (Nat.le_of_ble_eq_true rfl) fun e Z J R he hJ hR hZ => ?_
  refine hZ _ _ _ _ ?_
  simp (disch := omega) only [Nat.reduceMod, Nat.reduceDiv, Nat.reduceAdd, Nat.reduceLT, List.set_cons_zero, List.set_cons_succ, List.length_cons, List.length_nil, nl_run_s, nl_wpB_c, nl_ldI, nl_ldL, nl_ldR, nl_nth, nl_set, nl_pk, nl_i1, nl_gf, nl_pf, nl_al, nl_as, nl_rl, nl_rs, nl_io, nl_cp, nl_cl, nl_ok4, nl_psh, nl_rc, nl_sw, nl_ent, nl_hs_1, nl_hs_2, nl_hs_hs, nl_c1, rok_int, rok_void, rok_0, rok_1, nb_ok, nb_0, nb_1, true_and, and_true, and_self, true_implies, not_true_eq_false, not_false_eq_true, false_implies, ns_ic, ns_lc, ns_ldI, ns_ldL, ns_ldR, ns_stI, ns_stL, ns_stR, ns_inc, ns_add, ns_sub, ns_mul, ns_div, ns_rem, ns_neg, ns_shl, ns_or, ns_and, ns_i2l, ns_l2i, ns_i2b, ns_i2s, ns_i2c, ns_ladd, ns_lmul, ns_ldiv, ns_lrem, ns_lcmp, ns_dup, ns_dup2, ns_go, ns_fall, ns_ifeq, ns_ifne, ns_iflt, ns_ifge, ns_ifgt, ns_ifle, ns_cmeq, ns_cmne, ns_cmlt, ns_cmge, ns_cmgt, ns_cmle, ns_iret, ns_vret, ns_get, ns_putI, ns_putZ, ns_putR, ns_ial, ns_ialc, ns_ias, ns_zal, ns_zas, ns_ral, ns_ras, ns_len, ns_min, ns_max, ns_cpy, ns_obj, ns_nea, ns_txt, ns_new, ns_naI, ns_naZ, ns_naR, ns_call, ns_sw, ns_fn, cb_X10_looksSame_0, cb_X10_looksSame_53, cb_X10_looksSame_54, nl_hs_n, pk_us, pk_un, nI_1, nI_add, nI_leI, nI_ltI, nI_eq, nI_clamp, vp_in_nI, pk_sub, an_15, an_23, an_28, an_33, an_38, an_43, hJ, ha, ck_10, vi_10]
  have j54 : ∀ r x, (x = 0 ∨ x = 1) → Post (some (.int x)) w → Z 54 r [.int x] w := by
    intro r x hx hp
    refine hZ _ _ _ _ ?_
    simp (disch := omega) only [Nat.reduceMod, Nat.reduceDiv, Nat.reduceAdd, Nat.reduceLT, List.set_cons_zero, List.set_cons_succ, List.length_cons, List.length_nil, nl_run_s, nl_wpB_c, nl_ldI, nl_ldL, nl_ldR, nl_nth, nl_set, nl_pk, nl_i1, nl_gf, nl_pf, nl_al, nl_as, nl_rl, nl_rs, nl_io, nl_cp, nl_cl, nl_ok4, nl_psh, nl_rc, nl_sw, nl_ent, nl_hs_1, nl_hs_2, nl_hs_hs, nl_c1, rok_int, rok_void, rok_0, rok_1, nb_ok, nb_0, nb_1, true_and, and_true, and_self, true_implies, not_true_eq_false, not_false_eq_true, false_implies, ns_ic, ns_lc, ns_ldI, ns_ldL, ns_ldR, ns_stI, ns_stL, ns_stR, ns_inc, ns_add, ns_sub, ns_mul, ns_div, ns_rem, ns_neg, ns_shl, ns_or, ns_and, ns_i2l, ns_l2i, ns_i2b, ns_i2s, ns_i2c, ns_ladd, ns_lmul, ns_ldiv, ns_lrem, ns_lcmp, ns_dup, ns_dup2, ns_go, ns_fall, ns_ifeq, ns_ifne, ns_iflt, ns_ifge, ns_ifgt, ns_ifle, ns_cmeq, ns_cmne, ns_cmlt, ns_cmge, ns_cmgt, ns_cmle, ns_iret, ns_vret, ns_get, ns_putI, ns_putZ, ns_putR, ns_ial, ns_ialc, ns_ias, ns_zal, ns_zas, ns_ral, ns_ras, ns_len, ns_min, ns_max, ns_cpy, ns_obj, ns_nea, ns_txt, ns_new, ns_naI, ns_naZ, ns_naR, ns_call, ns_sw, ns_fn, cb_X10_looksSame_0, cb_X10_looksSame_53, cb_X10_looksSame_54, nl_hs_n, pk_us, pk_un, nI_1, nI_add, nI_leI, nI_ltI, nI_eq, nI_clamp, vp_in_nI, pk_sub, an_15, an_23, an_28, an_33, an_38, an_43, hJ]
    exact hR _ _ rfl hx hp
  have j53 : ∀ r, Post (some (.int 0)) w → Z 53 r [] w := by
    intro r hp
    refine hZ _ _ _ _ ?_
    simp (disch := omega) only [Nat.reduceMod, Nat.reduceDiv, Nat.reduceAdd, Nat.reduceLT, List.set_cons_zero, List.set_cons_succ, List.length_cons, List.length_nil, nl_run_s, nl_wpB_c, nl_ldI, nl_ldL, nl_ldR, nl_nth, nl_set, nl_pk, nl_i1, nl_gf, nl_pf, nl_al, nl_as, nl_rl, nl_rs, nl_io, nl_cp, nl_cl, nl_ok4, nl_psh, nl_rc, nl_sw, nl_ent, nl_hs_1, nl_hs_2, nl_hs_hs, nl_c1, rok_int, rok_void, rok_0, rok_1, nb_ok, nb_0, nb_1, true_and, and_true, and_self, true_implies, not_true_eq_false, not_false_eq_true, false_implies, ns_ic, ns_lc, ns_ldI, ns_ldL, ns_ldR, ns_stI, ns_stL, ns_stR, ns_inc, ns_add, ns_sub, ns_mul, ns_div, ns_rem, ns_neg, ns_shl, ns_or, ns_and, ns_i2l, ns_l2i, ns_i2b, ns_i2s, ns_i2c, ns_ladd, ns_lmul, ns_ldiv, ns_lrem, ns_lcmp, ns_dup, ns_dup2, ns_go, ns_fall, ns_ifeq, ns_ifne, ns_iflt, ns_ifge, ns_ifgt, ns_ifle, ns_cmeq, ns_cmne, ns_cmlt, ns_cmge, ns_cmgt, ns_cmle, ns_iret, ns_vret, ns_get, ns_putI, ns_putZ, ns_putR, ns_ial, ns_ialc, ns_ias, ns_zal, ns_zas, ns_ral, ns_ras, ns_len, ns_min, ns_max, ns_cpy, ns_obj, ns_nea, ns_txt, ns_new, ns_naI, ns_naZ, ns_naR, ns_call, ns_sw, ns_fn, cb_X10_looksSame_0, cb_X10_looksSame_53, cb_X10_looksSame_54, nl_hs_n, pk_us, pk_un, nI_1, nI_add, nI_leI, nI_ltI, nI_eq, nI_clamp, vp_in_nI, pk_sub, an_15, an_23, an_28, an_33, an_38, an_43, hJ]
    exact j54 _ _ (Or.inl rfl) hp
  have e1 : (1 : Int32) = nI 1 := rfl
  have e2 : (2 : Int32) = nI 2 := rfl
  refine ⟨fun q => ?_, fun q => ⟨fun q2 => ?_, fun q2 => ?_⟩⟩
  · rw [nb_f (by simp only [p_ls, decide_eq_true_eq]; grind)] at h; exact j53 _ h
  · rw [nb_f (by simp only [p_ls, decide_eq_true_eq]; grind)] at h; exact j53 _ h
  · rcases hth with rfl | ⟨j, hj, rfl⟩
    · exact absurd (by decide) q2
    rw [hH] at q ⊢
    have b1 : 1 < H := by rw [e1, nI_leI (by omega) (by omega)] at q; omega
    have b2 : 1 < j := by rw [e1, nI_leI (by omega) (by omega)] at q2; omega
    have hp : (p_ls t c (nI j) = true) ↔ (col t c (H - 1) = col t c (j - 1) ∧ col t c (H - 2) = col t c (j - 2)) := by
      simp only [p_ls, decide_eq_true_eq, hH]
      rw [nI_clamp (by omega), nI_clamp (by omega), e1, nI_ltI (by omega) (by omega), nI_ltI (by omega) (by omega)]
      constructor
      · exact fun z => z.2.2
      · exact fun z => ⟨b1, b2, z⟩
    have g1 : ∀ p : Nat, 1 ≤ p → nI p - 1 = nI (p - 1) := fun p hp => pk_sub (b := 1) hp
    have g2 : ∀ p : Nat, 2 ≤ p → nI p - 2 = nI (p - 2) := fun p hp => pk_sub (b := 2) hp
    simp (disch := omega) only [g1, g2]
    rw [fe_X10_colourAt ha hc h1 h8 (by omega)]
    try simp (disch := omega) only [Nat.reduceMod, Nat.reduceDiv, Nat.reduceAdd, Nat.reduceLT, List.set_cons_zero, List.set_cons_succ, List.length_cons, List.length_nil, nl_run_s, nl_wpB_c, nl_ldI, nl_ldL, nl_ldR, nl_nth, nl_set, nl_pk, nl_i1, nl_gf, nl_pf, nl_al, nl_as, nl_rl, nl_rs, nl_io, nl_cp, nl_cl, nl_ok4, nl_psh, nl_rc, nl_sw, nl_ent, nl_hs_1, nl_hs_2, nl_hs_hs, nl_c1, rok_int, rok_void, rok_0, rok_1, nb_ok, nb_0, nb_1, true_and, and_true, and_self, true_implies, not_true_eq_false, not_false_eq_true, false_implies, ns_ic, ns_lc, ns_ldI, ns_ldL, ns_ldR, ns_stI, ns_stL, ns_stR, ns_inc, ns_add, ns_sub, ns_mul, ns_div, ns_rem, ns_neg, ns_shl, ns_or, ns_and, ns_i2l, ns_l2i, ns_i2b, ns_i2s, ns_i2c, ns_ladd, ns_lmul, ns_ldiv, ns_lrem, ns_lcmp, ns_dup, ns_dup2, ns_go, ns_fall, ns_ifeq, ns_ifne, ns_iflt, ns_ifge, ns_ifgt, ns_ifle, ns_cmeq, ns_cmne, ns_cmlt, ns_cmge, ns_cmgt, ns_cmle, ns_iret, ns_vret, ns_get, ns_putI, ns_putZ, ns_putR, ns_ial, ns_ialc, ns_ias, ns_zal, ns_zas, ns_ral, ns_ras, ns_len, ns_min, ns_max, ns_cpy, ns_obj, ns_nea, ns_txt, ns_new, ns_naI, ns_naZ, ns_naR, ns_call, ns_sw, ns_fn, cb_X10_looksSame_0, cb_X10_looksSame_53, cb_X10_looksSame_54, nl_hs_n, pk_us, pk_un, nI_1, nI_add, nI_leI, nI_ltI, nI_eq, nI_clamp, vp_in_nI, pk_sub, an_15, an_23, an_28, an_33, an_38, an_43, hJ, ha, g1, g2]
    rw [fe_X10_colourAt ha hc h1 h8 (by omega)]
    try simp (disch := omega) only [Nat.reduceMod, Nat.reduceDiv, Nat.reduceAdd, Nat.reduceLT, List.set_cons_zero, List.set_cons_succ, List.length_cons, List.length_nil, nl_run_s, nl_wpB_c, nl_ldI, nl_ldL, nl_ldR, nl_nth, nl_set, nl_pk, nl_i1, nl_gf, nl_pf, nl_al, nl_as, nl_rl, nl_rs, nl_io, nl_cp, nl_cl, nl_ok4, nl_psh, nl_rc, nl_sw, nl_ent, nl_hs_1, nl_hs_2, nl_hs_hs, nl_c1, rok_int, rok_void, rok_0, rok_1, nb_ok, nb_0, nb_1, true_and, and_true, and_self, true_implies, not_true_eq_false, not_false_eq_true, false_implies, ns_ic, ns_lc, ns_ldI, ns_ldL, ns_ldR, ns_stI, ns_stL, ns_stR, ns_inc, ns_add, ns_sub, ns_mul, ns_div, ns_rem, ns_neg, ns_shl, ns_or, ns_and, ns_i2l, ns_l2i, ns_i2b, ns_i2s, ns_i2c, ns_ladd, ns_lmul, ns_ldiv, ns_lrem, ns_lcmp, ns_dup, ns_dup2, ns_go, ns_fall, ns_ifeq, ns_ifne, ns_iflt, ns_ifge, ns_ifgt, ns_ifle, ns_cmeq, ns_cmne, ns_cmlt, ns_cmge, ns_cmgt, ns_cmle, ns_iret, ns_vret, ns_get, ns_putI, ns_putZ, ns_putR, ns_ial, ns_ialc, ns_ias, ns_zal, ns_zas, ns_ral, ns_ras, ns_len, ns_min, ns_max, ns_cpy, ns_obj, ns_nea, ns_txt, ns_new, ns_naI, ns_naZ, ns_naR, ns_call, ns_sw, ns_fn, cb_X10_looksSame_0, cb_X10_looksSame_53, cb_X10_looksSame_54, nl_hs_n, pk_us, pk_un, nI_1, nI_add, nI_leI, nI_ltI, nI_eq, nI_clamp, vp_in_nI, pk_sub, an_15, an_23, an_28, an_33, an_38, an_43, hJ, ha, g1, g2]
    refine ⟨fun q3 => ?_, fun q3 => ?_⟩
    · rw [nb_f (by rw [hp]; exact fun z => q3 z.1)] at h; exact j53 _ h
    · rw [fe_X10_colourAt ha hc h1 h8 (by omega)]
      try simp (disch := omega) only [Nat.reduceMod, Nat.reduceDiv, Nat.reduceAdd, Nat.reduceLT, List.set_cons_zero, List.set_cons_succ, List.length_cons, List.length_nil, nl_run_s, nl_wpB_c, nl_ldI, nl_ldL, nl_ldR, nl_nth, nl_set, nl_pk, nl_i1, nl_gf, nl_pf, nl_al, nl_as, nl_rl, nl_rs, nl_io, nl_cp, nl_cl, nl_ok4, nl_psh, nl_rc, nl_sw, nl_ent, nl_hs_1, nl_hs_2, nl_hs_hs, nl_c1, rok_int, rok_void, rok_0, rok_1, nb_ok, nb_0, nb_1, true_and, and_true, and_self, true_implies, not_true_eq_false, not_false_eq_true, false_implies, ns_ic, ns_lc, ns_ldI, ns_ldL, ns_ldR, ns_stI, ns_stL, ns_stR, ns_inc, ns_add, ns_sub, ns_mul, ns_div, ns_rem, ns_neg, ns_shl, ns_or, ns_and, ns_i2l, ns_l2i, ns_i2b, ns_i2s, ns_i2c, ns_ladd, ns_lmul, ns_ldiv, ns_lrem, ns_lcmp, ns_dup, ns_dup2, ns_go, ns_fall, ns_ifeq, ns_ifne, ns_iflt, ns_ifge, ns_ifgt, ns_ifle, ns_cmeq, ns_cmne, ns_cmlt, ns_cmge, ns_cmgt, ns_cmle, ns_iret, ns_vret, ns_get, ns_putI, ns_putZ, ns_putR, ns_ial, ns_ialc, ns_ias, ns_zal, ns_zas, ns_ral, ns_ras, ns_len, ns_min, ns_max, ns_cpy, ns_obj, ns_nea, ns_txt, ns_new, ns_naI, ns_naZ, ns_naR, ns_call, ns_sw, ns_fn, cb_X10_looksSame_0, cb_X10_looksSame_53, cb_X10_looksSame_54, nl_hs_n, pk_us, pk_un, nI_1, nI_add, nI_leI, nI_ltI, nI_eq, nI_clamp, vp_in_nI, pk_sub, an_15, an_23, an_28, an_33, an_38, an_43, hJ, ha, g1, g2]
      rw [fe_X10_colourAt ha hc h1 h8 (by omega)]
      try simp (disch := omega) only [Nat.reduceMod, Nat.reduceDiv, Nat.reduceAdd, Nat.reduceLT, List.set_cons_zero, List.set_cons_succ, List.length_cons, List.length_nil, nl_run_s, nl_wpB_c, nl_ldI, nl_ldL, nl_ldR, nl_nth, nl_set, nl_pk, nl_i1, nl_gf, nl_pf, nl_al, nl_as, nl_rl, nl_rs, nl_io, nl_cp, nl_cl, nl_ok4, nl_psh, nl_rc, nl_sw, nl_ent, nl_hs_1, nl_hs_2, nl_hs_hs, nl_c1, rok_int, rok_void, rok_0, rok_1, nb_ok, nb_0, nb_1, true_and, and_true, and_self, true_implies, not_true_eq_false, not_false_eq_true, false_implies, ns_ic, ns_lc, ns_ldI, ns_ldL, ns_ldR, ns_stI, ns_stL, ns_stR, ns_inc, ns_add, ns_sub, ns_mul, ns_div, ns_rem, ns_neg, ns_shl, ns_or, ns_and, ns_i2l, ns_l2i, ns_i2b, ns_i2s, ns_i2c, ns_ladd, ns_lmul, ns_ldiv, ns_lrem, ns_lcmp, ns_dup, ns_dup2, ns_go, ns_fall, ns_ifeq, ns_ifne, ns_iflt, ns_ifge, ns_ifgt, ns_ifle, ns_cmeq, ns_cmne, ns_cmlt, ns_cmge, ns_cmgt, ns_cmle, ns_iret, ns_vret, ns_get, ns_putI, ns_putZ, ns_putR, ns_ial, ns_ialc, ns_ias, ns_zal, ns_zas, ns_ral, ns_ras, ns_len, ns_min, ns_max, ns_cpy, ns_obj, ns_nea, ns_txt, ns_new, ns_naI, ns_naZ, ns_naR, ns_call, ns_sw, ns_fn, cb_X10_looksSame_0, cb_X10_looksSame_53, cb_X10_looksSame_54, nl_hs_n, pk_us, pk_un, nI_1, nI_add, nI_leI, nI_ltI, nI_eq, nI_clamp, vp_in_nI, pk_sub, an_15, an_23, an_28, an_33, an_38, an_43, hJ, ha, g1, g2]
      refine ⟨fun q4 => ?_, fun q4 => ?_⟩
      · rw [nb_f (by rw [hp]; exact fun z => q4 z.2)] at h; exact j53 _ h
      · rw [nb_t (by rw [hp]; exact ⟨q3, q4⟩)] at h; exact j54 _ _ (Or.inr rfl) h
theorem nl_set_0 {r : List Value} {v : Value} : nl_set r 0 v = v :: r.tail := by cases r <;> rfl
def p_dbt (t : Nat → Int32) (c s : Nat) : Bool := if t (23 + s) = 1 then decide (t 10 ≤ t (43 + s)) else if t (23 + s) = 3 then decide (t 10 < t (43 + s)) else p_ls t c (t (43 + s))
def p_look1 (c s : Nat) (t : Nat → Int32) : Nat → Int32 := if t (23 + s) < 4 ∧ t 8 - t 8 / t (28 + s) * t (28 + s) = 0 then upd (upd t (38 + s) (t (38 + s) + nb (0 ≤ t (43 + s) ∧ p_dbt t c s = true))) (43 + s) (t 10) else t
def p_looks (c : Nat) : Nat → Nat → (Nat → Int32) → Nat → Int32
  | 0, _, t => t
  | n + 1, s, t => p_looks c n (s + 1) (p_look1 c s t)
theorem p_look1_o {c s j : Nat} {t : Nat → Int32} (h : j < 38 ∨ 48 ≤ j) (hs : s < 5) : p_look1 c s t j = t j := by
  unfold p_look1
  split
  · rw [pk_un (by omega), pk_un (by omega)]
  · rfl
theorem p_look1_n {c s j : Nat} {t : Nat → Int32} (h : j ≠ 38 + s) (h2 : j ≠ 43 + s) : p_look1 c s t j = t j := by
  unfold p_look1
  split
  · rw [pk_un h2, pk_un h]
  · rfl
theorem okE_look1 {t : Nat → Int32} {c k H s : Nat} (h : okE t c k H) (hs : s < k) : okE (p_look1 c s t) c k H := by
  obtain ⟨h1, h2, h3, h4, h5, h6, h7, h8⟩ := h
  refine ⟨by rw [p_look1_o (by omega) (by omega)]; exact h1, h2, h3, by rw [p_look1_o (by omega) (by omega)]; exact h4, h5, by rw [p_look1_o (by omega) (by omega)]; exact h6, h7, fun i hi => ⟨by rw [p_look1_o (by omega) (by omega)]; exact (h8 i hi).1, ?_⟩⟩
  by_cases e : i = s
  · subst e
    unfold p_look1
    split
    · rw [pk_us]; exact Or.inr ⟨H, h7, h6⟩
    · exact (h8 i hi).2
  · rw [p_look1_n (by omega) (by omega)]; exact (h8 i hi).2

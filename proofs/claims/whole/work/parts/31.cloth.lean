/-! the class: cloth and law -/
theorem tr_in {n o k : Nat} {t : Nat → Int32} {v : Int32} (h : k < n) : upd (tr n o t) k v = tr n o (upd t (o + k) v) := by
  funext i
  by_cases hi : i = k
  · subst hi; rw [pk_us, tr, if_pos h, pk_us]
  · rw [pk_un hi, tr, tr, pk_un (by omega)]
theorem tr_out {n o j : Nat} {t : Nat → Int32} {v : Int32} (h : j < o ∨ o + n ≤ j) : tr n o (upd t j v) = tr n o t := by
  funext i
  rw [tr, tr]
  by_cases hi : i < n
  · rw [if_pos hi, if_pos hi, pk_un (by omega)]
  · rw [if_neg hi, if_neg hi]
theorem tr_eq {n o : Nat} {t t' : Nat → Int32} (h : ∀ i, i < n → t' (o + i) = t (o + i)) : tr n o t' = tr n o t := by
  funext i
  rw [tr, tr]
  by_cases hi : i < n
  · rw [if_pos hi, if_pos hi, h i hi]
  · rw [if_neg hi, if_neg hi]
def putC (w : nl_HW) (a : Nat) (t : Nat → Int32) (y : Int32) : nl_HW := nl_hs (nl_hs (nl_hs w a (cC a t y)) (a + 1) (nl_ia 5 (tr 5 38 t))) (a + 2) (nl_ia 5 (tr 5 43 t))
/-- w2 is w, but for the cloth at a -/
def CI (w w2 : nl_HW) (a : Nat) (t : Nat → Int32) (y : Int32) : Prop := clothAt w2.1 a t y ∧ w2.2 = w.2 ∧ ∀ q, q ≠ a → q ≠ a + 1 → q ≠ a + 2 → w2.1 q = w.1 q
theorem putC_CI {w : nl_HW} {a : Nat} {t : Nat → Int32} {y : Int32} : CI w (putC w a t y) a t y := by
  refine ⟨⟨?_, ?_, ?_⟩, rfl, fun q h1 h2 h3 => ?_⟩
  · rw [putC, nl_hs_n (by omega), nl_hs_n (by omega), nl_hs_1]
  · rw [putC, nl_hs_n (by omega), nl_hs_1]
  · rw [putC, nl_hs_1]
  · rw [putC, nl_hs_n h3, nl_hs_n h2, nl_hs_n h1]
theorem CI.refl {w : nl_HW} {a : Nat} {t : Nat → Int32} {y : Int32} (h : clothAt w.1 a t y) : CI w w a t y := ⟨h, rfl, fun _ _ _ _ => rfl⟩
theorem CI.eq {w w2 : nl_HW} {a : Nat} {t : Nat → Int32} {y : Int32} (h : CI w w2 a t y) : w2 = putC w a t y := by
  obtain ⟨⟨h1, h2, h3⟩, h4, h5⟩ := h
  obtain ⟨⟨g1, g2, g3⟩, g4, g5⟩ := putC_CI (w := w) (a := a) (t := t) (y := y)
  refine Prod.ext (funext fun q => ?_) (h4.trans g4.symm)
  by_cases e1 : q = a
  · subst e1; rw [h1, g1]
  · by_cases e2 : q = a + 1
    · subst e2; rw [h2, g2]
    · by_cases e3 : q = a + 2
      · subst e3; rw [h3, g3]
      · rw [h5 q e1 e2 e3, g5 q e1 e2 e3]
theorem CI.law {w w2 : nl_HW} {a b : Nat} {t t0 : Nat → Int32} {y : Int32} (h : CI w w2 a t y) (hd : b + 4 < a ∨ a + 2 < b) (hl : lawAt w.1 b t0) : lawAt w2.1 b t0 := by
  obtain ⟨h1, h2, h3, h4, h5⟩ := hl
  have g := h.2.2
  exact ⟨by rw [g _ (by omega) (by omega) (by omega)]; exact h1, by rw [g _ (by omega) (by omega) (by omega)]; exact h2, by rw [g _ (by omega) (by omega) (by omega)]; exact h3, by rw [g _ (by omega) (by omega) (by omega)]; exact h4, by rw [g _ (by omega) (by omega) (by omega)]; exact h5⟩
/-- the law's numbers are the same -/
def sameL (t t' : Nat → Int32) : Prop := ∀ j, j < 8 ∨ (15 ≤ j ∧ j < 38) → t' j = t j
theorem lawAt.to {h : Nat → va_E} {b : Nat} {t t' : Nat → Int32} (hl : lawAt h b t) (hs : sameL t t') : lawAt h b t' := by
  obtain ⟨h1, h2, h3, h4, h5⟩ := hl
  refine ⟨?_, ?_, ?_, ?_, ?_⟩
  · rw [h1]; simp only [cL]; rw [hs 0 (by omega), hs 1 (by omega), hs 2 (by omega), hs 3 (by omega), hs 4 (by omega), hs 5 (by omega), hs 6 (by omega), hs 7 (by omega)]
  · rw [h2, tr_eq (fun i hi => hs _ (by omega))]
  · rw [h3, tr_eq (fun i hi => hs _ (by omega))]
  · rw [h4, tr_eq (fun i hi => hs _ (by omega))]
  · rw [h5, tr_eq (fun i hi => hs _ (by omega))]
theorem CI.step {w w1 w2 : nl_HW} {a : Nat} {t t1 : Nat → Int32} {y y1 : Int32} (h : CI w w1 a t y) (h1 : clothAt w2.1 a t1 y1) (h2 : w2.2 = w1.2) (h3 : ∀ q, q ≠ a → q ≠ a + 1 → q ≠ a + 2 → w2.1 q = w1.1 q) : CI w w2 a t1 y1 := ⟨h1, h2.trans h.2.1, fun q q1 q2 q3 => (h3 q q1 q2 q3).trans (h.2.2 q q1 q2 q3)⟩
theorem p_yf_eq {t : Nat → Int32} {n : Int32} (h1 : 0 ≤ t 10) (h2 : t 10 ≤ t 11) (h3 : t 11 ≤ 24) (h4 : 0 ≤ n) (h5 : n ≤ 6) : p_yf (t 11) (t 10) (t 12) n = p_wants t n ∧ (if t 11 - t 10 < n then t 11 - t 10 else n) = n - p_fr t n ∧ (if t 11 < t 10 + n then t 10 + n else t 11) = t 11 + p_fr t n := by
  have e1 : (if t 11 - t 10 < n then t 11 - t 10 else n) = n - p_fr t n := by
    unfold p_fr
    by_cases q : t 11 - t 10 < n
    · rw [if_pos q, if_pos (by grind)]; grind
    · rw [if_neg q, if_neg (by grind)]; grind
  refine ⟨?_, e1, ?_⟩
  · rw [p_yf, p_wants, e1]
    rw [show n - (n - p_fr t n) = p_fr t n by grind, show t 12 + (n - p_fr t n) = t 12 + n - p_fr t n by grind]
  · unfold p_fr
    by_cases q : t 11 < t 10 + n
    · rw [if_pos q, if_pos (by grind)]; grind
    · rw [if_neg q, if_neg (by grind)]; grind
theorem sp_X1_hangMore {G : nl_G} {l : Launch} {w : nl_HW} {Post : nl_R} {a : Nat} {t : Nat → Int32} {y n : Int32} (hc : clothAt w.1 a t y) (h1 : 0 ≤ t 10) (h2 : t 10 ≤ t 11) (h3 : t 11 ≤ 24) (h4 : 0 ≤ n) (h5 : n ≤ 6) (h : Post none (putC w a (p_weaves t n) (y - p_wants t n))) : nl_Sat G l m_X1_hangMore [.ref a, .int n] w Post := by
  refine nl_sat2 (rt := none) ok_X1_hangMore rfl ⟨rfl, rfl⟩ rfl rfl (Nat.le_of_ble_eq_true rfl) fun e Z J R he hJ hR hZ => ?_
  obtain ⟨e1, e2, e3⟩ := p_yf_eq h1 h2 h3 h4 h5
  refine hZ _ _ _ _ ?_; rw [cb_X1_hangMore_0]
  simp (disch := omega) only [↓ns_ic, ↓ns_lc, ↓ns_add, ↓ns_sub, ↓ns_mul, ↓ns_div, ↓ns_rem, ↓ns_neg, ↓ns_shl, ↓ns_or, ↓ns_and, ↓ns_i2l, ↓ns_l2i, ↓ns_i2b, ↓ns_i2s, ↓ns_i2c, ↓ns_ladd, ↓ns_lmul, ↓ns_ldiv, ↓ns_lrem, ↓ns_lcmp, ↓ns_dup, ↓ns_dup2, ↓ns_go, ↓ns_fall, ↓ns_ifeq, ↓ns_ifne, ↓ns_iflt, ↓ns_ifge, ↓ns_ifgt, ↓ns_ifle, ↓ns_cmeq, ↓ns_cmne, ↓ns_cmlt, ↓ns_cmge, ↓ns_cmgt, ↓ns_cmle, ↓ns_iret, ↓ns_vret, ↓ns_ialc, ↓ns_len, ↓ns_min, ↓ns_max, ↓ns_obj, ↓ns_nea, ↓ns_txt, ↓ns_new, ↓ns_naI, ↓ns_naZ, ↓ns_naR, ↓nl_wpB_c, ↓nk_g, ↓nk_a, ↓nk_r, ↓nk_h, ↓nk_c, ↓nk_c0, ↓nx_ldI0, ↓nx_ldL0, ↓nx_ldR0, ↓nx_ldF0, ↓nx_stIc0, ↓nx_stIn0, ↓nx_stRc0, ↓nx_stRn0, ↓nx_inc0, ↓nx_ldI1, ↓nx_ldL1, ↓nx_ldR1, ↓nx_ldF1, ↓nx_stIc1, ↓nx_stIn1, ↓nx_stRc1, ↓nx_stRn1, ↓nx_inc1, ↓nx_ldI2, ↓nx_ldL2, ↓nx_ldR2, ↓nx_ldF2, ↓nx_stIc2, ↓nx_stIn2, ↓nx_stRc2, ↓nx_stRn2, ↓nx_inc2, ↓nx_ldI3, ↓nx_ldL3, ↓nx_ldR3, ↓nx_ldF3, ↓nx_stIc3, ↓nx_stIn3, ↓nx_stRc3, ↓nx_stRn3, ↓nx_inc3, ↓nx_ldI4, ↓nx_ldL4, ↓nx_ldR4, ↓nx_ldF4, ↓nx_stIc4, ↓nx_stIn4, ↓nx_stRc4, ↓nx_stRn4, ↓nx_inc4, ↓nx_ldI5, ↓nx_ldL5, ↓nx_ldR5, ↓nx_ldF5, ↓nx_stIc5, ↓nx_stIn5, ↓nx_stRc5, ↓nx_stRn5, ↓nx_inc5, ↓nx_ldI6, ↓nx_ldL6, ↓nx_ldR6, ↓nx_ldF6, ↓nx_stIc6, ↓nx_stIn6, ↓nx_stRc6, ↓nx_stRn6, ↓nx_inc6, ↓nx_ldI7, ↓nx_ldL7, ↓nx_ldR7, ↓nx_ldF7, ↓nx_stIc7, ↓nx_stIn7, ↓nx_stRc7, ↓nx_stRn7, ↓nx_inc7, ↓nx_ldI8, ↓nx_stIc8, ↓nx_stIn8, ↓nx_inc8, ↓nx_ldI9, ↓nx_stIc9, ↓nx_stIn9, ↓nx_inc9, ↓nx_get, ↓nx_putI, ↓nx_putZ, ↓nx_putR, ↓nx_ial, ↓nx_zal, ↓nx_ias, ↓nx_zas, ↓nx_ral, ↓nx_ras, ↓nx_cpy, ↓nx_sw, ↓nx_sw0, ↓nx_sw1, ↓nk_j, ↓nx_call0, ↓nx_fn0, ↓nx_call1, ↓nx_fn1, ↓nx_call2, ↓nx_fn2, ↓nx_call3, ↓nx_fn3, ↓nx_call4, ↓nx_fn4, ↓nx_call5, ↓nx_fn5, ↓nx_call6, ↓nx_fn6, ↓nx_gv0, ↓nx_sv0, ↓nx_gv1, ↓nx_sv1, ↓nx_gv2, ↓nx_sv2, ↓nx_gv3, ↓nx_sv3, ↓nx_gv4, ↓nx_sv4, ↓nx_gv5, ↓nx_sv5, ↓nx_gv6, ↓nx_sv6, ↓nx_gv7, ↓nx_sv7, ↓nx_gv8, ↓nx_sv8, ↓nx_gv9, ↓nx_sv9, ↓nx_gv10, ↓nx_sv10, ↓nx_gv11, ↓nx_sv11, ↓nx_gv12, ↓nx_sv12, ↓nx_gv13, ↓nx_sv13, ↓nx_gv14, ↓nx_sv14, ↓nx_gv15, ↓nx_sv15, ↓nx_gv16, ↓nx_sv16, ↓nx_gv17, ↓nx_sv17, ↓nx_gv18, ↓nx_sv18, ↓nx_gv19, ↓nx_sv19, ↓nx_gv20, ↓nx_sv20, ↓nx_gv21, ↓nx_sv21, ↓nx_gv22, ↓nx_sv22, ↓nx_gv23, ↓nx_sv23, ↓nx_ro, ↓gf_s, ↓gf_o, ↓pf_s, ↓pf_o, ↓al_s, ↓al_o, ↓as_s, ↓as_o, ↓rl_o, ↓io_s, ↓io_o, ↓nx_rc0, ↓nx_rc1, ↓nx_rc2, hJ, nl_pk, nl_nth, nl_c1, nl_ok4, nl_ent, Nat.reduceMod, Nat.reduceDiv, Nat.reduceAdd, Nat.reduceEqDiff, nl_hs_1, nl_hs_2, nl_hs_hs, nl_hs_n, pk_us, pk_un, nI_1, nI_add, nI_leI, nI_ltI, nI_eq, nI_clamp, vp_in_nI, pk_sub, nb_0, nb_1, true_and, and_true, and_self, true_implies, false_implies, not_true_eq_false, not_false_eq_true, List.tail_cons, List.tail_nil, an_15, an_23, an_28, an_33, an_38, an_43, ↓gf_h hc.1, ↓pf_h hc.1, hc.1, f_X1_yarnFor, e1, e2, e3]
  refine hR _ _ rfl trivial ?_
  have hCI : CI w (nl_hs w a (cC a (p_weaves t n) (y - p_wants t n))) a (p_weaves t n) (y - p_wants t n) := by
    refine ⟨⟨nl_hs_1, ?_, ?_⟩, rfl, fun q q1 q2 q3 => nl_hs_n q1⟩
    · rw [nl_hs_n (by omega), hc.2.1, p_weaves, tr_out (by omega), tr_out (by omega), tr_out (by omega)]
    · rw [nl_hs_n (by omega), hc.2.2, p_weaves, tr_out (by omega), tr_out (by omega), tr_out (by omega)]
  rw [← hCI.eq] at h
  have ec : cC a (p_weaves t n) (y - p_wants t n) = .inr (1, [.int (t 8), .int (t 9), .int (t 10 + n), .int (t 11 + p_fr t n), .int (t 12 + (n - p_fr t n)), .int (y - p_wants t n), .int (t 13), .int (t 14), .ref (a + 1), .ref (a + 2)]) := by
    simp (disch := omega) only [cC, p_weaves, pk_us, pk_un]
  rw [ec] at h
  exact h

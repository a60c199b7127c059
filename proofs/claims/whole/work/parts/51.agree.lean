/-! rows that agree wherever colours and suitors are told -/
def agr (c k : Nat) (t u : Nat → Int32) : Prop := ∀ j, (j < 15 + c ∨ (23 ≤ j ∧ j < 23 + k) ∨ (28 ≤ j ∧ j < 28 + k) ∨ (33 ≤ j ∧ j < 33 + k) ∨ 38 ≤ j) → u j = t j
theorem agr_r {c k : Nat} {t : Nat → Int32} : agr c k t t := fun _ _ => rfl
theorem agr_s {c k : Nat} {t u : Nat → Int32} (h : agr c k t u) : agr c k u t := fun j hj => (h j hj).symm
section
variable {c k : Nat} {t u : Nat → Int32} {n b a : Int32}
theorem agr_fr (h : agr c k t u) : p_fr u n = p_fr t n := by
  rw [p_fr, p_fr, h 10 (by omega), h 11 (by omega)]
theorem agr_wants (h : agr c k t u) : p_wants u n = p_wants t n := by
  rw [p_wants, p_wants, agr_fr h, h 12 (by omega)]
theorem agr_yl (h : agr c k t u) : yl u = yl t := yl_of (h 1 (by omega)) (h 11 (by omega)) (h 12 (by omega))
theorem agr_unby (h : agr c k t u) : p_unby u b = p_unby t b := by
  rw [p_unby, p_unby, h 3 (by omega), h 8 (by omega), h 2 (by omega), h 10 (by omega)]
theorem agr_upd {i : Nat} {v : Int32} (h : agr c k t u) : agr c k (upd t i v) (upd u i v) := by
  intro j hj
  by_cases q : j = i
  · subst q; rw [pk_us, pk_us]
  · rw [pk_un q, pk_un q]; exact h j hj
theorem agr_wv (h : agr c k t u) : agr c k (p_weaves t n) (p_weaves u n) := by
  rw [p_weaves, p_weaves, agr_fr h, h 10 (by omega), h 11 (by omega), h 12 (by omega)]
  exact agr_upd (agr_upd (agr_upd h))
theorem agr_col {p : Nat} (h : agr c k t u) (hc : 1 ≤ c) : col u c p = col t c p := h _ (by have := Nat.mod_lt p hc; omega)
theorem agr_ls {th : Int32} (h : agr c k t u) (hc : 1 ≤ c) : p_ls u c th = p_ls t c th := by
  unfold p_ls
  rw [h 10 (by omega), agr_col h hc, agr_col h hc, agr_col h hc, agr_col h hc]
theorem agr_dbt {s : Nat} (h : agr c k t u) (hc : 1 ≤ c) (hs : s < k) : p_dbt u c s = p_dbt t c s := by
  unfold p_dbt
  rw [agr_ls h hc, h 10 (by omega), h (23 + s) (by omega), h (43 + s) (by omega)]
theorem agr_look1 {s : Nat} (h : agr c k t u) (hc : 1 ≤ c) (hs : s < k) : agr c k (p_look1 c s t) (p_look1 c s u) := by
  unfold p_look1
  rw [agr_dbt h hc hs, h 10 (by omega), h 8 (by omega), h (23 + s) (by omega), h (43 + s) (by omega), h (28 + s) (by omega), h (38 + s) (by omega)]
  split
  · exact agr_upd (agr_upd h)
  · exact h
theorem agr_looks (hc : 1 ≤ c) : ∀ m s (t u : Nat → Int32), s + m ≤ k → agr c k t u → agr c k (p_looks c m s t) (p_looks c m s u)
  | 0, _, _, _, _, h => h
  | m + 1, s, t, u, hs, h => by
    rw [p_looks, p_looks]
    exact agr_looks hc m (s + 1) _ _ (by omega) (agr_look1 h hc (by omega))
theorem agr_feast (h : agr c k t u) : agr c k (p_feast t) (p_feast u) := by
  unfold p_feast
  rw [h 4 (by omega), h 8 (by omega), h 13 (by omega), h 10 (by omega), h 14 (by omega), h 5 (by omega)]
  split
  · exact agr_upd (agr_upd h)
  · exact h
theorem agr_fb (h : agr c k t u) : p_fb u = p_fb t := by
  unfold p_fb
  rw [h 4 (by omega), h 8 (by omega), h 10 (by omega), h 14 (by omega), h 5 (by omega)]
theorem agr_eve (h : agr c k t u) (hc : 1 ≤ c) : agr c k (p_eve c k t) (p_eve c k u) := agr_upd (agr_feast (agr_looks hc k 0 t u (by omega) h))
theorem agr_un1 {s : Nat} (h : agr c k t u) (hs : s < k) : agr c k (p_un1 n s t) (p_un1 n s u) := by
  unfold p_un1
  rw [h 8 (by omega), h (23 + s) (by omega), h (28 + s) (by omega), h (38 + s) (by omega)]
  exact agr_upd h
theorem agr_uns : ∀ m s (t u : Nat → Int32), s + m ≤ k → agr c k t u → agr c k (p_uns n m s t) (p_uns n m s u)
  | 0, _, _, _, _, h => h
  | m + 1, s, t, u, hs, h => by
    rw [p_uns, p_uns]
    exact agr_uns m (s + 1) _ _ (by omega) (agr_un1 h (by omega))
theorem agr_undo (h : agr c k t u) : agr c k (p_undo k n t) (p_undo k n u) := by
  have e := agr_uns (n := n) k 0 t u (by omega) h
  rw [p_undo, p_undo, e 10 (by omega), e 8 (by omega)]
  exact agr_upd (agr_upd (agr_upd e))
theorem agr_who (h : agr c k t u) : ∀ m s, s + m ≤ k → p_who u m s = p_who t m s
  | 0, _, _ => rfl
  | m + 1, s, hs => by
    rw [p_who, p_who, h (33 + s) (by omega), h (38 + s) (by omega), agr_who h m (s + 1) (by omega)]
theorem agr_set (h : agr c k t u) : ∀ m s acc, s + m ≤ k → p_set u m s acc = p_set t m s acc
  | 0, _, _, _ => rfl
  | m + 1, s, acc, hs => by
    rw [p_set, p_set, h (33 + s) (by omega), h (38 + s) (by omega), agr_set h m (s + 1) _ (by omega)]
theorem agr_day (h : agr c k t u) (hc : 1 ≤ c) : (p_day c k a b u).1 = (p_day c k a b t).1 ∧ agr c k (p_day c k a b t).2 (p_day c k a b u).2 := by
  have e1 : u 0 - u 10 = t 0 - t 10 := by rw [h 0 (by omega), h 10 (by omega)]
  rw [p_day, p_day, e1, agr_wants h, agr_yl h]
  generalize p_min a (t 0 - t 10) = m
  have w := agr_wv (n := m) h
  split
  · exact ⟨rfl, h⟩
  · rw [w 10 (by omega), w 0 (by omega)]
    split
    · exact ⟨rfl, w⟩
    · have lk := agr_looks hc k 0 _ _ (by omega) w
      rw [agr_fb lk]
      have f := agr_feast lk
      split
      · exact ⟨rfl, f⟩
      · rw [agr_unby f]
        have un := agr_undo (n := p_unby (p_feast (p_looks c k 0 (p_weaves t m))) b) f
        exact ⟨by dsimp only; rw [agr_who un k 0 (by omega)], un⟩
theorem agr_go (hc : 1 ≤ c) : ∀ m d (t u : Nat → Int32), agr c k t u → (p_go c k a b m d u).1 = (p_go c k a b m d t).1 ∧ (p_go c k a b m d u).2.1 = (p_go c k a b m d t).2.1 ∧ agr c k (p_go c k a b m d t).2.2 (p_go c k a b m d u).2.2
  | 0, _, _, _, h => ⟨rfl, rfl, h⟩
  | m + 1, d, t, u, h => by
    obtain ⟨e1, e2⟩ := agr_day (a := a) (b := b) h hc
    rw [p_go, p_go, e1]
    split
    · exact agr_go hc m (d + 1) _ _ e2
    · exact ⟨rfl, rfl, e2⟩
theorem agr_hab (h : agr c k t u) (hc : 1 ≤ c) : (p_hab c k a b u).1 = (p_hab c k a b t).1 ∧ (p_hab c k a b u).2.1 = (p_hab c k a b t).2.1 ∧ agr c k (p_hab c k a b t).2.2 (p_hab c k a b u).2.2 := by
  have un := agr_undo (n := p_unby t b) h
  rw [p_hab, p_hab, h 9 (by omega), agr_unby h, agr_who un k 0 (by omega)]
  split
  · split
    · exact agr_go hc _ _ _ _ un
    · exact ⟨rfl, rfl, un⟩
  · exact agr_go hc _ _ _ _ h
theorem agr_hold {v : Int32} (h : agr c k t u) (hc : 1 ≤ c) : p_hold c k a b u v = p_hold c k a b t v := by
  obtain ⟨e1, e2, e3⟩ := agr_hab (a := a) (b := b) h hc
  rw [p_hold, p_hold, p_habw, p_habw, e1, e2, agr_who e3 k 0 (by omega)]
theorem agr_lg {v : Int32} (h : agr c k t u) (hc : 1 ≤ c) : p_lg c k u v = p_lg c k t v := by
  have e : p_hf c k u = p_hf c k t := funext fun j => (agr_hab h hc).2.1
  rw [p_lg, p_lg, e]
theorem agr_kn {s : Nat} (hc : 1 ≤ c) (hs : s < k) : ∀ m d (t u : Nat → Int32), agr c k t u → p_kn c k s a b m d u = p_kn c k s a b m d t
  | 0, _, _, _, _ => rfl
  | m + 1, d, t, u, h => by
    have e1 : u 0 - u 10 = t 0 - t 10 := by rw [h 0 (by omega), h 10 (by omega)]
    rw [p_kn, p_kn, e1, agr_wants h, agr_yl h]
    generalize p_min a (t 0 - t 10) = n
    have ev := agr_eve (agr_wv (n := n) h) hc
    generalize p_eve c k (p_weaves t n) = t3 at ev ⊢
    generalize p_eve c k (p_weaves u n) = u3 at ev ⊢
    rw [ev (33 + s) (by omega), ev (38 + s) (by omega), ev 10 (by omega), ev 0 (by omega), agr_unby ev]
    have un := agr_undo (n := p_unby t3 b) ev
    rw [un (33 + s) (by omega), un (38 + s) (by omega), agr_kn hc hs m (d + 1) _ _ un]
theorem agr_kb {s : Nat} (h : agr c k t u) (hc : 1 ≤ c) (hs : s < k) : p_kb c k s a b u = p_kb c k s a b t := by
  have un := agr_undo (n := p_unby t b) h
  rw [p_kb, p_kb, h 9 (by omega), agr_unby h, un (33 + s) (by omega), un (38 + s) (by omega), agr_kn hc hs _ _ _ _ un, agr_kn hc hs _ _ _ _ h]
theorem agr_soon {s : Nat} {v : Int32} (h : agr c k t u) (hc : 1 ≤ c) (hs : s < k) : p_soon c k s a b u v = p_soon c k s a b t v := by
  have e : p_sof c k s a b u = p_sof c k s a b t := funext fun e => by
    have g : agr c k (upd t (28 + s) (nI e)) (upd u (28 + s) (nI e)) := agr_upd h
    rw [p_sof, p_sof, p_kn0, p_kn0, g (33 + s) (by omega), g (38 + s) (by omega), agr_kb g hc hs]
  rw [p_soon, p_soon, e]
theorem agr_alk {i j : Nat} (h : agr c k t u) (hc : 1 ≤ c) : ∀ n s, alk u c i j n s = alk t c i j n s
  | 0, _ => rfl
  | n + 1, s => by rw [alk, alk, agr_col h hc, agr_col h hc, agr_alk h hc n (s + 1)]
theorem agr_two {L : Nat} {v : Int32} (h : agr c k t u) (hc : 1 ≤ c) : p_two u c L v = p_two t c L v := by
  have e : (fun i j => alk u c i j (L - j) 0) = fun i j => alk t c i j (L - j) 0 := funext fun i => funext fun j => agr_alk h hc _ _
  rw [p_two, p_two, p_tw, p_tw, e]
theorem agr_sameB {x y : Nat} (h : agr c k t u) (hc : 1 ≤ c) : ∀ n, sameB u c x y n = sameB t c x y n
  | 0 => rfl
  | n + 1 => by rw [sameB, sameB, agr_sameB h hc n, agr_col h hc, agr_col h hc]
theorem agr_len {H n : Nat} (h : agr c k t u) (hc : 1 ≤ c) : ∀ m j, p_len u c H n m j = p_len t c H n m j
  | 0, _ => rfl
  | m + 1, j => by rw [p_len, p_len, agr_sameB h hc, agr_len h hc m (j + 1)]
theorem agr_suit {s : Nat} {v : Int32} (h : agr c k t u) (hs : s < k) : p_suit u s v = p_suit t s v := by
  rw [p_suit, p_suit, h (28 + s) (by omega), h (33 + s) (by omega), h (38 + s) (by omega), h (43 + s) (by omega)]
theorem agr_count {N A P : Nat} {v : Int32} (h : agr c k t u) : p_count N u k A P v = p_count N t k A P v := by
  rw [p_count, p_count, h 0 (by omega), h 6 (by omega), h 7 (by omega), h 8 (by omega), agr_set h k 0 0 (by omega)]
theorem agr_cloth {st v : Int32} (h : agr c k t u) : p_cloth st u v = p_cloth st t v := by
  rw [p_cloth, p_cloth, h 10 (by omega), h 11 (by omega), h 12 (by omega), agr_yl h, h 13 (by omega), h 9 (by omega), h 0 (by omega)]
theorem agr_se1 {x : Nat → Int32} {i : Nat} {S : Int32 × Int32 × Int32} (h : agr c k t u) : p_se1 u x i S = p_se1 t x i S := by
  rw [p_se1, p_se1, p_mo, p_mo, h 2 (by omega), h 3 (by omega), h 8 (by omega)]
theorem agr_se {x : Nat → Int32} (h : agr c k t u) : ∀ m i S, p_se u x m i S = p_se t x m i S
  | 0, _, _ => rfl
  | m + 1, i, S => by rw [p_se, p_se, agr_se1 h, agr_se h m (i + 1)]
theorem agr_sees {f : Nat → Int32} {I N : Nat} (h : agr c k t u) : p_sees u f I N = p_sees t f I N := by
  rw [p_sees, p_sees, agr_se h, p_w0, p_w0, h 9 (by omega), h 10 (by omega)]
theorem agr_okP {D : Nat} (h : agr c k t u) (ho : okP D c k t) : okP D c k u := by
  obtain ⟨⟨⟨ln, c', k', H, Hi, D', ⟨o0, o1, o2⟩, ⟨o3, o4, o5⟩, ⟨o6, o7⟩, ⟨o8, o9, o10, o11⟩, ⟨o12, o13, o14⟩, o15, o16, o17, o18, o19, o20, o21, o22, o23, o24, o25, o26⟩, ⟨k2, e8, e7, hk2, ⟨B, eB, hB⟩, hd⟩, d1, d2⟩, p6, p1, p8, p7, p5⟩ := ho
  have ek : k' = k := (nI_eq (by omega) (by omega)).mp (o6.symm.trans p7)
  have ek2 : k2 = k := (nI_eq (by omega) (by omega)).mp (e7.symm.trans p7)
  have ec : c' = c := (nI_eq (by omega) (by omega)).mp (o3.symm.trans p6)
  subst ek
  subst ek2
  subst ec
  have qq : q9 u = q9 t := by rw [q9, q9, h 9 (by omega)]
  refine ⟨⟨⟨ln, c', k2, H, Hi, D', ⟨(h _ (by omega)).trans o0, o1, o2⟩, ⟨(h _ (by omega)).trans o3, o4, o5⟩, ⟨(h _ (by omega)).trans o6, o7⟩, ⟨(h _ (by omega)).trans o8, (h _ (by omega)).trans o9, o10, o11⟩, ⟨(h _ (by omega)).trans o12, o13, o14⟩, ?_, ?_, ?_, ?_, ?_, ?_, ?_, ?_, ?_, ?_, ?_, ?_⟩, ⟨k2, (h _ (by omega)).trans e8, (h _ (by omega)).trans e7, hk2, ⟨B, (h _ (by omega)).trans eB, by rw [qq]; exact hB⟩, fun i hi => ?_⟩, d1, d2⟩, (h _ (by omega)).trans p6, p1, p8, (h _ (by omega)).trans p7, p5⟩
  · rw [h _ (by omega)]; exact o15
  · rw [h _ (by omega)]; exact o16
  · rw [h _ (by omega)]; exact o17
  · rw [h _ (by omega)]; exact o18
  · rw [h _ (by omega)]; exact o19
  · rw [h _ (by omega)]; exact o20
  · rw [h _ (by omega)]; exact o21
  · rw [agr_yl h]; exact o22
  · rw [h _ (by omega)]; exact o23
  · rw [h _ (by omega)]; exact o24
  · intro i hi
    rw [h _ (by omega)]; exact o25 i hi
  · intro i hi
    rw [h (23 + i) (by omega), h (28 + i) (by omega), h (33 + i) (by omega), h (38 + i) (by omega), h (43 + i) (by omega)]
    exact o26 i hi
  · rw [qq, h (38 + i) (by omega), h (23 + i) (by omega)]
    exact hd i hi
end

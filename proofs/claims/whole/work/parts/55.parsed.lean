/-! what a parsed row keeps -/
section
variable {T : Nat → Int32} {P j k i so : Nat} {lo hi : Int32} {x y : PR}
theorem ent_ok (h : isOk (pEnt T P lo hi j y).1) : (lo ≤ (pEnt T P lo hi j y).2 j ∧ (pEnt T P lo hi j y).2 j ≤ hi) ∧ isOk y.1 := by
  obtain ⟨q, h⟩ := h
  rw [pEnt] at h
  dsimp only at h
  obtain ⟨p, e, _, _, h2, h3⟩ := num_ok h
  have ev : (pEnt T P lo hi j y).2 j = pVal T P y.1 := by rw [pEnt]; exact pk_us
  rw [ev]
  exact ⟨⟨h2, h3⟩, p, e⟩
theorem sg_ok (h : isOk (pSg T P k y).1) : isOk y.1 := sgn_ok h
theorem lw_ok (h : isOk (pLw T P x).1) : (4 ≤ (pLw T P x).2 0 ∧ (pLw T P x).2 0 ≤ 24) ∧ (0 ≤ (pLw T P x).2 1 ∧ (pLw T P x).2 1 ≤ 99) ∧ (0 ≤ (pLw T P x).2 2 ∧ (pLw T P x).2 2 ≤ 9) ∧ (0 ≤ (pLw T P x).2 3 ∧ (pLw T P x).2 3 ≤ 9) ∧ (0 ≤ (pLw T P x).2 4 ∧ (pLw T P x).2 4 ≤ 9) ∧ (0 ≤ (pLw T P x).2 5 ∧ (pLw T P x).2 5 ≤ 9) := by
  rw [pLw] at h ⊢
  have h5 := ent_ok (sg_ok h)
  have h4 := ent_ok (sg_ok h5.2)
  have h3 := ent_ok (sg_ok h4.2)
  have h2 := ent_ok (sg_ok h3.2)
  have h1 := ent_ok (sg_ok h2.2)
  have h0 := ent_ok (sg_ok h1.2)
  refine ⟨?_, ?_, ?_, ?_, ?_, ?_⟩
  · rw [sg_n, ent_n (by omega), sg_n, ent_n (by omega), sg_n, ent_n (by omega), sg_n, ent_n (by omega), sg_n, ent_n (by omega), sg_n]; exact h0.1
  · rw [sg_n, ent_n (by omega), sg_n, ent_n (by omega), sg_n, ent_n (by omega), sg_n, ent_n (by omega), sg_n]; exact h1.1
  · rw [sg_n, ent_n (by omega), sg_n, ent_n (by omega), sg_n, ent_n (by omega), sg_n]; exact h2.1
  · rw [sg_n, ent_n (by omega), sg_n, ent_n (by omega), sg_n]; exact h3.1
  · rw [sg_n, ent_n (by omega), sg_n]; exact h4.1
  · rw [sg_n]; exact h5.1
theorem col_ok : ∀ m k (x : PR), m + k = 9 → k ≤ 8 → x.2 6 = nI k → (∀ s, s < k → 0 ≤ x.2 (15 + s) ∧ x.2 (15 + s) ≤ 3) → isOk (p_col T P m k x).1 → isOk x.1 ∧ ∃ c, 1 ≤ c ∧ c ≤ 8 ∧ (p_col T P m k x).2 6 = nI c ∧ ∀ s, s < c → 0 ≤ (p_col T P m k x).2 (15 + s) ∧ (p_col T P m k x).2 (15 + s) ≤ 3
  | 0, _, _, h, h8, _, _, _ => by omega
  | m + 1, k, x, hm, h8, h6, hs, ok => by
    rw [p_col] at ok ⊢
    by_cases q8 : k = 8
    · rw [if_pos q8] at ok
      obtain ⟨p, ok⟩ := ok
      dsimp only at ok
      cases hc : pChk T P 0 3 x.1 with
      | inl z => rw [hc] at ok; cases ok
      | inr z => rw [hc] at ok; cases ok
    · rw [if_neg q8] at ok ⊢
      have g6 : upd (upd x.2 (15 + k) (pVal T P x.1)) 6 (nI (k + 1)) 6 = nI (k + 1) := pk_us
      cases hn : pNum T P 0 3 x.1 with
      | inr z =>
        rw [hn] at ok
        obtain ⟨p, ok⟩ := ok
        cases ok
      | inl p =>
        rw [hn] at ok
        obtain ⟨p0, e0, _, _, v1, v2⟩ := num_ok hn
        have gs : ∀ s, s < k + 1 → 0 ≤ upd (upd x.2 (15 + k) (pVal T P x.1)) 6 (nI (k + 1)) (15 + s) ∧ upd (upd x.2 (15 + k) (pVal T P x.1)) 6 (nI (k + 1)) (15 + s) ≤ 3 := by
          intro s hs2
          rw [pk_un (by omega)]
          by_cases q : s = k
          · subst q; rw [pk_us]; exact ⟨v1, v2⟩
          · rw [pk_un (by omega)]; exact hs s (by omega)
        refine ⟨⟨p0, e0⟩, ?_⟩
        dsimp only at ok ⊢
        generalize upd (upd x.2 (15 + k) (pVal T P x.1)) 6 (nI (k + 1)) = r at ok g6 gs ⊢
        by_cases q3 : (tk T P p).1 = 3
        · rw [if_pos q3] at ok ⊢
          exact (col_ok m (k + 1) _ (by omega) (by omega) g6 gs ok).2
        · rw [if_neg q3]
          exact ⟨k + 1, by omega, by omega, g6, gs⟩
theorem su1_n {j : Nat} (h7 : j ≠ 7) (h23 : j ≠ 23 + i) (h28 : j ≠ 28 + i) (h33 : j ≠ 33 + i) : (p_su1 T P i so x).2 j = x.2 j := by
  rw [p_su1]
  dsimp only
  rw [pk_un h7, sg_n, ent_n h33, sg_n, ent_n h28]
  exact pk_un h23
theorem su1_ok (hi : i < 5) (h : isOk (p_su1 T P i so x).1) : isOk x.1 ∧ (p_su1 T P i so x).2 (23 + i) = nI so ∧ (1 ≤ (p_su1 T P i so x).2 (28 + i) ∧ (p_su1 T P i so x).2 (28 + i) ≤ 9) ∧ (1 ≤ (p_su1 T P i so x).2 (33 + i) ∧ (p_su1 T P i so x).2 (33 + i) ≤ 9) := by
  rw [p_su1] at h ⊢
  dsimp only at h ⊢
  have h1 := ent_ok (sg_ok h)
  have h2 := ent_ok (sg_ok h1.2)
  refine ⟨h2.2, ?_, ?_, ?_⟩
  · rw [pk_un (by omega), sg_n, ent_n (by omega), sg_n, ent_n (by omega)]; exact pk_us
  · rw [pk_un (by omega), sg_n, ent_n (by omega), sg_n]; exact h2.1
  · rw [pk_un (by omega), sg_n]; exact h1.1
def suG (r : Nat → Int32) (s : Nat) : Prop := (1 ≤ r (23 + s) ∧ r (23 + s) ≤ 5) ∧ (1 ≤ r (28 + s) ∧ r (28 + s) ≤ 9) ∧ (1 ≤ r (33 + s) ∧ r (33 + s) ≤ 9)
theorem sui_ok : ∀ m i (x : PR), m + i = 6 → i ≤ 5 → x.2 7 = nI i → (∀ s, s < i → suG x.2 s) → isOk (p_sui T P m i x).1 → isOk x.1 ∧ ∃ k, k ≤ 5 ∧ (p_sui T P m i x).2 7 = nI k ∧ ∀ s, s < k → suG (p_sui T P m i x).2 s
  | 0, _, _, h, h5, _, _, _ => by omega
  | m + 1, i, x, hm, h5, h7, hs, ok => by
    obtain ⟨s, r⟩ := x
    rcases s with p | z
    · refine ⟨⟨p, rfl⟩, ?_⟩
      rw [p_sui] at ok ⊢
      dsimp only at ok ⊢ h7 hs
      by_cases q0 : (tk T P p).1 = 0
      · rw [if_pos q0]
        exact ⟨i, h5, h7, hs⟩
      · rw [if_neg q0] at ok ⊢
        by_cases qs : p_so1 T P p = 0
        · rw [if_pos qs] at ok
          obtain ⟨_, ok⟩ := ok
          cases ok
        · rw [if_neg qs] at ok ⊢
          by_cases q5 : i = 5
          · rw [if_pos q5] at ok
            obtain ⟨_, ok⟩ := ok
            cases ok
          · rw [if_neg q5] at ok ⊢
            have so5 := so1_le (T := T) (P := P) (p := p)
            by_cases ok2 : isOk (p_su1 T P i (p_so1 T P p) (.inl (tk T P p).2.2, r)).1
            · obtain ⟨_, a1, a2, a3⟩ := su1_ok (by omega) ok2
              refine (sui_ok m (i + 1) _ (by omega) (by omega) su1_7 (fun s hs2 => ?_) ok).2
              by_cases q : s = i
              · subst q
                refine ⟨?_, a2, a3⟩
                rw [a1]
                exact ⟨by rw [show (1 : Int32) = nI 1 by decide]; exact nI_le (by omega) (by omega), by rw [show (5 : Int32) = nI 5 by decide]; exact nI_le so5 (by omega)⟩
              · have hh := hs s (by omega)
                rw [suG, su1_n (by omega) (by omega) (by omega) (by omega), su1_n (by omega) (by omega) (by omega) (by omega), su1_n (by omega) (by omega) (by omega) (by omega)]
                exact hh
            · rw [sui_bad ok2] at ok
              exact absurd ok ok2
    · rw [sui_bad (fun ⟨_, q⟩ => by cases q)] at ok
      obtain ⟨_, ok⟩ := ok
      cases ok
theorem sui_n {j : Nat} (h7 : j ≠ 7) (hj : j < 23 ∨ 38 ≤ j) : ∀ m i (x : PR), m + i ≤ 6 → (p_sui T P m i x).2 j = x.2 j
  | 0, _, _, _ => rfl
  | m + 1, i, x, hm => by
    rw [p_sui]
    split
    · rfl
    · split
      · rfl
      · split
        · rfl
        · split
          · rfl
          · rename_i q5
            rw [sui_n h7 hj m (i + 1) _ (by omega), su1_n h7 (by omega) (by omega) (by omega)]
end

/-! PART 05: inversions; entry; locals -/
theorem nl_i1_inv {st : List Value} {k : Int32 → List Value → Prop} (h : nl_i1 st k) : ∃ x st', st = .int x :: st' ∧ k x st' := by
  unfold nl_i1 at h
  split at h
  · exact ⟨_, _, rfl, h⟩
  · exact h.elim
theorem nl_i2_inv {st : List Value} {k : Int32 → Int32 → List Value → Prop} (h : nl_i2 st k) : ∃ x y st', st = .int y :: .int x :: st' ∧ k x y st' := by
  unfold nl_i2 at h
  split at h
  · exact ⟨_, _, _, rfl, h⟩
  · exact h.elim
theorem nl_l1_inv {st : List Value} {k : Int64 → List Value → Prop} (h : nl_l1 st k) : ∃ x st', st = .long x :: st' ∧ k x st' := by
  unfold nl_l1 at h
  split at h
  · exact ⟨_, _, rfl, h⟩
  · exact h.elim
theorem nl_l2_inv {st : List Value} {k : Int64 → Int64 → List Value → Prop} (h : nl_l2 st k) : ∃ x y st', st = .long y :: .long x :: st' ∧ k x y st' := by
  unfold nl_l2 at h
  split at h
  · exact ⟨_, _, _, rfl, h⟩
  · exact h.elim
theorem nl_d1_inv {st : List Value} {k : Value → List Value → Prop} (h : nl_d1 st k) : ∃ x st', st = x :: st' ∧ nl_c1 x = true ∧ k x st' := by
  unfold nl_d1 at h
  split at h
  · exact ⟨_, _, rfl, h⟩
  · exact h.elim
theorem nl_d2_inv {st : List Value} {k : Value → Value → List Value → Prop} (h : nl_d2 st k) : ∃ x y st', st = x :: y :: st' ∧ nl_c1 x = true ∧ nl_c1 y = true ∧ k x y st' := by
  unfold nl_d2 at h
  split at h
  · exact ⟨_, _, _, rfl, h⟩
  · exact h.elim
theorem nl_stR_inv {st : List Value} {k : Value → List Value → Prop} (h : nl_stR st k) : ∃ x st', st = x :: st' ∧ ((∃ a, x = .ref a) ∨ ∃ a, x = .float a) ∧ k x st' := by
  unfold nl_stR at h
  split at h
  · exact ⟨_, _, rfl, Or.inl ⟨_, rfl⟩, h⟩
  · exact ⟨_, _, rfl, Or.inr ⟨_, rfl⟩, h⟩
  · exact h.elim
theorem nl_ldI_inv {ls : List Value} {a : Nat} {K : Value → Prop} (h : nl_ldI ls a K) : ∃ x, nl_nth ls a = some (.int x) ∧ K (.int x) := by
  unfold nl_ldI at h
  split at h
  · rename_i hq; exact ⟨_, hq, h⟩
  · exact h.elim
theorem nl_ldL_inv {ls : List Value} {a : Nat} {K : Value → Prop} (h : nl_ldL ls a K) : ∃ x, nl_nth ls a = some (.long x) ∧ K (.long x) := by
  unfold nl_ldL at h
  split at h
  · rename_i hq; exact ⟨_, hq, h⟩
  · exact h.elim
theorem nl_ldR_inv {ls : List Value} {a : Nat} {K : Value → Prop} (h : nl_ldR ls a K) : ∃ x, nl_nth ls a = some x ∧ ((∃ a, x = .ref a) ∨ ∃ a, x = .float a) ∧ K x := by
  unfold nl_ldR at h
  split at h
  · rename_i hq; exact ⟨_, hq, Or.inl ⟨_, rfl⟩, h⟩
  · rename_i hq; exact ⟨_, hq, Or.inr ⟨_, rfl⟩, h⟩
  · exact h.elim
theorem nl_gf_inv {c k : Nat} {h : va_E} {K : Value → Prop} (q : nl_gf c k h K) : ∃ fs v, h = .inr (c, fs) ∧ nl_nth fs k = some v ∧ K v := by
  unfold nl_gf at q
  split at q
  · obtain ⟨rfl, q⟩ := q
    split at q
    · rename_i hq; exact ⟨_, _, rfl, hq, q⟩
    · exact q.elim
  · exact q.elim
theorem nl_pf_inv {c k : Nat} {h : va_E} {v : Value} {K : va_E → Prop} (q : nl_pf c k h v K) : ∃ fs, h = .inr (c, fs) ∧ k < fs.length ∧ K (.inr (c, fs.set k v)) := by
  unfold nl_pf at q
  split at q
  · obtain ⟨rfl, q1, q2⟩ := q
    exact ⟨_, rfl, q1, q2⟩
  · exact q.elim
theorem nl_al_inv {t : Nat} {h : va_E} {i : Int32} {K : Int32 → Prop} (q : nl_al t h i K) : ∃ n f, h = .inl (t, n, .inl f) ∧ vp_in i n ∧ K (f i.toNatClampNeg) := by
  unfold nl_al at q
  split at q
  · obtain ⟨rfl, q1, q2⟩ := q
    exact ⟨_, _, rfl, q1, q2⟩
  · exact q.elim
theorem nl_as_inv {t : Nat} {h : va_E} {i x : Int32} {K : va_E → Prop} (q : nl_as t h i x K) : ∃ n f, h = .inl (t, n, .inl f) ∧ vp_in i n ∧ K (.inl (t, n, .inl (upd f i.toNatClampNeg x))) := by
  unfold nl_as at q
  split at q
  · obtain ⟨rfl, q1, q2⟩ := q
    exact ⟨_, _, rfl, q1, q2⟩
  · exact q.elim
theorem nl_rl_inv {t : Nat} {h : va_E} {i : Int32} {K : Nat → Prop} (q : nl_rl t h i K) : ∃ n f a, h = .inl (t, n, .inr (.inr (.inr (.inr f)))) ∧ vp_in i n ∧ f i.toNatClampNeg = some a ∧ K a := by
  unfold nl_rl at q
  split at q
  · obtain ⟨rfl, q1, q2⟩ := q
    split at q2
    · rename_i hq; exact ⟨_, _, _, rfl, q1, hq, q2⟩
    · exact q2.elim
  · exact q.elim
theorem nl_rs_inv {t : Nat} {h : va_E} {i : Int32} {a : Nat} {K : va_E → Prop} (q : nl_rs t h i a K) : ∃ n f, h = .inl (t, n, .inr (.inr (.inr (.inr f)))) ∧ vp_in i n ∧ K (.inl (t, n, .inr (.inr (.inr (.inr (va_up f i.toNatClampNeg (some a))))))) := by
  unfold nl_rs at q
  split at q
  · obtain ⟨rfl, q1, q2⟩ := q
    exact ⟨_, _, rfl, q1, q2⟩
  · exact q.elim
theorem nl_io_inv {c : Nat} {h : va_E} (q : nl_io c h) : ∃ fs, h = .inr (c, fs) := by
  unfold nl_io at q
  split at q
  · subst q; exact ⟨_, rfl⟩
  · exact q.elim
theorem nl_cp_inv {h0 h1 : va_E} {i j n : Int32} {K : va_E → Prop} (q : nl_cp h0 h1 i j n K) : ∃ n0 f n1 g, h0 = .inl (0, n0, .inl f) ∧ h1 = .inl (0, n1, .inl g) ∧ ¬ i < 0 ∧ ¬ j < 0 ∧ ¬ n < 0 ∧ i.toNatClampNeg + n.toNatClampNeg ≤ n0 ∧ j.toNatClampNeg + n.toNatClampNeg ≤ n1 ∧ K (.inl (0, n1, .inl (va_cpy f g i.toNatClampNeg j.toNatClampNeg n.toNatClampNeg))) := by
  unfold nl_cp at q
  split at q
  · obtain ⟨rfl, rfl, q⟩ := q
    exact ⟨_, _, _, _, rfl, rfl, q⟩
  · exact q.elim
theorem nl_ix_inv {st : List Value} {kr : Int32 → Nat → List Value → Prop} {kc : Int32 → UInt32 → List Value → Prop} (h : nl_ix st kr kc) : (∃ i a st', st = .int i :: .ref a :: st' ∧ kr i a st') ∨ ∃ i x st', st = .int i :: .float x :: st' ∧ kc i x st' := by
  unfold nl_ix at h
  split at h
  · exact Or.inl ⟨_, _, _, rfl, h⟩
  · exact Or.inr ⟨_, _, _, rfl, h⟩
  · exact h.elim
theorem nl_cl_inv {k : List Value → List Value → Prop} : ∀ (n : Nat) (st acc : List Value), nl_cl n st acc k → ∃ as rest, as.length = n ∧ st = as ++ rest ∧ k (as.reverse ++ acc) rest
  | 0, st, acc, h => ⟨[], st, rfl, rfl, h⟩
  | n + 1, v :: st, acc, h => by
    obtain ⟨as, rest, h1, h2, h3⟩ := nl_cl_inv n st (v :: acc) h
    exact ⟨v :: as, rest, by simp [h1], by simp [h2], by simpa using h3⟩
theorem nl_ok4_le {G : nl_G} {st : List Value} (h : nl_ok4 st = true) : ((st.map (nl_tv G)).map fun v => v.category).sum ≤ 8 := by
  have hc : ∀ v : Value, v.category ≤ 2 := fun v => by cases v <;> simp [Value.category]
  unfold nl_ok4 at h
  split at h
  · simp
  · rename_i a; have := hc (nl_tv G a); simp; omega
  · rename_i a b; have := hc (nl_tv G a); have := hc (nl_tv G b); simp; omega
  · rename_i a b c; have := hc (nl_tv G a); have := hc (nl_tv G b); have := hc (nl_tv G c); simp; omega
  · rename_i a b c d; have := hc (nl_tv G a); have := hc (nl_tv G b); have := hc (nl_tv G c); have := hc (nl_tv G d); simp; omega
  · cases h
theorem nl_lvl_mem {G : nl_G} : ∀ (L : List Value) (i : Nat) (q : Nat × Value), q ∈ nl_lvl G i L → ∃ j v, nl_nth L j = some v ∧ (∀ x, v ≠ .retAddr x) ∧ q = (i + j, nl_tv G v)
  | [], i, q, h => by simp [nl_lvl] at h
  | v :: L, i, q, h => by
    have step : q ∈ nl_lvl G (i + 1) L → ∃ j u, nl_nth (v :: L) j = some u ∧ (∀ x, u ≠ .retAddr x) ∧ q = (i + j, nl_tv G u) := fun h => by
      obtain ⟨j, u, h1, h2, h3⟩ := nl_lvl_mem L (i + 1) q h
      exact ⟨j + 1, u, h1, h2, by rw [h3]; congr 1; omega⟩
    cases v with
    | retAddr x => exact step h
    | _ =>
      rcases List.mem_cons.mp h with rfl | h
      · exact ⟨0, _, rfl, (fun x hx => by cases hx), rfl⟩
      · exact step h
theorem nl_lvl_in {G : nl_G} : ∀ (L : List Value) (i j : Nat) (v : Value), nl_nth L j = some v → (∀ x, v ≠ .retAddr x) → (i + j, nl_tv G v) ∈ nl_lvl G i L
  | [], i, j, v, h, _ => by simp [nl_nth] at h
  | u :: L, i, 0, v, h, hv => by
    have e : u = v := Option.some.inj h
    subst e
    cases u with
    | retAddr x => exact absurd rfl (hv x)
    | _ => exact List.mem_cons_self
  | u :: L, i, j + 1, v, h, hv => by
    have h1 := nl_lvl_in (G := G) L (i + 1) j v h hv
    rw [show i + 1 + j = i + (j + 1) by omega] at h1
    cases u with
    | retAddr x => exact h1
    | _ => exact List.mem_cons_of_mem _ h1
theorem nl_lv_at {G : nl_G} {la : Array Slot} {ls : List Value} {nL j : Nat} {v : Value} (h : nl_lv G la ls nL) (hj : nl_nth ls j = some v) (hv : ∀ x, v ≠ .retAddr x) : la[j]? = some (.val (nl_tv G v)) := by
  have := h.2.2 _ (nl_lvl_in (G := G) ls 0 j v hj hv)
  simpa using this
theorem nl_nth_set : ∀ (L : List Value) (k : Nat) (v : Value), nl_nth (nl_set L k v) k = some v
  | [], 0, v => rfl
  | [], k + 1, v => nl_nth_set [] k v
  | _ :: _, 0, v => rfl
  | _ :: L, k + 1, v => nl_nth_set L k v
theorem nl_nth_set_ne : ∀ (L : List Value) (k j : Nat) (v u : Value), j ≠ k → nl_nth (nl_set L k v) j = some u → nl_nth L j = some u ∨ u = .retAddr 0
  | [], 0, 0, v, u, h, _ => absurd rfl h
  | [], 0, j + 1, v, u, h, q => by simp [nl_set, nl_nth] at q
  | [], k + 1, 0, v, u, h, q => by simp only [nl_set, nl_nth] at q; cases q; exact Or.inr rfl
  | [], k + 1, j + 1, v, u, h, q => by
    rcases nl_nth_set_ne [] k j v u (by omega) q with h1 | h1
    · simp [nl_nth] at h1
    · exact Or.inr h1
  | x :: L, 0, 0, v, u, h, _ => absurd rfl h
  | x :: L, 0, j + 1, v, u, h, q => Or.inl q
  | x :: L, k + 1, 0, v, u, h, q => Or.inl q
  | x :: L, k + 1, j + 1, v, u, h, q => nl_nth_set_ne L k j v u (by omega) q
theorem nl_pk_no {G : nl_G} {ls : List Value} {k j : Nat} (h : nl_pk ls k = true) (hj : j + 1 = k) {u : Value} (hu : nl_nth ls j = some u) : (nl_tv G u).category ≠ 2 := by
  subst hj
  simp only [nl_pk, hu] at h
  cases u <;> simp [nl_tv, Value.category] at h ⊢
theorem nl_store1 {G : nl_G} {la : Array Slot} {ls : List Value} {nL k : Nat} {v : Value} (h : nl_lv G la ls nL) (hk : k < nL) (hc : (nl_tv G v).category = 1) (hp : nl_pk ls k = true) :
    ∃ la', storeLocals la k (nl_tv G v) = some la' ∧ nl_lv G la' (nl_set ls k v) nL := by
  obtain ⟨la', h1, h2⟩ := lv_store1 h hk hc
  refine ⟨la', h1, h2.1, h2.2.1, fun q hq => h2.2.2 q ?_⟩
  obtain ⟨j, u, a1, a2, a3⟩ := nl_lvl_mem _ _ _ hq
  rw [Nat.zero_add] at a3
  subst a3
  by_cases hjk : j = k
  · subst hjk
    rw [nl_nth_set] at a1
    cases a1
    exact List.mem_cons_self
  · rcases nl_nth_set_ne _ _ _ _ _ hjk a1 with b1 | b1
    · refine List.mem_cons_of_mem _ (List.mem_filter.mpr ⟨?_, ?_⟩)
      · have := nl_lvl_in (G := G) ls 0 j u b1 a2
        rwa [Nat.zero_add] at this
      · have n1 : (j == k) = false := by simpa using hjk
        by_cases hj1 : j + 1 = k
        · have := nl_pk_no (G := G) hp hj1 b1
          simp [n1, this]
        · simp [n1, hj1]
    · exact absurd b1 (a2 0)
theorem nl_store2 {G : nl_G} {la : Array Slot} {ls : List Value} {nL k : Nat} {x : Int64} (h : nl_lv G la ls nL) (hk : k + 1 < nL) (hp : nl_pk ls k = true) :
    ∃ la', storeLocals la k (.long x) = some la' ∧ nl_lv G la' (nl_set (nl_set ls k (.long x)) (k + 1) (.retAddr 0)) nL := by
  obtain ⟨la', h1, h2⟩ := lv_store2 (v := .long x) h hk rfl
  refine ⟨la', h1, h2.1, h2.2.1, fun q hq => h2.2.2 q ?_⟩
  obtain ⟨j, u, a1, a2, a3⟩ := nl_lvl_mem _ _ _ hq
  rw [Nat.zero_add] at a3
  subst a3
  by_cases hjk1 : j = k + 1
  · subst hjk1
    rw [nl_nth_set] at a1
    cases a1
    exact absurd rfl (a2 0)
  · rcases nl_nth_set_ne _ _ _ _ _ hjk1 a1 with b1 | b1
    · by_cases hjk : j = k
      · subst hjk
        rw [nl_nth_set] at b1
        cases b1
        exact List.mem_cons_self
      · rcases nl_nth_set_ne _ _ _ _ _ hjk b1 with b1 | b1
        · refine List.mem_cons_of_mem _ (List.mem_filter.mpr ⟨?_, ?_⟩)
          · have := nl_lvl_in (G := G) ls 0 j u b1 a2
            rwa [Nat.zero_add] at this
          · have n1 : (j == k) = false := by simpa using hjk
            have n2 : (j == k + 1) = false := by simpa using hjk1
            by_cases hj1 : j + 1 = k
            · have := nl_pk_no (G := G) hp hj1 b1
              simp [n1, n2, this]
            · simp [n1, n2, hj1]
        · exact absurd b1 (a2 0)
    · exact absurd b1 (a2 0)
def nl_ent : List Value → List Value
  | [] => []
  | .long x :: l => .long x :: .retAddr 0 :: nl_ent l
  | v :: l => v :: nl_ent l
def nl_okv : Value → Bool
  | .int _ => true
  | .long _ => true
  | .ref _ => true
  | .float _ => true
  | _ => false
theorem nl_ent_args {G : nl_G} : ∀ (av : List Value) (i : Nat), av.all nl_okv = true → nl_lvl G i (nl_ent av) = lv_args i (av.map (nl_tv G))
  | [], i, _ => rfl
  | v :: l, i, h => by
    rw [List.all_cons, Bool.and_eq_true] at h
    cases v with
    | long x =>
      have ih := nl_ent_args (G := G) l (i + 2) h.2
      show (i, Value.long x) :: nl_lvl G (i + 1 + 1) (nl_ent l) = (i, Value.long x) :: lv_args (i + 2) (l.map (nl_tv G))
      rw [ih]
    | int x =>
      have ih := nl_ent_args (G := G) l (i + 1) h.2
      show (i, Value.int x) :: nl_lvl G (i + 1) (nl_ent l) = (i, Value.int x) :: lv_args (i + 1) (l.map (nl_tv G))
      rw [ih]
    | ref x =>
      have ih := nl_ent_args (G := G) l (i + 1) h.2
      show (i, Value.ref (G.1 + x)) :: nl_lvl G (i + 1) (nl_ent l) = (i, Value.ref (G.1 + x)) :: lv_args (i + 1) (l.map (nl_tv G))
      rw [ih]
    | float x =>
      have ih := nl_ent_args (G := G) l (i + 1) h.2
      show (i, Value.ref (G.2.1 x).1) :: nl_lvl G (i + 1) (nl_ent l) = (i, Value.ref (G.2.1 x).1) :: lv_args (i + 1) (l.map (nl_tv G))
      rw [ih]
    | double x => simp [nl_okv] at h
    | null => simp [nl_okv] at h
    | retAddr x => simp [nl_okv] at h
theorem nl_ent_len {G : nl_G} : ∀ (av : List Value), av.all nl_okv = true → (lg_sl (av.map (nl_tv G))).length = (nl_ent av).length
  | [], _ => rfl
  | v :: l, h => by
    rw [List.all_cons, Bool.and_eq_true] at h
    have ih := nl_ent_len (G := G) l h.2
    have e : ∀ u : Value, (lg_sl (u :: l.map (nl_tv G))).length = (if u.category = 2 then 2 else 1) + (lg_sl (l.map (nl_tv G))).length := fun u => by
      unfold lg_sl
      rw [List.flatMap_cons, List.length_append]
      split <;> rfl
    cases v with
    | long x => rw [List.map_cons, e, ih]; simp [nl_ent, nl_tv, Value.category]; omega
    | int x => rw [List.map_cons, e, ih]; simp [nl_ent, nl_tv, Value.category]; omega
    | ref x => rw [List.map_cons, e, ih]; simp [nl_ent, nl_tv, Value.category]; omega
    | float x => rw [List.map_cons, e, ih]; simp [nl_ent, nl_tv, Value.category]; omega
    | double x => simp [nl_okv] at h
    | null => simp [nl_okv] at h
    | retAddr x => simp [nl_okv] at h
/-- a contract out of the walk of the body -/
theorem nl_sat {G : nl_G} {l : Launch} {mi : nl_MI} {av : List Value} {w : nl_HW} {Post : nl_R} {cd : Nat → List nl_I} (hp : plainName mi.1.cls = true) (hv : av.all nl_okv = true) (hlen : (nl_ent av).length ≤ mi.2.2.1) (hc : nl_OKC G l mi cd) (n : Nat)
    (h : nl_run G l (w.2.1 + mi.2.2.2.2.cells, w.2.2 + mi.2.2.2.2.slots) cd (nl_At G l mi (nl_QM G mi (w.2.1 + mi.2.2.2.2.cells, w.2.2 + mi.2.2.2.2.slots) Post) w.2) (fun v w1 => w1.2 = (w.2.1 + mi.2.2.2.2.cells, w.2.2 + mi.2.2.2.2.slots) ∧ nl_rok mi.2.2.2.1 v ∧ Post v w1) n 0 (nl_ent av) [] w) : nl_Sat G l mi av w Post := by
  have h1 := nl_go (e := (w.2.1 + mi.2.2.2.2.cells, w.2.2 + mi.2.2.2.2.slots)) hc ⟨Nat.le_refl _, Nat.le_refl _⟩ (nl_ret G l mi w.2 Post) n 0 (nl_ent av) [] w h
  refine Met.ofW (cc := mi.2.1) (maxL := mi.2.2.1) (ret := mi.2.2.2.1) hp rfl ?_
  intro p e s m args below meth c s₁ B hml hv0
  obtain ⟨rfl, hKS, hRp⟩ := hv0
  rw [lg_entry_eq]
  have hl := lv_entry (av.map (nl_tv G)) (n := mi.2.2.1) (by rw [nl_ent_len av hv]; exact hlen)
  rw [← nl_ent_args av 0 hv] at hl
  have hts := atoms_spec (ws := nl_ws mi) B.pre
  exact h1 p e s m _ below meth c s.heap [] _ 0 0 ⟨B.exec, B.bytes, B.returns, hml, findClass_of_methodNamed B.named, fun w hw => hts w (List.mem_cons_of_mem _ hw), B.notSynchronized, (name_of_methodNamed B.named B.method).1, hKS⟩ hRp.1 hRp va_S.rf hl (by simp) (by simp) (Nat.zero_le _) (Nat.zero_le _)

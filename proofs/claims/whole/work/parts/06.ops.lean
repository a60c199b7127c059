/-! PART 06: the instructions that need neither world nor words -/
def ni_ic (v : Int32) : nl_I := .inl (0, 0, 0, v)
theorem ns_ic {G : nl_G} {l : Launch} {e : Nat × Nat} {K : nl_K} {J : nl_J} {R : nl_R} {ls st : List Value} {w : nl_HW} {v : Int32}  : nl_stp G l e K J R (ni_ic v) ls (st) w = (K ls (.int v :: st) w) := rfl
theorem no_ic {G : nl_G} {l : Launch} {mi : nl_MI} {pc : Nat} {n : Int} {v : Int32} (hd : decode mi.2.1 pc = .ok (.iconst n, 1)) (hv : Int32.ofInt n = v) : nl_Snd G l mi pc (ni_ic v) (pc + 1) := by
  intro QF z e J R he hR hJ K hK ls st w h
  intro p en s m args below meth c H locs la k sl C hs0 hRp hS hl hk hsl hk1 hsl1
  exact lv_iconst C.1 C.2.1 hd hv (hK _ _ _ h p en s m args below meth c H locs la k sl C hs0 hRp hS hl hk hsl hk1 hsl1)
theorem no_bip {G : nl_G} {l : Launch} {mi : nl_MI} {pc : Nat} {n : Int} {v : Int32} (hd : decode mi.2.1 pc = .ok (.bipush n, 2)) (hv : (Int8.ofInt n).toInt32 = v) : nl_Snd G l mi pc (ni_ic v) (pc + 2) := by
  intro QF z e J R he hR hJ K hK ls st w h
  intro p en s m args below meth c H locs la k sl C hs0 hRp hS hl hk hsl hk1 hsl1
  exact lv_bipush C.1 C.2.1 hd hv (hK _ _ _ h p en s m args below meth c H locs la k sl C hs0 hRp hS hl hk hsl hk1 hsl1)
theorem no_sip {G : nl_G} {l : Launch} {mi : nl_MI} {pc : Nat} {n : Int} {v : Int32} (hd : decode mi.2.1 pc = .ok (.sipush n, 3)) (hv : (Int16.ofInt n).toInt32 = v) : nl_Snd G l mi pc (ni_ic v) (pc + 3) := by
  intro QF z e J R he hR hJ K hK ls st w h
  intro p en s m args below meth c H locs la k sl C hs0 hRp hS hl hk hsl hk1 hsl1
  exact lv_sipush C.1 C.2.1 hd hv (hK _ _ _ h p en s m args below meth c H locs la k sl C hs0 hRp hS hl hk hsl hk1 hsl1)
def ni_lc (v : Int64) : nl_I := .inr (.inl v)
theorem ns_lc {G : nl_G} {l : Launch} {e : Nat × Nat} {K : nl_K} {J : nl_J} {R : nl_R} {ls st : List Value} {w : nl_HW} {v : Int64}  : nl_stp G l e K J R (ni_lc v) ls (st) w = (K ls (.long v :: st) w) := rfl
theorem no_lc {G : nl_G} {l : Launch} {mi : nl_MI} {pc : Nat} {n : Fin 2} {v : Int64} (hd : decode mi.2.1 pc = .ok (.lconst n, 1)) (hv : Int64.ofNat (n : Nat) = v) : nl_Snd G l mi pc (ni_lc v) (pc + 1) := by
  intro QF z e J R he hR hJ K hK ls st w h
  intro p en s m args below meth c H locs la k sl C hs0 hRp hS hl hk hsl hk1 hsl1
  exact lv_lconst C.1 C.2.1 hd hv (hK _ _ _ h p en s m args below meth c H locs la k sl C hs0 hRp hS hl hk hsl hk1 hsl1)
theorem no_ldc {G : nl_G} {l : Launch} {mi : nl_MI} {pc : Nat} {i : Nat} {v : Int32} (hd : decode mi.2.1 pc = .ok (.ldc i, 2)) (hw : Cond.constant mi.1.cls i v ∈ nl_W) : nl_Snd G l mi pc (ni_ic v) (pc + 2) := by
  intro QF z e J R he hR hJ K hK ls st w h
  intro p en s m args below meth c H locs la k sl C hs0 hRp hS hl hk hsl hk1 hsl1
  exact lv_ldc C.1 C.2.1 C.2.2.2.2.1 (C.2.2.2.2.2.1 _ hw) hd (hK _ _ _ h p en s m args below meth c H locs la k sl C hs0 hRp hS hl hk hsl hk1 hsl1)
theorem no_ldcw {G : nl_G} {l : Launch} {mi : nl_MI} {pc : Nat} {i : Nat} {v : Int32} (hd : decode mi.2.1 pc = .ok (.ldc_w i, 3)) (hw : Cond.constant mi.1.cls i v ∈ nl_W) : nl_Snd G l mi pc (ni_ic v) (pc + 3) := by
  intro QF z e J R he hR hJ K hK ls st w h
  intro p en s m args below meth c H locs la k sl C hs0 hRp hS hl hk hsl hk1 hsl1
  exact lv_ldcw C.1 C.2.1 C.2.2.2.2.1 (C.2.2.2.2.2.1 _ hw) hd (hK _ _ _ h p en s m args below meth c H locs la k sl C hs0 hRp hS hl hk hsl hk1 hsl1)
theorem no_ldc2 {G : nl_G} {l : Launch} {mi : nl_MI} {pc : Nat} {i : Nat} {v : Int64} (hd : decode mi.2.1 pc = .ok (.ldc2_w i, 3)) (hw : Cond.constantLong mi.1.cls i v ∈ nl_W) : nl_Snd G l mi pc (ni_lc v) (pc + 3) := by
  intro QF z e J R he hR hJ K hK ls st w h
  intro p en s m args below meth c H locs la k sl C hs0 hRp hS hl hk hsl hk1 hsl1
  exact lv_ldc2 C.1 C.2.1 C.2.2.2.2.1 (C.2.2.2.2.2.1 _ hw) hd (hK _ _ _ h p en s m args below meth c H locs la k sl C hs0 hRp hS hl hk hsl hk1 hsl1)
def ni_ldI (a : Nat) : nl_I := .inl (1, a, 0, 0)
theorem ns_ldI {G : nl_G} {l : Launch} {e : Nat × Nat} {K : nl_K} {J : nl_J} {R : nl_R} {ls st : List Value} {w : nl_HW} {a : Nat}  : nl_stp G l e K J R (ni_ldI a) ls (st) w = (nl_ldI ls a fun x => K ls (x :: st) w) := rfl
theorem no_ldIn {G : nl_G} {l : Launch} {mi : nl_MI} {pc : Nat} {j : Fin 4} {a : Nat} (hd : decode mi.2.1 pc = .ok (.iload_n j, 1)) (hj : (j : Nat) = a) : nl_Snd G l mi pc (ni_ldI a) (pc + 1) := by
  intro QF z e J R he hR hJ K hK ls st w h
  rw [ns_ldI] at h
  obtain ⟨x, h1, h⟩ := nl_ldI_inv h
  intro p en s m args below meth c H locs la k sl C hs0 hRp hS hl hk hsl hk1 hsl1
  exact lv_iload_n C.1 C.2.1 hd hj (nl_lv_at hl h1 (fun _ q => by cases q)) (hK _ _ _ h p en s m args below meth c H locs la k sl C hs0 hRp hS hl hk hsl hk1 hsl1)
theorem no_ldI {G : nl_G} {l : Launch} {mi : nl_MI} {pc : Nat}  {a : Nat} (hd : decode mi.2.1 pc = .ok (.iload a, 2))  : nl_Snd G l mi pc (ni_ldI a) (pc + 2) := by
  intro QF z e J R he hR hJ K hK ls st w h
  rw [ns_ldI] at h
  obtain ⟨x, h1, h⟩ := nl_ldI_inv h
  intro p en s m args below meth c H locs la k sl C hs0 hRp hS hl hk hsl hk1 hsl1
  exact lv_iload C.1 C.2.1 hd (nl_lv_at hl h1 (fun _ q => by cases q)) (hK _ _ _ h p en s m args below meth c H locs la k sl C hs0 hRp hS hl hk hsl hk1 hsl1)
def ni_ldL (a : Nat) : nl_I := .inl (2, a, 0, 0)
theorem ns_ldL {G : nl_G} {l : Launch} {e : Nat × Nat} {K : nl_K} {J : nl_J} {R : nl_R} {ls st : List Value} {w : nl_HW} {a : Nat}  : nl_stp G l e K J R (ni_ldL a) ls (st) w = (nl_ldL ls a fun x => K ls (x :: st) w) := rfl
theorem no_ldLn {G : nl_G} {l : Launch} {mi : nl_MI} {pc : Nat} {j : Fin 4} {a : Nat} (hd : decode mi.2.1 pc = .ok (.lload_n j, 1)) (hj : (j : Nat) = a) : nl_Snd G l mi pc (ni_ldL a) (pc + 1) := by
  intro QF z e J R he hR hJ K hK ls st w h
  rw [ns_ldL] at h
  obtain ⟨x, h1, h⟩ := nl_ldL_inv h
  intro p en s m args below meth c H locs la k sl C hs0 hRp hS hl hk hsl hk1 hsl1
  exact lv_lload_n C.1 C.2.1 hd hj (nl_lv_at hl h1 (fun _ q => by cases q)) (hK _ _ _ h p en s m args below meth c H locs la k sl C hs0 hRp hS hl hk hsl hk1 hsl1)
theorem no_ldL {G : nl_G} {l : Launch} {mi : nl_MI} {pc : Nat}  {a : Nat} (hd : decode mi.2.1 pc = .ok (.lload a, 2))  : nl_Snd G l mi pc (ni_ldL a) (pc + 2) := by
  intro QF z e J R he hR hJ K hK ls st w h
  rw [ns_ldL] at h
  obtain ⟨x, h1, h⟩ := nl_ldL_inv h
  intro p en s m args below meth c H locs la k sl C hs0 hRp hS hl hk hsl hk1 hsl1
  exact lv_lload C.1 C.2.1 hd (nl_lv_at hl h1 (fun _ q => by cases q)) (hK _ _ _ h p en s m args below meth c H locs la k sl C hs0 hRp hS hl hk hsl hk1 hsl1)
def ni_ldR (a : Nat) : nl_I := .inl (3, a, 0, 0)
theorem ns_ldR {G : nl_G} {l : Launch} {e : Nat × Nat} {K : nl_K} {J : nl_J} {R : nl_R} {ls st : List Value} {w : nl_HW} {a : Nat}  : nl_stp G l e K J R (ni_ldR a) ls (st) w = (nl_ldR ls a fun x => K ls (x :: st) w) := rfl
theorem no_ldRn {G : nl_G} {l : Launch} {mi : nl_MI} {pc : Nat} {j : Fin 4} {a : Nat} (hd : decode mi.2.1 pc = .ok (.aload_n j, 1)) (hj : (j : Nat) = a) : nl_Snd G l mi pc (ni_ldR a) (pc + 1) := by
  intro QF z e J R he hR hJ K hK ls st w h
  rw [ns_ldR] at h
  obtain ⟨x, h1, hx, h⟩ := nl_ldR_inv h
  intro p en s m args below meth c H locs la k sl C hs0 hRp hS hl hk hsl hk1 hsl1
  rcases hx with ⟨a, rfl⟩ | ⟨a, rfl⟩
  · exact lv_aload_n C.1 C.2.1 hd hj (nl_lv_at hl h1 (fun _ q => by cases q)) (hK _ _ _ h p en s m args below meth c H locs la k sl C hs0 hRp hS hl hk hsl hk1 hsl1)
  · exact lv_aload_n C.1 C.2.1 hd hj (nl_lv_at hl h1 (fun _ q => by cases q)) (hK _ _ _ h p en s m args below meth c H locs la k sl C hs0 hRp hS hl hk hsl hk1 hsl1)
theorem no_ldR {G : nl_G} {l : Launch} {mi : nl_MI} {pc : Nat}  {a : Nat} (hd : decode mi.2.1 pc = .ok (.aload a, 2))  : nl_Snd G l mi pc (ni_ldR a) (pc + 2) := by
  intro QF z e J R he hR hJ K hK ls st w h
  rw [ns_ldR] at h
  obtain ⟨x, h1, hx, h⟩ := nl_ldR_inv h
  intro p en s m args below meth c H locs la k sl C hs0 hRp hS hl hk hsl hk1 hsl1
  rcases hx with ⟨a, rfl⟩ | ⟨a, rfl⟩
  · exact lv_aload C.1 C.2.1 hd (nl_lv_at hl h1 (fun _ q => by cases q)) (hK _ _ _ h p en s m args below meth c H locs la k sl C hs0 hRp hS hl hk hsl hk1 hsl1)
  · exact lv_aload C.1 C.2.1 hd (nl_lv_at hl h1 (fun _ q => by cases q)) (hK _ _ _ h p en s m args below meth c H locs la k sl C hs0 hRp hS hl hk hsl hk1 hsl1)
def ni_stI (a : Nat) : nl_I := .inl (4, a, 0, 0)
theorem no_stIn {G : nl_G} {l : Launch} {mi : nl_MI} {pc : Nat} {j : Fin 4} {a : Nat} (hd : decode mi.2.1 pc = .ok (.istore_n j, 1)) (hj : (j : Nat) = a) (ha : a < mi.2.2.1) : nl_Snd G l mi pc (ni_stI a) (pc + 1) := by
  intro QF z e J R he hR hJ K hK ls st w h
  subst hj
  obtain ⟨x, st, rfl, hp, h⟩ := nl_i1_inv h
  intro p en s m args below meth c H locs la k sl C hs0 hRp hS hl hk hsl hk1 hsl1
  obtain ⟨la', e', h'⟩ := nl_store1 (v := .int x) hl ha rfl hp
  simp only [nl_tv] at e'
  intro T hT X
  obtain ⟨t, a1, b1⟩ := hK _ _ _ h p en s m args below meth c H locs la' k sl C hs0 hRp hS h' hk hsl hk1 hsl1 T hT X
  refine ⟨t, ?_, b1⟩
  jvm_step X.here [X.here.top, ↓top_set X.here.top, C.1, C.2.1, hd, e', List.map_cons, nl_tv]
  exact a1
theorem no_stI {G : nl_G} {l : Launch} {mi : nl_MI} {pc : Nat}  {a : Nat} (hd : decode mi.2.1 pc = .ok (.istore a, 2))  (ha : a < mi.2.2.1) : nl_Snd G l mi pc (ni_stI a) (pc + 2) := by
  intro QF z e J R he hR hJ K hK ls st w h
  obtain ⟨x, st, rfl, hp, h⟩ := nl_i1_inv h
  intro p en s m args below meth c H locs la k sl C hs0 hRp hS hl hk hsl hk1 hsl1
  obtain ⟨la', e', h'⟩ := nl_store1 (v := .int x) hl ha rfl hp
  simp only [nl_tv] at e'
  intro T hT X
  obtain ⟨t, a1, b1⟩ := hK _ _ _ h p en s m args below meth c H locs la' k sl C hs0 hRp hS h' hk hsl hk1 hsl1 T hT X
  refine ⟨t, ?_, b1⟩
  jvm_step X.here [X.here.top, ↓top_set X.here.top, C.1, C.2.1, hd, e', List.map_cons, nl_tv]
  exact a1
theorem ns_stI {G : nl_G} {l : Launch} {e : Nat × Nat} {K : nl_K} {J : nl_J} {R : nl_R} {ls st : List Value} {w : nl_HW} {a : Nat} {x : Int32}  : nl_stp G l e K J R (ni_stI a) ls (.int x :: st) w = (nl_pk ls a = true ∧ K (nl_set ls a (.int x)) st w) := rfl
def ni_stL (a : Nat) : nl_I := .inl (5, a, 0, 0)
theorem no_stLn {G : nl_G} {l : Launch} {mi : nl_MI} {pc : Nat} {j : Fin 4} {a : Nat} (hd : decode mi.2.1 pc = .ok (.lstore_n j, 1)) (hj : (j : Nat) = a) (ha : a + 1 < mi.2.2.1) : nl_Snd G l mi pc (ni_stL a) (pc + 1) := by
  intro QF z e J R he hR hJ K hK ls st w h
  subst hj
  obtain ⟨x, st, rfl, hp, h⟩ := nl_l1_inv h
  intro p en s m args below meth c H locs la k sl C hs0 hRp hS hl hk hsl hk1 hsl1
  obtain ⟨la', e', h'⟩ := nl_store2 (x := x) hl ha hp
  intro T hT X
  obtain ⟨t, a1, b1⟩ := hK _ _ _ h p en s m args below meth c H locs la' k sl C hs0 hRp hS h' hk hsl hk1 hsl1 T hT X
  refine ⟨t, ?_, b1⟩
  jvm_step X.here [X.here.top, ↓top_set X.here.top, C.1, C.2.1, hd, e', List.map_cons, nl_tv]
  exact a1
theorem no_stL {G : nl_G} {l : Launch} {mi : nl_MI} {pc : Nat}  {a : Nat} (hd : decode mi.2.1 pc = .ok (.lstore a, 2))  (ha : a + 1 < mi.2.2.1) : nl_Snd G l mi pc (ni_stL a) (pc + 2) := by
  intro QF z e J R he hR hJ K hK ls st w h
  obtain ⟨x, st, rfl, hp, h⟩ := nl_l1_inv h
  intro p en s m args below meth c H locs la k sl C hs0 hRp hS hl hk hsl hk1 hsl1
  obtain ⟨la', e', h'⟩ := nl_store2 (x := x) hl ha hp
  intro T hT X
  obtain ⟨t, a1, b1⟩ := hK _ _ _ h p en s m args below meth c H locs la' k sl C hs0 hRp hS h' hk hsl hk1 hsl1 T hT X
  refine ⟨t, ?_, b1⟩
  jvm_step X.here [X.here.top, ↓top_set X.here.top, C.1, C.2.1, hd, e', List.map_cons, nl_tv]
  exact a1
theorem ns_stL {G : nl_G} {l : Launch} {e : Nat × Nat} {K : nl_K} {J : nl_J} {R : nl_R} {ls st : List Value} {w : nl_HW} {a : Nat} {x : Int64}  : nl_stp G l e K J R (ni_stL a) ls (.long x :: st) w = (nl_pk ls a = true ∧ K (nl_set (nl_set ls a (.long x)) (a + 1) (.retAddr 0)) st w) := rfl
def ni_stR (a : Nat) : nl_I := .inl (6, a, 0, 0)
theorem no_stRn {G : nl_G} {l : Launch} {mi : nl_MI} {pc : Nat} {j : Fin 4} {a : Nat} (hd : decode mi.2.1 pc = .ok (.astore_n j, 1)) (hj : (j : Nat) = a) (ha : a < mi.2.2.1) : nl_Snd G l mi pc (ni_stR a) (pc + 1) := by
  intro QF z e J R he hR hJ K hK ls st w h
  subst hj
  have h : nl_stR st (fun x st => nl_pk ls (j : Nat) = true ∧ K (nl_set ls (j : Nat) x) st w) := h
  obtain ⟨x, st, rfl, hx, hp, h⟩ := nl_stR_inv h
  intro p en s m args below meth c H locs la k sl C hs0 hRp hS hl hk hsl hk1 hsl1
  have hc : (nl_tv G x).category = 1 := by rcases hx with ⟨_, rfl⟩ | ⟨_, rfl⟩ <;> rfl
  obtain ⟨la', e', h'⟩ := nl_store1 (v := x) hl ha hc hp
  intro T hT X
  obtain ⟨t, a1, b1⟩ := hK _ _ _ h p en s m args below meth c H locs la' k sl C hs0 hRp hS h' hk hsl hk1 hsl1 T hT X
  refine ⟨t, ?_, b1⟩
  rcases hx with ⟨y, rfl⟩ | ⟨y, rfl⟩
  · simp only [nl_tv] at e'
    jvm_step X.here [X.here.top, ↓top_set X.here.top, C.1, C.2.1, hd, e', List.map_cons, nl_tv]
    exact ⟨rfl, a1⟩
  · simp only [nl_tv] at e'
    jvm_step X.here [X.here.top, ↓top_set X.here.top, C.1, C.2.1, hd, e', List.map_cons, nl_tv]
    exact ⟨rfl, a1⟩

theorem no_stR {G : nl_G} {l : Launch} {mi : nl_MI} {pc : Nat}  {a : Nat} (hd : decode mi.2.1 pc = .ok (.astore a, 2))  (ha : a < mi.2.2.1) : nl_Snd G l mi pc (ni_stR a) (pc + 2) := by
  intro QF z e J R he hR hJ K hK ls st w h
  have h : nl_stR st (fun x st => nl_pk ls a = true ∧ K (nl_set ls a x) st w) := h
  obtain ⟨x, st, rfl, hx, hp, h⟩ := nl_stR_inv h
  intro p en s m args below meth c H locs la k sl C hs0 hRp hS hl hk hsl hk1 hsl1
  have hc : (nl_tv G x).category = 1 := by rcases hx with ⟨_, rfl⟩ | ⟨_, rfl⟩ <;> rfl
  obtain ⟨la', e', h'⟩ := nl_store1 (v := x) hl ha hc hp
  intro T hT X
  obtain ⟨t, a1, b1⟩ := hK _ _ _ h p en s m args below meth c H locs la' k sl C hs0 hRp hS h' hk hsl hk1 hsl1 T hT X
  refine ⟨t, ?_, b1⟩
  rcases hx with ⟨y, rfl⟩ | ⟨y, rfl⟩
  · simp only [nl_tv] at e'
    jvm_step X.here [X.here.top, ↓top_set X.here.top, C.1, C.2.1, hd, e', List.map_cons, nl_tv]
    exact ⟨rfl, a1⟩
  · simp only [nl_tv] at e'
    jvm_step X.here [X.here.top, ↓top_set X.here.top, C.1, C.2.1, hd, e', List.map_cons, nl_tv]
    exact ⟨rfl, a1⟩

theorem ns_stR {G : nl_G} {l : Launch} {e : Nat × Nat} {K : nl_K} {J : nl_J} {R : nl_R} {ls st : List Value} {w : nl_HW} {a q : Nat}  : nl_stp G l e K J R (ni_stR a) ls (.ref q :: st) w = (nl_pk ls a = true ∧ K (nl_set ls a (.ref q)) st w) := rfl
def ni_inc (a : Nat) (v : Int32) : nl_I := .inl (7, a, 0, v)
theorem ns_inc {G : nl_G} {l : Launch} {e : Nat × Nat} {K : nl_K} {J : nl_J} {R : nl_R} {ls st : List Value} {w : nl_HW} {a : Nat} {v : Int32}  : nl_stp G l e K J R (ni_inc a v) ls (st) w = (nl_ldI ls a fun x => nl_i1 [x] fun x _ => nl_pk ls a = true ∧ K (nl_set ls a (.int (x + v))) st w) := rfl
theorem no_inc {G : nl_G} {l : Launch} {mi : nl_MI} {pc : Nat} {a : Nat} {n : Int} {v : Int32} (hd : decode mi.2.1 pc = .ok (.iinc a n, 3)) (hv : Int32.ofInt n = v) (ha : a < mi.2.2.1) : nl_Snd G l mi pc (ni_inc a v) (pc + 3) := by
  intro QF z e J R he hR hJ K hK ls st w h
  subst hv
  rw [ns_inc] at h
  obtain ⟨x, h1, h⟩ := nl_ldI_inv h
  obtain ⟨hp, h⟩ : nl_pk ls a = true ∧ K (nl_set ls a (.int (x + Int32.ofInt n))) st w := h
  intro p en s m args below meth c H locs la k sl C hs0 hRp hS hl hk hsl hk1 hsl1
  obtain ⟨la', e', h'⟩ := nl_store1 (v := .int (x + Int32.ofInt n)) hl ha rfl hp
  simp only [nl_tv] at e'
  have hg := nl_lv_at hl h1 (fun _ q => by cases q)
  simp only [nl_tv] at hg
  intro T hT X
  obtain ⟨t, a1, b1⟩ := hK _ _ _ h p en s m args below meth c H locs la' k sl C hs0 hRp hS h' hk hsl hk1 hsl1 T hT X
  refine ⟨t, ?_, b1⟩
  jvm_step X.here [X.here.top, ↓top_set X.here.top, C.1, C.2.1, hd, hg, e']
  exact a1
def ni_add  : nl_I := .inl (8, 0, 0, 0)
theorem ns_add {G : nl_G} {l : Launch} {e : Nat × Nat} {K : nl_K} {J : nl_J} {R : nl_R} {ls st : List Value} {w : nl_HW} {x y : Int32}  : nl_stp G l e K J R ni_add ls (.int y :: .int x :: st) w = (K ls (.int (x + y) :: st) w) := rfl
theorem no_add {G : nl_G} {l : Launch} {mi : nl_MI} {pc : Nat} (hd : decode mi.2.1 pc = .ok (.iadd, 1)) : nl_Snd G l mi pc ni_add (pc + 1) := by
  intro QF z e J R he hR hJ K hK ls st w h
  obtain ⟨x, y, st, rfl, h⟩ := nl_i2_inv h
  intro p en s m args below meth c H locs la k sl C hs0 hRp hS hl hk hsl hk1 hsl1
  exact lv_iadd C.1 C.2.1 hd (hK _ _ _ h p en s m args below meth c H locs la k sl C hs0 hRp hS hl hk hsl hk1 hsl1)
def ni_sub  : nl_I := .inl (9, 0, 0, 0)
theorem ns_sub {G : nl_G} {l : Launch} {e : Nat × Nat} {K : nl_K} {J : nl_J} {R : nl_R} {ls st : List Value} {w : nl_HW} {x y : Int32}  : nl_stp G l e K J R ni_sub ls (.int y :: .int x :: st) w = (K ls (.int (x - y) :: st) w) := rfl
theorem no_sub {G : nl_G} {l : Launch} {mi : nl_MI} {pc : Nat} (hd : decode mi.2.1 pc = .ok (.isub, 1)) : nl_Snd G l mi pc ni_sub (pc + 1) := by
  intro QF z e J R he hR hJ K hK ls st w h
  obtain ⟨x, y, st, rfl, h⟩ := nl_i2_inv h
  intro p en s m args below meth c H locs la k sl C hs0 hRp hS hl hk hsl hk1 hsl1
  exact lv_isub C.1 C.2.1 hd (hK _ _ _ h p en s m args below meth c H locs la k sl C hs0 hRp hS hl hk hsl hk1 hsl1)
def ni_mul  : nl_I := .inl (10, 0, 0, 0)
theorem ns_mul {G : nl_G} {l : Launch} {e : Nat × Nat} {K : nl_K} {J : nl_J} {R : nl_R} {ls st : List Value} {w : nl_HW} {x y : Int32}  : nl_stp G l e K J R ni_mul ls (.int y :: .int x :: st) w = (K ls (.int (x * y) :: st) w) := rfl
theorem no_mul {G : nl_G} {l : Launch} {mi : nl_MI} {pc : Nat} (hd : decode mi.2.1 pc = .ok (.imul, 1)) : nl_Snd G l mi pc ni_mul (pc + 1) := by
  intro QF z e J R he hR hJ K hK ls st w h
  obtain ⟨x, y, st, rfl, h⟩ := nl_i2_inv h
  intro p en s m args below meth c H locs la k sl C hs0 hRp hS hl hk hsl hk1 hsl1
  exact lv_imul C.1 C.2.1 hd (hK _ _ _ h p en s m args below meth c H locs la k sl C hs0 hRp hS hl hk hsl hk1 hsl1)
def ni_div  : nl_I := .inl (11, 0, 0, 0)
theorem ns_div {G : nl_G} {l : Launch} {e : Nat × Nat} {K : nl_K} {J : nl_J} {R : nl_R} {ls st : List Value} {w : nl_HW} {x y : Int32}  : nl_stp G l e K J R ni_div ls (.int y :: .int x :: st) w = (¬ y = 0 ∧ K ls (.int (x / y) :: st) w) := rfl
theorem no_div {G : nl_G} {l : Launch} {mi : nl_MI} {pc : Nat} (hd : decode mi.2.1 pc = .ok (.idiv, 1)) : nl_Snd G l mi pc ni_div (pc + 1) := by
  intro QF z e J R he hR hJ K hK ls st w h
  obtain ⟨x, y, st, rfl, hn, h⟩ := nl_i2_inv h
  intro p en s m args below meth c H locs la k sl C hs0 hRp hS hl hk hsl hk1 hsl1
  exact lv_idiv C.1 C.2.1 hd hn (hK _ _ _ h p en s m args below meth c H locs la k sl C hs0 hRp hS hl hk hsl hk1 hsl1)
def ni_rem  : nl_I := .inl (12, 0, 0, 0)
theorem ns_rem {G : nl_G} {l : Launch} {e : Nat × Nat} {K : nl_K} {J : nl_J} {R : nl_R} {ls st : List Value} {w : nl_HW} {x y : Int32}  : nl_stp G l e K J R ni_rem ls (.int y :: .int x :: st) w = (¬ y = 0 ∧ K ls (.int (x - x / y * y) :: st) w) := rfl
theorem no_rem {G : nl_G} {l : Launch} {mi : nl_MI} {pc : Nat} (hd : decode mi.2.1 pc = .ok (.irem, 1)) : nl_Snd G l mi pc ni_rem (pc + 1) := by
  intro QF z e J R he hR hJ K hK ls st w h
  obtain ⟨x, y, st, rfl, hn, h⟩ := nl_i2_inv h
  intro p en s m args below meth c H locs la k sl C hs0 hRp hS hl hk hsl hk1 hsl1
  exact lv_irem C.1 C.2.1 hd hn (hK _ _ _ h p en s m args below meth c H locs la k sl C hs0 hRp hS hl hk hsl hk1 hsl1)
def ni_neg  : nl_I := .inl (13, 0, 0, 0)
theorem ns_neg {G : nl_G} {l : Launch} {e : Nat × Nat} {K : nl_K} {J : nl_J} {R : nl_R} {ls st : List Value} {w : nl_HW} {x : Int32}  : nl_stp G l e K J R ni_neg ls (.int x :: st) w = (K ls (.int (-x) :: st) w) := rfl
theorem no_neg {G : nl_G} {l : Launch} {mi : nl_MI} {pc : Nat} (hd : decode mi.2.1 pc = .ok (.ineg, 1)) : nl_Snd G l mi pc ni_neg (pc + 1) := by
  intro QF z e J R he hR hJ K hK ls st w h
  obtain ⟨x, st, rfl, h⟩ := nl_i1_inv h
  intro p en s m args below meth c H locs la k sl C hs0 hRp hS hl hk hsl hk1 hsl1
  exact lv_ineg C.1 C.2.1 hd (hK _ _ _ h p en s m args below meth c H locs la k sl C hs0 hRp hS hl hk hsl hk1 hsl1)
def ni_shl  : nl_I := .inl (14, 0, 0, 0)
theorem ns_shl {G : nl_G} {l : Launch} {e : Nat × Nat} {K : nl_K} {J : nl_J} {R : nl_R} {ls st : List Value} {w : nl_HW} {x y : Int32}  : nl_stp G l e K J R ni_shl ls (.int y :: .int x :: st) w = (K ls (.int (x <<< (y &&& 31)) :: st) w) := rfl
theorem no_shl {G : nl_G} {l : Launch} {mi : nl_MI} {pc : Nat} (hd : decode mi.2.1 pc = .ok (.ishl, 1)) : nl_Snd G l mi pc ni_shl (pc + 1) := by
  intro QF z e J R he hR hJ K hK ls st w h
  obtain ⟨x, y, st, rfl, h⟩ := nl_i2_inv h
  intro p en s m args below meth c H locs la k sl C hs0 hRp hS hl hk hsl hk1 hsl1
  exact lv_ishl C.1 C.2.1 hd (hK _ _ _ h p en s m args below meth c H locs la k sl C hs0 hRp hS hl hk hsl hk1 hsl1)
def ni_or  : nl_I := .inl (15, 0, 0, 0)
theorem ns_or {G : nl_G} {l : Launch} {e : Nat × Nat} {K : nl_K} {J : nl_J} {R : nl_R} {ls st : List Value} {w : nl_HW} {x y : Int32}  : nl_stp G l e K J R ni_or ls (.int y :: .int x :: st) w = (K ls (.int (x ||| y) :: st) w) := rfl
theorem no_or {G : nl_G} {l : Launch} {mi : nl_MI} {pc : Nat} (hd : decode mi.2.1 pc = .ok (.ior, 1)) : nl_Snd G l mi pc ni_or (pc + 1) := by
  intro QF z e J R he hR hJ K hK ls st w h
  obtain ⟨x, y, st, rfl, h⟩ := nl_i2_inv h
  intro p en s m args below meth c H locs la k sl C hs0 hRp hS hl hk hsl hk1 hsl1
  exact lv_ior C.1 C.2.1 hd (hK _ _ _ h p en s m args below meth c H locs la k sl C hs0 hRp hS hl hk hsl hk1 hsl1)
def ni_and  : nl_I := .inl (16, 0, 0, 0)
theorem ns_and {G : nl_G} {l : Launch} {e : Nat × Nat} {K : nl_K} {J : nl_J} {R : nl_R} {ls st : List Value} {w : nl_HW} {x y : Int32}  : nl_stp G l e K J R ni_and ls (.int y :: .int x :: st) w = (K ls (.int (x &&& y) :: st) w) := rfl
theorem no_and {G : nl_G} {l : Launch} {mi : nl_MI} {pc : Nat} (hd : decode mi.2.1 pc = .ok (.iand, 1)) : nl_Snd G l mi pc ni_and (pc + 1) := by
  intro QF z e J R he hR hJ K hK ls st w h
  obtain ⟨x, y, st, rfl, h⟩ := nl_i2_inv h
  intro p en s m args below meth c H locs la k sl C hs0 hRp hS hl hk hsl hk1 hsl1
  exact lv_iand C.1 C.2.1 hd (hK _ _ _ h p en s m args below meth c H locs la k sl C hs0 hRp hS hl hk hsl hk1 hsl1)
def ni_i2l  : nl_I := .inl (17, 0, 0, 0)
theorem ns_i2l {G : nl_G} {l : Launch} {e : Nat × Nat} {K : nl_K} {J : nl_J} {R : nl_R} {ls st : List Value} {w : nl_HW} {x : Int32}  : nl_stp G l e K J R ni_i2l ls (.int x :: st) w = (K ls (.long (x.toInt64) :: st) w) := rfl
theorem no_i2l {G : nl_G} {l : Launch} {mi : nl_MI} {pc : Nat} (hd : decode mi.2.1 pc = .ok (.i2l, 1)) : nl_Snd G l mi pc ni_i2l (pc + 1) := by
  intro QF z e J R he hR hJ K hK ls st w h
  obtain ⟨x, st, rfl, h⟩ := nl_i1_inv h
  intro p en s m args below meth c H locs la k sl C hs0 hRp hS hl hk hsl hk1 hsl1
  exact lv_i2l C.1 C.2.1 hd rfl (hK _ _ _ h p en s m args below meth c H locs la k sl C hs0 hRp hS hl hk hsl hk1 hsl1)
def ni_l2i  : nl_I := .inl (18, 0, 0, 0)
theorem ns_l2i {G : nl_G} {l : Launch} {e : Nat × Nat} {K : nl_K} {J : nl_J} {R : nl_R} {ls st : List Value} {w : nl_HW} {x : Int64}  : nl_stp G l e K J R ni_l2i ls (.long x :: st) w = (K ls (.int (x.toInt32) :: st) w) := rfl
theorem no_l2i {G : nl_G} {l : Launch} {mi : nl_MI} {pc : Nat} (hd : decode mi.2.1 pc = .ok (.l2i, 1)) : nl_Snd G l mi pc ni_l2i (pc + 1) := by
  intro QF z e J R he hR hJ K hK ls st w h
  obtain ⟨x, st, rfl, h⟩ := nl_l1_inv h
  intro p en s m args below meth c H locs la k sl C hs0 hRp hS hl hk hsl hk1 hsl1
  exact lv_l2i C.1 C.2.1 hd rfl (hK _ _ _ h p en s m args below meth c H locs la k sl C hs0 hRp hS hl hk hsl hk1 hsl1)
def ni_i2b  : nl_I := .inl (19, 0, 0, 0)
theorem ns_i2b {G : nl_G} {l : Launch} {e : Nat × Nat} {K : nl_K} {J : nl_J} {R : nl_R} {ls st : List Value} {w : nl_HW} {x : Int32}  : nl_stp G l e K J R ni_i2b ls (.int x :: st) w = (K ls (.int (x.toInt8.toInt32) :: st) w) := rfl
theorem no_i2b {G : nl_G} {l : Launch} {mi : nl_MI} {pc : Nat} (hd : decode mi.2.1 pc = .ok (.i2b, 1)) : nl_Snd G l mi pc ni_i2b (pc + 1) := by
  intro QF z e J R he hR hJ K hK ls st w h
  obtain ⟨x, st, rfl, h⟩ := nl_i1_inv h
  intro p en s m args below meth c H locs la k sl C hs0 hRp hS hl hk hsl hk1 hsl1
  exact lv_i2b C.1 C.2.1 hd rfl (hK _ _ _ h p en s m args below meth c H locs la k sl C hs0 hRp hS hl hk hsl hk1 hsl1)
def ni_i2s  : nl_I := .inl (20, 0, 0, 0)
theorem ns_i2s {G : nl_G} {l : Launch} {e : Nat × Nat} {K : nl_K} {J : nl_J} {R : nl_R} {ls st : List Value} {w : nl_HW} {x : Int32}  : nl_stp G l e K J R ni_i2s ls (.int x :: st) w = (K ls (.int (x.toInt16.toInt32) :: st) w) := rfl
theorem no_i2s {G : nl_G} {l : Launch} {mi : nl_MI} {pc : Nat} (hd : decode mi.2.1 pc = .ok (.i2s, 1)) : nl_Snd G l mi pc ni_i2s (pc + 1) := by
  intro QF z e J R he hR hJ K hK ls st w h
  obtain ⟨x, st, rfl, h⟩ := nl_i1_inv h
  intro p en s m args below meth c H locs la k sl C hs0 hRp hS hl hk hsl hk1 hsl1
  exact lv_i2s C.1 C.2.1 hd rfl (hK _ _ _ h p en s m args below meth c H locs la k sl C hs0 hRp hS hl hk hsl hk1 hsl1)
def ni_i2c  : nl_I := .inl (21, 0, 0, 0)
theorem ns_i2c {G : nl_G} {l : Launch} {e : Nat × Nat} {K : nl_K} {J : nl_J} {R : nl_R} {ls st : List Value} {w : nl_HW} {x : Int32}  : nl_stp G l e K J R ni_i2c ls (.int x :: st) w = (K ls (.int ((x.toUInt32 % 65536).toInt32) :: st) w) := rfl
theorem no_i2c {G : nl_G} {l : Launch} {mi : nl_MI} {pc : Nat} (hd : decode mi.2.1 pc = .ok (.i2c, 1)) : nl_Snd G l mi pc ni_i2c (pc + 1) := by
  intro QF z e J R he hR hJ K hK ls st w h
  obtain ⟨x, st, rfl, h⟩ := nl_i1_inv h
  intro p en s m args below meth c H locs la k sl C hs0 hRp hS hl hk hsl hk1 hsl1
  exact lv_i2c C.1 C.2.1 hd rfl (hK _ _ _ h p en s m args below meth c H locs la k sl C hs0 hRp hS hl hk hsl hk1 hsl1)
def ni_ladd  : nl_I := .inl (22, 0, 0, 0)
theorem ns_ladd {G : nl_G} {l : Launch} {e : Nat × Nat} {K : nl_K} {J : nl_J} {R : nl_R} {ls st : List Value} {w : nl_HW} {x y : Int64}  : nl_stp G l e K J R ni_ladd ls (.long y :: .long x :: st) w = (K ls (.long (x + y) :: st) w) := rfl
theorem no_ladd {G : nl_G} {l : Launch} {mi : nl_MI} {pc : Nat} (hd : decode mi.2.1 pc = .ok (.ladd, 1)) : nl_Snd G l mi pc ni_ladd (pc + 1) := by
  intro QF z e J R he hR hJ K hK ls st w h
  obtain ⟨x, y, st, rfl, h⟩ := nl_l2_inv h
  intro p en s m args below meth c H locs la k sl C hs0 hRp hS hl hk hsl hk1 hsl1
  exact lv_ladd C.1 C.2.1 hd (hK _ _ _ h p en s m args below meth c H locs la k sl C hs0 hRp hS hl hk hsl hk1 hsl1)
def ni_lmul  : nl_I := .inl (23, 0, 0, 0)
theorem ns_lmul {G : nl_G} {l : Launch} {e : Nat × Nat} {K : nl_K} {J : nl_J} {R : nl_R} {ls st : List Value} {w : nl_HW} {x y : Int64}  : nl_stp G l e K J R ni_lmul ls (.long y :: .long x :: st) w = (K ls (.long (x * y) :: st) w) := rfl
theorem no_lmul {G : nl_G} {l : Launch} {mi : nl_MI} {pc : Nat} (hd : decode mi.2.1 pc = .ok (.lmul, 1)) : nl_Snd G l mi pc ni_lmul (pc + 1) := by
  intro QF z e J R he hR hJ K hK ls st w h
  obtain ⟨x, y, st, rfl, h⟩ := nl_l2_inv h
  intro p en s m args below meth c H locs la k sl C hs0 hRp hS hl hk hsl hk1 hsl1
  exact lv_lmul C.1 C.2.1 hd (hK _ _ _ h p en s m args below meth c H locs la k sl C hs0 hRp hS hl hk hsl hk1 hsl1)
def ni_ldiv  : nl_I := .inl (24, 0, 0, 0)
theorem ns_ldiv {G : nl_G} {l : Launch} {e : Nat × Nat} {K : nl_K} {J : nl_J} {R : nl_R} {ls st : List Value} {w : nl_HW} {x y : Int64}  : nl_stp G l e K J R ni_ldiv ls (.long y :: .long x :: st) w = (¬ y = 0 ∧ K ls (.long (x / y) :: st) w) := rfl
theorem no_ldiv {G : nl_G} {l : Launch} {mi : nl_MI} {pc : Nat} (hd : decode mi.2.1 pc = .ok (.ldiv, 1)) : nl_Snd G l mi pc ni_ldiv (pc + 1) := by
  intro QF z e J R he hR hJ K hK ls st w h
  obtain ⟨x, y, st, rfl, hn, h⟩ := nl_l2_inv h
  intro p en s m args below meth c H locs la k sl C hs0 hRp hS hl hk hsl hk1 hsl1
  exact lv_ldiv C.1 C.2.1 hd hn (hK _ _ _ h p en s m args below meth c H locs la k sl C hs0 hRp hS hl hk hsl hk1 hsl1)
def ni_lrem  : nl_I := .inl (25, 0, 0, 0)
theorem ns_lrem {G : nl_G} {l : Launch} {e : Nat × Nat} {K : nl_K} {J : nl_J} {R : nl_R} {ls st : List Value} {w : nl_HW} {x y : Int64}  : nl_stp G l e K J R ni_lrem ls (.long y :: .long x :: st) w = (¬ y = 0 ∧ K ls (.long (x - x / y * y) :: st) w) := rfl
theorem no_lrem {G : nl_G} {l : Launch} {mi : nl_MI} {pc : Nat} (hd : decode mi.2.1 pc = .ok (.lrem, 1)) : nl_Snd G l mi pc ni_lrem (pc + 1) := by
  intro QF z e J R he hR hJ K hK ls st w h
  obtain ⟨x, y, st, rfl, hn, h⟩ := nl_l2_inv h
  intro p en s m args below meth c H locs la k sl C hs0 hRp hS hl hk hsl hk1 hsl1
  exact lv_lrem C.1 C.2.1 hd hn (hK _ _ _ h p en s m args below meth c H locs la k sl C hs0 hRp hS hl hk hsl hk1 hsl1)
def ni_lcmp  : nl_I := .inl (26, 0, 0, 0)
theorem ns_lcmp {G : nl_G} {l : Launch} {e : Nat × Nat} {K : nl_K} {J : nl_J} {R : nl_R} {ls st : List Value} {w : nl_HW} {x y : Int64}  : nl_stp G l e K J R ni_lcmp ls (.long y :: .long x :: st) w = (K ls (.int (lg_cmp x y) :: st) w) := rfl
theorem no_lcmp {G : nl_G} {l : Launch} {mi : nl_MI} {pc : Nat} (hd : decode mi.2.1 pc = .ok (.lcmp, 1)) : nl_Snd G l mi pc ni_lcmp (pc + 1) := by
  intro QF z e J R he hR hJ K hK ls st w h
  obtain ⟨x, y, st, rfl, h⟩ := nl_l2_inv h
  intro p en s m args below meth c H locs la k sl C hs0 hRp hS hl hk hsl hk1 hsl1
  exact W.lcmp C.1 C.2.1 hd (hK _ _ _ h p en s m args below meth c H locs la k sl C hs0 hRp hS hl hk hsl hk1 hsl1)
def ni_dup  : nl_I := .inl (27, 0, 0, 0)
theorem ns_dup {G : nl_G} {l : Launch} {e : Nat × Nat} {K : nl_K} {J : nl_J} {R : nl_R} {ls st : List Value} {w : nl_HW} {x : Value}  : nl_stp G l e K J R ni_dup ls (x :: st) w = (nl_c1 x = true ∧ K ls (x :: x :: st) w) := rfl
theorem nl_c1_cat {G : nl_G} {x : Value} (h : nl_c1 x = true) : (nl_tv G x).category = 1 := by cases x <;> first | rfl | (exact absurd h (by simp [nl_c1]))
theorem no_dup {G : nl_G} {l : Launch} {mi : nl_MI} {pc : Nat} (hd : decode mi.2.1 pc = .ok (.dup, 1)) : nl_Snd G l mi pc ni_dup (pc + 1) := by
  intro QF z e J R he hR hJ K hK ls st w h
  obtain ⟨x, st, rfl, hx, h⟩ := nl_d1_inv h
  intro p en s m args below meth c H locs la k sl C hs0 hRp hS hl hk hsl hk1 hsl1
  exact lv_dup C.1 C.2.1 hd (nl_c1_cat hx) (hK _ _ _ h p en s m args below meth c H locs la k sl C hs0 hRp hS hl hk hsl hk1 hsl1)
def ni_dup2  : nl_I := .inl (28, 0, 0, 0)
theorem ns_dup2 {G : nl_G} {l : Launch} {e : Nat × Nat} {K : nl_K} {J : nl_J} {R : nl_R} {ls st : List Value} {w : nl_HW} {x y : Value}  : nl_stp G l e K J R ni_dup2 ls (x :: y :: st) w = (nl_c1 x = true ∧ nl_c1 y = true ∧ K ls (x :: y :: x :: y :: st) w) := rfl
theorem no_dup2 {G : nl_G} {l : Launch} {mi : nl_MI} {pc : Nat} (hd : decode mi.2.1 pc = .ok (.dup2, 1)) : nl_Snd G l mi pc ni_dup2 (pc + 1) := by
  intro QF z e J R he hR hJ K hK ls st w h
  obtain ⟨x, y, st, rfl, hx, hy, h⟩ := nl_d2_inv h
  intro p en s m args below meth c H locs la k sl C hs0 hRp hS hl hk hsl hk1 hsl1
  exact lv_dup2_11 C.1 C.2.1 hd (nl_c1_cat hx) (nl_c1_cat hy) (hK _ _ _ h p en s m args below meth c H locs la k sl C hs0 hRp hS hl hk hsl hk1 hsl1)
def ni_go (a b : Nat) : nl_I := .inl (29, a, b, 0)
theorem ns_go {G : nl_G} {l : Launch} {e : Nat × Nat} {K : nl_K} {J : nl_J} {R : nl_R} {ls st : List Value} {w : nl_HW} {a b : Nat}  : nl_stp G l e K J R (ni_go a b) ls (st) w = (J a b ls st w) := rfl
theorem no_go {G : nl_G} {l : Launch} {mi : nl_MI} {pc : Nat} {a b : Nat} {off : Int} (hd : decode mi.2.1 pc = .ok (.goto off, 3)) (ht : (pc : Int) + off = (b : Int)) : nl_Snd G l mi pc (ni_go a b) (pc + 3) := by
  intro QF z e J R he hR hJ K hK ls st w h
  intro p en s m args below meth c H locs la k sl C hs0 hRp hS hl hk hsl hk1 hsl1
  exact lv_goto C.1 C.2.1 hd ht (hJ _ _ _ _ _ h p en s m args below meth c H locs la k sl C hs0 hRp hS hl hk hsl hk1 hsl1)
def ni_fall (a b : Nat) : nl_I := .inl (30, a, b, 0)
theorem ns_fall {G : nl_G} {l : Launch} {e : Nat × Nat} {K : nl_K} {J : nl_J} {R : nl_R} {ls st : List Value} {w : nl_HW} {a b : Nat}  : nl_stp G l e K J R (ni_fall a b) ls (st) w = (J a b ls st w) := rfl
theorem no_fall {G : nl_G} {l : Launch} {mi : nl_MI} {a pc : Nat} : nl_Snd G l mi pc (ni_fall a pc) pc := by
  intro QF z e J R he hR hJ K hK ls st w h
  exact hJ _ _ _ _ _ h
def ni_ifeq (a b : Nat) : nl_I := .inl (31, a, b, 0)
theorem ns_ifeq {G : nl_G} {l : Launch} {e : Nat × Nat} {K : nl_K} {J : nl_J} {R : nl_R} {ls st : List Value} {w : nl_HW} {a b : Nat} {x : Int32}  : nl_stp G l e K J R (ni_ifeq a b) ls (.int x :: st) w = ((x = 0 → J a b ls st w) ∧ (¬ x = 0 → K ls st w)) := rfl
theorem no_ifeq {G : nl_G} {l : Launch} {mi : nl_MI} {pc : Nat} {a b : Nat} {off : Int} (hd : decode mi.2.1 pc = .ok (.ifCond .eq off, 3)) (ht : (pc : Int) + off = (b : Int)) : nl_Snd G l mi pc (ni_ifeq a b) (pc + 3) := by
  intro QF z e J R he hR hJ K hK ls st w h
  obtain ⟨x, st, rfl, h⟩ := nl_i1_inv h
  intro p en s m args below meth c H locs la k sl C hs0 hRp hS hl hk hsl hk1 hsl1
  exact lv_if_eq C.1 C.2.1 hd ht (fun q => hJ _ _ _ _ _ (h.1 q) p en s m args below meth c H locs la k sl C hs0 hRp hS hl hk hsl hk1 hsl1) (fun q => hK _ _ _ (h.2 q) p en s m args below meth c H locs la k sl C hs0 hRp hS hl hk hsl hk1 hsl1)
def ni_ifne (a b : Nat) : nl_I := .inl (32, a, b, 0)
theorem ns_ifne {G : nl_G} {l : Launch} {e : Nat × Nat} {K : nl_K} {J : nl_J} {R : nl_R} {ls st : List Value} {w : nl_HW} {a b : Nat} {x : Int32}  : nl_stp G l e K J R (ni_ifne a b) ls (.int x :: st) w = ((¬ x = 0 → J a b ls st w) ∧ (x = 0 → K ls st w)) := rfl
theorem no_ifne {G : nl_G} {l : Launch} {mi : nl_MI} {pc : Nat} {a b : Nat} {off : Int} (hd : decode mi.2.1 pc = .ok (.ifCond .ne off, 3)) (ht : (pc : Int) + off = (b : Int)) : nl_Snd G l mi pc (ni_ifne a b) (pc + 3) := by
  intro QF z e J R he hR hJ K hK ls st w h
  obtain ⟨x, st, rfl, h⟩ := nl_i1_inv h
  intro p en s m args below meth c H locs la k sl C hs0 hRp hS hl hk hsl hk1 hsl1
  exact lv_if_ne C.1 C.2.1 hd ht (fun q => hJ _ _ _ _ _ (h.1 q) p en s m args below meth c H locs la k sl C hs0 hRp hS hl hk hsl hk1 hsl1) (fun q => hK _ _ _ (h.2 q) p en s m args below meth c H locs la k sl C hs0 hRp hS hl hk hsl hk1 hsl1)
def ni_iflt (a b : Nat) : nl_I := .inl (33, a, b, 0)
theorem ns_iflt {G : nl_G} {l : Launch} {e : Nat × Nat} {K : nl_K} {J : nl_J} {R : nl_R} {ls st : List Value} {w : nl_HW} {a b : Nat} {x : Int32}  : nl_stp G l e K J R (ni_iflt a b) ls (.int x :: st) w = ((x < 0 → J a b ls st w) ∧ (¬ x < 0 → K ls st w)) := rfl
theorem no_iflt {G : nl_G} {l : Launch} {mi : nl_MI} {pc : Nat} {a b : Nat} {off : Int} (hd : decode mi.2.1 pc = .ok (.ifCond .lt off, 3)) (ht : (pc : Int) + off = (b : Int)) : nl_Snd G l mi pc (ni_iflt a b) (pc + 3) := by
  intro QF z e J R he hR hJ K hK ls st w h
  obtain ⟨x, st, rfl, h⟩ := nl_i1_inv h
  intro p en s m args below meth c H locs la k sl C hs0 hRp hS hl hk hsl hk1 hsl1
  exact lv_if_lt C.1 C.2.1 hd ht (fun q => hJ _ _ _ _ _ (h.1 q) p en s m args below meth c H locs la k sl C hs0 hRp hS hl hk hsl hk1 hsl1) (fun q => hK _ _ _ (h.2 q) p en s m args below meth c H locs la k sl C hs0 hRp hS hl hk hsl hk1 hsl1)
def ni_ifge (a b : Nat) : nl_I := .inl (34, a, b, 0)
theorem ns_ifge {G : nl_G} {l : Launch} {e : Nat × Nat} {K : nl_K} {J : nl_J} {R : nl_R} {ls st : List Value} {w : nl_HW} {a b : Nat} {x : Int32}  : nl_stp G l e K J R (ni_ifge a b) ls (.int x :: st) w = ((0 ≤ x → J a b ls st w) ∧ (¬ 0 ≤ x → K ls st w)) := rfl
theorem no_ifge {G : nl_G} {l : Launch} {mi : nl_MI} {pc : Nat} {a b : Nat} {off : Int} (hd : decode mi.2.1 pc = .ok (.ifCond .ge off, 3)) (ht : (pc : Int) + off = (b : Int)) : nl_Snd G l mi pc (ni_ifge a b) (pc + 3) := by
  intro QF z e J R he hR hJ K hK ls st w h
  obtain ⟨x, st, rfl, h⟩ := nl_i1_inv h
  intro p en s m args below meth c H locs la k sl C hs0 hRp hS hl hk hsl hk1 hsl1
  exact lv_if_ge C.1 C.2.1 hd ht (fun q => hJ _ _ _ _ _ (h.1 q) p en s m args below meth c H locs la k sl C hs0 hRp hS hl hk hsl hk1 hsl1) (fun q => hK _ _ _ (h.2 q) p en s m args below meth c H locs la k sl C hs0 hRp hS hl hk hsl hk1 hsl1)
def ni_ifgt (a b : Nat) : nl_I := .inl (35, a, b, 0)
theorem ns_ifgt {G : nl_G} {l : Launch} {e : Nat × Nat} {K : nl_K} {J : nl_J} {R : nl_R} {ls st : List Value} {w : nl_HW} {a b : Nat} {x : Int32}  : nl_stp G l e K J R (ni_ifgt a b) ls (.int x :: st) w = ((0 < x → J a b ls st w) ∧ (¬ 0 < x → K ls st w)) := rfl
theorem no_ifgt {G : nl_G} {l : Launch} {mi : nl_MI} {pc : Nat} {a b : Nat} {off : Int} (hd : decode mi.2.1 pc = .ok (.ifCond .gt off, 3)) (ht : (pc : Int) + off = (b : Int)) : nl_Snd G l mi pc (ni_ifgt a b) (pc + 3) := by
  intro QF z e J R he hR hJ K hK ls st w h
  obtain ⟨x, st, rfl, h⟩ := nl_i1_inv h
  intro p en s m args below meth c H locs la k sl C hs0 hRp hS hl hk hsl hk1 hsl1
  exact lv_if_gt C.1 C.2.1 hd ht (fun q => hJ _ _ _ _ _ (h.1 q) p en s m args below meth c H locs la k sl C hs0 hRp hS hl hk hsl hk1 hsl1) (fun q => hK _ _ _ (h.2 q) p en s m args below meth c H locs la k sl C hs0 hRp hS hl hk hsl hk1 hsl1)
def ni_ifle (a b : Nat) : nl_I := .inl (36, a, b, 0)
theorem ns_ifle {G : nl_G} {l : Launch} {e : Nat × Nat} {K : nl_K} {J : nl_J} {R : nl_R} {ls st : List Value} {w : nl_HW} {a b : Nat} {x : Int32}  : nl_stp G l e K J R (ni_ifle a b) ls (.int x :: st) w = ((x ≤ 0 → J a b ls st w) ∧ (¬ x ≤ 0 → K ls st w)) := rfl
theorem no_ifle {G : nl_G} {l : Launch} {mi : nl_MI} {pc : Nat} {a b : Nat} {off : Int} (hd : decode mi.2.1 pc = .ok (.ifCond .le off, 3)) (ht : (pc : Int) + off = (b : Int)) : nl_Snd G l mi pc (ni_ifle a b) (pc + 3) := by
  intro QF z e J R he hR hJ K hK ls st w h
  obtain ⟨x, st, rfl, h⟩ := nl_i1_inv h
  intro p en s m args below meth c H locs la k sl C hs0 hRp hS hl hk hsl hk1 hsl1
  exact lv_if_le C.1 C.2.1 hd ht (fun q => hJ _ _ _ _ _ (h.1 q) p en s m args below meth c H locs la k sl C hs0 hRp hS hl hk hsl hk1 hsl1) (fun q => hK _ _ _ (h.2 q) p en s m args below meth c H locs la k sl C hs0 hRp hS hl hk hsl hk1 hsl1)
def ni_cmeq (a b : Nat) : nl_I := .inl (37, a, b, 0)
theorem ns_cmeq {G : nl_G} {l : Launch} {e : Nat × Nat} {K : nl_K} {J : nl_J} {R : nl_R} {ls st : List Value} {w : nl_HW} {a b : Nat} {x y : Int32}  : nl_stp G l e K J R (ni_cmeq a b) ls (.int y :: .int x :: st) w = ((x = y → J a b ls st w) ∧ (¬ x = y → K ls st w)) := rfl
theorem no_cmeq {G : nl_G} {l : Launch} {mi : nl_MI} {pc : Nat} {a b : Nat} {off : Int} (hd : decode mi.2.1 pc = .ok (.if_icmp .eq off, 3)) (ht : (pc : Int) + off = (b : Int)) : nl_Snd G l mi pc (ni_cmeq a b) (pc + 3) := by
  intro QF z e J R he hR hJ K hK ls st w h
  obtain ⟨x, y, st, rfl, h⟩ := nl_i2_inv h
  intro p en s m args below meth c H locs la k sl C hs0 hRp hS hl hk hsl hk1 hsl1
  exact lv_icmp_eq C.1 C.2.1 hd ht (fun q => hJ _ _ _ _ _ (h.1 q) p en s m args below meth c H locs la k sl C hs0 hRp hS hl hk hsl hk1 hsl1) (fun q => hK _ _ _ (h.2 q) p en s m args below meth c H locs la k sl C hs0 hRp hS hl hk hsl hk1 hsl1)
def ni_cmne (a b : Nat) : nl_I := .inl (38, a, b, 0)
theorem ns_cmne {G : nl_G} {l : Launch} {e : Nat × Nat} {K : nl_K} {J : nl_J} {R : nl_R} {ls st : List Value} {w : nl_HW} {a b : Nat} {x y : Int32}  : nl_stp G l e K J R (ni_cmne a b) ls (.int y :: .int x :: st) w = ((¬ x = y → J a b ls st w) ∧ (x = y → K ls st w)) := rfl
theorem no_cmne {G : nl_G} {l : Launch} {mi : nl_MI} {pc : Nat} {a b : Nat} {off : Int} (hd : decode mi.2.1 pc = .ok (.if_icmp .ne off, 3)) (ht : (pc : Int) + off = (b : Int)) : nl_Snd G l mi pc (ni_cmne a b) (pc + 3) := by
  intro QF z e J R he hR hJ K hK ls st w h
  obtain ⟨x, y, st, rfl, h⟩ := nl_i2_inv h
  intro p en s m args below meth c H locs la k sl C hs0 hRp hS hl hk hsl hk1 hsl1
  exact lv_icmp_ne C.1 C.2.1 hd ht (fun q => hJ _ _ _ _ _ (h.1 q) p en s m args below meth c H locs la k sl C hs0 hRp hS hl hk hsl hk1 hsl1) (fun q => hK _ _ _ (h.2 q) p en s m args below meth c H locs la k sl C hs0 hRp hS hl hk hsl hk1 hsl1)
def ni_cmlt (a b : Nat) : nl_I := .inl (39, a, b, 0)
theorem ns_cmlt {G : nl_G} {l : Launch} {e : Nat × Nat} {K : nl_K} {J : nl_J} {R : nl_R} {ls st : List Value} {w : nl_HW} {a b : Nat} {x y : Int32}  : nl_stp G l e K J R (ni_cmlt a b) ls (.int y :: .int x :: st) w = ((x < y → J a b ls st w) ∧ (¬ x < y → K ls st w)) := rfl
theorem no_cmlt {G : nl_G} {l : Launch} {mi : nl_MI} {pc : Nat} {a b : Nat} {off : Int} (hd : decode mi.2.1 pc = .ok (.if_icmp .lt off, 3)) (ht : (pc : Int) + off = (b : Int)) : nl_Snd G l mi pc (ni_cmlt a b) (pc + 3) := by
  intro QF z e J R he hR hJ K hK ls st w h
  obtain ⟨x, y, st, rfl, h⟩ := nl_i2_inv h
  intro p en s m args below meth c H locs la k sl C hs0 hRp hS hl hk hsl hk1 hsl1
  exact lv_icmp_lt C.1 C.2.1 hd ht (fun q => hJ _ _ _ _ _ (h.1 q) p en s m args below meth c H locs la k sl C hs0 hRp hS hl hk hsl hk1 hsl1) (fun q => hK _ _ _ (h.2 q) p en s m args below meth c H locs la k sl C hs0 hRp hS hl hk hsl hk1 hsl1)
def ni_cmge (a b : Nat) : nl_I := .inl (40, a, b, 0)
theorem ns_cmge {G : nl_G} {l : Launch} {e : Nat × Nat} {K : nl_K} {J : nl_J} {R : nl_R} {ls st : List Value} {w : nl_HW} {a b : Nat} {x y : Int32}  : nl_stp G l e K J R (ni_cmge a b) ls (.int y :: .int x :: st) w = ((y ≤ x → J a b ls st w) ∧ (¬ y ≤ x → K ls st w)) := rfl
theorem no_cmge {G : nl_G} {l : Launch} {mi : nl_MI} {pc : Nat} {a b : Nat} {off : Int} (hd : decode mi.2.1 pc = .ok (.if_icmp .ge off, 3)) (ht : (pc : Int) + off = (b : Int)) : nl_Snd G l mi pc (ni_cmge a b) (pc + 3) := by
  intro QF z e J R he hR hJ K hK ls st w h
  obtain ⟨x, y, st, rfl, h⟩ := nl_i2_inv h
  intro p en s m args below meth c H locs la k sl C hs0 hRp hS hl hk hsl hk1 hsl1
  exact lv_icmp_ge C.1 C.2.1 hd ht (fun q => hJ _ _ _ _ _ (h.1 q) p en s m args below meth c H locs la k sl C hs0 hRp hS hl hk hsl hk1 hsl1) (fun q => hK _ _ _ (h.2 q) p en s m args below meth c H locs la k sl C hs0 hRp hS hl hk hsl hk1 hsl1)
def ni_cmgt (a b : Nat) : nl_I := .inl (41, a, b, 0)
theorem ns_cmgt {G : nl_G} {l : Launch} {e : Nat × Nat} {K : nl_K} {J : nl_J} {R : nl_R} {ls st : List Value} {w : nl_HW} {a b : Nat} {x y : Int32}  : nl_stp G l e K J R (ni_cmgt a b) ls (.int y :: .int x :: st) w = ((y < x → J a b ls st w) ∧ (¬ y < x → K ls st w)) := rfl
theorem no_cmgt {G : nl_G} {l : Launch} {mi : nl_MI} {pc : Nat} {a b : Nat} {off : Int} (hd : decode mi.2.1 pc = .ok (.if_icmp .gt off, 3)) (ht : (pc : Int) + off = (b : Int)) : nl_Snd G l mi pc (ni_cmgt a b) (pc + 3) := by
  intro QF z e J R he hR hJ K hK ls st w h
  obtain ⟨x, y, st, rfl, h⟩ := nl_i2_inv h
  intro p en s m args below meth c H locs la k sl C hs0 hRp hS hl hk hsl hk1 hsl1
  exact lv_icmp_gt C.1 C.2.1 hd ht (fun q => hJ _ _ _ _ _ (h.1 q) p en s m args below meth c H locs la k sl C hs0 hRp hS hl hk hsl hk1 hsl1) (fun q => hK _ _ _ (h.2 q) p en s m args below meth c H locs la k sl C hs0 hRp hS hl hk hsl hk1 hsl1)
def ni_cmle (a b : Nat) : nl_I := .inl (42, a, b, 0)
theorem ns_cmle {G : nl_G} {l : Launch} {e : Nat × Nat} {K : nl_K} {J : nl_J} {R : nl_R} {ls st : List Value} {w : nl_HW} {a b : Nat} {x y : Int32}  : nl_stp G l e K J R (ni_cmle a b) ls (.int y :: .int x :: st) w = ((x ≤ y → J a b ls st w) ∧ (¬ x ≤ y → K ls st w)) := rfl
theorem no_cmle {G : nl_G} {l : Launch} {mi : nl_MI} {pc : Nat} {a b : Nat} {off : Int} (hd : decode mi.2.1 pc = .ok (.if_icmp .le off, 3)) (ht : (pc : Int) + off = (b : Int)) : nl_Snd G l mi pc (ni_cmle a b) (pc + 3) := by
  intro QF z e J R he hR hJ K hK ls st w h
  obtain ⟨x, y, st, rfl, h⟩ := nl_i2_inv h
  intro p en s m args below meth c H locs la k sl C hs0 hRp hS hl hk hsl hk1 hsl1
  exact lv_icmp_le C.1 C.2.1 hd ht (fun q => hJ _ _ _ _ _ (h.1 q) p en s m args below meth c H locs la k sl C hs0 hRp hS hl hk hsl hk1 hsl1) (fun q => hK _ _ _ (h.2 q) p en s m args below meth c H locs la k sl C hs0 hRp hS hl hk hsl hk1 hsl1)
def ni_iret  : nl_I := .inl (63, 0, 0, 0)
theorem ns_iret {G : nl_G} {l : Launch} {e : Nat × Nat} {K : nl_K} {J : nl_J} {R : nl_R} {ls st : List Value} {w : nl_HW} {x : Int32}  : nl_stp G l e K J R ni_iret ls ([.int x]) w = (([] : List Value) = [] ∧ R (some (.int x)) w) := rfl
theorem no_iret {G : nl_G} {l : Launch} {mi : nl_MI} {pc : Nat} (hd : decode mi.2.1 pc = .ok (.ireturn, 1)) : nl_Snd G l mi pc ni_iret (pc + 1) := by
  intro QF z e J R he hR hJ K hK ls st w h
  have h : nl_i1 st (fun x st => st = [] ∧ R (some (.int x)) w) := h
  obtain ⟨x, st, rfl, h1, h2⟩ := nl_i1_inv h
  subst h1
  exact hR.1 x w pc ls hd h2
def ni_vret  : nl_I := .inl (64, 0, 0, 0)
theorem ns_vret {G : nl_G} {l : Launch} {e : Nat × Nat} {K : nl_K} {J : nl_J} {R : nl_R} {ls st : List Value} {w : nl_HW}   : nl_stp G l e K J R ni_vret ls ([]) w = (([] : List Value) = [] ∧ R none w) := rfl
theorem no_vret {G : nl_G} {l : Launch} {mi : nl_MI} {pc : Nat} (hd : decode mi.2.1 pc = .ok (.return_, 1)) : nl_Snd G l mi pc ni_vret (pc + 1) := by
  intro QF z e J R he hR hJ K hK ls st w h
  obtain ⟨rfl, h⟩ := h
  exact hR.2 w pc ls hd h

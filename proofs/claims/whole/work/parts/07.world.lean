/-! PART 07: the instructions over the world -/
theorem nl_nth_eq : ∀ (L : List Value) (k : Nat), nl_nth L k = L[k]?
  | [], k => by simp [nl_nth]
  | v :: L, 0 => rfl
  | v :: L, k + 1 => by rw [List.getElem?_cons_succ]; exact nl_nth_eq L k
theorem nl_lt {G : nl_G} {w : nl_HW} {H : Heap} (h : nl_Rp G w H) {q c : Nat} {fs : List Value} {r : vw_C} (hq : w.1 q = .inr (c, fs)) (hc : vwCl[c]? = some r) : q < w.2.1 := by
  rcases Nat.lt_or_ge q w.2.1 with h1 | h1
  · exact h1
  · have := h.2.1 q h1
    rw [hq] at this
    cases this
    simp [vwCl] at hc
theorem nl_ltA {G : nl_G} {w : nl_HW} {H : Heap} (h : nl_Rp G w H) {q : Nat} {x : ClassId × vp_A} (hq : w.1 q = .inl x) : q < w.2.1 := by
  rcases Nat.lt_or_ge q w.2.1 with h1 | h1
  · exact h1
  · have := h.2.1 q h1
    rw [hq] at this
    cases this
theorem nl_nilset {w : nl_HW} {q : Nat} {c : va_E} (h : ∀ k, w.2.1 ≤ k → w.1 k = nl_nil) (hq : q < w.2.1) : ∀ k, w.2.1 ≤ k → va_up w.1 q c k = nl_nil := fun k hk => by
  rw [va_up, if_neg (by omega)]
  exact h k hk
/-- back to a stand: the heap's size is known by the room -/
theorem nl_back {G : nl_G} {l : Launch} {mi : nl_MI} {QF : nl_Q} {z : Nat × Nat} {pc : Nat} {ls st : List Value} {w : nl_HW} (hA : nl_At G l mi QF z pc ls st w) {p : Program} {en : Env} {s : State} {m : MethodId} {args : Array Value} {below : List Frame} {meth : Method} {c : Code} {H : Heap} {locs : List Loc} {la : Array Slot} {k sl : Nat}
    (C : nl_Cx G mi p s m args meth c) (hs0 : s.heap.size = G.1 + z.1) (hn : ∀ j, w.2.1 ≤ j → w.1 j = nl_nil) (hP : va_P G.2.2.1 vwCl (nl_ws0 G w.2.1 w.1) H) (hS : va_S (nl_A G) s.heap H locs) (hl : nl_lv G la ls mi.2.2.1) (hk : z.1 + k = w.2.1) (hsl : z.2 + sl = w.2.2) (hk1 : k ≤ mi.2.2.2.2.cells) (hsl1 : sl ≤ mi.2.2.2.2.slots) :
    W p l en mi.2.2.2.2 s m args below meth c H locs k sl (QF below args s) (F0 m pc la (st.map (nl_tv G))) := by
  intro T hT X
  have h1 := X.heapSize
  rw [hT] at h1
  have h2 : G.1 + w.2.1 ≤ H.size := by
    rcases Nat.eq_zero_or_pos w.2.1 with h0 | h0
    · have := hS.1
      omega
    · have := (hP (w.2.1 - 1) _ (nl_ws0_at G w.1 (show w.2.1 - 1 < w.2.1 by omega))).lt
      simp only at this
      omega
  exact hA p en s m args below meth c H locs la k sl C hs0 ⟨by omega, hn, hP⟩ hS hl hk hsl hk1 hsl1 T hT X
def ni_get (c k : Nat) : nl_I := .inl (43, c, k, 0)
theorem ns_get {G : nl_G} {l : Launch} {e : Nat × Nat} {K : nl_K} {J : nl_J} {R : nl_R} {ls st : List Value} {w : nl_HW} {c k q : Nat} : nl_stp G l e K J R (ni_get c k) ls (.ref q :: st) w = nl_gf c k (w.1 q) (fun v => K ls (v :: st) w) := rfl
theorem no_get_inv {G : nl_G} {l : Launch} {e : Nat × Nat} {K : nl_K} {J : nl_J} {R : nl_R} {ls st : List Value} {w : nl_HW} {c k : Nat} (h : nl_stp G l e K J R (ni_get c k) ls st w) : ∃ q st' fs v, st = .ref q :: st' ∧ w.1 q = .inr (c, fs) ∧ nl_nth fs k = some v ∧ K ls (v :: st') w := by
  have h : nl_stR st (fun x st => match x with
    | .ref q => nl_gf c k (w.1 q) fun v => K ls (v :: st) w
    | _ => False) := h
  obtain ⟨x, st, rfl, hx, h⟩ := nl_stR_inv h
  rcases hx with ⟨q, rfl⟩ | ⟨q, rfl⟩
  · obtain ⟨fs, v, h1, h2, h3⟩ := nl_gf_inv h
    exact ⟨q, st, fs, v, rfl, h1, h2, h3⟩
  · exact h.elim
theorem no_get {G : nl_G} {l : Launch} {mi : nl_MI} {pc c k idx N : Nat} {Cn : String} {T : u_T} (hc : vwCl[c]? = some (Cn, T, N)) (hin : ∀ w ∈ u_ws Cn T N, w ∈ nl_W) (hkN : k < N) (hd : decode mi.2.1 pc = .ok (.getfield idx, 3)) (hw : Cond.fieldLink mi.1.cls idx (T k).1 (T k).2.1 (T k).2.2.1 ∈ nl_W) : nl_Snd G l mi pc (ni_get c k) (pc + 3) := by
  intro QF z e J R he hR hJ K hK ls st w h
  obtain ⟨q, st, fs, v, rfl, h1, h2, h3⟩ := no_get_inv h
  intro p en s m args below meth cd H locs la k1 sl C hs0 hRp hS hl hk hsl hk1 hsl1
  have he := nl_ws0_at G w.1 (nl_lt hRp h1 hc)
  rw [h1] at he
  refine va_get (D := G.2.2.1) (cl := vwCl) (tys := nl_ty G) (C := Cn) (T := T) (N := N) C.1 C.2.1 C.2.2.2.2.2.1 hin C.2.2.2.2.1 C.2.2.2.2.2.2.2.2.1 hRp.2.2 q he hc k hkN (C.2.2.2.2.2.1 _ hw) (fun _ h => h) (v := nl_tv G v) ?_ hd (hK _ _ _ h3 p en s m args below meth cd H locs la k1 sl C hs0 hRp hS hl hk hsl hk1 hsl1)
  rw [List.getElem?_map, ← nl_nth_eq, h2]
  rfl
theorem no_getN {G : nl_G} {l : Launch} {mi : nl_MI} {pc c k idx N : Nat} {Cn host : String} {T : u_T} (hc : vwCl[c]? = some (Cn, T, N)) (hin : ∀ w ∈ u_ws Cn T N, w ∈ nl_W) (hkN : k < N) (hd : decode mi.2.1 pc = .ok (.getfield idx, 3)) (hw : Cond.fieldLinkNest mi.1.cls idx (T k).1 (T k).2.1 (T k).2.2.1 host ∈ nl_N) : nl_Snd G l mi pc (ni_get c k) (pc + 3) := by
  intro QF z e J R he hR hJ K hK ls st w h
  obtain ⟨q, st, fs, v, rfl, h1, h2, h3⟩ := no_get_inv h
  intro p en s m args below meth cd H locs la k1 sl C hs0 hRp hS hl hk hsl hk1 hsl1
  have he := nl_ws0_at G w.1 (nl_lt hRp h1 hc)
  rw [h1] at he
  refine va_getN (D := G.2.2.1) (cl := vwCl) (tys := nl_ty G) (C := Cn) (T := T) (N := N) C.1 C.2.1 C.2.2.2.2.2.1 hin C.2.2.2.2.1 C.2.2.2.2.2.2.2.2.1 hRp.2.2 q he hc k hkN ((C.2.2.2.2.2.2.2.2.2.1 _ hw).use rfl) (fun _ h => h) (v := nl_tv G v) ?_ hd (hK _ _ _ h3 p en s m args below meth cd H locs la k1 sl C hs0 hRp hS hl hk hsl hk1 hsl1)
  rw [List.getElem?_map, ← nl_nth_eq, h2]
  rfl
-- stores into fields: int, boolean, reference
def ni_putI (c k : Nat) : nl_I := .inl (44, c, k, 0)
def ni_putZ (c k : Nat) : nl_I := .inl (45, c, k, 0)
def ni_putR (c k : Nat) : nl_I := .inl (46, c, k, 0)
theorem ns_putI {G : nl_G} {l : Launch} {e : Nat × Nat} {K : nl_K} {J : nl_J} {R : nl_R} {ls st : List Value} {w : nl_HW} {c k q : Nat} {x : Int32} : nl_stp G l e K J R (ni_putI c k) ls (.int x :: .ref q :: st) w = nl_pf c k (w.1 q) (.int x) (fun u => K ls st (nl_hs w q u)) := rfl
theorem ns_putZ {G : nl_G} {l : Launch} {e : Nat × Nat} {K : nl_K} {J : nl_J} {R : nl_R} {ls st : List Value} {w : nl_HW} {c k q : Nat} {x : Int32} : nl_stp G l e K J R (ni_putZ c k) ls (.int x :: .ref q :: st) w = ((x = 0 ∨ x = 1) ∧ nl_pf c k (w.1 q) (.int x) (fun u => K ls st (nl_hs w q u))) := rfl
theorem ns_putR {G : nl_G} {l : Launch} {e : Nat × Nat} {K : nl_K} {J : nl_J} {R : nl_R} {ls st : List Value} {w : nl_HW} {c k q y : Nat} : nl_stp G l e K J R (ni_putR c k) ls (.ref y :: .ref q :: st) w = nl_pf c k (w.1 q) (.ref y) (fun u => K ls st (nl_hs w q u)) := rfl
theorem no_putI_inv {G : nl_G} {l : Launch} {e : Nat × Nat} {K : nl_K} {J : nl_J} {R : nl_R} {ls st : List Value} {w : nl_HW} {c k : Nat} (h : nl_stp G l e K J R (ni_putI c k) ls st w) : ∃ x q st' fs, st = .int x :: .ref q :: st' ∧ w.1 q = .inr (c, fs) ∧ k < fs.length ∧ K ls st' (nl_hs w q (.inr (c, fs.set k (.int x)))) := by
  have h : nl_i1 st (fun x st => nl_stR st fun r st => match r with
    | .ref q => nl_pf c k (w.1 q) (.int x) fun c => K ls st (nl_hs w q c)
    | _ => False) := h
  obtain ⟨x, st, rfl, h4⟩ := nl_i1_inv h
  obtain ⟨r, st, rfl, hr, h5⟩ := nl_stR_inv h4
  rcases hr with ⟨q, rfl⟩ | ⟨q, rfl⟩
  · obtain ⟨fs, h1, h2, h3⟩ := nl_pf_inv h5
    exact ⟨x, q, st, fs, rfl, h1, h2, h3⟩
  · exact h5.elim
theorem no_putZ_inv {G : nl_G} {l : Launch} {e : Nat × Nat} {K : nl_K} {J : nl_J} {R : nl_R} {ls st : List Value} {w : nl_HW} {c k : Nat} (h : nl_stp G l e K J R (ni_putZ c k) ls st w) : ∃ x q st' fs, (x = 0 ∨ x = 1) ∧ st = .int x :: .ref q :: st' ∧ w.1 q = .inr (c, fs) ∧ k < fs.length ∧ K ls st' (nl_hs w q (.inr (c, fs.set k (.int x)))) := by
  have h : nl_i1 st (fun x st => (x = 0 ∨ x = 1) ∧ nl_stR st fun r st => match r with
    | .ref q => nl_pf c k (w.1 q) (.int x) fun c => K ls st (nl_hs w q c)
    | _ => False) := h
  obtain ⟨x, st, rfl, hx, h⟩ := nl_i1_inv h
  obtain ⟨r, st, rfl, hr, h⟩ := nl_stR_inv h
  rcases hr with ⟨q, rfl⟩ | ⟨q, rfl⟩
  · obtain ⟨fs, h1, h2, h3⟩ := nl_pf_inv h
    exact ⟨x, q, st, fs, hx, rfl, h1, h2, h3⟩
  · exact h.elim
theorem no_putR_inv {G : nl_G} {l : Launch} {e : Nat × Nat} {K : nl_K} {J : nl_J} {R : nl_R} {ls st : List Value} {w : nl_HW} {c k : Nat} (h : nl_stp G l e K J R (ni_putR c k) ls st w) : ∃ y q st' fs, st = .ref y :: .ref q :: st' ∧ w.1 q = .inr (c, fs) ∧ k < fs.length ∧ K ls st' (nl_hs w q (.inr (c, fs.set k (.ref y)))) := by
  have h : nl_stR st (fun x st => nl_stR st fun r st => match x, r with
    | .ref y, .ref q => nl_pf c k (w.1 q) (.ref y) fun c => K ls st (nl_hs w q c)
    | _, _ => False) := h
  obtain ⟨x, st, rfl, hx, h⟩ := nl_stR_inv h
  obtain ⟨r, st, rfl, hr, h⟩ := nl_stR_inv h
  rcases hx with ⟨y, rfl⟩ | ⟨y, rfl⟩ <;> rcases hr with ⟨q, rfl⟩ | ⟨q, rfl⟩
  · obtain ⟨fs, h1, h2, h3⟩ := nl_pf_inv h
    exact ⟨y, q, st, fs, rfl, h1, h2, h3⟩
  · exact h.elim
  · exact h.elim
  · exact h.elim
section PUT
variable {G : nl_G} {l : Launch} {mi : nl_MI} {QF : nl_Q} {z : Nat × Nat} {pc c k idx N q : Nat} {Cn host : String} {T : u_T} {ty : FieldType} {v : Value} {fs : List Value} {ls st : List Value} {w : nl_HW}
theorem nl_putA (ty0 : Nat → FieldType) (hty : ∀ k, k < N → parseFieldDescriptor (T k).2.2.1 = some (ty0 k)) (hnm : ∀ a, a < N → ∀ b, b < N → a ≠ b → (T a).2.1 ≠ (T b).2.1) (hc : vwCl[c]? = some (Cn, T, N)) (hin : ∀ w ∈ u_ws Cn T N, w ∈ nl_W) (hkN : k < N) (hfin : (T k).2.2.2 = false) (hd : decode mi.2.1 pc = .ok (.putfield idx, 3)) (hw : Cond.fieldLink mi.1.cls idx (T k).1 (T k).2.1 (T k).2.2.1 ∈ nl_W)
    (hdt : parseFieldDescriptor (T k).2.2.1 = some ty) (hn : narrow ty (nl_tv G v) = nl_tv G v) (hf : fits ty (nl_tv G v) = true) (h1 : w.1 q = .inr (c, fs)) (h2 : k < fs.length) (hA : nl_At G l mi QF z (pc + 3) ls st (nl_hs w q (.inr (c, fs.set k v)))) : nl_At G l mi QF z pc ls (v :: .ref q :: st) w := by
  intro p en s m args below meth cd H locs la k1 sl C hs0 hRp hS hl hk hsl hk1 hsl1
  have hlt := nl_lt hRp h1 hc
  have he := nl_ws0_at G w.1 hlt
  rw [h1] at he
  refine va_put (D := G.2.2.1) (cl := vwCl) (tys := nl_ty G) (C := Cn) (T := T) (N := N) (v := nl_tv G v) (fs := fs.map (nl_tv G)) C.1 C.2.1 C.2.2.2.2.2.1 hin ty0 hty hnm C.2.2.2.2.1 C.2.2.2.2.2.2.2.2.1 hRp.2.2 (nl_D G _ _) hS q he hc k hkN (C.2.2.2.2.2.1 _ hw) (fun _ h => h) hfin hdt hn hf (by rw [List.length_map]; exact h2) hd fun H1 locs1 hP1 hD1 hS1 => ?_
  rw [← List.map_set] at hP1
  have hP1 : va_P G.2.2.1 vwCl ((nl_ws0 G w.2.1 w.1).set q (G.1 + q, nl_te G (.inr (c, fs.set k v)))) H1 := hP1
  rw [nl_ws0_set] at hP1
  exact nl_back hA C hs0 (nl_nilset hRp.2.1 hlt) hP1 hS1 hl hk hsl hk1 hsl1
theorem nl_putN (ty0 : Nat → FieldType) (hty : ∀ k, k < N → parseFieldDescriptor (T k).2.2.1 = some (ty0 k)) (hnm : ∀ a, a < N → ∀ b, b < N → a ≠ b → (T a).2.1 ≠ (T b).2.1) (hc : vwCl[c]? = some (Cn, T, N)) (hin : ∀ w ∈ u_ws Cn T N, w ∈ nl_W) (hkN : k < N) (hfin : (T k).2.2.2 = false) (hd : decode mi.2.1 pc = .ok (.putfield idx, 3)) (hw : Cond.fieldLinkNest mi.1.cls idx (T k).1 (T k).2.1 (T k).2.2.1 host ∈ nl_N)
    (hdt : parseFieldDescriptor (T k).2.2.1 = some ty) (hn : narrow ty (nl_tv G v) = nl_tv G v) (hf : fits ty (nl_tv G v) = true) (h1 : w.1 q = .inr (c, fs)) (h2 : k < fs.length) (hA : nl_At G l mi QF z (pc + 3) ls st (nl_hs w q (.inr (c, fs.set k v)))) : nl_At G l mi QF z pc ls (v :: .ref q :: st) w := by
  intro p en s m args below meth cd H locs la k1 sl C hs0 hRp hS hl hk hsl hk1 hsl1
  have hlt := nl_lt hRp h1 hc
  have he := nl_ws0_at G w.1 hlt
  rw [h1] at he
  refine va_putN (D := G.2.2.1) (cl := vwCl) (tys := nl_ty G) (C := Cn) (T := T) (N := N) (v := nl_tv G v) (fs := fs.map (nl_tv G)) C.1 C.2.1 C.2.2.2.2.2.1 hin ty0 hty hnm C.2.2.2.2.1 C.2.2.2.2.2.2.2.2.1 hRp.2.2 (nl_D G _ _) hS q he hc k hkN ((C.2.2.2.2.2.2.2.2.2.1 _ hw).use rfl) (fun _ h => h) hfin hdt hn hf (by rw [List.length_map]; exact h2) hd fun H1 locs1 hP1 hD1 hS1 => ?_
  rw [← List.map_set] at hP1
  have hP1 : va_P G.2.2.1 vwCl ((nl_ws0 G w.2.1 w.1).set q (G.1 + q, nl_te G (.inr (c, fs.set k v)))) H1 := hP1
  rw [nl_ws0_set] at hP1
  exact nl_back hA C hs0 (nl_nilset hRp.2.1 hlt) hP1 hS1 hl hk hsl hk1 hsl1
theorem nl_putF (ty0 : Nat → FieldType) (hty : ∀ k, k < N → parseFieldDescriptor (T k).2.2.1 = some (ty0 k)) (hnm : ∀ a, a < N → ∀ b, b < N → a ≠ b → (T a).2.1 ≠ (T b).2.1) (hc : vwCl[c]? = some (Cn, T, N)) (hin : ∀ w ∈ u_ws Cn T N, w ∈ nl_W) (hkN : k < N) (hfin : (T k).2.2.2 = true) (hini : mi.1.name = "<init>") (hdecl : (T k).1 = mi.1.cls) (hd : decode mi.2.1 pc = .ok (.putfield idx, 3)) (hw : Cond.fieldLink mi.1.cls idx (T k).1 (T k).2.1 (T k).2.2.1 ∈ nl_W)
    (hdt : parseFieldDescriptor (T k).2.2.1 = some ty) (hn : narrow ty (nl_tv G v) = nl_tv G v) (hf : fits ty (nl_tv G v) = true) (h1 : w.1 q = .inr (c, fs)) (h2 : k < fs.length) (hA : nl_At G l mi QF z (pc + 3) ls st (nl_hs w q (.inr (c, fs.set k v)))) : nl_At G l mi QF z pc ls (v :: .ref q :: st) w := by
  intro p en s m args below meth cd H locs la k1 sl C hs0 hRp hS hl hk hsl hk1 hsl1
  have hlt := nl_lt hRp h1 hc
  have he := nl_ws0_at G w.1 hlt
  rw [h1] at he
  refine va_putF (D := G.2.2.1) (cl := vwCl) (tys := nl_ty G) (C := Cn) (T := T) (N := N) (v := nl_tv G v) (fs := fs.map (nl_tv G)) C.1 C.2.1 C.2.2.2.2.2.1 hin ty0 hty hnm C.2.2.2.2.1 C.2.2.2.2.2.2.2.2.1 hRp.2.2 (nl_D G _ _) hS q he hc k hkN (C.2.2.2.2.2.1 _ hw) (fun _ h => h) hfin (C.2.2.2.2.2.2.2.1.trans hini) hdecl hdt hn hf (by rw [List.length_map]; exact h2) hd fun H1 locs1 hP1 hD1 hS1 => ?_
  rw [← List.map_set] at hP1
  have hP1 : va_P G.2.2.1 vwCl ((nl_ws0 G w.2.1 w.1).set q (G.1 + q, nl_te G (.inr (c, fs.set k v)))) H1 := hP1
  rw [nl_ws0_set] at hP1
  exact nl_back hA C hs0 (nl_nilset hRp.2.1 hlt) hP1 hS1 hl hk hsl hk1 hsl1
end PUT
theorem no_putI {G : nl_G} {l : Launch} {mi : nl_MI} {pc c k idx N : Nat} {Cn : String} {T : u_T} (ty0 : Nat → FieldType) (hty : ∀ k, k < N → parseFieldDescriptor (T k).2.2.1 = some (ty0 k)) (hnm : ∀ a, a < N → ∀ b, b < N → a ≠ b → (T a).2.1 ≠ (T b).2.1) (hc : vwCl[c]? = some (Cn, T, N)) (hin : ∀ w ∈ u_ws Cn T N, w ∈ nl_W) (hkN : k < N) (hfin : (T k).2.2.2 = false) (hdt : parseFieldDescriptor (T k).2.2.1 = some .int) (hd : decode mi.2.1 pc = .ok (.putfield idx, 3)) (hw : Cond.fieldLink mi.1.cls idx (T k).1 (T k).2.1 (T k).2.2.1 ∈ nl_W) : nl_Snd G l mi pc (ni_putI c k) (pc + 3) := by
  intro QF z e J R he hR hJ K hK ls st w h
  obtain ⟨x, q, st, fs, rfl, h1, h2, h3⟩ := no_putI_inv h
  exact nl_putA ty0 hty hnm hc hin hkN hfin hd hw hdt rfl rfl h1 h2 (hK _ _ _ h3)
theorem no_putIN {G : nl_G} {l : Launch} {mi : nl_MI} {pc c k idx N : Nat} {Cn host : String} {T : u_T} (ty0 : Nat → FieldType) (hty : ∀ k, k < N → parseFieldDescriptor (T k).2.2.1 = some (ty0 k)) (hnm : ∀ a, a < N → ∀ b, b < N → a ≠ b → (T a).2.1 ≠ (T b).2.1) (hc : vwCl[c]? = some (Cn, T, N)) (hin : ∀ w ∈ u_ws Cn T N, w ∈ nl_W) (hkN : k < N) (hfin : (T k).2.2.2 = false) (hdt : parseFieldDescriptor (T k).2.2.1 = some .int) (hd : decode mi.2.1 pc = .ok (.putfield idx, 3)) (hw : Cond.fieldLinkNest mi.1.cls idx (T k).1 (T k).2.1 (T k).2.2.1 host ∈ nl_N) : nl_Snd G l mi pc (ni_putI c k) (pc + 3) := by
  intro QF z e J R he hR hJ K hK ls st w h
  obtain ⟨x, q, st, fs, rfl, h1, h2, h3⟩ := no_putI_inv h
  exact nl_putN ty0 hty hnm hc hin hkN hfin hd hw hdt rfl rfl h1 h2 (hK _ _ _ h3)
theorem no_putZ {G : nl_G} {l : Launch} {mi : nl_MI} {pc c k idx N : Nat} {Cn : String} {T : u_T} (ty0 : Nat → FieldType) (hty : ∀ k, k < N → parseFieldDescriptor (T k).2.2.1 = some (ty0 k)) (hnm : ∀ a, a < N → ∀ b, b < N → a ≠ b → (T a).2.1 ≠ (T b).2.1) (hc : vwCl[c]? = some (Cn, T, N)) (hin : ∀ w ∈ u_ws Cn T N, w ∈ nl_W) (hkN : k < N) (hfin : (T k).2.2.2 = false) (hdt : parseFieldDescriptor (T k).2.2.1 = some .boolean) (hd : decode mi.2.1 pc = .ok (.putfield idx, 3)) (hw : Cond.fieldLink mi.1.cls idx (T k).1 (T k).2.1 (T k).2.2.1 ∈ nl_W) : nl_Snd G l mi pc (ni_putZ c k) (pc + 3) := by
  intro QF z e J R he hR hJ K hK ls st w h
  obtain ⟨x, q, st, fs, hx, rfl, h1, h2, h3⟩ := no_putZ_inv h
  exact nl_putA ty0 hty hnm hc hin hkN hfin hd hw hdt (by rcases hx with rfl | rfl <;> rfl) (by rcases hx with rfl | rfl <;> rfl) h1 h2 (hK _ _ _ h3)
theorem no_putZN {G : nl_G} {l : Launch} {mi : nl_MI} {pc c k idx N : Nat} {Cn host : String} {T : u_T} (ty0 : Nat → FieldType) (hty : ∀ k, k < N → parseFieldDescriptor (T k).2.2.1 = some (ty0 k)) (hnm : ∀ a, a < N → ∀ b, b < N → a ≠ b → (T a).2.1 ≠ (T b).2.1) (hc : vwCl[c]? = some (Cn, T, N)) (hin : ∀ w ∈ u_ws Cn T N, w ∈ nl_W) (hkN : k < N) (hfin : (T k).2.2.2 = false) (hdt : parseFieldDescriptor (T k).2.2.1 = some .boolean) (hd : decode mi.2.1 pc = .ok (.putfield idx, 3)) (hw : Cond.fieldLinkNest mi.1.cls idx (T k).1 (T k).2.1 (T k).2.2.1 host ∈ nl_N) : nl_Snd G l mi pc (ni_putZ c k) (pc + 3) := by
  intro QF z e J R he hR hJ K hK ls st w h
  obtain ⟨x, q, st, fs, hx, rfl, h1, h2, h3⟩ := no_putZ_inv h
  exact nl_putN ty0 hty hnm hc hin hkN hfin hd hw hdt (by rcases hx with rfl | rfl <;> rfl) (by rcases hx with rfl | rfl <;> rfl) h1 h2 (hK _ _ _ h3)
theorem no_putR {G : nl_G} {l : Launch} {mi : nl_MI} {pc c k idx N : Nat} {Cn : String} {T : u_T} (ty0 : Nat → FieldType) (hty : ∀ k, k < N → parseFieldDescriptor (T k).2.2.1 = some (ty0 k)) (hnm : ∀ a, a < N → ∀ b, b < N → a ≠ b → (T a).2.1 ≠ (T b).2.1) (hc : vwCl[c]? = some (Cn, T, N)) (hin : ∀ w ∈ u_ws Cn T N, w ∈ nl_W) (hkN : k < N) (hfin : (T k).2.2.2 = false) {ty : FieldType} (hdt : parseFieldDescriptor (T k).2.2.1 = some ty) (hr : ∀ a : Nat, narrow ty (.ref a) = .ref a ∧ fits ty (.ref a) = true) (hd : decode mi.2.1 pc = .ok (.putfield idx, 3)) (hw : Cond.fieldLink mi.1.cls idx (T k).1 (T k).2.1 (T k).2.2.1 ∈ nl_W) : nl_Snd G l mi pc (ni_putR c k) (pc + 3) := by
  intro QF z e J R he hR hJ K hK ls st w h
  obtain ⟨y, q, st, fs, rfl, h1, h2, h3⟩ := no_putR_inv h
  exact nl_putA ty0 hty hnm hc hin hkN hfin hd hw hdt (hr _).1 (hr _).2 h1 h2 (hK _ _ _ h3)
theorem no_putF {G : nl_G} {l : Launch} {mi : nl_MI} {pc c k idx N : Nat} {Cn : String} {T : u_T} (ty0 : Nat → FieldType) (hty : ∀ k, k < N → parseFieldDescriptor (T k).2.2.1 = some (ty0 k)) (hnm : ∀ a, a < N → ∀ b, b < N → a ≠ b → (T a).2.1 ≠ (T b).2.1) (hc : vwCl[c]? = some (Cn, T, N)) (hin : ∀ w ∈ u_ws Cn T N, w ∈ nl_W) (hkN : k < N) (hfin : (T k).2.2.2 = true) (hini : mi.1.name = "<init>") (hdecl : (T k).1 = mi.1.cls) {ty : FieldType} (hdt : parseFieldDescriptor (T k).2.2.1 = some ty) (hr : ∀ a : Nat, narrow ty (.ref a) = .ref a ∧ fits ty (.ref a) = true) (hd : decode mi.2.1 pc = .ok (.putfield idx, 3)) (hw : Cond.fieldLink mi.1.cls idx (T k).1 (T k).2.1 (T k).2.2.1 ∈ nl_W) : nl_Snd G l mi pc (ni_putR c k) (pc + 3) := by
  intro QF z e J R he hR hJ K hK ls st w h
  obtain ⟨y, q, st, fs, rfl, h1, h2, h3⟩ := no_putR_inv h
  exact nl_putF ty0 hty hnm hc hin hkN hfin hini hdecl hd hw hdt (hr _).1 (hr _).2 h1 h2 (hK _ _ _ h3)

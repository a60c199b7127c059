/-! PART 09: new cells, calls, switches -/
theorem nl_newq {G : nl_G} {w : nl_HW} {H H1 : Heap} {q : Nat} {x : va_E} (hRp : nl_Rp G w H) (hP1 : va_P G.2.2.1 vwCl (nl_ws0 G w.2.1 w.1 ++ [(q, x)]) H1) (hD1 : va_D (nl_A G) (nl_ws0 G w.2.1 w.1 ++ [(q, x)])) (hz : H1.size ≤ G.1 + w.2.1 + 1) : q = G.1 + w.2.1 := by
  have hlen : (nl_ws0 G w.2.1 w.1).length = w.2.1 := by simp [nl_ws0]
  have hlast : (nl_ws0 G w.2.1 w.1 ++ [(q, x)])[w.2.1]? = some (q, x) := by
    rw [List.getElem?_append_right (by omega), hlen, Nat.sub_self]; rfl
  have h1 : q < H1.size := (hP1 _ _ hlast).lt
  have h2 : G.1 ≤ q := hD1.2 _ _ hlast
  rcases Nat.lt_or_ge q (G.1 + w.2.1) with h3 | h3
  · have h4 := nl_ws0_at G w.1 (show q - G.1 < w.2.1 by omega)
    have h5 := hD1.1 (q - G.1) w.2.1 _ _ (by rw [List.getElem?_append_left (by omega)]; exact h4) hlast (show G.1 + (q - G.1) = q by omega)
    omega
  · omega
theorem nl_nilnew {w : nl_HW} {c : va_E} (h : ∀ k, w.2.1 ≤ k → w.1 k = nl_nil) : ∀ k, w.2.1 + 1 ≤ k → va_up w.1 w.2.1 c k = nl_nil := fun k hk => by
  rw [va_up, if_neg (by omega)]
  exact h k (by omega)
def ni_new (c N : Nat) : nl_I := .inl (55, c, N, 0)
def ni_naI : nl_I := .inl (56, 0, 0, 0)
def ni_naZ : nl_I := .inl (57, 0, 0, 0)
def ni_naR (t : Nat) : nl_I := .inl (58, t, 0, 0)
section EQ3
variable {G : nl_G} {l : Launch} {e : Nat × Nat} {K : nl_K} {J : nl_J} {R : nl_R} {ls st : List Value} {w : nl_HW} {c N t : Nat} {n : Int32}
theorem ns_new : nl_stp G l e K J R (ni_new c N) ls st w = (w.2.1 + 1 ≤ e.1 ∧ w.2.2 + N ≤ e.2 ∧ K ls (.ref w.2.1 :: st) (nl_hn w (nl_new c N) N)) := rfl
theorem ns_naI : nl_stp G l e K J R ni_naI ls (.int n :: st) w = (¬ n < 0 ∧ n.toNatClampNeg ≤ 10000 ∧ w.2.1 + 1 ≤ e.1 ∧ w.2.2 + n.toNatClampNeg ≤ e.2 ∧ K ls (.ref w.2.1 :: st) (nl_hn w (nl_ia n.toNatClampNeg (fun _ => 0)) n.toNatClampNeg)) := rfl
theorem ns_naZ : nl_stp G l e K J R ni_naZ ls (.int n :: st) w = (¬ n < 0 ∧ n.toNatClampNeg ≤ 10000 ∧ w.2.1 + 1 ≤ e.1 ∧ w.2.2 + n.toNatClampNeg ≤ e.2 ∧ K ls (.ref w.2.1 :: st) (nl_hn w (nl_za n.toNatClampNeg (fun _ => 0)) n.toNatClampNeg)) := rfl
theorem ns_naR : nl_stp G l e K J R (ni_naR t) ls (.int n :: st) w = (¬ n < 0 ∧ n.toNatClampNeg ≤ 10000 ∧ w.2.1 + 1 ≤ e.1 ∧ w.2.2 + n.toNatClampNeg ≤ e.2 ∧ K ls (.ref w.2.1 :: st) (nl_hn w (nl_ra t n.toNatClampNeg (fun _ => none)) n.toNatClampNeg)) := rfl
end EQ3
theorem no_new {G : nl_G} {l : Launch} {mi : nl_MI} {pc cc N idx : Nat} {Cn : String} {T : u_T} {fs : List Value} (ty0 : Nat → FieldType) (hty : ∀ k, k < N → parseFieldDescriptor (T k).2.2.1 = some (ty0 k)) (hc : vwCl[cc]? = some (Cn, T, N)) (hin : ∀ w ∈ u_ws Cn T N, w ∈ nl_W) (hfs : nl_new cc N = .inr (cc, fs)) (hdf : ∀ j, j < N → defaultValue (ty0 j) = vp_V fs j) (hnr : ∀ v ∈ fs, v = .null ∨ v = .int 0)
    (hd : decode mi.2.1 pc = .ok (.new idx, 3)) (h1 : Cond.classLink mi.1.cls idx Cn ∈ nl_W) (h2 : Cond.instantiable Cn N ∈ nl_W) (h3 : Cond.initialized Cn ∈ nl_W) : nl_Snd G l mi pc (ni_new cc N) (pc + 3) := by
  intro QF z e J R he hR hJ K hK ls st w h
  rw [ns_new, hfs] at h
  obtain ⟨b1, b2, h⟩ := h
  intro p en s m args below meth c H locs la k sl C hs0 hRp hS hl hk hsl hk1 hsl1
  have hts := C.2.2.2.2.2.1
  have hmap : fs.map (nl_tv G) = fs := by
    have : ∀ v ∈ fs, nl_tv G v = v := fun v hv => by rcases hnr v hv with rfl | rfl <;> rfl
    conv => rhs; rw [← List.map_id fs]
    exact List.map_congr_left this
  refine va_new (D := G.2.2.1) (cl := vwCl) (tys := nl_ty G) (C := Cn) (T := T) (N := N) (ci := cc) (fs := fs) C.1 C.2.1 hts hin ty0 hty C.2.2.2.2.1 (hts _ h1) (hts _ h2) (hts _ h3) C.2.2.2.2.2.2.2.2.1 hRp.2.2 (nl_D G _ _) hS (fun q hq => by show G.1 ≤ q; omega) hc hdf (by omega) (by omega) hd fun q H1 hP1 hD1 hS1 => ?_
  intro T1 hT X
  have hz := X.heapSize
  rw [hT, hs0] at hz
  have hq := nl_newq hRp hP1 hD1 (by omega)
  subst hq
  rw [← hmap] at hP1
  have hP1 : va_P G.2.2.1 vwCl (nl_ws0 G w.2.1 w.1 ++ [(G.1 + w.2.1, nl_te G (.inr (cc, fs)))]) H1 := hP1
  rw [nl_ws0_new] at hP1
  exact nl_back (w := nl_hn w (.inr (cc, fs)) N) (hK _ _ _ h) C hs0 (nl_nilnew hRp.2.1) hP1 hS1 hl (by show z.1 + (k + 1) = w.2.1 + 1; omega) (by show z.2 + (sl + N) = w.2.2 + N; omega) (by omega) (by omega) T1 hT X
theorem nl_cA {s : State} {D : va_G} {tys : List (ClassId × FieldType)} {a b : ClassId} {ty : FieldType} {i j : Nat} (hK : va_K D vwCl tys s) (hi : tys[i]? = some (a, ty)) (hj : tys[j]? = some (b, ty)) : a = b := by
  have h1 := (hK.2 i _ hi).2
  have h2 := (hK.2 j _ hj).2
  cases ty with
  | object C =>
    obtain ⟨_, _, _, _, _, h3⟩ := h1
    obtain ⟨_, _, _, _, _, h4⟩ := h2
    exact Option.some.inj (h3.symm.trans h4)
  | _ => exact Option.some.inj (h1.symm.trans h2)
theorem no_naI {G : nl_G} {l : Launch} {mi : nl_MI} {pc : Nat} (hd : decode mi.2.1 pc = .ok (.newarray .int, 2)) (h1 : Cond.arrayClass .int ∈ nl_W) : nl_Snd G l mi pc ni_naI (pc + 2) := by
  intro QF z e J R he hR hJ K hK ls st w h
  obtain ⟨n, st, rfl, b0, b3, b1, b2, h⟩ := nl_i1_inv h
  intro p en s m args below meth c H locs la k sl C hs0 hRp hS hl hk hsl hk1 hsl1
  have hts := C.2.2.2.2.2.1
  refine va_newa (D := G.2.2.1) (cl := vwCl) (tys := nl_ty G) (atype := .int) (ty := .int) (a0 := (n.toNatClampNeg, .inl (fun _ => 0))) C.1 C.2.1 (hts _ h1) rfl C.2.2.2.2.2.2.2.2.1 hRp.2.2 (nl_D G _ _) hS (fun q hq => by show G.1 ≤ q; omega) (fun cA => rfl) b0 rfl (by show n.toNatClampNeg * 4 ≤ _; omega) (by omega) (by omega) hd fun q cA H1 hK1 hP1 hD1 hS1 => ?_
  intro T1 hT X
  have hz := X.heapSize
  rw [hT, hs0] at hz
  have hq := nl_newq hRp hP1 hD1 (by omega)
  subst hq
  have hc := nl_cA (i := 0) (j := 5) hK1 rfl rfl
  subst hc
  have hP1 : va_P G.2.2.1 vwCl (nl_ws0 G w.2.1 w.1 ++ [(G.1 + w.2.1, nl_te G (nl_ia n.toNatClampNeg (fun _ => 0)))]) H1 := hP1
  rw [nl_ws0_new] at hP1
  exact nl_back (w := nl_hn w (nl_ia n.toNatClampNeg (fun _ => 0)) n.toNatClampNeg) (hK _ _ _ h) C hs0 (nl_nilnew hRp.2.1) hP1 hS1 hl (by show z.1 + (k + 1) = w.2.1 + 1; omega) (by show z.2 + (sl + n.toNatClampNeg) = w.2.2 + n.toNatClampNeg; omega) (by omega) (by omega) T1 hT X
theorem no_naZ {G : nl_G} {l : Launch} {mi : nl_MI} {pc : Nat} (hd : decode mi.2.1 pc = .ok (.newarray .boolean, 2)) (h1 : Cond.arrayClass .boolean ∈ nl_W) : nl_Snd G l mi pc ni_naZ (pc + 2) := by
  intro QF z e J R he hR hJ K hK ls st w h
  obtain ⟨n, st, rfl, b0, b3, b1, b2, h⟩ := nl_i1_inv h
  intro p en s m args below meth c H locs la k sl C hs0 hRp hS hl hk hsl hk1 hsl1
  have hts := C.2.2.2.2.2.1
  refine va_newa (D := G.2.2.1) (cl := vwCl) (tys := nl_ty G) (atype := .boolean) (ty := .boolean) (a0 := (n.toNatClampNeg, .inl (fun _ => 0))) C.1 C.2.1 (hts _ h1) rfl C.2.2.2.2.2.2.2.2.1 hRp.2.2 (nl_D G _ _) hS (fun q hq => by show G.1 ≤ q; omega) (fun cA => rfl) b0 rfl (by show n.toNatClampNeg * 1 ≤ _; omega) (by omega) (by omega) hd fun q cA H1 hK1 hP1 hD1 hS1 => ?_
  intro T1 hT X
  have hz := X.heapSize
  rw [hT, hs0] at hz
  have hq := nl_newq hRp hP1 hD1 (by omega)
  subst hq
  have hc := nl_cA (i := 1) (j := 5) hK1 rfl rfl
  subst hc
  have hP1 : va_P G.2.2.1 vwCl (nl_ws0 G w.2.1 w.1 ++ [(G.1 + w.2.1, nl_te G (nl_za n.toNatClampNeg (fun _ => 0)))]) H1 := hP1
  rw [nl_ws0_new] at hP1
  exact nl_back (w := nl_hn w (nl_za n.toNatClampNeg (fun _ => 0)) n.toNatClampNeg) (hK _ _ _ h) C hs0 (nl_nilnew hRp.2.1) hP1 hS1 hl (by show z.1 + (k + 1) = w.2.1 + 1; omega) (by show z.2 + (sl + n.toNatClampNeg) = w.2.2 + n.toNatClampNeg; omega) (by omega) (by omega) T1 hT X
theorem no_naR {G : nl_G} {l : Launch} {mi : nl_MI} {pc t idx : Nat} {Cn : String} (hC : Cn ∈ nl_RL) (ht : ∀ G : nl_G, (nl_ty G)[t]? = some (G.2.2.2 t, .object Cn)) (hd : decode mi.2.1 pc = .ok (.anewarray idx, 3)) (h1 : Cond.classLink mi.1.cls idx Cn ∈ nl_W) : nl_Snd G l mi pc (ni_naR t) (pc + 3) := by
  intro QF z e J R he hR hJ K hK ls st w h
  obtain ⟨n, st, rfl, b0, b3, b1, b2, h⟩ := nl_i1_inv h
  intro p en s m args below meth c H locs la k sl C hs0 hRp hS hl hk hsl hk1 hsl1
  have hts := C.2.2.2.2.2.1
  refine va_newq (D := G.2.2.1) (cl := vwCl) (tys := nl_ty G) (C := Cn) C.1 C.2.1 C.2.2.2.2.1 (hts _ h1) (C.2.2.2.2.2.2.2.2.2.2.1 _ hC) C.2.2.2.2.2.2.2.2.1 hRp.2.2 (nl_D G _ _) hS (fun q hq => by show G.1 ≤ q; omega) b0 rfl (by omega) (by omega) (by omega) hd fun q cA H1 hK1 hP1 hD1 hS1 => ?_
  intro T1 hT X
  have hz := X.heapSize
  rw [hT, hs0] at hz
  have hq := nl_newq hRp hP1 hD1 (by omega)
  subst hq
  have hc := nl_cA (i := t) (j := 5) hK1 (by rw [List.getElem?_append_left (List.getElem?_eq_some_iff.mp (ht G)).1]; exact ht G) rfl
  subst hc
  have hP1 : va_P G.2.2.1 vwCl (nl_ws0 G w.2.1 w.1 ++ [(G.1 + w.2.1, nl_te G (nl_ra t n.toNatClampNeg (fun _ => none)))]) H1 := hP1
  rw [nl_ws0_new] at hP1
  exact nl_back (w := nl_hn w (nl_ra t n.toNatClampNeg (fun _ => none)) n.toNatClampNeg) (hK _ _ _ h) C hs0 (nl_nilnew hRp.2.1) hP1 hS1 hl (by show z.1 + (k + 1) = w.2.1 + 1; omega) (by show z.2 + (sl + n.toNatClampNeg) = w.2.2 + n.toNatClampNeg; omega) (by omega) (by omega) T1 hT X
-- calls
/-- v: 0 no receiver looked at, no new cells; 1 on an object of class c, no new cells; 2 a constructor, new cells -/
def ni_call (v n c : Nat) (mi : nl_MI) : nl_I := .inr (.inr (.inl (v, n, c, mi)))
theorem ns_call {G : nl_G} {l : Launch} {e : Nat × Nat} {K : nl_K} {J : nl_J} {R : nl_R} {ls st : List Value} {w : nl_HW} {v n c : Nat} {mi : nl_MI} : nl_stp G l e K J R (ni_call v n c mi) ls st w = nl_cl n st [] (fun av st => nl_ok4 st = true ∧ nl_rc v c av w ∧ (v = 2 → w.2.1 + mi.2.2.2.2.cells ≤ e.1 ∧ w.2.2 + mi.2.2.2.2.slots ≤ e.2) ∧ nl_Sat G l mi av w fun r w' => K ls (nl_psh r st) w') := rfl
def nl_cal (kd : Nat) (mi : nl_MI) (n : Nat) : Prop := Cond.code mi.1 mi.2.1 mi.2.2.1 mi.2.2.2.1 ∈ nl_W ∧ Cond.initialized mi.1.cls ∈ nl_W ∧ (mi.1.cls ≠ "java/lang/invoke/MethodHandle" ∧ mi.1.cls ≠ "java/lang/invoke/VarHandle" ∧ (parseMethodDescriptor mi.1.desc).map (fun d => d.parameters.length) = some n) ∧
  (match kd with
    | 0 => Cond.static mi.1 ∈ nl_W
    | 1 => Cond.instanceMethod mi.1 ∈ nl_W ∧ Cond.selects mi.1.cls mi.1 mi.1 ∈ nl_W
    | _ => mi.1.name = "<init>" ∧ Cond.instanceMethod mi.1 ∈ nl_W)
def nl_rmC (mi mj : nl_MI) : Bool := Nat.ble (mj.2.2.2.2.frames + 1) mi.2.2.2.2.frames && Nat.ble (8 + (mj.2.2.1 + 11) + mj.2.2.2.2.locals) mi.2.2.2.2.locals
theorem nl_rmC_le {mi mj : nl_MI} (h : nl_rmC mi mj = true) : mj.2.2.2.2.frames + 1 ≤ mi.2.2.2.2.frames ∧ 8 + (mj.2.2.1 + 11) + mj.2.2.2.2.locals ≤ mi.2.2.2.2.locals := by
  unfold nl_rmC at h
  rw [Bool.and_eq_true] at h
  exact ⟨Nat.le_of_ble_eq_true h.1, Nat.le_of_ble_eq_true h.2⟩
theorem nl_blind {G : nl_G} {av : List Value} {w : nl_HW} : FrameBlind (nl_Pc G av w) := fun a U g mk h => ⟨h.1, h.2.1.call a g mk, h.2.2⟩
theorem nl_pre {G : nl_G} {av : List Value} {w : nl_HW} {s : State} {H : Heap} {locs : List Loc} (hKS : nl_KS G s) (hS : va_S (nl_A G) s.heap H locs) (hRp : nl_Rp G w H) : PreS s H (nl_Pc G av w) (av.map (nl_tv G)) := by
  refine ⟨nl_blind, fun U hU hW => ⟨rfl, hKS.go hW (locs := locs) ?_, ?_⟩⟩
  · rw [hU]; exact hS
  · rw [hU]; exact hRp
theorem nl_after {G : nl_G} {l : Launch} {mi : nl_MI} {QF : nl_Q} {z : Nat × Nat} {pc : Nat} {ls st0 rest : List Value} {w : nl_HW} {K : nl_K} {mc ms : Nat} {a : Array Value} (hK : ∀ ls st w, K ls st w → nl_At G l mi QF z (pc + 3) ls st w) {p : Program} {en : Env} {s : State} {m : MethodId} {args : Array Value} {below : List Frame} {meth : Method} {c : Code} {H : Heap} {locs : List Loc} {la : Array Slot} {k sl : Nat}
    (C : nl_Cx G mi p s m args meth c) (hs0 : s.heap.size = G.1 + z.1) (hS : va_S (nl_A G) s.heap H locs) (hl : nl_lv G la ls mi.2.2.1) (hk : z.1 + k = w.2.1) (hsl : z.2 + sl = w.2.2) (hk1 : k + mc ≤ mi.2.2.2.2.cells) (hsl1 : sl + ms ≤ mi.2.2.2.2.slots)
    (hr : va_Run p l en mi.2.2.2.2 s m args below meth c H locs k sl mc ms (F0 m pc la (st0.map (nl_tv G))) (rest.map (nl_tv G)) (nl_Qc G (w.2.1 + mc, w.2.2 + ms) (fun r w' => K ls (nl_psh r rest) w') a) (nl_A G)) :
    W p l en mi.2.2.2.2 s m args below meth c H locs k sl (QF below args s) (F0 m pc la (st0.map (nl_tv G))) := by
  intro T hT X
  obtain ⟨v, st₀, t, T', L, h0, X', hL, e1, e2, ⟨r, w', q1, q2, q3, q4, q5⟩, st⟩ := hr T hT X
  obtain ⟨w1, n1, t1⟩ := w'
  cases q4
  have hv : v = r.map (nl_tv G) := Outcome.returned.inj q1
  have hF := q3
  rw [va_F, h0, ← e1] at hF
  have hS' : va_S (nl_A G) s.heap T'.heap (locs ++ L) := ⟨Nat.le_trans hS.1 hF.1, fun q g1 g2 => (hF.2 q (Nat.lt_of_lt_of_le g1 hS.1) g2).trans (hS.2.1 q g1 g2), fun q hq => (List.mem_append.mp hq).elim (hS.2.2 q) (hL q)⟩
  obtain ⟨t2, a1, b1⟩ := hK _ _ _ q5 p en s m args below meth c T'.heap (locs ++ L) la (k + mc) (sl + ms) C hs0 (by rw [e1]; exact q2) hS' hl (by show z.1 + (k + mc) = w.2.1 + mc; omega) (by show z.2 + (sl + ms) = w.2.2 + ms; omega) hk1 hsl1 T' rfl X'
  refine ⟨t2, st t2 ?_, b1⟩
  have es : (nl_psh r rest).map (nl_tv G) = v.toList ++ rest.map (nl_tv G) := by
    rw [hv]
    cases r <;> rfl
  rw [es] at a1
  exact a1
section CALL
variable {G : nl_G} {l : Launch} {mi mj : nl_MI} {pc idx n cc : Nat} {host : String}
theorem nl_args_eq {as rest : List Value} : (as ++ rest).map (nl_tv G) = ((as.reverse).map (nl_tv G)).reverse ++ rest.map (nl_tv G) := by
  rw [List.map_append, List.map_reverse, List.reverse_reverse]
theorem nl_ok4r {m : MethodId} {la : Array Slot} {rest : List Value} {st : List Value} (h : nl_ok4 rest = true) : 2 * (F0 m pc la st).monitorRoom + ((rest.map (nl_tv G)).map fun v => v.category).sum ≤ 8 := by
  have := nl_ok4_le (G := G) h
  show 2 * 0 + _ ≤ 8
  omega
theorem no_callS (hm : nl_cal 0 mj n) (h0 : mj.2.2.2.2.cells = 0 ∧ mj.2.2.2.2.slots = 0) (hR0 : nl_rmC mi mj = true) (hd : decode mi.2.1 pc = .ok (.invokestatic idx, 3)) (hw : Cond.methodLink mi.1.cls idx mj.1 ∈ nl_W) : nl_Snd G l mi pc (ni_call 0 n 0 mj) (pc + 3) := by
  intro QF z e J R he hR hJ K hK ls st w h
  rw [ns_call] at h
  obtain ⟨as, rest, g1, rfl, g2, g3, g4, g5⟩ := nl_cl_inv _ _ _ h
  rw [List.append_nil] at g5
  intro p en s m args below meth c H locs la k sl C hs0 hRp hS hl hk hsl hk1 hsl1
  have hts := C.2.2.2.2.2.1
  have hr := va_runS (below := below) (meth := meth) (e := en) (locs := locs) (cells := k) (slots := sl) (g := F0 m pc la ((as ++ rest).map (nl_tv G))) (rest := rest.map (nl_tv G)) ⟨C.1, C.2.1, C.2.2.2.1, C.2.2.2.2.1, hts⟩ g5 ⟨callB_of n hts (nl_goodIn (fun _ h => h) hm.1) rfl rfl rfl (hts _ hm.2.1) (hts _ hw) hm.2.2.1 (nl_rmC_le hR0), hts _ hm.2.2.2⟩ (nl_pre C.2.2.2.2.2.2.2.2 hS hRp) rfl (by rw [List.length_map, List.length_reverse]; exact g1) hl.1 nl_args_eq (nl_ok4r g2) hd ⟨by rw [h0.1]; exact hk1, by rw [h0.2]; exact hsl1⟩
  exact nl_after hK C hs0 hS hl hk hsl (by rw [h0.1]; exact hk1) (by rw [h0.2]; exact hsl1) hr
theorem no_callSN (hm : nl_cal 0 mj n) (h0 : mj.2.2.2.2.cells = 0 ∧ mj.2.2.2.2.slots = 0) (hR0 : nl_rmC mi mj = true) (hd : decode mi.2.1 pc = .ok (.invokestatic idx, 3)) (hw : Cond.methodLinkNest mi.1.cls idx mj.1 host ∈ nl_N) : nl_Snd G l mi pc (ni_call 0 n 0 mj) (pc + 3) := by
  intro QF z e J R he hR hJ K hK ls st w h
  rw [ns_call] at h
  obtain ⟨as, rest, g1, rfl, g2, g3, g4, g5⟩ := nl_cl_inv _ _ _ h
  rw [List.append_nil] at g5
  intro p en s m args below meth c H locs la k sl C hs0 hRp hS hl hk hsl hk1 hsl1
  have hts := C.2.2.2.2.2.1
  have hr := va_runSN (below := below) (meth := meth) (e := en) (locs := locs) (cells := k) (slots := sl) (g := F0 m pc la ((as ++ rest).map (nl_tv G))) (rest := rest.map (nl_tv G)) ⟨C.1, C.2.1, C.2.2.2.1, C.2.2.2.2.1, hts⟩ g5 ⟨va_cnB n hts (nl_goodIn (fun _ h => h) hm.1) rfl rfl rfl (C.2.2.2.2.2.2.2.2.2.1 _ hw) (hts _ hm.2.1) hm.2.2.1 (nl_rmC_le hR0), hts _ hm.2.2.2, trivial⟩ (nl_pre C.2.2.2.2.2.2.2.2 hS hRp) rfl (by rw [List.length_map, List.length_reverse]; exact g1) hl.1 nl_args_eq (nl_ok4r g2) hd ⟨by rw [h0.1]; exact hk1, by rw [h0.2]; exact hsl1⟩
  exact nl_after hK C hs0 hS hl hk hsl (by rw [h0.1]; exact hk1) (by rw [h0.2]; exact hsl1) hr
theorem nl_rc_inv {av : List Value} {w : nl_HW} (h : nl_rc 1 cc av w) : ∃ a r fs, av = .ref a :: r ∧ w.1 a = .inr (cc, fs) := by
  simp only [nl_rc] at h
  split at h
  · obtain ⟨fs, h1⟩ := nl_io_inv h
    exact ⟨_, _, fs, rfl, h1⟩
  · exact h.elim
theorem nl_stk {as rest r : List Value} {a : Nat} (h : as.reverse = .ref a :: r) : (as ++ rest).map (nl_tv G) = (r.map (nl_tv G)).reverse ++ .ref (G.1 + a) :: rest.map (nl_tv G) := by
  have e : as = r.reverse ++ [.ref a] := by
    rw [← List.reverse_reverse as, h, List.reverse_cons]
  rw [e, List.map_append, List.map_append, List.map_reverse, List.append_assoc]
  rfl
theorem no_callV {r : vw_C} (hc : vwCl[cc]? = some r) (hrn : r.1 = mj.1.cls) (hm : nl_cal 1 mj n) (h0 : mj.2.2.2.2.cells = 0 ∧ mj.2.2.2.2.slots = 0) (hR0 : nl_rmC mi mj = true) (hd : decode mi.2.1 pc = .ok (.invokevirtual idx, 3)) (hw : Cond.methodLink mi.1.cls idx mj.1 ∈ nl_W) : nl_Snd G l mi pc (ni_call 1 (n + 1) cc mj) (pc + 3) := by
  intro QF z e J R he hR hJ K hK ls st w h
  rw [ns_call] at h
  obtain ⟨as, rest, g1, rfl, g2, g3, g4, g5⟩ := nl_cl_inv _ _ _ h
  rw [List.append_nil] at g5 g3
  obtain ⟨a, rr, fs, ea, eh⟩ := nl_rc_inv g3
  rw [ea] at g5
  intro p en s m args below meth c H locs la k sl C hs0 hRp hS hl hk hsl hk1 hsl1
  have hts := C.2.2.2.2.2.1
  have hy := nl_ws0_at G w.1 (nl_lt hRp eh hc)
  rw [eh] at hy
  have hpr := nl_pre (av := .ref a :: rr) C.2.2.2.2.2.2.2.2 hS hRp
  have hlen : rr.length = n := by
    have := congrArg List.length ea
    rw [List.length_reverse, g1, List.length_cons] at this
    omega
  have hrv := va_recv C.2.2.2.2.2.2.2.2.1 hRp.2.2 hc hy
  rw [hrn] at hrv
  have hr := va_runV (C := mj.1.cls) (b := G.1 + a) (As := rr.map (nl_tv G)) (below := below) (meth := meth) (e := en) (locs := locs) (cells := k) (slots := sl) (g := F0 m pc la ((as ++ rest).map (nl_tv G))) (rest := rest.map (nl_tv G)) ⟨C.1, C.2.1, C.2.2.2.1, C.2.2.2.2.1, hts⟩ g5 ⟨callB_of n hts (nl_goodIn (fun _ h => h) hm.1) rfl rfl rfl (hts _ hm.2.1) (hts _ hw) hm.2.2.1 (nl_rmC_le hR0), hts _ hm.2.2.2.1, hts _ hm.2.2.2.2⟩ ⟨hpr.1, hrv, hpr.2⟩ rfl (by rw [List.length_map]; exact hlen) hl.1 (nl_stk ea) (nl_ok4r g2) hd ⟨by rw [h0.1]; exact hk1, by rw [h0.2]; exact hsl1⟩
  exact nl_after hK C hs0 hS hl hk hsl (by rw [h0.1]; exact hk1) (by rw [h0.2]; exact hsl1) hr
theorem no_callVN {r : vw_C} (hc : vwCl[cc]? = some r) (hrn : r.1 = mj.1.cls) (hm : nl_cal 1 mj n) (h0 : mj.2.2.2.2.cells = 0 ∧ mj.2.2.2.2.slots = 0) (hR0 : nl_rmC mi mj = true) (hd : decode mi.2.1 pc = .ok (.invokevirtual idx, 3)) (hw : Cond.methodLinkNest mi.1.cls idx mj.1 host ∈ nl_N) : nl_Snd G l mi pc (ni_call 1 (n + 1) cc mj) (pc + 3) := by
  intro QF z e J R he hR hJ K hK ls st w h
  rw [ns_call] at h
  obtain ⟨as, rest, g1, rfl, g2, g3, g4, g5⟩ := nl_cl_inv _ _ _ h
  rw [List.append_nil] at g5 g3
  obtain ⟨a, rr, fs, ea, eh⟩ := nl_rc_inv g3
  rw [ea] at g5
  intro p en s m args below meth c H locs la k sl C hs0 hRp hS hl hk hsl hk1 hsl1
  have hts := C.2.2.2.2.2.1
  have hy := nl_ws0_at G w.1 (nl_lt hRp eh hc)
  rw [eh] at hy
  have hpr := nl_pre (av := .ref a :: rr) C.2.2.2.2.2.2.2.2 hS hRp
  have hlen : rr.length = n := by
    have := congrArg List.length ea
    rw [List.length_reverse, g1, List.length_cons] at this
    omega
  have hrv := va_recv C.2.2.2.2.2.2.2.2.1 hRp.2.2 hc hy
  rw [hrn] at hrv
  have hr := va_runVN (C := mj.1.cls) (b := G.1 + a) (As := rr.map (nl_tv G)) (below := below) (meth := meth) (e := en) (locs := locs) (cells := k) (slots := sl) (g := F0 m pc la ((as ++ rest).map (nl_tv G))) (rest := rest.map (nl_tv G)) ⟨C.1, C.2.1, C.2.2.2.1, C.2.2.2.2.1, hts⟩ g5 ⟨va_cnB n hts (nl_goodIn (fun _ h => h) hm.1) rfl rfl rfl (C.2.2.2.2.2.2.2.2.2.1 _ hw) (hts _ hm.2.1) hm.2.2.1 (nl_rmC_le hR0), hts _ hm.2.2.2.1, hts _ hm.2.2.2.2⟩ ⟨hpr.1, hrv, hpr.2⟩ rfl (by rw [List.length_map]; exact hlen) hl.1 (nl_stk ea) (nl_ok4r g2) hd ⟨by rw [h0.1]; exact hk1, by rw [h0.2]; exact hsl1⟩
  exact nl_after hK C hs0 hS hl hk hsl (by rw [h0.1]; exact hk1) (by rw [h0.2]; exact hsl1) hr
/-- a constructor's call: the receiver lies behind its arguments -/
theorem nl_ini_inv {K : List Value → List Value → Prop} {st : List Value} (h : nl_cl 1 st [] K) : ∃ v rest, st = v :: rest ∧ K [v] rest := by
  obtain ⟨as, rest, g1, rfl, g2⟩ := nl_cl_inv _ _ _ h
  match as, g1, g2 with
  | [v], _, g2 => exact ⟨v, rest, rfl, g2⟩
theorem no_callI (hret : mj.2.2.2.1 = none) (hm : nl_cal 2 mj 0) (hR0 : nl_rmC mi mj = true) (hd : decode mi.2.1 pc = .ok (.invokespecial idx, 3)) (hw : Cond.methodLink mi.1.cls idx mj.1 ∈ nl_W) : nl_Snd G l mi pc (ni_call 2 1 0 mj) (pc + 3) := by
  intro QF z e J R he hR hJ K hK ls st w h
  rw [ns_call] at h
  obtain ⟨v, rest, rfl, g2, g3, g4, g5⟩ := nl_ini_inv h
  intro p en s m args below meth c H locs la k sl C hs0 hRp hS hl hk hsl hk1 hsl1
  have hts := C.2.2.2.2.2.1
  have g6 := g4 rfl
  have hv : ∃ b, nl_tv G v = .ref b := by
    cases v with
    | ref a => exact ⟨_, rfl⟩
    | _ => exact g3.elim
  obtain ⟨b, hb⟩ := hv
  have hpr := nl_pre (av := [v]) C.2.2.2.2.2.2.2.2 hS hRp
  have e1 : [v].map (nl_tv G) = [Value.ref b] := by rw [List.map_singleton, hb]
  rw [e1] at hpr
  have hcb := callB_of 0 hts (nl_goodIn (mi := mj) (fun _ h => h) hm.1) rfl rfl rfl (hts _ hm.2.1) (hts _ hw) hm.2.2.1 (nl_rmC_le hR0)
  rw [hret] at hcb
  have hr := va_runI (As := []) (b := b) (below := below) (meth := meth) (e := en) (locs := locs) (cells := k) (slots := sl) (g := F0 m pc la ((v :: rest).map (nl_tv G))) (rest := rest.map (nl_tv G)) ⟨C.1, C.2.1, C.2.2.2.1, C.2.2.2.2.1, hts⟩ g5 ⟨hcb, hm.2.2.2.1, hts _ hm.2.2.2.2⟩ hpr rfl rfl hl.1 (by rw [List.map_cons, hb]; rfl) (nl_ok4r g2) hd ⟨by omega, by omega⟩
  exact nl_after hK C hs0 hS hl hk hsl (by omega) (by omega) hr
end CALL

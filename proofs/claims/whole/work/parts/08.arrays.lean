/-! PART 08: arrays, constants, new cells -/
def ni_ial : nl_I := .inl (48, 0, 0, 0)
def ni_ias : nl_I := .inl (49, 0, 0, 0)
def ni_zal : nl_I := .inl (50, 0, 0, 0)
def ni_zas : nl_I := .inl (51, 0, 0, 0)
def ni_ral (t : Nat) : nl_I := .inl (52, t, 0, 0)
def ni_ras (t c : Nat) : nl_I := .inl (53, t, c, 0)
def ni_len : nl_I := .inl (54, 0, 0, 0)
section EQ
variable {G : nl_G} {l : Launch} {e : Nat × Nat} {K : nl_K} {J : nl_J} {R : nl_R} {ls st : List Value} {w : nl_HW} {q t c y : Nat} {i x : Int32} {f : UInt32}
theorem ns_ial : nl_stp G l e K J R ni_ial ls (.int i :: .ref q :: st) w = nl_al 0 (w.1 q) i (fun x => K ls (.int x :: st) w) := rfl
theorem ns_ialc : nl_stp G l e K J R ni_ial ls (.int i :: .float f :: st) w = ((f = 0 ∨ f = 1) ∧ vp_in i (G.2.1 f).2.1 ∧ K ls (.int ((G.2.1 f).2.2 i.toNatClampNeg) :: st) w) := rfl
theorem ns_ias : nl_stp G l e K J R ni_ias ls (.int x :: .int i :: .ref q :: st) w = nl_as 0 (w.1 q) i x (fun c => K ls st (nl_hs w q c)) := rfl
theorem ns_zal : nl_stp G l e K J R ni_zal ls (.int i :: .ref q :: st) w = nl_al 1 (w.1 q) i (fun x => K ls (.int x :: st) w) := rfl
theorem ns_zas : nl_stp G l e K J R ni_zas ls (.int x :: .int i :: .ref q :: st) w = ((x = 0 ∨ x = 1) ∧ nl_as 1 (w.1 q) i x (fun c => K ls st (nl_hs w q c))) := rfl
theorem ns_ral : nl_stp G l e K J R (ni_ral t) ls (.int i :: .ref q :: st) w = nl_rl t (w.1 q) i (fun x => K ls (.ref x :: st) w) := rfl
theorem ns_ras : nl_stp G l e K J R (ni_ras t c) ls (.ref y :: .int i :: .ref q :: st) w = (nl_io c (w.1 y) ∧ nl_rs t (w.1 q) i y (fun c => K ls st (nl_hs w q c))) := rfl
theorem ns_len : nl_stp G l e K J R ni_len ls (.float f :: st) w = ((f = 0 ∨ f = 1) ∧ K ls (.int (Int32.ofNat (G.2.1 f).2.1) :: st) w) := rfl
end EQ
theorem nl_iaC {G : nl_G} {w : nl_HW} {H : Heap} (hRp : nl_Rp G w H) {q t n : Nat} {f : Nat → Int32} (h1 : w.1 q = .inl (t, n, .inl f)) : (nl_ws0 G w.2.1 w.1)[q]? = some (G.1 + q, .inl (G.2.2.2 t, n, .inl f)) := by
  have he := nl_ws0_at G w.1 (nl_ltA hRp h1)
  rw [h1] at he
  exact he
theorem nl_raC {G : nl_G} {w : nl_HW} {H : Heap} (hRp : nl_Rp G w H) {q t n : Nat} {f : Nat → Option Nat} (h1 : w.1 q = .inl (t, n, .inr (.inr (.inr (.inr f))))) : (nl_ws0 G w.2.1 w.1)[q]? = some (G.1 + q, .inl (G.2.2.2 t, n, .inr (.inr (.inr (.inr (fun i => (f i).map (G.1 + ·))))))) := by
  have he := nl_ws0_at G w.1 (nl_ltA hRp h1)
  rw [h1] at he
  exact he
theorem no_ial {G : nl_G} {l : Launch} {mi : nl_MI} {pc : Nat} (hd : decode mi.2.1 pc = .ok (.iaload, 1)) : nl_Snd G l mi pc ni_ial (pc + 1) := by
  intro QF z e J R he hR hJ K hK ls st w h
  have h : nl_ix st (fun i q st => nl_al 0 (w.1 q) i fun x => K ls (.int x :: st) w) (fun i x st => (x = 0 ∨ x = 1) ∧ vp_in i (G.2.1 x).2.1 ∧ K ls (.int ((G.2.1 x).2.2 i.toNatClampNeg) :: st) w) := h
  rcases nl_ix_inv h with ⟨i, q, st, rfl, h9⟩ | ⟨i, x, st, rfl, hx, hi, h⟩
  · obtain ⟨n, f, h1, h2, h3⟩ := nl_al_inv h9
    intro p en s m args below meth c H locs la k sl C hs0 hRp hS hl hk hsl hk1 hsl1
    exact va_iald (D := G.2.2.1) (cl := vwCl) (tys := nl_ty G) C.1 C.2.1 C.2.2.2.2.2.2.2.2.1 hRp.2.2 q 0 (nl_iaC hRp h1) rfl h2 hd (hK _ _ _ h3 p en s m args below meth c H locs la k sl C hs0 hRp hS hl hk hsl hk1 hsl1)
  · intro p en s m args below meth c H locs la k sl C hs0 hRp hS hl hk hsl hk1 hsl1
    obtain ⟨cell, a1, a2, a3, a4, a5, a6, a7⟩ := C.2.2.2.2.2.2.2.2.2.2.2.1.1 x hx
    have hlt : i.toNatClampNeg < (G.2.1 x).2.1 := Nat.not_le.mp fun q => hi (Or.inr q)
    exact W.iald (v := .int ((G.2.1 x).2.2 i.toNatClampNeg)) C.1 C.2.1 (by rw [hS.2.1 _ (Array.getElem?_eq_some_iff.mp a1).1 a7]; exact a1) a2 a3 (fun q => q.elim (fun q => hi (Or.inl q)) (fun q => by omega)) (a6 _ hlt) rfl rfl hd (hK _ _ _ h p en s m args below meth c H locs la k sl C hs0 hRp hS hl hk hsl hk1 hsl1)
theorem no_len {G : nl_G} {l : Launch} {mi : nl_MI} {pc : Nat} (hd : decode mi.2.1 pc = .ok (.arraylength, 1)) : nl_Snd G l mi pc ni_len (pc + 1) := by
  intro QF z e J R he hR hJ K hK ls st w h
  have h : nl_stR st (fun x st => match x with
    | .float x => (x = 0 ∨ x = 1) ∧ K ls (.int (Int32.ofNat (G.2.1 x).2.1) :: st) w
    | _ => False) := h
  obtain ⟨x, st, rfl, hx, h2⟩ := nl_stR_inv h
  rcases hx with ⟨q, rfl⟩ | ⟨q, rfl⟩
  · exact h2.elim
  · obtain ⟨hq, h3⟩ := h2
    intro p en s m args below meth c H locs la k sl C hs0 hRp hS hl hk hsl hk1 hsl1
    obtain ⟨cell, a1, a2, a3, a4, a5, a6, a7⟩ := C.2.2.2.2.2.2.2.2.2.2.2.1.1 q hq
    exact W.alen (n := Int32.ofNat (G.2.1 q).2.1) C.1 C.2.1 (by rw [hS.2.1 _ (Array.getElem?_eq_some_iff.mp a1).1 a7]; exact a1) a2 a5 rfl rfl hd (hK _ _ _ h3 p en s m args below meth c H locs la k sl C hs0 hRp hS hl hk hsl hk1 hsl1)
theorem no_zal {G : nl_G} {l : Launch} {mi : nl_MI} {pc : Nat} (hd : decode mi.2.1 pc = .ok (.baload, 1)) : nl_Snd G l mi pc ni_zal (pc + 1) := by
  intro QF z e J R he hR hJ K hK ls st w h
  have h : nl_ix st (fun i q st => nl_al 1 (w.1 q) i fun x => K ls (.int x :: st) w) (fun _ _ _ => False) := h
  rcases nl_ix_inv h with ⟨i, q, st, rfl, h9⟩ | ⟨i, x, st, rfl, h⟩
  · obtain ⟨n, f, h1, h2, h3⟩ := nl_al_inv h9
    intro p en s m args below meth c H locs la k sl C hs0 hRp hS hl hk hsl hk1 hsl1
    exact va_zald (D := G.2.2.1) (cl := vwCl) (tys := nl_ty G) C.1 C.2.1 C.2.2.2.2.2.2.2.2.1 hRp.2.2 q 1 (nl_iaC hRp h1) rfl h2 hd (hK _ _ _ h3 p en s m args below meth c H locs la k sl C hs0 hRp hS hl hk hsl hk1 hsl1)
  · exact h.elim
theorem no_ral {G : nl_G} {l : Launch} {mi : nl_MI} {pc t : Nat} {Cn : String} (ht : ∀ G : nl_G, (nl_ty G)[t]? = some (G.2.2.2 t, .object Cn)) (hd : decode mi.2.1 pc = .ok (.aaload, 1)) : nl_Snd G l mi pc (ni_ral t) (pc + 1) := by
  intro QF z e J R he hR hJ K hK ls st w h
  have h : nl_ix st (fun i q st => nl_rl t (w.1 q) i fun x => K ls (.ref x :: st) w) (fun _ _ _ => False) := h
  rcases nl_ix_inv h with ⟨i, q, st, rfl, h9⟩ | ⟨i, x, st, rfl, h⟩
  · obtain ⟨n, f, a, h1, h2, h4, h3⟩ := nl_rl_inv h9
    intro p en s m args below meth c H locs la k sl C hs0 hRp hS hl hk hsl hk1 hsl1
    refine va_aldq (D := G.2.2.1) (cl := vwCl) (tys := nl_ty G) C.1 C.2.1 C.2.2.2.2.2.2.2.2.1 hRp.2.2 q t (nl_raC hRp h1) (ht G) h2 hd ?_
    simp only [h4, Option.map_some]
    exact hK _ _ _ h3 p en s m args below meth c H locs la k sl C hs0 hRp hS hl hk hsl hk1 hsl1
  · exact h.elim
theorem no_ias {G : nl_G} {l : Launch} {mi : nl_MI} {pc : Nat} (hd : decode mi.2.1 pc = .ok (.iastore, 1)) : nl_Snd G l mi pc ni_ias (pc + 1) := by
  intro QF z e J R he hR hJ K hK ls st w h
  have h : nl_i1 st (fun x st => nl_ix st (fun i q st => nl_as 0 (w.1 q) i x fun c => K ls st (nl_hs w q c)) fun _ _ _ => False) := h
  obtain ⟨x, st, rfl, h5⟩ := nl_i1_inv h
  rcases nl_ix_inv h5 with ⟨i, q, st, rfl, h6⟩ | ⟨i, x, st, rfl, h6⟩
  · obtain ⟨n, f, h1, h2, h3⟩ := nl_as_inv h6
    intro p en s m args below meth c H locs la k sl C hs0 hRp hS hl hk hsl hk1 hsl1
    refine va_iast (D := G.2.2.1) (cl := vwCl) (tys := nl_ty G) C.1 C.2.1 C.2.2.2.2.2.2.2.2.1 hRp.2.2 (nl_D G _ _) hS q 0 (nl_iaC hRp h1) rfl h2 hd fun H1 locs1 hP1 hD1 hS1 => ?_
    have hP1 : va_P G.2.2.1 vwCl ((nl_ws0 G w.2.1 w.1).set q (G.1 + q, nl_te G (.inl (0, n, .inl (upd f i.toNatClampNeg x))))) H1 := hP1
    rw [nl_ws0_set] at hP1
    exact nl_back (hK _ _ _ h3) C hs0 (nl_nilset hRp.2.1 (nl_ltA hRp h1)) hP1 hS1 hl hk hsl hk1 hsl1
  · exact h6.elim
theorem no_zas {G : nl_G} {l : Launch} {mi : nl_MI} {pc : Nat} (hd : decode mi.2.1 pc = .ok (.bastore, 1)) : nl_Snd G l mi pc ni_zas (pc + 1) := by
  intro QF z e J R he hR hJ K hK ls st w h
  have h : nl_i1 st (fun x st => (x = 0 ∨ x = 1) ∧ nl_ix st (fun i q st => nl_as 1 (w.1 q) i x fun c => K ls st (nl_hs w q c)) fun _ _ _ => False) := h
  obtain ⟨x, st, rfl, hx, h5⟩ := nl_i1_inv h
  rcases nl_ix_inv h5 with ⟨i, q, st, rfl, h6⟩ | ⟨i, x, st, rfl, h6⟩
  · obtain ⟨n, f, h1, h2, h3⟩ := nl_as_inv h6
    intro p en s m args below meth c H locs la k sl C hs0 hRp hS hl hk hsl hk1 hsl1
    refine va_zast (D := G.2.2.1) (cl := vwCl) (tys := nl_ty G) C.1 C.2.1 C.2.2.2.2.2.2.2.2.1 hRp.2.2 (nl_D G _ _) hS q 1 (nl_iaC hRp h1) rfl h2 hd fun H1 locs1 hP1 hD1 hS1 => ?_
    have hx1 : vp_nar .boolean x = x := by rcases hx with rfl | rfl <;> rfl
    rw [hx1] at hP1
    have hP1 : va_P G.2.2.1 vwCl ((nl_ws0 G w.2.1 w.1).set q (G.1 + q, nl_te G (.inl (1, n, .inl (upd f i.toNatClampNeg x))))) H1 := hP1
    rw [nl_ws0_set] at hP1
    exact nl_back (hK _ _ _ h3) C hs0 (nl_nilset hRp.2.1 (nl_ltA hRp h1)) hP1 hS1 hl hk hsl hk1 hsl1
  · exact h6.elim
theorem no_ras {G : nl_G} {l : Launch} {mi : nl_MI} {pc t cc : Nat} {r : vw_C} (hc : vwCl[cc]? = some r) (ht : ∀ G : nl_G, (nl_ty G)[t]? = some (G.2.2.2 t, .object r.1)) (hd : decode mi.2.1 pc = .ok (.aastore, 1)) : nl_Snd G l mi pc (ni_ras t cc) (pc + 1) := by
  intro QF z e J R he hR hJ K hK ls st w h
  have h : nl_stR st (fun x st => match x with
    | .ref y => nl_ix st (fun i q st => nl_io cc (w.1 y) ∧ nl_rs t (w.1 q) i y fun c => K ls st (nl_hs w q c)) fun _ _ _ => False
    | _ => False) := h
  obtain ⟨x, st, rfl, hx, h5⟩ := nl_stR_inv h
  rcases hx with ⟨y, rfl⟩ | ⟨y, rfl⟩
  · rcases nl_ix_inv h5 with ⟨i, q, st, rfl, h6⟩ | ⟨i, x, st, rfl, h6⟩
    · obtain ⟨fs, h7⟩ := nl_io_inv h6.1
      obtain ⟨n, f, h1, h2, h3⟩ := nl_rs_inv h6.2
      intro p en s m args below meth c H locs la k sl C hs0 hRp hS hl hk hsl hk1 hsl1
      have hy := nl_ws0_at G w.1 (nl_lt hRp h7 hc)
      rw [h7] at hy
      refine va_astq (D := G.2.2.1) (cl := vwCl) (tys := nl_ty G) C.1 C.2.1 C.2.2.2.2.2.2.2.2.1 hRp.2.2 (nl_D G _ _) hS q t y cc (nl_raC hRp h1) (ht G) hy hc h2 hd fun H1 locs1 hP1 hD1 hS1 => ?_
      have e1 : va_up (fun i => (f i).map (G.1 + ·)) i.toNatClampNeg (some (G.1 + y)) = fun j => (va_up f i.toNatClampNeg (some y) j).map (G.1 + ·) := by
        funext j
        by_cases hj : j = i.toNatClampNeg <;> simp [va_up, hj]
      rw [e1] at hP1
      have hP1 : va_P G.2.2.1 vwCl ((nl_ws0 G w.2.1 w.1).set q (G.1 + q, nl_te G (.inl (t, n, .inr (.inr (.inr (.inr (va_up f i.toNatClampNeg (some y))))))))) H1 := hP1
      rw [nl_ws0_set] at hP1
      exact nl_back (hK _ _ _ h3) C hs0 (nl_nilset hRp.2.1 (nl_ltA hRp h1)) hP1 hS1 hl hk hsl hk1 hsl1
    · exact h6.elim
  · exact h5.elim
-- Math.min, Math.max, arraycopy, Object's constructor
def ni_min : nl_I := .inl (60, 0, 0, 0)
def ni_max : nl_I := .inl (61, 0, 0, 0)
def ni_cpy : nl_I := .inl (62, 0, 0, 0)
def ni_obj : nl_I := .inl (59, 0, 0, 0)
section EQ2
variable {G : nl_G} {l : Launch} {e : Nat × Nat} {K : nl_K} {J : nl_J} {R : nl_R} {ls st : List Value} {w : nl_HW} {q a0 a1 : Nat} {i j n x y : Int32}
theorem ns_min : nl_stp G l e K J R ni_min ls (.int y :: .int x :: st) w = (nl_ok4 st = true ∧ K ls (.int (if y < x then y else x) :: st) w) := rfl
theorem ns_max : nl_stp G l e K J R ni_max ls (.int y :: .int x :: st) w = (nl_ok4 st = true ∧ K ls (.int (if x < y then y else x) :: st) w) := rfl
theorem ns_cpy : nl_stp G l e K J R ni_cpy ls (.int n :: .int j :: .ref a1 :: .int i :: .ref a0 :: st) w = (nl_ok4 st = true ∧ nl_cp (w.1 a0) (w.1 a1) i j n (fun c => K ls st (nl_hs w a1 c))) := rfl
theorem ns_obj : nl_stp G l e K J R ni_obj ls (.ref q :: st) w = (nl_ok4 st = true ∧ K ls st w) := rfl
end EQ2
def nl_rmJ (mi : nl_MI) : Bool := Nat.ble 1 mi.2.2.2.2.frames && Nat.ble 26 mi.2.2.2.2.locals
theorem nl_rmJ_le {mi : nl_MI} (h : nl_rmJ mi = true) : 1 ≤ mi.2.2.2.2.frames ∧ 26 ≤ mi.2.2.2.2.locals := by
  unfold nl_rmJ at h
  rw [Bool.and_eq_true] at h
  exact ⟨Nat.le_of_ble_eq_true h.1, Nat.le_of_ble_eq_true h.2⟩
theorem no_min {G : nl_G} {l : Launch} {mi : nl_MI} {pc idx : Nat} (hr : nl_rmJ mi = true) (hd : decode mi.2.1 pc = .ok (.invokestatic idx, 3)) (h1 : Cond.methodLink mi.1.cls idx Lib.Math.min.name ∈ nl_W) (h2 : Cond.static Lib.Math.min.name ∈ nl_W) (h3 : Cond.initialized "java/lang/Math" ∈ nl_W) (h4 : Cond.code Lib.Math.min.name Lib.Math.min.code 2 (some .int) ∈ nl_W) : nl_Snd G l mi pc ni_min (pc + 3) := by
  intro QF z e J R he hR hJ K hK ls st w h
  obtain ⟨x, y, st, rfl, h5, h6⟩ := nl_i2_inv h
  intro p en s m args below meth c H locs la k sl C hs0 hRp hS hl hk hsl hk1 hsl1
  have hts := C.2.2.2.2.2.1
  have := nl_ok4_le (G := G) h5
  obtain ⟨r1, r2⟩ := nl_rmJ_le hr
  exact va_mmin C.1 C.2.1 (C.2.2.2.1.trans hl.1.symm) C.2.2.2.2.1 (hts _ h1) (hts _ h2) (hts _ h3) (hts _ h4) r1 (by omega) hk1 hsl1 hd (hK _ _ _ h6 p en s m args below meth c H locs la k sl C hs0 hRp hS hl hk hsl hk1 hsl1)
theorem no_max {G : nl_G} {l : Launch} {mi : nl_MI} {pc idx : Nat} (hr : nl_rmJ mi = true) (hd : decode mi.2.1 pc = .ok (.invokestatic idx, 3)) (h1 : Cond.methodLink mi.1.cls idx Lib.Math.max.name ∈ nl_W) (h2 : Cond.static Lib.Math.max.name ∈ nl_W) (h3 : Cond.initialized "java/lang/Math" ∈ nl_W) (h4 : Cond.code Lib.Math.max.name Lib.Math.max.code 2 (some .int) ∈ nl_W) : nl_Snd G l mi pc ni_max (pc + 3) := by
  intro QF z e J R he hR hJ K hK ls st w h
  obtain ⟨x, y, st, rfl, h5, h6⟩ := nl_i2_inv h
  intro p en s m args below meth c H locs la k sl C hs0 hRp hS hl hk hsl hk1 hsl1
  have hts := C.2.2.2.2.2.1
  have := nl_ok4_le (G := G) h5
  obtain ⟨r1, r2⟩ := nl_rmJ_le hr
  exact va_mmax C.1 C.2.1 (C.2.2.2.1.trans hl.1.symm) C.2.2.2.2.1 (hts _ h1) (hts _ h2) (hts _ h3) (hts _ h4) r1 (by omega) hk1 hsl1 hd (hK _ _ _ h6 p en s m args below meth c H locs la k sl C hs0 hRp hS hl hk hsl hk1 hsl1)
theorem no_obj {G : nl_G} {l : Launch} {mi : nl_MI} {pc idx : Nat} (hr : nl_rmJ mi = true) (hd : decode mi.2.1 pc = .ok (.invokespecial idx, 3)) (h1 : Cond.methodLink mi.1.cls idx Lib.objectInit ∈ nl_W) (h2 : Cond.instanceMethod Lib.objectInit ∈ nl_W) (h3 : Cond.code Lib.objectInit ⟨#[0xb1]⟩ 1 none ∈ nl_W) : nl_Snd G l mi pc ni_obj (pc + 3) := by
  intro QF z e J R he hR hJ K hK ls st w h
  have h : nl_stR st (fun x st => match x with
    | .ref _ => nl_ok4 st = true ∧ K ls st w
    | _ => False) := h
  obtain ⟨x, st, rfl, hx, h5⟩ := nl_stR_inv h
  rcases hx with ⟨y, rfl⟩ | ⟨y, rfl⟩
  · intro p en s m args below meth c H locs la k sl C hs0 hRp hS hl hk hsl hk1 hsl1
    have hts := C.2.2.2.2.2.1
    have h8 := nl_ok4_le (G := G) h5.1
    obtain ⟨r1, r2⟩ := nl_rmJ_le hr
    refine W.objInit C.1 C.2.1 C.2.2.2.2.1 (hts _ h1) (hts _ h2) (hts _ h3) rfl (hl.1.trans C.2.2.2.1.symm) rfl hd r1 ?_ (hK _ _ _ h5.2 p en s m args below meth c H locs la k sl C hs0 hRp hS hl hk hsl hk1 hsl1)
    show 2 * 0 + _ + 12 ≤ _
    omega
  · exact h5.elim
theorem no_cpy {G : nl_G} {l : Launch} {mi : nl_MI} {pc idx : Nat} (hr : nl_rmJ mi = true) (hd : decode mi.2.1 pc = .ok (.invokestatic idx, 3)) (h1 : Cond.methodLink mi.1.cls idx arraycopyName ∈ nl_W) (h2 : Cond.native arraycopyName ∈ nl_W) (h3 : Cond.static arraycopyName ∈ nl_W) (h4 : Cond.initialized "java/lang/System" ∈ nl_W) : nl_Snd G l mi pc ni_cpy (pc + 3) := by
  intro QF z e J R he hR hJ K hK ls st w h
  have h : nl_i2 st (fun j n st => nl_stR st fun q1 st => nl_i1 st fun i st => nl_stR st fun q0 st => match q0, q1 with
    | .ref a0, .ref a1 => nl_ok4 st = true ∧ nl_cp (w.1 a0) (w.1 a1) i j n fun c => K ls st (nl_hs w a1 c)
    | _, _ => False) := h
  obtain ⟨j, n, st, rfl, h5⟩ := nl_i2_inv h
  obtain ⟨q1, st, rfl, hq1, h6⟩ := nl_stR_inv h5
  obtain ⟨i, st, rfl, h7⟩ := nl_i1_inv h6
  obtain ⟨q0, st, rfl, hq0, h8⟩ := nl_stR_inv h7
  rcases hq0 with ⟨a0, rfl⟩ | ⟨a0, rfl⟩ <;> rcases hq1 with ⟨a1, rfl⟩ | ⟨a1, rfl⟩
  · obtain ⟨n0, f, n1, g, e1, e2, c1, c2, c3, c4, c5, h9⟩ := nl_cp_inv h8.2
    intro p en s m args below meth c H locs la k sl C hs0 hRp hS hl hk hsl hk1 hsl1
    have hts := C.2.2.2.2.2.1
    have hcat := nl_ok4_le (G := G) h8.1
    obtain ⟨r1, r2⟩ := nl_rmJ_le hr
    have hnw : nativeFrameWords "java/lang/System" "arraycopy" 5 = 7 := by decide +kernel
    refine va_copyi (D := G.2.2.1) (cl := vwCl) (tys := nl_ty G) (ty := .int) C.1 C.2.1 (C.2.2.2.1.trans hl.1.symm) C.2.2.2.2.1 (hts _ h1) (hts _ h2) (hts _ h3) (hts _ h4) C.2.2.2.2.2.2.2.2.1 hRp.2.2 (nl_D G _ _) hS a0 a1 0 0 (nl_iaC hRp e1) (nl_iaC hRp e2) rfl rfl rfl c1 c2 c3 c4 c5 (fun _ _ => rfl) r1 (by rw [hnw]; omega) hd fun H1 locs1 hP1 hD1 hS1 => ?_
    have hP1 : va_P G.2.2.1 vwCl ((nl_ws0 G w.2.1 w.1).set a1 (G.1 + a1, nl_te G (.inl (0, n1, .inl (va_cpy f g i.toNatClampNeg j.toNatClampNeg n.toNatClampNeg))))) H1 := hP1
    rw [nl_ws0_set] at hP1
    exact nl_back (hK _ _ _ h9) C hs0 (nl_nilset hRp.2.1 (nl_ltA hRp e2)) hP1 hS1 hl hk hsl hk1 hsl1
  · exact h8.elim
  · exact h8.elim
  · exact h8.elim
-- getstatic NEAREST, ldc of the text
def ni_nea : nl_I := .inl (66, 0, 0, 0)
def ni_txt : nl_I := .inl (67, 0, 0, 0)
theorem ns_nea {G : nl_G} {l : Launch} {e : Nat × Nat} {K : nl_K} {J : nl_J} {R : nl_R} {ls st : List Value} {w : nl_HW} : nl_stp G l e K J R ni_nea ls st w = K ls (.float 1 :: st) w := rfl
theorem ns_txt {G : nl_G} {l : Launch} {e : Nat × Nat} {K : nl_K} {J : nl_J} {R : nl_R} {ls st : List Value} {w : nl_HW} : nl_stp G l e K J R ni_txt ls st w = K ls (.float 2 :: st) w := rfl
theorem no_nea {G : nl_G} {l : Launch} {mi : nl_MI} {pc idx : Nat} (hd : decode mi.2.1 pc = .ok (.getstatic idx, 3)) (hw : Cond.fieldLink mi.1.cls idx RX9 "NEAREST" "[I" ∈ nl_W) : nl_Snd G l mi pc ni_nea (pc + 3) := by
  intro QF z e J R he hR hJ K hK ls st w h
  intro p en s m args below meth c H locs la k sl C hs0 hRp hS hl hk hsl hk1 hsl1
  exact va_gets C.1 C.2.1 C.2.2.2.2.2.2.2.2.2.2.2.1.2.1 hS C.2.2.2.2.1 (C.2.2.2.2.2.1 _ hw) (fun _ h => h) hd (hK _ _ _ h p en s m args below meth c H locs la k sl C hs0 hRp hS hl hk hsl hk1 hsl1)
theorem no_txt {G : nl_G} {l : Launch} {mi : nl_MI} {pc : Nat} (hcl : mi.1.cls = RX5) (hd : decode mi.2.1 pc = .ok (.ldc 88, 2)) : nl_Snd G l mi pc ni_txt (pc + 2) := by
  intro QF z e J R he hR hJ K hK ls st w h
  intro p en s m args below meth c H locs la k sl C hs0 hRp hS hl hk hsl hk1 hsl1
  exact va_ldcS C.1 C.2.1 (hcl ▸ C.2.2.2.2.1) C.2.2.2.2.2.2.2.2.2.2.2.1.2.2.1 hd (hK _ _ _ h p en s m args below meth c H locs la k sl C hs0 hRp hS hl hk hsl hk1 hsl1)

/-! PART 10: constructors of nest mates, switches -/
theorem no_callIN {G : nl_G} {l : Launch} {mi mj : nl_MI} {pc idx : Nat} {host : String} (hret : mj.2.2.2.1 = none) (hm : nl_cal 2 mj 0) (hR0 : nl_rmC mi mj = true) (hd : decode mi.2.1 pc = .ok (.invokespecial idx, 3)) (hw : Cond.methodLinkNest mi.1.cls idx mj.1 host ∈ nl_N) : nl_Snd G l mi pc (ni_call 2 1 0 mj) (pc + 3) := by
  intro QF z e J R he hR hJ K hK ls st w h
  rw [ns_call] at h
  obtain ⟨v, rest, rfl, g2, g3, g4, g5⟩ := nl_ini_inv h
  intro p en s m args below meth c H locs la k sl C hs0 hRp hS hl hk hsl hk1 hsl1
  have hts := C.2.2.2.2.2.1
  have g6 := g4 rfl
  have hv : ∃ b, nl_tv G v = .ref b := by
    cases v with
    | ref a => exact ⟨_, rfl⟩
    | _ => exact g3.elim
  obtain ⟨b, hb⟩ := hv
  have hpr := nl_pre (av := [v]) C.2.2.2.2.2.2.2.2 hS hRp
  have e1 : [v].map (nl_tv G) = [Value.ref b] := by rw [List.map_singleton, hb]
  rw [e1] at hpr
  have hcb := va_cnB (R := mi.2.2.2.2) 0 hts (nl_goodIn (mi := mj) (fun _ h => h) hm.1) rfl rfl rfl (C.2.2.2.2.2.2.2.2.2.1 _ hw) (hts _ hm.2.1) hm.2.2.1 (nl_rmC_le hR0)
  rw [hret] at hcb
  have hr := va_runIN (As := []) (b := b) (below := below) (meth := meth) (e := en) (locs := locs) (cells := k) (slots := sl) (g := F0 m pc la ((v :: rest).map (nl_tv G))) (rest := rest.map (nl_tv G)) ⟨C.1, C.2.1, C.2.2.2.1, C.2.2.2.2.1, hts⟩ g5 ⟨hcb, hm.2.2.2.1, hts _ hm.2.2.2.2⟩ hpr rfl rfl hl.1 (by rw [List.map_cons, hb]; rfl) (nl_ok4r g2) hd ⟨by omega, by omega⟩
  exact nl_after hK C hs0 hS hl hk hsl (by omega) (by omega) hr
def ni_sw (ps : List (Int32 × Nat)) (d : Nat) : nl_I := .inr (.inr (.inr (.inl (ps, d))))
theorem ns_sw {G : nl_G} {l : Launch} {e : Nat × Nat} {K : nl_K} {J : nl_J} {R : nl_R} {ls st : List Value} {w : nl_HW} {ps : List (Int32 × Nat)} {d : Nat} {x : Int32} : nl_stp G l e K J R (ni_sw ps d) ls (.int x :: st) w = nl_sw x ps d (fun t => J (t / 100000) (t % 100000) ls st w) := rfl
def nl_tck (pc : Nat) : Int → List Int → List (Int32 × Nat) → Bool
  | _, [], [] => true
  | lo, o :: os, (v, t) :: ps => decide (v.toInt = lo) && decide ((pc : Int) + o = ((t % 100000 : Nat) : Int)) && nl_tck pc (lo + 1) os ps
  | _, _, _ => false
theorem nl_tck_spec {pc : Nat} {x : Int32} {d : Nat} {k : Nat → Prop} : ∀ (os : List Int) (lo : Int) (ps : List (Int32 × Nat)), nl_tck pc lo os ps = true → nl_sw x ps d k → (∃ (j : Nat) (o : Int) (t : Nat), os[j]? = some o ∧ x.toInt = lo + j ∧ (pc : Int) + o = ((t % 100000 : Nat) : Int) ∧ k t) ∨ (k d ∧ (x.toInt < lo ∨ lo + os.length ≤ x.toInt))
  | [], lo, [], h, hs => Or.inr ⟨hs, by simp; omega⟩
  | [], lo, _ :: _, h, hs => by simp [nl_tck] at h
  | o :: os, lo, [], h, hs => by simp [nl_tck] at h
  | o :: os, lo, (v, t) :: ps, h, hs => by
    simp only [nl_tck, Bool.and_eq_true, decide_eq_true_eq] at h
    obtain ⟨⟨h1, h2⟩, h3⟩ := h
    by_cases hx : x = v
    · exact Or.inl ⟨0, o, t, rfl, by rw [hx, h1]; simp, h2, hs.1 hx⟩
    · rcases nl_tck_spec os (lo + 1) ps h3 (hs.2 hx) with ⟨j, o', t', a1, a2, a3, a4⟩ | ⟨a1, a2⟩
      · exact Or.inl ⟨j + 1, o', t', by rw [List.getElem?_cons_succ]; exact a1, by rw [a2]; push_cast; omega, a3, a4⟩
      · refine Or.inr ⟨a1, ?_⟩
        have hne : x.toInt ≠ lo := fun q => hx (Int32.toInt_inj.mp (q.trans h1.symm))
        rcases a2 with a2 | a2
        · left; omega
        · right; simp only [List.length_cons]; push_cast; omega
theorem no_tsw {G : nl_G} {l : Launch} {mi : nl_MI} {pc len : Nat} {dflt lo hi : Int} {offs : Array Int} {ps : List (Int32 × Nat)} {d : Nat} (hd : decode mi.2.1 pc = .ok (.tableswitch dflt lo hi offs, len)) (hc : nl_tck pc lo offs.toList ps = true) (hh : hi = lo + offs.toList.length - 1) (hdf : (pc : Int) + dflt = ((d % 100000 : Nat) : Int)) : nl_Snd G l mi pc (ni_sw ps d) (pc + len) := by
  intro QF z e J R he hR hJ K hK ls st w h
  have h : nl_i1 st (fun x st => nl_sw x ps d fun t => J (t / 100000) (t % 100000) ls st w) := h
  obtain ⟨x, st, rfl, h2⟩ := nl_i1_inv h
  intro p en s m args below meth c H locs la k sl C hs0 hRp hS hl hk hsl hk1 hsl1
  rcases nl_tck_spec _ _ _ hc h2 with ⟨j, o, t, a1, a2, a3, a4⟩ | ⟨a1, a2⟩
  · have hj : j < offs.toList.length := (List.getElem?_eq_some_iff.mp a1).1
    refine lv_tableIn C.1 C.2.1 hd (by omega) (by omega) (off := o) ?_ a3 (hJ _ _ _ _ _ a4 p en s m args below meth c H locs la k sl C hs0 hRp hS hl hk hsl hk1 hsl1)
    rw [show (x.toInt - lo).toNat = j by omega, ← Array.getElem?_toList]
    exact a1
  · exact lv_tableOut C.1 C.2.1 hd (by omega) hdf (hJ _ _ _ _ _ a1 p en s m args below meth c H locs la k sl C hs0 hRp hS hl hk hsl hk1 hsl1)
def nl_lck (pc : Nat) : List (Int × Int) → List (Int32 × Nat) → Bool
  | [], [] => true
  | (a, o) :: os, (v, t) :: ps => decide (v.toInt = a) && decide ((pc : Int) + o = ((t % 100000 : Nat) : Int)) && nl_lck pc os ps
  | _, _ => false
theorem nl_lck_spec {pc : Nat} {x : Int32} {d : Nat} {dflt : Int} {k : Nat → Prop} (hdf : (pc : Int) + dflt = ((d % 100000 : Nat) : Int)) : ∀ (os : List (Int × Int)) (ps : List (Int32 × Nat)), nl_lck pc os ps = true → nl_sw x ps d k → ∃ t : Nat, (pc : Int) + Op.lookupswitch.offset os dflt x.toInt = ((t % 100000 : Nat) : Int) ∧ k t
  | [], [], h, hs => ⟨d, by rw [Op.lookupswitch.offset_nil]; exact hdf, hs⟩
  | [], _ :: _, h, hs => by simp [nl_lck] at h
  | o :: os, [], h, hs => by simp [nl_lck] at h
  | (a, o) :: os, (v, t) :: ps, h, hs => by
    simp only [nl_lck, Bool.and_eq_true, decide_eq_true_eq] at h
    obtain ⟨⟨h1, h2⟩, h3⟩ := h
    by_cases hx : x = v
    · refine ⟨t, ?_, hs.1 hx⟩
      rw [Op.lookupswitch.offset_cons, if_pos (by rw [hx, h1])]
      exact h2
    · obtain ⟨t', b1, b2⟩ := nl_lck_spec hdf os ps h3 (hs.2 hx)
      refine ⟨t', ?_, b2⟩
      rw [lv_osw hx h1]
      exact b1
theorem no_lsw {G : nl_G} {l : Launch} {mi : nl_MI} {pc len : Nat} {dflt : Int} {offs : Array (Int × Int)} {ps : List (Int32 × Nat)} {d : Nat} (hd : decode mi.2.1 pc = .ok (.lookupswitch dflt offs, len)) (hp : (offs.toList.zip (offs.toList.drop 1)).all (fun (a, next) => a.1 < next.1) = true) (hc : nl_lck pc offs.toList ps = true) (hdf : (pc : Int) + dflt = ((d % 100000 : Nat) : Int)) : nl_Snd G l mi pc (ni_sw ps d) (pc + len) := by
  intro QF z e J R he hR hJ K hK ls st w h
  have h : nl_i1 st (fun x st => nl_sw x ps d fun t => J (t / 100000) (t % 100000) ls st w) := h
  obtain ⟨x, st, rfl, h2⟩ := nl_i1_inv h
  intro p en s m args below meth c H locs la k sl C hs0 hRp hS hl hk hsl hk1 hsl1
  obtain ⟨t, b1, b2⟩ := nl_lck_spec hdf _ _ hc h2
  exact lv_lookup C.1 C.2.1 hd hp rfl b1 (hJ _ _ _ _ _ b2 p en s m args below meth c H locs la k sl C hs0 hRp hS hl hk hsl hk1 hsl1)

-- a call on the text
theorem nl_rc_inv3 {cc : Nat} {av : List Value} {w : nl_HW} (h : nl_rc 3 cc av w) : ∃ r, av = .float 2 :: r := by
  simp only [nl_rc] at h
  split at h
  · subst h; exact ⟨_, rfl⟩
  · exact h.elim
theorem nl_stkF {G : nl_G} {as rest r : List Value} {x : UInt32} (h : as.reverse = .float x :: r) : (as ++ rest).map (nl_tv G) = (r.map (nl_tv G)).reverse ++ .ref (G.2.1 x).1 :: rest.map (nl_tv G) := by
  have e : as = r.reverse ++ [.float x] := by
    rw [← List.reverse_reverse as, h, List.reverse_cons]
  rw [e, List.map_append, List.map_append, List.map_reverse, List.append_assoc]
  rfl
theorem no_callT {G : nl_G} {l : Launch} {mi mj : nl_MI} {pc idx n : Nat} (hrn : mj.1.cls = "java/lang/String") (hm : nl_cal 1 mj n) (h0 : mj.2.2.2.2.cells = 0 ∧ mj.2.2.2.2.slots = 0) (hR0 : nl_rmC mi mj = true) (hd : decode mi.2.1 pc = .ok (.invokevirtual idx, 3)) (hw : Cond.methodLink mi.1.cls idx mj.1 ∈ nl_W) : nl_Snd G l mi pc (ni_call 3 (n + 1) 0 mj) (pc + 3) := by
  intro QF z e J R he hR hJ K hK ls st w h
  rw [ns_call] at h
  obtain ⟨as, rest, g1, rfl, g2, g3, g4, g5⟩ := nl_cl_inv _ _ _ h
  rw [List.append_nil] at g5 g3
  obtain ⟨rr, ea⟩ := nl_rc_inv3 g3
  rw [ea] at g5
  intro p en s m args below meth c H locs la k sl C hs0 hRp hS hl hk hsl hk1 hsl1
  have hts := C.2.2.2.2.2.1
  have hpr := nl_pre (av := .float 2 :: rr) C.2.2.2.2.2.2.2.2 hS hRp
  have hlen : rr.length = n := by
    have := congrArg List.length ea
    rw [List.length_reverse, g1, List.length_cons] at this
    omega
  have hrv := vk_recv (i := 0) C.2.2.2.2.2.2.2.2.2.2.2.1.2.2.2.1 (by decide) hS
  rw [← hrn] at hrv
  have hr := va_runV (C := mj.1.cls) (b := (G.2.1 2).1) (As := rr.map (nl_tv G)) (below := below) (meth := meth) (e := en) (locs := locs) (cells := k) (slots := sl) (g := F0 m pc la ((as ++ rest).map (nl_tv G))) (rest := rest.map (nl_tv G)) ⟨C.1, C.2.1, C.2.2.2.1, C.2.2.2.2.1, hts⟩ g5 ⟨callB_of n hts (nl_goodIn (fun _ h => h) hm.1) rfl rfl rfl (hts _ hm.2.1) (hts _ hw) hm.2.2.1 (nl_rmC_le hR0), hts _ hm.2.2.2.1, hts _ hm.2.2.2.2⟩ ⟨hpr.1, hrv, hpr.2⟩ rfl (by rw [List.length_map]; exact hlen) hl.1 (nl_stkF ea) (nl_ok4r g2) hd ⟨by rw [h0.1]; exact hk1, by rw [h0.2]; exact hsl1⟩
  exact nl_after hK C hs0 hS hl hk hsl (by rw [h0.1]; exact hk1) (by rw [h0.2]; exact hsl1) hr
-- methods that only read
def ni_fn (n : Nat) (f : nl_F) : nl_I := .inr (.inr (.inr (.inr (n, f))))
theorem ns_fn {G : nl_G} {l : Launch} {e : Nat × Nat} {K : nl_K} {J : nl_J} {R : nl_R} {ls st : List Value} {w : nl_HW} {n : Nat} {f : nl_F} : nl_stp G l e K J R (ni_fn n f) ls st w = nl_cl n st [] (fun av st => nl_ok4 st = true ∧ f av w.1 fun v => K ls (v :: st) w) := rfl
def nl_FS (G : nl_G) (l : Launch) (v c : Nat) (mj : nl_MI) (f : nl_F) : Prop := ∀ (av : List Value) (w : nl_HW) (Post : nl_R), f av w.1 (fun x => Post (some x) w) → nl_rc v c av w ∧ nl_Sat G l mj av w Post
theorem nl_cl_mono {k k' : List Value → List Value → Prop} (h : ∀ a b, k a b → k' a b) : ∀ (n : Nat) (st acc : List Value), nl_cl n st acc k → nl_cl n st acc k'
  | 0, st, acc, q => h _ _ q
  | n + 1, v :: st, acc, q => nl_cl_mono h n st (v :: acc) q
theorem no_fn {G : nl_G} {l : Launch} {mi mj : nl_MI} {pc pc' v n c : Nat} {f : nl_F} (hv : v ≠ 2) (hf : nl_FS G l v c mj f) (h : nl_Snd G l mi pc (ni_call v n c mj) pc') : nl_Snd G l mi pc (ni_fn n f) pc' := by
  intro QF z e J R he hR hJ K hK ls st w hs
  refine h QF z e J R he hR hJ K hK ls st w ?_
  rw [ns_fn] at hs
  rw [ns_call]
  refine nl_cl_mono (fun av st q => ?_) _ _ _ hs
  obtain ⟨h1, h2⟩ := hf av w (fun r w' => K ls (nl_psh r st) w') q.2
  exact ⟨q.1, h1, fun e => absurd e hv, h2⟩
-- code by tables
def nl_cd (tb : List (Nat × List (nl_I × Nat × Nat))) (pc : Nat) : List nl_I := ((tb.lookup pc).getD []).map Prod.fst
theorem nl_OKC_of {G : nl_G} {l : Launch} {mi : nl_MI} {tb : List (Nat × List (nl_I × Nat × Nat))} (h : ∀ q ∈ tb, ∃ x is, q.2 = x :: is ∧ x.2.1 = q.1 ∧ nl_OKB G l mi q.2) : nl_OKC G l mi (nl_cd tb) := by
  intro pc
  unfold nl_cd
  induction tb with
  | nil => exact Or.inl rfl
  | cons q tb ih =>
    obtain ⟨q1, q2⟩ := q
    rw [List.lookup_cons]
    by_cases hq : pc = q1
    · subst hq
      obtain ⟨x, is, e1, e2, e3⟩ := h _ List.mem_cons_self
      dsimp only at e1 e2 e3
      subst e1
      simp only [beq_self_eq_true, Option.getD_some]
      exact Or.inr ⟨x, is, rfl, e2, e3⟩
    · have : (pc == q1) = false := by simpa using hq
      rw [this]
      exact ih (fun q hq => h q (List.mem_cons_of_mem _ hq))
theorem nl_sat0 {G : nl_G} {l : Launch} {mi : nl_MI} {av : List Value} {w : nl_HW} {Post : nl_R} {cd : Nat → List nl_I} {rt : Option FieldType} (hc : nl_OKC G l mi cd) (hrt : mi.2.2.2.1 = rt) (h0 : mi.2.2.2.2.cells = 0 ∧ mi.2.2.2.2.slots = 0) (hp : plainName mi.1.cls = true) (hv : av.all nl_okv = true) (hlen : (nl_ent av).length ≤ mi.2.2.1)
    (h : ∀ Z : Nat → nl_K, (∀ n pc ls st w1, nl_run G l w.2 cd Z (fun v w1 => w1.2 = w.2 ∧ nl_rok rt v ∧ Post v w1) n pc ls st w1 → Z pc ls st w1) → Z 0 (nl_ent av) [] w) : nl_Sat G l mi av w Post := by
  subst hrt
  have e : (w.2.1 + mi.2.2.2.2.cells, w.2.2 + mi.2.2.2.2.slots) = w.2 := by rw [h0.1, h0.2]; rfl
  refine nl_sat hp hv hlen hc 0 ?_
  show nl_At _ _ _ _ _ _ _ _ _
  refine h _ fun n pc ls st w1 hr => ?_
  refine nl_go (e := w.2) hc ⟨?_, ?_⟩ (nl_ret G l mi w.2 Post) n pc ls st w1 ?_
  · exact Nat.le_add_right _ _
  · exact Nat.le_add_right _ _
  · rw [e] at hr ⊢; exact hr
theorem nl_sat1 {G : nl_G} {l : Launch} {mi : nl_MI} {av : List Value} {w : nl_HW} {Post : nl_R} {cd : Nat → List nl_I} {rt : Option FieldType} {mc ms : Nat} (hc : nl_OKC G l mi cd) (hrt : mi.2.2.2.1 = rt) (h0 : mi.2.2.2.2.cells = mc ∧ mi.2.2.2.2.slots = ms) (hp : plainName mi.1.cls = true) (hv : av.all nl_okv = true) (hlen : (nl_ent av).length ≤ mi.2.2.1)
    (h : ∀ Z : Nat → nl_K, (∀ n pc ls st w1, nl_run G l (w.2.1 + mc, w.2.2 + ms) cd Z (fun v w1 => w1.2 = (w.2.1 + mc, w.2.2 + ms) ∧ nl_rok rt v ∧ Post v w1) n pc ls st w1 → Z pc ls st w1) → Z 0 (nl_ent av) [] w) : nl_Sat G l mi av w Post := by
  subst hrt
  obtain ⟨rfl, rfl⟩ := h0
  refine nl_sat hp hv hlen hc 0 ?_
  show nl_At _ _ _ _ _ _ _ _ _
  exact h _ fun n pc ls st w1 hr => nl_go (e := (w.2.1 + mi.2.2.2.2.cells, w.2.2 + mi.2.2.2.2.slots)) hc ⟨Nat.le_refl _, Nat.le_refl _⟩ (nl_ret G l mi w.2 Post) n pc ls st w1 hr
theorem nl_run_s {G : nl_G} {l : Launch} {e : Nat × Nat} {cd : Nat → List nl_I} {J : Nat → nl_K} {R : nl_R} {n pc : Nat} {ls st : List Value} {w : nl_HW} : nl_run G l e cd J R (n + 1) pc ls st w = nl_wpB G l e (fun s t => match s with | 0 => nl_run G l e cd J R n t | _ => J t) R (cd pc) ls st w := rfl
theorem nl_wpB_c {G : nl_G} {l : Launch} {e : Nat × Nat} {J : nl_J} {R : nl_R} {i : nl_I} {is : List nl_I} {ls st : List Value} {w : nl_HW} : nl_wpB G l e J R (i :: is) ls st w = nl_stp G l e (nl_wpB G l e J R is) J R i ls st w := rfl

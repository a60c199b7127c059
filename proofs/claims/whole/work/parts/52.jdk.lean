/-! the JDK: what reads the text -/
def txB (i : Nat) : Int32 := ([107, 112, 119, 110, 109] : List Int32).getD i 0
def fj_cs : nl_F
  | [], _, K => K (.int 1)
  | _, _, _ => False
def fj_val : nl_F
  | [.float x], _, K => x = 2 ∧ K (.float 3)
  | _, _, _ => False
def fj_cod : nl_F
  | [.float x], _, K => x = 2 ∧ K (.int 0)
  | _, _, _ => False
def fj_len : nl_F
  | [.float x], _, K => x = 3 ∧ K (.int 5)
  | _, _, _ => False
def fj_ba : nl_F
  | [.float x, .int i], _, K => x = 3 ∧ vp_in i 5 ∧ K (.int (txB i.toNatClampNeg))
  | _, _, _ => False
def fj_shr : nl_F
  | [.int x, .int y], _, K => K (.int (x >>> (y &&& 31)))
  | _, _, _ => False
section
variable {G : nl_G} {l : Launch} {mi : nl_MI} {pc idx : Nat}
theorem nj_cs (hd : decode mi.2.1 pc = .ok (.getstatic idx, 3)) (hw : Cond.fieldLink mi.1.cls idx "java/lang/String" "COMPACT_STRINGS" "Z" ∈ nl_W) : nl_Snd G l mi pc (ni_fn 0 fj_cs) (pc + 3) := by
  intro QF z e J R he hR hJ K hK ls st w h
  have h : nl_ok4 st = true ∧ K ls (.int 1 :: st) w := h
  intro p en s m args below meth c H locs la k sl C hs0 hRp hS hl hk hsl hk1 hsl1
  exact va_gets C.1 C.2.1 C.2.2.2.2.2.2.2.2.2.2.2.1.2.2.2.2 hS C.2.2.2.2.1 (C.2.2.2.2.2.1 _ hw) (fun _ h => h) hd (hK _ _ _ h.2 p en s m args below meth c H locs la k sl C hs0 hRp hS hl hk hsl hk1 hsl1)
theorem nj_inv1 {f : nl_F} {x0 : UInt32} {v : Value} {st : List Value} {hh : Nat → va_E} {k : List Value → Value → Prop} (hf : ∀ v1 K, f [v1] hh K → v1 = .float x0 ∧ K v) (h : nl_cl 1 st [] (fun av st => nl_ok4 st = true ∧ f av hh (k st))) : ∃ st', st = .float x0 :: st' ∧ k st' v := by
  cases st with
  | nil => exact h.elim
  | cons v1 st' =>
    have h : nl_ok4 st' = true ∧ f [v1] hh (k st') := h
    obtain ⟨e, q⟩ := hf v1 _ h.2
    subst e
    exact ⟨st', rfl, q⟩
theorem nj_val (hd : decode mi.2.1 pc = .ok (.getfield idx, 3)) (hw : Cond.fieldLink mi.1.cls idx "java/lang/String" "value" "[B" ∈ nl_W) : nl_Snd G l mi pc (ni_fn 1 fj_val) (pc + 3) := by
  intro QF z e J R he hR hJ K hK ls st w h
  obtain ⟨st', rfl, h2⟩ := nj_inv1 (f := fj_val) (x0 := 2) (v := .float 3) (hh := w.1) (k := fun st v => K ls (v :: st) w) (fun v1 K h => by
    unfold fj_val at h
    split at h
    · rename_i heq; cases heq; obtain ⟨rfl, q⟩ := h; exact ⟨rfl, q⟩
    · exact h.elim) h
  intro p en s m args below meth c H locs la k sl C hs0 hRp hS hl hk hsl hk1 hsl1
  exact vk_getf C.1 C.2.1 (C.2.2.2.2.2.2.2.2.2.2.2.1.2.2.2.1.1 0 (by decide)).2.2.1 hS C.2.2.2.2.1 (C.2.2.2.2.2.1 _ hw) (fun _ h => h) hd (hK _ _ _ h2 p en s m args below meth c H locs la k sl C hs0 hRp hS hl hk hsl hk1 hsl1)
theorem nj_cod (hd : decode mi.2.1 pc = .ok (.getfield idx, 3)) (hw : Cond.fieldLink mi.1.cls idx "java/lang/String" "coder" "B" ∈ nl_W) : nl_Snd G l mi pc (ni_fn 1 fj_cod) (pc + 3) := by
  intro QF z e J R he hR hJ K hK ls st w h
  obtain ⟨st', rfl, h2⟩ := nj_inv1 (f := fj_cod) (x0 := 2) (v := .int 0) (hh := w.1) (k := fun st v => K ls (v :: st) w) (fun v1 K h => by
    unfold fj_cod at h
    split at h
    · rename_i heq; cases heq; obtain ⟨rfl, q⟩ := h; exact ⟨rfl, q⟩
    · exact h.elim) h
  intro p en s m args below meth c H locs la k sl C hs0 hRp hS hl hk hsl hk1 hsl1
  exact vk_getf C.1 C.2.1 (C.2.2.2.2.2.2.2.2.2.2.2.1.2.2.2.1.1 0 (by decide)).2.1 hS C.2.2.2.2.1 (C.2.2.2.2.2.1 _ hw) (fun _ h => h) hd (hK _ _ _ h2 p en s m args below meth c H locs la k sl C hs0 hRp hS hl hk hsl hk1 hsl1)
theorem nj_len (hd : decode mi.2.1 pc = .ok (.arraylength, 1)) : nl_Snd G l mi pc (ni_fn 1 fj_len) (pc + 1) := by
  intro QF z e J R he hR hJ K hK ls st w h
  obtain ⟨st', rfl, h2⟩ := nj_inv1 (f := fj_len) (x0 := 3) (v := .int 5) (hh := w.1) (k := fun st v => K ls (v :: st) w) (fun v1 K h => by
    unfold fj_len at h
    split at h
    · rename_i heq; cases heq; obtain ⟨rfl, q⟩ := h; exact ⟨rfl, q⟩
    · exact h.elim) h
  intro p en s m args below meth c H locs la k sl C hs0 hRp hS hl hk hsl hk1 hsl1
  obtain ⟨cell, a1, a2, a3, a4, a5, a6, a7⟩ := (C.2.2.2.2.2.2.2.2.2.2.2.1.2.2.2.1.1 0 (by decide)).2.2.2
  exact W.alen (n := 5) C.1 C.2.1 (by rw [hS.2.1 _ (Array.getElem?_eq_some_iff.mp a1).1 a7]; exact a1) a2 a5 rfl rfl hd (hK _ _ _ h2 p en s m args below meth c H locs la k sl C hs0 hRp hS hl hk hsl hk1 hsl1)
theorem nj_ba (hd : decode mi.2.1 pc = .ok (.baload, 1)) : nl_Snd G l mi pc (ni_fn 2 fj_ba) (pc + 1) := by
  intro QF z e J R he hR hJ K hK ls st w h
  have h : nl_cl 2 st [] (fun av st => nl_ok4 st = true ∧ fj_ba av w.1 fun v => K ls (v :: st) w) := h
  cases st with
  | nil => exact h.elim
  | cons v1 st1 =>
    cases st1 with
    | nil => exact h.elim
    | cons v2 st =>
      have h2 : fj_ba [v2, v1] w.1 (fun v => K ls (v :: st) w) := h.2
      clear h
      unfold fj_ba at h2
      split at h2
      · rename_i heq
        cases heq
        obtain ⟨rfl, hi, h3⟩ := h2
        intro p en s m args below meth c H locs la k sl C hs0 hRp hS hl hk hsl hk1 hsl1
        exact va_tb C.1 C.2.1 (C.2.2.2.2.2.2.2.2.2.2.2.1.2.2.2.1.1 0 (by decide)).2.2.2 hS hi rfl hd (hK _ _ _ h3 p en s m args below meth c H locs la k sl C hs0 hRp hS hl hk hsl hk1 hsl1)
      · exact h2.elim
theorem nj_shr (hd : decode mi.2.1 pc = .ok (.ishr, 1)) : nl_Snd G l mi pc (ni_fn 2 fj_shr) (pc + 1) := by
  intro QF z e J R he hR hJ K hK ls st w h
  have h : nl_cl 2 st [] (fun av st => nl_ok4 st = true ∧ fj_shr av w.1 fun v => K ls (v :: st) w) := h
  cases st with
  | nil => exact h.elim
  | cons v1 st1 =>
    cases st1 with
    | nil => exact h.elim
    | cons v2 st =>
      have h2 : fj_shr [v2, v1] w.1 (fun v => K ls (v :: st) w) := h.2
      clear h
      unfold fj_shr at h2
      split at h2
      · rename_i heq
        cases heq
        intro p en s m args below meth c H locs la k sl C hs0 hRp hS hl hk hsl hk1 hsl1
        exact lv_ishr C.1 C.2.1 hd (hK _ _ _ h2 p en s m args below meth c H locs la k sl C hs0 hRp hS hl hk hsl hk1 hsl1)
      · exact h2.elim
end
/-- as nl_sat2, for a method that answers a byte -/
theorem nl_retB (G : nl_G) (l : Launch) (mi : nl_MI) (z : Nat × Nat) (Post : nl_R) (hB : mi.2.2.2.1 = some .byte) : nl_RI G l mi (nl_QM G mi (z.1 + mi.2.2.2.2.cells, z.2 + mi.2.2.2.2.slots) Post) z (fun v w => w.2 = (z.1 + mi.2.2.2.2.cells, z.2 + mi.2.2.2.2.slots) ∧ v = some (.int 0) ∧ Post v w) := by
  refine ⟨fun v w pc ls hd ⟨h1, h2, h3⟩ => ?_, fun w pc ls hd ⟨h1, h2, h3⟩ => absurd h2 (by simp)⟩
  cases h2
  intro p en s m args below meth c H locs la k sl ⟨hx, hb, hr, hml, hown, hts, hlocks, hnm, hKS⟩ hs0 hRp hS hl hk hsl hk1 hsl1
  have e1 : k = mi.2.2.2.2.cells := by have := congrArg Prod.fst h1; simp at this; omega
  have e2 : sl = mi.2.2.2.2.slots := by have := congrArg Prod.snd h1; simp at this; omega
  subst e1; subst e2
  have hq : ∀ t : State, t.heap = H → s.WarmedH t.vm → nl_Qc G (z.1 + mi.2.2.2.2.cells, z.2 + mi.2.2.2.2.slots) Post args s (.returned (some (.int 0))) t := fun t ht hW => ⟨some (.int 0), w, rfl, by rw [ht]; exact hRp, hS.F ht, h1, h3⟩
  rw [hB] at hr
  exact W.zret hx hb hr rfl hq hS.2.2 hd
theorem nl_satB {G : nl_G} {l : Launch} {mi : nl_MI} {av : List Value} {w : nl_HW} {Post : nl_R} {cd : Nat → List nl_I} (hc : nl_OKC G l mi cd) (hrt : mi.2.2.2.1 = some .byte) (h0 : mi.2.2.2.2.cells = 0 ∧ mi.2.2.2.2.slots = 0) (hp : plainName mi.1.cls = true) (hv : av.all nl_okv = true) (hlen : (nl_ent av).length ≤ mi.2.2.1)
    (h : ∀ (e : Nat × Nat) (Z : Nat → nl_K) (J : nl_J) (R : nl_R), e = w.2 → (∀ s t, J s t = Z t) → (∀ v w1, w1.2 = w.2 → v = some (.int 0) → Post v w1 → R v w1) → (∀ pc ls st w1, nl_wpB G l e J R (cd pc) ls st w1 → Z pc ls st w1) → Z 0 (nl_ent av) [] w) : nl_Sat G l mi av w Post := by
  have e : (w.2.1 + mi.2.2.2.2.cells, w.2.2 + mi.2.2.2.2.slots) = w.2 := by rw [h0.1, h0.2]; rfl
  have h1 : nl_At G l mi (nl_QM G mi (w.2.1 + mi.2.2.2.2.cells, w.2.2 + mi.2.2.2.2.slots) Post) w.2 0 (nl_ent av) [] w := by
    refine h w.2 _ (fun _ t => nl_At G l mi (nl_QM G mi (w.2.1 + mi.2.2.2.2.cells, w.2.2 + mi.2.2.2.2.slots) Post) w.2 t) (fun v w1 => w1.2 = (w.2.1 + mi.2.2.2.2.cells, w.2.2 + mi.2.2.2.2.slots) ∧ v = some (.int 0) ∧ Post v w1) rfl (fun _ _ => rfl) (fun v w1 h1 h2 h3 => ⟨by rw [e]; exact h1, h2, h3⟩) fun pc ls st w1 hb => ?_
    rcases hc pc with h0 | ⟨x, is, e1, e2, e3⟩
    · rw [h0] at hb; exact hb.elim
    · rw [e1] at hb
      rw [← e2]
      exact nl_blk (e := w.2) ⟨Nat.le_add_right _ _, Nat.le_add_right _ _⟩ (nl_retB G l mi w.2 Post hrt) (fun _ _ _ _ _ q => q) is x e3 ls st w1 hb
  refine Met.ofW (cc := mi.2.1) (maxL := mi.2.2.1) (ret := mi.2.2.2.1) hp rfl ?_
  intro p e s m args below meth c s₁ B hml hv0
  obtain ⟨rfl, hKS, hRp⟩ := hv0
  rw [lg_entry_eq]
  have hl := lv_entry (av.map (nl_tv G)) (n := mi.2.2.1) (by rw [nl_ent_len av hv]; exact hlen)
  rw [← nl_ent_args av 0 hv] at hl
  have hts := atoms_spec (ws := nl_ws mi) B.pre
  exact h1 p e s m _ below meth c s.heap [] _ 0 0 ⟨B.exec, B.bytes, B.returns, hml, findClass_of_methodNamed B.named, fun w hw => hts w (List.mem_cons_of_mem _ hw), B.notSynchronized, (name_of_methodNamed B.named B.method).1, hKS⟩ hRp.1 hRp va_S.rf hl (by simp) (by simp) (Nat.zero_le _) (Nat.zero_le _)

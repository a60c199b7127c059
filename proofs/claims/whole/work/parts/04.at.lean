/-! PART 04: standing, contracts, soundness of an instruction -/
def nl_Cx (G : nl_G) (mi : nl_MI) (p : Program) (s : State) (m : MethodId) (args : Array Value) (meth : Method) (c : Code) : Prop :=
  p.tables.exec = Jvm.exec ∧ c.code = mi.2.1 ∧ meth.sig.returnType = mi.2.2.2.1 ∧ c.maxLocals = mi.2.2.1 ∧ s.vm.findClass mi.1.cls = some m.cls ∧ (∀ w ∈ nl_W, w.before args s = true) ∧ meth.locks = false ∧ meth.name = mi.1.name ∧ nl_KS G s
abbrev nl_Q : Type := List Frame → Array Value → State → State → Prop
def nl_At (G : nl_G) (l : Launch) (mi : nl_MI) (QF : nl_Q) (z : Nat × Nat) (pc : Nat) (ls st : List Value) (w : nl_HW) : Prop :=
  ∀ (p : Program) (en : Env) (s : State) (m : MethodId) (args : Array Value) (below : List Frame) (meth : Method) (c : Code) (H : Heap) (locs : List Loc) (la : Array Slot) (k sl : Nat),
    nl_Cx G mi p s m args meth c → s.heap.size = G.1 + z.1 → nl_Rp G w H → va_S (nl_A G) s.heap H locs → nl_lv G la ls mi.2.2.1 → z.1 + k = w.2.1 → z.2 + sl = w.2.2 → k ≤ mi.2.2.2.2.cells → sl ≤ mi.2.2.2.2.slots →
    W p l en mi.2.2.2.2 s m args below meth c H locs k sl (QF below args s) (F0 m pc la (st.map (nl_tv G)))
def nl_Pc (G : nl_G) (av : List Value) (w : nl_HW) : Array Value → State → Prop := fun a U => a = (av.map (nl_tv G)).toArray ∧ nl_KS G U ∧ nl_Rp G w U.heap
def nl_Qc (G : nl_G) (e : Nat × Nat) (Post : nl_R) : Array Value → State → Outcome → State → Prop := fun _ st o t => ∃ (v : Option Value) (w : nl_HW), o = .returned (v.map (nl_tv G)) ∧ nl_Rp G w t.heap ∧ va_F (nl_A G) st t ∧ w.2 = e ∧ Post v w
def nl_Sat (G : nl_G) (l : Launch) (mi : nl_MI) (av : List Value) (w : nl_HW) (Post : nl_R) : Prop :=
  Met l mi.1 (nl_ws mi) mi.2.2.2.2 (nl_Pc G av w) (nl_Qc G (w.2.1 + mi.2.2.2.2.cells, w.2.2 + mi.2.2.2.2.slots) Post) mi.2.2.2.2.cells mi.2.2.2.2.slots (nl_A G)
def nl_stp (G : nl_G) (l : Launch) (e : Nat × Nat) (K : nl_K) (J : nl_J) (R : nl_R) (i : nl_I) (ls st : List Value) (w : nl_HW) : Prop := match i with
  | .inl (op, a, b, v) => nl_stA G e K J R op a b v ls st w
  | .inr (.inl v) => K ls (.long v :: st) w
  | .inr (.inr (.inl (v, n, c, mi))) => nl_cl n st [] fun av st => nl_ok4 st = true ∧ nl_rc v c av w ∧ (v = 2 → w.2.1 + mi.2.2.2.2.cells ≤ e.1 ∧ w.2.2 + mi.2.2.2.2.slots ≤ e.2) ∧ nl_Sat G l mi av w fun r w' => K ls (nl_psh r st) w'
  | .inr (.inr (.inr (.inr (n, f)))) => nl_cl n st [] fun av st => nl_ok4 st = true ∧ f av w.1 fun v => K ls (v :: st) w
  | .inr (.inr (.inr (.inl (ps, d)))) => nl_i1 st fun x st => nl_sw x ps d fun t => J (t / 100000) (t % 100000) ls st w
/-- return instructions are met -/
def nl_RI (G : nl_G) (l : Launch) (mi : nl_MI) (QF : nl_Q) (z : Nat × Nat) (R : nl_R) : Prop :=
  (∀ (v : Int32) (w : nl_HW) (pc : Nat) (ls : List Value), decode mi.2.1 pc = .ok (.ireturn, 1) → R (some (.int v)) w → nl_At G l mi QF z pc ls [.int v] w) ∧
  (∀ (w : nl_HW) (pc : Nat) (ls : List Value), decode mi.2.1 pc = .ok (.return_, 1) → R none w → nl_At G l mi QF z pc ls [] w)
def nl_Snd (G : nl_G) (l : Launch) (mi : nl_MI) (pc : Nat) (i : nl_I) (pc' : Nat) : Prop :=
  ∀ (QF : nl_Q) (z e : Nat × Nat) (J : nl_J) (R : nl_R), (e.1 ≤ z.1 + mi.2.2.2.2.cells ∧ e.2 ≤ z.2 + mi.2.2.2.2.slots) → nl_RI G l mi QF z R →
    (∀ s t ls st w, J s t ls st w → nl_At G l mi QF z t ls st w) → ∀ K : nl_K, (∀ ls st w, K ls st w → nl_At G l mi QF z pc' ls st w) →
    ∀ ls st w, nl_stp G l e K J R i ls st w → nl_At G l mi QF z pc ls st w
/-- a block: what it asks, and that it is the code -/
def nl_wpB (G : nl_G) (l : Launch) (e : Nat × Nat) (J : nl_J) (R : nl_R) : List nl_I → nl_K
  | [] => fun _ _ _ => False
  | i :: is => nl_stp G l e (nl_wpB G l e J R is) J R i
def nl_OKB (G : nl_G) (l : Launch) (mi : nl_MI) : List (nl_I × Nat × Nat) → Prop
  | [] => True
  | (i, pc, pc') :: is => nl_Snd G l mi pc i pc' ∧ (match is with | [] => True | (_, q, _) :: _ => q = pc') ∧ nl_OKB G l mi is
theorem nl_blk {G : nl_G} {l : Launch} {mi : nl_MI} {QF : nl_Q} {z e : Nat × Nat} {J : nl_J} {R : nl_R} (he : e.1 ≤ z.1 + mi.2.2.2.2.cells ∧ e.2 ≤ z.2 + mi.2.2.2.2.slots) (hR : nl_RI G l mi QF z R)
    (hJ : ∀ s t ls st w, J s t ls st w → nl_At G l mi QF z t ls st w) : ∀ (is : List (nl_I × Nat × Nat)) (x : nl_I × Nat × Nat), nl_OKB G l mi (x :: is) → ∀ ls st w, nl_wpB G l e J R ((x :: is).map Prod.fst) ls st w → nl_At G l mi QF z x.2.1 ls st w
  | [], x, h, ls, st, w, hw => h.1 QF z e J R he hR hJ (nl_wpB G l e J R []) (fun _ _ _ q => q.elim) ls st w hw
  | y :: is, x, h, ls, st, w, hw => h.1 QF z e J R he hR hJ (nl_wpB G l e J R ((y :: is).map Prod.fst)) (fun ls st w q => by
      have := nl_blk he hR hJ is y h.2.2 ls st w q
      have e1 : y.2.1 = x.2.2 := h.2.1
      rw [e1] at this
      exact this) ls st w hw
theorem nl_mono {G : nl_G} {l : Launch} {mi : nl_MI} {av : List Value} {w : nl_HW} {P Q : nl_R} (h : nl_Sat G l mi av w P) (hPQ : ∀ v w', P v w' → Q v w') : nl_Sat G l mi av w Q := by
  intro p e ha hc hk s m args below hf happ hP hK
  obtain ⟨k, o, h1, h2, h3, ⟨⟨v, w', q1, q2, q3, q4, q5⟩, q6⟩⟩ := h p e ha hc hk s m args below hf happ hP hK
  exact ⟨k, o, h1, h2, h3, ⟨⟨v, w', q1, q2, q3, q4, hPQ v w' q5⟩, q6⟩⟩
/-- following the jumps within a method: fuel, code by blocks, where to stop -/
def nl_run (G : nl_G) (l : Launch) (e : Nat × Nat) (cd : Nat → List nl_I) (J : Nat → nl_K) (R : nl_R) : Nat → Nat → nl_K
  | 0, pc => J pc
  | n + 1, pc => nl_wpB G l e (fun s t => match s with | 0 => nl_run G l e cd J R n t | _ => J t) R (cd pc)
def nl_OKC (G : nl_G) (l : Launch) (mi : nl_MI) (cd : Nat → List nl_I) : Prop :=
  ∀ pc, cd pc = [] ∨ ∃ (x : nl_I × Nat × Nat) (is : List (nl_I × Nat × Nat)), cd pc = (x :: is).map Prod.fst ∧ x.2.1 = pc ∧ nl_OKB G l mi (x :: is)
theorem nl_go {G : nl_G} {l : Launch} {mi : nl_MI} {QF : nl_Q} {z e : Nat × Nat} {R : nl_R} {cd : Nat → List nl_I} (hc : nl_OKC G l mi cd) (he : e.1 ≤ z.1 + mi.2.2.2.2.cells ∧ e.2 ≤ z.2 + mi.2.2.2.2.slots) (hR : nl_RI G l mi QF z R)
    : ∀ (n pc : Nat) (ls st : List Value) (w : nl_HW), nl_run G l e cd (nl_At G l mi QF z) R n pc ls st w → nl_At G l mi QF z pc ls st w
  | 0, pc, ls, st, w, h => h
  | n + 1, pc, ls, st, w, h => by
    rcases hc pc with h0 | ⟨x, is, h1, h2, h3⟩
    · unfold nl_run at h
      rw [h0] at h
      exact h.elim
    · unfold nl_run at h
      rw [h1] at h
      rw [← h2]
      refine nl_blk he hR ?_ is x h3 ls st w h
      intro s t ls st w q
      match s, q with
      | 0, q => exact nl_go hc he hR n t ls st w q
      | _ + 1, q => exact q
/-- a method's own end -/
def nl_QM (G : nl_G) (mi : nl_MI) (e : Nat × Nat) (Post : nl_R) : nl_Q := fun below args s => MQ below (nl_Qc G e Post) args s mi.2.2.2.2.cells mi.2.2.2.2.slots (nl_A G)
def nl_rok : Option FieldType → Option Value → Prop
  | some .boolean, some (.int v) => v = 0 ∨ v = 1
  | some .int, some (.int _) => True
  | none, none => True
  | _, _ => False
theorem nl_ret (G : nl_G) (l : Launch) (mi : nl_MI) (z : Nat × Nat) (Post : nl_R) : nl_RI G l mi (nl_QM G mi (z.1 + mi.2.2.2.2.cells, z.2 + mi.2.2.2.2.slots) Post) z (fun v w => w.2 = (z.1 + mi.2.2.2.2.cells, z.2 + mi.2.2.2.2.slots) ∧ nl_rok mi.2.2.2.1 v ∧ Post v w) := by
  refine ⟨fun v w pc ls hd ⟨h1, h2, h3⟩ => ?_, fun w pc ls hd ⟨h1, h2, h3⟩ => ?_⟩
  · intro p en s m args below meth c H locs la k sl ⟨hx, hb, hr, hml, hown, hts, hlocks, hnm, hKS⟩ hs0 hRp hS hl hk hsl hk1 hsl1
    have e1 : k = mi.2.2.2.2.cells := by have := congrArg Prod.fst h1; simp at this; omega
    have e2 : sl = mi.2.2.2.2.slots := by have := congrArg Prod.snd h1; simp at this; omega
    subst e1; subst e2
    have hq : ∀ t : State, t.heap = H → s.WarmedH t.vm → nl_Qc G (z.1 + mi.2.2.2.2.cells, z.2 + mi.2.2.2.2.slots) Post args s (.returned (some (.int v))) t := fun t ht hW => ⟨some (.int v), w, rfl, by rw [ht]; exact hRp, hS.F ht, h1, h3⟩
    revert h2
    generalize hrt : mi.2.2.2.1 = rt
    rw [hrt] at hr
    intro h2
    unfold nl_rok at h2
    split at h2
    · rename_i heq
      cases heq
      exact W.zret hx hb hr (by rcases h2 with rfl | rfl <;> rfl) hq hS.2.2 hd
    · exact W.iret hx hb hr hq hS.2.2 hd
    · rename_i heq; cases heq
    · exact h2.elim
  · intro p en s m args below meth c H locs la k sl ⟨hx, hb, hr, hml, hown, hts, hlocks, hnm, hKS⟩ hs0 hRp hS hl hk hsl hk1 hsl1
    have e1 : k = mi.2.2.2.2.cells := by have := congrArg Prod.fst h1; simp at this; omega
    have e2 : sl = mi.2.2.2.2.slots := by have := congrArg Prod.snd h1; simp at this; omega
    subst e1; subst e2
    have hq : ∀ t : State, t.heap = H → s.WarmedH t.vm → nl_Qc G (z.1 + mi.2.2.2.2.cells, z.2 + mi.2.2.2.2.slots) Post args s (.returned none) t := fun t ht hW => ⟨none, w, rfl, by rw [ht]; exact hRp, hS.F ht, h1, h3⟩
    have hr' : meth.sig.returnType = none := by
      rw [hr]
      revert h2
      generalize mi.2.2.2.1 = rt
      intro h2
      unfold nl_rok at h2
      split at h2 <;> first | rfl | (rename_i heq; cases heq) | exact h2.elim
    exact W.vret hx hb hr' hq hS.2.2 hd

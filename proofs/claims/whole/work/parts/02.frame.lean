/-! PART 02: a small machine over a world of cells at B, B+1, ..: its instructions (nl_I), what each asks (nl_stp), what 'stands' means (nl_At), a method's contract (nl_Sat) -/
abbrev nl_MI : Type := MethodName × ByteArray × Nat × Option FieldType × Room
abbrev nl_HW : Type := (Nat → va_E) × Nat × Nat
abbrev nl_G : Type := Nat × (UInt32 → Nat × Nat × (Nat → Int32)) × va_G × (Nat → ClassId)
abbrev nl_K : Type := List Value → List Value → nl_HW → Prop
abbrev nl_J : Type := Nat → Nat → List Value → List Value → nl_HW → Prop
abbrev nl_R : Type := Option Value → nl_HW → Prop
/-- what a method that only reads asks and answers -/
abbrev nl_F : Type := List Value → (Nat → va_E) → (Value → Prop) → Prop
/-- an instruction: plain (number, two operands, a constant); a long constant; a call (kind, how many, class, method); a switch; a call of a method that only reads -/
abbrev nl_I : Type := (Nat × Nat × Nat × Int32) ⊕ Int64 ⊕ (Nat × Nat × Nat × nl_MI) ⊕ (List (Int32 × Nat) × Nat) ⊕ (Nat × nl_F)
def nl_W : List Cond := lw_tbl.filter goodWord
def nl_ws (mi : nl_MI) : List Cond := .code mi.1 mi.2.1 mi.2.2.1 mi.2.2.2.1 :: nl_W
def nl_isN : Cond → Bool
  | .fieldLinkNest .. => true
  | .methodLinkNest .. => true
  | _ => false
def nl_N : List Cond := lw_tbl.filter nl_isN
theorem nl_W_in {w : Cond} {i : Nat} (h : lw_tbl[i]? = some w) (hg : goodWord w = true) : w ∈ nl_W := List.mem_filter.mpr ⟨List.mem_of_getElem? h, hg⟩
theorem nl_N_in {w : Cond} {i : Nat} (h : lw_tbl[i]? = some w) (hg : nl_isN w = true) : w ∈ nl_N := List.mem_filter.mpr ⟨List.mem_of_getElem? h, hg⟩
theorem nl_goodIn {Ts : List Cond} (hT : ∀ w ∈ nl_W, w ∈ Ts) {mi : nl_MI} (h : Cond.code mi.1 mi.2.1 mi.2.2.1 mi.2.2.2.1 ∈ nl_W) : GoodIn Ts (nl_ws mi) := by
  intro w hw
  have h1 : w ∈ nl_W := by
    rcases List.mem_cons.mp hw with rfl | h2
    · exact h
    · exact h2
  exact ⟨hT w h1, good_of_word (List.mem_filter.mp h1).2⟩
-- values, cells, worlds
def nl_tv (G : nl_G) : Value → Value
  | .ref k => .ref (G.1 + k)
  | .float x => .ref (G.2.1 x).1
  | v => v
def nl_te (G : nl_G) : va_E → va_E
  | .inr (c, fs) => .inr (c, fs.map (nl_tv G))
  | .inl (t, n, .inr (.inr (.inr (.inr f)))) => .inl (G.2.2.2 t, n, .inr (.inr (.inr (.inr (fun i => (f i).map (G.1 + ·))))))
  | .inl (t, n, .inl f) => .inl (G.2.2.2 t, n, .inl f)
  | .inl (t, n, .inr (.inl f)) => .inl (G.2.2.2 t, n, .inr (.inl f))
  | .inl (t, n, .inr (.inr (.inl f))) => .inl (G.2.2.2 t, n, .inr (.inr (.inl f)))
  | .inl (t, n, .inr (.inr (.inr (.inl f)))) => .inl (G.2.2.2 t, n, .inr (.inr (.inr (.inl f))))
abbrev nl_nil : va_E := .inr (99, [])
abbrev nl_ob (c : Nat) (fs : List Value) : va_E := .inr (c, fs)
abbrev nl_ia (n : Nat) (f : Nat → Int32) : va_E := .inl (0, n, .inl f)
abbrev nl_za (n : Nat) (f : Nat → Int32) : va_E := .inl (1, n, .inl f)
abbrev nl_ra (t n : Nat) (f : Nat → Option Nat) : va_E := .inl (t, n, .inr (.inr (.inr (.inr f))))
def nl_ws0 (G : nl_G) (n : Nat) (h : Nat → va_E) : va_W := (List.range n).map fun k => (G.1 + k, nl_te G (h k))
theorem nl_ws0_at (G : nl_G) {n k : Nat} (h : Nat → va_E) (hk : k < n) : (nl_ws0 G n h)[k]? = some (G.1 + k, nl_te G (h k)) := by
  simp [nl_ws0, hk]
theorem nl_ws0_set (G : nl_G) (n k : Nat) (h : Nat → va_E) (c : va_E) : (nl_ws0 G n h).set k (G.1 + k, nl_te G c) = nl_ws0 G n (va_up h k c) := by
  apply List.ext_getElem?
  intro j
  by_cases hj : j < n
  · by_cases hjk : k = j
    · subst hjk
      rw [nl_ws0_at G _ hj, List.getElem?_set_self (by simpa [nl_ws0] using hj)]
      simp [va_up]
    · rw [List.getElem?_set_ne hjk, nl_ws0_at G _ hj, nl_ws0_at G _ hj]
      simp [va_up, Ne.symm hjk]
  · rw [List.getElem?_eq_none (by simpa [nl_ws0] using hj), List.getElem?_eq_none (by simpa [nl_ws0] using hj)]
theorem nl_ws0_new (G : nl_G) (n : Nat) (h : Nat → va_E) (c : va_E) : nl_ws0 G n h ++ [(G.1 + n, nl_te G c)] = nl_ws0 G (n + 1) (va_up h n c) := by
  apply List.ext_getElem?
  intro j
  by_cases hj : j < n
  · rw [List.getElem?_append_left (by simpa [nl_ws0] using hj), nl_ws0_at G _ hj, nl_ws0_at G _ (by omega)]
    simp [va_up, Nat.ne_of_lt hj]
  · by_cases hjn : j = n
    · subst hjn
      rw [List.getElem?_append_right (by simp [nl_ws0]), nl_ws0_at G _ (by omega)]
      simp [va_up, nl_ws0]
    · rw [List.getElem?_eq_none (by simp [nl_ws0]; omega), List.getElem?_eq_none (by simp [nl_ws0]; omega)]
abbrev nl_A (G : nl_G) : Nat → Prop := fun q => G.1 ≤ q
theorem nl_D (G : nl_G) (n : Nat) (h : Nat → va_E) : va_D (nl_A G) (nl_ws0 G n h) := by
  have key : ∀ (k : Nat) (q : Nat × va_E), (nl_ws0 G n h)[k]? = some q → q.1 = G.1 + k := by
    intro k q hq
    have hk : k < n := by
      have := (List.getElem?_eq_some_iff.mp hq).1
      simpa [nl_ws0] using this
    rw [nl_ws0_at G _ hk] at hq
    cases hq
    rfl
  refine ⟨fun i j p q hp hq hpq => ?_, fun k q hq => ?_⟩
  · have h1 := key i p hp
    have h2 := key j q hq
    omega
  · show G.1 ≤ q.1
    rw [key k q hq]
    omega
/-- the heap holds the world w -/
def nl_Rp (G : nl_G) (w : nl_HW) (H : Heap) : Prop := H.size = G.1 + w.2.1 ∧ (∀ k, w.2.1 ≤ k → w.1 k = nl_nil) ∧ va_P G.2.2.1 vwCl (nl_ws0 G w.2.1 w.1) H
abbrev nl_RL : List String := [RX6, RX3, RX1]
def nl_ty (G : nl_G) : List (ClassId × FieldType) := [(G.2.2.2 0, .int), (G.2.2.2 1, .boolean), (G.2.2.2 2, .object RX6), (G.2.2.2 3, .object RX3), (G.2.2.2 4, .object RX1)]
/-- constants below B: the script (0), NEAREST (1), the text (2) and its bytes (3) -/
def nl_C (G : nl_G) (U : State) (H : Heap) : Prop :=
  (∀ x : UInt32, x = 0 ∨ x = 1 → va_T .int (G.2.1 x).1 (G.2.1 x).2.1 (fun j => .int ((G.2.1 x).2.2 j)) (nl_A G) U H) ∧ va_Z RX9 "NEAREST" "[I" (.ref (G.2.1 1).1) (nl_A G) U H ∧
  vk_R RX5 88 "kpwnm" (G.2.1 2).1 U ∧ vk_S 1 [5] [[107, 112, 119, 110, 109]] (fun _ => (G.2.1 2).1) (fun _ => (G.2.1 3).1) (nl_A G) U H ∧ va_Z "java/lang/String" "COMPACT_STRINGS" "Z" (.int 1) (nl_A G) U H
def nl_KS (G : nl_G) (U : State) : Prop := va_K G.2.2.1 vwCl (nl_ty G) U ∧ (∀ w ∈ nl_N, va_Nw w U) ∧ (∀ C ∈ nl_RL, va_AO C U) ∧ nl_C G U U.heap ∧ G.1 ≤ U.heap.size
theorem nl_C.go {G : nl_G} {s U : State} {H H1 : Heap} (h : nl_C G s H) (hW : s.WarmedH U.vm) (hq : ∀ a : Nat, a < H.size → ¬ nl_A G a → H1[a]? = H[a]?) : nl_C G U H1 :=
  ⟨fun x hx => ((h.1 x hx).kept hq).moved hW.alike, (h.2.1.kept hq).moved hW.alike, h.2.2.1.warm hW, (h.2.2.2.1.kept hq).moved hW.alike, (h.2.2.2.2.kept hq).moved hW.alike⟩
theorem nl_Nw_warm {w : Cond} (hw : nl_isN w = true) {s U : State} (hW : s.WarmedH U.vm) (h : va_Nw w s) : va_Nw w U := by
  cases w <;> first | exact va_Nw.warmF hW h | exact va_Nw.warmM hW h | (exact absurd hw (by simp [nl_isN]))
theorem nl_KS.go {G : nl_G} {s U : State} {locs : List Loc} (h : nl_KS G s) (hW : s.WarmedH U.vm) (hS : va_S (nl_A G) s.heap U.heap locs) : nl_KS G U :=
  ⟨va_K.moved hW.alike h.1, fun w hw => nl_Nw_warm (List.mem_filter.mp hw).2 hW (h.2.1 w hw), fun C hC => va_AO.moved hW.alike (h.2.2.1 C hC), h.2.2.2.1.go hW hS.2.1, Nat.le_trans h.2.2.2.2 hS.1⟩
theorem nl_KS.call {G : nl_G} {U : State} (h : nl_KS G U) (a : Array Value) (g : JFrame) (mk : MethodId) : nl_KS G (U.calling g mk a) := by
  have hvm : (U.calling g mk a).vm = U.vm := rfl
  have hh : (U.calling g mk a).heap = U.heap := rfl
  have hW : U.WarmedH (U.calling g mk a).vm := by rw [hvm]; exact State.WarmedH.refl U
  refine h.go hW (locs := []) ?_
  rw [hh]
  exact va_S.rf
-- locals
def nl_lvl (G : nl_G) : Nat → List Value → List (Nat × Value)
  | _, [] => []
  | i, .retAddr _ :: l => nl_lvl G (i + 1) l
  | i, v :: l => (i, nl_tv G v) :: nl_lvl G (i + 1) l
def nl_lv (G : nl_G) (la : Array Slot) (ls : List Value) (nL : Nat) : Prop := lv_has la nL (nl_lvl G 0 ls)
def nl_set : List Value → Nat → Value → List Value
  | [], 0, v => [v]
  | [], k + 1, v => .retAddr 0 :: nl_set [] k v
  | _ :: l, 0, v => v :: l
  | x :: l, k + 1, v => x :: nl_set l k v
def nl_nth : List Value → Nat → Option Value
  | [], _ => none
  | v :: _, 0 => some v
  | _ :: l, k + 1 => nl_nth l k

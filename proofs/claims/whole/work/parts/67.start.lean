/-! the start: what the tables and the given of the claim say -/
section
variable {s : State} {av : Array Value}
theorem st_W (hts : ∀ w ∈ lw_tbl, w.before av s = true) : ∀ w ∈ nl_W, w.before av s = true := fun w hw => hts w (List.mem_filter.mp hw).1
theorem st_in {w : Cond} {i : Nat} (hts : ∀ w ∈ lw_tbl, w.before av s = true) (h : lw_tbl[i]? = some w) : w.before av s = true := hts w (List.mem_of_getElem? h)
set_option maxRecDepth 100000 in
theorem st_cl (hts : ∀ w ∈ lw_tbl, w.before av s = true) : ∃ D : va_G, ∀ (c : Nat) (q : vw_C), vwCl[c]? = some q → u_Kn s q.1 q.2.1 q.2.2 (D.1 c) (D.2 c) := by
  have hW := st_W hts
  have k0 : ∃ d : ClassId × (Nat → Nat), u_Kn s RX0 TX0 6 d.1 d.2 := by
    obtain ⟨a, b, h⟩ := u_known (n := 6) hW inW0 (st_in (i := 352) hts rfl)
    exact ⟨(a, b), h⟩
  have k1 : ∃ d : ClassId × (Nat → Nat), u_Kn s RX1 TX1 10 d.1 d.2 := by
    obtain ⟨a, b, h⟩ := u_known (n := 10) hW inW1 (st_in (i := 189) hts rfl)
    exact ⟨(a, b), h⟩
  have k2 : ∃ d : ClassId × (Nat → Nat), u_Kn s RX2 TX2 3 d.1 d.2 := by
    obtain ⟨a, b, h⟩ := u_known (n := 3) hW inW2 (st_in (i := 333) hts rfl)
    exact ⟨(a, b), h⟩
  have k3 : ∃ d : ClassId × (Nat → Nat), u_Kn s RX3 TX3 12 d.1 d.2 := by
    obtain ⟨a, b, h⟩ := u_known (n := 12) hW inW3 (st_in (i := 117) hts rfl)
    exact ⟨(a, b), h⟩
  have k4 : ∃ d : ClassId × (Nat → Nat), u_Kn s RX4 TX4 3 d.1 d.2 := by
    obtain ⟨a, b, h⟩ := u_known (n := 3) hW inW4 (st_in (i := 243) hts rfl)
    exact ⟨(a, b), h⟩
  have k5 : ∃ d : ClassId × (Nat → Nat), u_Kn s RX5 TX5 7 d.1 d.2 := by
    obtain ⟨a, b, h⟩ := u_known (n := 7) hW inW5 (st_in (i := 86) hts rfl)
    exact ⟨(a, b), h⟩
  have k6 : ∃ d : ClassId × (Nat → Nat), u_Kn s RX6 TX6 4 d.1 d.2 := by
    obtain ⟨a, b, h⟩ := u_known (n := 4) hW inW6 (st_in (i := 378) hts rfl)
    exact ⟨(a, b), h⟩
  have k7 : ∃ d : ClassId × (Nat → Nat), u_Kn s RX7 TX7 10 d.1 d.2 := by
    obtain ⟨a, b, h⟩ := u_known (n := 10) hW inW7 (st_in (i := 264) hts rfl)
    exact ⟨(a, b), h⟩
  have k8 : ∃ d : ClassId × (Nat → Nat), u_Kn s RX8 TX8 3 d.1 d.2 := by
    obtain ⟨a, b, h⟩ := u_known (n := 3) hW inW8 (st_in (i := 314) hts rfl)
    exact ⟨(a, b), h⟩
  have k9 : ∃ d : ClassId × (Nat → Nat), u_Kn s RX9 TX9 16 d.1 d.2 := by
    obtain ⟨a, b, h⟩ := u_known (n := 16) hW inW9 (st_in (i := 76) hts rfl)
    exact ⟨(a, b), h⟩
  have k10 : ∃ d : ClassId × (Nat → Nat), u_Kn s RX10 TX10 24 d.1 d.2 := by
    obtain ⟨a, b, h⟩ := u_known (n := 24) hW inW10 (st_in (i := 971) hts rfl)
    exact ⟨(a, b), h⟩
  have h0 : ∀ c : Nat, ∃ d : ClassId × (Nat → Nat), ∀ q : vw_C, vwCl[c]? = some q → u_Kn s q.1 q.2.1 q.2.2 d.1 d.2 := by
    intro c
    match c with
    | 0 => obtain ⟨d, h⟩ := k0; exact ⟨d, fun q hq => by cases hq; exact h⟩
    | 1 => obtain ⟨d, h⟩ := k1; exact ⟨d, fun q hq => by cases hq; exact h⟩
    | 2 => obtain ⟨d, h⟩ := k2; exact ⟨d, fun q hq => by cases hq; exact h⟩
    | 3 => obtain ⟨d, h⟩ := k3; exact ⟨d, fun q hq => by cases hq; exact h⟩
    | 4 => obtain ⟨d, h⟩ := k4; exact ⟨d, fun q hq => by cases hq; exact h⟩
    | 5 => obtain ⟨d, h⟩ := k5; exact ⟨d, fun q hq => by cases hq; exact h⟩
    | 6 => obtain ⟨d, h⟩ := k6; exact ⟨d, fun q hq => by cases hq; exact h⟩
    | 7 => obtain ⟨d, h⟩ := k7; exact ⟨d, fun q hq => by cases hq; exact h⟩
    | 8 => obtain ⟨d, h⟩ := k8; exact ⟨d, fun q hq => by cases hq; exact h⟩
    | 9 => obtain ⟨d, h⟩ := k9; exact ⟨d, fun q hq => by cases hq; exact h⟩
    | 10 => obtain ⟨d, h⟩ := k10; exact ⟨d, fun q hq => by cases hq; exact h⟩
    | _ + 11 => exact ⟨(0, fun _ => 0), fun q hq => by cases hq⟩
  obtain ⟨f, hf⟩ := Classical.axiomOfChoice h0
  exact ⟨(fun c => (f c).1, fun c => (f c).2), fun c q hq => hf c q hq⟩
theorem st_ar {ty : FieldType} (hn : ∀ C, ty ≠ .object C) (h : (Cond.arrayClass ty).before av s = true) : ∃ cA, ArrOfT s cA ty ∧ va_RA s cA ty := by
  obtain ⟨c, k, comp, h1, h2, h3⟩ := Cond.arrayClass_spec h
  refine ⟨c, fun n z => ⟨(fun _ h => by cases h), k, h2, comp, h3⟩, ?_⟩
  cases ty with
  | object C => exact absurd rfl (hn C)
  | _ => exact h1
theorem st_ao {C : String} (h : (Cond.arrayOver (.object C)).before av s = true) : ∃ cA, ArrOfT s cA (.object C) ∧ va_RA s cA (.object C) := by
  obtain ⟨comp, c, k, h1, h2, h3, h4, h5⟩ := Cond.arrayOver_spec h
  exact ⟨c, fun n z => ⟨(fun _ h => by cases h), k, h3, comp, h4⟩, k, comp, h3, h4, h1, h5⟩
set_option maxRecDepth 100000 in
theorem st_ty (hts : ∀ w ∈ lw_tbl, w.before av s = true) : ∃ t : Nat → ClassId, ∀ (k : Nat) (q : ClassId × FieldType), [(t 0, .int), (t 1, .boolean), (t 2, .object RX6), (t 3, .object RX3), (t 4, .object RX1)][k]? = some q → ArrOfT s q.1 q.2 ∧ va_RA s q.1 q.2 := by
  obtain ⟨c0, h0⟩ := st_ar (ty := .int) (fun C h => by cases h) (st_in (i := 115) hts rfl)
  obtain ⟨c1, h1⟩ := st_ar (ty := .boolean) (fun C h => by cases h) (st_in (i := 312) hts rfl)
  obtain ⟨c2, h2⟩ := st_ao (C := RX6) (st_in (i := 84) hts rfl)
  obtain ⟨c3, h3⟩ := st_ao (C := RX3) (st_in (i := 262) hts rfl)
  obtain ⟨c4, h4⟩ := st_ao (C := RX1) (st_in (i := 249) hts rfl)
  refine ⟨fun k => match k with | 0 => c0 | 1 => c1 | 2 => c2 | 3 => c3 | _ => c4, fun k q hq => ?_⟩
  match k with
  | 0 => cases hq; exact h0
  | 1 => cases hq; exact h1
  | 2 => cases hq; exact h2
  | 3 => cases hq; exact h3
  | 4 => cases hq; exact h4
  | _ + 5 => cases hq
theorem st_Nw (hts : ∀ w ∈ lw_tbl, w.before av s = true) : ∀ w ∈ nl_N, va_Nw w s := fun w hw => by
  have h1 := (List.mem_filter.mp hw).2
  have h2 := hts w (List.mem_filter.mp hw).1
  refine va_Nw.of ?_ h2
  cases w <;> first | rfl | (exact absurd h1 (by simp [nl_isN]))
set_option maxRecDepth 100000 in
theorem st_AO (hts : ∀ w ∈ lw_tbl, w.before av s = true) : ∀ C ∈ nl_RL, va_AO C s :=
  List.forall_mem_cons.mpr ⟨va_AO.of (st_in (i := 84) hts rfl), List.forall_mem_cons.mpr ⟨va_AO.of (st_in (i := 262) hts rfl), List.forall_mem_cons.mpr ⟨va_AO.of (st_in (i := 249) hts rfl), fun _ h => absurd h List.not_mem_nil⟩⟩⟩
/-- the table of the nearest sorts -/
theorem st_near {A : Nat → Prop} (hg : (Jvm.Cond.and given_1 narrow_1).before av s = true) (hA : ∀ a : Nat, a < s.heap.size → ¬ A a) : ∃ t : Nat, (Term.static RX9 "NEAREST" "[I").eval av s none [] s = some (.ref t) ∧ va_T .int t 6 (fun j => .int (nearF j)) A s s.heap := by
  have hs := flat_of_before _ hg
  refine va_Tof (tm := .static RX9 "NEAREST" "[I") (by decide) (hs _ (by decide +kernel)) (va_eqt (hs _ (by decide +kernel))) (fun j hj => ?_) hA
  match j with
  | 0 => exact va_eqt (hs _ (by decide +kernel))
  | 1 => exact va_eqt (hs _ (by decide +kernel))
  | 2 => exact va_eqt (hs _ (by decide +kernel))
  | 3 => exact va_eqt (hs _ (by decide +kernel))
  | 4 => exact va_eqt (hs _ (by decide +kernel))
  | 5 => exact va_eqt (hs _ (by decide +kernel))
  | _ + 6 => omega
/-- the text of letters -/
theorem st_txt {A : Nat → Prop} (hg : (Jvm.Cond.and given_1 narrow_1).before av s = true) (hA : ∀ a : Nat, a < s.heap.size → ¬ A a) : ∃ a b : Nat, vk_S 1 [5] [[107, 112, 119, 110, 109]] (fun _ => a) (fun _ => b) A s s.heap ∧ (Term.string RX5 88).eval av s none [] s = some (.ref a) := by
  have hs := flat_of_before _ hg
  obtain ⟨f, g, h1, h2⟩ := vk_Sof (args := av) (s := s) (N := 1) (tm := fun _ => .string RX5 88) (len := [5]) (byt := [[107, 112, 119, 110, 109]]) (A := A) (fun i hi => by cases i with
    | zero => decide
    | succ i => omega) (fun i hi => hs _ (by decide +kernel)) (fun i hi => hs _ (by decide +kernel)) (fun i hi => hs _ (by decide +kernel)) (fun i hi => by cases i with
    | zero => exact hs _ (by decide +kernel)
    | succ i => omega) (fun i hi j hj => by
      cases i with
      | succ i => omega
      | zero =>
        match j with
        | 0 => exact hs _ (by decide +kernel)
        | 1 => exact hs _ (by decide +kernel)
        | 2 => exact hs _ (by decide +kernel)
        | 3 => exact hs _ (by decide +kernel)
        | 4 => exact hs _ (by decide +kernel)
        | _ + 5 => exact absurd hj (by simp)) (fun i j hi hj hij => by omega) hA
  exact ⟨f 0, g 0, ⟨fun i hi => by cases i with
    | zero => exact h1.1 0 (by omega)
    | succ i => omega, fun i j hi hj _ => by omega⟩, h2 0 (by omega)⟩
end

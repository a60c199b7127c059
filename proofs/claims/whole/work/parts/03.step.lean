/-! PART 03: what each instruction asks -/
def nl_i1 (st : List Value) (k : Int32 → List Value → Prop) : Prop := match st with
  | .int x :: st => k x st
  | _ => False
def nl_i2 (st : List Value) (k : Int32 → Int32 → List Value → Prop) : Prop := match st with
  | .int y :: .int x :: st => k x y st
  | _ => False
def nl_l1 (st : List Value) (k : Int64 → List Value → Prop) : Prop := match st with
  | .long x :: st => k x st
  | _ => False
def nl_l2 (st : List Value) (k : Int64 → Int64 → List Value → Prop) : Prop := match st with
  | .long y :: .long x :: st => k x y st
  | _ => False
def nl_c1 : Value → Bool
  | .int _ => true
  | .ref _ => true
  | .float _ => true
  | _ => false
def nl_d1 (st : List Value) (k : Value → List Value → Prop) : Prop := match st with
  | v :: st => nl_c1 v = true ∧ k v st
  | _ => False
def nl_d2 (st : List Value) (k : Value → Value → List Value → Prop) : Prop := match st with
  | v :: u :: st => nl_c1 v = true ∧ nl_c1 u = true ∧ k v u st
  | _ => False
def nl_pk : List Value → Nat → Bool
  | _, 0 => true
  | ls, k + 1 => match nl_nth ls k with
    | some (.long _) => false
    | some (.double _) => false
    | _ => true
def nl_ldI (ls : List Value) (k : Nat) (K : Value → Prop) : Prop := match nl_nth ls k with
  | some (.int x) => K (.int x)
  | _ => False
def nl_ldL (ls : List Value) (k : Nat) (K : Value → Prop) : Prop := match nl_nth ls k with
  | some (.long x) => K (.long x)
  | _ => False
def nl_ldR (ls : List Value) (k : Nat) (K : Value → Prop) : Prop := match nl_nth ls k with
  | some (.ref x) => K (.ref x)
  | some (.float x) => K (.float x)
  | _ => False
def nl_stR (st : List Value) (K : Value → List Value → Prop) : Prop := match st with
  | .ref x :: st => K (.ref x) st
  | .float x :: st => K (.float x) st
  | _ => False
def nl_gf (c k : Nat) (h : va_E) (K : Value → Prop) : Prop := match h with
  | .inr (c', fs) => c' = c ∧ match nl_nth fs k with
    | some v => K v
    | none => False
  | _ => False
def nl_pf (c k : Nat) (h : va_E) (v : Value) (K : va_E → Prop) : Prop := match h with
  | .inr (c', fs) => c' = c ∧ k < fs.length ∧ K (.inr (c', fs.set k v))
  | _ => False
def nl_al (t : Nat) (h : va_E) (i : Int32) (K : Int32 → Prop) : Prop := match h with
  | .inl (t', n, .inl f) => t' = t ∧ vp_in i n ∧ K (f i.toNatClampNeg)
  | _ => False
def nl_as (t : Nat) (h : va_E) (i x : Int32) (K : va_E → Prop) : Prop := match h with
  | .inl (t', n, .inl f) => t' = t ∧ vp_in i n ∧ K (.inl (t', n, .inl (upd f i.toNatClampNeg x)))
  | _ => False
def nl_rl (t : Nat) (h : va_E) (i : Int32) (K : Nat → Prop) : Prop := match h with
  | .inl (t', n, .inr (.inr (.inr (.inr f)))) => t' = t ∧ vp_in i n ∧ match f i.toNatClampNeg with
    | some a => K a
    | none => False
  | _ => False
def nl_rs (t : Nat) (h : va_E) (i : Int32) (a : Nat) (K : va_E → Prop) : Prop := match h with
  | .inl (t', n, .inr (.inr (.inr (.inr f)))) => t' = t ∧ vp_in i n ∧ K (.inl (t', n, .inr (.inr (.inr (.inr (va_up f i.toNatClampNeg (some a)))))))
  | _ => False
def nl_io (c : Nat) (h : va_E) : Prop := match h with
  | .inr (c', _) => c' = c
  | _ => False
def nl_cp (h0 h1 : va_E) (i j n : Int32) (K : va_E → Prop) : Prop := match h0, h1 with
  | .inl (t0, n0, .inl f), .inl (t1, n1, .inl g) => t0 = 0 ∧ t1 = 0 ∧ ¬ i < 0 ∧ ¬ j < 0 ∧ ¬ n < 0 ∧ i.toNatClampNeg + n.toNatClampNeg ≤ n0 ∧ j.toNatClampNeg + n.toNatClampNeg ≤ n1 ∧ K (.inl (t1, n1, .inl (va_cpy f g i.toNatClampNeg j.toNatClampNeg n.toNatClampNeg)))
  | _, _ => False
def nl_ix (st : List Value) (kr : Int32 → Nat → List Value → Prop) (kc : Int32 → UInt32 → List Value → Prop) : Prop := match st with
  | .int i :: .ref a :: st => kr i a st
  | .int i :: .float x :: st => kc i x st
  | _ => False
def nl_hs (w : nl_HW) (a : Nat) (c : va_E) : nl_HW := (va_up w.1 a c, w.2)
def nl_hn (w : nl_HW) (c : va_E) (n : Nat) : nl_HW := (va_up w.1 w.2.1 c, w.2.1 + 1, w.2.2 + n)
def nl_cl : Nat → List Value → List Value → (List Value → List Value → Prop) → Prop
  | 0, st, acc, k => k acc st
  | n + 1, v :: st, acc, k => nl_cl n st (v :: acc) k
  | _ + 1, [], _, _ => False
def nl_ok4 : List Value → Bool
  | [] => true
  | [_] => true
  | [_, _] => true
  | [_, _, _] => true
  | [_, _, _, _] => true
  | _ => false
def nl_psh (v : Option Value) (st : List Value) : List Value := match v with
  | some x => x :: st
  | none => st
def nl_rc (v c : Nat) (av : List Value) (w : nl_HW) : Prop := match v with
  | 0 => True
  | 1 => match av with
    | .ref a :: _ => nl_io c (w.1 a)
    | _ => False
  | 3 => match av with
    | .float x :: _ => x = 2
    | _ => False
  | _ => match av with
    | .ref _ :: _ => True
    | _ => False
def nl_new (c N : Nat) : va_E := match c with
  | 0 => .inr (0, [.null, .int 0, .int 0, .int 0, .int 0, .int 0])
  | 1 => .inr (1, [.int 0, .int 0, .int 0, .int 0, .int 0, .int 0, .int 0, .int 0, .null, .null])
  | 2 => .inr (2, [.int 0, .int 0, .int 0])
  | 3 => .inr (3, [.int 0, .int 0, .int 0, .int 0, .int 0, .int 0, .int 0, .int 0, .null, .null, .null, .null])
  | 4 => .inr (4, [.null, .int 0, .int 0])
  | 5 => .inr (5, [.null, .int 0, .int 0, .int 0, .int 0, .int 0, .int 0])
  | 6 => .inr (6, [.null, .int 0, .int 0, .int 0])
  | 7 => .inr (7, [.null, .null, .int 0, .int 0, .int 0, .int 0, .int 0, .int 0, .int 0, .int 0])
  | 8 => .inr (8, [.int 0, .int 0, .int 0])
  | 9 => .inr (9, [.null, .null, .null, .null, .null, .null, .null, .null, .null, .null, .null, .null, .null, .int 0, .int 0, .int 0])
  | 10 => .inr (10, [.null, .null, .null, .int 0, .null, .int 0, .int 0, .int 0, .null, .int 0, .null, .null, .null, .int 0, .null, .int 0, .int 0, .int 0, .int 0, .int 0, .null, .null, .int 0, .int 0])
  | _ => .inr (N, [])
def nl_sw (x : Int32) : List (Int32 × Nat) → Nat → (Nat → Prop) → Prop
  | [], d, k => k d
  | (v, t) :: r, d, k => (x = v → k t) ∧ (¬ x = v → nl_sw x r d k)
/-- the plain ones, by their numbers -/
def nl_stA (G : nl_G) (e : Nat × Nat) (K : nl_K) (J : nl_J) (R : nl_R) (op a b : Nat) (v : Int32) (ls st : List Value) (w : nl_HW) : Prop := match op with
  | 0 => K ls (.int v :: st) w
  | 1 => nl_ldI ls a fun x => K ls (x :: st) w
  | 2 => nl_ldL ls a fun x => K ls (x :: st) w
  | 3 => nl_ldR ls a fun x => K ls (x :: st) w
  | 4 => nl_i1 st fun x st => nl_pk ls a = true ∧ K (nl_set ls a (.int x)) st w
  | 5 => nl_l1 st fun x st => nl_pk ls a = true ∧ K (nl_set (nl_set ls a (.long x)) (a + 1) (.retAddr 0)) st w
  | 6 => nl_stR st fun x st => nl_pk ls a = true ∧ K (nl_set ls a x) st w
  | 7 => nl_ldI ls a fun x => nl_i1 [x] fun x _ => nl_pk ls a = true ∧ K (nl_set ls a (.int (x + v))) st w
  | 8 => nl_i2 st fun x y st => K ls (.int (x + y) :: st) w
  | 9 => nl_i2 st fun x y st => K ls (.int (x - y) :: st) w
  | 10 => nl_i2 st fun x y st => K ls (.int (x * y) :: st) w
  | 11 => nl_i2 st fun x y st => ¬ y = 0 ∧ K ls (.int (x / y) :: st) w
  | 12 => nl_i2 st fun x y st => ¬ y = 0 ∧ K ls (.int (x - x / y * y) :: st) w
  | 13 => nl_i1 st fun x st => K ls (.int (-x) :: st) w
  | 14 => nl_i2 st fun x y st => K ls (.int (x <<< (y &&& 31)) :: st) w
  | 15 => nl_i2 st fun x y st => K ls (.int (x ||| y) :: st) w
  | 16 => nl_i2 st fun x y st => K ls (.int (x &&& y) :: st) w
  | 17 => nl_i1 st fun x st => K ls (.long x.toInt64 :: st) w
  | 18 => nl_l1 st fun x st => K ls (.int x.toInt32 :: st) w
  | 19 => nl_i1 st fun x st => K ls (.int x.toInt8.toInt32 :: st) w
  | 20 => nl_i1 st fun x st => K ls (.int x.toInt16.toInt32 :: st) w
  | 21 => nl_i1 st fun x st => K ls (.int (x.toUInt32 % 65536).toInt32 :: st) w
  | 22 => nl_l2 st fun x y st => K ls (.long (x + y) :: st) w
  | 23 => nl_l2 st fun x y st => K ls (.long (x * y) :: st) w
  | 24 => nl_l2 st fun x y st => ¬ y = 0 ∧ K ls (.long (x / y) :: st) w
  | 25 => nl_l2 st fun x y st => ¬ y = 0 ∧ K ls (.long (x - x / y * y) :: st) w
  | 26 => nl_l2 st fun x y st => K ls (.int (lg_cmp x y) :: st) w
  | 27 => nl_d1 st fun x st => K ls (x :: x :: st) w
  | 28 => nl_d2 st fun x y st => K ls (x :: y :: x :: y :: st) w
  | 29 => J a b ls st w
  | 30 => J a b ls st w
  | 31 => nl_i1 st fun x st => (x = 0 → J a b ls st w) ∧ (¬ x = 0 → K ls st w)
  | 32 => nl_i1 st fun x st => (¬ x = 0 → J a b ls st w) ∧ (x = 0 → K ls st w)
  | 33 => nl_i1 st fun x st => (x < 0 → J a b ls st w) ∧ (¬ x < 0 → K ls st w)
  | 34 => nl_i1 st fun x st => (0 ≤ x → J a b ls st w) ∧ (¬ 0 ≤ x → K ls st w)
  | 35 => nl_i1 st fun x st => (0 < x → J a b ls st w) ∧ (¬ 0 < x → K ls st w)
  | 36 => nl_i1 st fun x st => (x ≤ 0 → J a b ls st w) ∧ (¬ x ≤ 0 → K ls st w)
  | 37 => nl_i2 st fun x y st => (x = y → J a b ls st w) ∧ (¬ x = y → K ls st w)
  | 38 => nl_i2 st fun x y st => (¬ x = y → J a b ls st w) ∧ (x = y → K ls st w)
  | 39 => nl_i2 st fun x y st => (x < y → J a b ls st w) ∧ (¬ x < y → K ls st w)
  | 40 => nl_i2 st fun x y st => (y ≤ x → J a b ls st w) ∧ (¬ y ≤ x → K ls st w)
  | 41 => nl_i2 st fun x y st => (y < x → J a b ls st w) ∧ (¬ y < x → K ls st w)
  | 42 => nl_i2 st fun x y st => (x ≤ y → J a b ls st w) ∧ (¬ x ≤ y → K ls st w)
  | 43 => nl_stR st fun x st => match x with
    | .ref q => nl_gf a b (w.1 q) fun v => K ls (v :: st) w
    | _ => False
  | 44 => nl_i1 st fun x st => nl_stR st fun r st => match r with
    | .ref q => nl_pf a b (w.1 q) (.int x) fun c => K ls st (nl_hs w q c)
    | _ => False
  | 45 => nl_i1 st fun x st => (x = 0 ∨ x = 1) ∧ nl_stR st fun r st => match r with
    | .ref q => nl_pf a b (w.1 q) (.int x) fun c => K ls st (nl_hs w q c)
    | _ => False
  | 46 => nl_stR st fun x st => nl_stR st fun r st => match x, r with
    | .ref y, .ref q => nl_pf a b (w.1 q) (.ref y) fun c => K ls st (nl_hs w q c)
    | _, _ => False
  | 48 => nl_ix st (fun i q st => nl_al 0 (w.1 q) i fun x => K ls (.int x :: st) w) fun i x st => (x = 0 ∨ x = 1) ∧ vp_in i (G.2.1 x).2.1 ∧ K ls (.int ((G.2.1 x).2.2 i.toNatClampNeg) :: st) w
  | 49 => nl_i1 st fun x st => nl_ix st (fun i q st => nl_as 0 (w.1 q) i x fun c => K ls st (nl_hs w q c)) fun _ _ _ => False
  | 50 => nl_ix st (fun i q st => nl_al 1 (w.1 q) i fun x => K ls (.int x :: st) w) fun _ _ _ => False
  | 51 => nl_i1 st fun x st => (x = 0 ∨ x = 1) ∧ nl_ix st (fun i q st => nl_as 1 (w.1 q) i x fun c => K ls st (nl_hs w q c)) fun _ _ _ => False
  | 52 => nl_ix st (fun i q st => nl_rl a (w.1 q) i fun x => K ls (.ref x :: st) w) fun _ _ _ => False
  | 53 => nl_stR st fun x st => match x with
    | .ref y => nl_ix st (fun i q st => nl_io b (w.1 y) ∧ nl_rs a (w.1 q) i y fun c => K ls st (nl_hs w q c)) fun _ _ _ => False
    | _ => False
  | 54 => nl_stR st fun x st => match x with
    | .float x => (x = 0 ∨ x = 1) ∧ K ls (.int (Int32.ofNat (G.2.1 x).2.1) :: st) w
    | _ => False
  | 55 => w.2.1 + 1 ≤ e.1 ∧ w.2.2 + b ≤ e.2 ∧ K ls (.ref w.2.1 :: st) (nl_hn w (nl_new a b) b)
  | 56 => nl_i1 st fun n st => ¬ n < 0 ∧ n.toNatClampNeg ≤ 10000 ∧ w.2.1 + 1 ≤ e.1 ∧ w.2.2 + n.toNatClampNeg ≤ e.2 ∧ K ls (.ref w.2.1 :: st) (nl_hn w (nl_ia n.toNatClampNeg (fun _ => 0)) n.toNatClampNeg)
  | 57 => nl_i1 st fun n st => ¬ n < 0 ∧ n.toNatClampNeg ≤ 10000 ∧ w.2.1 + 1 ≤ e.1 ∧ w.2.2 + n.toNatClampNeg ≤ e.2 ∧ K ls (.ref w.2.1 :: st) (nl_hn w (nl_za n.toNatClampNeg (fun _ => 0)) n.toNatClampNeg)
  | 58 => nl_i1 st fun n st => ¬ n < 0 ∧ n.toNatClampNeg ≤ 10000 ∧ w.2.1 + 1 ≤ e.1 ∧ w.2.2 + n.toNatClampNeg ≤ e.2 ∧ K ls (.ref w.2.1 :: st) (nl_hn w (nl_ra a n.toNatClampNeg (fun _ => none)) n.toNatClampNeg)
  | 59 => nl_stR st fun x st => match x with
    | .ref _ => nl_ok4 st = true ∧ K ls st w
    | _ => False
  | 60 => nl_i2 st fun x y st => nl_ok4 st = true ∧ K ls (.int (if y < x then y else x) :: st) w
  | 61 => nl_i2 st fun x y st => nl_ok4 st = true ∧ K ls (.int (if x < y then y else x) :: st) w
  | 62 => nl_i2 st fun j n st => nl_stR st fun q1 st => nl_i1 st fun i st => nl_stR st fun q0 st => match q0, q1 with
    | .ref a0, .ref a1 => nl_ok4 st = true ∧ nl_cp (w.1 a0) (w.1 a1) i j n fun c => K ls st (nl_hs w a1 c)
    | _, _ => False
  | 63 => nl_i1 st fun x st => st = [] ∧ R (some (.int x)) w
  | 64 => st = [] ∧ R none w
  | 66 => K ls (.float 1 :: st) w
  | 67 => K ls (.float 2 :: st) w
  | _ => False

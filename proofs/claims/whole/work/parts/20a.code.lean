/-! code tables -/
def eb_X9_isRow_0 : List (nl_I × Nat × Nat) := [(ni_ldI 0, 0, 1), (ni_iflt 0 14, 1, 4), (ni_ldI 0, 4, 5), (ni_ic 8, 5, 7), (ni_cmge 0 14, 7, 10), (ni_ic 1, 10, 11), (ni_go 0 15, 11, 14)]
set_option maxRecDepth 100000 in
theorem ev_X9_isRow_0 {G : nl_G} {l : Launch} : nl_OKB G l m_X9_isRow eb_X9_isRow_0 := ⟨no_ldIn (j := 0) (a := 0) (by decide +kernel) rfl, rfl, ⟨no_iflt (off := 13) (by decide +kernel) (by decide), rfl, ⟨no_ldIn (j := 0) (a := 0) (by decide +kernel) rfl, rfl, ⟨no_bip (n := 8) (by decide +kernel) rfl, rfl, ⟨no_cmge (off := 7) (by decide +kernel) (by decide), rfl, ⟨no_ic (n := 1) (by decide +kernel) rfl, rfl, ⟨no_go (off := 4) (by decide +kernel) (by decide), trivial, trivial⟩⟩⟩⟩⟩⟩⟩
def eb_X9_isRow_14 : List (nl_I × Nat × Nat) := [(ni_ic 0, 14, 15), (ni_fall 0 15, 15, 15)]
set_option maxRecDepth 100000 in
theorem ev_X9_isRow_14 {G : nl_G} {l : Launch} : nl_OKB G l m_X9_isRow eb_X9_isRow_14 := ⟨no_ic (n := 0) (by decide +kernel) rfl, rfl, ⟨no_fall, trivial, trivial⟩⟩
def eb_X9_isRow_15 : List (nl_I × Nat × Nat) := [(ni_iret, 15, 16)]
set_option maxRecDepth 100000 in
theorem ev_X9_isRow_15 {G : nl_G} {l : Launch} : nl_OKB G l m_X9_isRow eb_X9_isRow_15 := ⟨no_iret (by decide +kernel), trivial, trivial⟩
def tb_X9_isRow : List (Nat × List (nl_I × Nat × Nat)) := [(0, eb_X9_isRow_0), (14, eb_X9_isRow_14), (15, eb_X9_isRow_15)]
theorem ok_X9_isRow {G : nl_G} {l : Launch} : nl_OKC G l m_X9_isRow (nl_cd tb_X9_isRow) := nl_OKC_of (List.forall_mem_cons.mpr ⟨⟨_, _, rfl, rfl, ev_X9_isRow_0⟩, List.forall_mem_cons.mpr ⟨⟨_, _, rfl, rfl, ev_X9_isRow_14⟩, List.forall_mem_cons.mpr ⟨⟨_, _, rfl, rfl, ev_X9_isRow_15⟩,  fun _ h => absurd h List.not_mem_nil⟩⟩⟩)
theorem cb_X9_isRow_0 : nl_cd tb_X9_isRow 0 = [ni_ldI 0, ni_iflt 0 14, ni_ldI 0, ni_ic 8, ni_cmge 0 14, ni_ic 1, ni_go 0 15] := rfl
theorem cb_X9_isRow_14 : nl_cd tb_X9_isRow 14 = [ni_ic 0, ni_fall 0 15] := rfl
theorem cb_X9_isRow_15 : nl_cd tb_X9_isRow 15 = [ni_iret] := rfl
def eb_X9_isWithin_0 : List (nl_I × Nat × Nat) := [(ni_ldI 0, 0, 1), (ni_iflt 0 13, 1, 4), (ni_ldI 0, 4, 5), (ni_ldI 1, 5, 6), (ni_cmgt 0 13, 6, 9), (ni_ic 1, 9, 10), (ni_go 0 14, 10, 13)]
set_option maxRecDepth 100000 in
theorem ev_X9_isWithin_0 {G : nl_G} {l : Launch} : nl_OKB G l m_X9_isWithin eb_X9_isWithin_0 := ⟨no_ldIn (j := 0) (a := 0) (by decide +kernel) rfl, rfl, ⟨no_iflt (off := 12) (by decide +kernel) (by decide), rfl, ⟨no_ldIn (j := 0) (a := 0) (by decide +kernel) rfl, rfl, ⟨no_ldIn (j := 1) (a := 1) (by decide +kernel) rfl, rfl, ⟨no_cmgt (off := 7) (by decide +kernel) (by decide), rfl, ⟨no_ic (n := 1) (by decide +kernel) rfl, rfl, ⟨no_go (off := 4) (by decide +kernel) (by decide), trivial, trivial⟩⟩⟩⟩⟩⟩⟩
def eb_X9_isWithin_13 : List (nl_I × Nat × Nat) := [(ni_ic 0, 13, 14), (ni_fall 0 14, 14, 14)]
set_option maxRecDepth 100000 in
theorem ev_X9_isWithin_13 {G : nl_G} {l : Launch} : nl_OKB G l m_X9_isWithin eb_X9_isWithin_13 := ⟨no_ic (n := 0) (by decide +kernel) rfl, rfl, ⟨no_fall, trivial, trivial⟩⟩
def eb_X9_isWithin_14 : List (nl_I × Nat × Nat) := [(ni_iret, 14, 15)]
set_option maxRecDepth 100000 in
theorem ev_X9_isWithin_14 {G : nl_G} {l : Launch} : nl_OKB G l m_X9_isWithin eb_X9_isWithin_14 := ⟨no_iret (by decide +kernel), trivial, trivial⟩
def tb_X9_isWithin : List (Nat × List (nl_I × Nat × Nat)) := [(0, eb_X9_isWithin_0), (13, eb_X9_isWithin_13), (14, eb_X9_isWithin_14)]
theorem ok_X9_isWithin {G : nl_G} {l : Launch} : nl_OKC G l m_X9_isWithin (nl_cd tb_X9_isWithin) := nl_OKC_of (List.forall_mem_cons.mpr ⟨⟨_, _, rfl, rfl, ev_X9_isWithin_0⟩, List.forall_mem_cons.mpr ⟨⟨_, _, rfl, rfl, ev_X9_isWithin_13⟩, List.forall_mem_cons.mpr ⟨⟨_, _, rfl, rfl, ev_X9_isWithin_14⟩,  fun _ h => absurd h List.not_mem_nil⟩⟩⟩)
theorem cb_X9_isWithin_0 : nl_cd tb_X9_isWithin 0 = [ni_ldI 0, ni_iflt 0 13, ni_ldI 0, ni_ldI 1, ni_cmgt 0 13, ni_ic 1, ni_go 0 14] := rfl
theorem cb_X9_isWithin_13 : nl_cd tb_X9_isWithin 13 = [ni_ic 0, ni_fall 0 14] := rfl
theorem cb_X9_isWithin_14 : nl_cd tb_X9_isWithin 14 = [ni_iret] := rfl
def eb_X3_divides_0 : List (nl_I × Nat × Nat) := [(ni_ldI 0, 0, 1), (ni_ifeq 0 14, 1, 4), (ni_ldI 1, 4, 5), (ni_ldI 0, 5, 6), (ni_rem, 6, 7), (ni_ifne 0 14, 7, 10), (ni_ic 1, 10, 11), (ni_go 0 15, 11, 14)]
set_option maxRecDepth 100000 in
theorem ev_X3_divides_0 {G : nl_G} {l : Launch} : nl_OKB G l m_X3_divides eb_X3_divides_0 := ⟨no_ldIn (j := 0) (a := 0) (by decide +kernel) rfl, rfl, ⟨no_ifeq (off := 13) (by decide +kernel) (by decide), rfl, ⟨no_ldIn (j := 1) (a := 1) (by decide +kernel) rfl, rfl, ⟨no_ldIn (j := 0) (a := 0) (by decide +kernel) rfl, rfl, ⟨no_rem (by decide +kernel), rfl, ⟨no_ifne (off := 7) (by decide +kernel) (by decide), rfl, ⟨no_ic (n := 1) (by decide +kernel) rfl, rfl, ⟨no_go (off := 4) (by decide +kernel) (by decide), trivial, trivial⟩⟩⟩⟩⟩⟩⟩⟩
def eb_X3_divides_14 : List (nl_I × Nat × Nat) := [(ni_ic 0, 14, 15), (ni_fall 0 15, 15, 15)]
set_option maxRecDepth 100000 in
theorem ev_X3_divides_14 {G : nl_G} {l : Launch} : nl_OKB G l m_X3_divides eb_X3_divides_14 := ⟨no_ic (n := 0) (by decide +kernel) rfl, rfl, ⟨no_fall, trivial, trivial⟩⟩
def eb_X3_divides_15 : List (nl_I × Nat × Nat) := [(ni_iret, 15, 16)]
set_option maxRecDepth 100000 in
theorem ev_X3_divides_15 {G : nl_G} {l : Launch} : nl_OKB G l m_X3_divides eb_X3_divides_15 := ⟨no_iret (by decide +kernel), trivial, trivial⟩
def tb_X3_divides : List (Nat × List (nl_I × Nat × Nat)) := [(0, eb_X3_divides_0), (14, eb_X3_divides_14), (15, eb_X3_divides_15)]
theorem ok_X3_divides {G : nl_G} {l : Launch} : nl_OKC G l m_X3_divides (nl_cd tb_X3_divides) := nl_OKC_of (List.forall_mem_cons.mpr ⟨⟨_, _, rfl, rfl, ev_X3_divides_0⟩, List.forall_mem_cons.mpr ⟨⟨_, _, rfl, rfl, ev_X3_divides_14⟩, List.forall_mem_cons.mpr ⟨⟨_, _, rfl, rfl, ev_X3_divides_15⟩,  fun _ h => absurd h List.not_mem_nil⟩⟩⟩)
theorem cb_X3_divides_0 : nl_cd tb_X3_divides 0 = [ni_ldI 0, ni_ifeq 0 14, ni_ldI 1, ni_ldI 0, ni_rem, ni_ifne 0 14, ni_ic 1, ni_go 0 15] := rfl
theorem cb_X3_divides_14 : nl_cd tb_X3_divides 14 = [ni_ic 0, ni_fall 0 15] := rfl
theorem cb_X3_divides_15 : nl_cd tb_X3_divides 15 = [ni_iret] := rfl
def eb_X1_fewestNoticed_0 : List (nl_I × Nat × Nat) := [(ni_ldI 0, 0, 1), (ni_sw [(4, 28), (5, 30)] 32, 1, 28)]
set_option maxRecDepth 100000 in
theorem ev_X1_fewestNoticed_0 {G : nl_G} {l : Launch} : nl_OKB G l m_X1_fewestNoticed eb_X1_fewestNoticed_0 := ⟨no_ldIn (j := 0) (a := 0) (by decide +kernel) rfl, rfl, ⟨no_lsw (pc := 1) (len := 27) (dflt := 31) (offs := #[(4, 27), (5, 29)]) (by decide +kernel) (by decide +kernel) (by decide +kernel) (by decide), trivial, trivial⟩⟩
def eb_X1_fewestNoticed_28 : List (nl_I × Nat × Nat) := [(ni_ic 1, 28, 29), (ni_iret, 29, 30)]
set_option maxRecDepth 100000 in
theorem ev_X1_fewestNoticed_28 {G : nl_G} {l : Launch} : nl_OKB G l m_X1_fewestNoticed eb_X1_fewestNoticed_28 := ⟨no_ic (n := 1) (by decide +kernel) rfl, rfl, ⟨no_iret (by decide +kernel), trivial, trivial⟩⟩
def eb_X1_fewestNoticed_30 : List (nl_I × Nat × Nat) := [(ni_ic 2, 30, 31), (ni_iret, 31, 32)]
set_option maxRecDepth 100000 in
theorem ev_X1_fewestNoticed_30 {G : nl_G} {l : Launch} : nl_OKB G l m_X1_fewestNoticed eb_X1_fewestNoticed_30 := ⟨no_ic (n := 2) (by decide +kernel) rfl, rfl, ⟨no_iret (by decide +kernel), trivial, trivial⟩⟩
def eb_X1_fewestNoticed_32 : List (nl_I × Nat × Nat) := [(ni_ic 10, 32, 34), (ni_iret, 34, 35)]
set_option maxRecDepth 100000 in
theorem ev_X1_fewestNoticed_32 {G : nl_G} {l : Launch} : nl_OKB G l m_X1_fewestNoticed eb_X1_fewestNoticed_32 := ⟨no_bip (n := 10) (by decide +kernel) rfl, rfl, ⟨no_iret (by decide +kernel), trivial, trivial⟩⟩
def tb_X1_fewestNoticed : List (Nat × List (nl_I × Nat × Nat)) := [(0, eb_X1_fewestNoticed_0), (28, eb_X1_fewestNoticed_28), (30, eb_X1_fewestNoticed_30), (32, eb_X1_fewestNoticed_32)]
theorem ok_X1_fewestNoticed {G : nl_G} {l : Launch} : nl_OKC G l m_X1_fewestNoticed (nl_cd tb_X1_fewestNoticed) := nl_OKC_of (List.forall_mem_cons.mpr ⟨⟨_, _, rfl, rfl, ev_X1_fewestNoticed_0⟩, List.forall_mem_cons.mpr ⟨⟨_, _, rfl, rfl, ev_X1_fewestNoticed_28⟩, List.forall_mem_cons.mpr ⟨⟨_, _, rfl, rfl, ev_X1_fewestNoticed_30⟩, List.forall_mem_cons.mpr ⟨⟨_, _, rfl, rfl, ev_X1_fewestNoticed_32⟩,  fun _ h => absurd h List.not_mem_nil⟩⟩⟩⟩)
theorem cb_X1_fewestNoticed_0 : nl_cd tb_X1_fewestNoticed 0 = [ni_ldI 0, ni_sw [(4, 28), (5, 30)] 32] := rfl
theorem cb_X1_fewestNoticed_28 : nl_cd tb_X1_fewestNoticed 28 = [ni_ic 1, ni_iret] := rfl
theorem cb_X1_fewestNoticed_30 : nl_cd tb_X1_fewestNoticed 30 = [ni_ic 2, ni_iret] := rfl
theorem cb_X1_fewestNoticed_32 : nl_cd tb_X1_fewestNoticed 32 = [ni_ic 10, ni_iret] := rfl
def eb_X3_colourAt_0 : List (nl_I × Nat × Nat) := [(ni_ldI 1, 0, 1), (ni_iflt 0 25, 1, 4), (ni_ldR 0, 4, 5), (ni_get 3 6, 5, 8), (ni_ifle 0 25, 8, 11), (ni_ldR 0, 11, 12), (ni_get 3 8, 12, 15), (ni_ldI 1, 15, 16), (ni_ldR 0, 16, 17), (ni_get 3 6, 17, 20), (ni_rem, 20, 21), (ni_ial, 21, 22), (ni_go 0 27, 22, 25)]
set_option maxRecDepth 100000 in
theorem ev_X3_colourAt_0 {G : nl_G} {l : Launch} : nl_OKB G l m_X3_colourAt eb_X3_colourAt_0 := ⟨no_ldIn (j := 1) (a := 1) (by decide +kernel) rfl, rfl, ⟨no_iflt (off := 24) (by decide +kernel) (by decide), rfl, ⟨no_ldRn (j := 0) (a := 0) (by decide +kernel) rfl, rfl, ⟨no_get (idx := 43) rfl inW3 (by decide) (by decide +kernel) (nl_W_in (i := 141) rfl rfl), rfl, ⟨no_ifle (off := 17) (by decide +kernel) (by decide), rfl, ⟨no_ldRn (j := 0) (a := 0) (by decide +kernel) rfl, rfl, ⟨no_get (idx := 9) rfl inW3 (by decide) (by decide +kernel) (nl_W_in (i := 148) rfl rfl), rfl, ⟨no_ldIn (j := 1) (a := 1) (by decide +kernel) rfl, rfl, ⟨no_ldRn (j := 0) (a := 0) (by decide +kernel) rfl, rfl, ⟨no_get (idx := 43) rfl inW3 (by decide) (by decide +kernel) (nl_W_in (i := 141) rfl rfl), rfl, ⟨no_rem (by decide +kernel), rfl, ⟨no_ial (by decide +kernel), rfl, ⟨no_go (off := 5) (by decide +kernel) (by decide), trivial, trivial⟩⟩⟩⟩⟩⟩⟩⟩⟩⟩⟩⟩⟩
def eb_X3_colourAt_25 : List (nl_I × Nat × Nat) := [(ni_ic (-1000000), 25, 27), (ni_fall 0 27, 27, 27)]
set_option maxRecDepth 100000 in
theorem ev_X3_colourAt_25 {G : nl_G} {l : Launch} : nl_OKB G l m_X3_colourAt eb_X3_colourAt_25 := ⟨no_ldc (i := 55) (by decide +kernel) (nl_W_in (i := 708) rfl rfl), rfl, ⟨no_fall, trivial, trivial⟩⟩
def eb_X3_colourAt_27 : List (nl_I × Nat × Nat) := [(ni_iret, 27, 28)]
set_option maxRecDepth 100000 in
theorem ev_X3_colourAt_27 {G : nl_G} {l : Launch} : nl_OKB G l m_X3_colourAt eb_X3_colourAt_27 := ⟨no_iret (by decide +kernel), trivial, trivial⟩
def tb_X3_colourAt : List (Nat × List (nl_I × Nat × Nat)) := [(0, eb_X3_colourAt_0), (25, eb_X3_colourAt_25), (27, eb_X3_colourAt_27)]
theorem ok_X3_colourAt {G : nl_G} {l : Launch} : nl_OKC G l m_X3_colourAt (nl_cd tb_X3_colourAt) := nl_OKC_of (List.forall_mem_cons.mpr ⟨⟨_, _, rfl, rfl, ev_X3_colourAt_0⟩, List.forall_mem_cons.mpr ⟨⟨_, _, rfl, rfl, ev_X3_colourAt_25⟩, List.forall_mem_cons.mpr ⟨⟨_, _, rfl, rfl, ev_X3_colourAt_27⟩,  fun _ h => absurd h List.not_mem_nil⟩⟩⟩)
theorem cb_X3_colourAt_0 : nl_cd tb_X3_colourAt 0 = [ni_ldI 1, ni_iflt 0 25, ni_ldR 0, ni_get 3 6, ni_ifle 0 25, ni_ldR 0, ni_get 3 8, ni_ldI 1, ni_ldR 0, ni_get 3 6, ni_rem, ni_ial, ni_go 0 27] := rfl
theorem cb_X3_colourAt_25 : nl_cd tb_X3_colourAt 25 = [ni_ic (-1000000), ni_fall 0 27] := rfl
theorem cb_X3_colourAt_27 : nl_cd tb_X3_colourAt 27 = [ni_iret] := rfl
def eb_X1_yarnFor_0 : List (nl_I × Nat × Nat) := [(ni_ldI 1, 0, 1), (ni_ldR 0, 1, 2), (ni_get 1 3, 2, 5), (ni_ldR 0, 5, 6), (ni_get 1 2, 6, 9), (ni_sub, 9, 10), (ni_min, 10, 13), (ni_stI 2, 13, 14), (ni_ldI 1, 14, 15), (ni_ldI 2, 15, 16), (ni_sub, 16, 17), (ni_ldR 0, 17, 18), (ni_get 1 4, 18, 21), (ni_ldI 2, 21, 22), (ni_add, 22, 23), (ni_ic 4, 23, 24), (ni_div, 24, 25), (ni_add, 25, 26), (ni_ldR 0, 26, 27), (ni_get 1 4, 27, 30), (ni_ic 4, 30, 31), (ni_div, 31, 32), (ni_sub, 32, 33), (ni_iret, 33, 34)]
set_option maxRecDepth 100000 in
theorem ev_X1_yarnFor_0 {G : nl_G} {l : Launch} : nl_OKB G l m_X1_yarnFor eb_X1_yarnFor_0 := ⟨no_ldIn (j := 1) (a := 1) (by decide +kernel) rfl, rfl, ⟨no_ldRn (j := 0) (a := 0) (by decide +kernel) rfl, rfl, ⟨no_get (idx := 29) rfl inW1 (by decide) (by decide +kernel) (nl_W_in (i := 206) rfl rfl), rfl, ⟨no_ldRn (j := 0) (a := 0) (by decide +kernel) rfl, rfl, ⟨no_get (idx := 26) rfl inW1 (by decide) (by decide +kernel) (nl_W_in (i := 203) rfl rfl), rfl, ⟨no_sub (by decide +kernel), rfl, ⟨no_min (idx := 53) rfl (by decide +kernel) (nl_W_in (i := 672) rfl rfl) (nl_W_in (i := 591) rfl rfl) (nl_W_in (i := 71) rfl rfl) (nl_W_in (i := 592) rfl rfl), rfl, ⟨no_stIn (j := 2) (a := 2) (by decide +kernel) rfl (by decide), rfl, ⟨no_ldIn (j := 1) (a := 1) (by decide +kernel) rfl, rfl, ⟨no_ldIn (j := 2) (a := 2) (by decide +kernel) rfl, rfl, ⟨no_sub (by decide +kernel), rfl, ⟨no_ldRn (j := 0) (a := 0) (by decide +kernel) rfl, rfl, ⟨no_get (idx := 32) rfl inW1 (by decide) (by decide +kernel) (nl_W_in (i := 208) rfl rfl), rfl, ⟨no_ldIn (j := 2) (a := 2) (by decide +kernel) rfl, rfl, ⟨no_add (by decide +kernel), rfl, ⟨no_ic (n := 4) (by decide +kernel) rfl, rfl, ⟨no_div (by decide +kernel), rfl, ⟨no_add (by decide +kernel), rfl, ⟨no_ldRn (j := 0) (a := 0) (by decide +kernel) rfl, rfl, ⟨no_get (idx := 32) rfl inW1 (by decide) (by decide +kernel) (nl_W_in (i := 208) rfl rfl), rfl, ⟨no_ic (n := 4) (by decide +kernel) rfl, rfl, ⟨no_div (by decide +kernel), rfl, ⟨no_sub (by decide +kernel), rfl, ⟨no_iret (by decide +kernel), trivial, trivial⟩⟩⟩⟩⟩⟩⟩⟩⟩⟩⟩⟩⟩⟩⟩⟩⟩⟩⟩⟩⟩⟩⟩⟩
def tb_X1_yarnFor : List (Nat × List (nl_I × Nat × Nat)) := [(0, eb_X1_yarnFor_0)]
theorem ok_X1_yarnFor {G : nl_G} {l : Launch} : nl_OKC G l m_X1_yarnFor (nl_cd tb_X1_yarnFor) := nl_OKC_of (List.forall_mem_cons.mpr ⟨⟨_, _, rfl, rfl, ev_X1_yarnFor_0⟩,  fun _ h => absurd h List.not_mem_nil⟩)
theorem cb_X1_yarnFor_0 : nl_cd tb_X1_yarnFor 0 = [ni_ldI 1, ni_ldR 0, ni_get 1 3, ni_ldR 0, ni_get 1 2, ni_sub, ni_min, ni_stI 2, ni_ldI 1, ni_ldI 2, ni_sub, ni_ldR 0, ni_get 1 4, ni_ldI 2, ni_add, ni_ic 4, ni_div, ni_add, ni_ldR 0, ni_get 1 4, ni_ic 4, ni_div, ni_sub, ni_iret] := rfl
def eb_X1_knows_0 : List (nl_I × Nat × Nat) := [(ni_ldR 0, 0, 1), (ni_get 1 8, 1, 4), (ni_ldI 2, 4, 5), (ni_ial, 5, 6), (ni_ldR 1, 6, 7), (ni_get 3 11, 7, 10), (ni_ldI 2, 10, 11), (ni_ial, 11, 12), (ni_cmlt 0 19, 12, 15), (ni_ic 1, 15, 16), (ni_go 0 20, 16, 19)]
set_option maxRecDepth 100000 in
theorem ev_X1_knows_0 {G : nl_G} {l : Launch} : nl_OKB G l m_X1_knows eb_X1_knows_0 := ⟨no_ldRn (j := 0) (a := 0) (by decide +kernel) rfl, rfl, ⟨no_get (idx := 9) rfl inW1 (by decide) (by decide +kernel) (nl_W_in (i := 217) rfl rfl), rfl, ⟨no_ldIn (j := 2) (a := 2) (by decide +kernel) rfl, rfl, ⟨no_ial (by decide +kernel), rfl, ⟨no_ldRn (j := 1) (a := 1) (by decide +kernel) rfl, rfl, ⟨no_getN (idx := 92) rfl inW3 (by decide) (by decide +kernel) (nl_N_in (i := 161) rfl rfl), rfl, ⟨no_ldIn (j := 2) (a := 2) (by decide +kernel) rfl, rfl, ⟨no_ial (by decide +kernel), rfl, ⟨no_cmlt (off := 7) (by decide +kernel) (by decide), rfl, ⟨no_ic (n := 1) (by decide +kernel) rfl, rfl, ⟨no_go (off := 4) (by decide +kernel) (by decide), trivial, trivial⟩⟩⟩⟩⟩⟩⟩⟩⟩⟩⟩
def eb_X1_knows_19 : List (nl_I × Nat × Nat) := [(ni_ic 0, 19, 20), (ni_fall 0 20, 20, 20)]
set_option maxRecDepth 100000 in
theorem ev_X1_knows_19 {G : nl_G} {l : Launch} : nl_OKB G l m_X1_knows eb_X1_knows_19 := ⟨no_ic (n := 0) (by decide +kernel) rfl, rfl, ⟨no_fall, trivial, trivial⟩⟩
def eb_X1_knows_20 : List (nl_I × Nat × Nat) := [(ni_iret, 20, 21)]
set_option maxRecDepth 100000 in
theorem ev_X1_knows_20 {G : nl_G} {l : Launch} : nl_OKB G l m_X1_knows eb_X1_knows_20 := ⟨no_iret (by decide +kernel), trivial, trivial⟩
def tb_X1_knows : List (Nat × List (nl_I × Nat × Nat)) := [(0, eb_X1_knows_0), (19, eb_X1_knows_19), (20, eb_X1_knows_20)]
theorem ok_X1_knows {G : nl_G} {l : Launch} : nl_OKC G l m_X1_knows (nl_cd tb_X1_knows) := nl_OKC_of (List.forall_mem_cons.mpr ⟨⟨_, _, rfl, rfl, ev_X1_knows_0⟩, List.forall_mem_cons.mpr ⟨⟨_, _, rfl, rfl, ev_X1_knows_19⟩, List.forall_mem_cons.mpr ⟨⟨_, _, rfl, rfl, ev_X1_knows_20⟩,  fun _ h => absurd h List.not_mem_nil⟩⟩⟩)
theorem cb_X1_knows_0 : nl_cd tb_X1_knows 0 = [ni_ldR 0, ni_get 1 8, ni_ldI 2, ni_ial, ni_ldR 1, ni_get 3 11, ni_ldI 2, ni_ial, ni_cmlt 0 19, ni_ic 1, ni_go 0 20] := rfl
theorem cb_X1_knows_19 : nl_cd tb_X1_knows 19 = [ni_ic 0, ni_fall 0 20] := rfl
theorem cb_X1_knows_20 : nl_cd tb_X1_knows 20 = [ni_iret] := rfl
def eb_X6_hasStretch_0 : List (nl_I × Nat × Nat) := [(ni_ldI 1, 0, 1), (ni_iflt 0 22, 1, 4), (ni_ldI 2, 4, 5), (ni_iflt 0 22, 5, 8), (ni_ldI 1, 8, 9), (ni_ldR 0, 9, 10), (ni_get 6 3, 10, 13), (ni_ldI 2, 13, 14), (ni_sub, 14, 15), (ni_cmgt 0 22, 15, 18), (ni_ic 1, 18, 19), (ni_go 0 23, 19, 22)]
set_option maxRecDepth 100000 in
theorem ev_X6_hasStretch_0 {G : nl_G} {l : Launch} : nl_OKB G l m_X6_hasStretch eb_X6_hasStretch_0 := ⟨no_ldIn (j := 1) (a := 1) (by decide +kernel) rfl, rfl, ⟨no_iflt (off := 21) (by decide +kernel) (by decide), rfl, ⟨no_ldIn (j := 2) (a := 2) (by decide +kernel) rfl, rfl, ⟨no_iflt (off := 17) (by decide +kernel) (by decide), rfl, ⟨no_ldIn (j := 1) (a := 1) (by decide +kernel) rfl, rfl, ⟨no_ldRn (j := 0) (a := 0) (by decide +kernel) rfl, rfl, ⟨no_get (idx := 23) rfl inW6 (by decide) (by decide +kernel) (nl_W_in (i := 390) rfl rfl), rfl, ⟨no_ldIn (j := 2) (a := 2) (by decide +kernel) rfl, rfl, ⟨no_sub (by decide +kernel), rfl, ⟨no_cmgt (off := 7) (by decide +kernel) (by decide), rfl, ⟨no_ic (n := 1) (by decide +kernel) rfl, rfl, ⟨no_go (off := 4) (by decide +kernel) (by decide), trivial, trivial⟩⟩⟩⟩⟩⟩⟩⟩⟩⟩⟩⟩
def eb_X6_hasStretch_22 : List (nl_I × Nat × Nat) := [(ni_ic 0, 22, 23), (ni_fall 0 23, 23, 23)]
set_option maxRecDepth 100000 in
theorem ev_X6_hasStretch_22 {G : nl_G} {l : Launch} : nl_OKB G l m_X6_hasStretch eb_X6_hasStretch_22 := ⟨no_ic (n := 0) (by decide +kernel) rfl, rfl, ⟨no_fall, trivial, trivial⟩⟩
def eb_X6_hasStretch_23 : List (nl_I × Nat × Nat) := [(ni_iret, 23, 24)]
set_option maxRecDepth 100000 in
theorem ev_X6_hasStretch_23 {G : nl_G} {l : Launch} : nl_OKB G l m_X6_hasStretch eb_X6_hasStretch_23 := ⟨no_iret (by decide +kernel), trivial, trivial⟩
def tb_X6_hasStretch : List (Nat × List (nl_I × Nat × Nat)) := [(0, eb_X6_hasStretch_0), (22, eb_X6_hasStretch_22), (23, eb_X6_hasStretch_23)]
theorem ok_X6_hasStretch {G : nl_G} {l : Launch} : nl_OKC G l m_X6_hasStretch (nl_cd tb_X6_hasStretch) := nl_OKC_of (List.forall_mem_cons.mpr ⟨⟨_, _, rfl, rfl, ev_X6_hasStretch_0⟩, List.forall_mem_cons.mpr ⟨⟨_, _, rfl, rfl, ev_X6_hasStretch_22⟩, List.forall_mem_cons.mpr ⟨⟨_, _, rfl, rfl, ev_X6_hasStretch_23⟩,  fun _ h => absurd h List.not_mem_nil⟩⟩⟩)
theorem cb_X6_hasStretch_0 : nl_cd tb_X6_hasStretch 0 = [ni_ldI 1, ni_iflt 0 22, ni_ldI 2, ni_iflt 0 22, ni_ldI 1, ni_ldR 0, ni_get 6 3, ni_ldI 2, ni_sub, ni_cmgt 0 22, ni_ic 1, ni_go 0 23] := rfl
theorem cb_X6_hasStretch_22 : nl_cd tb_X6_hasStretch 22 = [ni_ic 0, ni_fall 0 23] := rfl
theorem cb_X6_hasStretch_23 : nl_cd tb_X6_hasStretch 23 = [ni_iret] := rfl
def eb_X5_isFigure_0 : List (nl_I × Nat × Nat) := [(ni_ldI 1, 0, 1), (ni_ldR 0, 1, 2), (ni_get 5 1, 2, 5), (ni_cmge 0 34, 5, 8), (ni_ldR 0, 8, 9), (ni_get 5 0, 9, 12), (ni_ldI 1, 12, 13), (ni_ial, 13, 14), (ni_ic 48, 14, 16), (ni_cmlt 0 34, 16, 19), (ni_ldR 0, 19, 20), (ni_get 5 0, 20, 23), (ni_ldI 1, 23, 24), (ni_ial, 24, 25), (ni_ic 57, 25, 27), (ni_cmgt 0 34, 27, 30), (ni_ic 1, 30, 31), (ni_go 0 35, 31, 34)]
set_option maxRecDepth 100000 in
theorem ev_X5_isFigure_0 {G : nl_G} {l : Launch} : nl_OKB G l m_X5_isFigure eb_X5_isFigure_0 := ⟨no_ldIn (j := 1) (a := 1) (by decide +kernel) rfl, rfl, ⟨no_ldRn (j := 0) (a := 0) (by decide +kernel) rfl, rfl, ⟨no_get (idx := 15) rfl inW5 (by decide) (by decide +kernel) (nl_W_in (i := 92) rfl rfl), rfl, ⟨no_cmge (off := 29) (by decide +kernel) (by decide), rfl, ⟨no_ldRn (j := 0) (a := 0) (by decide +kernel) rfl, rfl, ⟨no_get (idx := 9) rfl inW5 (by decide) (by decide +kernel) (nl_W_in (i := 91) rfl rfl), rfl, ⟨no_ldIn (j := 1) (a := 1) (by decide +kernel) rfl, rfl, ⟨no_ial (by decide +kernel), rfl, ⟨no_bip (n := 48) (by decide +kernel) rfl, rfl, ⟨no_cmlt (off := 18) (by decide +kernel) (by decide), rfl, ⟨no_ldRn (j := 0) (a := 0) (by decide +kernel) rfl, rfl, ⟨no_get (idx := 9) rfl inW5 (by decide) (by decide +kernel) (nl_W_in (i := 91) rfl rfl), rfl, ⟨no_ldIn (j := 1) (a := 1) (by decide +kernel) rfl, rfl, ⟨no_ial (by decide +kernel), rfl, ⟨no_bip (n := 57) (by decide +kernel) rfl, rfl, ⟨no_cmgt (off := 7) (by decide +kernel) (by decide), rfl, ⟨no_ic (n := 1) (by decide +kernel) rfl, rfl, ⟨no_go (off := 4) (by decide +kernel) (by decide), trivial, trivial⟩⟩⟩⟩⟩⟩⟩⟩⟩⟩⟩⟩⟩⟩⟩⟩⟩⟩
def eb_X5_isFigure_34 : List (nl_I × Nat × Nat) := [(ni_ic 0, 34, 35), (ni_fall 0 35, 35, 35)]
set_option maxRecDepth 100000 in
theorem ev_X5_isFigure_34 {G : nl_G} {l : Launch} : nl_OKB G l m_X5_isFigure eb_X5_isFigure_34 := ⟨no_ic (n := 0) (by decide +kernel) rfl, rfl, ⟨no_fall, trivial, trivial⟩⟩
def eb_X5_isFigure_35 : List (nl_I × Nat × Nat) := [(ni_iret, 35, 36)]
set_option maxRecDepth 100000 in
theorem ev_X5_isFigure_35 {G : nl_G} {l : Launch} : nl_OKB G l m_X5_isFigure eb_X5_isFigure_35 := ⟨no_iret (by decide +kernel), trivial, trivial⟩
def tb_X5_isFigure : List (Nat × List (nl_I × Nat × Nat)) := [(0, eb_X5_isFigure_0), (34, eb_X5_isFigure_34), (35, eb_X5_isFigure_35)]
theorem ok_X5_isFigure {G : nl_G} {l : Launch} : nl_OKC G l m_X5_isFigure (nl_cd tb_X5_isFigure) := nl_OKC_of (List.forall_mem_cons.mpr ⟨⟨_, _, rfl, rfl, ev_X5_isFigure_0⟩, List.forall_mem_cons.mpr ⟨⟨_, _, rfl, rfl, ev_X5_isFigure_34⟩, List.forall_mem_cons.mpr ⟨⟨_, _, rfl, rfl, ev_X5_isFigure_35⟩,  fun _ h => absurd h List.not_mem_nil⟩⟩⟩)
theorem cb_X5_isFigure_0 : nl_cd tb_X5_isFigure 0 = [ni_ldI 1, ni_ldR 0, ni_get 5 1, ni_cmge 0 34, ni_ldR 0, ni_get 5 0, ni_ldI 1, ni_ial, ni_ic 48, ni_cmlt 0 34, ni_ldR 0, ni_get 5 0, ni_ldI 1, ni_ial, ni_ic 57, ni_cmgt 0 34, ni_ic 1, ni_go 0 35] := rfl
theorem cb_X5_isFigure_34 : nl_cd tb_X5_isFigure 34 = [ni_ic 0, ni_fall 0 35] := rfl
theorem cb_X5_isFigure_35 : nl_cd tb_X5_isFigure 35 = [ni_iret] := rfl
def eb_X10_in_0 : List (nl_I × Nat × Nat) := [(ni_ldL 0, 0, 1), (ni_ldL 2, 1, 2), (ni_lcmp, 2, 3), (ni_iflt 0 17, 3, 6), (ni_ldL 0, 6, 7), (ni_ldL 4, 7, 9), (ni_lcmp, 9, 10), (ni_ifgt 0 17, 10, 13), (ni_ic 1, 13, 14), (ni_go 0 18, 14, 17)]
set_option maxRecDepth 100000 in
theorem ev_X10_in_0 {G : nl_G} {l : Launch} : nl_OKB G l m_X10_in eb_X10_in_0 := ⟨no_ldLn (j := 0) (a := 0) (by decide +kernel) rfl, rfl, ⟨no_ldLn (j := 2) (a := 2) (by decide +kernel) rfl, rfl, ⟨no_lcmp (by decide +kernel), rfl, ⟨no_iflt (off := 14) (by decide +kernel) (by decide), rfl, ⟨no_ldLn (j := 0) (a := 0) (by decide +kernel) rfl, rfl, ⟨no_ldL (a := 4) (by decide +kernel), rfl, ⟨no_lcmp (by decide +kernel), rfl, ⟨no_ifgt (off := 7) (by decide +kernel) (by decide), rfl, ⟨no_ic (n := 1) (by decide +kernel) rfl, rfl, ⟨no_go (off := 4) (by decide +kernel) (by decide), trivial, trivial⟩⟩⟩⟩⟩⟩⟩⟩⟩⟩
def eb_X10_in_17 : List (nl_I × Nat × Nat) := [(ni_ic 0, 17, 18), (ni_fall 0 18, 18, 18)]
set_option maxRecDepth 100000 in
theorem ev_X10_in_17 {G : nl_G} {l : Launch} : nl_OKB G l m_X10_in eb_X10_in_17 := ⟨no_ic (n := 0) (by decide +kernel) rfl, rfl, ⟨no_fall, trivial, trivial⟩⟩
def eb_X10_in_18 : List (nl_I × Nat × Nat) := [(ni_iret, 18, 19)]
set_option maxRecDepth 100000 in
theorem ev_X10_in_18 {G : nl_G} {l : Launch} : nl_OKB G l m_X10_in eb_X10_in_18 := ⟨no_iret (by decide +kernel), trivial, trivial⟩
def tb_X10_in : List (Nat × List (nl_I × Nat × Nat)) := [(0, eb_X10_in_0), (17, eb_X10_in_17), (18, eb_X10_in_18)]
theorem ok_X10_in {G : nl_G} {l : Launch} : nl_OKC G l m_X10_in (nl_cd tb_X10_in) := nl_OKC_of (List.forall_mem_cons.mpr ⟨⟨_, _, rfl, rfl, ev_X10_in_0⟩, List.forall_mem_cons.mpr ⟨⟨_, _, rfl, rfl, ev_X10_in_17⟩, List.forall_mem_cons.mpr ⟨⟨_, _, rfl, rfl, ev_X10_in_18⟩,  fun _ h => absurd h List.not_mem_nil⟩⟩⟩)
theorem cb_X10_in_0 : nl_cd tb_X10_in 0 = [ni_ldL 0, ni_ldL 2, ni_lcmp, ni_iflt 0 17, ni_ldL 0, ni_ldL 4, ni_lcmp, ni_ifgt 0 17, ni_ic 1, ni_go 0 18] := rfl
theorem cb_X10_in_17 : nl_cd tb_X10_in 17 = [ni_ic 0, ni_fall 0 18] := rfl
theorem cb_X10_in_18 : nl_cd tb_X10_in 18 = [ni_iret] := rfl
def eb_X10_sortOf_0 : List (nl_I × Nat × Nat) := [(ni_ldI 0, 0, 1), (ni_ic 107, 1, 3), (ni_cmne 0 10, 3, 6), (ni_ic 1, 6, 7), (ni_go 0 51, 7, 10)]
set_option maxRecDepth 100000 in
theorem ev_X10_sortOf_0 {G : nl_G} {l : Launch} : nl_OKB G l m_X10_sortOf eb_X10_sortOf_0 := ⟨no_ldIn (j := 0) (a := 0) (by decide +kernel) rfl, rfl, ⟨no_bip (n := 107) (by decide +kernel) rfl, rfl, ⟨no_cmne (off := 7) (by decide +kernel) (by decide), rfl, ⟨no_ic (n := 1) (by decide +kernel) rfl, rfl, ⟨no_go (off := 44) (by decide +kernel) (by decide), trivial, trivial⟩⟩⟩⟩⟩
def eb_X10_sortOf_10 : List (nl_I × Nat × Nat) := [(ni_ldI 0, 10, 11), (ni_ic 112, 11, 13), (ni_cmne 0 20, 13, 16), (ni_ic 2, 16, 17), (ni_go 0 51, 17, 20)]
set_option maxRecDepth 100000 in
theorem ev_X10_sortOf_10 {G : nl_G} {l : Launch} : nl_OKB G l m_X10_sortOf eb_X10_sortOf_10 := ⟨no_ldIn (j := 0) (a := 0) (by decide +kernel) rfl, rfl, ⟨no_bip (n := 112) (by decide +kernel) rfl, rfl, ⟨no_cmne (off := 7) (by decide +kernel) (by decide), rfl, ⟨no_ic (n := 2) (by decide +kernel) rfl, rfl, ⟨no_go (off := 34) (by decide +kernel) (by decide), trivial, trivial⟩⟩⟩⟩⟩
def eb_X10_sortOf_20 : List (nl_I × Nat × Nat) := [(ni_ldI 0, 20, 21), (ni_ic 119, 21, 23), (ni_cmne 0 30, 23, 26), (ni_ic 3, 26, 27), (ni_go 0 51, 27, 30)]
set_option maxRecDepth 100000 in
theorem ev_X10_sortOf_20 {G : nl_G} {l : Launch} : nl_OKB G l m_X10_sortOf eb_X10_sortOf_20 := ⟨no_ldIn (j := 0) (a := 0) (by decide +kernel) rfl, rfl, ⟨no_bip (n := 119) (by decide +kernel) rfl, rfl, ⟨no_cmne (off := 7) (by decide +kernel) (by decide), rfl, ⟨no_ic (n := 3) (by decide +kernel) rfl, rfl, ⟨no_go (off := 24) (by decide +kernel) (by decide), trivial, trivial⟩⟩⟩⟩⟩
def eb_X10_sortOf_30 : List (nl_I × Nat × Nat) := [(ni_ldI 0, 30, 31), (ni_ic 110, 31, 33), (ni_cmne 0 40, 33, 36), (ni_ic 4, 36, 37), (ni_go 0 51, 37, 40)]
set_option maxRecDepth 100000 in
theorem ev_X10_sortOf_30 {G : nl_G} {l : Launch} : nl_OKB G l m_X10_sortOf eb_X10_sortOf_30 := ⟨no_ldIn (j := 0) (a := 0) (by decide +kernel) rfl, rfl, ⟨no_bip (n := 110) (by decide +kernel) rfl, rfl, ⟨no_cmne (off := 7) (by decide +kernel) (by decide), rfl, ⟨no_ic (n := 4) (by decide +kernel) rfl, rfl, ⟨no_go (off := 14) (by decide +kernel) (by decide), trivial, trivial⟩⟩⟩⟩⟩
def eb_X10_sortOf_40 : List (nl_I × Nat × Nat) := [(ni_ldI 0, 40, 41), (ni_ic 109, 41, 43), (ni_cmne 0 50, 43, 46), (ni_ic 5, 46, 47), (ni_go 0 51, 47, 50)]
set_option maxRecDepth 100000 in
theorem ev_X10_sortOf_40 {G : nl_G} {l : Launch} : nl_OKB G l m_X10_sortOf eb_X10_sortOf_40 := ⟨no_ldIn (j := 0) (a := 0) (by decide +kernel) rfl, rfl, ⟨no_bip (n := 109) (by decide +kernel) rfl, rfl, ⟨no_cmne (off := 7) (by decide +kernel) (by decide), rfl, ⟨no_ic (n := 5) (by decide +kernel) rfl, rfl, ⟨no_go (off := 4) (by decide +kernel) (by decide), trivial, trivial⟩⟩⟩⟩⟩
def eb_X10_sortOf_50 : List (nl_I × Nat × Nat) := [(ni_ic 0, 50, 51), (ni_fall 0 51, 51, 51)]
set_option maxRecDepth 100000 in
theorem ev_X10_sortOf_50 {G : nl_G} {l : Launch} : nl_OKB G l m_X10_sortOf eb_X10_sortOf_50 := ⟨no_ic (n := 0) (by decide +kernel) rfl, rfl, ⟨no_fall, trivial, trivial⟩⟩
def eb_X10_sortOf_51 : List (nl_I × Nat × Nat) := [(ni_iret, 51, 52)]
set_option maxRecDepth 100000 in
theorem ev_X10_sortOf_51 {G : nl_G} {l : Launch} : nl_OKB G l m_X10_sortOf eb_X10_sortOf_51 := ⟨no_iret (by decide +kernel), trivial, trivial⟩
def tb_X10_sortOf : List (Nat × List (nl_I × Nat × Nat)) := [(0, eb_X10_sortOf_0), (10, eb_X10_sortOf_10), (20, eb_X10_sortOf_20), (30, eb_X10_sortOf_30), (40, eb_X10_sortOf_40), (50, eb_X10_sortOf_50), (51, eb_X10_sortOf_51)]
theorem ok_X10_sortOf {G : nl_G} {l : Launch} : nl_OKC G l m_X10_sortOf (nl_cd tb_X10_sortOf) := nl_OKC_of (List.forall_mem_cons.mpr ⟨⟨_, _, rfl, rfl, ev_X10_sortOf_0⟩, List.forall_mem_cons.mpr ⟨⟨_, _, rfl, rfl, ev_X10_sortOf_10⟩, List.forall_mem_cons.mpr ⟨⟨_, _, rfl, rfl, ev_X10_sortOf_20⟩, List.forall_mem_cons.mpr ⟨⟨_, _, rfl, rfl, ev_X10_sortOf_30⟩, List.forall_mem_cons.mpr ⟨⟨_, _, rfl, rfl, ev_X10_sortOf_40⟩, List.forall_mem_cons.mpr ⟨⟨_, _, rfl, rfl, ev_X10_sortOf_50⟩, List.forall_mem_cons.mpr ⟨⟨_, _, rfl, rfl, ev_X10_sortOf_51⟩,  fun _ h => absurd h List.not_mem_nil⟩⟩⟩⟩⟩⟩⟩)
theorem cb_X10_sortOf_0 : nl_cd tb_X10_sortOf 0 = [ni_ldI 0, ni_ic 107, ni_cmne 0 10, ni_ic 1, ni_go 0 51] := rfl
theorem cb_X10_sortOf_10 : nl_cd tb_X10_sortOf 10 = [ni_ldI 0, ni_ic 112, ni_cmne 0 20, ni_ic 2, ni_go 0 51] := rfl
theorem cb_X10_sortOf_20 : nl_cd tb_X10_sortOf 20 = [ni_ldI 0, ni_ic 119, ni_cmne 0 30, ni_ic 3, ni_go 0 51] := rfl
theorem cb_X10_sortOf_30 : nl_cd tb_X10_sortOf 30 = [ni_ldI 0, ni_ic 110, ni_cmne 0 40, ni_ic 4, ni_go 0 51] := rfl
theorem cb_X10_sortOf_40 : nl_cd tb_X10_sortOf 40 = [ni_ldI 0, ni_ic 109, ni_cmne 0 50, ni_ic 5, ni_go 0 51] := rfl
theorem cb_X10_sortOf_50 : nl_cd tb_X10_sortOf 50 = [ni_ic 0, ni_fall 0 51] := rfl
theorem cb_X10_sortOf_51 : nl_cd tb_X10_sortOf 51 = [ni_iret] := rfl
def eb_X10_colourAt_0 : List (nl_I × Nat × Nat) := [(ni_ldR 0, 0, 1), (ni_ic 15, 1, 3), (ni_ldI 1, 3, 4), (ni_ldR 0, 4, 5), (ni_ic 6, 5, 7), (ni_ial, 7, 8), (ni_rem, 8, 9), (ni_add, 9, 10), (ni_ial, 10, 11), (ni_iret, 11, 12)]
set_option maxRecDepth 100000 in
theorem ev_X10_colourAt_0 {G : nl_G} {l : Launch} : nl_OKB G l m_X10_colourAt eb_X10_colourAt_0 := ⟨no_ldRn (j := 0) (a := 0) (by decide +kernel) rfl, rfl, ⟨no_bip (n := 15) (by decide +kernel) rfl, rfl, ⟨no_ldIn (j := 1) (a := 1) (by decide +kernel) rfl, rfl, ⟨no_ldRn (j := 0) (a := 0) (by decide +kernel) rfl, rfl, ⟨no_bip (n := 6) (by decide +kernel) rfl, rfl, ⟨no_ial (by decide +kernel), rfl, ⟨no_rem (by decide +kernel), rfl, ⟨no_add (by decide +kernel), rfl, ⟨no_ial (by decide +kernel), rfl, ⟨no_iret (by decide +kernel), trivial, trivial⟩⟩⟩⟩⟩⟩⟩⟩⟩⟩
def tb_X10_colourAt : List (Nat × List (nl_I × Nat × Nat)) := [(0, eb_X10_colourAt_0)]
theorem ok_X10_colourAt {G : nl_G} {l : Launch} : nl_OKC G l m_X10_colourAt (nl_cd tb_X10_colourAt) := nl_OKC_of (List.forall_mem_cons.mpr ⟨⟨_, _, rfl, rfl, ev_X10_colourAt_0⟩,  fun _ h => absurd h List.not_mem_nil⟩)
theorem cb_X10_colourAt_0 : nl_cd tb_X10_colourAt 0 = [ni_ldR 0, ni_ic 15, ni_ldI 1, ni_ldR 0, ni_ic 6, ni_ial, ni_rem, ni_add, ni_ial, ni_iret] := rfl
def eb_X10_yarn_0 : List (nl_I × Nat × Nat) := [(ni_ldR 0, 0, 1), (ni_ic 1, 1, 2), (ni_ial, 2, 3), (ni_ldR 0, 3, 4), (ni_ic 11, 4, 6), (ni_ial, 6, 7), (ni_sub, 7, 8), (ni_ldR 0, 8, 9), (ni_ic 12, 9, 11), (ni_ial, 11, 12), (ni_ic 4, 12, 13), (ni_div, 13, 14), (ni_sub, 14, 15), (ni_iret, 15, 16)]
set_option maxRecDepth 100000 in
theorem ev_X10_yarn_0 {G : nl_G} {l : Launch} : nl_OKB G l m_X10_yarn eb_X10_yarn_0 := ⟨no_ldRn (j := 0) (a := 0) (by decide +kernel) rfl, rfl, ⟨no_ic (n := 1) (by decide +kernel) rfl, rfl, ⟨no_ial (by decide +kernel), rfl, ⟨no_ldRn (j := 0) (a := 0) (by decide +kernel) rfl, rfl, ⟨no_bip (n := 11) (by decide +kernel) rfl, rfl, ⟨no_ial (by decide +kernel), rfl, ⟨no_sub (by decide +kernel), rfl, ⟨no_ldRn (j := 0) (a := 0) (by decide +kernel) rfl, rfl, ⟨no_bip (n := 12) (by decide +kernel) rfl, rfl, ⟨no_ial (by decide +kernel), rfl, ⟨no_ic (n := 4) (by decide +kernel) rfl, rfl, ⟨no_div (by decide +kernel), rfl, ⟨no_sub (by decide +kernel), rfl, ⟨no_iret (by decide +kernel), trivial, trivial⟩⟩⟩⟩⟩⟩⟩⟩⟩⟩⟩⟩⟩⟩
def tb_X10_yarn : List (Nat × List (nl_I × Nat × Nat)) := [(0, eb_X10_yarn_0)]
theorem ok_X10_yarn {G : nl_G} {l : Launch} : nl_OKC G l m_X10_yarn (nl_cd tb_X10_yarn) := nl_OKC_of (List.forall_mem_cons.mpr ⟨⟨_, _, rfl, rfl, ev_X10_yarn_0⟩,  fun _ h => absurd h List.not_mem_nil⟩)
theorem cb_X10_yarn_0 : nl_cd tb_X10_yarn 0 = [ni_ldR 0, ni_ic 1, ni_ial, ni_ldR 0, ni_ic 11, ni_ial, ni_sub, ni_ldR 0, ni_ic 12, ni_ial, ni_ic 4, ni_div, ni_sub, ni_iret] := rfl
def eb_X10_wants_0 : List (nl_I × Nat × Nat) := [(ni_ldR 0, 0, 1), (ni_ic 10, 1, 3), (ni_ial, 3, 4), (ni_ldI 1, 4, 5), (ni_add, 5, 6), (ni_ldR 0, 6, 7), (ni_ic 11, 7, 9), (ni_ial, 9, 10), (ni_sub, 10, 11), (ni_stI 2, 11, 12), (ni_ldI 2, 12, 13), (ni_ifle 0 20, 13, 16), (ni_ldI 2, 16, 17), (ni_go 0 21, 17, 20)]
set_option maxRecDepth 100000 in
theorem ev_X10_wants_0 {G : nl_G} {l : Launch} : nl_OKB G l m_X10_wants eb_X10_wants_0 := ⟨no_ldRn (j := 0) (a := 0) (by decide +kernel) rfl, rfl, ⟨no_bip (n := 10) (by decide +kernel) rfl, rfl, ⟨no_ial (by decide +kernel), rfl, ⟨no_ldIn (j := 1) (a := 1) (by decide +kernel) rfl, rfl, ⟨no_add (by decide +kernel), rfl, ⟨no_ldRn (j := 0) (a := 0) (by decide +kernel) rfl, rfl, ⟨no_bip (n := 11) (by decide +kernel) rfl, rfl, ⟨no_ial (by decide +kernel), rfl, ⟨no_sub (by decide +kernel), rfl, ⟨no_stIn (j := 2) (a := 2) (by decide +kernel) rfl (by decide), rfl, ⟨no_ldIn (j := 2) (a := 2) (by decide +kernel) rfl, rfl, ⟨no_ifle (off := 7) (by decide +kernel) (by decide), rfl, ⟨no_ldIn (j := 2) (a := 2) (by decide +kernel) rfl, rfl, ⟨no_go (off := 4) (by decide +kernel) (by decide), trivial, trivial⟩⟩⟩⟩⟩⟩⟩⟩⟩⟩⟩⟩⟩⟩
def eb_X10_wants_20 : List (nl_I × Nat × Nat) := [(ni_ic 0, 20, 21), (ni_fall 0 21, 21, 21)]
set_option maxRecDepth 100000 in
theorem ev_X10_wants_20 {G : nl_G} {l : Launch} : nl_OKB G l m_X10_wants eb_X10_wants_20 := ⟨no_ic (n := 0) (by decide +kernel) rfl, rfl, ⟨no_fall, trivial, trivial⟩⟩
def eb_X10_wants_21 : List (nl_I × Nat × Nat) := [(ni_stI 3, 21, 22), (ni_ldR 0, 22, 23), (ni_ic 12, 23, 25), (ni_ial, 25, 26), (ni_ldI 1, 26, 27), (ni_add, 27, 28), (ni_ldI 3, 28, 29), (ni_sub, 29, 30), (ni_stI 4, 30, 32), (ni_ldI 3, 32, 33), (ni_ldI 4, 33, 35), (ni_ic 4, 35, 36), (ni_div, 36, 37), (ni_add, 37, 38), (ni_ldR 0, 38, 39), (ni_ic 12, 39, 41), (ni_ial, 41, 42), (ni_ic 4, 42, 43), (ni_div, 43, 44), (ni_sub, 44, 45), (ni_iret, 45, 46)]
set_option maxRecDepth 100000 in
theorem ev_X10_wants_21 {G : nl_G} {l : Launch} : nl_OKB G l m_X10_wants eb_X10_wants_21 := ⟨no_stIn (j := 3) (a := 3) (by decide +kernel) rfl (by decide), rfl, ⟨no_ldRn (j := 0) (a := 0) (by decide +kernel) rfl, rfl, ⟨no_bip (n := 12) (by decide +kernel) rfl, rfl, ⟨no_ial (by decide +kernel), rfl, ⟨no_ldIn (j := 1) (a := 1) (by decide +kernel) rfl, rfl, ⟨no_add (by decide +kernel), rfl, ⟨no_ldIn (j := 3) (a := 3) (by decide +kernel) rfl, rfl, ⟨no_sub (by decide +kernel), rfl, ⟨no_stI (a := 4) (by decide +kernel) (by decide), rfl, ⟨no_ldIn (j := 3) (a := 3) (by decide +kernel) rfl, rfl, ⟨no_ldI (a := 4) (by decide +kernel), rfl, ⟨no_ic (n := 4) (by decide +kernel) rfl, rfl, ⟨no_div (by decide +kernel), rfl, ⟨no_add (by decide +kernel), rfl, ⟨no_ldRn (j := 0) (a := 0) (by decide +kernel) rfl, rfl, ⟨no_bip (n := 12) (by decide +kernel) rfl, rfl, ⟨no_ial (by decide +kernel), rfl, ⟨no_ic (n := 4) (by decide +kernel) rfl, rfl, ⟨no_div (by decide +kernel), rfl, ⟨no_sub (by decide +kernel), rfl, ⟨no_iret (by decide +kernel), trivial, trivial⟩⟩⟩⟩⟩⟩⟩⟩⟩⟩⟩⟩⟩⟩⟩⟩⟩⟩⟩⟩⟩
def tb_X10_wants : List (Nat × List (nl_I × Nat × Nat)) := [(0, eb_X10_wants_0), (20, eb_X10_wants_20), (21, eb_X10_wants_21)]
theorem ok_X10_wants {G : nl_G} {l : Launch} : nl_OKC G l m_X10_wants (nl_cd tb_X10_wants) := nl_OKC_of (List.forall_mem_cons.mpr ⟨⟨_, _, rfl, rfl, ev_X10_wants_0⟩, List.forall_mem_cons.mpr ⟨⟨_, _, rfl, rfl, ev_X10_wants_20⟩, List.forall_mem_cons.mpr ⟨⟨_, _, rfl, rfl, ev_X10_wants_21⟩,  fun _ h => absurd h List.not_mem_nil⟩⟩⟩)
theorem cb_X10_wants_0 : nl_cd tb_X10_wants 0 = [ni_ldR 0, ni_ic 10, ni_ial, ni_ldI 1, ni_add, ni_ldR 0, ni_ic 11, ni_ial, ni_sub, ni_stI 2, ni_ldI 2, ni_ifle 0 20, ni_ldI 2, ni_go 0 21] := rfl
theorem cb_X10_wants_20 : nl_cd tb_X10_wants 20 = [ni_ic 0, ni_fall 0 21] := rfl
theorem cb_X10_wants_21 : nl_cd tb_X10_wants 21 = [ni_stI 3, ni_ldR 0, ni_ic 12, ni_ial, ni_ldI 1, ni_add, ni_ldI 3, ni_sub, ni_stI 4, ni_ldI 3, ni_ldI 4, ni_ic 4, ni_div, ni_add, ni_ldR 0, ni_ic 12, ni_ial, ni_ic 4, ni_div, ni_sub, ni_iret] := rfl
def eb_X10_comes_0 : List (nl_I × Nat × Nat) := [(ni_ldR 0, 0, 1), (ni_ic 8, 1, 3), (ni_ial, 3, 4), (ni_ldR 0, 4, 5), (ni_ic 28, 5, 7), (ni_ldI 1, 7, 8), (ni_add, 8, 9), (ni_ial, 9, 10), (ni_rem, 10, 11), (ni_ifne 0 18, 11, 14), (ni_ic 1, 14, 15), (ni_go 0 19, 15, 18)]
set_option maxRecDepth 100000 in
theorem ev_X10_comes_0 {G : nl_G} {l : Launch} : nl_OKB G l m_X10_comes eb_X10_comes_0 := ⟨no_ldRn (j := 0) (a := 0) (by decide +kernel) rfl, rfl, ⟨no_bip (n := 8) (by decide +kernel) rfl, rfl, ⟨no_ial (by decide +kernel), rfl, ⟨no_ldRn (j := 0) (a := 0) (by decide +kernel) rfl, rfl, ⟨no_bip (n := 28) (by decide +kernel) rfl, rfl, ⟨no_ldIn (j := 1) (a := 1) (by decide +kernel) rfl, rfl, ⟨no_add (by decide +kernel), rfl, ⟨no_ial (by decide +kernel), rfl, ⟨no_rem (by decide +kernel), rfl, ⟨no_ifne (off := 7) (by decide +kernel) (by decide), rfl, ⟨no_ic (n := 1) (by decide +kernel) rfl, rfl, ⟨no_go (off := 4) (by decide +kernel) (by decide), trivial, trivial⟩⟩⟩⟩⟩⟩⟩⟩⟩⟩⟩⟩
def eb_X10_comes_18 : List (nl_I × Nat × Nat) := [(ni_ic 0, 18, 19), (ni_fall 0 19, 19, 19)]
set_option maxRecDepth 100000 in
theorem ev_X10_comes_18 {G : nl_G} {l : Launch} : nl_OKB G l m_X10_comes eb_X10_comes_18 := ⟨no_ic (n := 0) (by decide +kernel) rfl, rfl, ⟨no_fall, trivial, trivial⟩⟩
def eb_X10_comes_19 : List (nl_I × Nat × Nat) := [(ni_iret, 19, 20)]
set_option maxRecDepth 100000 in
theorem ev_X10_comes_19 {G : nl_G} {l : Launch} : nl_OKB G l m_X10_comes eb_X10_comes_19 := ⟨no_iret (by decide +kernel), trivial, trivial⟩
def tb_X10_comes : List (Nat × List (nl_I × Nat × Nat)) := [(0, eb_X10_comes_0), (18, eb_X10_comes_18), (19, eb_X10_comes_19)]
theorem ok_X10_comes {G : nl_G} {l : Launch} : nl_OKC G l m_X10_comes (nl_cd tb_X10_comes) := nl_OKC_of (List.forall_mem_cons.mpr ⟨⟨_, _, rfl, rfl, ev_X10_comes_0⟩, List.forall_mem_cons.mpr ⟨⟨_, _, rfl, rfl, ev_X10_comes_18⟩, List.forall_mem_cons.mpr ⟨⟨_, _, rfl, rfl, ev_X10_comes_19⟩,  fun _ h => absurd h List.not_mem_nil⟩⟩⟩)
theorem cb_X10_comes_0 : nl_cd tb_X10_comes 0 = [ni_ldR 0, ni_ic 8, ni_ial, ni_ldR 0, ni_ic 28, ni_ldI 1, ni_add, ni_ial, ni_rem, ni_ifne 0 18, ni_ic 1, ni_go 0 19] := rfl
theorem cb_X10_comes_18 : nl_cd tb_X10_comes 18 = [ni_ic 0, ni_fall 0 19] := rfl
theorem cb_X10_comes_19 : nl_cd tb_X10_comes 19 = [ni_iret] := rfl
def eb_X10_isMoon_0 : List (nl_I × Nat × Nat) := [(ni_ldR 0, 0, 1), (ni_ic 3, 1, 2), (ni_ial, 2, 3), (ni_ifeq 0 21, 3, 6), (ni_ldR 0, 6, 7), (ni_ic 8, 7, 9), (ni_ial, 9, 10), (ni_ldR 0, 10, 11), (ni_ic 3, 11, 12), (ni_ial, 12, 13), (ni_rem, 13, 14), (ni_ifne 0 21, 14, 17), (ni_ic 1, 17, 18), (ni_go 0 22, 18, 21)]
set_option maxRecDepth 100000 in
theorem ev_X10_isMoon_0 {G : nl_G} {l : Launch} : nl_OKB G l m_X10_isMoon eb_X10_isMoon_0 := ⟨no_ldRn (j := 0) (a := 0) (by decide +kernel) rfl, rfl, ⟨no_ic (n := 3) (by decide +kernel) rfl, rfl, ⟨no_ial (by decide +kernel), rfl, ⟨no_ifeq (off := 18) (by decide +kernel) (by decide), rfl, ⟨no_ldRn (j := 0) (a := 0) (by decide +kernel) rfl, rfl, ⟨no_bip (n := 8) (by decide +kernel) rfl, rfl, ⟨no_ial (by decide +kernel), rfl, ⟨no_ldRn (j := 0) (a := 0) (by decide +kernel) rfl, rfl, ⟨no_ic (n := 3) (by decide +kernel) rfl, rfl, ⟨no_ial (by decide +kernel), rfl, ⟨no_rem (by decide +kernel), rfl, ⟨no_ifne (off := 7) (by decide +kernel) (by decide), rfl, ⟨no_ic (n := 1) (by decide +kernel) rfl, rfl, ⟨no_go (off := 4) (by decide +kernel) (by decide), trivial, trivial⟩⟩⟩⟩⟩⟩⟩⟩⟩⟩⟩⟩⟩⟩
def eb_X10_isMoon_21 : List (nl_I × Nat × Nat) := [(ni_ic 0, 21, 22), (ni_fall 0 22, 22, 22)]
set_option maxRecDepth 100000 in
theorem ev_X10_isMoon_21 {G : nl_G} {l : Launch} : nl_OKB G l m_X10_isMoon eb_X10_isMoon_21 := ⟨no_ic (n := 0) (by decide +kernel) rfl, rfl, ⟨no_fall, trivial, trivial⟩⟩
def eb_X10_isMoon_22 : List (nl_I × Nat × Nat) := [(ni_iret, 22, 23)]
set_option maxRecDepth 100000 in
theorem ev_X10_isMoon_22 {G : nl_G} {l : Launch} : nl_OKB G l m_X10_isMoon eb_X10_isMoon_22 := ⟨no_iret (by decide +kernel), trivial, trivial⟩
def tb_X10_isMoon : List (Nat × List (nl_I × Nat × Nat)) := [(0, eb_X10_isMoon_0), (21, eb_X10_isMoon_21), (22, eb_X10_isMoon_22)]
theorem ok_X10_isMoon {G : nl_G} {l : Launch} : nl_OKC G l m_X10_isMoon (nl_cd tb_X10_isMoon) := nl_OKC_of (List.forall_mem_cons.mpr ⟨⟨_, _, rfl, rfl, ev_X10_isMoon_0⟩, List.forall_mem_cons.mpr ⟨⟨_, _, rfl, rfl, ev_X10_isMoon_21⟩, List.forall_mem_cons.mpr ⟨⟨_, _, rfl, rfl, ev_X10_isMoon_22⟩,  fun _ h => absurd h List.not_mem_nil⟩⟩⟩)
theorem cb_X10_isMoon_0 : nl_cd tb_X10_isMoon 0 = [ni_ldR 0, ni_ic 3, ni_ial, ni_ifeq 0 21, ni_ldR 0, ni_ic 8, ni_ial, ni_ldR 0, ni_ic 3, ni_ial, ni_rem, ni_ifne 0 21, ni_ic 1, ni_go 0 22] := rfl
theorem cb_X10_isMoon_21 : nl_cd tb_X10_isMoon 21 = [ni_ic 0, ni_fall 0 22] := rfl
theorem cb_X10_isMoon_22 : nl_cd tb_X10_isMoon 22 = [ni_iret] := rfl
def eb_X10_knows_0 : List (nl_I × Nat × Nat) := [(ni_ldR 0, 0, 1), (ni_ic 38, 1, 3), (ni_ldI 1, 3, 4), (ni_add, 4, 5), (ni_ial, 5, 6), (ni_ldR 0, 6, 7), (ni_ic 33, 7, 9), (ni_ldI 1, 9, 10), (ni_add, 10, 11), (ni_ial, 11, 12), (ni_cmlt 0 19, 12, 15), (ni_ic 1, 15, 16), (ni_go 0 20, 16, 19)]
set_option maxRecDepth 100000 in
theorem ev_X10_knows_0 {G : nl_G} {l : Launch} : nl_OKB G l m_X10_knows eb_X10_knows_0 := ⟨no_ldRn (j := 0) (a := 0) (by decide +kernel) rfl, rfl, ⟨no_bip (n := 38) (by decide +kernel) rfl, rfl, ⟨no_ldIn (j := 1) (a := 1) (by decide +kernel) rfl, rfl, ⟨no_add (by decide +kernel), rfl, ⟨no_ial (by decide +kernel), rfl, ⟨no_ldRn (j := 0) (a := 0) (by decide +kernel) rfl, rfl, ⟨no_bip (n := 33) (by decide +kernel) rfl, rfl, ⟨no_ldIn (j := 1) (a := 1) (by decide +kernel) rfl, rfl, ⟨no_add (by decide +kernel), rfl, ⟨no_ial (by decide +kernel), rfl, ⟨no_cmlt (off := 7) (by decide +kernel) (by decide), rfl, ⟨no_ic (n := 1) (by decide +kernel) rfl, rfl, ⟨no_go (off := 4) (by decide +kernel) (by decide), trivial, trivial⟩⟩⟩⟩⟩⟩⟩⟩⟩⟩⟩⟩⟩
def eb_X10_knows_19 : List (nl_I × Nat × Nat) := [(ni_ic 0, 19, 20), (ni_fall 0 20, 20, 20)]
set_option maxRecDepth 100000 in
theorem ev_X10_knows_19 {G : nl_G} {l : Launch} : nl_OKB G l m_X10_knows eb_X10_knows_19 := ⟨no_ic (n := 0) (by decide +kernel) rfl, rfl, ⟨no_fall, trivial, trivial⟩⟩
def eb_X10_knows_20 : List (nl_I × Nat × Nat) := [(ni_iret, 20, 21)]
set_option maxRecDepth 100000 in
theorem ev_X10_knows_20 {G : nl_G} {l : Launch} : nl_OKB G l m_X10_knows eb_X10_knows_20 := ⟨no_iret (by decide +kernel), trivial, trivial⟩
def tb_X10_knows : List (Nat × List (nl_I × Nat × Nat)) := [(0, eb_X10_knows_0), (19, eb_X10_knows_19), (20, eb_X10_knows_20)]
theorem ok_X10_knows {G : nl_G} {l : Launch} : nl_OKC G l m_X10_knows (nl_cd tb_X10_knows) := nl_OKC_of (List.forall_mem_cons.mpr ⟨⟨_, _, rfl, rfl, ev_X10_knows_0⟩, List.forall_mem_cons.mpr ⟨⟨_, _, rfl, rfl, ev_X10_knows_19⟩, List.forall_mem_cons.mpr ⟨⟨_, _, rfl, rfl, ev_X10_knows_20⟩,  fun _ h => absurd h List.not_mem_nil⟩⟩⟩)
theorem cb_X10_knows_0 : nl_cd tb_X10_knows 0 = [ni_ldR 0, ni_ic 38, ni_ldI 1, ni_add, ni_ial, ni_ldR 0, ni_ic 33, ni_ldI 1, ni_add, ni_ial, ni_cmlt 0 19, ni_ic 1, ni_go 0 20] := rfl
theorem cb_X10_knows_19 : nl_cd tb_X10_knows 19 = [ni_ic 0, ni_fall 0 20] := rfl
theorem cb_X10_knows_20 : nl_cd tb_X10_knows 20 = [ni_iret] := rfl
def eb_X10_lesser_0 : List (nl_I × Nat × Nat) := [(ni_ldI 0, 0, 1), (ni_ldI 1, 1, 2), (ni_cmge 0 9, 2, 5), (ni_ldI 0, 5, 6), (ni_go 0 10, 6, 9)]
set_option maxRecDepth 100000 in
theorem ev_X10_lesser_0 {G : nl_G} {l : Launch} : nl_OKB G l m_X10_lesser eb_X10_lesser_0 := ⟨no_ldIn (j := 0) (a := 0) (by decide +kernel) rfl, rfl, ⟨no_ldIn (j := 1) (a := 1) (by decide +kernel) rfl, rfl, ⟨no_cmge (off := 7) (by decide +kernel) (by decide), rfl, ⟨no_ldIn (j := 0) (a := 0) (by decide +kernel) rfl, rfl, ⟨no_go (off := 4) (by decide +kernel) (by decide), trivial, trivial⟩⟩⟩⟩⟩
def eb_X10_lesser_9 : List (nl_I × Nat × Nat) := [(ni_ldI 1, 9, 10), (ni_fall 0 10, 10, 10)]
set_option maxRecDepth 100000 in
theorem ev_X10_lesser_9 {G : nl_G} {l : Launch} : nl_OKB G l m_X10_lesser eb_X10_lesser_9 := ⟨no_ldIn (j := 1) (a := 1) (by decide +kernel) rfl, rfl, ⟨no_fall, trivial, trivial⟩⟩
def eb_X10_lesser_10 : List (nl_I × Nat × Nat) := [(ni_iret, 10, 11)]
set_option maxRecDepth 100000 in
theorem ev_X10_lesser_10 {G : nl_G} {l : Launch} : nl_OKB G l m_X10_lesser eb_X10_lesser_10 := ⟨no_iret (by decide +kernel), trivial, trivial⟩
def tb_X10_lesser : List (Nat × List (nl_I × Nat × Nat)) := [(0, eb_X10_lesser_0), (9, eb_X10_lesser_9), (10, eb_X10_lesser_10)]
theorem ok_X10_lesser {G : nl_G} {l : Launch} : nl_OKC G l m_X10_lesser (nl_cd tb_X10_lesser) := nl_OKC_of (List.forall_mem_cons.mpr ⟨⟨_, _, rfl, rfl, ev_X10_lesser_0⟩, List.forall_mem_cons.mpr ⟨⟨_, _, rfl, rfl, ev_X10_lesser_9⟩, List.forall_mem_cons.mpr ⟨⟨_, _, rfl, rfl, ev_X10_lesser_10⟩,  fun _ h => absurd h List.not_mem_nil⟩⟩⟩)
theorem cb_X10_lesser_0 : nl_cd tb_X10_lesser 0 = [ni_ldI 0, ni_ldI 1, ni_cmge 0 9, ni_ldI 0, ni_go 0 10] := rfl
theorem cb_X10_lesser_9 : nl_cd tb_X10_lesser 9 = [ni_ldI 1, ni_fall 0 10] := rfl
theorem cb_X10_lesser_10 : nl_cd tb_X10_lesser 10 = [ni_iret] := rfl
def eb_X10_isOf_0 : List (nl_I × Nat × Nat) := [(ni_ldI 1, 0, 1), (ni_ifeq 0 34, 1, 4), (ni_ldI 0, 4, 5), (ni_ldI 1, 5, 6), (ni_cmeq 0 34, 6, 9), (ni_ldI 1, 9, 10), (ni_ic 1, 10, 11), (ni_cmne 0 24, 11, 14), (ni_ldI 0, 14, 15), (ni_ic 2, 15, 16), (ni_cmeq 0 34, 16, 19), (ni_ldI 0, 19, 20), (ni_ic 3, 20, 21), (ni_cmeq 0 34, 21, 24), (ni_fall 0 24, 24, 24)]
set_option maxRecDepth 100000 in
theorem ev_X10_isOf_0 {G : nl_G} {l : Launch} : nl_OKB G l m_X10_isOf eb_X10_isOf_0 := ⟨no_ldIn (j := 1) (a := 1) (by decide +kernel) rfl, rfl, ⟨no_ifeq (off := 33) (by decide +kernel) (by decide), rfl, ⟨no_ldIn (j := 0) (a := 0) (by decide +kernel) rfl, rfl, ⟨no_ldIn (j := 1) (a := 1) (by decide +kernel) rfl, rfl, ⟨no_cmeq (off := 28) (by decide +kernel) (by decide), rfl, ⟨no_ldIn (j := 1) (a := 1) (by decide +kernel) rfl, rfl, ⟨no_ic (n := 1) (by decide +kernel) rfl, rfl, ⟨no_cmne (off := 13) (by decide +kernel) (by decide), rfl, ⟨no_ldIn (j := 0) (a := 0) (by decide +kernel) rfl, rfl, ⟨no_ic (n := 2) (by decide +kernel) rfl, rfl, ⟨no_cmeq (off := 18) (by decide +kernel) (by decide), rfl, ⟨no_ldIn (j := 0) (a := 0) (by decide +kernel) rfl, rfl, ⟨no_ic (n := 3) (by decide +kernel) rfl, rfl, ⟨no_cmeq (off := 13) (by decide +kernel) (by decide), rfl, ⟨no_fall, trivial, trivial⟩⟩⟩⟩⟩⟩⟩⟩⟩⟩⟩⟩⟩⟩⟩
def eb_X10_isOf_24 : List (nl_I × Nat × Nat) := [(ni_ldI 1, 24, 25), (ni_ic 4, 25, 26), (ni_cmne 0 38, 26, 29), (ni_ldI 0, 29, 30), (ni_ic 5, 30, 31), (ni_cmne 0 38, 31, 34), (ni_fall 0 34, 34, 34)]
set_option maxRecDepth 100000 in
theorem ev_X10_isOf_24 {G : nl_G} {l : Launch} : nl_OKB G l m_X10_isOf eb_X10_isOf_24 := ⟨no_ldIn (j := 1) (a := 1) (by decide +kernel) rfl, rfl, ⟨no_ic (n := 4) (by decide +kernel) rfl, rfl, ⟨no_cmne (off := 12) (by decide +kernel) (by decide), rfl, ⟨no_ldIn (j := 0) (a := 0) (by decide +kernel) rfl, rfl, ⟨no_ic (n := 5) (by decide +kernel) rfl, rfl, ⟨no_cmne (off := 7) (by decide +kernel) (by decide), rfl, ⟨no_fall, trivial, trivial⟩⟩⟩⟩⟩⟩⟩
def eb_X10_isOf_34 : List (nl_I × Nat × Nat) := [(ni_ic 1, 34, 35), (ni_go 0 39, 35, 38)]
set_option maxRecDepth 100000 in
theorem ev_X10_isOf_34 {G : nl_G} {l : Launch} : nl_OKB G l m_X10_isOf eb_X10_isOf_34 := ⟨no_ic (n := 1) (by decide +kernel) rfl, rfl, ⟨no_go (off := 4) (by decide +kernel) (by decide), trivial, trivial⟩⟩
def eb_X10_isOf_38 : List (nl_I × Nat × Nat) := [(ni_ic 0, 38, 39), (ni_fall 0 39, 39, 39)]
set_option maxRecDepth 100000 in
theorem ev_X10_isOf_38 {G : nl_G} {l : Launch} : nl_OKB G l m_X10_isOf eb_X10_isOf_38 := ⟨no_ic (n := 0) (by decide +kernel) rfl, rfl, ⟨no_fall, trivial, trivial⟩⟩
def eb_X10_isOf_39 : List (nl_I × Nat × Nat) := [(ni_iret, 39, 40)]
set_option maxRecDepth 100000 in
theorem ev_X10_isOf_39 {G : nl_G} {l : Launch} : nl_OKB G l m_X10_isOf eb_X10_isOf_39 := ⟨no_iret (by decide +kernel), trivial, trivial⟩
def tb_X10_isOf : List (Nat × List (nl_I × Nat × Nat)) := [(0, eb_X10_isOf_0), (24, eb_X10_isOf_24), (34, eb_X10_isOf_34), (38, eb_X10_isOf_38), (39, eb_X10_isOf_39)]
theorem ok_X10_isOf {G : nl_G} {l : Launch} : nl_OKC G l m_X10_isOf (nl_cd tb_X10_isOf) := nl_OKC_of (List.forall_mem_cons.mpr ⟨⟨_, _, rfl, rfl, ev_X10_isOf_0⟩, List.forall_mem_cons.mpr ⟨⟨_, _, rfl, rfl, ev_X10_isOf_24⟩, List.forall_mem_cons.mpr ⟨⟨_, _, rfl, rfl, ev_X10_isOf_34⟩, List.forall_mem_cons.mpr ⟨⟨_, _, rfl, rfl, ev_X10_isOf_38⟩, List.forall_mem_cons.mpr ⟨⟨_, _, rfl, rfl, ev_X10_isOf_39⟩,  fun _ h => absurd h List.not_mem_nil⟩⟩⟩⟩⟩)
theorem cb_X10_isOf_0 : nl_cd tb_X10_isOf 0 = [ni_ldI 1, ni_ifeq 0 34, ni_ldI 0, ni_ldI 1, ni_cmeq 0 34, ni_ldI 1, ni_ic 1, ni_cmne 0 24, ni_ldI 0, ni_ic 2, ni_cmeq 0 34, ni_ldI 0, ni_ic 3, ni_cmeq 0 34, ni_fall 0 24] := rfl
theorem cb_X10_isOf_24 : nl_cd tb_X10_isOf 24 = [ni_ldI 1, ni_ic 4, ni_cmne 0 38, ni_ldI 0, ni_ic 5, ni_cmne 0 38, ni_fall 0 34] := rfl
theorem cb_X10_isOf_34 : nl_cd tb_X10_isOf 34 = [ni_ic 1, ni_go 0 39] := rfl
theorem cb_X10_isOf_38 : nl_cd tb_X10_isOf 38 = [ni_ic 0, ni_fall 0 39] := rfl
theorem cb_X10_isOf_39 : nl_cd tb_X10_isOf 39 = [ni_iret] := rfl

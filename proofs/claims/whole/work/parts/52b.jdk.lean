/-! the JDK: infos and code tables -/
def m_J1_canEncode_9a6ad : nl_MI := (yJ1_canEncode_9a6ad, cJ1_canEncode_9a6ad, 1, (some .boolean), { frames := 1, cells := 0, slots := 0, locals := 26 })
set_option maxRecDepth 100000 in
theorem hm_J1_canEncode_9a6ad : nl_cal 0 m_J1_canEncode_9a6ad 1 := ⟨(nl_W_in (i := 586) rfl rfl), (nl_W_in (i := 70) rfl rfl), ⟨by decide +kernel, by decide +kernel, by decide +kernel⟩, (nl_W_in (i := 585) rfl rfl)⟩
def m_J1_indexOfChar_4cfef : nl_MI := (yJ1_indexOfChar_4cfef, cJ1_indexOfChar_4cfef, 6, (some .int), { frames := 1, cells := 0, slots := 0, locals := 26 })
set_option maxRecDepth 100000 in
theorem hm_J1_indexOfChar_4cfef : nl_cal 0 m_J1_indexOfChar_4cfef 4 := ⟨(nl_W_in (i := 595) rfl rfl), (nl_W_in (i := 70) rfl rfl), ⟨by decide +kernel, by decide +kernel, by decide +kernel⟩, (nl_W_in (i := 594) rfl rfl)⟩
def m_J1_indexOf_4cfef : nl_MI := (yJ1_indexOf_4cfef, cJ1_indexOf_4cfef, 4, (some .int), { frames := 2, cells := 0, slots := 0, locals := 60 })
set_option maxRecDepth 100000 in
theorem hm_J1_indexOf_4cfef : nl_cal 0 m_J1_indexOf_4cfef 4 := ⟨(nl_W_in (i := 583) rfl rfl), (nl_W_in (i := 70) rfl rfl), ⟨by decide +kernel, by decide +kernel, by decide +kernel⟩, (nl_W_in (i := 582) rfl rfl)⟩
def m_J0_coder_7d493 : nl_MI := (yJ0_coder_7d493, cJ0_coder_7d493, 1, (some .byte), { frames := 1, cells := 0, slots := 0, locals := 26 })
set_option maxRecDepth 100000 in
theorem hm_J0_coder_7d493 : nl_cal 1 m_J0_coder_7d493 0 := ⟨(nl_W_in (i := 580) rfl rfl), (nl_W_in (i := 69) rfl rfl), ⟨by decide +kernel, by decide +kernel, by decide +kernel⟩, ⟨(nl_W_in (i := 578) rfl rfl), (nl_W_in (i := 579) rfl rfl)⟩⟩
def m_J0_isLatin1_aae02 : nl_MI := (yJ0_isLatin1_aae02, cJ0_isLatin1_aae02, 1, (some .boolean), { frames := 1, cells := 0, slots := 0, locals := 26 })
set_option maxRecDepth 100000 in
theorem hm_J0_isLatin1_aae02 : nl_cal 1 m_J0_isLatin1_aae02 0 := ⟨(nl_W_in (i := 570) rfl rfl), (nl_W_in (i := 69) rfl rfl), ⟨by decide +kernel, by decide +kernel, by decide +kernel⟩, ⟨(nl_W_in (i := 568) rfl rfl), (nl_W_in (i := 569) rfl rfl)⟩⟩
def m_J0_length_8abf5 : nl_MI := (yJ0_length_8abf5, cJ0_length_8abf5, 1, (some .int), { frames := 2, cells := 0, slots := 0, locals := 60 })
set_option maxRecDepth 100000 in
theorem hm_J0_length_8abf5 : nl_cal 1 m_J0_length_8abf5 0 := ⟨(nl_W_in (i := 576) rfl rfl), (nl_W_in (i := 69) rfl rfl), ⟨by decide +kernel, by decide +kernel, by decide +kernel⟩, ⟨(nl_W_in (i := 574) rfl rfl), (nl_W_in (i := 575) rfl rfl)⟩⟩
def m_J0_indexOf_7cf53 : nl_MI := (yJ0_indexOf_7cf53, cJ0_indexOf_7cf53, 3, (some .int), { frames := 3, cells := 0, slots := 0, locals := 110 })
set_option maxRecDepth 100000 in
theorem hm_J0_indexOf_7cf53 : nl_cal 1 m_J0_indexOf_7cf53 2 := ⟨(nl_W_in (i := 566) rfl rfl), (nl_W_in (i := 69) rfl rfl), ⟨by decide +kernel, by decide +kernel, by decide +kernel⟩, ⟨(nl_W_in (i := 564) rfl rfl), (nl_W_in (i := 565) rfl rfl)⟩⟩
def eb_J1_canEncode_9a6ad_0 : List (nl_I × Nat × Nat) := [(ni_ldI 0, 0, 1), (ni_iflt 0 15, 1, 4), (ni_ldI 0, 4, 5), (ni_ic 255, 5, 8), (ni_cmgt 0 15, 8, 11), (ni_ic 1, 11, 12), (ni_go 0 16, 12, 15)]
set_option maxRecDepth 100000 in
theorem ev_J1_canEncode_9a6ad_0 {G : nl_G} {l : Launch} : nl_OKB G l m_J1_canEncode_9a6ad eb_J1_canEncode_9a6ad_0 := ⟨no_ldIn (j := 0) (a := 0) (by decide +kernel) rfl, rfl, ⟨no_iflt (off := 14) (by decide +kernel) (by decide), rfl, ⟨no_ldIn (j := 0) (a := 0) (by decide +kernel) rfl, rfl, ⟨no_sip (n := 255) (by decide +kernel) rfl, rfl, ⟨no_cmgt (off := 7) (by decide +kernel) (by decide), rfl, ⟨no_ic (n := 1) (by decide +kernel) rfl, rfl, ⟨no_go (off := 4) (by decide +kernel) (by decide), trivial, trivial⟩⟩⟩⟩⟩⟩⟩
def eb_J1_canEncode_9a6ad_15 : List (nl_I × Nat × Nat) := [(ni_ic 0, 15, 16), (ni_fall 0 16, 16, 16)]
set_option maxRecDepth 100000 in
theorem ev_J1_canEncode_9a6ad_15 {G : nl_G} {l : Launch} : nl_OKB G l m_J1_canEncode_9a6ad eb_J1_canEncode_9a6ad_15 := ⟨no_ic (n := 0) (by decide +kernel) rfl, rfl, ⟨no_fall, trivial, trivial⟩⟩
def eb_J1_canEncode_9a6ad_16 : List (nl_I × Nat × Nat) := [(ni_iret, 16, 17)]
set_option maxRecDepth 100000 in
theorem ev_J1_canEncode_9a6ad_16 {G : nl_G} {l : Launch} : nl_OKB G l m_J1_canEncode_9a6ad eb_J1_canEncode_9a6ad_16 := ⟨no_iret (by decide +kernel), trivial, trivial⟩
def tb_J1_canEncode_9a6ad : List (Nat × List (nl_I × Nat × Nat)) := [(0, eb_J1_canEncode_9a6ad_0), (15, eb_J1_canEncode_9a6ad_15), (16, eb_J1_canEncode_9a6ad_16)]
theorem ok_J1_canEncode_9a6ad {G : nl_G} {l : Launch} : nl_OKC G l m_J1_canEncode_9a6ad (nl_cd tb_J1_canEncode_9a6ad) := nl_OKC_of (List.forall_mem_cons.mpr ⟨⟨_, _, rfl, rfl, ev_J1_canEncode_9a6ad_0⟩, List.forall_mem_cons.mpr ⟨⟨_, _, rfl, rfl, ev_J1_canEncode_9a6ad_15⟩, List.forall_mem_cons.mpr ⟨⟨_, _, rfl, rfl, ev_J1_canEncode_9a6ad_16⟩,  fun _ h => absurd h List.not_mem_nil⟩⟩⟩)
theorem cb_J1_canEncode_9a6ad_0 : nl_cd tb_J1_canEncode_9a6ad 0 = [ni_ldI 0, ni_iflt 0 15, ni_ldI 0, ni_ic 255, ni_cmgt 0 15, ni_ic 1, ni_go 0 16] := rfl
theorem cb_J1_canEncode_9a6ad_15 : nl_cd tb_J1_canEncode_9a6ad 15 = [ni_ic 0, ni_fall 0 16] := rfl
theorem cb_J1_canEncode_9a6ad_16 : nl_cd tb_J1_canEncode_9a6ad 16 = [ni_iret] := rfl
def eb_J1_indexOfChar_4cfef_0 : List (nl_I × Nat × Nat) := [(ni_ldI 1, 0, 1), (ni_i2b, 1, 2), (ni_stI 4, 2, 4), (ni_ldI 2, 4, 5), (ni_stI 5, 5, 7), (ni_fall 1 7, 7, 7)]
set_option maxRecDepth 100000 in
theorem ev_J1_indexOfChar_4cfef_0 {G : nl_G} {l : Launch} : nl_OKB G l m_J1_indexOfChar_4cfef eb_J1_indexOfChar_4cfef_0 := ⟨no_ldIn (j := 1) (a := 1) (by decide +kernel) rfl, rfl, ⟨no_i2b (by decide +kernel), rfl, ⟨no_stI (a := 4) (by decide +kernel) (by decide), rfl, ⟨no_ldIn (j := 2) (a := 2) (by decide +kernel) rfl, rfl, ⟨no_stI (a := 5) (by decide +kernel) (by decide), rfl, ⟨no_fall, trivial, trivial⟩⟩⟩⟩⟩⟩
def eb_J1_indexOfChar_4cfef_7 : List (nl_I × Nat × Nat) := [(ni_ldI 5, 7, 9), (ni_ldI 3, 9, 10), (ni_cmge 0 31, 10, 13), (ni_ldR 0, 13, 14), (ni_ldI 5, 14, 16), (ni_fn 2 fj_ba, 16, 17), (ni_ldI 4, 17, 19), (ni_cmne 0 25, 19, 22), (ni_ldI 5, 22, 24), (ni_iret, 24, 25)]
set_option maxRecDepth 100000 in
theorem ev_J1_indexOfChar_4cfef_7 {G : nl_G} {l : Launch} : nl_OKB G l m_J1_indexOfChar_4cfef eb_J1_indexOfChar_4cfef_7 := ⟨no_ldI (a := 5) (by decide +kernel), rfl, ⟨no_ldIn (j := 3) (a := 3) (by decide +kernel) rfl, rfl, ⟨no_cmge (off := 21) (by decide +kernel) (by decide), rfl, ⟨no_ldRn (j := 0) (a := 0) (by decide +kernel) rfl, rfl, ⟨no_ldI (a := 5) (by decide +kernel), rfl, ⟨nj_ba (by decide +kernel), rfl, ⟨no_ldI (a := 4) (by decide +kernel), rfl, ⟨no_cmne (off := 6) (by decide +kernel) (by decide), rfl, ⟨no_ldI (a := 5) (by decide +kernel), rfl, ⟨no_iret (by decide +kernel), trivial, trivial⟩⟩⟩⟩⟩⟩⟩⟩⟩⟩
def eb_J1_indexOfChar_4cfef_25 : List (nl_I × Nat × Nat) := [(ni_inc 5 1, 25, 28), (ni_go 1 7, 28, 31)]
set_option maxRecDepth 100000 in
theorem ev_J1_indexOfChar_4cfef_25 {G : nl_G} {l : Launch} : nl_OKB G l m_J1_indexOfChar_4cfef eb_J1_indexOfChar_4cfef_25 := ⟨no_inc (n := 1) (by decide +kernel) rfl (by decide), rfl, ⟨no_go (off := -21) (by decide +kernel) (by decide), trivial, trivial⟩⟩
def eb_J1_indexOfChar_4cfef_31 : List (nl_I × Nat × Nat) := [(ni_ic (-1), 31, 32), (ni_iret, 32, 33)]
set_option maxRecDepth 100000 in
theorem ev_J1_indexOfChar_4cfef_31 {G : nl_G} {l : Launch} : nl_OKB G l m_J1_indexOfChar_4cfef eb_J1_indexOfChar_4cfef_31 := ⟨no_ic (n := -1) (by decide +kernel) rfl, rfl, ⟨no_iret (by decide +kernel), trivial, trivial⟩⟩
def tb_J1_indexOfChar_4cfef : List (Nat × List (nl_I × Nat × Nat)) := [(0, eb_J1_indexOfChar_4cfef_0), (7, eb_J1_indexOfChar_4cfef_7), (25, eb_J1_indexOfChar_4cfef_25), (31, eb_J1_indexOfChar_4cfef_31)]
theorem ok_J1_indexOfChar_4cfef {G : nl_G} {l : Launch} : nl_OKC G l m_J1_indexOfChar_4cfef (nl_cd tb_J1_indexOfChar_4cfef) := nl_OKC_of (List.forall_mem_cons.mpr ⟨⟨_, _, rfl, rfl, ev_J1_indexOfChar_4cfef_0⟩, List.forall_mem_cons.mpr ⟨⟨_, _, rfl, rfl, ev_J1_indexOfChar_4cfef_7⟩, List.forall_mem_cons.mpr ⟨⟨_, _, rfl, rfl, ev_J1_indexOfChar_4cfef_25⟩, List.forall_mem_cons.mpr ⟨⟨_, _, rfl, rfl, ev_J1_indexOfChar_4cfef_31⟩,  fun _ h => absurd h List.not_mem_nil⟩⟩⟩⟩)
theorem cb_J1_indexOfChar_4cfef_0 : nl_cd tb_J1_indexOfChar_4cfef 0 = [ni_ldI 1, ni_i2b, ni_stI 4, ni_ldI 2, ni_stI 5, ni_fall 1 7] := rfl
theorem cb_J1_indexOfChar_4cfef_7 : nl_cd tb_J1_indexOfChar_4cfef 7 = [ni_ldI 5, ni_ldI 3, ni_cmge 0 31, ni_ldR 0, ni_ldI 5, ni_fn 2 fj_ba, ni_ldI 4, ni_cmne 0 25, ni_ldI 5, ni_iret] := rfl
theorem cb_J1_indexOfChar_4cfef_25 : nl_cd tb_J1_indexOfChar_4cfef 25 = [ni_inc 5 1, ni_go 1 7] := rfl
theorem cb_J1_indexOfChar_4cfef_31 : nl_cd tb_J1_indexOfChar_4cfef 31 = [ni_ic (-1), ni_iret] := rfl
def eb_J1_indexOf_4cfef_0 : List (nl_I × Nat × Nat) := [(ni_ldI 1, 0, 1), (ni_call 0 1 0 m_J1_canEncode_9a6ad, 1, 4), (ni_ifne 0 9, 4, 7), (ni_ic (-1), 7, 8), (ni_iret, 8, 9)]
set_option maxRecDepth 100000 in
theorem ev_J1_indexOf_4cfef_0 {G : nl_G} {l : Launch} : nl_OKB G l m_J1_indexOf_4cfef eb_J1_indexOf_4cfef_0 := ⟨no_ldIn (j := 1) (a := 1) (by decide +kernel) rfl, rfl, ⟨no_callS (idx := 88) hm_J1_canEncode_9a6ad ⟨rfl, rfl⟩ rfl (by decide +kernel) (nl_W_in (i := 584) rfl rfl), rfl, ⟨no_ifne (off := 5) (by decide +kernel) (by decide), rfl, ⟨no_ic (n := -1) (by decide +kernel) rfl, rfl, ⟨no_iret (by decide +kernel), trivial, trivial⟩⟩⟩⟩⟩
def eb_J1_indexOf_4cfef_9 : List (nl_I × Nat × Nat) := [(ni_ldI 2, 9, 10), (ni_ic 0, 10, 11), (ni_max, 11, 14), (ni_stI 2, 14, 15), (ni_ldI 3, 15, 16), (ni_ldR 0, 16, 17), (ni_fn 1 fj_len, 17, 18), (ni_min, 18, 21), (ni_stI 3, 21, 22), (ni_ldI 2, 22, 23), (ni_ldI 3, 23, 24), (ni_cmlt 0 29, 24, 27), (ni_ic (-1), 27, 28), (ni_iret, 28, 29)]
set_option maxRecDepth 100000 in
theorem ev_J1_indexOf_4cfef_9 {G : nl_G} {l : Launch} : nl_OKB G l m_J1_indexOf_4cfef eb_J1_indexOf_4cfef_9 := ⟨no_ldIn (j := 2) (a := 2) (by decide +kernel) rfl, rfl, ⟨no_ic (n := 0) (by decide +kernel) rfl, rfl, ⟨no_max (idx := 92) rfl (by decide +kernel) (nl_W_in (i := 587) rfl rfl) (nl_W_in (i := 588) rfl rfl) (nl_W_in (i := 71) rfl rfl) (nl_W_in (i := 589) rfl rfl), rfl, ⟨no_stIn (j := 2) (a := 2) (by decide +kernel) rfl (by decide), rfl, ⟨no_ldIn (j := 3) (a := 3) (by decide +kernel) rfl, rfl, ⟨no_ldRn (j := 0) (a := 0) (by decide +kernel) rfl, rfl, ⟨nj_len (by decide +kernel), rfl, ⟨no_min (idx := 38) rfl (by decide +kernel) (nl_W_in (i := 590) rfl rfl) (nl_W_in (i := 591) rfl rfl) (nl_W_in (i := 71) rfl rfl) (nl_W_in (i := 592) rfl rfl), rfl, ⟨no_stIn (j := 3) (a := 3) (by decide +kernel) rfl (by decide), rfl, ⟨no_ldIn (j := 2) (a := 2) (by decide +kernel) rfl, rfl, ⟨no_ldIn (j := 3) (a := 3) (by decide +kernel) rfl, rfl, ⟨no_cmlt (off := 5) (by decide +kernel) (by decide), rfl, ⟨no_ic (n := -1) (by decide +kernel) rfl, rfl, ⟨no_iret (by decide +kernel), trivial, trivial⟩⟩⟩⟩⟩⟩⟩⟩⟩⟩⟩⟩⟩⟩
def eb_J1_indexOf_4cfef_29 : List (nl_I × Nat × Nat) := [(ni_ldR 0, 29, 30), (ni_ldI 1, 30, 31), (ni_ldI 2, 31, 32), (ni_ldI 3, 32, 33), (ni_call 0 4 0 m_J1_indexOfChar_4cfef, 33, 36), (ni_iret, 36, 37)]
set_option maxRecDepth 100000 in
theorem ev_J1_indexOf_4cfef_29 {G : nl_G} {l : Launch} : nl_OKB G l m_J1_indexOf_4cfef eb_J1_indexOf_4cfef_29 := ⟨no_ldRn (j := 0) (a := 0) (by decide +kernel) rfl, rfl, ⟨no_ldIn (j := 1) (a := 1) (by decide +kernel) rfl, rfl, ⟨no_ldIn (j := 2) (a := 2) (by decide +kernel) rfl, rfl, ⟨no_ldIn (j := 3) (a := 3) (by decide +kernel) rfl, rfl, ⟨no_callS (idx := 95) hm_J1_indexOfChar_4cfef ⟨rfl, rfl⟩ rfl (by decide +kernel) (nl_W_in (i := 593) rfl rfl), rfl, ⟨no_iret (by decide +kernel), trivial, trivial⟩⟩⟩⟩⟩⟩
def tb_J1_indexOf_4cfef : List (Nat × List (nl_I × Nat × Nat)) := [(0, eb_J1_indexOf_4cfef_0), (9, eb_J1_indexOf_4cfef_9), (29, eb_J1_indexOf_4cfef_29)]
theorem ok_J1_indexOf_4cfef {G : nl_G} {l : Launch} : nl_OKC G l m_J1_indexOf_4cfef (nl_cd tb_J1_indexOf_4cfef) := nl_OKC_of (List.forall_mem_cons.mpr ⟨⟨_, _, rfl, rfl, ev_J1_indexOf_4cfef_0⟩, List.forall_mem_cons.mpr ⟨⟨_, _, rfl, rfl, ev_J1_indexOf_4cfef_9⟩, List.forall_mem_cons.mpr ⟨⟨_, _, rfl, rfl, ev_J1_indexOf_4cfef_29⟩,  fun _ h => absurd h List.not_mem_nil⟩⟩⟩)
theorem cb_J1_indexOf_4cfef_0 : nl_cd tb_J1_indexOf_4cfef 0 = [ni_ldI 1, ni_call 0 1 0 m_J1_canEncode_9a6ad, ni_ifne 0 9, ni_ic (-1), ni_iret] := rfl
theorem cb_J1_indexOf_4cfef_9 : nl_cd tb_J1_indexOf_4cfef 9 = [ni_ldI 2, ni_ic 0, ni_max, ni_stI 2, ni_ldI 3, ni_ldR 0, ni_fn 1 fj_len, ni_min, ni_stI 3, ni_ldI 2, ni_ldI 3, ni_cmlt 0 29, ni_ic (-1), ni_iret] := rfl
theorem cb_J1_indexOf_4cfef_29 : nl_cd tb_J1_indexOf_4cfef 29 = [ni_ldR 0, ni_ldI 1, ni_ldI 2, ni_ldI 3, ni_call 0 4 0 m_J1_indexOfChar_4cfef, ni_iret] := rfl
def eb_J0_coder_7d493_0 : List (nl_I × Nat × Nat) := [(ni_fn 0 fj_cs, 0, 3), (ni_ifeq 0 13, 3, 6), (ni_ldR 0, 6, 7), (ni_fn 1 fj_cod, 7, 10), (ni_go 0 14, 10, 13)]
set_option maxRecDepth 100000 in
theorem ev_J0_coder_7d493_0 {G : nl_G} {l : Launch} : nl_OKB G l m_J0_coder_7d493 eb_J0_coder_7d493_0 := ⟨nj_cs (idx := 38) (by decide +kernel) (nl_W_in (i := 571) rfl rfl), rfl, ⟨no_ifeq (off := 10) (by decide +kernel) (by decide), rfl, ⟨no_ldRn (j := 0) (a := 0) (by decide +kernel) rfl, rfl, ⟨nj_cod (idx := 15) (by decide +kernel) (nl_W_in (i := 1334) rfl rfl), rfl, ⟨no_go (off := 4) (by decide +kernel) (by decide), trivial, trivial⟩⟩⟩⟩⟩
def eb_J0_coder_7d493_13 : List (nl_I × Nat × Nat) := [(ni_ic 1, 13, 14), (ni_fall 0 14, 14, 14)]
set_option maxRecDepth 100000 in
theorem ev_J0_coder_7d493_13 {G : nl_G} {l : Launch} : nl_OKB G l m_J0_coder_7d493 eb_J0_coder_7d493_13 := ⟨no_ic (n := 1) (by decide +kernel) rfl, rfl, ⟨no_fall, trivial, trivial⟩⟩
def eb_J0_coder_7d493_14 : List (nl_I × Nat × Nat) := [(ni_iret, 14, 15)]
set_option maxRecDepth 100000 in
theorem ev_J0_coder_7d493_14 {G : nl_G} {l : Launch} : nl_OKB G l m_J0_coder_7d493 eb_J0_coder_7d493_14 := ⟨no_iret (by decide +kernel), trivial, trivial⟩
def tb_J0_coder_7d493 : List (Nat × List (nl_I × Nat × Nat)) := [(0, eb_J0_coder_7d493_0), (13, eb_J0_coder_7d493_13), (14, eb_J0_coder_7d493_14)]
theorem ok_J0_coder_7d493 {G : nl_G} {l : Launch} : nl_OKC G l m_J0_coder_7d493 (nl_cd tb_J0_coder_7d493) := nl_OKC_of (List.forall_mem_cons.mpr ⟨⟨_, _, rfl, rfl, ev_J0_coder_7d493_0⟩, List.forall_mem_cons.mpr ⟨⟨_, _, rfl, rfl, ev_J0_coder_7d493_13⟩, List.forall_mem_cons.mpr ⟨⟨_, _, rfl, rfl, ev_J0_coder_7d493_14⟩,  fun _ h => absurd h List.not_mem_nil⟩⟩⟩)
theorem cb_J0_coder_7d493_0 : nl_cd tb_J0_coder_7d493 0 = [ni_fn 0 fj_cs, ni_ifeq 0 13, ni_ldR 0, ni_fn 1 fj_cod, ni_go 0 14] := rfl
theorem cb_J0_coder_7d493_13 : nl_cd tb_J0_coder_7d493 13 = [ni_ic 1, ni_fall 0 14] := rfl
theorem cb_J0_coder_7d493_14 : nl_cd tb_J0_coder_7d493 14 = [ni_iret] := rfl
def eb_J0_isLatin1_aae02_0 : List (nl_I × Nat × Nat) := [(ni_fn 0 fj_cs, 0, 3), (ni_ifeq 0 17, 3, 6), (ni_ldR 0, 6, 7), (ni_fn 1 fj_cod, 7, 10), (ni_ifne 0 17, 10, 13), (ni_ic 1, 13, 14), (ni_go 0 18, 14, 17)]
set_option maxRecDepth 100000 in
theorem ev_J0_isLatin1_aae02_0 {G : nl_G} {l : Launch} : nl_OKB G l m_J0_isLatin1_aae02 eb_J0_isLatin1_aae02_0 := ⟨nj_cs (idx := 38) (by decide +kernel) (nl_W_in (i := 571) rfl rfl), rfl, ⟨no_ifeq (off := 14) (by decide +kernel) (by decide), rfl, ⟨no_ldRn (j := 0) (a := 0) (by decide +kernel) rfl, rfl, ⟨nj_cod (idx := 15) (by decide +kernel) (nl_W_in (i := 1334) rfl rfl), rfl, ⟨no_ifne (off := 7) (by decide +kernel) (by decide), rfl, ⟨no_ic (n := 1) (by decide +kernel) rfl, rfl, ⟨no_go (off := 4) (by decide +kernel) (by decide), trivial, trivial⟩⟩⟩⟩⟩⟩⟩
def eb_J0_isLatin1_aae02_17 : List (nl_I × Nat × Nat) := [(ni_ic 0, 17, 18), (ni_fall 0 18, 18, 18)]
set_option maxRecDepth 100000 in
theorem ev_J0_isLatin1_aae02_17 {G : nl_G} {l : Launch} : nl_OKB G l m_J0_isLatin1_aae02 eb_J0_isLatin1_aae02_17 := ⟨no_ic (n := 0) (by decide +kernel) rfl, rfl, ⟨no_fall, trivial, trivial⟩⟩
def eb_J0_isLatin1_aae02_18 : List (nl_I × Nat × Nat) := [(ni_iret, 18, 19)]
set_option maxRecDepth 100000 in
theorem ev_J0_isLatin1_aae02_18 {G : nl_G} {l : Launch} : nl_OKB G l m_J0_isLatin1_aae02 eb_J0_isLatin1_aae02_18 := ⟨no_iret (by decide +kernel), trivial, trivial⟩
def tb_J0_isLatin1_aae02 : List (Nat × List (nl_I × Nat × Nat)) := [(0, eb_J0_isLatin1_aae02_0), (17, eb_J0_isLatin1_aae02_17), (18, eb_J0_isLatin1_aae02_18)]
theorem ok_J0_isLatin1_aae02 {G : nl_G} {l : Launch} : nl_OKC G l m_J0_isLatin1_aae02 (nl_cd tb_J0_isLatin1_aae02) := nl_OKC_of (List.forall_mem_cons.mpr ⟨⟨_, _, rfl, rfl, ev_J0_isLatin1_aae02_0⟩, List.forall_mem_cons.mpr ⟨⟨_, _, rfl, rfl, ev_J0_isLatin1_aae02_17⟩, List.forall_mem_cons.mpr ⟨⟨_, _, rfl, rfl, ev_J0_isLatin1_aae02_18⟩,  fun _ h => absurd h List.not_mem_nil⟩⟩⟩)
theorem cb_J0_isLatin1_aae02_0 : nl_cd tb_J0_isLatin1_aae02 0 = [ni_fn 0 fj_cs, ni_ifeq 0 17, ni_ldR 0, ni_fn 1 fj_cod, ni_ifne 0 17, ni_ic 1, ni_go 0 18] := rfl
theorem cb_J0_isLatin1_aae02_17 : nl_cd tb_J0_isLatin1_aae02 17 = [ni_ic 0, ni_fall 0 18] := rfl
theorem cb_J0_isLatin1_aae02_18 : nl_cd tb_J0_isLatin1_aae02 18 = [ni_iret] := rfl
def eb_J0_length_8abf5_0 : List (nl_I × Nat × Nat) := [(ni_ldR 0, 0, 1), (ni_fn 1 fj_val, 1, 4), (ni_fn 1 fj_len, 4, 5), (ni_ldR 0, 5, 6), (ni_call 3 1 0 m_J0_coder_7d493, 6, 9), (ni_fn 2 fj_shr, 9, 10), (ni_iret, 10, 11)]
set_option maxRecDepth 100000 in
theorem ev_J0_length_8abf5_0 {G : nl_G} {l : Launch} : nl_OKB G l m_J0_length_8abf5 eb_J0_length_8abf5_0 := ⟨no_ldRn (j := 0) (a := 0) (by decide +kernel) rfl, rfl, ⟨nj_val (idx := 9) (by decide +kernel) (nl_W_in (i := 1335) rfl rfl), rfl, ⟨nj_len (by decide +kernel), rfl, ⟨no_ldRn (j := 0) (a := 0) (by decide +kernel) rfl, rfl, ⟨no_callT (idx := 335) rfl hm_J0_coder_7d493 ⟨rfl, rfl⟩ rfl (by decide +kernel) (nl_W_in (i := 577) rfl rfl), rfl, ⟨nj_shr (by decide +kernel), rfl, ⟨no_iret (by decide +kernel), trivial, trivial⟩⟩⟩⟩⟩⟩⟩
def tb_J0_length_8abf5 : List (Nat × List (nl_I × Nat × Nat)) := [(0, eb_J0_length_8abf5_0)]
theorem ok_J0_length_8abf5 {G : nl_G} {l : Launch} : nl_OKC G l m_J0_length_8abf5 (nl_cd tb_J0_length_8abf5) := nl_OKC_of (List.forall_mem_cons.mpr ⟨⟨_, _, rfl, rfl, ev_J0_length_8abf5_0⟩,  fun _ h => absurd h List.not_mem_nil⟩)
theorem cb_J0_length_8abf5_0 : nl_cd tb_J0_length_8abf5 0 = [ni_ldR 0, ni_fn 1 fj_val, ni_fn 1 fj_len, ni_ldR 0, ni_call 3 1 0 m_J0_coder_7d493, ni_fn 2 fj_shr, ni_iret] := rfl
def eb_J0_indexOf_7cf53_0 : List (nl_I × Nat × Nat) := [(ni_ldR 0, 0, 1), (ni_call 3 1 0 m_J0_isLatin1_aae02, 1, 4), (ni_ifeq 0 23, 4, 7), (ni_ldR 0, 7, 8), (ni_fn 1 fj_val, 8, 11), (ni_ldI 1, 11, 12), (ni_ldI 2, 12, 13), (ni_ldR 0, 13, 14), (ni_call 3 1 0 m_J0_length_8abf5, 14, 17), (ni_call 0 4 0 m_J1_indexOf_4cfef, 17, 20), (ni_go 0 36, 20, 23)]
set_option maxRecDepth 100000 in
theorem ev_J0_indexOf_7cf53_0 {G : nl_G} {l : Launch} : nl_OKB G l m_J0_indexOf_7cf53 eb_J0_indexOf_7cf53_0 := ⟨no_ldRn (j := 0) (a := 0) (by decide +kernel) rfl, rfl, ⟨no_callT (idx := 492) rfl hm_J0_isLatin1_aae02 ⟨rfl, rfl⟩ rfl (by decide +kernel) (nl_W_in (i := 567) rfl rfl), rfl, ⟨no_ifeq (off := 19) (by decide +kernel) (by decide), rfl, ⟨no_ldRn (j := 0) (a := 0) (by decide +kernel) rfl, rfl, ⟨nj_val (idx := 9) (by decide +kernel) (nl_W_in (i := 1335) rfl rfl), rfl, ⟨no_ldIn (j := 1) (a := 1) (by decide +kernel) rfl, rfl, ⟨no_ldIn (j := 2) (a := 2) (by decide +kernel) rfl, rfl, ⟨no_ldRn (j := 0) (a := 0) (by decide +kernel) rfl, rfl, ⟨no_callT (idx := 505) rfl hm_J0_length_8abf5 ⟨rfl, rfl⟩ rfl (by decide +kernel) (nl_W_in (i := 573) rfl rfl), rfl, ⟨no_callS (idx := 637) hm_J1_indexOf_4cfef ⟨rfl, rfl⟩ rfl (by decide +kernel) (nl_W_in (i := 581) rfl rfl), rfl, ⟨no_go (off := 16) (by decide +kernel) (by decide), trivial, trivial⟩⟩⟩⟩⟩⟩⟩⟩⟩⟩⟩
def eb_J0_indexOf_7cf53_36 : List (nl_I × Nat × Nat) := [(ni_iret, 36, 37)]
set_option maxRecDepth 100000 in
theorem ev_J0_indexOf_7cf53_36 {G : nl_G} {l : Launch} : nl_OKB G l m_J0_indexOf_7cf53 eb_J0_indexOf_7cf53_36 := ⟨no_iret (by decide +kernel), trivial, trivial⟩
def tb_J0_indexOf_7cf53 : List (Nat × List (nl_I × Nat × Nat)) := [(0, eb_J0_indexOf_7cf53_0), (36, eb_J0_indexOf_7cf53_36)]
theorem ok_J0_indexOf_7cf53 {G : nl_G} {l : Launch} : nl_OKC G l m_J0_indexOf_7cf53 (nl_cd tb_J0_indexOf_7cf53) := nl_OKC_of (List.forall_mem_cons.mpr ⟨⟨_, _, rfl, rfl, ev_J0_indexOf_7cf53_0⟩, List.forall_mem_cons.mpr ⟨⟨_, _, rfl, rfl, ev_J0_indexOf_7cf53_36⟩,  fun _ h => absurd h List.not_mem_nil⟩⟩)
theorem cb_J0_indexOf_7cf53_0 : nl_cd tb_J0_indexOf_7cf53 0 = [ni_ldR 0, ni_call 3 1 0 m_J0_isLatin1_aae02, ni_ifeq 0 23, ni_ldR 0, ni_fn 1 fj_val, ni_ldI 1, ni_ldI 2, ni_ldR 0, ni_call 3 1 0 m_J0_length_8abf5, ni_call 0 4 0 m_J1_indexOf_4cfef, ni_go 0 36] := rfl
theorem cb_J0_indexOf_7cf53_36 : nl_cd tb_J0_indexOf_7cf53 36 = [ni_iret] := rfl
def eb_J0_indexOf_0f7a4_0 : List (nl_I × Nat × Nat) := [(ni_ldR 0, 0, 1), (ni_ldI 1, 1, 2), (ni_ic 0, 2, 3), (ni_call 3 3 0 m_J0_indexOf_7cf53, 3, 6), (ni_iret, 6, 7)]
set_option maxRecDepth 100000 in
theorem ev_J0_indexOf_0f7a4_0 {G : nl_G} {l : Launch} : nl_OKB G l m_J0_indexOf_0f7a4 eb_J0_indexOf_0f7a4_0 := ⟨no_ldRn (j := 0) (a := 0) (by decide +kernel) rfl, rfl, ⟨no_ldIn (j := 1) (a := 1) (by decide +kernel) rfl, rfl, ⟨no_ic (n := 0) (by decide +kernel) rfl, rfl, ⟨no_callT (idx := 633) rfl hm_J0_indexOf_7cf53 ⟨rfl, rfl⟩ rfl (by decide +kernel) (nl_W_in (i := 563) rfl rfl), rfl, ⟨no_iret (by decide +kernel), trivial, trivial⟩⟩⟩⟩⟩
def tb_J0_indexOf_0f7a4 : List (Nat × List (nl_I × Nat × Nat)) := [(0, eb_J0_indexOf_0f7a4_0)]
theorem ok_J0_indexOf_0f7a4 {G : nl_G} {l : Launch} : nl_OKC G l m_J0_indexOf_0f7a4 (nl_cd tb_J0_indexOf_0f7a4) := nl_OKC_of (List.forall_mem_cons.mpr ⟨⟨_, _, rfl, rfl, ev_J0_indexOf_0f7a4_0⟩,  fun _ h => absurd h List.not_mem_nil⟩)
theorem cb_J0_indexOf_0f7a4_0 : nl_cd tb_J0_indexOf_0f7a4 0 = [ni_ldR 0, ni_ldI 1, ni_ic 0, ni_call 3 3 0 m_J0_indexOf_7cf53, ni_iret] := rfl

def f_X8_sheet (cs : CS) (v1 : Int32) : Option ((Int32 ⊕ String) × CS) := (f_X7_isWidth cs v1).bind fun r1 => if r1 = 0 then (some (.inr "java/lang/IllegalArgumentException", cs)) else (b2 (f_X7_open cs v1) fun r4 cs3 => if r4 = (-1 : Int32) then (some (.inr "java/lang/IllegalStateException", cs3)) else (some (.inl r4, cs3)))
def rm_X8_sheet : Room := { frames := 10, cells := 1, slots := 6, locals := 150 }
set_option maxHeartbeats 4000000 in
set_option maxRecDepth 100000 in
theorem c_X8_sheet (l : Launch) (hl0 : l.stackTraces = false) {X : XT} {B : Nat} {cs : CS} {ms : MS} {o : Nat → Int64} {v1 : Int32} {r : Int32 ⊕ String} {S9 : CS} (hf : f_X8_sheet cs v1 = some (r, S9)) : vx_Met l yX8_sheet (.code yX8_sheet cX8_sheet 3 (some .int) :: BIG) rm_X8_sheet (Pre X B (cs, ms, o) [.ref (X.1 0), .int v1]) (QXI X B r (S9, ms, o)) (XCx X B r (S9, ms, o)) 1 6 (Ab B) := by
  refine xentry (by decide +kernel) rfl (Nat.le_of_ble_eq_true rfl) (fun p e s m below meth c ls E hxt hW hl => ?_)
  obtain ⟨hx, hb, hml, hown, hts, -⟩ := id E
  replace hl : lv_has ls 3 [(0, .ref (X.1 0)), (1, .int v1)] := hl
  unfold f_X8_sheet at hf
  refine lv_iload_n hx hb dX8_sheet_0 rfl (lv_at hl 1 rfl) ?_
  obtain ⟨r1, hc, hf⟩ := b1_e hf
  refine callSI (As := [.int _]) (rest := []) E hW (c_X7_isWidth l hc) lk_X8_80 (Nat.le_of_ble_eq_true rfl) (Nat.le_of_ble_eq_true rfl) (Nat.le_of_ble_eq_true rfl) (Nat.le_of_ble_eq_true rfl) hl.1 (Nat.le_of_ble_eq_true rfl) dX8_sheet_1 (fun H locs hW => ?_)
  refine lv_if_ne (tgt := 17) hx hb dX8_sheet_4 (by decide) (fun h2 => ?_) (fun h2 => ?_)
  · replace hf := ite_f h2 hf
    refine lv_aload_n hx hb dX8_sheet_17 rfl (lv_at hl 0 rfl) ?_
    refine rg_X8_10 E hW dX8_sheet_18 ?_
    refine lv_iload_n hx hb dX8_sheet_21 rfl (lv_at hl 1 rfl) ?_
    obtain ⟨r4, cs3, hc, hf⟩ := b2_e hf
    refine callVI (As := [.int _]) (rest := []) E hW (c_X7_open l hc) lk_X8_91 rcv_X7 (Nat.le_of_ble_eq_true rfl) (Nat.le_of_ble_eq_true rfl) (Nat.le_of_ble_eq_true rfl) (Nat.le_of_ble_eq_true rfl) hl.1 (Nat.le_of_ble_eq_true rfl) dX8_sheet_22 (fun H locs hW => ?_)
    refine lv_istore_n (lv' := [_, _, _]) hx hb dX8_sheet_25 rfl hl (by decide) rfl (fun ls hl => ?_)
    refine lv_iload_n hx hb dX8_sheet_26 rfl (lv_at hl 0 rfl) ?_
    refine lv_iconst (v := (-1 : Int32)) hx hb dX8_sheet_27 (by decide) ?_
    refine lv_icmp_ne (tgt := 41) hx hb dX8_sheet_28 (by decide) (fun h5 => ?_) (fun h5 => ?_)
    · replace hf := ite_f h5 hf
      refine lv_iload_n hx hb dX8_sheet_41 rfl (lv_at hl 0 rfl) ?_
      refine W.widen (k := 1) (n := 6) (by decide) (by decide) ?_
      exact vx_ret (retIX E hW (exC hf) dX8_sheet_42)
    · replace hf := ite_t h5 hf
      exact throwS E hl0 hxt hW th_X8_95_97_99 dX8_sheet_31 dX8_sheet_34 dX8_sheet_35 dX8_sheet_37 dX8_sheet_40 (etC hf) (Nat.le_of_ble_eq_true rfl) (Nat.le_of_ble_eq_true rfl) (Nat.le_of_ble_eq_true rfl) (Nat.le_of_ble_eq_true rfl) (Nat.le_of_ble_eq_true rfl) (by decide) (by decide) (hl.1.trans hml.symm)
  · replace hf := ite_t h2 hf
    exact throwS E hl0 hxt hW th_X8_84_86_88 dX8_sheet_7 dX8_sheet_10 dX8_sheet_11 dX8_sheet_13 dX8_sheet_16 (etC hf) (Nat.le_of_ble_eq_true rfl) (Nat.le_of_ble_eq_true rfl) (Nat.le_of_ble_eq_true rfl) (Nat.le_of_ble_eq_true rfl) (Nat.le_of_ble_eq_true rfl) (by decide) (by decide) (hl.1.trans hml.symm)
def f_X8_slotOf (cs : CS) (v1 : Int32) (v2 : Int32) : Option ((Int32 ⊕ String) × CS) := (f_X7_slotAt cs v1 v2).bind fun r1 => if r1 = (-1 : Int32) then (some (.inr "java/lang/IndexOutOfBoundsException", cs)) else (some (.inl r1, cs))
def rm_X8_slotOf : Room := { frames := 10, cells := 1, slots := 6, locals := 150 }
set_option maxHeartbeats 4000000 in
set_option maxRecDepth 100000 in
theorem c_X8_slotOf (l : Launch) (hl0 : l.stackTraces = false) {X : XT} {B : Nat} {cs : CS} {ms : MS} {o : Nat → Int64} {v1 : Int32} {v2 : Int32} {r : Int32 ⊕ String} {S9 : CS} (hf : f_X8_slotOf cs v1 v2 = some (r, S9)) : vx_Met l yX8_slotOf (.code yX8_slotOf cX8_slotOf 4 (some .int) :: BIG) rm_X8_slotOf (Pre X B (cs, ms, o) [.ref (X.1 0), .int v1, .int v2]) (QXI X B r (S9, ms, o)) (XCx X B r (S9, ms, o)) 1 6 (Ab B) := by
  refine xentry (by decide +kernel) rfl (Nat.le_of_ble_eq_true rfl) (fun p e s m below meth c ls E hxt hW hl => ?_)
  obtain ⟨hx, hb, hml, hown, hts, -⟩ := id E
  replace hl : lv_has ls 4 [(0, .ref (X.1 0)), (1, .int v1), (2, .int v2)] := hl
  unfold f_X8_slotOf at hf
  refine lv_aload_n hx hb dX8_slotOf_0 rfl (lv_at hl 0 rfl) ?_
  refine rg_X8_10 E hW dX8_slotOf_1 ?_
  refine lv_iload_n hx hb dX8_slotOf_4 rfl (lv_at hl 1 rfl) ?_
  refine lv_iload_n hx hb dX8_slotOf_5 rfl (lv_at hl 2 rfl) ?_
  obtain ⟨r1, hc, hf⟩ := b1_e hf
  refine callVI (As := [.int _, .int _]) (rest := []) E hW (c_X7_slotAt l hc) lk_X8_115 rcv_X7 (Nat.le_of_ble_eq_true rfl) (Nat.le_of_ble_eq_true rfl) (Nat.le_of_ble_eq_true rfl) (Nat.le_of_ble_eq_true rfl) hl.1 (Nat.le_of_ble_eq_true rfl) dX8_slotOf_6 (fun H locs hW => ?_)
  refine lv_istore_n (lv' := [_, _, _, _]) hx hb dX8_slotOf_9 rfl hl (by decide) rfl (fun ls hl => ?_)
  refine lv_iload_n hx hb dX8_slotOf_10 rfl (lv_at hl 0 rfl) ?_
  refine lv_iconst (v := (-1 : Int32)) hx hb dX8_slotOf_11 (by decide) ?_
  refine lv_icmp_ne (tgt := 25) hx hb dX8_slotOf_12 (by decide) (fun h2 => ?_) (fun h2 => ?_)
  · replace hf := ite_f h2 hf
    refine lv_iload_n hx hb dX8_slotOf_25 rfl (lv_at hl 0 rfl) ?_
    refine W.widen (k := 1) (n := 6) (by decide) (by decide) ?_
    exact vx_ret (retIX E hW (exC hf) dX8_slotOf_26)
  · replace hf := ite_t h2 hf
    exact throwS E hl0 hxt hW th_X8_118_120_122 dX8_slotOf_15 dX8_slotOf_18 dX8_slotOf_19 dX8_slotOf_21 dX8_slotOf_24 (etC hf) (Nat.le_of_ble_eq_true rfl) (Nat.le_of_ble_eq_true rfl) (Nat.le_of_ble_eq_true rfl) (Nat.le_of_ble_eq_true rfl) (Nat.le_of_ble_eq_true rfl) (by decide) (by decide) (hl.1.trans hml.symm)
def f_X8_row (cs : CS) (v1 : Int32) (v2 : Int32) (v3 : Int32) : Option ((Int32 ⊕ String) × CS) := bx (f_X8_slotOf cs v1 v2) fun b3 cs2 => if v3 < 0 then (some (.inl (-1 : Int32), cs2)) else (if v3 ≤ (12 : Int32) then ((f_X7_renew cs2 b3 v3).bind fun cs9 => some (.inl v3, cs9)) else (some (.inl (-1 : Int32), cs2)))
def rm_X8_row : Room := { frames := 11, cells := 1, slots := 6, locals := 173 }
set_option maxHeartbeats 4000000 in
set_option maxRecDepth 100000 in
theorem c_X8_row (l : Launch) (hl0 : l.stackTraces = false) {X : XT} {B : Nat} {cs : CS} {ms : MS} {o : Nat → Int64} {v1 : Int32} {v2 : Int32} {v3 : Int32} {r : Int32 ⊕ String} {S9 : CS} (hf : f_X8_row cs v1 v2 v3 = some (r, S9)) : vx_Met l yX8_row (.code yX8_row cX8_row 5 (some .int) :: BIG) rm_X8_row (Pre X B (cs, ms, o) [.ref (X.1 0), .int v1, .int v2, .int v3]) (QXI X B r (S9, ms, o)) (XCx X B r (S9, ms, o)) 1 6 (Ab B) := by
  refine xentry (by decide +kernel) rfl (Nat.le_of_ble_eq_true rfl) (fun p e s m below meth c ls E hxt hW hl => ?_)
  obtain ⟨hx, hb, hml, hown, hts, -⟩ := id E
  replace hl : lv_has ls 5 [(0, .ref (X.1 0)), (1, .int v1), (2, .int v2), (3, .int v3)] := hl
  unfold f_X8_row at hf
  refine lv_aload_n hx hb dX8_row_0 rfl (lv_at hl 0 rfl) ?_
  refine lv_iload_n hx hb dX8_row_1 rfl (lv_at hl 1 rfl) ?_
  refine lv_iload_n hx hb dX8_row_2 rfl (lv_at hl 2 rfl) ?_
  obtain ⟨r1, cs2, hc, k4, e5⟩ := bx_e hf
  refine xcallVI (As := [.int _, .int _]) (rest := []) E hW (c_X8_slotOf l hl0 hc) lk_X8_100 rcv_X8 (Nat.le_of_ble_eq_true rfl) (Nat.le_of_ble_eq_true rfl) (Nat.le_of_ble_eq_true rfl) (Nat.le_of_ble_eq_true rfl) hl.1 (Nat.le_of_ble_eq_true rfl) dX8_row_3 hxt (by decide) (by decide) (fun z hz => by have q9 := e5 z hz; cases q9; exact ⟨rfl, rfl⟩) (fun b3 q6 H locs hW => ?_)
  replace hf := k4 b3 q6
  refine lv_istore (lv' := [_, _, _, _, _]) hx hb dX8_row_6 hl (by decide) rfl (fun ls hl => ?_)
  refine lv_iload_n hx hb dX8_row_8 rfl (lv_at hl 4 rfl) ?_
  refine lv_if_lt (tgt := 18) hx hb dX8_row_9 (by decide) (fun h7 => ?_) (fun h7 => ?_)
  · replace hf := ite_t h7 hf
    refine lv_iconst (v := (-1 : Int32)) hx hb dX8_row_18 (by decide) ?_
    exact vx_ret (retIX E hW (exC hf) dX8_row_19)
  · replace hf := ite_f h7 hf
    refine lv_iload_n hx hb dX8_row_12 rfl (lv_at hl 4 rfl) ?_
    refine lv_bipush (v := (12 : Int32)) hx hb dX8_row_13 (by decide) ?_
    refine lv_icmp_le (tgt := 20) hx hb dX8_row_15 (by decide) (fun h8 => ?_) (fun h8 => ?_)
    · replace hf := ite_t h8 hf
      refine lv_aload_n hx hb dX8_row_20 rfl (lv_at hl 1 rfl) ?_
      refine rg_X8_10 E hW dX8_row_21 ?_
      refine lv_iload hx hb dX8_row_24 (lv_at hl 0 rfl) ?_
      refine lv_iload_n hx hb dX8_row_26 rfl (lv_at hl 4 rfl) ?_
      obtain ⟨cs9, hc, hf⟩ := b1_e hf
      refine callVV (As := [.int _, .int _]) (rest := []) E hW (c_X7_renew l hc) lk_X8_104 rcv_X7 (Nat.le_of_ble_eq_true rfl) (Nat.le_of_ble_eq_true rfl) (Nat.le_of_ble_eq_true rfl) (Nat.le_of_ble_eq_true rfl) hl.1 (Nat.le_of_ble_eq_true rfl) dX8_row_27 (fun H locs hW => ?_)
      refine lv_iload_n hx hb dX8_row_30 rfl (lv_at hl 4 rfl) ?_
      exact vx_ret (retIX E hW (exC hf) dX8_row_31)
    · replace hf := ite_f h8 hf
      refine lv_iconst (v := (-1 : Int32)) hx hb dX8_row_18 (by decide) ?_
      exact vx_ret (retIX E hW (exC hf) dX8_row_19)
def f_X8_put (cs : CS) (v1 : Int32) (v2 : Int32) (v3 : Int32) (v4 : Int64) : Option ((Int32 ⊕ String) × CS) := bx (f_X8_slotOf cs v1 v2) fun b3 cs2 => (f_X7_lengthAt cs2 b3).bind fun r7 => if r7 = (-1 : Int32) then (some (.inl (-1 : Int32), cs2)) else (b2 (f_X7_write cs2 b3 v3 v4) fun r10 cs9 => if r10 = 0 then (some (.inl (-2 : Int32), cs9)) else (some (.inl (1 : Int32), cs9)))
def rm_X8_put : Room := { frames := 11, cells := 1, slots := 6, locals := 173 }
set_option maxHeartbeats 4000000 in
set_option maxRecDepth 100000 in
theorem c_X8_put (l : Launch) (hl0 : l.stackTraces = false) {X : XT} {B : Nat} {cs : CS} {ms : MS} {o : Nat → Int64} {v1 : Int32} {v2 : Int32} {v3 : Int32} {v4 : Int64} {r : Int32 ⊕ String} {S9 : CS} (hf : f_X8_put cs v1 v2 v3 v4 = some (r, S9)) : vx_Met l yX8_put (.code yX8_put cX8_put 7 (some .int) :: BIG) rm_X8_put (Pre X B (cs, ms, o) [.ref (X.1 0), .int v1, .int v2, .int v3, .long v4]) (QXI X B r (S9, ms, o)) (XCx X B r (S9, ms, o)) 1 6 (Ab B) := by
  refine xentry (by decide +kernel) rfl (Nat.le_of_ble_eq_true rfl) (fun p e s m below meth c ls E hxt hW hl => ?_)
  obtain ⟨hx, hb, hml, hown, hts, -⟩ := id E
  replace hl : lv_has ls 7 [(0, .ref (X.1 0)), (1, .int v1), (2, .int v2), (3, .int v3), (4, .long v4)] := hl
  unfold f_X8_put at hf
  refine lv_aload_n hx hb dX8_put_0 rfl (lv_at hl 0 rfl) ?_
  refine lv_iload_n hx hb dX8_put_1 rfl (lv_at hl 1 rfl) ?_
  refine lv_iload_n hx hb dX8_put_2 rfl (lv_at hl 2 rfl) ?_
  obtain ⟨r1, cs2, hc, k4, e5⟩ := bx_e hf
  refine xcallVI (As := [.int _, .int _]) (rest := []) E hW (c_X8_slotOf l hl0 hc) lk_X8_100 rcv_X8 (Nat.le_of_ble_eq_true rfl) (Nat.le_of_ble_eq_true rfl) (Nat.le_of_ble_eq_true rfl) (Nat.le_of_ble_eq_true rfl) hl.1 (Nat.le_of_ble_eq_true rfl) dX8_put_3 hxt (by decide) (by decide) (fun z hz => by have q9 := e5 z hz; cases q9; exact ⟨rfl, rfl⟩) (fun b3 q6 H locs hW => ?_)
  replace hf := k4 b3 q6
  refine lv_istore (lv' := [_, _, _, _, _, _]) hx hb dX8_put_6 hl (by decide) rfl (fun ls hl => ?_)
  refine lv_aload_n hx hb dX8_put_8 rfl (lv_at hl 1 rfl) ?_
  refine rg_X8_10 E hW dX8_put_9 ?_
  refine lv_iload hx hb dX8_put_12 (lv_at hl 0 rfl) ?_
  obtain ⟨r7, hc, hf⟩ := b1_e hf
  refine callVI (As := [.int _]) (rest := []) E hW (c_X7_lengthAt l hc) lk_X8_108 rcv_X7 (Nat.le_of_ble_eq_true rfl) (Nat.le_of_ble_eq_true rfl) (Nat.le_of_ble_eq_true rfl) (Nat.le_of_ble_eq_true rfl) hl.1 (Nat.le_of_ble_eq_true rfl) dX8_put_14 (fun H locs hW => ?_)
  refine lv_iconst (v := (-1 : Int32)) hx hb dX8_put_17 (by decide) ?_
  refine lv_icmp_ne (tgt := 23) hx hb dX8_put_18 (by decide) (fun h8 => ?_) (fun h8 => ?_)
  · replace hf := ite_f h8 hf
    refine lv_aload_n hx hb dX8_put_23 rfl (lv_at hl 1 rfl) ?_
    refine rg_X8_10 E hW dX8_put_24 ?_
    refine lv_iload hx hb dX8_put_27 (lv_at hl 0 rfl) ?_
    refine lv_iload_n hx hb dX8_put_29 rfl (lv_at hl 4 rfl) ?_
    refine lv_lload hx hb dX8_put_30 (lv_at hl 5 rfl) ?_
    obtain ⟨r10, cs9, hc, hf⟩ := b2_e hf
    refine callVI (As := [.int _, .int _, .long _]) (rest := []) E hW (c_X7_write l hc) lk_X8_111 rcv_X7 (Nat.le_of_ble_eq_true rfl) (Nat.le_of_ble_eq_true rfl) (Nat.le_of_ble_eq_true rfl) (Nat.le_of_ble_eq_true rfl) hl.1 (Nat.le_of_ble_eq_true rfl) dX8_put_32 (fun H locs hW => ?_)
    refine lv_if_eq (tgt := 42) hx hb dX8_put_35 (by decide) (fun h11 => ?_) (fun h11 => ?_)
    · replace hf := ite_t h11 hf
      refine lv_bipush (v := (-2 : Int32)) hx hb dX8_put_42 (by decide) ?_
      exact vx_ret (retIX E hW (exC hf) dX8_put_44)
    · replace hf := ite_f h11 hf
      refine lv_iconst (v := (1 : Int32)) hx hb dX8_put_38 (by decide) ?_
      refine lv_goto (tgt := 44) hx hb dX8_put_39 (by decide) ?_
      exact vx_ret (retIX E hW (exC hf) dX8_put_44)
  · replace hf := ite_t h8 hf
    refine lv_iconst (v := (-1 : Int32)) hx hb dX8_put_21 (by decide) ?_
    exact vx_ret (retIX E hW (exC hf) dX8_put_22)
def f_X8_tear (cs : CS) (v1 : Int32) (v2 : Int32) : Option ((Int32 ⊕ String) × CS) := bx (f_X8_slotOf cs v1 v2) fun b3 cs2 => (f_X7_lengthAt cs2 b3).bind fun r7 => if r7 = (-1 : Int32) then (some (.inl (0 : Int32), cs2)) else ((f_X7_renew cs2 b3 (-1 : Int32)).bind fun cs9 => some (.inl (1 : Int32), cs9))
def rm_X8_tear : Room := { frames := 11, cells := 1, slots := 6, locals := 173 }
set_option maxHeartbeats 4000000 in
set_option maxRecDepth 100000 in
theorem c_X8_tear (l : Launch) (hl0 : l.stackTraces = false) {X : XT} {B : Nat} {cs : CS} {ms : MS} {o : Nat → Int64} {v1 : Int32} {v2 : Int32} {r : Int32 ⊕ String} {S9 : CS} (hf : f_X8_tear cs v1 v2 = some (r, S9)) : vx_Met l yX8_tear (.code yX8_tear cX8_tear 4 (some .int) :: BIG) rm_X8_tear (Pre X B (cs, ms, o) [.ref (X.1 0), .int v1, .int v2]) (QXI X B r (S9, ms, o)) (XCx X B r (S9, ms, o)) 1 6 (Ab B) := by
  refine xentry (by decide +kernel) rfl (Nat.le_of_ble_eq_true rfl) (fun p e s m below meth c ls E hxt hW hl => ?_)
  obtain ⟨hx, hb, hml, hown, hts, -⟩ := id E
  replace hl : lv_has ls 4 [(0, .ref (X.1 0)), (1, .int v1), (2, .int v2)] := hl
  unfold f_X8_tear at hf
  refine lv_aload_n hx hb dX8_tear_0 rfl (lv_at hl 0 rfl) ?_
  refine lv_iload_n hx hb dX8_tear_1 rfl (lv_at hl 1 rfl) ?_
  refine lv_iload_n hx hb dX8_tear_2 rfl (lv_at hl 2 rfl) ?_
  obtain ⟨r1, cs2, hc, k4, e5⟩ := bx_e hf
  refine xcallVI (As := [.int _, .int _]) (rest := []) E hW (c_X8_slotOf l hl0 hc) lk_X8_100 rcv_X8 (Nat.le_of_ble_eq_true rfl) (Nat.le_of_ble_eq_true rfl) (Nat.le_of_ble_eq_true rfl) (Nat.le_of_ble_eq_true rfl) hl.1 (Nat.le_of_ble_eq_true rfl) dX8_tear_3 hxt (by decide) (by decide) (fun z hz => by have q9 := e5 z hz; cases q9; exact ⟨rfl, rfl⟩) (fun b3 q6 H locs hW => ?_)
  replace hf := k4 b3 q6
  refine lv_istore_n (lv' := [_, _, _, _]) hx hb dX8_tear_6 rfl hl (by decide) rfl (fun ls hl => ?_)
  refine lv_aload_n hx hb dX8_tear_7 rfl (lv_at hl 1 rfl) ?_
  refine rg_X8_10 E hW dX8_tear_8 ?_
  refine lv_iload_n hx hb dX8_tear_11 rfl (lv_at hl 0 rfl) ?_
  obtain ⟨r7, hc, hf⟩ := b1_e hf
  refine callVI (As := [.int _]) (rest := []) E hW (c_X7_lengthAt l hc) lk_X8_108 rcv_X7 (Nat.le_of_ble_eq_true rfl) (Nat.le_of_ble_eq_true rfl) (Nat.le_of_ble_eq_true rfl) (Nat.le_of_ble_eq_true rfl) hl.1 (Nat.le_of_ble_eq_true rfl) dX8_tear_12 (fun H locs hW => ?_)
  refine lv_iconst (v := (-1 : Int32)) hx hb dX8_tear_15 (by decide) ?_
  refine lv_icmp_ne (tgt := 21) hx hb dX8_tear_16 (by decide) (fun h8 => ?_) (fun h8 => ?_)
  · replace hf := ite_f h8 hf
    refine lv_aload_n hx hb dX8_tear_21 rfl (lv_at hl 1 rfl) ?_
    refine rg_X8_10 E hW dX8_tear_22 ?_
    refine lv_iload_n hx hb dX8_tear_25 rfl (lv_at hl 0 rfl) ?_
    refine lv_iconst (v := (-1 : Int32)) hx hb dX8_tear_26 (by decide) ?_
    obtain ⟨cs9, hc, hf⟩ := b1_e hf
    refine callVV (As := [.int _, .int _]) (rest := []) E hW (c_X7_renew l hc) lk_X8_104 rcv_X7 (Nat.le_of_ble_eq_true rfl) (Nat.le_of_ble_eq_true rfl) (Nat.le_of_ble_eq_true rfl) (Nat.le_of_ble_eq_true rfl) hl.1 (Nat.le_of_ble_eq_true rfl) dX8_tear_27 (fun H locs hW => ?_)
    refine lv_iconst (v := (1 : Int32)) hx hb dX8_tear_30 (by decide) ?_
    exact vx_ret (retIX E hW (exC hf) dX8_tear_31)
  · replace hf := ite_t h8 hf
    refine lv_iconst (v := (0 : Int32)) hx hb dX8_tear_19 (by decide) ?_
    exact vx_ret (retIX E hW (exC hf) dX8_tear_20)
def f_X8_feed (cs : CS) (v1 : Int32) (v2 : Int32) (v3 : Int32) (v4 : Int32) (v5 : Int32) : Option (Int32 × CS) := (f_X4_hasRoomToFeed cs ).bind fun r1 => if r1 = 0 then (some ((-1 : Int32), cs)) else ((f_X4_append cs v1).bind fun cs3 => (f_X4_append cs3 v2).bind fun cs4 => (f_X4_append cs4 v3).bind fun cs5 => (f_X4_append cs5 v4).bind fun cs6 => (f_X4_append cs6 v5).bind fun cs7 => (f_X4_fed cs7 ).bind fun r8 => some (r8, cs7))
def rm_X8_feed : Room := { frames := 1, cells := 0, slots := 0, locals := 22 }
set_option maxHeartbeats 4000000 in
set_option maxRecDepth 100000 in
theorem c_X8_feed (l : Launch) {X : XT} {B : Nat} {cs : CS} {ms : MS} {o : Nat → Int64} {v1 : Int32} {v2 : Int32} {v3 : Int32} {v4 : Int32} {v5 : Int32} {r : Int32} {S9 : CS} (hf : f_X8_feed cs v1 v2 v3 v4 v5 = some (r, S9)) : Met l yX8_feed (.code yX8_feed cX8_feed 6 (some .int) :: BIG) rm_X8_feed (Pre X B (cs, ms, o) [.ref (X.1 0), .int v1, .int v2, .int v3, .int v4, .int v5]) (QI X B r (S9, ms, o)) 0 0 (Ab B) := by
  refine entry (by decide +kernel) rfl (Nat.le_of_ble_eq_true rfl) (fun p e s m below meth c ls E hW hl => ?_)
  obtain ⟨hx, hb, hml, hown, hts, -⟩ := id E
  replace hl : lv_has ls 6 [(0, .ref (X.1 0)), (1, .int v1), (2, .int v2), (3, .int v3), (4, .int v4), (5, .int v5)] := hl
  unfold f_X8_feed at hf
  refine lv_aload_n hx hb dX8_feed_0 rfl (lv_at hl 0 rfl) ?_
  refine rg_X8_19 E hW dX8_feed_1 ?_
  obtain ⟨r1, hc, hf⟩ := b1_e hf
  refine callVI (As := []) (rest := []) E hW (c_X4_hasRoomToFeed l hc) lk_X8_123 rcv_X4 (Nat.le_of_ble_eq_true rfl) (Nat.le_of_ble_eq_true rfl) (Nat.le_of_ble_eq_true rfl) (Nat.le_of_ble_eq_true rfl) hl.1 (Nat.le_of_ble_eq_true rfl) dX8_feed_4 (fun H locs hW => ?_)
  refine lv_if_ne (tgt := 12) hx hb dX8_feed_7 (by decide) (fun h2 => ?_) (fun h2 => ?_)
  · replace hf := ite_f h2 hf
    refine lv_aload_n hx hb dX8_feed_12 rfl (lv_at hl 0 rfl) ?_
    refine rg_X8_19 E hW dX8_feed_13 ?_
    refine lv_iload_n hx hb dX8_feed_16 rfl (lv_at hl 1 rfl) ?_
    obtain ⟨cs3, hc, hf⟩ := b1_e hf
    refine callVV (As := [.int _]) (rest := []) E hW (c_X4_append l hc) lk_X8_127 rcv_X4 (Nat.le_of_ble_eq_true rfl) (Nat.le_of_ble_eq_true rfl) (Nat.le_of_ble_eq_true rfl) (Nat.le_of_ble_eq_true rfl) hl.1 (Nat.le_of_ble_eq_true rfl) dX8_feed_17 (fun H locs hW => ?_)
    refine lv_aload_n hx hb dX8_feed_20 rfl (lv_at hl 0 rfl) ?_
    refine rg_X8_19 E hW dX8_feed_21 ?_
    refine lv_iload_n hx hb dX8_feed_24 rfl (lv_at hl 2 rfl) ?_
    obtain ⟨cs4, hc, hf⟩ := b1_e hf
    refine callVV (As := [.int _]) (rest := []) E hW (c_X4_append l hc) lk_X8_127 rcv_X4 (Nat.le_of_ble_eq_true rfl) (Nat.le_of_ble_eq_true rfl) (Nat.le_of_ble_eq_true rfl) (Nat.le_of_ble_eq_true rfl) hl.1 (Nat.le_of_ble_eq_true rfl) dX8_feed_25 (fun H locs hW => ?_)
    refine lv_aload_n hx hb dX8_feed_28 rfl (lv_at hl 0 rfl) ?_
    refine rg_X8_19 E hW dX8_feed_29 ?_
    refine lv_iload_n hx hb dX8_feed_32 rfl (lv_at hl 3 rfl) ?_
    obtain ⟨cs5, hc, hf⟩ := b1_e hf
    refine callVV (As := [.int _]) (rest := []) E hW (c_X4_append l hc) lk_X8_127 rcv_X4 (Nat.le_of_ble_eq_true rfl) (Nat.le_of_ble_eq_true rfl) (Nat.le_of_ble_eq_true rfl) (Nat.le_of_ble_eq_true rfl) hl.1 (Nat.le_of_ble_eq_true rfl) dX8_feed_33 (fun H locs hW => ?_)
    refine lv_aload_n hx hb dX8_feed_36 rfl (lv_at hl 0 rfl) ?_
    refine rg_X8_19 E hW dX8_feed_37 ?_
    refine lv_iload hx hb dX8_feed_40 (lv_at hl 4 rfl) ?_
    obtain ⟨cs6, hc, hf⟩ := b1_e hf
    refine callVV (As := [.int _]) (rest := []) E hW (c_X4_append l hc) lk_X8_127 rcv_X4 (Nat.le_of_ble_eq_true rfl) (Nat.le_of_ble_eq_true rfl) (Nat.le_of_ble_eq_true rfl) (Nat.le_of_ble_eq_true rfl) hl.1 (Nat.le_of_ble_eq_true rfl) dX8_feed_42 (fun H locs hW => ?_)
    refine lv_aload_n hx hb dX8_feed_45 rfl (lv_at hl 0 rfl) ?_
    refine rg_X8_19 E hW dX8_feed_46 ?_
    refine lv_iload hx hb dX8_feed_49 (lv_at hl 5 rfl) ?_
    obtain ⟨cs7, hc, hf⟩ := b1_e hf
    refine callVV (As := [.int _]) (rest := []) E hW (c_X4_append l hc) lk_X8_127 rcv_X4 (Nat.le_of_ble_eq_true rfl) (Nat.le_of_ble_eq_true rfl) (Nat.le_of_ble_eq_true rfl) (Nat.le_of_ble_eq_true rfl) hl.1 (Nat.le_of_ble_eq_true rfl) dX8_feed_51 (fun H locs hW => ?_)
    refine lv_aload_n hx hb dX8_feed_54 rfl (lv_at hl 0 rfl) ?_
    refine rg_X8_19 E hW dX8_feed_55 ?_
    obtain ⟨r8, hc, hf⟩ := b1_e hf
    refine callVI (As := []) (rest := []) E hW (c_X4_fed l hc) lk_X8_131 rcv_X4 (Nat.le_of_ble_eq_true rfl) (Nat.le_of_ble_eq_true rfl) (Nat.le_of_ble_eq_true rfl) (Nat.le_of_ble_eq_true rfl) hl.1 (Nat.le_of_ble_eq_true rfl) dX8_feed_58 (fun H locs hW => ?_)
    exact retI E hW (e2C hf) dX8_feed_61
  · replace hf := ite_t h2 hf
    refine lv_iconst (v := (-1 : Int32)) hx hb dX8_feed_10 (by decide) ?_
    exact retI E hW (e2C hf) dX8_feed_11
def f_X8_says (cs : CS) (v1 : Int32) (v2 : Int32) (v3 : Int32) (v4 : Int32) : Option ((Int32 ⊕ String) × CS) := if v1 < 0 then (some (.inr "java/lang/IndexOutOfBoundsException", cs)) else ((f_X4_made cs ).bind fun r2 => if v1 < r2 then ((f_X4_holds cs v1 v2 v3 v4).bind fun r4 => gd (r4 = 0 ∨ r4 = 1) <| some (.inl r4, cs)) else (some (.inr "java/lang/IndexOutOfBoundsException", cs)))
def rm_X8_says : Room := { frames := 10, cells := 1, slots := 6, locals := 150 }
set_option maxHeartbeats 4000000 in
set_option maxRecDepth 100000 in
theorem c_X8_says (l : Launch) (hl0 : l.stackTraces = false) {X : XT} {B : Nat} {cs : CS} {ms : MS} {o : Nat → Int64} {v1 : Int32} {v2 : Int32} {v3 : Int32} {v4 : Int32} {r : Int32 ⊕ String} {S9 : CS} (hf : f_X8_says cs v1 v2 v3 v4 = some (r, S9)) : vx_Met l yX8_says (.code yX8_says cX8_says 5 (some .boolean) :: BIG) rm_X8_says (Pre X B (cs, ms, o) [.ref (X.1 0), .int v1, .int v2, .int v3, .int v4]) (QXI X B r (S9, ms, o)) (XCx X B r (S9, ms, o)) 1 6 (Ab B) := by
  refine xentry (by decide +kernel) rfl (Nat.le_of_ble_eq_true rfl) (fun p e s m below meth c ls E hxt hW hl => ?_)
  obtain ⟨hx, hb, hml, hown, hts, -⟩ := id E
  replace hl : lv_has ls 5 [(0, .ref (X.1 0)), (1, .int v1), (2, .int v2), (3, .int v3), (4, .int v4)] := hl
  unfold f_X8_says at hf
  refine lv_iload_n hx hb dX8_says_0 rfl (lv_at hl 1 rfl) ?_
  refine lv_if_lt (tgt := 15) hx hb dX8_says_1 (by decide) (fun h1 => ?_) (fun h1 => ?_)
  · replace hf := ite_t h1 hf
    exact throwS E hl0 hxt hW th_X8_118_143_122 dX8_says_15 dX8_says_18 dX8_says_19 dX8_says_21 dX8_says_24 (etC hf) (Nat.le_of_ble_eq_true rfl) (Nat.le_of_ble_eq_true rfl) (Nat.le_of_ble_eq_true rfl) (Nat.le_of_ble_eq_true rfl) (Nat.le_of_ble_eq_true rfl) (by decide) (by decide) (hl.1.trans hml.symm)
  · replace hf := ite_f h1 hf
    refine lv_iload_n hx hb dX8_says_4 rfl (lv_at hl 1 rfl) ?_
    refine lv_aload_n hx hb dX8_says_5 rfl (lv_at hl 0 rfl) ?_
    refine rg_X8_19 E hW dX8_says_6 ?_
    obtain ⟨r2, hc, hf⟩ := b1_e hf
    refine callVI (As := []) (rest := [_]) E hW (c_X4_made l hc) lk_X8_140 rcv_X4 (Nat.le_of_ble_eq_true rfl) (Nat.le_of_ble_eq_true rfl) (Nat.le_of_ble_eq_true rfl) (Nat.le_of_ble_eq_true rfl) hl.1 (Nat.le_of_ble_eq_true rfl) dX8_says_9 (fun H locs hW => ?_)
    refine lv_icmp_lt (tgt := 25) hx hb dX8_says_12 (by decide) (fun h3 => ?_) (fun h3 => ?_)
    · replace hf := ite_t h3 hf
      refine lv_aload_n hx hb dX8_says_25 rfl (lv_at hl 0 rfl) ?_
      refine rg_X8_19 E hW dX8_says_26 ?_
      refine lv_iload_n hx hb dX8_says_29 rfl (lv_at hl 1 rfl) ?_
      refine lv_iload_n hx hb dX8_says_30 rfl (lv_at hl 2 rfl) ?_
      refine lv_iload_n hx hb dX8_says_31 rfl (lv_at hl 3 rfl) ?_
      refine lv_iload hx hb dX8_says_32 (lv_at hl 4 rfl) ?_
      obtain ⟨r4, hc, hf⟩ := b1_e hf
      refine callVI (As := [.int _, .int _, .int _, .int _]) (rest := []) E hW (c_X4_holds l hc) lk_X8_145 rcv_X4 (Nat.le_of_ble_eq_true rfl) (Nat.le_of_ble_eq_true rfl) (Nat.le_of_ble_eq_true rfl) (Nat.le_of_ble_eq_true rfl) hl.1 (Nat.le_of_ble_eq_true rfl) dX8_says_34 (fun H locs hW => ?_)
      obtain ⟨v5, hf⟩ := gd_e hf
      refine W.widen (k := 1) (n := 6) (by decide) (by decide) ?_
      exact vx_ret (retZX E hW v5 (exC hf) dX8_says_37)
    · replace hf := ite_f h3 hf
      exact throwS E hl0 hxt hW th_X8_118_143_122 dX8_says_15 dX8_says_18 dX8_says_19 dX8_says_21 dX8_says_24 (etC hf) (Nat.le_of_ble_eq_true rfl) (Nat.le_of_ble_eq_true rfl) (Nat.le_of_ble_eq_true rfl) (Nat.le_of_ble_eq_true rfl) (Nat.le_of_ble_eq_true rfl) (by decide) (by decide) (hl.1.trans hml.symm)
def f_X8_rowSays (cs : CS) (v1 : Int32) (v2 : Int32) : Option (Int64) := (f_X7_lengthAt cs v1).bind fun r1 => if r1 ≤ v2 then (some (-1 : Int64)) else ((f_X7_read cs v1 v2).bind fun r3 => some r3)
def rm_X8_rowSays : Room := { frames := 3, cells := 0, slots := 0, locals := 67 }
set_option maxHeartbeats 4000000 in
set_option maxRecDepth 100000 in
theorem c_X8_rowSays (l : Launch) {X : XT} {B : Nat} {cs : CS} {ms : MS} {o : Nat → Int64} {v1 : Int32} {v2 : Int32} {r : Int64} (hf : f_X8_rowSays cs v1 v2 = some r) : Met l yX8_rowSays (.code yX8_rowSays cX8_rowSays 3 (some .long) :: BIG) rm_X8_rowSays (Pre X B (cs, ms, o) [.ref (X.1 0), .int v1, .int v2]) (QL X B r (cs, ms, o)) 0 0 (Ab B) := by
  refine entry (by decide +kernel) rfl (Nat.le_of_ble_eq_true rfl) (fun p e s m below meth c ls E hW hl => ?_)
  obtain ⟨hx, hb, hml, hown, hts, -⟩ := id E
  replace hl : lv_has ls 3 [(0, .ref (X.1 0)), (1, .int v1), (2, .int v2)] := hl
  unfold f_X8_rowSays at hf
  refine lv_iload_n hx hb dX8_rowSays_0 rfl (lv_at hl 2 rfl) ?_
  refine lv_aload_n hx hb dX8_rowSays_1 rfl (lv_at hl 0 rfl) ?_
  refine rg_X8_10 E hW dX8_rowSays_2 ?_
  refine lv_iload_n hx hb dX8_rowSays_5 rfl (lv_at hl 1 rfl) ?_
  obtain ⟨r1, hc, hf⟩ := b1_e hf
  refine callVI (As := [.int _]) (rest := [_]) E hW (c_X7_lengthAt l hc) lk_X8_108 rcv_X7 (Nat.le_of_ble_eq_true rfl) (Nat.le_of_ble_eq_true rfl) (Nat.le_of_ble_eq_true rfl) (Nat.le_of_ble_eq_true rfl) hl.1 (Nat.le_of_ble_eq_true rfl) dX8_rowSays_6 (fun H locs hW => ?_)
  refine lv_icmp_ge (tgt := 24) hx hb dX8_rowSays_9 (by decide) (fun h2 => ?_) (fun h2 => ?_)
  · replace hf := ite_t h2 hf
    refine lv_ldc2 (own := RX8) (v := (-1 : Int64)) hx hb hown (hts _ kc_X8_182) dX8_rowSays_24 ?_
    exact retL E hW ⟨Option.some.inj hf, rfl⟩ dX8_rowSays_27
  · replace hf := ite_f h2 hf
    refine lv_aload_n hx hb dX8_rowSays_12 rfl (lv_at hl 0 rfl) ?_
    refine rg_X8_10 E hW dX8_rowSays_13 ?_
    refine lv_iload_n hx hb dX8_rowSays_16 rfl (lv_at hl 1 rfl) ?_
    refine lv_iload_n hx hb dX8_rowSays_17 rfl (lv_at hl 2 rfl) ?_
    obtain ⟨r3, hc, hf⟩ := b1_e hf
    refine callVJ (As := [.int _, .int _]) (rest := []) E hW (c_X7_read l hc) lk_X8_178 rcv_X7 (Nat.le_of_ble_eq_true rfl) (Nat.le_of_ble_eq_true rfl) (Nat.le_of_ble_eq_true rfl) (Nat.le_of_ble_eq_true rfl) hl.1 (Nat.le_of_ble_eq_true rfl) dX8_rowSays_18 (fun H locs hW => ?_)
    refine lv_goto (tgt := 27) hx hb dX8_rowSays_21 (by decide) ?_
    exact retL E hW ⟨Option.some.inj hf, rfl⟩ dX8_rowSays_27
def f_X8_addPart_12 : Nat → CS → Int32 → Int32 → Int32 → Int32 → Option (Int32 × CS)
  | 0, _, _, _, _, _ => none
  | n + 1, cs, v1, v2, v3, v4 => if (8 : Int32) ≤ v4 then (some (v3, cs)) else ((f_X8_rowSays cs v2 v4).bind fun r4 => (f_X6_store cs v1 v3 v4 r4.toInt32).bind fun cs5 => f_X8_addPart_12 n cs5 v1 v2 v3 (v4 + (1 : Int32)))
def f_X8_addPart (cs : CS) (v1 : Int32) (v2 : Int32) : Option (Int32 × CS) := b2 (f_X6_add cs v1) fun r2 cs1 => f_X8_addPart_12 1000 cs1 v1 v2 r2 (0 : Int32)
def rm_X8_addPart : Room := { frames := 4, cells := 0, slots := 0, locals := 89 }
set_option maxHeartbeats 4000000 in
set_option maxRecDepth 100000 in
theorem w_X8_addPart_12 {p : Program} {l : Launch} {e : Env} {s : State} {m : MethodId} {args : Array Value} {below : List Frame} {meth : Method} {c : Code} {X : XT} {B : Nat} {ms : MS} {o : Nat → Int64} {r : Int32} {S9 : CS} (E : Ev X B p s m args meth c RX8 cX8_addPart 5 (some .int)) : ∀ (n : Nat) (cs : CS) (v1 : Int32) (v2 : Int32) (v3 : Int32) (v4 : Int32) (H : Heap) (locs : List Loc) (ls : Array Slot), f_X8_addPart_12 n cs v1 v2 v3 v4 = some (r, S9) → Ws X B s.heap H locs (cs, ms, o) → lv_has ls 5 [(0, .ref (X.1 0)), (1, .int v1), (2, .int v2), (3, .int v3), (4, .int v4)] → W p l e rm_X8_addPart s m args below meth c H locs 0 0 (MQ below (QI X B r (S9, ms, o)) args s 0 0 (Ab B)) (F0 m 12 ls []) := by
  obtain ⟨hx, hb, hml, hown, hts, -⟩ := id E
  intro n
  induction n with
  | zero => intro cs v1 v2 v3 v4 H locs ls hf; exact absurd hf nofun
  | succ n ih =>
    intro cs v1 v2 v3 v4 H locs ls hf hW hl
    rw [f_X8_addPart_12] at hf
    refine lv_iload hx hb dX8_addPart_12 (lv_at hl 4 rfl) ?_
    refine lv_bipush (v := (8 : Int32)) hx hb dX8_addPart_14 (by decide) ?_
    refine lv_icmp_ge (tgt := 44) hx hb dX8_addPart_16 (by decide) (fun h3 => ?_) (fun h3 => ?_)
    · replace hf := ite_t h3 hf
      refine lv_iload_n hx hb dX8_addPart_44 rfl (lv_at hl 3 rfl) ?_
      exact retI E hW (e2C hf) dX8_addPart_45
    · replace hf := ite_f h3 hf
      refine lv_aload_n hx hb dX8_addPart_19 rfl (lv_at hl 0 rfl) ?_
      refine rg_X8_26 E hW dX8_addPart_20 ?_
      refine lv_iload_n hx hb dX8_addPart_23 rfl (lv_at hl 1 rfl) ?_
      refine lv_iload_n hx hb dX8_addPart_24 rfl (lv_at hl 3 rfl) ?_
      refine lv_iload hx hb dX8_addPart_25 (lv_at hl 4 rfl) ?_
      refine lv_aload_n hx hb dX8_addPart_27 rfl (lv_at hl 0 rfl) ?_
      refine lv_iload_n hx hb dX8_addPart_28 rfl (lv_at hl 2 rfl) ?_
      refine lv_iload hx hb dX8_addPart_29 (lv_at hl 4 rfl) ?_
      obtain ⟨r4, hc, hf⟩ := b1_e hf
      refine callVJ (As := [.int _, .int _]) (rest := [_, _, _, _]) E hW (c_X8_rowSays l hc) lk_X8_184 rcv_X8 (Nat.le_of_ble_eq_true rfl) (Nat.le_of_ble_eq_true rfl) (Nat.le_of_ble_eq_true rfl) (Nat.le_of_ble_eq_true rfl) hl.1 (Nat.le_of_ble_eq_true rfl) dX8_addPart_31 (fun H locs hW => ?_)
      refine lv_l2i hx hb dX8_addPart_34 rfl ?_
      obtain ⟨cs5, hc, hf⟩ := b1_e hf
      refine callVV (As := [.int _, .int _, .int _, .int _]) (rest := []) E hW (c_X6_store l hc) lk_X8_208 rcv_X6 (Nat.le_of_ble_eq_true rfl) (Nat.le_of_ble_eq_true rfl) (Nat.le_of_ble_eq_true rfl) (Nat.le_of_ble_eq_true rfl) hl.1 (Nat.le_of_ble_eq_true rfl) dX8_addPart_35 (fun H locs hW => ?_)
      refine lv_iinc (v := _ + (1 : Int32)) (lv' := [_, _, _, _, _]) hx hb dX8_addPart_38 hl (k := 4) rfl rfl (by decide) rfl (fun ls hl => ?_)
      refine lv_goto (tgt := 12) hx hb dX8_addPart_41 (by decide) ?_
      exact ih _ _ _ _ _ _ _ _ hf hW (lv_sub hl [1, 2, 3, 4, 0] rfl)
set_option maxHeartbeats 4000000 in
set_option maxRecDepth 100000 in
theorem c_X8_addPart (l : Launch) {X : XT} {B : Nat} {cs : CS} {ms : MS} {o : Nat → Int64} {v1 : Int32} {v2 : Int32} {r : Int32} {S9 : CS} (hf : f_X8_addPart cs v1 v2 = some (r, S9)) : Met l yX8_addPart (.code yX8_addPart cX8_addPart 5 (some .int) :: BIG) rm_X8_addPart (Pre X B (cs, ms, o) [.ref (X.1 0), .int v1, .int v2]) (QI X B r (S9, ms, o)) 0 0 (Ab B) := by
  refine entry (by decide +kernel) rfl (Nat.le_of_ble_eq_true rfl) (fun p e s m below meth c ls E hW hl => ?_)
  obtain ⟨hx, hb, hml, hown, hts, -⟩ := id E
  replace hl : lv_has ls 5 [(0, .ref (X.1 0)), (1, .int v1), (2, .int v2)] := hl
  unfold f_X8_addPart at hf
  refine lv_aload_n hx hb dX8_addPart_0 rfl (lv_at hl 0 rfl) ?_
  refine rg_X8_26 E hW dX8_addPart_1 ?_
  refine lv_iload_n hx hb dX8_addPart_4 rfl (lv_at hl 1 rfl) ?_
  obtain ⟨r2, cs1, hc, hf⟩ := b2_e hf
  refine callVI (As := [.int _]) (rest := []) E hW (c_X6_add l hc) lk_X8_205 rcv_X6 (Nat.le_of_ble_eq_true rfl) (Nat.le_of_ble_eq_true rfl) (Nat.le_of_ble_eq_true rfl) (Nat.le_of_ble_eq_true rfl) hl.1 (Nat.le_of_ble_eq_true rfl) dX8_addPart_5 (fun H locs hW => ?_)
  refine lv_istore_n (lv' := [_, _, _, _]) hx hb dX8_addPart_8 rfl hl (by decide) rfl (fun ls hl => ?_)
  refine lv_iconst (v := (0 : Int32)) hx hb dX8_addPart_9 (by decide) ?_
  refine lv_istore (lv' := [_, _, _, _, _]) hx hb dX8_addPart_10 hl (by decide) rfl (fun ls hl => ?_)
  exact w_X8_addPart_12 E 1000 _ _ _ _ _ _ _ _ hf hW (lv_sub hl [2, 3, 4, 1, 0] rfl)
def f_X8_breaksShellRule (cs : CS) (v1 : Int32) (v2 : Int32) : Option (Int32) := (f_X8_rowSays cs v2 (0 : Int32)).bind fun r1 => if (lg_cmp r1 (5 : Int64)) = 0 then ((f_X6_hasShell cs v1).bind fun r6 => if r6 = 0 then ((f_X8_rowSays cs v2 (2 : Int32)).bind fun r8 => (f_X6_factOf cs v1 r8.toInt32 (0 : Int32)).bind fun r9 => if r9 = (5 : Int32) then (some (1 : Int32)) else (some (0 : Int32))) else (some (1 : Int32))) else ((f_X8_rowSays cs v2 (2 : Int32)).bind fun r3 => (f_X6_factOf cs v1 r3.toInt32 (0 : Int32)).bind fun r4 => if r4 = (5 : Int32) then (some (1 : Int32)) else (some (0 : Int32)))
def rm_X8_breaksShellRule : Room := { frames := 4, cells := 0, slots := 0, locals := 92 }
set_option maxHeartbeats 4000000 in
set_option maxRecDepth 100000 in
theorem c_X8_breaksShellRule (l : Launch) {X : XT} {B : Nat} {cs : CS} {ms : MS} {o : Nat → Int64} {v1 : Int32} {v2 : Int32} {r : Int32} (hf : f_X8_breaksShellRule cs v1 v2 = some r) : Met l yX8_breaksShellRule (.code yX8_breaksShellRule cX8_breaksShellRule 4 (some .boolean) :: BIG) rm_X8_breaksShellRule (Pre X B (cs, ms, o) [.ref (X.1 0), .int v1, .int v2]) (QI X B r (cs, ms, o)) 0 0 (Ab B) := by
  refine entry (by decide +kernel) rfl (Nat.le_of_ble_eq_true rfl) (fun p e s m below meth c ls E hW hl => ?_)
  obtain ⟨hx, hb, hml, hown, hts, -⟩ := id E
  replace hl : lv_has ls 4 [(0, .ref (X.1 0)), (1, .int v1), (2, .int v2)] := hl
  unfold f_X8_breaksShellRule at hf
  refine lv_aload_n hx hb dX8_breaksShellRule_0 rfl (lv_at hl 0 rfl) ?_
  refine lv_iload_n hx hb dX8_breaksShellRule_1 rfl (lv_at hl 2 rfl) ?_
  refine lv_iconst (v := (0 : Int32)) hx hb dX8_breaksShellRule_2 (by decide) ?_
  obtain ⟨r1, hc, hf⟩ := b1_e hf
  refine callVJ (As := [.int _, .int _]) (rest := []) E hW (c_X8_rowSays l hc) lk_X8_184 rcv_X8 (Nat.le_of_ble_eq_true rfl) (Nat.le_of_ble_eq_true rfl) (Nat.le_of_ble_eq_true rfl) (Nat.le_of_ble_eq_true rfl) hl.1 (Nat.le_of_ble_eq_true rfl) dX8_breaksShellRule_3 (fun H locs hW => ?_)
  refine lv_ldc2 (own := RX8) (v := (5 : Int64)) hx hb hown (hts _ kc_X8_190) dX8_breaksShellRule_6 ?_
  refine W.lcmp hx hb dX8_breaksShellRule_9 ?_
  refine lv_if_ne (tgt := 26) hx hb dX8_breaksShellRule_10 (by decide) (fun h2 => ?_) (fun h2 => ?_)
  · replace hf := ite_f h2 hf
    refine lv_aload_n hx hb dX8_breaksShellRule_26 rfl (lv_at hl 0 rfl) ?_
    refine lv_iload_n hx hb dX8_breaksShellRule_27 rfl (lv_at hl 2 rfl) ?_
    refine lv_iconst (v := (2 : Int32)) hx hb dX8_breaksShellRule_28 (by decide) ?_
    obtain ⟨r3, hc, hf⟩ := b1_e hf
    refine callVJ (As := [.int _, .int _]) (rest := []) E hW (c_X8_rowSays l hc) lk_X8_184 rcv_X8 (Nat.le_of_ble_eq_true rfl) (Nat.le_of_ble_eq_true rfl) (Nat.le_of_ble_eq_true rfl) (Nat.le_of_ble_eq_true rfl) hl.1 (Nat.le_of_ble_eq_true rfl) dX8_breaksShellRule_29 (fun H locs hW => ?_)
    refine lv_l2i hx hb dX8_breaksShellRule_32 rfl ?_
    refine lv_istore_n (lv' := [_, _, _, _]) hx hb dX8_breaksShellRule_33 rfl hl (by decide) rfl (fun ls hl => ?_)
    refine lv_aload_n hx hb dX8_breaksShellRule_34 rfl (lv_at hl 1 rfl) ?_
    refine rg_X8_26 E hW dX8_breaksShellRule_35 ?_
    refine lv_iload_n hx hb dX8_breaksShellRule_38 rfl (lv_at hl 2 rfl) ?_
    refine lv_iload_n hx hb dX8_breaksShellRule_39 rfl (lv_at hl 0 rfl) ?_
    refine lv_iconst (v := (0 : Int32)) hx hb dX8_breaksShellRule_40 (by decide) ?_
    obtain ⟨r4, hc, hf⟩ := b1_e hf
    refine callVI (As := [.int _, .int _, .int _]) (rest := []) E hW (c_X6_factOf l hc) lk_X8_174 rcv_X6 (Nat.le_of_ble_eq_true rfl) (Nat.le_of_ble_eq_true rfl) (Nat.le_of_ble_eq_true rfl) (Nat.le_of_ble_eq_true rfl) hl.1 (Nat.le_of_ble_eq_true rfl) dX8_breaksShellRule_41 (fun H locs hW => ?_)
    refine lv_iconst (v := (5 : Int32)) hx hb dX8_breaksShellRule_44 (by decide) ?_
    refine lv_icmp_ne (tgt := 52) hx hb dX8_breaksShellRule_45 (by decide) (fun h5 => ?_) (fun h5 => ?_)
    · replace hf := ite_f h5 hf
      refine lv_iconst (v := (0 : Int32)) hx hb dX8_breaksShellRule_52 (by decide) ?_
      exact retZ E hW (Or.inl rfl) ⟨Option.some.inj hf, rfl⟩ dX8_breaksShellRule_53
    · replace hf := ite_t h5 hf
      refine lv_iconst (v := (1 : Int32)) hx hb dX8_breaksShellRule_48 (by decide) ?_
      refine lv_goto (tgt := 53) hx hb dX8_breaksShellRule_49 (by decide) ?_
      exact retZ E hW (Or.inr rfl) ⟨Option.some.inj hf, rfl⟩ dX8_breaksShellRule_53
  · replace hf := ite_t h2 hf
    refine lv_aload_n hx hb dX8_breaksShellRule_13 rfl (lv_at hl 0 rfl) ?_
    refine rg_X8_26 E hW dX8_breaksShellRule_14 ?_
    refine lv_iload_n hx hb dX8_breaksShellRule_17 rfl (lv_at hl 1 rfl) ?_
    obtain ⟨r6, hc, hf⟩ := b1_e hf
    refine callVI (As := [.int _]) (rest := []) E hW (c_X6_hasShell l hc) lk_X8_202 rcv_X6 (Nat.le_of_ble_eq_true rfl) (Nat.le_of_ble_eq_true rfl) (Nat.le_of_ble_eq_true rfl) (Nat.le_of_ble_eq_true rfl) hl.1 (Nat.le_of_ble_eq_true rfl) dX8_breaksShellRule_18 (fun H locs hW => ?_)
    refine lv_if_eq (tgt := 26) hx hb dX8_breaksShellRule_21 (by decide) (fun h7 => ?_) (fun h7 => ?_)
    · replace hf := ite_t h7 hf
      refine lv_aload_n hx hb dX8_breaksShellRule_26 rfl (lv_at hl 0 rfl) ?_
      refine lv_iload_n hx hb dX8_breaksShellRule_27 rfl (lv_at hl 2 rfl) ?_
      refine lv_iconst (v := (2 : Int32)) hx hb dX8_breaksShellRule_28 (by decide) ?_
      obtain ⟨r8, hc, hf⟩ := b1_e hf
      refine callVJ (As := [.int _, .int _]) (rest := []) E hW (c_X8_rowSays l hc) lk_X8_184 rcv_X8 (Nat.le_of_ble_eq_true rfl) (Nat.le_of_ble_eq_true rfl) (Nat.le_of_ble_eq_true rfl) (Nat.le_of_ble_eq_true rfl) hl.1 (Nat.le_of_ble_eq_true rfl) dX8_breaksShellRule_29 (fun H locs hW => ?_)
      refine lv_l2i hx hb dX8_breaksShellRule_32 rfl ?_
      refine lv_istore_n (lv' := [_, _, _, _]) hx hb dX8_breaksShellRule_33 rfl hl (by decide) rfl (fun ls hl => ?_)
      refine lv_aload_n hx hb dX8_breaksShellRule_34 rfl (lv_at hl 1 rfl) ?_
      refine rg_X8_26 E hW dX8_breaksShellRule_35 ?_
      refine lv_iload_n hx hb dX8_breaksShellRule_38 rfl (lv_at hl 2 rfl) ?_
      refine lv_iload_n hx hb dX8_breaksShellRule_39 rfl (lv_at hl 0 rfl) ?_
      refine lv_iconst (v := (0 : Int32)) hx hb dX8_breaksShellRule_40 (by decide) ?_
      obtain ⟨r9, hc, hf⟩ := b1_e hf
      refine callVI (As := [.int _, .int _, .int _]) (rest := []) E hW (c_X6_factOf l hc) lk_X8_174 rcv_X6 (Nat.le_of_ble_eq_true rfl) (Nat.le_of_ble_eq_true rfl) (Nat.le_of_ble_eq_true rfl) (Nat.le_of_ble_eq_true rfl) hl.1 (Nat.le_of_ble_eq_true rfl) dX8_breaksShellRule_41 (fun H locs hW => ?_)
      refine lv_iconst (v := (5 : Int32)) hx hb dX8_breaksShellRule_44 (by decide) ?_
      refine lv_icmp_ne (tgt := 52) hx hb dX8_breaksShellRule_45 (by decide) (fun h10 => ?_) (fun h10 => ?_)
      · replace hf := ite_f h10 hf
        refine lv_iconst (v := (0 : Int32)) hx hb dX8_breaksShellRule_52 (by decide) ?_
        exact retZ E hW (Or.inl rfl) ⟨Option.some.inj hf, rfl⟩ dX8_breaksShellRule_53
      · replace hf := ite_t h10 hf
        refine lv_iconst (v := (1 : Int32)) hx hb dX8_breaksShellRule_48 (by decide) ?_
        refine lv_goto (tgt := 53) hx hb dX8_breaksShellRule_49 (by decide) ?_
        exact retZ E hW (Or.inr rfl) ⟨Option.some.inj hf, rfl⟩ dX8_breaksShellRule_53
    · replace hf := ite_f h7 hf
      refine lv_iconst (v := (1 : Int32)) hx hb dX8_breaksShellRule_24 (by decide) ?_
      exact retZ E hW (Or.inr rfl) ⟨Option.some.inj hf, rfl⟩ dX8_breaksShellRule_25
def f_X8_isBeyond (cs : CS) (v1 : Int32) (v2 : Int32) (v3 : Int64) : Option (Int32) := if v2 = (0 : Int32) then (if (lg_cmp v3 (0 : Int64)) < 0 then (some (1 : Int32)) else (if (lg_cmp v3 (5 : Int64)) ≤ 0 then (some (0 : Int32)) else (some (1 : Int32)))) else (if v2 = (1 : Int32) then (if (lg_cmp v3 (0 : Int64)) < 0 then (some (1 : Int32)) else (if (lg_cmp v3 (99 : Int64)) ≤ 0 then (some (0 : Int32)) else (some (1 : Int32)))) else (if v2 = (2 : Int32) then (if (lg_cmp v3 (-1 : Int64)) < 0 then (some (1 : Int32)) else ((f_X6_partsOf cs v1).bind fun r9 => if (lg_cmp v3 r9.toInt64) < 0 then (some (0 : Int32)) else (some (1 : Int32)))) else (if v2 = (3 : Int32) then (if (lg_cmp v3 (1 : Int64)) < 0 then (some (1 : Int32)) else (if (lg_cmp v3 (240 : Int64)) ≤ 0 then (some (0 : Int32)) else (some (1 : Int32)))) else (if v2 = (4 : Int32) then (if (lg_cmp v3 (1 : Int64)) < 0 then (some (1 : Int32)) else (if (lg_cmp v3 (200000 : Int64)) ≤ 0 then (some (0 : Int32)) else (some (1 : Int32)))) else (if v2 = (5 : Int32) then (if (lg_cmp v3 (0 : Int64)) < 0 then (some (1 : Int32)) else (if (lg_cmp v3 (4 : Int64)) < 0 then (some (0 : Int32)) else (some (1 : Int32)))) else (if v2 = (6 : Int32) then (if (lg_cmp v3 (0 : Int64)) < 0 then (some (1 : Int32)) else (if (lg_cmp v3 (100000 : Int64)) ≤ 0 then (some (0 : Int32)) else (some (1 : Int32)))) else (if (lg_cmp v3 (-1 : Int64)) < 0 then (some (1 : Int32)) else ((f_X4_made cs ).bind fun r24 => if (lg_cmp v3 r24.toInt64) < 0 then (some (0 : Int32)) else (some (1 : Int32))))))))))
def rm_X8_isBeyond : Room := { frames := 1, cells := 0, slots := 0, locals := 21 }
set_option maxHeartbeats 4000000 in
set_option maxRecDepth 100000 in
theorem c_X8_isBeyond (l : Launch) {X : XT} {B : Nat} {cs : CS} {ms : MS} {o : Nat → Int64} {v1 : Int32} {v2 : Int32} {v3 : Int64} {r : Int32} (hf : f_X8_isBeyond cs v1 v2 v3 = some r) : Met l yX8_isBeyond (.code yX8_isBeyond cX8_isBeyond 5 (some .boolean) :: BIG) rm_X8_isBeyond (Pre X B (cs, ms, o) [.ref (X.1 0), .int v1, .int v2, .long v3]) (QI X B r (cs, ms, o)) 0 0 (Ab B) := by
  refine entry (by decide +kernel) rfl (Nat.le_of_ble_eq_true rfl) (fun p e s m below meth c ls E hW hl => ?_)
  obtain ⟨hx, hb, hml, hown, hts, -⟩ := id E
  replace hl : lv_has ls 5 [(0, .ref (X.1 0)), (1, .int v1), (2, .int v2), (3, .long v3)] := hl
  unfold f_X8_isBeyond at hf
  refine lv_iload_n hx hb dX8_isBeyond_0 rfl (lv_at hl 2 rfl) ?_
  by_cases h1 : v2 = (0 : Int32)
  · replace hf := ite_t h1 hf
    refine lv_tableIn (tgt := 44) hx hb dX8_isBeyond_1 (by rw [h1]; decide) (by rw [h1]; decide) (by rw [h1]; rfl) (by decide) ?_
    refine lv_lload_n hx hb dX8_isBeyond_44 rfl (lv_at hl 3 rfl) ?_
    refine lv_lconst (v := (0 : Int64)) hx hb dX8_isBeyond_45 (by decide) ?_
    refine W.lcmp hx hb dX8_isBeyond_46 ?_
    refine lv_if_lt (tgt := 58) hx hb dX8_isBeyond_47 (by decide) (fun h2 => ?_) (fun h2 => ?_)
    · replace hf := ite_t h2 hf
      refine lv_iconst (v := (1 : Int32)) hx hb dX8_isBeyond_58 (by decide) ?_
      refine lv_goto (tgt := 63) hx hb dX8_isBeyond_59 (by decide) ?_
      exact retZ E hW (Or.inr rfl) ⟨Option.some.inj hf, rfl⟩ dX8_isBeyond_63
    · replace hf := ite_f h2 hf
      refine lv_lload_n hx hb dX8_isBeyond_50 rfl (lv_at hl 3 rfl) ?_
      refine lv_ldc2 (own := RX8) (v := (5 : Int64)) hx hb hown (hts _ kc_X8_190) dX8_isBeyond_51 ?_
      refine W.lcmp hx hb dX8_isBeyond_54 ?_
      refine lv_if_le (tgt := 62) hx hb dX8_isBeyond_55 (by decide) (fun h3 => ?_) (fun h3 => ?_)
      · replace hf := ite_t h3 hf
        refine lv_iconst (v := (0 : Int32)) hx hb dX8_isBeyond_62 (by decide) ?_
        exact retZ E hW (Or.inl rfl) ⟨Option.some.inj hf, rfl⟩ dX8_isBeyond_63
      · replace hf := ite_f h3 hf
        refine lv_iconst (v := (1 : Int32)) hx hb dX8_isBeyond_58 (by decide) ?_
        refine lv_goto (tgt := 63) hx hb dX8_isBeyond_59 (by decide) ?_
        exact retZ E hW (Or.inr rfl) ⟨Option.some.inj hf, rfl⟩ dX8_isBeyond_63
  · replace hf := ite_f h1 hf
    by_cases h4 : v2 = (1 : Int32)
    · replace hf := ite_t h4 hf
      refine lv_tableIn (tgt := 64) hx hb dX8_isBeyond_1 (by rw [h4]; decide) (by rw [h4]; decide) (by rw [h4]; rfl) (by decide) ?_
      refine lv_lload_n hx hb dX8_isBeyond_64 rfl (lv_at hl 3 rfl) ?_
      refine lv_lconst (v := (0 : Int64)) hx hb dX8_isBeyond_65 (by decide) ?_
      refine W.lcmp hx hb dX8_isBeyond_66 ?_
      refine lv_if_lt (tgt := 78) hx hb dX8_isBeyond_67 (by decide) (fun h5 => ?_) (fun h5 => ?_)
      · replace hf := ite_t h5 hf
        refine lv_iconst (v := (1 : Int32)) hx hb dX8_isBeyond_78 (by decide) ?_
        refine lv_goto (tgt := 83) hx hb dX8_isBeyond_79 (by decide) ?_
        exact retZ E hW (Or.inr rfl) ⟨Option.some.inj hf, rfl⟩ dX8_isBeyond_83
      · replace hf := ite_f h5 hf
        refine lv_lload_n hx hb dX8_isBeyond_70 rfl (lv_at hl 3 rfl) ?_
        refine lv_ldc2 (own := RX8) (v := (99 : Int64)) hx hb hown (hts _ kc_X8_192) dX8_isBeyond_71 ?_
        refine W.lcmp hx hb dX8_isBeyond_74 ?_
        refine lv_if_le (tgt := 82) hx hb dX8_isBeyond_75 (by decide) (fun h6 => ?_) (fun h6 => ?_)
        · replace hf := ite_t h6 hf
          refine lv_iconst (v := (0 : Int32)) hx hb dX8_isBeyond_82 (by decide) ?_
          exact retZ E hW (Or.inl rfl) ⟨Option.some.inj hf, rfl⟩ dX8_isBeyond_83
        · replace hf := ite_f h6 hf
          refine lv_iconst (v := (1 : Int32)) hx hb dX8_isBeyond_78 (by decide) ?_
          refine lv_goto (tgt := 83) hx hb dX8_isBeyond_79 (by decide) ?_
          exact retZ E hW (Or.inr rfl) ⟨Option.some.inj hf, rfl⟩ dX8_isBeyond_83
    · replace hf := ite_f h4 hf
      by_cases h7 : v2 = (2 : Int32)
      · replace hf := ite_t h7 hf
        refine lv_tableIn (tgt := 84) hx hb dX8_isBeyond_1 (by rw [h7]; decide) (by rw [h7]; decide) (by rw [h7]; rfl) (by decide) ?_
        refine lv_lload_n hx hb dX8_isBeyond_84 rfl (lv_at hl 3 rfl) ?_
        refine lv_ldc2 (own := RX8) (v := (-1 : Int64)) hx hb hown (hts _ kc_X8_182) dX8_isBeyond_85 ?_
        refine W.lcmp hx hb dX8_isBeyond_88 ?_
        refine lv_if_lt (tgt := 106) hx hb dX8_isBeyond_89 (by decide) (fun h8 => ?_) (fun h8 => ?_)
        · replace hf := ite_t h8 hf
          refine lv_iconst (v := (1 : Int32)) hx hb dX8_isBeyond_106 (by decide) ?_
          refine lv_goto (tgt := 111) hx hb dX8_isBeyond_107 (by decide) ?_
          exact retZ E hW (Or.inr rfl) ⟨Option.some.inj hf, rfl⟩ dX8_isBeyond_111
        · replace hf := ite_f h8 hf
          refine lv_lload_n hx hb dX8_isBeyond_92 rfl (lv_at hl 3 rfl) ?_
          refine lv_aload_n hx hb dX8_isBeyond_93 rfl (lv_at hl 0 rfl) ?_
          refine rg_X8_26 E hW dX8_isBeyond_94 ?_
          refine lv_iload_n hx hb dX8_isBeyond_97 rfl (lv_at hl 1 rfl) ?_
          obtain ⟨r9, hc, hf⟩ := b1_e hf
          refine callVI (As := [.int _]) (rest := [_]) E hW (c_X6_partsOf l hc) lk_X8_161 rcv_X6 (Nat.le_of_ble_eq_true rfl) (Nat.le_of_ble_eq_true rfl) (Nat.le_of_ble_eq_true rfl) (Nat.le_of_ble_eq_true rfl) hl.1 (Nat.le_of_ble_eq_true rfl) dX8_isBeyond_98 (fun H locs hW => ?_)
          refine lv_i2l hx hb dX8_isBeyond_101 rfl ?_
          refine W.lcmp hx hb dX8_isBeyond_102 ?_
          refine lv_if_lt (tgt := 110) hx hb dX8_isBeyond_103 (by decide) (fun h10 => ?_) (fun h10 => ?_)
          · replace hf := ite_t h10 hf
            refine lv_iconst (v := (0 : Int32)) hx hb dX8_isBeyond_110 (by decide) ?_
            exact retZ E hW (Or.inl rfl) ⟨Option.some.inj hf, rfl⟩ dX8_isBeyond_111
          · replace hf := ite_f h10 hf
            refine lv_iconst (v := (1 : Int32)) hx hb dX8_isBeyond_106 (by decide) ?_
            refine lv_goto (tgt := 111) hx hb dX8_isBeyond_107 (by decide) ?_
            exact retZ E hW (Or.inr rfl) ⟨Option.some.inj hf, rfl⟩ dX8_isBeyond_111
      · replace hf := ite_f h7 hf
        by_cases h11 : v2 = (3 : Int32)
        · replace hf := ite_t h11 hf
          refine lv_tableIn (tgt := 112) hx hb dX8_isBeyond_1 (by rw [h11]; decide) (by rw [h11]; decide) (by rw [h11]; rfl) (by decide) ?_
          refine lv_lload_n hx hb dX8_isBeyond_112 rfl (lv_at hl 3 rfl) ?_
          refine lv_lconst (v := (1 : Int64)) hx hb dX8_isBeyond_113 (by decide) ?_
          refine W.lcmp hx hb dX8_isBeyond_114 ?_
          refine lv_if_lt (tgt := 126) hx hb dX8_isBeyond_115 (by decide) (fun h12 => ?_) (fun h12 => ?_)
          · replace hf := ite_t h12 hf
            refine lv_iconst (v := (1 : Int32)) hx hb dX8_isBeyond_126 (by decide) ?_
            refine lv_goto (tgt := 131) hx hb dX8_isBeyond_127 (by decide) ?_
            exact retZ E hW (Or.inr rfl) ⟨Option.some.inj hf, rfl⟩ dX8_isBeyond_131
          · replace hf := ite_f h12 hf
            refine lv_lload_n hx hb dX8_isBeyond_118 rfl (lv_at hl 3 rfl) ?_
            refine lv_ldc2 (own := RX8) (v := (240 : Int64)) hx hb hown (hts _ kc_X8_194) dX8_isBeyond_119 ?_
            refine W.lcmp hx hb dX8_isBeyond_122 ?_
            refine lv_if_le (tgt := 130) hx hb dX8_isBeyond_123 (by decide) (fun h13 => ?_) (fun h13 => ?_)
            · replace hf := ite_t h13 hf
              refine lv_iconst (v := (0 : Int32)) hx hb dX8_isBeyond_130 (by decide) ?_
              exact retZ E hW (Or.inl rfl) ⟨Option.some.inj hf, rfl⟩ dX8_isBeyond_131
            · replace hf := ite_f h13 hf
              refine lv_iconst (v := (1 : Int32)) hx hb dX8_isBeyond_126 (by decide) ?_
              refine lv_goto (tgt := 131) hx hb dX8_isBeyond_127 (by decide) ?_
              exact retZ E hW (Or.inr rfl) ⟨Option.some.inj hf, rfl⟩ dX8_isBeyond_131
        · replace hf := ite_f h11 hf
          by_cases h14 : v2 = (4 : Int32)
          · replace hf := ite_t h14 hf
            refine lv_tableIn (tgt := 132) hx hb dX8_isBeyond_1 (by rw [h14]; decide) (by rw [h14]; decide) (by rw [h14]; rfl) (by decide) ?_
            refine lv_lload_n hx hb dX8_isBeyond_132 rfl (lv_at hl 3 rfl) ?_
            refine lv_lconst (v := (1 : Int64)) hx hb dX8_isBeyond_133 (by decide) ?_
            refine W.lcmp hx hb dX8_isBeyond_134 ?_
            refine lv_if_lt (tgt := 146) hx hb dX8_isBeyond_135 (by decide) (fun h15 => ?_) (fun h15 => ?_)
            · replace hf := ite_t h15 hf
              refine lv_iconst (v := (1 : Int32)) hx hb dX8_isBeyond_146 (by decide) ?_
              refine lv_goto (tgt := 151) hx hb dX8_isBeyond_147 (by decide) ?_
              exact retZ E hW (Or.inr rfl) ⟨Option.some.inj hf, rfl⟩ dX8_isBeyond_151
            · replace hf := ite_f h15 hf
              refine lv_lload_n hx hb dX8_isBeyond_138 rfl (lv_at hl 3 rfl) ?_
              refine lv_ldc2 (own := RX8) (v := (200000 : Int64)) hx hb hown (hts _ kc_X8_196) dX8_isBeyond_139 ?_
              refine W.lcmp hx hb dX8_isBeyond_142 ?_
              refine lv_if_le (tgt := 150) hx hb dX8_isBeyond_143 (by decide) (fun h16 => ?_) (fun h16 => ?_)
              · replace hf := ite_t h16 hf
                refine lv_iconst (v := (0 : Int32)) hx hb dX8_isBeyond_150 (by decide) ?_
                exact retZ E hW (Or.inl rfl) ⟨Option.some.inj hf, rfl⟩ dX8_isBeyond_151
              · replace hf := ite_f h16 hf
                refine lv_iconst (v := (1 : Int32)) hx hb dX8_isBeyond_146 (by decide) ?_
                refine lv_goto (tgt := 151) hx hb dX8_isBeyond_147 (by decide) ?_
                exact retZ E hW (Or.inr rfl) ⟨Option.some.inj hf, rfl⟩ dX8_isBeyond_151
          · replace hf := ite_f h14 hf
            by_cases h17 : v2 = (5 : Int32)
            · replace hf := ite_t h17 hf
              refine lv_tableIn (tgt := 152) hx hb dX8_isBeyond_1 (by rw [h17]; decide) (by rw [h17]; decide) (by rw [h17]; rfl) (by decide) ?_
              refine lv_lload_n hx hb dX8_isBeyond_152 rfl (lv_at hl 3 rfl) ?_
              refine lv_lconst (v := (0 : Int64)) hx hb dX8_isBeyond_153 (by decide) ?_
              refine W.lcmp hx hb dX8_isBeyond_154 ?_
              refine lv_if_lt (tgt := 166) hx hb dX8_isBeyond_155 (by decide) (fun h18 => ?_) (fun h18 => ?_)
              · replace hf := ite_t h18 hf
                refine lv_iconst (v := (1 : Int32)) hx hb dX8_isBeyond_166 (by decide) ?_
                refine lv_goto (tgt := 171) hx hb dX8_isBeyond_167 (by decide) ?_
                exact retZ E hW (Or.inr rfl) ⟨Option.some.inj hf, rfl⟩ dX8_isBeyond_171
              · replace hf := ite_f h18 hf
                refine lv_lload_n hx hb dX8_isBeyond_158 rfl (lv_at hl 3 rfl) ?_
                refine lv_ldc2 (own := RX8) (v := (4 : Int64)) hx hb hown (hts _ kc_X8_198) dX8_isBeyond_159 ?_
                refine W.lcmp hx hb dX8_isBeyond_162 ?_
                refine lv_if_lt (tgt := 170) hx hb dX8_isBeyond_163 (by decide) (fun h19 => ?_) (fun h19 => ?_)
                · replace hf := ite_t h19 hf
                  refine lv_iconst (v := (0 : Int32)) hx hb dX8_isBeyond_170 (by decide) ?_
                  exact retZ E hW (Or.inl rfl) ⟨Option.some.inj hf, rfl⟩ dX8_isBeyond_171
                · replace hf := ite_f h19 hf
                  refine lv_iconst (v := (1 : Int32)) hx hb dX8_isBeyond_166 (by decide) ?_
                  refine lv_goto (tgt := 171) hx hb dX8_isBeyond_167 (by decide) ?_
                  exact retZ E hW (Or.inr rfl) ⟨Option.some.inj hf, rfl⟩ dX8_isBeyond_171
            · replace hf := ite_f h17 hf
              by_cases h20 : v2 = (6 : Int32)
              · replace hf := ite_t h20 hf
                refine lv_tableIn (tgt := 172) hx hb dX8_isBeyond_1 (by rw [h20]; decide) (by rw [h20]; decide) (by rw [h20]; rfl) (by decide) ?_
                refine lv_lload_n hx hb dX8_isBeyond_172 rfl (lv_at hl 3 rfl) ?_
                refine lv_lconst (v := (0 : Int64)) hx hb dX8_isBeyond_173 (by decide) ?_
                refine W.lcmp hx hb dX8_isBeyond_174 ?_
                refine lv_if_lt (tgt := 186) hx hb dX8_isBeyond_175 (by decide) (fun h21 => ?_) (fun h21 => ?_)
                · replace hf := ite_t h21 hf
                  refine lv_iconst (v := (1 : Int32)) hx hb dX8_isBeyond_186 (by decide) ?_
                  refine lv_goto (tgt := 191) hx hb dX8_isBeyond_187 (by decide) ?_
                  exact retZ E hW (Or.inr rfl) ⟨Option.some.inj hf, rfl⟩ dX8_isBeyond_191
                · replace hf := ite_f h21 hf
                  refine lv_lload_n hx hb dX8_isBeyond_178 rfl (lv_at hl 3 rfl) ?_
                  refine lv_ldc2 (own := RX8) (v := (100000 : Int64)) hx hb hown (hts _ kc_X8_200) dX8_isBeyond_179 ?_
                  refine W.lcmp hx hb dX8_isBeyond_182 ?_
                  refine lv_if_le (tgt := 190) hx hb dX8_isBeyond_183 (by decide) (fun h22 => ?_) (fun h22 => ?_)
                  · replace hf := ite_t h22 hf
                    refine lv_iconst (v := (0 : Int32)) hx hb dX8_isBeyond_190 (by decide) ?_
                    exact retZ E hW (Or.inl rfl) ⟨Option.some.inj hf, rfl⟩ dX8_isBeyond_191
                  · replace hf := ite_f h22 hf
                    refine lv_iconst (v := (1 : Int32)) hx hb dX8_isBeyond_186 (by decide) ?_
                    refine lv_goto (tgt := 191) hx hb dX8_isBeyond_187 (by decide) ?_
                    exact retZ E hW (Or.inr rfl) ⟨Option.some.inj hf, rfl⟩ dX8_isBeyond_191
              · replace hf := ite_f h20 hf
                have eh1 := lv_neT h1 (a := 0) (by decide)
                have eh4 := lv_neT h4 (a := 1) (by decide)
                have eh7 := lv_neT h7 (a := 2) (by decide)
                have eh11 := lv_neT h11 (a := 3) (by decide)
                have eh14 := lv_neT h14 (a := 4) (by decide)
                have eh17 := lv_neT h17 (a := 5) (by decide)
                have eh20 := lv_neT h20 (a := 6) (by decide)
                refine lv_tableOut (tgt := 192) hx hb dX8_isBeyond_1 (by omega) (by decide) ?_
                refine lv_lload_n hx hb dX8_isBeyond_192 rfl (lv_at hl 3 rfl) ?_
                refine lv_ldc2 (own := RX8) (v := (-1 : Int64)) hx hb hown (hts _ kc_X8_182) dX8_isBeyond_193 ?_
                refine W.lcmp hx hb dX8_isBeyond_196 ?_
                refine lv_if_lt (tgt := 213) hx hb dX8_isBeyond_197 (by decide) (fun h23 => ?_) (fun h23 => ?_)
                · replace hf := ite_t h23 hf
                  refine lv_iconst (v := (1 : Int32)) hx hb dX8_isBeyond_213 (by decide) ?_
                  refine lv_goto (tgt := 218) hx hb dX8_isBeyond_214 (by decide) ?_
                  exact retZ E hW (Or.inr rfl) ⟨Option.some.inj hf, rfl⟩ dX8_isBeyond_218
                · replace hf := ite_f h23 hf
                  refine lv_lload_n hx hb dX8_isBeyond_200 rfl (lv_at hl 3 rfl) ?_
                  refine lv_aload_n hx hb dX8_isBeyond_201 rfl (lv_at hl 0 rfl) ?_
                  refine rg_X8_19 E hW dX8_isBeyond_202 ?_
                  obtain ⟨r24, hc, hf⟩ := b1_e hf
                  refine callVI (As := []) (rest := [_]) E hW (c_X4_made l hc) lk_X8_140 rcv_X4 (Nat.le_of_ble_eq_true rfl) (Nat.le_of_ble_eq_true rfl) (Nat.le_of_ble_eq_true rfl) (Nat.le_of_ble_eq_true rfl) hl.1 (Nat.le_of_ble_eq_true rfl) dX8_isBeyond_205 (fun H locs hW => ?_)
                  refine lv_i2l hx hb dX8_isBeyond_208 rfl ?_
                  refine W.lcmp hx hb dX8_isBeyond_209 ?_
                  refine lv_if_lt (tgt := 217) hx hb dX8_isBeyond_210 (by decide) (fun h25 => ?_) (fun h25 => ?_)
                  · replace hf := ite_t h25 hf
                    refine lv_iconst (v := (0 : Int32)) hx hb dX8_isBeyond_217 (by decide) ?_
                    exact retZ E hW (Or.inl rfl) ⟨Option.some.inj hf, rfl⟩ dX8_isBeyond_218
                  · replace hf := ite_f h25 hf
                    refine lv_iconst (v := (1 : Int32)) hx hb dX8_isBeyond_213 (by decide) ?_
                    refine lv_goto (tgt := 218) hx hb dX8_isBeyond_214 (by decide) ?_
                    exact retZ E hW (Or.inr rfl) ⟨Option.some.inj hf, rfl⟩ dX8_isBeyond_218
def f_X8_hasNumberBeyond_2 : Nat → CS → Int32 → Int32 → Int32 → Option (Int32)
  | 0, _, _, _, _ => none
  | n + 1, cs, v1, v2, v3 => if (8 : Int32) ≤ v3 then (some (0 : Int32)) else ((f_X8_rowSays cs v2 v3).bind fun r2 => (f_X8_isBeyond cs v1 v3 r2).bind fun r3 => if r3 = 0 then (f_X8_hasNumberBeyond_2 n cs v1 v2 (v3 + (1 : Int32))) else (some (1 : Int32)))
def f_X8_hasNumberBeyond (cs : CS) (v1 : Int32) (v2 : Int32) : Option (Int32) := f_X8_hasNumberBeyond_2 1000 cs v1 v2 (0 : Int32)
def rm_X8_hasNumberBeyond : Room := { frames := 4, cells := 0, slots := 0, locals := 89 }
set_option maxHeartbeats 4000000 in
set_option maxRecDepth 100000 in
theorem w_X8_hasNumberBeyond_2 {p : Program} {l : Launch} {e : Env} {s : State} {m : MethodId} {args : Array Value} {below : List Frame} {meth : Method} {c : Code} {X : XT} {B : Nat} {ms : MS} {o : Nat → Int64} {r : Int32} (E : Ev X B p s m args meth c RX8 cX8_hasNumberBeyond 4 (some .boolean)) : ∀ (n : Nat) (cs : CS) (v1 : Int32) (v2 : Int32) (v3 : Int32) (H : Heap) (locs : List Loc) (ls : Array Slot), f_X8_hasNumberBeyond_2 n cs v1 v2 v3 = some r → Ws X B s.heap H locs (cs, ms, o) → lv_has ls 4 [(0, .ref (X.1 0)), (1, .int v1), (2, .int v2), (3, .int v3)] → W p l e rm_X8_hasNumberBeyond s m args below meth c H locs 0 0 (MQ below (QI X B r (cs, ms, o)) args s 0 0 (Ab B)) (F0 m 2 ls []) := by
  obtain ⟨hx, hb, hml, hown, hts, -⟩ := id E
  intro n
  induction n with
  | zero => intro cs v1 v2 v3 H locs ls hf; exact absurd hf nofun
  | succ n ih =>
    intro cs v1 v2 v3 H locs ls hf hW hl
    rw [f_X8_hasNumberBeyond_2] at hf
    refine lv_iload_n hx hb dX8_hasNumberBeyond_2 rfl (lv_at hl 3 rfl) ?_
    refine lv_bipush (v := (8 : Int32)) hx hb dX8_hasNumberBeyond_3 (by decide) ?_
    refine lv_icmp_ge (tgt := 31) hx hb dX8_hasNumberBeyond_5 (by decide) (fun h1 => ?_) (fun h1 => ?_)
    · replace hf := ite_t h1 hf
      refine lv_iconst (v := (0 : Int32)) hx hb dX8_hasNumberBeyond_31 (by decide) ?_
      exact retZ E hW (Or.inl rfl) ⟨Option.some.inj hf, rfl⟩ dX8_hasNumberBeyond_32
    · replace hf := ite_f h1 hf
      refine lv_aload_n hx hb dX8_hasNumberBeyond_8 rfl (lv_at hl 0 rfl) ?_
      refine lv_iload_n hx hb dX8_hasNumberBeyond_9 rfl (lv_at hl 1 rfl) ?_
      refine lv_iload_n hx hb dX8_hasNumberBeyond_10 rfl (lv_at hl 3 rfl) ?_
      refine lv_aload_n hx hb dX8_hasNumberBeyond_11 rfl (lv_at hl 0 rfl) ?_
      refine lv_iload_n hx hb dX8_hasNumberBeyond_12 rfl (lv_at hl 2 rfl) ?_
      refine lv_iload_n hx hb dX8_hasNumberBeyond_13 rfl (lv_at hl 3 rfl) ?_
      obtain ⟨r2, hc, hf⟩ := b1_e hf
      refine callVJ (As := [.int _, .int _]) (rest := [_, _, _]) E hW (c_X8_rowSays l hc) lk_X8_184 rcv_X8 (Nat.le_of_ble_eq_true rfl) (Nat.le_of_ble_eq_true rfl) (Nat.le_of_ble_eq_true rfl) (Nat.le_of_ble_eq_true rfl) hl.1 (Nat.le_of_ble_eq_true rfl) dX8_hasNumberBeyond_14 (fun H locs hW => ?_)
      obtain ⟨r3, hc, hf⟩ := b1_e hf
      refine callVI (As := [.int _, .int _, .long _]) (rest := []) E hW (c_X8_isBeyond l hc) lk_X8_187 rcv_X8 (Nat.le_of_ble_eq_true rfl) (Nat.le_of_ble_eq_true rfl) (Nat.le_of_ble_eq_true rfl) (Nat.le_of_ble_eq_true rfl) hl.1 (Nat.le_of_ble_eq_true rfl) dX8_hasNumberBeyond_17 (fun H locs hW => ?_)
      refine lv_if_eq (tgt := 25) hx hb dX8_hasNumberBeyond_20 (by decide) (fun h4 => ?_) (fun h4 => ?_)
      · replace hf := ite_t h4 hf
        refine lv_iinc (v := _ + (1 : Int32)) (lv' := [_, _, _, _]) hx hb dX8_hasNumberBeyond_25 hl (k := 3) rfl rfl (by decide) rfl (fun ls hl => ?_)
        refine lv_goto (tgt := 2) hx hb dX8_hasNumberBeyond_28 (by decide) ?_
        exact ih _ _ _ _ _ _ _ hf hW (lv_sub hl [1, 2, 3, 0] rfl)
      · replace hf := ite_f h4 hf
        refine lv_iconst (v := (1 : Int32)) hx hb dX8_hasNumberBeyond_23 (by decide) ?_
        exact retZ E hW (Or.inr rfl) ⟨Option.some.inj hf, rfl⟩ dX8_hasNumberBeyond_24
set_option maxHeartbeats 4000000 in
set_option maxRecDepth 100000 in
theorem c_X8_hasNumberBeyond (l : Launch) {X : XT} {B : Nat} {cs : CS} {ms : MS} {o : Nat → Int64} {v1 : Int32} {v2 : Int32} {r : Int32} (hf : f_X8_hasNumberBeyond cs v1 v2 = some r) : Met l yX8_hasNumberBeyond (.code yX8_hasNumberBeyond cX8_hasNumberBeyond 4 (some .boolean) :: BIG) rm_X8_hasNumberBeyond (Pre X B (cs, ms, o) [.ref (X.1 0), .int v1, .int v2]) (QI X B r (cs, ms, o)) 0 0 (Ab B) := by
  refine entry (by decide +kernel) rfl (Nat.le_of_ble_eq_true rfl) (fun p e s m below meth c ls E hW hl => ?_)
  obtain ⟨hx, hb, hml, hown, hts, -⟩ := id E
  replace hl : lv_has ls 4 [(0, .ref (X.1 0)), (1, .int v1), (2, .int v2)] := hl
  unfold f_X8_hasNumberBeyond at hf
  refine lv_iconst (v := (0 : Int32)) hx hb dX8_hasNumberBeyond_0 (by decide) ?_
  refine lv_istore_n (lv' := [_, _, _, _]) hx hb dX8_hasNumberBeyond_1 rfl hl (by decide) rfl (fun ls hl => ?_)
  exact w_X8_hasNumberBeyond_2 E 1000 _ _ _ _ _ _ _ hf hW (lv_sub hl [1, 2, 3, 0] rfl)
def f_X8_part (cs : CS) (v1 : Int32) (v2 : Int32) (v3 : Int32) : Option ((Int32 ⊕ String) × CS) := (f_X6_isModel cs v1).bind fun r1 => if r1 = 0 then (some (.inr "java/lang/IllegalArgumentException", cs)) else (bx (f_X8_slotOf cs v2 v3) fun b5 cs4 => (f_X7_lengthAt cs4 b5).bind fun r9 => if r9 = (-1 : Int32) then (some (.inl (-1 : Int32), cs4)) else (if (7 : Int32) ≤ r9 then ((f_X8_hasNumberBeyond cs4 v1 b5).bind fun r12 => if r12 = 0 then ((f_X8_breaksShellRule cs4 v1 b5).bind fun r14 => if r14 = 0 then ((f_X6_partsOf cs4 v1).bind fun r16 => if r16 < (24 : Int32) then (b2 (f_X8_addPart cs4 v1 b5) fun r19 cs18 => some (.inl r19, cs18)) else (some (.inl (-5 : Int32), cs4))) else (some (.inl (-4 : Int32), cs4))) else (some (.inl (-3 : Int32), cs4))) else (some (.inl (-2 : Int32), cs4))))
def rm_X8_part : Room := { frames := 11, cells := 1, slots := 6, locals := 173 }
set_option maxHeartbeats 4000000 in
set_option maxRecDepth 100000 in
theorem c_X8_part (l : Launch) (hl0 : l.stackTraces = false) {X : XT} {B : Nat} {cs : CS} {ms : MS} {o : Nat → Int64} {v1 : Int32} {v2 : Int32} {v3 : Int32} {r : Int32 ⊕ String} {S9 : CS} (hf : f_X8_part cs v1 v2 v3 = some (r, S9)) : vx_Met l yX8_part (.code yX8_part cX8_part 6 (some .int) :: BIG) rm_X8_part (Pre X B (cs, ms, o) [.ref (X.1 0), .int v1, .int v2, .int v3]) (QXI X B r (S9, ms, o)) (XCx X B r (S9, ms, o)) 1 6 (Ab B) := by
  refine xentry (by decide +kernel) rfl (Nat.le_of_ble_eq_true rfl) (fun p e s m below meth c ls E hxt hW hl => ?_)
  obtain ⟨hx, hb, hml, hown, hts, -⟩ := id E
  replace hl : lv_has ls 6 [(0, .ref (X.1 0)), (1, .int v1), (2, .int v2), (3, .int v3)] := hl
  unfold f_X8_part at hf
  refine lv_iload_n hx hb dX8_part_0 rfl (lv_at hl 1 rfl) ?_
  obtain ⟨r1, hc, hf⟩ := b1_e hf
  refine callSI (As := [.int _]) (rest := []) E hW (c_X6_isModel l hc) lk_X8_149 (Nat.le_of_ble_eq_true rfl) (Nat.le_of_ble_eq_true rfl) (Nat.le_of_ble_eq_true rfl) (Nat.le_of_ble_eq_true rfl) hl.1 (Nat.le_of_ble_eq_true rfl) dX8_part_1 (fun H locs hW => ?_)
  refine lv_if_ne (tgt := 17) hx hb dX8_part_4 (by decide) (fun h2 => ?_) (fun h2 => ?_)
  · replace hf := ite_f h2 hf
    refine lv_aload_n hx hb dX8_part_17 rfl (lv_at hl 0 rfl) ?_
    refine lv_iload_n hx hb dX8_part_18 rfl (lv_at hl 2 rfl) ?_
    refine lv_iload_n hx hb dX8_part_19 rfl (lv_at hl 3 rfl) ?_
    obtain ⟨r3, cs4, hc, k6, e7⟩ := bx_e hf
    refine xcallVI (As := [.int _, .int _]) (rest := []) E hW (c_X8_slotOf l hl0 hc) lk_X8_100 rcv_X8 (Nat.le_of_ble_eq_true rfl) (Nat.le_of_ble_eq_true rfl) (Nat.le_of_ble_eq_true rfl) (Nat.le_of_ble_eq_true rfl) hl.1 (Nat.le_of_ble_eq_true rfl) dX8_part_20 hxt (by decide) (by decide) (fun z hz => by have q9 := e7 z hz; cases q9; exact ⟨rfl, rfl⟩) (fun b5 q8 H locs hW => ?_)
    replace hf := k6 b5 q8
    refine lv_istore (lv' := [_, _, _, _, _]) hx hb dX8_part_23 hl (by decide) rfl (fun ls hl => ?_)
    refine lv_aload_n hx hb dX8_part_25 rfl (lv_at hl 1 rfl) ?_
    refine rg_X8_10 E hW dX8_part_26 ?_
    refine lv_iload hx hb dX8_part_29 (lv_at hl 0 rfl) ?_
    obtain ⟨r9, hc, hf⟩ := b1_e hf
    refine callVI (As := [.int _]) (rest := []) E hW (c_X7_lengthAt l hc) lk_X8_108 rcv_X7 (Nat.le_of_ble_eq_true rfl) (Nat.le_of_ble_eq_true rfl) (Nat.le_of_ble_eq_true rfl) (Nat.le_of_ble_eq_true rfl) hl.1 (Nat.le_of_ble_eq_true rfl) dX8_part_31 (fun H locs hW => ?_)
    refine lv_istore (lv' := [_, _, _, _, _, _]) hx hb dX8_part_34 hl (by decide) rfl (fun ls hl => ?_)
    refine lv_iload hx hb dX8_part_36 (lv_at hl 0 rfl) ?_
    refine lv_iconst (v := (-1 : Int32)) hx hb dX8_part_38 (by decide) ?_
    refine lv_icmp_ne (tgt := 44) hx hb dX8_part_39 (by decide) (fun h10 => ?_) (fun h10 => ?_)
    · replace hf := ite_f h10 hf
      refine lv_iload hx hb dX8_part_44 (lv_at hl 0 rfl) ?_
      refine lv_bipush (v := (7 : Int32)) hx hb dX8_part_46 (by decide) ?_
      refine lv_icmp_ge (tgt := 54) hx hb dX8_part_48 (by decide) (fun h11 => ?_) (fun h11 => ?_)
      · replace hf := ite_t h11 hf
        refine lv_aload_n hx hb dX8_part_54 rfl (lv_at hl 2 rfl) ?_
        refine lv_iload_n hx hb dX8_part_55 rfl (lv_at hl 3 rfl) ?_
        refine lv_iload hx hb dX8_part_56 (lv_at hl 1 rfl) ?_
        obtain ⟨r12, hc, hf⟩ := b1_e hf
        refine callVI (As := [.int _, .int _]) (rest := []) E hW (c_X8_hasNumberBeyond l hc) lk_X8_154 rcv_X8 (Nat.le_of_ble_eq_true rfl) (Nat.le_of_ble_eq_true rfl) (Nat.le_of_ble_eq_true rfl) (Nat.le_of_ble_eq_true rfl) hl.1 (Nat.le_of_ble_eq_true rfl) dX8_part_58 (fun H locs hW => ?_)
        refine lv_if_eq (tgt := 67) hx hb dX8_part_61 (by decide) (fun h13 => ?_) (fun h13 => ?_)
        · replace hf := ite_t h13 hf
          refine lv_aload_n hx hb dX8_part_67 rfl (lv_at hl 2 rfl) ?_
          refine lv_iload_n hx hb dX8_part_68 rfl (lv_at hl 3 rfl) ?_
          refine lv_iload hx hb dX8_part_69 (lv_at hl 1 rfl) ?_
          obtain ⟨r14, hc, hf⟩ := b1_e hf
          refine callVI (As := [.int _, .int _]) (rest := []) E hW (c_X8_breaksShellRule l hc) lk_X8_158 rcv_X8 (Nat.le_of_ble_eq_true rfl) (Nat.le_of_ble_eq_true rfl) (Nat.le_of_ble_eq_true rfl) (Nat.le_of_ble_eq_true rfl) hl.1 (Nat.le_of_ble_eq_true rfl) dX8_part_71 (fun H locs hW => ?_)
          refine lv_if_eq (tgt := 80) hx hb dX8_part_74 (by decide) (fun h15 => ?_) (fun h15 => ?_)
          · replace hf := ite_t h15 hf
            refine lv_aload_n hx hb dX8_part_80 rfl (lv_at hl 2 rfl) ?_
            refine rg_X8_26 E hW dX8_part_81 ?_
            refine lv_iload_n hx hb dX8_part_84 rfl (lv_at hl 3 rfl) ?_
            obtain ⟨r16, hc, hf⟩ := b1_e hf
            refine callVI (As := [.int _]) (rest := []) E hW (c_X6_partsOf l hc) lk_X8_161 rcv_X6 (Nat.le_of_ble_eq_true rfl) (Nat.le_of_ble_eq_true rfl) (Nat.le_of_ble_eq_true rfl) (Nat.le_of_ble_eq_true rfl) hl.1 (Nat.le_of_ble_eq_true rfl) dX8_part_85 (fun H locs hW => ?_)
            refine lv_bipush (v := (24 : Int32)) hx hb dX8_part_88 (by decide) ?_
            refine lv_icmp_lt (tgt := 96) hx hb dX8_part_90 (by decide) (fun h17 => ?_) (fun h17 => ?_)
            · replace hf := ite_t h17 hf
              refine lv_aload_n hx hb dX8_part_96 rfl (lv_at hl 2 rfl) ?_
              refine lv_iload_n hx hb dX8_part_97 rfl (lv_at hl 3 rfl) ?_
              refine lv_iload hx hb dX8_part_98 (lv_at hl 1 rfl) ?_
              obtain ⟨r19, cs18, hc, hf⟩ := b2_e hf
              refine callVI (As := [.int _, .int _]) (rest := []) E hW (c_X8_addPart l hc) lk_X8_164 rcv_X8 (Nat.le_of_ble_eq_true rfl) (Nat.le_of_ble_eq_true rfl) (Nat.le_of_ble_eq_true rfl) (Nat.le_of_ble_eq_true rfl) hl.1 (Nat.le_of_ble_eq_true rfl) dX8_part_100 (fun H locs hW => ?_)
              exact vx_ret (retIX E hW (exC hf) dX8_part_103)
            · replace hf := ite_f h17 hf
              refine lv_bipush (v := (-5 : Int32)) hx hb dX8_part_93 (by decide) ?_
              exact vx_ret (retIX E hW (exC hf) dX8_part_95)
          · replace hf := ite_f h15 hf
            refine lv_bipush (v := (-4 : Int32)) hx hb dX8_part_77 (by decide) ?_
            exact vx_ret (retIX E hW (exC hf) dX8_part_79)
        · replace hf := ite_f h13 hf
          refine lv_bipush (v := (-3 : Int32)) hx hb dX8_part_64 (by decide) ?_
          exact vx_ret (retIX E hW (exC hf) dX8_part_66)
      · replace hf := ite_f h11 hf
        refine lv_bipush (v := (-2 : Int32)) hx hb dX8_part_51 (by decide) ?_
        exact vx_ret (retIX E hW (exC hf) dX8_part_53)
    · replace hf := ite_t h10 hf
      refine lv_iconst (v := (-1 : Int32)) hx hb dX8_part_42 (by decide) ?_
      exact vx_ret (retIX E hW (exC hf) dX8_part_43)
  · replace hf := ite_t h2 hf
    exact throwS E hl0 hxt hW th_X8_84_152_88 dX8_part_7 dX8_part_10 dX8_part_11 dX8_part_13 dX8_part_16 (etC hf) (Nat.le_of_ble_eq_true rfl) (Nat.le_of_ble_eq_true rfl) (Nat.le_of_ble_eq_true rfl) (Nat.le_of_ble_eq_true rfl) (Nat.le_of_ble_eq_true rfl) (by decide) (by decide) (hl.1.trans hml.symm)
def f_X8_told (cs : CS) (v1 : Int32) (v2 : Int32) (v3 : Int32) : Option ((Int32 ⊕ String) × CS) := if v2 < 0 then (some (.inr "java/util/NoSuchElementException", cs)) else ((f_X6_partsOf cs v1).bind fun r2 => if v2 < r2 then (if v3 < 0 then (some (.inr "java/lang/IllegalArgumentException", cs)) else (if v3 < (8 : Int32) then ((f_X6_factOf cs v1 v2 v3).bind fun r6 => some (.inl r6, cs)) else (some (.inr "java/lang/IllegalArgumentException", cs)))) else (some (.inr "java/util/NoSuchElementException", cs)))
def rm_X8_told : Room := { frames := 10, cells := 1, slots := 6, locals := 150 }
set_option maxHeartbeats 4000000 in
set_option maxRecDepth 100000 in
theorem c_X8_told (l : Launch) (hl0 : l.stackTraces = false) {X : XT} {B : Nat} {cs : CS} {ms : MS} {o : Nat → Int64} {v1 : Int32} {v2 : Int32} {v3 : Int32} {r : Int32 ⊕ String} {S9 : CS} (hf : f_X8_told cs v1 v2 v3 = some (r, S9)) : vx_Met l yX8_told (.code yX8_told cX8_told 4 (some .int) :: BIG) rm_X8_told (Pre X B (cs, ms, o) [.ref (X.1 0), .int v1, .int v2, .int v3]) (QXI X B r (S9, ms, o)) (XCx X B r (S9, ms, o)) 1 6 (Ab B) := by
  refine xentry (by decide +kernel) rfl (Nat.le_of_ble_eq_true rfl) (fun p e s m below meth c ls E hxt hW hl => ?_)
  obtain ⟨hx, hb, hml, hown, hts, -⟩ := id E
  replace hl : lv_has ls 4 [(0, .ref (X.1 0)), (1, .int v1), (2, .int v2), (3, .int v3)] := hl
  unfold f_X8_told at hf
  refine lv_iload_n hx hb dX8_told_0 rfl (lv_at hl 2 rfl) ?_
  refine lv_if_lt (tgt := 16) hx hb dX8_told_1 (by decide) (fun h1 => ?_) (fun h1 => ?_)
  · replace hf := ite_t h1 hf
    exact throwN E hl0 hxt hW th_X8_167_169_171 dX8_told_16 dX8_told_19 dX8_told_20 dX8_told_22 dX8_told_25 (etC hf) (Nat.le_of_ble_eq_true rfl) (Nat.le_of_ble_eq_true rfl) (Nat.le_of_ble_eq_true rfl) (Nat.le_of_ble_eq_true rfl) (Nat.le_of_ble_eq_true rfl) (by decide) (by decide) (hl.1.trans hml.symm)
  · replace hf := ite_f h1 hf
    refine lv_iload_n hx hb dX8_told_4 rfl (lv_at hl 2 rfl) ?_
    refine lv_aload_n hx hb dX8_told_5 rfl (lv_at hl 0 rfl) ?_
    refine rg_X8_26 E hW dX8_told_6 ?_
    refine lv_iload_n hx hb dX8_told_9 rfl (lv_at hl 1 rfl) ?_
    obtain ⟨r2, hc, hf⟩ := b1_e hf
    refine callVI (As := [.int _]) (rest := [_]) E hW (c_X6_partsOf l hc) lk_X8_161 rcv_X6 (Nat.le_of_ble_eq_true rfl) (Nat.le_of_ble_eq_true rfl) (Nat.le_of_ble_eq_true rfl) (Nat.le_of_ble_eq_true rfl) hl.1 (Nat.le_of_ble_eq_true rfl) dX8_told_10 (fun H locs hW => ?_)
    refine lv_icmp_lt (tgt := 26) hx hb dX8_told_13 (by decide) (fun h3 => ?_) (fun h3 => ?_)
    · replace hf := ite_t h3 hf
      refine lv_iload_n hx hb dX8_told_26 rfl (lv_at hl 3 rfl) ?_
      refine lv_if_lt (tgt := 36) hx hb dX8_told_27 (by decide) (fun h4 => ?_) (fun h4 => ?_)
      · replace hf := ite_t h4 hf
        exact throwS E hl0 hxt hW th_X8_84_172_88 dX8_told_36 dX8_told_39 dX8_told_40 dX8_told_42 dX8_told_45 (etC hf) (Nat.le_of_ble_eq_true rfl) (Nat.le_of_ble_eq_true rfl) (Nat.le_of_ble_eq_true rfl) (Nat.le_of_ble_eq_true rfl) (Nat.le_of_ble_eq_true rfl) (by decide) (by decide) (hl.1.trans hml.symm)
      · replace hf := ite_f h4 hf
        refine lv_iload_n hx hb dX8_told_30 rfl (lv_at hl 3 rfl) ?_
        refine lv_bipush (v := (8 : Int32)) hx hb dX8_told_31 (by decide) ?_
        refine lv_icmp_lt (tgt := 46) hx hb dX8_told_33 (by decide) (fun h5 => ?_) (fun h5 => ?_)
        · replace hf := ite_t h5 hf
          refine lv_aload_n hx hb dX8_told_46 rfl (lv_at hl 0 rfl) ?_
          refine rg_X8_26 E hW dX8_told_47 ?_
          refine lv_iload_n hx hb dX8_told_50 rfl (lv_at hl 1 rfl) ?_
          refine lv_iload_n hx hb dX8_told_51 rfl (lv_at hl 2 rfl) ?_
          refine lv_iload_n hx hb dX8_told_52 rfl (lv_at hl 3 rfl) ?_
          obtain ⟨r6, hc, hf⟩ := b1_e hf
          refine callVI (As := [.int _, .int _, .int _]) (rest := []) E hW (c_X6_factOf l hc) lk_X8_174 rcv_X6 (Nat.le_of_ble_eq_true rfl) (Nat.le_of_ble_eq_true rfl) (Nat.le_of_ble_eq_true rfl) (Nat.le_of_ble_eq_true rfl) hl.1 (Nat.le_of_ble_eq_true rfl) dX8_told_53 (fun H locs hW => ?_)
          refine W.widen (k := 1) (n := 6) (by decide) (by decide) ?_
          exact vx_ret (retIX E hW (exC hf) dX8_told_56)
        · replace hf := ite_f h5 hf
          exact throwS E hl0 hxt hW th_X8_84_172_88 dX8_told_36 dX8_told_39 dX8_told_40 dX8_told_42 dX8_told_45 (etC hf) (Nat.le_of_ble_eq_true rfl) (Nat.le_of_ble_eq_true rfl) (Nat.le_of_ble_eq_true rfl) (Nat.le_of_ble_eq_true rfl) (Nat.le_of_ble_eq_true rfl) (by decide) (by decide) (hl.1.trans hml.symm)
    · replace hf := ite_f h3 hf
      exact throwN E hl0 hxt hW th_X8_167_169_171 dX8_told_16 dX8_told_19 dX8_told_20 dX8_told_22 dX8_told_25 (etC hf) (Nat.le_of_ble_eq_true rfl) (Nat.le_of_ble_eq_true rfl) (Nat.le_of_ble_eq_true rfl) (Nat.le_of_ble_eq_true rfl) (Nat.le_of_ble_eq_true rfl) (by decide) (by decide) (hl.1.trans hml.symm)
def f_X8_weightPlace (cs : CS) (v1 : Int32) (v2 : Int32) : Option (Int32) := if v1 < 0 then (some (-1 : Int32)) else (if (4 : Int32) ≤ v1 then (some (-1 : Int32)) else (if v2 < 0 then (some (-1 : Int32)) else (if (6 : Int32) ≤ v2 then (some (-1 : Int32)) else (if ((v1 * (6 : Int32)) + v2) < 0 then (some (-1 : Int32)) else (if (24 : Int32) ≤ ((v1 * (6 : Int32)) + v2) then (some (-1 : Int32)) else (some ((v1 * (6 : Int32)) + v2)))))))
def rm_X8_weightPlace : Room := { frames := 0, cells := 0, slots := 0, locals := 0 }
set_option maxHeartbeats 4000000 in
set_option maxRecDepth 100000 in
theorem c_X8_weightPlace (l : Launch) {X : XT} {B : Nat} {cs : CS} {ms : MS} {o : Nat → Int64} {v1 : Int32} {v2 : Int32} {r : Int32} (hf : f_X8_weightPlace cs v1 v2 = some r) : Met l yX8_weightPlace (.code yX8_weightPlace cX8_weightPlace 5 (some .int) :: BIG) rm_X8_weightPlace (Pre X B (cs, ms, o) [.ref (X.1 0), .int v1, .int v2]) (QI X B r (cs, ms, o)) 0 0 (Ab B) := by
  refine entry (by decide +kernel) rfl (Nat.le_of_ble_eq_true rfl) (fun p e s m below meth c ls E hW hl => ?_)
  obtain ⟨hx, hb, hml, hown, hts, -⟩ := id E
  replace hl : lv_has ls 5 [(0, .ref (X.1 0)), (1, .int v1), (2, .int v2)] := hl
  unfold f_X8_weightPlace at hf
  refine lv_iload_n hx hb dX8_weightPlace_0 rfl (lv_at hl 1 rfl) ?_
  refine lv_if_lt (tgt := 23) hx hb dX8_weightPlace_1 (by decide) (fun h1 => ?_) (fun h1 => ?_)
  · replace hf := ite_t h1 hf
    refine lv_iconst (v := (0 : Int32)) hx hb dX8_weightPlace_23 (by decide) ?_
    refine lv_istore_n (lv' := [_, _, _, _]) hx hb dX8_weightPlace_24 rfl hl (by decide) rfl (fun ls hl => ?_)
    refine lv_iload_n hx hb dX8_weightPlace_25 rfl (lv_at hl 2 rfl) ?_
    refine lv_bipush (v := (6 : Int32)) hx hb dX8_weightPlace_26 (by decide) ?_
    refine lv_imul hx hb dX8_weightPlace_28 ?_
    refine lv_iload_n hx hb dX8_weightPlace_29 rfl (lv_at hl 3 rfl) ?_
    refine lv_iadd hx hb dX8_weightPlace_30 ?_
    refine lv_istore (lv' := [_, _, _, _, _]) hx hb dX8_weightPlace_31 hl (by decide) rfl (fun ls hl => ?_)
    refine lv_iload_n hx hb dX8_weightPlace_33 rfl (lv_at hl 1 rfl) ?_
    refine lv_if_eq (tgt := 57) hx hb dX8_weightPlace_34 (by decide) (fun _ => ?_) (fun h9 => absurd h9 (by decide))
    refine lv_iconst (v := (-1 : Int32)) hx hb dX8_weightPlace_57 (by decide) ?_
    exact retI E hW ⟨Option.some.inj hf, rfl⟩ dX8_weightPlace_58
  · replace hf := ite_f h1 hf
    refine lv_iload_n hx hb dX8_weightPlace_4 rfl (lv_at hl 1 rfl) ?_
    refine lv_iconst (v := (4 : Int32)) hx hb dX8_weightPlace_5 (by decide) ?_
    refine lv_icmp_ge (tgt := 23) hx hb dX8_weightPlace_6 (by decide) (fun h2 => ?_) (fun h2 => ?_)
    · replace hf := ite_t h2 hf
      refine lv_iconst (v := (0 : Int32)) hx hb dX8_weightPlace_23 (by decide) ?_
      refine lv_istore_n (lv' := [_, _, _, _]) hx hb dX8_weightPlace_24 rfl hl (by decide) rfl (fun ls hl => ?_)
      refine lv_iload_n hx hb dX8_weightPlace_25 rfl (lv_at hl 2 rfl) ?_
      refine lv_bipush (v := (6 : Int32)) hx hb dX8_weightPlace_26 (by decide) ?_
      refine lv_imul hx hb dX8_weightPlace_28 ?_
      refine lv_iload_n hx hb dX8_weightPlace_29 rfl (lv_at hl 3 rfl) ?_
      refine lv_iadd hx hb dX8_weightPlace_30 ?_
      refine lv_istore (lv' := [_, _, _, _, _]) hx hb dX8_weightPlace_31 hl (by decide) rfl (fun ls hl => ?_)
      refine lv_iload_n hx hb dX8_weightPlace_33 rfl (lv_at hl 1 rfl) ?_
      refine lv_if_eq (tgt := 57) hx hb dX8_weightPlace_34 (by decide) (fun _ => ?_) (fun h9 => absurd h9 (by decide))
      refine lv_iconst (v := (-1 : Int32)) hx hb dX8_weightPlace_57 (by decide) ?_
      exact retI E hW ⟨Option.some.inj hf, rfl⟩ dX8_weightPlace_58
    · replace hf := ite_f h2 hf
      refine lv_iload_n hx hb dX8_weightPlace_9 rfl (lv_at hl 2 rfl) ?_
      refine lv_if_lt (tgt := 23) hx hb dX8_weightPlace_10 (by decide) (fun h3 => ?_) (fun h3 => ?_)
      · replace hf := ite_t h3 hf
        refine lv_iconst (v := (0 : Int32)) hx hb dX8_weightPlace_23 (by decide) ?_
        refine lv_istore_n (lv' := [_, _, _, _]) hx hb dX8_weightPlace_24 rfl hl (by decide) rfl (fun ls hl => ?_)
        refine lv_iload_n hx hb dX8_weightPlace_25 rfl (lv_at hl 2 rfl) ?_
        refine lv_bipush (v := (6 : Int32)) hx hb dX8_weightPlace_26 (by decide) ?_
        refine lv_imul hx hb dX8_weightPlace_28 ?_
        refine lv_iload_n hx hb dX8_weightPlace_29 rfl (lv_at hl 3 rfl) ?_
        refine lv_iadd hx hb dX8_weightPlace_30 ?_
        refine lv_istore (lv' := [_, _, _, _, _]) hx hb dX8_weightPlace_31 hl (by decide) rfl (fun ls hl => ?_)
        refine lv_iload_n hx hb dX8_weightPlace_33 rfl (lv_at hl 1 rfl) ?_
        refine lv_if_eq (tgt := 57) hx hb dX8_weightPlace_34 (by decide) (fun _ => ?_) (fun h9 => absurd h9 (by decide))
        refine lv_iconst (v := (-1 : Int32)) hx hb dX8_weightPlace_57 (by decide) ?_
        exact retI E hW ⟨Option.some.inj hf, rfl⟩ dX8_weightPlace_58
      · replace hf := ite_f h3 hf
        refine lv_iload_n hx hb dX8_weightPlace_13 rfl (lv_at hl 2 rfl) ?_
        refine lv_bipush (v := (6 : Int32)) hx hb dX8_weightPlace_14 (by decide) ?_
        refine lv_icmp_ge (tgt := 23) hx hb dX8_weightPlace_16 (by decide) (fun h4 => ?_) (fun h4 => ?_)
        · replace hf := ite_t h4 hf
          refine lv_iconst (v := (0 : Int32)) hx hb dX8_weightPlace_23 (by decide) ?_
          refine lv_istore_n (lv' := [_, _, _, _]) hx hb dX8_weightPlace_24 rfl hl (by decide) rfl (fun ls hl => ?_)
          refine lv_iload_n hx hb dX8_weightPlace_25 rfl (lv_at hl 2 rfl) ?_
          refine lv_bipush (v := (6 : Int32)) hx hb dX8_weightPlace_26 (by decide) ?_
          refine lv_imul hx hb dX8_weightPlace_28 ?_
          refine lv_iload_n hx hb dX8_weightPlace_29 rfl (lv_at hl 3 rfl) ?_
          refine lv_iadd hx hb dX8_weightPlace_30 ?_
          refine lv_istore (lv' := [_, _, _, _, _]) hx hb dX8_weightPlace_31 hl (by decide) rfl (fun ls hl => ?_)
          refine lv_iload_n hx hb dX8_weightPlace_33 rfl (lv_at hl 1 rfl) ?_
          refine lv_if_eq (tgt := 57) hx hb dX8_weightPlace_34 (by decide) (fun _ => ?_) (fun h9 => absurd h9 (by decide))
          refine lv_iconst (v := (-1 : Int32)) hx hb dX8_weightPlace_57 (by decide) ?_
          exact retI E hW ⟨Option.some.inj hf, rfl⟩ dX8_weightPlace_58
        · replace hf := ite_f h4 hf
          refine lv_iconst (v := (1 : Int32)) hx hb dX8_weightPlace_19 (by decide) ?_
          refine lv_goto (tgt := 24) hx hb dX8_weightPlace_20 (by decide) ?_
          refine lv_istore_n (lv' := [_, _, _, _]) hx hb dX8_weightPlace_24 rfl hl (by decide) rfl (fun ls hl => ?_)
          refine lv_iload_n hx hb dX8_weightPlace_25 rfl (lv_at hl 2 rfl) ?_
          refine lv_bipush (v := (6 : Int32)) hx hb dX8_weightPlace_26 (by decide) ?_
          refine lv_imul hx hb dX8_weightPlace_28 ?_
          refine lv_iload_n hx hb dX8_weightPlace_29 rfl (lv_at hl 3 rfl) ?_
          refine lv_iadd hx hb dX8_weightPlace_30 ?_
          refine lv_istore (lv' := [_, _, _, _, _]) hx hb dX8_weightPlace_31 hl (by decide) rfl (fun ls hl => ?_)
          refine lv_iload_n hx hb dX8_weightPlace_33 rfl (lv_at hl 1 rfl) ?_
          refine lv_if_eq (tgt := 57) hx hb dX8_weightPlace_34 (by decide) (fun h9 => absurd h9 (by decide)) (fun _ => ?_)
          refine lv_iload hx hb dX8_weightPlace_37 (lv_at hl 0 rfl) ?_
          refine lv_if_lt (tgt := 57) hx hb dX8_weightPlace_39 (by decide) (fun h5 => ?_) (fun h5 => ?_)
          · replace hf := ite_t h5 hf
            refine lv_iconst (v := (-1 : Int32)) hx hb dX8_weightPlace_57 (by decide) ?_
            exact retI E hW ⟨Option.some.inj hf, rfl⟩ dX8_weightPlace_58
          · replace hf := ite_f h5 hf
            refine lv_iload hx hb dX8_weightPlace_42 (lv_at hl 0 rfl) ?_
            refine lv_aload_n hx hb dX8_weightPlace_44 rfl (lv_at hl 2 rfl) ?_
            refine rg_X8_56 E hW dX8_weightPlace_45 ?_
            refine rl_10 E hW dX8_weightPlace_48 ?_
            refine lv_icmp_ge (tgt := 57) hx hb dX8_weightPlace_49 (by decide) (fun h6 => ?_) (fun h6 => ?_)
            · replace hf := ite_t h6 hf
              refine lv_iconst (v := (-1 : Int32)) hx hb dX8_weightPlace_57 (by decide) ?_
              exact retI E hW ⟨Option.some.inj hf, rfl⟩ dX8_weightPlace_58
            · replace hf := ite_f h6 hf
              refine lv_iload hx hb dX8_weightPlace_52 (lv_at hl 0 rfl) ?_
              refine lv_goto (tgt := 58) hx hb dX8_weightPlace_54 (by decide) ?_
              exact retI E hW ⟨Option.some.inj hf, rfl⟩ dX8_weightPlace_58
def f_X8_weigh (cs : CS) (v1 : Int32) (v2 : Int32) (v3 : Int32) (v4 : Int32) : Option (CS) := (f_X6_factOf cs v1 v2 (5 : Int32)).bind fun r1 => (f_X8_weightPlace cs r1 v3).bind fun r2 => if r2 = (-1 : Int32) then (some cs) else ((ldI (ca cs 10) 24 r2).bind fun q5 => (f_X6_factOf cs v1 v2 (4 : Int32)).bind fun r6 => ixr 24 r2 <| some (caU cs 10 (r2).toNatClampNeg (q5 + (v4 * r6))))
def rm_X8_weigh : Room := { frames := 3, cells := 0, slots := 0, locals := 70 }
set_option maxHeartbeats 4000000 in
set_option maxRecDepth 100000 in
theorem c_X8_weigh (l : Launch) {X : XT} {B : Nat} {cs : CS} {ms : MS} {o : Nat → Int64} {v1 : Int32} {v2 : Int32} {v3 : Int32} {v4 : Int32} {S9 : CS} (hf : f_X8_weigh cs v1 v2 v3 v4 = some S9) : Met l yX8_weigh (.code yX8_weigh cX8_weigh 6 none :: BIG) rm_X8_weigh (Pre X B (cs, ms, o) [.ref (X.1 0), .int v1, .int v2, .int v3, .int v4]) (QV X B (S9, ms, o)) 0 0 (Ab B) := by
  refine entry (by decide +kernel) rfl (Nat.le_of_ble_eq_true rfl) (fun p e s m below meth c ls E hW hl => ?_)
  obtain ⟨hx, hb, hml, hown, hts, -⟩ := id E
  replace hl : lv_has ls 6 [(0, .ref (X.1 0)), (1, .int v1), (2, .int v2), (3, .int v3), (4, .int v4)] := hl
  unfold f_X8_weigh at hf
  refine lv_aload_n hx hb dX8_weigh_0 rfl (lv_at hl 0 rfl) ?_
  refine lv_aload_n hx hb dX8_weigh_1 rfl (lv_at hl 0 rfl) ?_
  refine rg_X8_26 E hW dX8_weigh_2 ?_
  refine lv_iload_n hx hb dX8_weigh_5 rfl (lv_at hl 1 rfl) ?_
  refine lv_iload_n hx hb dX8_weigh_6 rfl (lv_at hl 2 rfl) ?_
  refine lv_iconst (v := (5 : Int32)) hx hb dX8_weigh_7 (by decide) ?_
  obtain ⟨r1, hc, hf⟩ := b1_e hf
  refine callVI (As := [.int _, .int _, .int _]) (rest := [_]) E hW (c_X6_factOf l hc) lk_X8_174 rcv_X6 (Nat.le_of_ble_eq_true rfl) (Nat.le_of_ble_eq_true rfl) (Nat.le_of_ble_eq_true rfl) (Nat.le_of_ble_eq_true rfl) hl.1 (Nat.le_of_ble_eq_true rfl) dX8_weigh_8 (fun H locs hW => ?_)
  refine lv_iload_n hx hb dX8_weigh_11 rfl (lv_at hl 3 rfl) ?_
  obtain ⟨r2, hc, hf⟩ := b1_e hf
  refine callVI (As := [.int _, .int _]) (rest := []) E hW (c_X8_weightPlace l hc) lk_X8_409 rcv_X8 (Nat.le_of_ble_eq_true rfl) (Nat.le_of_ble_eq_true rfl) (Nat.le_of_ble_eq_true rfl) (Nat.le_of_ble_eq_true rfl) hl.1 (Nat.le_of_ble_eq_true rfl) dX8_weigh_12 (fun H locs hW => ?_)
  refine lv_istore (lv' := [_, _, _, _, _, _]) hx hb dX8_weigh_15 hl (by decide) rfl (fun ls hl => ?_)
  refine lv_iload hx hb dX8_weigh_17 (lv_at hl 0 rfl) ?_
  refine lv_iconst (v := (-1 : Int32)) hx hb dX8_weigh_19 (by decide) ?_
  refine lv_icmp_eq (tgt := 46) hx hb dX8_weigh_20 (by decide) (fun h3 => ?_) (fun h3 => ?_)
  · replace hf := ite_t h3 hf
    exact retV E hW (e1C hf) dX8_weigh_46
  · replace hf := ite_f h3 hf
    refine lv_aload_n hx hb dX8_weigh_23 rfl (lv_at hl 1 rfl) ?_
    refine rg_X8_56 E hW dX8_weigh_24 ?_
    refine lv_iload hx hb dX8_weigh_27 (lv_at hl 0 rfl) ?_
    refine lv_dup2_11 hx hb dX8_weigh_29 rfl rfl ?_
    obtain ⟨v4, hf⟩ := ldI_e hf
    refine ra_10 E hW v4 dX8_weigh_30 ?_
    refine lv_iload hx hb dX8_weigh_31 (lv_at hl 5 rfl) ?_
    refine lv_aload_n hx hb dX8_weigh_33 rfl (lv_at hl 1 rfl) ?_
    refine rg_X8_26 E hW dX8_weigh_34 ?_
    refine lv_iload_n hx hb dX8_weigh_37 rfl (lv_at hl 2 rfl) ?_
    refine lv_iload_n hx hb dX8_weigh_38 rfl (lv_at hl 3 rfl) ?_
    refine lv_iconst (v := (4 : Int32)) hx hb dX8_weigh_39 (by decide) ?_
    obtain ⟨r6, hc, hf⟩ := b1_e hf
    refine callVI (As := [.int _, .int _, .int _]) (rest := [_, _, _, _]) E hW (c_X6_factOf l hc) lk_X8_174 rcv_X6 (Nat.le_of_ble_eq_true rfl) (Nat.le_of_ble_eq_true rfl) (Nat.le_of_ble_eq_true rfl) (Nat.le_of_ble_eq_true rfl) hl.1 (Nat.le_of_ble_eq_true rfl) dX8_weigh_40 (fun H locs hW => ?_)
    refine lv_imul hx hb dX8_weigh_43 ?_
    refine lv_iadd hx hb dX8_weigh_44 ?_
    obtain ⟨v7, hf⟩ := ixr_e hf
    refine rs_10 E hW v7 dX8_weigh_45 (fun H locs hW => ?_)
    exact retV E hW (e1C hf) dX8_weigh_46
def f_X8_weighComing_2 : Nat → CS → Nat → Int32 → Option (CS)
  | 0, _, _, _ => none
  | n + 1, cs, v1, v2 => gd (v1 ∈ cl cs ∧ ck cs v1 = 0) <| if (cp cs v1 3) ≤ v2 then (some cs) else ((f_X1_isOn cs v1 v2).bind fun r3 => if r3 = 0 then (f_X8_weighComing_2 n cs v1 (v2 + (1 : Int32))) else ((f_X8_weigh cs (cp cs v1 0) v2 (0 : Int32) (1 : Int32)).bind fun cs5 => gd (v1 ∈ cl cs5 ∧ ck cs5 v1 = 0) <| (f_X8_weigh cs5 (cp cs5 v1 0) v2 (1 : Int32) (1 : Int32)).bind fun cs7 => f_X8_weighComing_2 n cs7 v1 (v2 + (1 : Int32))))
def f_X8_weighComing (cs : CS) (v1 : Option Nat) : Option (CS) := ob v1 (none) fun a1 => (f_X8_weighComing_2 1000 cs a1 (0 : Int32))
def rm_X8_weighComing : Room := { frames := 4, cells := 0, slots := 0, locals := 95 }
set_option maxHeartbeats 4000000 in
set_option maxRecDepth 100000 in
theorem w_X8_weighComing_2 {p : Program} {l : Launch} {e : Env} {s : State} {m : MethodId} {args : Array Value} {below : List Frame} {meth : Method} {c : Code} {X : XT} {B : Nat} {ms : MS} {o : Nat → Int64} {S9 : CS} (E : Ev X B p s m args meth c RX8 cX8_weighComing 3 none) : ∀ (n : Nat) (cs : CS) (v1 : Nat) (v2 : Int32) (H : Heap) (locs : List Loc) (ls : Array Slot), f_X8_weighComing_2 n cs v1 v2 = some S9 → Ws X B s.heap H locs (cs, ms, o) → lv_has ls 3 [(0, .ref (X.1 0)), (1, .ref v1), (2, .int v2)] → W p l e rm_X8_weighComing s m args below meth c H locs 0 0 (MQ below (QV X B (S9, ms, o)) args s 0 0 (Ab B)) (F0 m 2 ls []) := by
  obtain ⟨hx, hb, hml, hown, hts, -⟩ := id E
  intro n
  induction n with
  | zero => intro cs v1 v2 H locs ls hf; exact absurd hf nofun
  | succ n ih =>
    intro cs v1 v2 H locs ls hf hW hl
    rw [f_X8_weighComing_2] at hf
    refine lv_iload_n hx hb dX8_weighComing_2 rfl (lv_at hl 2 rfl) ?_
    refine lv_aload_n hx hb dX8_weighComing_3 rfl (lv_at hl 1 rfl) ?_
    obtain ⟨v1, hf⟩ := gd_e hf
    refine rg_X8_265 E hW v1 dX8_weighComing_4 ?_
    refine lv_icmp_ge (tgt := 46) hx hb dX8_weighComing_7 (by decide) (fun h2 => ?_) (fun h2 => ?_)
    · replace hf := ite_t h2 hf
      exact retV E hW (e1C hf) dX8_weighComing_46
    · replace hf := ite_f h2 hf
      refine lv_aload_n hx hb dX8_weighComing_10 rfl (lv_at hl 1 rfl) ?_
      refine lv_iload_n hx hb dX8_weighComing_11 rfl (lv_at hl 2 rfl) ?_
      obtain ⟨r3, hc, hf⟩ := b1_e hf
      refine callVI (As := [.int _]) (rest := []) E hW (c_X1_isOn l hc) lk_X8_270 (rcv_X1 v1) (Nat.le_of_ble_eq_true rfl) (Nat.le_of_ble_eq_true rfl) (Nat.le_of_ble_eq_true rfl) (Nat.le_of_ble_eq_true rfl) hl.1 (Nat.le_of_ble_eq_true rfl) dX8_weighComing_12 (fun H locs hW => ?_)
      refine lv_if_eq (tgt := 40) hx hb dX8_weighComing_15 (by decide) (fun h4 => ?_) (fun h4 => ?_)
      · replace hf := ite_t h4 hf
        refine lv_iinc (v := _ + (1 : Int32)) (lv' := [_, _, _]) hx hb dX8_weighComing_40 hl (k := 2) rfl rfl (by decide) rfl (fun ls hl => ?_)
        refine lv_goto (tgt := 2) hx hb dX8_weighComing_43 (by decide) ?_
        exact ih _ _ _ _ _ _ hf hW (lv_sub hl [1, 2, 0] rfl)
      · replace hf := ite_f h4 hf
        refine lv_aload_n hx hb dX8_weighComing_18 rfl (lv_at hl 0 rfl) ?_
        refine lv_aload_n hx hb dX8_weighComing_19 rfl (lv_at hl 1 rfl) ?_
        refine rg_X8_232 E hW v1 dX8_weighComing_20 ?_
        refine lv_iload_n hx hb dX8_weighComing_23 rfl (lv_at hl 2 rfl) ?_
        refine lv_iconst (v := (0 : Int32)) hx hb dX8_weighComing_24 (by decide) ?_
        refine lv_iconst (v := (1 : Int32)) hx hb dX8_weighComing_25 (by decide) ?_
        obtain ⟨cs5, hc, hf⟩ := b1_e hf
        refine callVV (As := [.int _, .int _, .int _, .int _]) (rest := []) E hW (c_X8_weigh l hc) lk_X8_273 rcv_X8 (Nat.le_of_ble_eq_true rfl) (Nat.le_of_ble_eq_true rfl) (Nat.le_of_ble_eq_true rfl) (Nat.le_of_ble_eq_true rfl) hl.1 (Nat.le_of_ble_eq_true rfl) dX8_weighComing_26 (fun H locs hW => ?_)
        refine lv_aload_n hx hb dX8_weighComing_29 rfl (lv_at hl 0 rfl) ?_
        refine lv_aload_n hx hb dX8_weighComing_30 rfl (lv_at hl 1 rfl) ?_
        obtain ⟨v6, hf⟩ := gd_e hf
        refine rg_X8_232 E hW v6 dX8_weighComing_31 ?_
        refine lv_iload_n hx hb dX8_weighComing_34 rfl (lv_at hl 2 rfl) ?_
        refine lv_iconst (v := (1 : Int32)) hx hb dX8_weighComing_35 (by decide) ?_
        refine lv_iconst (v := (1 : Int32)) hx hb dX8_weighComing_36 (by decide) ?_
        obtain ⟨cs7, hc, hf⟩ := b1_e hf
        refine callVV (As := [.int _, .int _, .int _, .int _]) (rest := []) E hW (c_X8_weigh l hc) lk_X8_273 rcv_X8 (Nat.le_of_ble_eq_true rfl) (Nat.le_of_ble_eq_true rfl) (Nat.le_of_ble_eq_true rfl) (Nat.le_of_ble_eq_true rfl) hl.1 (Nat.le_of_ble_eq_true rfl) dX8_weighComing_37 (fun H locs hW => ?_)
        refine lv_iinc (v := _ + (1 : Int32)) (lv' := [_, _, _]) hx hb dX8_weighComing_40 hl (k := 2) rfl rfl (by decide) rfl (fun ls hl => ?_)
        refine lv_goto (tgt := 2) hx hb dX8_weighComing_43 (by decide) ?_
        exact ih _ _ _ _ _ _ hf hW (lv_sub hl [1, 2, 0] rfl)
set_option maxHeartbeats 4000000 in
set_option maxRecDepth 100000 in
theorem c_X8_weighComing (l : Launch) {X : XT} {B : Nat} {cs : CS} {ms : MS} {o : Nat → Int64} {v1 : Option Nat} {S9 : CS} (hf : f_X8_weighComing cs v1 = some S9) : Met l yX8_weighComing (.code yX8_weighComing cX8_weighComing 3 none :: BIG) rm_X8_weighComing (Pre X B (cs, ms, o) [.ref (X.1 0), va_rf v1]) (QV X B (S9, ms, o)) 0 0 (Ab B) := by
  cases v1 with
  | none =>
    refine entry (by decide +kernel) rfl (Nat.le_of_ble_eq_true rfl) (fun p e s m below meth c ls E hW hl => ?_)
    obtain ⟨hx, hb, hml, hown, hts, -⟩ := id E
    replace hl : lv_has ls 3 [(0, .ref (X.1 0)), (1, .null)] := hl
    unfold f_X8_weighComing at hf
    replace hf := ob_n hf
    refine lv_iconst (v := (0 : Int32)) hx hb dX8_weighComing_0 (by decide) ?_
    refine lv_istore_n (lv' := [_, _, _]) hx hb dX8_weighComing_1 rfl hl (by decide) rfl (fun ls hl => ?_)
    exact absurd hf nofun
  | some a1 =>
    refine entry (by decide +kernel) rfl (Nat.le_of_ble_eq_true rfl) (fun p e s m below meth c ls E hW hl => ?_)
    obtain ⟨hx, hb, hml, hown, hts, -⟩ := id E
    replace hl : lv_has ls 3 [(0, .ref (X.1 0)), (1, .ref a1)] := hl
    unfold f_X8_weighComing at hf
    replace hf := ob_s hf
    refine lv_iconst (v := (0 : Int32)) hx hb dX8_weighComing_0 (by decide) ?_
    refine lv_istore_n (lv' := [_, _, _]) hx hb dX8_weighComing_1 rfl hl (by decide) rfl (fun ls hl => ?_)
    exact w_X8_weighComing_2 E 1000 _ _ _ _ _ _ hf hW (lv_sub hl [1, 2, 0] rfl)
def f_X8_carAt (cs : CS) (v1 : Int32) : Option (Option Nat) := if v1 < 0 then (some none) else (if (ci cs 0) ≤ v1 then (some none) else (if (40 : Int32) ≤ v1 then (some none) else ((ldQ (cg cs 8) 40 v1).bind fun r5 => ob r5 (some none) fun a6 => (some (some a6)))))
def rm_X8_carAt : Room := { frames := 0, cells := 0, slots := 0, locals := 0 }
set_option maxHeartbeats 4000000 in
set_option maxRecDepth 100000 in
theorem c_X8_carAt (l : Launch) {X : XT} {B : Nat} {cs : CS} {ms : MS} {o : Nat → Int64} {v1 : Int32} {r : Option Nat} (hf : f_X8_carAt cs v1 = some r) : Met l yX8_carAt (.code yX8_carAt cX8_carAt 2 (some (.object "BreakersYard$Car")) :: BIG) rm_X8_carAt (Pre X B (cs, ms, o) [.ref (X.1 0), .int v1]) (QQ X B r (cs, ms, o)) 0 0 (Ab B) := by
  refine entry (by decide +kernel) rfl (Nat.le_of_ble_eq_true rfl) (fun p e s m below meth c ls E hW hl => ?_)
  obtain ⟨hx, hb, hml, hown, hts, -⟩ := id E
  replace hl : lv_has ls 2 [(0, .ref (X.1 0)), (1, .int v1)] := hl
  unfold f_X8_carAt at hf
  refine lv_iload_n hx hb dX8_carAt_0 rfl (lv_at hl 1 rfl) ?_
  refine lv_if_lt (tgt := 30) hx hb dX8_carAt_1 (by decide) (fun h1 => ?_) (fun h1 => ?_)
  · replace hf := ite_t h1 hf
    refine lv_null hx hb dX8_carAt_30 ?_
    exact retQ (v := none) E hW ⟨Option.some.inj hf, rfl⟩ dX8_carAt_31
  · replace hf := ite_f h1 hf
    refine lv_iload_n hx hb dX8_carAt_4 rfl (lv_at hl 1 rfl) ?_
    refine lv_aload_n hx hb dX8_carAt_5 rfl (lv_at hl 0 rfl) ?_
    refine rg_X8_63 E hW dX8_carAt_6 ?_
    refine lv_icmp_ge (tgt := 30) hx hb dX8_carAt_9 (by decide) (fun h2 => ?_) (fun h2 => ?_)
    · replace hf := ite_t h2 hf
      refine lv_null hx hb dX8_carAt_30 ?_
      exact retQ (v := none) E hW ⟨Option.some.inj hf, rfl⟩ dX8_carAt_31
    · replace hf := ite_f h2 hf
      refine lv_iload_n hx hb dX8_carAt_12 rfl (lv_at hl 1 rfl) ?_
      refine lv_aload_n hx hb dX8_carAt_13 rfl (lv_at hl 0 rfl) ?_
      refine rg_X8_46 E hW dX8_carAt_14 ?_
      refine rl_8 E hW dX8_carAt_17 ?_
      refine lv_icmp_ge (tgt := 30) hx hb dX8_carAt_18 (by decide) (fun h3 => ?_) (fun h3 => ?_)
      · replace hf := ite_t h3 hf
        refine lv_null hx hb dX8_carAt_30 ?_
        exact retQ (v := none) E hW ⟨Option.some.inj hf, rfl⟩ dX8_carAt_31
      · replace hf := ite_f h3 hf
        refine lv_aload_n hx hb dX8_carAt_21 rfl (lv_at hl 0 rfl) ?_
        refine rg_X8_46 E hW dX8_carAt_22 ?_
        refine lv_iload_n hx hb dX8_carAt_25 rfl (lv_at hl 1 rfl) ?_
        obtain ⟨v4, r5, hr5, hf⟩ := ldQ_e hf
        refine ra_8 E hW v4 dX8_carAt_26 ?_
        rw [hr5]
        cases r5 with
        | none =>
          replace hf := ob_n hf
          refine lv_goto (tgt := 31) hx hb dX8_carAt_27 (by decide) ?_
          exact retQ (v := none) E hW ⟨Option.some.inj hf, rfl⟩ dX8_carAt_31
        | some a6 =>
          replace hf := ob_s hf
          refine lv_goto (tgt := 31) hx hb dX8_carAt_27 (by decide) ?_
          exact retQ (v := some _) E hW ⟨Option.some.inj hf, rfl⟩ dX8_carAt_31
def f_X8_carOf (cs : CS) (v1 : Int32) : Option ((Option Nat ⊕ String) × CS) := (f_X8_carAt cs v1).bind fun r1 => ob r1 (some (.inr "java/util/NoSuchElementException", cs)) fun a2 => (some (.inl (some a2), cs))
def rm_X8_carOf : Room := { frames := 10, cells := 1, slots := 6, locals := 150 }
set_option maxHeartbeats 4000000 in
set_option maxRecDepth 100000 in
theorem c_X8_carOf (l : Launch) (hl0 : l.stackTraces = false) {X : XT} {B : Nat} {cs : CS} {ms : MS} {o : Nat → Int64} {v1 : Int32} {r : Option Nat ⊕ String} {S9 : CS} (hf : f_X8_carOf cs v1 = some (r, S9)) : vx_Met l yX8_carOf (.code yX8_carOf cX8_carOf 3 (some (.object "BreakersYard$Car")) :: BIG) rm_X8_carOf (Pre X B (cs, ms, o) [.ref (X.1 0), .int v1]) (QXQ X B r (S9, ms, o)) (XCx X B r (S9, ms, o)) 1 6 (Ab B) := by
  refine xentry (by decide +kernel) rfl (Nat.le_of_ble_eq_true rfl) (fun p e s m below meth c ls E hxt hW hl => ?_)
  obtain ⟨hx, hb, hml, hown, hts, -⟩ := id E
  replace hl : lv_has ls 3 [(0, .ref (X.1 0)), (1, .int v1)] := hl
  unfold f_X8_carOf at hf
  refine lv_aload_n hx hb dX8_carOf_0 rfl (lv_at hl 0 rfl) ?_
  refine lv_iload_n hx hb dX8_carOf_1 rfl (lv_at hl 1 rfl) ?_
  obtain ⟨r1, hc, hf⟩ := b1_e hf
  refine callVQ (As := [.int _]) (rest := []) E hW (c_X8_carAt l hc) lk_X8_260 rcv_X8 (Nat.le_of_ble_eq_true rfl) (Nat.le_of_ble_eq_true rfl) (Nat.le_of_ble_eq_true rfl) (Nat.le_of_ble_eq_true rfl) hl.1 (Nat.le_of_ble_eq_true rfl) dX8_carOf_2 (fun H locs hW => ?_)
  cases r1 with
  | none =>
    replace hf := ob_n hf
    refine lv_astore_nN (lv' := [_, _, _]) hx hb dX8_carOf_5 rfl hl (by decide) rfl (fun ls hl => ?_)
    refine lv_aload_nN hx hb dX8_carOf_6 rfl (lv_at hl 0 rfl) ?_
    refine lv_ifnonnullN hx hb dX8_carOf_7 ?_
    exact throwNW E hl0 hxt hW th_X8_167_263_171 dX8_carOf_10 dX8_carOf_13 dX8_carOf_14 dX8_carOf_17 dX8_carOf_20 (etC hf) (Nat.le_of_ble_eq_true rfl) (Nat.le_of_ble_eq_true rfl) (Nat.le_of_ble_eq_true rfl) (Nat.le_of_ble_eq_true rfl) (Nat.le_of_ble_eq_true rfl) (by decide) (by decide) (hl.1.trans hml.symm)
  | some a2 =>
    replace hf := ob_s hf
    refine lv_astore_n (lv' := [_, _, _]) hx hb dX8_carOf_5 rfl hl (by decide) rfl (fun ls hl => ?_)
    refine lv_aload_n hx hb dX8_carOf_6 rfl (lv_at hl 0 rfl) ?_
    refine lv_ifnonnull (tgt := 21) hx hb dX8_carOf_7 (by decide) ?_
    refine lv_aload_n hx hb dX8_carOf_21 rfl (lv_at hl 0 rfl) ?_
    refine W.widen (k := 1) (n := 6) (by decide) (by decide) ?_
    exact vx_ret (retQX (v := some _) E hW (exC hf) dX8_carOf_22)
def f_X8_about (cs : CS) (v1 : Int32) (v2 : Int32) : Option ((Int32 ⊕ String) × CS) := bx (f_X8_carOf cs v1) fun b3 cs2 => ob b3 (if v2 = (0 : Int32) then (none) else (if v2 = (1 : Int32) then (none) else (if v2 = (2 : Int32) then (none) else (if v2 = (3 : Int32) then (none) else (if v2 = (4 : Int32) then (none) else (if v2 = (5 : Int32) then (none) else (if v2 = (6 : Int32) then (none) else (if v2 = (7 : Int32) then (none) else (some (.inr "java/lang/IllegalArgumentException", cs2)))))))))) fun a7 => (if v2 = (0 : Int32) then (gd (a7 ∈ cl cs2 ∧ ck cs2 a7 = 0) <| some (.inl (cp cs2 a7 0), cs2)) else (if v2 = (1 : Int32) then (gd (a7 ∈ cl cs2 ∧ ck cs2 a7 = 0) <| some (.inl (cp cs2 a7 1), cs2)) else (if v2 = (2 : Int32) then (gd (a7 ∈ cl cs2 ∧ ck cs2 a7 = 0) <| some (.inl (cp cs2 a7 2), cs2)) else (if v2 = (3 : Int32) then (gd (a7 ∈ cl cs2 ∧ ck cs2 a7 = 0) <| some (.inl (cp cs2 a7 5), cs2)) else (if v2 = (4 : Int32) then (gd (a7 ∈ cl cs2 ∧ ck cs2 a7 = 0) <| if (cp cs2 a7 6) = 0 then (some (.inl (0 : Int32), cs2)) else (some (.inl (1 : Int32), cs2))) else (if v2 = (5 : Int32) then (gd (a7 ∈ cl cs2 ∧ ck cs2 a7 = 0) <| if (cp cs2 a7 7) = 0 then (some (.inl (0 : Int32), cs2)) else (some (.inl (1 : Int32), cs2))) else (if v2 = (6 : Int32) then (gd (a7 ∈ cl cs2 ∧ ck cs2 a7 = 0) <| if (cp cs2 a7 8) = 0 then (some (.inl (0 : Int32), cs2)) else (some (.inl (1 : Int32), cs2))) else (if v2 = (7 : Int32) then (gd (a7 ∈ cl cs2 ∧ ck cs2 a7 = 0) <| some (.inl (cp cs2 a7 4), cs2)) else (some (.inr "java/lang/IllegalArgumentException", cs2))))))))))
def rm_X8_about : Room := { frames := 11, cells := 2, slots := 12, locals := 172 }
set_option maxHeartbeats 4000000 in
set_option maxRecDepth 100000 in
theorem c_X8_about (l : Launch) (hl0 : l.stackTraces = false) {X : XT} {B : Nat} {cs : CS} {ms : MS} {o : Nat → Int64} {v1 : Int32} {v2 : Int32} {r : Int32 ⊕ String} {S9 : CS} (hf : f_X8_about cs v1 v2 = some (r, S9)) : vx_Met l yX8_about (.code yX8_about cX8_about 4 (some .int) :: BIG) rm_X8_about (Pre X B (cs, ms, o) [.ref (X.1 0), .int v1, .int v2]) (QXI X B r (S9, ms, o)) (XCx X B r (S9, ms, o)) 2 12 (Ab B) := by
  refine xentry (by decide +kernel) rfl (Nat.le_of_ble_eq_true rfl) (fun p e s m below meth c ls E hxt hW hl => ?_)
  obtain ⟨hx, hb, hml, hown, hts, -⟩ := id E
  replace hl : lv_has ls 4 [(0, .ref (X.1 0)), (1, .int v1), (2, .int v2)] := hl
  unfold f_X8_about at hf
  refine lv_aload_n hx hb dX8_about_0 rfl (lv_at hl 0 rfl) ?_
  refine lv_iload_n hx hb dX8_about_1 rfl (lv_at hl 1 rfl) ?_
  obtain ⟨r1, cs2, hc, k4, e5⟩ := bx_e hf
  refine xcallVQ (As := [.int _]) (rest := []) E hW (c_X8_carOf l hl0 hc) lk_X8_228 rcv_X8 (Nat.le_of_ble_eq_true rfl) (Nat.le_of_ble_eq_true rfl) (Nat.le_of_ble_eq_true rfl) (Nat.le_of_ble_eq_true rfl) hl.1 (Nat.le_of_ble_eq_true rfl) dX8_about_2 hxt (by decide) (by decide) (fun z hz => by have q9 := e5 z hz; cases q9; exact ⟨rfl, rfl⟩) (fun b3 q6 H locs hW => ?_)
  replace hf := k4 b3 q6
  cases b3 with
  | none =>
    replace hf := ob_n hf
    refine lv_astore_nN (lv' := [_, _, _, _]) hx hb dX8_about_5 rfl hl (by decide) rfl (fun ls hl => ?_)
    refine lv_iload_n hx hb dX8_about_6 rfl (lv_at hl 3 rfl) ?_
    by_cases h8 : v2 = (0 : Int32)
    · replace hf := ite_t h8 hf
      refine lv_tableIn (tgt := 52) hx hb dX8_about_7 (by rw [h8]; decide) (by rw [h8]; decide) (by rw [h8]; rfl) (by decide) ?_
      refine lv_aload_nN hx hb dX8_about_52 rfl (lv_at hl 0 rfl) ?_
      exact absurd hf nofun
    · replace hf := ite_f h8 hf
      by_cases h9 : v2 = (1 : Int32)
      · replace hf := ite_t h9 hf
        refine lv_tableIn (tgt := 57) hx hb dX8_about_7 (by rw [h9]; decide) (by rw [h9]; decide) (by rw [h9]; rfl) (by decide) ?_
        refine lv_aload_nN hx hb dX8_about_57 rfl (lv_at hl 0 rfl) ?_
        exact absurd hf nofun
      · replace hf := ite_f h9 hf
        by_cases h10 : v2 = (2 : Int32)
        · replace hf := ite_t h10 hf
          refine lv_tableIn (tgt := 62) hx hb dX8_about_7 (by rw [h10]; decide) (by rw [h10]; decide) (by rw [h10]; rfl) (by decide) ?_
          refine lv_aload_nN hx hb dX8_about_62 rfl (lv_at hl 0 rfl) ?_
          exact absurd hf nofun
        · replace hf := ite_f h10 hf
          by_cases h11 : v2 = (3 : Int32)
          · replace hf := ite_t h11 hf
            refine lv_tableIn (tgt := 67) hx hb dX8_about_7 (by rw [h11]; decide) (by rw [h11]; decide) (by rw [h11]; rfl) (by decide) ?_
            refine lv_aload_nN hx hb dX8_about_67 rfl (lv_at hl 0 rfl) ?_
            exact absurd hf nofun
          · replace hf := ite_f h11 hf
            by_cases h12 : v2 = (4 : Int32)
            · replace hf := ite_t h12 hf
              refine lv_tableIn (tgt := 72) hx hb dX8_about_7 (by rw [h12]; decide) (by rw [h12]; decide) (by rw [h12]; rfl) (by decide) ?_
              refine lv_aload_nN hx hb dX8_about_72 rfl (lv_at hl 0 rfl) ?_
              exact absurd hf nofun
            · replace hf := ite_f h12 hf
              by_cases h13 : v2 = (5 : Int32)
              · replace hf := ite_t h13 hf
                refine lv_tableIn (tgt := 85) hx hb dX8_about_7 (by rw [h13]; decide) (by rw [h13]; decide) (by rw [h13]; rfl) (by decide) ?_
                refine lv_aload_nN hx hb dX8_about_85 rfl (lv_at hl 0 rfl) ?_
                exact absurd hf nofun
              · replace hf := ite_f h13 hf
                by_cases h14 : v2 = (6 : Int32)
                · replace hf := ite_t h14 hf
                  refine lv_tableIn (tgt := 98) hx hb dX8_about_7 (by rw [h14]; decide) (by rw [h14]; decide) (by rw [h14]; rfl) (by decide) ?_
                  refine lv_aload_nN hx hb dX8_about_98 rfl (lv_at hl 0 rfl) ?_
                  exact absurd hf nofun
                · replace hf := ite_f h14 hf
                  by_cases h15 : v2 = (7 : Int32)
                  · replace hf := ite_t h15 hf
                    refine lv_tableIn (tgt := 111) hx hb dX8_about_7 (by rw [h15]; decide) (by rw [h15]; decide) (by rw [h15]; rfl) (by decide) ?_
                    refine lv_aload_nN hx hb dX8_about_111 rfl (lv_at hl 0 rfl) ?_
                    exact absurd hf nofun
                  · replace hf := ite_f h15 hf
                    have eh8 := lv_neT h8 (a := 0) (by decide)
                    have eh9 := lv_neT h9 (a := 1) (by decide)
                    have eh10 := lv_neT h10 (a := 2) (by decide)
                    have eh11 := lv_neT h11 (a := 3) (by decide)
                    have eh12 := lv_neT h12 (a := 4) (by decide)
                    have eh13 := lv_neT h13 (a := 5) (by decide)
                    have eh14 := lv_neT h14 (a := 6) (by decide)
                    have eh15 := lv_neT h15 (a := 7) (by decide)
                    refine lv_tableOut (tgt := 116) hx hb dX8_about_7 (by omega) (by decide) ?_
                    exact throwS E hl0 hxt hW th_X8_84_172_88 dX8_about_116 dX8_about_119 dX8_about_120 dX8_about_122 dX8_about_125 (etC hf) (Nat.le_of_ble_eq_true rfl) (Nat.le_of_ble_eq_true rfl) (Nat.le_of_ble_eq_true rfl) (Nat.le_of_ble_eq_true rfl) (Nat.le_of_ble_eq_true rfl) (by decide) (by decide) (hl.1.trans hml.symm)
  | some a7 =>
    replace hf := ob_s hf
    refine lv_astore_n (lv' := [_, _, _, _]) hx hb dX8_about_5 rfl hl (by decide) rfl (fun ls hl => ?_)
    refine lv_iload_n hx hb dX8_about_6 rfl (lv_at hl 3 rfl) ?_
    by_cases h16 : v2 = (0 : Int32)
    · replace hf := ite_t h16 hf
      refine lv_tableIn (tgt := 52) hx hb dX8_about_7 (by rw [h16]; decide) (by rw [h16]; decide) (by rw [h16]; rfl) (by decide) ?_
      refine lv_aload_n hx hb dX8_about_52 rfl (lv_at hl 0 rfl) ?_
      obtain ⟨v17, hf⟩ := gd_e hf
      refine rg_X8_232 E hW v17 dX8_about_53 ?_
      refine W.widen (k := 2) (n := 12) (by decide) (by decide) ?_
      exact vx_ret (retIX E hW (exC hf) dX8_about_56)
    · replace hf := ite_f h16 hf
      by_cases h18 : v2 = (1 : Int32)
      · replace hf := ite_t h18 hf
        refine lv_tableIn (tgt := 57) hx hb dX8_about_7 (by rw [h18]; decide) (by rw [h18]; decide) (by rw [h18]; rfl) (by decide) ?_
        refine lv_aload_n hx hb dX8_about_57 rfl (lv_at hl 0 rfl) ?_
        obtain ⟨v19, hf⟩ := gd_e hf
        refine rg_X8_235 E hW v19 dX8_about_58 ?_
        refine W.widen (k := 2) (n := 12) (by decide) (by decide) ?_
        exact vx_ret (retIX E hW (exC hf) dX8_about_61)
      · replace hf := ite_f h18 hf
        by_cases h20 : v2 = (2 : Int32)
        · replace hf := ite_t h20 hf
          refine lv_tableIn (tgt := 62) hx hb dX8_about_7 (by rw [h20]; decide) (by rw [h20]; decide) (by rw [h20]; rfl) (by decide) ?_
          refine lv_aload_n hx hb dX8_about_62 rfl (lv_at hl 0 rfl) ?_
          obtain ⟨v21, hf⟩ := gd_e hf
          refine rg_X8_238 E hW v21 dX8_about_63 ?_
          refine W.widen (k := 2) (n := 12) (by decide) (by decide) ?_
          exact vx_ret (retIX E hW (exC hf) dX8_about_66)
        · replace hf := ite_f h20 hf
          by_cases h22 : v2 = (3 : Int32)
          · replace hf := ite_t h22 hf
            refine lv_tableIn (tgt := 67) hx hb dX8_about_7 (by rw [h22]; decide) (by rw [h22]; decide) (by rw [h22]; rfl) (by decide) ?_
            refine lv_aload_n hx hb dX8_about_67 rfl (lv_at hl 0 rfl) ?_
            obtain ⟨v23, hf⟩ := gd_e hf
            refine rg_X8_241 E hW v23 dX8_about_68 ?_
            refine W.widen (k := 2) (n := 12) (by decide) (by decide) ?_
            exact vx_ret (retIX E hW (exC hf) dX8_about_71)
          · replace hf := ite_f h22 hf
            by_cases h24 : v2 = (4 : Int32)
            · replace hf := ite_t h24 hf
              refine lv_tableIn (tgt := 72) hx hb dX8_about_7 (by rw [h24]; decide) (by rw [h24]; decide) (by rw [h24]; rfl) (by decide) ?_
              refine lv_aload_n hx hb dX8_about_72 rfl (lv_at hl 0 rfl) ?_
              obtain ⟨v25, hf⟩ := gd_e hf
              refine rg_X8_244 E hW v25 dX8_about_73 ?_
              refine lv_if_eq (tgt := 83) hx hb dX8_about_76 (by decide) (fun h26 => ?_) (fun h26 => ?_)
              · replace hf := ite_t h26 hf
                refine lv_iconst (v := (0 : Int32)) hx hb dX8_about_83 (by decide) ?_
                refine W.widen (k := 2) (n := 12) (by decide) (by decide) ?_
                exact vx_ret (retIX E hW (exC hf) dX8_about_84)
              · replace hf := ite_f h26 hf
                refine lv_iconst (v := (1 : Int32)) hx hb dX8_about_79 (by decide) ?_
                refine lv_goto (tgt := 84) hx hb dX8_about_80 (by decide) ?_
                refine W.widen (k := 2) (n := 12) (by decide) (by decide) ?_
                exact vx_ret (retIX E hW (exC hf) dX8_about_84)
            · replace hf := ite_f h24 hf
              by_cases h27 : v2 = (5 : Int32)
              · replace hf := ite_t h27 hf
                refine lv_tableIn (tgt := 85) hx hb dX8_about_7 (by rw [h27]; decide) (by rw [h27]; decide) (by rw [h27]; rfl) (by decide) ?_
                refine lv_aload_n hx hb dX8_about_85 rfl (lv_at hl 0 rfl) ?_
                obtain ⟨v28, hf⟩ := gd_e hf
                refine rg_X8_248 E hW v28 dX8_about_86 ?_
                refine lv_if_eq (tgt := 96) hx hb dX8_about_89 (by decide) (fun h29 => ?_) (fun h29 => ?_)
                · replace hf := ite_t h29 hf
                  refine lv_iconst (v := (0 : Int32)) hx hb dX8_about_96 (by decide) ?_
                  refine W.widen (k := 2) (n := 12) (by decide) (by decide) ?_
                  exact vx_ret (retIX E hW (exC hf) dX8_about_97)
                · replace hf := ite_f h29 hf
                  refine lv_iconst (v := (1 : Int32)) hx hb dX8_about_92 (by decide) ?_
                  refine lv_goto (tgt := 97) hx hb dX8_about_93 (by decide) ?_
                  refine W.widen (k := 2) (n := 12) (by decide) (by decide) ?_
                  exact vx_ret (retIX E hW (exC hf) dX8_about_97)
              · replace hf := ite_f h27 hf
                by_cases h30 : v2 = (6 : Int32)
                · replace hf := ite_t h30 hf
                  refine lv_tableIn (tgt := 98) hx hb dX8_about_7 (by rw [h30]; decide) (by rw [h30]; decide) (by rw [h30]; rfl) (by decide) ?_
                  refine lv_aload_n hx hb dX8_about_98 rfl (lv_at hl 0 rfl) ?_
                  obtain ⟨v31, hf⟩ := gd_e hf
                  refine rg_X8_251 E hW v31 dX8_about_99 ?_
                  refine lv_if_eq (tgt := 109) hx hb dX8_about_102 (by decide) (fun h32 => ?_) (fun h32 => ?_)
                  · replace hf := ite_t h32 hf
                    refine lv_iconst (v := (0 : Int32)) hx hb dX8_about_109 (by decide) ?_
                    refine W.widen (k := 2) (n := 12) (by decide) (by decide) ?_
                    exact vx_ret (retIX E hW (exC hf) dX8_about_110)
                  · replace hf := ite_f h32 hf
                    refine lv_iconst (v := (1 : Int32)) hx hb dX8_about_105 (by decide) ?_
                    refine lv_goto (tgt := 110) hx hb dX8_about_106 (by decide) ?_
                    refine W.widen (k := 2) (n := 12) (by decide) (by decide) ?_
                    exact vx_ret (retIX E hW (exC hf) dX8_about_110)
                · replace hf := ite_f h30 hf
                  by_cases h33 : v2 = (7 : Int32)
                  · replace hf := ite_t h33 hf
                    refine lv_tableIn (tgt := 111) hx hb dX8_about_7 (by rw [h33]; decide) (by rw [h33]; decide) (by rw [h33]; rfl) (by decide) ?_
                    refine lv_aload_n hx hb dX8_about_111 rfl (lv_at hl 0 rfl) ?_
                    obtain ⟨v34, hf⟩ := gd_e hf
                    refine rg_X8_254 E hW v34 dX8_about_112 ?_
                    refine W.widen (k := 2) (n := 12) (by decide) (by decide) ?_
                    exact vx_ret (retIX E hW (exC hf) dX8_about_115)
                  · replace hf := ite_f h33 hf
                    have eh16 := lv_neT h16 (a := 0) (by decide)
                    have eh18 := lv_neT h18 (a := 1) (by decide)
                    have eh20 := lv_neT h20 (a := 2) (by decide)
                    have eh22 := lv_neT h22 (a := 3) (by decide)
                    have eh24 := lv_neT h24 (a := 4) (by decide)
                    have eh27 := lv_neT h27 (a := 5) (by decide)
                    have eh30 := lv_neT h30 (a := 6) (by decide)
                    have eh33 := lv_neT h33 (a := 7) (by decide)
                    refine lv_tableOut (tgt := 116) hx hb dX8_about_7 (by omega) (by decide) ?_
                    exact throwS E hl0 hxt hW th_X8_84_172_88 dX8_about_116 dX8_about_119 dX8_about_120 dX8_about_122 dX8_about_125 (etC hf) (Nat.le_of_ble_eq_true rfl) (Nat.le_of_ble_eq_true rfl) (Nat.le_of_ble_eq_true rfl) (Nat.le_of_ble_eq_true rfl) (Nat.le_of_ble_eq_true rfl) (by decide) (by decide) (hl.1.trans hml.symm)
def f_X8_drain (cs : CS) (v1 : Int32) : Option ((Int32 ⊕ String) × CS) := bx (f_X8_carOf cs v1) fun b3 cs2 => ob b3 (none) fun a7 => (gd (a7 ∈ cl cs2 ∧ ck cs2 a7 = 0) <| if (cp cs2 a7 6) = 0 then (if (cp cs2 a7 8) = 0 then ((f_X0_remember (cpU cs2 a7 6 (1 : Int32)) (1 : Int32) v1).bind fun cs11 => some (.inl (1 : Int32), cs11)) else (some (.inl (0 : Int32), cs2))) else (some (.inl (0 : Int32), cs2)))
def rm_X8_drain : Room := { frames := 11, cells := 1, slots := 6, locals := 172 }
set_option maxHeartbeats 4000000 in
set_option maxRecDepth 100000 in
theorem c_X8_drain (l : Launch) (hl0 : l.stackTraces = false) {X : XT} {B : Nat} {cs : CS} {ms : MS} {o : Nat → Int64} {v1 : Int32} {r : Int32 ⊕ String} {S9 : CS} (hf : f_X8_drain cs v1 = some (r, S9)) : vx_Met l yX8_drain (.code yX8_drain cX8_drain 3 (some .int) :: BIG) rm_X8_drain (Pre X B (cs, ms, o) [.ref (X.1 0), .int v1]) (QXI X B r (S9, ms, o)) (XCx X B r (S9, ms, o)) 1 6 (Ab B) := by
  refine xentry (by decide +kernel) rfl (Nat.le_of_ble_eq_true rfl) (fun p e s m below meth c ls E hxt hW hl => ?_)
  obtain ⟨hx, hb, hml, hown, hts, -⟩ := id E
  replace hl : lv_has ls 3 [(0, .ref (X.1 0)), (1, .int v1)] := hl
  unfold f_X8_drain at hf
  refine lv_aload_n hx hb dX8_drain_0 rfl (lv_at hl 0 rfl) ?_
  refine lv_iload_n hx hb dX8_drain_1 rfl (lv_at hl 1 rfl) ?_
  obtain ⟨r1, cs2, hc, k4, e5⟩ := bx_e hf
  refine xcallVQ (As := [.int _]) (rest := []) E hW (c_X8_carOf l hl0 hc) lk_X8_228 rcv_X8 (Nat.le_of_ble_eq_true rfl) (Nat.le_of_ble_eq_true rfl) (Nat.le_of_ble_eq_true rfl) (Nat.le_of_ble_eq_true rfl) hl.1 (Nat.le_of_ble_eq_true rfl) dX8_drain_2 hxt (by decide) (by decide) (fun z hz => by have q9 := e5 z hz; cases q9; exact ⟨rfl, rfl⟩) (fun b3 q6 H locs hW => ?_)
  replace hf := k4 b3 q6
  cases b3 with
  | none =>
    replace hf := ob_n hf
    refine lv_astore_nN (lv' := [_, _, _]) hx hb dX8_drain_5 rfl hl (by decide) rfl (fun ls hl => ?_)
    refine lv_aload_nN hx hb dX8_drain_6 rfl (lv_at hl 0 rfl) ?_
    exact absurd hf nofun
  | some a7 =>
    replace hf := ob_s hf
    refine lv_astore_n (lv' := [_, _, _]) hx hb dX8_drain_5 rfl hl (by decide) rfl (fun ls hl => ?_)
    refine lv_aload_n hx hb dX8_drain_6 rfl (lv_at hl 0 rfl) ?_
    obtain ⟨v8, hf⟩ := gd_e hf
    refine rg_X8_244 E hW v8 dX8_drain_7 ?_
    refine lv_if_ne (tgt := 20) hx hb dX8_drain_10 (by decide) (fun h9 => ?_) (fun h9 => ?_)
    · replace hf := ite_f h9 hf
      refine lv_iconst (v := (0 : Int32)) hx hb dX8_drain_20 (by decide) ?_
      exact vx_ret (retIX E hW (exC hf) dX8_drain_21)
    · replace hf := ite_t h9 hf
      refine lv_aload_n hx hb dX8_drain_13 rfl (lv_at hl 0 rfl) ?_
      refine rg_X8_251 E hW v8 dX8_drain_14 ?_
      refine lv_if_eq (tgt := 22) hx hb dX8_drain_17 (by decide) (fun h10 => ?_) (fun h10 => ?_)
      · replace hf := ite_t h10 hf
        refine lv_aload_n hx hb dX8_drain_22 rfl (lv_at hl 0 rfl) ?_
        refine lv_iconst (v := (1 : Int32)) hx hb dX8_drain_23 (by decide) ?_
        refine rp_X8_244 E hW v8 (Or.inr rfl) dX8_drain_24 (fun H locs hW => ?_)
        refine lv_aload_n hx hb dX8_drain_27 rfl (lv_at hl 1 rfl) ?_
        refine rg_X8_33 E hW dX8_drain_28 ?_
        refine lv_iconst (v := (1 : Int32)) hx hb dX8_drain_31 (by decide) ?_
        refine lv_iload_n hx hb dX8_drain_32 rfl (lv_at hl 2 rfl) ?_
        obtain ⟨cs11, hc, hf⟩ := b1_e hf
        refine callVV (As := [.int _, .int _]) (rest := []) E hW (c_X0_remember l hc) lk_X8_257 rcv_X0 (Nat.le_of_ble_eq_true rfl) (Nat.le_of_ble_eq_true rfl) (Nat.le_of_ble_eq_true rfl) (Nat.le_of_ble_eq_true rfl) hl.1 (Nat.le_of_ble_eq_true rfl) dX8_drain_33 (fun H locs hW => ?_)
        refine lv_iconst (v := (1 : Int32)) hx hb dX8_drain_36 (by decide) ?_
        exact vx_ret (retIX E hW (exC hf) dX8_drain_37)
      · replace hf := ite_f h10 hf
        refine lv_iconst (v := (0 : Int32)) hx hb dX8_drain_20 (by decide) ?_
        exact vx_ret (retIX E hW (exC hf) dX8_drain_21)
def f_X8_papers (cs : CS) (v1 : Int32) : Option ((Int32 ⊕ String) × CS) := bx (f_X8_carOf cs v1) fun b3 cs2 => ob b3 (none) fun a7 => (gd (a7 ∈ cl cs2 ∧ ck cs2 a7 = 0) <| if (cp cs2 a7 7) = 0 then (if (cp cs2 a7 8) = 0 then ((f_X0_remember (cpU cs2 a7 7 (1 : Int32)) (2 : Int32) v1).bind fun cs11 => some (.inl (1 : Int32), cs11)) else (some (.inl (0 : Int32), cs2))) else (some (.inl (0 : Int32), cs2)))
def rm_X8_papers : Room := { frames := 11, cells := 1, slots := 6, locals := 172 }
set_option maxHeartbeats 4000000 in
set_option maxRecDepth 100000 in
theorem c_X8_papers (l : Launch) (hl0 : l.stackTraces = false) {X : XT} {B : Nat} {cs : CS} {ms : MS} {o : Nat → Int64} {v1 : Int32} {r : Int32 ⊕ String} {S9 : CS} (hf : f_X8_papers cs v1 = some (r, S9)) : vx_Met l yX8_papers (.code yX8_papers cX8_papers 3 (some .int) :: BIG) rm_X8_papers (Pre X B (cs, ms, o) [.ref (X.1 0), .int v1]) (QXI X B r (S9, ms, o)) (XCx X B r (S9, ms, o)) 1 6 (Ab B) := by
  refine xentry (by decide +kernel) rfl (Nat.le_of_ble_eq_true rfl) (fun p e s m below meth c ls E hxt hW hl => ?_)
  obtain ⟨hx, hb, hml, hown, hts, -⟩ := id E
  replace hl : lv_has ls 3 [(0, .ref (X.1 0)), (1, .int v1)] := hl
  unfold f_X8_papers at hf
  refine lv_aload_n hx hb dX8_papers_0 rfl (lv_at hl 0 rfl) ?_
  refine lv_iload_n hx hb dX8_papers_1 rfl (lv_at hl 1 rfl) ?_
  obtain ⟨r1, cs2, hc, k4, e5⟩ := bx_e hf
  refine xcallVQ (As := [.int _]) (rest := []) E hW (c_X8_carOf l hl0 hc) lk_X8_228 rcv_X8 (Nat.le_of_ble_eq_true rfl) (Nat.le_of_ble_eq_true rfl) (Nat.le_of_ble_eq_true rfl) (Nat.le_of_ble_eq_true rfl) hl.1 (Nat.le_of_ble_eq_true rfl) dX8_papers_2 hxt (by decide) (by decide) (fun z hz => by have q9 := e5 z hz; cases q9; exact ⟨rfl, rfl⟩) (fun b3 q6 H locs hW => ?_)
  replace hf := k4 b3 q6
  cases b3 with
  | none =>
    replace hf := ob_n hf
    refine lv_astore_nN (lv' := [_, _, _]) hx hb dX8_papers_5 rfl hl (by decide) rfl (fun ls hl => ?_)
    refine lv_aload_nN hx hb dX8_papers_6 rfl (lv_at hl 0 rfl) ?_
    exact absurd hf nofun
  | some a7 =>
    replace hf := ob_s hf
    refine lv_astore_n (lv' := [_, _, _]) hx hb dX8_papers_5 rfl hl (by decide) rfl (fun ls hl => ?_)
    refine lv_aload_n hx hb dX8_papers_6 rfl (lv_at hl 0 rfl) ?_
    obtain ⟨v8, hf⟩ := gd_e hf
    refine rg_X8_248 E hW v8 dX8_papers_7 ?_
    refine lv_if_ne (tgt := 20) hx hb dX8_papers_10 (by decide) (fun h9 => ?_) (fun h9 => ?_)
    · replace hf := ite_f h9 hf
      refine lv_iconst (v := (0 : Int32)) hx hb dX8_papers_20 (by decide) ?_
      exact vx_ret (retIX E hW (exC hf) dX8_papers_21)
    · replace hf := ite_t h9 hf
      refine lv_aload_n hx hb dX8_papers_13 rfl (lv_at hl 0 rfl) ?_
      refine rg_X8_251 E hW v8 dX8_papers_14 ?_
      refine lv_if_eq (tgt := 22) hx hb dX8_papers_17 (by decide) (fun h10 => ?_) (fun h10 => ?_)
      · replace hf := ite_t h10 hf
        refine lv_aload_n hx hb dX8_papers_22 rfl (lv_at hl 0 rfl) ?_
        refine lv_iconst (v := (1 : Int32)) hx hb dX8_papers_23 (by decide) ?_
        refine rp_X8_248 E hW v8 (Or.inr rfl) dX8_papers_24 (fun H locs hW => ?_)
        refine lv_aload_n hx hb dX8_papers_27 rfl (lv_at hl 1 rfl) ?_
        refine rg_X8_33 E hW dX8_papers_28 ?_
        refine lv_iconst (v := (2 : Int32)) hx hb dX8_papers_31 (by decide) ?_
        refine lv_iload_n hx hb dX8_papers_32 rfl (lv_at hl 2 rfl) ?_
        obtain ⟨cs11, hc, hf⟩ := b1_e hf
        refine callVV (As := [.int _, .int _]) (rest := []) E hW (c_X0_remember l hc) lk_X8_257 rcv_X0 (Nat.le_of_ble_eq_true rfl) (Nat.le_of_ble_eq_true rfl) (Nat.le_of_ble_eq_true rfl) (Nat.le_of_ble_eq_true rfl) hl.1 (Nat.le_of_ble_eq_true rfl) dX8_papers_33 (fun H locs hW => ?_)
        refine lv_iconst (v := (1 : Int32)) hx hb dX8_papers_36 (by decide) ?_
        exact vx_ret (retIX E hW (exC hf) dX8_papers_37)
      · replace hf := ite_f h10 hf
        refine lv_iconst (v := (0 : Int32)) hx hb dX8_papers_20 (by decide) ?_
        exact vx_ret (retIX E hW (exC hf) dX8_papers_21)
def f_X8_carWithPart (cs : CS) (v1 : Int32) (v2 : Int32) : Option ((Option Nat ⊕ String) × CS) := bx (f_X8_carOf cs v1) fun b3 cs2 => ob b3 (if v2 < 0 then (some (.inr "java/util/NoSuchElementException", cs2)) else (none)) fun a7 => (if v2 < 0 then (some (.inr "java/util/NoSuchElementException", cs2)) else (gd (a7 ∈ cl cs2 ∧ ck cs2 a7 = 0) <| if v2 < (cp cs2 a7 3) then (some (.inl (some a7), cs2)) else (some (.inr "java/util/NoSuchElementException", cs2))))
def rm_X8_carWithPart : Room := { frames := 11, cells := 2, slots := 12, locals := 172 }
set_option maxHeartbeats 4000000 in
set_option maxRecDepth 100000 in
theorem c_X8_carWithPart (l : Launch) (hl0 : l.stackTraces = false) {X : XT} {B : Nat} {cs : CS} {ms : MS} {o : Nat → Int64} {v1 : Int32} {v2 : Int32} {r : Option Nat ⊕ String} {S9 : CS} (hf : f_X8_carWithPart cs v1 v2 = some (r, S9)) : vx_Met l yX8_carWithPart (.code yX8_carWithPart cX8_carWithPart 4 (some (.object "BreakersYard$Car")) :: BIG) rm_X8_carWithPart (Pre X B (cs, ms, o) [.ref (X.1 0), .int v1, .int v2]) (QXQ X B r (S9, ms, o)) (XCx X B r (S9, ms, o)) 2 12 (Ab B) := by
  refine xentry (by decide +kernel) rfl (Nat.le_of_ble_eq_true rfl) (fun p e s m below meth c ls E hxt hW hl => ?_)
  obtain ⟨hx, hb, hml, hown, hts, -⟩ := id E
  replace hl : lv_has ls 4 [(0, .ref (X.1 0)), (1, .int v1), (2, .int v2)] := hl
  unfold f_X8_carWithPart at hf
  refine lv_aload_n hx hb dX8_carWithPart_0 rfl (lv_at hl 0 rfl) ?_
  refine lv_iload_n hx hb dX8_carWithPart_1 rfl (lv_at hl 1 rfl) ?_
  obtain ⟨r1, cs2, hc, k4, e5⟩ := bx_e hf
  refine xcallVQ (As := [.int _]) (rest := []) E hW (c_X8_carOf l hl0 hc) lk_X8_228 rcv_X8 (Nat.le_of_ble_eq_true rfl) (Nat.le_of_ble_eq_true rfl) (Nat.le_of_ble_eq_true rfl) (Nat.le_of_ble_eq_true rfl) hl.1 (Nat.le_of_ble_eq_true rfl) dX8_carWithPart_2 hxt (by decide) (by decide) (fun z hz => by have q9 := e5 z hz; cases q9; exact ⟨rfl, rfl⟩) (fun b3 q6 H locs hW => ?_)
  replace hf := k4 b3 q6
  cases b3 with
  | none =>
    replace hf := ob_n hf
    refine lv_astore_nN (lv' := [_, _, _, _]) hx hb dX8_carWithPart_5 rfl hl (by decide) rfl (fun ls hl => ?_)
    refine lv_iload_n hx hb dX8_carWithPart_6 rfl (lv_at hl 3 rfl) ?_
    refine lv_if_lt (tgt := 18) hx hb dX8_carWithPart_7 (by decide) (fun h8 => ?_) (fun h8 => ?_)
    · replace hf := ite_t h8 hf
      exact throwNW E hl0 hxt hW th_X8_167_268_171 dX8_carWithPart_18 dX8_carWithPart_21 dX8_carWithPart_22 dX8_carWithPart_25 dX8_carWithPart_28 (etC hf) (Nat.le_of_ble_eq_true rfl) (Nat.le_of_ble_eq_true rfl) (Nat.le_of_ble_eq_true rfl) (Nat.le_of_ble_eq_true rfl) (Nat.le_of_ble_eq_true rfl) (by decide) (by decide) (hl.1.trans hml.symm)
    · replace hf := ite_f h8 hf
      refine lv_iload_n hx hb dX8_carWithPart_10 rfl (lv_at hl 3 rfl) ?_
      refine lv_aload_nN hx hb dX8_carWithPart_11 rfl (lv_at hl 0 rfl) ?_
      exact absurd hf nofun
  | some a7 =>
    replace hf := ob_s hf
    refine lv_astore_n (lv' := [_, _, _, _]) hx hb dX8_carWithPart_5 rfl hl (by decide) rfl (fun ls hl => ?_)
    refine lv_iload_n hx hb dX8_carWithPart_6 rfl (lv_at hl 3 rfl) ?_
    refine lv_if_lt (tgt := 18) hx hb dX8_carWithPart_7 (by decide) (fun h9 => ?_) (fun h9 => ?_)
    · replace hf := ite_t h9 hf
      exact throwNW E hl0 hxt hW th_X8_167_268_171 dX8_carWithPart_18 dX8_carWithPart_21 dX8_carWithPart_22 dX8_carWithPart_25 dX8_carWithPart_28 (etC hf) (Nat.le_of_ble_eq_true rfl) (Nat.le_of_ble_eq_true rfl) (Nat.le_of_ble_eq_true rfl) (Nat.le_of_ble_eq_true rfl) (Nat.le_of_ble_eq_true rfl) (by decide) (by decide) (hl.1.trans hml.symm)
    · replace hf := ite_f h9 hf
      refine lv_iload_n hx hb dX8_carWithPart_10 rfl (lv_at hl 3 rfl) ?_
      refine lv_aload_n hx hb dX8_carWithPart_11 rfl (lv_at hl 0 rfl) ?_
      obtain ⟨v10, hf⟩ := gd_e hf
      refine rg_X8_265 E hW v10 dX8_carWithPart_12 ?_
      refine lv_icmp_lt (tgt := 29) hx hb dX8_carWithPart_15 (by decide) (fun h11 => ?_) (fun h11 => ?_)
      · replace hf := ite_t h11 hf
        refine lv_aload_n hx hb dX8_carWithPart_29 rfl (lv_at hl 0 rfl) ?_
        refine W.widen (k := 2) (n := 12) (by decide) (by decide) ?_
        exact vx_ret (retQX (v := some _) E hW (exC hf) dX8_carWithPart_30)
      · replace hf := ite_f h11 hf
        exact throwNW E hl0 hxt hW th_X8_167_268_171 dX8_carWithPart_18 dX8_carWithPart_21 dX8_carWithPart_22 dX8_carWithPart_25 dX8_carWithPart_28 (etC hf) (Nat.le_of_ble_eq_true rfl) (Nat.le_of_ble_eq_true rfl) (Nat.le_of_ble_eq_true rfl) (Nat.le_of_ble_eq_true rfl) (Nat.le_of_ble_eq_true rfl) (by decide) (by decide) (hl.1.trans hml.symm)
def f_X8_needsDraining (cs : CS) (v0 : Int32) : Option (Int32) := if v0 = (3 : Int32) then (some (1 : Int32)) else (if v0 = (4 : Int32) then (some (1 : Int32)) else (some (0 : Int32)))
def rm_X8_needsDraining : Room := { frames := 0, cells := 0, slots := 0, locals := 0 }
set_option maxHeartbeats 4000000 in
set_option maxRecDepth 100000 in
theorem c_X8_needsDraining (l : Launch) {X : XT} {B : Nat} {cs : CS} {ms : MS} {o : Nat → Int64} {v0 : Int32} {r : Int32} (hf : f_X8_needsDraining cs v0 = some r) : Met l yX8_needsDraining (.code yX8_needsDraining cX8_needsDraining 1 (some .boolean) :: BIG) rm_X8_needsDraining (Pre X B (cs, ms, o) [.int v0]) (QI X B r (cs, ms, o)) 0 0 (Ab B) := by
  refine entry (by decide +kernel) rfl (Nat.le_of_ble_eq_true rfl) (fun p e s m below meth c ls E hW hl => ?_)
  obtain ⟨hx, hb, hml, hown, hts, -⟩ := id E
  replace hl : lv_has ls 1 [(0, .int v0)] := hl
  unfold f_X8_needsDraining at hf
  refine lv_iload_n hx hb dX8_needsDraining_0 rfl (lv_at hl 0 rfl) ?_
  refine lv_iconst (v := (3 : Int32)) hx hb dX8_needsDraining_1 (by decide) ?_
  refine lv_icmp_eq (tgt := 10) hx hb dX8_needsDraining_2 (by decide) (fun h1 => ?_) (fun h1 => ?_)
  · replace hf := ite_t h1 hf
    refine lv_iconst (v := (1 : Int32)) hx hb dX8_needsDraining_10 (by decide) ?_
    refine lv_goto (tgt := 15) hx hb dX8_needsDraining_11 (by decide) ?_
    exact retZ E hW (Or.inr rfl) ⟨Option.some.inj hf, rfl⟩ dX8_needsDraining_15
  · replace hf := ite_f h1 hf
    refine lv_iload_n hx hb dX8_needsDraining_5 rfl (lv_at hl 0 rfl) ?_
    refine lv_iconst (v := (4 : Int32)) hx hb dX8_needsDraining_6 (by decide) ?_
    refine lv_icmp_ne (tgt := 14) hx hb dX8_needsDraining_7 (by decide) (fun h2 => ?_) (fun h2 => ?_)
    · replace hf := ite_f h2 hf
      refine lv_iconst (v := (0 : Int32)) hx hb dX8_needsDraining_14 (by decide) ?_
      exact retZ E hW (Or.inl rfl) ⟨Option.some.inj hf, rfl⟩ dX8_needsDraining_15
    · replace hf := ite_t h2 hf
      refine lv_iconst (v := (1 : Int32)) hx hb dX8_needsDraining_10 (by decide) ?_
      refine lv_goto (tgt := 15) hx hb dX8_needsDraining_11 (by decide) ?_
      exact retZ E hW (Or.inr rfl) ⟨Option.some.inj hf, rfl⟩ dX8_needsDraining_15
def f_X8_hindranceOf_92 (cs : CS) : Option (Int32) := if (ci cs 2) < (60 : Int32) then (if (ci cs 1) < (400 : Int32) then (some (0 : Int32)) else (some (7 : Int32))) else (some (6 : Int32))
def f_X8_hindranceOf_75 (cs : CS) (v1 : Nat) (v2 : Int32) (v3 : Int32) : Option (Int32) := if v3 = (5 : Int32) then (gd (v1 ∈ cl cs ∧ ck cs v1 = 0) <| if (cp cs v1 5) = ((1 : Int32) <<< (v2 &&& 31)) then (f_X8_hindranceOf_92 cs ) else (some (5 : Int32))) else (f_X8_hindranceOf_92 cs )
def f_X8_hindranceOf (cs : CS) (v1 : Option Nat) (v2 : Int32) : Option (Int32) := ob v1 (none) fun a1 => (gd (a1 ∈ cl cs ∧ ck cs a1 = 0) <| (f_X6_factOf cs (cp cs a1 0) v2 (0 : Int32)).bind fun r2 => (f_X6_factOf cs (cp cs a1 0) v2 (2 : Int32)).bind fun r3 => if (cp cs a1 8) = 0 then ((f_X1_isOn cs a1 v2).bind fun r5 => if r5 = 0 then (some (2 : Int32)) else ((f_X1_isOn cs a1 r3).bind fun r7 => if r7 = 0 then ((f_X8_needsDraining cs r2).bind fun r9 => if r9 = 0 then (f_X8_hindranceOf_75 cs a1 v2 r2) else (if (cp cs a1 6) = 0 then (some (4 : Int32)) else (f_X8_hindranceOf_75 cs a1 v2 r2))) else (some (3 : Int32)))) else (some (1 : Int32)))
def rm_X8_hindranceOf : Room := { frames := 3, cells := 0, slots := 0, locals := 70 }
set_option maxHeartbeats 4000000 in
set_option maxRecDepth 100000 in
theorem w_X8_hindranceOf_92 {p : Program} {l : Launch} {e : Env} {s : State} {m : MethodId} {args : Array Value} {below : List Frame} {meth : Method} {c : Code} {X : XT} {B : Nat} {ms : MS} {o : Nat → Int64} {r : Int32} (E : Ev X B p s m args meth c RX8 cX8_hindranceOf 5 (some .int)) : ∀ (cs : CS) (H : Heap) (locs : List Loc) (ls : Array Slot), f_X8_hindranceOf_92 cs  = some r → Ws X B s.heap H locs (cs, ms, o) → lv_has ls 5 [(0, .ref (X.1 0))] → W p l e rm_X8_hindranceOf s m args below meth c H locs 0 0 (MQ below (QI X B r (cs, ms, o)) args s 0 0 (Ab B)) (F0 m 92 ls []) := by
  obtain ⟨hx, hb, hml, hown, hts, -⟩ := id E
  intro cs  H locs ls hf hW hl
  unfold f_X8_hindranceOf_92 at hf
  refine lv_aload_n hx hb dX8_hindranceOf_92 rfl (lv_at hl 0 rfl) ?_
  refine rg_X8_70 E hW dX8_hindranceOf_93 ?_
  refine lv_bipush (v := (60 : Int32)) hx hb dX8_hindranceOf_96 (by decide) ?_
  refine lv_icmp_lt (tgt := 104) hx hb dX8_hindranceOf_98 (by decide) (fun h12 => ?_) (fun h12 => ?_)
  · replace hf := ite_t h12 hf
    refine lv_aload_n hx hb dX8_hindranceOf_104 rfl (lv_at hl 0 rfl) ?_
    refine rg_X8_67 E hW dX8_hindranceOf_105 ?_
    refine lv_sipush (v := (400 : Int32)) hx hb dX8_hindranceOf_108 (by decide) ?_
    refine lv_icmp_lt (tgt := 119) hx hb dX8_hindranceOf_111 (by decide) (fun h13 => ?_) (fun h13 => ?_)
    · replace hf := ite_t h13 hf
      refine lv_iconst (v := (0 : Int32)) hx hb dX8_hindranceOf_119 (by decide) ?_
      exact retI E hW ⟨Option.some.inj hf, rfl⟩ dX8_hindranceOf_120
    · replace hf := ite_f h13 hf
      refine lv_bipush (v := (7 : Int32)) hx hb dX8_hindranceOf_114 (by decide) ?_
      refine lv_goto (tgt := 120) hx hb dX8_hindranceOf_116 (by decide) ?_
      exact retI E hW ⟨Option.some.inj hf, rfl⟩ dX8_hindranceOf_120
  · replace hf := ite_f h12 hf
    refine lv_bipush (v := (6 : Int32)) hx hb dX8_hindranceOf_101 (by decide) ?_
    exact retI E hW ⟨Option.some.inj hf, rfl⟩ dX8_hindranceOf_103
set_option maxHeartbeats 4000000 in
set_option maxRecDepth 100000 in
theorem w_X8_hindranceOf_75 {p : Program} {l : Launch} {e : Env} {s : State} {m : MethodId} {args : Array Value} {below : List Frame} {meth : Method} {c : Code} {X : XT} {B : Nat} {ms : MS} {o : Nat → Int64} {r : Int32} (E : Ev X B p s m args meth c RX8 cX8_hindranceOf 5 (some .int)) : ∀ (cs : CS) (v1 : Nat) (v2 : Int32) (v3 : Int32) (H : Heap) (locs : List Loc) (ls : Array Slot), f_X8_hindranceOf_75 cs v1 v2 v3 = some r → Ws X B s.heap H locs (cs, ms, o) → lv_has ls 5 [(0, .ref (X.1 0)), (1, .ref v1), (2, .int v2), (3, .int v3)] → W p l e rm_X8_hindranceOf s m args below meth c H locs 0 0 (MQ below (QI X B r (cs, ms, o)) args s 0 0 (Ab B)) (F0 m 75 ls []) := by
  obtain ⟨hx, hb, hml, hown, hts, -⟩ := id E
  intro cs v1 v2 v3 H locs ls hf hW hl
  unfold f_X8_hindranceOf_75 at hf
  refine lv_iload_n hx hb dX8_hindranceOf_75 rfl (lv_at hl 3 rfl) ?_
  refine lv_iconst (v := (5 : Int32)) hx hb dX8_hindranceOf_76 (by decide) ?_
  refine lv_icmp_ne (tgt := 92) hx hb dX8_hindranceOf_77 (by decide) (fun h11 => ?_) (fun h11 => ?_)
  · replace hf := ite_f h11 hf
    exact w_X8_hindranceOf_92 E _ _ _ _ hf hW (lv_sub hl [0] rfl)
  · replace hf := ite_t h11 hf
    refine lv_aload_n hx hb dX8_hindranceOf_80 rfl (lv_at hl 1 rfl) ?_
    obtain ⟨v14, hf⟩ := gd_e hf
    refine rg_X8_241 E hW v14 dX8_hindranceOf_81 ?_
    refine lv_iconst (v := (1 : Int32)) hx hb dX8_hindranceOf_84 (by decide) ?_
    refine lv_iload_n hx hb dX8_hindranceOf_85 rfl (lv_at hl 2 rfl) ?_
    refine lv_ishl hx hb dX8_hindranceOf_86 ?_
    refine lv_icmp_eq (tgt := 92) hx hb dX8_hindranceOf_87 (by decide) (fun h15 => ?_) (fun h15 => ?_)
    · replace hf := ite_t h15 hf
      exact w_X8_hindranceOf_92 E _ _ _ _ hf hW (lv_sub hl [0] rfl)
    · replace hf := ite_f h15 hf
      refine lv_iconst (v := (5 : Int32)) hx hb dX8_hindranceOf_90 (by decide) ?_
      exact retI E hW ⟨Option.some.inj hf, rfl⟩ dX8_hindranceOf_91
set_option maxHeartbeats 4000000 in
set_option maxRecDepth 100000 in
theorem c_X8_hindranceOf (l : Launch) {X : XT} {B : Nat} {cs : CS} {ms : MS} {o : Nat → Int64} {v1 : Option Nat} {v2 : Int32} {r : Int32} (hf : f_X8_hindranceOf cs v1 v2 = some r) : Met l yX8_hindranceOf (.code yX8_hindranceOf cX8_hindranceOf 5 (some .int) :: BIG) rm_X8_hindranceOf (Pre X B (cs, ms, o) [.ref (X.1 0), va_rf v1, .int v2]) (QI X B r (cs, ms, o)) 0 0 (Ab B) := by
  cases v1 with
  | none =>
    refine entry (by decide +kernel) rfl (Nat.le_of_ble_eq_true rfl) (fun p e s m below meth c ls E hW hl => ?_)
    obtain ⟨hx, hb, hml, hown, hts, -⟩ := id E
    replace hl : lv_has ls 5 [(0, .ref (X.1 0)), (1, .null), (2, .int v2)] := hl
    unfold f_X8_hindranceOf at hf
    replace hf := ob_n hf
    refine lv_aload_n hx hb dX8_hindranceOf_0 rfl (lv_at hl 0 rfl) ?_
    refine rg_X8_26 E hW dX8_hindranceOf_1 ?_
    refine lv_aload_nN hx hb dX8_hindranceOf_4 rfl (lv_at hl 1 rfl) ?_
    exact absurd hf nofun
  | some a1 =>
    refine entry (by decide +kernel) rfl (Nat.le_of_ble_eq_true rfl) (fun p e s m below meth c ls E hW hl => ?_)
    obtain ⟨hx, hb, hml, hown, hts, -⟩ := id E
    replace hl : lv_has ls 5 [(0, .ref (X.1 0)), (1, .ref a1), (2, .int v2)] := hl
    unfold f_X8_hindranceOf at hf
    replace hf := ob_s hf
    refine lv_aload_n hx hb dX8_hindranceOf_0 rfl (lv_at hl 0 rfl) ?_
    refine rg_X8_26 E hW dX8_hindranceOf_1 ?_
    refine lv_aload_n hx hb dX8_hindranceOf_4 rfl (lv_at hl 1 rfl) ?_
    obtain ⟨v1, hf⟩ := gd_e hf
    refine rg_X8_232 E hW v1 dX8_hindranceOf_5 ?_
    refine lv_iload_n hx hb dX8_hindranceOf_8 rfl (lv_at hl 2 rfl) ?_
    refine lv_iconst (v := (0 : Int32)) hx hb dX8_hindranceOf_9 (by decide) ?_
    obtain ⟨r2, hc, hf⟩ := b1_e hf
    refine callVI (As := [.int _, .int _, .int _]) (rest := []) E hW (c_X6_factOf l hc) lk_X8_174 rcv_X6 (Nat.le_of_ble_eq_true rfl) (Nat.le_of_ble_eq_true rfl) (Nat.le_of_ble_eq_true rfl) (Nat.le_of_ble_eq_true rfl) hl.1 (Nat.le_of_ble_eq_true rfl) dX8_hindranceOf_10 (fun H locs hW => ?_)
    refine lv_istore_n (lv' := [_, _, _, _]) hx hb dX8_hindranceOf_13 rfl hl (by decide) rfl (fun ls hl => ?_)
    refine lv_aload_n hx hb dX8_hindranceOf_14 rfl (lv_at hl 1 rfl) ?_
    refine rg_X8_26 E hW dX8_hindranceOf_15 ?_
    refine lv_aload_n hx hb dX8_hindranceOf_18 rfl (lv_at hl 2 rfl) ?_
    refine rg_X8_232 E hW v1 dX8_hindranceOf_19 ?_
    refine lv_iload_n hx hb dX8_hindranceOf_22 rfl (lv_at hl 3 rfl) ?_
    refine lv_iconst (v := (2 : Int32)) hx hb dX8_hindranceOf_23 (by decide) ?_
    obtain ⟨r3, hc, hf⟩ := b1_e hf
    refine callVI (As := [.int _, .int _, .int _]) (rest := []) E hW (c_X6_factOf l hc) lk_X8_174 rcv_X6 (Nat.le_of_ble_eq_true rfl) (Nat.le_of_ble_eq_true rfl) (Nat.le_of_ble_eq_true rfl) (Nat.le_of_ble_eq_true rfl) hl.1 (Nat.le_of_ble_eq_true rfl) dX8_hindranceOf_24 (fun H locs hW => ?_)
    refine lv_istore (lv' := [_, _, _, _, _]) hx hb dX8_hindranceOf_27 hl (by decide) rfl (fun ls hl => ?_)
    refine lv_aload_n hx hb dX8_hindranceOf_29 rfl (lv_at hl 3 rfl) ?_
    refine rg_X8_251 E hW v1 dX8_hindranceOf_30 ?_
    refine lv_if_eq (tgt := 38) hx hb dX8_hindranceOf_33 (by decide) (fun h4 => ?_) (fun h4 => ?_)
    · replace hf := ite_t h4 hf
      refine lv_aload_n hx hb dX8_hindranceOf_38 rfl (lv_at hl 3 rfl) ?_
      refine lv_iload_n hx hb dX8_hindranceOf_39 rfl (lv_at hl 4 rfl) ?_
      obtain ⟨r5, hc, hf⟩ := b1_e hf
      refine callVI (As := [.int _]) (rest := []) E hW (c_X1_isOn l hc) lk_X8_270 (rcv_X1 v1) (Nat.le_of_ble_eq_true rfl) (Nat.le_of_ble_eq_true rfl) (Nat.le_of_ble_eq_true rfl) (Nat.le_of_ble_eq_true rfl) hl.1 (Nat.le_of_ble_eq_true rfl) dX8_hindranceOf_40 (fun H locs hW => ?_)
      refine lv_if_ne (tgt := 48) hx hb dX8_hindranceOf_43 (by decide) (fun h6 => ?_) (fun h6 => ?_)
      · replace hf := ite_f h6 hf
        refine lv_aload_n hx hb dX8_hindranceOf_48 rfl (lv_at hl 3 rfl) ?_
        refine lv_iload hx hb dX8_hindranceOf_49 (lv_at hl 0 rfl) ?_
        obtain ⟨r7, hc, hf⟩ := b1_e hf
        refine callVI (As := [.int _]) (rest := []) E hW (c_X1_isOn l hc) lk_X8_270 (rcv_X1 v1) (Nat.le_of_ble_eq_true rfl) (Nat.le_of_ble_eq_true rfl) (Nat.le_of_ble_eq_true rfl) (Nat.le_of_ble_eq_true rfl) hl.1 (Nat.le_of_ble_eq_true rfl) dX8_hindranceOf_51 (fun H locs hW => ?_)
        refine lv_if_eq (tgt := 59) hx hb dX8_hindranceOf_54 (by decide) (fun h8 => ?_) (fun h8 => ?_)
        · replace hf := ite_t h8 hf
          refine lv_iload_n hx hb dX8_hindranceOf_59 rfl (lv_at hl 1 rfl) ?_
          obtain ⟨r9, hc, hf⟩ := b1_e hf
          refine callSI (As := [.int _]) (rest := []) E hW (c_X8_needsDraining l hc) lk_X8_295 (Nat.le_of_ble_eq_true rfl) (Nat.le_of_ble_eq_true rfl) (Nat.le_of_ble_eq_true rfl) (Nat.le_of_ble_eq_true rfl) hl.1 (Nat.le_of_ble_eq_true rfl) dX8_hindranceOf_60 (fun H locs hW => ?_)
          refine lv_if_eq (tgt := 75) hx hb dX8_hindranceOf_63 (by decide) (fun h10 => ?_) (fun h10 => ?_)
          · replace hf := ite_t h10 hf
            exact w_X8_hindranceOf_75 E _ _ _ _ _ _ _ hf hW (lv_sub hl [2, 3, 4, 1] rfl)
          · replace hf := ite_f h10 hf
            refine lv_aload_n hx hb dX8_hindranceOf_66 rfl (lv_at hl 3 rfl) ?_
            refine rg_X8_244 E hW v1 dX8_hindranceOf_67 ?_
            refine lv_if_ne (tgt := 75) hx hb dX8_hindranceOf_70 (by decide) (fun h16 => ?_) (fun h16 => ?_)
            · replace hf := ite_f h16 hf
              exact w_X8_hindranceOf_75 E _ _ _ _ _ _ _ hf hW (lv_sub hl [2, 3, 4, 1] rfl)
            · replace hf := ite_t h16 hf
              refine lv_iconst (v := (4 : Int32)) hx hb dX8_hindranceOf_73 (by decide) ?_
              exact retI E hW ⟨Option.some.inj hf, rfl⟩ dX8_hindranceOf_74
        · replace hf := ite_f h8 hf
          refine lv_iconst (v := (3 : Int32)) hx hb dX8_hindranceOf_57 (by decide) ?_
          exact retI E hW ⟨Option.some.inj hf, rfl⟩ dX8_hindranceOf_58
      · replace hf := ite_t h6 hf
        refine lv_iconst (v := (2 : Int32)) hx hb dX8_hindranceOf_46 (by decide) ?_
        exact retI E hW ⟨Option.some.inj hf, rfl⟩ dX8_hindranceOf_47
    · replace hf := ite_f h4 hf
      refine lv_iconst (v := (1 : Int32)) hx hb dX8_hindranceOf_36 (by decide) ?_
      exact retI E hW ⟨Option.some.inj hf, rfl⟩ dX8_hindranceOf_37
def f_X8_hinders (cs : CS) (v1 : Int32) (v2 : Int32) : Option ((Int32 ⊕ String) × CS) := bx (f_X8_carWithPart cs v1 v2) fun b3 cs2 => ob b3 ((f_X8_hindranceOf cs2 none v2).bind fun r8 => some (.inl r8, cs2)) fun a7 => ((f_X8_hindranceOf cs2 (some a7) v2).bind fun r9 => some (.inl r9, cs2))
def rm_X8_hinders : Room := { frames := 12, cells := 2, slots := 12, locals := 195 }
set_option maxHeartbeats 4000000 in
set_option maxRecDepth 100000 in
theorem c_X8_hinders (l : Launch) (hl0 : l.stackTraces = false) {X : XT} {B : Nat} {cs : CS} {ms : MS} {o : Nat → Int64} {v1 : Int32} {v2 : Int32} {r : Int32 ⊕ String} {S9 : CS} (hf : f_X8_hinders cs v1 v2 = some (r, S9)) : vx_Met l yX8_hinders (.code yX8_hinders cX8_hinders 3 (some .int) :: BIG) rm_X8_hinders (Pre X B (cs, ms, o) [.ref (X.1 0), .int v1, .int v2]) (QXI X B r (S9, ms, o)) (XCx X B r (S9, ms, o)) 2 12 (Ab B) := by
  refine xentry (by decide +kernel) rfl (Nat.le_of_ble_eq_true rfl) (fun p e s m below meth c ls E hxt hW hl => ?_)
  obtain ⟨hx, hb, hml, hown, hts, -⟩ := id E
  replace hl : lv_has ls 3 [(0, .ref (X.1 0)), (1, .int v1), (2, .int v2)] := hl
  unfold f_X8_hinders at hf
  refine lv_aload_n hx hb dX8_hinders_0 rfl (lv_at hl 0 rfl) ?_
  refine lv_aload_n hx hb dX8_hinders_1 rfl (lv_at hl 0 rfl) ?_
  refine lv_iload_n hx hb dX8_hinders_2 rfl (lv_at hl 1 rfl) ?_
  refine lv_iload_n hx hb dX8_hinders_3 rfl (lv_at hl 2 rfl) ?_
  obtain ⟨r1, cs2, hc, k4, e5⟩ := bx_e hf
  refine xcallVQ (As := [.int _, .int _]) (rest := [_]) E hW (c_X8_carWithPart l hl0 hc) lk_X8_276 rcv_X8 (Nat.le_of_ble_eq_true rfl) (Nat.le_of_ble_eq_true rfl) (Nat.le_of_ble_eq_true rfl) (Nat.le_of_ble_eq_true rfl) hl.1 (Nat.le_of_ble_eq_true rfl) dX8_hinders_4 hxt (by decide) (by decide) (fun z hz => by have q9 := e5 z hz; cases q9; exact ⟨rfl, rfl⟩) (fun b3 q6 H locs hW => ?_)
  replace hf := k4 b3 q6
  cases b3 with
  | none =>
    replace hf := ob_n hf
    refine lv_iload_n hx hb dX8_hinders_7 rfl (lv_at hl 2 rfl) ?_
    obtain ⟨r8, hc, hf⟩ := b1_e hf
    refine callVI (As := [va_rf none, .int _]) (rest := []) E hW (c_X8_hindranceOf l hc) lk_X8_280 rcv_X8 (Nat.le_of_ble_eq_true rfl) (Nat.le_of_ble_eq_true rfl) (Nat.le_of_ble_eq_true rfl) (Nat.le_of_ble_eq_true rfl) hl.1 (Nat.le_of_ble_eq_true rfl) dX8_hinders_8 (fun H locs hW => ?_)
    exact vx_ret (retIX E hW (exC hf) dX8_hinders_11)
  | some a7 =>
    replace hf := ob_s hf
    refine lv_iload_n hx hb dX8_hinders_7 rfl (lv_at hl 2 rfl) ?_
    obtain ⟨r9, hc, hf⟩ := b1_e hf
    refine callVI (As := [va_rf (some _), .int _]) (rest := []) E hW (c_X8_hindranceOf l hc) lk_X8_280 rcv_X8 (Nat.le_of_ble_eq_true rfl) (Nat.le_of_ble_eq_true rfl) (Nat.le_of_ble_eq_true rfl) (Nat.le_of_ble_eq_true rfl) hl.1 (Nat.le_of_ble_eq_true rfl) dX8_hinders_8 (fun H locs hW => ?_)
    exact vx_ret (retIX E hW (exC hf) dX8_hinders_11)
def f_X8_gateOf (cs : CS) (v0 : Int32) : Option (Int32) := if v0 = (0 : Int32) then (some (2 : Int32)) else (if v0 = (1 : Int32) then (some (3 : Int32)) else (if v0 = (2 : Int32) then (some (5 : Int32)) else (some (1 : Int32))))
def rm_X8_gateOf : Room := { frames := 0, cells := 0, slots := 0, locals := 0 }
set_option maxHeartbeats 4000000 in
set_option maxRecDepth 100000 in
theorem c_X8_gateOf (l : Launch) {X : XT} {B : Nat} {cs : CS} {ms : MS} {o : Nat → Int64} {v0 : Int32} {r : Int32} (hf : f_X8_gateOf cs v0 = some r) : Met l yX8_gateOf (.code yX8_gateOf cX8_gateOf 1 (some .int) :: BIG) rm_X8_gateOf (Pre X B (cs, ms, o) [.int v0]) (QI X B r (cs, ms, o)) 0 0 (Ab B) := by
  refine entry (by decide +kernel) rfl (Nat.le_of_ble_eq_true rfl) (fun p e s m below meth c ls E hW hl => ?_)
  obtain ⟨hx, hb, hml, hown, hts, -⟩ := id E
  replace hl : lv_has ls 1 [(0, .int v0)] := hl
  unfold f_X8_gateOf at hf
  refine lv_iload_n hx hb dX8_gateOf_0 rfl (lv_at hl 0 rfl) ?_
  by_cases h1 : v0 = (0 : Int32)
  · replace hf := ite_t h1 hf
    refine lv_tableIn (tgt := 28) hx hb dX8_gateOf_1 (by rw [h1]; decide) (by rw [h1]; decide) (by rw [h1]; rfl) (by decide) ?_
    refine lv_iconst (v := (2 : Int32)) hx hb dX8_gateOf_28 (by decide) ?_
    exact retI E hW ⟨Option.some.inj hf, rfl⟩ dX8_gateOf_29
  · replace hf := ite_f h1 hf
    by_cases h2 : v0 = (1 : Int32)
    · replace hf := ite_t h2 hf
      refine lv_tableIn (tgt := 30) hx hb dX8_gateOf_1 (by rw [h2]; decide) (by rw [h2]; decide) (by rw [h2]; rfl) (by decide) ?_
      refine lv_iconst (v := (3 : Int32)) hx hb dX8_gateOf_30 (by decide) ?_
      exact retI E hW ⟨Option.some.inj hf, rfl⟩ dX8_gateOf_31
    · replace hf := ite_f h2 hf
      by_cases h3 : v0 = (2 : Int32)
      · replace hf := ite_t h3 hf
        refine lv_tableIn (tgt := 32) hx hb dX8_gateOf_1 (by rw [h3]; decide) (by rw [h3]; decide) (by rw [h3]; rfl) (by decide) ?_
        refine lv_iconst (v := (5 : Int32)) hx hb dX8_gateOf_32 (by decide) ?_
        exact retI E hW ⟨Option.some.inj hf, rfl⟩ dX8_gateOf_33
      · replace hf := ite_f h3 hf
        have eh1 := lv_neT h1 (a := 0) (by decide)
        have eh2 := lv_neT h2 (a := 1) (by decide)
        have eh3 := lv_neT h3 (a := 2) (by decide)
        refine lv_tableOut (tgt := 34) hx hb dX8_gateOf_1 (by omega) (by decide) ?_
        refine lv_iconst (v := (1 : Int32)) hx hb dX8_gateOf_34 (by decide) ?_
        exact retI E hW ⟨Option.some.inj hf, rfl⟩ dX8_gateOf_35
def f_X8_move (cs : CS) (v1 : Option Nat) (v2 : Int32) : Option (CS) := ob v1 (none) fun a1 => (gd (a1 ∈ cl cs ∧ ck cs a1 = 1) <| (f_X8_gateOf cs (cp cs a1 3)).bind fun r2 => (f_X8_weigh cs (cp cs a1 1) (cp cs a1 2) r2 (-1 : Int32)).bind fun cs3 => gd (a1 ∈ cl cs3 ∧ ck cs3 a1 = 1) <| (f_X8_gateOf cs3 v2).bind fun r5 => (f_X8_weigh cs3 (cp cs3 a1 1) (cp cs3 a1 2) r5 (1 : Int32)).bind fun cs6 => gd (a1 ∈ cl cs6 ∧ ck cs6 a1 = 1) <| if (cp cs6 a1 3) = 0 then (if v2 = 0 then (some (cpU (cpU (ciU (ciU cs6 2 ((ci cs6 2) - (1 : Int32))) 2 ((ci (ciU cs6 2 ((ci cs6 2) - (1 : Int32))) 2) + (1 : Int32))) a1 3 v2) a1 4 (ci (cpU (ciU (ciU cs6 2 ((ci cs6 2) - (1 : Int32))) 2 ((ci (ciU cs6 2 ((ci cs6 2) - (1 : Int32))) 2) + (1 : Int32))) a1 3 v2) 3))) else (some (cpU (cpU (ciU cs6 2 ((ci cs6 2) - (1 : Int32))) a1 3 v2) a1 4 (ci (cpU (ciU cs6 2 ((ci cs6 2) - (1 : Int32))) a1 3 v2) 3)))) else (if v2 = 0 then (some (cpU (cpU (ciU cs6 2 ((ci cs6 2) + (1 : Int32))) a1 3 v2) a1 4 (ci (cpU (ciU cs6 2 ((ci cs6 2) + (1 : Int32))) a1 3 v2) 3))) else (some (cpU (cpU cs6 a1 3 v2) a1 4 (ci (cpU cs6 a1 3 v2) 3)))))
def rm_X8_move : Room := { frames := 4, cells := 0, slots := 0, locals := 95 }
set_option maxHeartbeats 4000000 in
set_option maxRecDepth 100000 in
theorem c_X8_move (l : Launch) {X : XT} {B : Nat} {cs : CS} {ms : MS} {o : Nat → Int64} {v1 : Option Nat} {v2 : Int32} {S9 : CS} (hf : f_X8_move cs v1 v2 = some S9) : Met l yX8_move (.code yX8_move cX8_move 3 none :: BIG) rm_X8_move (Pre X B (cs, ms, o) [.ref (X.1 0), va_rf v1, .int v2]) (QV X B (S9, ms, o)) 0 0 (Ab B) := by
  cases v1 with
  | none =>
    refine entry (by decide +kernel) rfl (Nat.le_of_ble_eq_true rfl) (fun p e s m below meth c ls E hW hl => ?_)
    obtain ⟨hx, hb, hml, hown, hts, -⟩ := id E
    replace hl : lv_has ls 3 [(0, .ref (X.1 0)), (1, .null), (2, .int v2)] := hl
    unfold f_X8_move at hf
    replace hf := ob_n hf
    refine lv_aload_n hx hb dX8_move_0 rfl (lv_at hl 0 rfl) ?_
    refine lv_aload_nN hx hb dX8_move_1 rfl (lv_at hl 1 rfl) ?_
    exact absurd hf nofun
  | some a1 =>
    refine entry (by decide +kernel) rfl (Nat.le_of_ble_eq_true rfl) (fun p e s m below meth c ls E hW hl => ?_)
    obtain ⟨hx, hb, hml, hown, hts, -⟩ := id E
    replace hl : lv_has ls 3 [(0, .ref (X.1 0)), (1, .ref a1), (2, .int v2)] := hl
    unfold f_X8_move at hf
    replace hf := ob_s hf
    refine lv_aload_n hx hb dX8_move_0 rfl (lv_at hl 0 rfl) ?_
    refine lv_aload_n hx hb dX8_move_1 rfl (lv_at hl 1 rfl) ?_
    obtain ⟨v1, hf⟩ := gd_e hf
    refine rg_X8_348 E hW v1 dX8_move_2 ?_
    refine lv_aload_n hx hb dX8_move_5 rfl (lv_at hl 1 rfl) ?_
    refine rg_X8_318 E hW v1 dX8_move_6 ?_
    refine lv_aload_n hx hb dX8_move_9 rfl (lv_at hl 1 rfl) ?_
    refine rg_X8_321 E hW v1 dX8_move_10 ?_
    obtain ⟨r2, hc, hf⟩ := b1_e hf
    refine callSI (As := [.int _]) (rest := [_, _, _]) E hW (c_X8_gateOf l hc) lk_X8_370 (Nat.le_of_ble_eq_true rfl) (Nat.le_of_ble_eq_true rfl) (Nat.le_of_ble_eq_true rfl) (Nat.le_of_ble_eq_true rfl) hl.1 (Nat.le_of_ble_eq_true rfl) dX8_move_13 (fun H locs hW => ?_)
    refine lv_iconst (v := (-1 : Int32)) hx hb dX8_move_16 (by decide) ?_
    obtain ⟨cs3, hc, hf⟩ := b1_e hf
    refine callVV (As := [.int _, .int _, .int _, .int _]) (rest := []) E hW (c_X8_weigh l hc) lk_X8_273 rcv_X8 (Nat.le_of_ble_eq_true rfl) (Nat.le_of_ble_eq_true rfl) (Nat.le_of_ble_eq_true rfl) (Nat.le_of_ble_eq_true rfl) hl.1 (Nat.le_of_ble_eq_true rfl) dX8_move_17 (fun H locs hW => ?_)
    refine lv_aload_n hx hb dX8_move_20 rfl (lv_at hl 0 rfl) ?_
    refine lv_aload_n hx hb dX8_move_21 rfl (lv_at hl 1 rfl) ?_
    obtain ⟨v4, hf⟩ := gd_e hf
    refine rg_X8_348 E hW v4 dX8_move_22 ?_
    refine lv_aload_n hx hb dX8_move_25 rfl (lv_at hl 1 rfl) ?_
    refine rg_X8_318 E hW v4 dX8_move_26 ?_
    refine lv_iload_n hx hb dX8_move_29 rfl (lv_at hl 2 rfl) ?_
    obtain ⟨r5, hc, hf⟩ := b1_e hf
    refine callSI (As := [.int _]) (rest := [_, _, _]) E hW (c_X8_gateOf l hc) lk_X8_370 (Nat.le_of_ble_eq_true rfl) (Nat.le_of_ble_eq_true rfl) (Nat.le_of_ble_eq_true rfl) (Nat.le_of_ble_eq_true rfl) hl.1 (Nat.le_of_ble_eq_true rfl) dX8_move_30 (fun H locs hW => ?_)
    refine lv_iconst (v := (1 : Int32)) hx hb dX8_move_33 (by decide) ?_
    obtain ⟨cs6, hc, hf⟩ := b1_e hf
    refine callVV (As := [.int _, .int _, .int _, .int _]) (rest := []) E hW (c_X8_weigh l hc) lk_X8_273 rcv_X8 (Nat.le_of_ble_eq_true rfl) (Nat.le_of_ble_eq_true rfl) (Nat.le_of_ble_eq_true rfl) (Nat.le_of_ble_eq_true rfl) hl.1 (Nat.le_of_ble_eq_true rfl) dX8_move_34 (fun H locs hW => ?_)
    refine lv_aload_n hx hb dX8_move_37 rfl (lv_at hl 1 rfl) ?_
    obtain ⟨v7, hf⟩ := gd_e hf
    refine rg_X8_321 E hW v7 dX8_move_38 ?_
    refine lv_if_ne (tgt := 54) hx hb dX8_move_41 (by decide) (fun h8 => ?_) (fun h8 => ?_)
    · replace hf := ite_f h8 hf
      refine lv_iload_n hx hb dX8_move_54 rfl (lv_at hl 2 rfl) ?_
      refine lv_if_ne (tgt := 68) hx hb dX8_move_55 (by decide) (fun h9 => ?_) (fun h9 => ?_)
      · replace hf := ite_f h9 hf
        refine lv_aload_n hx hb dX8_move_68 rfl (lv_at hl 1 rfl) ?_
        refine lv_iload_n hx hb dX8_move_69 rfl (lv_at hl 2 rfl) ?_
        refine rp_X8_321 E hW v7 dX8_move_70 (fun H locs hW => ?_)
        refine lv_aload_n hx hb dX8_move_73 rfl (lv_at hl 1 rfl) ?_
        refine lv_aload_n hx hb dX8_move_74 rfl (lv_at hl 0 rfl) ?_
        refine rg_X8_73 E hW dX8_move_75 ?_
        refine rp_X8_330 E hW v7 dX8_move_78 (fun H locs hW => ?_)
        exact retV E hW (e1C hf) dX8_move_81
      · replace hf := ite_t h9 hf
        refine lv_aload_n hx hb dX8_move_58 rfl (lv_at hl 0 rfl) ?_
        refine lv_dup hx hb dX8_move_59 rfl ?_
        refine rg_X8_70 E hW dX8_move_60 ?_
        refine lv_iconst (v := (1 : Int32)) hx hb dX8_move_63 (by decide) ?_
        refine lv_iadd hx hb dX8_move_64 ?_
        refine rp_X8_70 E hW dX8_move_65 (fun H locs hW => ?_)
        refine lv_aload_n hx hb dX8_move_68 rfl (lv_at hl 1 rfl) ?_
        refine lv_iload_n hx hb dX8_move_69 rfl (lv_at hl 2 rfl) ?_
        refine rp_X8_321 E hW v7 dX8_move_70 (fun H locs hW => ?_)
        refine lv_aload_n hx hb dX8_move_73 rfl (lv_at hl 1 rfl) ?_
        refine lv_aload_n hx hb dX8_move_74 rfl (lv_at hl 0 rfl) ?_
        refine rg_X8_73 E hW dX8_move_75 ?_
        refine rp_X8_330 E hW v7 dX8_move_78 (fun H locs hW => ?_)
        exact retV E hW (e1C hf) dX8_move_81
    · replace hf := ite_t h8 hf
      refine lv_aload_n hx hb dX8_move_44 rfl (lv_at hl 0 rfl) ?_
      refine lv_dup hx hb dX8_move_45 rfl ?_
      refine rg_X8_70 E hW dX8_move_46 ?_
      refine lv_iconst (v := (1 : Int32)) hx hb dX8_move_49 (by decide) ?_
      refine lv_isub hx hb dX8_move_50 ?_
      refine rp_X8_70 E hW dX8_move_51 (fun H locs hW => ?_)
      refine lv_iload_n hx hb dX8_move_54 rfl (lv_at hl 2 rfl) ?_
      refine lv_if_ne (tgt := 68) hx hb dX8_move_55 (by decide) (fun h10 => ?_) (fun h10 => ?_)
      · replace hf := ite_f h10 hf
        refine lv_aload_n hx hb dX8_move_68 rfl (lv_at hl 1 rfl) ?_
        refine lv_iload_n hx hb dX8_move_69 rfl (lv_at hl 2 rfl) ?_
        refine rp_X8_321 E hW v7 dX8_move_70 (fun H locs hW => ?_)
        refine lv_aload_n hx hb dX8_move_73 rfl (lv_at hl 1 rfl) ?_
        refine lv_aload_n hx hb dX8_move_74 rfl (lv_at hl 0 rfl) ?_
        refine rg_X8_73 E hW dX8_move_75 ?_
        refine rp_X8_330 E hW v7 dX8_move_78 (fun H locs hW => ?_)
        exact retV E hW (e1C hf) dX8_move_81
      · replace hf := ite_t h10 hf
        refine lv_aload_n hx hb dX8_move_58 rfl (lv_at hl 0 rfl) ?_
        refine lv_dup hx hb dX8_move_59 rfl ?_
        refine rg_X8_70 E hW dX8_move_60 ?_
        refine lv_iconst (v := (1 : Int32)) hx hb dX8_move_63 (by decide) ?_
        refine lv_iadd hx hb dX8_move_64 ?_
        refine rp_X8_70 E hW dX8_move_65 (fun H locs hW => ?_)
        refine lv_aload_n hx hb dX8_move_68 rfl (lv_at hl 1 rfl) ?_
        refine lv_iload_n hx hb dX8_move_69 rfl (lv_at hl 2 rfl) ?_
        refine rp_X8_321 E hW v7 dX8_move_70 (fun H locs hW => ?_)
        refine lv_aload_n hx hb dX8_move_73 rfl (lv_at hl 1 rfl) ?_
        refine lv_aload_n hx hb dX8_move_74 rfl (lv_at hl 0 rfl) ?_
        refine rg_X8_73 E hW dX8_move_75 ?_
        refine rp_X8_330 E hW v7 dX8_move_78 (fun H locs hW => ?_)
        exact retV E hW (e1C hf) dX8_move_81
def f_X8_addItem (cs : CS) (v1 : Option Nat) : Option (Int32 × CS) := ob v1 (if (ci cs 1) < 0 then (some ((-1 : Int32), cs)) else (if (ci cs 1) < (400 : Int32) then (none) else (some ((-1 : Int32), cs)))) fun a1 => (if (ci cs 1) < 0 then (some ((-1 : Int32), cs)) else (if (ci cs 1) < (400 : Int32) then (gd (a1 ∈ cl cs ∧ ck cs a1 = 1) <| ixr 400 (ci cs 1) <| (f_X8_move (ciU (cgU cs 9 ((ci cs 1)).toNatClampNeg a1) 1 ((ci (cgU cs 9 ((ci cs 1)).toNatClampNeg a1) 1) + (1 : Int32))) (some a1) (0 : Int32)).bind fun cs8 => some (((ci cs8 1) - (1 : Int32)), cs8)) else (some ((-1 : Int32), cs))))
def rm_X8_addItem : Room := { frames := 5, cells := 0, slots := 0, locals := 117 }
set_option maxHeartbeats 4000000 in
set_option maxRecDepth 100000 in
theorem c_X8_addItem (l : Launch) {X : XT} {B : Nat} {cs : CS} {ms : MS} {o : Nat → Int64} {v1 : Option Nat} {r : Int32} {S9 : CS} (hf : f_X8_addItem cs v1 = some (r, S9)) : Met l yX8_addItem (.code yX8_addItem cX8_addItem 2 (some .int) :: BIG) rm_X8_addItem (Pre X B (cs, ms, o) [.ref (X.1 0), va_rf v1]) (QI X B r (S9, ms, o)) 0 0 (Ab B) := by
  cases v1 with
  | none =>
    refine entry (by decide +kernel) rfl (Nat.le_of_ble_eq_true rfl) (fun p e s m below meth c ls E hW hl => ?_)
    obtain ⟨hx, hb, hml, hown, hts, -⟩ := id E
    replace hl : lv_has ls 2 [(0, .ref (X.1 0)), (1, .null)] := hl
    unfold f_X8_addItem at hf
    replace hf := ob_n hf
    refine lv_aload_n hx hb dX8_addItem_0 rfl (lv_at hl 0 rfl) ?_
    refine rg_X8_67 E hW dX8_addItem_1 ?_
    refine lv_if_lt (tgt := 19) hx hb dX8_addItem_4 (by decide) (fun h1 => ?_) (fun h1 => ?_)
    · replace hf := ite_t h1 hf
      refine lv_iconst (v := (-1 : Int32)) hx hb dX8_addItem_19 (by decide) ?_
      exact retI E hW (e2C hf) dX8_addItem_20
    · replace hf := ite_f h1 hf
      refine lv_aload_n hx hb dX8_addItem_7 rfl (lv_at hl 0 rfl) ?_
      refine rg_X8_67 E hW dX8_addItem_8 ?_
      refine lv_aload_n hx hb dX8_addItem_11 rfl (lv_at hl 0 rfl) ?_
      refine rg_X8_52 E hW dX8_addItem_12 ?_
      refine rl_9 E hW dX8_addItem_15 ?_
      refine lv_icmp_lt (tgt := 21) hx hb dX8_addItem_16 (by decide) (fun h2 => ?_) (fun h2 => ?_)
      · replace hf := ite_t h2 hf
        refine lv_aload_n hx hb dX8_addItem_21 rfl (lv_at hl 0 rfl) ?_
        refine rg_X8_52 E hW dX8_addItem_22 ?_
        refine lv_aload_n hx hb dX8_addItem_25 rfl (lv_at hl 0 rfl) ?_
        refine rg_X8_67 E hW dX8_addItem_26 ?_
        refine lv_aload_nN hx hb dX8_addItem_29 rfl (lv_at hl 1 rfl) ?_
        exact absurd hf nofun
      · replace hf := ite_f h2 hf
        refine lv_iconst (v := (-1 : Int32)) hx hb dX8_addItem_19 (by decide) ?_
        exact retI E hW (e2C hf) dX8_addItem_20
  | some a1 =>
    refine entry (by decide +kernel) rfl (Nat.le_of_ble_eq_true rfl) (fun p e s m below meth c ls E hW hl => ?_)
    obtain ⟨hx, hb, hml, hown, hts, -⟩ := id E
    replace hl : lv_has ls 2 [(0, .ref (X.1 0)), (1, .ref a1)] := hl
    unfold f_X8_addItem at hf
    replace hf := ob_s hf
    refine lv_aload_n hx hb dX8_addItem_0 rfl (lv_at hl 0 rfl) ?_
    refine rg_X8_67 E hW dX8_addItem_1 ?_
    refine lv_if_lt (tgt := 19) hx hb dX8_addItem_4 (by decide) (fun h4 => ?_) (fun h4 => ?_)
    · replace hf := ite_t h4 hf
      refine lv_iconst (v := (-1 : Int32)) hx hb dX8_addItem_19 (by decide) ?_
      exact retI E hW (e2C hf) dX8_addItem_20
    · replace hf := ite_f h4 hf
      refine lv_aload_n hx hb dX8_addItem_7 rfl (lv_at hl 0 rfl) ?_
      refine rg_X8_67 E hW dX8_addItem_8 ?_
      refine lv_aload_n hx hb dX8_addItem_11 rfl (lv_at hl 0 rfl) ?_
      refine rg_X8_52 E hW dX8_addItem_12 ?_
      refine rl_9 E hW dX8_addItem_15 ?_
      refine lv_icmp_lt (tgt := 21) hx hb dX8_addItem_16 (by decide) (fun h5 => ?_) (fun h5 => ?_)
      · replace hf := ite_t h5 hf
        refine lv_aload_n hx hb dX8_addItem_21 rfl (lv_at hl 0 rfl) ?_
        refine rg_X8_52 E hW dX8_addItem_22 ?_
        refine lv_aload_n hx hb dX8_addItem_25 rfl (lv_at hl 0 rfl) ?_
        refine rg_X8_67 E hW dX8_addItem_26 ?_
        refine lv_aload_n hx hb dX8_addItem_29 rfl (lv_at hl 1 rfl) ?_
        obtain ⟨v7, hf⟩ := gd_e hf
        obtain ⟨v6, hf⟩ := ixr_e hf
        refine rs_9 E hW v7 v6 dX8_addItem_30 (fun H locs hW => ?_)
        refine lv_aload_n hx hb dX8_addItem_31 rfl (lv_at hl 0 rfl) ?_
        refine lv_dup hx hb dX8_addItem_32 rfl ?_
        refine rg_X8_67 E hW dX8_addItem_33 ?_
        refine lv_iconst (v := (1 : Int32)) hx hb dX8_addItem_36 (by decide) ?_
        refine lv_iadd hx hb dX8_addItem_37 ?_
        refine rp_X8_67 E hW dX8_addItem_38 (fun H locs hW => ?_)
        refine lv_aload_n hx hb dX8_addItem_41 rfl (lv_at hl 0 rfl) ?_
        refine lv_aload_n hx hb dX8_addItem_42 rfl (lv_at hl 1 rfl) ?_
        refine lv_iconst (v := (0 : Int32)) hx hb dX8_addItem_43 (by decide) ?_
        obtain ⟨cs8, hc, hf⟩ := b1_e hf
        refine callVV (As := [va_rf (some _), .int _]) (rest := []) E hW (c_X8_move l hc) lk_X8_361 rcv_X8 (Nat.le_of_ble_eq_true rfl) (Nat.le_of_ble_eq_true rfl) (Nat.le_of_ble_eq_true rfl) (Nat.le_of_ble_eq_true rfl) hl.1 (Nat.le_of_ble_eq_true rfl) dX8_addItem_44 (fun H locs hW => ?_)
        refine lv_aload_n hx hb dX8_addItem_47 rfl (lv_at hl 0 rfl) ?_
        refine rg_X8_67 E hW dX8_addItem_48 ?_
        refine lv_iconst (v := (1 : Int32)) hx hb dX8_addItem_51 (by decide) ?_
        refine lv_isub hx hb dX8_addItem_52 ?_
        exact retI E hW (e2C hf) dX8_addItem_53
      · replace hf := ite_f h5 hf
        refine lv_iconst (v := (-1 : Int32)) hx hb dX8_addItem_19 (by decide) ?_
        exact retI E hW (e2C hf) dX8_addItem_20
def f_X8_hasDangerOn_2 : Nat → CS → Nat → Int32 → Option (Int32)
  | 0, _, _, _ => none
  | n + 1, cs, v1, v2 => gd (v1 ∈ cl cs ∧ ck cs v1 = 0) <| if (cp cs v1 3) ≤ v2 then (some (0 : Int32)) else ((f_X1_isOn cs v1 v2).bind fun r3 => if r3 = 0 then (f_X8_hasDangerOn_2 n cs v1 (v2 + (1 : Int32))) else ((f_X6_factOf cs (cp cs v1 0) v2 (0 : Int32)).bind fun r5 => if r5 = (4 : Int32) then (some (1 : Int32)) else (f_X8_hasDangerOn_2 n cs v1 (v2 + (1 : Int32)))))
def f_X8_hasDangerOn (cs : CS) (v1 : Option Nat) : Option (Int32) := ob v1 (none) fun a1 => (f_X8_hasDangerOn_2 1000 cs a1 (0 : Int32))
def rm_X8_hasDangerOn : Room := { frames := 3, cells := 0, slots := 0, locals := 70 }
set_option maxHeartbeats 4000000 in
set_option maxRecDepth 100000 in
theorem w_X8_hasDangerOn_2 {p : Program} {l : Launch} {e : Env} {s : State} {m : MethodId} {args : Array Value} {below : List Frame} {meth : Method} {c : Code} {X : XT} {B : Nat} {ms : MS} {o : Nat → Int64} {r : Int32} (E : Ev X B p s m args meth c RX8 cX8_hasDangerOn 3 (some .boolean)) : ∀ (n : Nat) (cs : CS) (v1 : Nat) (v2 : Int32) (H : Heap) (locs : List Loc) (ls : Array Slot), f_X8_hasDangerOn_2 n cs v1 v2 = some r → Ws X B s.heap H locs (cs, ms, o) → lv_has ls 3 [(0, .ref (X.1 0)), (1, .ref v1), (2, .int v2)] → W p l e rm_X8_hasDangerOn s m args below meth c H locs 0 0 (MQ below (QI X B r (cs, ms, o)) args s 0 0 (Ab B)) (F0 m 2 ls []) := by
  obtain ⟨hx, hb, hml, hown, hts, -⟩ := id E
  intro n
  induction n with
  | zero => intro cs v1 v2 H locs ls hf; exact absurd hf nofun
  | succ n ih =>
    intro cs v1 v2 H locs ls hf hW hl
    rw [f_X8_hasDangerOn_2] at hf
    refine lv_iload_n hx hb dX8_hasDangerOn_2 rfl (lv_at hl 2 rfl) ?_
    refine lv_aload_n hx hb dX8_hasDangerOn_3 rfl (lv_at hl 1 rfl) ?_
    obtain ⟨v1, hf⟩ := gd_e hf
    refine rg_X8_265 E hW v1 dX8_hasDangerOn_4 ?_
    refine lv_icmp_ge (tgt := 43) hx hb dX8_hasDangerOn_7 (by decide) (fun h2 => ?_) (fun h2 => ?_)
    · replace hf := ite_t h2 hf
      refine lv_iconst (v := (0 : Int32)) hx hb dX8_hasDangerOn_43 (by decide) ?_
      exact retZ E hW (Or.inl rfl) ⟨Option.some.inj hf, rfl⟩ dX8_hasDangerOn_44
    · replace hf := ite_f h2 hf
      refine lv_aload_n hx hb dX8_hasDangerOn_10 rfl (lv_at hl 1 rfl) ?_
      refine lv_iload_n hx hb dX8_hasDangerOn_11 rfl (lv_at hl 2 rfl) ?_
      obtain ⟨r3, hc, hf⟩ := b1_e hf
      refine callVI (As := [.int _]) (rest := []) E hW (c_X1_isOn l hc) lk_X8_270 (rcv_X1 v1) (Nat.le_of_ble_eq_true rfl) (Nat.le_of_ble_eq_true rfl) (Nat.le_of_ble_eq_true rfl) (Nat.le_of_ble_eq_true rfl) hl.1 (Nat.le_of_ble_eq_true rfl) dX8_hasDangerOn_12 (fun H locs hW => ?_)
      refine lv_if_eq (tgt := 37) hx hb dX8_hasDangerOn_15 (by decide) (fun h4 => ?_) (fun h4 => ?_)
      · replace hf := ite_t h4 hf
        refine lv_iinc (v := _ + (1 : Int32)) (lv' := [_, _, _]) hx hb dX8_hasDangerOn_37 hl (k := 2) rfl rfl (by decide) rfl (fun ls hl => ?_)
        refine lv_goto (tgt := 2) hx hb dX8_hasDangerOn_40 (by decide) ?_
        exact ih _ _ _ _ _ _ hf hW (lv_sub hl [1, 2, 0] rfl)
      · replace hf := ite_f h4 hf
        refine lv_aload_n hx hb dX8_hasDangerOn_18 rfl (lv_at hl 0 rfl) ?_
        refine rg_X8_26 E hW dX8_hasDangerOn_19 ?_
        refine lv_aload_n hx hb dX8_hasDangerOn_22 rfl (lv_at hl 1 rfl) ?_
        refine rg_X8_232 E hW v1 dX8_hasDangerOn_23 ?_
        refine lv_iload_n hx hb dX8_hasDangerOn_26 rfl (lv_at hl 2 rfl) ?_
        refine lv_iconst (v := (0 : Int32)) hx hb dX8_hasDangerOn_27 (by decide) ?_
        obtain ⟨r5, hc, hf⟩ := b1_e hf
        refine callVI (As := [.int _, .int _, .int _]) (rest := []) E hW (c_X6_factOf l hc) lk_X8_174 rcv_X6 (Nat.le_of_ble_eq_true rfl) (Nat.le_of_ble_eq_true rfl) (Nat.le_of_ble_eq_true rfl) (Nat.le_of_ble_eq_true rfl) hl.1 (Nat.le_of_ble_eq_true rfl) dX8_hasDangerOn_28 (fun H locs hW => ?_)
        refine lv_iconst (v := (4 : Int32)) hx hb dX8_hasDangerOn_31 (by decide) ?_
        refine lv_icmp_ne (tgt := 37) hx hb dX8_hasDangerOn_32 (by decide) (fun h6 => ?_) (fun h6 => ?_)
        · replace hf := ite_f h6 hf
          refine lv_iinc (v := _ + (1 : Int32)) (lv' := [_, _, _]) hx hb dX8_hasDangerOn_37 hl (k := 2) rfl rfl (by decide) rfl (fun ls hl => ?_)
          refine lv_goto (tgt := 2) hx hb dX8_hasDangerOn_40 (by decide) ?_
          exact ih _ _ _ _ _ _ hf hW (lv_sub hl [1, 2, 0] rfl)
        · replace hf := ite_t h6 hf
          refine lv_iconst (v := (1 : Int32)) hx hb dX8_hasDangerOn_35 (by decide) ?_
          exact retZ E hW (Or.inr rfl) ⟨Option.some.inj hf, rfl⟩ dX8_hasDangerOn_36
set_option maxHeartbeats 4000000 in
set_option maxRecDepth 100000 in
theorem c_X8_hasDangerOn (l : Launch) {X : XT} {B : Nat} {cs : CS} {ms : MS} {o : Nat → Int64} {v1 : Option Nat} {r : Int32} (hf : f_X8_hasDangerOn cs v1 = some r) : Met l yX8_hasDangerOn (.code yX8_hasDangerOn cX8_hasDangerOn 3 (some .boolean) :: BIG) rm_X8_hasDangerOn (Pre X B (cs, ms, o) [.ref (X.1 0), va_rf v1]) (QI X B r (cs, ms, o)) 0 0 (Ab B) := by
  cases v1 with
  | none =>
    refine entry (by decide +kernel) rfl (Nat.le_of_ble_eq_true rfl) (fun p e s m below meth c ls E hW hl => ?_)
    obtain ⟨hx, hb, hml, hown, hts, -⟩ := id E
    replace hl : lv_has ls 3 [(0, .ref (X.1 0)), (1, .null)] := hl
    unfold f_X8_hasDangerOn at hf
    replace hf := ob_n hf
    refine lv_iconst (v := (0 : Int32)) hx hb dX8_hasDangerOn_0 (by decide) ?_
    refine lv_istore_n (lv' := [_, _, _]) hx hb dX8_hasDangerOn_1 rfl hl (by decide) rfl (fun ls hl => ?_)
    exact absurd hf nofun
  | some a1 =>
    refine entry (by decide +kernel) rfl (Nat.le_of_ble_eq_true rfl) (fun p e s m below meth c ls E hW hl => ?_)
    obtain ⟨hx, hb, hml, hown, hts, -⟩ := id E
    replace hl : lv_has ls 3 [(0, .ref (X.1 0)), (1, .ref a1)] := hl
    unfold f_X8_hasDangerOn at hf
    replace hf := ob_s hf
    refine lv_iconst (v := (0 : Int32)) hx hb dX8_hasDangerOn_0 (by decide) ?_
    refine lv_istore_n (lv' := [_, _, _]) hx hb dX8_hasDangerOn_1 rfl hl (by decide) rfl (fun ls hl => ?_)
    exact w_X8_hasDangerOn_2 E 1000 _ _ _ _ _ _ hf hW (lv_sub hl [1, 2, 0] rfl)
def f_X8_pressHindranceOf (cs : CS) (v1 : Option Nat) : Option (Int32) := ob v1 (none) fun a1 => (gd (a1 ∈ cl cs ∧ ck cs a1 = 0) <| if (cp cs a1 8) = 0 then (if (cp cs a1 6) = 0 then (some (2 : Int32)) else (if (cp cs a1 7) = 0 then (some (3 : Int32)) else ((f_X8_hasDangerOn cs (some a1)).bind fun r5 => if r5 = 0 then (some (0 : Int32)) else (some (4 : Int32))))) else (some (1 : Int32)))
def rm_X8_pressHindranceOf : Room := { frames := 4, cells := 0, slots := 0, locals := 92 }
set_option maxHeartbeats 4000000 in
set_option maxRecDepth 100000 in
theorem c_X8_pressHindranceOf (l : Launch) {X : XT} {B : Nat} {cs : CS} {ms : MS} {o : Nat → Int64} {v1 : Option Nat} {r : Int32} (hf : f_X8_pressHindranceOf cs v1 = some r) : Met l yX8_pressHindranceOf (.code yX8_pressHindranceOf cX8_pressHindranceOf 2 (some .int) :: BIG) rm_X8_pressHindranceOf (Pre X B (cs, ms, o) [.ref (X.1 0), va_rf v1]) (QI X B r (cs, ms, o)) 0 0 (Ab B) := by
  cases v1 with
  | none =>
    refine entry (by decide +kernel) rfl (Nat.le_of_ble_eq_true rfl) (fun p e s m below meth c ls E hW hl => ?_)
    obtain ⟨hx, hb, hml, hown, hts, -⟩ := id E
    replace hl : lv_has ls 2 [(0, .ref (X.1 0)), (1, .null)] := hl
    unfold f_X8_pressHindranceOf at hf
    replace hf := ob_n hf
    refine lv_aload_nN hx hb dX8_pressHindranceOf_0 rfl (lv_at hl 1 rfl) ?_
    exact absurd hf nofun
  | some a1 =>
    refine entry (by decide +kernel) rfl (Nat.le_of_ble_eq_true rfl) (fun p e s m below meth c ls E hW hl => ?_)
    obtain ⟨hx, hb, hml, hown, hts, -⟩ := id E
    replace hl : lv_has ls 2 [(0, .ref (X.1 0)), (1, .ref a1)] := hl
    unfold f_X8_pressHindranceOf at hf
    replace hf := ob_s hf
    refine lv_aload_n hx hb dX8_pressHindranceOf_0 rfl (lv_at hl 1 rfl) ?_
    obtain ⟨v1, hf⟩ := gd_e hf
    refine rg_X8_251 E hW v1 dX8_pressHindranceOf_1 ?_
    refine lv_if_eq (tgt := 9) hx hb dX8_pressHindranceOf_4 (by decide) (fun h2 => ?_) (fun h2 => ?_)
    · replace hf := ite_t h2 hf
      refine lv_aload_n hx hb dX8_pressHindranceOf_9 rfl (lv_at hl 1 rfl) ?_
      refine rg_X8_244 E hW v1 dX8_pressHindranceOf_10 ?_
      refine lv_if_ne (tgt := 18) hx hb dX8_pressHindranceOf_13 (by decide) (fun h3 => ?_) (fun h3 => ?_)
      · replace hf := ite_f h3 hf
        refine lv_aload_n hx hb dX8_pressHindranceOf_18 rfl (lv_at hl 1 rfl) ?_
        refine rg_X8_248 E hW v1 dX8_pressHindranceOf_19 ?_
        refine lv_if_ne (tgt := 27) hx hb dX8_pressHindranceOf_22 (by decide) (fun h4 => ?_) (fun h4 => ?_)
        · replace hf := ite_f h4 hf
          refine lv_aload_n hx hb dX8_pressHindranceOf_27 rfl (lv_at hl 0 rfl) ?_
          refine lv_aload_n hx hb dX8_pressHindranceOf_28 rfl (lv_at hl 1 rfl) ?_
          obtain ⟨r5, hc, hf⟩ := b1_e hf
          refine callVI (As := [va_rf (some _)]) (rest := []) E hW (c_X8_hasDangerOn l hc) lk_X8_298 rcv_X8 (Nat.le_of_ble_eq_true rfl) (Nat.le_of_ble_eq_true rfl) (Nat.le_of_ble_eq_true rfl) (Nat.le_of_ble_eq_true rfl) hl.1 (Nat.le_of_ble_eq_true rfl) dX8_pressHindranceOf_29 (fun H locs hW => ?_)
          refine lv_if_eq (tgt := 39) hx hb dX8_pressHindranceOf_32 (by decide) (fun h6 => ?_) (fun h6 => ?_)
          · replace hf := ite_t h6 hf
            refine lv_iconst (v := (0 : Int32)) hx hb dX8_pressHindranceOf_39 (by decide) ?_
            exact retI E hW ⟨Option.some.inj hf, rfl⟩ dX8_pressHindranceOf_40
          · replace hf := ite_f h6 hf
            refine lv_iconst (v := (4 : Int32)) hx hb dX8_pressHindranceOf_35 (by decide) ?_
            refine lv_goto (tgt := 40) hx hb dX8_pressHindranceOf_36 (by decide) ?_
            exact retI E hW ⟨Option.some.inj hf, rfl⟩ dX8_pressHindranceOf_40
        · replace hf := ite_t h4 hf
          refine lv_iconst (v := (3 : Int32)) hx hb dX8_pressHindranceOf_25 (by decide) ?_
          exact retI E hW ⟨Option.some.inj hf, rfl⟩ dX8_pressHindranceOf_26
      · replace hf := ite_t h3 hf
        refine lv_iconst (v := (2 : Int32)) hx hb dX8_pressHindranceOf_16 (by decide) ?_
        exact retI E hW ⟨Option.some.inj hf, rfl⟩ dX8_pressHindranceOf_17
    · replace hf := ite_f h2 hf
      refine lv_iconst (v := (1 : Int32)) hx hb dX8_pressHindranceOf_7 (by decide) ?_
      exact retI E hW ⟨Option.some.inj hf, rfl⟩ dX8_pressHindranceOf_8
def f_X8_press_25 : Nat → CS → Nat → Int32 → Int32 → Option ((Int32 ⊕ String) × CS)
  | 0, _, _, _, _ => none
  | n + 1, cs, v2, v4, v5 => gd (v2 ∈ cl cs ∧ ck cs v2 = 0) <| if (cp cs v2 3) ≤ v5 then ((f_X0_forget (cpU (cpU cs v2 5 (0 : Int32)) v2 8 (1 : Int32)) ).bind fun cs14 => some (.inl v4, cs14)) else ((f_X1_isOn cs v2 v5).bind fun r15 => if r15 = 0 then (f_X8_press_25 n cs v2 v4 (v5 + (1 : Int32))) else ((f_X8_weigh cs (cp cs v2 0) v5 (1 : Int32) (-1 : Int32)).bind fun cs17 => gd (v2 ∈ cl cs17 ∧ ck cs17 v2 = 0) <| (f_X8_weigh cs17 (cp cs17 v2 0) v5 (4 : Int32) (1 : Int32)).bind fun cs19 => gd (v2 ∈ cl cs19 ∧ ck cs19 v2 = 0) <| (f_X6_factOf cs19 (cp cs19 v2 0) v5 (4 : Int32)).bind fun r21 => f_X8_press_25 n cs19 v2 (v4 + r21) (v5 + (1 : Int32))))
def f_X8_press (cs : CS) (v1 : Int32) : Option ((Int32 ⊕ String) × CS) := bx (f_X8_carOf cs v1) fun b3 cs2 => ob b3 ((f_X8_pressHindranceOf cs2 none).bind fun r8 => if r8 = 0 then (none) else (some (.inl (-r8), cs2))) fun a7 => ((f_X8_pressHindranceOf cs2 (some a7)).bind fun r10 => if r10 = 0 then (f_X8_press_25 1000 cs2 a7 (0 : Int32) (0 : Int32)) else (some (.inl (-r10), cs2)))
def rm_X8_press : Room := { frames := 11, cells := 1, slots := 6, locals := 172 }
set_option maxHeartbeats 4000000 in
set_option maxRecDepth 100000 in
theorem w_X8_press_25 {p : Program} {l : Launch} {e : Env} {s : State} {m : MethodId} {args : Array Value} {below : List Frame} {meth : Method} {c : Code} {X : XT} {B : Nat} {ms : MS} {o : Nat → Int64} {r : Int32 ⊕ String} {S9 : CS} (E : Ev X B p s m args meth c RX8 cX8_press 6 (some .int)) (hl0 : l.stackTraces = false) (hxt : ∀ x ∈ c.exceptionTable.toList, False) : ∀ (n : Nat) (cs : CS) (v2 : Nat) (v4 : Int32) (v5 : Int32) (H : Heap) (locs : List Loc) (ls : Array Slot), f_X8_press_25 n cs v2 v4 v5 = some (r, S9) → Ws X B s.heap H locs (cs, ms, o) → lv_has ls 6 [(0, .ref (X.1 0)), (2, .ref v2), (4, .int v4), (5, .int v5)] → W p l e rm_X8_press s m args below meth c H locs 1 6 (vx_MQ below (QXI X B r (S9, ms, o)) (XCx X B r (S9, ms, o)) args s 1 6 (Ab B)) (F0 m 25 ls []) := by
  obtain ⟨hx, hb, hml, hown, hts, -⟩ := id E
  intro n
  induction n with
  | zero => intro cs v2 v4 v5 H locs ls hf; exact absurd hf nofun
  | succ n ih =>
    intro cs v2 v4 v5 H locs ls hf hW hl
    rw [f_X8_press_25] at hf
    refine lv_iload hx hb dX8_press_25 (lv_at hl 3 rfl) ?_
    refine lv_aload_n hx hb dX8_press_27 rfl (lv_at hl 1 rfl) ?_
    obtain ⟨v12, hf⟩ := gd_e hf
    refine rg_X8_265 E hW v12 dX8_press_28 ?_
    refine lv_icmp_ge (tgt := 92) hx hb dX8_press_31 (by decide) (fun h13 => ?_) (fun h13 => ?_)
    · replace hf := ite_t h13 hf
      refine lv_aload_n hx hb dX8_press_92 rfl (lv_at hl 1 rfl) ?_
      refine lv_iconst (v := (0 : Int32)) hx hb dX8_press_93 (by decide) ?_
      refine rp_X8_241 E hW v12 dX8_press_94 (fun H locs hW => ?_)
      refine lv_aload_n hx hb dX8_press_97 rfl (lv_at hl 1 rfl) ?_
      refine lv_iconst (v := (1 : Int32)) hx hb dX8_press_98 (by decide) ?_
      refine rp_X8_251 E hW v12 (Or.inr rfl) dX8_press_99 (fun H locs hW => ?_)
      refine lv_aload_n hx hb dX8_press_102 rfl (lv_at hl 0 rfl) ?_
      refine rg_X8_33 E hW dX8_press_103 ?_
      obtain ⟨cs14, hc, hf⟩ := b1_e hf
      refine callVV (As := []) (rest := []) E hW (c_X0_forget l hc) lk_X8_225 rcv_X0 (Nat.le_of_ble_eq_true rfl) (Nat.le_of_ble_eq_true rfl) (Nat.le_of_ble_eq_true rfl) (Nat.le_of_ble_eq_true rfl) hl.1 (Nat.le_of_ble_eq_true rfl) dX8_press_106 (fun H locs hW => ?_)
      refine lv_iload hx hb dX8_press_109 (lv_at hl 2 rfl) ?_
      exact vx_ret (retIX E hW (exC hf) dX8_press_111)
    · replace hf := ite_f h13 hf
      refine lv_aload_n hx hb dX8_press_34 rfl (lv_at hl 1 rfl) ?_
      refine lv_iload hx hb dX8_press_35 (lv_at hl 3 rfl) ?_
      obtain ⟨r15, hc, hf⟩ := b1_e hf
      refine callVI (As := [.int _]) (rest := []) E hW (c_X1_isOn l hc) lk_X8_270 (rcv_X1 v12) (Nat.le_of_ble_eq_true rfl) (Nat.le_of_ble_eq_true rfl) (Nat.le_of_ble_eq_true rfl) (Nat.le_of_ble_eq_true rfl) hl.1 (Nat.le_of_ble_eq_true rfl) dX8_press_37 (fun H locs hW => ?_)
      refine lv_if_eq (tgt := 86) hx hb dX8_press_40 (by decide) (fun h16 => ?_) (fun h16 => ?_)
      · replace hf := ite_t h16 hf
        refine lv_iinc (v := _ + (1 : Int32)) (lv' := [_, _, _, _]) hx hb dX8_press_86 hl (k := 3) rfl rfl (by decide) rfl (fun ls hl => ?_)
        refine lv_goto (tgt := 25) hx hb dX8_press_89 (by decide) ?_
        exact ih _ _ _ _ _ _ _ hf hW (lv_sub hl [1, 2, 3, 0] rfl)
      · replace hf := ite_f h16 hf
        refine lv_aload_n hx hb dX8_press_43 rfl (lv_at hl 0 rfl) ?_
        refine lv_aload_n hx hb dX8_press_44 rfl (lv_at hl 1 rfl) ?_
        refine rg_X8_232 E hW v12 dX8_press_45 ?_
        refine lv_iload hx hb dX8_press_48 (lv_at hl 3 rfl) ?_
        refine lv_iconst (v := (1 : Int32)) hx hb dX8_press_50 (by decide) ?_
        refine lv_iconst (v := (-1 : Int32)) hx hb dX8_press_51 (by decide) ?_
        obtain ⟨cs17, hc, hf⟩ := b1_e hf
        refine callVV (As := [.int _, .int _, .int _, .int _]) (rest := []) E hW (c_X8_weigh l hc) lk_X8_273 rcv_X8 (Nat.le_of_ble_eq_true rfl) (Nat.le_of_ble_eq_true rfl) (Nat.le_of_ble_eq_true rfl) (Nat.le_of_ble_eq_true rfl) hl.1 (Nat.le_of_ble_eq_true rfl) dX8_press_52 (fun H locs hW => ?_)
        refine lv_aload_n hx hb dX8_press_55 rfl (lv_at hl 0 rfl) ?_
        refine lv_aload_n hx hb dX8_press_56 rfl (lv_at hl 1 rfl) ?_
        obtain ⟨v18, hf⟩ := gd_e hf
        refine rg_X8_232 E hW v18 dX8_press_57 ?_
        refine lv_iload hx hb dX8_press_60 (lv_at hl 3 rfl) ?_
        refine lv_iconst (v := (4 : Int32)) hx hb dX8_press_62 (by decide) ?_
        refine lv_iconst (v := (1 : Int32)) hx hb dX8_press_63 (by decide) ?_
        obtain ⟨cs19, hc, hf⟩ := b1_e hf
        refine callVV (As := [.int _, .int _, .int _, .int _]) (rest := []) E hW (c_X8_weigh l hc) lk_X8_273 rcv_X8 (Nat.le_of_ble_eq_true rfl) (Nat.le_of_ble_eq_true rfl) (Nat.le_of_ble_eq_true rfl) (Nat.le_of_ble_eq_true rfl) hl.1 (Nat.le_of_ble_eq_true rfl) dX8_press_64 (fun H locs hW => ?_)
        refine lv_iload hx hb dX8_press_67 (lv_at hl 2 rfl) ?_
        refine lv_aload_n hx hb dX8_press_69 rfl (lv_at hl 0 rfl) ?_
        refine rg_X8_26 E hW dX8_press_70 ?_
        refine lv_aload_n hx hb dX8_press_73 rfl (lv_at hl 1 rfl) ?_
        obtain ⟨v20, hf⟩ := gd_e hf
        refine rg_X8_232 E hW v20 dX8_press_74 ?_
        refine lv_iload hx hb dX8_press_77 (lv_at hl 3 rfl) ?_
        refine lv_iconst (v := (4 : Int32)) hx hb dX8_press_79 (by decide) ?_
        obtain ⟨r21, hc, hf⟩ := b1_e hf
        refine callVI (As := [.int _, .int _, .int _]) (rest := [_]) E hW (c_X6_factOf l hc) lk_X8_174 rcv_X6 (Nat.le_of_ble_eq_true rfl) (Nat.le_of_ble_eq_true rfl) (Nat.le_of_ble_eq_true rfl) (Nat.le_of_ble_eq_true rfl) hl.1 (Nat.le_of_ble_eq_true rfl) dX8_press_80 (fun H locs hW => ?_)
        refine lv_iadd hx hb dX8_press_83 ?_
        refine lv_istore (lv' := [_, _, _, _]) hx hb dX8_press_84 hl (by decide) rfl (fun ls hl => ?_)
        refine lv_iinc (v := _ + (1 : Int32)) (lv' := [_, _, _, _]) hx hb dX8_press_86 hl (k := 3) rfl rfl (by decide) rfl (fun ls hl => ?_)
        refine lv_goto (tgt := 25) hx hb dX8_press_89 (by decide) ?_
        exact ih _ _ _ _ _ _ _ hf hW (lv_sub hl [2, 3, 1, 0] rfl)
set_option maxHeartbeats 4000000 in
set_option maxRecDepth 100000 in
theorem c_X8_press (l : Launch) (hl0 : l.stackTraces = false) {X : XT} {B : Nat} {cs : CS} {ms : MS} {o : Nat → Int64} {v1 : Int32} {r : Int32 ⊕ String} {S9 : CS} (hf : f_X8_press cs v1 = some (r, S9)) : vx_Met l yX8_press (.code yX8_press cX8_press 6 (some .int) :: BIG) rm_X8_press (Pre X B (cs, ms, o) [.ref (X.1 0), .int v1]) (QXI X B r (S9, ms, o)) (XCx X B r (S9, ms, o)) 1 6 (Ab B) := by
  refine xentry (by decide +kernel) rfl (Nat.le_of_ble_eq_true rfl) (fun p e s m below meth c ls E hxt hW hl => ?_)
  obtain ⟨hx, hb, hml, hown, hts, -⟩ := id E
  replace hl : lv_has ls 6 [(0, .ref (X.1 0)), (1, .int v1)] := hl
  unfold f_X8_press at hf
  refine lv_aload_n hx hb dX8_press_0 rfl (lv_at hl 0 rfl) ?_
  refine lv_iload_n hx hb dX8_press_1 rfl (lv_at hl 1 rfl) ?_
  obtain ⟨r1, cs2, hc, k4, e5⟩ := bx_e hf
  refine xcallVQ (As := [.int _]) (rest := []) E hW (c_X8_carOf l hl0 hc) lk_X8_228 rcv_X8 (Nat.le_of_ble_eq_true rfl) (Nat.le_of_ble_eq_true rfl) (Nat.le_of_ble_eq_true rfl) (Nat.le_of_ble_eq_true rfl) hl.1 (Nat.le_of_ble_eq_true rfl) dX8_press_2 hxt (by decide) (by decide) (fun z hz => by have q9 := e5 z hz; cases q9; exact ⟨rfl, rfl⟩) (fun b3 q6 H locs hW => ?_)
  replace hf := k4 b3 q6
  cases b3 with
  | none =>
    replace hf := ob_n hf
    refine lv_astore_nN (lv' := [_, _, _]) hx hb dX8_press_5 rfl hl (by decide) rfl (fun ls hl => ?_)
    refine lv_aload_n hx hb dX8_press_6 rfl (lv_at hl 1 rfl) ?_
    refine lv_aload_nN hx hb dX8_press_7 rfl (lv_at hl 0 rfl) ?_
    obtain ⟨r8, hc, hf⟩ := b1_e hf
    refine callVI (As := [va_rf none]) (rest := []) E hW (c_X8_pressHindranceOf l hc) lk_X8_291 rcv_X8 (Nat.le_of_ble_eq_true rfl) (Nat.le_of_ble_eq_true rfl) (Nat.le_of_ble_eq_true rfl) (Nat.le_of_ble_eq_true rfl) hl.1 (Nat.le_of_ble_eq_true rfl) dX8_press_8 (fun H locs hW => ?_)
    refine lv_istore_n (lv' := [_, _, _, _]) hx hb dX8_press_11 rfl hl (by decide) rfl (fun ls hl => ?_)
    refine lv_iload_n hx hb dX8_press_12 rfl (lv_at hl 0 rfl) ?_
    refine lv_if_eq (tgt := 19) hx hb dX8_press_13 (by decide) (fun h9 => ?_) (fun h9 => ?_)
    · replace hf := ite_t h9 hf
      refine lv_iconst (v := (0 : Int32)) hx hb dX8_press_19 (by decide) ?_
      refine lv_istore (lv' := [_, _, _, _, _]) hx hb dX8_press_20 hl (by decide) rfl (fun ls hl => ?_)
      refine lv_iconst (v := (0 : Int32)) hx hb dX8_press_22 (by decide) ?_
      refine lv_istore (lv' := [_, _, _, _, _, _]) hx hb dX8_press_23 hl (by decide) rfl (fun ls hl => ?_)
      exact absurd hf nofun
    · replace hf := ite_f h9 hf
      refine lv_iload_n hx hb dX8_press_16 rfl (lv_at hl 0 rfl) ?_
      refine lv_ineg hx hb dX8_press_17 ?_
      exact vx_ret (retIX E hW (exC hf) dX8_press_18)
  | some a7 =>
    replace hf := ob_s hf
    refine lv_astore_n (lv' := [_, _, _]) hx hb dX8_press_5 rfl hl (by decide) rfl (fun ls hl => ?_)
    refine lv_aload_n hx hb dX8_press_6 rfl (lv_at hl 1 rfl) ?_
    refine lv_aload_n hx hb dX8_press_7 rfl (lv_at hl 0 rfl) ?_
    obtain ⟨r10, hc, hf⟩ := b1_e hf
    refine callVI (As := [va_rf (some _)]) (rest := []) E hW (c_X8_pressHindranceOf l hc) lk_X8_291 rcv_X8 (Nat.le_of_ble_eq_true rfl) (Nat.le_of_ble_eq_true rfl) (Nat.le_of_ble_eq_true rfl) (Nat.le_of_ble_eq_true rfl) hl.1 (Nat.le_of_ble_eq_true rfl) dX8_press_8 (fun H locs hW => ?_)
    refine lv_istore_n (lv' := [_, _, _, _]) hx hb dX8_press_11 rfl hl (by decide) rfl (fun ls hl => ?_)
    refine lv_iload_n hx hb dX8_press_12 rfl (lv_at hl 0 rfl) ?_
    refine lv_if_eq (tgt := 19) hx hb dX8_press_13 (by decide) (fun h11 => ?_) (fun h11 => ?_)
    · replace hf := ite_t h11 hf
      refine lv_iconst (v := (0 : Int32)) hx hb dX8_press_19 (by decide) ?_
      refine lv_istore (lv' := [_, _, _, _, _]) hx hb dX8_press_20 hl (by decide) rfl (fun ls hl => ?_)
      refine lv_iconst (v := (0 : Int32)) hx hb dX8_press_22 (by decide) ?_
      refine lv_istore (lv' := [_, _, _, _, _, _]) hx hb dX8_press_23 hl (by decide) rfl (fun ls hl => ?_)
      exact w_X8_press_25 E hl0 hxt 1000 _ _ _ _ _ _ _ hf hW (lv_sub hl [4, 3, 1, 0] rfl)
    · replace hf := ite_f h11 hf
      refine lv_iload_n hx hb dX8_press_16 rfl (lv_at hl 0 rfl) ?_
      refine lv_ineg hx hb dX8_press_17 ?_
      exact vx_ret (retIX E hW (exC hf) dX8_press_18)
def f_X8_day (cs : CS) (v1 : Int32) : Option ((Int32 ⊕ String) × CS) := if v1 < 0 then (some (.inr "java/lang/IllegalArgumentException", cs)) else (if v1 ≤ (10000 : Int32) then (if ((ci cs 3) + v1) ≤ (1000000 : Int32) then (if v1 ≤ 0 then (some (.inl (ci cs 3), cs)) else ((f_X0_forget (ciU cs 3 ((ci cs 3) + v1)) ).bind fun cs5 => some (.inl (ci cs5 3), cs5))) else (some (.inr "java/lang/IllegalStateException", cs))) else (some (.inr "java/lang/IllegalArgumentException", cs)))
def rm_X8_day : Room := { frames := 10, cells := 1, slots := 6, locals := 150 }
set_option maxHeartbeats 4000000 in
set_option maxRecDepth 100000 in
theorem c_X8_day (l : Launch) (hl0 : l.stackTraces = false) {X : XT} {B : Nat} {cs : CS} {ms : MS} {o : Nat → Int64} {v1 : Int32} {r : Int32 ⊕ String} {S9 : CS} (hf : f_X8_day cs v1 = some (r, S9)) : vx_Met l yX8_day (.code yX8_day cX8_day 2 (some .int) :: BIG) rm_X8_day (Pre X B (cs, ms, o) [.ref (X.1 0), .int v1]) (QXI X B r (S9, ms, o)) (XCx X B r (S9, ms, o)) 1 6 (Ab B) := by
  refine xentry (by decide +kernel) rfl (Nat.le_of_ble_eq_true rfl) (fun p e s m below meth c ls E hxt hW hl => ?_)
  obtain ⟨hx, hb, hml, hown, hts, -⟩ := id E
  replace hl : lv_has ls 2 [(0, .ref (X.1 0)), (1, .int v1)] := hl
  unfold f_X8_day at hf
  refine lv_iload_n hx hb dX8_day_0 rfl (lv_at hl 1 rfl) ?_
  refine lv_if_lt (tgt := 11) hx hb dX8_day_1 (by decide) (fun h1 => ?_) (fun h1 => ?_)
  · replace hf := ite_t h1 hf
    exact throwSW E hl0 hxt hW th_X8_84_302_88 dX8_day_11 dX8_day_14 dX8_day_15 dX8_day_18 dX8_day_21 (etC hf) (Nat.le_of_ble_eq_true rfl) (Nat.le_of_ble_eq_true rfl) (Nat.le_of_ble_eq_true rfl) (Nat.le_of_ble_eq_true rfl) (Nat.le_of_ble_eq_true rfl) (by decide) (by decide) (hl.1.trans hml.symm)
  · replace hf := ite_f h1 hf
    refine lv_iload_n hx hb dX8_day_4 rfl (lv_at hl 1 rfl) ?_
    refine lv_sipush (v := (10000 : Int32)) hx hb dX8_day_5 (by decide) ?_
    refine lv_icmp_le (tgt := 22) hx hb dX8_day_8 (by decide) (fun h2 => ?_) (fun h2 => ?_)
    · replace hf := ite_t h2 hf
      refine lv_aload_n hx hb dX8_day_22 rfl (lv_at hl 0 rfl) ?_
      refine rg_X8_73 E hW dX8_day_23 ?_
      refine lv_iload_n hx hb dX8_day_26 rfl (lv_at hl 1 rfl) ?_
      refine lv_iadd hx hb dX8_day_27 ?_
      refine lv_ldcw (own := RX8) (v := (1000000 : Int32)) hx hb hown (hts _ kc_X8_304) dX8_day_28 ?_
      refine lv_icmp_le (tgt := 45) hx hb dX8_day_31 (by decide) (fun h3 => ?_) (fun h3 => ?_)
      · replace hf := ite_t h3 hf
        refine lv_iload_n hx hb dX8_day_45 rfl (lv_at hl 1 rfl) ?_
        refine lv_if_le (tgt := 66) hx hb dX8_day_46 (by decide) (fun h4 => ?_) (fun h4 => ?_)
        · replace hf := ite_t h4 hf
          refine lv_aload_n hx hb dX8_day_66 rfl (lv_at hl 0 rfl) ?_
          refine rg_X8_73 E hW dX8_day_67 ?_
          refine W.widen (k := 1) (n := 6) (by decide) (by decide) ?_
          exact vx_ret (retIX E hW (exC hf) dX8_day_70)
        · replace hf := ite_f h4 hf
          refine lv_aload_n hx hb dX8_day_49 rfl (lv_at hl 0 rfl) ?_
          refine lv_dup hx hb dX8_day_50 rfl ?_
          refine rg_X8_73 E hW dX8_day_51 ?_
          refine lv_iload_n hx hb dX8_day_54 rfl (lv_at hl 1 rfl) ?_
          refine lv_iadd hx hb dX8_day_55 ?_
          refine rp_X8_73 E hW dX8_day_56 (fun H locs hW => ?_)
          refine lv_aload_n hx hb dX8_day_59 rfl (lv_at hl 0 rfl) ?_
          refine rg_X8_33 E hW dX8_day_60 ?_
          obtain ⟨cs5, hc, hf⟩ := b1_e hf
          refine callVV (As := []) (rest := []) E hW (c_X0_forget l hc) lk_X8_225 rcv_X0 (Nat.le_of_ble_eq_true rfl) (Nat.le_of_ble_eq_true rfl) (Nat.le_of_ble_eq_true rfl) (Nat.le_of_ble_eq_true rfl) hl.1 (Nat.le_of_ble_eq_true rfl) dX8_day_63 (fun H locs hW => ?_)
          refine lv_aload_n hx hb dX8_day_66 rfl (lv_at hl 0 rfl) ?_
          refine rg_X8_73 E hW dX8_day_67 ?_
          refine W.widen (k := 1) (n := 6) (by decide) (by decide) ?_
          exact vx_ret (retIX E hW (exC hf) dX8_day_70)
      · replace hf := ite_f h3 hf
        exact throwSW E hl0 hxt hW th_X8_95_305_99 dX8_day_34 dX8_day_37 dX8_day_38 dX8_day_41 dX8_day_44 (etC hf) (Nat.le_of_ble_eq_true rfl) (Nat.le_of_ble_eq_true rfl) (Nat.le_of_ble_eq_true rfl) (Nat.le_of_ble_eq_true rfl) (Nat.le_of_ble_eq_true rfl) (by decide) (by decide) (hl.1.trans hml.symm)
    · replace hf := ite_f h2 hf
      exact throwSW E hl0 hxt hW th_X8_84_302_88 dX8_day_11 dX8_day_14 dX8_day_15 dX8_day_18 dX8_day_21 (etC hf) (Nat.le_of_ble_eq_true rfl) (Nat.le_of_ble_eq_true rfl) (Nat.le_of_ble_eq_true rfl) (Nat.le_of_ble_eq_true rfl) (Nat.le_of_ble_eq_true rfl) (by decide) (by decide) (hl.1.trans hml.symm)
def f_X8_isLate (cs : CS) (v1 : Option Nat) (v2 : Int32) : Option (Int32) := ob v1 (some (0 : Int32)) fun a1 => (gd (a1 ∈ cl cs ∧ ck cs a1 = 0) <| if v2 = 0 then (if (cp cs a1 6) = 0 then (if ((ci cs 3) - (cp cs a1 4)) < (5 : Int32) then (some (0 : Int32)) else (some (1 : Int32))) else (some (0 : Int32))) else (if (cp cs a1 8) = 0 then (if ((ci cs 3) - (cp cs a1 4)) < (90 : Int32) then (some (0 : Int32)) else (some (1 : Int32))) else (some (0 : Int32))))
def rm_X8_isLate : Room := { frames := 0, cells := 0, slots := 0, locals := 0 }
set_option maxHeartbeats 4000000 in
set_option maxRecDepth 100000 in
theorem c_X8_isLate (l : Launch) {X : XT} {B : Nat} {cs : CS} {ms : MS} {o : Nat → Int64} {v1 : Option Nat} {v2 : Int32} {r : Int32} (hf : f_X8_isLate cs v1 v2 = some r) : Met l yX8_isLate (.code yX8_isLate cX8_isLate 4 (some .boolean) :: BIG) rm_X8_isLate (Pre X B (cs, ms, o) [.ref (X.1 0), va_rf v1, .int v2]) (QI X B r (cs, ms, o)) 0 0 (Ab B) := by
  cases v1 with
  | none =>
    refine entry (by decide +kernel) rfl (Nat.le_of_ble_eq_true rfl) (fun p e s m below meth c ls E hW hl => ?_)
    obtain ⟨hx, hb, hml, hown, hts, -⟩ := id E
    replace hl : lv_has ls 4 [(0, .ref (X.1 0)), (1, .null), (2, .int v2)] := hl
    unfold f_X8_isLate at hf
    replace hf := ob_n hf
    refine lv_aload_nN hx hb dX8_isLate_0 rfl (lv_at hl 1 rfl) ?_
    refine lv_ifnonnullN hx hb dX8_isLate_1 ?_
    refine lv_iconst (v := (0 : Int32)) hx hb dX8_isLate_4 (by decide) ?_
    exact retZ E hW (Or.inl rfl) ⟨Option.some.inj hf, rfl⟩ dX8_isLate_5
  | some a1 =>
    refine entry (by decide +kernel) rfl (Nat.le_of_ble_eq_true rfl) (fun p e s m below meth c ls E hW hl => ?_)
    obtain ⟨hx, hb, hml, hown, hts, -⟩ := id E
    replace hl : lv_has ls 4 [(0, .ref (X.1 0)), (1, .ref a1), (2, .int v2)] := hl
    unfold f_X8_isLate at hf
    replace hf := ob_s hf
    refine lv_aload_n hx hb dX8_isLate_0 rfl (lv_at hl 1 rfl) ?_
    refine lv_ifnonnull (tgt := 6) hx hb dX8_isLate_1 (by decide) ?_
    refine lv_aload_n hx hb dX8_isLate_6 rfl (lv_at hl 0 rfl) ?_
    refine rg_X8_73 E hW dX8_isLate_7 ?_
    refine lv_aload_n hx hb dX8_isLate_10 rfl (lv_at hl 1 rfl) ?_
    obtain ⟨v1, hf⟩ := gd_e hf
    refine rg_X8_254 E hW v1 dX8_isLate_11 ?_
    refine lv_isub hx hb dX8_isLate_14 ?_
    refine lv_istore_n (lv' := [_, _, _, _]) hx hb dX8_isLate_15 rfl hl (by decide) rfl (fun ls hl => ?_)
    refine lv_iload_n hx hb dX8_isLate_16 rfl (lv_at hl 3 rfl) ?_
    refine lv_if_ne (tgt := 40) hx hb dX8_isLate_17 (by decide) (fun h2 => ?_) (fun h2 => ?_)
    · replace hf := ite_f h2 hf
      refine lv_aload_n hx hb dX8_isLate_40 rfl (lv_at hl 2 rfl) ?_
      refine rg_X8_251 E hW v1 dX8_isLate_41 ?_
      refine lv_if_ne (tgt := 57) hx hb dX8_isLate_44 (by decide) (fun h3 => ?_) (fun h3 => ?_)
      · replace hf := ite_f h3 hf
        refine lv_iconst (v := (0 : Int32)) hx hb dX8_isLate_57 (by decide) ?_
        exact retZ E hW (Or.inl rfl) ⟨Option.some.inj hf, rfl⟩ dX8_isLate_58
      · replace hf := ite_t h3 hf
        refine lv_iload_n hx hb dX8_isLate_47 rfl (lv_at hl 0 rfl) ?_
        refine lv_bipush (v := (90 : Int32)) hx hb dX8_isLate_48 (by decide) ?_
        refine lv_icmp_lt (tgt := 57) hx hb dX8_isLate_50 (by decide) (fun h4 => ?_) (fun h4 => ?_)
        · replace hf := ite_t h4 hf
          refine lv_iconst (v := (0 : Int32)) hx hb dX8_isLate_57 (by decide) ?_
          exact retZ E hW (Or.inl rfl) ⟨Option.some.inj hf, rfl⟩ dX8_isLate_58
        · replace hf := ite_f h4 hf
          refine lv_iconst (v := (1 : Int32)) hx hb dX8_isLate_53 (by decide) ?_
          refine lv_goto (tgt := 58) hx hb dX8_isLate_54 (by decide) ?_
          exact retZ E hW (Or.inr rfl) ⟨Option.some.inj hf, rfl⟩ dX8_isLate_58
    · replace hf := ite_t h2 hf
      refine lv_aload_n hx hb dX8_isLate_20 rfl (lv_at hl 2 rfl) ?_
      refine rg_X8_244 E hW v1 dX8_isLate_21 ?_
      refine lv_if_ne (tgt := 36) hx hb dX8_isLate_24 (by decide) (fun h5 => ?_) (fun h5 => ?_)
      · replace hf := ite_f h5 hf
        refine lv_iconst (v := (0 : Int32)) hx hb dX8_isLate_36 (by decide) ?_
        refine lv_goto (tgt := 58) hx hb dX8_isLate_37 (by decide) ?_
        exact retZ E hW (Or.inl rfl) ⟨Option.some.inj hf, rfl⟩ dX8_isLate_58
      · replace hf := ite_t h5 hf
        refine lv_iload_n hx hb dX8_isLate_27 rfl (lv_at hl 0 rfl) ?_
        refine lv_iconst (v := (5 : Int32)) hx hb dX8_isLate_28 (by decide) ?_
        refine lv_icmp_lt (tgt := 36) hx hb dX8_isLate_29 (by decide) (fun h6 => ?_) (fun h6 => ?_)
        · replace hf := ite_t h6 hf
          refine lv_iconst (v := (0 : Int32)) hx hb dX8_isLate_36 (by decide) ?_
          refine lv_goto (tgt := 58) hx hb dX8_isLate_37 (by decide) ?_
          exact retZ E hW (Or.inl rfl) ⟨Option.some.inj hf, rfl⟩ dX8_isLate_58
        · replace hf := ite_f h6 hf
          refine lv_iconst (v := (1 : Int32)) hx hb dX8_isLate_32 (by decide) ?_
          refine lv_goto (tgt := 58) hx hb dX8_isLate_33 (by decide) ?_
          exact retZ E hW (Or.inr rfl) ⟨Option.some.inj hf, rfl⟩ dX8_isLate_58
def f_X8_late_24 : Nat → CS → Int32 → Int32 → Int32 → Int32 → Option ((Int32 ⊕ String) × CS)
  | 0, _, _, _, _, _ => none
  | n + 1, cs, v1, v2, v3, v4 => if (ci cs 0) ≤ v4 then (some (.inl (-1 : Int32), cs)) else ((f_X8_carAt cs v4).bind fun r3 => ob r3 ((f_X8_isLate cs none v1).bind fun r5 => if r5 = 0 then (f_X8_late_24 n cs v1 v2 v3 (v4 + (1 : Int32))) else (if v3 = v2 then (some (.inl v4, cs)) else (f_X8_late_24 n cs v1 v2 (v3 + (1 : Int32)) (v4 + (1 : Int32))))) fun a4 => ((f_X8_isLate cs (some a4) v1).bind fun r8 => if r8 = 0 then (f_X8_late_24 n cs v1 v2 v3 (v4 + (1 : Int32))) else (if v3 = v2 then (some (.inl v4, cs)) else (f_X8_late_24 n cs v1 v2 (v3 + (1 : Int32)) (v4 + (1 : Int32))))))
def f_X8_late (cs : CS) (v1 : Int32) (v2 : Int32) : Option ((Int32 ⊕ String) × CS) := if v1 = 0 then (f_X8_late_24 1000 cs v1 v2 (0 : Int32) (0 : Int32)) else (if v1 = (1 : Int32) then (f_X8_late_24 1000 cs v1 v2 (0 : Int32) (0 : Int32)) else (some (.inr "java/lang/IllegalArgumentException", cs)))
def rm_X8_late : Room := { frames := 10, cells := 1, slots := 6, locals := 150 }
set_option maxHeartbeats 4000000 in
set_option maxRecDepth 100000 in
theorem w_X8_late_24 {p : Program} {l : Launch} {e : Env} {s : State} {m : MethodId} {args : Array Value} {below : List Frame} {meth : Method} {c : Code} {X : XT} {B : Nat} {ms : MS} {o : Nat → Int64} {r : Int32 ⊕ String} {S9 : CS} (E : Ev X B p s m args meth c RX8 cX8_late 5 (some .int)) (hl0 : l.stackTraces = false) (hxt : ∀ x ∈ c.exceptionTable.toList, False) : ∀ (n : Nat) (cs : CS) (v1 : Int32) (v2 : Int32) (v3 : Int32) (v4 : Int32) (H : Heap) (locs : List Loc) (ls : Array Slot), f_X8_late_24 n cs v1 v2 v3 v4 = some (r, S9) → Ws X B s.heap H locs (cs, ms, o) → lv_has ls 5 [(0, .ref (X.1 0)), (1, .int v1), (2, .int v2), (3, .int v3), (4, .int v4)] → W p l e rm_X8_late s m args below meth c H locs 0 0 (vx_MQ below (QXI X B r (S9, ms, o)) (XCx X B r (S9, ms, o)) args s 1 6 (Ab B)) (F0 m 24 ls []) := by
  obtain ⟨hx, hb, hml, hown, hts, -⟩ := id E
  intro n
  induction n with
  | zero => intro cs v1 v2 v3 v4 H locs ls hf; exact absurd hf nofun
  | succ n ih =>
    intro cs v1 v2 v3 v4 H locs ls hf hW hl
    rw [f_X8_late_24] at hf
    refine lv_iload hx hb dX8_late_24 (lv_at hl 4 rfl) ?_
    refine lv_aload_n hx hb dX8_late_26 rfl (lv_at hl 0 rfl) ?_
    refine rg_X8_63 E hW dX8_late_27 ?_
    refine lv_icmp_ge (tgt := 64) hx hb dX8_late_30 (by decide) (fun h2 => ?_) (fun h2 => ?_)
    · replace hf := ite_t h2 hf
      refine lv_iconst (v := (-1 : Int32)) hx hb dX8_late_64 (by decide) ?_
      refine W.widen (k := 1) (n := 6) (by decide) (by decide) ?_
      exact vx_ret (retIX E hW (exC hf) dX8_late_65)
    · replace hf := ite_f h2 hf
      refine lv_aload_n hx hb dX8_late_33 rfl (lv_at hl 0 rfl) ?_
      refine lv_aload_n hx hb dX8_late_34 rfl (lv_at hl 0 rfl) ?_
      refine lv_iload hx hb dX8_late_35 (lv_at hl 4 rfl) ?_
      obtain ⟨r3, hc, hf⟩ := b1_e hf
      refine callVQ (As := [.int _]) (rest := [_]) E hW (c_X8_carAt l hc) lk_X8_260 rcv_X8 (Nat.le_of_ble_eq_true rfl) (Nat.le_of_ble_eq_true rfl) (Nat.le_of_ble_eq_true rfl) (Nat.le_of_ble_eq_true rfl) hl.1 (Nat.le_of_ble_eq_true rfl) dX8_late_37 (fun H locs hW => ?_)
      cases r3 with
      | none =>
        replace hf := ob_n hf
        refine lv_iload_n hx hb dX8_late_40 rfl (lv_at hl 1 rfl) ?_
        obtain ⟨r5, hc, hf⟩ := b1_e hf
        refine callVI (As := [va_rf none, .int _]) (rest := []) E hW (c_X8_isLate l hc) lk_X8_307 rcv_X8 (Nat.le_of_ble_eq_true rfl) (Nat.le_of_ble_eq_true rfl) (Nat.le_of_ble_eq_true rfl) (Nat.le_of_ble_eq_true rfl) hl.1 (Nat.le_of_ble_eq_true rfl) dX8_late_41 (fun H locs hW => ?_)
        refine lv_if_eq (tgt := 58) hx hb dX8_late_44 (by decide) (fun h6 => ?_) (fun h6 => ?_)
        · replace hf := ite_t h6 hf
          refine lv_iinc (v := _ + (1 : Int32)) (lv' := [_, _, _, _, _]) hx hb dX8_late_58 hl (k := 4) rfl rfl (by decide) rfl (fun ls hl => ?_)
          refine lv_goto (tgt := 24) hx hb dX8_late_61 (by decide) ?_
          exact ih _ _ _ _ _ _ _ _ hf hW (lv_sub hl [1, 2, 3, 4, 0] rfl)
        · replace hf := ite_f h6 hf
          refine lv_iload_n hx hb dX8_late_47 rfl (lv_at hl 3 rfl) ?_
          refine lv_iload_n hx hb dX8_late_48 rfl (lv_at hl 2 rfl) ?_
          refine lv_icmp_ne (tgt := 55) hx hb dX8_late_49 (by decide) (fun h7 => ?_) (fun h7 => ?_)
          · replace hf := ite_f h7 hf
            refine lv_iinc (v := _ + (1 : Int32)) (lv' := [_, _, _, _, _]) hx hb dX8_late_55 hl (k := 3) rfl rfl (by decide) rfl (fun ls hl => ?_)
            refine lv_iinc (v := _ + (1 : Int32)) (lv' := [_, _, _, _, _]) hx hb dX8_late_58 hl (k := 4) rfl rfl (by decide) rfl (fun ls hl => ?_)
            refine lv_goto (tgt := 24) hx hb dX8_late_61 (by decide) ?_
            exact ih _ _ _ _ _ _ _ _ hf hW (lv_sub hl [2, 3, 4, 1, 0] rfl)
          · replace hf := ite_t h7 hf
            refine lv_iload hx hb dX8_late_52 (lv_at hl 4 rfl) ?_
            refine W.widen (k := 1) (n := 6) (by decide) (by decide) ?_
            exact vx_ret (retIX E hW (exC hf) dX8_late_54)
      | some a4 =>
        replace hf := ob_s hf
        refine lv_iload_n hx hb dX8_late_40 rfl (lv_at hl 1 rfl) ?_
        obtain ⟨r8, hc, hf⟩ := b1_e hf
        refine callVI (As := [va_rf (some _), .int _]) (rest := []) E hW (c_X8_isLate l hc) lk_X8_307 rcv_X8 (Nat.le_of_ble_eq_true rfl) (Nat.le_of_ble_eq_true rfl) (Nat.le_of_ble_eq_true rfl) (Nat.le_of_ble_eq_true rfl) hl.1 (Nat.le_of_ble_eq_true rfl) dX8_late_41 (fun H locs hW => ?_)
        refine lv_if_eq (tgt := 58) hx hb dX8_late_44 (by decide) (fun h9 => ?_) (fun h9 => ?_)
        · replace hf := ite_t h9 hf
          refine lv_iinc (v := _ + (1 : Int32)) (lv' := [_, _, _, _, _]) hx hb dX8_late_58 hl (k := 4) rfl rfl (by decide) rfl (fun ls hl => ?_)
          refine lv_goto (tgt := 24) hx hb dX8_late_61 (by decide) ?_
          exact ih _ _ _ _ _ _ _ _ hf hW (lv_sub hl [1, 2, 3, 4, 0] rfl)
        · replace hf := ite_f h9 hf
          refine lv_iload_n hx hb dX8_late_47 rfl (lv_at hl 3 rfl) ?_
          refine lv_iload_n hx hb dX8_late_48 rfl (lv_at hl 2 rfl) ?_
          refine lv_icmp_ne (tgt := 55) hx hb dX8_late_49 (by decide) (fun h10 => ?_) (fun h10 => ?_)
          · replace hf := ite_f h10 hf
            refine lv_iinc (v := _ + (1 : Int32)) (lv' := [_, _, _, _, _]) hx hb dX8_late_55 hl (k := 3) rfl rfl (by decide) rfl (fun ls hl => ?_)
            refine lv_iinc (v := _ + (1 : Int32)) (lv' := [_, _, _, _, _]) hx hb dX8_late_58 hl (k := 4) rfl rfl (by decide) rfl (fun ls hl => ?_)
            refine lv_goto (tgt := 24) hx hb dX8_late_61 (by decide) ?_
            exact ih _ _ _ _ _ _ _ _ hf hW (lv_sub hl [2, 3, 4, 1, 0] rfl)
          · replace hf := ite_t h10 hf
            refine lv_iload hx hb dX8_late_52 (lv_at hl 4 rfl) ?_
            refine W.widen (k := 1) (n := 6) (by decide) (by decide) ?_
            exact vx_ret (retIX E hW (exC hf) dX8_late_54)
set_option maxHeartbeats 4000000 in
set_option maxRecDepth 100000 in
theorem c_X8_late (l : Launch) (hl0 : l.stackTraces = false) {X : XT} {B : Nat} {cs : CS} {ms : MS} {o : Nat → Int64} {v1 : Int32} {v2 : Int32} {r : Int32 ⊕ String} {S9 : CS} (hf : f_X8_late cs v1 v2 = some (r, S9)) : vx_Met l yX8_late (.code yX8_late cX8_late 5 (some .int) :: BIG) rm_X8_late (Pre X B (cs, ms, o) [.ref (X.1 0), .int v1, .int v2]) (QXI X B r (S9, ms, o)) (XCx X B r (S9, ms, o)) 1 6 (Ab B) := by
  refine xentry (by decide +kernel) rfl (Nat.le_of_ble_eq_true rfl) (fun p e s m below meth c ls E hxt hW hl => ?_)
  obtain ⟨hx, hb, hml, hown, hts, -⟩ := id E
  replace hl : lv_has ls 5 [(0, .ref (X.1 0)), (1, .int v1), (2, .int v2)] := hl
  unfold f_X8_late at hf
  refine lv_iload_n hx hb dX8_late_0 rfl (lv_at hl 1 rfl) ?_
  refine lv_if_eq (tgt := 19) hx hb dX8_late_1 (by decide) (fun h1 => ?_) (fun h1 => ?_)
  · replace hf := ite_t h1 hf
    refine lv_iconst (v := (0 : Int32)) hx hb dX8_late_19 (by decide) ?_
    refine lv_istore_n (lv' := [_, _, _, _]) hx hb dX8_late_20 rfl hl (by decide) rfl (fun ls hl => ?_)
    refine lv_iconst (v := (0 : Int32)) hx hb dX8_late_21 (by decide) ?_
    refine lv_istore (lv' := [_, _, _, _, _]) hx hb dX8_late_22 hl (by decide) rfl (fun ls hl => ?_)
    exact w_X8_late_24 E hl0 hxt 1000 _ _ _ _ _ _ _ _ hf hW (lv_sub hl [2, 3, 4, 1, 0] rfl)
  · replace hf := ite_f h1 hf
    refine lv_iload_n hx hb dX8_late_4 rfl (lv_at hl 1 rfl) ?_
    refine lv_iconst (v := (1 : Int32)) hx hb dX8_late_5 (by decide) ?_
    refine lv_icmp_eq (tgt := 19) hx hb dX8_late_6 (by decide) (fun h11 => ?_) (fun h11 => ?_)
    · replace hf := ite_t h11 hf
      refine lv_iconst (v := (0 : Int32)) hx hb dX8_late_19 (by decide) ?_
      refine lv_istore_n (lv' := [_, _, _, _]) hx hb dX8_late_20 rfl hl (by decide) rfl (fun ls hl => ?_)
      refine lv_iconst (v := (0 : Int32)) hx hb dX8_late_21 (by decide) ?_
      refine lv_istore (lv' := [_, _, _, _, _]) hx hb dX8_late_22 hl (by decide) rfl (fun ls hl => ?_)
      exact w_X8_late_24 E hl0 hxt 1000 _ _ _ _ _ _ _ _ hf hW (lv_sub hl [2, 3, 4, 1, 0] rfl)
    · replace hf := ite_f h11 hf
      exact throwS E hl0 hxt hW th_X8_84_172_88 dX8_late_9 dX8_late_12 dX8_late_13 dX8_late_15 dX8_late_18 (etC hf) (Nat.le_of_ble_eq_true rfl) (Nat.le_of_ble_eq_true rfl) (Nat.le_of_ble_eq_true rfl) (Nat.le_of_ble_eq_true rfl) (Nat.le_of_ble_eq_true rfl) (by decide) (by decide) (hl.1.trans hml.symm)
def f_X8_itemAt (cs : CS) (v1 : Int32) : Option (Option Nat) := if v1 < 0 then (some none) else (if (ci cs 1) ≤ v1 then (some none) else (if (400 : Int32) ≤ v1 then (some none) else ((ldQ (cg cs 9) 400 v1).bind fun r5 => ob r5 (some none) fun a6 => (some (some a6)))))
def rm_X8_itemAt : Room := { frames := 0, cells := 0, slots := 0, locals := 0 }
set_option maxHeartbeats 4000000 in
set_option maxRecDepth 100000 in
theorem c_X8_itemAt (l : Launch) {X : XT} {B : Nat} {cs : CS} {ms : MS} {o : Nat → Int64} {v1 : Int32} {r : Option Nat} (hf : f_X8_itemAt cs v1 = some r) : Met l yX8_itemAt (.code yX8_itemAt cX8_itemAt 2 (some (.object "BreakersYard$Item")) :: BIG) rm_X8_itemAt (Pre X B (cs, ms, o) [.ref (X.1 0), .int v1]) (QQ X B r (cs, ms, o)) 0 0 (Ab B) := by
  refine entry (by decide +kernel) rfl (Nat.le_of_ble_eq_true rfl) (fun p e s m below meth c ls E hW hl => ?_)
  obtain ⟨hx, hb, hml, hown, hts, -⟩ := id E
  replace hl : lv_has ls 2 [(0, .ref (X.1 0)), (1, .int v1)] := hl
  unfold f_X8_itemAt at hf
  refine lv_iload_n hx hb dX8_itemAt_0 rfl (lv_at hl 1 rfl) ?_
  refine lv_if_lt (tgt := 30) hx hb dX8_itemAt_1 (by decide) (fun h1 => ?_) (fun h1 => ?_)
  · replace hf := ite_t h1 hf
    refine lv_null hx hb dX8_itemAt_30 ?_
    exact retQ (v := none) E hW ⟨Option.some.inj hf, rfl⟩ dX8_itemAt_31
  · replace hf := ite_f h1 hf
    refine lv_iload_n hx hb dX8_itemAt_4 rfl (lv_at hl 1 rfl) ?_
    refine lv_aload_n hx hb dX8_itemAt_5 rfl (lv_at hl 0 rfl) ?_
    refine rg_X8_67 E hW dX8_itemAt_6 ?_
    refine lv_icmp_ge (tgt := 30) hx hb dX8_itemAt_9 (by decide) (fun h2 => ?_) (fun h2 => ?_)
    · replace hf := ite_t h2 hf
      refine lv_null hx hb dX8_itemAt_30 ?_
      exact retQ (v := none) E hW ⟨Option.some.inj hf, rfl⟩ dX8_itemAt_31
    · replace hf := ite_f h2 hf
      refine lv_iload_n hx hb dX8_itemAt_12 rfl (lv_at hl 1 rfl) ?_
      refine lv_aload_n hx hb dX8_itemAt_13 rfl (lv_at hl 0 rfl) ?_
      refine rg_X8_52 E hW dX8_itemAt_14 ?_
      refine rl_9 E hW dX8_itemAt_17 ?_
      refine lv_icmp_ge (tgt := 30) hx hb dX8_itemAt_18 (by decide) (fun h3 => ?_) (fun h3 => ?_)
      · replace hf := ite_t h3 hf
        refine lv_null hx hb dX8_itemAt_30 ?_
        exact retQ (v := none) E hW ⟨Option.some.inj hf, rfl⟩ dX8_itemAt_31
      · replace hf := ite_f h3 hf
        refine lv_aload_n hx hb dX8_itemAt_21 rfl (lv_at hl 0 rfl) ?_
        refine rg_X8_52 E hW dX8_itemAt_22 ?_
        refine lv_iload_n hx hb dX8_itemAt_25 rfl (lv_at hl 1 rfl) ?_
        obtain ⟨v4, r5, hr5, hf⟩ := ldQ_e hf
        refine ra_9 E hW v4 dX8_itemAt_26 ?_
        rw [hr5]
        cases r5 with
        | none =>
          replace hf := ob_n hf
          refine lv_goto (tgt := 31) hx hb dX8_itemAt_27 (by decide) ?_
          exact retQ (v := none) E hW ⟨Option.some.inj hf, rfl⟩ dX8_itemAt_31
        | some a6 =>
          replace hf := ob_s hf
          refine lv_goto (tgt := 31) hx hb dX8_itemAt_27 (by decide) ?_
          exact retQ (v := some _) E hW ⟨Option.some.inj hf, rfl⟩ dX8_itemAt_31
def f_X8_itemOf (cs : CS) (v1 : Int32) : Option ((Option Nat ⊕ String) × CS) := (f_X8_itemAt cs v1).bind fun r1 => ob r1 (some (.inr "java/util/NoSuchElementException", cs)) fun a2 => (some (.inl (some a2), cs))
def rm_X8_itemOf : Room := { frames := 10, cells := 1, slots := 6, locals := 150 }
set_option maxHeartbeats 4000000 in
set_option maxRecDepth 100000 in
theorem c_X8_itemOf (l : Launch) (hl0 : l.stackTraces = false) {X : XT} {B : Nat} {cs : CS} {ms : MS} {o : Nat → Int64} {v1 : Int32} {r : Option Nat ⊕ String} {S9 : CS} (hf : f_X8_itemOf cs v1 = some (r, S9)) : vx_Met l yX8_itemOf (.code yX8_itemOf cX8_itemOf 3 (some (.object "BreakersYard$Item")) :: BIG) rm_X8_itemOf (Pre X B (cs, ms, o) [.ref (X.1 0), .int v1]) (QXQ X B r (S9, ms, o)) (XCx X B r (S9, ms, o)) 1 6 (Ab B) := by
  refine xentry (by decide +kernel) rfl (Nat.le_of_ble_eq_true rfl) (fun p e s m below meth c ls E hxt hW hl => ?_)
  obtain ⟨hx, hb, hml, hown, hts, -⟩ := id E
  replace hl : lv_has ls 3 [(0, .ref (X.1 0)), (1, .int v1)] := hl
  unfold f_X8_itemOf at hf
  refine lv_aload_n hx hb dX8_itemOf_0 rfl (lv_at hl 0 rfl) ?_
  refine lv_iload_n hx hb dX8_itemOf_1 rfl (lv_at hl 1 rfl) ?_
  obtain ⟨r1, hc, hf⟩ := b1_e hf
  refine callVQ (As := [.int _]) (rest := []) E hW (c_X8_itemAt l hc) lk_X8_338 rcv_X8 (Nat.le_of_ble_eq_true rfl) (Nat.le_of_ble_eq_true rfl) (Nat.le_of_ble_eq_true rfl) (Nat.le_of_ble_eq_true rfl) hl.1 (Nat.le_of_ble_eq_true rfl) dX8_itemOf_2 (fun H locs hW => ?_)
  cases r1 with
  | none =>
    replace hf := ob_n hf
    refine lv_astore_nN (lv' := [_, _, _]) hx hb dX8_itemOf_5 rfl hl (by decide) rfl (fun ls hl => ?_)
    refine lv_aload_nN hx hb dX8_itemOf_6 rfl (lv_at hl 0 rfl) ?_
    refine lv_ifnonnullN hx hb dX8_itemOf_7 ?_
    exact throwNW E hl0 hxt hW th_X8_167_359_171 dX8_itemOf_10 dX8_itemOf_13 dX8_itemOf_14 dX8_itemOf_17 dX8_itemOf_20 (etC hf) (Nat.le_of_ble_eq_true rfl) (Nat.le_of_ble_eq_true rfl) (Nat.le_of_ble_eq_true rfl) (Nat.le_of_ble_eq_true rfl) (Nat.le_of_ble_eq_true rfl) (by decide) (by decide) (hl.1.trans hml.symm)
  | some a2 =>
    replace hf := ob_s hf
    refine lv_astore_n (lv' := [_, _, _]) hx hb dX8_itemOf_5 rfl hl (by decide) rfl (fun ls hl => ?_)
    refine lv_aload_n hx hb dX8_itemOf_6 rfl (lv_at hl 0 rfl) ?_
    refine lv_ifnonnull (tgt := 21) hx hb dX8_itemOf_7 (by decide) ?_
    refine lv_aload_n hx hb dX8_itemOf_21 rfl (lv_at hl 0 rfl) ?_
    refine W.widen (k := 1) (n := 6) (by decide) (by decide) ?_
    exact vx_ret (retQX (v := some _) E hW (exC hf) dX8_itemOf_22)
def f_X8_factOf (cs : CS) (v1 : Option Nat) (v2 : Int32) : Option (Int32) := ob v1 (none) fun a1 => (gd (a1 ∈ cl cs ∧ ck cs a1 = 1) <| (f_X6_factOf cs (cp cs a1 1) (cp cs a1 2) v2).bind fun r2 => some r2)
def rm_X8_factOf : Room := { frames := 3, cells := 0, slots := 0, locals := 70 }
set_option maxHeartbeats 4000000 in
set_option maxRecDepth 100000 in
theorem c_X8_factOf (l : Launch) {X : XT} {B : Nat} {cs : CS} {ms : MS} {o : Nat → Int64} {v1 : Option Nat} {v2 : Int32} {r : Int32} (hf : f_X8_factOf cs v1 v2 = some r) : Met l yX8_factOf (.code yX8_factOf cX8_factOf 3 (some .int) :: BIG) rm_X8_factOf (Pre X B (cs, ms, o) [.ref (X.1 0), va_rf v1, .int v2]) (QI X B r (cs, ms, o)) 0 0 (Ab B) := by
  cases v1 with
  | none =>
    refine entry (by decide +kernel) rfl (Nat.le_of_ble_eq_true rfl) (fun p e s m below meth c ls E hW hl => ?_)
    obtain ⟨hx, hb, hml, hown, hts, -⟩ := id E
    replace hl : lv_has ls 3 [(0, .ref (X.1 0)), (1, .null), (2, .int v2)] := hl
    unfold f_X8_factOf at hf
    replace hf := ob_n hf
    refine lv_aload_n hx hb dX8_factOf_0 rfl (lv_at hl 0 rfl) ?_
    refine rg_X8_26 E hW dX8_factOf_1 ?_
    refine lv_aload_nN hx hb dX8_factOf_4 rfl (lv_at hl 1 rfl) ?_
    exact absurd hf nofun
  | some a1 =>
    refine entry (by decide +kernel) rfl (Nat.le_of_ble_eq_true rfl) (fun p e s m below meth c ls E hW hl => ?_)
    obtain ⟨hx, hb, hml, hown, hts, -⟩ := id E
    replace hl : lv_has ls 3 [(0, .ref (X.1 0)), (1, .ref a1), (2, .int v2)] := hl
    unfold f_X8_factOf at hf
    replace hf := ob_s hf
    refine lv_aload_n hx hb dX8_factOf_0 rfl (lv_at hl 0 rfl) ?_
    refine rg_X8_26 E hW dX8_factOf_1 ?_
    refine lv_aload_n hx hb dX8_factOf_4 rfl (lv_at hl 1 rfl) ?_
    obtain ⟨v1, hf⟩ := gd_e hf
    refine rg_X8_348 E hW v1 dX8_factOf_5 ?_
    refine lv_aload_n hx hb dX8_factOf_8 rfl (lv_at hl 1 rfl) ?_
    refine rg_X8_318 E hW v1 dX8_factOf_9 ?_
    refine lv_iload_n hx hb dX8_factOf_12 rfl (lv_at hl 2 rfl) ?_
    obtain ⟨r2, hc, hf⟩ := b1_e hf
    refine callVI (As := [.int _, .int _, .int _]) (rest := []) E hW (c_X6_factOf l hc) lk_X8_174 rcv_X6 (Nat.le_of_ble_eq_true rfl) (Nat.le_of_ble_eq_true rfl) (Nat.le_of_ble_eq_true rfl) (Nat.le_of_ble_eq_true rfl) hl.1 (Nat.le_of_ble_eq_true rfl) dX8_factOf_13 (fun H locs hW => ?_)
    exact retI E hW ⟨Option.some.inj hf, rfl⟩ dX8_factOf_16
def f_X8_valueOf_48 : Nat → CS → Int32 → Int32 → Int32 → Option (Int32)
  | 0, _, _, _, _ => none
  | n + 1, cs, v3, v4, v5 => if v4 ≤ v5 then (some v3) else (f_X8_valueOf_48 n cs (v3 - (v3 / (8 : Int32))) v4 (v5 + (1 : Int32)))
def f_X8_valueOf_25 (cs : CS) (v1 : Nat) (s0 : Int32) : Option (Int32) := gd (v1 ∈ cl cs ∧ ck cs v1 = 1) <| f_X8_valueOf_48 1000 cs s0 (if (24 : Int32) < (((ci cs 3) - (cp cs v1 4)) / (30 : Int32)) then (24 : Int32) else (((ci cs 3) - (cp cs v1 4)) / (30 : Int32))) (0 : Int32)
def f_X8_valueOf (cs : CS) (v1 : Option Nat) : Option (Int32) := ob v1 ((f_X8_factOf cs none (6 : Int32)).bind fun r1 => (f_X8_factOf cs none (0 : Int32)).bind fun r2 => if r2 = (2 : Int32) then (none) else (none)) fun a1 => ((f_X8_factOf cs (some a1) (6 : Int32)).bind fun r4 => (f_X8_factOf cs (some a1) (0 : Int32)).bind fun r5 => if r5 = (2 : Int32) then (f_X8_valueOf_25 cs a1 (r4 / (2 : Int32))) else (f_X8_valueOf_25 cs a1 r4))
def rm_X8_valueOf : Room := { frames := 4, cells := 0, slots := 0, locals := 92 }
set_option maxHeartbeats 4000000 in
set_option maxRecDepth 100000 in
theorem w_X8_valueOf_48 {p : Program} {l : Launch} {e : Env} {s : State} {m : MethodId} {args : Array Value} {below : List Frame} {meth : Method} {c : Code} {X : XT} {B : Nat} {ms : MS} {o : Nat → Int64} {r : Int32} (E : Ev X B p s m args meth c RX8 cX8_valueOf 6 (some .int)) : ∀ (n : Nat) (cs : CS) (v3 : Int32) (v4 : Int32) (v5 : Int32) (H : Heap) (locs : List Loc) (ls : Array Slot), f_X8_valueOf_48 n cs v3 v4 v5 = some r → Ws X B s.heap H locs (cs, ms, o) → lv_has ls 6 [(3, .int v3), (4, .int v4), (5, .int v5)] → W p l e rm_X8_valueOf s m args below meth c H locs 0 0 (MQ below (QI X B r (cs, ms, o)) args s 0 0 (Ab B)) (F0 m 48 ls []) := by
  obtain ⟨hx, hb, hml, hown, hts, -⟩ := id E
  intro n
  induction n with
  | zero => intro cs v3 v4 v5 H locs ls hf; exact absurd hf nofun
  | succ n ih =>
    intro cs v3 v4 v5 H locs ls hf hW hl
    rw [f_X8_valueOf_48] at hf
    refine lv_iload hx hb dX8_valueOf_48 (lv_at hl 2 rfl) ?_
    refine lv_iload hx hb dX8_valueOf_50 (lv_at hl 1 rfl) ?_
    refine lv_icmp_ge (tgt := 68) hx hb dX8_valueOf_52 (by decide) (fun h8 => ?_) (fun h8 => ?_)
    · replace hf := ite_t h8 hf
      refine lv_iload_n hx hb dX8_valueOf_68 rfl (lv_at hl 0 rfl) ?_
      exact retI E hW ⟨Option.some.inj hf, rfl⟩ dX8_valueOf_69
    · replace hf := ite_f h8 hf
      refine lv_iload_n hx hb dX8_valueOf_55 rfl (lv_at hl 0 rfl) ?_
      refine lv_iload_n hx hb dX8_valueOf_56 rfl (lv_at hl 0 rfl) ?_
      refine lv_bipush (v := (8 : Int32)) hx hb dX8_valueOf_57 (by decide) ?_
      refine lv_idiv hx hb dX8_valueOf_59 (by decide) ?_
      refine lv_isub hx hb dX8_valueOf_60 ?_
      refine lv_istore_n (lv' := [_, _, _]) hx hb dX8_valueOf_61 rfl hl (by decide) rfl (fun ls hl => ?_)
      refine lv_iinc (v := _ + (1 : Int32)) (lv' := [_, _, _]) hx hb dX8_valueOf_62 hl (k := 2) rfl rfl (by decide) rfl (fun ls hl => ?_)
      refine lv_goto (tgt := 48) hx hb dX8_valueOf_65 (by decide) ?_
      exact ih _ _ _ _ _ _ _ hf hW (lv_sub hl [1, 2, 0] rfl)
set_option maxHeartbeats 4000000 in
set_option maxRecDepth 100000 in
theorem w_X8_valueOf_25 {p : Program} {l : Launch} {e : Env} {s : State} {m : MethodId} {args : Array Value} {below : List Frame} {meth : Method} {c : Code} {X : XT} {B : Nat} {ms : MS} {o : Nat → Int64} {r : Int32} (E : Ev X B p s m args meth c RX8 cX8_valueOf 6 (some .int)) : ∀ (cs : CS) (v1 : Nat) (s0 : Int32) (H : Heap) (locs : List Loc) (ls : Array Slot), f_X8_valueOf_25 cs v1 s0 = some r → Ws X B s.heap H locs (cs, ms, o) → lv_has ls 6 [(0, .ref (X.1 0)), (1, .ref v1)] → W p l e rm_X8_valueOf s m args below meth c H locs 0 0 (MQ below (QI X B r (cs, ms, o)) args s 0 0 (Ab B)) (F0 m 25 ls [.int s0]) := by
  obtain ⟨hx, hb, hml, hown, hts, -⟩ := id E
  intro cs v1 s0 H locs ls hf hW hl
  unfold f_X8_valueOf_25 at hf
  refine lv_istore_n (lv' := [_, _, _]) hx hb dX8_valueOf_25 rfl hl (by decide) rfl (fun ls hl => ?_)
  refine lv_aload_n hx hb dX8_valueOf_26 rfl (lv_at hl 1 rfl) ?_
  refine rg_X8_73 E hW dX8_valueOf_27 ?_
  refine lv_aload_n hx hb dX8_valueOf_30 rfl (lv_at hl 2 rfl) ?_
  obtain ⟨v7, hf⟩ := gd_e hf
  refine rg_X8_330 E hW v7 dX8_valueOf_31 ?_
  refine lv_isub hx hb dX8_valueOf_34 ?_
  refine lv_bipush (v := (30 : Int32)) hx hb dX8_valueOf_35 (by decide) ?_
  refine lv_idiv hx hb dX8_valueOf_37 (by decide) ?_
  refine lv_bipush (v := (24 : Int32)) hx hb dX8_valueOf_38 (by decide) ?_
  refine va_mmin hx hb (hml.trans hl.1.symm) hown (hts _ km_X8_365) (hts _ km_min_s) (hts _ km_ini) (hts _ km_min_c) (Nat.le_of_ble_eq_true rfl) (Nat.le_of_ble_eq_true rfl) (Nat.le_of_ble_eq_true rfl) (Nat.le_of_ble_eq_true rfl) dX8_valueOf_40 ?_
  refine lv_istore (lv' := [_, _, _, _]) hx hb dX8_valueOf_43 hl (by decide) rfl (fun ls hl => ?_)
  refine lv_iconst (v := (0 : Int32)) hx hb dX8_valueOf_45 (by decide) ?_
  refine lv_istore (lv' := [_, _, _, _, _]) hx hb dX8_valueOf_46 hl (by decide) rfl (fun ls hl => ?_)
  exact w_X8_valueOf_48 E 1000 _ _ _ _ _ _ _ hf hW (lv_sub hl [2, 1, 0] rfl)
set_option maxHeartbeats 4000000 in
set_option maxRecDepth 100000 in
theorem c_X8_valueOf (l : Launch) {X : XT} {B : Nat} {cs : CS} {ms : MS} {o : Nat → Int64} {v1 : Option Nat} {r : Int32} (hf : f_X8_valueOf cs v1 = some r) : Met l yX8_valueOf (.code yX8_valueOf cX8_valueOf 6 (some .int) :: BIG) rm_X8_valueOf (Pre X B (cs, ms, o) [.ref (X.1 0), va_rf v1]) (QI X B r (cs, ms, o)) 0 0 (Ab B) := by
  cases v1 with
  | none =>
    refine entry (by decide +kernel) rfl (Nat.le_of_ble_eq_true rfl) (fun p e s m below meth c ls E hW hl => ?_)
    obtain ⟨hx, hb, hml, hown, hts, -⟩ := id E
    replace hl : lv_has ls 6 [(0, .ref (X.1 0)), (1, .null)] := hl
    unfold f_X8_valueOf at hf
    replace hf := ob_n hf
    refine lv_aload_n hx hb dX8_valueOf_0 rfl (lv_at hl 0 rfl) ?_
    refine lv_aload_nN hx hb dX8_valueOf_1 rfl (lv_at hl 1 rfl) ?_
    refine lv_bipush (v := (6 : Int32)) hx hb dX8_valueOf_2 (by decide) ?_
    obtain ⟨r1, hc, hf⟩ := b1_e hf
    refine callVI (As := [va_rf none, .int _]) (rest := []) E hW (c_X8_factOf l hc) lk_X8_341 rcv_X8 (Nat.le_of_ble_eq_true rfl) (Nat.le_of_ble_eq_true rfl) (Nat.le_of_ble_eq_true rfl) (Nat.le_of_ble_eq_true rfl) hl.1 (Nat.le_of_ble_eq_true rfl) dX8_valueOf_4 (fun H locs hW => ?_)
    refine lv_istore_n (lv' := [_, _, _]) hx hb dX8_valueOf_7 rfl hl (by decide) rfl (fun ls hl => ?_)
    refine lv_aload_n hx hb dX8_valueOf_8 rfl (lv_at hl 1 rfl) ?_
    refine lv_aload_nN hx hb dX8_valueOf_9 rfl (lv_at hl 2 rfl) ?_
    refine lv_iconst (v := (0 : Int32)) hx hb dX8_valueOf_10 (by decide) ?_
    obtain ⟨r2, hc, hf⟩ := b1_e hf
    refine callVI (As := [va_rf none, .int _]) (rest := []) E hW (c_X8_factOf l hc) lk_X8_341 rcv_X8 (Nat.le_of_ble_eq_true rfl) (Nat.le_of_ble_eq_true rfl) (Nat.le_of_ble_eq_true rfl) (Nat.le_of_ble_eq_true rfl) hl.1 (Nat.le_of_ble_eq_true rfl) dX8_valueOf_11 (fun H locs hW => ?_)
    refine lv_iconst (v := (2 : Int32)) hx hb dX8_valueOf_14 (by decide) ?_
    refine lv_icmp_ne (tgt := 24) hx hb dX8_valueOf_15 (by decide) (fun h3 => ?_) (fun h3 => ?_)
    · replace hf := ite_f h3 hf
      refine lv_iload_n hx hb dX8_valueOf_24 rfl (lv_at hl 0 rfl) ?_
      exact absurd hf nofun
    · replace hf := ite_t h3 hf
      refine lv_iload_n hx hb dX8_valueOf_18 rfl (lv_at hl 0 rfl) ?_
      refine lv_iconst (v := (2 : Int32)) hx hb dX8_valueOf_19 (by decide) ?_
      refine lv_idiv hx hb dX8_valueOf_20 (by decide) ?_
      refine lv_goto (tgt := 25) hx hb dX8_valueOf_21 (by decide) ?_
      exact absurd hf nofun
  | some a1 =>
    refine entry (by decide +kernel) rfl (Nat.le_of_ble_eq_true rfl) (fun p e s m below meth c ls E hW hl => ?_)
    obtain ⟨hx, hb, hml, hown, hts, -⟩ := id E
    replace hl : lv_has ls 6 [(0, .ref (X.1 0)), (1, .ref a1)] := hl
    unfold f_X8_valueOf at hf
    replace hf := ob_s hf
    refine lv_aload_n hx hb dX8_valueOf_0 rfl (lv_at hl 0 rfl) ?_
    refine lv_aload_n hx hb dX8_valueOf_1 rfl (lv_at hl 1 rfl) ?_
    refine lv_bipush (v := (6 : Int32)) hx hb dX8_valueOf_2 (by decide) ?_
    obtain ⟨r4, hc, hf⟩ := b1_e hf
    refine callVI (As := [va_rf (some _), .int _]) (rest := []) E hW (c_X8_factOf l hc) lk_X8_341 rcv_X8 (Nat.le_of_ble_eq_true rfl) (Nat.le_of_ble_eq_true rfl) (Nat.le_of_ble_eq_true rfl) (Nat.le_of_ble_eq_true rfl) hl.1 (Nat.le_of_ble_eq_true rfl) dX8_valueOf_4 (fun H locs hW => ?_)
    refine lv_istore_n (lv' := [_, _, _]) hx hb dX8_valueOf_7 rfl hl (by decide) rfl (fun ls hl => ?_)
    refine lv_aload_n hx hb dX8_valueOf_8 rfl (lv_at hl 1 rfl) ?_
    refine lv_aload_n hx hb dX8_valueOf_9 rfl (lv_at hl 2 rfl) ?_
    refine lv_iconst (v := (0 : Int32)) hx hb dX8_valueOf_10 (by decide) ?_
    obtain ⟨r5, hc, hf⟩ := b1_e hf
    refine callVI (As := [va_rf (some _), .int _]) (rest := []) E hW (c_X8_factOf l hc) lk_X8_341 rcv_X8 (Nat.le_of_ble_eq_true rfl) (Nat.le_of_ble_eq_true rfl) (Nat.le_of_ble_eq_true rfl) (Nat.le_of_ble_eq_true rfl) hl.1 (Nat.le_of_ble_eq_true rfl) dX8_valueOf_11 (fun H locs hW => ?_)
    refine lv_iconst (v := (2 : Int32)) hx hb dX8_valueOf_14 (by decide) ?_
    refine lv_icmp_ne (tgt := 24) hx hb dX8_valueOf_15 (by decide) (fun h6 => ?_) (fun h6 => ?_)
    · replace hf := ite_f h6 hf
      refine lv_iload_n hx hb dX8_valueOf_24 rfl (lv_at hl 0 rfl) ?_
      exact w_X8_valueOf_25 E _ _ _ _ _ _ hf hW (lv_sub hl [1, 2] rfl)
    · replace hf := ite_t h6 hf
      refine lv_iload_n hx hb dX8_valueOf_18 rfl (lv_at hl 0 rfl) ?_
      refine lv_iconst (v := (2 : Int32)) hx hb dX8_valueOf_19 (by decide) ?_
      refine lv_idiv hx hb dX8_valueOf_20 (by decide) ?_
      refine lv_goto (tgt := 25) hx hb dX8_valueOf_21 (by decide) ?_
      exact w_X8_valueOf_25 E _ _ _ _ _ _ hf hW (lv_sub hl [1, 2] rfl)
def f_X8_item (cs : CS) (v1 : Int32) (v2 : Int32) : Option ((Int32 ⊕ String) × CS) := bx (f_X8_itemOf cs v1) fun b3 cs2 => ob b3 (if v2 = (0 : Int32) then (none) else (if v2 = (1 : Int32) then (none) else (if v2 = (2 : Int32) then (none) else (if v2 = (3 : Int32) then (none) else (if v2 = (4 : Int32) then (none) else (some (.inr "java/lang/IllegalArgumentException", cs2))))))) fun a7 => (if v2 = (0 : Int32) then (gd (a7 ∈ cl cs2 ∧ ck cs2 a7 = 1) <| some (.inl (cp cs2 a7 0), cs2)) else (if v2 = (1 : Int32) then (gd (a7 ∈ cl cs2 ∧ ck cs2 a7 = 1) <| some (.inl (cp cs2 a7 2), cs2)) else (if v2 = (2 : Int32) then (gd (a7 ∈ cl cs2 ∧ ck cs2 a7 = 1) <| some (.inl (cp cs2 a7 3), cs2)) else (if v2 = (3 : Int32) then (gd (a7 ∈ cl cs2 ∧ ck cs2 a7 = 1) <| if (cp cs2 a7 3) = 0 then ((f_X8_valueOf cs2 (some a7)).bind fun r23 => some (.inl r23, cs2)) else (if (cp cs2 a7 3) = (1 : Int32) then (some (.inl (cp cs2 a7 5), cs2)) else (some (.inl (0 : Int32), cs2)))) else (if v2 = (4 : Int32) then (gd (a7 ∈ cl cs2 ∧ ck cs2 a7 = 1) <| some (.inl (cp cs2 a7 4), cs2)) else (some (.inr "java/lang/IllegalArgumentException", cs2)))))))
def rm_X8_item : Room := { frames := 11, cells := 2, slots := 12, locals := 172 }
set_option maxHeartbeats 4000000 in
set_option maxRecDepth 100000 in
theorem c_X8_item (l : Launch) (hl0 : l.stackTraces = false) {X : XT} {B : Nat} {cs : CS} {ms : MS} {o : Nat → Int64} {v1 : Int32} {v2 : Int32} {r : Int32 ⊕ String} {S9 : CS} (hf : f_X8_item cs v1 v2 = some (r, S9)) : vx_Met l yX8_item (.code yX8_item cX8_item 4 (some .int) :: BIG) rm_X8_item (Pre X B (cs, ms, o) [.ref (X.1 0), .int v1, .int v2]) (QXI X B r (S9, ms, o)) (XCx X B r (S9, ms, o)) 2 12 (Ab B) := by
  refine xentry (by decide +kernel) rfl (Nat.le_of_ble_eq_true rfl) (fun p e s m below meth c ls E hxt hW hl => ?_)
  obtain ⟨hx, hb, hml, hown, hts, -⟩ := id E
  replace hl : lv_has ls 4 [(0, .ref (X.1 0)), (1, .int v1), (2, .int v2)] := hl
  unfold f_X8_item at hf
  refine lv_aload_n hx hb dX8_item_0 rfl (lv_at hl 0 rfl) ?_
  refine lv_iload_n hx hb dX8_item_1 rfl (lv_at hl 1 rfl) ?_
  obtain ⟨r1, cs2, hc, k4, e5⟩ := bx_e hf
  refine xcallVQ (As := [.int _]) (rest := []) E hW (c_X8_itemOf l hl0 hc) lk_X8_311 rcv_X8 (Nat.le_of_ble_eq_true rfl) (Nat.le_of_ble_eq_true rfl) (Nat.le_of_ble_eq_true rfl) (Nat.le_of_ble_eq_true rfl) hl.1 (Nat.le_of_ble_eq_true rfl) dX8_item_2 hxt (by decide) (by decide) (fun z hz => by have q9 := e5 z hz; cases q9; exact ⟨rfl, rfl⟩) (fun b3 q6 H locs hW => ?_)
  replace hf := k4 b3 q6
  cases b3 with
  | none =>
    replace hf := ob_n hf
    refine lv_astore_nN (lv' := [_, _, _, _]) hx hb dX8_item_5 rfl hl (by decide) rfl (fun ls hl => ?_)
    refine lv_iload_n hx hb dX8_item_6 rfl (lv_at hl 3 rfl) ?_
    by_cases h8 : v2 = (0 : Int32)
    · replace hf := ite_t h8 hf
      refine lv_tableIn (tgt := 40) hx hb dX8_item_7 (by rw [h8]; decide) (by rw [h8]; decide) (by rw [h8]; rfl) (by decide) ?_
      refine lv_aload_nN hx hb dX8_item_40 rfl (lv_at hl 0 rfl) ?_
      exact absurd hf nofun
    · replace hf := ite_f h8 hf
      by_cases h9 : v2 = (1 : Int32)
      · replace hf := ite_t h9 hf
        refine lv_tableIn (tgt := 45) hx hb dX8_item_7 (by rw [h9]; decide) (by rw [h9]; decide) (by rw [h9]; rfl) (by decide) ?_
        refine lv_aload_nN hx hb dX8_item_45 rfl (lv_at hl 0 rfl) ?_
        exact absurd hf nofun
      · replace hf := ite_f h9 hf
        by_cases h10 : v2 = (2 : Int32)
        · replace hf := ite_t h10 hf
          refine lv_tableIn (tgt := 50) hx hb dX8_item_7 (by rw [h10]; decide) (by rw [h10]; decide) (by rw [h10]; rfl) (by decide) ?_
          refine lv_aload_nN hx hb dX8_item_50 rfl (lv_at hl 0 rfl) ?_
          exact absurd hf nofun
        · replace hf := ite_f h10 hf
          by_cases h11 : v2 = (3 : Int32)
          · replace hf := ite_t h11 hf
            refine lv_tableIn (tgt := 55) hx hb dX8_item_7 (by rw [h11]; decide) (by rw [h11]; decide) (by rw [h11]; rfl) (by decide) ?_
            refine lv_aload_nN hx hb dX8_item_55 rfl (lv_at hl 0 rfl) ?_
            exact absurd hf nofun
          · replace hf := ite_f h11 hf
            by_cases h12 : v2 = (4 : Int32)
            · replace hf := ite_t h12 hf
              refine lv_tableIn (tgt := 87) hx hb dX8_item_7 (by rw [h12]; decide) (by rw [h12]; decide) (by rw [h12]; rfl) (by decide) ?_
              refine lv_aload_nN hx hb dX8_item_87 rfl (lv_at hl 0 rfl) ?_
              exact absurd hf nofun
            · replace hf := ite_f h12 hf
              have eh8 := lv_neT h8 (a := 0) (by decide)
              have eh9 := lv_neT h9 (a := 1) (by decide)
              have eh10 := lv_neT h10 (a := 2) (by decide)
              have eh11 := lv_neT h11 (a := 3) (by decide)
              have eh12 := lv_neT h12 (a := 4) (by decide)
              refine lv_tableOut (tgt := 92) hx hb dX8_item_7 (by omega) (by decide) ?_
              exact throwS E hl0 hxt hW th_X8_84_172_88 dX8_item_92 dX8_item_95 dX8_item_96 dX8_item_98 dX8_item_101 (etC hf) (Nat.le_of_ble_eq_true rfl) (Nat.le_of_ble_eq_true rfl) (Nat.le_of_ble_eq_true rfl) (Nat.le_of_ble_eq_true rfl) (Nat.le_of_ble_eq_true rfl) (by decide) (by decide) (hl.1.trans hml.symm)
  | some a7 =>
    replace hf := ob_s hf
    refine lv_astore_n (lv' := [_, _, _, _]) hx hb dX8_item_5 rfl hl (by decide) rfl (fun ls hl => ?_)
    refine lv_iload_n hx hb dX8_item_6 rfl (lv_at hl 3 rfl) ?_
    by_cases h13 : v2 = (0 : Int32)
    · replace hf := ite_t h13 hf
      refine lv_tableIn (tgt := 40) hx hb dX8_item_7 (by rw [h13]; decide) (by rw [h13]; decide) (by rw [h13]; rfl) (by decide) ?_
      refine lv_aload_n hx hb dX8_item_40 rfl (lv_at hl 0 rfl) ?_
      obtain ⟨v14, hf⟩ := gd_e hf
      refine rg_X8_315 E hW v14 dX8_item_41 ?_
      refine W.widen (k := 2) (n := 12) (by decide) (by decide) ?_
      exact vx_ret (retIX E hW (exC hf) dX8_item_44)
    · replace hf := ite_f h13 hf
      by_cases h15 : v2 = (1 : Int32)
      · replace hf := ite_t h15 hf
        refine lv_tableIn (tgt := 45) hx hb dX8_item_7 (by rw [h15]; decide) (by rw [h15]; decide) (by rw [h15]; rfl) (by decide) ?_
        refine lv_aload_n hx hb dX8_item_45 rfl (lv_at hl 0 rfl) ?_
        obtain ⟨v16, hf⟩ := gd_e hf
        refine rg_X8_318 E hW v16 dX8_item_46 ?_
        refine W.widen (k := 2) (n := 12) (by decide) (by decide) ?_
        exact vx_ret (retIX E hW (exC hf) dX8_item_49)
      · replace hf := ite_f h15 hf
        by_cases h17 : v2 = (2 : Int32)
        · replace hf := ite_t h17 hf
          refine lv_tableIn (tgt := 50) hx hb dX8_item_7 (by rw [h17]; decide) (by rw [h17]; decide) (by rw [h17]; rfl) (by decide) ?_
          refine lv_aload_n hx hb dX8_item_50 rfl (lv_at hl 0 rfl) ?_
          obtain ⟨v18, hf⟩ := gd_e hf
          refine rg_X8_321 E hW v18 dX8_item_51 ?_
          refine W.widen (k := 2) (n := 12) (by decide) (by decide) ?_
          exact vx_ret (retIX E hW (exC hf) dX8_item_54)
        · replace hf := ite_f h17 hf
          by_cases h19 : v2 = (3 : Int32)
          · replace hf := ite_t h19 hf
            refine lv_tableIn (tgt := 55) hx hb dX8_item_7 (by rw [h19]; decide) (by rw [h19]; decide) (by rw [h19]; rfl) (by decide) ?_
            refine lv_aload_n hx hb dX8_item_55 rfl (lv_at hl 0 rfl) ?_
            obtain ⟨v20, hf⟩ := gd_e hf
            refine rg_X8_321 E hW v20 dX8_item_56 ?_
            refine lv_if_ne (tgt := 70) hx hb dX8_item_59 (by decide) (fun h21 => ?_) (fun h21 => ?_)
            · replace hf := ite_f h21 hf
              refine lv_aload_n hx hb dX8_item_70 rfl (lv_at hl 0 rfl) ?_
              refine rg_X8_321 E hW v20 dX8_item_71 ?_
              refine lv_iconst (v := (1 : Int32)) hx hb dX8_item_74 (by decide) ?_
              refine lv_icmp_ne (tgt := 85) hx hb dX8_item_75 (by decide) (fun h22 => ?_) (fun h22 => ?_)
              · replace hf := ite_f h22 hf
                refine lv_iconst (v := (0 : Int32)) hx hb dX8_item_85 (by decide) ?_
                refine W.widen (k := 2) (n := 12) (by decide) (by decide) ?_
                exact vx_ret (retIX E hW (exC hf) dX8_item_86)
              · replace hf := ite_t h22 hf
                refine lv_aload_n hx hb dX8_item_78 rfl (lv_at hl 0 rfl) ?_
                refine rg_X8_327 E hW v20 dX8_item_79 ?_
                refine lv_goto (tgt := 86) hx hb dX8_item_82 (by decide) ?_
                refine W.widen (k := 2) (n := 12) (by decide) (by decide) ?_
                exact vx_ret (retIX E hW (exC hf) dX8_item_86)
            · replace hf := ite_t h21 hf
              refine lv_aload_n hx hb dX8_item_62 rfl (lv_at hl 1 rfl) ?_
              refine lv_aload_n hx hb dX8_item_63 rfl (lv_at hl 0 rfl) ?_
              obtain ⟨r23, hc, hf⟩ := b1_e hf
              refine callVI (As := [va_rf (some _)]) (rest := []) E hW (c_X8_valueOf l hc) lk_X8_324 rcv_X8 (Nat.le_of_ble_eq_true rfl) (Nat.le_of_ble_eq_true rfl) (Nat.le_of_ble_eq_true rfl) (Nat.le_of_ble_eq_true rfl) hl.1 (Nat.le_of_ble_eq_true rfl) dX8_item_64 (fun H locs hW => ?_)
              refine lv_goto (tgt := 86) hx hb dX8_item_67 (by decide) ?_
              refine W.widen (k := 2) (n := 12) (by decide) (by decide) ?_
              exact vx_ret (retIX E hW (exC hf) dX8_item_86)
          · replace hf := ite_f h19 hf
            by_cases h24 : v2 = (4 : Int32)
            · replace hf := ite_t h24 hf
              refine lv_tableIn (tgt := 87) hx hb dX8_item_7 (by rw [h24]; decide) (by rw [h24]; decide) (by rw [h24]; rfl) (by decide) ?_
              refine lv_aload_n hx hb dX8_item_87 rfl (lv_at hl 0 rfl) ?_
              obtain ⟨v25, hf⟩ := gd_e hf
              refine rg_X8_330 E hW v25 dX8_item_88 ?_
              refine W.widen (k := 2) (n := 12) (by decide) (by decide) ?_
              exact vx_ret (retIX E hW (exC hf) dX8_item_91)
            · replace hf := ite_f h24 hf
              have eh13 := lv_neT h13 (a := 0) (by decide)
              have eh15 := lv_neT h15 (a := 1) (by decide)
              have eh17 := lv_neT h17 (a := 2) (by decide)
              have eh19 := lv_neT h19 (a := 3) (by decide)
              have eh24 := lv_neT h24 (a := 4) (by decide)
              refine lv_tableOut (tgt := 92) hx hb dX8_item_7 (by omega) (by decide) ?_
              exact throwS E hl0 hxt hW th_X8_84_172_88 dX8_item_92 dX8_item_95 dX8_item_96 dX8_item_98 dX8_item_101 (etC hf) (Nat.le_of_ble_eq_true rfl) (Nat.le_of_ble_eq_true rfl) (Nat.le_of_ble_eq_true rfl) (Nat.le_of_ble_eq_true rfl) (Nat.le_of_ble_eq_true rfl) (by decide) (by decide) (hl.1.trans hml.symm)
def f_X8_standsFor (cs : CS) (v1 : Option Nat) (v2 : Int32) (v3 : Int32) (v4 : Int32) : Option (Int32) := ob v1 ((f_X8_factOf cs none (7 : Int32)).bind fun r1 => if r1 = (-1 : Int32) then (none) else ((f_X4_holds cs r1 v2 v3 v4).bind fun r3 => gd (r3 = 0 ∨ r3 = 1) <| some r3)) fun a1 => ((f_X8_factOf cs (some a1) (7 : Int32)).bind fun r5 => if r5 = (-1 : Int32) then (gd (a1 ∈ cl cs ∧ ck cs a1 = 1) <| if (cp cs a1 1) = v2 then (some (1 : Int32)) else (some (0 : Int32))) else ((f_X4_holds cs r5 v2 v3 v4).bind fun r7 => gd (r7 = 0 ∨ r7 = 1) <| some r7))
def rm_X8_standsFor : Room := { frames := 4, cells := 0, slots := 0, locals := 92 }
set_option maxHeartbeats 4000000 in
set_option maxRecDepth 100000 in
theorem c_X8_standsFor (l : Launch) {X : XT} {B : Nat} {cs : CS} {ms : MS} {o : Nat → Int64} {v1 : Option Nat} {v2 : Int32} {v3 : Int32} {v4 : Int32} {r : Int32} (hf : f_X8_standsFor cs v1 v2 v3 v4 = some r) : Met l yX8_standsFor (.code yX8_standsFor cX8_standsFor 6 (some .boolean) :: BIG) rm_X8_standsFor (Pre X B (cs, ms, o) [.ref (X.1 0), va_rf v1, .int v2, .int v3, .int v4]) (QI X B r (cs, ms, o)) 0 0 (Ab B) := by
  cases v1 with
  | none =>
    refine entry (by decide +kernel) rfl (Nat.le_of_ble_eq_true rfl) (fun p e s m below meth c ls E hW hl => ?_)
    obtain ⟨hx, hb, hml, hown, hts, -⟩ := id E
    replace hl : lv_has ls 6 [(0, .ref (X.1 0)), (1, .null), (2, .int v2), (3, .int v3), (4, .int v4)] := hl
    unfold f_X8_standsFor at hf
    replace hf := ob_n hf
    refine lv_aload_n hx hb dX8_standsFor_0 rfl (lv_at hl 0 rfl) ?_
    refine lv_aload_nN hx hb dX8_standsFor_1 rfl (lv_at hl 1 rfl) ?_
    refine lv_bipush (v := (7 : Int32)) hx hb dX8_standsFor_2 (by decide) ?_
    obtain ⟨r1, hc, hf⟩ := b1_e hf
    refine callVI (As := [va_rf none, .int _]) (rest := []) E hW (c_X8_factOf l hc) lk_X8_341 rcv_X8 (Nat.le_of_ble_eq_true rfl) (Nat.le_of_ble_eq_true rfl) (Nat.le_of_ble_eq_true rfl) (Nat.le_of_ble_eq_true rfl) hl.1 (Nat.le_of_ble_eq_true rfl) dX8_standsFor_4 (fun H locs hW => ?_)
    refine lv_istore (lv' := [_, _, _, _, _, _]) hx hb dX8_standsFor_7 hl (by decide) rfl (fun ls hl => ?_)
    refine lv_iload hx hb dX8_standsFor_9 (lv_at hl 0 rfl) ?_
    refine lv_iconst (v := (-1 : Int32)) hx hb dX8_standsFor_11 (by decide) ?_
    refine lv_icmp_ne (tgt := 31) hx hb dX8_standsFor_12 (by decide) (fun h2 => ?_) (fun h2 => ?_)
    · replace hf := ite_f h2 hf
      refine lv_aload_n hx hb dX8_standsFor_31 rfl (lv_at hl 1 rfl) ?_
      refine rg_X8_19 E hW dX8_standsFor_32 ?_
      refine lv_iload hx hb dX8_standsFor_35 (lv_at hl 0 rfl) ?_
      refine lv_iload_n hx hb dX8_standsFor_37 rfl (lv_at hl 3 rfl) ?_
      refine lv_iload_n hx hb dX8_standsFor_38 rfl (lv_at hl 4 rfl) ?_
      refine lv_iload hx hb dX8_standsFor_39 (lv_at hl 5 rfl) ?_
      obtain ⟨r3, hc, hf⟩ := b1_e hf
      refine callVI (As := [.int _, .int _, .int _, .int _]) (rest := []) E hW (c_X4_holds l hc) lk_X8_145 rcv_X4 (Nat.le_of_ble_eq_true rfl) (Nat.le_of_ble_eq_true rfl) (Nat.le_of_ble_eq_true rfl) (Nat.le_of_ble_eq_true rfl) hl.1 (Nat.le_of_ble_eq_true rfl) dX8_standsFor_41 (fun H locs hW => ?_)
      obtain ⟨v4, hf⟩ := gd_e hf
      exact retZ E hW v4 ⟨Option.some.inj hf, rfl⟩ dX8_standsFor_44
    · replace hf := ite_t h2 hf
      refine lv_aload_nN hx hb dX8_standsFor_15 rfl (lv_at hl 2 rfl) ?_
      exact absurd hf nofun
  | some a1 =>
    refine entry (by decide +kernel) rfl (Nat.le_of_ble_eq_true rfl) (fun p e s m below meth c ls E hW hl => ?_)
    obtain ⟨hx, hb, hml, hown, hts, -⟩ := id E
    replace hl : lv_has ls 6 [(0, .ref (X.1 0)), (1, .ref a1), (2, .int v2), (3, .int v3), (4, .int v4)] := hl
    unfold f_X8_standsFor at hf
    replace hf := ob_s hf
    refine lv_aload_n hx hb dX8_standsFor_0 rfl (lv_at hl 0 rfl) ?_
    refine lv_aload_n hx hb dX8_standsFor_1 rfl (lv_at hl 1 rfl) ?_
    refine lv_bipush (v := (7 : Int32)) hx hb dX8_standsFor_2 (by decide) ?_
    obtain ⟨r5, hc, hf⟩ := b1_e hf
    refine callVI (As := [va_rf (some _), .int _]) (rest := []) E hW (c_X8_factOf l hc) lk_X8_341 rcv_X8 (Nat.le_of_ble_eq_true rfl) (Nat.le_of_ble_eq_true rfl) (Nat.le_of_ble_eq_true rfl) (Nat.le_of_ble_eq_true rfl) hl.1 (Nat.le_of_ble_eq_true rfl) dX8_standsFor_4 (fun H locs hW => ?_)
    refine lv_istore (lv' := [_, _, _, _, _, _]) hx hb dX8_standsFor_7 hl (by decide) rfl (fun ls hl => ?_)
    refine lv_iload hx hb dX8_standsFor_9 (lv_at hl 0 rfl) ?_
    refine lv_iconst (v := (-1 : Int32)) hx hb dX8_standsFor_11 (by decide) ?_
    refine lv_icmp_ne (tgt := 31) hx hb dX8_standsFor_12 (by decide) (fun h6 => ?_) (fun h6 => ?_)
    · replace hf := ite_f h6 hf
      refine lv_aload_n hx hb dX8_standsFor_31 rfl (lv_at hl 1 rfl) ?_
      refine rg_X8_19 E hW dX8_standsFor_32 ?_
      refine lv_iload hx hb dX8_standsFor_35 (lv_at hl 0 rfl) ?_
      refine lv_iload_n hx hb dX8_standsFor_37 rfl (lv_at hl 3 rfl) ?_
      refine lv_iload_n hx hb dX8_standsFor_38 rfl (lv_at hl 4 rfl) ?_
      refine lv_iload hx hb dX8_standsFor_39 (lv_at hl 5 rfl) ?_
      obtain ⟨r7, hc, hf⟩ := b1_e hf
      refine callVI (As := [.int _, .int _, .int _, .int _]) (rest := []) E hW (c_X4_holds l hc) lk_X8_145 rcv_X4 (Nat.le_of_ble_eq_true rfl) (Nat.le_of_ble_eq_true rfl) (Nat.le_of_ble_eq_true rfl) (Nat.le_of_ble_eq_true rfl) hl.1 (Nat.le_of_ble_eq_true rfl) dX8_standsFor_41 (fun H locs hW => ?_)
      obtain ⟨v8, hf⟩ := gd_e hf
      exact retZ E hW v8 ⟨Option.some.inj hf, rfl⟩ dX8_standsFor_44
    · replace hf := ite_t h6 hf
      refine lv_aload_n hx hb dX8_standsFor_15 rfl (lv_at hl 2 rfl) ?_
      obtain ⟨v9, hf⟩ := gd_e hf
      refine rg_X8_348 E hW v9 dX8_standsFor_16 ?_
      refine lv_iload_n hx hb dX8_standsFor_19 rfl (lv_at hl 3 rfl) ?_
      refine lv_icmp_ne (tgt := 27) hx hb dX8_standsFor_20 (by decide) (fun h10 => ?_) (fun h10 => ?_)
      · replace hf := ite_f h10 hf
        refine lv_iconst (v := (0 : Int32)) hx hb dX8_standsFor_27 (by decide) ?_
        refine lv_goto (tgt := 44) hx hb dX8_standsFor_28 (by decide) ?_
        exact retZ E hW (Or.inl rfl) ⟨Option.some.inj hf, rfl⟩ dX8_standsFor_44
      · replace hf := ite_t h10 hf
        refine lv_iconst (v := (1 : Int32)) hx hb dX8_standsFor_23 (by decide) ?_
        refine lv_goto (tgt := 44) hx hb dX8_standsFor_24 (by decide) ?_
        exact retZ E hW (Or.inr rfl) ⟨Option.some.inj hf, rfl⟩ dX8_standsFor_44
def f_X8_find_31 : Nat → CS → Int32 → Int32 → Int32 → Int32 → Int32 → Option ((Int32 ⊕ String) × CS)
  | 0, _, _, _, _, _, _ => none
  | n + 1, cs, v1, v2, v3, v4, v5 => if (ci cs 1) ≤ v5 then ((f_X2_size cs ).bind fun r5 => some (.inl r5, cs)) else ((f_X8_itemAt cs v5).bind fun r6 => ob r6 (f_X8_find_31 n cs v1 v2 v3 v4 (v5 + (1 : Int32))) fun a7 => (gd (a7 ∈ cl cs ∧ ck cs a7 = 1) <| if (cp cs a7 3) = 0 then ((f_X8_factOf cs (some a7) (1 : Int32)).bind fun r10 => if r10 = v1 then ((f_X8_standsFor cs (some a7) v2 v3 v4).bind fun r12 => if r12 = 0 then (f_X8_find_31 n cs v1 v2 v3 v4 (v5 + (1 : Int32))) else (if (cp cs a7 1) = v2 then ((f_X8_valueOf cs (some a7)).bind fun r17 => (f_X2_insert cs v5 (1 : Int32) r17).bind fun cs18 => f_X8_find_31 n cs18 v1 v2 v3 v4 (v5 + (1 : Int32))) else ((f_X8_valueOf cs (some a7)).bind fun r15 => (f_X2_insert cs v5 (0 : Int32) r15).bind fun cs16 => f_X8_find_31 n cs16 v1 v2 v3 v4 (v5 + (1 : Int32))))) else (f_X8_find_31 n cs v1 v2 v3 v4 (v5 + (1 : Int32)))) else (f_X8_find_31 n cs v1 v2 v3 v4 (v5 + (1 : Int32)))))
def f_X8_find (cs : CS) (v1 : Int32) (v2 : Int32) (v3 : Int32) (v4 : Int32) : Option ((Int32 ⊕ String) × CS) := if v1 < 0 then (some (.inr "java/lang/IllegalArgumentException", cs)) else (if v1 ≤ (99 : Int32) then ((f_X2_clear cs ).bind fun cs3 => f_X8_find_31 1000 cs3 v1 v2 v3 v4 (0 : Int32)) else (some (.inr "java/lang/IllegalArgumentException", cs)))
def rm_X8_find : Room := { frames := 10, cells := 1, slots := 6, locals := 150 }
set_option maxHeartbeats 4000000 in
set_option maxRecDepth 100000 in
theorem w_X8_find_31 {p : Program} {l : Launch} {e : Env} {s : State} {m : MethodId} {args : Array Value} {below : List Frame} {meth : Method} {c : Code} {X : XT} {B : Nat} {ms : MS} {o : Nat → Int64} {r : Int32 ⊕ String} {S9 : CS} (E : Ev X B p s m args meth c RX8 cX8_find 7 (some .int)) (hl0 : l.stackTraces = false) (hxt : ∀ x ∈ c.exceptionTable.toList, False) : ∀ (n : Nat) (cs : CS) (v1 : Int32) (v2 : Int32) (v3 : Int32) (v4 : Int32) (v5 : Int32) (H : Heap) (locs : List Loc) (ls : Array Slot), f_X8_find_31 n cs v1 v2 v3 v4 v5 = some (r, S9) → Ws X B s.heap H locs (cs, ms, o) → lv_has ls 7 [(0, .ref (X.1 0)), (1, .int v1), (2, .int v2), (3, .int v3), (4, .int v4), (5, .int v5)] → W p l e rm_X8_find s m args below meth c H locs 0 0 (vx_MQ below (QXI X B r (S9, ms, o)) (XCx X B r (S9, ms, o)) args s 1 6 (Ab B)) (F0 m 31 ls []) := by
  obtain ⟨hx, hb, hml, hown, hts, -⟩ := id E
  intro n
  induction n with
  | zero => intro cs v1 v2 v3 v4 v5 H locs ls hf; exact absurd hf nofun
  | succ n ih =>
    intro cs v1 v2 v3 v4 v5 H locs ls hf hW hl
    rw [f_X8_find_31] at hf
    refine lv_iload hx hb dX8_find_31 (lv_at hl 5 rfl) ?_
    refine lv_aload_n hx hb dX8_find_33 rfl (lv_at hl 0 rfl) ?_
    refine rg_X8_67 E hW dX8_find_34 ?_
    refine lv_icmp_ge (tgt := 120) hx hb dX8_find_37 (by decide) (fun h4 => ?_) (fun h4 => ?_)
    · replace hf := ite_t h4 hf
      refine lv_aload_n hx hb dX8_find_120 rfl (lv_at hl 0 rfl) ?_
      refine rg_X8_40 E hW dX8_find_121 ?_
      obtain ⟨r5, hc, hf⟩ := b1_e hf
      refine callVI (As := []) (rest := []) E hW (c_X2_size l hc) lk_X8_353 rcv_X2 (Nat.le_of_ble_eq_true rfl) (Nat.le_of_ble_eq_true rfl) (Nat.le_of_ble_eq_true rfl) (Nat.le_of_ble_eq_true rfl) hl.1 (Nat.le_of_ble_eq_true rfl) dX8_find_124 (fun H locs hW => ?_)
      refine W.widen (k := 1) (n := 6) (by decide) (by decide) ?_
      exact vx_ret (retIX E hW (exC hf) dX8_find_127)
    · replace hf := ite_f h4 hf
      refine lv_aload_n hx hb dX8_find_40 rfl (lv_at hl 0 rfl) ?_
      refine lv_iload hx hb dX8_find_41 (lv_at hl 5 rfl) ?_
      obtain ⟨r6, hc, hf⟩ := b1_e hf
      refine callVQ (As := [.int _]) (rest := []) E hW (c_X8_itemAt l hc) lk_X8_338 rcv_X8 (Nat.le_of_ble_eq_true rfl) (Nat.le_of_ble_eq_true rfl) (Nat.le_of_ble_eq_true rfl) (Nat.le_of_ble_eq_true rfl) hl.1 (Nat.le_of_ble_eq_true rfl) dX8_find_43 (fun H locs hW => ?_)
      cases r6 with
      | none =>
        replace hf := ob_n hf
        refine lv_astoreN (lv' := [_, _, _, _, _, _, _]) hx hb dX8_find_46 hl (by decide) rfl (fun ls hl => ?_)
        refine lv_aloadN hx hb dX8_find_48 (lv_at hl 0 rfl) ?_
        refine lv_ifnullN (tgt := 114) hx hb dX8_find_50 (by decide) ?_
        refine lv_iinc (v := _ + (1 : Int32)) (lv' := [_, _, _, _, _, _, _]) hx hb dX8_find_114 hl (k := 6) rfl rfl (by decide) rfl (fun ls hl => ?_)
        refine lv_goto (tgt := 31) hx hb dX8_find_117 (by decide) ?_
        exact ih _ _ _ _ _ _ _ _ _ hf hW (lv_sub hl [2, 3, 4, 5, 6, 0] rfl)
      | some a7 =>
        replace hf := ob_s hf
        refine lv_astore (lv' := [_, _, _, _, _, _, _]) hx hb dX8_find_46 hl (by decide) rfl (fun ls hl => ?_)
        refine lv_aload hx hb dX8_find_48 (lv_at hl 0 rfl) ?_
        refine lv_ifnull hx hb dX8_find_50 ?_
        refine lv_aload hx hb dX8_find_53 (lv_at hl 0 rfl) ?_
        obtain ⟨v8, hf⟩ := gd_e hf
        refine rg_X8_321 E hW v8 dX8_find_55 ?_
        refine lv_if_ne (tgt := 114) hx hb dX8_find_58 (by decide) (fun h9 => ?_) (fun h9 => ?_)
        · replace hf := ite_f h9 hf
          refine lv_iinc (v := _ + (1 : Int32)) (lv' := [_, _, _, _, _, _, _]) hx hb dX8_find_114 hl (k := 6) rfl rfl (by decide) rfl (fun ls hl => ?_)
          refine lv_goto (tgt := 31) hx hb dX8_find_117 (by decide) ?_
          exact ih _ _ _ _ _ _ _ _ _ hf hW (lv_sub hl [2, 3, 4, 5, 6, 0] rfl)
        · replace hf := ite_t h9 hf
          refine lv_aload_n hx hb dX8_find_61 rfl (lv_at hl 1 rfl) ?_
          refine lv_aload hx hb dX8_find_62 (lv_at hl 0 rfl) ?_
          refine lv_iconst (v := (1 : Int32)) hx hb dX8_find_64 (by decide) ?_
          obtain ⟨r10, hc, hf⟩ := b1_e hf
          refine callVI (As := [va_rf (some _), .int _]) (rest := []) E hW (c_X8_factOf l hc) lk_X8_341 rcv_X8 (Nat.le_of_ble_eq_true rfl) (Nat.le_of_ble_eq_true rfl) (Nat.le_of_ble_eq_true rfl) (Nat.le_of_ble_eq_true rfl) hl.1 (Nat.le_of_ble_eq_true rfl) dX8_find_65 (fun H locs hW => ?_)
          refine lv_iload_n hx hb dX8_find_68 rfl (lv_at hl 2 rfl) ?_
          refine lv_icmp_ne (tgt := 114) hx hb dX8_find_69 (by decide) (fun h11 => ?_) (fun h11 => ?_)
          · replace hf := ite_f h11 hf
            refine lv_iinc (v := _ + (1 : Int32)) (lv' := [_, _, _, _, _, _, _]) hx hb dX8_find_114 hl (k := 6) rfl rfl (by decide) rfl (fun ls hl => ?_)
            refine lv_goto (tgt := 31) hx hb dX8_find_117 (by decide) ?_
            exact ih _ _ _ _ _ _ _ _ _ hf hW (lv_sub hl [2, 3, 4, 5, 6, 0] rfl)
          · replace hf := ite_t h11 hf
            refine lv_aload_n hx hb dX8_find_72 rfl (lv_at hl 1 rfl) ?_
            refine lv_aload hx hb dX8_find_73 (lv_at hl 0 rfl) ?_
            refine lv_iload_n hx hb dX8_find_75 rfl (lv_at hl 3 rfl) ?_
            refine lv_iload_n hx hb dX8_find_76 rfl (lv_at hl 4 rfl) ?_
            refine lv_iload hx hb dX8_find_77 (lv_at hl 5 rfl) ?_
            obtain ⟨r12, hc, hf⟩ := b1_e hf
            refine callVI (As := [va_rf (some _), .int _, .int _, .int _]) (rest := []) E hW (c_X8_standsFor l hc) lk_X8_344 rcv_X8 (Nat.le_of_ble_eq_true rfl) (Nat.le_of_ble_eq_true rfl) (Nat.le_of_ble_eq_true rfl) (Nat.le_of_ble_eq_true rfl) hl.1 (Nat.le_of_ble_eq_true rfl) dX8_find_79 (fun H locs hW => ?_)
            refine lv_if_eq (tgt := 114) hx hb dX8_find_82 (by decide) (fun h13 => ?_) (fun h13 => ?_)
            · replace hf := ite_t h13 hf
              refine lv_iinc (v := _ + (1 : Int32)) (lv' := [_, _, _, _, _, _, _]) hx hb dX8_find_114 hl (k := 6) rfl rfl (by decide) rfl (fun ls hl => ?_)
              refine lv_goto (tgt := 31) hx hb dX8_find_117 (by decide) ?_
              exact ih _ _ _ _ _ _ _ _ _ hf hW (lv_sub hl [2, 3, 4, 5, 6, 0] rfl)
            · replace hf := ite_f h13 hf
              refine lv_aload_n hx hb dX8_find_85 rfl (lv_at hl 1 rfl) ?_
              refine rg_X8_40 E hW dX8_find_86 ?_
              refine lv_iload hx hb dX8_find_89 (lv_at hl 6 rfl) ?_
              refine lv_aload hx hb dX8_find_91 (lv_at hl 0 rfl) ?_
              refine rg_X8_348 E hW v8 dX8_find_93 ?_
              refine lv_iload_n hx hb dX8_find_96 rfl (lv_at hl 3 rfl) ?_
              refine lv_icmp_ne (tgt := 104) hx hb dX8_find_97 (by decide) (fun h14 => ?_) (fun h14 => ?_)
              · replace hf := ite_f h14 hf
                refine lv_iconst (v := (0 : Int32)) hx hb dX8_find_104 (by decide) ?_
                refine lv_aload_n hx hb dX8_find_105 rfl (lv_at hl 1 rfl) ?_
                refine lv_aload hx hb dX8_find_106 (lv_at hl 0 rfl) ?_
                obtain ⟨r15, hc, hf⟩ := b1_e hf
                refine callVI (As := [va_rf (some _)]) (rest := [_, _, _]) E hW (c_X8_valueOf l hc) lk_X8_324 rcv_X8 (Nat.le_of_ble_eq_true rfl) (Nat.le_of_ble_eq_true rfl) (Nat.le_of_ble_eq_true rfl) (Nat.le_of_ble_eq_true rfl) hl.1 (Nat.le_of_ble_eq_true rfl) dX8_find_108 (fun H locs hW => ?_)
                obtain ⟨cs16, hc, hf⟩ := b1_e hf
                refine callVV (As := [.int _, .int _, .int _]) (rest := []) E hW (c_X2_insert l hc) lk_X8_349 rcv_X2 (Nat.le_of_ble_eq_true rfl) (Nat.le_of_ble_eq_true rfl) (Nat.le_of_ble_eq_true rfl) (Nat.le_of_ble_eq_true rfl) hl.1 (Nat.le_of_ble_eq_true rfl) dX8_find_111 (fun H locs hW => ?_)
                refine lv_iinc (v := _ + (1 : Int32)) (lv' := [_, _, _, _, _, _, _]) hx hb dX8_find_114 hl (k := 6) rfl rfl (by decide) rfl (fun ls hl => ?_)
                refine lv_goto (tgt := 31) hx hb dX8_find_117 (by decide) ?_
                exact ih _ _ _ _ _ _ _ _ _ hf hW (lv_sub hl [2, 3, 4, 5, 6, 0] rfl)
              · replace hf := ite_t h14 hf
                refine lv_iconst (v := (1 : Int32)) hx hb dX8_find_100 (by decide) ?_
                refine lv_goto (tgt := 105) hx hb dX8_find_101 (by decide) ?_
                refine lv_aload_n hx hb dX8_find_105 rfl (lv_at hl 1 rfl) ?_
                refine lv_aload hx hb dX8_find_106 (lv_at hl 0 rfl) ?_
                obtain ⟨r17, hc, hf⟩ := b1_e hf
                refine callVI (As := [va_rf (some _)]) (rest := [_, _, _]) E hW (c_X8_valueOf l hc) lk_X8_324 rcv_X8 (Nat.le_of_ble_eq_true rfl) (Nat.le_of_ble_eq_true rfl) (Nat.le_of_ble_eq_true rfl) (Nat.le_of_ble_eq_true rfl) hl.1 (Nat.le_of_ble_eq_true rfl) dX8_find_108 (fun H locs hW => ?_)
                obtain ⟨cs18, hc, hf⟩ := b1_e hf
                refine callVV (As := [.int _, .int _, .int _]) (rest := []) E hW (c_X2_insert l hc) lk_X8_349 rcv_X2 (Nat.le_of_ble_eq_true rfl) (Nat.le_of_ble_eq_true rfl) (Nat.le_of_ble_eq_true rfl) (Nat.le_of_ble_eq_true rfl) hl.1 (Nat.le_of_ble_eq_true rfl) dX8_find_111 (fun H locs hW => ?_)
                refine lv_iinc (v := _ + (1 : Int32)) (lv' := [_, _, _, _, _, _, _]) hx hb dX8_find_114 hl (k := 6) rfl rfl (by decide) rfl (fun ls hl => ?_)
                refine lv_goto (tgt := 31) hx hb dX8_find_117 (by decide) ?_
                exact ih _ _ _ _ _ _ _ _ _ hf hW (lv_sub hl [2, 3, 4, 5, 6, 0] rfl)
set_option maxHeartbeats 4000000 in
set_option maxRecDepth 100000 in
theorem c_X8_find (l : Launch) (hl0 : l.stackTraces = false) {X : XT} {B : Nat} {cs : CS} {ms : MS} {o : Nat → Int64} {v1 : Int32} {v2 : Int32} {v3 : Int32} {v4 : Int32} {r : Int32 ⊕ String} {S9 : CS} (hf : f_X8_find cs v1 v2 v3 v4 = some (r, S9)) : vx_Met l yX8_find (.code yX8_find cX8_find 7 (some .int) :: BIG) rm_X8_find (Pre X B (cs, ms, o) [.ref (X.1 0), .int v1, .int v2, .int v3, .int v4]) (QXI X B r (S9, ms, o)) (XCx X B r (S9, ms, o)) 1 6 (Ab B) := by
  refine xentry (by decide +kernel) rfl (Nat.le_of_ble_eq_true rfl) (fun p e s m below meth c ls E hxt hW hl => ?_)
  obtain ⟨hx, hb, hml, hown, hts, -⟩ := id E
  replace hl : lv_has ls 7 [(0, .ref (X.1 0)), (1, .int v1), (2, .int v2), (3, .int v3), (4, .int v4)] := hl
  unfold f_X8_find at hf
  refine lv_iload_n hx hb dX8_find_0 rfl (lv_at hl 1 rfl) ?_
  refine lv_if_lt (tgt := 10) hx hb dX8_find_1 (by decide) (fun h1 => ?_) (fun h1 => ?_)
  · replace hf := ite_t h1 hf
    exact throwSW E hl0 hxt hW th_X8_84_333_88 dX8_find_10 dX8_find_13 dX8_find_14 dX8_find_17 dX8_find_20 (etC hf) (Nat.le_of_ble_eq_true rfl) (Nat.le_of_ble_eq_true rfl) (Nat.le_of_ble_eq_true rfl) (Nat.le_of_ble_eq_true rfl) (Nat.le_of_ble_eq_true rfl) (by decide) (by decide) (hl.1.trans hml.symm)
  · replace hf := ite_f h1 hf
    refine lv_iload_n hx hb dX8_find_4 rfl (lv_at hl 1 rfl) ?_
    refine lv_bipush (v := (99 : Int32)) hx hb dX8_find_5 (by decide) ?_
    refine lv_icmp_le (tgt := 21) hx hb dX8_find_7 (by decide) (fun h2 => ?_) (fun h2 => ?_)
    · replace hf := ite_t h2 hf
      refine lv_aload_n hx hb dX8_find_21 rfl (lv_at hl 0 rfl) ?_
      refine rg_X8_40 E hW dX8_find_22 ?_
      obtain ⟨cs3, hc, hf⟩ := b1_e hf
      refine callVV (As := []) (rest := []) E hW (c_X2_clear l hc) lk_X8_335 rcv_X2 (Nat.le_of_ble_eq_true rfl) (Nat.le_of_ble_eq_true rfl) (Nat.le_of_ble_eq_true rfl) (Nat.le_of_ble_eq_true rfl) hl.1 (Nat.le_of_ble_eq_true rfl) dX8_find_25 (fun H locs hW => ?_)
      refine lv_iconst (v := (0 : Int32)) hx hb dX8_find_28 (by decide) ?_
      refine lv_istore (lv' := [_, _, _, _, _, _]) hx hb dX8_find_29 hl (by decide) rfl (fun ls hl => ?_)
      exact w_X8_find_31 E hl0 hxt 1000 _ _ _ _ _ _ _ _ _ hf hW (lv_sub hl [1, 2, 3, 4, 5, 0] rfl)
    · replace hf := ite_f h2 hf
      exact throwSW E hl0 hxt hW th_X8_84_333_88 dX8_find_10 dX8_find_13 dX8_find_14 dX8_find_17 dX8_find_20 (etC hf) (Nat.le_of_ble_eq_true rfl) (Nat.le_of_ble_eq_true rfl) (Nat.le_of_ble_eq_true rfl) (Nat.le_of_ble_eq_true rfl) (Nat.le_of_ble_eq_true rfl) (by decide) (by decide) (hl.1.trans hml.symm)
def f_X8_found (cs : CS) (v1 : Int32) : Option (Int32) := (f_X2_numberAt cs v1).bind fun r1 => some r1
def rm_X8_found : Room := { frames := 1, cells := 0, slots := 0, locals := 21 }
set_option maxHeartbeats 4000000 in
set_option maxRecDepth 100000 in
theorem c_X8_found (l : Launch) {X : XT} {B : Nat} {cs : CS} {ms : MS} {o : Nat → Int64} {v1 : Int32} {r : Int32} (hf : f_X8_found cs v1 = some r) : Met l yX8_found (.code yX8_found cX8_found 2 (some .int) :: BIG) rm_X8_found (Pre X B (cs, ms, o) [.ref (X.1 0), .int v1]) (QI X B r (cs, ms, o)) 0 0 (Ab B) := by
  refine entry (by decide +kernel) rfl (Nat.le_of_ble_eq_true rfl) (fun p e s m below meth c ls E hW hl => ?_)
  obtain ⟨hx, hb, hml, hown, hts, -⟩ := id E
  replace hl : lv_has ls 2 [(0, .ref (X.1 0)), (1, .int v1)] := hl
  unfold f_X8_found at hf
  refine lv_aload_n hx hb dX8_found_0 rfl (lv_at hl 0 rfl) ?_
  refine rg_X8_40 E hW dX8_found_1 ?_
  refine lv_iload_n hx hb dX8_found_4 rfl (lv_at hl 1 rfl) ?_
  obtain ⟨r1, hc, hf⟩ := b1_e hf
  refine callVI (As := [.int _]) (rest := []) E hW (c_X2_numberAt l hc) lk_X8_356 rcv_X2 (Nat.le_of_ble_eq_true rfl) (Nat.le_of_ble_eq_true rfl) (Nat.le_of_ble_eq_true rfl) (Nat.le_of_ble_eq_true rfl) hl.1 (Nat.le_of_ble_eq_true rfl) dX8_found_5 (fun H locs hW => ?_)
  exact retI E hW ⟨Option.some.inj hf, rfl⟩ dX8_found_8
def f_X8_otherOfPair_2 : Nat → CS → Nat → Int32 → Option (Option Nat)
  | 0, _, _, _ => none
  | n + 1, cs, v1, v2 => if (ci cs 1) ≤ v2 then (some none) else ((f_X8_itemAt cs v2).bind fun r2 => ob r2 (f_X8_otherOfPair_2 n cs v1 (v2 + (1 : Int32))) fun a3 => (if some a3 = some v1 then (f_X8_otherOfPair_2 n cs v1 (v2 + (1 : Int32))) else (gd (a3 ∈ cl cs ∧ ck cs a3 = 1) <| if (cp cs a3 3) = 0 then (gd (v1 ∈ cl cs ∧ ck cs v1 = 1) <| if (cp cs a3 0) = (cp cs v1 0) then ((f_X8_factOf cs (some a3) (0 : Int32)).bind fun r9 => if r9 = (1 : Int32) then ((f_X8_factOf cs (some a3) (1 : Int32)).bind fun r11 => (f_X8_factOf cs (some v1) (1 : Int32)).bind fun r12 => if r11 = r12 then (some (some a3)) else (f_X8_otherOfPair_2 n cs v1 (v2 + (1 : Int32)))) else (f_X8_otherOfPair_2 n cs v1 (v2 + (1 : Int32)))) else (f_X8_otherOfPair_2 n cs v1 (v2 + (1 : Int32)))) else (f_X8_otherOfPair_2 n cs v1 (v2 + (1 : Int32))))))
def f_X8_otherOfPair (cs : CS) (v1 : Option Nat) : Option (Option Nat) := ob v1 (none) fun a1 => (f_X8_otherOfPair_2 1000 cs a1 (0 : Int32))
def rm_X8_otherOfPair : Room := { frames := 4, cells := 0, slots := 0, locals := 92 }
set_option maxHeartbeats 4000000 in
set_option maxRecDepth 100000 in
theorem w_X8_otherOfPair_2 {p : Program} {l : Launch} {e : Env} {s : State} {m : MethodId} {args : Array Value} {below : List Frame} {meth : Method} {c : Code} {X : XT} {B : Nat} {ms : MS} {o : Nat → Int64} {r : Option Nat} (E : Ev X B p s m args meth c RX8 cX8_otherOfPair 4 (some (.object "BreakersYard$Item"))) : ∀ (n : Nat) (cs : CS) (v1 : Nat) (v2 : Int32) (H : Heap) (locs : List Loc) (ls : Array Slot), f_X8_otherOfPair_2 n cs v1 v2 = some r → Ws X B s.heap H locs (cs, ms, o) → lv_has ls 4 [(0, .ref (X.1 0)), (1, .ref v1), (2, .int v2)] → W p l e rm_X8_otherOfPair s m args below meth c H locs 0 0 (MQ below (QQ X B r (cs, ms, o)) args s 0 0 (Ab B)) (F0 m 2 ls []) := by
  obtain ⟨hx, hb, hml, hown, hts, -⟩ := id E
  intro n
  induction n with
  | zero => intro cs v1 v2 H locs ls hf; exact absurd hf nofun
  | succ n ih =>
    intro cs v1 v2 H locs ls hf hW hl
    rw [f_X8_otherOfPair_2] at hf
    refine lv_iload_n hx hb dX8_otherOfPair_2 rfl (lv_at hl 2 rfl) ?_
    refine lv_aload_n hx hb dX8_otherOfPair_3 rfl (lv_at hl 0 rfl) ?_
    refine rg_X8_67 E hW dX8_otherOfPair_4 ?_
    refine lv_icmp_ge (tgt := 76) hx hb dX8_otherOfPair_7 (by decide) (fun h1 => ?_) (fun h1 => ?_)
    · replace hf := ite_t h1 hf
      refine lv_null hx hb dX8_otherOfPair_76 ?_
      exact retQ (v := none) E hW ⟨Option.some.inj hf, rfl⟩ dX8_otherOfPair_77
    · replace hf := ite_f h1 hf
      refine lv_aload_n hx hb dX8_otherOfPair_10 rfl (lv_at hl 0 rfl) ?_
      refine lv_iload_n hx hb dX8_otherOfPair_11 rfl (lv_at hl 2 rfl) ?_
      obtain ⟨r2, hc, hf⟩ := b1_e hf
      refine callVQ (As := [.int _]) (rest := []) E hW (c_X8_itemAt l hc) lk_X8_338 rcv_X8 (Nat.le_of_ble_eq_true rfl) (Nat.le_of_ble_eq_true rfl) (Nat.le_of_ble_eq_true rfl) (Nat.le_of_ble_eq_true rfl) hl.1 (Nat.le_of_ble_eq_true rfl) dX8_otherOfPair_12 (fun H locs hW => ?_)
      cases r2 with
      | none =>
        replace hf := ob_n hf
        refine lv_astore_nN (lv' := [_, _, _, _]) hx hb dX8_otherOfPair_15 rfl hl (by decide) rfl (fun ls hl => ?_)
        refine lv_aload_nN hx hb dX8_otherOfPair_16 rfl (lv_at hl 0 rfl) ?_
        refine lv_ifnullN (tgt := 70) hx hb dX8_otherOfPair_17 (by decide) ?_
        refine lv_iinc (v := _ + (1 : Int32)) (lv' := [_, _, _, _]) hx hb dX8_otherOfPair_70 hl (k := 3) rfl rfl (by decide) rfl (fun ls hl => ?_)
        refine lv_goto (tgt := 2) hx hb dX8_otherOfPair_73 (by decide) ?_
        exact ih _ _ _ _ _ _ hf hW (lv_sub hl [2, 3, 0] rfl)
      | some a3 =>
        replace hf := ob_s hf
        refine lv_astore_n (lv' := [_, _, _, _]) hx hb dX8_otherOfPair_15 rfl hl (by decide) rfl (fun ls hl => ?_)
        refine lv_aload_n hx hb dX8_otherOfPair_16 rfl (lv_at hl 0 rfl) ?_
        refine lv_ifnull hx hb dX8_otherOfPair_17 ?_
        refine lv_aload_n hx hb dX8_otherOfPair_20 rfl (lv_at hl 0 rfl) ?_
        refine lv_aload_n hx hb dX8_otherOfPair_21 rfl (lv_at hl 2 rfl) ?_
        refine lv_acmp_eq (rx := some _) (ry := some _) (tgt := 70) hx hb dX8_otherOfPair_22 (by decide) (fun h4 => ?_) (fun h4 => ?_)
        · replace hf := ite_t h4 hf
          refine lv_iinc (v := _ + (1 : Int32)) (lv' := [_, _, _, _]) hx hb dX8_otherOfPair_70 hl (k := 3) rfl rfl (by decide) rfl (fun ls hl => ?_)
          refine lv_goto (tgt := 2) hx hb dX8_otherOfPair_73 (by decide) ?_
          exact ih _ _ _ _ _ _ hf hW (lv_sub hl [2, 3, 0] rfl)
        · replace hf := ite_f h4 hf
          refine lv_aload_n hx hb dX8_otherOfPair_25 rfl (lv_at hl 0 rfl) ?_
          obtain ⟨v5, hf⟩ := gd_e hf
          refine rg_X8_321 E hW v5 dX8_otherOfPair_26 ?_
          refine lv_if_ne (tgt := 70) hx hb dX8_otherOfPair_29 (by decide) (fun h6 => ?_) (fun h6 => ?_)
          · replace hf := ite_f h6 hf
            refine lv_iinc (v := _ + (1 : Int32)) (lv' := [_, _, _, _]) hx hb dX8_otherOfPair_70 hl (k := 3) rfl rfl (by decide) rfl (fun ls hl => ?_)
            refine lv_goto (tgt := 2) hx hb dX8_otherOfPair_73 (by decide) ?_
            exact ih _ _ _ _ _ _ hf hW (lv_sub hl [2, 3, 0] rfl)
          · replace hf := ite_t h6 hf
            refine lv_aload_n hx hb dX8_otherOfPair_32 rfl (lv_at hl 0 rfl) ?_
            refine rg_X8_315 E hW v5 dX8_otherOfPair_33 ?_
            refine lv_aload_n hx hb dX8_otherOfPair_36 rfl (lv_at hl 2 rfl) ?_
            obtain ⟨v7, hf⟩ := gd_e hf
            refine rg_X8_315 E hW v7 dX8_otherOfPair_37 ?_
            refine lv_icmp_ne (tgt := 70) hx hb dX8_otherOfPair_40 (by decide) (fun h8 => ?_) (fun h8 => ?_)
            · replace hf := ite_f h8 hf
              refine lv_iinc (v := _ + (1 : Int32)) (lv' := [_, _, _, _]) hx hb dX8_otherOfPair_70 hl (k := 3) rfl rfl (by decide) rfl (fun ls hl => ?_)
              refine lv_goto (tgt := 2) hx hb dX8_otherOfPair_73 (by decide) ?_
              exact ih _ _ _ _ _ _ hf hW (lv_sub hl [2, 3, 0] rfl)
            · replace hf := ite_t h8 hf
              refine lv_aload_n hx hb dX8_otherOfPair_43 rfl (lv_at hl 1 rfl) ?_
              refine lv_aload_n hx hb dX8_otherOfPair_44 rfl (lv_at hl 0 rfl) ?_
              refine lv_iconst (v := (0 : Int32)) hx hb dX8_otherOfPair_45 (by decide) ?_
              obtain ⟨r9, hc, hf⟩ := b1_e hf
              refine callVI (As := [va_rf (some _), .int _]) (rest := []) E hW (c_X8_factOf l hc) lk_X8_341 rcv_X8 (Nat.le_of_ble_eq_true rfl) (Nat.le_of_ble_eq_true rfl) (Nat.le_of_ble_eq_true rfl) (Nat.le_of_ble_eq_true rfl) hl.1 (Nat.le_of_ble_eq_true rfl) dX8_otherOfPair_46 (fun H locs hW => ?_)
              refine lv_iconst (v := (1 : Int32)) hx hb dX8_otherOfPair_49 (by decide) ?_
              refine lv_icmp_ne (tgt := 70) hx hb dX8_otherOfPair_50 (by decide) (fun h10 => ?_) (fun h10 => ?_)
              · replace hf := ite_f h10 hf
                refine lv_iinc (v := _ + (1 : Int32)) (lv' := [_, _, _, _]) hx hb dX8_otherOfPair_70 hl (k := 3) rfl rfl (by decide) rfl (fun ls hl => ?_)
                refine lv_goto (tgt := 2) hx hb dX8_otherOfPair_73 (by decide) ?_
                exact ih _ _ _ _ _ _ hf hW (lv_sub hl [2, 3, 0] rfl)
              · replace hf := ite_t h10 hf
                refine lv_aload_n hx hb dX8_otherOfPair_53 rfl (lv_at hl 1 rfl) ?_
                refine lv_aload_n hx hb dX8_otherOfPair_54 rfl (lv_at hl 0 rfl) ?_
                refine lv_iconst (v := (1 : Int32)) hx hb dX8_otherOfPair_55 (by decide) ?_
                obtain ⟨r11, hc, hf⟩ := b1_e hf
                refine callVI (As := [va_rf (some _), .int _]) (rest := []) E hW (c_X8_factOf l hc) lk_X8_341 rcv_X8 (Nat.le_of_ble_eq_true rfl) (Nat.le_of_ble_eq_true rfl) (Nat.le_of_ble_eq_true rfl) (Nat.le_of_ble_eq_true rfl) hl.1 (Nat.le_of_ble_eq_true rfl) dX8_otherOfPair_56 (fun H locs hW => ?_)
                refine lv_aload_n hx hb dX8_otherOfPair_59 rfl (lv_at hl 1 rfl) ?_
                refine lv_aload_n hx hb dX8_otherOfPair_60 rfl (lv_at hl 2 rfl) ?_
                refine lv_iconst (v := (1 : Int32)) hx hb dX8_otherOfPair_61 (by decide) ?_
                obtain ⟨r12, hc, hf⟩ := b1_e hf
                refine callVI (As := [va_rf (some _), .int _]) (rest := [_]) E hW (c_X8_factOf l hc) lk_X8_341 rcv_X8 (Nat.le_of_ble_eq_true rfl) (Nat.le_of_ble_eq_true rfl) (Nat.le_of_ble_eq_true rfl) (Nat.le_of_ble_eq_true rfl) hl.1 (Nat.le_of_ble_eq_true rfl) dX8_otherOfPair_62 (fun H locs hW => ?_)
                refine lv_icmp_ne (tgt := 70) hx hb dX8_otherOfPair_65 (by decide) (fun h13 => ?_) (fun h13 => ?_)
                · replace hf := ite_f h13 hf
                  refine lv_iinc (v := _ + (1 : Int32)) (lv' := [_, _, _, _]) hx hb dX8_otherOfPair_70 hl (k := 3) rfl rfl (by decide) rfl (fun ls hl => ?_)
                  refine lv_goto (tgt := 2) hx hb dX8_otherOfPair_73 (by decide) ?_
                  exact ih _ _ _ _ _ _ hf hW (lv_sub hl [2, 3, 0] rfl)
                · replace hf := ite_t h13 hf
                  refine lv_aload_n hx hb dX8_otherOfPair_68 rfl (lv_at hl 0 rfl) ?_
                  exact retQ (v := some _) E hW ⟨Option.some.inj hf, rfl⟩ dX8_otherOfPair_69
set_option maxHeartbeats 4000000 in
set_option maxRecDepth 100000 in
theorem c_X8_otherOfPair (l : Launch) {X : XT} {B : Nat} {cs : CS} {ms : MS} {o : Nat → Int64} {v1 : Option Nat} {r : Option Nat} (hf : f_X8_otherOfPair cs v1 = some r) : Met l yX8_otherOfPair (.code yX8_otherOfPair cX8_otherOfPair 4 (some (.object "BreakersYard$Item")) :: BIG) rm_X8_otherOfPair (Pre X B (cs, ms, o) [.ref (X.1 0), va_rf v1]) (QQ X B r (cs, ms, o)) 0 0 (Ab B) := by
  cases v1 with
  | none =>
    refine entry (by decide +kernel) rfl (Nat.le_of_ble_eq_true rfl) (fun p e s m below meth c ls E hW hl => ?_)
    obtain ⟨hx, hb, hml, hown, hts, -⟩ := id E
    replace hl : lv_has ls 4 [(0, .ref (X.1 0)), (1, .null)] := hl
    unfold f_X8_otherOfPair at hf
    replace hf := ob_n hf
    refine lv_iconst (v := (0 : Int32)) hx hb dX8_otherOfPair_0 (by decide) ?_
    refine lv_istore_n (lv' := [_, _, _]) hx hb dX8_otherOfPair_1 rfl hl (by decide) rfl (fun ls hl => ?_)
    exact absurd hf nofun
  | some a1 =>
    refine entry (by decide +kernel) rfl (Nat.le_of_ble_eq_true rfl) (fun p e s m below meth c ls E hW hl => ?_)
    obtain ⟨hx, hb, hml, hown, hts, -⟩ := id E
    replace hl : lv_has ls 4 [(0, .ref (X.1 0)), (1, .ref a1)] := hl
    unfold f_X8_otherOfPair at hf
    replace hf := ob_s hf
    refine lv_iconst (v := (0 : Int32)) hx hb dX8_otherOfPair_0 (by decide) ?_
    refine lv_istore_n (lv' := [_, _, _]) hx hb dX8_otherOfPair_1 rfl hl (by decide) rfl (fun ls hl => ?_)
    exact w_X8_otherOfPair_2 E 1000 _ _ _ _ _ _ hf hW (lv_sub hl [1, 2, 0] rfl)
def f_X8_sellFor (cs : CS) (v1 : Option Nat) (v2 : Int32) : Option (Int32 × CS) := ob v1 ((f_X8_move cs none (1 : Int32)).bind fun cs1 => none) fun a1 => ((f_X8_move cs (some a1) (1 : Int32)).bind fun cs2 => gd (a1 ∈ cl cs2 ∧ ck cs2 a1 = 1) <| some (v2, (cjU (cpU cs2 a1 5 v2) 0 ((cj (cpU cs2 a1 5 v2) 0) + v2.toInt64))))
def rm_X8_sellFor : Room := { frames := 5, cells := 0, slots := 0, locals := 117 }
set_option maxHeartbeats 4000000 in
set_option maxRecDepth 100000 in
theorem c_X8_sellFor (l : Launch) {X : XT} {B : Nat} {cs : CS} {ms : MS} {o : Nat → Int64} {v1 : Option Nat} {v2 : Int32} {r : Int32} {S9 : CS} (hf : f_X8_sellFor cs v1 v2 = some (r, S9)) : Met l yX8_sellFor (.code yX8_sellFor cX8_sellFor 3 (some .int) :: BIG) rm_X8_sellFor (Pre X B (cs, ms, o) [.ref (X.1 0), va_rf v1, .int v2]) (QI X B r (S9, ms, o)) 0 0 (Ab B) := by
  cases v1 with
  | none =>
    refine entry (by decide +kernel) rfl (Nat.le_of_ble_eq_true rfl) (fun p e s m below meth c ls E hW hl => ?_)
    obtain ⟨hx, hb, hml, hown, hts, -⟩ := id E
    replace hl : lv_has ls 3 [(0, .ref (X.1 0)), (1, .null), (2, .int v2)] := hl
    unfold f_X8_sellFor at hf
    replace hf := ob_n hf
    refine lv_aload_n hx hb dX8_sellFor_0 rfl (lv_at hl 0 rfl) ?_
    refine lv_aload_nN hx hb dX8_sellFor_1 rfl (lv_at hl 1 rfl) ?_
    refine lv_iconst (v := (1 : Int32)) hx hb dX8_sellFor_2 (by decide) ?_
    obtain ⟨cs1, hc, hf⟩ := b1_e hf
    refine callVV (As := [va_rf none, .int _]) (rest := []) E hW (c_X8_move l hc) lk_X8_361 rcv_X8 (Nat.le_of_ble_eq_true rfl) (Nat.le_of_ble_eq_true rfl) (Nat.le_of_ble_eq_true rfl) (Nat.le_of_ble_eq_true rfl) hl.1 (Nat.le_of_ble_eq_true rfl) dX8_sellFor_3 (fun H locs hW => ?_)
    refine lv_aload_nN hx hb dX8_sellFor_6 rfl (lv_at hl 1 rfl) ?_
    refine lv_iload_n hx hb dX8_sellFor_7 rfl (lv_at hl 2 rfl) ?_
    exact absurd hf nofun
  | some a1 =>
    refine entry (by decide +kernel) rfl (Nat.le_of_ble_eq_true rfl) (fun p e s m below meth c ls E hW hl => ?_)
    obtain ⟨hx, hb, hml, hown, hts, -⟩ := id E
    replace hl : lv_has ls 3 [(0, .ref (X.1 0)), (1, .ref a1), (2, .int v2)] := hl
    unfold f_X8_sellFor at hf
    replace hf := ob_s hf
    refine lv_aload_n hx hb dX8_sellFor_0 rfl (lv_at hl 0 rfl) ?_
    refine lv_aload_n hx hb dX8_sellFor_1 rfl (lv_at hl 1 rfl) ?_
    refine lv_iconst (v := (1 : Int32)) hx hb dX8_sellFor_2 (by decide) ?_
    obtain ⟨cs2, hc, hf⟩ := b1_e hf
    refine callVV (As := [va_rf (some _), .int _]) (rest := []) E hW (c_X8_move l hc) lk_X8_361 rcv_X8 (Nat.le_of_ble_eq_true rfl) (Nat.le_of_ble_eq_true rfl) (Nat.le_of_ble_eq_true rfl) (Nat.le_of_ble_eq_true rfl) hl.1 (Nat.le_of_ble_eq_true rfl) dX8_sellFor_3 (fun H locs hW => ?_)
    refine lv_aload_n hx hb dX8_sellFor_6 rfl (lv_at hl 1 rfl) ?_
    refine lv_iload_n hx hb dX8_sellFor_7 rfl (lv_at hl 2 rfl) ?_
    obtain ⟨v3, hf⟩ := gd_e hf
    refine rp_X8_327 E hW v3 dX8_sellFor_8 (fun H locs hW => ?_)
    refine lv_aload_n hx hb dX8_sellFor_11 rfl (lv_at hl 0 rfl) ?_
    refine lv_dup hx hb dX8_sellFor_12 rfl ?_
    refine rg_X8_76 E hW dX8_sellFor_13 ?_
    refine lv_iload_n hx hb dX8_sellFor_16 rfl (lv_at hl 2 rfl) ?_
    refine lv_i2l hx hb dX8_sellFor_17 rfl ?_
    refine lv_ladd hx hb dX8_sellFor_18 ?_
    refine rp_X8_76 E hW dX8_sellFor_19 (fun H locs hW => ?_)
    refine lv_iload_n hx hb dX8_sellFor_22 rfl (lv_at hl 2 rfl) ?_
    exact retI E hW (e2C hf) dX8_sellFor_23
def f_X8_sell_56 (cs : CS) (v3 : Nat) (v4 : Int32) : Option ((Int32 ⊕ String) × CS) := (f_X0_forget cs ).bind fun cs15 => if v4 = (1 : Int32) then ((f_X8_otherOfPair cs15 (some v3)).bind fun r17 => ob r17 ((f_X8_valueOf cs15 (some v3)).bind fun r19 => b2 (f_X8_sellFor cs15 (some v3) (r19 / (2 : Int32))) fun r21 cs20 => some (.inl r21, cs20)) fun a18 => ((f_X8_valueOf cs15 (some v3)).bind fun r22 => b2 (f_X8_sellFor cs15 (some v3) r22) fun r24 cs23 => (f_X8_valueOf cs23 (some a18)).bind fun r25 => b2 (f_X8_sellFor cs23 (some a18) r25) fun r27 cs26 => some (.inl (r24 + r27), cs26))) else ((f_X8_valueOf cs15 (some v3)).bind fun r28 => b2 (f_X8_sellFor cs15 (some v3) r28) fun r30 cs29 => some (.inl r30, cs29))
def f_X8_sell_26 (cs : CS) (v2 : Int32) (v3 : Nat) : Option ((Int32 ⊕ String) × CS) := gd (v3 ∈ cl cs ∧ ck cs v3 = 1) <| if (cp cs v3 3) = 0 then ((f_X8_factOf cs (some v3) (0 : Int32)).bind fun r13 => if r13 = (4 : Int32) then (if v2 = 0 then (some (.inl (-2 : Int32), cs)) else (f_X8_sell_56 cs v3 r13)) else (f_X8_sell_56 cs v3 r13)) else (some (.inl (-1 : Int32), cs))
def f_X8_sell (cs : CS) (v1 : Int32) (v2 : Int32) : Option ((Int32 ⊕ String) × CS) := bx (f_X8_itemOf cs v1) fun b3 cs2 => ob b3 (if v2 = 0 then (none) else (if v2 = (1 : Int32) then (none) else (some (.inr "java/lang/IllegalArgumentException", cs2)))) fun a7 => (if v2 = 0 then (f_X8_sell_26 cs2 v2 a7) else (if v2 = (1 : Int32) then (f_X8_sell_26 cs2 v2 a7) else (some (.inr "java/lang/IllegalArgumentException", cs2))))
def rm_X8_sell : Room := { frames := 11, cells := 2, slots := 12, locals := 172 }
set_option maxHeartbeats 4000000 in
set_option maxRecDepth 100000 in
theorem w_X8_sell_56 {p : Program} {l : Launch} {e : Env} {s : State} {m : MethodId} {args : Array Value} {below : List Frame} {meth : Method} {c : Code} {X : XT} {B : Nat} {ms : MS} {o : Nat → Int64} {r : Int32 ⊕ String} {S9 : CS} (E : Ev X B p s m args meth c RX8 cX8_sell 6 (some .int)) (hl0 : l.stackTraces = false) (hxt : ∀ x ∈ c.exceptionTable.toList, False) : ∀ (cs : CS) (v3 : Nat) (v4 : Int32) (H : Heap) (locs : List Loc) (ls : Array Slot), f_X8_sell_56 cs v3 v4 = some (r, S9) → Ws X B s.heap H locs (cs, ms, o) → lv_has ls 6 [(0, .ref (X.1 0)), (3, .ref v3), (4, .int v4)] → W p l e rm_X8_sell s m args below meth c H locs 1 6 (vx_MQ below (QXI X B r (S9, ms, o)) (XCx X B r (S9, ms, o)) args s 2 12 (Ab B)) (F0 m 56 ls []) := by
  obtain ⟨hx, hb, hml, hown, hts, -⟩ := id E
  intro cs v3 v4 H locs ls hf hW hl
  unfold f_X8_sell_56 at hf
  refine lv_aload_n hx hb dX8_sell_56 rfl (lv_at hl 0 rfl) ?_
  refine rg_X8_33 E hW dX8_sell_57 ?_
  obtain ⟨cs15, hc, hf⟩ := b1_e hf
  refine callVV (As := []) (rest := []) E hW (c_X0_forget l hc) lk_X8_225 rcv_X0 (Nat.le_of_ble_eq_true rfl) (Nat.le_of_ble_eq_true rfl) (Nat.le_of_ble_eq_true rfl) (Nat.le_of_ble_eq_true rfl) hl.1 (Nat.le_of_ble_eq_true rfl) dX8_sell_60 (fun H locs hW => ?_)
  refine lv_iload hx hb dX8_sell_63 (lv_at hl 2 rfl) ?_
  refine lv_iconst (v := (1 : Int32)) hx hb dX8_sell_65 (by decide) ?_
  refine lv_icmp_eq (tgt := 80) hx hb dX8_sell_66 (by decide) (fun h16 => ?_) (fun h16 => ?_)
  · replace hf := ite_t h16 hf
    refine lv_aload_n hx hb dX8_sell_80 rfl (lv_at hl 0 rfl) ?_
    refine lv_aload_n hx hb dX8_sell_81 rfl (lv_at hl 1 rfl) ?_
    obtain ⟨r17, hc, hf⟩ := b1_e hf
    refine callVQ (As := [va_rf (some _)]) (rest := []) E hW (c_X8_otherOfPair l hc) lk_X8_378 rcv_X8 (Nat.le_of_ble_eq_true rfl) (Nat.le_of_ble_eq_true rfl) (Nat.le_of_ble_eq_true rfl) (Nat.le_of_ble_eq_true rfl) hl.1 (Nat.le_of_ble_eq_true rfl) dX8_sell_82 (fun H locs hW => ?_)
    cases r17 with
    | none =>
      replace hf := ob_n hf
      refine lv_astoreN (lv' := [_, _, _, _]) hx hb dX8_sell_85 hl (by decide) rfl (fun ls hl => ?_)
      refine lv_aloadN hx hb dX8_sell_87 (lv_at hl 0 rfl) ?_
      refine lv_ifnonnullN hx hb dX8_sell_89 ?_
      refine lv_aload_n hx hb dX8_sell_92 rfl (lv_at hl 1 rfl) ?_
      refine lv_aload_n hx hb dX8_sell_93 rfl (lv_at hl 2 rfl) ?_
      refine lv_aload_n hx hb dX8_sell_94 rfl (lv_at hl 1 rfl) ?_
      refine lv_aload_n hx hb dX8_sell_95 rfl (lv_at hl 2 rfl) ?_
      obtain ⟨r19, hc, hf⟩ := b1_e hf
      refine callVI (As := [va_rf (some _)]) (rest := [_, _]) E hW (c_X8_valueOf l hc) lk_X8_324 rcv_X8 (Nat.le_of_ble_eq_true rfl) (Nat.le_of_ble_eq_true rfl) (Nat.le_of_ble_eq_true rfl) (Nat.le_of_ble_eq_true rfl) hl.1 (Nat.le_of_ble_eq_true rfl) dX8_sell_96 (fun H locs hW => ?_)
      refine lv_iconst (v := (2 : Int32)) hx hb dX8_sell_99 (by decide) ?_
      refine lv_idiv hx hb dX8_sell_100 (by decide) ?_
      obtain ⟨r21, cs20, hc, hf⟩ := b2_e hf
      refine callVI (As := [va_rf (some _), .int _]) (rest := []) E hW (c_X8_sellFor l hc) lk_X8_375 rcv_X8 (Nat.le_of_ble_eq_true rfl) (Nat.le_of_ble_eq_true rfl) (Nat.le_of_ble_eq_true rfl) (Nat.le_of_ble_eq_true rfl) hl.1 (Nat.le_of_ble_eq_true rfl) dX8_sell_101 (fun H locs hW => ?_)
      refine W.widen (k := 2) (n := 12) (by decide) (by decide) ?_
      exact vx_ret (retIX E hW (exC hf) dX8_sell_104)
    | some a18 =>
      replace hf := ob_s hf
      refine lv_astore (lv' := [_, _, _, _]) hx hb dX8_sell_85 hl (by decide) rfl (fun ls hl => ?_)
      refine lv_aload hx hb dX8_sell_87 (lv_at hl 0 rfl) ?_
      refine lv_ifnonnull (tgt := 105) hx hb dX8_sell_89 (by decide) ?_
      refine lv_aload_n hx hb dX8_sell_105 rfl (lv_at hl 1 rfl) ?_
      refine lv_aload_n hx hb dX8_sell_106 rfl (lv_at hl 2 rfl) ?_
      refine lv_aload_n hx hb dX8_sell_107 rfl (lv_at hl 1 rfl) ?_
      refine lv_aload_n hx hb dX8_sell_108 rfl (lv_at hl 2 rfl) ?_
      obtain ⟨r22, hc, hf⟩ := b1_e hf
      refine callVI (As := [va_rf (some _)]) (rest := [_, _]) E hW (c_X8_valueOf l hc) lk_X8_324 rcv_X8 (Nat.le_of_ble_eq_true rfl) (Nat.le_of_ble_eq_true rfl) (Nat.le_of_ble_eq_true rfl) (Nat.le_of_ble_eq_true rfl) hl.1 (Nat.le_of_ble_eq_true rfl) dX8_sell_109 (fun H locs hW => ?_)
      obtain ⟨r24, cs23, hc, hf⟩ := b2_e hf
      refine callVI (As := [va_rf (some _), .int _]) (rest := []) E hW (c_X8_sellFor l hc) lk_X8_375 rcv_X8 (Nat.le_of_ble_eq_true rfl) (Nat.le_of_ble_eq_true rfl) (Nat.le_of_ble_eq_true rfl) (Nat.le_of_ble_eq_true rfl) hl.1 (Nat.le_of_ble_eq_true rfl) dX8_sell_112 (fun H locs hW => ?_)
      refine lv_aload_n hx hb dX8_sell_115 rfl (lv_at hl 1 rfl) ?_
      refine lv_aload hx hb dX8_sell_116 (lv_at hl 0 rfl) ?_
      refine lv_aload_n hx hb dX8_sell_118 rfl (lv_at hl 1 rfl) ?_
      refine lv_aload hx hb dX8_sell_119 (lv_at hl 0 rfl) ?_
      obtain ⟨r25, hc, hf⟩ := b1_e hf
      refine callVI (As := [va_rf (some _)]) (rest := [_, _, _]) E hW (c_X8_valueOf l hc) lk_X8_324 rcv_X8 (Nat.le_of_ble_eq_true rfl) (Nat.le_of_ble_eq_true rfl) (Nat.le_of_ble_eq_true rfl) (Nat.le_of_ble_eq_true rfl) hl.1 (Nat.le_of_ble_eq_true rfl) dX8_sell_121 (fun H locs hW => ?_)
      obtain ⟨r27, cs26, hc, hf⟩ := b2_e hf
      refine callVI (As := [va_rf (some _), .int _]) (rest := [_]) E hW (c_X8_sellFor l hc) lk_X8_375 rcv_X8 (Nat.le_of_ble_eq_true rfl) (Nat.le_of_ble_eq_true rfl) (Nat.le_of_ble_eq_true rfl) (Nat.le_of_ble_eq_true rfl) hl.1 (Nat.le_of_ble_eq_true rfl) dX8_sell_124 (fun H locs hW => ?_)
      refine lv_iadd hx hb dX8_sell_127 ?_
      refine W.widen (k := 2) (n := 12) (by decide) (by decide) ?_
      exact vx_ret (retIX E hW (exC hf) dX8_sell_128)
  · replace hf := ite_f h16 hf
    refine lv_aload_n hx hb dX8_sell_69 rfl (lv_at hl 0 rfl) ?_
    refine lv_aload_n hx hb dX8_sell_70 rfl (lv_at hl 1 rfl) ?_
    refine lv_aload_n hx hb dX8_sell_71 rfl (lv_at hl 0 rfl) ?_
    refine lv_aload_n hx hb dX8_sell_72 rfl (lv_at hl 1 rfl) ?_
    obtain ⟨r28, hc, hf⟩ := b1_e hf
    refine callVI (As := [va_rf (some _)]) (rest := [_, _]) E hW (c_X8_valueOf l hc) lk_X8_324 rcv_X8 (Nat.le_of_ble_eq_true rfl) (Nat.le_of_ble_eq_true rfl) (Nat.le_of_ble_eq_true rfl) (Nat.le_of_ble_eq_true rfl) hl.1 (Nat.le_of_ble_eq_true rfl) dX8_sell_73 (fun H locs hW => ?_)
    obtain ⟨r30, cs29, hc, hf⟩ := b2_e hf
    refine callVI (As := [va_rf (some _), .int _]) (rest := []) E hW (c_X8_sellFor l hc) lk_X8_375 rcv_X8 (Nat.le_of_ble_eq_true rfl) (Nat.le_of_ble_eq_true rfl) (Nat.le_of_ble_eq_true rfl) (Nat.le_of_ble_eq_true rfl) hl.1 (Nat.le_of_ble_eq_true rfl) dX8_sell_76 (fun H locs hW => ?_)
    refine W.widen (k := 2) (n := 12) (by decide) (by decide) ?_
    exact vx_ret (retIX E hW (exC hf) dX8_sell_79)
set_option maxHeartbeats 4000000 in
set_option maxRecDepth 100000 in
theorem w_X8_sell_26 {p : Program} {l : Launch} {e : Env} {s : State} {m : MethodId} {args : Array Value} {below : List Frame} {meth : Method} {c : Code} {X : XT} {B : Nat} {ms : MS} {o : Nat → Int64} {r : Int32 ⊕ String} {S9 : CS} (E : Ev X B p s m args meth c RX8 cX8_sell 6 (some .int)) (hl0 : l.stackTraces = false) (hxt : ∀ x ∈ c.exceptionTable.toList, False) : ∀ (cs : CS) (v2 : Int32) (v3 : Nat) (H : Heap) (locs : List Loc) (ls : Array Slot), f_X8_sell_26 cs v2 v3 = some (r, S9) → Ws X B s.heap H locs (cs, ms, o) → lv_has ls 6 [(0, .ref (X.1 0)), (2, .int v2), (3, .ref v3)] → W p l e rm_X8_sell s m args below meth c H locs 1 6 (vx_MQ below (QXI X B r (S9, ms, o)) (XCx X B r (S9, ms, o)) args s 2 12 (Ab B)) (F0 m 26 ls []) := by
  obtain ⟨hx, hb, hml, hown, hts, -⟩ := id E
  intro cs v2 v3 H locs ls hf hW hl
  unfold f_X8_sell_26 at hf
  refine lv_aload_n hx hb dX8_sell_26 rfl (lv_at hl 2 rfl) ?_
  obtain ⟨v11, hf⟩ := gd_e hf
  refine rg_X8_321 E hW v11 dX8_sell_27 ?_
  refine lv_if_eq (tgt := 35) hx hb dX8_sell_30 (by decide) (fun h12 => ?_) (fun h12 => ?_)
  · replace hf := ite_t h12 hf
    refine lv_aload_n hx hb dX8_sell_35 rfl (lv_at hl 0 rfl) ?_
    refine lv_aload_n hx hb dX8_sell_36 rfl (lv_at hl 2 rfl) ?_
    refine lv_iconst (v := (0 : Int32)) hx hb dX8_sell_37 (by decide) ?_
    obtain ⟨r13, hc, hf⟩ := b1_e hf
    refine callVI (As := [va_rf (some _), .int _]) (rest := []) E hW (c_X8_factOf l hc) lk_X8_341 rcv_X8 (Nat.le_of_ble_eq_true rfl) (Nat.le_of_ble_eq_true rfl) (Nat.le_of_ble_eq_true rfl) (Nat.le_of_ble_eq_true rfl) hl.1 (Nat.le_of_ble_eq_true rfl) dX8_sell_38 (fun H locs hW => ?_)
    refine lv_istore (lv' := [_, _, _, _]) hx hb dX8_sell_41 hl (by decide) rfl (fun ls hl => ?_)
    refine lv_iload hx hb dX8_sell_43 (lv_at hl 0 rfl) ?_
    refine lv_iconst (v := (4 : Int32)) hx hb dX8_sell_45 (by decide) ?_
    refine lv_icmp_ne (tgt := 56) hx hb dX8_sell_46 (by decide) (fun h14 => ?_) (fun h14 => ?_)
    · replace hf := ite_f h14 hf
      exact w_X8_sell_56 E hl0 hxt _ _ _ _ _ _ hf hW (lv_sub hl [1, 3, 0] rfl)
    · replace hf := ite_t h14 hf
      refine lv_iload_n hx hb dX8_sell_49 rfl (lv_at hl 2 rfl) ?_
      refine lv_if_ne (tgt := 56) hx hb dX8_sell_50 (by decide) (fun h31 => ?_) (fun h31 => ?_)
      · replace hf := ite_f h31 hf
        exact w_X8_sell_56 E hl0 hxt _ _ _ _ _ _ hf hW (lv_sub hl [1, 3, 0] rfl)
      · replace hf := ite_t h31 hf
        refine lv_bipush (v := (-2 : Int32)) hx hb dX8_sell_53 (by decide) ?_
        refine W.widen (k := 2) (n := 12) (by decide) (by decide) ?_
        exact vx_ret (retIX E hW (exC hf) dX8_sell_55)
  · replace hf := ite_f h12 hf
    refine lv_iconst (v := (-1 : Int32)) hx hb dX8_sell_33 (by decide) ?_
    refine W.widen (k := 2) (n := 12) (by decide) (by decide) ?_
    exact vx_ret (retIX E hW (exC hf) dX8_sell_34)
set_option maxHeartbeats 4000000 in
set_option maxRecDepth 100000 in
theorem c_X8_sell (l : Launch) (hl0 : l.stackTraces = false) {X : XT} {B : Nat} {cs : CS} {ms : MS} {o : Nat → Int64} {v1 : Int32} {v2 : Int32} {r : Int32 ⊕ String} {S9 : CS} (hf : f_X8_sell cs v1 v2 = some (r, S9)) : vx_Met l yX8_sell (.code yX8_sell cX8_sell 6 (some .int) :: BIG) rm_X8_sell (Pre X B (cs, ms, o) [.ref (X.1 0), .int v1, .int v2]) (QXI X B r (S9, ms, o)) (XCx X B r (S9, ms, o)) 2 12 (Ab B) := by
  refine xentry (by decide +kernel) rfl (Nat.le_of_ble_eq_true rfl) (fun p e s m below meth c ls E hxt hW hl => ?_)
  obtain ⟨hx, hb, hml, hown, hts, -⟩ := id E
  replace hl : lv_has ls 6 [(0, .ref (X.1 0)), (1, .int v1), (2, .int v2)] := hl
  unfold f_X8_sell at hf
  refine lv_aload_n hx hb dX8_sell_0 rfl (lv_at hl 0 rfl) ?_
  refine lv_iload_n hx hb dX8_sell_1 rfl (lv_at hl 1 rfl) ?_
  obtain ⟨r1, cs2, hc, k4, e5⟩ := bx_e hf
  refine xcallVQ (As := [.int _]) (rest := []) E hW (c_X8_itemOf l hl0 hc) lk_X8_311 rcv_X8 (Nat.le_of_ble_eq_true rfl) (Nat.le_of_ble_eq_true rfl) (Nat.le_of_ble_eq_true rfl) (Nat.le_of_ble_eq_true rfl) hl.1 (Nat.le_of_ble_eq_true rfl) dX8_sell_2 hxt (by decide) (by decide) (fun z hz => by have q9 := e5 z hz; cases q9; exact ⟨rfl, rfl⟩) (fun b3 q6 H locs hW => ?_)
  replace hf := k4 b3 q6
  cases b3 with
  | none =>
    replace hf := ob_n hf
    refine lv_astore_nN (lv' := [_, _, _, _]) hx hb dX8_sell_5 rfl hl (by decide) rfl (fun ls hl => ?_)
    refine lv_iload_n hx hb dX8_sell_6 rfl (lv_at hl 3 rfl) ?_
    refine lv_if_eq (tgt := 26) hx hb dX8_sell_7 (by decide) (fun h8 => ?_) (fun h8 => ?_)
    · replace hf := ite_t h8 hf
      exact absurd hf nofun
    · replace hf := ite_f h8 hf
      refine lv_iload_n hx hb dX8_sell_10 rfl (lv_at hl 3 rfl) ?_
      refine lv_iconst (v := (1 : Int32)) hx hb dX8_sell_11 (by decide) ?_
      refine lv_icmp_eq (tgt := 26) hx hb dX8_sell_12 (by decide) (fun h9 => ?_) (fun h9 => ?_)
      · replace hf := ite_t h9 hf
        exact absurd hf nofun
      · replace hf := ite_f h9 hf
        exact throwSW E hl0 hxt hW th_X8_84_373_88 dX8_sell_15 dX8_sell_18 dX8_sell_19 dX8_sell_22 dX8_sell_25 (etC hf) (Nat.le_of_ble_eq_true rfl) (Nat.le_of_ble_eq_true rfl) (Nat.le_of_ble_eq_true rfl) (Nat.le_of_ble_eq_true rfl) (Nat.le_of_ble_eq_true rfl) (by decide) (by decide) (hl.1.trans hml.symm)
  | some a7 =>
    replace hf := ob_s hf
    refine lv_astore_n (lv' := [_, _, _, _]) hx hb dX8_sell_5 rfl hl (by decide) rfl (fun ls hl => ?_)
    refine lv_iload_n hx hb dX8_sell_6 rfl (lv_at hl 3 rfl) ?_
    refine lv_if_eq (tgt := 26) hx hb dX8_sell_7 (by decide) (fun h10 => ?_) (fun h10 => ?_)
    · replace hf := ite_t h10 hf
      exact w_X8_sell_26 E hl0 hxt _ _ _ _ _ _ hf hW (lv_sub hl [1, 3, 0] rfl)
    · replace hf := ite_f h10 hf
      refine lv_iload_n hx hb dX8_sell_10 rfl (lv_at hl 3 rfl) ?_
      refine lv_iconst (v := (1 : Int32)) hx hb dX8_sell_11 (by decide) ?_
      refine lv_icmp_eq (tgt := 26) hx hb dX8_sell_12 (by decide) (fun h32 => ?_) (fun h32 => ?_)
      · replace hf := ite_t h32 hf
        exact w_X8_sell_26 E hl0 hxt _ _ _ _ _ _ hf hW (lv_sub hl [1, 3, 0] rfl)
      · replace hf := ite_f h32 hf
        exact throwSW E hl0 hxt hW th_X8_84_373_88 dX8_sell_15 dX8_sell_18 dX8_sell_19 dX8_sell_22 dX8_sell_25 (etC hf) (Nat.le_of_ble_eq_true rfl) (Nat.le_of_ble_eq_true rfl) (Nat.le_of_ble_eq_true rfl) (Nat.le_of_ble_eq_true rfl) (Nat.le_of_ble_eq_true rfl) (by decide) (by decide) (hl.1.trans hml.symm)
def f_X8_back_81 (cs : CS) (v3 : Nat) (s1 : Nat) (s2 : Int32) : Option ((Int32 ⊕ String) × CS) := (f_X8_move cs (some s1) s2).bind fun cs16 => gd (v3 ∈ cl cs16 ∧ ck cs16 v3 = 1) <| (f_X0_forget (cjU cs16 0 ((cj cs16 0) - (cp cs16 v3 5).toInt64)) ).bind fun cs18 => gd (v3 ∈ cl cs18 ∧ ck cs18 v3 = 1) <| some (.inl (cp cs18 v3 5), cs18)
def f_X8_back_69 (cs : CS) (v2 : Int32) (v3 : Nat) : Option ((Int32 ⊕ String) × CS) := if v2 = (1 : Int32) then (f_X8_back_81 cs v3 v3 (2 : Int32)) else (f_X8_back_81 cs v3 v3 (0 : Int32))
def f_X8_back_26 (cs : CS) (v2 : Int32) (v3 : Nat) : Option ((Int32 ⊕ String) × CS) := gd (v3 ∈ cl cs ∧ ck cs v3 = 1) <| if (cp cs v3 3) = (1 : Int32) then (if ((ci cs 3) - (cp cs v3 4)) ≤ (30 : Int32) then (if v2 = 0 then (if (ci cs 2) < (60 : Int32) then (f_X8_back_69 cs v2 v3) else (some (.inl (-3 : Int32), cs))) else (f_X8_back_69 cs v2 v3)) else (some (.inl (-2 : Int32), cs))) else (some (.inl (-1 : Int32), cs))
def f_X8_back (cs : CS) (v1 : Int32) (v2 : Int32) : Option ((Int32 ⊕ String) × CS) := bx (f_X8_itemOf cs v1) fun b3 cs2 => ob b3 (if v2 = 0 then (none) else (if v2 = (1 : Int32) then (none) else (some (.inr "java/lang/IllegalArgumentException", cs2)))) fun a7 => (if v2 = 0 then (f_X8_back_26 cs2 v2 a7) else (if v2 = (1 : Int32) then (f_X8_back_26 cs2 v2 a7) else (some (.inr "java/lang/IllegalArgumentException", cs2))))
def rm_X8_back : Room := { frames := 11, cells := 2, slots := 12, locals := 172 }
set_option maxHeartbeats 4000000 in
set_option maxRecDepth 100000 in
theorem w_X8_back_81 {p : Program} {l : Launch} {e : Env} {s : State} {m : MethodId} {args : Array Value} {below : List Frame} {meth : Method} {c : Code} {X : XT} {B : Nat} {ms : MS} {o : Nat → Int64} {r : Int32 ⊕ String} {S9 : CS} (E : Ev X B p s m args meth c RX8 cX8_back 4 (some .int)) (hl0 : l.stackTraces = false) (hxt : ∀ x ∈ c.exceptionTable.toList, False) : ∀ (cs : CS) (v3 : Nat) (s1 : Nat) (s2 : Int32) (H : Heap) (locs : List Loc) (ls : Array Slot), f_X8_back_81 cs v3 s1 s2 = some (r, S9) → Ws X B s.heap H locs (cs, ms, o) → lv_has ls 4 [(0, .ref (X.1 0)), (3, .ref v3)] → W p l e rm_X8_back s m args below meth c H locs 1 6 (vx_MQ below (QXI X B r (S9, ms, o)) (XCx X B r (S9, ms, o)) args s 2 12 (Ab B)) (F0 m 81 ls [.int s2, .ref s1, .ref (X.1 0)]) := by
  obtain ⟨hx, hb, hml, hown, hts, -⟩ := id E
  intro cs v3 s1 s2 H locs ls hf hW hl
  unfold f_X8_back_81 at hf
  obtain ⟨cs16, hc, hf⟩ := b1_e hf
  refine callVV (As := [va_rf (some _), .int _]) (rest := []) E hW (c_X8_move l hc) lk_X8_361 rcv_X8 (Nat.le_of_ble_eq_true rfl) (Nat.le_of_ble_eq_true rfl) (Nat.le_of_ble_eq_true rfl) (Nat.le_of_ble_eq_true rfl) hl.1 (Nat.le_of_ble_eq_true rfl) dX8_back_81 (fun H locs hW => ?_)
  refine lv_aload_n hx hb dX8_back_84 rfl (lv_at hl 0 rfl) ?_
  refine lv_dup hx hb dX8_back_85 rfl ?_
  refine rg_X8_76 E hW dX8_back_86 ?_
  refine lv_aload_n hx hb dX8_back_89 rfl (lv_at hl 1 rfl) ?_
  obtain ⟨v17, hf⟩ := gd_e hf
  refine rg_X8_327 E hW v17 dX8_back_90 ?_
  refine lv_i2l hx hb dX8_back_93 rfl ?_
  refine lv_lsub hx hb dX8_back_94 ?_
  refine rp_X8_76 E hW dX8_back_95 (fun H locs hW => ?_)
  refine lv_aload_n hx hb dX8_back_98 rfl (lv_at hl 0 rfl) ?_
  refine rg_X8_33 E hW dX8_back_99 ?_
  obtain ⟨cs18, hc, hf⟩ := b1_e hf
  refine callVV (As := []) (rest := []) E hW (c_X0_forget l hc) lk_X8_225 rcv_X0 (Nat.le_of_ble_eq_true rfl) (Nat.le_of_ble_eq_true rfl) (Nat.le_of_ble_eq_true rfl) (Nat.le_of_ble_eq_true rfl) hl.1 (Nat.le_of_ble_eq_true rfl) dX8_back_102 (fun H locs hW => ?_)
  refine lv_aload_n hx hb dX8_back_105 rfl (lv_at hl 1 rfl) ?_
  obtain ⟨v19, hf⟩ := gd_e hf
  refine rg_X8_327 E hW v19 dX8_back_106 ?_
  refine W.widen (k := 2) (n := 12) (by decide) (by decide) ?_
  exact vx_ret (retIX E hW (exC hf) dX8_back_109)
set_option maxHeartbeats 4000000 in
set_option maxRecDepth 100000 in
theorem w_X8_back_69 {p : Program} {l : Launch} {e : Env} {s : State} {m : MethodId} {args : Array Value} {below : List Frame} {meth : Method} {c : Code} {X : XT} {B : Nat} {ms : MS} {o : Nat → Int64} {r : Int32 ⊕ String} {S9 : CS} (E : Ev X B p s m args meth c RX8 cX8_back 4 (some .int)) (hl0 : l.stackTraces = false) (hxt : ∀ x ∈ c.exceptionTable.toList, False) : ∀ (cs : CS) (v2 : Int32) (v3 : Nat) (H : Heap) (locs : List Loc) (ls : Array Slot), f_X8_back_69 cs v2 v3 = some (r, S9) → Ws X B s.heap H locs (cs, ms, o) → lv_has ls 4 [(0, .ref (X.1 0)), (2, .int v2), (3, .ref v3)] → W p l e rm_X8_back s m args below meth c H locs 1 6 (vx_MQ below (QXI X B r (S9, ms, o)) (XCx X B r (S9, ms, o)) args s 2 12 (Ab B)) (F0 m 69 ls []) := by
  obtain ⟨hx, hb, hml, hown, hts, -⟩ := id E
  intro cs v2 v3 H locs ls hf hW hl
  unfold f_X8_back_69 at hf
  refine lv_aload_n hx hb dX8_back_69 rfl (lv_at hl 0 rfl) ?_
  refine lv_aload_n hx hb dX8_back_70 rfl (lv_at hl 2 rfl) ?_
  refine lv_iload_n hx hb dX8_back_71 rfl (lv_at hl 1 rfl) ?_
  refine lv_iconst (v := (1 : Int32)) hx hb dX8_back_72 (by decide) ?_
  refine lv_icmp_ne (tgt := 80) hx hb dX8_back_73 (by decide) (fun h15 => ?_) (fun h15 => ?_)
  · replace hf := ite_f h15 hf
    refine lv_iconst (v := (0 : Int32)) hx hb dX8_back_80 (by decide) ?_
    exact w_X8_back_81 E hl0 hxt _ _ _ _ _ _ _ hf hW (lv_sub hl [0, 2] rfl)
  · replace hf := ite_t h15 hf
    refine lv_iconst (v := (2 : Int32)) hx hb dX8_back_76 (by decide) ?_
    refine lv_goto (tgt := 81) hx hb dX8_back_77 (by decide) ?_
    exact w_X8_back_81 E hl0 hxt _ _ _ _ _ _ _ hf hW (lv_sub hl [0, 2] rfl)
set_option maxHeartbeats 4000000 in
set_option maxRecDepth 100000 in
theorem w_X8_back_26 {p : Program} {l : Launch} {e : Env} {s : State} {m : MethodId} {args : Array Value} {below : List Frame} {meth : Method} {c : Code} {X : XT} {B : Nat} {ms : MS} {o : Nat → Int64} {r : Int32 ⊕ String} {S9 : CS} (E : Ev X B p s m args meth c RX8 cX8_back 4 (some .int)) (hl0 : l.stackTraces = false) (hxt : ∀ x ∈ c.exceptionTable.toList, False) : ∀ (cs : CS) (v2 : Int32) (v3 : Nat) (H : Heap) (locs : List Loc) (ls : Array Slot), f_X8_back_26 cs v2 v3 = some (r, S9) → Ws X B s.heap H locs (cs, ms, o) → lv_has ls 4 [(0, .ref (X.1 0)), (2, .int v2), (3, .ref v3)] → W p l e rm_X8_back s m args below meth c H locs 1 6 (vx_MQ below (QXI X B r (S9, ms, o)) (XCx X B r (S9, ms, o)) args s 2 12 (Ab B)) (F0 m 26 ls []) := by
  obtain ⟨hx, hb, hml, hown, hts, -⟩ := id E
  intro cs v2 v3 H locs ls hf hW hl
  unfold f_X8_back_26 at hf
  refine lv_aload_n hx hb dX8_back_26 rfl (lv_at hl 2 rfl) ?_
  obtain ⟨v11, hf⟩ := gd_e hf
  refine rg_X8_321 E hW v11 dX8_back_27 ?_
  refine lv_iconst (v := (1 : Int32)) hx hb dX8_back_30 (by decide) ?_
  refine lv_icmp_eq (tgt := 36) hx hb dX8_back_31 (by decide) (fun h12 => ?_) (fun h12 => ?_)
  · replace hf := ite_t h12 hf
    refine lv_aload_n hx hb dX8_back_36 rfl (lv_at hl 0 rfl) ?_
    refine rg_X8_73 E hW dX8_back_37 ?_
    refine lv_aload_n hx hb dX8_back_40 rfl (lv_at hl 2 rfl) ?_
    refine rg_X8_330 E hW v11 dX8_back_41 ?_
    refine lv_isub hx hb dX8_back_44 ?_
    refine lv_bipush (v := (30 : Int32)) hx hb dX8_back_45 (by decide) ?_
    refine lv_icmp_le (tgt := 53) hx hb dX8_back_47 (by decide) (fun h13 => ?_) (fun h13 => ?_)
    · replace hf := ite_t h13 hf
      refine lv_iload_n hx hb dX8_back_53 rfl (lv_at hl 1 rfl) ?_
      refine lv_if_ne (tgt := 69) hx hb dX8_back_54 (by decide) (fun h14 => ?_) (fun h14 => ?_)
      · replace hf := ite_f h14 hf
        exact w_X8_back_69 E hl0 hxt _ _ _ _ _ _ hf hW (lv_sub hl [0, 1, 2] rfl)
      · replace hf := ite_t h14 hf
        refine lv_aload_n hx hb dX8_back_57 rfl (lv_at hl 0 rfl) ?_
        refine rg_X8_70 E hW dX8_back_58 ?_
        refine lv_bipush (v := (60 : Int32)) hx hb dX8_back_61 (by decide) ?_
        refine lv_icmp_lt (tgt := 69) hx hb dX8_back_63 (by decide) (fun h20 => ?_) (fun h20 => ?_)
        · replace hf := ite_t h20 hf
          exact w_X8_back_69 E hl0 hxt _ _ _ _ _ _ hf hW (lv_sub hl [0, 1, 2] rfl)
        · replace hf := ite_f h20 hf
          refine lv_bipush (v := (-3 : Int32)) hx hb dX8_back_66 (by decide) ?_
          refine W.widen (k := 2) (n := 12) (by decide) (by decide) ?_
          exact vx_ret (retIX E hW (exC hf) dX8_back_68)
    · replace hf := ite_f h13 hf
      refine lv_bipush (v := (-2 : Int32)) hx hb dX8_back_50 (by decide) ?_
      refine W.widen (k := 2) (n := 12) (by decide) (by decide) ?_
      exact vx_ret (retIX E hW (exC hf) dX8_back_52)
  · replace hf := ite_f h12 hf
    refine lv_iconst (v := (-1 : Int32)) hx hb dX8_back_34 (by decide) ?_
    refine W.widen (k := 2) (n := 12) (by decide) (by decide) ?_
    exact vx_ret (retIX E hW (exC hf) dX8_back_35)
set_option maxHeartbeats 4000000 in
set_option maxRecDepth 100000 in
theorem c_X8_back (l : Launch) (hl0 : l.stackTraces = false) {X : XT} {B : Nat} {cs : CS} {ms : MS} {o : Nat → Int64} {v1 : Int32} {v2 : Int32} {r : Int32 ⊕ String} {S9 : CS} (hf : f_X8_back cs v1 v2 = some (r, S9)) : vx_Met l yX8_back (.code yX8_back cX8_back 4 (some .int) :: BIG) rm_X8_back (Pre X B (cs, ms, o) [.ref (X.1 0), .int v1, .int v2]) (QXI X B r (S9, ms, o)) (XCx X B r (S9, ms, o)) 2 12 (Ab B) := by
  refine xentry (by decide +kernel) rfl (Nat.le_of_ble_eq_true rfl) (fun p e s m below meth c ls E hxt hW hl => ?_)
  obtain ⟨hx, hb, hml, hown, hts, -⟩ := id E
  replace hl : lv_has ls 4 [(0, .ref (X.1 0)), (1, .int v1), (2, .int v2)] := hl
  unfold f_X8_back at hf
  refine lv_aload_n hx hb dX8_back_0 rfl (lv_at hl 0 rfl) ?_
  refine lv_iload_n hx hb dX8_back_1 rfl (lv_at hl 1 rfl) ?_
  obtain ⟨r1, cs2, hc, k4, e5⟩ := bx_e hf
  refine xcallVQ (As := [.int _]) (rest := []) E hW (c_X8_itemOf l hl0 hc) lk_X8_311 rcv_X8 (Nat.le_of_ble_eq_true rfl) (Nat.le_of_ble_eq_true rfl) (Nat.le_of_ble_eq_true rfl) (Nat.le_of_ble_eq_true rfl) hl.1 (Nat.le_of_ble_eq_true rfl) dX8_back_2 hxt (by decide) (by decide) (fun z hz => by have q9 := e5 z hz; cases q9; exact ⟨rfl, rfl⟩) (fun b3 q6 H locs hW => ?_)
  replace hf := k4 b3 q6
  cases b3 with
  | none =>
    replace hf := ob_n hf
    refine lv_astore_nN (lv' := [_, _, _, _]) hx hb dX8_back_5 rfl hl (by decide) rfl (fun ls hl => ?_)
    refine lv_iload_n hx hb dX8_back_6 rfl (lv_at hl 3 rfl) ?_
    refine lv_if_eq (tgt := 26) hx hb dX8_back_7 (by decide) (fun h8 => ?_) (fun h8 => ?_)
    · replace hf := ite_t h8 hf
      exact absurd hf nofun
    · replace hf := ite_f h8 hf
      refine lv_iload_n hx hb dX8_back_10 rfl (lv_at hl 3 rfl) ?_
      refine lv_iconst (v := (1 : Int32)) hx hb dX8_back_11 (by decide) ?_
      refine lv_icmp_eq (tgt := 26) hx hb dX8_back_12 (by decide) (fun h9 => ?_) (fun h9 => ?_)
      · replace hf := ite_t h9 hf
        exact absurd hf nofun
      · replace hf := ite_f h9 hf
        exact throwSW E hl0 hxt hW th_X8_84_382_88 dX8_back_15 dX8_back_18 dX8_back_19 dX8_back_22 dX8_back_25 (etC hf) (Nat.le_of_ble_eq_true rfl) (Nat.le_of_ble_eq_true rfl) (Nat.le_of_ble_eq_true rfl) (Nat.le_of_ble_eq_true rfl) (Nat.le_of_ble_eq_true rfl) (by decide) (by decide) (hl.1.trans hml.symm)
  | some a7 =>
    replace hf := ob_s hf
    refine lv_astore_n (lv' := [_, _, _, _]) hx hb dX8_back_5 rfl hl (by decide) rfl (fun ls hl => ?_)
    refine lv_iload_n hx hb dX8_back_6 rfl (lv_at hl 3 rfl) ?_
    refine lv_if_eq (tgt := 26) hx hb dX8_back_7 (by decide) (fun h10 => ?_) (fun h10 => ?_)
    · replace hf := ite_t h10 hf
      exact w_X8_back_26 E hl0 hxt _ _ _ _ _ _ hf hW (lv_sub hl [1, 3, 0] rfl)
    · replace hf := ite_f h10 hf
      refine lv_iload_n hx hb dX8_back_10 rfl (lv_at hl 3 rfl) ?_
      refine lv_iconst (v := (1 : Int32)) hx hb dX8_back_11 (by decide) ?_
      refine lv_icmp_eq (tgt := 26) hx hb dX8_back_12 (by decide) (fun h21 => ?_) (fun h21 => ?_)
      · replace hf := ite_t h21 hf
        exact w_X8_back_26 E hl0 hxt _ _ _ _ _ _ hf hW (lv_sub hl [1, 3, 0] rfl)
      · replace hf := ite_f h21 hf
        exact throwSW E hl0 hxt hW th_X8_84_382_88 dX8_back_15 dX8_back_18 dX8_back_19 dX8_back_22 dX8_back_25 (etC hf) (Nat.le_of_ble_eq_true rfl) (Nat.le_of_ble_eq_true rfl) (Nat.le_of_ble_eq_true rfl) (Nat.le_of_ble_eq_true rfl) (Nat.le_of_ble_eq_true rfl) (by decide) (by decide) (hl.1.trans hml.symm)
def f_X8_till (cs : CS) : Option (Int64) := some (cj cs 0)
def rm_X8_till : Room := { frames := 0, cells := 0, slots := 0, locals := 0 }
set_option maxHeartbeats 4000000 in
set_option maxRecDepth 100000 in
theorem c_X8_till (l : Launch) {X : XT} {B : Nat} {cs : CS} {ms : MS} {o : Nat → Int64} {r : Int64} (hf : f_X8_till cs  = some r) : Met l yX8_till (.code yX8_till cX8_till 1 (some .long) :: BIG) rm_X8_till (Pre X B (cs, ms, o) [.ref (X.1 0)]) (QL X B r (cs, ms, o)) 0 0 (Ab B) := by
  refine entry (by decide +kernel) rfl (Nat.le_of_ble_eq_true rfl) (fun p e s m below meth c ls E hW hl => ?_)
  obtain ⟨hx, hb, hml, hown, hts, -⟩ := id E
  replace hl : lv_has ls 1 [(0, .ref (X.1 0))] := hl
  unfold f_X8_till at hf
  refine lv_aload_n hx hb dX8_till_0 rfl (lv_at hl 0 rfl) ?_
  refine rg_X8_76 E hW dX8_till_1 ?_
  exact retL E hW ⟨Option.some.inj hf, rfl⟩ dX8_till_4
def f_X8_mayBeChosen (cs : CS) (v1 : Option Nat) (v2 : Int32) : Option (Int32) := ob v1 (none) fun a1 => (gd (a1 ∈ cl cs ∧ ck cs a1 = 0) <| (f_X6_factOf cs (cp cs a1 0) v2 (0 : Int32)).bind fun r2 => (f_X1_isOn cs a1 v2).bind fun r3 => if r3 = 0 then (some (0 : Int32)) else (if r2 = (5 : Int32) then (some (0 : Int32)) else (if (cp cs a1 6) = 0 then ((f_X8_needsDraining cs r2).bind fun r7 => if r7 = 0 then (some (1 : Int32)) else (some (0 : Int32))) else (some (1 : Int32)))))
def rm_X8_mayBeChosen : Room := { frames := 3, cells := 0, slots := 0, locals := 70 }
set_option maxHeartbeats 4000000 in
set_option maxRecDepth 100000 in
theorem c_X8_mayBeChosen (l : Launch) {X : XT} {B : Nat} {cs : CS} {ms : MS} {o : Nat → Int64} {v1 : Option Nat} {v2 : Int32} {r : Int32} (hf : f_X8_mayBeChosen cs v1 v2 = some r) : Met l yX8_mayBeChosen (.code yX8_mayBeChosen cX8_mayBeChosen 4 (some .boolean) :: BIG) rm_X8_mayBeChosen (Pre X B (cs, ms, o) [.ref (X.1 0), va_rf v1, .int v2]) (QI X B r (cs, ms, o)) 0 0 (Ab B) := by
  cases v1 with
  | none =>
    refine entry (by decide +kernel) rfl (Nat.le_of_ble_eq_true rfl) (fun p e s m below meth c ls E hW hl => ?_)
    obtain ⟨hx, hb, hml, hown, hts, -⟩ := id E
    replace hl : lv_has ls 4 [(0, .ref (X.1 0)), (1, .null), (2, .int v2)] := hl
    unfold f_X8_mayBeChosen at hf
    replace hf := ob_n hf
    refine lv_aload_n hx hb dX8_mayBeChosen_0 rfl (lv_at hl 0 rfl) ?_
    refine rg_X8_26 E hW dX8_mayBeChosen_1 ?_
    refine lv_aload_nN hx hb dX8_mayBeChosen_4 rfl (lv_at hl 1 rfl) ?_
    exact absurd hf nofun
  | some a1 =>
    refine entry (by decide +kernel) rfl (Nat.le_of_ble_eq_true rfl) (fun p e s m below meth c ls E hW hl => ?_)
    obtain ⟨hx, hb, hml, hown, hts, -⟩ := id E
    replace hl : lv_has ls 4 [(0, .ref (X.1 0)), (1, .ref a1), (2, .int v2)] := hl
    unfold f_X8_mayBeChosen at hf
    replace hf := ob_s hf
    refine lv_aload_n hx hb dX8_mayBeChosen_0 rfl (lv_at hl 0 rfl) ?_
    refine rg_X8_26 E hW dX8_mayBeChosen_1 ?_
    refine lv_aload_n hx hb dX8_mayBeChosen_4 rfl (lv_at hl 1 rfl) ?_
    obtain ⟨v1, hf⟩ := gd_e hf
    refine rg_X8_232 E hW v1 dX8_mayBeChosen_5 ?_
    refine lv_iload_n hx hb dX8_mayBeChosen_8 rfl (lv_at hl 2 rfl) ?_
    refine lv_iconst (v := (0 : Int32)) hx hb dX8_mayBeChosen_9 (by decide) ?_
    obtain ⟨r2, hc, hf⟩ := b1_e hf
    refine callVI (As := [.int _, .int _, .int _]) (rest := []) E hW (c_X6_factOf l hc) lk_X8_174 rcv_X6 (Nat.le_of_ble_eq_true rfl) (Nat.le_of_ble_eq_true rfl) (Nat.le_of_ble_eq_true rfl) (Nat.le_of_ble_eq_true rfl) hl.1 (Nat.le_of_ble_eq_true rfl) dX8_mayBeChosen_10 (fun H locs hW => ?_)
    refine lv_istore_n (lv' := [_, _, _, _]) hx hb dX8_mayBeChosen_13 rfl hl (by decide) rfl (fun ls hl => ?_)
    refine lv_aload_n hx hb dX8_mayBeChosen_14 rfl (lv_at hl 2 rfl) ?_
    refine lv_iload_n hx hb dX8_mayBeChosen_15 rfl (lv_at hl 3 rfl) ?_
    obtain ⟨r3, hc, hf⟩ := b1_e hf
    refine callVI (As := [.int _]) (rest := []) E hW (c_X1_isOn l hc) lk_X8_270 (rcv_X1 v1) (Nat.le_of_ble_eq_true rfl) (Nat.le_of_ble_eq_true rfl) (Nat.le_of_ble_eq_true rfl) (Nat.le_of_ble_eq_true rfl) hl.1 (Nat.le_of_ble_eq_true rfl) dX8_mayBeChosen_16 (fun H locs hW => ?_)
    refine lv_if_eq (tgt := 45) hx hb dX8_mayBeChosen_19 (by decide) (fun h4 => ?_) (fun h4 => ?_)
    · replace hf := ite_t h4 hf
      refine lv_iconst (v := (0 : Int32)) hx hb dX8_mayBeChosen_45 (by decide) ?_
      exact retZ E hW (Or.inl rfl) ⟨Option.some.inj hf, rfl⟩ dX8_mayBeChosen_46
    · replace hf := ite_f h4 hf
      refine lv_iload_n hx hb dX8_mayBeChosen_22 rfl (lv_at hl 0 rfl) ?_
      refine lv_iconst (v := (5 : Int32)) hx hb dX8_mayBeChosen_23 (by decide) ?_
      refine lv_icmp_eq (tgt := 45) hx hb dX8_mayBeChosen_24 (by decide) (fun h5 => ?_) (fun h5 => ?_)
      · replace hf := ite_t h5 hf
        refine lv_iconst (v := (0 : Int32)) hx hb dX8_mayBeChosen_45 (by decide) ?_
        exact retZ E hW (Or.inl rfl) ⟨Option.some.inj hf, rfl⟩ dX8_mayBeChosen_46
      · replace hf := ite_f h5 hf
        refine lv_aload_n hx hb dX8_mayBeChosen_27 rfl (lv_at hl 2 rfl) ?_
        refine rg_X8_244 E hW v1 dX8_mayBeChosen_28 ?_
        refine lv_if_ne (tgt := 41) hx hb dX8_mayBeChosen_31 (by decide) (fun h6 => ?_) (fun h6 => ?_)
        · replace hf := ite_f h6 hf
          refine lv_iconst (v := (1 : Int32)) hx hb dX8_mayBeChosen_41 (by decide) ?_
          refine lv_goto (tgt := 46) hx hb dX8_mayBeChosen_42 (by decide) ?_
          exact retZ E hW (Or.inr rfl) ⟨Option.some.inj hf, rfl⟩ dX8_mayBeChosen_46
        · replace hf := ite_t h6 hf
          refine lv_iload_n hx hb dX8_mayBeChosen_34 rfl (lv_at hl 0 rfl) ?_
          obtain ⟨r7, hc, hf⟩ := b1_e hf
          refine callSI (As := [.int _]) (rest := []) E hW (c_X8_needsDraining l hc) lk_X8_295 (Nat.le_of_ble_eq_true rfl) (Nat.le_of_ble_eq_true rfl) (Nat.le_of_ble_eq_true rfl) (Nat.le_of_ble_eq_true rfl) hl.1 (Nat.le_of_ble_eq_true rfl) dX8_mayBeChosen_35 (fun H locs hW => ?_)
          refine lv_if_ne (tgt := 45) hx hb dX8_mayBeChosen_38 (by decide) (fun h8 => ?_) (fun h8 => ?_)
          · replace hf := ite_f h8 hf
            refine lv_iconst (v := (0 : Int32)) hx hb dX8_mayBeChosen_45 (by decide) ?_
            exact retZ E hW (Or.inl rfl) ⟨Option.some.inj hf, rfl⟩ dX8_mayBeChosen_46
          · replace hf := ite_t h8 hf
            refine lv_iconst (v := (1 : Int32)) hx hb dX8_mayBeChosen_41 (by decide) ?_
            refine lv_goto (tgt := 46) hx hb dX8_mayBeChosen_42 (by decide) ?_
            exact retZ E hW (Or.inr rfl) ⟨Option.some.inj hf, rfl⟩ dX8_mayBeChosen_46
def f_J7_fill_53178_5 : Nat → CS → Int32 → Int32 → Int32 → Option (CS)
  | 0, _, _, _, _ => none
  | n + 1, cs, v1, v2, v3 => if v3 ≤ v2 then (some cs) else (ixr 24 v2 <| f_J7_fill_53178_5 n (caU cs 11 (v2).toNatClampNeg v1) v1 (v2 + (1 : Int32)) v3)
def f_J7_fill_53178 (cs : CS) (v1 : Int32) : Option (CS) := f_J7_fill_53178_5 1000 cs v1 (0 : Int32) (24 : Int32)
def rm_J7_fill_53178 : Room := { frames := 0, cells := 0, slots := 0, locals := 0 }
set_option maxHeartbeats 4000000 in
set_option maxRecDepth 100000 in
theorem w_J7_fill_53178_5 {p : Program} {l : Launch} {e : Env} {s : State} {m : MethodId} {args : Array Value} {below : List Frame} {meth : Method} {c : Code} {X : XT} {B : Nat} {ms : MS} {o : Nat → Int64} {S9 : CS} (E : Ev X B p s m args meth c RJ7 cJ7_fill_53178 4 none) : ∀ (n : Nat) (cs : CS) (v1 : Int32) (v2 : Int32) (v3 : Int32) (H : Heap) (locs : List Loc) (ls : Array Slot), f_J7_fill_53178_5 n cs v1 v2 v3 = some S9 → Ws X B s.heap H locs (cs, ms, o) → lv_has ls 4 [(0, .ref (X.1 11)), (1, .int v1), (2, .int v2), (3, .int v3)] → W p l e rm_J7_fill_53178 s m args below meth c H locs 0 0 (MQ below (QV X B (S9, ms, o)) args s 0 0 (Ab B)) (F0 m 5 ls []) := by
  obtain ⟨hx, hb, hml, hown, hts, -⟩ := id E
  intro n
  induction n with
  | zero => intro cs v1 v2 v3 H locs ls hf; exact absurd hf nofun
  | succ n ih =>
    intro cs v1 v2 v3 H locs ls hf hW hl
    rw [f_J7_fill_53178_5] at hf
    refine lv_iload_n hx hb dJ7_fill_53178_5 rfl (lv_at hl 2 rfl) ?_
    refine lv_iload_n hx hb dJ7_fill_53178_6 rfl (lv_at hl 3 rfl) ?_
    refine lv_icmp_ge (tgt := 20) hx hb dJ7_fill_53178_7 (by decide) (fun h1 => ?_) (fun h1 => ?_)
    · replace hf := ite_t h1 hf
      exact retV E hW (e1C hf) dJ7_fill_53178_20
    · replace hf := ite_f h1 hf
      refine lv_aload_n hx hb dJ7_fill_53178_10 rfl (lv_at hl 0 rfl) ?_
      refine lv_iload_n hx hb dJ7_fill_53178_11 rfl (lv_at hl 2 rfl) ?_
      refine lv_iload_n hx hb dJ7_fill_53178_12 rfl (lv_at hl 1 rfl) ?_
      obtain ⟨v2, hf⟩ := ixr_e hf
      refine rs_11 E hW v2 dJ7_fill_53178_13 (fun H locs hW => ?_)
      refine lv_iinc (v := _ + (1 : Int32)) (lv' := [_, _, _, _]) hx hb dJ7_fill_53178_14 hl (k := 2) rfl rfl (by decide) rfl (fun ls hl => ?_)
      refine lv_goto (tgt := 5) hx hb dJ7_fill_53178_17 (by decide) ?_
      exact ih _ _ _ _ _ _ _ hf hW (lv_sub hl [1, 2, 0, 3] rfl)
set_option maxHeartbeats 4000000 in
set_option maxRecDepth 100000 in
theorem c_J7_fill_53178 (l : Launch) {X : XT} {B : Nat} {cs : CS} {ms : MS} {o : Nat → Int64} {v1 : Int32} {S9 : CS} (hf : f_J7_fill_53178 cs v1 = some S9) : Met l yJ7_fill_53178 (.code yJ7_fill_53178 cJ7_fill_53178 4 none :: BIG) rm_J7_fill_53178 (Pre X B (cs, ms, o) [.ref (X.1 11), .int v1]) (QV X B (S9, ms, o)) 0 0 (Ab B) := by
  refine entry (by decide +kernel) rfl (Nat.le_of_ble_eq_true rfl) (fun p e s m below meth c ls E hW hl => ?_)
  obtain ⟨hx, hb, hml, hown, hts, -⟩ := id E
  replace hl : lv_has ls 4 [(0, .ref (X.1 11)), (1, .int v1)] := hl
  unfold f_J7_fill_53178 at hf
  refine lv_iconst (v := (0 : Int32)) hx hb dJ7_fill_53178_0 (by decide) ?_
  refine lv_istore_n (lv' := [_, _, _]) hx hb dJ7_fill_53178_1 rfl hl (by decide) rfl (fun ls hl => ?_)
  refine lv_aload_n hx hb dJ7_fill_53178_2 rfl (lv_at hl 1 rfl) ?_
  refine rl_11 E hW dJ7_fill_53178_3 ?_
  refine lv_istore_n (lv' := [_, _, _, _]) hx hb dJ7_fill_53178_4 rfl hl (by decide) rfl (fun ls hl => ?_)
  exact w_J7_fill_53178_5 E 1000 _ _ _ _ _ _ _ hf hW (lv_sub hl [2, 3, 1, 0] rfl)
def f_X8_gainOf (cs : CS) (v1 : Option Nat) (v2 : Int32) (v3 : Int32) : Option (Int32) := ob v1 (none) fun a1 => (gd (a1 ∈ cl cs ∧ ck cs a1 = 0) <| (f_X6_factOf cs (cp cs a1 0) v2 (0 : Int32)).bind fun r2 => (f_X6_factOf cs (cp cs a1 0) v2 (6 : Int32)).bind fun r3 => if r2 = (2 : Int32) then ((f_X6_factOf cs (cp cs a1 0) v2 (3 : Int32)).bind fun r5 => some ((r3 / (2 : Int32)) - (r5 * v3))) else (if r2 = (1 : Int32) then ((f_X6_factOf cs (cp cs a1 0) v2 (3 : Int32)).bind fun r8 => some ((r3 / (2 : Int32)) - (r8 * v3))) else ((f_X6_factOf cs (cp cs a1 0) v2 (3 : Int32)).bind fun r7 => some (r3 - (r7 * v3)))))
def rm_X8_gainOf : Room := { frames := 3, cells := 0, slots := 0, locals := 70 }
set_option maxHeartbeats 4000000 in
set_option maxRecDepth 100000 in
theorem c_X8_gainOf (l : Launch) {X : XT} {B : Nat} {cs : CS} {ms : MS} {o : Nat → Int64} {v1 : Option Nat} {v2 : Int32} {v3 : Int32} {r : Int32} (hf : f_X8_gainOf cs v1 v2 v3 = some r) : Met l yX8_gainOf (.code yX8_gainOf cX8_gainOf 7 (some .int) :: BIG) rm_X8_gainOf (Pre X B (cs, ms, o) [.ref (X.1 0), va_rf v1, .int v2, .int v3]) (QI X B r (cs, ms, o)) 0 0 (Ab B) := by
  cases v1 with
  | none =>
    refine entry (by decide +kernel) rfl (Nat.le_of_ble_eq_true rfl) (fun p e s m below meth c ls E hW hl => ?_)
    obtain ⟨hx, hb, hml, hown, hts, -⟩ := id E
    replace hl : lv_has ls 7 [(0, .ref (X.1 0)), (1, .null), (2, .int v2), (3, .int v3)] := hl
    unfold f_X8_gainOf at hf
    replace hf := ob_n hf
    refine lv_aload_n hx hb dX8_gainOf_0 rfl (lv_at hl 0 rfl) ?_
    refine rg_X8_26 E hW dX8_gainOf_1 ?_
    refine lv_aload_nN hx hb dX8_gainOf_4 rfl (lv_at hl 1 rfl) ?_
    exact absurd hf nofun
  | some a1 =>
    refine entry (by decide +kernel) rfl (Nat.le_of_ble_eq_true rfl) (fun p e s m below meth c ls E hW hl => ?_)
    obtain ⟨hx, hb, hml, hown, hts, -⟩ := id E
    replace hl : lv_has ls 7 [(0, .ref (X.1 0)), (1, .ref a1), (2, .int v2), (3, .int v3)] := hl
    unfold f_X8_gainOf at hf
    replace hf := ob_s hf
    refine lv_aload_n hx hb dX8_gainOf_0 rfl (lv_at hl 0 rfl) ?_
    refine rg_X8_26 E hW dX8_gainOf_1 ?_
    refine lv_aload_n hx hb dX8_gainOf_4 rfl (lv_at hl 1 rfl) ?_
    obtain ⟨v1, hf⟩ := gd_e hf
    refine rg_X8_232 E hW v1 dX8_gainOf_5 ?_
    refine lv_iload_n hx hb dX8_gainOf_8 rfl (lv_at hl 2 rfl) ?_
    refine lv_iconst (v := (0 : Int32)) hx hb dX8_gainOf_9 (by decide) ?_
    obtain ⟨r2, hc, hf⟩ := b1_e hf
    refine callVI (As := [.int _, .int _, .int _]) (rest := []) E hW (c_X6_factOf l hc) lk_X8_174 rcv_X6 (Nat.le_of_ble_eq_true rfl) (Nat.le_of_ble_eq_true rfl) (Nat.le_of_ble_eq_true rfl) (Nat.le_of_ble_eq_true rfl) hl.1 (Nat.le_of_ble_eq_true rfl) dX8_gainOf_10 (fun H locs hW => ?_)
    refine lv_istore (lv' := [_, _, _, _, _]) hx hb dX8_gainOf_13 hl (by decide) rfl (fun ls hl => ?_)
    refine lv_aload_n hx hb dX8_gainOf_15 rfl (lv_at hl 1 rfl) ?_
    refine rg_X8_26 E hW dX8_gainOf_16 ?_
    refine lv_aload_n hx hb dX8_gainOf_19 rfl (lv_at hl 2 rfl) ?_
    refine rg_X8_232 E hW v1 dX8_gainOf_20 ?_
    refine lv_iload_n hx hb dX8_gainOf_23 rfl (lv_at hl 3 rfl) ?_
    refine lv_bipush (v := (6 : Int32)) hx hb dX8_gainOf_24 (by decide) ?_
    obtain ⟨r3, hc, hf⟩ := b1_e hf
    refine callVI (As := [.int _, .int _, .int _]) (rest := []) E hW (c_X6_factOf l hc) lk_X8_174 rcv_X6 (Nat.le_of_ble_eq_true rfl) (Nat.le_of_ble_eq_true rfl) (Nat.le_of_ble_eq_true rfl) (Nat.le_of_ble_eq_true rfl) hl.1 (Nat.le_of_ble_eq_true rfl) dX8_gainOf_26 (fun H locs hW => ?_)
    refine lv_istore (lv' := [_, _, _, _, _, _]) hx hb dX8_gainOf_29 hl (by decide) rfl (fun ls hl => ?_)
    refine lv_iload hx hb dX8_gainOf_31 (lv_at hl 1 rfl) ?_
    refine lv_iconst (v := (2 : Int32)) hx hb dX8_gainOf_33 (by decide) ?_
    refine lv_icmp_eq (tgt := 43) hx hb dX8_gainOf_34 (by decide) (fun h4 => ?_) (fun h4 => ?_)
    · replace hf := ite_t h4 hf
      refine lv_iload hx hb dX8_gainOf_43 (lv_at hl 0 rfl) ?_
      refine lv_iconst (v := (2 : Int32)) hx hb dX8_gainOf_45 (by decide) ?_
      refine lv_idiv hx hb dX8_gainOf_46 (by decide) ?_
      refine lv_goto (tgt := 52) hx hb dX8_gainOf_47 (by decide) ?_
      refine lv_istore (lv' := [_, _, _, _, _, _, _]) hx hb dX8_gainOf_52 hl (by decide) rfl (fun ls hl => ?_)
      refine lv_iload hx hb dX8_gainOf_54 (lv_at hl 0 rfl) ?_
      refine lv_aload_n hx hb dX8_gainOf_56 rfl (lv_at hl 3 rfl) ?_
      refine rg_X8_26 E hW dX8_gainOf_57 ?_
      refine lv_aload_n hx hb dX8_gainOf_60 rfl (lv_at hl 4 rfl) ?_
      refine rg_X8_232 E hW v1 dX8_gainOf_61 ?_
      refine lv_iload_n hx hb dX8_gainOf_64 rfl (lv_at hl 5 rfl) ?_
      refine lv_iconst (v := (3 : Int32)) hx hb dX8_gainOf_65 (by decide) ?_
      obtain ⟨r5, hc, hf⟩ := b1_e hf
      refine callVI (As := [.int _, .int _, .int _]) (rest := [_]) E hW (c_X6_factOf l hc) lk_X8_174 rcv_X6 (Nat.le_of_ble_eq_true rfl) (Nat.le_of_ble_eq_true rfl) (Nat.le_of_ble_eq_true rfl) (Nat.le_of_ble_eq_true rfl) hl.1 (Nat.le_of_ble_eq_true rfl) dX8_gainOf_66 (fun H locs hW => ?_)
      refine lv_iload_n hx hb dX8_gainOf_69 rfl (lv_at hl 6 rfl) ?_
      refine lv_imul hx hb dX8_gainOf_70 ?_
      refine lv_isub hx hb dX8_gainOf_71 ?_
      exact retI E hW ⟨Option.some.inj hf, rfl⟩ dX8_gainOf_72
    · replace hf := ite_f h4 hf
      refine lv_iload hx hb dX8_gainOf_37 (lv_at hl 1 rfl) ?_
      refine lv_iconst (v := (1 : Int32)) hx hb dX8_gainOf_39 (by decide) ?_
      refine lv_icmp_ne (tgt := 50) hx hb dX8_gainOf_40 (by decide) (fun h6 => ?_) (fun h6 => ?_)
      · replace hf := ite_f h6 hf
        refine lv_iload hx hb dX8_gainOf_50 (lv_at hl 0 rfl) ?_
        refine lv_istore (lv' := [_, _, _, _, _, _, _]) hx hb dX8_gainOf_52 hl (by decide) rfl (fun ls hl => ?_)
        refine lv_iload hx hb dX8_gainOf_54 (lv_at hl 0 rfl) ?_
        refine lv_aload_n hx hb dX8_gainOf_56 rfl (lv_at hl 3 rfl) ?_
        refine rg_X8_26 E hW dX8_gainOf_57 ?_
        refine lv_aload_n hx hb dX8_gainOf_60 rfl (lv_at hl 4 rfl) ?_
        refine rg_X8_232 E hW v1 dX8_gainOf_61 ?_
        refine lv_iload_n hx hb dX8_gainOf_64 rfl (lv_at hl 5 rfl) ?_
        refine lv_iconst (v := (3 : Int32)) hx hb dX8_gainOf_65 (by decide) ?_
        obtain ⟨r7, hc, hf⟩ := b1_e hf
        refine callVI (As := [.int _, .int _, .int _]) (rest := [_]) E hW (c_X6_factOf l hc) lk_X8_174 rcv_X6 (Nat.le_of_ble_eq_true rfl) (Nat.le_of_ble_eq_true rfl) (Nat.le_of_ble_eq_true rfl) (Nat.le_of_ble_eq_true rfl) hl.1 (Nat.le_of_ble_eq_true rfl) dX8_gainOf_66 (fun H locs hW => ?_)
        refine lv_iload_n hx hb dX8_gainOf_69 rfl (lv_at hl 6 rfl) ?_
        refine lv_imul hx hb dX8_gainOf_70 ?_
        refine lv_isub hx hb dX8_gainOf_71 ?_
        exact retI E hW ⟨Option.some.inj hf, rfl⟩ dX8_gainOf_72
      · replace hf := ite_t h6 hf
        refine lv_iload hx hb dX8_gainOf_43 (lv_at hl 0 rfl) ?_
        refine lv_iconst (v := (2 : Int32)) hx hb dX8_gainOf_45 (by decide) ?_
        refine lv_idiv hx hb dX8_gainOf_46 (by decide) ?_
        refine lv_goto (tgt := 52) hx hb dX8_gainOf_47 (by decide) ?_
        refine lv_istore (lv' := [_, _, _, _, _, _, _]) hx hb dX8_gainOf_52 hl (by decide) rfl (fun ls hl => ?_)
        refine lv_iload hx hb dX8_gainOf_54 (lv_at hl 0 rfl) ?_
        refine lv_aload_n hx hb dX8_gainOf_56 rfl (lv_at hl 3 rfl) ?_
        refine rg_X8_26 E hW dX8_gainOf_57 ?_
        refine lv_aload_n hx hb dX8_gainOf_60 rfl (lv_at hl 4 rfl) ?_
        refine rg_X8_232 E hW v1 dX8_gainOf_61 ?_
        refine lv_iload_n hx hb dX8_gainOf_64 rfl (lv_at hl 5 rfl) ?_
        refine lv_iconst (v := (3 : Int32)) hx hb dX8_gainOf_65 (by decide) ?_
        obtain ⟨r8, hc, hf⟩ := b1_e hf
        refine callVI (As := [.int _, .int _, .int _]) (rest := [_]) E hW (c_X6_factOf l hc) lk_X8_174 rcv_X6 (Nat.le_of_ble_eq_true rfl) (Nat.le_of_ble_eq_true rfl) (Nat.le_of_ble_eq_true rfl) (Nat.le_of_ble_eq_true rfl) hl.1 (Nat.le_of_ble_eq_true rfl) dX8_gainOf_66 (fun H locs hW => ?_)
        refine lv_iload_n hx hb dX8_gainOf_69 rfl (lv_at hl 6 rfl) ?_
        refine lv_imul hx hb dX8_gainOf_70 ?_
        refine lv_isub hx hb dX8_gainOf_71 ?_
        exact retI E hW ⟨Option.some.inj hf, rfl⟩ dX8_gainOf_72
def f_X8_sumGains_23 : Nat → CS → Nat → Int32 → Int32 → Option (CS)
  | 0, _, _, _, _ => none
  | n + 1, cs, v1, v2, v3 => if v3 < 0 then (some cs) else ((f_X8_mayBeChosen cs (some v1) v3).bind fun r5 => if r5 = 0 then (f_X8_sumGains_23 n cs v1 v2 (v3 + (-1 : Int32))) else ((ldI (ca cs 11) 24 v3).bind fun q8 => (f_X8_gainOf cs (some v1) v3 v2).bind fun r9 => ixr 24 v3 <| gd (v1 ∈ cl (caU cs 11 (v3).toNatClampNeg (q8 + r9)) ∧ ck (caU cs 11 (v3).toNatClampNeg (q8 + r9)) v1 = 0) <| (f_X6_factOf (caU cs 11 (v3).toNatClampNeg (q8 + r9)) (cp (caU cs 11 (v3).toNatClampNeg (q8 + r9)) v1 0) v3 (2 : Int32)).bind fun r12 => (ldI (ca (caU cs 11 (v3).toNatClampNeg (q8 + r9)) 11) 24 v3).bind fun q14 => if q14 ≤ 0 then (f_X8_sumGains_23 n (caU cs 11 (v3).toNatClampNeg (q8 + r9)) v1 v2 (v3 + (-1 : Int32))) else (if r12 < 0 then (f_X8_sumGains_23 n (caU cs 11 (v3).toNatClampNeg (q8 + r9)) v1 v2 (v3 + (-1 : Int32))) else (if (24 : Int32) ≤ r12 then (f_X8_sumGains_23 n (caU cs 11 (v3).toNatClampNeg (q8 + r9)) v1 v2 (v3 + (-1 : Int32))) else ((ldI (ca (caU cs 11 (v3).toNatClampNeg (q8 + r9)) 11) 24 r12).bind fun q19 => (ldI (ca (caU cs 11 (v3).toNatClampNeg (q8 + r9)) 11) 24 v3).bind fun q21 => ixr 24 r12 <| f_X8_sumGains_23 n (caU (caU cs 11 (v3).toNatClampNeg (q8 + r9)) 11 (r12).toNatClampNeg (q19 + q21)) v1 v2 (v3 + (-1 : Int32)))))))
def f_X8_sumGains (cs : CS) (v1 : Option Nat) (v2 : Int32) : Option (CS) := ob v1 ((f_J7_fill_53178 cs (0 : Int32)).bind fun cs1 => none) fun a1 => ((f_J7_fill_53178 cs (0 : Int32)).bind fun cs2 => gd (a1 ∈ cl cs2 ∧ ck cs2 a1 = 0) <| f_X8_sumGains_23 1000 cs2 a1 v2 ((if (24 : Int32) < (cp cs2 a1 3) then (24 : Int32) else (cp cs2 a1 3)) - (1 : Int32)))
def rm_X8_sumGains : Room := { frames := 4, cells := 0, slots := 0, locals := 96 }
set_option maxHeartbeats 4000000 in
set_option maxRecDepth 100000 in
theorem w_X8_sumGains_23 {p : Program} {l : Launch} {e : Env} {s : State} {m : MethodId} {args : Array Value} {below : List Frame} {meth : Method} {c : Code} {X : XT} {B : Nat} {ms : MS} {o : Nat → Int64} {S9 : CS} (E : Ev X B p s m args meth c RX8 cX8_sumGains 5 none) : ∀ (n : Nat) (cs : CS) (v1 : Nat) (v2 : Int32) (v3 : Int32) (H : Heap) (locs : List Loc) (ls : Array Slot), f_X8_sumGains_23 n cs v1 v2 v3 = some S9 → Ws X B s.heap H locs (cs, ms, o) → lv_has ls 5 [(0, .ref (X.1 0)), (1, .ref v1), (2, .int v2), (3, .int v3)] → W p l e rm_X8_sumGains s m args below meth c H locs 0 0 (MQ below (QV X B (S9, ms, o)) args s 0 0 (Ab B)) (F0 m 23 ls []) := by
  obtain ⟨hx, hb, hml, hown, hts, -⟩ := id E
  intro n
  induction n with
  | zero => intro cs v1 v2 v3 H locs ls hf; exact absurd hf nofun
  | succ n ih =>
    intro cs v1 v2 v3 H locs ls hf hW hl
    rw [f_X8_sumGains_23] at hf
    refine lv_iload_n hx hb dX8_sumGains_23 rfl (lv_at hl 3 rfl) ?_
    refine lv_if_lt (tgt := 113) hx hb dX8_sumGains_24 (by decide) (fun h4 => ?_) (fun h4 => ?_)
    · replace hf := ite_t h4 hf
      exact retV E hW (e1C hf) dX8_sumGains_113
    · replace hf := ite_f h4 hf
      refine lv_aload_n hx hb dX8_sumGains_27 rfl (lv_at hl 0 rfl) ?_
      refine lv_aload_n hx hb dX8_sumGains_28 rfl (lv_at hl 1 rfl) ?_
      refine lv_iload_n hx hb dX8_sumGains_29 rfl (lv_at hl 3 rfl) ?_
      obtain ⟨r5, hc, hf⟩ := b1_e hf
      refine callVI (As := [va_rf (some _), .int _]) (rest := []) E hW (c_X8_mayBeChosen l hc) lk_X8_400 rcv_X8 (Nat.le_of_ble_eq_true rfl) (Nat.le_of_ble_eq_true rfl) (Nat.le_of_ble_eq_true rfl) (Nat.le_of_ble_eq_true rfl) hl.1 (Nat.le_of_ble_eq_true rfl) dX8_sumGains_30 (fun H locs hW => ?_)
      refine lv_if_eq (tgt := 107) hx hb dX8_sumGains_33 (by decide) (fun h6 => ?_) (fun h6 => ?_)
      · replace hf := ite_t h6 hf
        refine lv_iinc (v := _ + (-1 : Int32)) (lv' := [_, _, _, _]) hx hb dX8_sumGains_107 hl (k := 3) rfl rfl (by decide) rfl (fun ls hl => ?_)
        refine lv_goto (tgt := 23) hx hb dX8_sumGains_110 (by decide) ?_
        exact ih _ _ _ _ _ _ _ hf hW (lv_sub hl [1, 2, 3, 0] rfl)
      · replace hf := ite_f h6 hf
        refine lv_aload_n hx hb dX8_sumGains_36 rfl (lv_at hl 0 rfl) ?_
        refine rg_X8_60 E hW dX8_sumGains_37 ?_
        refine lv_iload_n hx hb dX8_sumGains_40 rfl (lv_at hl 3 rfl) ?_
        refine lv_dup2_11 hx hb dX8_sumGains_41 rfl rfl ?_
        obtain ⟨v7, hf⟩ := ldI_e hf
        refine ra_11 E hW v7 dX8_sumGains_42 ?_
        refine lv_aload_n hx hb dX8_sumGains_43 rfl (lv_at hl 0 rfl) ?_
        refine lv_aload_n hx hb dX8_sumGains_44 rfl (lv_at hl 1 rfl) ?_
        refine lv_iload_n hx hb dX8_sumGains_45 rfl (lv_at hl 3 rfl) ?_
        refine lv_iload_n hx hb dX8_sumGains_46 rfl (lv_at hl 2 rfl) ?_
        obtain ⟨r9, hc, hf⟩ := b1_e hf
        refine callVI (As := [va_rf (some _), .int _, .int _]) (rest := [_, _, _]) E hW (c_X8_gainOf l hc) lk_X8_390 rcv_X8 (Nat.le_of_ble_eq_true rfl) (Nat.le_of_ble_eq_true rfl) (Nat.le_of_ble_eq_true rfl) (Nat.le_of_ble_eq_true rfl) hl.1 (Nat.le_of_ble_eq_true rfl) dX8_sumGains_47 (fun H locs hW => ?_)
        refine lv_iadd hx hb dX8_sumGains_50 ?_
        obtain ⟨v10, hf⟩ := ixr_e hf
        refine rs_11 E hW v10 dX8_sumGains_51 (fun H locs hW => ?_)
        refine lv_aload_n hx hb dX8_sumGains_52 rfl (lv_at hl 0 rfl) ?_
        refine rg_X8_26 E hW dX8_sumGains_53 ?_
        refine lv_aload_n hx hb dX8_sumGains_56 rfl (lv_at hl 1 rfl) ?_
        obtain ⟨v11, hf⟩ := gd_e hf
        refine rg_X8_232 E hW v11 dX8_sumGains_57 ?_
        refine lv_iload_n hx hb dX8_sumGains_60 rfl (lv_at hl 3 rfl) ?_
        refine lv_iconst (v := (2 : Int32)) hx hb dX8_sumGains_61 (by decide) ?_
        obtain ⟨r12, hc, hf⟩ := b1_e hf
        refine callVI (As := [.int _, .int _, .int _]) (rest := []) E hW (c_X6_factOf l hc) lk_X8_174 rcv_X6 (Nat.le_of_ble_eq_true rfl) (Nat.le_of_ble_eq_true rfl) (Nat.le_of_ble_eq_true rfl) (Nat.le_of_ble_eq_true rfl) hl.1 (Nat.le_of_ble_eq_true rfl) dX8_sumGains_62 (fun H locs hW => ?_)
        refine lv_istore (lv' := [_, _, _, _, _]) hx hb dX8_sumGains_65 hl (by decide) rfl (fun ls hl => ?_)
        refine lv_aload_n hx hb dX8_sumGains_67 rfl (lv_at hl 1 rfl) ?_
        refine rg_X8_60 E hW dX8_sumGains_68 ?_
        refine lv_iload_n hx hb dX8_sumGains_71 rfl (lv_at hl 4 rfl) ?_
        obtain ⟨v13, hf⟩ := ldI_e hf
        refine ra_11 E hW v13 dX8_sumGains_72 ?_
        refine lv_if_le (tgt := 107) hx hb dX8_sumGains_73 (by decide) (fun h15 => ?_) (fun h15 => ?_)
        · replace hf := ite_t h15 hf
          refine lv_iinc (v := _ + (-1 : Int32)) (lv' := [_, _, _, _, _]) hx hb dX8_sumGains_107 hl (k := 4) rfl rfl (by decide) rfl (fun ls hl => ?_)
          refine lv_goto (tgt := 23) hx hb dX8_sumGains_110 (by decide) ?_
          exact ih _ _ _ _ _ _ _ hf hW (lv_sub hl [2, 3, 4, 0] rfl)
        · replace hf := ite_f h15 hf
          refine lv_iload hx hb dX8_sumGains_76 (lv_at hl 0 rfl) ?_
          refine lv_if_lt (tgt := 107) hx hb dX8_sumGains_78 (by decide) (fun h16 => ?_) (fun h16 => ?_)
          · replace hf := ite_t h16 hf
            refine lv_iinc (v := _ + (-1 : Int32)) (lv' := [_, _, _, _, _]) hx hb dX8_sumGains_107 hl (k := 4) rfl rfl (by decide) rfl (fun ls hl => ?_)
            refine lv_goto (tgt := 23) hx hb dX8_sumGains_110 (by decide) ?_
            exact ih _ _ _ _ _ _ _ hf hW (lv_sub hl [2, 3, 4, 0] rfl)
          · replace hf := ite_f h16 hf
            refine lv_iload hx hb dX8_sumGains_81 (lv_at hl 0 rfl) ?_
            refine lv_aload_n hx hb dX8_sumGains_83 rfl (lv_at hl 1 rfl) ?_
            refine rg_X8_60 E hW dX8_sumGains_84 ?_
            refine rl_11 E hW dX8_sumGains_87 ?_
            refine lv_icmp_ge (tgt := 107) hx hb dX8_sumGains_88 (by decide) (fun h17 => ?_) (fun h17 => ?_)
            · replace hf := ite_t h17 hf
              refine lv_iinc (v := _ + (-1 : Int32)) (lv' := [_, _, _, _, _]) hx hb dX8_sumGains_107 hl (k := 4) rfl rfl (by decide) rfl (fun ls hl => ?_)
              refine lv_goto (tgt := 23) hx hb dX8_sumGains_110 (by decide) ?_
              exact ih _ _ _ _ _ _ _ hf hW (lv_sub hl [2, 3, 4, 0] rfl)
            · replace hf := ite_f h17 hf
              refine lv_aload_n hx hb dX8_sumGains_91 rfl (lv_at hl 1 rfl) ?_
              refine rg_X8_60 E hW dX8_sumGains_92 ?_
              refine lv_iload hx hb dX8_sumGains_95 (lv_at hl 0 rfl) ?_
              refine lv_dup2_11 hx hb dX8_sumGains_97 rfl rfl ?_
              obtain ⟨v18, hf⟩ := ldI_e hf
              refine ra_11 E hW v18 dX8_sumGains_98 ?_
              refine lv_aload_n hx hb dX8_sumGains_99 rfl (lv_at hl 1 rfl) ?_
              refine rg_X8_60 E hW dX8_sumGains_100 ?_
              refine lv_iload_n hx hb dX8_sumGains_103 rfl (lv_at hl 4 rfl) ?_
              obtain ⟨v20, hf⟩ := ldI_e hf
              refine ra_11 E hW v20 dX8_sumGains_104 ?_
              refine lv_iadd hx hb dX8_sumGains_105 ?_
              obtain ⟨v22, hf⟩ := ixr_e hf
              refine rs_11 E hW v22 dX8_sumGains_106 (fun H locs hW => ?_)
              refine lv_iinc (v := _ + (-1 : Int32)) (lv' := [_, _, _, _, _]) hx hb dX8_sumGains_107 hl (k := 4) rfl rfl (by decide) rfl (fun ls hl => ?_)
              refine lv_goto (tgt := 23) hx hb dX8_sumGains_110 (by decide) ?_
              exact ih _ _ _ _ _ _ _ hf hW (lv_sub hl [2, 3, 4, 0] rfl)
set_option maxHeartbeats 4000000 in
set_option maxRecDepth 100000 in
theorem c_X8_sumGains (l : Launch) {X : XT} {B : Nat} {cs : CS} {ms : MS} {o : Nat → Int64} {v1 : Option Nat} {v2 : Int32} {S9 : CS} (hf : f_X8_sumGains cs v1 v2 = some S9) : Met l yX8_sumGains (.code yX8_sumGains cX8_sumGains 5 none :: BIG) rm_X8_sumGains (Pre X B (cs, ms, o) [.ref (X.1 0), va_rf v1, .int v2]) (QV X B (S9, ms, o)) 0 0 (Ab B) := by
  cases v1 with
  | none =>
    refine entry (by decide +kernel) rfl (Nat.le_of_ble_eq_true rfl) (fun p e s m below meth c ls E hW hl => ?_)
    obtain ⟨hx, hb, hml, hown, hts, -⟩ := id E
    replace hl : lv_has ls 5 [(0, .ref (X.1 0)), (1, .null), (2, .int v2)] := hl
    unfold f_X8_sumGains at hf
    replace hf := ob_n hf
    refine lv_aload_n hx hb dX8_sumGains_0 rfl (lv_at hl 0 rfl) ?_
    refine rg_X8_60 E hW dX8_sumGains_1 ?_
    refine lv_iconst (v := (0 : Int32)) hx hb dX8_sumGains_4 (by decide) ?_
    obtain ⟨cs1, hc, hf⟩ := b1_e hf
    refine callSV (As := [.ref _, .int _]) (rest := []) E hW (c_J7_fill_53178 l hc) lk_X8_403 (Nat.le_of_ble_eq_true rfl) (Nat.le_of_ble_eq_true rfl) (Nat.le_of_ble_eq_true rfl) (Nat.le_of_ble_eq_true rfl) hl.1 (Nat.le_of_ble_eq_true rfl) dX8_sumGains_5 (fun H locs hW => ?_)
    refine lv_aload_nN hx hb dX8_sumGains_8 rfl (lv_at hl 1 rfl) ?_
    exact absurd hf nofun
  | some a1 =>
    refine entry (by decide +kernel) rfl (Nat.le_of_ble_eq_true rfl) (fun p e s m below meth c ls E hW hl => ?_)
    obtain ⟨hx, hb, hml, hown, hts, -⟩ := id E
    replace hl : lv_has ls 5 [(0, .ref (X.1 0)), (1, .ref a1), (2, .int v2)] := hl
    unfold f_X8_sumGains at hf
    replace hf := ob_s hf
    refine lv_aload_n hx hb dX8_sumGains_0 rfl (lv_at hl 0 rfl) ?_
    refine rg_X8_60 E hW dX8_sumGains_1 ?_
    refine lv_iconst (v := (0 : Int32)) hx hb dX8_sumGains_4 (by decide) ?_
    obtain ⟨cs2, hc, hf⟩ := b1_e hf
    refine callSV (As := [.ref _, .int _]) (rest := []) E hW (c_J7_fill_53178 l hc) lk_X8_403 (Nat.le_of_ble_eq_true rfl) (Nat.le_of_ble_eq_true rfl) (Nat.le_of_ble_eq_true rfl) (Nat.le_of_ble_eq_true rfl) hl.1 (Nat.le_of_ble_eq_true rfl) dX8_sumGains_5 (fun H locs hW => ?_)
    refine lv_aload_n hx hb dX8_sumGains_8 rfl (lv_at hl 1 rfl) ?_
    obtain ⟨v3, hf⟩ := gd_e hf
    refine rg_X8_265 E hW v3 dX8_sumGains_9 ?_
    refine lv_aload_n hx hb dX8_sumGains_12 rfl (lv_at hl 0 rfl) ?_
    refine rg_X8_60 E hW dX8_sumGains_13 ?_
    refine rl_11 E hW dX8_sumGains_16 ?_
    refine va_mmin hx hb (hml.trans hl.1.symm) hown (hts _ km_X8_365) (hts _ km_min_s) (hts _ km_ini) (hts _ km_min_c) (Nat.le_of_ble_eq_true rfl) (Nat.le_of_ble_eq_true rfl) (Nat.le_of_ble_eq_true rfl) (Nat.le_of_ble_eq_true rfl) dX8_sumGains_17 ?_
    refine lv_iconst (v := (1 : Int32)) hx hb dX8_sumGains_20 (by decide) ?_
    refine lv_isub hx hb dX8_sumGains_21 ?_
    refine lv_istore_n (lv' := [_, _, _, _]) hx hb dX8_sumGains_22 rfl hl (by decide) rfl (fun ls hl => ?_)
    exact w_X8_sumGains_23 E 1000 _ _ _ _ _ _ _ hf hW (lv_sub hl [1, 2, 3, 0] rfl)
def f_X8_bestOf_103 (k : CS → Nat → Int32 → Int32 → Option (Int32 × CS)) (cs : CS) (v1 : Nat) (v3 : Int32) (v4 : Int32) : Option (Int32 × CS) := k cs v1 v3 (v4 + (1 : Int32))
def f_X8_bestOf_69 (k : CS → Nat → Int32 → Int32 → Option (Int32 × CS)) (cs : CS) (v1 : Nat) (v3 : Int32) (v4 : Int32) (s0 : Int32) : Option (Int32 × CS) := (f_X8_mayBeChosen cs (some v1) v4).bind fun r9 => if r9 = 0 then (f_X8_bestOf_103 k cs v1 v3 v4) else (if s0 = 0 then (f_X8_bestOf_103 k cs v1 v3 v4) else ((ldI (ca cs 11) 24 v4).bind fun q13 => if q13 ≤ 0 then (f_X8_bestOf_103 k cs v1 v3 v4) else (f_X8_bestOf_103 k cs v1 (v3 ||| ((1 : Int32) <<< (v4 &&& 31))) v4)))
def f_X8_bestOf_64 (k : CS → Nat → Int32 → Int32 → Option (Int32 × CS)) (cs : CS) (v1 : Nat) (v3 : Int32) (v4 : Int32) : Option (Int32 × CS) := f_X8_bestOf_69 k cs v1 v3 v4 (1 : Int32)
def f_X8_bestOf_11 : Nat → CS → Nat → Int32 → Int32 → Option (Int32 × CS)
  | 0, _, _, _, _ => none
  | n + 1, cs, v1, v3, v4 => gd (v1 ∈ cl cs ∧ ck cs v1 = 0) <| if (cp cs v1 3) ≤ v4 then (some (v3, cs)) else (if (24 : Int32) ≤ v4 then (some (v3, cs)) else ((f_X6_factOf cs (cp cs v1 0) v4 (2 : Int32)).bind fun r6 => (f_X1_isOn cs v1 r6).bind fun r7 => if r7 = 0 then (f_X8_bestOf_64 (f_X8_bestOf_11 n) cs v1 v3 v4) else (if ((v3 >>> (r6 &&& 31)) &&& (1 : Int32)) = 0 then (f_X8_bestOf_69 (f_X8_bestOf_11 n) cs v1 v3 v4 (0 : Int32)) else (f_X8_bestOf_64 (f_X8_bestOf_11 n) cs v1 v3 v4))))
def f_X8_bestOf (cs : CS) (v1 : Option Nat) (v2 : Int32) : Option (Int32 × CS) := ob v1 ((f_X8_sumGains cs none v2).bind fun cs1 => none) fun a1 => ((f_X8_sumGains cs (some a1) v2).bind fun cs2 => f_X8_bestOf_11 1000 cs2 a1 (0 : Int32) (0 : Int32))
def rm_X8_bestOf : Room := { frames := 5, cells := 0, slots := 0, locals := 120 }
set_option maxHeartbeats 4000000 in
set_option maxRecDepth 100000 in
theorem w_X8_bestOf_103 {p : Program} {l : Launch} {e : Env} {s : State} {m : MethodId} {args : Array Value} {below : List Frame} {meth : Method} {c : Code} {X : XT} {B : Nat} {ms : MS} {o : Nat → Int64} {r : Int32} {S9 : CS} (E : Ev X B p s m args meth c RX8 cX8_bestOf 7 (some .int)) (k : CS → Nat → Int32 → Int32 → Option (Int32 × CS)) (hk : ∀ (cs : CS) (v1 : Nat) (v3 : Int32) (v4 : Int32) (H : Heap) (locs : List Loc) (ls : Array Slot), k cs v1 v3 v4 = some (r, S9) → Ws X B s.heap H locs (cs, ms, o) → lv_has ls 7 [(0, .ref (X.1 0)), (1, .ref v1), (3, .int v3), (4, .int v4)] → W p l e rm_X8_bestOf s m args below meth c H locs 0 0 (MQ below (QI X B r (S9, ms, o)) args s 0 0 (Ab B)) (F0 m 11 ls [])) : ∀ (cs : CS) (v1 : Nat) (v3 : Int32) (v4 : Int32) (H : Heap) (locs : List Loc) (ls : Array Slot), f_X8_bestOf_103 k cs v1 v3 v4 = some (r, S9) → Ws X B s.heap H locs (cs, ms, o) → lv_has ls 7 [(0, .ref (X.1 0)), (1, .ref v1), (3, .int v3), (4, .int v4)] → W p l e rm_X8_bestOf s m args below meth c H locs 0 0 (MQ below (QI X B r (S9, ms, o)) args s 0 0 (Ab B)) (F0 m 103 ls []) := by
  obtain ⟨hx, hb, hml, hown, hts, -⟩ := id E
  intro cs v1 v3 v4 H locs ls hf hW hl
  unfold f_X8_bestOf_103 at hf
  refine lv_iinc (v := _ + (1 : Int32)) (lv' := [_, _, _, _]) hx hb dX8_bestOf_103 hl (k := 3) rfl rfl (by decide) rfl (fun ls hl => ?_)
  refine lv_goto (tgt := 11) hx hb dX8_bestOf_106 (by decide) ?_
  exact hk _ _ _ _ _ _ _ hf hW (lv_sub hl [1, 2, 3, 0] rfl)
set_option maxHeartbeats 4000000 in
set_option maxRecDepth 100000 in
theorem w_X8_bestOf_69 {p : Program} {l : Launch} {e : Env} {s : State} {m : MethodId} {args : Array Value} {below : List Frame} {meth : Method} {c : Code} {X : XT} {B : Nat} {ms : MS} {o : Nat → Int64} {r : Int32} {S9 : CS} (E : Ev X B p s m args meth c RX8 cX8_bestOf 7 (some .int)) (k : CS → Nat → Int32 → Int32 → Option (Int32 × CS)) (hk : ∀ (cs : CS) (v1 : Nat) (v3 : Int32) (v4 : Int32) (H : Heap) (locs : List Loc) (ls : Array Slot), k cs v1 v3 v4 = some (r, S9) → Ws X B s.heap H locs (cs, ms, o) → lv_has ls 7 [(0, .ref (X.1 0)), (1, .ref v1), (3, .int v3), (4, .int v4)] → W p l e rm_X8_bestOf s m args below meth c H locs 0 0 (MQ below (QI X B r (S9, ms, o)) args s 0 0 (Ab B)) (F0 m 11 ls [])) : ∀ (cs : CS) (v1 : Nat) (v3 : Int32) (v4 : Int32) (s0 : Int32) (H : Heap) (locs : List Loc) (ls : Array Slot), f_X8_bestOf_69 k cs v1 v3 v4 s0 = some (r, S9) → Ws X B s.heap H locs (cs, ms, o) → lv_has ls 7 [(0, .ref (X.1 0)), (1, .ref v1), (3, .int v3), (4, .int v4)] → W p l e rm_X8_bestOf s m args below meth c H locs 0 0 (MQ below (QI X B r (S9, ms, o)) args s 0 0 (Ab B)) (F0 m 69 ls [.int s0]) := by
  obtain ⟨hx, hb, hml, hown, hts, -⟩ := id E
  intro cs v1 v3 v4 s0 H locs ls hf hW hl
  unfold f_X8_bestOf_69 at hf
  refine lv_istore (lv' := [_, _, _, _, _]) hx hb dX8_bestOf_69 hl (by decide) rfl (fun ls hl => ?_)
  refine lv_aload_n hx hb dX8_bestOf_71 rfl (lv_at hl 1 rfl) ?_
  refine lv_aload_n hx hb dX8_bestOf_72 rfl (lv_at hl 2 rfl) ?_
  refine lv_iload hx hb dX8_bestOf_73 (lv_at hl 4 rfl) ?_
  obtain ⟨r9, hc, hf⟩ := b1_e hf
  refine callVI (As := [va_rf (some _), .int _]) (rest := []) E hW (c_X8_mayBeChosen l hc) lk_X8_400 rcv_X8 (Nat.le_of_ble_eq_true rfl) (Nat.le_of_ble_eq_true rfl) (Nat.le_of_ble_eq_true rfl) (Nat.le_of_ble_eq_true rfl) hl.1 (Nat.le_of_ble_eq_true rfl) dX8_bestOf_75 (fun H locs hW => ?_)
  refine lv_if_eq (tgt := 103) hx hb dX8_bestOf_78 (by decide) (fun h10 => ?_) (fun h10 => ?_)
  · replace hf := ite_t h10 hf
    exact w_X8_bestOf_103 E k hk _ _ _ _ _ _ _ hf hW (lv_sub hl [1, 2, 3, 4] rfl)
  · replace hf := ite_f h10 hf
    refine lv_iload hx hb dX8_bestOf_81 (lv_at hl 0 rfl) ?_
    refine lv_if_eq (tgt := 103) hx hb dX8_bestOf_83 (by decide) (fun h11 => ?_) (fun h11 => ?_)
    · replace hf := ite_t h11 hf
      exact w_X8_bestOf_103 E k hk _ _ _ _ _ _ _ hf hW (lv_sub hl [1, 2, 3, 4] rfl)
    · replace hf := ite_f h11 hf
      refine lv_aload_n hx hb dX8_bestOf_86 rfl (lv_at hl 1 rfl) ?_
      refine rg_X8_60 E hW dX8_bestOf_87 ?_
      refine lv_iload hx hb dX8_bestOf_90 (lv_at hl 4 rfl) ?_
      obtain ⟨v12, hf⟩ := ldI_e hf
      refine ra_11 E hW v12 dX8_bestOf_92 ?_
      refine lv_if_le (tgt := 103) hx hb dX8_bestOf_93 (by decide) (fun h14 => ?_) (fun h14 => ?_)
      · replace hf := ite_t h14 hf
        exact w_X8_bestOf_103 E k hk _ _ _ _ _ _ _ hf hW (lv_sub hl [1, 2, 3, 4] rfl)
      · replace hf := ite_f h14 hf
        refine lv_iload_n hx hb dX8_bestOf_96 rfl (lv_at hl 3 rfl) ?_
        refine lv_iconst (v := (1 : Int32)) hx hb dX8_bestOf_97 (by decide) ?_
        refine lv_iload hx hb dX8_bestOf_98 (lv_at hl 4 rfl) ?_
        refine lv_ishl hx hb dX8_bestOf_100 ?_
        refine lv_ior hx hb dX8_bestOf_101 ?_
        refine lv_istore_n (lv' := [_, _, _, _, _]) hx hb dX8_bestOf_102 rfl hl (by decide) rfl (fun ls hl => ?_)
        exact w_X8_bestOf_103 E k hk _ _ _ _ _ _ _ hf hW (lv_sub hl [2, 3, 0, 4] rfl)
set_option maxHeartbeats 4000000 in
set_option maxRecDepth 100000 in
theorem w_X8_bestOf_64 {p : Program} {l : Launch} {e : Env} {s : State} {m : MethodId} {args : Array Value} {below : List Frame} {meth : Method} {c : Code} {X : XT} {B : Nat} {ms : MS} {o : Nat → Int64} {r : Int32} {S9 : CS} (E : Ev X B p s m args meth c RX8 cX8_bestOf 7 (some .int)) (k : CS → Nat → Int32 → Int32 → Option (Int32 × CS)) (hk : ∀ (cs : CS) (v1 : Nat) (v3 : Int32) (v4 : Int32) (H : Heap) (locs : List Loc) (ls : Array Slot), k cs v1 v3 v4 = some (r, S9) → Ws X B s.heap H locs (cs, ms, o) → lv_has ls 7 [(0, .ref (X.1 0)), (1, .ref v1), (3, .int v3), (4, .int v4)] → W p l e rm_X8_bestOf s m args below meth c H locs 0 0 (MQ below (QI X B r (S9, ms, o)) args s 0 0 (Ab B)) (F0 m 11 ls [])) : ∀ (cs : CS) (v1 : Nat) (v3 : Int32) (v4 : Int32) (H : Heap) (locs : List Loc) (ls : Array Slot), f_X8_bestOf_64 k cs v1 v3 v4 = some (r, S9) → Ws X B s.heap H locs (cs, ms, o) → lv_has ls 7 [(0, .ref (X.1 0)), (1, .ref v1), (3, .int v3), (4, .int v4)] → W p l e rm_X8_bestOf s m args below meth c H locs 0 0 (MQ below (QI X B r (S9, ms, o)) args s 0 0 (Ab B)) (F0 m 64 ls []) := by
  obtain ⟨hx, hb, hml, hown, hts, -⟩ := id E
  intro cs v1 v3 v4 H locs ls hf hW hl
  unfold f_X8_bestOf_64 at hf
  refine lv_iconst (v := (1 : Int32)) hx hb dX8_bestOf_64 (by decide) ?_
  refine lv_goto (tgt := 69) hx hb dX8_bestOf_65 (by decide) ?_
  exact w_X8_bestOf_69 E k hk _ _ _ _ _ _ _ _ hf hW (lv_sub hl [0, 1, 2, 3] rfl)
set_option maxHeartbeats 4000000 in
set_option maxRecDepth 100000 in
theorem w_X8_bestOf_11 {p : Program} {l : Launch} {e : Env} {s : State} {m : MethodId} {args : Array Value} {below : List Frame} {meth : Method} {c : Code} {X : XT} {B : Nat} {ms : MS} {o : Nat → Int64} {r : Int32} {S9 : CS} (E : Ev X B p s m args meth c RX8 cX8_bestOf 7 (some .int)) : ∀ (n : Nat) (cs : CS) (v1 : Nat) (v3 : Int32) (v4 : Int32) (H : Heap) (locs : List Loc) (ls : Array Slot), f_X8_bestOf_11 n cs v1 v3 v4 = some (r, S9) → Ws X B s.heap H locs (cs, ms, o) → lv_has ls 7 [(0, .ref (X.1 0)), (1, .ref v1), (3, .int v3), (4, .int v4)] → W p l e rm_X8_bestOf s m args below meth c H locs 0 0 (MQ below (QI X B r (S9, ms, o)) args s 0 0 (Ab B)) (F0 m 11 ls []) := by
  obtain ⟨hx, hb, hml, hown, hts, -⟩ := id E
  intro n
  induction n with
  | zero => intro cs v1 v3 v4 H locs ls hf; exact absurd hf nofun
  | succ n ih =>
    intro cs v1 v3 v4 H locs ls hf hW hl
    rw [f_X8_bestOf_11] at hf
    refine lv_iload hx hb dX8_bestOf_11 (lv_at hl 3 rfl) ?_
    refine lv_aload_n hx hb dX8_bestOf_13 rfl (lv_at hl 1 rfl) ?_
    obtain ⟨v3, hf⟩ := gd_e hf
    refine rg_X8_265 E hW v3 dX8_bestOf_14 ?_
    refine lv_icmp_ge (tgt := 109) hx hb dX8_bestOf_17 (by decide) (fun h4 => ?_) (fun h4 => ?_)
    · replace hf := ite_t h4 hf
      refine lv_iload_n hx hb dX8_bestOf_109 rfl (lv_at hl 2 rfl) ?_
      exact retI E hW (e2C hf) dX8_bestOf_110
    · replace hf := ite_f h4 hf
      refine lv_iload hx hb dX8_bestOf_20 (lv_at hl 3 rfl) ?_
      refine lv_aload_n hx hb dX8_bestOf_22 rfl (lv_at hl 0 rfl) ?_
      refine rg_X8_60 E hW dX8_bestOf_23 ?_
      refine rl_11 E hW dX8_bestOf_26 ?_
      refine lv_icmp_ge (tgt := 109) hx hb dX8_bestOf_27 (by decide) (fun h5 => ?_) (fun h5 => ?_)
      · replace hf := ite_t h5 hf
        refine lv_iload_n hx hb dX8_bestOf_109 rfl (lv_at hl 2 rfl) ?_
        exact retI E hW (e2C hf) dX8_bestOf_110
      · replace hf := ite_f h5 hf
        refine lv_aload_n hx hb dX8_bestOf_30 rfl (lv_at hl 0 rfl) ?_
        refine rg_X8_26 E hW dX8_bestOf_31 ?_
        refine lv_aload_n hx hb dX8_bestOf_34 rfl (lv_at hl 1 rfl) ?_
        refine rg_X8_232 E hW v3 dX8_bestOf_35 ?_
        refine lv_iload hx hb dX8_bestOf_38 (lv_at hl 3 rfl) ?_
        refine lv_iconst (v := (2 : Int32)) hx hb dX8_bestOf_40 (by decide) ?_
        obtain ⟨r6, hc, hf⟩ := b1_e hf
        refine callVI (As := [.int _, .int _, .int _]) (rest := []) E hW (c_X6_factOf l hc) lk_X8_174 rcv_X6 (Nat.le_of_ble_eq_true rfl) (Nat.le_of_ble_eq_true rfl) (Nat.le_of_ble_eq_true rfl) (Nat.le_of_ble_eq_true rfl) hl.1 (Nat.le_of_ble_eq_true rfl) dX8_bestOf_41 (fun H locs hW => ?_)
        refine lv_istore (lv' := [_, _, _, _, _]) hx hb dX8_bestOf_44 hl (by decide) rfl (fun ls hl => ?_)
        refine lv_aload_n hx hb dX8_bestOf_46 rfl (lv_at hl 2 rfl) ?_
        refine lv_iload hx hb dX8_bestOf_47 (lv_at hl 0 rfl) ?_
        obtain ⟨r7, hc, hf⟩ := b1_e hf
        refine callVI (As := [.int _]) (rest := []) E hW (c_X1_isOn l hc) lk_X8_270 (rcv_X1 v3) (Nat.le_of_ble_eq_true rfl) (Nat.le_of_ble_eq_true rfl) (Nat.le_of_ble_eq_true rfl) (Nat.le_of_ble_eq_true rfl) hl.1 (Nat.le_of_ble_eq_true rfl) dX8_bestOf_49 (fun H locs hW => ?_)
        refine lv_if_eq (tgt := 64) hx hb dX8_bestOf_52 (by decide) (fun h8 => ?_) (fun h8 => ?_)
        · replace hf := ite_t h8 hf
          exact w_X8_bestOf_64 E (f_X8_bestOf_11 n) ih _ _ _ _ _ _ _ hf hW (lv_sub hl [1, 2, 3, 4] rfl)
        · replace hf := ite_f h8 hf
          refine lv_iload_n hx hb dX8_bestOf_55 rfl (lv_at hl 3 rfl) ?_
          refine lv_iload hx hb dX8_bestOf_56 (lv_at hl 0 rfl) ?_
          refine lv_ishr hx hb dX8_bestOf_58 ?_
          refine lv_iconst (v := (1 : Int32)) hx hb dX8_bestOf_59 (by decide) ?_
          refine lv_iand hx hb dX8_bestOf_60 ?_
          refine lv_if_eq (tgt := 68) hx hb dX8_bestOf_61 (by decide) (fun h15 => ?_) (fun h15 => ?_)
          · replace hf := ite_t h15 hf
            refine lv_iconst (v := (0 : Int32)) hx hb dX8_bestOf_68 (by decide) ?_
            exact w_X8_bestOf_69 E (f_X8_bestOf_11 n) ih _ _ _ _ _ _ _ _ hf hW (lv_sub hl [1, 2, 3, 4] rfl)
          · replace hf := ite_f h15 hf
            exact w_X8_bestOf_64 E (f_X8_bestOf_11 n) ih _ _ _ _ _ _ _ hf hW (lv_sub hl [1, 2, 3, 4] rfl)
set_option maxHeartbeats 4000000 in
set_option maxRecDepth 100000 in
theorem c_X8_bestOf (l : Launch) {X : XT} {B : Nat} {cs : CS} {ms : MS} {o : Nat → Int64} {v1 : Option Nat} {v2 : Int32} {r : Int32} {S9 : CS} (hf : f_X8_bestOf cs v1 v2 = some (r, S9)) : Met l yX8_bestOf (.code yX8_bestOf cX8_bestOf 7 (some .int) :: BIG) rm_X8_bestOf (Pre X B (cs, ms, o) [.ref (X.1 0), va_rf v1, .int v2]) (QI X B r (S9, ms, o)) 0 0 (Ab B) := by
  cases v1 with
  | none =>
    refine entry (by decide +kernel) rfl (Nat.le_of_ble_eq_true rfl) (fun p e s m below meth c ls E hW hl => ?_)
    obtain ⟨hx, hb, hml, hown, hts, -⟩ := id E
    replace hl : lv_has ls 7 [(0, .ref (X.1 0)), (1, .null), (2, .int v2)] := hl
    unfold f_X8_bestOf at hf
    replace hf := ob_n hf
    refine lv_aload_n hx hb dX8_bestOf_0 rfl (lv_at hl 0 rfl) ?_
    refine lv_aload_nN hx hb dX8_bestOf_1 rfl (lv_at hl 1 rfl) ?_
    refine lv_iload_n hx hb dX8_bestOf_2 rfl (lv_at hl 2 rfl) ?_
    obtain ⟨cs1, hc, hf⟩ := b1_e hf
    refine callVV (As := [va_rf none, .int _]) (rest := []) E hW (c_X8_sumGains l hc) lk_X8_396 rcv_X8 (Nat.le_of_ble_eq_true rfl) (Nat.le_of_ble_eq_true rfl) (Nat.le_of_ble_eq_true rfl) (Nat.le_of_ble_eq_true rfl) hl.1 (Nat.le_of_ble_eq_true rfl) dX8_bestOf_3 (fun H locs hW => ?_)
    refine lv_iconst (v := (0 : Int32)) hx hb dX8_bestOf_6 (by decide) ?_
    refine lv_istore_n (lv' := [_, _, _, _]) hx hb dX8_bestOf_7 rfl hl (by decide) rfl (fun ls hl => ?_)
    refine lv_iconst (v := (0 : Int32)) hx hb dX8_bestOf_8 (by decide) ?_
    refine lv_istore (lv' := [_, _, _, _, _]) hx hb dX8_bestOf_9 hl (by decide) rfl (fun ls hl => ?_)
    exact absurd hf nofun
  | some a1 =>
    refine entry (by decide +kernel) rfl (Nat.le_of_ble_eq_true rfl) (fun p e s m below meth c ls E hW hl => ?_)
    obtain ⟨hx, hb, hml, hown, hts, -⟩ := id E
    replace hl : lv_has ls 7 [(0, .ref (X.1 0)), (1, .ref a1), (2, .int v2)] := hl
    unfold f_X8_bestOf at hf
    replace hf := ob_s hf
    refine lv_aload_n hx hb dX8_bestOf_0 rfl (lv_at hl 0 rfl) ?_
    refine lv_aload_n hx hb dX8_bestOf_1 rfl (lv_at hl 1 rfl) ?_
    refine lv_iload_n hx hb dX8_bestOf_2 rfl (lv_at hl 2 rfl) ?_
    obtain ⟨cs2, hc, hf⟩ := b1_e hf
    refine callVV (As := [va_rf (some _), .int _]) (rest := []) E hW (c_X8_sumGains l hc) lk_X8_396 rcv_X8 (Nat.le_of_ble_eq_true rfl) (Nat.le_of_ble_eq_true rfl) (Nat.le_of_ble_eq_true rfl) (Nat.le_of_ble_eq_true rfl) hl.1 (Nat.le_of_ble_eq_true rfl) dX8_bestOf_3 (fun H locs hW => ?_)
    refine lv_iconst (v := (0 : Int32)) hx hb dX8_bestOf_6 (by decide) ?_
    refine lv_istore_n (lv' := [_, _, _, _]) hx hb dX8_bestOf_7 rfl hl (by decide) rfl (fun ls hl => ?_)
    refine lv_iconst (v := (0 : Int32)) hx hb dX8_bestOf_8 (by decide) ?_
    refine lv_istore (lv' := [_, _, _, _, _]) hx hb dX8_bestOf_9 hl (by decide) rfl (fun ls hl => ?_)
    exact w_X8_bestOf_11 E 1000 _ _ _ _ _ _ _ hf hW (lv_sub hl [2, 3, 1, 0] rfl)
def f_X8_wageOf (cs : CS) (v0 : Int32) : Option ((Int32 ⊕ String) × CS) := if v0 < 0 then (some (.inr "java/lang/IllegalArgumentException", cs)) else (if v0 ≤ (1000 : Int32) then (some (.inl v0, cs)) else (some (.inr "java/lang/IllegalArgumentException", cs)))
def rm_X8_wageOf : Room := { frames := 10, cells := 1, slots := 6, locals := 150 }
set_option maxHeartbeats 4000000 in
set_option maxRecDepth 100000 in
theorem c_X8_wageOf (l : Launch) (hl0 : l.stackTraces = false) {X : XT} {B : Nat} {cs : CS} {ms : MS} {o : Nat → Int64} {v0 : Int32} {r : Int32 ⊕ String} {S9 : CS} (hf : f_X8_wageOf cs v0 = some (r, S9)) : vx_Met l yX8_wageOf (.code yX8_wageOf cX8_wageOf 1 (some .int) :: BIG) rm_X8_wageOf (Pre X B (cs, ms, o) [.int v0]) (QXI X B r (S9, ms, o)) (XCx X B r (S9, ms, o)) 1 6 (Ab B) := by
  refine xentry (by decide +kernel) rfl (Nat.le_of_ble_eq_true rfl) (fun p e s m below meth c ls E hxt hW hl => ?_)
  obtain ⟨hx, hb, hml, hown, hts, -⟩ := id E
  replace hl : lv_has ls 1 [(0, .int v0)] := hl
  unfold f_X8_wageOf at hf
  refine lv_iload_n hx hb dX8_wageOf_0 rfl (lv_at hl 0 rfl) ?_
  refine lv_if_lt (tgt := 11) hx hb dX8_wageOf_1 (by decide) (fun h1 => ?_) (fun h1 => ?_)
  · replace hf := ite_t h1 hf
    exact throwSW E hl0 hxt hW th_X8_84_394_88 dX8_wageOf_11 dX8_wageOf_14 dX8_wageOf_15 dX8_wageOf_18 dX8_wageOf_21 (etC hf) (Nat.le_of_ble_eq_true rfl) (Nat.le_of_ble_eq_true rfl) (Nat.le_of_ble_eq_true rfl) (Nat.le_of_ble_eq_true rfl) (Nat.le_of_ble_eq_true rfl) (by decide) (by decide) (hl.1.trans hml.symm)
  · replace hf := ite_f h1 hf
    refine lv_iload_n hx hb dX8_wageOf_4 rfl (lv_at hl 0 rfl) ?_
    refine lv_sipush (v := (1000 : Int32)) hx hb dX8_wageOf_5 (by decide) ?_
    refine lv_icmp_le (tgt := 22) hx hb dX8_wageOf_8 (by decide) (fun h2 => ?_) (fun h2 => ?_)
    · replace hf := ite_t h2 hf
      refine lv_iload_n hx hb dX8_wageOf_22 rfl (lv_at hl 0 rfl) ?_
      refine W.widen (k := 1) (n := 6) (by decide) (by decide) ?_
      exact vx_ret (retIX E hW (exC hf) dX8_wageOf_23)
    · replace hf := ite_f h2 hf
      exact throwSW E hl0 hxt hW th_X8_84_394_88 dX8_wageOf_11 dX8_wageOf_14 dX8_wageOf_15 dX8_wageOf_18 dX8_wageOf_21 (etC hf) (Nat.le_of_ble_eq_true rfl) (Nat.le_of_ble_eq_true rfl) (Nat.le_of_ble_eq_true rfl) (Nat.le_of_ble_eq_true rfl) (Nat.le_of_ble_eq_true rfl) (by decide) (by decide) (hl.1.trans hml.symm)
def f_X8_best (cs : CS) (v1 : Int32) (v2 : Int32) : Option ((Int32 ⊕ String) × CS) := bx (f_X8_carOf cs v1) fun b3 cs2 => ob b3 (bx (f_X8_wageOf cs2 v2) fun b10 cs9 => b2 (f_X8_bestOf cs9 none b10) fun r15 cs14 => some (.inl r15, cs14)) fun a7 => (bx (f_X8_wageOf cs2 v2) fun b18 cs17 => b2 (f_X8_bestOf cs17 (some a7) b18) fun r23 cs22 => some (.inl r23, cs22))
def rm_X8_best : Room := { frames := 11, cells := 2, slots := 12, locals := 172 }
set_option maxHeartbeats 4000000 in
set_option maxRecDepth 100000 in
theorem c_X8_best (l : Launch) (hl0 : l.stackTraces = false) {X : XT} {B : Nat} {cs : CS} {ms : MS} {o : Nat → Int64} {v1 : Int32} {v2 : Int32} {r : Int32 ⊕ String} {S9 : CS} (hf : f_X8_best cs v1 v2 = some (r, S9)) : vx_Met l yX8_best (.code yX8_best cX8_best 3 (some .int) :: BIG) rm_X8_best (Pre X B (cs, ms, o) [.ref (X.1 0), .int v1, .int v2]) (QXI X B r (S9, ms, o)) (XCx X B r (S9, ms, o)) 2 12 (Ab B) := by
  refine xentry (by decide +kernel) rfl (Nat.le_of_ble_eq_true rfl) (fun p e s m below meth c ls E hxt hW hl => ?_)
  obtain ⟨hx, hb, hml, hown, hts, -⟩ := id E
  replace hl : lv_has ls 3 [(0, .ref (X.1 0)), (1, .int v1), (2, .int v2)] := hl
  unfold f_X8_best at hf
  refine lv_aload_n hx hb dX8_best_0 rfl (lv_at hl 0 rfl) ?_
  refine lv_aload_n hx hb dX8_best_1 rfl (lv_at hl 0 rfl) ?_
  refine lv_iload_n hx hb dX8_best_2 rfl (lv_at hl 1 rfl) ?_
  obtain ⟨r1, cs2, hc, k4, e5⟩ := bx_e hf
  refine xcallVQ (As := [.int _]) (rest := [_]) E hW (c_X8_carOf l hl0 hc) lk_X8_228 rcv_X8 (Nat.le_of_ble_eq_true rfl) (Nat.le_of_ble_eq_true rfl) (Nat.le_of_ble_eq_true rfl) (Nat.le_of_ble_eq_true rfl) hl.1 (Nat.le_of_ble_eq_true rfl) dX8_best_3 hxt (by decide) (by decide) (fun z hz => by have q9 := e5 z hz; cases q9; exact ⟨rfl, rfl⟩) (fun b3 q6 H locs hW => ?_)
  replace hf := k4 b3 q6
  cases b3 with
  | none =>
    replace hf := ob_n hf
    refine lv_iload_n hx hb dX8_best_6 rfl (lv_at hl 2 rfl) ?_
    obtain ⟨r8, cs9, hc, k11, e12⟩ := bx_e hf
    refine xcallSI (As := [.int _]) (rest := [_, _]) E hW (c_X8_wageOf l hl0 hc) lk_X8_384 (Nat.le_of_ble_eq_true rfl) (Nat.le_of_ble_eq_true rfl) (Nat.le_of_ble_eq_true rfl) (Nat.le_of_ble_eq_true rfl) hl.1 (Nat.le_of_ble_eq_true rfl) dX8_best_7 hxt (by decide) (by decide) (fun z hz => by have q9 := e12 z hz; cases q9; exact ⟨rfl, rfl⟩) (fun b10 q13 H locs hW => ?_)
    replace hf := k11 b10 q13
    obtain ⟨r15, cs14, hc, hf⟩ := b2_e hf
    refine callVI (As := [va_rf none, .int _]) (rest := []) E hW (c_X8_bestOf l hc) lk_X8_387 rcv_X8 (Nat.le_of_ble_eq_true rfl) (Nat.le_of_ble_eq_true rfl) (Nat.le_of_ble_eq_true rfl) (Nat.le_of_ble_eq_true rfl) hl.1 (Nat.le_of_ble_eq_true rfl) dX8_best_10 (fun H locs hW => ?_)
    exact vx_ret (retIX E hW (exC hf) dX8_best_13)
  | some a7 =>
    replace hf := ob_s hf
    refine lv_iload_n hx hb dX8_best_6 rfl (lv_at hl 2 rfl) ?_
    obtain ⟨r16, cs17, hc, k19, e20⟩ := bx_e hf
    refine xcallSI (As := [.int _]) (rest := [_, _]) E hW (c_X8_wageOf l hl0 hc) lk_X8_384 (Nat.le_of_ble_eq_true rfl) (Nat.le_of_ble_eq_true rfl) (Nat.le_of_ble_eq_true rfl) (Nat.le_of_ble_eq_true rfl) hl.1 (Nat.le_of_ble_eq_true rfl) dX8_best_7 hxt (by decide) (by decide) (fun z hz => by have q9 := e20 z hz; cases q9; exact ⟨rfl, rfl⟩) (fun b18 q21 H locs hW => ?_)
    replace hf := k19 b18 q21
    obtain ⟨r23, cs22, hc, hf⟩ := b2_e hf
    refine callVI (As := [va_rf (some _), .int _]) (rest := []) E hW (c_X8_bestOf l hc) lk_X8_387 rcv_X8 (Nat.le_of_ble_eq_true rfl) (Nat.le_of_ble_eq_true rfl) (Nat.le_of_ble_eq_true rfl) (Nat.le_of_ble_eq_true rfl) hl.1 (Nat.le_of_ble_eq_true rfl) dX8_best_10 (fun H locs hW => ?_)
    exact vx_ret (retIX E hW (exC hf) dX8_best_13)
def f_X8_worth_23 : Nat → CS → Int32 → Nat → Int32 → Int32 → Int32 → Option ((Int32 ⊕ String) × CS)
  | 0, _, _, _, _, _, _ => none
  | n + 1, cs, v2, v3, v4, v5, v6 => gd (v3 ∈ cl cs ∧ ck cs v3 = 0) <| if (cp cs v3 3) ≤ v6 then (some (.inl v5, cs)) else (if ((v4 >>> (v6 &&& 31)) &&& (1 : Int32)) = 0 then (f_X8_worth_23 n cs v2 v3 v4 v5 (v6 + (1 : Int32))) else ((f_X8_gainOf cs (some v3) v6 v2).bind fun r27 => f_X8_worth_23 n cs v2 v3 v4 (v5 + r27) (v6 + (1 : Int32))))
def f_X8_worth (cs : CS) (v1 : Int32) (v2 : Int32) : Option ((Int32 ⊕ String) × CS) := bx (f_X8_carOf cs v1) fun b3 cs2 => ob b3 (bx (f_X8_wageOf cs2 v2) fun b10 cs9 => b2 (f_X8_bestOf cs9 none b10) fun r15 cs14 => none) fun a7 => (bx (f_X8_wageOf cs2 v2) fun b18 cs17 => b2 (f_X8_bestOf cs17 (some a7) b18) fun r23 cs22 => f_X8_worth_23 1000 cs22 v2 a7 r23 (0 : Int32) (0 : Int32))
def rm_X8_worth : Room := { frames := 11, cells := 2, slots := 12, locals := 172 }
set_option maxHeartbeats 4000000 in
set_option maxRecDepth 100000 in
theorem w_X8_worth_23 {p : Program} {l : Launch} {e : Env} {s : State} {m : MethodId} {args : Array Value} {below : List Frame} {meth : Method} {c : Code} {X : XT} {B : Nat} {ms : MS} {o : Nat → Int64} {r : Int32 ⊕ String} {S9 : CS} (E : Ev X B p s m args meth c RX8 cX8_worth 7 (some .int)) (hl0 : l.stackTraces = false) (hxt : ∀ x ∈ c.exceptionTable.toList, False) : ∀ (n : Nat) (cs : CS) (v2 : Int32) (v3 : Nat) (v4 : Int32) (v5 : Int32) (v6 : Int32) (H : Heap) (locs : List Loc) (ls : Array Slot), f_X8_worth_23 n cs v2 v3 v4 v5 v6 = some (r, S9) → Ws X B s.heap H locs (cs, ms, o) → lv_has ls 7 [(0, .ref (X.1 0)), (2, .int v2), (3, .ref v3), (4, .int v4), (5, .int v5), (6, .int v6)] → W p l e rm_X8_worth s m args below meth c H locs 2 12 (vx_MQ below (QXI X B r (S9, ms, o)) (XCx X B r (S9, ms, o)) args s 2 12 (Ab B)) (F0 m 23 ls []) := by
  obtain ⟨hx, hb, hml, hown, hts, -⟩ := id E
  intro n
  induction n with
  | zero => intro cs v2 v3 v4 v5 v6 H locs ls hf; exact absurd hf nofun
  | succ n ih =>
    intro cs v2 v3 v4 v5 v6 H locs ls hf hW hl
    rw [f_X8_worth_23] at hf
    refine lv_iload hx hb dX8_worth_23 (lv_at hl 5 rfl) ?_
    refine lv_aload_n hx hb dX8_worth_25 rfl (lv_at hl 2 rfl) ?_
    obtain ⟨v24, hf⟩ := gd_e hf
    refine rg_X8_265 E hW v24 dX8_worth_26 ?_
    refine lv_icmp_ge (tgt := 61) hx hb dX8_worth_29 (by decide) (fun h25 => ?_) (fun h25 => ?_)
    · replace hf := ite_t h25 hf
      refine lv_iload hx hb dX8_worth_61 (lv_at hl 4 rfl) ?_
      exact vx_ret (retIX E hW (exC hf) dX8_worth_63)
    · replace hf := ite_f h25 hf
      refine lv_iload hx hb dX8_worth_32 (lv_at hl 3 rfl) ?_
      refine lv_iload hx hb dX8_worth_34 (lv_at hl 5 rfl) ?_
      refine lv_ishr hx hb dX8_worth_36 ?_
      refine lv_iconst (v := (1 : Int32)) hx hb dX8_worth_37 (by decide) ?_
      refine lv_iand hx hb dX8_worth_38 ?_
      refine lv_if_eq (tgt := 55) hx hb dX8_worth_39 (by decide) (fun h26 => ?_) (fun h26 => ?_)
      · replace hf := ite_t h26 hf
        refine lv_iinc (v := _ + (1 : Int32)) (lv' := [_, _, _, _, _, _]) hx hb dX8_worth_55 hl (k := 5) rfl rfl (by decide) rfl (fun ls hl => ?_)
        refine lv_goto (tgt := 23) hx hb dX8_worth_58 (by decide) ?_
        exact ih _ _ _ _ _ _ _ _ _ hf hW (lv_sub hl [1, 2, 3, 4, 5, 0] rfl)
      · replace hf := ite_f h26 hf
        refine lv_iload hx hb dX8_worth_42 (lv_at hl 4 rfl) ?_
        refine lv_aload_n hx hb dX8_worth_44 rfl (lv_at hl 0 rfl) ?_
        refine lv_aload_n hx hb dX8_worth_45 rfl (lv_at hl 2 rfl) ?_
        refine lv_iload hx hb dX8_worth_46 (lv_at hl 5 rfl) ?_
        refine lv_iload_n hx hb dX8_worth_48 rfl (lv_at hl 1 rfl) ?_
        obtain ⟨r27, hc, hf⟩ := b1_e hf
        refine callVI (As := [va_rf (some _), .int _, .int _]) (rest := [_]) E hW (c_X8_gainOf l hc) lk_X8_390 rcv_X8 (Nat.le_of_ble_eq_true rfl) (Nat.le_of_ble_eq_true rfl) (Nat.le_of_ble_eq_true rfl) (Nat.le_of_ble_eq_true rfl) hl.1 (Nat.le_of_ble_eq_true rfl) dX8_worth_49 (fun H locs hW => ?_)
        refine lv_iadd hx hb dX8_worth_52 ?_
        refine lv_istore (lv' := [_, _, _, _, _, _]) hx hb dX8_worth_53 hl (by decide) rfl (fun ls hl => ?_)
        refine lv_iinc (v := _ + (1 : Int32)) (lv' := [_, _, _, _, _, _]) hx hb dX8_worth_55 hl (k := 5) rfl rfl (by decide) rfl (fun ls hl => ?_)
        refine lv_goto (tgt := 23) hx hb dX8_worth_58 (by decide) ?_
        exact ih _ _ _ _ _ _ _ _ _ hf hW (lv_sub hl [2, 3, 4, 5, 1, 0] rfl)
set_option maxHeartbeats 4000000 in
set_option maxRecDepth 100000 in
theorem c_X8_worth (l : Launch) (hl0 : l.stackTraces = false) {X : XT} {B : Nat} {cs : CS} {ms : MS} {o : Nat → Int64} {v1 : Int32} {v2 : Int32} {r : Int32 ⊕ String} {S9 : CS} (hf : f_X8_worth cs v1 v2 = some (r, S9)) : vx_Met l yX8_worth (.code yX8_worth cX8_worth 7 (some .int) :: BIG) rm_X8_worth (Pre X B (cs, ms, o) [.ref (X.1 0), .int v1, .int v2]) (QXI X B r (S9, ms, o)) (XCx X B r (S9, ms, o)) 2 12 (Ab B) := by
  refine xentry (by decide +kernel) rfl (Nat.le_of_ble_eq_true rfl) (fun p e s m below meth c ls E hxt hW hl => ?_)
  obtain ⟨hx, hb, hml, hown, hts, -⟩ := id E
  replace hl : lv_has ls 7 [(0, .ref (X.1 0)), (1, .int v1), (2, .int v2)] := hl
  unfold f_X8_worth at hf
  refine lv_aload_n hx hb dX8_worth_0 rfl (lv_at hl 0 rfl) ?_
  refine lv_iload_n hx hb dX8_worth_1 rfl (lv_at hl 1 rfl) ?_
  obtain ⟨r1, cs2, hc, k4, e5⟩ := bx_e hf
  refine xcallVQ (As := [.int _]) (rest := []) E hW (c_X8_carOf l hl0 hc) lk_X8_228 rcv_X8 (Nat.le_of_ble_eq_true rfl) (Nat.le_of_ble_eq_true rfl) (Nat.le_of_ble_eq_true rfl) (Nat.le_of_ble_eq_true rfl) hl.1 (Nat.le_of_ble_eq_true rfl) dX8_worth_2 hxt (by decide) (by decide) (fun z hz => by have q9 := e5 z hz; cases q9; exact ⟨rfl, rfl⟩) (fun b3 q6 H locs hW => ?_)
  replace hf := k4 b3 q6
  cases b3 with
  | none =>
    replace hf := ob_n hf
    refine lv_astore_nN (lv' := [_, _, _, _]) hx hb dX8_worth_5 rfl hl (by decide) rfl (fun ls hl => ?_)
    refine lv_aload_n hx hb dX8_worth_6 rfl (lv_at hl 1 rfl) ?_
    refine lv_aload_nN hx hb dX8_worth_7 rfl (lv_at hl 0 rfl) ?_
    refine lv_iload_n hx hb dX8_worth_8 rfl (lv_at hl 3 rfl) ?_
    obtain ⟨r8, cs9, hc, k11, e12⟩ := bx_e hf
    refine xcallSI (As := [.int _]) (rest := [_, _]) E hW (c_X8_wageOf l hl0 hc) lk_X8_384 (Nat.le_of_ble_eq_true rfl) (Nat.le_of_ble_eq_true rfl) (Nat.le_of_ble_eq_true rfl) (Nat.le_of_ble_eq_true rfl) hl.1 (Nat.le_of_ble_eq_true rfl) dX8_worth_9 hxt (by decide) (by decide) (fun z hz => by have q9 := e12 z hz; cases q9; exact ⟨rfl, rfl⟩) (fun b10 q13 H locs hW => ?_)
    replace hf := k11 b10 q13
    obtain ⟨r15, cs14, hc, hf⟩ := b2_e hf
    refine callVI (As := [va_rf none, .int _]) (rest := []) E hW (c_X8_bestOf l hc) lk_X8_387 rcv_X8 (Nat.le_of_ble_eq_true rfl) (Nat.le_of_ble_eq_true rfl) (Nat.le_of_ble_eq_true rfl) (Nat.le_of_ble_eq_true rfl) hl.1 (Nat.le_of_ble_eq_true rfl) dX8_worth_12 (fun H locs hW => ?_)
    refine lv_istore (lv' := [_, _, _, _, _]) hx hb dX8_worth_15 hl (by decide) rfl (fun ls hl => ?_)
    refine lv_iconst (v := (0 : Int32)) hx hb dX8_worth_17 (by decide) ?_
    refine lv_istore (lv' := [_, _, _, _, _, _]) hx hb dX8_worth_18 hl (by decide) rfl (fun ls hl => ?_)
    refine lv_iconst (v := (0 : Int32)) hx hb dX8_worth_20 (by decide) ?_
    refine lv_istore (lv' := [_, _, _, _, _, _, _]) hx hb dX8_worth_21 hl (by decide) rfl (fun ls hl => ?_)
    exact absurd hf nofun
  | some a7 =>
    replace hf := ob_s hf
    refine lv_astore_n (lv' := [_, _, _, _]) hx hb dX8_worth_5 rfl hl (by decide) rfl (fun ls hl => ?_)
    refine lv_aload_n hx hb dX8_worth_6 rfl (lv_at hl 1 rfl) ?_
    refine lv_aload_n hx hb dX8_worth_7 rfl (lv_at hl 0 rfl) ?_
    refine lv_iload_n hx hb dX8_worth_8 rfl (lv_at hl 3 rfl) ?_
    obtain ⟨r16, cs17, hc, k19, e20⟩ := bx_e hf
    refine xcallSI (As := [.int _]) (rest := [_, _]) E hW (c_X8_wageOf l hl0 hc) lk_X8_384 (Nat.le_of_ble_eq_true rfl) (Nat.le_of_ble_eq_true rfl) (Nat.le_of_ble_eq_true rfl) (Nat.le_of_ble_eq_true rfl) hl.1 (Nat.le_of_ble_eq_true rfl) dX8_worth_9 hxt (by decide) (by decide) (fun z hz => by have q9 := e20 z hz; cases q9; exact ⟨rfl, rfl⟩) (fun b18 q21 H locs hW => ?_)
    replace hf := k19 b18 q21
    obtain ⟨r23, cs22, hc, hf⟩ := b2_e hf
    refine callVI (As := [va_rf (some _), .int _]) (rest := []) E hW (c_X8_bestOf l hc) lk_X8_387 rcv_X8 (Nat.le_of_ble_eq_true rfl) (Nat.le_of_ble_eq_true rfl) (Nat.le_of_ble_eq_true rfl) (Nat.le_of_ble_eq_true rfl) hl.1 (Nat.le_of_ble_eq_true rfl) dX8_worth_12 (fun H locs hW => ?_)
    refine lv_istore (lv' := [_, _, _, _, _]) hx hb dX8_worth_15 hl (by decide) rfl (fun ls hl => ?_)
    refine lv_iconst (v := (0 : Int32)) hx hb dX8_worth_17 (by decide) ?_
    refine lv_istore (lv' := [_, _, _, _, _, _]) hx hb dX8_worth_18 hl (by decide) rfl (fun ls hl => ?_)
    refine lv_iconst (v := (0 : Int32)) hx hb dX8_worth_20 (by decide) ?_
    refine lv_istore (lv' := [_, _, _, _, _, _, _]) hx hb dX8_worth_21 hl (by decide) rfl (fun ls hl => ?_)
    exact w_X8_worth_23 E hl0 hxt 1000 _ _ _ _ _ _ _ _ _ hf hW (lv_sub hl [4, 6, 3, 2, 1, 0] rfl)
def f_X8_grams (cs : CS) (v1 : Int32) (v2 : Int32) : Option ((Int32 ⊕ String) × CS) := (f_X8_weightPlace cs v1 v2).bind fun r1 => if r1 = (-1 : Int32) then (some (.inr "java/lang/IllegalArgumentException", cs)) else ((ldI (ca cs 10) 24 r1).bind fun q4 => some (.inl q4, cs))
def rm_X8_grams : Room := { frames := 10, cells := 1, slots := 6, locals := 150 }
set_option maxHeartbeats 4000000 in
set_option maxRecDepth 100000 in
theorem c_X8_grams (l : Launch) (hl0 : l.stackTraces = false) {X : XT} {B : Nat} {cs : CS} {ms : MS} {o : Nat → Int64} {v1 : Int32} {v2 : Int32} {r : Int32 ⊕ String} {S9 : CS} (hf : f_X8_grams cs v1 v2 = some (r, S9)) : vx_Met l yX8_grams (.code yX8_grams cX8_grams 4 (some .int) :: BIG) rm_X8_grams (Pre X B (cs, ms, o) [.ref (X.1 0), .int v1, .int v2]) (QXI X B r (S9, ms, o)) (XCx X B r (S9, ms, o)) 1 6 (Ab B) := by
  refine xentry (by decide +kernel) rfl (Nat.le_of_ble_eq_true rfl) (fun p e s m below meth c ls E hxt hW hl => ?_)
  obtain ⟨hx, hb, hml, hown, hts, -⟩ := id E
  replace hl : lv_has ls 4 [(0, .ref (X.1 0)), (1, .int v1), (2, .int v2)] := hl
  unfold f_X8_grams at hf
  refine lv_aload_n hx hb dX8_grams_0 rfl (lv_at hl 0 rfl) ?_
  refine lv_iload_n hx hb dX8_grams_1 rfl (lv_at hl 1 rfl) ?_
  refine lv_iload_n hx hb dX8_grams_2 rfl (lv_at hl 2 rfl) ?_
  obtain ⟨r1, hc, hf⟩ := b1_e hf
  refine callVI (As := [.int _, .int _]) (rest := []) E hW (c_X8_weightPlace l hc) lk_X8_409 rcv_X8 (Nat.le_of_ble_eq_true rfl) (Nat.le_of_ble_eq_true rfl) (Nat.le_of_ble_eq_true rfl) (Nat.le_of_ble_eq_true rfl) hl.1 (Nat.le_of_ble_eq_true rfl) dX8_grams_3 (fun H locs hW => ?_)
  refine lv_istore_n (lv' := [_, _, _, _]) hx hb dX8_grams_6 rfl hl (by decide) rfl (fun ls hl => ?_)
  refine lv_iload_n hx hb dX8_grams_7 rfl (lv_at hl 0 rfl) ?_
  refine lv_iconst (v := (-1 : Int32)) hx hb dX8_grams_8 (by decide) ?_
  refine lv_icmp_ne (tgt := 23) hx hb dX8_grams_9 (by decide) (fun h2 => ?_) (fun h2 => ?_)
  · replace hf := ite_f h2 hf
    refine lv_aload_n hx hb dX8_grams_23 rfl (lv_at hl 1 rfl) ?_
    refine rg_X8_56 E hW dX8_grams_24 ?_
    refine lv_iload_n hx hb dX8_grams_27 rfl (lv_at hl 0 rfl) ?_
    obtain ⟨v3, hf⟩ := ldI_e hf
    refine ra_10 E hW v3 dX8_grams_28 ?_
    refine W.widen (k := 1) (n := 6) (by decide) (by decide) ?_
    exact vx_ret (retIX E hW (exC hf) dX8_grams_29)
  · replace hf := ite_t h2 hf
    exact throwSW E hl0 hxt hW th_X8_84_412_88 dX8_grams_12 dX8_grams_15 dX8_grams_16 dX8_grams_19 dX8_grams_22 (etC hf) (Nat.le_of_ble_eq_true rfl) (Nat.le_of_ble_eq_true rfl) (Nat.le_of_ble_eq_true rfl) (Nat.le_of_ble_eq_true rfl) (Nat.le_of_ble_eq_true rfl) (by decide) (by decide) (hl.1.trans hml.symm)
def f_X8_count (cs : CS) (v1 : Int32) : Option (Int32) := if v1 = (0 : Int32) then ((f_X7_made cs ).bind fun r2 => some r2) else (if v1 = (1 : Int32) then ((f_X4_made cs ).bind fun r4 => some r4) else (if v1 = (2 : Int32) then (some (ci cs 0)) else (if v1 = (3 : Int32) then (some (ci cs 2)) else (if v1 = (4 : Int32) then (some (ci cs 1)) else (if v1 = (5 : Int32) then (some (ci cs 3)) else (if v1 = (6 : Int32) then ((f_X0_held cs ).bind fun r10 => some r10) else (if v1 = (7 : Int32) then ((f_X4_fed cs ).bind fun r12 => some r12) else (some (-1 : Int32)))))))))
def rm_X8_count : Room := { frames := 1, cells := 0, slots := 0, locals := 20 }
set_option maxHeartbeats 4000000 in
set_option maxRecDepth 100000 in
theorem c_X8_count (l : Launch) {X : XT} {B : Nat} {cs : CS} {ms : MS} {o : Nat → Int64} {v1 : Int32} {r : Int32} (hf : f_X8_count cs v1 = some r) : Met l yX8_count (.code yX8_count cX8_count 2 (some .int) :: BIG) rm_X8_count (Pre X B (cs, ms, o) [.ref (X.1 0), .int v1]) (QI X B r (cs, ms, o)) 0 0 (Ab B) := by
  refine entry (by decide +kernel) rfl (Nat.le_of_ble_eq_true rfl) (fun p e s m below meth c ls E hW hl => ?_)
  obtain ⟨hx, hb, hml, hown, hts, -⟩ := id E
  replace hl : lv_has ls 2 [(0, .ref (X.1 0)), (1, .int v1)] := hl
  unfold f_X8_count at hf
  refine lv_iload_n hx hb dX8_count_0 rfl (lv_at hl 1 rfl) ?_
  by_cases h1 : v1 = (0 : Int32)
  · replace hf := ite_t h1 hf
    refine lv_tableIn (tgt := 48) hx hb dX8_count_1 (by rw [h1]; decide) (by rw [h1]; decide) (by rw [h1]; rfl) (by decide) ?_
    refine lv_aload_n hx hb dX8_count_48 rfl (lv_at hl 0 rfl) ?_
    refine rg_X8_10 E hW dX8_count_49 ?_
    obtain ⟨r2, hc, hf⟩ := b1_e hf
    refine callVI (As := []) (rest := []) E hW (c_X7_made l hc) lk_X8_414 rcv_X7 (Nat.le_of_ble_eq_true rfl) (Nat.le_of_ble_eq_true rfl) (Nat.le_of_ble_eq_true rfl) (Nat.le_of_ble_eq_true rfl) hl.1 (Nat.le_of_ble_eq_true rfl) dX8_count_52 (fun H locs hW => ?_)
    exact retI E hW ⟨Option.some.inj hf, rfl⟩ dX8_count_55
  · replace hf := ite_f h1 hf
    by_cases h3 : v1 = (1 : Int32)
    · replace hf := ite_t h3 hf
      refine lv_tableIn (tgt := 56) hx hb dX8_count_1 (by rw [h3]; decide) (by rw [h3]; decide) (by rw [h3]; rfl) (by decide) ?_
      refine lv_aload_n hx hb dX8_count_56 rfl (lv_at hl 0 rfl) ?_
      refine rg_X8_19 E hW dX8_count_57 ?_
      obtain ⟨r4, hc, hf⟩ := b1_e hf
      refine callVI (As := []) (rest := []) E hW (c_X4_made l hc) lk_X8_140 rcv_X4 (Nat.le_of_ble_eq_true rfl) (Nat.le_of_ble_eq_true rfl) (Nat.le_of_ble_eq_true rfl) (Nat.le_of_ble_eq_true rfl) hl.1 (Nat.le_of_ble_eq_true rfl) dX8_count_60 (fun H locs hW => ?_)
      exact retI E hW ⟨Option.some.inj hf, rfl⟩ dX8_count_63
    · replace hf := ite_f h3 hf
      by_cases h5 : v1 = (2 : Int32)
      · replace hf := ite_t h5 hf
        refine lv_tableIn (tgt := 64) hx hb dX8_count_1 (by rw [h5]; decide) (by rw [h5]; decide) (by rw [h5]; rfl) (by decide) ?_
        refine lv_aload_n hx hb dX8_count_64 rfl (lv_at hl 0 rfl) ?_
        refine rg_X8_63 E hW dX8_count_65 ?_
        exact retI E hW ⟨Option.some.inj hf, rfl⟩ dX8_count_68
      · replace hf := ite_f h5 hf
        by_cases h6 : v1 = (3 : Int32)
        · replace hf := ite_t h6 hf
          refine lv_tableIn (tgt := 69) hx hb dX8_count_1 (by rw [h6]; decide) (by rw [h6]; decide) (by rw [h6]; rfl) (by decide) ?_
          refine lv_aload_n hx hb dX8_count_69 rfl (lv_at hl 0 rfl) ?_
          refine rg_X8_70 E hW dX8_count_70 ?_
          exact retI E hW ⟨Option.some.inj hf, rfl⟩ dX8_count_73
        · replace hf := ite_f h6 hf
          by_cases h7 : v1 = (4 : Int32)
          · replace hf := ite_t h7 hf
            refine lv_tableIn (tgt := 74) hx hb dX8_count_1 (by rw [h7]; decide) (by rw [h7]; decide) (by rw [h7]; rfl) (by decide) ?_
            refine lv_aload_n hx hb dX8_count_74 rfl (lv_at hl 0 rfl) ?_
            refine rg_X8_67 E hW dX8_count_75 ?_
            exact retI E hW ⟨Option.some.inj hf, rfl⟩ dX8_count_78
          · replace hf := ite_f h7 hf
            by_cases h8 : v1 = (5 : Int32)
            · replace hf := ite_t h8 hf
              refine lv_tableIn (tgt := 79) hx hb dX8_count_1 (by rw [h8]; decide) (by rw [h8]; decide) (by rw [h8]; rfl) (by decide) ?_
              refine lv_aload_n hx hb dX8_count_79 rfl (lv_at hl 0 rfl) ?_
              refine rg_X8_73 E hW dX8_count_80 ?_
              exact retI E hW ⟨Option.some.inj hf, rfl⟩ dX8_count_83
            · replace hf := ite_f h8 hf
              by_cases h9 : v1 = (6 : Int32)
              · replace hf := ite_t h9 hf
                refine lv_tableIn (tgt := 84) hx hb dX8_count_1 (by rw [h9]; decide) (by rw [h9]; decide) (by rw [h9]; rfl) (by decide) ?_
                refine lv_aload_n hx hb dX8_count_84 rfl (lv_at hl 0 rfl) ?_
                refine rg_X8_33 E hW dX8_count_85 ?_
                obtain ⟨r10, hc, hf⟩ := b1_e hf
                refine callVI (As := []) (rest := []) E hW (c_X0_held l hc) lk_X8_415 rcv_X0 (Nat.le_of_ble_eq_true rfl) (Nat.le_of_ble_eq_true rfl) (Nat.le_of_ble_eq_true rfl) (Nat.le_of_ble_eq_true rfl) hl.1 (Nat.le_of_ble_eq_true rfl) dX8_count_88 (fun H locs hW => ?_)
                exact retI E hW ⟨Option.some.inj hf, rfl⟩ dX8_count_91
              · replace hf := ite_f h9 hf
                by_cases h11 : v1 = (7 : Int32)
                · replace hf := ite_t h11 hf
                  refine lv_tableIn (tgt := 92) hx hb dX8_count_1 (by rw [h11]; decide) (by rw [h11]; decide) (by rw [h11]; rfl) (by decide) ?_
                  refine lv_aload_n hx hb dX8_count_92 rfl (lv_at hl 0 rfl) ?_
                  refine rg_X8_19 E hW dX8_count_93 ?_
                  obtain ⟨r12, hc, hf⟩ := b1_e hf
                  refine callVI (As := []) (rest := []) E hW (c_X4_fed l hc) lk_X8_131 rcv_X4 (Nat.le_of_ble_eq_true rfl) (Nat.le_of_ble_eq_true rfl) (Nat.le_of_ble_eq_true rfl) (Nat.le_of_ble_eq_true rfl) hl.1 (Nat.le_of_ble_eq_true rfl) dX8_count_96 (fun H locs hW => ?_)
                  exact retI E hW ⟨Option.some.inj hf, rfl⟩ dX8_count_99
                · replace hf := ite_f h11 hf
                  have eh1 := lv_neT h1 (a := 0) (by decide)
                  have eh3 := lv_neT h3 (a := 1) (by decide)
                  have eh5 := lv_neT h5 (a := 2) (by decide)
                  have eh6 := lv_neT h6 (a := 3) (by decide)
                  have eh7 := lv_neT h7 (a := 4) (by decide)
                  have eh8 := lv_neT h8 (a := 5) (by decide)
                  have eh9 := lv_neT h9 (a := 6) (by decide)
                  have eh11 := lv_neT h11 (a := 7) (by decide)
                  refine lv_tableOut (tgt := 100) hx hb dX8_count_1 (by omega) (by decide) ?_
                  refine lv_iconst (v := (-1 : Int32)) hx hb dX8_count_100 (by decide) ?_
                  exact retI E hW ⟨Option.some.inj hf, rfl⟩ dX8_count_101
def f_X8_putBackOn (cs : CS) (v1 : Option Nat) : Option (CS) := ob v1 (some cs) fun a1 => ((f_X8_move cs (some a1) (3 : Int32)).bind fun cs1 => gd (a1 ∈ cl cs1 ∧ ck cs1 a1 = 1) <| (f_X8_carAt cs1 (cp cs1 a1 0)).bind fun r3 => ob r3 (some cs1) fun a4 => (gd (a4 ∈ cl cs1 ∧ ck cs1 a4 = 0) <| some (cpU cs1 a4 5 ((cp cs1 a4 5) ||| ((1 : Int32) <<< ((cp cs1 a1 2) &&& 31))))))
def rm_X8_putBackOn : Room := { frames := 5, cells := 0, slots := 0, locals := 117 }
set_option maxHeartbeats 4000000 in
set_option maxRecDepth 100000 in
theorem c_X8_putBackOn (l : Launch) {X : XT} {B : Nat} {cs : CS} {ms : MS} {o : Nat → Int64} {v1 : Option Nat} {S9 : CS} (hf : f_X8_putBackOn cs v1 = some S9) : Met l yX8_putBackOn (.code yX8_putBackOn cX8_putBackOn 3 none :: BIG) rm_X8_putBackOn (Pre X B (cs, ms, o) [.ref (X.1 0), va_rf v1]) (QV X B (S9, ms, o)) 0 0 (Ab B) := by
  cases v1 with
  | none =>
    refine entry (by decide +kernel) rfl (Nat.le_of_ble_eq_true rfl) (fun p e s m below meth c ls E hW hl => ?_)
    obtain ⟨hx, hb, hml, hown, hts, -⟩ := id E
    replace hl : lv_has ls 3 [(0, .ref (X.1 0)), (1, .null)] := hl
    unfold f_X8_putBackOn at hf
    replace hf := ob_n hf
    refine lv_aload_nN hx hb dX8_putBackOn_0 rfl (lv_at hl 1 rfl) ?_
    refine lv_ifnonnullN hx hb dX8_putBackOn_1 ?_
    exact retV E hW (e1C hf) dX8_putBackOn_4
  | some a1 =>
    refine entry (by decide +kernel) rfl (Nat.le_of_ble_eq_true rfl) (fun p e s m below meth c ls E hW hl => ?_)
    obtain ⟨hx, hb, hml, hown, hts, -⟩ := id E
    replace hl : lv_has ls 3 [(0, .ref (X.1 0)), (1, .ref a1)] := hl
    unfold f_X8_putBackOn at hf
    replace hf := ob_s hf
    refine lv_aload_n hx hb dX8_putBackOn_0 rfl (lv_at hl 1 rfl) ?_
    refine lv_ifnonnull (tgt := 5) hx hb dX8_putBackOn_1 (by decide) ?_
    refine lv_aload_n hx hb dX8_putBackOn_5 rfl (lv_at hl 0 rfl) ?_
    refine lv_aload_n hx hb dX8_putBackOn_6 rfl (lv_at hl 1 rfl) ?_
    refine lv_iconst (v := (3 : Int32)) hx hb dX8_putBackOn_7 (by decide) ?_
    obtain ⟨cs1, hc, hf⟩ := b1_e hf
    refine callVV (As := [va_rf (some _), .int _]) (rest := []) E hW (c_X8_move l hc) lk_X8_361 rcv_X8 (Nat.le_of_ble_eq_true rfl) (Nat.le_of_ble_eq_true rfl) (Nat.le_of_ble_eq_true rfl) (Nat.le_of_ble_eq_true rfl) hl.1 (Nat.le_of_ble_eq_true rfl) dX8_putBackOn_8 (fun H locs hW => ?_)
    refine lv_aload_n hx hb dX8_putBackOn_11 rfl (lv_at hl 0 rfl) ?_
    refine lv_aload_n hx hb dX8_putBackOn_12 rfl (lv_at hl 1 rfl) ?_
    obtain ⟨v2, hf⟩ := gd_e hf
    refine rg_X8_315 E hW v2 dX8_putBackOn_13 ?_
    obtain ⟨r3, hc, hf⟩ := b1_e hf
    refine callVQ (As := [.int _]) (rest := []) E hW (c_X8_carAt l hc) lk_X8_260 rcv_X8 (Nat.le_of_ble_eq_true rfl) (Nat.le_of_ble_eq_true rfl) (Nat.le_of_ble_eq_true rfl) (Nat.le_of_ble_eq_true rfl) hl.1 (Nat.le_of_ble_eq_true rfl) dX8_putBackOn_16 (fun H locs hW => ?_)
    cases r3 with
    | none =>
      replace hf := ob_n hf
      refine lv_astore_nN (lv' := [_, _, _]) hx hb dX8_putBackOn_19 rfl hl (by decide) rfl (fun ls hl => ?_)
      refine lv_aload_nN hx hb dX8_putBackOn_20 rfl (lv_at hl 0 rfl) ?_
      refine lv_ifnullN (tgt := 39) hx hb dX8_putBackOn_21 (by decide) ?_
      exact retV E hW (e1C hf) dX8_putBackOn_39
    | some a4 =>
      replace hf := ob_s hf
      refine lv_astore_n (lv' := [_, _, _]) hx hb dX8_putBackOn_19 rfl hl (by decide) rfl (fun ls hl => ?_)
      refine lv_aload_n hx hb dX8_putBackOn_20 rfl (lv_at hl 0 rfl) ?_
      refine lv_ifnull hx hb dX8_putBackOn_21 ?_
      refine lv_aload_n hx hb dX8_putBackOn_24 rfl (lv_at hl 0 rfl) ?_
      refine lv_dup hx hb dX8_putBackOn_25 rfl ?_
      obtain ⟨v5, hf⟩ := gd_e hf
      refine rg_X8_241 E hW v5 dX8_putBackOn_26 ?_
      refine lv_iconst (v := (1 : Int32)) hx hb dX8_putBackOn_29 (by decide) ?_
      refine lv_aload_n hx hb dX8_putBackOn_30 rfl (lv_at hl 2 rfl) ?_
      refine rg_X8_318 E hW v2 dX8_putBackOn_31 ?_
      refine lv_ishl hx hb dX8_putBackOn_34 ?_
      refine lv_ior hx hb dX8_putBackOn_35 ?_
      refine rp_X8_241 E hW v5 dX8_putBackOn_36 (fun H locs hW => ?_)
      exact retV E hW (e1C hf) dX8_putBackOn_39
def f_X8_undo (cs : CS) : Option (Int32 × CS) := (f_X0_latestAct cs ).bind fun r1 => (f_X0_latestNumber cs ).bind fun r2 => (f_X0_dropLatest cs ).bind fun cs3 => if r1 = (3 : Int32) then ((f_X8_itemAt cs3 r2).bind fun r12 => ob r12 ((f_X8_putBackOn cs3 none).bind fun cs14 => some (r1, cs14)) fun a13 => ((f_X8_putBackOn cs3 (some a13)).bind fun cs15 => some (r1, cs15))) else ((f_X8_carAt cs3 r2).bind fun r5 => ob r5 (some (r1, cs3)) fun a6 => (if r1 = (1 : Int32) then (gd (a6 ∈ cl cs3 ∧ ck cs3 a6 = 0) <| if r1 = (2 : Int32) then (some (r1, (cpU (cpU cs3 a6 6 (0 : Int32)) a6 7 (0 : Int32)))) else (some (r1, (cpU cs3 a6 6 (0 : Int32))))) else (if r1 = (2 : Int32) then (gd (a6 ∈ cl cs3 ∧ ck cs3 a6 = 0) <| some (r1, (cpU cs3 a6 7 (0 : Int32)))) else (some (r1, cs3)))))
def rm_X8_undo : Room := { frames := 6, cells := 0, slots := 0, locals := 139 }
set_option maxHeartbeats 4000000 in
set_option maxRecDepth 100000 in
theorem c_X8_undo (l : Launch) {X : XT} {B : Nat} {cs : CS} {ms : MS} {o : Nat → Int64} {r : Int32} {S9 : CS} (hf : f_X8_undo cs  = some (r, S9)) : Met l yX8_undo (.code yX8_undo cX8_undo 4 (some .int) :: BIG) rm_X8_undo (Pre X B (cs, ms, o) [.ref (X.1 0)]) (QI X B r (S9, ms, o)) 0 0 (Ab B) := by
  refine entry (by decide +kernel) rfl (Nat.le_of_ble_eq_true rfl) (fun p e s m below meth c ls E hW hl => ?_)
  obtain ⟨hx, hb, hml, hown, hts, -⟩ := id E
  replace hl : lv_has ls 4 [(0, .ref (X.1 0))] := hl
  unfold f_X8_undo at hf
  refine lv_aload_n hx hb dX8_undo_0 rfl (lv_at hl 0 rfl) ?_
  refine rg_X8_33 E hW dX8_undo_1 ?_
  obtain ⟨r1, hc, hf⟩ := b1_e hf
  refine callVI (As := []) (rest := []) E hW (c_X0_latestAct l hc) lk_X8_418 rcv_X0 (Nat.le_of_ble_eq_true rfl) (Nat.le_of_ble_eq_true rfl) (Nat.le_of_ble_eq_true rfl) (Nat.le_of_ble_eq_true rfl) hl.1 (Nat.le_of_ble_eq_true rfl) dX8_undo_4 (fun H locs hW => ?_)
  refine lv_istore_n (lv' := [_, _]) hx hb dX8_undo_7 rfl hl (by decide) rfl (fun ls hl => ?_)
  refine lv_aload_n hx hb dX8_undo_8 rfl (lv_at hl 1 rfl) ?_
  refine rg_X8_33 E hW dX8_undo_9 ?_
  obtain ⟨r2, hc, hf⟩ := b1_e hf
  refine callVI (As := []) (rest := []) E hW (c_X0_latestNumber l hc) lk_X8_421 rcv_X0 (Nat.le_of_ble_eq_true rfl) (Nat.le_of_ble_eq_true rfl) (Nat.le_of_ble_eq_true rfl) (Nat.le_of_ble_eq_true rfl) hl.1 (Nat.le_of_ble_eq_true rfl) dX8_undo_12 (fun H locs hW => ?_)
  refine lv_istore_n (lv' := [_, _, _]) hx hb dX8_undo_15 rfl hl (by decide) rfl (fun ls hl => ?_)
  refine lv_aload_n hx hb dX8_undo_16 rfl (lv_at hl 2 rfl) ?_
  refine rg_X8_33 E hW dX8_undo_17 ?_
  obtain ⟨cs3, hc, hf⟩ := b1_e hf
  refine callVV (As := []) (rest := []) E hW (c_X0_dropLatest l hc) lk_X8_424 rcv_X0 (Nat.le_of_ble_eq_true rfl) (Nat.le_of_ble_eq_true rfl) (Nat.le_of_ble_eq_true rfl) (Nat.le_of_ble_eq_true rfl) hl.1 (Nat.le_of_ble_eq_true rfl) dX8_undo_20 (fun H locs hW => ?_)
  refine lv_iload_n hx hb dX8_undo_23 rfl (lv_at hl 1 rfl) ?_
  refine lv_iconst (v := (3 : Int32)) hx hb dX8_undo_24 (by decide) ?_
  refine lv_icmp_ne (tgt := 39) hx hb dX8_undo_25 (by decide) (fun h4 => ?_) (fun h4 => ?_)
  · replace hf := ite_f h4 hf
    refine lv_aload_n hx hb dX8_undo_39 rfl (lv_at hl 2 rfl) ?_
    refine lv_iload_n hx hb dX8_undo_40 rfl (lv_at hl 0 rfl) ?_
    obtain ⟨r5, hc, hf⟩ := b1_e hf
    refine callVQ (As := [.int _]) (rest := []) E hW (c_X8_carAt l hc) lk_X8_260 rcv_X8 (Nat.le_of_ble_eq_true rfl) (Nat.le_of_ble_eq_true rfl) (Nat.le_of_ble_eq_true rfl) (Nat.le_of_ble_eq_true rfl) hl.1 (Nat.le_of_ble_eq_true rfl) dX8_undo_41 (fun H locs hW => ?_)
    cases r5 with
    | none =>
      replace hf := ob_n hf
      refine lv_astore_nN (lv' := [_, _, _, _]) hx hb dX8_undo_44 rfl hl (by decide) rfl (fun ls hl => ?_)
      refine lv_aload_nN hx hb dX8_undo_45 rfl (lv_at hl 0 rfl) ?_
      refine lv_ifnullN (tgt := 59) hx hb dX8_undo_46 (by decide) ?_
      refine lv_aload_nN hx hb dX8_undo_59 rfl (lv_at hl 0 rfl) ?_
      refine lv_ifnullN (tgt := 73) hx hb dX8_undo_60 (by decide) ?_
      refine lv_iload_n hx hb dX8_undo_73 rfl (lv_at hl 2 rfl) ?_
      exact retI E hW (e2C hf) dX8_undo_74
    | some a6 =>
      replace hf := ob_s hf
      refine lv_astore_n (lv' := [_, _, _, _]) hx hb dX8_undo_44 rfl hl (by decide) rfl (fun ls hl => ?_)
      refine lv_aload_n hx hb dX8_undo_45 rfl (lv_at hl 0 rfl) ?_
      refine lv_ifnull hx hb dX8_undo_46 ?_
      refine lv_iload_n hx hb dX8_undo_49 rfl (lv_at hl 2 rfl) ?_
      refine lv_iconst (v := (1 : Int32)) hx hb dX8_undo_50 (by decide) ?_
      refine lv_icmp_ne (tgt := 59) hx hb dX8_undo_51 (by decide) (fun h7 => ?_) (fun h7 => ?_)
      · replace hf := ite_f h7 hf
        refine lv_aload_n hx hb dX8_undo_59 rfl (lv_at hl 0 rfl) ?_
        refine lv_ifnull hx hb dX8_undo_60 ?_
        refine lv_iload_n hx hb dX8_undo_63 rfl (lv_at hl 2 rfl) ?_
        refine lv_iconst (v := (2 : Int32)) hx hb dX8_undo_64 (by decide) ?_
        refine lv_icmp_ne (tgt := 73) hx hb dX8_undo_65 (by decide) (fun h8 => ?_) (fun h8 => ?_)
        · replace hf := ite_f h8 hf
          refine lv_iload_n hx hb dX8_undo_73 rfl (lv_at hl 2 rfl) ?_
          exact retI E hW (e2C hf) dX8_undo_74
        · replace hf := ite_t h8 hf
          refine lv_aload_n hx hb dX8_undo_68 rfl (lv_at hl 0 rfl) ?_
          refine lv_iconst (v := (0 : Int32)) hx hb dX8_undo_69 (by decide) ?_
          obtain ⟨v9, hf⟩ := gd_e hf
          refine rp_X8_248 E hW v9 (Or.inl rfl) dX8_undo_70 (fun H locs hW => ?_)
          refine lv_iload_n hx hb dX8_undo_73 rfl (lv_at hl 2 rfl) ?_
          exact retI E hW (e2C hf) dX8_undo_74
      · replace hf := ite_t h7 hf
        refine lv_aload_n hx hb dX8_undo_54 rfl (lv_at hl 0 rfl) ?_
        refine lv_iconst (v := (0 : Int32)) hx hb dX8_undo_55 (by decide) ?_
        obtain ⟨v10, hf⟩ := gd_e hf
        refine rp_X8_244 E hW v10 (Or.inl rfl) dX8_undo_56 (fun H locs hW => ?_)
        refine lv_aload_n hx hb dX8_undo_59 rfl (lv_at hl 0 rfl) ?_
        refine lv_ifnull hx hb dX8_undo_60 ?_
        refine lv_iload_n hx hb dX8_undo_63 rfl (lv_at hl 2 rfl) ?_
        refine lv_iconst (v := (2 : Int32)) hx hb dX8_undo_64 (by decide) ?_
        refine lv_icmp_ne (tgt := 73) hx hb dX8_undo_65 (by decide) (fun h11 => ?_) (fun h11 => ?_)
        · replace hf := ite_f h11 hf
          refine lv_iload_n hx hb dX8_undo_73 rfl (lv_at hl 2 rfl) ?_
          exact retI E hW (e2C hf) dX8_undo_74
        · replace hf := ite_t h11 hf
          refine lv_aload_n hx hb dX8_undo_68 rfl (lv_at hl 0 rfl) ?_
          refine lv_iconst (v := (0 : Int32)) hx hb dX8_undo_69 (by decide) ?_
          refine rp_X8_248 E hW v10 (Or.inl rfl) dX8_undo_70 (fun H locs hW => ?_)
          refine lv_iload_n hx hb dX8_undo_73 rfl (lv_at hl 2 rfl) ?_
          exact retI E hW (e2C hf) dX8_undo_74
  · replace hf := ite_t h4 hf
    refine lv_aload_n hx hb dX8_undo_28 rfl (lv_at hl 2 rfl) ?_
    refine lv_aload_n hx hb dX8_undo_29 rfl (lv_at hl 2 rfl) ?_
    refine lv_iload_n hx hb dX8_undo_30 rfl (lv_at hl 0 rfl) ?_
    obtain ⟨r12, hc, hf⟩ := b1_e hf
    refine callVQ (As := [.int _]) (rest := [_]) E hW (c_X8_itemAt l hc) lk_X8_338 rcv_X8 (Nat.le_of_ble_eq_true rfl) (Nat.le_of_ble_eq_true rfl) (Nat.le_of_ble_eq_true rfl) (Nat.le_of_ble_eq_true rfl) hl.1 (Nat.le_of_ble_eq_true rfl) dX8_undo_31 (fun H locs hW => ?_)
    cases r12 with
    | none =>
      replace hf := ob_n hf
      obtain ⟨cs14, hc, hf⟩ := b1_e hf
      refine callVV (As := [va_rf none]) (rest := []) E hW (c_X8_putBackOn l hc) lk_X8_427 rcv_X8 (Nat.le_of_ble_eq_true rfl) (Nat.le_of_ble_eq_true rfl) (Nat.le_of_ble_eq_true rfl) (Nat.le_of_ble_eq_true rfl) hl.1 (Nat.le_of_ble_eq_true rfl) dX8_undo_34 (fun H locs hW => ?_)
      refine lv_iload_n hx hb dX8_undo_37 rfl (lv_at hl 1 rfl) ?_
      exact retI E hW (e2C hf) dX8_undo_38
    | some a13 =>
      replace hf := ob_s hf
      obtain ⟨cs15, hc, hf⟩ := b1_e hf
      refine callVV (As := [va_rf (some _)]) (rest := []) E hW (c_X8_putBackOn l hc) lk_X8_427 rcv_X8 (Nat.le_of_ble_eq_true rfl) (Nat.le_of_ble_eq_true rfl) (Nat.le_of_ble_eq_true rfl) (Nat.le_of_ble_eq_true rfl) hl.1 (Nat.le_of_ble_eq_true rfl) dX8_undo_34 (fun H locs hW => ?_)
      refine lv_iload_n hx hb dX8_undo_37 rfl (lv_at hl 1 rfl) ?_
      exact retI E hW (e2C hf) dX8_undo_38

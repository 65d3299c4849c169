def f_X9_thrown (ms : MS) : Option (Int32) := some (mi ms 0)
def rm_X9_thrown : Room := { frames := 0, cells := 0, slots := 0, locals := 0 }
set_option maxHeartbeats 4000000 in
set_option maxRecDepth 100000 in
theorem c_X9_thrown (l : Launch) {X : XT} {B : Nat} {cs : CS} {ms : MS} {o : Nat → Int64} {r : Int32} (hf : f_X9_thrown ms  = some r) : Met l yX9_thrown (.code yX9_thrown cX9_thrown 1 (some .int) :: BIG) rm_X9_thrown (Pre X B (cs, ms, o) [.ref (X.1 7)]) (QI X B r (cs, ms, o)) 0 0 (Ab B) := by
  refine entry (by decide +kernel) rfl (Nat.le_of_ble_eq_true rfl) (fun p e s m below meth c ls E hW hl => ?_)
  obtain ⟨hx, hb, hml, hown, hts, -⟩ := id E
  replace hl : lv_has ls 1 [(0, .ref (X.1 7))] := hl
  unfold f_X9_thrown at hf
  refine lv_aload_n hx hb dX9_thrown_0 rfl (lv_at hl 0 rfl) ?_
  refine rg_X9_1 E hW dX9_thrown_1 ?_
  exact retI E hW ⟨Option.some.inj hf, rfl⟩ dX9_thrown_4
def f_X9_may (ms : MS) (v1 : Int32) (v2 : Int32) : Option (Int32 × MS) := if v1 = 0 then (if (mi ms 0) = 0 then (if (mi (miU ms 0 v2) 0) = 0 then (some ((1 : Int32), (miU ms 0 v2))) else (some ((0 : Int32), (miU ms 0 v2)))) else (if (mi ms 0) = 0 then (some ((1 : Int32), ms)) else (some ((0 : Int32), ms)))) else (if (mi ms 0) = 0 then (some ((1 : Int32), ms)) else (some ((0 : Int32), ms)))
def rm_X9_may : Room := { frames := 0, cells := 0, slots := 0, locals := 0 }
set_option maxHeartbeats 4000000 in
set_option maxRecDepth 100000 in
theorem c_X9_may (l : Launch) {X : XT} {B : Nat} {cs : CS} {ms : MS} {o : Nat → Int64} {v1 : Int32} {v2 : Int32} {r : Int32} {S9 : MS} (hf : f_X9_may ms v1 v2 = some (r, S9)) : Met l yX9_may (.code yX9_may cX9_may 3 (some .boolean) :: BIG) rm_X9_may (Pre X B (cs, ms, o) [.ref (X.1 7), .int v1, .int v2]) (QI X B r (cs, S9, o)) 0 0 (Ab B) := by
  refine entry (by decide +kernel) rfl (Nat.le_of_ble_eq_true rfl) (fun p e s m below meth c ls E hW hl => ?_)
  obtain ⟨hx, hb, hml, hown, hts, -⟩ := id E
  replace hl : lv_has ls 3 [(0, .ref (X.1 7)), (1, .int v1), (2, .int v2)] := hl
  unfold f_X9_may at hf
  refine lv_iload_n hx hb dX9_may_0 rfl (lv_at hl 1 rfl) ?_
  refine lv_if_ne (tgt := 16) hx hb dX9_may_1 (by decide) (fun h1 => ?_) (fun h1 => ?_)
  · replace hf := ite_f h1 hf
    refine lv_aload_n hx hb dX9_may_16 rfl (lv_at hl 0 rfl) ?_
    refine rg_X9_1 E hW dX9_may_17 ?_
    refine lv_if_ne (tgt := 27) hx hb dX9_may_20 (by decide) (fun h2 => ?_) (fun h2 => ?_)
    · replace hf := ite_f h2 hf
      refine lv_iconst (v := (0 : Int32)) hx hb dX9_may_27 (by decide) ?_
      exact retZ E hW (Or.inl rfl) (e2M hf) dX9_may_28
    · replace hf := ite_t h2 hf
      refine lv_iconst (v := (1 : Int32)) hx hb dX9_may_23 (by decide) ?_
      refine lv_goto (tgt := 28) hx hb dX9_may_24 (by decide) ?_
      exact retZ E hW (Or.inr rfl) (e2M hf) dX9_may_28
  · replace hf := ite_t h1 hf
    refine lv_aload_n hx hb dX9_may_4 rfl (lv_at hl 0 rfl) ?_
    refine rg_X9_1 E hW dX9_may_5 ?_
    refine lv_if_ne (tgt := 16) hx hb dX9_may_8 (by decide) (fun h3 => ?_) (fun h3 => ?_)
    · replace hf := ite_f h3 hf
      refine lv_aload_n hx hb dX9_may_16 rfl (lv_at hl 0 rfl) ?_
      refine rg_X9_1 E hW dX9_may_17 ?_
      refine lv_if_ne (tgt := 27) hx hb dX9_may_20 (by decide) (fun h4 => ?_) (fun h4 => ?_)
      · replace hf := ite_f h4 hf
        refine lv_iconst (v := (0 : Int32)) hx hb dX9_may_27 (by decide) ?_
        exact retZ E hW (Or.inl rfl) (e2M hf) dX9_may_28
      · replace hf := ite_t h4 hf
        refine lv_iconst (v := (1 : Int32)) hx hb dX9_may_23 (by decide) ?_
        refine lv_goto (tgt := 28) hx hb dX9_may_24 (by decide) ?_
        exact retZ E hW (Or.inr rfl) (e2M hf) dX9_may_28
    · replace hf := ite_t h3 hf
      refine lv_aload_n hx hb dX9_may_11 rfl (lv_at hl 0 rfl) ?_
      refine lv_iload_n hx hb dX9_may_12 rfl (lv_at hl 2 rfl) ?_
      refine rp_X9_1 E hW dX9_may_13 (fun H locs hW => ?_)
      refine lv_aload_n hx hb dX9_may_16 rfl (lv_at hl 0 rfl) ?_
      refine rg_X9_1 E hW dX9_may_17 ?_
      refine lv_if_ne (tgt := 27) hx hb dX9_may_20 (by decide) (fun h5 => ?_) (fun h5 => ?_)
      · replace hf := ite_f h5 hf
        refine lv_iconst (v := (0 : Int32)) hx hb dX9_may_27 (by decide) ?_
        exact retZ E hW (Or.inl rfl) (e2M hf) dX9_may_28
      · replace hf := ite_t h5 hf
        refine lv_iconst (v := (1 : Int32)) hx hb dX9_may_23 (by decide) ?_
        refine lv_goto (tgt := 28) hx hb dX9_may_24 (by decide) ?_
        exact retZ E hW (Or.inr rfl) (e2M hf) dX9_may_28
def f_X9_sheet_42 (ms : MS) (v1 : Int32) (s1 : Int32) : Option (Int32 × MS) := b2 (f_X9_may ms s1 (2 : Int32)) fun r7 ms6 => if r7 = 0 then (some ((0 : Int32), ms6)) else (ixr 8 (mi ms6 1) <| some (((mi (miU (maU ms6 27 ((mi ms6 1)).toNatClampNeg v1) 1 ((mi (maU ms6 27 ((mi ms6 1)).toNatClampNeg v1) 1) + (1 : Int32))) 1) - (1 : Int32)), (miU (maU ms6 27 ((mi ms6 1)).toNatClampNeg v1) 1 ((mi (maU ms6 27 ((mi ms6 1)).toNatClampNeg v1) 1) + (1 : Int32)))))
def f_X9_sheet_20 (ms : MS) (v1 : Int32) (s1 : Int32) : Option (Int32 × MS) := b2 (f_X9_may ms s1 (1 : Int32)) fun r3 ms2 => if r3 = 0 then (some ((0 : Int32), ms2)) else (if (8 : Int32) ≤ (mi ms2 1) then (f_X9_sheet_42 ms2 v1 (0 : Int32)) else (f_X9_sheet_42 ms2 v1 (1 : Int32)))
def f_X9_sheet_19 (ms : MS) (v1 : Int32) : Option (Int32 × MS) := f_X9_sheet_20 ms v1 (0 : Int32)
def f_X9_sheet (ms : MS) (v1 : Int32) : Option (Int32 × MS) := if v1 < 0 then (f_X9_sheet_19 (miU ms 0 (0 : Int32)) v1) else (if (2 : Int32) < v1 then (f_X9_sheet_19 (miU ms 0 (0 : Int32)) v1) else (f_X9_sheet_20 (miU ms 0 (0 : Int32)) v1 (1 : Int32)))
def rm_X9_sheet : Room := { frames := 1, cells := 0, slots := 0, locals := 22 }
set_option maxHeartbeats 4000000 in
set_option maxRecDepth 100000 in
theorem w_X9_sheet_42 {p : Program} {l : Launch} {e : Env} {s : State} {m : MethodId} {args : Array Value} {below : List Frame} {meth : Method} {c : Code} {X : XT} {B : Nat} {cs : CS} {o : Nat → Int64} {r : Int32} {S9 : MS} (E : Ev X B p s m args meth c RX9 cX9_sheet 2 (some .int)) : ∀ (ms : MS) (v1 : Int32) (s1 : Int32) (H : Heap) (locs : List Loc) (ls : Array Slot), f_X9_sheet_42 ms v1 s1 = some (r, S9) → Ws X B s.heap H locs (cs, ms, o) → lv_has ls 2 [(0, .ref (X.1 7)), (1, .int v1)] → W p l e rm_X9_sheet s m args below meth c H locs 0 0 (MQ below (QI X B r (cs, S9, o)) args s 0 0 (Ab B)) (F0 m 42 ls [.int s1, .ref (X.1 7)]) := by
  obtain ⟨hx, hb, hml, hown, hts, -⟩ := id E
  intro ms v1 s1 H locs ls hf hW hl
  unfold f_X9_sheet_42 at hf
  refine lv_iconst (v := (2 : Int32)) hx hb dX9_sheet_42 (by decide) ?_
  obtain ⟨r7, ms6, hc, hf⟩ := b2_e hf
  refine callVI (As := [.int _, .int _]) (rest := []) E hW (c_X9_may l hc) lk_X9_151 rcv_X9 (Nat.le_of_ble_eq_true rfl) (Nat.le_of_ble_eq_true rfl) (Nat.le_of_ble_eq_true rfl) (Nat.le_of_ble_eq_true rfl) hl.1 (Nat.le_of_ble_eq_true rfl) dX9_sheet_43 (fun H locs hW => ?_)
  refine lv_if_ne (tgt := 51) hx hb dX9_sheet_46 (by decide) (fun h8 => ?_) (fun h8 => ?_)
  · replace hf := ite_f h8 hf
    refine lv_aload_n hx hb dX9_sheet_51 rfl (lv_at hl 0 rfl) ?_
    refine rg_X9_13 E hW dX9_sheet_52 ?_
    refine lv_aload_n hx hb dX9_sheet_55 rfl (lv_at hl 0 rfl) ?_
    refine rg_X9_155 E hW dX9_sheet_56 ?_
    refine lv_iload_n hx hb dX9_sheet_59 rfl (lv_at hl 1 rfl) ?_
    obtain ⟨v9, hf⟩ := ixr_e hf
    refine rs_27 E hW v9 dX9_sheet_60 (fun H locs hW => ?_)
    refine lv_aload_n hx hb dX9_sheet_61 rfl (lv_at hl 0 rfl) ?_
    refine lv_dup hx hb dX9_sheet_62 rfl ?_
    refine rg_X9_155 E hW dX9_sheet_63 ?_
    refine lv_iconst (v := (1 : Int32)) hx hb dX9_sheet_66 (by decide) ?_
    refine lv_iadd hx hb dX9_sheet_67 ?_
    refine rp_X9_155 E hW dX9_sheet_68 (fun H locs hW => ?_)
    refine lv_aload_n hx hb dX9_sheet_71 rfl (lv_at hl 0 rfl) ?_
    refine rg_X9_155 E hW dX9_sheet_72 ?_
    refine lv_iconst (v := (1 : Int32)) hx hb dX9_sheet_75 (by decide) ?_
    refine lv_isub hx hb dX9_sheet_76 ?_
    exact retI E hW (e2M hf) dX9_sheet_77
  · replace hf := ite_t h8 hf
    refine lv_iconst (v := (0 : Int32)) hx hb dX9_sheet_49 (by decide) ?_
    exact retI E hW (e2M hf) dX9_sheet_50
set_option maxHeartbeats 4000000 in
set_option maxRecDepth 100000 in
theorem w_X9_sheet_20 {p : Program} {l : Launch} {e : Env} {s : State} {m : MethodId} {args : Array Value} {below : List Frame} {meth : Method} {c : Code} {X : XT} {B : Nat} {cs : CS} {o : Nat → Int64} {r : Int32} {S9 : MS} (E : Ev X B p s m args meth c RX9 cX9_sheet 2 (some .int)) : ∀ (ms : MS) (v1 : Int32) (s1 : Int32) (H : Heap) (locs : List Loc) (ls : Array Slot), f_X9_sheet_20 ms v1 s1 = some (r, S9) → Ws X B s.heap H locs (cs, ms, o) → lv_has ls 2 [(0, .ref (X.1 7)), (1, .int v1)] → W p l e rm_X9_sheet s m args below meth c H locs 0 0 (MQ below (QI X B r (cs, S9, o)) args s 0 0 (Ab B)) (F0 m 20 ls [.int s1, .ref (X.1 7)]) := by
  obtain ⟨hx, hb, hml, hown, hts, -⟩ := id E
  intro ms v1 s1 H locs ls hf hW hl
  unfold f_X9_sheet_20 at hf
  refine lv_iconst (v := (1 : Int32)) hx hb dX9_sheet_20 (by decide) ?_
  obtain ⟨r3, ms2, hc, hf⟩ := b2_e hf
  refine callVI (As := [.int _, .int _]) (rest := []) E hW (c_X9_may l hc) lk_X9_151 rcv_X9 (Nat.le_of_ble_eq_true rfl) (Nat.le_of_ble_eq_true rfl) (Nat.le_of_ble_eq_true rfl) (Nat.le_of_ble_eq_true rfl) hl.1 (Nat.le_of_ble_eq_true rfl) dX9_sheet_21 (fun H locs hW => ?_)
  refine lv_if_eq (tgt := 49) hx hb dX9_sheet_24 (by decide) (fun h4 => ?_) (fun h4 => ?_)
  · replace hf := ite_t h4 hf
    refine lv_iconst (v := (0 : Int32)) hx hb dX9_sheet_49 (by decide) ?_
    exact retI E hW (e2M hf) dX9_sheet_50
  · replace hf := ite_f h4 hf
    refine lv_aload_n hx hb dX9_sheet_27 rfl (lv_at hl 0 rfl) ?_
    refine lv_aload_n hx hb dX9_sheet_28 rfl (lv_at hl 0 rfl) ?_
    refine rg_X9_155 E hW dX9_sheet_29 ?_
    refine lv_bipush (v := (8 : Int32)) hx hb dX9_sheet_32 (by decide) ?_
    refine lv_icmp_ge (tgt := 41) hx hb dX9_sheet_34 (by decide) (fun h5 => ?_) (fun h5 => ?_)
    · replace hf := ite_t h5 hf
      refine lv_iconst (v := (0 : Int32)) hx hb dX9_sheet_41 (by decide) ?_
      exact w_X9_sheet_42 E _ _ _ _ _ _ hf hW (lv_sub hl [0, 1] rfl)
    · replace hf := ite_f h5 hf
      refine lv_iconst (v := (1 : Int32)) hx hb dX9_sheet_37 (by decide) ?_
      refine lv_goto (tgt := 42) hx hb dX9_sheet_38 (by decide) ?_
      exact w_X9_sheet_42 E _ _ _ _ _ _ hf hW (lv_sub hl [0, 1] rfl)
set_option maxHeartbeats 4000000 in
set_option maxRecDepth 100000 in
theorem w_X9_sheet_19 {p : Program} {l : Launch} {e : Env} {s : State} {m : MethodId} {args : Array Value} {below : List Frame} {meth : Method} {c : Code} {X : XT} {B : Nat} {cs : CS} {o : Nat → Int64} {r : Int32} {S9 : MS} (E : Ev X B p s m args meth c RX9 cX9_sheet 2 (some .int)) : ∀ (ms : MS) (v1 : Int32) (H : Heap) (locs : List Loc) (ls : Array Slot), f_X9_sheet_19 ms v1 = some (r, S9) → Ws X B s.heap H locs (cs, ms, o) → lv_has ls 2 [(0, .ref (X.1 7)), (1, .int v1)] → W p l e rm_X9_sheet s m args below meth c H locs 0 0 (MQ below (QI X B r (cs, S9, o)) args s 0 0 (Ab B)) (F0 m 19 ls [.ref (X.1 7)]) := by
  obtain ⟨hx, hb, hml, hown, hts, -⟩ := id E
  intro ms v1 H locs ls hf hW hl
  unfold f_X9_sheet_19 at hf
  refine lv_iconst (v := (0 : Int32)) hx hb dX9_sheet_19 (by decide) ?_
  exact w_X9_sheet_20 E _ _ _ _ _ _ hf hW (lv_sub hl [0, 1] rfl)
set_option maxHeartbeats 4000000 in
set_option maxRecDepth 100000 in
theorem c_X9_sheet (l : Launch) {X : XT} {B : Nat} {cs : CS} {ms : MS} {o : Nat → Int64} {v1 : Int32} {r : Int32} {S9 : MS} (hf : f_X9_sheet ms v1 = some (r, S9)) : Met l yX9_sheet (.code yX9_sheet cX9_sheet 2 (some .int) :: BIG) rm_X9_sheet (Pre X B (cs, ms, o) [.ref (X.1 7), .int v1]) (QI X B r (cs, S9, o)) 0 0 (Ab B) := by
  refine entry (by decide +kernel) rfl (Nat.le_of_ble_eq_true rfl) (fun p e s m below meth c ls E hW hl => ?_)
  obtain ⟨hx, hb, hml, hown, hts, -⟩ := id E
  replace hl : lv_has ls 2 [(0, .ref (X.1 7)), (1, .int v1)] := hl
  unfold f_X9_sheet at hf
  refine lv_aload_n hx hb dX9_sheet_0 rfl (lv_at hl 0 rfl) ?_
  refine lv_iconst (v := (0 : Int32)) hx hb dX9_sheet_1 (by decide) ?_
  refine rp_X9_1 E hW dX9_sheet_2 (fun H locs hW => ?_)
  refine lv_aload_n hx hb dX9_sheet_5 rfl (lv_at hl 0 rfl) ?_
  refine lv_iload_n hx hb dX9_sheet_6 rfl (lv_at hl 1 rfl) ?_
  refine lv_if_lt (tgt := 19) hx hb dX9_sheet_7 (by decide) (fun h1 => ?_) (fun h1 => ?_)
  · replace hf := ite_t h1 hf
    exact w_X9_sheet_19 E _ _ _ _ _ hf hW (lv_sub hl [0, 1] rfl)
  · replace hf := ite_f h1 hf
    refine lv_iload_n hx hb dX9_sheet_10 rfl (lv_at hl 1 rfl) ?_
    refine lv_iconst (v := (2 : Int32)) hx hb dX9_sheet_11 (by decide) ?_
    refine lv_icmp_gt (tgt := 19) hx hb dX9_sheet_12 (by decide) (fun h10 => ?_) (fun h10 => ?_)
    · replace hf := ite_t h10 hf
      exact w_X9_sheet_19 E _ _ _ _ _ hf hW (lv_sub hl [0, 1] rfl)
    · replace hf := ite_f h10 hf
      refine lv_iconst (v := (1 : Int32)) hx hb dX9_sheet_15 (by decide) ?_
      refine lv_goto (tgt := 20) hx hb dX9_sheet_16 (by decide) ?_
      exact w_X9_sheet_20 E _ _ _ _ _ _ hf hW (lv_sub hl [0, 1] rfl)
def f_X9_isRow (ms : MS) (v1 : Int32) (v2 : Int32) (v3 : Int32) : Option (Int32 × MS) := if v1 < 0 then (b2 (f_X9_may ms (0 : Int32) v3) fun r3 ms2 => gd (r3 = 0 ∨ r3 = 1) <| some (r3, ms2)) else (if (mi ms 1) ≤ v1 then (b2 (f_X9_may ms (0 : Int32) v3) fun r7 ms6 => gd (r7 = 0 ∨ r7 = 1) <| some (r7, ms6)) else (if v2 < 0 then (b2 (f_X9_may ms (0 : Int32) v3) fun r11 ms10 => gd (r11 = 0 ∨ r11 = 1) <| some (r11, ms10)) else (if (16 : Int32) ≤ v2 then (b2 (f_X9_may ms (0 : Int32) v3) fun r15 ms14 => gd (r15 = 0 ∨ r15 = 1) <| some (r15, ms14)) else (b2 (f_X9_may ms (1 : Int32) v3) fun r18 ms17 => gd (r18 = 0 ∨ r18 = 1) <| some (r18, ms17)))))
def rm_X9_isRow : Room := { frames := 1, cells := 0, slots := 0, locals := 22 }
set_option maxHeartbeats 4000000 in
set_option maxRecDepth 100000 in
theorem c_X9_isRow (l : Launch) {X : XT} {B : Nat} {cs : CS} {ms : MS} {o : Nat → Int64} {v1 : Int32} {v2 : Int32} {v3 : Int32} {r : Int32} {S9 : MS} (hf : f_X9_isRow ms v1 v2 v3 = some (r, S9)) : Met l yX9_isRow (.code yX9_isRow cX9_isRow 4 (some .boolean) :: BIG) rm_X9_isRow (Pre X B (cs, ms, o) [.ref (X.1 7), .int v1, .int v2, .int v3]) (QI X B r (cs, S9, o)) 0 0 (Ab B) := by
  refine entry (by decide +kernel) rfl (Nat.le_of_ble_eq_true rfl) (fun p e s m below meth c ls E hW hl => ?_)
  obtain ⟨hx, hb, hml, hown, hts, -⟩ := id E
  replace hl : lv_has ls 4 [(0, .ref (X.1 7)), (1, .int v1), (2, .int v2), (3, .int v3)] := hl
  unfold f_X9_isRow at hf
  refine lv_aload_n hx hb dX9_isRow_0 rfl (lv_at hl 0 rfl) ?_
  refine lv_iload_n hx hb dX9_isRow_1 rfl (lv_at hl 1 rfl) ?_
  refine lv_if_lt (tgt := 27) hx hb dX9_isRow_2 (by decide) (fun h1 => ?_) (fun h1 => ?_)
  · replace hf := ite_t h1 hf
    refine lv_iconst (v := (0 : Int32)) hx hb dX9_isRow_27 (by decide) ?_
    refine lv_iload_n hx hb dX9_isRow_28 rfl (lv_at hl 3 rfl) ?_
    obtain ⟨r3, ms2, hc, hf⟩ := b2_e hf
    refine callVI (As := [.int _, .int _]) (rest := []) E hW (c_X9_may l hc) lk_X9_151 rcv_X9 (Nat.le_of_ble_eq_true rfl) (Nat.le_of_ble_eq_true rfl) (Nat.le_of_ble_eq_true rfl) (Nat.le_of_ble_eq_true rfl) hl.1 (Nat.le_of_ble_eq_true rfl) dX9_isRow_29 (fun H locs hW => ?_)
    obtain ⟨v4, hf⟩ := gd_e hf
    exact retZ E hW v4 (e2M hf) dX9_isRow_32
  · replace hf := ite_f h1 hf
    refine lv_iload_n hx hb dX9_isRow_5 rfl (lv_at hl 1 rfl) ?_
    refine lv_aload_n hx hb dX9_isRow_6 rfl (lv_at hl 0 rfl) ?_
    refine rg_X9_155 E hW dX9_isRow_7 ?_
    refine lv_icmp_ge (tgt := 27) hx hb dX9_isRow_10 (by decide) (fun h5 => ?_) (fun h5 => ?_)
    · replace hf := ite_t h5 hf
      refine lv_iconst (v := (0 : Int32)) hx hb dX9_isRow_27 (by decide) ?_
      refine lv_iload_n hx hb dX9_isRow_28 rfl (lv_at hl 3 rfl) ?_
      obtain ⟨r7, ms6, hc, hf⟩ := b2_e hf
      refine callVI (As := [.int _, .int _]) (rest := []) E hW (c_X9_may l hc) lk_X9_151 rcv_X9 (Nat.le_of_ble_eq_true rfl) (Nat.le_of_ble_eq_true rfl) (Nat.le_of_ble_eq_true rfl) (Nat.le_of_ble_eq_true rfl) hl.1 (Nat.le_of_ble_eq_true rfl) dX9_isRow_29 (fun H locs hW => ?_)
      obtain ⟨v8, hf⟩ := gd_e hf
      exact retZ E hW v8 (e2M hf) dX9_isRow_32
    · replace hf := ite_f h5 hf
      refine lv_iload_n hx hb dX9_isRow_13 rfl (lv_at hl 2 rfl) ?_
      refine lv_if_lt (tgt := 27) hx hb dX9_isRow_14 (by decide) (fun h9 => ?_) (fun h9 => ?_)
      · replace hf := ite_t h9 hf
        refine lv_iconst (v := (0 : Int32)) hx hb dX9_isRow_27 (by decide) ?_
        refine lv_iload_n hx hb dX9_isRow_28 rfl (lv_at hl 3 rfl) ?_
        obtain ⟨r11, ms10, hc, hf⟩ := b2_e hf
        refine callVI (As := [.int _, .int _]) (rest := []) E hW (c_X9_may l hc) lk_X9_151 rcv_X9 (Nat.le_of_ble_eq_true rfl) (Nat.le_of_ble_eq_true rfl) (Nat.le_of_ble_eq_true rfl) (Nat.le_of_ble_eq_true rfl) hl.1 (Nat.le_of_ble_eq_true rfl) dX9_isRow_29 (fun H locs hW => ?_)
        obtain ⟨v12, hf⟩ := gd_e hf
        exact retZ E hW v12 (e2M hf) dX9_isRow_32
      · replace hf := ite_f h9 hf
        refine lv_iload_n hx hb dX9_isRow_17 rfl (lv_at hl 2 rfl) ?_
        refine lv_bipush (v := (16 : Int32)) hx hb dX9_isRow_18 (by decide) ?_
        refine lv_icmp_ge (tgt := 27) hx hb dX9_isRow_20 (by decide) (fun h13 => ?_) (fun h13 => ?_)
        · replace hf := ite_t h13 hf
          refine lv_iconst (v := (0 : Int32)) hx hb dX9_isRow_27 (by decide) ?_
          refine lv_iload_n hx hb dX9_isRow_28 rfl (lv_at hl 3 rfl) ?_
          obtain ⟨r15, ms14, hc, hf⟩ := b2_e hf
          refine callVI (As := [.int _, .int _]) (rest := []) E hW (c_X9_may l hc) lk_X9_151 rcv_X9 (Nat.le_of_ble_eq_true rfl) (Nat.le_of_ble_eq_true rfl) (Nat.le_of_ble_eq_true rfl) (Nat.le_of_ble_eq_true rfl) hl.1 (Nat.le_of_ble_eq_true rfl) dX9_isRow_29 (fun H locs hW => ?_)
          obtain ⟨v16, hf⟩ := gd_e hf
          exact retZ E hW v16 (e2M hf) dX9_isRow_32
        · replace hf := ite_f h13 hf
          refine lv_iconst (v := (1 : Int32)) hx hb dX9_isRow_23 (by decide) ?_
          refine lv_goto (tgt := 28) hx hb dX9_isRow_24 (by decide) ?_
          refine lv_iload_n hx hb dX9_isRow_28 rfl (lv_at hl 3 rfl) ?_
          obtain ⟨r18, ms17, hc, hf⟩ := b2_e hf
          refine callVI (As := [.int _, .int _]) (rest := []) E hW (c_X9_may l hc) lk_X9_151 rcv_X9 (Nat.le_of_ble_eq_true rfl) (Nat.le_of_ble_eq_true rfl) (Nat.le_of_ble_eq_true rfl) (Nat.le_of_ble_eq_true rfl) hl.1 (Nat.le_of_ble_eq_true rfl) dX9_isRow_29 (fun H locs hW => ?_)
          obtain ⟨v19, hf⟩ := gd_e hf
          exact retZ E hW v19 (e2M hf) dX9_isRow_32
def f_X9_row_48 : Nat → MS → Int32 → Int32 → Int32 → Option (Int32 × MS)
  | 0, _, _, _, _ => none
  | n + 1, ms, v3, v4, v5 => if (12 : Int32) ≤ v5 then (some (v3, ms)) else (ixr 1536 (((12 : Int32) * v4) + v5) <| f_X9_row_48 n (mbU ms 29 ((((12 : Int32) * v4) + v5)).toNatClampNeg (0 : Int64)) v3 v4 (v5 + (1 : Int32)))
def f_X9_row (ms : MS) (v1 : Int32) (v2 : Int32) (v3 : Int32) : Option (Int32 × MS) := b2 (f_X9_isRow (miU ms 0 (0 : Int32)) v1 v2 (1 : Int32)) fun r2 ms1 => if r2 = 0 then (some ((0 : Int32), ms1)) else (if v3 < 0 then (some ((-1 : Int32), ms1)) else (if v3 ≤ (12 : Int32) then (ixr 128 (((16 : Int32) * v1) + v2) <| f_X9_row_48 1000 (maU ms1 28 ((((16 : Int32) * v1) + v2)).toNatClampNeg v3) v3 (((16 : Int32) * v1) + v2) (0 : Int32)) else (some ((-1 : Int32), ms1))))
def rm_X9_row : Room := { frames := 2, cells := 0, slots := 0, locals := 45 }
set_option maxHeartbeats 4000000 in
set_option maxRecDepth 100000 in
theorem w_X9_row_48 {p : Program} {l : Launch} {e : Env} {s : State} {m : MethodId} {args : Array Value} {below : List Frame} {meth : Method} {c : Code} {X : XT} {B : Nat} {cs : CS} {o : Nat → Int64} {r : Int32} {S9 : MS} (E : Ev X B p s m args meth c RX9 cX9_row 6 (some .int)) : ∀ (n : Nat) (ms : MS) (v3 : Int32) (v4 : Int32) (v5 : Int32) (H : Heap) (locs : List Loc) (ls : Array Slot), f_X9_row_48 n ms v3 v4 v5 = some (r, S9) → Ws X B s.heap H locs (cs, ms, o) → lv_has ls 6 [(0, .ref (X.1 7)), (3, .int v3), (4, .int v4), (5, .int v5)] → W p l e rm_X9_row s m args below meth c H locs 0 0 (MQ below (QI X B r (cs, S9, o)) args s 0 0 (Ab B)) (F0 m 48 ls []) := by
  obtain ⟨hx, hb, hml, hown, hts, -⟩ := id E
  intro n
  induction n with
  | zero => intro ms v3 v4 v5 H locs ls hf; exact absurd hf nofun
  | succ n ih =>
    intro ms v3 v4 v5 H locs ls hf hW hl
    rw [f_X9_row_48] at hf
    refine lv_iload hx hb dX9_row_48 (lv_at hl 3 rfl) ?_
    refine lv_bipush (v := (12 : Int32)) hx hb dX9_row_50 (by decide) ?_
    refine lv_icmp_ge (tgt := 75) hx hb dX9_row_52 (by decide) (fun h7 => ?_) (fun h7 => ?_)
    · replace hf := ite_t h7 hf
      refine lv_iload_n hx hb dX9_row_75 rfl (lv_at hl 1 rfl) ?_
      exact retI E hW (e2M hf) dX9_row_76
    · replace hf := ite_f h7 hf
      refine lv_aload_n hx hb dX9_row_55 rfl (lv_at hl 0 rfl) ?_
      refine rg_X9_20 E hW dX9_row_56 ?_
      refine lv_bipush (v := (12 : Int32)) hx hb dX9_row_59 (by decide) ?_
      refine lv_iload hx hb dX9_row_61 (lv_at hl 2 rfl) ?_
      refine lv_imul hx hb dX9_row_63 ?_
      refine lv_iload hx hb dX9_row_64 (lv_at hl 3 rfl) ?_
      refine lv_iadd hx hb dX9_row_66 ?_
      refine lv_lconst (v := (0 : Int64)) hx hb dX9_row_67 (by decide) ?_
      obtain ⟨v8, hf⟩ := ixr_e hf
      refine rs_29 E hW v8 dX9_row_68 (fun H locs hW => ?_)
      refine lv_iinc (v := _ + (1 : Int32)) (lv' := [_, _, _, _]) hx hb dX9_row_69 hl (k := 3) rfl rfl (by decide) rfl (fun ls hl => ?_)
      refine lv_goto (tgt := 48) hx hb dX9_row_72 (by decide) ?_
      exact ih _ _ _ _ _ _ _ hf hW (lv_sub hl [1, 2, 3, 0] rfl)
set_option maxHeartbeats 4000000 in
set_option maxRecDepth 100000 in
theorem c_X9_row (l : Launch) {X : XT} {B : Nat} {cs : CS} {ms : MS} {o : Nat → Int64} {v1 : Int32} {v2 : Int32} {v3 : Int32} {r : Int32} {S9 : MS} (hf : f_X9_row ms v1 v2 v3 = some (r, S9)) : Met l yX9_row (.code yX9_row cX9_row 6 (some .int) :: BIG) rm_X9_row (Pre X B (cs, ms, o) [.ref (X.1 7), .int v1, .int v2, .int v3]) (QI X B r (cs, S9, o)) 0 0 (Ab B) := by
  refine entry (by decide +kernel) rfl (Nat.le_of_ble_eq_true rfl) (fun p e s m below meth c ls E hW hl => ?_)
  obtain ⟨hx, hb, hml, hown, hts, -⟩ := id E
  replace hl : lv_has ls 6 [(0, .ref (X.1 7)), (1, .int v1), (2, .int v2), (3, .int v3)] := hl
  unfold f_X9_row at hf
  refine lv_aload_n hx hb dX9_row_0 rfl (lv_at hl 0 rfl) ?_
  refine lv_iconst (v := (0 : Int32)) hx hb dX9_row_1 (by decide) ?_
  refine rp_X9_1 E hW dX9_row_2 (fun H locs hW => ?_)
  refine lv_aload_n hx hb dX9_row_5 rfl (lv_at hl 0 rfl) ?_
  refine lv_iload_n hx hb dX9_row_6 rfl (lv_at hl 1 rfl) ?_
  refine lv_iload_n hx hb dX9_row_7 rfl (lv_at hl 2 rfl) ?_
  refine lv_iconst (v := (1 : Int32)) hx hb dX9_row_8 (by decide) ?_
  obtain ⟨r2, ms1, hc, hf⟩ := b2_e hf
  refine callVI (As := [.int _, .int _, .int _]) (rest := []) E hW (c_X9_isRow l hc) lk_X9_158 rcv_X9 (Nat.le_of_ble_eq_true rfl) (Nat.le_of_ble_eq_true rfl) (Nat.le_of_ble_eq_true rfl) (Nat.le_of_ble_eq_true rfl) hl.1 (Nat.le_of_ble_eq_true rfl) dX9_row_9 (fun H locs hW => ?_)
  refine lv_if_ne (tgt := 17) hx hb dX9_row_12 (by decide) (fun h3 => ?_) (fun h3 => ?_)
  · replace hf := ite_f h3 hf
    refine lv_iload_n hx hb dX9_row_17 rfl (lv_at hl 3 rfl) ?_
    refine lv_if_lt (tgt := 27) hx hb dX9_row_18 (by decide) (fun h4 => ?_) (fun h4 => ?_)
    · replace hf := ite_t h4 hf
      refine lv_iconst (v := (-1 : Int32)) hx hb dX9_row_27 (by decide) ?_
      exact retI E hW (e2M hf) dX9_row_28
    · replace hf := ite_f h4 hf
      refine lv_iload_n hx hb dX9_row_21 rfl (lv_at hl 3 rfl) ?_
      refine lv_bipush (v := (12 : Int32)) hx hb dX9_row_22 (by decide) ?_
      refine lv_icmp_le (tgt := 29) hx hb dX9_row_24 (by decide) (fun h5 => ?_) (fun h5 => ?_)
      · replace hf := ite_t h5 hf
        refine lv_bipush (v := (16 : Int32)) hx hb dX9_row_29 (by decide) ?_
        refine lv_iload_n hx hb dX9_row_31 rfl (lv_at hl 1 rfl) ?_
        refine lv_imul hx hb dX9_row_32 ?_
        refine lv_iload_n hx hb dX9_row_33 rfl (lv_at hl 2 rfl) ?_
        refine lv_iadd hx hb dX9_row_34 ?_
        refine lv_istore (lv' := [_, _, _, _, _]) hx hb dX9_row_35 hl (by decide) rfl (fun ls hl => ?_)
        refine lv_aload_n hx hb dX9_row_37 rfl (lv_at hl 1 rfl) ?_
        refine rg_X9_17 E hW dX9_row_38 ?_
        refine lv_iload hx hb dX9_row_41 (lv_at hl 0 rfl) ?_
        refine lv_iload_n hx hb dX9_row_43 rfl (lv_at hl 4 rfl) ?_
        obtain ⟨v6, hf⟩ := ixr_e hf
        refine rs_28 E hW v6 dX9_row_44 (fun H locs hW => ?_)
        refine lv_iconst (v := (0 : Int32)) hx hb dX9_row_45 (by decide) ?_
        refine lv_istore (lv' := [_, _, _, _, _, _]) hx hb dX9_row_46 hl (by decide) rfl (fun ls hl => ?_)
        exact w_X9_row_48 E 1000 _ _ _ _ _ _ _ hf hW (lv_sub hl [2, 5, 1, 0] rfl)
      · replace hf := ite_f h5 hf
        refine lv_iconst (v := (-1 : Int32)) hx hb dX9_row_27 (by decide) ?_
        exact retI E hW (e2M hf) dX9_row_28
  · replace hf := ite_t h3 hf
    refine lv_iconst (v := (0 : Int32)) hx hb dX9_row_15 (by decide) ?_
    exact retI E hW (e2M hf) dX9_row_16
def f_X9_put (ms : MS) (v1 : Int32) (v2 : Int32) (v3 : Int32) (v4 : Int64) : Option (Int32 × MS) := b2 (f_X9_isRow (miU ms 0 (0 : Int32)) v1 v2 (1 : Int32)) fun r2 ms1 => if r2 = 0 then (some ((0 : Int32), ms1)) else ((ldI (ma ms1 28) 128 (((16 : Int32) * v1) + v2)).bind fun q5 => if q5 = (-1 : Int32) then (some ((-1 : Int32), ms1)) else (if v3 < 0 then (some ((-2 : Int32), ms1)) else ((ldI (ma ms1 28) 128 (((16 : Int32) * v1) + v2)).bind fun q9 => if v3 < q9 then ((ldI (ma ms1 27) 8 v1).bind fun q12 => if q12 = 0 then (ixr 1536 (((12 : Int32) * (((16 : Int32) * v1) + v2)) + v3) <| some ((1 : Int32), (mbU ms1 29 ((((12 : Int32) * (((16 : Int32) * v1) + v2)) + v3)).toNatClampNeg v4.toInt32.toInt16.toInt32.toInt64))) else ((ldI (ma ms1 27) 8 v1).bind fun q15 => if q15 = (1 : Int32) then (ixr 1536 (((12 : Int32) * (((16 : Int32) * v1) + v2)) + v3) <| some ((1 : Int32), (mbU ms1 29 ((((12 : Int32) * (((16 : Int32) * v1) + v2)) + v3)).toNatClampNeg v4.toInt32.toInt64))) else (ixr 1536 (((12 : Int32) * (((16 : Int32) * v1) + v2)) + v3) <| some ((1 : Int32), (mbU ms1 29 ((((12 : Int32) * (((16 : Int32) * v1) + v2)) + v3)).toNatClampNeg v4))))) else (some ((-2 : Int32), ms1)))))
def rm_X9_put : Room := { frames := 2, cells := 0, slots := 0, locals := 45 }
set_option maxHeartbeats 4000000 in
set_option maxRecDepth 100000 in
theorem c_X9_put (l : Launch) {X : XT} {B : Nat} {cs : CS} {ms : MS} {o : Nat → Int64} {v1 : Int32} {v2 : Int32} {v3 : Int32} {v4 : Int64} {r : Int32} {S9 : MS} (hf : f_X9_put ms v1 v2 v3 v4 = some (r, S9)) : Met l yX9_put (.code yX9_put cX9_put 7 (some .int) :: BIG) rm_X9_put (Pre X B (cs, ms, o) [.ref (X.1 7), .int v1, .int v2, .int v3, .long v4]) (QI X B r (cs, S9, o)) 0 0 (Ab B) := by
  refine entry (by decide +kernel) rfl (Nat.le_of_ble_eq_true rfl) (fun p e s m below meth c ls E hW hl => ?_)
  obtain ⟨hx, hb, hml, hown, hts, -⟩ := id E
  replace hl : lv_has ls 7 [(0, .ref (X.1 7)), (1, .int v1), (2, .int v2), (3, .int v3), (4, .long v4)] := hl
  unfold f_X9_put at hf
  refine lv_aload_n hx hb dX9_put_0 rfl (lv_at hl 0 rfl) ?_
  refine lv_iconst (v := (0 : Int32)) hx hb dX9_put_1 (by decide) ?_
  refine rp_X9_1 E hW dX9_put_2 (fun H locs hW => ?_)
  refine lv_aload_n hx hb dX9_put_5 rfl (lv_at hl 0 rfl) ?_
  refine lv_iload_n hx hb dX9_put_6 rfl (lv_at hl 1 rfl) ?_
  refine lv_iload_n hx hb dX9_put_7 rfl (lv_at hl 2 rfl) ?_
  refine lv_iconst (v := (1 : Int32)) hx hb dX9_put_8 (by decide) ?_
  obtain ⟨r2, ms1, hc, hf⟩ := b2_e hf
  refine callVI (As := [.int _, .int _, .int _]) (rest := []) E hW (c_X9_isRow l hc) lk_X9_158 rcv_X9 (Nat.le_of_ble_eq_true rfl) (Nat.le_of_ble_eq_true rfl) (Nat.le_of_ble_eq_true rfl) (Nat.le_of_ble_eq_true rfl) hl.1 (Nat.le_of_ble_eq_true rfl) dX9_put_9 (fun H locs hW => ?_)
  refine lv_if_ne (tgt := 17) hx hb dX9_put_12 (by decide) (fun h3 => ?_) (fun h3 => ?_)
  · replace hf := ite_f h3 hf
    refine lv_bipush (v := (16 : Int32)) hx hb dX9_put_17 (by decide) ?_
    refine lv_iload_n hx hb dX9_put_19 rfl (lv_at hl 1 rfl) ?_
    refine lv_imul hx hb dX9_put_20 ?_
    refine lv_iload_n hx hb dX9_put_21 rfl (lv_at hl 2 rfl) ?_
    refine lv_iadd hx hb dX9_put_22 ?_
    refine lv_istore (lv' := [_, _, _, _, _, _]) hx hb dX9_put_23 hl (by decide) rfl (fun ls hl => ?_)
    refine lv_aload_n hx hb dX9_put_25 rfl (lv_at hl 1 rfl) ?_
    refine rg_X9_17 E hW dX9_put_26 ?_
    refine lv_iload hx hb dX9_put_29 (lv_at hl 0 rfl) ?_
    obtain ⟨v4, hf⟩ := ldI_e hf
    refine ra_28 E hW v4 dX9_put_31 ?_
    refine lv_iconst (v := (-1 : Int32)) hx hb dX9_put_32 (by decide) ?_
    refine lv_icmp_ne (tgt := 38) hx hb dX9_put_33 (by decide) (fun h6 => ?_) (fun h6 => ?_)
    · replace hf := ite_f h6 hf
      refine lv_iload_n hx hb dX9_put_38 rfl (lv_at hl 4 rfl) ?_
      refine lv_if_lt (tgt := 53) hx hb dX9_put_39 (by decide) (fun h7 => ?_) (fun h7 => ?_)
      · replace hf := ite_t h7 hf
        refine lv_bipush (v := (-2 : Int32)) hx hb dX9_put_53 (by decide) ?_
        exact retI E hW (e2M hf) dX9_put_55
      · replace hf := ite_f h7 hf
        refine lv_iload_n hx hb dX9_put_42 rfl (lv_at hl 4 rfl) ?_
        refine lv_aload_n hx hb dX9_put_43 rfl (lv_at hl 1 rfl) ?_
        refine rg_X9_17 E hW dX9_put_44 ?_
        refine lv_iload hx hb dX9_put_47 (lv_at hl 0 rfl) ?_
        obtain ⟨v8, hf⟩ := ldI_e hf
        refine ra_28 E hW v8 dX9_put_49 ?_
        refine lv_icmp_lt (tgt := 56) hx hb dX9_put_50 (by decide) (fun h10 => ?_) (fun h10 => ?_)
        · replace hf := ite_t h10 hf
          refine lv_aload_n hx hb dX9_put_56 rfl (lv_at hl 1 rfl) ?_
          refine rg_X9_20 E hW dX9_put_57 ?_
          refine lv_bipush (v := (12 : Int32)) hx hb dX9_put_60 (by decide) ?_
          refine lv_iload hx hb dX9_put_62 (lv_at hl 0 rfl) ?_
          refine lv_imul hx hb dX9_put_64 ?_
          refine lv_iload_n hx hb dX9_put_65 rfl (lv_at hl 4 rfl) ?_
          refine lv_iadd hx hb dX9_put_66 ?_
          refine lv_aload_n hx hb dX9_put_67 rfl (lv_at hl 1 rfl) ?_
          refine rg_X9_13 E hW dX9_put_68 ?_
          refine lv_iload_n hx hb dX9_put_71 rfl (lv_at hl 2 rfl) ?_
          obtain ⟨v11, hf⟩ := ldI_e hf
          refine ra_27 E hW v11 dX9_put_72 ?_
          refine lv_if_ne (tgt := 84) hx hb dX9_put_73 (by decide) (fun h13 => ?_) (fun h13 => ?_)
          · replace hf := ite_f h13 hf
            refine lv_aload_n hx hb dX9_put_84 rfl (lv_at hl 1 rfl) ?_
            refine rg_X9_13 E hW dX9_put_85 ?_
            refine lv_iload_n hx hb dX9_put_88 rfl (lv_at hl 2 rfl) ?_
            obtain ⟨v14, hf⟩ := ldI_e hf
            refine ra_27 E hW v14 dX9_put_89 ?_
            refine lv_iconst (v := (1 : Int32)) hx hb dX9_put_90 (by decide) ?_
            refine lv_icmp_ne (tgt := 101) hx hb dX9_put_91 (by decide) (fun h16 => ?_) (fun h16 => ?_)
            · replace hf := ite_f h16 hf
              refine lv_lload hx hb dX9_put_101 (lv_at hl 5 rfl) ?_
              obtain ⟨v17, hf⟩ := ixr_e hf
              refine rs_29 E hW v17 dX9_put_103 (fun H locs hW => ?_)
              refine lv_iconst (v := (1 : Int32)) hx hb dX9_put_104 (by decide) ?_
              exact retI E hW (e2M hf) dX9_put_105
            · replace hf := ite_t h16 hf
              refine lv_lload hx hb dX9_put_94 (lv_at hl 5 rfl) ?_
              refine lv_l2i hx hb dX9_put_96 rfl ?_
              refine lv_i2l hx hb dX9_put_97 rfl ?_
              refine lv_goto (tgt := 103) hx hb dX9_put_98 (by decide) ?_
              obtain ⟨v18, hf⟩ := ixr_e hf
              refine rs_29 E hW v18 dX9_put_103 (fun H locs hW => ?_)
              refine lv_iconst (v := (1 : Int32)) hx hb dX9_put_104 (by decide) ?_
              exact retI E hW (e2M hf) dX9_put_105
          · replace hf := ite_t h13 hf
            refine lv_lload hx hb dX9_put_76 (lv_at hl 5 rfl) ?_
            refine lv_l2i hx hb dX9_put_78 rfl ?_
            refine lv_i2s hx hb dX9_put_79 rfl ?_
            refine lv_i2l hx hb dX9_put_80 rfl ?_
            refine lv_goto (tgt := 103) hx hb dX9_put_81 (by decide) ?_
            obtain ⟨v19, hf⟩ := ixr_e hf
            refine rs_29 E hW v19 dX9_put_103 (fun H locs hW => ?_)
            refine lv_iconst (v := (1 : Int32)) hx hb dX9_put_104 (by decide) ?_
            exact retI E hW (e2M hf) dX9_put_105
        · replace hf := ite_f h10 hf
          refine lv_bipush (v := (-2 : Int32)) hx hb dX9_put_53 (by decide) ?_
          exact retI E hW (e2M hf) dX9_put_55
    · replace hf := ite_t h6 hf
      refine lv_iconst (v := (-1 : Int32)) hx hb dX9_put_36 (by decide) ?_
      exact retI E hW (e2M hf) dX9_put_37
  · replace hf := ite_t h3 hf
    refine lv_iconst (v := (0 : Int32)) hx hb dX9_put_15 (by decide) ?_
    exact retI E hW (e2M hf) dX9_put_16
def f_X9_tear (ms : MS) (v1 : Int32) (v2 : Int32) : Option (Int32 × MS) := b2 (f_X9_isRow (miU ms 0 (0 : Int32)) v1 v2 (1 : Int32)) fun r2 ms1 => if r2 = 0 then (some ((0 : Int32), ms1)) else ((ldI (ma ms1 28) 128 (((16 : Int32) * v1) + v2)).bind fun q5 => if q5 = (-1 : Int32) then (ixr 128 (((16 : Int32) * v1) + v2) <| some ((0 : Int32), (maU ms1 28 ((((16 : Int32) * v1) + v2)).toNatClampNeg (-1 : Int32)))) else (ixr 128 (((16 : Int32) * v1) + v2) <| some ((1 : Int32), (maU ms1 28 ((((16 : Int32) * v1) + v2)).toNatClampNeg (-1 : Int32)))))
def rm_X9_tear : Room := { frames := 2, cells := 0, slots := 0, locals := 45 }
set_option maxHeartbeats 4000000 in
set_option maxRecDepth 100000 in
theorem c_X9_tear (l : Launch) {X : XT} {B : Nat} {cs : CS} {ms : MS} {o : Nat → Int64} {v1 : Int32} {v2 : Int32} {r : Int32} {S9 : MS} (hf : f_X9_tear ms v1 v2 = some (r, S9)) : Met l yX9_tear (.code yX9_tear cX9_tear 5 (some .int) :: BIG) rm_X9_tear (Pre X B (cs, ms, o) [.ref (X.1 7), .int v1, .int v2]) (QI X B r (cs, S9, o)) 0 0 (Ab B) := by
  refine entry (by decide +kernel) rfl (Nat.le_of_ble_eq_true rfl) (fun p e s m below meth c ls E hW hl => ?_)
  obtain ⟨hx, hb, hml, hown, hts, -⟩ := id E
  replace hl : lv_has ls 5 [(0, .ref (X.1 7)), (1, .int v1), (2, .int v2)] := hl
  unfold f_X9_tear at hf
  refine lv_aload_n hx hb dX9_tear_0 rfl (lv_at hl 0 rfl) ?_
  refine lv_iconst (v := (0 : Int32)) hx hb dX9_tear_1 (by decide) ?_
  refine rp_X9_1 E hW dX9_tear_2 (fun H locs hW => ?_)
  refine lv_aload_n hx hb dX9_tear_5 rfl (lv_at hl 0 rfl) ?_
  refine lv_iload_n hx hb dX9_tear_6 rfl (lv_at hl 1 rfl) ?_
  refine lv_iload_n hx hb dX9_tear_7 rfl (lv_at hl 2 rfl) ?_
  refine lv_iconst (v := (1 : Int32)) hx hb dX9_tear_8 (by decide) ?_
  obtain ⟨r2, ms1, hc, hf⟩ := b2_e hf
  refine callVI (As := [.int _, .int _, .int _]) (rest := []) E hW (c_X9_isRow l hc) lk_X9_158 rcv_X9 (Nat.le_of_ble_eq_true rfl) (Nat.le_of_ble_eq_true rfl) (Nat.le_of_ble_eq_true rfl) (Nat.le_of_ble_eq_true rfl) hl.1 (Nat.le_of_ble_eq_true rfl) dX9_tear_9 (fun H locs hW => ?_)
  refine lv_if_ne (tgt := 17) hx hb dX9_tear_12 (by decide) (fun h3 => ?_) (fun h3 => ?_)
  · replace hf := ite_f h3 hf
    refine lv_bipush (v := (16 : Int32)) hx hb dX9_tear_17 (by decide) ?_
    refine lv_iload_n hx hb dX9_tear_19 rfl (lv_at hl 1 rfl) ?_
    refine lv_imul hx hb dX9_tear_20 ?_
    refine lv_iload_n hx hb dX9_tear_21 rfl (lv_at hl 2 rfl) ?_
    refine lv_iadd hx hb dX9_tear_22 ?_
    refine lv_istore_n (lv' := [_, _, _, _]) hx hb dX9_tear_23 rfl hl (by decide) rfl (fun ls hl => ?_)
    refine lv_aload_n hx hb dX9_tear_24 rfl (lv_at hl 1 rfl) ?_
    refine rg_X9_17 E hW dX9_tear_25 ?_
    refine lv_iload_n hx hb dX9_tear_28 rfl (lv_at hl 0 rfl) ?_
    obtain ⟨v4, hf⟩ := ldI_e hf
    refine ra_28 E hW v4 dX9_tear_29 ?_
    refine lv_iconst (v := (-1 : Int32)) hx hb dX9_tear_30 (by decide) ?_
    refine lv_icmp_eq (tgt := 38) hx hb dX9_tear_31 (by decide) (fun h6 => ?_) (fun h6 => ?_)
    · replace hf := ite_t h6 hf
      refine lv_iconst (v := (0 : Int32)) hx hb dX9_tear_38 (by decide) ?_
      refine lv_istore (lv' := [_, _, _, _, _]) hx hb dX9_tear_39 hl (by decide) rfl (fun ls hl => ?_)
      refine lv_aload_n hx hb dX9_tear_41 rfl (lv_at hl 2 rfl) ?_
      refine rg_X9_17 E hW dX9_tear_42 ?_
      refine lv_iload_n hx hb dX9_tear_45 rfl (lv_at hl 1 rfl) ?_
      refine lv_iconst (v := (-1 : Int32)) hx hb dX9_tear_46 (by decide) ?_
      obtain ⟨v7, hf⟩ := ixr_e hf
      refine rs_28 E hW v7 dX9_tear_47 (fun H locs hW => ?_)
      refine lv_iload hx hb dX9_tear_48 (lv_at hl 0 rfl) ?_
      refine lv_if_eq (tgt := 57) hx hb dX9_tear_50 (by decide) (fun _ => ?_) (fun h9 => absurd h9 (by decide))
      refine lv_iconst (v := (0 : Int32)) hx hb dX9_tear_57 (by decide) ?_
      exact retI E hW (e2M hf) dX9_tear_58
    · replace hf := ite_f h6 hf
      refine lv_iconst (v := (1 : Int32)) hx hb dX9_tear_34 (by decide) ?_
      refine lv_goto (tgt := 39) hx hb dX9_tear_35 (by decide) ?_
      refine lv_istore (lv' := [_, _, _, _, _]) hx hb dX9_tear_39 hl (by decide) rfl (fun ls hl => ?_)
      refine lv_aload_n hx hb dX9_tear_41 rfl (lv_at hl 2 rfl) ?_
      refine rg_X9_17 E hW dX9_tear_42 ?_
      refine lv_iload_n hx hb dX9_tear_45 rfl (lv_at hl 1 rfl) ?_
      refine lv_iconst (v := (-1 : Int32)) hx hb dX9_tear_46 (by decide) ?_
      obtain ⟨v8, hf⟩ := ixr_e hf
      refine rs_28 E hW v8 dX9_tear_47 (fun H locs hW => ?_)
      refine lv_iload hx hb dX9_tear_48 (lv_at hl 0 rfl) ?_
      refine lv_if_eq (tgt := 57) hx hb dX9_tear_50 (by decide) (fun h9 => absurd h9 (by decide)) (fun _ => ?_)
      refine lv_iconst (v := (1 : Int32)) hx hb dX9_tear_53 (by decide) ?_
      refine lv_goto (tgt := 58) hx hb dX9_tear_54 (by decide) ?_
      exact retI E hW (e2M hf) dX9_tear_58
  · replace hf := ite_t h3 hf
    refine lv_iconst (v := (0 : Int32)) hx hb dX9_tear_15 (by decide) ?_
    exact retI E hW (e2M hf) dX9_tear_16
def f_X9_feed_75 (k : MS → Int32 → Int32 → Int32 → Int32 → Int32 → Int32 → Option (Int32 × MS)) (ms : MS) (v1 : Int32) (v2 : Int32) (v3 : Int32) (v4 : Int32) (v5 : Int32) (v6 : Int32) (s0 : Int32) : Option (Int32 × MS) := ixr 100 (mi ms 2) <| k (miU (maU ms 30 ((mi ms 2)).toNatClampNeg ((s0 >>> (((24 : Int32) - ((8 : Int32) * (v6 - v6 / (4 : Int32) * (4 : Int32)))) &&& 31)) &&& (255 : Int32))) 2 ((mi (maU ms 30 ((mi ms 2)).toNatClampNeg ((s0 >>> (((24 : Int32) - ((8 : Int32) * (v6 - v6 / (4 : Int32) * (4 : Int32)))) &&& 31)) &&& (255 : Int32))) 2) + (1 : Int32))) v1 v2 v3 v4 v5 (v6 + (1 : Int32))
def f_X9_feed_22 : Nat → MS → Int32 → Int32 → Int32 → Int32 → Int32 → Int32 → Option (Int32 × MS)
  | 0, _, _, _, _, _, _, _ => none
  | n + 1, ms, v1, v2, v3, v4, v5, v6 => if (20 : Int32) ≤ v6 then (some ((mi ms 2), ms)) else (if (4 : Int32) ≤ v6 then (if (8 : Int32) ≤ v6 then (if (12 : Int32) ≤ v6 then (if (16 : Int32) ≤ v6 then (f_X9_feed_75 (f_X9_feed_22 n) ms v1 v2 v3 v4 v5 v6 v5) else (f_X9_feed_75 (f_X9_feed_22 n) ms v1 v2 v3 v4 v5 v6 v4)) else (f_X9_feed_75 (f_X9_feed_22 n) ms v1 v2 v3 v4 v5 v6 v3)) else (f_X9_feed_75 (f_X9_feed_22 n) ms v1 v2 v3 v4 v5 v6 v2)) else (f_X9_feed_75 (f_X9_feed_22 n) ms v1 v2 v3 v4 v5 v6 v1))
def f_X9_feed (ms : MS) (v1 : Int32) (v2 : Int32) (v3 : Int32) (v4 : Int32) (v5 : Int32) : Option (Int32 × MS) := if ((mi (miU ms 0 (0 : Int32)) 2) + (20 : Int32)) ≤ (100 : Int32) then (f_X9_feed_22 1000 (miU ms 0 (0 : Int32)) v1 v2 v3 v4 v5 (0 : Int32)) else (some ((-1 : Int32), (miU ms 0 (0 : Int32))))
def rm_X9_feed : Room := { frames := 0, cells := 0, slots := 0, locals := 0 }
set_option maxHeartbeats 4000000 in
set_option maxRecDepth 100000 in
theorem w_X9_feed_75 {p : Program} {l : Launch} {e : Env} {s : State} {m : MethodId} {args : Array Value} {below : List Frame} {meth : Method} {c : Code} {X : XT} {B : Nat} {cs : CS} {o : Nat → Int64} {r : Int32} {S9 : MS} (E : Ev X B p s m args meth c RX9 cX9_feed 8 (some .int)) (k : MS → Int32 → Int32 → Int32 → Int32 → Int32 → Int32 → Option (Int32 × MS)) (hk : ∀ (ms : MS) (v1 : Int32) (v2 : Int32) (v3 : Int32) (v4 : Int32) (v5 : Int32) (v6 : Int32) (H : Heap) (locs : List Loc) (ls : Array Slot), k ms v1 v2 v3 v4 v5 v6 = some (r, S9) → Ws X B s.heap H locs (cs, ms, o) → lv_has ls 8 [(0, .ref (X.1 7)), (1, .int v1), (2, .int v2), (3, .int v3), (4, .int v4), (5, .int v5), (6, .int v6)] → W p l e rm_X9_feed s m args below meth c H locs 0 0 (MQ below (QI X B r (cs, S9, o)) args s 0 0 (Ab B)) (F0 m 22 ls [])) : ∀ (ms : MS) (v1 : Int32) (v2 : Int32) (v3 : Int32) (v4 : Int32) (v5 : Int32) (v6 : Int32) (s0 : Int32) (H : Heap) (locs : List Loc) (ls : Array Slot), f_X9_feed_75 k ms v1 v2 v3 v4 v5 v6 s0 = some (r, S9) → Ws X B s.heap H locs (cs, ms, o) → lv_has ls 8 [(0, .ref (X.1 7)), (1, .int v1), (2, .int v2), (3, .int v3), (4, .int v4), (5, .int v5), (6, .int v6)] → W p l e rm_X9_feed s m args below meth c H locs 0 0 (MQ below (QI X B r (cs, S9, o)) args s 0 0 (Ab B)) (F0 m 75 ls [.int s0]) := by
  obtain ⟨hx, hb, hml, hown, hts, -⟩ := id E
  intro ms v1 v2 v3 v4 v5 v6 s0 H locs ls hf hW hl
  unfold f_X9_feed_75 at hf
  refine lv_istore (lv' := [_, _, _, _, _, _, _, _]) hx hb dX9_feed_75 hl (by decide) rfl (fun ls hl => ?_)
  refine lv_aload_n hx hb dX9_feed_77 rfl (lv_at hl 1 rfl) ?_
  refine rg_X9_24 E hW dX9_feed_78 ?_
  refine lv_aload_n hx hb dX9_feed_81 rfl (lv_at hl 1 rfl) ?_
  refine rg_X9_162 E hW dX9_feed_82 ?_
  refine lv_iload hx hb dX9_feed_85 (lv_at hl 0 rfl) ?_
  refine lv_bipush (v := (24 : Int32)) hx hb dX9_feed_87 (by decide) ?_
  refine lv_bipush (v := (8 : Int32)) hx hb dX9_feed_89 (by decide) ?_
  refine lv_iload hx hb dX9_feed_91 (lv_at hl 7 rfl) ?_
  refine lv_iconst (v := (4 : Int32)) hx hb dX9_feed_93 (by decide) ?_
  refine lv_irem hx hb dX9_feed_94 (by decide) ?_
  refine lv_imul hx hb dX9_feed_95 ?_
  refine lv_isub hx hb dX9_feed_96 ?_
  refine lv_ishr hx hb dX9_feed_97 ?_
  refine lv_sipush (v := (255 : Int32)) hx hb dX9_feed_98 (by decide) ?_
  refine lv_iand hx hb dX9_feed_101 ?_
  obtain ⟨v7, hf⟩ := ixr_e hf
  refine rs_30 E hW v7 dX9_feed_102 (fun H locs hW => ?_)
  refine lv_aload_n hx hb dX9_feed_103 rfl (lv_at hl 1 rfl) ?_
  refine lv_dup hx hb dX9_feed_104 rfl ?_
  refine rg_X9_162 E hW dX9_feed_105 ?_
  refine lv_iconst (v := (1 : Int32)) hx hb dX9_feed_108 (by decide) ?_
  refine lv_iadd hx hb dX9_feed_109 ?_
  refine rp_X9_162 E hW dX9_feed_110 (fun H locs hW => ?_)
  refine lv_iinc (v := _ + (1 : Int32)) (lv' := [_, _, _, _, _, _, _, _]) hx hb dX9_feed_113 hl (k := 7) rfl rfl (by decide) rfl (fun ls hl => ?_)
  refine lv_goto (tgt := 22) hx hb dX9_feed_116 (by decide) ?_
  exact hk _ _ _ _ _ _ _ _ _ _ hf hW (lv_sub hl [2, 3, 4, 5, 6, 7, 0] rfl)
set_option maxHeartbeats 4000000 in
set_option maxRecDepth 100000 in
theorem w_X9_feed_22 {p : Program} {l : Launch} {e : Env} {s : State} {m : MethodId} {args : Array Value} {below : List Frame} {meth : Method} {c : Code} {X : XT} {B : Nat} {cs : CS} {o : Nat → Int64} {r : Int32} {S9 : MS} (E : Ev X B p s m args meth c RX9 cX9_feed 8 (some .int)) : ∀ (n : Nat) (ms : MS) (v1 : Int32) (v2 : Int32) (v3 : Int32) (v4 : Int32) (v5 : Int32) (v6 : Int32) (H : Heap) (locs : List Loc) (ls : Array Slot), f_X9_feed_22 n ms v1 v2 v3 v4 v5 v6 = some (r, S9) → Ws X B s.heap H locs (cs, ms, o) → lv_has ls 8 [(0, .ref (X.1 7)), (1, .int v1), (2, .int v2), (3, .int v3), (4, .int v4), (5, .int v5), (6, .int v6)] → W p l e rm_X9_feed s m args below meth c H locs 0 0 (MQ below (QI X B r (cs, S9, o)) args s 0 0 (Ab B)) (F0 m 22 ls []) := by
  obtain ⟨hx, hb, hml, hown, hts, -⟩ := id E
  intro n
  induction n with
  | zero => intro ms v1 v2 v3 v4 v5 v6 H locs ls hf; exact absurd hf nofun
  | succ n ih =>
    intro ms v1 v2 v3 v4 v5 v6 H locs ls hf hW hl
    rw [f_X9_feed_22] at hf
    refine lv_iload hx hb dX9_feed_22 (lv_at hl 6 rfl) ?_
    refine lv_bipush (v := (20 : Int32)) hx hb dX9_feed_24 (by decide) ?_
    refine lv_icmp_ge (tgt := 119) hx hb dX9_feed_26 (by decide) (fun h2 => ?_) (fun h2 => ?_)
    · replace hf := ite_t h2 hf
      refine lv_aload_n hx hb dX9_feed_119 rfl (lv_at hl 0 rfl) ?_
      refine rg_X9_162 E hW dX9_feed_120 ?_
      exact retI E hW (e2M hf) dX9_feed_123
    · replace hf := ite_f h2 hf
      refine lv_iload hx hb dX9_feed_29 (lv_at hl 6 rfl) ?_
      refine lv_iconst (v := (4 : Int32)) hx hb dX9_feed_31 (by decide) ?_
      refine lv_icmp_ge (tgt := 39) hx hb dX9_feed_32 (by decide) (fun h3 => ?_) (fun h3 => ?_)
      · replace hf := ite_t h3 hf
        refine lv_iload hx hb dX9_feed_39 (lv_at hl 6 rfl) ?_
        refine lv_bipush (v := (8 : Int32)) hx hb dX9_feed_41 (by decide) ?_
        refine lv_icmp_ge (tgt := 50) hx hb dX9_feed_43 (by decide) (fun h4 => ?_) (fun h4 => ?_)
        · replace hf := ite_t h4 hf
          refine lv_iload hx hb dX9_feed_50 (lv_at hl 6 rfl) ?_
          refine lv_bipush (v := (12 : Int32)) hx hb dX9_feed_52 (by decide) ?_
          refine lv_icmp_ge (tgt := 61) hx hb dX9_feed_54 (by decide) (fun h5 => ?_) (fun h5 => ?_)
          · replace hf := ite_t h5 hf
            refine lv_iload hx hb dX9_feed_61 (lv_at hl 6 rfl) ?_
            refine lv_bipush (v := (16 : Int32)) hx hb dX9_feed_63 (by decide) ?_
            refine lv_icmp_ge (tgt := 73) hx hb dX9_feed_65 (by decide) (fun h6 => ?_) (fun h6 => ?_)
            · replace hf := ite_t h6 hf
              refine lv_iload hx hb dX9_feed_73 (lv_at hl 5 rfl) ?_
              exact w_X9_feed_75 E (f_X9_feed_22 n) ih _ _ _ _ _ _ _ _ _ _ _ hf hW (lv_sub hl [0, 1, 2, 3, 4, 5, 6] rfl)
            · replace hf := ite_f h6 hf
              refine lv_iload hx hb dX9_feed_68 (lv_at hl 4 rfl) ?_
              refine lv_goto (tgt := 75) hx hb dX9_feed_70 (by decide) ?_
              exact w_X9_feed_75 E (f_X9_feed_22 n) ih _ _ _ _ _ _ _ _ _ _ _ hf hW (lv_sub hl [0, 1, 2, 3, 4, 5, 6] rfl)
          · replace hf := ite_f h5 hf
            refine lv_iload_n hx hb dX9_feed_57 rfl (lv_at hl 3 rfl) ?_
            refine lv_goto (tgt := 75) hx hb dX9_feed_58 (by decide) ?_
            exact w_X9_feed_75 E (f_X9_feed_22 n) ih _ _ _ _ _ _ _ _ _ _ _ hf hW (lv_sub hl [0, 1, 2, 3, 4, 5, 6] rfl)
        · replace hf := ite_f h4 hf
          refine lv_iload_n hx hb dX9_feed_46 rfl (lv_at hl 2 rfl) ?_
          refine lv_goto (tgt := 75) hx hb dX9_feed_47 (by decide) ?_
          exact w_X9_feed_75 E (f_X9_feed_22 n) ih _ _ _ _ _ _ _ _ _ _ _ hf hW (lv_sub hl [0, 1, 2, 3, 4, 5, 6] rfl)
      · replace hf := ite_f h3 hf
        refine lv_iload_n hx hb dX9_feed_35 rfl (lv_at hl 1 rfl) ?_
        refine lv_goto (tgt := 75) hx hb dX9_feed_36 (by decide) ?_
        exact w_X9_feed_75 E (f_X9_feed_22 n) ih _ _ _ _ _ _ _ _ _ _ _ hf hW (lv_sub hl [0, 1, 2, 3, 4, 5, 6] rfl)
set_option maxHeartbeats 4000000 in
set_option maxRecDepth 100000 in
theorem c_X9_feed (l : Launch) {X : XT} {B : Nat} {cs : CS} {ms : MS} {o : Nat → Int64} {v1 : Int32} {v2 : Int32} {v3 : Int32} {v4 : Int32} {v5 : Int32} {r : Int32} {S9 : MS} (hf : f_X9_feed ms v1 v2 v3 v4 v5 = some (r, S9)) : Met l yX9_feed (.code yX9_feed cX9_feed 8 (some .int) :: BIG) rm_X9_feed (Pre X B (cs, ms, o) [.ref (X.1 7), .int v1, .int v2, .int v3, .int v4, .int v5]) (QI X B r (cs, S9, o)) 0 0 (Ab B) := by
  refine entry (by decide +kernel) rfl (Nat.le_of_ble_eq_true rfl) (fun p e s m below meth c ls E hW hl => ?_)
  obtain ⟨hx, hb, hml, hown, hts, -⟩ := id E
  replace hl : lv_has ls 8 [(0, .ref (X.1 7)), (1, .int v1), (2, .int v2), (3, .int v3), (4, .int v4), (5, .int v5)] := hl
  unfold f_X9_feed at hf
  refine lv_aload_n hx hb dX9_feed_0 rfl (lv_at hl 0 rfl) ?_
  refine lv_iconst (v := (0 : Int32)) hx hb dX9_feed_1 (by decide) ?_
  refine rp_X9_1 E hW dX9_feed_2 (fun H locs hW => ?_)
  refine lv_aload_n hx hb dX9_feed_5 rfl (lv_at hl 0 rfl) ?_
  refine rg_X9_162 E hW dX9_feed_6 ?_
  refine lv_bipush (v := (20 : Int32)) hx hb dX9_feed_9 (by decide) ?_
  refine lv_iadd hx hb dX9_feed_11 ?_
  refine lv_bipush (v := (100 : Int32)) hx hb dX9_feed_12 (by decide) ?_
  refine lv_icmp_le (tgt := 19) hx hb dX9_feed_14 (by decide) (fun h1 => ?_) (fun h1 => ?_)
  · replace hf := ite_t h1 hf
    refine lv_iconst (v := (0 : Int32)) hx hb dX9_feed_19 (by decide) ?_
    refine lv_istore (lv' := [_, _, _, _, _, _, _]) hx hb dX9_feed_20 hl (by decide) rfl (fun ls hl => ?_)
    exact w_X9_feed_22 E 1000 _ _ _ _ _ _ _ _ _ _ hf hW (lv_sub hl [1, 2, 3, 4, 5, 6, 0] rfl)
  · replace hf := ite_f h1 hf
    refine lv_iconst (v := (-1 : Int32)) hx hb dX9_feed_17 (by decide) ?_
    exact retI E hW (e2M hf) dX9_feed_18
def f_X9_here_0 : Nat → MS → Option (Int32 × MS)
  | 0, _ => none
  | n + 1, ms => if (mi ms 4) ≤ (mi ms 5) then (if (mi ms 4) ≤ (mi ms 5) then (some ((0 : Int32), ms)) else ((ldI (ma ms 30) 100 (mi ms 5)).bind fun q4 => some (q4, ms))) else ((ldI (ma ms 30) 100 (mi ms 5)).bind fun q6 => if q6 = (32 : Int32) then (f_X9_here_0 n (miU ms 5 ((mi ms 5) + (1 : Int32))) ) else (if (mi ms 4) ≤ (mi ms 5) then (some ((0 : Int32), ms)) else ((ldI (ma ms 30) 100 (mi ms 5)).bind fun q10 => some (q10, ms))))
def f_X9_here (ms : MS) : Option (Int32 × MS) := f_X9_here_0 1000 ms 
def rm_X9_here : Room := { frames := 0, cells := 0, slots := 0, locals := 0 }
set_option maxHeartbeats 4000000 in
set_option maxRecDepth 100000 in
theorem w_X9_here_0 {p : Program} {l : Launch} {e : Env} {s : State} {m : MethodId} {args : Array Value} {below : List Frame} {meth : Method} {c : Code} {X : XT} {B : Nat} {cs : CS} {o : Nat → Int64} {r : Int32} {S9 : MS} (E : Ev X B p s m args meth c RX9 cX9_here 1 (some .int)) : ∀ (n : Nat) (ms : MS) (H : Heap) (locs : List Loc) (ls : Array Slot), f_X9_here_0 n ms  = some (r, S9) → Ws X B s.heap H locs (cs, ms, o) → lv_has ls 1 [(0, .ref (X.1 7))] → W p l e rm_X9_here s m args below meth c H locs 0 0 (MQ below (QI X B r (cs, S9, o)) args s 0 0 (Ab B)) (F0 m 0 ls []) := by
  obtain ⟨hx, hb, hml, hown, hts, -⟩ := id E
  intro n
  induction n with
  | zero => intro ms  H locs ls hf; exact absurd hf nofun
  | succ n ih =>
    intro ms  H locs ls hf hW hl
    rw [f_X9_here_0] at hf
    refine lv_aload_n hx hb dX9_here_0 rfl (lv_at hl 0 rfl) ?_
    refine rg_X9_165 E hW dX9_here_1 ?_
    refine lv_aload_n hx hb dX9_here_4 rfl (lv_at hl 0 rfl) ?_
    refine rg_X9_168 E hW dX9_here_5 ?_
    refine lv_icmp_ge (tgt := 38) hx hb dX9_here_8 (by decide) (fun h1 => ?_) (fun h1 => ?_)
    · replace hf := ite_t h1 hf
      refine lv_aload_n hx hb dX9_here_38 rfl (lv_at hl 0 rfl) ?_
      refine rg_X9_165 E hW dX9_here_39 ?_
      refine lv_aload_n hx hb dX9_here_42 rfl (lv_at hl 0 rfl) ?_
      refine rg_X9_168 E hW dX9_here_43 ?_
      refine lv_icmp_ge (tgt := 61) hx hb dX9_here_46 (by decide) (fun h2 => ?_) (fun h2 => ?_)
      · replace hf := ite_t h2 hf
        refine lv_iconst (v := (0 : Int32)) hx hb dX9_here_61 (by decide) ?_
        exact retI E hW (e2M hf) dX9_here_62
      · replace hf := ite_f h2 hf
        refine lv_aload_n hx hb dX9_here_49 rfl (lv_at hl 0 rfl) ?_
        refine rg_X9_24 E hW dX9_here_50 ?_
        refine lv_aload_n hx hb dX9_here_53 rfl (lv_at hl 0 rfl) ?_
        refine rg_X9_165 E hW dX9_here_54 ?_
        obtain ⟨v3, hf⟩ := ldI_e hf
        refine ra_30 E hW v3 dX9_here_57 ?_
        refine lv_goto (tgt := 62) hx hb dX9_here_58 (by decide) ?_
        exact retI E hW (e2M hf) dX9_here_62
    · replace hf := ite_f h1 hf
      refine lv_aload_n hx hb dX9_here_11 rfl (lv_at hl 0 rfl) ?_
      refine rg_X9_24 E hW dX9_here_12 ?_
      refine lv_aload_n hx hb dX9_here_15 rfl (lv_at hl 0 rfl) ?_
      refine rg_X9_165 E hW dX9_here_16 ?_
      obtain ⟨v5, hf⟩ := ldI_e hf
      refine ra_30 E hW v5 dX9_here_19 ?_
      refine lv_bipush (v := (32 : Int32)) hx hb dX9_here_20 (by decide) ?_
      refine lv_icmp_ne (tgt := 38) hx hb dX9_here_22 (by decide) (fun h7 => ?_) (fun h7 => ?_)
      · replace hf := ite_f h7 hf
        refine lv_aload_n hx hb dX9_here_38 rfl (lv_at hl 0 rfl) ?_
        refine rg_X9_165 E hW dX9_here_39 ?_
        refine lv_aload_n hx hb dX9_here_42 rfl (lv_at hl 0 rfl) ?_
        refine rg_X9_168 E hW dX9_here_43 ?_
        refine lv_icmp_ge (tgt := 61) hx hb dX9_here_46 (by decide) (fun h8 => ?_) (fun h8 => ?_)
        · replace hf := ite_t h8 hf
          refine lv_iconst (v := (0 : Int32)) hx hb dX9_here_61 (by decide) ?_
          exact retI E hW (e2M hf) dX9_here_62
        · replace hf := ite_f h8 hf
          refine lv_aload_n hx hb dX9_here_49 rfl (lv_at hl 0 rfl) ?_
          refine rg_X9_24 E hW dX9_here_50 ?_
          refine lv_aload_n hx hb dX9_here_53 rfl (lv_at hl 0 rfl) ?_
          refine rg_X9_165 E hW dX9_here_54 ?_
          obtain ⟨v9, hf⟩ := ldI_e hf
          refine ra_30 E hW v9 dX9_here_57 ?_
          refine lv_goto (tgt := 62) hx hb dX9_here_58 (by decide) ?_
          exact retI E hW (e2M hf) dX9_here_62
      · replace hf := ite_t h7 hf
        refine lv_aload_n hx hb dX9_here_25 rfl (lv_at hl 0 rfl) ?_
        refine lv_dup hx hb dX9_here_26 rfl ?_
        refine rg_X9_165 E hW dX9_here_27 ?_
        refine lv_iconst (v := (1 : Int32)) hx hb dX9_here_30 (by decide) ?_
        refine lv_iadd hx hb dX9_here_31 ?_
        refine rp_X9_165 E hW dX9_here_32 (fun H locs hW => ?_)
        refine lv_goto (tgt := 0) hx hb dX9_here_35 (by decide) ?_
        exact ih _ _ _ _ hf hW (lv_sub hl [0] rfl)
set_option maxHeartbeats 4000000 in
set_option maxRecDepth 100000 in
theorem c_X9_here (l : Launch) {X : XT} {B : Nat} {cs : CS} {ms : MS} {o : Nat → Int64} {r : Int32} {S9 : MS} (hf : f_X9_here ms  = some (r, S9)) : Met l yX9_here (.code yX9_here cX9_here 1 (some .int) :: BIG) rm_X9_here (Pre X B (cs, ms, o) [.ref (X.1 7)]) (QI X B r (cs, S9, o)) 0 0 (Ab B) := by
  refine entry (by decide +kernel) rfl (Nat.le_of_ble_eq_true rfl) (fun p e s m below meth c ls E hW hl => ?_)
  obtain ⟨hx, hb, hml, hown, hts, -⟩ := id E
  replace hl : lv_has ls 1 [(0, .ref (X.1 7))] := hl
  unfold f_X9_here at hf
  exact w_X9_here_0 E 1000 _ _ _ _ hf hW (lv_sub hl [0] rfl)
def f_X9_wrong (ms : MS) : Option (MS) := if (mi ms 6) = (-1 : Int32) then (some (miU ms 6 (mi ms 5))) else (some ms)
def rm_X9_wrong : Room := { frames := 0, cells := 0, slots := 0, locals := 0 }
set_option maxHeartbeats 4000000 in
set_option maxRecDepth 100000 in
theorem c_X9_wrong (l : Launch) {X : XT} {B : Nat} {cs : CS} {ms : MS} {o : Nat → Int64} {S9 : MS} (hf : f_X9_wrong ms  = some S9) : Met l yX9_wrong (.code yX9_wrong cX9_wrong 1 none :: BIG) rm_X9_wrong (Pre X B (cs, ms, o) [.ref (X.1 7)]) (QV X B (cs, S9, o)) 0 0 (Ab B) := by
  refine entry (by decide +kernel) rfl (Nat.le_of_ble_eq_true rfl) (fun p e s m below meth c ls E hW hl => ?_)
  obtain ⟨hx, hb, hml, hown, hts, -⟩ := id E
  replace hl : lv_has ls 1 [(0, .ref (X.1 7))] := hl
  unfold f_X9_wrong at hf
  refine lv_aload_n hx hb dX9_wrong_0 rfl (lv_at hl 0 rfl) ?_
  refine rg_X9_171 E hW dX9_wrong_1 ?_
  refine lv_iconst (v := (-1 : Int32)) hx hb dX9_wrong_4 (by decide) ?_
  refine lv_icmp_ne (tgt := 16) hx hb dX9_wrong_5 (by decide) (fun h1 => ?_) (fun h1 => ?_)
  · replace hf := ite_f h1 hf
    exact retV E hW (e1M hf) dX9_wrong_16
  · replace hf := ite_t h1 hf
    refine lv_aload_n hx hb dX9_wrong_8 rfl (lv_at hl 0 rfl) ?_
    refine lv_aload_n hx hb dX9_wrong_9 rfl (lv_at hl 0 rfl) ?_
    refine rg_X9_165 E hW dX9_wrong_10 ?_
    refine rp_X9_171 E hW dX9_wrong_13 (fun H locs hW => ?_)
    exact retV E hW (e1M hf) dX9_wrong_16
def f_X9_fine (ms : MS) : Option (Int32) := if (mi ms 6) = (-1 : Int32) then (some (1 : Int32)) else (some (0 : Int32))
def rm_X9_fine : Room := { frames := 0, cells := 0, slots := 0, locals := 0 }
set_option maxHeartbeats 4000000 in
set_option maxRecDepth 100000 in
theorem c_X9_fine (l : Launch) {X : XT} {B : Nat} {cs : CS} {ms : MS} {o : Nat → Int64} {r : Int32} (hf : f_X9_fine ms  = some r) : Met l yX9_fine (.code yX9_fine cX9_fine 1 (some .boolean) :: BIG) rm_X9_fine (Pre X B (cs, ms, o) [.ref (X.1 7)]) (QI X B r (cs, ms, o)) 0 0 (Ab B) := by
  refine entry (by decide +kernel) rfl (Nat.le_of_ble_eq_true rfl) (fun p e s m below meth c ls E hW hl => ?_)
  obtain ⟨hx, hb, hml, hown, hts, -⟩ := id E
  replace hl : lv_has ls 1 [(0, .ref (X.1 7))] := hl
  unfold f_X9_fine at hf
  refine lv_aload_n hx hb dX9_fine_0 rfl (lv_at hl 0 rfl) ?_
  refine rg_X9_171 E hW dX9_fine_1 ?_
  refine lv_iconst (v := (-1 : Int32)) hx hb dX9_fine_4 (by decide) ?_
  refine lv_icmp_ne (tgt := 12) hx hb dX9_fine_5 (by decide) (fun h1 => ?_) (fun h1 => ?_)
  · replace hf := ite_f h1 hf
    refine lv_iconst (v := (0 : Int32)) hx hb dX9_fine_12 (by decide) ?_
    exact retZ E hW (Or.inl rfl) ⟨Option.some.inj hf, rfl⟩ dX9_fine_13
  · replace hf := ite_t h1 hf
    refine lv_iconst (v := (1 : Int32)) hx hb dX9_fine_8 (by decide) ?_
    refine lv_goto (tgt := 13) hx hb dX9_fine_9 (by decide) ?_
    exact retZ E hW (Or.inr rfl) ⟨Option.some.inj hf, rfl⟩ dX9_fine_13
def f_X9_emit (ms : MS) (v1 : Int32) (v2 : Int32) (v3 : Int32) : Option (MS) := (ldI (ma ms 31) 31 (mi ms 3)).bind fun q2 => ixr 3200 (((100 : Int32) * (mi ms 3)) + q2) <| ixr 3200 (((100 : Int32) * (mi ms 3)) + q2) <| ixr 3200 (((100 : Int32) * (mi ms 3)) + q2) <| (ldI (ma (maU (maU (maU ms 32 ((((100 : Int32) * (mi ms 3)) + q2)).toNatClampNeg v1) 33 ((((100 : Int32) * (mi ms 3)) + q2)).toNatClampNeg v2) 34 ((((100 : Int32) * (mi ms 3)) + q2)).toNatClampNeg v3) 31) 31 (mi (maU (maU (maU ms 32 ((((100 : Int32) * (mi ms 3)) + q2)).toNatClampNeg v1) 33 ((((100 : Int32) * (mi ms 3)) + q2)).toNatClampNeg v2) 34 ((((100 : Int32) * (mi ms 3)) + q2)).toNatClampNeg v3) 3)).bind fun q7 => ixr 31 (mi (maU (maU (maU ms 32 ((((100 : Int32) * (mi ms 3)) + q2)).toNatClampNeg v1) 33 ((((100 : Int32) * (mi ms 3)) + q2)).toNatClampNeg v2) 34 ((((100 : Int32) * (mi ms 3)) + q2)).toNatClampNeg v3) 3) <| some (maU (maU (maU (maU ms 32 ((((100 : Int32) * (mi ms 3)) + q2)).toNatClampNeg v1) 33 ((((100 : Int32) * (mi ms 3)) + q2)).toNatClampNeg v2) 34 ((((100 : Int32) * (mi ms 3)) + q2)).toNatClampNeg v3) 31 ((mi (maU (maU (maU ms 32 ((((100 : Int32) * (mi ms 3)) + q2)).toNatClampNeg v1) 33 ((((100 : Int32) * (mi ms 3)) + q2)).toNatClampNeg v2) 34 ((((100 : Int32) * (mi ms 3)) + q2)).toNatClampNeg v3) 3)).toNatClampNeg (q7 + (1 : Int32)))
def rm_X9_emit : Room := { frames := 0, cells := 0, slots := 0, locals := 0 }
set_option maxHeartbeats 4000000 in
set_option maxRecDepth 100000 in
theorem c_X9_emit (l : Launch) {X : XT} {B : Nat} {cs : CS} {ms : MS} {o : Nat → Int64} {v1 : Int32} {v2 : Int32} {v3 : Int32} {S9 : MS} (hf : f_X9_emit ms v1 v2 v3 = some S9) : Met l yX9_emit (.code yX9_emit cX9_emit 5 none :: BIG) rm_X9_emit (Pre X B (cs, ms, o) [.ref (X.1 7), .int v1, .int v2, .int v3]) (QV X B (cs, S9, o)) 0 0 (Ab B) := by
  refine entry (by decide +kernel) rfl (Nat.le_of_ble_eq_true rfl) (fun p e s m below meth c ls E hW hl => ?_)
  obtain ⟨hx, hb, hml, hown, hts, -⟩ := id E
  replace hl : lv_has ls 5 [(0, .ref (X.1 7)), (1, .int v1), (2, .int v2), (3, .int v3)] := hl
  unfold f_X9_emit at hf
  refine lv_bipush (v := (100 : Int32)) hx hb dX9_emit_0 (by decide) ?_
  refine lv_aload_n hx hb dX9_emit_2 rfl (lv_at hl 0 rfl) ?_
  refine rg_X9_174 E hW dX9_emit_3 ?_
  refine lv_imul hx hb dX9_emit_6 ?_
  refine lv_aload_n hx hb dX9_emit_7 rfl (lv_at hl 0 rfl) ?_
  refine rg_X9_27 E hW dX9_emit_8 ?_
  refine lv_aload_n hx hb dX9_emit_11 rfl (lv_at hl 0 rfl) ?_
  refine rg_X9_174 E hW dX9_emit_12 ?_
  obtain ⟨v1, hf⟩ := ldI_e hf
  refine ra_31 E hW v1 dX9_emit_15 ?_
  refine lv_iadd hx hb dX9_emit_16 ?_
  refine lv_istore (lv' := [_, _, _, _, _]) hx hb dX9_emit_17 hl (by decide) rfl (fun ls hl => ?_)
  refine lv_aload_n hx hb dX9_emit_19 rfl (lv_at hl 1 rfl) ?_
  refine rg_X9_30 E hW dX9_emit_20 ?_
  refine lv_iload hx hb dX9_emit_23 (lv_at hl 0 rfl) ?_
  refine lv_iload_n hx hb dX9_emit_25 rfl (lv_at hl 2 rfl) ?_
  obtain ⟨v3, hf⟩ := ixr_e hf
  refine rs_32 E hW v3 dX9_emit_26 (fun H locs hW => ?_)
  refine lv_aload_n hx hb dX9_emit_27 rfl (lv_at hl 1 rfl) ?_
  refine rg_X9_33 E hW dX9_emit_28 ?_
  refine lv_iload hx hb dX9_emit_31 (lv_at hl 0 rfl) ?_
  refine lv_iload_n hx hb dX9_emit_33 rfl (lv_at hl 3 rfl) ?_
  obtain ⟨v4, hf⟩ := ixr_e hf
  refine rs_33 E hW v4 dX9_emit_34 (fun H locs hW => ?_)
  refine lv_aload_n hx hb dX9_emit_35 rfl (lv_at hl 1 rfl) ?_
  refine rg_X9_36 E hW dX9_emit_36 ?_
  refine lv_iload hx hb dX9_emit_39 (lv_at hl 0 rfl) ?_
  refine lv_iload_n hx hb dX9_emit_41 rfl (lv_at hl 4 rfl) ?_
  obtain ⟨v5, hf⟩ := ixr_e hf
  refine rs_34 E hW v5 dX9_emit_42 (fun H locs hW => ?_)
  refine lv_aload_n hx hb dX9_emit_43 rfl (lv_at hl 1 rfl) ?_
  refine rg_X9_27 E hW dX9_emit_44 ?_
  refine lv_aload_n hx hb dX9_emit_47 rfl (lv_at hl 1 rfl) ?_
  refine rg_X9_174 E hW dX9_emit_48 ?_
  refine lv_dup2_11 hx hb dX9_emit_51 rfl rfl ?_
  obtain ⟨v6, hf⟩ := ldI_e hf
  refine ra_31 E hW v6 dX9_emit_52 ?_
  refine lv_iconst (v := (1 : Int32)) hx hb dX9_emit_53 (by decide) ?_
  refine lv_iadd hx hb dX9_emit_54 ?_
  obtain ⟨v8, hf⟩ := ixr_e hf
  refine rs_31 E hW v8 dX9_emit_55 (fun H locs hW => ?_)
  exact retV E hW (e1M hf) dX9_emit_56
def f_X9_isDigit (ms : MS) (v0 : Int32) : Option (Int32) := if v0 < (48 : Int32) then (some (0 : Int32)) else (if (57 : Int32) < v0 then (some (0 : Int32)) else (some (1 : Int32)))
def rm_X9_isDigit : Room := { frames := 0, cells := 0, slots := 0, locals := 0 }
set_option maxHeartbeats 4000000 in
set_option maxRecDepth 100000 in
theorem c_X9_isDigit (l : Launch) {X : XT} {B : Nat} {cs : CS} {ms : MS} {o : Nat → Int64} {v0 : Int32} {r : Int32} (hf : f_X9_isDigit ms v0 = some r) : Met l yX9_isDigit (.code yX9_isDigit cX9_isDigit 1 (some .boolean) :: BIG) rm_X9_isDigit (Pre X B (cs, ms, o) [.int v0]) (QI X B r (cs, ms, o)) 0 0 (Ab B) := by
  refine entry (by decide +kernel) rfl (Nat.le_of_ble_eq_true rfl) (fun p e s m below meth c ls E hW hl => ?_)
  obtain ⟨hx, hb, hml, hown, hts, -⟩ := id E
  replace hl : lv_has ls 1 [(0, .int v0)] := hl
  unfold f_X9_isDigit at hf
  refine lv_iload_n hx hb dX9_isDigit_0 rfl (lv_at hl 0 rfl) ?_
  refine lv_bipush (v := (48 : Int32)) hx hb dX9_isDigit_1 (by decide) ?_
  refine lv_icmp_lt (tgt := 16) hx hb dX9_isDigit_3 (by decide) (fun h1 => ?_) (fun h1 => ?_)
  · replace hf := ite_t h1 hf
    refine lv_iconst (v := (0 : Int32)) hx hb dX9_isDigit_16 (by decide) ?_
    exact retZ E hW (Or.inl rfl) ⟨Option.some.inj hf, rfl⟩ dX9_isDigit_17
  · replace hf := ite_f h1 hf
    refine lv_iload_n hx hb dX9_isDigit_6 rfl (lv_at hl 0 rfl) ?_
    refine lv_bipush (v := (57 : Int32)) hx hb dX9_isDigit_7 (by decide) ?_
    refine lv_icmp_gt (tgt := 16) hx hb dX9_isDigit_9 (by decide) (fun h2 => ?_) (fun h2 => ?_)
    · replace hf := ite_t h2 hf
      refine lv_iconst (v := (0 : Int32)) hx hb dX9_isDigit_16 (by decide) ?_
      exact retZ E hW (Or.inl rfl) ⟨Option.some.inj hf, rfl⟩ dX9_isDigit_17
    · replace hf := ite_f h2 hf
      refine lv_iconst (v := (1 : Int32)) hx hb dX9_isDigit_12 (by decide) ?_
      refine lv_goto (tgt := 17) hx hb dX9_isDigit_13 (by decide) ?_
      exact retZ E hW (Or.inr rfl) ⟨Option.some.inj hf, rfl⟩ dX9_isDigit_17
def f_X9_digits_18 : Nat → MS → Int32 → Int32 → Option (Int32 × MS)
  | 0, _, _, _ => none
  | n + 1, ms, v1, v2 => (f_X9_fine ms ).bind fun r5 => if r5 = 0 then (some (v1, ms)) else (if (mi ms 4) ≤ (mi ms 5) then (some (v1, ms)) else ((ldI (ma ms 30) 100 (mi ms 5)).bind fun q9 => (f_X9_isDigit ms q9).bind fun r10 => if r10 = 0 then (some (v1, ms)) else (if v2 = (4 : Int32) then ((f_X9_wrong ms ).bind fun ms15 => f_X9_digits_18 n ms15 v1 v2) else ((ldI (ma ms 30) 100 (mi ms 5)).bind fun q14 => f_X9_digits_18 n (miU ms 5 ((mi ms 5) + (1 : Int32))) ((((10 : Int32) * v1) + q14) - (48 : Int32)) (v2 + (1 : Int32))))))
def f_X9_digits (ms : MS) : Option (Int32 × MS) := b2 (f_X9_here ms ) fun r2 ms1 => (f_X9_isDigit ms1 r2).bind fun r3 => if r3 = 0 then ((f_X9_wrong ms1 ).bind fun ms16 => f_X9_digits_18 1000 ms16 (0 : Int32) (0 : Int32)) else (f_X9_digits_18 1000 ms1 (0 : Int32) (0 : Int32))
def rm_X9_digits : Room := { frames := 1, cells := 0, slots := 0, locals := 20 }
set_option maxHeartbeats 4000000 in
set_option maxRecDepth 100000 in
theorem w_X9_digits_18 {p : Program} {l : Launch} {e : Env} {s : State} {m : MethodId} {args : Array Value} {below : List Frame} {meth : Method} {c : Code} {X : XT} {B : Nat} {cs : CS} {o : Nat → Int64} {r : Int32} {S9 : MS} (E : Ev X B p s m args meth c RX9 cX9_digits 3 (some .int)) : ∀ (n : Nat) (ms : MS) (v1 : Int32) (v2 : Int32) (H : Heap) (locs : List Loc) (ls : Array Slot), f_X9_digits_18 n ms v1 v2 = some (r, S9) → Ws X B s.heap H locs (cs, ms, o) → lv_has ls 3 [(0, .ref (X.1 7)), (1, .int v1), (2, .int v2)] → W p l e rm_X9_digits s m args below meth c H locs 0 0 (MQ below (QI X B r (cs, S9, o)) args s 0 0 (Ab B)) (F0 m 18 ls []) := by
  obtain ⟨hx, hb, hml, hown, hts, -⟩ := id E
  intro n
  induction n with
  | zero => intro ms v1 v2 H locs ls hf; exact absurd hf nofun
  | succ n ih =>
    intro ms v1 v2 H locs ls hf hW hl
    rw [f_X9_digits_18] at hf
    refine lv_aload_n hx hb dX9_digits_18 rfl (lv_at hl 0 rfl) ?_
    obtain ⟨r5, hc, hf⟩ := b1_e hf
    refine callVI (As := []) (rest := []) E hW (c_X9_fine l hc) lk_X9_188 rcv_X9 (Nat.le_of_ble_eq_true rfl) (Nat.le_of_ble_eq_true rfl) (Nat.le_of_ble_eq_true rfl) (Nat.le_of_ble_eq_true rfl) hl.1 (Nat.le_of_ble_eq_true rfl) dX9_digits_19 (fun H locs hW => ?_)
    refine lv_if_eq (tgt := 97) hx hb dX9_digits_22 (by decide) (fun h6 => ?_) (fun h6 => ?_)
    · replace hf := ite_t h6 hf
      refine lv_iload_n hx hb dX9_digits_97 rfl (lv_at hl 1 rfl) ?_
      exact retI E hW (e2M hf) dX9_digits_98
    · replace hf := ite_f h6 hf
      refine lv_aload_n hx hb dX9_digits_25 rfl (lv_at hl 0 rfl) ?_
      refine rg_X9_165 E hW dX9_digits_26 ?_
      refine lv_aload_n hx hb dX9_digits_29 rfl (lv_at hl 0 rfl) ?_
      refine rg_X9_168 E hW dX9_digits_30 ?_
      refine lv_icmp_ge (tgt := 97) hx hb dX9_digits_33 (by decide) (fun h7 => ?_) (fun h7 => ?_)
      · replace hf := ite_t h7 hf
        refine lv_iload_n hx hb dX9_digits_97 rfl (lv_at hl 1 rfl) ?_
        exact retI E hW (e2M hf) dX9_digits_98
      · replace hf := ite_f h7 hf
        refine lv_aload_n hx hb dX9_digits_36 rfl (lv_at hl 0 rfl) ?_
        refine rg_X9_24 E hW dX9_digits_37 ?_
        refine lv_aload_n hx hb dX9_digits_40 rfl (lv_at hl 0 rfl) ?_
        refine rg_X9_165 E hW dX9_digits_41 ?_
        obtain ⟨v8, hf⟩ := ldI_e hf
        refine ra_30 E hW v8 dX9_digits_44 ?_
        obtain ⟨r10, hc, hf⟩ := b1_e hf
        refine callSI (As := [.int _]) (rest := []) E hW (c_X9_isDigit l hc) lk_X9_181 (Nat.le_of_ble_eq_true rfl) (Nat.le_of_ble_eq_true rfl) (Nat.le_of_ble_eq_true rfl) (Nat.le_of_ble_eq_true rfl) hl.1 (Nat.le_of_ble_eq_true rfl) dX9_digits_45 (fun H locs hW => ?_)
        refine lv_if_eq (tgt := 97) hx hb dX9_digits_48 (by decide) (fun h11 => ?_) (fun h11 => ?_)
        · replace hf := ite_t h11 hf
          refine lv_iload_n hx hb dX9_digits_97 rfl (lv_at hl 1 rfl) ?_
          exact retI E hW (e2M hf) dX9_digits_98
        · replace hf := ite_f h11 hf
          refine lv_iload_n hx hb dX9_digits_51 rfl (lv_at hl 2 rfl) ?_
          refine lv_iconst (v := (4 : Int32)) hx hb dX9_digits_52 (by decide) ?_
          refine lv_icmp_ne (tgt := 63) hx hb dX9_digits_53 (by decide) (fun h12 => ?_) (fun h12 => ?_)
          · replace hf := ite_f h12 hf
            refine lv_bipush (v := (10 : Int32)) hx hb dX9_digits_63 (by decide) ?_
            refine lv_iload_n hx hb dX9_digits_65 rfl (lv_at hl 1 rfl) ?_
            refine lv_imul hx hb dX9_digits_66 ?_
            refine lv_aload_n hx hb dX9_digits_67 rfl (lv_at hl 0 rfl) ?_
            refine rg_X9_24 E hW dX9_digits_68 ?_
            refine lv_aload_n hx hb dX9_digits_71 rfl (lv_at hl 0 rfl) ?_
            refine rg_X9_165 E hW dX9_digits_72 ?_
            obtain ⟨v13, hf⟩ := ldI_e hf
            refine ra_30 E hW v13 dX9_digits_75 ?_
            refine lv_iadd hx hb dX9_digits_76 ?_
            refine lv_bipush (v := (48 : Int32)) hx hb dX9_digits_77 (by decide) ?_
            refine lv_isub hx hb dX9_digits_79 ?_
            refine lv_istore_n (lv' := [_, _, _]) hx hb dX9_digits_80 rfl hl (by decide) rfl (fun ls hl => ?_)
            refine lv_iinc (v := _ + (1 : Int32)) (lv' := [_, _, _]) hx hb dX9_digits_81 hl (k := 2) rfl rfl (by decide) rfl (fun ls hl => ?_)
            refine lv_aload_n hx hb dX9_digits_84 rfl (lv_at hl 2 rfl) ?_
            refine lv_dup hx hb dX9_digits_85 rfl ?_
            refine rg_X9_165 E hW dX9_digits_86 ?_
            refine lv_iconst (v := (1 : Int32)) hx hb dX9_digits_89 (by decide) ?_
            refine lv_iadd hx hb dX9_digits_90 ?_
            refine rp_X9_165 E hW dX9_digits_91 (fun H locs hW => ?_)
            refine lv_goto (tgt := 18) hx hb dX9_digits_94 (by decide) ?_
            exact ih _ _ _ _ _ _ hf hW (lv_sub hl [2, 1, 0] rfl)
          · replace hf := ite_t h12 hf
            refine lv_aload_n hx hb dX9_digits_56 rfl (lv_at hl 0 rfl) ?_
            obtain ⟨ms15, hc, hf⟩ := b1_e hf
            refine callVV (As := []) (rest := []) E hW (c_X9_wrong l hc) lk_X9_185 rcv_X9 (Nat.le_of_ble_eq_true rfl) (Nat.le_of_ble_eq_true rfl) (Nat.le_of_ble_eq_true rfl) (Nat.le_of_ble_eq_true rfl) hl.1 (Nat.le_of_ble_eq_true rfl) dX9_digits_57 (fun H locs hW => ?_)
            refine lv_goto (tgt := 18) hx hb dX9_digits_60 (by decide) ?_
            exact ih _ _ _ _ _ _ hf hW (lv_sub hl [0, 1, 2] rfl)
set_option maxHeartbeats 4000000 in
set_option maxRecDepth 100000 in
theorem c_X9_digits (l : Launch) {X : XT} {B : Nat} {cs : CS} {ms : MS} {o : Nat → Int64} {r : Int32} {S9 : MS} (hf : f_X9_digits ms  = some (r, S9)) : Met l yX9_digits (.code yX9_digits cX9_digits 3 (some .int) :: BIG) rm_X9_digits (Pre X B (cs, ms, o) [.ref (X.1 7)]) (QI X B r (cs, S9, o)) 0 0 (Ab B) := by
  refine entry (by decide +kernel) rfl (Nat.le_of_ble_eq_true rfl) (fun p e s m below meth c ls E hW hl => ?_)
  obtain ⟨hx, hb, hml, hown, hts, -⟩ := id E
  replace hl : lv_has ls 3 [(0, .ref (X.1 7))] := hl
  unfold f_X9_digits at hf
  refine lv_iconst (v := (0 : Int32)) hx hb dX9_digits_0 (by decide) ?_
  refine lv_istore_n (lv' := [_, _]) hx hb dX9_digits_1 rfl hl (by decide) rfl (fun ls hl => ?_)
  refine lv_iconst (v := (0 : Int32)) hx hb dX9_digits_2 (by decide) ?_
  refine lv_istore_n (lv' := [_, _, _]) hx hb dX9_digits_3 rfl hl (by decide) rfl (fun ls hl => ?_)
  refine lv_aload_n hx hb dX9_digits_4 rfl (lv_at hl 2 rfl) ?_
  obtain ⟨r2, ms1, hc, hf⟩ := b2_e hf
  refine callVI (As := []) (rest := []) E hW (c_X9_here l hc) lk_X9_177 rcv_X9 (Nat.le_of_ble_eq_true rfl) (Nat.le_of_ble_eq_true rfl) (Nat.le_of_ble_eq_true rfl) (Nat.le_of_ble_eq_true rfl) hl.1 (Nat.le_of_ble_eq_true rfl) dX9_digits_5 (fun H locs hW => ?_)
  obtain ⟨r3, hc, hf⟩ := b1_e hf
  refine callSI (As := [.int _]) (rest := []) E hW (c_X9_isDigit l hc) lk_X9_181 (Nat.le_of_ble_eq_true rfl) (Nat.le_of_ble_eq_true rfl) (Nat.le_of_ble_eq_true rfl) (Nat.le_of_ble_eq_true rfl) hl.1 (Nat.le_of_ble_eq_true rfl) dX9_digits_8 (fun H locs hW => ?_)
  refine lv_if_ne (tgt := 18) hx hb dX9_digits_11 (by decide) (fun h4 => ?_) (fun h4 => ?_)
  · replace hf := ite_f h4 hf
    exact w_X9_digits_18 E 1000 _ _ _ _ _ _ hf hW (lv_sub hl [2, 1, 0] rfl)
  · replace hf := ite_t h4 hf
    refine lv_aload_n hx hb dX9_digits_14 rfl (lv_at hl 2 rfl) ?_
    obtain ⟨ms16, hc, hf⟩ := b1_e hf
    refine callVV (As := []) (rest := []) E hW (c_X9_wrong l hc) lk_X9_185 rcv_X9 (Nat.le_of_ble_eq_true rfl) (Nat.le_of_ble_eq_true rfl) (Nat.le_of_ble_eq_true rfl) (Nat.le_of_ble_eq_true rfl) hl.1 (Nat.le_of_ble_eq_true rfl) dX9_digits_15 (fun H locs hW => ?_)
    exact w_X9_digits_18 E 1000 _ _ _ _ _ _ hf hW (lv_sub hl [2, 1, 0] rfl)
def f_X9_operand_62 (ms : MS) (s1 : Int32) (s2 : Int32) : Option (Int32 × MS) := ixr 110 s1 <| some ((0 : Int32), (miU (miU (maU ms 35 (s1).toNatClampNeg s2) 7 ((mi (maU ms 35 (s1).toNatClampNeg s2) 7) + (1 : Int32))) 5 ((mi (miU (maU ms 35 (s1).toNatClampNeg s2) 7 ((mi (maU ms 35 (s1).toNatClampNeg s2) 7) + (1 : Int32))) 5) + (1 : Int32))))
def f_X9_operand_17 (ms : MS) (v1 : Int32) : Option (Int32 × MS) := if (mi ms 8) = (20 : Int32) then ((f_X9_wrong ms ).bind fun ms7 => some ((0 : Int32), ms7)) else (if v1 = (33 : Int32) then (f_X9_operand_62 (miU ms 8 ((mi ms 8) + (1 : Int32))) (mi (miU ms 8 ((mi ms 8) + (1 : Int32))) 7) (3 : Int32)) else (f_X9_operand_62 (miU ms 8 ((mi ms 8) + (1 : Int32))) (mi (miU ms 8 ((mi ms 8) + (1 : Int32))) 7) (6 : Int32)))
def f_X9_operand_268 (ms : MS) : Option (Int32 × MS) := (f_X9_fine (miU ms 5 ((mi ms 5) + (1 : Int32))) ).bind fun r21 => gd (r21 = 0 ∨ r21 = 1) <| some (r21, (miU ms 5 ((mi ms 5) + (1 : Int32))))
def f_X9_operand_251 (ms : MS) (v2 : Int32) : Option (Int32 × MS) := (f_X9_fine ms ).bind fun r19 => if r19 = 0 then (f_X9_operand_268 ms ) else ((f_X9_emit ms (2 : Int32) (v2 - (97 : Int32)) (0 : Int32)).bind fun ms23 => f_X9_operand_268 ms23 )
def f_X9_operand_247 (ms : MS) (v2 : Int32) : Option (Int32 × MS) := (f_X9_wrong ms ).bind fun ms18 => f_X9_operand_251 ms18 v2
def f_X9_operand_196 (ms : MS) (v2 : Int32) (s0 : Int32) : Option (Int32 × MS) := (f_X9_fine ms ).bind fun r33 => if r33 = 0 then ((f_X9_fine ms ).bind fun r35 => gd (r35 = 0 ∨ r35 = 1) <| some (r35, ms)) else ((f_X9_emit ms (1 : Int32) v2 s0).bind fun ms37 => (f_X9_fine ms37 ).bind fun r38 => gd (r38 = 0 ∨ r38 = 1) <| some (r38, ms37))
def f_X9_operand_181 (ms : MS) (v2 : Int32) : Option (Int32 × MS) := (f_X9_fine ms ).bind fun r31 => if r31 = 0 then (f_X9_operand_196 ms v2 (0 : Int32)) else (b2 (f_X9_digits ms ) fun r41 ms40 => f_X9_operand_196 ms40 v2 r41)
def f_X9_operand_164 (ms : MS) (v2 : Int32) : Option (Int32 × MS) := (f_X9_fine ms ).bind fun r29 => if r29 = 0 then (f_X9_operand_181 ms v2) else (f_X9_operand_181 (miU ms 5 ((mi ms 5) + (1 : Int32))) v2)
def f_X9_operand (ms : MS) : Option (Int32 × MS) := b2 (f_X9_here ms ) fun r2 ms1 => if r2 = (33 : Int32) then (f_X9_operand_17 ms1 r2) else (if r2 = (40 : Int32) then (f_X9_operand_17 ms1 r2) else (if r2 = (77 : Int32) then (b2 (f_X9_digits (miU ms1 5 ((mi ms1 5) + (1 : Int32))) ) fun r47 ms46 => (f_X9_fine ms46 ).bind fun r48 => if r48 = 0 then ((f_X9_fine ms46 ).bind fun r50 => gd (r50 = 0 ∨ r50 = 1) <| some (r50, ms46)) else ((f_X9_emit ms46 (0 : Int32) r47 (0 : Int32)).bind fun ms52 => (f_X9_fine ms52 ).bind fun r53 => gd (r53 = 0 ∨ r53 = 1) <| some (r53, ms52))) else (if r2 = (89 : Int32) then (b2 (f_X9_digits (miU ms1 5 ((mi ms1 5) + (1 : Int32))) ) fun r26 ms25 => (f_X9_fine ms25 ).bind fun r27 => if r27 = 0 then (f_X9_operand_164 ms25 r26) else (b2 (f_X9_here ms25 ) fun r43 ms42 => if r43 = (45 : Int32) then (f_X9_operand_164 ms42 r26) else ((f_X9_wrong ms42 ).bind fun ms45 => f_X9_operand_164 ms45 r26))) else (if r2 = (75 : Int32) then (b2 (f_X9_here (miU ms1 5 ((mi ms1 5) + (1 : Int32))) ) fun r16 ms15 => if r16 < (97 : Int32) then (f_X9_operand_247 ms15 r16) else (if r16 ≤ (104 : Int32) then (f_X9_operand_251 ms15 r16) else (f_X9_operand_247 ms15 r16))) else ((f_X9_wrong ms1 ).bind fun ms12 => (f_X9_fine ms12 ).bind fun r13 => gd (r13 = 0 ∨ r13 = 1) <| some (r13, ms12))))))
def rm_X9_operand : Room := { frames := 2, cells := 0, slots := 0, locals := 42 }
set_option maxHeartbeats 4000000 in
set_option maxRecDepth 100000 in
theorem w_X9_operand_62 {p : Program} {l : Launch} {e : Env} {s : State} {m : MethodId} {args : Array Value} {below : List Frame} {meth : Method} {c : Code} {X : XT} {B : Nat} {cs : CS} {o : Nat → Int64} {r : Int32} {S9 : MS} (E : Ev X B p s m args meth c RX9 cX9_operand 4 (some .boolean)) : ∀ (ms : MS) (s1 : Int32) (s2 : Int32) (H : Heap) (locs : List Loc) (ls : Array Slot), f_X9_operand_62 ms s1 s2 = some (r, S9) → Ws X B s.heap H locs (cs, ms, o) → lv_has ls 4 [(0, .ref (X.1 7))] → W p l e rm_X9_operand s m args below meth c H locs 0 0 (MQ below (QI X B r (cs, S9, o)) args s 0 0 (Ab B)) (F0 m 62 ls [.int s2, .int s1, .ref (X.1 35)]) := by
  obtain ⟨hx, hb, hml, hown, hts, -⟩ := id E
  intro ms s1 s2 H locs ls hf hW hl
  unfold f_X9_operand_62 at hf
  obtain ⟨v6, hf⟩ := ixr_e hf
  refine rs_35 E hW v6 dX9_operand_62 (fun H locs hW => ?_)
  refine lv_aload_n hx hb dX9_operand_63 rfl (lv_at hl 0 rfl) ?_
  refine lv_dup hx hb dX9_operand_64 rfl ?_
  refine rg_X9_195 E hW dX9_operand_65 ?_
  refine lv_iconst (v := (1 : Int32)) hx hb dX9_operand_68 (by decide) ?_
  refine lv_iadd hx hb dX9_operand_69 ?_
  refine rp_X9_195 E hW dX9_operand_70 (fun H locs hW => ?_)
  refine lv_aload_n hx hb dX9_operand_73 rfl (lv_at hl 0 rfl) ?_
  refine lv_dup hx hb dX9_operand_74 rfl ?_
  refine rg_X9_165 E hW dX9_operand_75 ?_
  refine lv_iconst (v := (1 : Int32)) hx hb dX9_operand_78 (by decide) ?_
  refine lv_iadd hx hb dX9_operand_79 ?_
  refine rp_X9_165 E hW dX9_operand_80 (fun H locs hW => ?_)
  refine lv_iconst (v := (0 : Int32)) hx hb dX9_operand_83 (by decide) ?_
  exact retZ E hW (Or.inl rfl) (e2M hf) dX9_operand_84
set_option maxHeartbeats 4000000 in
set_option maxRecDepth 100000 in
theorem w_X9_operand_17 {p : Program} {l : Launch} {e : Env} {s : State} {m : MethodId} {args : Array Value} {below : List Frame} {meth : Method} {c : Code} {X : XT} {B : Nat} {cs : CS} {o : Nat → Int64} {r : Int32} {S9 : MS} (E : Ev X B p s m args meth c RX9 cX9_operand 4 (some .boolean)) : ∀ (ms : MS) (v1 : Int32) (H : Heap) (locs : List Loc) (ls : Array Slot), f_X9_operand_17 ms v1 = some (r, S9) → Ws X B s.heap H locs (cs, ms, o) → lv_has ls 4 [(0, .ref (X.1 7)), (1, .int v1)] → W p l e rm_X9_operand s m args below meth c H locs 0 0 (MQ below (QI X B r (cs, S9, o)) args s 0 0 (Ab B)) (F0 m 17 ls []) := by
  obtain ⟨hx, hb, hml, hown, hts, -⟩ := id E
  intro ms v1 H locs ls hf hW hl
  unfold f_X9_operand_17 at hf
  refine lv_aload_n hx hb dX9_operand_17 rfl (lv_at hl 0 rfl) ?_
  refine rg_X9_192 E hW dX9_operand_18 ?_
  refine lv_bipush (v := (20 : Int32)) hx hb dX9_operand_21 (by decide) ?_
  refine lv_icmp_ne (tgt := 32) hx hb dX9_operand_23 (by decide) (fun h4 => ?_) (fun h4 => ?_)
  · replace hf := ite_f h4 hf
    refine lv_aload_n hx hb dX9_operand_32 rfl (lv_at hl 0 rfl) ?_
    refine lv_dup hx hb dX9_operand_33 rfl ?_
    refine rg_X9_192 E hW dX9_operand_34 ?_
    refine lv_iconst (v := (1 : Int32)) hx hb dX9_operand_37 (by decide) ?_
    refine lv_iadd hx hb dX9_operand_38 ?_
    refine rp_X9_192 E hW dX9_operand_39 (fun H locs hW => ?_)
    refine lv_aload_n hx hb dX9_operand_42 rfl (lv_at hl 0 rfl) ?_
    refine rg_X9_39 E hW dX9_operand_43 ?_
    refine lv_aload_n hx hb dX9_operand_46 rfl (lv_at hl 0 rfl) ?_
    refine rg_X9_195 E hW dX9_operand_47 ?_
    refine lv_iload_n hx hb dX9_operand_50 rfl (lv_at hl 1 rfl) ?_
    refine lv_bipush (v := (33 : Int32)) hx hb dX9_operand_51 (by decide) ?_
    refine lv_icmp_ne (tgt := 60) hx hb dX9_operand_53 (by decide) (fun h5 => ?_) (fun h5 => ?_)
    · replace hf := ite_f h5 hf
      refine lv_bipush (v := (6 : Int32)) hx hb dX9_operand_60 (by decide) ?_
      exact w_X9_operand_62 E _ _ _ _ _ _ hf hW (lv_sub hl [0] rfl)
    · replace hf := ite_t h5 hf
      refine lv_iconst (v := (3 : Int32)) hx hb dX9_operand_56 (by decide) ?_
      refine lv_goto (tgt := 62) hx hb dX9_operand_57 (by decide) ?_
      exact w_X9_operand_62 E _ _ _ _ _ _ hf hW (lv_sub hl [0] rfl)
  · replace hf := ite_t h4 hf
    refine lv_aload_n hx hb dX9_operand_26 rfl (lv_at hl 0 rfl) ?_
    obtain ⟨ms7, hc, hf⟩ := b1_e hf
    refine callVV (As := []) (rest := []) E hW (c_X9_wrong l hc) lk_X9_185 rcv_X9 (Nat.le_of_ble_eq_true rfl) (Nat.le_of_ble_eq_true rfl) (Nat.le_of_ble_eq_true rfl) (Nat.le_of_ble_eq_true rfl) hl.1 (Nat.le_of_ble_eq_true rfl) dX9_operand_27 (fun H locs hW => ?_)
    refine lv_iconst (v := (0 : Int32)) hx hb dX9_operand_30 (by decide) ?_
    exact retZ E hW (Or.inl rfl) (e2M hf) dX9_operand_31
set_option maxHeartbeats 4000000 in
set_option maxRecDepth 100000 in
theorem w_X9_operand_268 {p : Program} {l : Launch} {e : Env} {s : State} {m : MethodId} {args : Array Value} {below : List Frame} {meth : Method} {c : Code} {X : XT} {B : Nat} {cs : CS} {o : Nat → Int64} {r : Int32} {S9 : MS} (E : Ev X B p s m args meth c RX9 cX9_operand 4 (some .boolean)) : ∀ (ms : MS) (H : Heap) (locs : List Loc) (ls : Array Slot), f_X9_operand_268 ms  = some (r, S9) → Ws X B s.heap H locs (cs, ms, o) → lv_has ls 4 [(0, .ref (X.1 7))] → W p l e rm_X9_operand s m args below meth c H locs 0 0 (MQ below (QI X B r (cs, S9, o)) args s 0 0 (Ab B)) (F0 m 268 ls []) := by
  obtain ⟨hx, hb, hml, hown, hts, -⟩ := id E
  intro ms  H locs ls hf hW hl
  unfold f_X9_operand_268 at hf
  refine lv_aload_n hx hb dX9_operand_268 rfl (lv_at hl 0 rfl) ?_
  refine lv_dup hx hb dX9_operand_269 rfl ?_
  refine rg_X9_165 E hW dX9_operand_270 ?_
  refine lv_iconst (v := (1 : Int32)) hx hb dX9_operand_273 (by decide) ?_
  refine lv_iadd hx hb dX9_operand_274 ?_
  refine rp_X9_165 E hW dX9_operand_275 (fun H locs hW => ?_)
  refine lv_goto (tgt := 285) hx hb dX9_operand_278 (by decide) ?_
  refine lv_aload_n hx hb dX9_operand_285 rfl (lv_at hl 0 rfl) ?_
  obtain ⟨r21, hc, hf⟩ := b1_e hf
  refine callVI (As := []) (rest := []) E hW (c_X9_fine l hc) lk_X9_188 rcv_X9 (Nat.le_of_ble_eq_true rfl) (Nat.le_of_ble_eq_true rfl) (Nat.le_of_ble_eq_true rfl) (Nat.le_of_ble_eq_true rfl) hl.1 (Nat.le_of_ble_eq_true rfl) dX9_operand_286 (fun H locs hW => ?_)
  obtain ⟨v22, hf⟩ := gd_e hf
  exact retZ E hW v22 (e2M hf) dX9_operand_289
set_option maxHeartbeats 4000000 in
set_option maxRecDepth 100000 in
theorem w_X9_operand_251 {p : Program} {l : Launch} {e : Env} {s : State} {m : MethodId} {args : Array Value} {below : List Frame} {meth : Method} {c : Code} {X : XT} {B : Nat} {cs : CS} {o : Nat → Int64} {r : Int32} {S9 : MS} (E : Ev X B p s m args meth c RX9 cX9_operand 4 (some .boolean)) : ∀ (ms : MS) (v2 : Int32) (H : Heap) (locs : List Loc) (ls : Array Slot), f_X9_operand_251 ms v2 = some (r, S9) → Ws X B s.heap H locs (cs, ms, o) → lv_has ls 4 [(0, .ref (X.1 7)), (2, .int v2)] → W p l e rm_X9_operand s m args below meth c H locs 0 0 (MQ below (QI X B r (cs, S9, o)) args s 0 0 (Ab B)) (F0 m 251 ls []) := by
  obtain ⟨hx, hb, hml, hown, hts, -⟩ := id E
  intro ms v2 H locs ls hf hW hl
  unfold f_X9_operand_251 at hf
  refine lv_aload_n hx hb dX9_operand_251 rfl (lv_at hl 0 rfl) ?_
  obtain ⟨r19, hc, hf⟩ := b1_e hf
  refine callVI (As := []) (rest := []) E hW (c_X9_fine l hc) lk_X9_188 rcv_X9 (Nat.le_of_ble_eq_true rfl) (Nat.le_of_ble_eq_true rfl) (Nat.le_of_ble_eq_true rfl) (Nat.le_of_ble_eq_true rfl) hl.1 (Nat.le_of_ble_eq_true rfl) dX9_operand_252 (fun H locs hW => ?_)
  refine lv_if_eq (tgt := 268) hx hb dX9_operand_255 (by decide) (fun h20 => ?_) (fun h20 => ?_)
  · replace hf := ite_t h20 hf
    exact w_X9_operand_268 E _ _ _ _ hf hW (lv_sub hl [0] rfl)
  · replace hf := ite_f h20 hf
    refine lv_aload_n hx hb dX9_operand_258 rfl (lv_at hl 0 rfl) ?_
    refine lv_iconst (v := (2 : Int32)) hx hb dX9_operand_259 (by decide) ?_
    refine lv_iload_n hx hb dX9_operand_260 rfl (lv_at hl 1 rfl) ?_
    refine lv_bipush (v := (97 : Int32)) hx hb dX9_operand_261 (by decide) ?_
    refine lv_isub hx hb dX9_operand_263 ?_
    refine lv_iconst (v := (0 : Int32)) hx hb dX9_operand_264 (by decide) ?_
    obtain ⟨ms23, hc, hf⟩ := b1_e hf
    refine callVV (As := [.int _, .int _, .int _]) (rest := []) E hW (c_X9_emit l hc) lk_X9_201 rcv_X9 (Nat.le_of_ble_eq_true rfl) (Nat.le_of_ble_eq_true rfl) (Nat.le_of_ble_eq_true rfl) (Nat.le_of_ble_eq_true rfl) hl.1 (Nat.le_of_ble_eq_true rfl) dX9_operand_265 (fun H locs hW => ?_)
    exact w_X9_operand_268 E _ _ _ _ hf hW (lv_sub hl [0] rfl)
set_option maxHeartbeats 4000000 in
set_option maxRecDepth 100000 in
theorem w_X9_operand_247 {p : Program} {l : Launch} {e : Env} {s : State} {m : MethodId} {args : Array Value} {below : List Frame} {meth : Method} {c : Code} {X : XT} {B : Nat} {cs : CS} {o : Nat → Int64} {r : Int32} {S9 : MS} (E : Ev X B p s m args meth c RX9 cX9_operand 4 (some .boolean)) : ∀ (ms : MS) (v2 : Int32) (H : Heap) (locs : List Loc) (ls : Array Slot), f_X9_operand_247 ms v2 = some (r, S9) → Ws X B s.heap H locs (cs, ms, o) → lv_has ls 4 [(0, .ref (X.1 7)), (2, .int v2)] → W p l e rm_X9_operand s m args below meth c H locs 0 0 (MQ below (QI X B r (cs, S9, o)) args s 0 0 (Ab B)) (F0 m 247 ls []) := by
  obtain ⟨hx, hb, hml, hown, hts, -⟩ := id E
  intro ms v2 H locs ls hf hW hl
  unfold f_X9_operand_247 at hf
  refine lv_aload_n hx hb dX9_operand_247 rfl (lv_at hl 0 rfl) ?_
  obtain ⟨ms18, hc, hf⟩ := b1_e hf
  refine callVV (As := []) (rest := []) E hW (c_X9_wrong l hc) lk_X9_185 rcv_X9 (Nat.le_of_ble_eq_true rfl) (Nat.le_of_ble_eq_true rfl) (Nat.le_of_ble_eq_true rfl) (Nat.le_of_ble_eq_true rfl) hl.1 (Nat.le_of_ble_eq_true rfl) dX9_operand_248 (fun H locs hW => ?_)
  exact w_X9_operand_251 E _ _ _ _ _ hf hW (lv_sub hl [0, 1] rfl)
set_option maxHeartbeats 4000000 in
set_option maxRecDepth 100000 in
theorem w_X9_operand_196 {p : Program} {l : Launch} {e : Env} {s : State} {m : MethodId} {args : Array Value} {below : List Frame} {meth : Method} {c : Code} {X : XT} {B : Nat} {cs : CS} {o : Nat → Int64} {r : Int32} {S9 : MS} (E : Ev X B p s m args meth c RX9 cX9_operand 4 (some .boolean)) : ∀ (ms : MS) (v2 : Int32) (s0 : Int32) (H : Heap) (locs : List Loc) (ls : Array Slot), f_X9_operand_196 ms v2 s0 = some (r, S9) → Ws X B s.heap H locs (cs, ms, o) → lv_has ls 4 [(0, .ref (X.1 7)), (2, .int v2)] → W p l e rm_X9_operand s m args below meth c H locs 0 0 (MQ below (QI X B r (cs, S9, o)) args s 0 0 (Ab B)) (F0 m 196 ls [.int s0]) := by
  obtain ⟨hx, hb, hml, hown, hts, -⟩ := id E
  intro ms v2 s0 H locs ls hf hW hl
  unfold f_X9_operand_196 at hf
  refine lv_istore_n (lv' := [_, _, _]) hx hb dX9_operand_196 rfl hl (by decide) rfl (fun ls hl => ?_)
  refine lv_aload_n hx hb dX9_operand_197 rfl (lv_at hl 1 rfl) ?_
  obtain ⟨r33, hc, hf⟩ := b1_e hf
  refine callVI (As := []) (rest := []) E hW (c_X9_fine l hc) lk_X9_188 rcv_X9 (Nat.le_of_ble_eq_true rfl) (Nat.le_of_ble_eq_true rfl) (Nat.le_of_ble_eq_true rfl) (Nat.le_of_ble_eq_true rfl) hl.1 (Nat.le_of_ble_eq_true rfl) dX9_operand_198 (fun H locs hW => ?_)
  refine lv_if_eq (tgt := 211) hx hb dX9_operand_201 (by decide) (fun h34 => ?_) (fun h34 => ?_)
  · replace hf := ite_t h34 hf
    refine lv_goto (tgt := 285) hx hb dX9_operand_211 (by decide) ?_
    refine lv_aload_n hx hb dX9_operand_285 rfl (lv_at hl 1 rfl) ?_
    obtain ⟨r35, hc, hf⟩ := b1_e hf
    refine callVI (As := []) (rest := []) E hW (c_X9_fine l hc) lk_X9_188 rcv_X9 (Nat.le_of_ble_eq_true rfl) (Nat.le_of_ble_eq_true rfl) (Nat.le_of_ble_eq_true rfl) (Nat.le_of_ble_eq_true rfl) hl.1 (Nat.le_of_ble_eq_true rfl) dX9_operand_286 (fun H locs hW => ?_)
    obtain ⟨v36, hf⟩ := gd_e hf
    exact retZ E hW v36 (e2M hf) dX9_operand_289
  · replace hf := ite_f h34 hf
    refine lv_aload_n hx hb dX9_operand_204 rfl (lv_at hl 1 rfl) ?_
    refine lv_iconst (v := (1 : Int32)) hx hb dX9_operand_205 (by decide) ?_
    refine lv_iload_n hx hb dX9_operand_206 rfl (lv_at hl 2 rfl) ?_
    refine lv_iload_n hx hb dX9_operand_207 rfl (lv_at hl 0 rfl) ?_
    obtain ⟨ms37, hc, hf⟩ := b1_e hf
    refine callVV (As := [.int _, .int _, .int _]) (rest := []) E hW (c_X9_emit l hc) lk_X9_201 rcv_X9 (Nat.le_of_ble_eq_true rfl) (Nat.le_of_ble_eq_true rfl) (Nat.le_of_ble_eq_true rfl) (Nat.le_of_ble_eq_true rfl) hl.1 (Nat.le_of_ble_eq_true rfl) dX9_operand_208 (fun H locs hW => ?_)
    refine lv_goto (tgt := 285) hx hb dX9_operand_211 (by decide) ?_
    refine lv_aload_n hx hb dX9_operand_285 rfl (lv_at hl 1 rfl) ?_
    obtain ⟨r38, hc, hf⟩ := b1_e hf
    refine callVI (As := []) (rest := []) E hW (c_X9_fine l hc) lk_X9_188 rcv_X9 (Nat.le_of_ble_eq_true rfl) (Nat.le_of_ble_eq_true rfl) (Nat.le_of_ble_eq_true rfl) (Nat.le_of_ble_eq_true rfl) hl.1 (Nat.le_of_ble_eq_true rfl) dX9_operand_286 (fun H locs hW => ?_)
    obtain ⟨v39, hf⟩ := gd_e hf
    exact retZ E hW v39 (e2M hf) dX9_operand_289
set_option maxHeartbeats 4000000 in
set_option maxRecDepth 100000 in
theorem w_X9_operand_181 {p : Program} {l : Launch} {e : Env} {s : State} {m : MethodId} {args : Array Value} {below : List Frame} {meth : Method} {c : Code} {X : XT} {B : Nat} {cs : CS} {o : Nat → Int64} {r : Int32} {S9 : MS} (E : Ev X B p s m args meth c RX9 cX9_operand 4 (some .boolean)) : ∀ (ms : MS) (v2 : Int32) (H : Heap) (locs : List Loc) (ls : Array Slot), f_X9_operand_181 ms v2 = some (r, S9) → Ws X B s.heap H locs (cs, ms, o) → lv_has ls 4 [(0, .ref (X.1 7)), (2, .int v2)] → W p l e rm_X9_operand s m args below meth c H locs 0 0 (MQ below (QI X B r (cs, S9, o)) args s 0 0 (Ab B)) (F0 m 181 ls []) := by
  obtain ⟨hx, hb, hml, hown, hts, -⟩ := id E
  intro ms v2 H locs ls hf hW hl
  unfold f_X9_operand_181 at hf
  refine lv_aload_n hx hb dX9_operand_181 rfl (lv_at hl 0 rfl) ?_
  obtain ⟨r31, hc, hf⟩ := b1_e hf
  refine callVI (As := []) (rest := []) E hW (c_X9_fine l hc) lk_X9_188 rcv_X9 (Nat.le_of_ble_eq_true rfl) (Nat.le_of_ble_eq_true rfl) (Nat.le_of_ble_eq_true rfl) (Nat.le_of_ble_eq_true rfl) hl.1 (Nat.le_of_ble_eq_true rfl) dX9_operand_182 (fun H locs hW => ?_)
  refine lv_if_eq (tgt := 195) hx hb dX9_operand_185 (by decide) (fun h32 => ?_) (fun h32 => ?_)
  · replace hf := ite_t h32 hf
    refine lv_iconst (v := (0 : Int32)) hx hb dX9_operand_195 (by decide) ?_
    exact w_X9_operand_196 E _ _ _ _ _ _ hf hW (lv_sub hl [0, 1] rfl)
  · replace hf := ite_f h32 hf
    refine lv_aload_n hx hb dX9_operand_188 rfl (lv_at hl 0 rfl) ?_
    obtain ⟨r41, ms40, hc, hf⟩ := b2_e hf
    refine callVI (As := []) (rest := []) E hW (c_X9_digits l hc) lk_X9_198 rcv_X9 (Nat.le_of_ble_eq_true rfl) (Nat.le_of_ble_eq_true rfl) (Nat.le_of_ble_eq_true rfl) (Nat.le_of_ble_eq_true rfl) hl.1 (Nat.le_of_ble_eq_true rfl) dX9_operand_189 (fun H locs hW => ?_)
    refine lv_goto (tgt := 196) hx hb dX9_operand_192 (by decide) ?_
    exact w_X9_operand_196 E _ _ _ _ _ _ hf hW (lv_sub hl [0, 1] rfl)
set_option maxHeartbeats 4000000 in
set_option maxRecDepth 100000 in
theorem w_X9_operand_164 {p : Program} {l : Launch} {e : Env} {s : State} {m : MethodId} {args : Array Value} {below : List Frame} {meth : Method} {c : Code} {X : XT} {B : Nat} {cs : CS} {o : Nat → Int64} {r : Int32} {S9 : MS} (E : Ev X B p s m args meth c RX9 cX9_operand 4 (some .boolean)) : ∀ (ms : MS) (v2 : Int32) (H : Heap) (locs : List Loc) (ls : Array Slot), f_X9_operand_164 ms v2 = some (r, S9) → Ws X B s.heap H locs (cs, ms, o) → lv_has ls 4 [(0, .ref (X.1 7)), (2, .int v2)] → W p l e rm_X9_operand s m args below meth c H locs 0 0 (MQ below (QI X B r (cs, S9, o)) args s 0 0 (Ab B)) (F0 m 164 ls []) := by
  obtain ⟨hx, hb, hml, hown, hts, -⟩ := id E
  intro ms v2 H locs ls hf hW hl
  unfold f_X9_operand_164 at hf
  refine lv_aload_n hx hb dX9_operand_164 rfl (lv_at hl 0 rfl) ?_
  obtain ⟨r29, hc, hf⟩ := b1_e hf
  refine callVI (As := []) (rest := []) E hW (c_X9_fine l hc) lk_X9_188 rcv_X9 (Nat.le_of_ble_eq_true rfl) (Nat.le_of_ble_eq_true rfl) (Nat.le_of_ble_eq_true rfl) (Nat.le_of_ble_eq_true rfl) hl.1 (Nat.le_of_ble_eq_true rfl) dX9_operand_165 (fun H locs hW => ?_)
  refine lv_if_eq (tgt := 181) hx hb dX9_operand_168 (by decide) (fun h30 => ?_) (fun h30 => ?_)
  · replace hf := ite_t h30 hf
    exact w_X9_operand_181 E _ _ _ _ _ hf hW (lv_sub hl [0, 1] rfl)
  · replace hf := ite_f h30 hf
    refine lv_aload_n hx hb dX9_operand_171 rfl (lv_at hl 0 rfl) ?_
    refine lv_dup hx hb dX9_operand_172 rfl ?_
    refine rg_X9_165 E hW dX9_operand_173 ?_
    refine lv_iconst (v := (1 : Int32)) hx hb dX9_operand_176 (by decide) ?_
    refine lv_iadd hx hb dX9_operand_177 ?_
    refine rp_X9_165 E hW dX9_operand_178 (fun H locs hW => ?_)
    exact w_X9_operand_181 E _ _ _ _ _ hf hW (lv_sub hl [0, 1] rfl)
set_option maxHeartbeats 4000000 in
set_option maxRecDepth 100000 in
theorem c_X9_operand (l : Launch) {X : XT} {B : Nat} {cs : CS} {ms : MS} {o : Nat → Int64} {r : Int32} {S9 : MS} (hf : f_X9_operand ms  = some (r, S9)) : Met l yX9_operand (.code yX9_operand cX9_operand 4 (some .boolean) :: BIG) rm_X9_operand (Pre X B (cs, ms, o) [.ref (X.1 7)]) (QI X B r (cs, S9, o)) 0 0 (Ab B) := by
  refine entry (by decide +kernel) rfl (Nat.le_of_ble_eq_true rfl) (fun p e s m below meth c ls E hW hl => ?_)
  obtain ⟨hx, hb, hml, hown, hts, -⟩ := id E
  replace hl : lv_has ls 4 [(0, .ref (X.1 7))] := hl
  unfold f_X9_operand at hf
  refine lv_aload_n hx hb dX9_operand_0 rfl (lv_at hl 0 rfl) ?_
  obtain ⟨r2, ms1, hc, hf⟩ := b2_e hf
  refine callVI (As := []) (rest := []) E hW (c_X9_here l hc) lk_X9_177 rcv_X9 (Nat.le_of_ble_eq_true rfl) (Nat.le_of_ble_eq_true rfl) (Nat.le_of_ble_eq_true rfl) (Nat.le_of_ble_eq_true rfl) hl.1 (Nat.le_of_ble_eq_true rfl) dX9_operand_1 (fun H locs hW => ?_)
  refine lv_istore_n (lv' := [_, _]) hx hb dX9_operand_4 rfl hl (by decide) rfl (fun ls hl => ?_)
  refine lv_iload_n hx hb dX9_operand_5 rfl (lv_at hl 0 rfl) ?_
  refine lv_bipush (v := (33 : Int32)) hx hb dX9_operand_6 (by decide) ?_
  refine lv_icmp_eq (tgt := 17) hx hb dX9_operand_8 (by decide) (fun h3 => ?_) (fun h3 => ?_)
  · replace hf := ite_t h3 hf
    exact w_X9_operand_17 E _ _ _ _ _ hf hW (lv_sub hl [1, 0] rfl)
  · replace hf := ite_f h3 hf
    refine lv_iload_n hx hb dX9_operand_11 rfl (lv_at hl 0 rfl) ?_
    refine lv_bipush (v := (40 : Int32)) hx hb dX9_operand_12 (by decide) ?_
    refine lv_icmp_ne (tgt := 85) hx hb dX9_operand_14 (by decide) (fun h8 => ?_) (fun h8 => ?_)
    · replace hf := ite_f h8 hf
      refine lv_iload_n hx hb dX9_operand_85 rfl (lv_at hl 0 rfl) ?_
      refine lv_bipush (v := (77 : Int32)) hx hb dX9_operand_86 (by decide) ?_
      refine lv_icmp_ne (tgt := 123) hx hb dX9_operand_88 (by decide) (fun h9 => ?_) (fun h9 => ?_)
      · replace hf := ite_f h9 hf
        refine lv_iload_n hx hb dX9_operand_123 rfl (lv_at hl 0 rfl) ?_
        refine lv_bipush (v := (89 : Int32)) hx hb dX9_operand_124 (by decide) ?_
        refine lv_icmp_ne (tgt := 214) hx hb dX9_operand_126 (by decide) (fun h10 => ?_) (fun h10 => ?_)
        · replace hf := ite_f h10 hf
          refine lv_iload_n hx hb dX9_operand_214 rfl (lv_at hl 0 rfl) ?_
          refine lv_bipush (v := (75 : Int32)) hx hb dX9_operand_215 (by decide) ?_
          refine lv_icmp_ne (tgt := 281) hx hb dX9_operand_217 (by decide) (fun h11 => ?_) (fun h11 => ?_)
          · replace hf := ite_f h11 hf
            refine lv_aload_n hx hb dX9_operand_281 rfl (lv_at hl 1 rfl) ?_
            obtain ⟨ms12, hc, hf⟩ := b1_e hf
            refine callVV (As := []) (rest := []) E hW (c_X9_wrong l hc) lk_X9_185 rcv_X9 (Nat.le_of_ble_eq_true rfl) (Nat.le_of_ble_eq_true rfl) (Nat.le_of_ble_eq_true rfl) (Nat.le_of_ble_eq_true rfl) hl.1 (Nat.le_of_ble_eq_true rfl) dX9_operand_282 (fun H locs hW => ?_)
            refine lv_aload_n hx hb dX9_operand_285 rfl (lv_at hl 1 rfl) ?_
            obtain ⟨r13, hc, hf⟩ := b1_e hf
            refine callVI (As := []) (rest := []) E hW (c_X9_fine l hc) lk_X9_188 rcv_X9 (Nat.le_of_ble_eq_true rfl) (Nat.le_of_ble_eq_true rfl) (Nat.le_of_ble_eq_true rfl) (Nat.le_of_ble_eq_true rfl) hl.1 (Nat.le_of_ble_eq_true rfl) dX9_operand_286 (fun H locs hW => ?_)
            obtain ⟨v14, hf⟩ := gd_e hf
            exact retZ E hW v14 (e2M hf) dX9_operand_289
          · replace hf := ite_t h11 hf
            refine lv_aload_n hx hb dX9_operand_220 rfl (lv_at hl 1 rfl) ?_
            refine lv_dup hx hb dX9_operand_221 rfl ?_
            refine rg_X9_165 E hW dX9_operand_222 ?_
            refine lv_iconst (v := (1 : Int32)) hx hb dX9_operand_225 (by decide) ?_
            refine lv_iadd hx hb dX9_operand_226 ?_
            refine rp_X9_165 E hW dX9_operand_227 (fun H locs hW => ?_)
            refine lv_aload_n hx hb dX9_operand_230 rfl (lv_at hl 1 rfl) ?_
            obtain ⟨r16, ms15, hc, hf⟩ := b2_e hf
            refine callVI (As := []) (rest := []) E hW (c_X9_here l hc) lk_X9_177 rcv_X9 (Nat.le_of_ble_eq_true rfl) (Nat.le_of_ble_eq_true rfl) (Nat.le_of_ble_eq_true rfl) (Nat.le_of_ble_eq_true rfl) hl.1 (Nat.le_of_ble_eq_true rfl) dX9_operand_231 (fun H locs hW => ?_)
            refine lv_istore_n (lv' := [_, _, _]) hx hb dX9_operand_234 rfl hl (by decide) rfl (fun ls hl => ?_)
            refine lv_iload_n hx hb dX9_operand_235 rfl (lv_at hl 0 rfl) ?_
            refine lv_bipush (v := (97 : Int32)) hx hb dX9_operand_236 (by decide) ?_
            refine lv_icmp_lt (tgt := 247) hx hb dX9_operand_238 (by decide) (fun h17 => ?_) (fun h17 => ?_)
            · replace hf := ite_t h17 hf
              exact w_X9_operand_247 E _ _ _ _ _ hf hW (lv_sub hl [2, 0] rfl)
            · replace hf := ite_f h17 hf
              refine lv_iload_n hx hb dX9_operand_241 rfl (lv_at hl 0 rfl) ?_
              refine lv_bipush (v := (104 : Int32)) hx hb dX9_operand_242 (by decide) ?_
              refine lv_icmp_le (tgt := 251) hx hb dX9_operand_244 (by decide) (fun h24 => ?_) (fun h24 => ?_)
              · replace hf := ite_t h24 hf
                exact w_X9_operand_251 E _ _ _ _ _ hf hW (lv_sub hl [2, 0] rfl)
              · replace hf := ite_f h24 hf
                exact w_X9_operand_247 E _ _ _ _ _ hf hW (lv_sub hl [2, 0] rfl)
        · replace hf := ite_t h10 hf
          refine lv_aload_n hx hb dX9_operand_129 rfl (lv_at hl 1 rfl) ?_
          refine lv_dup hx hb dX9_operand_130 rfl ?_
          refine rg_X9_165 E hW dX9_operand_131 ?_
          refine lv_iconst (v := (1 : Int32)) hx hb dX9_operand_134 (by decide) ?_
          refine lv_iadd hx hb dX9_operand_135 ?_
          refine rp_X9_165 E hW dX9_operand_136 (fun H locs hW => ?_)
          refine lv_aload_n hx hb dX9_operand_139 rfl (lv_at hl 1 rfl) ?_
          obtain ⟨r26, ms25, hc, hf⟩ := b2_e hf
          refine callVI (As := []) (rest := []) E hW (c_X9_digits l hc) lk_X9_198 rcv_X9 (Nat.le_of_ble_eq_true rfl) (Nat.le_of_ble_eq_true rfl) (Nat.le_of_ble_eq_true rfl) (Nat.le_of_ble_eq_true rfl) hl.1 (Nat.le_of_ble_eq_true rfl) dX9_operand_140 (fun H locs hW => ?_)
          refine lv_istore_n (lv' := [_, _, _]) hx hb dX9_operand_143 rfl hl (by decide) rfl (fun ls hl => ?_)
          refine lv_aload_n hx hb dX9_operand_144 rfl (lv_at hl 2 rfl) ?_
          obtain ⟨r27, hc, hf⟩ := b1_e hf
          refine callVI (As := []) (rest := []) E hW (c_X9_fine l hc) lk_X9_188 rcv_X9 (Nat.le_of_ble_eq_true rfl) (Nat.le_of_ble_eq_true rfl) (Nat.le_of_ble_eq_true rfl) (Nat.le_of_ble_eq_true rfl) hl.1 (Nat.le_of_ble_eq_true rfl) dX9_operand_145 (fun H locs hW => ?_)
          refine lv_if_eq (tgt := 164) hx hb dX9_operand_148 (by decide) (fun h28 => ?_) (fun h28 => ?_)
          · replace hf := ite_t h28 hf
            exact w_X9_operand_164 E _ _ _ _ _ hf hW (lv_sub hl [2, 0] rfl)
          · replace hf := ite_f h28 hf
            refine lv_aload_n hx hb dX9_operand_151 rfl (lv_at hl 2 rfl) ?_
            obtain ⟨r43, ms42, hc, hf⟩ := b2_e hf
            refine callVI (As := []) (rest := []) E hW (c_X9_here l hc) lk_X9_177 rcv_X9 (Nat.le_of_ble_eq_true rfl) (Nat.le_of_ble_eq_true rfl) (Nat.le_of_ble_eq_true rfl) (Nat.le_of_ble_eq_true rfl) hl.1 (Nat.le_of_ble_eq_true rfl) dX9_operand_152 (fun H locs hW => ?_)
            refine lv_bipush (v := (45 : Int32)) hx hb dX9_operand_155 (by decide) ?_
            refine lv_icmp_eq (tgt := 164) hx hb dX9_operand_157 (by decide) (fun h44 => ?_) (fun h44 => ?_)
            · replace hf := ite_t h44 hf
              exact w_X9_operand_164 E _ _ _ _ _ hf hW (lv_sub hl [2, 0] rfl)
            · replace hf := ite_f h44 hf
              refine lv_aload_n hx hb dX9_operand_160 rfl (lv_at hl 2 rfl) ?_
              obtain ⟨ms45, hc, hf⟩ := b1_e hf
              refine callVV (As := []) (rest := []) E hW (c_X9_wrong l hc) lk_X9_185 rcv_X9 (Nat.le_of_ble_eq_true rfl) (Nat.le_of_ble_eq_true rfl) (Nat.le_of_ble_eq_true rfl) (Nat.le_of_ble_eq_true rfl) hl.1 (Nat.le_of_ble_eq_true rfl) dX9_operand_161 (fun H locs hW => ?_)
              exact w_X9_operand_164 E _ _ _ _ _ hf hW (lv_sub hl [2, 0] rfl)
      · replace hf := ite_t h9 hf
        refine lv_aload_n hx hb dX9_operand_91 rfl (lv_at hl 1 rfl) ?_
        refine lv_dup hx hb dX9_operand_92 rfl ?_
        refine rg_X9_165 E hW dX9_operand_93 ?_
        refine lv_iconst (v := (1 : Int32)) hx hb dX9_operand_96 (by decide) ?_
        refine lv_iadd hx hb dX9_operand_97 ?_
        refine rp_X9_165 E hW dX9_operand_98 (fun H locs hW => ?_)
        refine lv_aload_n hx hb dX9_operand_101 rfl (lv_at hl 1 rfl) ?_
        obtain ⟨r47, ms46, hc, hf⟩ := b2_e hf
        refine callVI (As := []) (rest := []) E hW (c_X9_digits l hc) lk_X9_198 rcv_X9 (Nat.le_of_ble_eq_true rfl) (Nat.le_of_ble_eq_true rfl) (Nat.le_of_ble_eq_true rfl) (Nat.le_of_ble_eq_true rfl) hl.1 (Nat.le_of_ble_eq_true rfl) dX9_operand_102 (fun H locs hW => ?_)
        refine lv_istore_n (lv' := [_, _, _]) hx hb dX9_operand_105 rfl hl (by decide) rfl (fun ls hl => ?_)
        refine lv_aload_n hx hb dX9_operand_106 rfl (lv_at hl 2 rfl) ?_
        obtain ⟨r48, hc, hf⟩ := b1_e hf
        refine callVI (As := []) (rest := []) E hW (c_X9_fine l hc) lk_X9_188 rcv_X9 (Nat.le_of_ble_eq_true rfl) (Nat.le_of_ble_eq_true rfl) (Nat.le_of_ble_eq_true rfl) (Nat.le_of_ble_eq_true rfl) hl.1 (Nat.le_of_ble_eq_true rfl) dX9_operand_107 (fun H locs hW => ?_)
        refine lv_if_eq (tgt := 120) hx hb dX9_operand_110 (by decide) (fun h49 => ?_) (fun h49 => ?_)
        · replace hf := ite_t h49 hf
          refine lv_goto (tgt := 285) hx hb dX9_operand_120 (by decide) ?_
          refine lv_aload_n hx hb dX9_operand_285 rfl (lv_at hl 2 rfl) ?_
          obtain ⟨r50, hc, hf⟩ := b1_e hf
          refine callVI (As := []) (rest := []) E hW (c_X9_fine l hc) lk_X9_188 rcv_X9 (Nat.le_of_ble_eq_true rfl) (Nat.le_of_ble_eq_true rfl) (Nat.le_of_ble_eq_true rfl) (Nat.le_of_ble_eq_true rfl) hl.1 (Nat.le_of_ble_eq_true rfl) dX9_operand_286 (fun H locs hW => ?_)
          obtain ⟨v51, hf⟩ := gd_e hf
          exact retZ E hW v51 (e2M hf) dX9_operand_289
        · replace hf := ite_f h49 hf
          refine lv_aload_n hx hb dX9_operand_113 rfl (lv_at hl 2 rfl) ?_
          refine lv_iconst (v := (0 : Int32)) hx hb dX9_operand_114 (by decide) ?_
          refine lv_iload_n hx hb dX9_operand_115 rfl (lv_at hl 0 rfl) ?_
          refine lv_iconst (v := (0 : Int32)) hx hb dX9_operand_116 (by decide) ?_
          obtain ⟨ms52, hc, hf⟩ := b1_e hf
          refine callVV (As := [.int _, .int _, .int _]) (rest := []) E hW (c_X9_emit l hc) lk_X9_201 rcv_X9 (Nat.le_of_ble_eq_true rfl) (Nat.le_of_ble_eq_true rfl) (Nat.le_of_ble_eq_true rfl) (Nat.le_of_ble_eq_true rfl) hl.1 (Nat.le_of_ble_eq_true rfl) dX9_operand_117 (fun H locs hW => ?_)
          refine lv_goto (tgt := 285) hx hb dX9_operand_120 (by decide) ?_
          refine lv_aload_n hx hb dX9_operand_285 rfl (lv_at hl 2 rfl) ?_
          obtain ⟨r53, hc, hf⟩ := b1_e hf
          refine callVI (As := []) (rest := []) E hW (c_X9_fine l hc) lk_X9_188 rcv_X9 (Nat.le_of_ble_eq_true rfl) (Nat.le_of_ble_eq_true rfl) (Nat.le_of_ble_eq_true rfl) (Nat.le_of_ble_eq_true rfl) hl.1 (Nat.le_of_ble_eq_true rfl) dX9_operand_286 (fun H locs hW => ?_)
          obtain ⟨v54, hf⟩ := gd_e hf
          exact retZ E hW v54 (e2M hf) dX9_operand_289
    · replace hf := ite_t h8 hf
      exact w_X9_operand_17 E _ _ _ _ _ hf hW (lv_sub hl [1, 0] rfl)
def f_X9_nots_0 : Nat → MS → Option (MS)
  | 0, _ => none
  | n + 1, ms => if (mi ms 7) ≤ 0 then (some ms) else ((ldI (ma ms 35) 110 ((mi ms 7) - (1 : Int32))).bind fun q3 => if q3 = (3 : Int32) then ((f_X9_emit ms (3 : Int32) (0 : Int32) (0 : Int32)).bind fun ms5 => f_X9_nots_0 n (miU (miU ms5 7 ((mi ms5 7) - (1 : Int32))) 8 ((mi (miU ms5 7 ((mi ms5 7) - (1 : Int32))) 8) - (1 : Int32))) ) else (some ms))
def f_X9_nots (ms : MS) : Option (MS) := f_X9_nots_0 1000 ms 
def rm_X9_nots : Room := { frames := 1, cells := 0, slots := 0, locals := 24 }
set_option maxHeartbeats 4000000 in
set_option maxRecDepth 100000 in
theorem w_X9_nots_0 {p : Program} {l : Launch} {e : Env} {s : State} {m : MethodId} {args : Array Value} {below : List Frame} {meth : Method} {c : Code} {X : XT} {B : Nat} {cs : CS} {o : Nat → Int64} {S9 : MS} (E : Ev X B p s m args meth c RX9 cX9_nots 1 none) : ∀ (n : Nat) (ms : MS) (H : Heap) (locs : List Loc) (ls : Array Slot), f_X9_nots_0 n ms  = some S9 → Ws X B s.heap H locs (cs, ms, o) → lv_has ls 1 [(0, .ref (X.1 7))] → W p l e rm_X9_nots s m args below meth c H locs 0 0 (MQ below (QV X B (cs, S9, o)) args s 0 0 (Ab B)) (F0 m 0 ls []) := by
  obtain ⟨hx, hb, hml, hown, hts, -⟩ := id E
  intro n
  induction n with
  | zero => intro ms  H locs ls hf; exact absurd hf nofun
  | succ n ih =>
    intro ms  H locs ls hf hW hl
    rw [f_X9_nots_0] at hf
    refine lv_aload_n hx hb dX9_nots_0 rfl (lv_at hl 0 rfl) ?_
    refine rg_X9_195 E hW dX9_nots_1 ?_
    refine lv_if_le (tgt := 52) hx hb dX9_nots_4 (by decide) (fun h1 => ?_) (fun h1 => ?_)
    · replace hf := ite_t h1 hf
      exact retV E hW (e1M hf) dX9_nots_52
    · replace hf := ite_f h1 hf
      refine lv_aload_n hx hb dX9_nots_7 rfl (lv_at hl 0 rfl) ?_
      refine rg_X9_39 E hW dX9_nots_8 ?_
      refine lv_aload_n hx hb dX9_nots_11 rfl (lv_at hl 0 rfl) ?_
      refine rg_X9_195 E hW dX9_nots_12 ?_
      refine lv_iconst (v := (1 : Int32)) hx hb dX9_nots_15 (by decide) ?_
      refine lv_isub hx hb dX9_nots_16 ?_
      obtain ⟨v2, hf⟩ := ldI_e hf
      refine ra_35 E hW v2 dX9_nots_17 ?_
      refine lv_iconst (v := (3 : Int32)) hx hb dX9_nots_18 (by decide) ?_
      refine lv_icmp_ne (tgt := 52) hx hb dX9_nots_19 (by decide) (fun h4 => ?_) (fun h4 => ?_)
      · replace hf := ite_f h4 hf
        exact retV E hW (e1M hf) dX9_nots_52
      · replace hf := ite_t h4 hf
        refine lv_aload_n hx hb dX9_nots_22 rfl (lv_at hl 0 rfl) ?_
        refine lv_iconst (v := (3 : Int32)) hx hb dX9_nots_23 (by decide) ?_
        refine lv_iconst (v := (0 : Int32)) hx hb dX9_nots_24 (by decide) ?_
        refine lv_iconst (v := (0 : Int32)) hx hb dX9_nots_25 (by decide) ?_
        obtain ⟨ms5, hc, hf⟩ := b1_e hf
        refine callVV (As := [.int _, .int _, .int _]) (rest := []) E hW (c_X9_emit l hc) lk_X9_201 rcv_X9 (Nat.le_of_ble_eq_true rfl) (Nat.le_of_ble_eq_true rfl) (Nat.le_of_ble_eq_true rfl) (Nat.le_of_ble_eq_true rfl) hl.1 (Nat.le_of_ble_eq_true rfl) dX9_nots_26 (fun H locs hW => ?_)
        refine lv_aload_n hx hb dX9_nots_29 rfl (lv_at hl 0 rfl) ?_
        refine lv_dup hx hb dX9_nots_30 rfl ?_
        refine rg_X9_195 E hW dX9_nots_31 ?_
        refine lv_iconst (v := (1 : Int32)) hx hb dX9_nots_34 (by decide) ?_
        refine lv_isub hx hb dX9_nots_35 ?_
        refine rp_X9_195 E hW dX9_nots_36 (fun H locs hW => ?_)
        refine lv_aload_n hx hb dX9_nots_39 rfl (lv_at hl 0 rfl) ?_
        refine lv_dup hx hb dX9_nots_40 rfl ?_
        refine rg_X9_192 E hW dX9_nots_41 ?_
        refine lv_iconst (v := (1 : Int32)) hx hb dX9_nots_44 (by decide) ?_
        refine lv_isub hx hb dX9_nots_45 ?_
        refine rp_X9_192 E hW dX9_nots_46 (fun H locs hW => ?_)
        refine lv_goto (tgt := 0) hx hb dX9_nots_49 (by decide) ?_
        exact ih _ _ _ _ hf hW (lv_sub hl [0] rfl)
set_option maxHeartbeats 4000000 in
set_option maxRecDepth 100000 in
theorem c_X9_nots (l : Launch) {X : XT} {B : Nat} {cs : CS} {ms : MS} {o : Nat → Int64} {S9 : MS} (hf : f_X9_nots ms  = some S9) : Met l yX9_nots (.code yX9_nots cX9_nots 1 none :: BIG) rm_X9_nots (Pre X B (cs, ms, o) [.ref (X.1 7)]) (QV X B (cs, S9, o)) 0 0 (Ab B) := by
  refine entry (by decide +kernel) rfl (Nat.le_of_ble_eq_true rfl) (fun p e s m below meth c ls E hW hl => ?_)
  obtain ⟨hx, hb, hml, hown, hts, -⟩ := id E
  replace hl : lv_has ls 1 [(0, .ref (X.1 7))] := hl
  unfold f_X9_nots at hf
  exact w_X9_nots_0 E 1000 _ _ _ _ hf hW (lv_sub hl [0] rfl)
def f_X9_settle_0 : Nat → MS → Int32 → Option (MS)
  | 0, _, _ => none
  | n + 1, ms, v1 => if (mi ms 7) ≤ 0 then (some ms) else ((ldI (ma ms 35) 110 ((mi ms 7) - (1 : Int32))).bind fun q3 => if q3 = (4 : Int32) then ((ldI (ma ms 35) 110 ((mi ms 7) - (1 : Int32))).bind fun q6 => (f_X9_emit ms q6 (0 : Int32) (0 : Int32)).bind fun ms7 => f_X9_settle_0 n (miU ms7 7 ((mi ms7 7) - (1 : Int32))) v1) else ((ldI (ma ms 35) 110 ((mi ms 7) - (1 : Int32))).bind fun q9 => if q9 = (5 : Int32) then (if v1 = (5 : Int32) then ((ldI (ma ms 35) 110 ((mi ms 7) - (1 : Int32))).bind fun q13 => (f_X9_emit ms q13 (0 : Int32) (0 : Int32)).bind fun ms14 => f_X9_settle_0 n (miU ms14 7 ((mi ms14 7) - (1 : Int32))) v1) else (some ms)) else (some ms)))
def f_X9_settle (ms : MS) (v1 : Int32) : Option (MS) := f_X9_settle_0 1000 ms v1
def rm_X9_settle : Room := { frames := 1, cells := 0, slots := 0, locals := 24 }
set_option maxHeartbeats 4000000 in
set_option maxRecDepth 100000 in
theorem w_X9_settle_0 {p : Program} {l : Launch} {e : Env} {s : State} {m : MethodId} {args : Array Value} {below : List Frame} {meth : Method} {c : Code} {X : XT} {B : Nat} {cs : CS} {o : Nat → Int64} {S9 : MS} (E : Ev X B p s m args meth c RX9 cX9_settle 2 none) : ∀ (n : Nat) (ms : MS) (v1 : Int32) (H : Heap) (locs : List Loc) (ls : Array Slot), f_X9_settle_0 n ms v1 = some S9 → Ws X B s.heap H locs (cs, ms, o) → lv_has ls 2 [(0, .ref (X.1 7)), (1, .int v1)] → W p l e rm_X9_settle s m args below meth c H locs 0 0 (MQ below (QV X B (cs, S9, o)) args s 0 0 (Ab B)) (F0 m 0 ls []) := by
  obtain ⟨hx, hb, hml, hown, hts, -⟩ := id E
  intro n
  induction n with
  | zero => intro ms v1 H locs ls hf; exact absurd hf nofun
  | succ n ih =>
    intro ms v1 H locs ls hf hW hl
    rw [f_X9_settle_0] at hf
    refine lv_aload_n hx hb dX9_settle_0 rfl (lv_at hl 0 rfl) ?_
    refine rg_X9_195 E hW dX9_settle_1 ?_
    refine lv_if_le (tgt := 72) hx hb dX9_settle_4 (by decide) (fun h1 => ?_) (fun h1 => ?_)
    · replace hf := ite_t h1 hf
      exact retV E hW (e1M hf) dX9_settle_72
    · replace hf := ite_f h1 hf
      refine lv_aload_n hx hb dX9_settle_7 rfl (lv_at hl 0 rfl) ?_
      refine rg_X9_39 E hW dX9_settle_8 ?_
      refine lv_aload_n hx hb dX9_settle_11 rfl (lv_at hl 0 rfl) ?_
      refine rg_X9_195 E hW dX9_settle_12 ?_
      refine lv_iconst (v := (1 : Int32)) hx hb dX9_settle_15 (by decide) ?_
      refine lv_isub hx hb dX9_settle_16 ?_
      obtain ⟨v2, hf⟩ := ldI_e hf
      refine ra_35 E hW v2 dX9_settle_17 ?_
      refine lv_iconst (v := (4 : Int32)) hx hb dX9_settle_18 (by decide) ?_
      refine lv_icmp_eq (tgt := 42) hx hb dX9_settle_19 (by decide) (fun h4 => ?_) (fun h4 => ?_)
      · replace hf := ite_t h4 hf
        refine lv_aload_n hx hb dX9_settle_42 rfl (lv_at hl 0 rfl) ?_
        refine lv_aload_n hx hb dX9_settle_43 rfl (lv_at hl 0 rfl) ?_
        refine rg_X9_39 E hW dX9_settle_44 ?_
        refine lv_aload_n hx hb dX9_settle_47 rfl (lv_at hl 0 rfl) ?_
        refine rg_X9_195 E hW dX9_settle_48 ?_
        refine lv_iconst (v := (1 : Int32)) hx hb dX9_settle_51 (by decide) ?_
        refine lv_isub hx hb dX9_settle_52 ?_
        obtain ⟨v5, hf⟩ := ldI_e hf
        refine ra_35 E hW v5 dX9_settle_53 ?_
        refine lv_iconst (v := (0 : Int32)) hx hb dX9_settle_54 (by decide) ?_
        refine lv_iconst (v := (0 : Int32)) hx hb dX9_settle_55 (by decide) ?_
        obtain ⟨ms7, hc, hf⟩ := b1_e hf
        refine callVV (As := [.int _, .int _, .int _]) (rest := []) E hW (c_X9_emit l hc) lk_X9_201 rcv_X9 (Nat.le_of_ble_eq_true rfl) (Nat.le_of_ble_eq_true rfl) (Nat.le_of_ble_eq_true rfl) (Nat.le_of_ble_eq_true rfl) hl.1 (Nat.le_of_ble_eq_true rfl) dX9_settle_56 (fun H locs hW => ?_)
        refine lv_aload_n hx hb dX9_settle_59 rfl (lv_at hl 0 rfl) ?_
        refine lv_dup hx hb dX9_settle_60 rfl ?_
        refine rg_X9_195 E hW dX9_settle_61 ?_
        refine lv_iconst (v := (1 : Int32)) hx hb dX9_settle_64 (by decide) ?_
        refine lv_isub hx hb dX9_settle_65 ?_
        refine rp_X9_195 E hW dX9_settle_66 (fun H locs hW => ?_)
        refine lv_goto (tgt := 0) hx hb dX9_settle_69 (by decide) ?_
        exact ih _ _ _ _ _ hf hW (lv_sub hl [0, 1] rfl)
      · replace hf := ite_f h4 hf
        refine lv_aload_n hx hb dX9_settle_22 rfl (lv_at hl 0 rfl) ?_
        refine rg_X9_39 E hW dX9_settle_23 ?_
        refine lv_aload_n hx hb dX9_settle_26 rfl (lv_at hl 0 rfl) ?_
        refine rg_X9_195 E hW dX9_settle_27 ?_
        refine lv_iconst (v := (1 : Int32)) hx hb dX9_settle_30 (by decide) ?_
        refine lv_isub hx hb dX9_settle_31 ?_
        obtain ⟨v8, hf⟩ := ldI_e hf
        refine ra_35 E hW v8 dX9_settle_32 ?_
        refine lv_iconst (v := (5 : Int32)) hx hb dX9_settle_33 (by decide) ?_
        refine lv_icmp_ne (tgt := 72) hx hb dX9_settle_34 (by decide) (fun h10 => ?_) (fun h10 => ?_)
        · replace hf := ite_f h10 hf
          exact retV E hW (e1M hf) dX9_settle_72
        · replace hf := ite_t h10 hf
          refine lv_iload_n hx hb dX9_settle_37 rfl (lv_at hl 1 rfl) ?_
          refine lv_iconst (v := (5 : Int32)) hx hb dX9_settle_38 (by decide) ?_
          refine lv_icmp_ne (tgt := 72) hx hb dX9_settle_39 (by decide) (fun h11 => ?_) (fun h11 => ?_)
          · replace hf := ite_f h11 hf
            exact retV E hW (e1M hf) dX9_settle_72
          · replace hf := ite_t h11 hf
            refine lv_aload_n hx hb dX9_settle_42 rfl (lv_at hl 0 rfl) ?_
            refine lv_aload_n hx hb dX9_settle_43 rfl (lv_at hl 0 rfl) ?_
            refine rg_X9_39 E hW dX9_settle_44 ?_
            refine lv_aload_n hx hb dX9_settle_47 rfl (lv_at hl 0 rfl) ?_
            refine rg_X9_195 E hW dX9_settle_48 ?_
            refine lv_iconst (v := (1 : Int32)) hx hb dX9_settle_51 (by decide) ?_
            refine lv_isub hx hb dX9_settle_52 ?_
            obtain ⟨v12, hf⟩ := ldI_e hf
            refine ra_35 E hW v12 dX9_settle_53 ?_
            refine lv_iconst (v := (0 : Int32)) hx hb dX9_settle_54 (by decide) ?_
            refine lv_iconst (v := (0 : Int32)) hx hb dX9_settle_55 (by decide) ?_
            obtain ⟨ms14, hc, hf⟩ := b1_e hf
            refine callVV (As := [.int _, .int _, .int _]) (rest := []) E hW (c_X9_emit l hc) lk_X9_201 rcv_X9 (Nat.le_of_ble_eq_true rfl) (Nat.le_of_ble_eq_true rfl) (Nat.le_of_ble_eq_true rfl) (Nat.le_of_ble_eq_true rfl) hl.1 (Nat.le_of_ble_eq_true rfl) dX9_settle_56 (fun H locs hW => ?_)
            refine lv_aload_n hx hb dX9_settle_59 rfl (lv_at hl 0 rfl) ?_
            refine lv_dup hx hb dX9_settle_60 rfl ?_
            refine rg_X9_195 E hW dX9_settle_61 ?_
            refine lv_iconst (v := (1 : Int32)) hx hb dX9_settle_64 (by decide) ?_
            refine lv_isub hx hb dX9_settle_65 ?_
            refine rp_X9_195 E hW dX9_settle_66 (fun H locs hW => ?_)
            refine lv_goto (tgt := 0) hx hb dX9_settle_69 (by decide) ?_
            exact ih _ _ _ _ _ hf hW (lv_sub hl [0, 1] rfl)
set_option maxHeartbeats 4000000 in
set_option maxRecDepth 100000 in
theorem c_X9_settle (l : Launch) {X : XT} {B : Nat} {cs : CS} {ms : MS} {o : Nat → Int64} {v1 : Int32} {S9 : MS} (hf : f_X9_settle ms v1 = some S9) : Met l yX9_settle (.code yX9_settle cX9_settle 2 none :: BIG) rm_X9_settle (Pre X B (cs, ms, o) [.ref (X.1 7), .int v1]) (QV X B (cs, S9, o)) 0 0 (Ab B) := by
  refine entry (by decide +kernel) rfl (Nat.le_of_ble_eq_true rfl) (fun p e s m below meth c ls E hW hl => ?_)
  obtain ⟨hx, hb, hml, hown, hts, -⟩ := id E
  replace hl : lv_has ls 2 [(0, .ref (X.1 7)), (1, .int v1)] := hl
  unfold f_X9_settle at hf
  exact w_X9_settle_0 E 1000 _ _ _ _ _ hf hW (lv_sub hl [0, 1] rfl)
def f_X9_fit_333 (k : MS → Int32 → Int32 → Option (Int32 × MS)) (ms : MS) : Option (Int32 × MS) := (f_X9_fine ms ).bind fun r7 => if r7 = 0 then (some (((-2 : Int32) - (mi ms 6)), ms)) else (if (mi ms 3) = (30 : Int32) then (some ((-1 : Int32), ms)) else (some (((mi (miU ms 3 ((mi ms 3) + (1 : Int32))) 3) - (1 : Int32)), (miU ms 3 ((mi ms 3) + (1 : Int32))))))
def f_X9_fit_330 (k : MS → Int32 → Int32 → Option (Int32 × MS)) (ms : MS) (v2 : Int32) (v3 : Int32) : Option (Int32 × MS) := k ms v2 v3
def f_X9_fit_328 (k : MS → Int32 → Int32 → Option (Int32 × MS)) (ms : MS) (v2 : Int32) : Option (Int32 × MS) := f_X9_fit_330 k ms v2 (0 : Int32)
def f_X9_fit_324 (k : MS → Int32 → Int32 → Option (Int32 × MS)) (ms : MS) (v2 : Int32) : Option (Int32 × MS) := (f_X9_wrong ms ).bind fun ms20 => f_X9_fit_328 k ms20 v2
def f_X9_fit_301 (k : MS → Int32 → Int32 → Option (Int32 × MS)) (ms : MS) (v2 : Int32) : Option (Int32 × MS) := (f_X9_settle ms (5 : Int32)).bind fun ms18 => if (mi ms18 5) < (mi ms18 4) then (f_X9_fit_324 k ms18 v2) else (if (mi ms18 7) ≤ 0 then (f_X9_fit_328 k ms18 v2) else (f_X9_fit_324 k ms18 v2))
def f_X9_fit_294 (k : MS → Int32 → Int32 → Option (Int32 × MS)) (ms : MS) (v2 : Int32) (v3 : Int32) : Option (Int32 × MS) := (f_X9_wrong ms ).bind fun ms25 => f_X9_fit_330 k ms25 v2 v3
def f_X9_fit_103 (k : MS → Int32 → Int32 → Option (Int32 × MS)) (ms : MS) (v3 : Int32) (s0 : Int32) : Option (Int32 × MS) := if s0 = 0 then ((f_X9_nots ms ).bind fun ms38 => k ms38 s0 v3) else (k ms s0 v3)
def f_X9_fit_76 : Nat → MS → Int32 → Int32 → Option (Int32 × MS)
  | 0, _, _, _ => none
  | n + 1, ms, v2, v3 => if v3 = 0 then (f_X9_fit_333 (f_X9_fit_76 n) ms ) else ((f_X9_fine ms ).bind fun r10 => if r10 = 0 then (f_X9_fit_333 (f_X9_fit_76 n) ms ) else (if v2 = 0 then (b2 (f_X9_here ms ) fun r14 ms13 => if r14 = (38 : Int32) then ((f_X9_settle ms13 (4 : Int32)).bind fun ms32 => ixr 110 (mi ms32 7) <| f_X9_fit_330 (f_X9_fit_76 n) (miU (miU (maU ms32 35 ((mi ms32 7)).toNatClampNeg (4 : Int32)) 7 ((mi (maU ms32 35 ((mi ms32 7)).toNatClampNeg (4 : Int32)) 7) + (1 : Int32))) 5 ((mi (miU (maU ms32 35 ((mi ms32 7)).toNatClampNeg (4 : Int32)) 7 ((mi (maU ms32 35 ((mi ms32 7)).toNatClampNeg (4 : Int32)) 7) + (1 : Int32))) 5) + (1 : Int32))) (1 : Int32) v3) else (if r14 = (124 : Int32) then ((f_X9_settle ms13 (5 : Int32)).bind fun ms30 => ixr 110 (mi ms30 7) <| f_X9_fit_330 (f_X9_fit_76 n) (miU (miU (maU ms30 35 ((mi ms30 7)).toNatClampNeg (5 : Int32)) 7 ((mi (maU ms30 35 ((mi ms30 7)).toNatClampNeg (5 : Int32)) 7) + (1 : Int32))) 5 ((mi (miU (maU ms30 35 ((mi ms30 7)).toNatClampNeg (5 : Int32)) 7 ((mi (maU ms30 35 ((mi ms30 7)).toNatClampNeg (5 : Int32)) 7) + (1 : Int32))) 5) + (1 : Int32))) (1 : Int32) v3) else (if r14 = (41 : Int32) then (if (mi ms13 8) ≤ 0 then (f_X9_fit_301 (f_X9_fit_76 n) ms13 v2) else ((f_X9_settle ms13 (5 : Int32)).bind fun ms23 => if (mi ms23 7) ≤ 0 then (f_X9_fit_294 (f_X9_fit_76 n) ms23 v2 v3) else ((ldI (ma ms23 35) 110 ((mi ms23 7) - (1 : Int32))).bind fun q27 => if q27 = (6 : Int32) then ((f_X9_nots (miU (miU (miU ms23 7 ((mi ms23 7) - (1 : Int32))) 8 ((mi (miU ms23 7 ((mi ms23 7) - (1 : Int32))) 8) - (1 : Int32))) 5 ((mi (miU (miU ms23 7 ((mi ms23 7) - (1 : Int32))) 8 ((mi (miU ms23 7 ((mi ms23 7) - (1 : Int32))) 8) - (1 : Int32))) 5) + (1 : Int32))) ).bind fun ms29 => f_X9_fit_330 (f_X9_fit_76 n) ms29 v2 v3) else (f_X9_fit_294 (f_X9_fit_76 n) ms23 v2 v3)))) else (f_X9_fit_301 (f_X9_fit_76 n) ms13 v2)))) else (b2 (f_X9_operand ms ) fun r35 ms34 => if r35 = 0 then (f_X9_fit_103 (f_X9_fit_76 n) ms34 v3 (1 : Int32)) else (f_X9_fit_103 (f_X9_fit_76 n) ms34 v3 (0 : Int32)))))
def f_X9_fit_23 (ms : MS) (v1 : Int32) (s1 : Int32) : Option (Int32 × MS) := b2 (f_X9_may ms s1 (1 : Int32)) fun r3 ms2 => if r3 = 0 then (some ((0 : Int32), ms2)) else (ixr 31 (mi (miU (miU (miU (miU ms2 2 (0 : Int32)) 4 v1) 5 (0 : Int32)) 6 (-1 : Int32)) 3) <| f_X9_fit_76 1000 (miU (miU (maU (miU (miU (miU (miU ms2 2 (0 : Int32)) 4 v1) 5 (0 : Int32)) 6 (-1 : Int32)) 31 ((mi (miU (miU (miU (miU ms2 2 (0 : Int32)) 4 v1) 5 (0 : Int32)) 6 (-1 : Int32)) 3)).toNatClampNeg (0 : Int32)) 7 (0 : Int32)) 8 (0 : Int32)) (1 : Int32) (1 : Int32))
def f_X9_fit_22 (ms : MS) (v1 : Int32) : Option (Int32 × MS) := f_X9_fit_23 ms v1 (0 : Int32)
def f_X9_fit (ms : MS) (v1 : Int32) : Option (Int32 × MS) := if v1 < 0 then (f_X9_fit_22 (miU ms 0 (0 : Int32)) v1) else (if (mi (miU ms 0 (0 : Int32)) 2) < v1 then (f_X9_fit_22 (miU ms 0 (0 : Int32)) v1) else (f_X9_fit_23 (miU ms 0 (0 : Int32)) v1 (1 : Int32)))
def rm_X9_fit : Room := { frames := 3, cells := 0, slots := 0, locals := 65 }
set_option maxHeartbeats 4000000 in
set_option maxRecDepth 100000 in
theorem w_X9_fit_333 {p : Program} {l : Launch} {e : Env} {s : State} {m : MethodId} {args : Array Value} {below : List Frame} {meth : Method} {c : Code} {X : XT} {B : Nat} {cs : CS} {o : Nat → Int64} {r : Int32} {S9 : MS} (E : Ev X B p s m args meth c RX9 cX9_fit 5 (some .int)) (k : MS → Int32 → Int32 → Option (Int32 × MS)) (hk : ∀ (ms : MS) (v2 : Int32) (v3 : Int32) (H : Heap) (locs : List Loc) (ls : Array Slot), k ms v2 v3 = some (r, S9) → Ws X B s.heap H locs (cs, ms, o) → lv_has ls 5 [(0, .ref (X.1 7)), (2, .int v2), (3, .int v3)] → W p l e rm_X9_fit s m args below meth c H locs 0 0 (MQ below (QI X B r (cs, S9, o)) args s 0 0 (Ab B)) (F0 m 76 ls [])) : ∀ (ms : MS) (H : Heap) (locs : List Loc) (ls : Array Slot), f_X9_fit_333 k ms  = some (r, S9) → Ws X B s.heap H locs (cs, ms, o) → lv_has ls 5 [(0, .ref (X.1 7))] → W p l e rm_X9_fit s m args below meth c H locs 0 0 (MQ below (QI X B r (cs, S9, o)) args s 0 0 (Ab B)) (F0 m 333 ls []) := by
  obtain ⟨hx, hb, hml, hown, hts, -⟩ := id E
  intro ms  H locs ls hf hW hl
  unfold f_X9_fit_333 at hf
  refine lv_aload_n hx hb dX9_fit_333 rfl (lv_at hl 0 rfl) ?_
  obtain ⟨r7, hc, hf⟩ := b1_e hf
  refine callVI (As := []) (rest := []) E hW (c_X9_fine l hc) lk_X9_188 rcv_X9 (Nat.le_of_ble_eq_true rfl) (Nat.le_of_ble_eq_true rfl) (Nat.le_of_ble_eq_true rfl) (Nat.le_of_ble_eq_true rfl) hl.1 (Nat.le_of_ble_eq_true rfl) dX9_fit_334 (fun H locs hW => ?_)
  refine lv_if_ne (tgt := 348) hx hb dX9_fit_337 (by decide) (fun h8 => ?_) (fun h8 => ?_)
  · replace hf := ite_f h8 hf
    refine lv_aload_n hx hb dX9_fit_348 rfl (lv_at hl 0 rfl) ?_
    refine rg_X9_174 E hW dX9_fit_349 ?_
    refine lv_bipush (v := (30 : Int32)) hx hb dX9_fit_352 (by decide) ?_
    refine lv_icmp_ne (tgt := 359) hx hb dX9_fit_354 (by decide) (fun h9 => ?_) (fun h9 => ?_)
    · replace hf := ite_f h9 hf
      refine lv_aload_n hx hb dX9_fit_359 rfl (lv_at hl 0 rfl) ?_
      refine lv_dup hx hb dX9_fit_360 rfl ?_
      refine rg_X9_174 E hW dX9_fit_361 ?_
      refine lv_iconst (v := (1 : Int32)) hx hb dX9_fit_364 (by decide) ?_
      refine lv_iadd hx hb dX9_fit_365 ?_
      refine rp_X9_174 E hW dX9_fit_366 (fun H locs hW => ?_)
      refine lv_aload_n hx hb dX9_fit_369 rfl (lv_at hl 0 rfl) ?_
      refine rg_X9_174 E hW dX9_fit_370 ?_
      refine lv_iconst (v := (1 : Int32)) hx hb dX9_fit_373 (by decide) ?_
      refine lv_isub hx hb dX9_fit_374 ?_
      exact retI E hW (e2M hf) dX9_fit_375
    · replace hf := ite_t h9 hf
      refine lv_iconst (v := (-1 : Int32)) hx hb dX9_fit_357 (by decide) ?_
      exact retI E hW (e2M hf) dX9_fit_358
  · replace hf := ite_t h8 hf
    refine lv_bipush (v := (-2 : Int32)) hx hb dX9_fit_340 (by decide) ?_
    refine lv_aload_n hx hb dX9_fit_342 rfl (lv_at hl 0 rfl) ?_
    refine rg_X9_171 E hW dX9_fit_343 ?_
    refine lv_isub hx hb dX9_fit_346 ?_
    exact retI E hW (e2M hf) dX9_fit_347
set_option maxHeartbeats 4000000 in
set_option maxRecDepth 100000 in
theorem w_X9_fit_330 {p : Program} {l : Launch} {e : Env} {s : State} {m : MethodId} {args : Array Value} {below : List Frame} {meth : Method} {c : Code} {X : XT} {B : Nat} {cs : CS} {o : Nat → Int64} {r : Int32} {S9 : MS} (E : Ev X B p s m args meth c RX9 cX9_fit 5 (some .int)) (k : MS → Int32 → Int32 → Option (Int32 × MS)) (hk : ∀ (ms : MS) (v2 : Int32) (v3 : Int32) (H : Heap) (locs : List Loc) (ls : Array Slot), k ms v2 v3 = some (r, S9) → Ws X B s.heap H locs (cs, ms, o) → lv_has ls 5 [(0, .ref (X.1 7)), (2, .int v2), (3, .int v3)] → W p l e rm_X9_fit s m args below meth c H locs 0 0 (MQ below (QI X B r (cs, S9, o)) args s 0 0 (Ab B)) (F0 m 76 ls [])) : ∀ (ms : MS) (v2 : Int32) (v3 : Int32) (H : Heap) (locs : List Loc) (ls : Array Slot), f_X9_fit_330 k ms v2 v3 = some (r, S9) → Ws X B s.heap H locs (cs, ms, o) → lv_has ls 5 [(0, .ref (X.1 7)), (2, .int v2), (3, .int v3)] → W p l e rm_X9_fit s m args below meth c H locs 0 0 (MQ below (QI X B r (cs, S9, o)) args s 0 0 (Ab B)) (F0 m 330 ls []) := by
  obtain ⟨hx, hb, hml, hown, hts, -⟩ := id E
  intro ms v2 v3 H locs ls hf hW hl
  unfold f_X9_fit_330 at hf
  refine lv_goto (tgt := 76) hx hb dX9_fit_330 (by decide) ?_
  exact hk _ _ _ _ _ _ hf hW (lv_sub hl [0, 1, 2] rfl)
set_option maxHeartbeats 4000000 in
set_option maxRecDepth 100000 in
theorem w_X9_fit_328 {p : Program} {l : Launch} {e : Env} {s : State} {m : MethodId} {args : Array Value} {below : List Frame} {meth : Method} {c : Code} {X : XT} {B : Nat} {cs : CS} {o : Nat → Int64} {r : Int32} {S9 : MS} (E : Ev X B p s m args meth c RX9 cX9_fit 5 (some .int)) (k : MS → Int32 → Int32 → Option (Int32 × MS)) (hk : ∀ (ms : MS) (v2 : Int32) (v3 : Int32) (H : Heap) (locs : List Loc) (ls : Array Slot), k ms v2 v3 = some (r, S9) → Ws X B s.heap H locs (cs, ms, o) → lv_has ls 5 [(0, .ref (X.1 7)), (2, .int v2), (3, .int v3)] → W p l e rm_X9_fit s m args below meth c H locs 0 0 (MQ below (QI X B r (cs, S9, o)) args s 0 0 (Ab B)) (F0 m 76 ls [])) : ∀ (ms : MS) (v2 : Int32) (H : Heap) (locs : List Loc) (ls : Array Slot), f_X9_fit_328 k ms v2 = some (r, S9) → Ws X B s.heap H locs (cs, ms, o) → lv_has ls 5 [(0, .ref (X.1 7)), (2, .int v2)] → W p l e rm_X9_fit s m args below meth c H locs 0 0 (MQ below (QI X B r (cs, S9, o)) args s 0 0 (Ab B)) (F0 m 328 ls []) := by
  obtain ⟨hx, hb, hml, hown, hts, -⟩ := id E
  intro ms v2 H locs ls hf hW hl
  unfold f_X9_fit_328 at hf
  refine lv_iconst (v := (0 : Int32)) hx hb dX9_fit_328 (by decide) ?_
  refine lv_istore_n (lv' := [_, _, _]) hx hb dX9_fit_329 rfl hl (by decide) rfl (fun ls hl => ?_)
  exact w_X9_fit_330 E k hk _ _ _ _ _ _ hf hW (lv_sub hl [1, 2, 0] rfl)
set_option maxHeartbeats 4000000 in
set_option maxRecDepth 100000 in
theorem w_X9_fit_324 {p : Program} {l : Launch} {e : Env} {s : State} {m : MethodId} {args : Array Value} {below : List Frame} {meth : Method} {c : Code} {X : XT} {B : Nat} {cs : CS} {o : Nat → Int64} {r : Int32} {S9 : MS} (E : Ev X B p s m args meth c RX9 cX9_fit 5 (some .int)) (k : MS → Int32 → Int32 → Option (Int32 × MS)) (hk : ∀ (ms : MS) (v2 : Int32) (v3 : Int32) (H : Heap) (locs : List Loc) (ls : Array Slot), k ms v2 v3 = some (r, S9) → Ws X B s.heap H locs (cs, ms, o) → lv_has ls 5 [(0, .ref (X.1 7)), (2, .int v2), (3, .int v3)] → W p l e rm_X9_fit s m args below meth c H locs 0 0 (MQ below (QI X B r (cs, S9, o)) args s 0 0 (Ab B)) (F0 m 76 ls [])) : ∀ (ms : MS) (v2 : Int32) (H : Heap) (locs : List Loc) (ls : Array Slot), f_X9_fit_324 k ms v2 = some (r, S9) → Ws X B s.heap H locs (cs, ms, o) → lv_has ls 5 [(0, .ref (X.1 7)), (2, .int v2)] → W p l e rm_X9_fit s m args below meth c H locs 0 0 (MQ below (QI X B r (cs, S9, o)) args s 0 0 (Ab B)) (F0 m 324 ls []) := by
  obtain ⟨hx, hb, hml, hown, hts, -⟩ := id E
  intro ms v2 H locs ls hf hW hl
  unfold f_X9_fit_324 at hf
  refine lv_aload_n hx hb dX9_fit_324 rfl (lv_at hl 0 rfl) ?_
  obtain ⟨ms20, hc, hf⟩ := b1_e hf
  refine callVV (As := []) (rest := []) E hW (c_X9_wrong l hc) lk_X9_185 rcv_X9 (Nat.le_of_ble_eq_true rfl) (Nat.le_of_ble_eq_true rfl) (Nat.le_of_ble_eq_true rfl) (Nat.le_of_ble_eq_true rfl) hl.1 (Nat.le_of_ble_eq_true rfl) dX9_fit_325 (fun H locs hW => ?_)
  exact w_X9_fit_328 E k hk _ _ _ _ _ hf hW (lv_sub hl [0, 1] rfl)
set_option maxHeartbeats 4000000 in
set_option maxRecDepth 100000 in
theorem w_X9_fit_301 {p : Program} {l : Launch} {e : Env} {s : State} {m : MethodId} {args : Array Value} {below : List Frame} {meth : Method} {c : Code} {X : XT} {B : Nat} {cs : CS} {o : Nat → Int64} {r : Int32} {S9 : MS} (E : Ev X B p s m args meth c RX9 cX9_fit 5 (some .int)) (k : MS → Int32 → Int32 → Option (Int32 × MS)) (hk : ∀ (ms : MS) (v2 : Int32) (v3 : Int32) (H : Heap) (locs : List Loc) (ls : Array Slot), k ms v2 v3 = some (r, S9) → Ws X B s.heap H locs (cs, ms, o) → lv_has ls 5 [(0, .ref (X.1 7)), (2, .int v2), (3, .int v3)] → W p l e rm_X9_fit s m args below meth c H locs 0 0 (MQ below (QI X B r (cs, S9, o)) args s 0 0 (Ab B)) (F0 m 76 ls [])) : ∀ (ms : MS) (v2 : Int32) (H : Heap) (locs : List Loc) (ls : Array Slot), f_X9_fit_301 k ms v2 = some (r, S9) → Ws X B s.heap H locs (cs, ms, o) → lv_has ls 5 [(0, .ref (X.1 7)), (2, .int v2)] → W p l e rm_X9_fit s m args below meth c H locs 0 0 (MQ below (QI X B r (cs, S9, o)) args s 0 0 (Ab B)) (F0 m 301 ls []) := by
  obtain ⟨hx, hb, hml, hown, hts, -⟩ := id E
  intro ms v2 H locs ls hf hW hl
  unfold f_X9_fit_301 at hf
  refine lv_aload_n hx hb dX9_fit_301 rfl (lv_at hl 0 rfl) ?_
  refine lv_iconst (v := (5 : Int32)) hx hb dX9_fit_302 (by decide) ?_
  obtain ⟨ms18, hc, hf⟩ := b1_e hf
  refine callVV (As := [.int _]) (rest := []) E hW (c_X9_settle l hc) lk_X9_211 rcv_X9 (Nat.le_of_ble_eq_true rfl) (Nat.le_of_ble_eq_true rfl) (Nat.le_of_ble_eq_true rfl) (Nat.le_of_ble_eq_true rfl) hl.1 (Nat.le_of_ble_eq_true rfl) dX9_fit_303 (fun H locs hW => ?_)
  refine lv_aload_n hx hb dX9_fit_306 rfl (lv_at hl 0 rfl) ?_
  refine rg_X9_165 E hW dX9_fit_307 ?_
  refine lv_aload_n hx hb dX9_fit_310 rfl (lv_at hl 0 rfl) ?_
  refine rg_X9_168 E hW dX9_fit_311 ?_
  refine lv_icmp_lt (tgt := 324) hx hb dX9_fit_314 (by decide) (fun h19 => ?_) (fun h19 => ?_)
  · replace hf := ite_t h19 hf
    exact w_X9_fit_324 E k hk _ _ _ _ _ hf hW (lv_sub hl [0, 1] rfl)
  · replace hf := ite_f h19 hf
    refine lv_aload_n hx hb dX9_fit_317 rfl (lv_at hl 0 rfl) ?_
    refine rg_X9_195 E hW dX9_fit_318 ?_
    refine lv_if_le (tgt := 328) hx hb dX9_fit_321 (by decide) (fun h21 => ?_) (fun h21 => ?_)
    · replace hf := ite_t h21 hf
      exact w_X9_fit_328 E k hk _ _ _ _ _ hf hW (lv_sub hl [0, 1] rfl)
    · replace hf := ite_f h21 hf
      exact w_X9_fit_324 E k hk _ _ _ _ _ hf hW (lv_sub hl [0, 1] rfl)
set_option maxHeartbeats 4000000 in
set_option maxRecDepth 100000 in
theorem w_X9_fit_294 {p : Program} {l : Launch} {e : Env} {s : State} {m : MethodId} {args : Array Value} {below : List Frame} {meth : Method} {c : Code} {X : XT} {B : Nat} {cs : CS} {o : Nat → Int64} {r : Int32} {S9 : MS} (E : Ev X B p s m args meth c RX9 cX9_fit 5 (some .int)) (k : MS → Int32 → Int32 → Option (Int32 × MS)) (hk : ∀ (ms : MS) (v2 : Int32) (v3 : Int32) (H : Heap) (locs : List Loc) (ls : Array Slot), k ms v2 v3 = some (r, S9) → Ws X B s.heap H locs (cs, ms, o) → lv_has ls 5 [(0, .ref (X.1 7)), (2, .int v2), (3, .int v3)] → W p l e rm_X9_fit s m args below meth c H locs 0 0 (MQ below (QI X B r (cs, S9, o)) args s 0 0 (Ab B)) (F0 m 76 ls [])) : ∀ (ms : MS) (v2 : Int32) (v3 : Int32) (H : Heap) (locs : List Loc) (ls : Array Slot), f_X9_fit_294 k ms v2 v3 = some (r, S9) → Ws X B s.heap H locs (cs, ms, o) → lv_has ls 5 [(0, .ref (X.1 7)), (2, .int v2), (3, .int v3)] → W p l e rm_X9_fit s m args below meth c H locs 0 0 (MQ below (QI X B r (cs, S9, o)) args s 0 0 (Ab B)) (F0 m 294 ls []) := by
  obtain ⟨hx, hb, hml, hown, hts, -⟩ := id E
  intro ms v2 v3 H locs ls hf hW hl
  unfold f_X9_fit_294 at hf
  refine lv_aload_n hx hb dX9_fit_294 rfl (lv_at hl 0 rfl) ?_
  obtain ⟨ms25, hc, hf⟩ := b1_e hf
  refine callVV (As := []) (rest := []) E hW (c_X9_wrong l hc) lk_X9_185 rcv_X9 (Nat.le_of_ble_eq_true rfl) (Nat.le_of_ble_eq_true rfl) (Nat.le_of_ble_eq_true rfl) (Nat.le_of_ble_eq_true rfl) hl.1 (Nat.le_of_ble_eq_true rfl) dX9_fit_295 (fun H locs hW => ?_)
  refine lv_goto (tgt := 330) hx hb dX9_fit_298 (by decide) ?_
  exact w_X9_fit_330 E k hk _ _ _ _ _ _ hf hW (lv_sub hl [0, 1, 2] rfl)
set_option maxHeartbeats 4000000 in
set_option maxRecDepth 100000 in
theorem w_X9_fit_103 {p : Program} {l : Launch} {e : Env} {s : State} {m : MethodId} {args : Array Value} {below : List Frame} {meth : Method} {c : Code} {X : XT} {B : Nat} {cs : CS} {o : Nat → Int64} {r : Int32} {S9 : MS} (E : Ev X B p s m args meth c RX9 cX9_fit 5 (some .int)) (k : MS → Int32 → Int32 → Option (Int32 × MS)) (hk : ∀ (ms : MS) (v2 : Int32) (v3 : Int32) (H : Heap) (locs : List Loc) (ls : Array Slot), k ms v2 v3 = some (r, S9) → Ws X B s.heap H locs (cs, ms, o) → lv_has ls 5 [(0, .ref (X.1 7)), (2, .int v2), (3, .int v3)] → W p l e rm_X9_fit s m args below meth c H locs 0 0 (MQ below (QI X B r (cs, S9, o)) args s 0 0 (Ab B)) (F0 m 76 ls [])) : ∀ (ms : MS) (v3 : Int32) (s0 : Int32) (H : Heap) (locs : List Loc) (ls : Array Slot), f_X9_fit_103 k ms v3 s0 = some (r, S9) → Ws X B s.heap H locs (cs, ms, o) → lv_has ls 5 [(0, .ref (X.1 7)), (3, .int v3)] → W p l e rm_X9_fit s m args below meth c H locs 0 0 (MQ below (QI X B r (cs, S9, o)) args s 0 0 (Ab B)) (F0 m 103 ls [.int s0]) := by
  obtain ⟨hx, hb, hml, hown, hts, -⟩ := id E
  intro ms v3 s0 H locs ls hf hW hl
  unfold f_X9_fit_103 at hf
  refine lv_istore_n (lv' := [_, _, _]) hx hb dX9_fit_103 rfl hl (by decide) rfl (fun ls hl => ?_)
  refine lv_iload_n hx hb dX9_fit_104 rfl (lv_at hl 0 rfl) ?_
  refine lv_if_ne (tgt := 76) hx hb dX9_fit_105 (by decide) (fun h37 => ?_) (fun h37 => ?_)
  · replace hf := ite_f h37 hf
    exact hk _ _ _ _ _ _ hf hW (lv_sub hl [1, 0, 2] rfl)
  · replace hf := ite_t h37 hf
    refine lv_aload_n hx hb dX9_fit_108 rfl (lv_at hl 1 rfl) ?_
    obtain ⟨ms38, hc, hf⟩ := b1_e hf
    refine callVV (As := []) (rest := []) E hW (c_X9_nots l hc) lk_X9_208 rcv_X9 (Nat.le_of_ble_eq_true rfl) (Nat.le_of_ble_eq_true rfl) (Nat.le_of_ble_eq_true rfl) (Nat.le_of_ble_eq_true rfl) hl.1 (Nat.le_of_ble_eq_true rfl) dX9_fit_109 (fun H locs hW => ?_)
    refine lv_goto (tgt := 76) hx hb dX9_fit_112 (by decide) ?_
    exact hk _ _ _ _ _ _ hf hW (lv_sub hl [1, 0, 2] rfl)
set_option maxHeartbeats 4000000 in
set_option maxRecDepth 100000 in
theorem w_X9_fit_76 {p : Program} {l : Launch} {e : Env} {s : State} {m : MethodId} {args : Array Value} {below : List Frame} {meth : Method} {c : Code} {X : XT} {B : Nat} {cs : CS} {o : Nat → Int64} {r : Int32} {S9 : MS} (E : Ev X B p s m args meth c RX9 cX9_fit 5 (some .int)) : ∀ (n : Nat) (ms : MS) (v2 : Int32) (v3 : Int32) (H : Heap) (locs : List Loc) (ls : Array Slot), f_X9_fit_76 n ms v2 v3 = some (r, S9) → Ws X B s.heap H locs (cs, ms, o) → lv_has ls 5 [(0, .ref (X.1 7)), (2, .int v2), (3, .int v3)] → W p l e rm_X9_fit s m args below meth c H locs 0 0 (MQ below (QI X B r (cs, S9, o)) args s 0 0 (Ab B)) (F0 m 76 ls []) := by
  obtain ⟨hx, hb, hml, hown, hts, -⟩ := id E
  intro n
  induction n with
  | zero => intro ms v2 v3 H locs ls hf; exact absurd hf nofun
  | succ n ih =>
    intro ms v2 v3 H locs ls hf hW hl
    rw [f_X9_fit_76] at hf
    refine lv_iload_n hx hb dX9_fit_76 rfl (lv_at hl 2 rfl) ?_
    refine lv_if_eq (tgt := 333) hx hb dX9_fit_77 (by decide) (fun h6 => ?_) (fun h6 => ?_)
    · replace hf := ite_t h6 hf
      exact w_X9_fit_333 E (f_X9_fit_76 n) ih _ _ _ _ hf hW (lv_sub hl [0] rfl)
    · replace hf := ite_f h6 hf
      refine lv_aload_n hx hb dX9_fit_80 rfl (lv_at hl 0 rfl) ?_
      obtain ⟨r10, hc, hf⟩ := b1_e hf
      refine callVI (As := []) (rest := []) E hW (c_X9_fine l hc) lk_X9_188 rcv_X9 (Nat.le_of_ble_eq_true rfl) (Nat.le_of_ble_eq_true rfl) (Nat.le_of_ble_eq_true rfl) (Nat.le_of_ble_eq_true rfl) hl.1 (Nat.le_of_ble_eq_true rfl) dX9_fit_81 (fun H locs hW => ?_)
      refine lv_if_eq (tgt := 333) hx hb dX9_fit_84 (by decide) (fun h11 => ?_) (fun h11 => ?_)
      · replace hf := ite_t h11 hf
        exact w_X9_fit_333 E (f_X9_fit_76 n) ih _ _ _ _ hf hW (lv_sub hl [0] rfl)
      · replace hf := ite_f h11 hf
        refine lv_iload_n hx hb dX9_fit_87 rfl (lv_at hl 1 rfl) ?_
        refine lv_if_eq (tgt := 115) hx hb dX9_fit_88 (by decide) (fun h12 => ?_) (fun h12 => ?_)
        · replace hf := ite_t h12 hf
          refine lv_aload_n hx hb dX9_fit_115 rfl (lv_at hl 0 rfl) ?_
          obtain ⟨r14, ms13, hc, hf⟩ := b2_e hf
          refine callVI (As := []) (rest := []) E hW (c_X9_here l hc) lk_X9_177 rcv_X9 (Nat.le_of_ble_eq_true rfl) (Nat.le_of_ble_eq_true rfl) (Nat.le_of_ble_eq_true rfl) (Nat.le_of_ble_eq_true rfl) hl.1 (Nat.le_of_ble_eq_true rfl) dX9_fit_116 (fun H locs hW => ?_)
          refine lv_istore (lv' := [_, _, _, _]) hx hb dX9_fit_119 hl (by decide) rfl (fun ls hl => ?_)
          refine lv_iload hx hb dX9_fit_121 (lv_at hl 0 rfl) ?_
          refine lv_bipush (v := (38 : Int32)) hx hb dX9_fit_123 (by decide) ?_
          refine lv_icmp_ne (tgt := 168) hx hb dX9_fit_125 (by decide) (fun h15 => ?_) (fun h15 => ?_)
          · replace hf := ite_f h15 hf
            refine lv_iload hx hb dX9_fit_168 (lv_at hl 0 rfl) ?_
            refine lv_bipush (v := (124 : Int32)) hx hb dX9_fit_170 (by decide) ?_
            refine lv_icmp_ne (tgt := 215) hx hb dX9_fit_172 (by decide) (fun h16 => ?_) (fun h16 => ?_)
            · replace hf := ite_f h16 hf
              refine lv_iload hx hb dX9_fit_215 (lv_at hl 0 rfl) ?_
              refine lv_bipush (v := (41 : Int32)) hx hb dX9_fit_217 (by decide) ?_
              refine lv_icmp_ne (tgt := 301) hx hb dX9_fit_219 (by decide) (fun h17 => ?_) (fun h17 => ?_)
              · replace hf := ite_f h17 hf
                exact w_X9_fit_301 E (f_X9_fit_76 n) ih _ _ _ _ _ hf hW (lv_sub hl [1, 2] rfl)
              · replace hf := ite_t h17 hf
                refine lv_aload_n hx hb dX9_fit_222 rfl (lv_at hl 1 rfl) ?_
                refine rg_X9_192 E hW dX9_fit_223 ?_
                refine lv_if_le (tgt := 301) hx hb dX9_fit_226 (by decide) (fun h22 => ?_) (fun h22 => ?_)
                · replace hf := ite_t h22 hf
                  exact w_X9_fit_301 E (f_X9_fit_76 n) ih _ _ _ _ _ hf hW (lv_sub hl [1, 2] rfl)
                · replace hf := ite_f h22 hf
                  refine lv_aload_n hx hb dX9_fit_229 rfl (lv_at hl 1 rfl) ?_
                  refine lv_iconst (v := (5 : Int32)) hx hb dX9_fit_230 (by decide) ?_
                  obtain ⟨ms23, hc, hf⟩ := b1_e hf
                  refine callVV (As := [.int _]) (rest := []) E hW (c_X9_settle l hc) lk_X9_211 rcv_X9 (Nat.le_of_ble_eq_true rfl) (Nat.le_of_ble_eq_true rfl) (Nat.le_of_ble_eq_true rfl) (Nat.le_of_ble_eq_true rfl) hl.1 (Nat.le_of_ble_eq_true rfl) dX9_fit_231 (fun H locs hW => ?_)
                  refine lv_aload_n hx hb dX9_fit_234 rfl (lv_at hl 1 rfl) ?_
                  refine rg_X9_195 E hW dX9_fit_235 ?_
                  refine lv_if_le (tgt := 294) hx hb dX9_fit_238 (by decide) (fun h24 => ?_) (fun h24 => ?_)
                  · replace hf := ite_t h24 hf
                    exact w_X9_fit_294 E (f_X9_fit_76 n) ih _ _ _ _ _ _ hf hW (lv_sub hl [1, 2, 3] rfl)
                  · replace hf := ite_f h24 hf
                    refine lv_aload_n hx hb dX9_fit_241 rfl (lv_at hl 1 rfl) ?_
                    refine rg_X9_39 E hW dX9_fit_242 ?_
                    refine lv_aload_n hx hb dX9_fit_245 rfl (lv_at hl 1 rfl) ?_
                    refine rg_X9_195 E hW dX9_fit_246 ?_
                    refine lv_iconst (v := (1 : Int32)) hx hb dX9_fit_249 (by decide) ?_
                    refine lv_isub hx hb dX9_fit_250 ?_
                    obtain ⟨v26, hf⟩ := ldI_e hf
                    refine ra_35 E hW v26 dX9_fit_251 ?_
                    refine lv_bipush (v := (6 : Int32)) hx hb dX9_fit_252 (by decide) ?_
                    refine lv_icmp_ne (tgt := 294) hx hb dX9_fit_254 (by decide) (fun h28 => ?_) (fun h28 => ?_)
                    · replace hf := ite_f h28 hf
                      exact w_X9_fit_294 E (f_X9_fit_76 n) ih _ _ _ _ _ _ hf hW (lv_sub hl [1, 2, 3] rfl)
                    · replace hf := ite_t h28 hf
                      refine lv_aload_n hx hb dX9_fit_257 rfl (lv_at hl 1 rfl) ?_
                      refine lv_dup hx hb dX9_fit_258 rfl ?_
                      refine rg_X9_195 E hW dX9_fit_259 ?_
                      refine lv_iconst (v := (1 : Int32)) hx hb dX9_fit_262 (by decide) ?_
                      refine lv_isub hx hb dX9_fit_263 ?_
                      refine rp_X9_195 E hW dX9_fit_264 (fun H locs hW => ?_)
                      refine lv_aload_n hx hb dX9_fit_267 rfl (lv_at hl 1 rfl) ?_
                      refine lv_dup hx hb dX9_fit_268 rfl ?_
                      refine rg_X9_192 E hW dX9_fit_269 ?_
                      refine lv_iconst (v := (1 : Int32)) hx hb dX9_fit_272 (by decide) ?_
                      refine lv_isub hx hb dX9_fit_273 ?_
                      refine rp_X9_192 E hW dX9_fit_274 (fun H locs hW => ?_)
                      refine lv_aload_n hx hb dX9_fit_277 rfl (lv_at hl 1 rfl) ?_
                      refine lv_dup hx hb dX9_fit_278 rfl ?_
                      refine rg_X9_165 E hW dX9_fit_279 ?_
                      refine lv_iconst (v := (1 : Int32)) hx hb dX9_fit_282 (by decide) ?_
                      refine lv_iadd hx hb dX9_fit_283 ?_
                      refine rp_X9_165 E hW dX9_fit_284 (fun H locs hW => ?_)
                      refine lv_aload_n hx hb dX9_fit_287 rfl (lv_at hl 1 rfl) ?_
                      obtain ⟨ms29, hc, hf⟩ := b1_e hf
                      refine callVV (As := []) (rest := []) E hW (c_X9_nots l hc) lk_X9_208 rcv_X9 (Nat.le_of_ble_eq_true rfl) (Nat.le_of_ble_eq_true rfl) (Nat.le_of_ble_eq_true rfl) (Nat.le_of_ble_eq_true rfl) hl.1 (Nat.le_of_ble_eq_true rfl) dX9_fit_288 (fun H locs hW => ?_)
                      refine lv_goto (tgt := 330) hx hb dX9_fit_291 (by decide) ?_
                      exact w_X9_fit_330 E (f_X9_fit_76 n) ih _ _ _ _ _ _ hf hW (lv_sub hl [1, 2, 3] rfl)
            · replace hf := ite_t h16 hf
              refine lv_aload_n hx hb dX9_fit_175 rfl (lv_at hl 1 rfl) ?_
              refine lv_iconst (v := (5 : Int32)) hx hb dX9_fit_176 (by decide) ?_
              obtain ⟨ms30, hc, hf⟩ := b1_e hf
              refine callVV (As := [.int _]) (rest := []) E hW (c_X9_settle l hc) lk_X9_211 rcv_X9 (Nat.le_of_ble_eq_true rfl) (Nat.le_of_ble_eq_true rfl) (Nat.le_of_ble_eq_true rfl) (Nat.le_of_ble_eq_true rfl) hl.1 (Nat.le_of_ble_eq_true rfl) dX9_fit_177 (fun H locs hW => ?_)
              refine lv_aload_n hx hb dX9_fit_180 rfl (lv_at hl 1 rfl) ?_
              refine rg_X9_39 E hW dX9_fit_181 ?_
              refine lv_aload_n hx hb dX9_fit_184 rfl (lv_at hl 1 rfl) ?_
              refine rg_X9_195 E hW dX9_fit_185 ?_
              refine lv_iconst (v := (5 : Int32)) hx hb dX9_fit_188 (by decide) ?_
              obtain ⟨v31, hf⟩ := ixr_e hf
              refine rs_35 E hW v31 dX9_fit_189 (fun H locs hW => ?_)
              refine lv_aload_n hx hb dX9_fit_190 rfl (lv_at hl 1 rfl) ?_
              refine lv_dup hx hb dX9_fit_191 rfl ?_
              refine rg_X9_195 E hW dX9_fit_192 ?_
              refine lv_iconst (v := (1 : Int32)) hx hb dX9_fit_195 (by decide) ?_
              refine lv_iadd hx hb dX9_fit_196 ?_
              refine rp_X9_195 E hW dX9_fit_197 (fun H locs hW => ?_)
              refine lv_aload_n hx hb dX9_fit_200 rfl (lv_at hl 1 rfl) ?_
              refine lv_dup hx hb dX9_fit_201 rfl ?_
              refine rg_X9_165 E hW dX9_fit_202 ?_
              refine lv_iconst (v := (1 : Int32)) hx hb dX9_fit_205 (by decide) ?_
              refine lv_iadd hx hb dX9_fit_206 ?_
              refine rp_X9_165 E hW dX9_fit_207 (fun H locs hW => ?_)
              refine lv_iconst (v := (1 : Int32)) hx hb dX9_fit_210 (by decide) ?_
              refine lv_istore_n (lv' := [_, _, _, _]) hx hb dX9_fit_211 rfl hl (by decide) rfl (fun ls hl => ?_)
              refine lv_goto (tgt := 330) hx hb dX9_fit_212 (by decide) ?_
              exact w_X9_fit_330 E (f_X9_fit_76 n) ih _ _ _ _ _ _ hf hW (lv_sub hl [2, 0, 3] rfl)
          · replace hf := ite_t h15 hf
            refine lv_aload_n hx hb dX9_fit_128 rfl (lv_at hl 1 rfl) ?_
            refine lv_iconst (v := (4 : Int32)) hx hb dX9_fit_129 (by decide) ?_
            obtain ⟨ms32, hc, hf⟩ := b1_e hf
            refine callVV (As := [.int _]) (rest := []) E hW (c_X9_settle l hc) lk_X9_211 rcv_X9 (Nat.le_of_ble_eq_true rfl) (Nat.le_of_ble_eq_true rfl) (Nat.le_of_ble_eq_true rfl) (Nat.le_of_ble_eq_true rfl) hl.1 (Nat.le_of_ble_eq_true rfl) dX9_fit_130 (fun H locs hW => ?_)
            refine lv_aload_n hx hb dX9_fit_133 rfl (lv_at hl 1 rfl) ?_
            refine rg_X9_39 E hW dX9_fit_134 ?_
            refine lv_aload_n hx hb dX9_fit_137 rfl (lv_at hl 1 rfl) ?_
            refine rg_X9_195 E hW dX9_fit_138 ?_
            refine lv_iconst (v := (4 : Int32)) hx hb dX9_fit_141 (by decide) ?_
            obtain ⟨v33, hf⟩ := ixr_e hf
            refine rs_35 E hW v33 dX9_fit_142 (fun H locs hW => ?_)
            refine lv_aload_n hx hb dX9_fit_143 rfl (lv_at hl 1 rfl) ?_
            refine lv_dup hx hb dX9_fit_144 rfl ?_
            refine rg_X9_195 E hW dX9_fit_145 ?_
            refine lv_iconst (v := (1 : Int32)) hx hb dX9_fit_148 (by decide) ?_
            refine lv_iadd hx hb dX9_fit_149 ?_
            refine rp_X9_195 E hW dX9_fit_150 (fun H locs hW => ?_)
            refine lv_aload_n hx hb dX9_fit_153 rfl (lv_at hl 1 rfl) ?_
            refine lv_dup hx hb dX9_fit_154 rfl ?_
            refine rg_X9_165 E hW dX9_fit_155 ?_
            refine lv_iconst (v := (1 : Int32)) hx hb dX9_fit_158 (by decide) ?_
            refine lv_iadd hx hb dX9_fit_159 ?_
            refine rp_X9_165 E hW dX9_fit_160 (fun H locs hW => ?_)
            refine lv_iconst (v := (1 : Int32)) hx hb dX9_fit_163 (by decide) ?_
            refine lv_istore_n (lv' := [_, _, _, _]) hx hb dX9_fit_164 rfl hl (by decide) rfl (fun ls hl => ?_)
            refine lv_goto (tgt := 330) hx hb dX9_fit_165 (by decide) ?_
            exact w_X9_fit_330 E (f_X9_fit_76 n) ih _ _ _ _ _ _ hf hW (lv_sub hl [2, 0, 3] rfl)
        · replace hf := ite_f h12 hf
          refine lv_aload_n hx hb dX9_fit_91 rfl (lv_at hl 0 rfl) ?_
          obtain ⟨r35, ms34, hc, hf⟩ := b2_e hf
          refine callVI (As := []) (rest := []) E hW (c_X9_operand l hc) lk_X9_205 rcv_X9 (Nat.le_of_ble_eq_true rfl) (Nat.le_of_ble_eq_true rfl) (Nat.le_of_ble_eq_true rfl) (Nat.le_of_ble_eq_true rfl) hl.1 (Nat.le_of_ble_eq_true rfl) dX9_fit_92 (fun H locs hW => ?_)
          refine lv_if_ne (tgt := 102) hx hb dX9_fit_95 (by decide) (fun h36 => ?_) (fun h36 => ?_)
          · replace hf := ite_f h36 hf
            refine lv_iconst (v := (0 : Int32)) hx hb dX9_fit_102 (by decide) ?_
            exact w_X9_fit_103 E (f_X9_fit_76 n) ih _ _ _ _ _ _ hf hW (lv_sub hl [0, 2] rfl)
          · replace hf := ite_t h36 hf
            refine lv_iconst (v := (1 : Int32)) hx hb dX9_fit_98 (by decide) ?_
            refine lv_goto (tgt := 103) hx hb dX9_fit_99 (by decide) ?_
            exact w_X9_fit_103 E (f_X9_fit_76 n) ih _ _ _ _ _ _ hf hW (lv_sub hl [0, 2] rfl)
set_option maxHeartbeats 4000000 in
set_option maxRecDepth 100000 in
theorem w_X9_fit_23 {p : Program} {l : Launch} {e : Env} {s : State} {m : MethodId} {args : Array Value} {below : List Frame} {meth : Method} {c : Code} {X : XT} {B : Nat} {cs : CS} {o : Nat → Int64} {r : Int32} {S9 : MS} (E : Ev X B p s m args meth c RX9 cX9_fit 5 (some .int)) : ∀ (ms : MS) (v1 : Int32) (s1 : Int32) (H : Heap) (locs : List Loc) (ls : Array Slot), f_X9_fit_23 ms v1 s1 = some (r, S9) → Ws X B s.heap H locs (cs, ms, o) → lv_has ls 5 [(0, .ref (X.1 7)), (1, .int v1)] → W p l e rm_X9_fit s m args below meth c H locs 0 0 (MQ below (QI X B r (cs, S9, o)) args s 0 0 (Ab B)) (F0 m 23 ls [.int s1, .ref (X.1 7)]) := by
  obtain ⟨hx, hb, hml, hown, hts, -⟩ := id E
  intro ms v1 s1 H locs ls hf hW hl
  unfold f_X9_fit_23 at hf
  refine lv_iconst (v := (1 : Int32)) hx hb dX9_fit_23 (by decide) ?_
  obtain ⟨r3, ms2, hc, hf⟩ := b2_e hf
  refine callVI (As := [.int _, .int _]) (rest := []) E hW (c_X9_may l hc) lk_X9_151 rcv_X9 (Nat.le_of_ble_eq_true rfl) (Nat.le_of_ble_eq_true rfl) (Nat.le_of_ble_eq_true rfl) (Nat.le_of_ble_eq_true rfl) hl.1 (Nat.le_of_ble_eq_true rfl) dX9_fit_24 (fun H locs hW => ?_)
  refine lv_if_ne (tgt := 32) hx hb dX9_fit_27 (by decide) (fun h4 => ?_) (fun h4 => ?_)
  · replace hf := ite_f h4 hf
    refine lv_aload_n hx hb dX9_fit_32 rfl (lv_at hl 0 rfl) ?_
    refine lv_iconst (v := (0 : Int32)) hx hb dX9_fit_33 (by decide) ?_
    refine rp_X9_162 E hW dX9_fit_34 (fun H locs hW => ?_)
    refine lv_aload_n hx hb dX9_fit_37 rfl (lv_at hl 0 rfl) ?_
    refine lv_iload_n hx hb dX9_fit_38 rfl (lv_at hl 1 rfl) ?_
    refine rp_X9_168 E hW dX9_fit_39 (fun H locs hW => ?_)
    refine lv_aload_n hx hb dX9_fit_42 rfl (lv_at hl 0 rfl) ?_
    refine lv_iconst (v := (0 : Int32)) hx hb dX9_fit_43 (by decide) ?_
    refine rp_X9_165 E hW dX9_fit_44 (fun H locs hW => ?_)
    refine lv_aload_n hx hb dX9_fit_47 rfl (lv_at hl 0 rfl) ?_
    refine lv_iconst (v := (-1 : Int32)) hx hb dX9_fit_48 (by decide) ?_
    refine rp_X9_171 E hW dX9_fit_49 (fun H locs hW => ?_)
    refine lv_aload_n hx hb dX9_fit_52 rfl (lv_at hl 0 rfl) ?_
    refine rg_X9_27 E hW dX9_fit_53 ?_
    refine lv_aload_n hx hb dX9_fit_56 rfl (lv_at hl 0 rfl) ?_
    refine rg_X9_174 E hW dX9_fit_57 ?_
    refine lv_iconst (v := (0 : Int32)) hx hb dX9_fit_60 (by decide) ?_
    obtain ⟨v5, hf⟩ := ixr_e hf
    refine rs_31 E hW v5 dX9_fit_61 (fun H locs hW => ?_)
    refine lv_aload_n hx hb dX9_fit_62 rfl (lv_at hl 0 rfl) ?_
    refine lv_iconst (v := (0 : Int32)) hx hb dX9_fit_63 (by decide) ?_
    refine rp_X9_195 E hW dX9_fit_64 (fun H locs hW => ?_)
    refine lv_aload_n hx hb dX9_fit_67 rfl (lv_at hl 0 rfl) ?_
    refine lv_iconst (v := (0 : Int32)) hx hb dX9_fit_68 (by decide) ?_
    refine rp_X9_192 E hW dX9_fit_69 (fun H locs hW => ?_)
    refine lv_iconst (v := (1 : Int32)) hx hb dX9_fit_72 (by decide) ?_
    refine lv_istore_n (lv' := [_, _, _]) hx hb dX9_fit_73 rfl hl (by decide) rfl (fun ls hl => ?_)
    refine lv_iconst (v := (1 : Int32)) hx hb dX9_fit_74 (by decide) ?_
    refine lv_istore_n (lv' := [_, _, _, _]) hx hb dX9_fit_75 rfl hl (by decide) rfl (fun ls hl => ?_)
    exact w_X9_fit_76 E 1000 _ _ _ _ _ _ hf hW (lv_sub hl [2, 1, 0] rfl)
  · replace hf := ite_t h4 hf
    refine lv_iconst (v := (0 : Int32)) hx hb dX9_fit_30 (by decide) ?_
    exact retI E hW (e2M hf) dX9_fit_31
set_option maxHeartbeats 4000000 in
set_option maxRecDepth 100000 in
theorem w_X9_fit_22 {p : Program} {l : Launch} {e : Env} {s : State} {m : MethodId} {args : Array Value} {below : List Frame} {meth : Method} {c : Code} {X : XT} {B : Nat} {cs : CS} {o : Nat → Int64} {r : Int32} {S9 : MS} (E : Ev X B p s m args meth c RX9 cX9_fit 5 (some .int)) : ∀ (ms : MS) (v1 : Int32) (H : Heap) (locs : List Loc) (ls : Array Slot), f_X9_fit_22 ms v1 = some (r, S9) → Ws X B s.heap H locs (cs, ms, o) → lv_has ls 5 [(0, .ref (X.1 7)), (1, .int v1)] → W p l e rm_X9_fit s m args below meth c H locs 0 0 (MQ below (QI X B r (cs, S9, o)) args s 0 0 (Ab B)) (F0 m 22 ls [.ref (X.1 7)]) := by
  obtain ⟨hx, hb, hml, hown, hts, -⟩ := id E
  intro ms v1 H locs ls hf hW hl
  unfold f_X9_fit_22 at hf
  refine lv_iconst (v := (0 : Int32)) hx hb dX9_fit_22 (by decide) ?_
  exact w_X9_fit_23 E _ _ _ _ _ _ hf hW (lv_sub hl [0, 1] rfl)
set_option maxHeartbeats 4000000 in
set_option maxRecDepth 100000 in
theorem c_X9_fit (l : Launch) {X : XT} {B : Nat} {cs : CS} {ms : MS} {o : Nat → Int64} {v1 : Int32} {r : Int32} {S9 : MS} (hf : f_X9_fit ms v1 = some (r, S9)) : Met l yX9_fit (.code yX9_fit cX9_fit 5 (some .int) :: BIG) rm_X9_fit (Pre X B (cs, ms, o) [.ref (X.1 7), .int v1]) (QI X B r (cs, S9, o)) 0 0 (Ab B) := by
  refine entry (by decide +kernel) rfl (Nat.le_of_ble_eq_true rfl) (fun p e s m below meth c ls E hW hl => ?_)
  obtain ⟨hx, hb, hml, hown, hts, -⟩ := id E
  replace hl : lv_has ls 5 [(0, .ref (X.1 7)), (1, .int v1)] := hl
  unfold f_X9_fit at hf
  refine lv_aload_n hx hb dX9_fit_0 rfl (lv_at hl 0 rfl) ?_
  refine lv_iconst (v := (0 : Int32)) hx hb dX9_fit_1 (by decide) ?_
  refine rp_X9_1 E hW dX9_fit_2 (fun H locs hW => ?_)
  refine lv_aload_n hx hb dX9_fit_5 rfl (lv_at hl 0 rfl) ?_
  refine lv_iload_n hx hb dX9_fit_6 rfl (lv_at hl 1 rfl) ?_
  refine lv_if_lt (tgt := 22) hx hb dX9_fit_7 (by decide) (fun h1 => ?_) (fun h1 => ?_)
  · replace hf := ite_t h1 hf
    exact w_X9_fit_22 E _ _ _ _ _ hf hW (lv_sub hl [0, 1] rfl)
  · replace hf := ite_f h1 hf
    refine lv_iload_n hx hb dX9_fit_10 rfl (lv_at hl 1 rfl) ?_
    refine lv_aload_n hx hb dX9_fit_11 rfl (lv_at hl 0 rfl) ?_
    refine rg_X9_162 E hW dX9_fit_12 ?_
    refine lv_icmp_gt (tgt := 22) hx hb dX9_fit_15 (by decide) (fun h39 => ?_) (fun h39 => ?_)
    · replace hf := ite_t h39 hf
      exact w_X9_fit_22 E _ _ _ _ _ hf hW (lv_sub hl [0, 1] rfl)
    · replace hf := ite_f h39 hf
      refine lv_iconst (v := (1 : Int32)) hx hb dX9_fit_18 (by decide) ?_
      refine lv_goto (tgt := 23) hx hb dX9_fit_19 (by decide) ?_
      exact w_X9_fit_23 E _ _ _ _ _ _ hf hW (lv_sub hl [0, 1] rfl)
def f_X9_asks_9 : Nat → MS → Int32 → Int32 → Int32 → Int32 → Int32 → Int32 → Option (Int32 × MS)
  | 0, _, _, _, _, _, _, _ => none
  | n + 1, ms, v1, v2, v3, v4, v5, v6 => (ldI (ma ms 31) 31 v1).bind fun q2 => if (((100 : Int32) * v1) + q2) ≤ v6 then ((ldI (ma ms 36) 110 (0 : Int32)).bind fun q5 => gd (q5 = 0 ∨ q5 = 1) <| some (q5, ms)) else ((ldI (ma ms 32) 3200 v6).bind fun q8 => if q8 = (0 : Int32) then ((ldI (ma ms 33) 3200 v6).bind fun q12 => if v2 = q12 then (ixr 110 v5 <| f_X9_asks_9 n (maU ms 36 (v5).toNatClampNeg (vp_nar .boolean (1 : Int32))) v1 v2 v3 v4 (v5 + (1 : Int32)) (v6 + (1 : Int32))) else (ixr 110 v5 <| f_X9_asks_9 n (maU ms 36 (v5).toNatClampNeg (vp_nar .boolean (0 : Int32))) v1 v2 v3 v4 (v5 + (1 : Int32)) (v6 + (1 : Int32)))) else (if q8 = (1 : Int32) then ((ldI (ma ms 33) 3200 v6).bind fun q18 => if v3 < q18 then (ixr 110 v5 <| f_X9_asks_9 n (maU ms 36 (v5).toNatClampNeg (vp_nar .boolean (0 : Int32))) v1 v2 v3 v4 (v5 + (1 : Int32)) (v6 + (1 : Int32))) else ((ldI (ma ms 34) 3200 v6).bind fun q22 => if q22 < v3 then (ixr 110 v5 <| f_X9_asks_9 n (maU ms 36 (v5).toNatClampNeg (vp_nar .boolean (0 : Int32))) v1 v2 v3 v4 (v5 + (1 : Int32)) (v6 + (1 : Int32))) else (ixr 110 v5 <| f_X9_asks_9 n (maU ms 36 (v5).toNatClampNeg (vp_nar .boolean (1 : Int32))) v1 v2 v3 v4 (v5 + (1 : Int32)) (v6 + (1 : Int32))))) else (if q8 = (2 : Int32) then ((ldI (ma ms 33) 3200 v6).bind fun q28 => if ((v4 >>> (q28 &&& 31)) &&& (1 : Int32)) = (1 : Int32) then (ixr 110 v5 <| f_X9_asks_9 n (maU ms 36 (v5).toNatClampNeg (vp_nar .boolean (1 : Int32))) v1 v2 v3 v4 (v5 + (1 : Int32)) (v6 + (1 : Int32))) else (ixr 110 v5 <| f_X9_asks_9 n (maU ms 36 (v5).toNatClampNeg (vp_nar .boolean (0 : Int32))) v1 v2 v3 v4 (v5 + (1 : Int32)) (v6 + (1 : Int32)))) else (if q8 = (3 : Int32) then ((ldI (ma ms 36) 110 (v5 - (1 : Int32))).bind fun q34 => if q34 = 0 then (ixr 110 (v5 - (1 : Int32)) <| f_X9_asks_9 n (maU ms 36 ((v5 - (1 : Int32))).toNatClampNeg (vp_nar .boolean (1 : Int32))) v1 v2 v3 v4 v5 (v6 + (1 : Int32))) else (ixr 110 (v5 - (1 : Int32)) <| f_X9_asks_9 n (maU ms 36 ((v5 - (1 : Int32))).toNatClampNeg (vp_nar .boolean (0 : Int32))) v1 v2 v3 v4 v5 (v6 + (1 : Int32)))) else (if q8 = (4 : Int32) then ((ldI (ma ms 36) 110 ((v5 + (-1 : Int32)) - (1 : Int32))).bind fun q40 => if q40 = 0 then (ixr 110 ((v5 + (-1 : Int32)) - (1 : Int32)) <| f_X9_asks_9 n (maU ms 36 (((v5 + (-1 : Int32)) - (1 : Int32))).toNatClampNeg (vp_nar .boolean (0 : Int32))) v1 v2 v3 v4 (v5 + (-1 : Int32)) (v6 + (1 : Int32))) else ((ldI (ma ms 36) 110 (v5 + (-1 : Int32))).bind fun q44 => if q44 = 0 then (ixr 110 ((v5 + (-1 : Int32)) - (1 : Int32)) <| f_X9_asks_9 n (maU ms 36 (((v5 + (-1 : Int32)) - (1 : Int32))).toNatClampNeg (vp_nar .boolean (0 : Int32))) v1 v2 v3 v4 (v5 + (-1 : Int32)) (v6 + (1 : Int32))) else (ixr 110 ((v5 + (-1 : Int32)) - (1 : Int32)) <| f_X9_asks_9 n (maU ms 36 (((v5 + (-1 : Int32)) - (1 : Int32))).toNatClampNeg (vp_nar .boolean (1 : Int32))) v1 v2 v3 v4 (v5 + (-1 : Int32)) (v6 + (1 : Int32))))) else ((ldI (ma ms 36) 110 ((v5 + (-1 : Int32)) - (1 : Int32))).bind fun q49 => if q49 = 0 then ((ldI (ma ms 36) 110 (v5 + (-1 : Int32))).bind fun q53 => if q53 = 0 then (ixr 110 ((v5 + (-1 : Int32)) - (1 : Int32)) <| f_X9_asks_9 n (maU ms 36 (((v5 + (-1 : Int32)) - (1 : Int32))).toNatClampNeg (vp_nar .boolean (0 : Int32))) v1 v2 v3 v4 (v5 + (-1 : Int32)) (v6 + (1 : Int32))) else (ixr 110 ((v5 + (-1 : Int32)) - (1 : Int32)) <| f_X9_asks_9 n (maU ms 36 (((v5 + (-1 : Int32)) - (1 : Int32))).toNatClampNeg (vp_nar .boolean (1 : Int32))) v1 v2 v3 v4 (v5 + (-1 : Int32)) (v6 + (1 : Int32)))) else (ixr 110 ((v5 + (-1 : Int32)) - (1 : Int32)) <| f_X9_asks_9 n (maU ms 36 (((v5 + (-1 : Int32)) - (1 : Int32))).toNatClampNeg (vp_nar .boolean (1 : Int32))) v1 v2 v3 v4 (v5 + (-1 : Int32)) (v6 + (1 : Int32)))))))))
def f_X9_asks (ms : MS) (v1 : Int32) (v2 : Int32) (v3 : Int32) (v4 : Int32) : Option (Int32 × MS) := f_X9_asks_9 1000 ms v1 v2 v3 v4 (0 : Int32) ((100 : Int32) * v1)
def rm_X9_asks : Room := { frames := 0, cells := 0, slots := 0, locals := 0 }
set_option maxHeartbeats 4000000 in
set_option maxRecDepth 100000 in
theorem w_X9_asks_9 {p : Program} {l : Launch} {e : Env} {s : State} {m : MethodId} {args : Array Value} {below : List Frame} {meth : Method} {c : Code} {X : XT} {B : Nat} {cs : CS} {o : Nat → Int64} {r : Int32} {S9 : MS} (E : Ev X B p s m args meth c RX9 cX9_asks 7 (some .boolean)) : ∀ (n : Nat) (ms : MS) (v1 : Int32) (v2 : Int32) (v3 : Int32) (v4 : Int32) (v5 : Int32) (v6 : Int32) (H : Heap) (locs : List Loc) (ls : Array Slot), f_X9_asks_9 n ms v1 v2 v3 v4 v5 v6 = some (r, S9) → Ws X B s.heap H locs (cs, ms, o) → lv_has ls 7 [(0, .ref (X.1 7)), (1, .int v1), (2, .int v2), (3, .int v3), (4, .int v4), (5, .int v5), (6, .int v6)] → W p l e rm_X9_asks s m args below meth c H locs 0 0 (MQ below (QI X B r (cs, S9, o)) args s 0 0 (Ab B)) (F0 m 9 ls []) := by
  obtain ⟨hx, hb, hml, hown, hts, -⟩ := id E
  intro n
  induction n with
  | zero => intro ms v1 v2 v3 v4 v5 v6 H locs ls hf; exact absurd hf nofun
  | succ n ih =>
    intro ms v1 v2 v3 v4 v5 v6 H locs ls hf hW hl
    rw [f_X9_asks_9] at hf
    refine lv_iload hx hb dX9_asks_9 (lv_at hl 6 rfl) ?_
    refine lv_bipush (v := (100 : Int32)) hx hb dX9_asks_11 (by decide) ?_
    refine lv_iload_n hx hb dX9_asks_13 rfl (lv_at hl 1 rfl) ?_
    refine lv_imul hx hb dX9_asks_14 ?_
    refine lv_aload_n hx hb dX9_asks_15 rfl (lv_at hl 0 rfl) ?_
    refine rg_X9_27 E hW dX9_asks_16 ?_
    refine lv_iload_n hx hb dX9_asks_19 rfl (lv_at hl 1 rfl) ?_
    obtain ⟨v1, hf⟩ := ldI_e hf
    refine ra_31 E hW v1 dX9_asks_20 ?_
    refine lv_iadd hx hb dX9_asks_21 ?_
    refine lv_icmp_ge (tgt := 287) hx hb dX9_asks_22 (by decide) (fun h3 => ?_) (fun h3 => ?_)
    · replace hf := ite_t h3 hf
      refine lv_aload_n hx hb dX9_asks_287 rfl (lv_at hl 0 rfl) ?_
      refine rg_X9_42 E hW dX9_asks_288 ?_
      refine lv_iconst (v := (0 : Int32)) hx hb dX9_asks_291 (by decide) ?_
      obtain ⟨v4, hf⟩ := ldI_e hf
      refine ra_36 E hW v4 dX9_asks_292 ?_
      obtain ⟨v6, hf⟩ := gd_e hf
      exact retZ E hW v6 (e2M hf) dX9_asks_293
    · replace hf := ite_f h3 hf
      refine lv_aload_n hx hb dX9_asks_25 rfl (lv_at hl 0 rfl) ?_
      refine rg_X9_30 E hW dX9_asks_26 ?_
      refine lv_iload hx hb dX9_asks_29 (lv_at hl 6 rfl) ?_
      obtain ⟨v7, hf⟩ := ldI_e hf
      refine ra_32 E hW v7 dX9_asks_31 ?_
      refine lv_topi (fun w9 ew9 => ?_)
      rw [← ew9] at hf
      by_cases h10 : w9 = (0 : Int32)
      · replace hf := ite_t h10 hf
        refine lv_tableIn (tgt := 68) hx hb dX9_asks_32 (by rw [h10]; decide) (by rw [h10]; decide) (by rw [h10]; rfl) (by decide) ?_
        refine lv_aload_n hx hb dX9_asks_68 rfl (lv_at hl 0 rfl) ?_
        refine rg_X9_42 E hW dX9_asks_69 ?_
        refine lv_iload hx hb dX9_asks_72 (lv_at hl 5 rfl) ?_
        refine lv_iload_n hx hb dX9_asks_74 rfl (lv_at hl 2 rfl) ?_
        refine lv_aload_n hx hb dX9_asks_75 rfl (lv_at hl 0 rfl) ?_
        refine rg_X9_33 E hW dX9_asks_76 ?_
        refine lv_iload hx hb dX9_asks_79 (lv_at hl 6 rfl) ?_
        obtain ⟨v11, hf⟩ := ldI_e hf
        refine ra_33 E hW v11 dX9_asks_81 ?_
        refine lv_icmp_ne (tgt := 89) hx hb dX9_asks_82 (by decide) (fun h13 => ?_) (fun h13 => ?_)
        · replace hf := ite_f h13 hf
          refine lv_iconst (v := (0 : Int32)) hx hb dX9_asks_89 (by decide) ?_
          obtain ⟨v14, hf⟩ := ixr_e hf
          refine rs_36 E hW v14 dX9_asks_90 (fun H locs hW => ?_)
          refine lv_iinc (v := _ + (1 : Int32)) (lv' := [_, _, _, _, _, _, _]) hx hb dX9_asks_91 hl (k := 5) rfl rfl (by decide) rfl (fun ls hl => ?_)
          refine lv_goto (tgt := 281) hx hb dX9_asks_94 (by decide) ?_
          refine lv_iinc (v := _ + (1 : Int32)) (lv' := [_, _, _, _, _, _, _]) hx hb dX9_asks_281 hl (k := 6) rfl rfl (by decide) rfl (fun ls hl => ?_)
          refine lv_goto (tgt := 9) hx hb dX9_asks_284 (by decide) ?_
          exact ih _ _ _ _ _ _ _ _ _ _ hf hW (lv_sub hl [2, 3, 4, 5, 6, 1, 0] rfl)
        · replace hf := ite_t h13 hf
          refine lv_iconst (v := (1 : Int32)) hx hb dX9_asks_85 (by decide) ?_
          refine lv_goto (tgt := 90) hx hb dX9_asks_86 (by decide) ?_
          obtain ⟨v15, hf⟩ := ixr_e hf
          refine rs_36 E hW v15 dX9_asks_90 (fun H locs hW => ?_)
          refine lv_iinc (v := _ + (1 : Int32)) (lv' := [_, _, _, _, _, _, _]) hx hb dX9_asks_91 hl (k := 5) rfl rfl (by decide) rfl (fun ls hl => ?_)
          refine lv_goto (tgt := 281) hx hb dX9_asks_94 (by decide) ?_
          refine lv_iinc (v := _ + (1 : Int32)) (lv' := [_, _, _, _, _, _, _]) hx hb dX9_asks_281 hl (k := 6) rfl rfl (by decide) rfl (fun ls hl => ?_)
          refine lv_goto (tgt := 9) hx hb dX9_asks_284 (by decide) ?_
          exact ih _ _ _ _ _ _ _ _ _ _ hf hW (lv_sub hl [2, 3, 4, 5, 6, 1, 0] rfl)
      · replace hf := ite_f h10 hf
        by_cases h16 : w9 = (1 : Int32)
        · replace hf := ite_t h16 hf
          refine lv_tableIn (tgt := 97) hx hb dX9_asks_32 (by rw [h16]; decide) (by rw [h16]; decide) (by rw [h16]; rfl) (by decide) ?_
          refine lv_aload_n hx hb dX9_asks_97 rfl (lv_at hl 0 rfl) ?_
          refine rg_X9_42 E hW dX9_asks_98 ?_
          refine lv_iload hx hb dX9_asks_101 (lv_at hl 5 rfl) ?_
          refine lv_iload_n hx hb dX9_asks_103 rfl (lv_at hl 3 rfl) ?_
          refine lv_aload_n hx hb dX9_asks_104 rfl (lv_at hl 0 rfl) ?_
          refine rg_X9_33 E hW dX9_asks_105 ?_
          refine lv_iload hx hb dX9_asks_108 (lv_at hl 6 rfl) ?_
          obtain ⟨v17, hf⟩ := ldI_e hf
          refine ra_33 E hW v17 dX9_asks_110 ?_
          refine lv_icmp_lt (tgt := 129) hx hb dX9_asks_111 (by decide) (fun h19 => ?_) (fun h19 => ?_)
          · replace hf := ite_t h19 hf
            refine lv_iconst (v := (0 : Int32)) hx hb dX9_asks_129 (by decide) ?_
            obtain ⟨v20, hf⟩ := ixr_e hf
            refine rs_36 E hW v20 dX9_asks_130 (fun H locs hW => ?_)
            refine lv_iinc (v := _ + (1 : Int32)) (lv' := [_, _, _, _, _, _, _]) hx hb dX9_asks_131 hl (k := 5) rfl rfl (by decide) rfl (fun ls hl => ?_)
            refine lv_goto (tgt := 281) hx hb dX9_asks_134 (by decide) ?_
            refine lv_iinc (v := _ + (1 : Int32)) (lv' := [_, _, _, _, _, _, _]) hx hb dX9_asks_281 hl (k := 6) rfl rfl (by decide) rfl (fun ls hl => ?_)
            refine lv_goto (tgt := 9) hx hb dX9_asks_284 (by decide) ?_
            exact ih _ _ _ _ _ _ _ _ _ _ hf hW (lv_sub hl [2, 3, 4, 5, 6, 1, 0] rfl)
          · replace hf := ite_f h19 hf
            refine lv_iload_n hx hb dX9_asks_114 rfl (lv_at hl 3 rfl) ?_
            refine lv_aload_n hx hb dX9_asks_115 rfl (lv_at hl 0 rfl) ?_
            refine rg_X9_36 E hW dX9_asks_116 ?_
            refine lv_iload hx hb dX9_asks_119 (lv_at hl 6 rfl) ?_
            obtain ⟨v21, hf⟩ := ldI_e hf
            refine ra_34 E hW v21 dX9_asks_121 ?_
            refine lv_icmp_gt (tgt := 129) hx hb dX9_asks_122 (by decide) (fun h23 => ?_) (fun h23 => ?_)
            · replace hf := ite_t h23 hf
              refine lv_iconst (v := (0 : Int32)) hx hb dX9_asks_129 (by decide) ?_
              obtain ⟨v24, hf⟩ := ixr_e hf
              refine rs_36 E hW v24 dX9_asks_130 (fun H locs hW => ?_)
              refine lv_iinc (v := _ + (1 : Int32)) (lv' := [_, _, _, _, _, _, _]) hx hb dX9_asks_131 hl (k := 5) rfl rfl (by decide) rfl (fun ls hl => ?_)
              refine lv_goto (tgt := 281) hx hb dX9_asks_134 (by decide) ?_
              refine lv_iinc (v := _ + (1 : Int32)) (lv' := [_, _, _, _, _, _, _]) hx hb dX9_asks_281 hl (k := 6) rfl rfl (by decide) rfl (fun ls hl => ?_)
              refine lv_goto (tgt := 9) hx hb dX9_asks_284 (by decide) ?_
              exact ih _ _ _ _ _ _ _ _ _ _ hf hW (lv_sub hl [2, 3, 4, 5, 6, 1, 0] rfl)
            · replace hf := ite_f h23 hf
              refine lv_iconst (v := (1 : Int32)) hx hb dX9_asks_125 (by decide) ?_
              refine lv_goto (tgt := 130) hx hb dX9_asks_126 (by decide) ?_
              obtain ⟨v25, hf⟩ := ixr_e hf
              refine rs_36 E hW v25 dX9_asks_130 (fun H locs hW => ?_)
              refine lv_iinc (v := _ + (1 : Int32)) (lv' := [_, _, _, _, _, _, _]) hx hb dX9_asks_131 hl (k := 5) rfl rfl (by decide) rfl (fun ls hl => ?_)
              refine lv_goto (tgt := 281) hx hb dX9_asks_134 (by decide) ?_
              refine lv_iinc (v := _ + (1 : Int32)) (lv' := [_, _, _, _, _, _, _]) hx hb dX9_asks_281 hl (k := 6) rfl rfl (by decide) rfl (fun ls hl => ?_)
              refine lv_goto (tgt := 9) hx hb dX9_asks_284 (by decide) ?_
              exact ih _ _ _ _ _ _ _ _ _ _ hf hW (lv_sub hl [2, 3, 4, 5, 6, 1, 0] rfl)
        · replace hf := ite_f h16 hf
          by_cases h26 : w9 = (2 : Int32)
          · replace hf := ite_t h26 hf
            refine lv_tableIn (tgt := 137) hx hb dX9_asks_32 (by rw [h26]; decide) (by rw [h26]; decide) (by rw [h26]; rfl) (by decide) ?_
            refine lv_aload_n hx hb dX9_asks_137 rfl (lv_at hl 0 rfl) ?_
            refine rg_X9_42 E hW dX9_asks_138 ?_
            refine lv_iload hx hb dX9_asks_141 (lv_at hl 5 rfl) ?_
            refine lv_iload hx hb dX9_asks_143 (lv_at hl 4 rfl) ?_
            refine lv_aload_n hx hb dX9_asks_145 rfl (lv_at hl 0 rfl) ?_
            refine rg_X9_33 E hW dX9_asks_146 ?_
            refine lv_iload hx hb dX9_asks_149 (lv_at hl 6 rfl) ?_
            obtain ⟨v27, hf⟩ := ldI_e hf
            refine ra_33 E hW v27 dX9_asks_151 ?_
            refine lv_ishr hx hb dX9_asks_152 ?_
            refine lv_iconst (v := (1 : Int32)) hx hb dX9_asks_153 (by decide) ?_
            refine lv_iand hx hb dX9_asks_154 ?_
            refine lv_iconst (v := (1 : Int32)) hx hb dX9_asks_155 (by decide) ?_
            refine lv_icmp_ne (tgt := 163) hx hb dX9_asks_156 (by decide) (fun h29 => ?_) (fun h29 => ?_)
            · replace hf := ite_f h29 hf
              refine lv_iconst (v := (0 : Int32)) hx hb dX9_asks_163 (by decide) ?_
              obtain ⟨v30, hf⟩ := ixr_e hf
              refine rs_36 E hW v30 dX9_asks_164 (fun H locs hW => ?_)
              refine lv_iinc (v := _ + (1 : Int32)) (lv' := [_, _, _, _, _, _, _]) hx hb dX9_asks_165 hl (k := 5) rfl rfl (by decide) rfl (fun ls hl => ?_)
              refine lv_goto (tgt := 281) hx hb dX9_asks_168 (by decide) ?_
              refine lv_iinc (v := _ + (1 : Int32)) (lv' := [_, _, _, _, _, _, _]) hx hb dX9_asks_281 hl (k := 6) rfl rfl (by decide) rfl (fun ls hl => ?_)
              refine lv_goto (tgt := 9) hx hb dX9_asks_284 (by decide) ?_
              exact ih _ _ _ _ _ _ _ _ _ _ hf hW (lv_sub hl [2, 3, 4, 5, 6, 1, 0] rfl)
            · replace hf := ite_t h29 hf
              refine lv_iconst (v := (1 : Int32)) hx hb dX9_asks_159 (by decide) ?_
              refine lv_goto (tgt := 164) hx hb dX9_asks_160 (by decide) ?_
              obtain ⟨v31, hf⟩ := ixr_e hf
              refine rs_36 E hW v31 dX9_asks_164 (fun H locs hW => ?_)
              refine lv_iinc (v := _ + (1 : Int32)) (lv' := [_, _, _, _, _, _, _]) hx hb dX9_asks_165 hl (k := 5) rfl rfl (by decide) rfl (fun ls hl => ?_)
              refine lv_goto (tgt := 281) hx hb dX9_asks_168 (by decide) ?_
              refine lv_iinc (v := _ + (1 : Int32)) (lv' := [_, _, _, _, _, _, _]) hx hb dX9_asks_281 hl (k := 6) rfl rfl (by decide) rfl (fun ls hl => ?_)
              refine lv_goto (tgt := 9) hx hb dX9_asks_284 (by decide) ?_
              exact ih _ _ _ _ _ _ _ _ _ _ hf hW (lv_sub hl [2, 3, 4, 5, 6, 1, 0] rfl)
          · replace hf := ite_f h26 hf
            by_cases h32 : w9 = (3 : Int32)
            · replace hf := ite_t h32 hf
              refine lv_tableIn (tgt := 171) hx hb dX9_asks_32 (by rw [h32]; decide) (by rw [h32]; decide) (by rw [h32]; rfl) (by decide) ?_
              refine lv_aload_n hx hb dX9_asks_171 rfl (lv_at hl 0 rfl) ?_
              refine rg_X9_42 E hW dX9_asks_172 ?_
              refine lv_iload hx hb dX9_asks_175 (lv_at hl 5 rfl) ?_
              refine lv_iconst (v := (1 : Int32)) hx hb dX9_asks_177 (by decide) ?_
              refine lv_isub hx hb dX9_asks_178 ?_
              refine lv_aload_n hx hb dX9_asks_179 rfl (lv_at hl 0 rfl) ?_
              refine rg_X9_42 E hW dX9_asks_180 ?_
              refine lv_iload hx hb dX9_asks_183 (lv_at hl 5 rfl) ?_
              refine lv_iconst (v := (1 : Int32)) hx hb dX9_asks_185 (by decide) ?_
              refine lv_isub hx hb dX9_asks_186 ?_
              obtain ⟨v33, hf⟩ := ldI_e hf
              refine ra_36 E hW v33 dX9_asks_187 ?_
              refine lv_if_ne (tgt := 195) hx hb dX9_asks_188 (by decide) (fun h35 => ?_) (fun h35 => ?_)
              · replace hf := ite_f h35 hf
                refine lv_iconst (v := (0 : Int32)) hx hb dX9_asks_195 (by decide) ?_
                obtain ⟨v36, hf⟩ := ixr_e hf
                refine rs_36 E hW v36 dX9_asks_196 (fun H locs hW => ?_)
                refine lv_goto (tgt := 281) hx hb dX9_asks_197 (by decide) ?_
                refine lv_iinc (v := _ + (1 : Int32)) (lv' := [_, _, _, _, _, _, _]) hx hb dX9_asks_281 hl (k := 6) rfl rfl (by decide) rfl (fun ls hl => ?_)
                refine lv_goto (tgt := 9) hx hb dX9_asks_284 (by decide) ?_
                exact ih _ _ _ _ _ _ _ _ _ _ hf hW (lv_sub hl [1, 2, 3, 4, 5, 6, 0] rfl)
              · replace hf := ite_t h35 hf
                refine lv_iconst (v := (1 : Int32)) hx hb dX9_asks_191 (by decide) ?_
                refine lv_goto (tgt := 196) hx hb dX9_asks_192 (by decide) ?_
                obtain ⟨v37, hf⟩ := ixr_e hf
                refine rs_36 E hW v37 dX9_asks_196 (fun H locs hW => ?_)
                refine lv_goto (tgt := 281) hx hb dX9_asks_197 (by decide) ?_
                refine lv_iinc (v := _ + (1 : Int32)) (lv' := [_, _, _, _, _, _, _]) hx hb dX9_asks_281 hl (k := 6) rfl rfl (by decide) rfl (fun ls hl => ?_)
                refine lv_goto (tgt := 9) hx hb dX9_asks_284 (by decide) ?_
                exact ih _ _ _ _ _ _ _ _ _ _ hf hW (lv_sub hl [1, 2, 3, 4, 5, 6, 0] rfl)
            · replace hf := ite_f h32 hf
              by_cases h38 : w9 = (4 : Int32)
              · replace hf := ite_t h38 hf
                refine lv_tableIn (tgt := 200) hx hb dX9_asks_32 (by rw [h38]; decide) (by rw [h38]; decide) (by rw [h38]; rfl) (by decide) ?_
                refine lv_iinc (v := _ + (-1 : Int32)) (lv' := [_, _, _, _, _, _, _]) hx hb dX9_asks_200 hl (k := 5) rfl rfl (by decide) rfl (fun ls hl => ?_)
                refine lv_aload_n hx hb dX9_asks_203 rfl (lv_at hl 1 rfl) ?_
                refine rg_X9_42 E hW dX9_asks_204 ?_
                refine lv_iload hx hb dX9_asks_207 (lv_at hl 0 rfl) ?_
                refine lv_iconst (v := (1 : Int32)) hx hb dX9_asks_209 (by decide) ?_
                refine lv_isub hx hb dX9_asks_210 ?_
                refine lv_aload_n hx hb dX9_asks_211 rfl (lv_at hl 1 rfl) ?_
                refine rg_X9_42 E hW dX9_asks_212 ?_
                refine lv_iload hx hb dX9_asks_215 (lv_at hl 0 rfl) ?_
                refine lv_iconst (v := (1 : Int32)) hx hb dX9_asks_217 (by decide) ?_
                refine lv_isub hx hb dX9_asks_218 ?_
                obtain ⟨v39, hf⟩ := ldI_e hf
                refine ra_36 E hW v39 dX9_asks_219 ?_
                refine lv_if_eq (tgt := 237) hx hb dX9_asks_220 (by decide) (fun h41 => ?_) (fun h41 => ?_)
                · replace hf := ite_t h41 hf
                  refine lv_iconst (v := (0 : Int32)) hx hb dX9_asks_237 (by decide) ?_
                  obtain ⟨v42, hf⟩ := ixr_e hf
                  refine rs_36 E hW v42 dX9_asks_238 (fun H locs hW => ?_)
                  refine lv_goto (tgt := 281) hx hb dX9_asks_239 (by decide) ?_
                  refine lv_iinc (v := _ + (1 : Int32)) (lv' := [_, _, _, _, _, _, _]) hx hb dX9_asks_281 hl (k := 6) rfl rfl (by decide) rfl (fun ls hl => ?_)
                  refine lv_goto (tgt := 9) hx hb dX9_asks_284 (by decide) ?_
                  exact ih _ _ _ _ _ _ _ _ _ _ hf hW (lv_sub hl [2, 3, 4, 5, 6, 1, 0] rfl)
                · replace hf := ite_f h41 hf
                  refine lv_aload_n hx hb dX9_asks_223 rfl (lv_at hl 1 rfl) ?_
                  refine rg_X9_42 E hW dX9_asks_224 ?_
                  refine lv_iload hx hb dX9_asks_227 (lv_at hl 0 rfl) ?_
                  obtain ⟨v43, hf⟩ := ldI_e hf
                  refine ra_36 E hW v43 dX9_asks_229 ?_
                  refine lv_if_eq (tgt := 237) hx hb dX9_asks_230 (by decide) (fun h45 => ?_) (fun h45 => ?_)
                  · replace hf := ite_t h45 hf
                    refine lv_iconst (v := (0 : Int32)) hx hb dX9_asks_237 (by decide) ?_
                    obtain ⟨v46, hf⟩ := ixr_e hf
                    refine rs_36 E hW v46 dX9_asks_238 (fun H locs hW => ?_)
                    refine lv_goto (tgt := 281) hx hb dX9_asks_239 (by decide) ?_
                    refine lv_iinc (v := _ + (1 : Int32)) (lv' := [_, _, _, _, _, _, _]) hx hb dX9_asks_281 hl (k := 6) rfl rfl (by decide) rfl (fun ls hl => ?_)
                    refine lv_goto (tgt := 9) hx hb dX9_asks_284 (by decide) ?_
                    exact ih _ _ _ _ _ _ _ _ _ _ hf hW (lv_sub hl [2, 3, 4, 5, 6, 1, 0] rfl)
                  · replace hf := ite_f h45 hf
                    refine lv_iconst (v := (1 : Int32)) hx hb dX9_asks_233 (by decide) ?_
                    refine lv_goto (tgt := 238) hx hb dX9_asks_234 (by decide) ?_
                    obtain ⟨v47, hf⟩ := ixr_e hf
                    refine rs_36 E hW v47 dX9_asks_238 (fun H locs hW => ?_)
                    refine lv_goto (tgt := 281) hx hb dX9_asks_239 (by decide) ?_
                    refine lv_iinc (v := _ + (1 : Int32)) (lv' := [_, _, _, _, _, _, _]) hx hb dX9_asks_281 hl (k := 6) rfl rfl (by decide) rfl (fun ls hl => ?_)
                    refine lv_goto (tgt := 9) hx hb dX9_asks_284 (by decide) ?_
                    exact ih _ _ _ _ _ _ _ _ _ _ hf hW (lv_sub hl [2, 3, 4, 5, 6, 1, 0] rfl)
              · replace hf := ite_f h38 hf
                have eh10 := lv_neT h10 (a := 0) (by decide)
                have eh16 := lv_neT h16 (a := 1) (by decide)
                have eh26 := lv_neT h26 (a := 2) (by decide)
                have eh32 := lv_neT h32 (a := 3) (by decide)
                have eh38 := lv_neT h38 (a := 4) (by decide)
                refine lv_tableOut (tgt := 242) hx hb dX9_asks_32 (by omega) (by decide) ?_
                refine lv_iinc (v := _ + (-1 : Int32)) (lv' := [_, _, _, _, _, _, _]) hx hb dX9_asks_242 hl (k := 5) rfl rfl (by decide) rfl (fun ls hl => ?_)
                refine lv_aload_n hx hb dX9_asks_245 rfl (lv_at hl 1 rfl) ?_
                refine rg_X9_42 E hW dX9_asks_246 ?_
                refine lv_iload hx hb dX9_asks_249 (lv_at hl 0 rfl) ?_
                refine lv_iconst (v := (1 : Int32)) hx hb dX9_asks_251 (by decide) ?_
                refine lv_isub hx hb dX9_asks_252 ?_
                refine lv_aload_n hx hb dX9_asks_253 rfl (lv_at hl 1 rfl) ?_
                refine rg_X9_42 E hW dX9_asks_254 ?_
                refine lv_iload hx hb dX9_asks_257 (lv_at hl 0 rfl) ?_
                refine lv_iconst (v := (1 : Int32)) hx hb dX9_asks_259 (by decide) ?_
                refine lv_isub hx hb dX9_asks_260 ?_
                obtain ⟨v48, hf⟩ := ldI_e hf
                refine ra_36 E hW v48 dX9_asks_261 ?_
                refine lv_if_ne (tgt := 275) hx hb dX9_asks_262 (by decide) (fun h50 => ?_) (fun h50 => ?_)
                · replace hf := ite_f h50 hf
                  refine lv_iconst (v := (1 : Int32)) hx hb dX9_asks_275 (by decide) ?_
                  refine lv_goto (tgt := 280) hx hb dX9_asks_276 (by decide) ?_
                  obtain ⟨v51, hf⟩ := ixr_e hf
                  refine rs_36 E hW v51 dX9_asks_280 (fun H locs hW => ?_)
                  refine lv_iinc (v := _ + (1 : Int32)) (lv' := [_, _, _, _, _, _, _]) hx hb dX9_asks_281 hl (k := 6) rfl rfl (by decide) rfl (fun ls hl => ?_)
                  refine lv_goto (tgt := 9) hx hb dX9_asks_284 (by decide) ?_
                  exact ih _ _ _ _ _ _ _ _ _ _ hf hW (lv_sub hl [2, 3, 4, 5, 6, 1, 0] rfl)
                · replace hf := ite_t h50 hf
                  refine lv_aload_n hx hb dX9_asks_265 rfl (lv_at hl 1 rfl) ?_
                  refine rg_X9_42 E hW dX9_asks_266 ?_
                  refine lv_iload hx hb dX9_asks_269 (lv_at hl 0 rfl) ?_
                  obtain ⟨v52, hf⟩ := ldI_e hf
                  refine ra_36 E hW v52 dX9_asks_271 ?_
                  refine lv_if_eq (tgt := 279) hx hb dX9_asks_272 (by decide) (fun h54 => ?_) (fun h54 => ?_)
                  · replace hf := ite_t h54 hf
                    refine lv_iconst (v := (0 : Int32)) hx hb dX9_asks_279 (by decide) ?_
                    obtain ⟨v55, hf⟩ := ixr_e hf
                    refine rs_36 E hW v55 dX9_asks_280 (fun H locs hW => ?_)
                    refine lv_iinc (v := _ + (1 : Int32)) (lv' := [_, _, _, _, _, _, _]) hx hb dX9_asks_281 hl (k := 6) rfl rfl (by decide) rfl (fun ls hl => ?_)
                    refine lv_goto (tgt := 9) hx hb dX9_asks_284 (by decide) ?_
                    exact ih _ _ _ _ _ _ _ _ _ _ hf hW (lv_sub hl [2, 3, 4, 5, 6, 1, 0] rfl)
                  · replace hf := ite_f h54 hf
                    refine lv_iconst (v := (1 : Int32)) hx hb dX9_asks_275 (by decide) ?_
                    refine lv_goto (tgt := 280) hx hb dX9_asks_276 (by decide) ?_
                    obtain ⟨v56, hf⟩ := ixr_e hf
                    refine rs_36 E hW v56 dX9_asks_280 (fun H locs hW => ?_)
                    refine lv_iinc (v := _ + (1 : Int32)) (lv' := [_, _, _, _, _, _, _]) hx hb dX9_asks_281 hl (k := 6) rfl rfl (by decide) rfl (fun ls hl => ?_)
                    refine lv_goto (tgt := 9) hx hb dX9_asks_284 (by decide) ?_
                    exact ih _ _ _ _ _ _ _ _ _ _ hf hW (lv_sub hl [2, 3, 4, 5, 6, 1, 0] rfl)
set_option maxHeartbeats 4000000 in
set_option maxRecDepth 100000 in
theorem c_X9_asks (l : Launch) {X : XT} {B : Nat} {cs : CS} {ms : MS} {o : Nat → Int64} {v1 : Int32} {v2 : Int32} {v3 : Int32} {v4 : Int32} {r : Int32} {S9 : MS} (hf : f_X9_asks ms v1 v2 v3 v4 = some (r, S9)) : Met l yX9_asks (.code yX9_asks cX9_asks 7 (some .boolean) :: BIG) rm_X9_asks (Pre X B (cs, ms, o) [.ref (X.1 7), .int v1, .int v2, .int v3, .int v4]) (QI X B r (cs, S9, o)) 0 0 (Ab B) := by
  refine entry (by decide +kernel) rfl (Nat.le_of_ble_eq_true rfl) (fun p e s m below meth c ls E hW hl => ?_)
  obtain ⟨hx, hb, hml, hown, hts, -⟩ := id E
  replace hl : lv_has ls 7 [(0, .ref (X.1 7)), (1, .int v1), (2, .int v2), (3, .int v3), (4, .int v4)] := hl
  unfold f_X9_asks at hf
  refine lv_iconst (v := (0 : Int32)) hx hb dX9_asks_0 (by decide) ?_
  refine lv_istore (lv' := [_, _, _, _, _, _]) hx hb dX9_asks_1 hl (by decide) rfl (fun ls hl => ?_)
  refine lv_bipush (v := (100 : Int32)) hx hb dX9_asks_3 (by decide) ?_
  refine lv_iload_n hx hb dX9_asks_5 rfl (lv_at hl 2 rfl) ?_
  refine lv_imul hx hb dX9_asks_6 ?_
  refine lv_istore (lv' := [_, _, _, _, _, _, _]) hx hb dX9_asks_7 hl (by decide) rfl (fun ls hl => ?_)
  exact w_X9_asks_9 E 1000 _ _ _ _ _ _ _ _ _ _ hf hW (lv_sub hl [2, 3, 4, 5, 6, 1, 0] rfl)
def f_X9_says (ms : MS) (v1 : Int32) (v2 : Int32) (v3 : Int32) (v4 : Int32) : Option (Int32 × MS) := if v1 < 0 then (b2 (f_X9_may (miU ms 0 (0 : Int32)) (0 : Int32) (1 : Int32)) fun r3 ms2 => if r3 = 0 then (some ((0 : Int32), ms2)) else (b2 (f_X9_asks ms2 v1 v2 v3 v4) fun r6 ms5 => if r6 = 0 then (some ((0 : Int32), ms5)) else (some ((1 : Int32), ms5)))) else (if (mi (miU ms 0 (0 : Int32)) 3) ≤ v1 then (b2 (f_X9_may (miU ms 0 (0 : Int32)) (0 : Int32) (1 : Int32)) fun r10 ms9 => if r10 = 0 then (some ((0 : Int32), ms9)) else (b2 (f_X9_asks ms9 v1 v2 v3 v4) fun r13 ms12 => if r13 = 0 then (some ((0 : Int32), ms12)) else (some ((1 : Int32), ms12)))) else (b2 (f_X9_may (miU ms 0 (0 : Int32)) (1 : Int32) (1 : Int32)) fun r16 ms15 => if r16 = 0 then (some ((0 : Int32), ms15)) else (b2 (f_X9_asks ms15 v1 v2 v3 v4) fun r19 ms18 => if r19 = 0 then (some ((0 : Int32), ms18)) else (some ((1 : Int32), ms18)))))
def rm_X9_says : Room := { frames := 1, cells := 0, slots := 0, locals := 26 }
set_option maxHeartbeats 4000000 in
set_option maxRecDepth 100000 in
theorem c_X9_says (l : Launch) {X : XT} {B : Nat} {cs : CS} {ms : MS} {o : Nat → Int64} {v1 : Int32} {v2 : Int32} {v3 : Int32} {v4 : Int32} {r : Int32} {S9 : MS} (hf : f_X9_says ms v1 v2 v3 v4 = some (r, S9)) : Met l yX9_says (.code yX9_says cX9_says 5 (some .boolean) :: BIG) rm_X9_says (Pre X B (cs, ms, o) [.ref (X.1 7), .int v1, .int v2, .int v3, .int v4]) (QI X B r (cs, S9, o)) 0 0 (Ab B) := by
  refine entry (by decide +kernel) rfl (Nat.le_of_ble_eq_true rfl) (fun p e s m below meth c ls E hW hl => ?_)
  obtain ⟨hx, hb, hml, hown, hts, -⟩ := id E
  replace hl : lv_has ls 5 [(0, .ref (X.1 7)), (1, .int v1), (2, .int v2), (3, .int v3), (4, .int v4)] := hl
  unfold f_X9_says at hf
  refine lv_aload_n hx hb dX9_says_0 rfl (lv_at hl 0 rfl) ?_
  refine lv_iconst (v := (0 : Int32)) hx hb dX9_says_1 (by decide) ?_
  refine rp_X9_1 E hW dX9_says_2 (fun H locs hW => ?_)
  refine lv_aload_n hx hb dX9_says_5 rfl (lv_at hl 0 rfl) ?_
  refine lv_iload_n hx hb dX9_says_6 rfl (lv_at hl 1 rfl) ?_
  refine lv_if_lt (tgt := 22) hx hb dX9_says_7 (by decide) (fun h1 => ?_) (fun h1 => ?_)
  · replace hf := ite_t h1 hf
    refine lv_iconst (v := (0 : Int32)) hx hb dX9_says_22 (by decide) ?_
    refine lv_iconst (v := (1 : Int32)) hx hb dX9_says_23 (by decide) ?_
    obtain ⟨r3, ms2, hc, hf⟩ := b2_e hf
    refine callVI (As := [.int _, .int _]) (rest := []) E hW (c_X9_may l hc) lk_X9_151 rcv_X9 (Nat.le_of_ble_eq_true rfl) (Nat.le_of_ble_eq_true rfl) (Nat.le_of_ble_eq_true rfl) (Nat.le_of_ble_eq_true rfl) hl.1 (Nat.le_of_ble_eq_true rfl) dX9_says_24 (fun H locs hW => ?_)
    refine lv_if_eq (tgt := 46) hx hb dX9_says_27 (by decide) (fun h4 => ?_) (fun h4 => ?_)
    · replace hf := ite_t h4 hf
      refine lv_iconst (v := (0 : Int32)) hx hb dX9_says_46 (by decide) ?_
      exact retZ E hW (Or.inl rfl) (e2M hf) dX9_says_47
    · replace hf := ite_f h4 hf
      refine lv_aload_n hx hb dX9_says_30 rfl (lv_at hl 0 rfl) ?_
      refine lv_iload_n hx hb dX9_says_31 rfl (lv_at hl 1 rfl) ?_
      refine lv_iload_n hx hb dX9_says_32 rfl (lv_at hl 2 rfl) ?_
      refine lv_iload_n hx hb dX9_says_33 rfl (lv_at hl 3 rfl) ?_
      refine lv_iload hx hb dX9_says_34 (lv_at hl 4 rfl) ?_
      obtain ⟨r6, ms5, hc, hf⟩ := b2_e hf
      refine callVI (As := [.int _, .int _, .int _, .int _]) (rest := []) E hW (c_X9_asks l hc) lk_X9_215 rcv_X9 (Nat.le_of_ble_eq_true rfl) (Nat.le_of_ble_eq_true rfl) (Nat.le_of_ble_eq_true rfl) (Nat.le_of_ble_eq_true rfl) hl.1 (Nat.le_of_ble_eq_true rfl) dX9_says_36 (fun H locs hW => ?_)
      refine lv_if_eq (tgt := 46) hx hb dX9_says_39 (by decide) (fun h7 => ?_) (fun h7 => ?_)
      · replace hf := ite_t h7 hf
        refine lv_iconst (v := (0 : Int32)) hx hb dX9_says_46 (by decide) ?_
        exact retZ E hW (Or.inl rfl) (e2M hf) dX9_says_47
      · replace hf := ite_f h7 hf
        refine lv_iconst (v := (1 : Int32)) hx hb dX9_says_42 (by decide) ?_
        refine lv_goto (tgt := 47) hx hb dX9_says_43 (by decide) ?_
        exact retZ E hW (Or.inr rfl) (e2M hf) dX9_says_47
  · replace hf := ite_f h1 hf
    refine lv_iload_n hx hb dX9_says_10 rfl (lv_at hl 1 rfl) ?_
    refine lv_aload_n hx hb dX9_says_11 rfl (lv_at hl 0 rfl) ?_
    refine rg_X9_174 E hW dX9_says_12 ?_
    refine lv_icmp_ge (tgt := 22) hx hb dX9_says_15 (by decide) (fun h8 => ?_) (fun h8 => ?_)
    · replace hf := ite_t h8 hf
      refine lv_iconst (v := (0 : Int32)) hx hb dX9_says_22 (by decide) ?_
      refine lv_iconst (v := (1 : Int32)) hx hb dX9_says_23 (by decide) ?_
      obtain ⟨r10, ms9, hc, hf⟩ := b2_e hf
      refine callVI (As := [.int _, .int _]) (rest := []) E hW (c_X9_may l hc) lk_X9_151 rcv_X9 (Nat.le_of_ble_eq_true rfl) (Nat.le_of_ble_eq_true rfl) (Nat.le_of_ble_eq_true rfl) (Nat.le_of_ble_eq_true rfl) hl.1 (Nat.le_of_ble_eq_true rfl) dX9_says_24 (fun H locs hW => ?_)
      refine lv_if_eq (tgt := 46) hx hb dX9_says_27 (by decide) (fun h11 => ?_) (fun h11 => ?_)
      · replace hf := ite_t h11 hf
        refine lv_iconst (v := (0 : Int32)) hx hb dX9_says_46 (by decide) ?_
        exact retZ E hW (Or.inl rfl) (e2M hf) dX9_says_47
      · replace hf := ite_f h11 hf
        refine lv_aload_n hx hb dX9_says_30 rfl (lv_at hl 0 rfl) ?_
        refine lv_iload_n hx hb dX9_says_31 rfl (lv_at hl 1 rfl) ?_
        refine lv_iload_n hx hb dX9_says_32 rfl (lv_at hl 2 rfl) ?_
        refine lv_iload_n hx hb dX9_says_33 rfl (lv_at hl 3 rfl) ?_
        refine lv_iload hx hb dX9_says_34 (lv_at hl 4 rfl) ?_
        obtain ⟨r13, ms12, hc, hf⟩ := b2_e hf
        refine callVI (As := [.int _, .int _, .int _, .int _]) (rest := []) E hW (c_X9_asks l hc) lk_X9_215 rcv_X9 (Nat.le_of_ble_eq_true rfl) (Nat.le_of_ble_eq_true rfl) (Nat.le_of_ble_eq_true rfl) (Nat.le_of_ble_eq_true rfl) hl.1 (Nat.le_of_ble_eq_true rfl) dX9_says_36 (fun H locs hW => ?_)
        refine lv_if_eq (tgt := 46) hx hb dX9_says_39 (by decide) (fun h14 => ?_) (fun h14 => ?_)
        · replace hf := ite_t h14 hf
          refine lv_iconst (v := (0 : Int32)) hx hb dX9_says_46 (by decide) ?_
          exact retZ E hW (Or.inl rfl) (e2M hf) dX9_says_47
        · replace hf := ite_f h14 hf
          refine lv_iconst (v := (1 : Int32)) hx hb dX9_says_42 (by decide) ?_
          refine lv_goto (tgt := 47) hx hb dX9_says_43 (by decide) ?_
          exact retZ E hW (Or.inr rfl) (e2M hf) dX9_says_47
    · replace hf := ite_f h8 hf
      refine lv_iconst (v := (1 : Int32)) hx hb dX9_says_18 (by decide) ?_
      refine lv_goto (tgt := 23) hx hb dX9_says_19 (by decide) ?_
      refine lv_iconst (v := (1 : Int32)) hx hb dX9_says_23 (by decide) ?_
      obtain ⟨r16, ms15, hc, hf⟩ := b2_e hf
      refine callVI (As := [.int _, .int _]) (rest := []) E hW (c_X9_may l hc) lk_X9_151 rcv_X9 (Nat.le_of_ble_eq_true rfl) (Nat.le_of_ble_eq_true rfl) (Nat.le_of_ble_eq_true rfl) (Nat.le_of_ble_eq_true rfl) hl.1 (Nat.le_of_ble_eq_true rfl) dX9_says_24 (fun H locs hW => ?_)
      refine lv_if_eq (tgt := 46) hx hb dX9_says_27 (by decide) (fun h17 => ?_) (fun h17 => ?_)
      · replace hf := ite_t h17 hf
        refine lv_iconst (v := (0 : Int32)) hx hb dX9_says_46 (by decide) ?_
        exact retZ E hW (Or.inl rfl) (e2M hf) dX9_says_47
      · replace hf := ite_f h17 hf
        refine lv_aload_n hx hb dX9_says_30 rfl (lv_at hl 0 rfl) ?_
        refine lv_iload_n hx hb dX9_says_31 rfl (lv_at hl 1 rfl) ?_
        refine lv_iload_n hx hb dX9_says_32 rfl (lv_at hl 2 rfl) ?_
        refine lv_iload_n hx hb dX9_says_33 rfl (lv_at hl 3 rfl) ?_
        refine lv_iload hx hb dX9_says_34 (lv_at hl 4 rfl) ?_
        obtain ⟨r19, ms18, hc, hf⟩ := b2_e hf
        refine callVI (As := [.int _, .int _, .int _, .int _]) (rest := []) E hW (c_X9_asks l hc) lk_X9_215 rcv_X9 (Nat.le_of_ble_eq_true rfl) (Nat.le_of_ble_eq_true rfl) (Nat.le_of_ble_eq_true rfl) (Nat.le_of_ble_eq_true rfl) hl.1 (Nat.le_of_ble_eq_true rfl) dX9_says_36 (fun H locs hW => ?_)
        refine lv_if_eq (tgt := 46) hx hb dX9_says_39 (by decide) (fun h20 => ?_) (fun h20 => ?_)
        · replace hf := ite_t h20 hf
          refine lv_iconst (v := (0 : Int32)) hx hb dX9_says_46 (by decide) ?_
          exact retZ E hW (Or.inl rfl) (e2M hf) dX9_says_47
        · replace hf := ite_f h20 hf
          refine lv_iconst (v := (1 : Int32)) hx hb dX9_says_42 (by decide) ?_
          refine lv_goto (tgt := 47) hx hb dX9_says_43 (by decide) ?_
          exact retZ E hW (Or.inr rfl) (e2M hf) dX9_says_47
def f_X9_least (ms : MS) (v1 : Int32) : Option (Int64) := if v1 = (2 : Int32) then (some (-1 : Int64)) else (if v1 = (7 : Int32) then (some (-1 : Int64)) else (if v1 = (3 : Int32) then (some (1 : Int64)) else (if v1 = (4 : Int32) then (some (1 : Int64)) else (some (0 : Int64)))))
def rm_X9_least : Room := { frames := 0, cells := 0, slots := 0, locals := 0 }
set_option maxHeartbeats 4000000 in
set_option maxRecDepth 100000 in
theorem c_X9_least (l : Launch) {X : XT} {B : Nat} {cs : CS} {ms : MS} {o : Nat → Int64} {v1 : Int32} {r : Int64} (hf : f_X9_least ms v1 = some r) : Met l yX9_least (.code yX9_least cX9_least 2 (some .long) :: BIG) rm_X9_least (Pre X B (cs, ms, o) [.ref (X.1 7), .int v1]) (QL X B r (cs, ms, o)) 0 0 (Ab B) := by
  refine entry (by decide +kernel) rfl (Nat.le_of_ble_eq_true rfl) (fun p e s m below meth c ls E hW hl => ?_)
  obtain ⟨hx, hb, hml, hown, hts, -⟩ := id E
  replace hl : lv_has ls 2 [(0, .ref (X.1 7)), (1, .int v1)] := hl
  unfold f_X9_least at hf
  refine lv_iload_n hx hb dX9_least_0 rfl (lv_at hl 1 rfl) ?_
  refine lv_iconst (v := (2 : Int32)) hx hb dX9_least_1 (by decide) ?_
  refine lv_icmp_eq (tgt := 11) hx hb dX9_least_2 (by decide) (fun h1 => ?_) (fun h1 => ?_)
  · replace hf := ite_t h1 hf
    refine lv_ldc2 (own := RX9) (v := (-1 : Int64)) hx hb hown (hts _ kc_X9_219) dX9_least_11 ?_
    refine lv_goto (tgt := 32) hx hb dX9_least_14 (by decide) ?_
    exact retL E hW ⟨Option.some.inj hf, rfl⟩ dX9_least_32
  · replace hf := ite_f h1 hf
    refine lv_iload_n hx hb dX9_least_5 rfl (lv_at hl 1 rfl) ?_
    refine lv_bipush (v := (7 : Int32)) hx hb dX9_least_6 (by decide) ?_
    refine lv_icmp_ne (tgt := 17) hx hb dX9_least_8 (by decide) (fun h2 => ?_) (fun h2 => ?_)
    · replace hf := ite_f h2 hf
      refine lv_iload_n hx hb dX9_least_17 rfl (lv_at hl 1 rfl) ?_
      refine lv_iconst (v := (3 : Int32)) hx hb dX9_least_18 (by decide) ?_
      refine lv_icmp_eq (tgt := 27) hx hb dX9_least_19 (by decide) (fun h3 => ?_) (fun h3 => ?_)
      · replace hf := ite_t h3 hf
        refine lv_lconst (v := (1 : Int64)) hx hb dX9_least_27 (by decide) ?_
        refine lv_goto (tgt := 32) hx hb dX9_least_28 (by decide) ?_
        exact retL E hW ⟨Option.some.inj hf, rfl⟩ dX9_least_32
      · replace hf := ite_f h3 hf
        refine lv_iload_n hx hb dX9_least_22 rfl (lv_at hl 1 rfl) ?_
        refine lv_iconst (v := (4 : Int32)) hx hb dX9_least_23 (by decide) ?_
        refine lv_icmp_ne (tgt := 31) hx hb dX9_least_24 (by decide) (fun h4 => ?_) (fun h4 => ?_)
        · replace hf := ite_f h4 hf
          refine lv_lconst (v := (0 : Int64)) hx hb dX9_least_31 (by decide) ?_
          exact retL E hW ⟨Option.some.inj hf, rfl⟩ dX9_least_32
        · replace hf := ite_t h4 hf
          refine lv_lconst (v := (1 : Int64)) hx hb dX9_least_27 (by decide) ?_
          refine lv_goto (tgt := 32) hx hb dX9_least_28 (by decide) ?_
          exact retL E hW ⟨Option.some.inj hf, rfl⟩ dX9_least_32
    · replace hf := ite_t h2 hf
      refine lv_ldc2 (own := RX9) (v := (-1 : Int64)) hx hb hown (hts _ kc_X9_219) dX9_least_11 ?_
      refine lv_goto (tgt := 32) hx hb dX9_least_14 (by decide) ?_
      exact retL E hW ⟨Option.some.inj hf, rfl⟩ dX9_least_32
def f_X9_most (ms : MS) (v1 : Int32) (v2 : Int32) : Option (Int64) := if v1 = (0 : Int32) then (some (5 : Int64)) else (if v1 = (1 : Int32) then (some (99 : Int64)) else (if v1 = (2 : Int32) then ((ldI (ma ms 37) 8 v2).bind fun q5 => some (q5 - (1 : Int32)).toInt64) else (if v1 = (3 : Int32) then (some (240 : Int64)) else (if v1 = (4 : Int32) then (some (200000 : Int64)) else (if v1 = (5 : Int32) then (some (3 : Int64)) else (if v1 = (6 : Int32) then (some (100000 : Int64)) else (some ((mi ms 3) - (1 : Int32)).toInt64)))))))
def rm_X9_most : Room := { frames := 0, cells := 0, slots := 0, locals := 0 }
set_option maxHeartbeats 4000000 in
set_option maxRecDepth 100000 in
theorem c_X9_most (l : Launch) {X : XT} {B : Nat} {cs : CS} {ms : MS} {o : Nat → Int64} {v1 : Int32} {v2 : Int32} {r : Int64} (hf : f_X9_most ms v1 v2 = some r) : Met l yX9_most (.code yX9_most cX9_most 3 (some .long) :: BIG) rm_X9_most (Pre X B (cs, ms, o) [.ref (X.1 7), .int v1, .int v2]) (QL X B r (cs, ms, o)) 0 0 (Ab B) := by
  refine entry (by decide +kernel) rfl (Nat.le_of_ble_eq_true rfl) (fun p e s m below meth c ls E hW hl => ?_)
  obtain ⟨hx, hb, hml, hown, hts, -⟩ := id E
  replace hl : lv_has ls 3 [(0, .ref (X.1 7)), (1, .int v1), (2, .int v2)] := hl
  unfold f_X9_most at hf
  refine lv_iload_n hx hb dX9_most_0 rfl (lv_at hl 1 rfl) ?_
  by_cases h1 : v1 = (0 : Int32)
  · replace hf := ite_t h1 hf
    refine lv_tableIn (tgt := 44) hx hb dX9_most_1 (by rw [h1]; decide) (by rw [h1]; decide) (by rw [h1]; rfl) (by decide) ?_
    refine lv_ldc2 (own := RX9) (v := (5 : Int64)) hx hb hown (hts _ kc_X9_221) dX9_most_44 ?_
    exact retL E hW ⟨Option.some.inj hf, rfl⟩ dX9_most_47
  · replace hf := ite_f h1 hf
    by_cases h2 : v1 = (1 : Int32)
    · replace hf := ite_t h2 hf
      refine lv_tableIn (tgt := 48) hx hb dX9_most_1 (by rw [h2]; decide) (by rw [h2]; decide) (by rw [h2]; rfl) (by decide) ?_
      refine lv_ldc2 (own := RX9) (v := (99 : Int64)) hx hb hown (hts _ kc_X9_223) dX9_most_48 ?_
      exact retL E hW ⟨Option.some.inj hf, rfl⟩ dX9_most_51
    · replace hf := ite_f h2 hf
      by_cases h3 : v1 = (2 : Int32)
      · replace hf := ite_t h3 hf
        refine lv_tableIn (tgt := 52) hx hb dX9_most_1 (by rw [h3]; decide) (by rw [h3]; decide) (by rw [h3]; rfl) (by decide) ?_
        refine lv_aload_n hx hb dX9_most_52 rfl (lv_at hl 0 rfl) ?_
        refine rg_X9_46 E hW dX9_most_53 ?_
        refine lv_iload_n hx hb dX9_most_56 rfl (lv_at hl 2 rfl) ?_
        obtain ⟨v4, hf⟩ := ldI_e hf
        refine ra_37 E hW v4 dX9_most_57 ?_
        refine lv_iconst (v := (1 : Int32)) hx hb dX9_most_58 (by decide) ?_
        refine lv_isub hx hb dX9_most_59 ?_
        refine lv_i2l hx hb dX9_most_60 rfl ?_
        exact retL E hW ⟨Option.some.inj hf, rfl⟩ dX9_most_61
      · replace hf := ite_f h3 hf
        by_cases h6 : v1 = (3 : Int32)
        · replace hf := ite_t h6 hf
          refine lv_tableIn (tgt := 62) hx hb dX9_most_1 (by rw [h6]; decide) (by rw [h6]; decide) (by rw [h6]; rfl) (by decide) ?_
          refine lv_ldc2 (own := RX9) (v := (240 : Int64)) hx hb hown (hts _ kc_X9_225) dX9_most_62 ?_
          exact retL E hW ⟨Option.some.inj hf, rfl⟩ dX9_most_65
        · replace hf := ite_f h6 hf
          by_cases h7 : v1 = (4 : Int32)
          · replace hf := ite_t h7 hf
            refine lv_tableIn (tgt := 66) hx hb dX9_most_1 (by rw [h7]; decide) (by rw [h7]; decide) (by rw [h7]; rfl) (by decide) ?_
            refine lv_ldc2 (own := RX9) (v := (200000 : Int64)) hx hb hown (hts _ kc_X9_227) dX9_most_66 ?_
            exact retL E hW ⟨Option.some.inj hf, rfl⟩ dX9_most_69
          · replace hf := ite_f h7 hf
            by_cases h8 : v1 = (5 : Int32)
            · replace hf := ite_t h8 hf
              refine lv_tableIn (tgt := 70) hx hb dX9_most_1 (by rw [h8]; decide) (by rw [h8]; decide) (by rw [h8]; rfl) (by decide) ?_
              refine lv_ldc2 (own := RX9) (v := (3 : Int64)) hx hb hown (hts _ kc_X9_229) dX9_most_70 ?_
              exact retL E hW ⟨Option.some.inj hf, rfl⟩ dX9_most_73
            · replace hf := ite_f h8 hf
              by_cases h9 : v1 = (6 : Int32)
              · replace hf := ite_t h9 hf
                refine lv_tableIn (tgt := 74) hx hb dX9_most_1 (by rw [h9]; decide) (by rw [h9]; decide) (by rw [h9]; rfl) (by decide) ?_
                refine lv_ldc2 (own := RX9) (v := (100000 : Int64)) hx hb hown (hts _ kc_X9_231) dX9_most_74 ?_
                exact retL E hW ⟨Option.some.inj hf, rfl⟩ dX9_most_77
              · replace hf := ite_f h9 hf
                have eh1 := lv_neT h1 (a := 0) (by decide)
                have eh2 := lv_neT h2 (a := 1) (by decide)
                have eh3 := lv_neT h3 (a := 2) (by decide)
                have eh6 := lv_neT h6 (a := 3) (by decide)
                have eh7 := lv_neT h7 (a := 4) (by decide)
                have eh8 := lv_neT h8 (a := 5) (by decide)
                have eh9 := lv_neT h9 (a := 6) (by decide)
                refine lv_tableOut (tgt := 78) hx hb dX9_most_1 (by omega) (by decide) ?_
                refine lv_aload_n hx hb dX9_most_78 rfl (lv_at hl 0 rfl) ?_
                refine rg_X9_174 E hW dX9_most_79 ?_
                refine lv_iconst (v := (1 : Int32)) hx hb dX9_most_82 (by decide) ?_
                refine lv_isub hx hb dX9_most_83 ?_
                refine lv_i2l hx hb dX9_most_84 rfl ?_
                exact retL E hW ⟨Option.some.inj hf, rfl⟩ dX9_most_85
def f_X9_part_440 (k : MS → Int32 → Int32 → Int32 → Int32 → Int32 → Int32 → Int32 → Option (Int32 × MS)) (ms : MS) (v1 : Int32) (s1 : Int32) (s2 : Int32) : Option (Int32 × MS) := ixr 192 s1 <| (ldI (ma (maU ms 45 (s1).toNatClampNeg s2) 37) 8 v1).bind fun q47 => ixr 8 v1 <| (ldI (ma (maU (maU ms 45 (s1).toNatClampNeg s2) 37 (v1).toNatClampNeg (q47 + (1 : Int32))) 37) 8 v1).bind fun q50 => some ((q50 - (1 : Int32)), (maU (maU ms 45 (s1).toNatClampNeg s2) 37 (v1).toNatClampNeg (q47 + (1 : Int32))))
def f_X9_part_263 (k : MS → Int32 → Int32 → Int32 → Int32 → Int32 → Int32 → Int32 → Option (Int32 × MS)) (ms : MS) (v1 : Int32) (v4 : Int32) (v5 : Int32) (v6 : Int32) (v7 : Int32) : Option (Int32 × MS) := (ldI (ma ms 37) 8 v1).bind fun q23 => if q23 = (24 : Int32) then (some ((-5 : Int32), ms)) else ((ldI (ma ms 37) 8 v1).bind fun q26 => ixr 192 (((24 : Int32) * v1) + q26) <| (ldL (mb (maU ms 38 ((((24 : Int32) * v1) + q26)).toNatClampNeg v6) 29) 1536 (((12 : Int32) * v4) + (1 : Int32))).bind fun q29 => ixr 192 (((24 : Int32) * v1) + q26) <| ixr 192 (((24 : Int32) * v1) + q26) <| (ldL (mb (maU (maU (maU ms 38 ((((24 : Int32) * v1) + q26)).toNatClampNeg v6) 39 ((((24 : Int32) * v1) + q26)).toNatClampNeg q29.toInt32) 40 ((((24 : Int32) * v1) + q26)).toNatClampNeg v7) 29) 1536 (((12 : Int32) * v4) + (3 : Int32))).bind fun q33 => ixr 192 (((24 : Int32) * v1) + q26) <| (ldL (mb (maU (maU (maU (maU ms 38 ((((24 : Int32) * v1) + q26)).toNatClampNeg v6) 39 ((((24 : Int32) * v1) + q26)).toNatClampNeg q29.toInt32) 40 ((((24 : Int32) * v1) + q26)).toNatClampNeg v7) 41 ((((24 : Int32) * v1) + q26)).toNatClampNeg q33.toInt32) 29) 1536 (((12 : Int32) * v4) + (4 : Int32))).bind fun q36 => ixr 192 (((24 : Int32) * v1) + q26) <| (ldL (mb (maU (maU (maU (maU (maU ms 38 ((((24 : Int32) * v1) + q26)).toNatClampNeg v6) 39 ((((24 : Int32) * v1) + q26)).toNatClampNeg q29.toInt32) 40 ((((24 : Int32) * v1) + q26)).toNatClampNeg v7) 41 ((((24 : Int32) * v1) + q26)).toNatClampNeg q33.toInt32) 42 ((((24 : Int32) * v1) + q26)).toNatClampNeg q36.toInt32) 29) 1536 (((12 : Int32) * v4) + (5 : Int32))).bind fun q39 => ixr 192 (((24 : Int32) * v1) + q26) <| (ldL (mb (maU (maU (maU (maU (maU (maU ms 38 ((((24 : Int32) * v1) + q26)).toNatClampNeg v6) 39 ((((24 : Int32) * v1) + q26)).toNatClampNeg q29.toInt32) 40 ((((24 : Int32) * v1) + q26)).toNatClampNeg v7) 41 ((((24 : Int32) * v1) + q26)).toNatClampNeg q33.toInt32) 42 ((((24 : Int32) * v1) + q26)).toNatClampNeg q36.toInt32) 43 ((((24 : Int32) * v1) + q26)).toNatClampNeg q39.toInt32) 29) 1536 (((12 : Int32) * v4) + (6 : Int32))).bind fun q42 => ixr 192 (((24 : Int32) * v1) + q26) <| if v5 ≤ (7 : Int32) then (f_X9_part_440 k (maU (maU (maU (maU (maU (maU (maU ms 38 ((((24 : Int32) * v1) + q26)).toNatClampNeg v6) 39 ((((24 : Int32) * v1) + q26)).toNatClampNeg q29.toInt32) 40 ((((24 : Int32) * v1) + q26)).toNatClampNeg v7) 41 ((((24 : Int32) * v1) + q26)).toNatClampNeg q33.toInt32) 42 ((((24 : Int32) * v1) + q26)).toNatClampNeg q36.toInt32) 43 ((((24 : Int32) * v1) + q26)).toNatClampNeg q39.toInt32) 44 ((((24 : Int32) * v1) + q26)).toNatClampNeg q42.toInt32) v1 (((24 : Int32) * v1) + q26) (-1 : Int32)) else ((ldL (mb (maU (maU (maU (maU (maU (maU (maU ms 38 ((((24 : Int32) * v1) + q26)).toNatClampNeg v6) 39 ((((24 : Int32) * v1) + q26)).toNatClampNeg q29.toInt32) 40 ((((24 : Int32) * v1) + q26)).toNatClampNeg v7) 41 ((((24 : Int32) * v1) + q26)).toNatClampNeg q33.toInt32) 42 ((((24 : Int32) * v1) + q26)).toNatClampNeg q36.toInt32) 43 ((((24 : Int32) * v1) + q26)).toNatClampNeg q39.toInt32) 44 ((((24 : Int32) * v1) + q26)).toNatClampNeg q42.toInt32) 29) 1536 (((12 : Int32) * v4) + (7 : Int32))).bind fun q52 => f_X9_part_440 k (maU (maU (maU (maU (maU (maU (maU ms 38 ((((24 : Int32) * v1) + q26)).toNatClampNeg v6) 39 ((((24 : Int32) * v1) + q26)).toNatClampNeg q29.toInt32) 40 ((((24 : Int32) * v1) + q26)).toNatClampNeg v7) 41 ((((24 : Int32) * v1) + q26)).toNatClampNeg q33.toInt32) 42 ((((24 : Int32) * v1) + q26)).toNatClampNeg q36.toInt32) 43 ((((24 : Int32) * v1) + q26)).toNatClampNeg q39.toInt32) 44 ((((24 : Int32) * v1) + q26)).toNatClampNeg q42.toInt32) v1 (((24 : Int32) * v1) + q26) q52.toInt32))
def f_X9_part_225 (k : MS → Int32 → Int32 → Int32 → Int32 → Int32 → Int32 → Int32 → Option (Int32 × MS)) (ms : MS) (v1 : Int32) (v4 : Int32) (v5 : Int32) (v6 : Int32) (v7 : Int32) (v9 : Int32) (s0 : Int32) : Option (Int32 × MS) := k ms v1 v4 v5 v6 v7 s0 (v9 + (1 : Int32))
def f_X9_part_220 (k : MS → Int32 → Int32 → Int32 → Int32 → Int32 → Int32 → Int32 → Option (Int32 × MS)) (ms : MS) (v1 : Int32) (v4 : Int32) (v5 : Int32) (v6 : Int32) (v7 : Int32) (v9 : Int32) : Option (Int32 × MS) := f_X9_part_225 k ms v1 v4 v5 v6 v7 v9 (1 : Int32)
def f_X9_part_224 (k : MS → Int32 → Int32 → Int32 → Int32 → Int32 → Int32 → Int32 → Option (Int32 × MS)) (ms : MS) (v1 : Int32) (v4 : Int32) (v5 : Int32) (v6 : Int32) (v7 : Int32) (v9 : Int32) : Option (Int32 × MS) := f_X9_part_225 k ms v1 v4 v5 v6 v7 v9 (0 : Int32)
def f_X9_part_182 : Nat → MS → Int32 → Int32 → Int32 → Int32 → Int32 → Int32 → Int32 → Option (Int32 × MS)
  | 0, _, _, _, _, _, _, _, _ => none
  | n + 1, ms, v1, v4, v5, v6, v7, v8, v9 => (ldI (ma ms 37) 8 v1).bind fun q18 => if q18 ≤ v9 then (if v8 = 0 then (if v7 = (-1 : Int32) then (f_X9_part_263 (f_X9_part_182 n) ms v1 v4 v5 v6 v7) else ((ldI (ma ms 38) 192 (((24 : Int32) * v1) + v7)).bind fun q54 => if q54 = (5 : Int32) then (some ((-4 : Int32), ms)) else (f_X9_part_263 (f_X9_part_182 n) ms v1 v4 v5 v6 v7))) else (some ((-4 : Int32), ms))) else (if v8 = 0 then (if v6 = (5 : Int32) then ((ldI (ma ms 38) 192 (((24 : Int32) * v1) + v9)).bind fun q59 => if q59 = (5 : Int32) then (f_X9_part_220 (f_X9_part_182 n) ms v1 v4 v5 v6 v7 v9) else (f_X9_part_224 (f_X9_part_182 n) ms v1 v4 v5 v6 v7 v9)) else (f_X9_part_224 (f_X9_part_182 n) ms v1 v4 v5 v6 v7 v9)) else (f_X9_part_220 (f_X9_part_182 n) ms v1 v4 v5 v6 v7 v9))
def f_X9_part_148 (k : MS → Int32 → Int32 → Int32 → Int32 → Option (Int32 × MS)) (ms : MS) (v1 : Int32) (v4 : Int32) (v5 : Int32) : Option (Int32 × MS) := (ldL (mb ms 29) 1536 ((12 : Int32) * v4)).bind fun q14 => (ldL (mb ms 29) 1536 (((12 : Int32) * v4) + (2 : Int32))).bind fun q16 => f_X9_part_182 1000 ms v1 v4 v5 q14.toInt32 q16.toInt32 (0 : Int32) (0 : Int32)
def f_X9_part_78 : Nat → MS → Int32 → Int32 → Int32 → Int32 → Option (Int32 × MS)
  | 0, _, _, _, _, _ => none
  | n + 1, ms, v1, v4, v5, v6 => if (8 : Int32) ≤ v6 then (f_X9_part_148 (f_X9_part_78 n) ms v1 v4 v5) else (if v5 ≤ v6 then (f_X9_part_148 (f_X9_part_78 n) ms v1 v4 v5) else ((ldL (mb ms 29) 1536 (((12 : Int32) * v4) + v6)).bind fun q63 => (f_X9_least ms v6).bind fun r64 => if (lg_cmp q63 r64) < 0 then (some ((-3 : Int32), ms)) else ((ldL (mb ms 29) 1536 (((12 : Int32) * v4) + v6)).bind fun q67 => (f_X9_most ms v6 v1).bind fun r68 => if (lg_cmp q67 r68) ≤ 0 then (f_X9_part_78 n ms v1 v4 v5 (v6 + (1 : Int32))) else (some ((-3 : Int32), ms)))))
def f_X9_part_21 (ms : MS) (v1 : Int32) (v2 : Int32) (v3 : Int32) (s1 : Int32) : Option (Int32 × MS) := b2 (f_X9_may ms s1 (1 : Int32)) fun r3 ms2 => if r3 = 0 then (some ((0 : Int32), ms2)) else (b2 (f_X9_isRow ms2 v2 v3 (2 : Int32)) fun r6 ms5 => if r6 = 0 then (some ((0 : Int32), ms5)) else ((ldI (ma ms5 28) 128 (((16 : Int32) * v2) + v3)).bind fun q9 => if q9 = (-1 : Int32) then (some ((-1 : Int32), ms5)) else (if (7 : Int32) ≤ q9 then (f_X9_part_78 1000 ms5 v1 (((16 : Int32) * v2) + v3) q9 (0 : Int32)) else (some ((-2 : Int32), ms5)))))
def f_X9_part_20 (ms : MS) (v1 : Int32) (v2 : Int32) (v3 : Int32) : Option (Int32 × MS) := f_X9_part_21 ms v1 v2 v3 (0 : Int32)
def f_X9_part (ms : MS) (v1 : Int32) (v2 : Int32) (v3 : Int32) : Option (Int32 × MS) := if v1 < 0 then (f_X9_part_20 (miU ms 0 (0 : Int32)) v1 v2 v3) else (if (8 : Int32) ≤ v1 then (f_X9_part_20 (miU ms 0 (0 : Int32)) v1 v2 v3) else (f_X9_part_21 (miU ms 0 (0 : Int32)) v1 v2 v3 (1 : Int32)))
def rm_X9_part : Room := { frames := 2, cells := 0, slots := 0, locals := 45 }
set_option maxHeartbeats 4000000 in
set_option maxRecDepth 100000 in
theorem w_X9_part_440 {p : Program} {l : Launch} {e : Env} {s : State} {m : MethodId} {args : Array Value} {below : List Frame} {meth : Method} {c : Code} {X : XT} {B : Nat} {cs : CS} {o : Nat → Int64} {r : Int32} {S9 : MS} (E : Ev X B p s m args meth c RX9 cX9_part 10 (some .int)) (k : MS → Int32 → Int32 → Int32 → Int32 → Int32 → Int32 → Int32 → Option (Int32 × MS)) (hk : ∀ (ms : MS) (v1 : Int32) (v4 : Int32) (v5 : Int32) (v6 : Int32) (v7 : Int32) (v8 : Int32) (v9 : Int32) (H : Heap) (locs : List Loc) (ls : Array Slot), k ms v1 v4 v5 v6 v7 v8 v9 = some (r, S9) → Ws X B s.heap H locs (cs, ms, o) → lv_has ls 10 [(0, .ref (X.1 7)), (1, .int v1), (4, .int v4), (5, .int v5), (6, .int v6), (7, .int v7), (8, .int v8), (9, .int v9)] → W p l e rm_X9_part s m args below meth c H locs 0 0 (MQ below (QI X B r (cs, S9, o)) args s 0 0 (Ab B)) (F0 m 182 ls [])) : ∀ (ms : MS) (v1 : Int32) (s1 : Int32) (s2 : Int32) (H : Heap) (locs : List Loc) (ls : Array Slot), f_X9_part_440 k ms v1 s1 s2 = some (r, S9) → Ws X B s.heap H locs (cs, ms, o) → lv_has ls 10 [(0, .ref (X.1 7)), (1, .int v1)] → W p l e rm_X9_part s m args below meth c H locs 0 0 (MQ below (QI X B r (cs, S9, o)) args s 0 0 (Ab B)) (F0 m 440 ls [.int s2, .int s1, .ref (X.1 45)]) := by
  obtain ⟨hx, hb, hml, hown, hts, -⟩ := id E
  intro ms v1 s1 s2 H locs ls hf hW hl
  unfold f_X9_part_440 at hf
  obtain ⟨v45, hf⟩ := ixr_e hf
  refine rs_45 E hW v45 dX9_part_440 (fun H locs hW => ?_)
  refine lv_aload_n hx hb dX9_part_441 rfl (lv_at hl 0 rfl) ?_
  refine rg_X9_46 E hW dX9_part_442 ?_
  refine lv_iload_n hx hb dX9_part_445 rfl (lv_at hl 1 rfl) ?_
  refine lv_dup2_11 hx hb dX9_part_446 rfl rfl ?_
  obtain ⟨v46, hf⟩ := ldI_e hf
  refine ra_37 E hW v46 dX9_part_447 ?_
  refine lv_iconst (v := (1 : Int32)) hx hb dX9_part_448 (by decide) ?_
  refine lv_iadd hx hb dX9_part_449 ?_
  obtain ⟨v48, hf⟩ := ixr_e hf
  refine rs_37 E hW v48 dX9_part_450 (fun H locs hW => ?_)
  refine lv_aload_n hx hb dX9_part_451 rfl (lv_at hl 0 rfl) ?_
  refine rg_X9_46 E hW dX9_part_452 ?_
  refine lv_iload_n hx hb dX9_part_455 rfl (lv_at hl 1 rfl) ?_
  obtain ⟨v49, hf⟩ := ldI_e hf
  refine ra_37 E hW v49 dX9_part_456 ?_
  refine lv_iconst (v := (1 : Int32)) hx hb dX9_part_457 (by decide) ?_
  refine lv_isub hx hb dX9_part_458 ?_
  exact retI E hW (e2M hf) dX9_part_459
set_option maxHeartbeats 4000000 in
set_option maxRecDepth 100000 in
theorem w_X9_part_263 {p : Program} {l : Launch} {e : Env} {s : State} {m : MethodId} {args : Array Value} {below : List Frame} {meth : Method} {c : Code} {X : XT} {B : Nat} {cs : CS} {o : Nat → Int64} {r : Int32} {S9 : MS} (E : Ev X B p s m args meth c RX9 cX9_part 10 (some .int)) (k : MS → Int32 → Int32 → Int32 → Int32 → Int32 → Int32 → Int32 → Option (Int32 × MS)) (hk : ∀ (ms : MS) (v1 : Int32) (v4 : Int32) (v5 : Int32) (v6 : Int32) (v7 : Int32) (v8 : Int32) (v9 : Int32) (H : Heap) (locs : List Loc) (ls : Array Slot), k ms v1 v4 v5 v6 v7 v8 v9 = some (r, S9) → Ws X B s.heap H locs (cs, ms, o) → lv_has ls 10 [(0, .ref (X.1 7)), (1, .int v1), (4, .int v4), (5, .int v5), (6, .int v6), (7, .int v7), (8, .int v8), (9, .int v9)] → W p l e rm_X9_part s m args below meth c H locs 0 0 (MQ below (QI X B r (cs, S9, o)) args s 0 0 (Ab B)) (F0 m 182 ls [])) : ∀ (ms : MS) (v1 : Int32) (v4 : Int32) (v5 : Int32) (v6 : Int32) (v7 : Int32) (H : Heap) (locs : List Loc) (ls : Array Slot), f_X9_part_263 k ms v1 v4 v5 v6 v7 = some (r, S9) → Ws X B s.heap H locs (cs, ms, o) → lv_has ls 10 [(0, .ref (X.1 7)), (1, .int v1), (4, .int v4), (5, .int v5), (6, .int v6), (7, .int v7)] → W p l e rm_X9_part s m args below meth c H locs 0 0 (MQ below (QI X B r (cs, S9, o)) args s 0 0 (Ab B)) (F0 m 263 ls []) := by
  obtain ⟨hx, hb, hml, hown, hts, -⟩ := id E
  intro ms v1 v4 v5 v6 v7 H locs ls hf hW hl
  unfold f_X9_part_263 at hf
  refine lv_aload_n hx hb dX9_part_263 rfl (lv_at hl 0 rfl) ?_
  refine rg_X9_46 E hW dX9_part_264 ?_
  refine lv_iload_n hx hb dX9_part_267 rfl (lv_at hl 1 rfl) ?_
  obtain ⟨v22, hf⟩ := ldI_e hf
  refine ra_37 E hW v22 dX9_part_268 ?_
  refine lv_bipush (v := (24 : Int32)) hx hb dX9_part_269 (by decide) ?_
  refine lv_icmp_ne (tgt := 277) hx hb dX9_part_271 (by decide) (fun h24 => ?_) (fun h24 => ?_)
  · replace hf := ite_f h24 hf
    refine lv_bipush (v := (24 : Int32)) hx hb dX9_part_277 (by decide) ?_
    refine lv_iload_n hx hb dX9_part_279 rfl (lv_at hl 1 rfl) ?_
    refine lv_imul hx hb dX9_part_280 ?_
    refine lv_aload_n hx hb dX9_part_281 rfl (lv_at hl 0 rfl) ?_
    refine rg_X9_46 E hW dX9_part_282 ?_
    refine lv_iload_n hx hb dX9_part_285 rfl (lv_at hl 1 rfl) ?_
    obtain ⟨v25, hf⟩ := ldI_e hf
    refine ra_37 E hW v25 dX9_part_286 ?_
    refine lv_iadd hx hb dX9_part_287 ?_
    refine lv_istore (lv' := [_, _, _, _, _, _, _]) hx hb dX9_part_288 hl (by decide) rfl (fun ls hl => ?_)
    refine lv_aload_n hx hb dX9_part_290 rfl (lv_at hl 1 rfl) ?_
    refine rg_X9_49 E hW dX9_part_291 ?_
    refine lv_iload hx hb dX9_part_294 (lv_at hl 0 rfl) ?_
    refine lv_iload hx hb dX9_part_296 (lv_at hl 5 rfl) ?_
    obtain ⟨v27, hf⟩ := ixr_e hf
    refine rs_38 E hW v27 dX9_part_298 (fun H locs hW => ?_)
    refine lv_aload_n hx hb dX9_part_299 rfl (lv_at hl 1 rfl) ?_
    refine rg_X9_52 E hW dX9_part_300 ?_
    refine lv_iload hx hb dX9_part_303 (lv_at hl 0 rfl) ?_
    refine lv_aload_n hx hb dX9_part_305 rfl (lv_at hl 1 rfl) ?_
    refine rg_X9_20 E hW dX9_part_306 ?_
    refine lv_bipush (v := (12 : Int32)) hx hb dX9_part_309 (by decide) ?_
    refine lv_iload hx hb dX9_part_311 (lv_at hl 3 rfl) ?_
    refine lv_imul hx hb dX9_part_313 ?_
    refine lv_iconst (v := (1 : Int32)) hx hb dX9_part_314 (by decide) ?_
    refine lv_iadd hx hb dX9_part_315 ?_
    obtain ⟨v28, hf⟩ := ldL_e hf
    refine ra_29 E hW v28 dX9_part_316 ?_
    refine lv_l2i hx hb dX9_part_317 rfl ?_
    obtain ⟨v30, hf⟩ := ixr_e hf
    refine rs_39 E hW v30 dX9_part_318 (fun H locs hW => ?_)
    refine lv_aload_n hx hb dX9_part_319 rfl (lv_at hl 1 rfl) ?_
    refine rg_X9_55 E hW dX9_part_320 ?_
    refine lv_iload hx hb dX9_part_323 (lv_at hl 0 rfl) ?_
    refine lv_iload hx hb dX9_part_325 (lv_at hl 6 rfl) ?_
    obtain ⟨v31, hf⟩ := ixr_e hf
    refine rs_40 E hW v31 dX9_part_327 (fun H locs hW => ?_)
    refine lv_aload_n hx hb dX9_part_328 rfl (lv_at hl 1 rfl) ?_
    refine rg_X9_58 E hW dX9_part_329 ?_
    refine lv_iload hx hb dX9_part_332 (lv_at hl 0 rfl) ?_
    refine lv_aload_n hx hb dX9_part_334 rfl (lv_at hl 1 rfl) ?_
    refine rg_X9_20 E hW dX9_part_335 ?_
    refine lv_bipush (v := (12 : Int32)) hx hb dX9_part_338 (by decide) ?_
    refine lv_iload hx hb dX9_part_340 (lv_at hl 3 rfl) ?_
    refine lv_imul hx hb dX9_part_342 ?_
    refine lv_iconst (v := (3 : Int32)) hx hb dX9_part_343 (by decide) ?_
    refine lv_iadd hx hb dX9_part_344 ?_
    obtain ⟨v32, hf⟩ := ldL_e hf
    refine ra_29 E hW v32 dX9_part_345 ?_
    refine lv_l2i hx hb dX9_part_346 rfl ?_
    obtain ⟨v34, hf⟩ := ixr_e hf
    refine rs_41 E hW v34 dX9_part_347 (fun H locs hW => ?_)
    refine lv_aload_n hx hb dX9_part_348 rfl (lv_at hl 1 rfl) ?_
    refine rg_X9_61 E hW dX9_part_349 ?_
    refine lv_iload hx hb dX9_part_352 (lv_at hl 0 rfl) ?_
    refine lv_aload_n hx hb dX9_part_354 rfl (lv_at hl 1 rfl) ?_
    refine rg_X9_20 E hW dX9_part_355 ?_
    refine lv_bipush (v := (12 : Int32)) hx hb dX9_part_358 (by decide) ?_
    refine lv_iload hx hb dX9_part_360 (lv_at hl 3 rfl) ?_
    refine lv_imul hx hb dX9_part_362 ?_
    refine lv_iconst (v := (4 : Int32)) hx hb dX9_part_363 (by decide) ?_
    refine lv_iadd hx hb dX9_part_364 ?_
    obtain ⟨v35, hf⟩ := ldL_e hf
    refine ra_29 E hW v35 dX9_part_365 ?_
    refine lv_l2i hx hb dX9_part_366 rfl ?_
    obtain ⟨v37, hf⟩ := ixr_e hf
    refine rs_42 E hW v37 dX9_part_367 (fun H locs hW => ?_)
    refine lv_aload_n hx hb dX9_part_368 rfl (lv_at hl 1 rfl) ?_
    refine rg_X9_64 E hW dX9_part_369 ?_
    refine lv_iload hx hb dX9_part_372 (lv_at hl 0 rfl) ?_
    refine lv_aload_n hx hb dX9_part_374 rfl (lv_at hl 1 rfl) ?_
    refine rg_X9_20 E hW dX9_part_375 ?_
    refine lv_bipush (v := (12 : Int32)) hx hb dX9_part_378 (by decide) ?_
    refine lv_iload hx hb dX9_part_380 (lv_at hl 3 rfl) ?_
    refine lv_imul hx hb dX9_part_382 ?_
    refine lv_iconst (v := (5 : Int32)) hx hb dX9_part_383 (by decide) ?_
    refine lv_iadd hx hb dX9_part_384 ?_
    obtain ⟨v38, hf⟩ := ldL_e hf
    refine ra_29 E hW v38 dX9_part_385 ?_
    refine lv_l2i hx hb dX9_part_386 rfl ?_
    obtain ⟨v40, hf⟩ := ixr_e hf
    refine rs_43 E hW v40 dX9_part_387 (fun H locs hW => ?_)
    refine lv_aload_n hx hb dX9_part_388 rfl (lv_at hl 1 rfl) ?_
    refine rg_X9_67 E hW dX9_part_389 ?_
    refine lv_iload hx hb dX9_part_392 (lv_at hl 0 rfl) ?_
    refine lv_aload_n hx hb dX9_part_394 rfl (lv_at hl 1 rfl) ?_
    refine rg_X9_20 E hW dX9_part_395 ?_
    refine lv_bipush (v := (12 : Int32)) hx hb dX9_part_398 (by decide) ?_
    refine lv_iload hx hb dX9_part_400 (lv_at hl 3 rfl) ?_
    refine lv_imul hx hb dX9_part_402 ?_
    refine lv_bipush (v := (6 : Int32)) hx hb dX9_part_403 (by decide) ?_
    refine lv_iadd hx hb dX9_part_405 ?_
    obtain ⟨v41, hf⟩ := ldL_e hf
    refine ra_29 E hW v41 dX9_part_406 ?_
    refine lv_l2i hx hb dX9_part_407 rfl ?_
    obtain ⟨v43, hf⟩ := ixr_e hf
    refine rs_44 E hW v43 dX9_part_408 (fun H locs hW => ?_)
    refine lv_aload_n hx hb dX9_part_409 rfl (lv_at hl 1 rfl) ?_
    refine rg_X9_70 E hW dX9_part_410 ?_
    refine lv_iload hx hb dX9_part_413 (lv_at hl 0 rfl) ?_
    refine lv_iload hx hb dX9_part_415 (lv_at hl 4 rfl) ?_
    refine lv_bipush (v := (7 : Int32)) hx hb dX9_part_417 (by decide) ?_
    refine lv_icmp_le (tgt := 439) hx hb dX9_part_419 (by decide) (fun h44 => ?_) (fun h44 => ?_)
    · replace hf := ite_t h44 hf
      refine lv_iconst (v := (-1 : Int32)) hx hb dX9_part_439 (by decide) ?_
      exact w_X9_part_440 E k hk _ _ _ _ _ _ _ hf hW (lv_sub hl [1, 2] rfl)
    · replace hf := ite_f h44 hf
      refine lv_aload_n hx hb dX9_part_422 rfl (lv_at hl 1 rfl) ?_
      refine rg_X9_20 E hW dX9_part_423 ?_
      refine lv_bipush (v := (12 : Int32)) hx hb dX9_part_426 (by decide) ?_
      refine lv_iload hx hb dX9_part_428 (lv_at hl 3 rfl) ?_
      refine lv_imul hx hb dX9_part_430 ?_
      refine lv_bipush (v := (7 : Int32)) hx hb dX9_part_431 (by decide) ?_
      refine lv_iadd hx hb dX9_part_433 ?_
      obtain ⟨v51, hf⟩ := ldL_e hf
      refine ra_29 E hW v51 dX9_part_434 ?_
      refine lv_l2i hx hb dX9_part_435 rfl ?_
      refine lv_goto (tgt := 440) hx hb dX9_part_436 (by decide) ?_
      exact w_X9_part_440 E k hk _ _ _ _ _ _ _ hf hW (lv_sub hl [1, 2] rfl)
  · replace hf := ite_t h24 hf
    refine lv_bipush (v := (-5 : Int32)) hx hb dX9_part_274 (by decide) ?_
    exact retI E hW (e2M hf) dX9_part_276
set_option maxHeartbeats 4000000 in
set_option maxRecDepth 100000 in
theorem w_X9_part_225 {p : Program} {l : Launch} {e : Env} {s : State} {m : MethodId} {args : Array Value} {below : List Frame} {meth : Method} {c : Code} {X : XT} {B : Nat} {cs : CS} {o : Nat → Int64} {r : Int32} {S9 : MS} (E : Ev X B p s m args meth c RX9 cX9_part 10 (some .int)) (k : MS → Int32 → Int32 → Int32 → Int32 → Int32 → Int32 → Int32 → Option (Int32 × MS)) (hk : ∀ (ms : MS) (v1 : Int32) (v4 : Int32) (v5 : Int32) (v6 : Int32) (v7 : Int32) (v8 : Int32) (v9 : Int32) (H : Heap) (locs : List Loc) (ls : Array Slot), k ms v1 v4 v5 v6 v7 v8 v9 = some (r, S9) → Ws X B s.heap H locs (cs, ms, o) → lv_has ls 10 [(0, .ref (X.1 7)), (1, .int v1), (4, .int v4), (5, .int v5), (6, .int v6), (7, .int v7), (8, .int v8), (9, .int v9)] → W p l e rm_X9_part s m args below meth c H locs 0 0 (MQ below (QI X B r (cs, S9, o)) args s 0 0 (Ab B)) (F0 m 182 ls [])) : ∀ (ms : MS) (v1 : Int32) (v4 : Int32) (v5 : Int32) (v6 : Int32) (v7 : Int32) (v9 : Int32) (s0 : Int32) (H : Heap) (locs : List Loc) (ls : Array Slot), f_X9_part_225 k ms v1 v4 v5 v6 v7 v9 s0 = some (r, S9) → Ws X B s.heap H locs (cs, ms, o) → lv_has ls 10 [(0, .ref (X.1 7)), (1, .int v1), (4, .int v4), (5, .int v5), (6, .int v6), (7, .int v7), (9, .int v9)] → W p l e rm_X9_part s m args below meth c H locs 0 0 (MQ below (QI X B r (cs, S9, o)) args s 0 0 (Ab B)) (F0 m 225 ls [.int s0]) := by
  obtain ⟨hx, hb, hml, hown, hts, -⟩ := id E
  intro ms v1 v4 v5 v6 v7 v9 s0 H locs ls hf hW hl
  unfold f_X9_part_225 at hf
  refine lv_istore (lv' := [_, _, _, _, _, _, _, _]) hx hb dX9_part_225 hl (by decide) rfl (fun ls hl => ?_)
  refine lv_iinc (v := _ + (1 : Int32)) (lv' := [_, _, _, _, _, _, _, _]) hx hb dX9_part_227 hl (k := 7) rfl rfl (by decide) rfl (fun ls hl => ?_)
  refine lv_goto (tgt := 182) hx hb dX9_part_230 (by decide) ?_
  exact hk _ _ _ _ _ _ _ _ _ _ _ hf hW (lv_sub hl [2, 3, 4, 5, 6, 7, 1, 0] rfl)
set_option maxHeartbeats 4000000 in
set_option maxRecDepth 100000 in
theorem w_X9_part_220 {p : Program} {l : Launch} {e : Env} {s : State} {m : MethodId} {args : Array Value} {below : List Frame} {meth : Method} {c : Code} {X : XT} {B : Nat} {cs : CS} {o : Nat → Int64} {r : Int32} {S9 : MS} (E : Ev X B p s m args meth c RX9 cX9_part 10 (some .int)) (k : MS → Int32 → Int32 → Int32 → Int32 → Int32 → Int32 → Int32 → Option (Int32 × MS)) (hk : ∀ (ms : MS) (v1 : Int32) (v4 : Int32) (v5 : Int32) (v6 : Int32) (v7 : Int32) (v8 : Int32) (v9 : Int32) (H : Heap) (locs : List Loc) (ls : Array Slot), k ms v1 v4 v5 v6 v7 v8 v9 = some (r, S9) → Ws X B s.heap H locs (cs, ms, o) → lv_has ls 10 [(0, .ref (X.1 7)), (1, .int v1), (4, .int v4), (5, .int v5), (6, .int v6), (7, .int v7), (8, .int v8), (9, .int v9)] → W p l e rm_X9_part s m args below meth c H locs 0 0 (MQ below (QI X B r (cs, S9, o)) args s 0 0 (Ab B)) (F0 m 182 ls [])) : ∀ (ms : MS) (v1 : Int32) (v4 : Int32) (v5 : Int32) (v6 : Int32) (v7 : Int32) (v9 : Int32) (H : Heap) (locs : List Loc) (ls : Array Slot), f_X9_part_220 k ms v1 v4 v5 v6 v7 v9 = some (r, S9) → Ws X B s.heap H locs (cs, ms, o) → lv_has ls 10 [(0, .ref (X.1 7)), (1, .int v1), (4, .int v4), (5, .int v5), (6, .int v6), (7, .int v7), (9, .int v9)] → W p l e rm_X9_part s m args below meth c H locs 0 0 (MQ below (QI X B r (cs, S9, o)) args s 0 0 (Ab B)) (F0 m 220 ls []) := by
  obtain ⟨hx, hb, hml, hown, hts, -⟩ := id E
  intro ms v1 v4 v5 v6 v7 v9 H locs ls hf hW hl
  unfold f_X9_part_220 at hf
  refine lv_iconst (v := (1 : Int32)) hx hb dX9_part_220 (by decide) ?_
  refine lv_goto (tgt := 225) hx hb dX9_part_221 (by decide) ?_
  exact w_X9_part_225 E k hk _ _ _ _ _ _ _ _ _ _ _ hf hW (lv_sub hl [0, 1, 2, 3, 4, 5, 6] rfl)
set_option maxHeartbeats 4000000 in
set_option maxRecDepth 100000 in
theorem w_X9_part_224 {p : Program} {l : Launch} {e : Env} {s : State} {m : MethodId} {args : Array Value} {below : List Frame} {meth : Method} {c : Code} {X : XT} {B : Nat} {cs : CS} {o : Nat → Int64} {r : Int32} {S9 : MS} (E : Ev X B p s m args meth c RX9 cX9_part 10 (some .int)) (k : MS → Int32 → Int32 → Int32 → Int32 → Int32 → Int32 → Int32 → Option (Int32 × MS)) (hk : ∀ (ms : MS) (v1 : Int32) (v4 : Int32) (v5 : Int32) (v6 : Int32) (v7 : Int32) (v8 : Int32) (v9 : Int32) (H : Heap) (locs : List Loc) (ls : Array Slot), k ms v1 v4 v5 v6 v7 v8 v9 = some (r, S9) → Ws X B s.heap H locs (cs, ms, o) → lv_has ls 10 [(0, .ref (X.1 7)), (1, .int v1), (4, .int v4), (5, .int v5), (6, .int v6), (7, .int v7), (8, .int v8), (9, .int v9)] → W p l e rm_X9_part s m args below meth c H locs 0 0 (MQ below (QI X B r (cs, S9, o)) args s 0 0 (Ab B)) (F0 m 182 ls [])) : ∀ (ms : MS) (v1 : Int32) (v4 : Int32) (v5 : Int32) (v6 : Int32) (v7 : Int32) (v9 : Int32) (H : Heap) (locs : List Loc) (ls : Array Slot), f_X9_part_224 k ms v1 v4 v5 v6 v7 v9 = some (r, S9) → Ws X B s.heap H locs (cs, ms, o) → lv_has ls 10 [(0, .ref (X.1 7)), (1, .int v1), (4, .int v4), (5, .int v5), (6, .int v6), (7, .int v7), (9, .int v9)] → W p l e rm_X9_part s m args below meth c H locs 0 0 (MQ below (QI X B r (cs, S9, o)) args s 0 0 (Ab B)) (F0 m 224 ls []) := by
  obtain ⟨hx, hb, hml, hown, hts, -⟩ := id E
  intro ms v1 v4 v5 v6 v7 v9 H locs ls hf hW hl
  unfold f_X9_part_224 at hf
  refine lv_iconst (v := (0 : Int32)) hx hb dX9_part_224 (by decide) ?_
  exact w_X9_part_225 E k hk _ _ _ _ _ _ _ _ _ _ _ hf hW (lv_sub hl [0, 1, 2, 3, 4, 5, 6] rfl)
set_option maxHeartbeats 4000000 in
set_option maxRecDepth 100000 in
theorem w_X9_part_182 {p : Program} {l : Launch} {e : Env} {s : State} {m : MethodId} {args : Array Value} {below : List Frame} {meth : Method} {c : Code} {X : XT} {B : Nat} {cs : CS} {o : Nat → Int64} {r : Int32} {S9 : MS} (E : Ev X B p s m args meth c RX9 cX9_part 10 (some .int)) : ∀ (n : Nat) (ms : MS) (v1 : Int32) (v4 : Int32) (v5 : Int32) (v6 : Int32) (v7 : Int32) (v8 : Int32) (v9 : Int32) (H : Heap) (locs : List Loc) (ls : Array Slot), f_X9_part_182 n ms v1 v4 v5 v6 v7 v8 v9 = some (r, S9) → Ws X B s.heap H locs (cs, ms, o) → lv_has ls 10 [(0, .ref (X.1 7)), (1, .int v1), (4, .int v4), (5, .int v5), (6, .int v6), (7, .int v7), (8, .int v8), (9, .int v9)] → W p l e rm_X9_part s m args below meth c H locs 0 0 (MQ below (QI X B r (cs, S9, o)) args s 0 0 (Ab B)) (F0 m 182 ls []) := by
  obtain ⟨hx, hb, hml, hown, hts, -⟩ := id E
  intro n
  induction n with
  | zero => intro ms v1 v4 v5 v6 v7 v8 v9 H locs ls hf; exact absurd hf nofun
  | succ n ih =>
    intro ms v1 v4 v5 v6 v7 v8 v9 H locs ls hf hW hl
    rw [f_X9_part_182] at hf
    refine lv_iload hx hb dX9_part_182 (lv_at hl 7 rfl) ?_
    refine lv_aload_n hx hb dX9_part_184 rfl (lv_at hl 0 rfl) ?_
    refine rg_X9_46 E hW dX9_part_185 ?_
    refine lv_iload_n hx hb dX9_part_188 rfl (lv_at hl 1 rfl) ?_
    obtain ⟨v17, hf⟩ := ldI_e hf
    refine ra_37 E hW v17 dX9_part_189 ?_
    refine lv_icmp_ge (tgt := 233) hx hb dX9_part_190 (by decide) (fun h19 => ?_) (fun h19 => ?_)
    · replace hf := ite_t h19 hf
      refine lv_iload hx hb dX9_part_233 (lv_at hl 6 rfl) ?_
      refine lv_if_ne (tgt := 260) hx hb dX9_part_235 (by decide) (fun h20 => ?_) (fun h20 => ?_)
      · replace hf := ite_f h20 hf
        refine lv_bipush (v := (-4 : Int32)) hx hb dX9_part_260 (by decide) ?_
        exact retI E hW (e2M hf) dX9_part_262
      · replace hf := ite_t h20 hf
        refine lv_iload hx hb dX9_part_238 (lv_at hl 5 rfl) ?_
        refine lv_iconst (v := (-1 : Int32)) hx hb dX9_part_240 (by decide) ?_
        refine lv_icmp_eq (tgt := 263) hx hb dX9_part_241 (by decide) (fun h21 => ?_) (fun h21 => ?_)
        · replace hf := ite_t h21 hf
          exact w_X9_part_263 E (f_X9_part_182 n) ih _ _ _ _ _ _ _ _ _ hf hW (lv_sub hl [0, 1, 2, 3, 4, 5] rfl)
        · replace hf := ite_f h21 hf
          refine lv_aload_n hx hb dX9_part_244 rfl (lv_at hl 0 rfl) ?_
          refine rg_X9_49 E hW dX9_part_245 ?_
          refine lv_bipush (v := (24 : Int32)) hx hb dX9_part_248 (by decide) ?_
          refine lv_iload_n hx hb dX9_part_250 rfl (lv_at hl 1 rfl) ?_
          refine lv_imul hx hb dX9_part_251 ?_
          refine lv_iload hx hb dX9_part_252 (lv_at hl 5 rfl) ?_
          refine lv_iadd hx hb dX9_part_254 ?_
          obtain ⟨v53, hf⟩ := ldI_e hf
          refine ra_38 E hW v53 dX9_part_255 ?_
          refine lv_iconst (v := (5 : Int32)) hx hb dX9_part_256 (by decide) ?_
          refine lv_icmp_ne (tgt := 263) hx hb dX9_part_257 (by decide) (fun h55 => ?_) (fun h55 => ?_)
          · replace hf := ite_f h55 hf
            exact w_X9_part_263 E (f_X9_part_182 n) ih _ _ _ _ _ _ _ _ _ hf hW (lv_sub hl [0, 1, 2, 3, 4, 5] rfl)
          · replace hf := ite_t h55 hf
            refine lv_bipush (v := (-4 : Int32)) hx hb dX9_part_260 (by decide) ?_
            exact retI E hW (e2M hf) dX9_part_262
    · replace hf := ite_f h19 hf
      refine lv_iload hx hb dX9_part_193 (lv_at hl 6 rfl) ?_
      refine lv_if_ne (tgt := 220) hx hb dX9_part_195 (by decide) (fun h56 => ?_) (fun h56 => ?_)
      · replace hf := ite_f h56 hf
        exact w_X9_part_220 E (f_X9_part_182 n) ih _ _ _ _ _ _ _ _ _ _ hf hW (lv_sub hl [0, 1, 2, 3, 4, 5, 7] rfl)
      · replace hf := ite_t h56 hf
        refine lv_iload hx hb dX9_part_198 (lv_at hl 4 rfl) ?_
        refine lv_iconst (v := (5 : Int32)) hx hb dX9_part_200 (by decide) ?_
        refine lv_icmp_ne (tgt := 224) hx hb dX9_part_201 (by decide) (fun h57 => ?_) (fun h57 => ?_)
        · replace hf := ite_f h57 hf
          exact w_X9_part_224 E (f_X9_part_182 n) ih _ _ _ _ _ _ _ _ _ _ hf hW (lv_sub hl [0, 1, 2, 3, 4, 5, 7] rfl)
        · replace hf := ite_t h57 hf
          refine lv_aload_n hx hb dX9_part_204 rfl (lv_at hl 0 rfl) ?_
          refine rg_X9_49 E hW dX9_part_205 ?_
          refine lv_bipush (v := (24 : Int32)) hx hb dX9_part_208 (by decide) ?_
          refine lv_iload_n hx hb dX9_part_210 rfl (lv_at hl 1 rfl) ?_
          refine lv_imul hx hb dX9_part_211 ?_
          refine lv_iload hx hb dX9_part_212 (lv_at hl 7 rfl) ?_
          refine lv_iadd hx hb dX9_part_214 ?_
          obtain ⟨v58, hf⟩ := ldI_e hf
          refine ra_38 E hW v58 dX9_part_215 ?_
          refine lv_iconst (v := (5 : Int32)) hx hb dX9_part_216 (by decide) ?_
          refine lv_icmp_ne (tgt := 224) hx hb dX9_part_217 (by decide) (fun h60 => ?_) (fun h60 => ?_)
          · replace hf := ite_f h60 hf
            exact w_X9_part_224 E (f_X9_part_182 n) ih _ _ _ _ _ _ _ _ _ _ hf hW (lv_sub hl [0, 1, 2, 3, 4, 5, 7] rfl)
          · replace hf := ite_t h60 hf
            exact w_X9_part_220 E (f_X9_part_182 n) ih _ _ _ _ _ _ _ _ _ _ hf hW (lv_sub hl [0, 1, 2, 3, 4, 5, 7] rfl)
set_option maxHeartbeats 4000000 in
set_option maxRecDepth 100000 in
theorem w_X9_part_148 {p : Program} {l : Launch} {e : Env} {s : State} {m : MethodId} {args : Array Value} {below : List Frame} {meth : Method} {c : Code} {X : XT} {B : Nat} {cs : CS} {o : Nat → Int64} {r : Int32} {S9 : MS} (E : Ev X B p s m args meth c RX9 cX9_part 10 (some .int)) (k : MS → Int32 → Int32 → Int32 → Int32 → Option (Int32 × MS)) (hk : ∀ (ms : MS) (v1 : Int32) (v4 : Int32) (v5 : Int32) (v6 : Int32) (H : Heap) (locs : List Loc) (ls : Array Slot), k ms v1 v4 v5 v6 = some (r, S9) → Ws X B s.heap H locs (cs, ms, o) → lv_has ls 10 [(0, .ref (X.1 7)), (1, .int v1), (4, .int v4), (5, .int v5), (6, .int v6)] → W p l e rm_X9_part s m args below meth c H locs 0 0 (MQ below (QI X B r (cs, S9, o)) args s 0 0 (Ab B)) (F0 m 78 ls [])) : ∀ (ms : MS) (v1 : Int32) (v4 : Int32) (v5 : Int32) (H : Heap) (locs : List Loc) (ls : Array Slot), f_X9_part_148 k ms v1 v4 v5 = some (r, S9) → Ws X B s.heap H locs (cs, ms, o) → lv_has ls 10 [(0, .ref (X.1 7)), (1, .int v1), (4, .int v4), (5, .int v5)] → W p l e rm_X9_part s m args below meth c H locs 0 0 (MQ below (QI X B r (cs, S9, o)) args s 0 0 (Ab B)) (F0 m 148 ls []) := by
  obtain ⟨hx, hb, hml, hown, hts, -⟩ := id E
  intro ms v1 v4 v5 H locs ls hf hW hl
  unfold f_X9_part_148 at hf
  refine lv_aload_n hx hb dX9_part_148 rfl (lv_at hl 0 rfl) ?_
  refine rg_X9_20 E hW dX9_part_149 ?_
  refine lv_bipush (v := (12 : Int32)) hx hb dX9_part_152 (by decide) ?_
  refine lv_iload hx hb dX9_part_154 (lv_at hl 2 rfl) ?_
  refine lv_imul hx hb dX9_part_156 ?_
  obtain ⟨v13, hf⟩ := ldL_e hf
  refine ra_29 E hW v13 dX9_part_157 ?_
  refine lv_l2i hx hb dX9_part_158 rfl ?_
  refine lv_istore (lv' := [_, _, _, _, _]) hx hb dX9_part_159 hl (by decide) rfl (fun ls hl => ?_)
  refine lv_aload_n hx hb dX9_part_161 rfl (lv_at hl 1 rfl) ?_
  refine rg_X9_20 E hW dX9_part_162 ?_
  refine lv_bipush (v := (12 : Int32)) hx hb dX9_part_165 (by decide) ?_
  refine lv_iload hx hb dX9_part_167 (lv_at hl 3 rfl) ?_
  refine lv_imul hx hb dX9_part_169 ?_
  refine lv_iconst (v := (2 : Int32)) hx hb dX9_part_170 (by decide) ?_
  refine lv_iadd hx hb dX9_part_171 ?_
  obtain ⟨v15, hf⟩ := ldL_e hf
  refine ra_29 E hW v15 dX9_part_172 ?_
  refine lv_l2i hx hb dX9_part_173 rfl ?_
  refine lv_istore (lv' := [_, _, _, _, _, _]) hx hb dX9_part_174 hl (by decide) rfl (fun ls hl => ?_)
  refine lv_iconst (v := (0 : Int32)) hx hb dX9_part_176 (by decide) ?_
  refine lv_istore (lv' := [_, _, _, _, _, _, _]) hx hb dX9_part_177 hl (by decide) rfl (fun ls hl => ?_)
  refine lv_iconst (v := (0 : Int32)) hx hb dX9_part_179 (by decide) ?_
  refine lv_istore (lv' := [_, _, _, _, _, _, _, _]) hx hb dX9_part_180 hl (by decide) rfl (fun ls hl => ?_)
  exact w_X9_part_182 E 1000 _ _ _ _ _ _ _ _ _ _ _ hf hW (lv_sub hl [4, 5, 6, 7, 3, 2, 1, 0] rfl)
set_option maxHeartbeats 4000000 in
set_option maxRecDepth 100000 in
theorem w_X9_part_78 {p : Program} {l : Launch} {e : Env} {s : State} {m : MethodId} {args : Array Value} {below : List Frame} {meth : Method} {c : Code} {X : XT} {B : Nat} {cs : CS} {o : Nat → Int64} {r : Int32} {S9 : MS} (E : Ev X B p s m args meth c RX9 cX9_part 10 (some .int)) : ∀ (n : Nat) (ms : MS) (v1 : Int32) (v4 : Int32) (v5 : Int32) (v6 : Int32) (H : Heap) (locs : List Loc) (ls : Array Slot), f_X9_part_78 n ms v1 v4 v5 v6 = some (r, S9) → Ws X B s.heap H locs (cs, ms, o) → lv_has ls 10 [(0, .ref (X.1 7)), (1, .int v1), (4, .int v4), (5, .int v5), (6, .int v6)] → W p l e rm_X9_part s m args below meth c H locs 0 0 (MQ below (QI X B r (cs, S9, o)) args s 0 0 (Ab B)) (F0 m 78 ls []) := by
  obtain ⟨hx, hb, hml, hown, hts, -⟩ := id E
  intro n
  induction n with
  | zero => intro ms v1 v4 v5 v6 H locs ls hf; exact absurd hf nofun
  | succ n ih =>
    intro ms v1 v4 v5 v6 H locs ls hf hW hl
    rw [f_X9_part_78] at hf
    refine lv_iload hx hb dX9_part_78 (lv_at hl 4 rfl) ?_
    refine lv_bipush (v := (8 : Int32)) hx hb dX9_part_80 (by decide) ?_
    refine lv_icmp_ge (tgt := 148) hx hb dX9_part_82 (by decide) (fun h12 => ?_) (fun h12 => ?_)
    · replace hf := ite_t h12 hf
      exact w_X9_part_148 E (f_X9_part_78 n) ih _ _ _ _ _ _ _ hf hW (lv_sub hl [0, 1, 2, 3] rfl)
    · replace hf := ite_f h12 hf
      refine lv_iload hx hb dX9_part_85 (lv_at hl 4 rfl) ?_
      refine lv_iload hx hb dX9_part_87 (lv_at hl 3 rfl) ?_
      refine lv_icmp_ge (tgt := 148) hx hb dX9_part_89 (by decide) (fun h61 => ?_) (fun h61 => ?_)
      · replace hf := ite_t h61 hf
        exact w_X9_part_148 E (f_X9_part_78 n) ih _ _ _ _ _ _ _ hf hW (lv_sub hl [0, 1, 2, 3] rfl)
      · replace hf := ite_f h61 hf
        refine lv_aload_n hx hb dX9_part_92 rfl (lv_at hl 0 rfl) ?_
        refine rg_X9_20 E hW dX9_part_93 ?_
        refine lv_bipush (v := (12 : Int32)) hx hb dX9_part_96 (by decide) ?_
        refine lv_iload hx hb dX9_part_98 (lv_at hl 2 rfl) ?_
        refine lv_imul hx hb dX9_part_100 ?_
        refine lv_iload hx hb dX9_part_101 (lv_at hl 4 rfl) ?_
        refine lv_iadd hx hb dX9_part_103 ?_
        obtain ⟨v62, hf⟩ := ldL_e hf
        refine ra_29 E hW v62 dX9_part_104 ?_
        refine lv_aload_n hx hb dX9_part_105 rfl (lv_at hl 0 rfl) ?_
        refine lv_iload hx hb dX9_part_106 (lv_at hl 4 rfl) ?_
        obtain ⟨r64, hc, hf⟩ := b1_e hf
        refine callVJ (As := [.int _]) (rest := [_]) E hW (c_X9_least l hc) lk_X9_233 rcv_X9 (Nat.le_of_ble_eq_true rfl) (Nat.le_of_ble_eq_true rfl) (Nat.le_of_ble_eq_true rfl) (Nat.le_of_ble_eq_true rfl) hl.1 (Nat.le_of_ble_eq_true rfl) dX9_part_108 (fun H locs hW => ?_)
        refine W.lcmp hx hb dX9_part_111 ?_
        refine lv_if_lt (tgt := 139) hx hb dX9_part_112 (by decide) (fun h65 => ?_) (fun h65 => ?_)
        · replace hf := ite_t h65 hf
          refine lv_bipush (v := (-3 : Int32)) hx hb dX9_part_139 (by decide) ?_
          exact retI E hW (e2M hf) dX9_part_141
        · replace hf := ite_f h65 hf
          refine lv_aload_n hx hb dX9_part_115 rfl (lv_at hl 0 rfl) ?_
          refine rg_X9_20 E hW dX9_part_116 ?_
          refine lv_bipush (v := (12 : Int32)) hx hb dX9_part_119 (by decide) ?_
          refine lv_iload hx hb dX9_part_121 (lv_at hl 2 rfl) ?_
          refine lv_imul hx hb dX9_part_123 ?_
          refine lv_iload hx hb dX9_part_124 (lv_at hl 4 rfl) ?_
          refine lv_iadd hx hb dX9_part_126 ?_
          obtain ⟨v66, hf⟩ := ldL_e hf
          refine ra_29 E hW v66 dX9_part_127 ?_
          refine lv_aload_n hx hb dX9_part_128 rfl (lv_at hl 0 rfl) ?_
          refine lv_iload hx hb dX9_part_129 (lv_at hl 4 rfl) ?_
          refine lv_iload_n hx hb dX9_part_131 rfl (lv_at hl 1 rfl) ?_
          obtain ⟨r68, hc, hf⟩ := b1_e hf
          refine callVJ (As := [.int _, .int _]) (rest := [_]) E hW (c_X9_most l hc) lk_X9_237 rcv_X9 (Nat.le_of_ble_eq_true rfl) (Nat.le_of_ble_eq_true rfl) (Nat.le_of_ble_eq_true rfl) (Nat.le_of_ble_eq_true rfl) hl.1 (Nat.le_of_ble_eq_true rfl) dX9_part_132 (fun H locs hW => ?_)
          refine W.lcmp hx hb dX9_part_135 ?_
          refine lv_if_le (tgt := 142) hx hb dX9_part_136 (by decide) (fun h69 => ?_) (fun h69 => ?_)
          · replace hf := ite_t h69 hf
            refine lv_iinc (v := _ + (1 : Int32)) (lv' := [_, _, _, _, _]) hx hb dX9_part_142 hl (k := 4) rfl rfl (by decide) rfl (fun ls hl => ?_)
            refine lv_goto (tgt := 78) hx hb dX9_part_145 (by decide) ?_
            exact ih _ _ _ _ _ _ _ _ hf hW (lv_sub hl [1, 2, 3, 4, 0] rfl)
          · replace hf := ite_f h69 hf
            refine lv_bipush (v := (-3 : Int32)) hx hb dX9_part_139 (by decide) ?_
            exact retI E hW (e2M hf) dX9_part_141
set_option maxHeartbeats 4000000 in
set_option maxRecDepth 100000 in
theorem w_X9_part_21 {p : Program} {l : Launch} {e : Env} {s : State} {m : MethodId} {args : Array Value} {below : List Frame} {meth : Method} {c : Code} {X : XT} {B : Nat} {cs : CS} {o : Nat → Int64} {r : Int32} {S9 : MS} (E : Ev X B p s m args meth c RX9 cX9_part 10 (some .int)) : ∀ (ms : MS) (v1 : Int32) (v2 : Int32) (v3 : Int32) (s1 : Int32) (H : Heap) (locs : List Loc) (ls : Array Slot), f_X9_part_21 ms v1 v2 v3 s1 = some (r, S9) → Ws X B s.heap H locs (cs, ms, o) → lv_has ls 10 [(0, .ref (X.1 7)), (1, .int v1), (2, .int v2), (3, .int v3)] → W p l e rm_X9_part s m args below meth c H locs 0 0 (MQ below (QI X B r (cs, S9, o)) args s 0 0 (Ab B)) (F0 m 21 ls [.int s1, .ref (X.1 7)]) := by
  obtain ⟨hx, hb, hml, hown, hts, -⟩ := id E
  intro ms v1 v2 v3 s1 H locs ls hf hW hl
  unfold f_X9_part_21 at hf
  refine lv_iconst (v := (1 : Int32)) hx hb dX9_part_21 (by decide) ?_
  obtain ⟨r3, ms2, hc, hf⟩ := b2_e hf
  refine callVI (As := [.int _, .int _]) (rest := []) E hW (c_X9_may l hc) lk_X9_151 rcv_X9 (Nat.le_of_ble_eq_true rfl) (Nat.le_of_ble_eq_true rfl) (Nat.le_of_ble_eq_true rfl) (Nat.le_of_ble_eq_true rfl) hl.1 (Nat.le_of_ble_eq_true rfl) dX9_part_22 (fun H locs hW => ?_)
  refine lv_if_eq (tgt := 38) hx hb dX9_part_25 (by decide) (fun h4 => ?_) (fun h4 => ?_)
  · replace hf := ite_t h4 hf
    refine lv_iconst (v := (0 : Int32)) hx hb dX9_part_38 (by decide) ?_
    exact retI E hW (e2M hf) dX9_part_39
  · replace hf := ite_f h4 hf
    refine lv_aload_n hx hb dX9_part_28 rfl (lv_at hl 0 rfl) ?_
    refine lv_iload_n hx hb dX9_part_29 rfl (lv_at hl 2 rfl) ?_
    refine lv_iload_n hx hb dX9_part_30 rfl (lv_at hl 3 rfl) ?_
    refine lv_iconst (v := (2 : Int32)) hx hb dX9_part_31 (by decide) ?_
    obtain ⟨r6, ms5, hc, hf⟩ := b2_e hf
    refine callVI (As := [.int _, .int _, .int _]) (rest := []) E hW (c_X9_isRow l hc) lk_X9_158 rcv_X9 (Nat.le_of_ble_eq_true rfl) (Nat.le_of_ble_eq_true rfl) (Nat.le_of_ble_eq_true rfl) (Nat.le_of_ble_eq_true rfl) hl.1 (Nat.le_of_ble_eq_true rfl) dX9_part_32 (fun H locs hW => ?_)
    refine lv_if_ne (tgt := 40) hx hb dX9_part_35 (by decide) (fun h7 => ?_) (fun h7 => ?_)
    · replace hf := ite_f h7 hf
      refine lv_bipush (v := (16 : Int32)) hx hb dX9_part_40 (by decide) ?_
      refine lv_iload_n hx hb dX9_part_42 rfl (lv_at hl 2 rfl) ?_
      refine lv_imul hx hb dX9_part_43 ?_
      refine lv_iload_n hx hb dX9_part_44 rfl (lv_at hl 3 rfl) ?_
      refine lv_iadd hx hb dX9_part_45 ?_
      refine lv_istore (lv' := [_, _, _, _, _]) hx hb dX9_part_46 hl (by decide) rfl (fun ls hl => ?_)
      refine lv_aload_n hx hb dX9_part_48 rfl (lv_at hl 1 rfl) ?_
      refine rg_X9_17 E hW dX9_part_49 ?_
      refine lv_iload hx hb dX9_part_52 (lv_at hl 0 rfl) ?_
      obtain ⟨v8, hf⟩ := ldI_e hf
      refine ra_28 E hW v8 dX9_part_54 ?_
      refine lv_istore (lv' := [_, _, _, _, _, _]) hx hb dX9_part_55 hl (by decide) rfl (fun ls hl => ?_)
      refine lv_iload hx hb dX9_part_57 (lv_at hl 0 rfl) ?_
      refine lv_iconst (v := (-1 : Int32)) hx hb dX9_part_59 (by decide) ?_
      refine lv_icmp_ne (tgt := 65) hx hb dX9_part_60 (by decide) (fun h10 => ?_) (fun h10 => ?_)
      · replace hf := ite_f h10 hf
        refine lv_iload hx hb dX9_part_65 (lv_at hl 0 rfl) ?_
        refine lv_bipush (v := (7 : Int32)) hx hb dX9_part_67 (by decide) ?_
        refine lv_icmp_ge (tgt := 75) hx hb dX9_part_69 (by decide) (fun h11 => ?_) (fun h11 => ?_)
        · replace hf := ite_t h11 hf
          refine lv_iconst (v := (0 : Int32)) hx hb dX9_part_75 (by decide) ?_
          refine lv_istore (lv' := [_, _, _, _, _, _, _]) hx hb dX9_part_76 hl (by decide) rfl (fun ls hl => ?_)
          exact w_X9_part_78 E 1000 _ _ _ _ _ _ _ _ hf hW (lv_sub hl [3, 4, 2, 1, 0] rfl)
        · replace hf := ite_f h11 hf
          refine lv_bipush (v := (-2 : Int32)) hx hb dX9_part_72 (by decide) ?_
          exact retI E hW (e2M hf) dX9_part_74
      · replace hf := ite_t h10 hf
        refine lv_iconst (v := (-1 : Int32)) hx hb dX9_part_63 (by decide) ?_
        exact retI E hW (e2M hf) dX9_part_64
    · replace hf := ite_t h7 hf
      refine lv_iconst (v := (0 : Int32)) hx hb dX9_part_38 (by decide) ?_
      exact retI E hW (e2M hf) dX9_part_39
set_option maxHeartbeats 4000000 in
set_option maxRecDepth 100000 in
theorem w_X9_part_20 {p : Program} {l : Launch} {e : Env} {s : State} {m : MethodId} {args : Array Value} {below : List Frame} {meth : Method} {c : Code} {X : XT} {B : Nat} {cs : CS} {o : Nat → Int64} {r : Int32} {S9 : MS} (E : Ev X B p s m args meth c RX9 cX9_part 10 (some .int)) : ∀ (ms : MS) (v1 : Int32) (v2 : Int32) (v3 : Int32) (H : Heap) (locs : List Loc) (ls : Array Slot), f_X9_part_20 ms v1 v2 v3 = some (r, S9) → Ws X B s.heap H locs (cs, ms, o) → lv_has ls 10 [(0, .ref (X.1 7)), (1, .int v1), (2, .int v2), (3, .int v3)] → W p l e rm_X9_part s m args below meth c H locs 0 0 (MQ below (QI X B r (cs, S9, o)) args s 0 0 (Ab B)) (F0 m 20 ls [.ref (X.1 7)]) := by
  obtain ⟨hx, hb, hml, hown, hts, -⟩ := id E
  intro ms v1 v2 v3 H locs ls hf hW hl
  unfold f_X9_part_20 at hf
  refine lv_iconst (v := (0 : Int32)) hx hb dX9_part_20 (by decide) ?_
  exact w_X9_part_21 E _ _ _ _ _ _ _ _ hf hW (lv_sub hl [0, 1, 2, 3] rfl)
set_option maxHeartbeats 4000000 in
set_option maxRecDepth 100000 in
theorem c_X9_part (l : Launch) {X : XT} {B : Nat} {cs : CS} {ms : MS} {o : Nat → Int64} {v1 : Int32} {v2 : Int32} {v3 : Int32} {r : Int32} {S9 : MS} (hf : f_X9_part ms v1 v2 v3 = some (r, S9)) : Met l yX9_part (.code yX9_part cX9_part 10 (some .int) :: BIG) rm_X9_part (Pre X B (cs, ms, o) [.ref (X.1 7), .int v1, .int v2, .int v3]) (QI X B r (cs, S9, o)) 0 0 (Ab B) := by
  refine entry (by decide +kernel) rfl (Nat.le_of_ble_eq_true rfl) (fun p e s m below meth c ls E hW hl => ?_)
  obtain ⟨hx, hb, hml, hown, hts, -⟩ := id E
  replace hl : lv_has ls 10 [(0, .ref (X.1 7)), (1, .int v1), (2, .int v2), (3, .int v3)] := hl
  unfold f_X9_part at hf
  refine lv_aload_n hx hb dX9_part_0 rfl (lv_at hl 0 rfl) ?_
  refine lv_iconst (v := (0 : Int32)) hx hb dX9_part_1 (by decide) ?_
  refine rp_X9_1 E hW dX9_part_2 (fun H locs hW => ?_)
  refine lv_aload_n hx hb dX9_part_5 rfl (lv_at hl 0 rfl) ?_
  refine lv_iload_n hx hb dX9_part_6 rfl (lv_at hl 1 rfl) ?_
  refine lv_if_lt (tgt := 20) hx hb dX9_part_7 (by decide) (fun h1 => ?_) (fun h1 => ?_)
  · replace hf := ite_t h1 hf
    exact w_X9_part_20 E _ _ _ _ _ _ _ hf hW (lv_sub hl [0, 1, 2, 3] rfl)
  · replace hf := ite_f h1 hf
    refine lv_iload_n hx hb dX9_part_10 rfl (lv_at hl 1 rfl) ?_
    refine lv_bipush (v := (8 : Int32)) hx hb dX9_part_11 (by decide) ?_
    refine lv_icmp_ge (tgt := 20) hx hb dX9_part_13 (by decide) (fun h70 => ?_) (fun h70 => ?_)
    · replace hf := ite_t h70 hf
      exact w_X9_part_20 E _ _ _ _ _ _ _ hf hW (lv_sub hl [0, 1, 2, 3] rfl)
    · replace hf := ite_f h70 hf
      refine lv_iconst (v := (1 : Int32)) hx hb dX9_part_16 (by decide) ?_
      refine lv_goto (tgt := 21) hx hb dX9_part_17 (by decide) ?_
      exact w_X9_part_21 E _ _ _ _ _ _ _ _ hf hW (lv_sub hl [0, 1, 2, 3] rfl)
def f_X9_told_71 (ms : MS) (v1 : Int32) (v2 : Int32) (v3 : Int32) (s1 : Int32) : Option (Int32 × MS) := b2 (f_X9_may ms s1 (2 : Int32)) fun r13 ms12 => if r13 = 0 then (some ((0 : Int32), ms12)) else (if v3 = (0 : Int32) then ((ldI (ma ms12 38) 192 (((24 : Int32) * v1) + v2)).bind fun q17 => some (q17, ms12)) else (if v3 = (1 : Int32) then ((ldI (ma ms12 39) 192 (((24 : Int32) * v1) + v2)).bind fun q20 => some (q20, ms12)) else (if v3 = (2 : Int32) then ((ldI (ma ms12 40) 192 (((24 : Int32) * v1) + v2)).bind fun q23 => some (q23, ms12)) else (if v3 = (3 : Int32) then ((ldI (ma ms12 41) 192 (((24 : Int32) * v1) + v2)).bind fun q26 => some (q26, ms12)) else (if v3 = (4 : Int32) then ((ldI (ma ms12 42) 192 (((24 : Int32) * v1) + v2)).bind fun q29 => some (q29, ms12)) else (if v3 = (5 : Int32) then ((ldI (ma ms12 43) 192 (((24 : Int32) * v1) + v2)).bind fun q32 => some (q32, ms12)) else (if v3 = (6 : Int32) then ((ldI (ma ms12 44) 192 (((24 : Int32) * v1) + v2)).bind fun q35 => some (q35, ms12)) else ((ldI (ma ms12 45) 192 (((24 : Int32) * v1) + v2)).bind fun q37 => some (q37, ms12)))))))))
def f_X9_told_70 (ms : MS) (v1 : Int32) (v2 : Int32) (v3 : Int32) : Option (Int32 × MS) := f_X9_told_71 ms v1 v2 v3 (0 : Int32)
def f_X9_told_48 (ms : MS) (v1 : Int32) (v2 : Int32) (v3 : Int32) (s1 : Int32) : Option (Int32 × MS) := b2 (f_X9_may ms s1 (1 : Int32)) fun r9 ms8 => if r9 = 0 then (some ((0 : Int32), ms8)) else (if v3 < 0 then (f_X9_told_70 ms8 v1 v2 v3) else (if (7 : Int32) < v3 then (f_X9_told_70 ms8 v1 v2 v3) else (f_X9_told_71 ms8 v1 v2 v3 (1 : Int32))))
def f_X9_told_25 (ms : MS) (v1 : Int32) (v2 : Int32) (v3 : Int32) (s1 : Int32) : Option (Int32 × MS) := b2 (f_X9_may ms s1 (1 : Int32)) fun r3 ms2 => if r3 = 0 then (some ((0 : Int32), ms2)) else ((ldI (ma ms2 37) 8 v1).bind fun q6 => if q6 ≤ v2 then (f_X9_told_48 ms2 v1 v2 v3 (0 : Int32)) else (f_X9_told_48 ms2 v1 v2 v3 (1 : Int32)))
def f_X9_told_24 (ms : MS) (v1 : Int32) (v2 : Int32) (v3 : Int32) : Option (Int32 × MS) := f_X9_told_25 ms v1 v2 v3 (0 : Int32)
def f_X9_told (ms : MS) (v1 : Int32) (v2 : Int32) (v3 : Int32) : Option (Int32 × MS) := if v1 < 0 then (f_X9_told_24 (miU ms 0 (0 : Int32)) v1 v2 v3) else (if (8 : Int32) ≤ v1 then (f_X9_told_24 (miU ms 0 (0 : Int32)) v1 v2 v3) else (if v2 < 0 then (f_X9_told_24 (miU ms 0 (0 : Int32)) v1 v2 v3) else (f_X9_told_25 (miU ms 0 (0 : Int32)) v1 v2 v3 (1 : Int32))))
def rm_X9_told : Room := { frames := 1, cells := 0, slots := 0, locals := 22 }
set_option maxHeartbeats 4000000 in
set_option maxRecDepth 100000 in
theorem w_X9_told_71 {p : Program} {l : Launch} {e : Env} {s : State} {m : MethodId} {args : Array Value} {below : List Frame} {meth : Method} {c : Code} {X : XT} {B : Nat} {cs : CS} {o : Nat → Int64} {r : Int32} {S9 : MS} (E : Ev X B p s m args meth c RX9 cX9_told 5 (some .int)) : ∀ (ms : MS) (v1 : Int32) (v2 : Int32) (v3 : Int32) (s1 : Int32) (H : Heap) (locs : List Loc) (ls : Array Slot), f_X9_told_71 ms v1 v2 v3 s1 = some (r, S9) → Ws X B s.heap H locs (cs, ms, o) → lv_has ls 5 [(0, .ref (X.1 7)), (1, .int v1), (2, .int v2), (3, .int v3)] → W p l e rm_X9_told s m args below meth c H locs 0 0 (MQ below (QI X B r (cs, S9, o)) args s 0 0 (Ab B)) (F0 m 71 ls [.int s1, .ref (X.1 7)]) := by
  obtain ⟨hx, hb, hml, hown, hts, -⟩ := id E
  intro ms v1 v2 v3 s1 H locs ls hf hW hl
  unfold f_X9_told_71 at hf
  refine lv_iconst (v := (2 : Int32)) hx hb dX9_told_71 (by decide) ?_
  obtain ⟨r13, ms12, hc, hf⟩ := b2_e hf
  refine callVI (As := [.int _, .int _]) (rest := []) E hW (c_X9_may l hc) lk_X9_151 rcv_X9 (Nat.le_of_ble_eq_true rfl) (Nat.le_of_ble_eq_true rfl) (Nat.le_of_ble_eq_true rfl) (Nat.le_of_ble_eq_true rfl) hl.1 (Nat.le_of_ble_eq_true rfl) dX9_told_72 (fun H locs hW => ?_)
  refine lv_if_ne (tgt := 80) hx hb dX9_told_75 (by decide) (fun h14 => ?_) (fun h14 => ?_)
  · replace hf := ite_f h14 hf
    refine lv_bipush (v := (24 : Int32)) hx hb dX9_told_80 (by decide) ?_
    refine lv_iload_n hx hb dX9_told_82 rfl (lv_at hl 1 rfl) ?_
    refine lv_imul hx hb dX9_told_83 ?_
    refine lv_iload_n hx hb dX9_told_84 rfl (lv_at hl 2 rfl) ?_
    refine lv_iadd hx hb dX9_told_85 ?_
    refine lv_istore (lv' := [_, _, _, _, _]) hx hb dX9_told_86 hl (by decide) rfl (fun ls hl => ?_)
    refine lv_iload_n hx hb dX9_told_88 rfl (lv_at hl 4 rfl) ?_
    by_cases h15 : v3 = (0 : Int32)
    · replace hf := ite_t h15 hf
      refine lv_tableIn (tgt := 132) hx hb dX9_told_89 (by rw [h15]; decide) (by rw [h15]; decide) (by rw [h15]; rfl) (by decide) ?_
      refine lv_aload_n hx hb dX9_told_132 rfl (lv_at hl 1 rfl) ?_
      refine rg_X9_49 E hW dX9_told_133 ?_
      refine lv_iload hx hb dX9_told_136 (lv_at hl 0 rfl) ?_
      obtain ⟨v16, hf⟩ := ldI_e hf
      refine ra_38 E hW v16 dX9_told_138 ?_
      exact retI E hW (e2M hf) dX9_told_139
    · replace hf := ite_f h15 hf
      by_cases h18 : v3 = (1 : Int32)
      · replace hf := ite_t h18 hf
        refine lv_tableIn (tgt := 140) hx hb dX9_told_89 (by rw [h18]; decide) (by rw [h18]; decide) (by rw [h18]; rfl) (by decide) ?_
        refine lv_aload_n hx hb dX9_told_140 rfl (lv_at hl 1 rfl) ?_
        refine rg_X9_52 E hW dX9_told_141 ?_
        refine lv_iload hx hb dX9_told_144 (lv_at hl 0 rfl) ?_
        obtain ⟨v19, hf⟩ := ldI_e hf
        refine ra_39 E hW v19 dX9_told_146 ?_
        exact retI E hW (e2M hf) dX9_told_147
      · replace hf := ite_f h18 hf
        by_cases h21 : v3 = (2 : Int32)
        · replace hf := ite_t h21 hf
          refine lv_tableIn (tgt := 148) hx hb dX9_told_89 (by rw [h21]; decide) (by rw [h21]; decide) (by rw [h21]; rfl) (by decide) ?_
          refine lv_aload_n hx hb dX9_told_148 rfl (lv_at hl 1 rfl) ?_
          refine rg_X9_55 E hW dX9_told_149 ?_
          refine lv_iload hx hb dX9_told_152 (lv_at hl 0 rfl) ?_
          obtain ⟨v22, hf⟩ := ldI_e hf
          refine ra_40 E hW v22 dX9_told_154 ?_
          exact retI E hW (e2M hf) dX9_told_155
        · replace hf := ite_f h21 hf
          by_cases h24 : v3 = (3 : Int32)
          · replace hf := ite_t h24 hf
            refine lv_tableIn (tgt := 156) hx hb dX9_told_89 (by rw [h24]; decide) (by rw [h24]; decide) (by rw [h24]; rfl) (by decide) ?_
            refine lv_aload_n hx hb dX9_told_156 rfl (lv_at hl 1 rfl) ?_
            refine rg_X9_58 E hW dX9_told_157 ?_
            refine lv_iload hx hb dX9_told_160 (lv_at hl 0 rfl) ?_
            obtain ⟨v25, hf⟩ := ldI_e hf
            refine ra_41 E hW v25 dX9_told_162 ?_
            exact retI E hW (e2M hf) dX9_told_163
          · replace hf := ite_f h24 hf
            by_cases h27 : v3 = (4 : Int32)
            · replace hf := ite_t h27 hf
              refine lv_tableIn (tgt := 164) hx hb dX9_told_89 (by rw [h27]; decide) (by rw [h27]; decide) (by rw [h27]; rfl) (by decide) ?_
              refine lv_aload_n hx hb dX9_told_164 rfl (lv_at hl 1 rfl) ?_
              refine rg_X9_61 E hW dX9_told_165 ?_
              refine lv_iload hx hb dX9_told_168 (lv_at hl 0 rfl) ?_
              obtain ⟨v28, hf⟩ := ldI_e hf
              refine ra_42 E hW v28 dX9_told_170 ?_
              exact retI E hW (e2M hf) dX9_told_171
            · replace hf := ite_f h27 hf
              by_cases h30 : v3 = (5 : Int32)
              · replace hf := ite_t h30 hf
                refine lv_tableIn (tgt := 172) hx hb dX9_told_89 (by rw [h30]; decide) (by rw [h30]; decide) (by rw [h30]; rfl) (by decide) ?_
                refine lv_aload_n hx hb dX9_told_172 rfl (lv_at hl 1 rfl) ?_
                refine rg_X9_64 E hW dX9_told_173 ?_
                refine lv_iload hx hb dX9_told_176 (lv_at hl 0 rfl) ?_
                obtain ⟨v31, hf⟩ := ldI_e hf
                refine ra_43 E hW v31 dX9_told_178 ?_
                exact retI E hW (e2M hf) dX9_told_179
              · replace hf := ite_f h30 hf
                by_cases h33 : v3 = (6 : Int32)
                · replace hf := ite_t h33 hf
                  refine lv_tableIn (tgt := 180) hx hb dX9_told_89 (by rw [h33]; decide) (by rw [h33]; decide) (by rw [h33]; rfl) (by decide) ?_
                  refine lv_aload_n hx hb dX9_told_180 rfl (lv_at hl 1 rfl) ?_
                  refine rg_X9_67 E hW dX9_told_181 ?_
                  refine lv_iload hx hb dX9_told_184 (lv_at hl 0 rfl) ?_
                  obtain ⟨v34, hf⟩ := ldI_e hf
                  refine ra_44 E hW v34 dX9_told_186 ?_
                  exact retI E hW (e2M hf) dX9_told_187
                · replace hf := ite_f h33 hf
                  have eh15 := lv_neT h15 (a := 0) (by decide)
                  have eh18 := lv_neT h18 (a := 1) (by decide)
                  have eh21 := lv_neT h21 (a := 2) (by decide)
                  have eh24 := lv_neT h24 (a := 3) (by decide)
                  have eh27 := lv_neT h27 (a := 4) (by decide)
                  have eh30 := lv_neT h30 (a := 5) (by decide)
                  have eh33 := lv_neT h33 (a := 6) (by decide)
                  refine lv_tableOut (tgt := 188) hx hb dX9_told_89 (by omega) (by decide) ?_
                  refine lv_aload_n hx hb dX9_told_188 rfl (lv_at hl 1 rfl) ?_
                  refine rg_X9_70 E hW dX9_told_189 ?_
                  refine lv_iload hx hb dX9_told_192 (lv_at hl 0 rfl) ?_
                  obtain ⟨v36, hf⟩ := ldI_e hf
                  refine ra_45 E hW v36 dX9_told_194 ?_
                  exact retI E hW (e2M hf) dX9_told_195
  · replace hf := ite_t h14 hf
    refine lv_iconst (v := (0 : Int32)) hx hb dX9_told_78 (by decide) ?_
    exact retI E hW (e2M hf) dX9_told_79
set_option maxHeartbeats 4000000 in
set_option maxRecDepth 100000 in
theorem w_X9_told_70 {p : Program} {l : Launch} {e : Env} {s : State} {m : MethodId} {args : Array Value} {below : List Frame} {meth : Method} {c : Code} {X : XT} {B : Nat} {cs : CS} {o : Nat → Int64} {r : Int32} {S9 : MS} (E : Ev X B p s m args meth c RX9 cX9_told 5 (some .int)) : ∀ (ms : MS) (v1 : Int32) (v2 : Int32) (v3 : Int32) (H : Heap) (locs : List Loc) (ls : Array Slot), f_X9_told_70 ms v1 v2 v3 = some (r, S9) → Ws X B s.heap H locs (cs, ms, o) → lv_has ls 5 [(0, .ref (X.1 7)), (1, .int v1), (2, .int v2), (3, .int v3)] → W p l e rm_X9_told s m args below meth c H locs 0 0 (MQ below (QI X B r (cs, S9, o)) args s 0 0 (Ab B)) (F0 m 70 ls [.ref (X.1 7)]) := by
  obtain ⟨hx, hb, hml, hown, hts, -⟩ := id E
  intro ms v1 v2 v3 H locs ls hf hW hl
  unfold f_X9_told_70 at hf
  refine lv_iconst (v := (0 : Int32)) hx hb dX9_told_70 (by decide) ?_
  exact w_X9_told_71 E _ _ _ _ _ _ _ _ hf hW (lv_sub hl [0, 1, 2, 3] rfl)
set_option maxHeartbeats 4000000 in
set_option maxRecDepth 100000 in
theorem w_X9_told_48 {p : Program} {l : Launch} {e : Env} {s : State} {m : MethodId} {args : Array Value} {below : List Frame} {meth : Method} {c : Code} {X : XT} {B : Nat} {cs : CS} {o : Nat → Int64} {r : Int32} {S9 : MS} (E : Ev X B p s m args meth c RX9 cX9_told 5 (some .int)) : ∀ (ms : MS) (v1 : Int32) (v2 : Int32) (v3 : Int32) (s1 : Int32) (H : Heap) (locs : List Loc) (ls : Array Slot), f_X9_told_48 ms v1 v2 v3 s1 = some (r, S9) → Ws X B s.heap H locs (cs, ms, o) → lv_has ls 5 [(0, .ref (X.1 7)), (1, .int v1), (2, .int v2), (3, .int v3)] → W p l e rm_X9_told s m args below meth c H locs 0 0 (MQ below (QI X B r (cs, S9, o)) args s 0 0 (Ab B)) (F0 m 48 ls [.int s1, .ref (X.1 7)]) := by
  obtain ⟨hx, hb, hml, hown, hts, -⟩ := id E
  intro ms v1 v2 v3 s1 H locs ls hf hW hl
  unfold f_X9_told_48 at hf
  refine lv_iconst (v := (1 : Int32)) hx hb dX9_told_48 (by decide) ?_
  obtain ⟨r9, ms8, hc, hf⟩ := b2_e hf
  refine callVI (As := [.int _, .int _]) (rest := []) E hW (c_X9_may l hc) lk_X9_151 rcv_X9 (Nat.le_of_ble_eq_true rfl) (Nat.le_of_ble_eq_true rfl) (Nat.le_of_ble_eq_true rfl) (Nat.le_of_ble_eq_true rfl) hl.1 (Nat.le_of_ble_eq_true rfl) dX9_told_49 (fun H locs hW => ?_)
  refine lv_if_eq (tgt := 78) hx hb dX9_told_52 (by decide) (fun h10 => ?_) (fun h10 => ?_)
  · replace hf := ite_t h10 hf
    refine lv_iconst (v := (0 : Int32)) hx hb dX9_told_78 (by decide) ?_
    exact retI E hW (e2M hf) dX9_told_79
  · replace hf := ite_f h10 hf
    refine lv_aload_n hx hb dX9_told_55 rfl (lv_at hl 0 rfl) ?_
    refine lv_iload_n hx hb dX9_told_56 rfl (lv_at hl 3 rfl) ?_
    refine lv_if_lt (tgt := 70) hx hb dX9_told_57 (by decide) (fun h11 => ?_) (fun h11 => ?_)
    · replace hf := ite_t h11 hf
      exact w_X9_told_70 E _ _ _ _ _ _ _ hf hW (lv_sub hl [0, 1, 2, 3] rfl)
    · replace hf := ite_f h11 hf
      refine lv_iload_n hx hb dX9_told_60 rfl (lv_at hl 3 rfl) ?_
      refine lv_bipush (v := (7 : Int32)) hx hb dX9_told_61 (by decide) ?_
      refine lv_icmp_gt (tgt := 70) hx hb dX9_told_63 (by decide) (fun h38 => ?_) (fun h38 => ?_)
      · replace hf := ite_t h38 hf
        exact w_X9_told_70 E _ _ _ _ _ _ _ hf hW (lv_sub hl [0, 1, 2, 3] rfl)
      · replace hf := ite_f h38 hf
        refine lv_iconst (v := (1 : Int32)) hx hb dX9_told_66 (by decide) ?_
        refine lv_goto (tgt := 71) hx hb dX9_told_67 (by decide) ?_
        exact w_X9_told_71 E _ _ _ _ _ _ _ _ hf hW (lv_sub hl [0, 1, 2, 3] rfl)
set_option maxHeartbeats 4000000 in
set_option maxRecDepth 100000 in
theorem w_X9_told_25 {p : Program} {l : Launch} {e : Env} {s : State} {m : MethodId} {args : Array Value} {below : List Frame} {meth : Method} {c : Code} {X : XT} {B : Nat} {cs : CS} {o : Nat → Int64} {r : Int32} {S9 : MS} (E : Ev X B p s m args meth c RX9 cX9_told 5 (some .int)) : ∀ (ms : MS) (v1 : Int32) (v2 : Int32) (v3 : Int32) (s1 : Int32) (H : Heap) (locs : List Loc) (ls : Array Slot), f_X9_told_25 ms v1 v2 v3 s1 = some (r, S9) → Ws X B s.heap H locs (cs, ms, o) → lv_has ls 5 [(0, .ref (X.1 7)), (1, .int v1), (2, .int v2), (3, .int v3)] → W p l e rm_X9_told s m args below meth c H locs 0 0 (MQ below (QI X B r (cs, S9, o)) args s 0 0 (Ab B)) (F0 m 25 ls [.int s1, .ref (X.1 7)]) := by
  obtain ⟨hx, hb, hml, hown, hts, -⟩ := id E
  intro ms v1 v2 v3 s1 H locs ls hf hW hl
  unfold f_X9_told_25 at hf
  refine lv_iconst (v := (1 : Int32)) hx hb dX9_told_25 (by decide) ?_
  obtain ⟨r3, ms2, hc, hf⟩ := b2_e hf
  refine callVI (As := [.int _, .int _]) (rest := []) E hW (c_X9_may l hc) lk_X9_151 rcv_X9 (Nat.le_of_ble_eq_true rfl) (Nat.le_of_ble_eq_true rfl) (Nat.le_of_ble_eq_true rfl) (Nat.le_of_ble_eq_true rfl) hl.1 (Nat.le_of_ble_eq_true rfl) dX9_told_26 (fun H locs hW => ?_)
  refine lv_if_eq (tgt := 78) hx hb dX9_told_29 (by decide) (fun h4 => ?_) (fun h4 => ?_)
  · replace hf := ite_t h4 hf
    refine lv_iconst (v := (0 : Int32)) hx hb dX9_told_78 (by decide) ?_
    exact retI E hW (e2M hf) dX9_told_79
  · replace hf := ite_f h4 hf
    refine lv_aload_n hx hb dX9_told_32 rfl (lv_at hl 0 rfl) ?_
    refine lv_iload_n hx hb dX9_told_33 rfl (lv_at hl 2 rfl) ?_
    refine lv_aload_n hx hb dX9_told_34 rfl (lv_at hl 0 rfl) ?_
    refine rg_X9_46 E hW dX9_told_35 ?_
    refine lv_iload_n hx hb dX9_told_38 rfl (lv_at hl 1 rfl) ?_
    obtain ⟨v5, hf⟩ := ldI_e hf
    refine ra_37 E hW v5 dX9_told_39 ?_
    refine lv_icmp_ge (tgt := 47) hx hb dX9_told_40 (by decide) (fun h7 => ?_) (fun h7 => ?_)
    · replace hf := ite_t h7 hf
      refine lv_iconst (v := (0 : Int32)) hx hb dX9_told_47 (by decide) ?_
      exact w_X9_told_48 E _ _ _ _ _ _ _ _ hf hW (lv_sub hl [0, 1, 2, 3] rfl)
    · replace hf := ite_f h7 hf
      refine lv_iconst (v := (1 : Int32)) hx hb dX9_told_43 (by decide) ?_
      refine lv_goto (tgt := 48) hx hb dX9_told_44 (by decide) ?_
      exact w_X9_told_48 E _ _ _ _ _ _ _ _ hf hW (lv_sub hl [0, 1, 2, 3] rfl)
set_option maxHeartbeats 4000000 in
set_option maxRecDepth 100000 in
theorem w_X9_told_24 {p : Program} {l : Launch} {e : Env} {s : State} {m : MethodId} {args : Array Value} {below : List Frame} {meth : Method} {c : Code} {X : XT} {B : Nat} {cs : CS} {o : Nat → Int64} {r : Int32} {S9 : MS} (E : Ev X B p s m args meth c RX9 cX9_told 5 (some .int)) : ∀ (ms : MS) (v1 : Int32) (v2 : Int32) (v3 : Int32) (H : Heap) (locs : List Loc) (ls : Array Slot), f_X9_told_24 ms v1 v2 v3 = some (r, S9) → Ws X B s.heap H locs (cs, ms, o) → lv_has ls 5 [(0, .ref (X.1 7)), (1, .int v1), (2, .int v2), (3, .int v3)] → W p l e rm_X9_told s m args below meth c H locs 0 0 (MQ below (QI X B r (cs, S9, o)) args s 0 0 (Ab B)) (F0 m 24 ls [.ref (X.1 7)]) := by
  obtain ⟨hx, hb, hml, hown, hts, -⟩ := id E
  intro ms v1 v2 v3 H locs ls hf hW hl
  unfold f_X9_told_24 at hf
  refine lv_iconst (v := (0 : Int32)) hx hb dX9_told_24 (by decide) ?_
  exact w_X9_told_25 E _ _ _ _ _ _ _ _ hf hW (lv_sub hl [0, 1, 2, 3] rfl)
set_option maxHeartbeats 4000000 in
set_option maxRecDepth 100000 in
theorem c_X9_told (l : Launch) {X : XT} {B : Nat} {cs : CS} {ms : MS} {o : Nat → Int64} {v1 : Int32} {v2 : Int32} {v3 : Int32} {r : Int32} {S9 : MS} (hf : f_X9_told ms v1 v2 v3 = some (r, S9)) : Met l yX9_told (.code yX9_told cX9_told 5 (some .int) :: BIG) rm_X9_told (Pre X B (cs, ms, o) [.ref (X.1 7), .int v1, .int v2, .int v3]) (QI X B r (cs, S9, o)) 0 0 (Ab B) := by
  refine entry (by decide +kernel) rfl (Nat.le_of_ble_eq_true rfl) (fun p e s m below meth c ls E hW hl => ?_)
  obtain ⟨hx, hb, hml, hown, hts, -⟩ := id E
  replace hl : lv_has ls 5 [(0, .ref (X.1 7)), (1, .int v1), (2, .int v2), (3, .int v3)] := hl
  unfold f_X9_told at hf
  refine lv_aload_n hx hb dX9_told_0 rfl (lv_at hl 0 rfl) ?_
  refine lv_iconst (v := (0 : Int32)) hx hb dX9_told_1 (by decide) ?_
  refine rp_X9_1 E hW dX9_told_2 (fun H locs hW => ?_)
  refine lv_aload_n hx hb dX9_told_5 rfl (lv_at hl 0 rfl) ?_
  refine lv_iload_n hx hb dX9_told_6 rfl (lv_at hl 1 rfl) ?_
  refine lv_if_lt (tgt := 24) hx hb dX9_told_7 (by decide) (fun h1 => ?_) (fun h1 => ?_)
  · replace hf := ite_t h1 hf
    exact w_X9_told_24 E _ _ _ _ _ _ _ hf hW (lv_sub hl [0, 1, 2, 3] rfl)
  · replace hf := ite_f h1 hf
    refine lv_iload_n hx hb dX9_told_10 rfl (lv_at hl 1 rfl) ?_
    refine lv_bipush (v := (8 : Int32)) hx hb dX9_told_11 (by decide) ?_
    refine lv_icmp_ge (tgt := 24) hx hb dX9_told_13 (by decide) (fun h39 => ?_) (fun h39 => ?_)
    · replace hf := ite_t h39 hf
      exact w_X9_told_24 E _ _ _ _ _ _ _ hf hW (lv_sub hl [0, 1, 2, 3] rfl)
    · replace hf := ite_f h39 hf
      refine lv_iload_n hx hb dX9_told_16 rfl (lv_at hl 2 rfl) ?_
      refine lv_if_lt (tgt := 24) hx hb dX9_told_17 (by decide) (fun h40 => ?_) (fun h40 => ?_)
      · replace hf := ite_t h40 hf
        exact w_X9_told_24 E _ _ _ _ _ _ _ hf hW (lv_sub hl [0, 1, 2, 3] rfl)
      · replace hf := ite_f h40 hf
        refine lv_iconst (v := (1 : Int32)) hx hb dX9_told_20 (by decide) ?_
        refine lv_goto (tgt := 25) hx hb dX9_told_21 (by decide) ?_
        exact w_X9_told_25 E _ _ _ _ _ _ _ _ hf hW (lv_sub hl [0, 1, 2, 3] rfl)
def f_X9_acted_12 : Nat → MS → Int32 → Int32 → Int32 → Int32 → Option (MS)
  | 0, _, _, _, _, _ => none
  | n + 1, ms, v1, v2, v3, v4 => if (9 : Int32) ≤ v4 then (ixr 10 (mi (miU ms 11 (9 : Int32)) 11) <| ixr 10 (mi (maU (miU ms 11 (9 : Int32)) 60 ((mi (miU ms 11 (9 : Int32)) 11)).toNatClampNeg v1) 11) <| ixr 10 (mi (maU (maU (miU ms 11 (9 : Int32)) 60 ((mi (miU ms 11 (9 : Int32)) 11)).toNatClampNeg v1) 61 ((mi (maU (miU ms 11 (9 : Int32)) 60 ((mi (miU ms 11 (9 : Int32)) 11)).toNatClampNeg v1) 11)).toNatClampNeg v2) 11) <| some (miU (maU (maU (maU (miU ms 11 (9 : Int32)) 60 ((mi (miU ms 11 (9 : Int32)) 11)).toNatClampNeg v1) 61 ((mi (maU (miU ms 11 (9 : Int32)) 60 ((mi (miU ms 11 (9 : Int32)) 11)).toNatClampNeg v1) 11)).toNatClampNeg v2) 62 ((mi (maU (maU (miU ms 11 (9 : Int32)) 60 ((mi (miU ms 11 (9 : Int32)) 11)).toNatClampNeg v1) 61 ((mi (maU (miU ms 11 (9 : Int32)) 60 ((mi (miU ms 11 (9 : Int32)) 11)).toNatClampNeg v1) 11)).toNatClampNeg v2) 11)).toNatClampNeg v3) 11 ((mi (maU (maU (maU (miU ms 11 (9 : Int32)) 60 ((mi (miU ms 11 (9 : Int32)) 11)).toNatClampNeg v1) 61 ((mi (maU (miU ms 11 (9 : Int32)) 60 ((mi (miU ms 11 (9 : Int32)) 11)).toNatClampNeg v1) 11)).toNatClampNeg v2) 62 ((mi (maU (maU (miU ms 11 (9 : Int32)) 60 ((mi (miU ms 11 (9 : Int32)) 11)).toNatClampNeg v1) 61 ((mi (maU (miU ms 11 (9 : Int32)) 60 ((mi (miU ms 11 (9 : Int32)) 11)).toNatClampNeg v1) 11)).toNatClampNeg v2) 11)).toNatClampNeg v3) 11) + (1 : Int32)))) else ((ldI (ma ms 60) 10 (v4 + (1 : Int32))).bind fun q10 => ixr 10 v4 <| (ldI (ma (maU ms 60 (v4).toNatClampNeg q10) 61) 10 (v4 + (1 : Int32))).bind fun q13 => ixr 10 v4 <| (ldI (ma (maU (maU ms 60 (v4).toNatClampNeg q10) 61 (v4).toNatClampNeg q13) 62) 10 (v4 + (1 : Int32))).bind fun q16 => ixr 10 v4 <| f_X9_acted_12 n (maU (maU (maU ms 60 (v4).toNatClampNeg q10) 61 (v4).toNatClampNeg q13) 62 (v4).toNatClampNeg q16) v1 v2 v3 (v4 + (1 : Int32)))
def f_X9_acted (ms : MS) (v1 : Int32) (v2 : Int32) (v3 : Int32) : Option (MS) := if (mi ms 11) = (10 : Int32) then (f_X9_acted_12 1000 ms v1 v2 v3 (0 : Int32)) else (ixr 10 (mi ms 11) <| ixr 10 (mi (maU ms 60 ((mi ms 11)).toNatClampNeg v1) 11) <| ixr 10 (mi (maU (maU ms 60 ((mi ms 11)).toNatClampNeg v1) 61 ((mi (maU ms 60 ((mi ms 11)).toNatClampNeg v1) 11)).toNatClampNeg v2) 11) <| some (miU (maU (maU (maU ms 60 ((mi ms 11)).toNatClampNeg v1) 61 ((mi (maU ms 60 ((mi ms 11)).toNatClampNeg v1) 11)).toNatClampNeg v2) 62 ((mi (maU (maU ms 60 ((mi ms 11)).toNatClampNeg v1) 61 ((mi (maU ms 60 ((mi ms 11)).toNatClampNeg v1) 11)).toNatClampNeg v2) 11)).toNatClampNeg v3) 11 ((mi (maU (maU (maU ms 60 ((mi ms 11)).toNatClampNeg v1) 61 ((mi (maU ms 60 ((mi ms 11)).toNatClampNeg v1) 11)).toNatClampNeg v2) 62 ((mi (maU (maU ms 60 ((mi ms 11)).toNatClampNeg v1) 61 ((mi (maU ms 60 ((mi ms 11)).toNatClampNeg v1) 11)).toNatClampNeg v2) 11)).toNatClampNeg v3) 11) + (1 : Int32))))
def rm_X9_acted : Room := { frames := 0, cells := 0, slots := 0, locals := 0 }
set_option maxHeartbeats 4000000 in
set_option maxRecDepth 100000 in
theorem w_X9_acted_12 {p : Program} {l : Launch} {e : Env} {s : State} {m : MethodId} {args : Array Value} {below : List Frame} {meth : Method} {c : Code} {X : XT} {B : Nat} {cs : CS} {o : Nat → Int64} {S9 : MS} (E : Ev X B p s m args meth c RX9 cX9_acted 5 none) : ∀ (n : Nat) (ms : MS) (v1 : Int32) (v2 : Int32) (v3 : Int32) (v4 : Int32) (H : Heap) (locs : List Loc) (ls : Array Slot), f_X9_acted_12 n ms v1 v2 v3 v4 = some S9 → Ws X B s.heap H locs (cs, ms, o) → lv_has ls 5 [(0, .ref (X.1 7)), (1, .int v1), (2, .int v2), (3, .int v3), (4, .int v4)] → W p l e rm_X9_acted s m args below meth c H locs 0 0 (MQ below (QV X B (cs, S9, o)) args s 0 0 (Ab B)) (F0 m 12 ls []) := by
  obtain ⟨hx, hb, hml, hown, hts, -⟩ := id E
  intro n
  induction n with
  | zero => intro ms v1 v2 v3 v4 H locs ls hf; exact absurd hf nofun
  | succ n ih =>
    intro ms v1 v2 v3 v4 H locs ls hf hW hl
    rw [f_X9_acted_12] at hf
    refine lv_iload hx hb dX9_acted_12 (lv_at hl 4 rfl) ?_
    refine lv_bipush (v := (9 : Int32)) hx hb dX9_acted_14 (by decide) ?_
    refine lv_icmp_ge (tgt := 73) hx hb dX9_acted_16 (by decide) (fun h5 => ?_) (fun h5 => ?_)
    · replace hf := ite_t h5 hf
      refine lv_aload_n hx hb dX9_acted_73 rfl (lv_at hl 0 rfl) ?_
      refine lv_bipush (v := (9 : Int32)) hx hb dX9_acted_74 (by decide) ?_
      refine rp_X9_241 E hW dX9_acted_76 (fun H locs hW => ?_)
      refine lv_aload_n hx hb dX9_acted_79 rfl (lv_at hl 0 rfl) ?_
      refine rg_X9_115 E hW dX9_acted_80 ?_
      refine lv_aload_n hx hb dX9_acted_83 rfl (lv_at hl 0 rfl) ?_
      refine rg_X9_241 E hW dX9_acted_84 ?_
      refine lv_iload_n hx hb dX9_acted_87 rfl (lv_at hl 1 rfl) ?_
      obtain ⟨v6, hf⟩ := ixr_e hf
      refine rs_60 E hW v6 dX9_acted_88 (fun H locs hW => ?_)
      refine lv_aload_n hx hb dX9_acted_89 rfl (lv_at hl 0 rfl) ?_
      refine rg_X9_118 E hW dX9_acted_90 ?_
      refine lv_aload_n hx hb dX9_acted_93 rfl (lv_at hl 0 rfl) ?_
      refine rg_X9_241 E hW dX9_acted_94 ?_
      refine lv_iload_n hx hb dX9_acted_97 rfl (lv_at hl 2 rfl) ?_
      obtain ⟨v7, hf⟩ := ixr_e hf
      refine rs_61 E hW v7 dX9_acted_98 (fun H locs hW => ?_)
      refine lv_aload_n hx hb dX9_acted_99 rfl (lv_at hl 0 rfl) ?_
      refine rg_X9_121 E hW dX9_acted_100 ?_
      refine lv_aload_n hx hb dX9_acted_103 rfl (lv_at hl 0 rfl) ?_
      refine rg_X9_241 E hW dX9_acted_104 ?_
      refine lv_iload_n hx hb dX9_acted_107 rfl (lv_at hl 3 rfl) ?_
      obtain ⟨v8, hf⟩ := ixr_e hf
      refine rs_62 E hW v8 dX9_acted_108 (fun H locs hW => ?_)
      refine lv_aload_n hx hb dX9_acted_109 rfl (lv_at hl 0 rfl) ?_
      refine lv_dup hx hb dX9_acted_110 rfl ?_
      refine rg_X9_241 E hW dX9_acted_111 ?_
      refine lv_iconst (v := (1 : Int32)) hx hb dX9_acted_114 (by decide) ?_
      refine lv_iadd hx hb dX9_acted_115 ?_
      refine rp_X9_241 E hW dX9_acted_116 (fun H locs hW => ?_)
      exact retV E hW (e1M hf) dX9_acted_119
    · replace hf := ite_f h5 hf
      refine lv_aload_n hx hb dX9_acted_19 rfl (lv_at hl 0 rfl) ?_
      refine rg_X9_115 E hW dX9_acted_20 ?_
      refine lv_iload hx hb dX9_acted_23 (lv_at hl 4 rfl) ?_
      refine lv_aload_n hx hb dX9_acted_25 rfl (lv_at hl 0 rfl) ?_
      refine rg_X9_115 E hW dX9_acted_26 ?_
      refine lv_iload hx hb dX9_acted_29 (lv_at hl 4 rfl) ?_
      refine lv_iconst (v := (1 : Int32)) hx hb dX9_acted_31 (by decide) ?_
      refine lv_iadd hx hb dX9_acted_32 ?_
      obtain ⟨v9, hf⟩ := ldI_e hf
      refine ra_60 E hW v9 dX9_acted_33 ?_
      obtain ⟨v11, hf⟩ := ixr_e hf
      refine rs_60 E hW v11 dX9_acted_34 (fun H locs hW => ?_)
      refine lv_aload_n hx hb dX9_acted_35 rfl (lv_at hl 0 rfl) ?_
      refine rg_X9_118 E hW dX9_acted_36 ?_
      refine lv_iload hx hb dX9_acted_39 (lv_at hl 4 rfl) ?_
      refine lv_aload_n hx hb dX9_acted_41 rfl (lv_at hl 0 rfl) ?_
      refine rg_X9_118 E hW dX9_acted_42 ?_
      refine lv_iload hx hb dX9_acted_45 (lv_at hl 4 rfl) ?_
      refine lv_iconst (v := (1 : Int32)) hx hb dX9_acted_47 (by decide) ?_
      refine lv_iadd hx hb dX9_acted_48 ?_
      obtain ⟨v12, hf⟩ := ldI_e hf
      refine ra_61 E hW v12 dX9_acted_49 ?_
      obtain ⟨v14, hf⟩ := ixr_e hf
      refine rs_61 E hW v14 dX9_acted_50 (fun H locs hW => ?_)
      refine lv_aload_n hx hb dX9_acted_51 rfl (lv_at hl 0 rfl) ?_
      refine rg_X9_121 E hW dX9_acted_52 ?_
      refine lv_iload hx hb dX9_acted_55 (lv_at hl 4 rfl) ?_
      refine lv_aload_n hx hb dX9_acted_57 rfl (lv_at hl 0 rfl) ?_
      refine rg_X9_121 E hW dX9_acted_58 ?_
      refine lv_iload hx hb dX9_acted_61 (lv_at hl 4 rfl) ?_
      refine lv_iconst (v := (1 : Int32)) hx hb dX9_acted_63 (by decide) ?_
      refine lv_iadd hx hb dX9_acted_64 ?_
      obtain ⟨v15, hf⟩ := ldI_e hf
      refine ra_62 E hW v15 dX9_acted_65 ?_
      obtain ⟨v17, hf⟩ := ixr_e hf
      refine rs_62 E hW v17 dX9_acted_66 (fun H locs hW => ?_)
      refine lv_iinc (v := _ + (1 : Int32)) (lv' := [_, _, _, _, _]) hx hb dX9_acted_67 hl (k := 4) rfl rfl (by decide) rfl (fun ls hl => ?_)
      refine lv_goto (tgt := 12) hx hb dX9_acted_70 (by decide) ?_
      exact ih _ _ _ _ _ _ _ _ hf hW (lv_sub hl [1, 2, 3, 4, 0] rfl)
set_option maxHeartbeats 4000000 in
set_option maxRecDepth 100000 in
theorem c_X9_acted (l : Launch) {X : XT} {B : Nat} {cs : CS} {ms : MS} {o : Nat → Int64} {v1 : Int32} {v2 : Int32} {v3 : Int32} {S9 : MS} (hf : f_X9_acted ms v1 v2 v3 = some S9) : Met l yX9_acted (.code yX9_acted cX9_acted 5 none :: BIG) rm_X9_acted (Pre X B (cs, ms, o) [.ref (X.1 7), .int v1, .int v2, .int v3]) (QV X B (cs, S9, o)) 0 0 (Ab B) := by
  refine entry (by decide +kernel) rfl (Nat.le_of_ble_eq_true rfl) (fun p e s m below meth c ls E hW hl => ?_)
  obtain ⟨hx, hb, hml, hown, hts, -⟩ := id E
  replace hl : lv_has ls 5 [(0, .ref (X.1 7)), (1, .int v1), (2, .int v2), (3, .int v3)] := hl
  unfold f_X9_acted at hf
  refine lv_aload_n hx hb dX9_acted_0 rfl (lv_at hl 0 rfl) ?_
  refine rg_X9_241 E hW dX9_acted_1 ?_
  refine lv_bipush (v := (10 : Int32)) hx hb dX9_acted_4 (by decide) ?_
  refine lv_icmp_ne (tgt := 79) hx hb dX9_acted_6 (by decide) (fun h1 => ?_) (fun h1 => ?_)
  · replace hf := ite_f h1 hf
    refine lv_aload_n hx hb dX9_acted_79 rfl (lv_at hl 0 rfl) ?_
    refine rg_X9_115 E hW dX9_acted_80 ?_
    refine lv_aload_n hx hb dX9_acted_83 rfl (lv_at hl 0 rfl) ?_
    refine rg_X9_241 E hW dX9_acted_84 ?_
    refine lv_iload_n hx hb dX9_acted_87 rfl (lv_at hl 1 rfl) ?_
    obtain ⟨v2, hf⟩ := ixr_e hf
    refine rs_60 E hW v2 dX9_acted_88 (fun H locs hW => ?_)
    refine lv_aload_n hx hb dX9_acted_89 rfl (lv_at hl 0 rfl) ?_
    refine rg_X9_118 E hW dX9_acted_90 ?_
    refine lv_aload_n hx hb dX9_acted_93 rfl (lv_at hl 0 rfl) ?_
    refine rg_X9_241 E hW dX9_acted_94 ?_
    refine lv_iload_n hx hb dX9_acted_97 rfl (lv_at hl 2 rfl) ?_
    obtain ⟨v3, hf⟩ := ixr_e hf
    refine rs_61 E hW v3 dX9_acted_98 (fun H locs hW => ?_)
    refine lv_aload_n hx hb dX9_acted_99 rfl (lv_at hl 0 rfl) ?_
    refine rg_X9_121 E hW dX9_acted_100 ?_
    refine lv_aload_n hx hb dX9_acted_103 rfl (lv_at hl 0 rfl) ?_
    refine rg_X9_241 E hW dX9_acted_104 ?_
    refine lv_iload_n hx hb dX9_acted_107 rfl (lv_at hl 3 rfl) ?_
    obtain ⟨v4, hf⟩ := ixr_e hf
    refine rs_62 E hW v4 dX9_acted_108 (fun H locs hW => ?_)
    refine lv_aload_n hx hb dX9_acted_109 rfl (lv_at hl 0 rfl) ?_
    refine lv_dup hx hb dX9_acted_110 rfl ?_
    refine rg_X9_241 E hW dX9_acted_111 ?_
    refine lv_iconst (v := (1 : Int32)) hx hb dX9_acted_114 (by decide) ?_
    refine lv_iadd hx hb dX9_acted_115 ?_
    refine rp_X9_241 E hW dX9_acted_116 (fun H locs hW => ?_)
    exact retV E hW (e1M hf) dX9_acted_119
  · replace hf := ite_t h1 hf
    refine lv_iconst (v := (0 : Int32)) hx hb dX9_acted_9 (by decide) ?_
    refine lv_istore (lv' := [_, _, _, _, _]) hx hb dX9_acted_10 hl (by decide) rfl (fun ls hl => ?_)
    exact w_X9_acted_12 E 1000 _ _ _ _ _ _ _ _ hf hW (lv_sub hl [1, 2, 3, 4, 0] rfl)
def f_X9_partOf (ms : MS) (v1 : Int32) : Option (Int32) := (ldI (ma ms 63) 400 v1).bind fun q2 => (ldI (ma ms 46) 40 q2).bind fun q4 => (ldI (ma ms 64) 400 v1).bind fun q6 => some (((24 : Int32) * q4) + q6)
def rm_X9_partOf : Room := { frames := 0, cells := 0, slots := 0, locals := 0 }
set_option maxHeartbeats 4000000 in
set_option maxRecDepth 100000 in
theorem c_X9_partOf (l : Launch) {X : XT} {B : Nat} {cs : CS} {ms : MS} {o : Nat → Int64} {v1 : Int32} {r : Int32} (hf : f_X9_partOf ms v1 = some r) : Met l yX9_partOf (.code yX9_partOf cX9_partOf 2 (some .int) :: BIG) rm_X9_partOf (Pre X B (cs, ms, o) [.ref (X.1 7), .int v1]) (QI X B r (cs, ms, o)) 0 0 (Ab B) := by
  refine entry (by decide +kernel) rfl (Nat.le_of_ble_eq_true rfl) (fun p e s m below meth c ls E hW hl => ?_)
  obtain ⟨hx, hb, hml, hown, hts, -⟩ := id E
  replace hl : lv_has ls 2 [(0, .ref (X.1 7)), (1, .int v1)] := hl
  unfold f_X9_partOf at hf
  refine lv_bipush (v := (24 : Int32)) hx hb dX9_partOf_0 (by decide) ?_
  refine lv_aload_n hx hb dX9_partOf_2 rfl (lv_at hl 0 rfl) ?_
  refine rg_X9_73 E hW dX9_partOf_3 ?_
  refine lv_aload_n hx hb dX9_partOf_6 rfl (lv_at hl 0 rfl) ?_
  refine rg_X9_124 E hW dX9_partOf_7 ?_
  refine lv_iload_n hx hb dX9_partOf_10 rfl (lv_at hl 1 rfl) ?_
  obtain ⟨v1, hf⟩ := ldI_e hf
  refine ra_63 E hW v1 dX9_partOf_11 ?_
  obtain ⟨v3, hf⟩ := ldI_e hf
  refine ra_46 E hW v3 dX9_partOf_12 ?_
  refine lv_imul hx hb dX9_partOf_13 ?_
  refine lv_aload_n hx hb dX9_partOf_14 rfl (lv_at hl 0 rfl) ?_
  refine rg_X9_127 E hW dX9_partOf_15 ?_
  refine lv_iload_n hx hb dX9_partOf_18 rfl (lv_at hl 1 rfl) ?_
  obtain ⟨v5, hf⟩ := ldI_e hf
  refine ra_64 E hW v5 dX9_partOf_19 ?_
  refine lv_iadd hx hb dX9_partOf_20 ?_
  exact retI E hW ⟨Option.some.inj hf, rfl⟩ dX9_partOf_21
def f_X9_gramsOf (ms : MS) (v1 : Int32) : Option (Int32) := (f_X9_partOf ms v1).bind fun r1 => (ldI (ma ms 42) 192 r1).bind fun q3 => some q3
def rm_X9_gramsOf : Room := { frames := 1, cells := 0, slots := 0, locals := 21 }
set_option maxHeartbeats 4000000 in
set_option maxRecDepth 100000 in
theorem c_X9_gramsOf (l : Launch) {X : XT} {B : Nat} {cs : CS} {ms : MS} {o : Nat → Int64} {v1 : Int32} {r : Int32} (hf : f_X9_gramsOf ms v1 = some r) : Met l yX9_gramsOf (.code yX9_gramsOf cX9_gramsOf 2 (some .int) :: BIG) rm_X9_gramsOf (Pre X B (cs, ms, o) [.ref (X.1 7), .int v1]) (QI X B r (cs, ms, o)) 0 0 (Ab B) := by
  refine entry (by decide +kernel) rfl (Nat.le_of_ble_eq_true rfl) (fun p e s m below meth c ls E hW hl => ?_)
  obtain ⟨hx, hb, hml, hown, hts, -⟩ := id E
  replace hl : lv_has ls 2 [(0, .ref (X.1 7)), (1, .int v1)] := hl
  unfold f_X9_gramsOf at hf
  refine lv_aload_n hx hb dX9_gramsOf_0 rfl (lv_at hl 0 rfl) ?_
  refine rg_X9_61 E hW dX9_gramsOf_1 ?_
  refine lv_aload_n hx hb dX9_gramsOf_4 rfl (lv_at hl 0 rfl) ?_
  refine lv_iload_n hx hb dX9_gramsOf_5 rfl (lv_at hl 1 rfl) ?_
  obtain ⟨r1, hc, hf⟩ := b1_e hf
  refine callVI (As := [.int _]) (rest := [_]) E hW (c_X9_partOf l hc) lk_X9_274 rcv_X9 (Nat.le_of_ble_eq_true rfl) (Nat.le_of_ble_eq_true rfl) (Nat.le_of_ble_eq_true rfl) (Nat.le_of_ble_eq_true rfl) hl.1 (Nat.le_of_ble_eq_true rfl) dX9_gramsOf_6 (fun H locs hW => ?_)
  obtain ⟨v2, hf⟩ := ldI_e hf
  refine ra_42 E hW v2 dX9_gramsOf_9 ?_
  exact retI E hW ⟨Option.some.inj hf, rfl⟩ dX9_gramsOf_10
def f_X9_stuffOf (ms : MS) (v1 : Int32) : Option (Int32) := (f_X9_partOf ms v1).bind fun r1 => (ldI (ma ms 43) 192 r1).bind fun q3 => some q3
def rm_X9_stuffOf : Room := { frames := 1, cells := 0, slots := 0, locals := 21 }
set_option maxHeartbeats 4000000 in
set_option maxRecDepth 100000 in
theorem c_X9_stuffOf (l : Launch) {X : XT} {B : Nat} {cs : CS} {ms : MS} {o : Nat → Int64} {v1 : Int32} {r : Int32} (hf : f_X9_stuffOf ms v1 = some r) : Met l yX9_stuffOf (.code yX9_stuffOf cX9_stuffOf 2 (some .int) :: BIG) rm_X9_stuffOf (Pre X B (cs, ms, o) [.ref (X.1 7), .int v1]) (QI X B r (cs, ms, o)) 0 0 (Ab B) := by
  refine entry (by decide +kernel) rfl (Nat.le_of_ble_eq_true rfl) (fun p e s m below meth c ls E hW hl => ?_)
  obtain ⟨hx, hb, hml, hown, hts, -⟩ := id E
  replace hl : lv_has ls 2 [(0, .ref (X.1 7)), (1, .int v1)] := hl
  unfold f_X9_stuffOf at hf
  refine lv_aload_n hx hb dX9_stuffOf_0 rfl (lv_at hl 0 rfl) ?_
  refine rg_X9_64 E hW dX9_stuffOf_1 ?_
  refine lv_aload_n hx hb dX9_stuffOf_4 rfl (lv_at hl 0 rfl) ?_
  refine lv_iload_n hx hb dX9_stuffOf_5 rfl (lv_at hl 1 rfl) ?_
  obtain ⟨r1, hc, hf⟩ := b1_e hf
  refine callVI (As := [.int _]) (rest := [_]) E hW (c_X9_partOf l hc) lk_X9_274 rcv_X9 (Nat.le_of_ble_eq_true rfl) (Nat.le_of_ble_eq_true rfl) (Nat.le_of_ble_eq_true rfl) (Nat.le_of_ble_eq_true rfl) hl.1 (Nat.le_of_ble_eq_true rfl) dX9_stuffOf_6 (fun H locs hW => ?_)
  obtain ⟨v2, hf⟩ := ldI_e hf
  refine ra_43 E hW v2 dX9_stuffOf_9 ?_
  exact retI E hW ⟨Option.some.inj hf, rfl⟩ dX9_stuffOf_10
def f_X9_takeBack (ms : MS) (v1 : Int32) (v2 : Int32) : Option (MS) := (ldI (ma ms 50) 40 v1).bind fun q2 => (ldI (ma ms 64) 400 v2).bind fun q4 => ixr 40 v1 <| ixr 400 v2 <| ixr 400 v2 <| (f_X9_stuffOf (maU (maU (maU ms 50 (v1).toNatClampNeg (q2 ||| ((1 : Int32) <<< (q4 &&& 31)))) 65 (v2).toNatClampNeg (3 : Int32)) 66 (v2).toNatClampNeg (mi (maU (maU ms 50 (v1).toNatClampNeg (q2 ||| ((1 : Int32) <<< (q4 &&& 31)))) 65 (v2).toNatClampNeg (3 : Int32)) 10)) v2).bind fun r8 => (ldL (mb (maU (maU (maU ms 50 (v1).toNatClampNeg (q2 ||| ((1 : Int32) <<< (q4 &&& 31)))) 65 (v2).toNatClampNeg (3 : Int32)) 66 (v2).toNatClampNeg (mi (maU (maU ms 50 (v1).toNatClampNeg (q2 ||| ((1 : Int32) <<< (q4 &&& 31)))) 65 (v2).toNatClampNeg (3 : Int32)) 10)) 58) 4 r8).bind fun q10 => (f_X9_gramsOf (maU (maU (maU ms 50 (v1).toNatClampNeg (q2 ||| ((1 : Int32) <<< (q4 &&& 31)))) 65 (v2).toNatClampNeg (3 : Int32)) 66 (v2).toNatClampNeg (mi (maU (maU ms 50 (v1).toNatClampNeg (q2 ||| ((1 : Int32) <<< (q4 &&& 31)))) 65 (v2).toNatClampNeg (3 : Int32)) 10)) v2).bind fun r11 => ixr 4 r8 <| some (miU (mbU (maU (maU (maU ms 50 (v1).toNatClampNeg (q2 ||| ((1 : Int32) <<< (q4 &&& 31)))) 65 (v2).toNatClampNeg (3 : Int32)) 66 (v2).toNatClampNeg (mi (maU (maU ms 50 (v1).toNatClampNeg (q2 ||| ((1 : Int32) <<< (q4 &&& 31)))) 65 (v2).toNatClampNeg (3 : Int32)) 10)) 58 (r8).toNatClampNeg (q10 - r11.toInt64)) 13 ((mi (mbU (maU (maU (maU ms 50 (v1).toNatClampNeg (q2 ||| ((1 : Int32) <<< (q4 &&& 31)))) 65 (v2).toNatClampNeg (3 : Int32)) 66 (v2).toNatClampNeg (mi (maU (maU ms 50 (v1).toNatClampNeg (q2 ||| ((1 : Int32) <<< (q4 &&& 31)))) 65 (v2).toNatClampNeg (3 : Int32)) 10)) 58 (r8).toNatClampNeg (q10 - r11.toInt64)) 13) - (1 : Int32)))
def rm_X9_takeBack : Room := { frames := 2, cells := 0, slots := 0, locals := 42 }
set_option maxHeartbeats 4000000 in
set_option maxRecDepth 100000 in
theorem c_X9_takeBack (l : Launch) {X : XT} {B : Nat} {cs : CS} {ms : MS} {o : Nat → Int64} {v1 : Int32} {v2 : Int32} {S9 : MS} (hf : f_X9_takeBack ms v1 v2 = some S9) : Met l yX9_takeBack (.code yX9_takeBack cX9_takeBack 3 none :: BIG) rm_X9_takeBack (Pre X B (cs, ms, o) [.ref (X.1 7), .int v1, .int v2]) (QV X B (cs, S9, o)) 0 0 (Ab B) := by
  refine entry (by decide +kernel) rfl (Nat.le_of_ble_eq_true rfl) (fun p e s m below meth c ls E hW hl => ?_)
  obtain ⟨hx, hb, hml, hown, hts, -⟩ := id E
  replace hl : lv_has ls 3 [(0, .ref (X.1 7)), (1, .int v1), (2, .int v2)] := hl
  unfold f_X9_takeBack at hf
  refine lv_aload_n hx hb dX9_takeBack_0 rfl (lv_at hl 0 rfl) ?_
  refine rg_X9_85 E hW dX9_takeBack_1 ?_
  refine lv_iload_n hx hb dX9_takeBack_4 rfl (lv_at hl 1 rfl) ?_
  refine lv_dup2_11 hx hb dX9_takeBack_5 rfl rfl ?_
  obtain ⟨v1, hf⟩ := ldI_e hf
  refine ra_50 E hW v1 dX9_takeBack_6 ?_
  refine lv_iconst (v := (1 : Int32)) hx hb dX9_takeBack_7 (by decide) ?_
  refine lv_aload_n hx hb dX9_takeBack_8 rfl (lv_at hl 0 rfl) ?_
  refine rg_X9_127 E hW dX9_takeBack_9 ?_
  refine lv_iload_n hx hb dX9_takeBack_12 rfl (lv_at hl 2 rfl) ?_
  obtain ⟨v3, hf⟩ := ldI_e hf
  refine ra_64 E hW v3 dX9_takeBack_13 ?_
  refine lv_ishl hx hb dX9_takeBack_14 ?_
  refine lv_ior hx hb dX9_takeBack_15 ?_
  obtain ⟨v5, hf⟩ := ixr_e hf
  refine rs_50 E hW v5 dX9_takeBack_16 (fun H locs hW => ?_)
  refine lv_aload_n hx hb dX9_takeBack_17 rfl (lv_at hl 0 rfl) ?_
  refine rg_X9_130 E hW dX9_takeBack_18 ?_
  refine lv_iload_n hx hb dX9_takeBack_21 rfl (lv_at hl 2 rfl) ?_
  refine lv_iconst (v := (3 : Int32)) hx hb dX9_takeBack_22 (by decide) ?_
  obtain ⟨v6, hf⟩ := ixr_e hf
  refine rs_65 E hW v6 dX9_takeBack_23 (fun H locs hW => ?_)
  refine lv_aload_n hx hb dX9_takeBack_24 rfl (lv_at hl 0 rfl) ?_
  refine rg_X9_133 E hW dX9_takeBack_25 ?_
  refine lv_iload_n hx hb dX9_takeBack_28 rfl (lv_at hl 2 rfl) ?_
  refine lv_aload_n hx hb dX9_takeBack_29 rfl (lv_at hl 0 rfl) ?_
  refine rg_X9_248 E hW dX9_takeBack_30 ?_
  obtain ⟨v7, hf⟩ := ixr_e hf
  refine rs_66 E hW v7 dX9_takeBack_33 (fun H locs hW => ?_)
  refine lv_aload_n hx hb dX9_takeBack_34 rfl (lv_at hl 0 rfl) ?_
  refine rg_X9_109 E hW dX9_takeBack_35 ?_
  refine lv_aload_n hx hb dX9_takeBack_38 rfl (lv_at hl 0 rfl) ?_
  refine lv_iload_n hx hb dX9_takeBack_39 rfl (lv_at hl 2 rfl) ?_
  obtain ⟨r8, hc, hf⟩ := b1_e hf
  refine callVI (As := [.int _]) (rest := [_]) E hW (c_X9_stuffOf l hc) lk_X9_251 rcv_X9 (Nat.le_of_ble_eq_true rfl) (Nat.le_of_ble_eq_true rfl) (Nat.le_of_ble_eq_true rfl) (Nat.le_of_ble_eq_true rfl) hl.1 (Nat.le_of_ble_eq_true rfl) dX9_takeBack_40 (fun H locs hW => ?_)
  refine lv_dup2_11 hx hb dX9_takeBack_43 rfl rfl ?_
  obtain ⟨v9, hf⟩ := ldL_e hf
  refine ra_58 E hW v9 dX9_takeBack_44 ?_
  refine lv_aload_n hx hb dX9_takeBack_45 rfl (lv_at hl 0 rfl) ?_
  refine lv_iload_n hx hb dX9_takeBack_46 rfl (lv_at hl 2 rfl) ?_
  obtain ⟨r11, hc, hf⟩ := b1_e hf
  refine callVI (As := [.int _]) (rest := [_, _, _]) E hW (c_X9_gramsOf l hc) lk_X9_255 rcv_X9 (Nat.le_of_ble_eq_true rfl) (Nat.le_of_ble_eq_true rfl) (Nat.le_of_ble_eq_true rfl) (Nat.le_of_ble_eq_true rfl) hl.1 (Nat.le_of_ble_eq_true rfl) dX9_takeBack_47 (fun H locs hW => ?_)
  refine lv_i2l hx hb dX9_takeBack_50 rfl ?_
  refine lv_lsub hx hb dX9_takeBack_51 ?_
  obtain ⟨v12, hf⟩ := ixr_e hf
  refine rs_58 E hW v12 dX9_takeBack_52 (fun H locs hW => ?_)
  refine lv_aload_n hx hb dX9_takeBack_53 rfl (lv_at hl 0 rfl) ?_
  refine lv_dup hx hb dX9_takeBack_54 rfl ?_
  refine rg_X9_258 E hW dX9_takeBack_55 ?_
  refine lv_iconst (v := (1 : Int32)) hx hb dX9_takeBack_58 (by decide) ?_
  refine lv_isub hx hb dX9_takeBack_59 ?_
  refine rp_X9_258 E hW dX9_takeBack_60 (fun H locs hW => ?_)
  exact retV E hW (e1M hf) dX9_takeBack_63
def f_X9_undo (ms : MS) : Option (Int32 × MS) := if (mi (miU ms 0 (0 : Int32)) 11) = 0 then (some ((-1 : Int32), (miU ms 0 (0 : Int32)))) else ((ldI (ma (miU (miU ms 0 (0 : Int32)) 11 ((mi (miU ms 0 (0 : Int32)) 11) - (1 : Int32))) 61) 10 (mi (miU (miU ms 0 (0 : Int32)) 11 ((mi (miU ms 0 (0 : Int32)) 11) - (1 : Int32))) 11)).bind fun q3 => (ldI (ma (miU (miU ms 0 (0 : Int32)) 11 ((mi (miU ms 0 (0 : Int32)) 11) - (1 : Int32))) 60) 10 (mi (miU (miU ms 0 (0 : Int32)) 11 ((mi (miU ms 0 (0 : Int32)) 11) - (1 : Int32))) 11)).bind fun q5 => if q5 = (1 : Int32) then (ixr 40 q3 <| (ldI (ma (maU (miU (miU ms 0 (0 : Int32)) 11 ((mi (miU ms 0 (0 : Int32)) 11) - (1 : Int32))) 52 (q3).toNatClampNeg (vp_nar .boolean (0 : Int32))) 60) 10 (mi (maU (miU (miU ms 0 (0 : Int32)) 11 ((mi (miU ms 0 (0 : Int32)) 11) - (1 : Int32))) 52 (q3).toNatClampNeg (vp_nar .boolean (0 : Int32))) 11)).bind fun q20 => some (q20, (maU (miU (miU ms 0 (0 : Int32)) 11 ((mi (miU ms 0 (0 : Int32)) 11) - (1 : Int32))) 52 (q3).toNatClampNeg (vp_nar .boolean (0 : Int32))))) else ((ldI (ma (miU (miU ms 0 (0 : Int32)) 11 ((mi (miU ms 0 (0 : Int32)) 11) - (1 : Int32))) 60) 10 (mi (miU (miU ms 0 (0 : Int32)) 11 ((mi (miU ms 0 (0 : Int32)) 11) - (1 : Int32))) 11)).bind fun q8 => if q8 = (2 : Int32) then (ixr 40 q3 <| (ldI (ma (maU (miU (miU ms 0 (0 : Int32)) 11 ((mi (miU ms 0 (0 : Int32)) 11) - (1 : Int32))) 53 (q3).toNatClampNeg (vp_nar .boolean (0 : Int32))) 60) 10 (mi (maU (miU (miU ms 0 (0 : Int32)) 11 ((mi (miU ms 0 (0 : Int32)) 11) - (1 : Int32))) 53 (q3).toNatClampNeg (vp_nar .boolean (0 : Int32))) 11)).bind fun q17 => some (q17, (maU (miU (miU ms 0 (0 : Int32)) 11 ((mi (miU ms 0 (0 : Int32)) 11) - (1 : Int32))) 53 (q3).toNatClampNeg (vp_nar .boolean (0 : Int32))))) else ((ldI (ma (miU (miU ms 0 (0 : Int32)) 11 ((mi (miU ms 0 (0 : Int32)) 11) - (1 : Int32))) 62) 10 (mi (miU (miU ms 0 (0 : Int32)) 11 ((mi (miU ms 0 (0 : Int32)) 11) - (1 : Int32))) 11)).bind fun q11 => (f_X9_takeBack (miU (miU ms 0 (0 : Int32)) 11 ((mi (miU ms 0 (0 : Int32)) 11) - (1 : Int32))) q3 q11).bind fun ms12 => (ldI (ma ms12 60) 10 (mi ms12 11)).bind fun q14 => some (q14, ms12))))
def rm_X9_undo : Room := { frames := 3, cells := 0, slots := 0, locals := 64 }
set_option maxHeartbeats 4000000 in
set_option maxRecDepth 100000 in
theorem c_X9_undo (l : Launch) {X : XT} {B : Nat} {cs : CS} {ms : MS} {o : Nat → Int64} {r : Int32} {S9 : MS} (hf : f_X9_undo ms  = some (r, S9)) : Met l yX9_undo (.code yX9_undo cX9_undo 2 (some .int) :: BIG) rm_X9_undo (Pre X B (cs, ms, o) [.ref (X.1 7)]) (QI X B r (cs, S9, o)) 0 0 (Ab B) := by
  refine entry (by decide +kernel) rfl (Nat.le_of_ble_eq_true rfl) (fun p e s m below meth c ls E hW hl => ?_)
  obtain ⟨hx, hb, hml, hown, hts, -⟩ := id E
  replace hl : lv_has ls 2 [(0, .ref (X.1 7))] := hl
  unfold f_X9_undo at hf
  refine lv_aload_n hx hb dX9_undo_0 rfl (lv_at hl 0 rfl) ?_
  refine lv_iconst (v := (0 : Int32)) hx hb dX9_undo_1 (by decide) ?_
  refine rp_X9_1 E hW dX9_undo_2 (fun H locs hW => ?_)
  refine lv_aload_n hx hb dX9_undo_5 rfl (lv_at hl 0 rfl) ?_
  refine rg_X9_241 E hW dX9_undo_6 ?_
  refine lv_if_ne (tgt := 14) hx hb dX9_undo_9 (by decide) (fun h1 => ?_) (fun h1 => ?_)
  · replace hf := ite_f h1 hf
    refine lv_aload_n hx hb dX9_undo_14 rfl (lv_at hl 0 rfl) ?_
    refine lv_dup hx hb dX9_undo_15 rfl ?_
    refine rg_X9_241 E hW dX9_undo_16 ?_
    refine lv_iconst (v := (1 : Int32)) hx hb dX9_undo_19 (by decide) ?_
    refine lv_isub hx hb dX9_undo_20 ?_
    refine rp_X9_241 E hW dX9_undo_21 (fun H locs hW => ?_)
    refine lv_aload_n hx hb dX9_undo_24 rfl (lv_at hl 0 rfl) ?_
    refine rg_X9_118 E hW dX9_undo_25 ?_
    refine lv_aload_n hx hb dX9_undo_28 rfl (lv_at hl 0 rfl) ?_
    refine rg_X9_241 E hW dX9_undo_29 ?_
    obtain ⟨v2, hf⟩ := ldI_e hf
    refine ra_61 E hW v2 dX9_undo_32 ?_
    refine lv_istore_n (lv' := [_, _]) hx hb dX9_undo_33 rfl hl (by decide) rfl (fun ls hl => ?_)
    refine lv_aload_n hx hb dX9_undo_34 rfl (lv_at hl 1 rfl) ?_
    refine rg_X9_115 E hW dX9_undo_35 ?_
    refine lv_aload_n hx hb dX9_undo_38 rfl (lv_at hl 1 rfl) ?_
    refine rg_X9_241 E hW dX9_undo_39 ?_
    obtain ⟨v4, hf⟩ := ldI_e hf
    refine ra_60 E hW v4 dX9_undo_42 ?_
    refine lv_iconst (v := (1 : Int32)) hx hb dX9_undo_43 (by decide) ?_
    refine lv_icmp_ne (tgt := 57) hx hb dX9_undo_44 (by decide) (fun h6 => ?_) (fun h6 => ?_)
    · replace hf := ite_f h6 hf
      refine lv_aload_n hx hb dX9_undo_57 rfl (lv_at hl 1 rfl) ?_
      refine rg_X9_115 E hW dX9_undo_58 ?_
      refine lv_aload_n hx hb dX9_undo_61 rfl (lv_at hl 1 rfl) ?_
      refine rg_X9_241 E hW dX9_undo_62 ?_
      obtain ⟨v7, hf⟩ := ldI_e hf
      refine ra_60 E hW v7 dX9_undo_65 ?_
      refine lv_iconst (v := (2 : Int32)) hx hb dX9_undo_66 (by decide) ?_
      refine lv_icmp_ne (tgt := 80) hx hb dX9_undo_67 (by decide) (fun h9 => ?_) (fun h9 => ?_)
      · replace hf := ite_f h9 hf
        refine lv_aload_n hx hb dX9_undo_80 rfl (lv_at hl 1 rfl) ?_
        refine lv_iload_n hx hb dX9_undo_81 rfl (lv_at hl 0 rfl) ?_
        refine lv_aload_n hx hb dX9_undo_82 rfl (lv_at hl 1 rfl) ?_
        refine rg_X9_121 E hW dX9_undo_83 ?_
        refine lv_aload_n hx hb dX9_undo_86 rfl (lv_at hl 1 rfl) ?_
        refine rg_X9_241 E hW dX9_undo_87 ?_
        obtain ⟨v10, hf⟩ := ldI_e hf
        refine ra_62 E hW v10 dX9_undo_90 ?_
        obtain ⟨ms12, hc, hf⟩ := b1_e hf
        refine callVV (As := [.int _, .int _]) (rest := []) E hW (c_X9_takeBack l hc) lk_X9_244 rcv_X9 (Nat.le_of_ble_eq_true rfl) (Nat.le_of_ble_eq_true rfl) (Nat.le_of_ble_eq_true rfl) (Nat.le_of_ble_eq_true rfl) hl.1 (Nat.le_of_ble_eq_true rfl) dX9_undo_91 (fun H locs hW => ?_)
        refine lv_aload_n hx hb dX9_undo_94 rfl (lv_at hl 1 rfl) ?_
        refine rg_X9_115 E hW dX9_undo_95 ?_
        refine lv_aload_n hx hb dX9_undo_98 rfl (lv_at hl 1 rfl) ?_
        refine rg_X9_241 E hW dX9_undo_99 ?_
        obtain ⟨v13, hf⟩ := ldI_e hf
        refine ra_60 E hW v13 dX9_undo_102 ?_
        exact retI E hW (e2M hf) dX9_undo_103
      · replace hf := ite_t h9 hf
        refine lv_aload_n hx hb dX9_undo_70 rfl (lv_at hl 1 rfl) ?_
        refine rg_X9_94 E hW dX9_undo_71 ?_
        refine lv_iload_n hx hb dX9_undo_74 rfl (lv_at hl 0 rfl) ?_
        refine lv_iconst (v := (0 : Int32)) hx hb dX9_undo_75 (by decide) ?_
        obtain ⟨v15, hf⟩ := ixr_e hf
        refine rs_53 E hW v15 dX9_undo_76 (fun H locs hW => ?_)
        refine lv_goto (tgt := 94) hx hb dX9_undo_77 (by decide) ?_
        refine lv_aload_n hx hb dX9_undo_94 rfl (lv_at hl 1 rfl) ?_
        refine rg_X9_115 E hW dX9_undo_95 ?_
        refine lv_aload_n hx hb dX9_undo_98 rfl (lv_at hl 1 rfl) ?_
        refine rg_X9_241 E hW dX9_undo_99 ?_
        obtain ⟨v16, hf⟩ := ldI_e hf
        refine ra_60 E hW v16 dX9_undo_102 ?_
        exact retI E hW (e2M hf) dX9_undo_103
    · replace hf := ite_t h6 hf
      refine lv_aload_n hx hb dX9_undo_47 rfl (lv_at hl 1 rfl) ?_
      refine rg_X9_91 E hW dX9_undo_48 ?_
      refine lv_iload_n hx hb dX9_undo_51 rfl (lv_at hl 0 rfl) ?_
      refine lv_iconst (v := (0 : Int32)) hx hb dX9_undo_52 (by decide) ?_
      obtain ⟨v18, hf⟩ := ixr_e hf
      refine rs_52 E hW v18 dX9_undo_53 (fun H locs hW => ?_)
      refine lv_goto (tgt := 94) hx hb dX9_undo_54 (by decide) ?_
      refine lv_aload_n hx hb dX9_undo_94 rfl (lv_at hl 1 rfl) ?_
      refine rg_X9_115 E hW dX9_undo_95 ?_
      refine lv_aload_n hx hb dX9_undo_98 rfl (lv_at hl 1 rfl) ?_
      refine rg_X9_241 E hW dX9_undo_99 ?_
      obtain ⟨v19, hf⟩ := ldI_e hf
      refine ra_60 E hW v19 dX9_undo_102 ?_
      exact retI E hW (e2M hf) dX9_undo_103
  · replace hf := ite_t h1 hf
    refine lv_iconst (v := (-1 : Int32)) hx hb dX9_undo_12 (by decide) ?_
    exact retI E hW (e2M hf) dX9_undo_13
def f_X9_isOn (ms : MS) (v1 : Int32) (v2 : Int32) : Option (Int32) := (ldI (ma ms 50) 40 v1).bind fun q2 => if ((q2 >>> (v2 &&& 31)) &&& (1 : Int32)) = (1 : Int32) then (some (1 : Int32)) else (some (0 : Int32))
def rm_X9_isOn : Room := { frames := 0, cells := 0, slots := 0, locals := 0 }
set_option maxHeartbeats 4000000 in
set_option maxRecDepth 100000 in
theorem c_X9_isOn (l : Launch) {X : XT} {B : Nat} {cs : CS} {ms : MS} {o : Nat → Int64} {v1 : Int32} {v2 : Int32} {r : Int32} (hf : f_X9_isOn ms v1 v2 = some r) : Met l yX9_isOn (.code yX9_isOn cX9_isOn 3 (some .boolean) :: BIG) rm_X9_isOn (Pre X B (cs, ms, o) [.ref (X.1 7), .int v1, .int v2]) (QI X B r (cs, ms, o)) 0 0 (Ab B) := by
  refine entry (by decide +kernel) rfl (Nat.le_of_ble_eq_true rfl) (fun p e s m below meth c ls E hW hl => ?_)
  obtain ⟨hx, hb, hml, hown, hts, -⟩ := id E
  replace hl : lv_has ls 3 [(0, .ref (X.1 7)), (1, .int v1), (2, .int v2)] := hl
  unfold f_X9_isOn at hf
  refine lv_aload_n hx hb dX9_isOn_0 rfl (lv_at hl 0 rfl) ?_
  refine rg_X9_85 E hW dX9_isOn_1 ?_
  refine lv_iload_n hx hb dX9_isOn_4 rfl (lv_at hl 1 rfl) ?_
  obtain ⟨v1, hf⟩ := ldI_e hf
  refine ra_50 E hW v1 dX9_isOn_5 ?_
  refine lv_iload_n hx hb dX9_isOn_6 rfl (lv_at hl 2 rfl) ?_
  refine lv_ishr hx hb dX9_isOn_7 ?_
  refine lv_iconst (v := (1 : Int32)) hx hb dX9_isOn_8 (by decide) ?_
  refine lv_iand hx hb dX9_isOn_9 ?_
  refine lv_iconst (v := (1 : Int32)) hx hb dX9_isOn_10 (by decide) ?_
  refine lv_icmp_ne (tgt := 18) hx hb dX9_isOn_11 (by decide) (fun h3 => ?_) (fun h3 => ?_)
  · replace hf := ite_f h3 hf
    refine lv_iconst (v := (0 : Int32)) hx hb dX9_isOn_18 (by decide) ?_
    exact retZ E hW (Or.inl rfl) ⟨Option.some.inj hf, rfl⟩ dX9_isOn_19
  · replace hf := ite_t h3 hf
    refine lv_iconst (v := (1 : Int32)) hx hb dX9_isOn_14 (by decide) ?_
    refine lv_goto (tgt := 19) hx hb dX9_isOn_15 (by decide) ?_
    exact retZ E hW (Or.inr rfl) ⟨Option.some.inj hf, rfl⟩ dX9_isOn_19
def f_X9_car_287 (k : MS → Int32 → Int32 → Int32 → Option (Int32 × MS)) (ms : MS) (v1 : Int32) (v6 : Int32) (v7 : Int32) : Option (Int32 × MS) := k ms v1 v6 (v7 + (1 : Int32))
def f_X9_car_231 : Nat → MS → Int32 → Int32 → Int32 → Option (Int32 × MS)
  | 0, _, _, _, _ => none
  | n + 1, ms, v1, v6, v7 => (ldI (ma ms 49) 40 v6).bind fun q25 => if q25 ≤ v7 then (some (v6, (miU (miU ms 9 ((mi ms 9) + (1 : Int32))) 11 (0 : Int32)))) else ((f_X9_isOn ms v6 v7).bind fun r27 => if r27 = 0 then (f_X9_car_287 (f_X9_car_231 n) ms v1 v6 v7) else ((ldI (ma ms 43) 192 (((24 : Int32) * v1) + v7)).bind fun q30 => (ldL (mb ms 55) 4 q30).bind fun q32 => (ldI (ma ms 42) 192 (((24 : Int32) * v1) + v7)).bind fun q34 => ixr 4 q30 <| f_X9_car_287 (f_X9_car_231 n) (mbU ms 55 (q30).toNatClampNeg (q32 + q34.toInt64)) v1 v6 v7))
def f_X9_car_108 (ms : MS) (v1 : Int32) (v2 : Int32) (v3 : Int32) (v4 : Int32) (s1 : Int32) : Option (Int32 × MS) := b2 (f_X9_may ms s1 (1 : Int32)) fun r8 ms7 => if r8 = 0 then (some ((0 : Int32), ms7)) else (if (mi ms7 9) = (40 : Int32) then (some ((-1 : Int32), ms7)) else (ixr 40 (mi ms7 9) <| ixr 40 (mi ms7 9) <| ixr 40 (mi ms7 9) <| (ldI (ma (maU (maU (maU ms7 46 ((mi ms7 9)).toNatClampNeg v1) 47 ((mi ms7 9)).toNatClampNeg v2) 48 ((mi ms7 9)).toNatClampNeg v3) 37) 8 v1).bind fun q15 => ixr 40 (mi ms7 9) <| (ldI (ma (maU (maU (maU (maU ms7 46 ((mi ms7 9)).toNatClampNeg v1) 47 ((mi ms7 9)).toNatClampNeg v2) 48 ((mi ms7 9)).toNatClampNeg v3) 49 ((mi ms7 9)).toNatClampNeg q15) 37) 8 v1).bind fun q18 => ixr 40 (mi ms7 9) <| ixr 40 (mi ms7 9) <| ixr 40 (mi ms7 9) <| ixr 40 (mi ms7 9) <| ixr 40 (mi ms7 9) <| f_X9_car_231 1000 (maU (maU (maU (maU (maU (maU (maU (maU (maU ms7 46 ((mi ms7 9)).toNatClampNeg v1) 47 ((mi ms7 9)).toNatClampNeg v2) 48 ((mi ms7 9)).toNatClampNeg v3) 49 ((mi ms7 9)).toNatClampNeg q15) 50 ((mi ms7 9)).toNatClampNeg ((((1 : Int32) <<< (q18 &&& 31)) - (1 : Int32)) &&& (v4 ^^^ (-1 : Int32)))) 51 ((mi ms7 9)).toNatClampNeg (mi (maU (maU (maU (maU (maU ms7 46 ((mi ms7 9)).toNatClampNeg v1) 47 ((mi ms7 9)).toNatClampNeg v2) 48 ((mi ms7 9)).toNatClampNeg v3) 49 ((mi ms7 9)).toNatClampNeg q15) 50 ((mi ms7 9)).toNatClampNeg ((((1 : Int32) <<< (q18 &&& 31)) - (1 : Int32)) &&& (v4 ^^^ (-1 : Int32)))) 10)) 52 ((mi ms7 9)).toNatClampNeg (vp_nar .boolean (0 : Int32))) 53 ((mi ms7 9)).toNatClampNeg (vp_nar .boolean (0 : Int32))) 54 ((mi ms7 9)).toNatClampNeg (vp_nar .boolean (0 : Int32))) v1 (mi ms7 9) (0 : Int32)))
def f_X9_car_107 (ms : MS) (v1 : Int32) (v2 : Int32) (v3 : Int32) (v4 : Int32) : Option (Int32 × MS) := f_X9_car_108 ms v1 v2 v3 v4 (0 : Int32)
def f_X9_car_78 (ms : MS) (v1 : Int32) (v2 : Int32) (v3 : Int32) (v4 : Int32) (s1 : Int32) : Option (Int32 × MS) := b2 (f_X9_may ms s1 (1 : Int32)) fun r4 ms3 => if r4 = 0 then (some ((0 : Int32), ms3)) else (if v4 < 0 then (f_X9_car_107 ms3 v1 v2 v3 v4) else ((ldI (ma ms3 37) 8 v1).bind fun q37 => if (v4 >>> (q37 &&& 31)) = 0 then (f_X9_car_108 ms3 v1 v2 v3 v4 (1 : Int32)) else (f_X9_car_107 ms3 v1 v2 v3 v4)))
def f_X9_car_77 (ms : MS) (v1 : Int32) (v2 : Int32) (v3 : Int32) (v4 : Int32) : Option (Int32 × MS) := f_X9_car_78 ms v1 v2 v3 v4 (0 : Int32)
def f_X9_car_69 (ms : MS) (v1 : Int32) (v2 : Int32) (v3 : Int32) (v4 : Int32) (s2 : Int32) : Option (Int32 × MS) := (ldI (ma ms 37) 8 s2).bind fun q41 => if q41 ≤ 0 then (f_X9_car_77 ms v1 v2 v3 v4) else (f_X9_car_78 ms v1 v2 v3 v4 (1 : Int32))
def f_X9_car_64 (ms : MS) (v1 : Int32) (v2 : Int32) (v3 : Int32) (v4 : Int32) : Option (Int32 × MS) := f_X9_car_69 ms v1 v2 v3 v4 (0 : Int32)
def f_X9_car_42 (ms : MS) (v1 : Int32) (v2 : Int32) (v3 : Int32) (v4 : Int32) (s0 : Int32) : Option (Int32 × MS) := if s0 = 0 then (f_X9_car_77 ms v1 v2 v3 v4) else (if v1 < 0 then (f_X9_car_64 ms v1 v2 v3 v4) else (if v1 ≤ (7 : Int32) then (f_X9_car_69 ms v1 v2 v3 v4 v1) else (f_X9_car_64 ms v1 v2 v3 v4)))
def f_X9_car_41 (ms : MS) (v1 : Int32) (v2 : Int32) (v3 : Int32) (v4 : Int32) : Option (Int32 × MS) := f_X9_car_42 ms v1 v2 v3 v4 (0 : Int32)
def f_X9_car (ms : MS) (v1 : Int32) (v2 : Int32) (v3 : Int32) (v4 : Int32) : Option (Int32 × MS) := if v1 < 0 then (f_X9_car_41 (miU ms 0 (0 : Int32)) v1 v2 v3 v4) else (if (8 : Int32) ≤ v1 then (f_X9_car_41 (miU ms 0 (0 : Int32)) v1 v2 v3 v4) else (if v2 < 0 then (f_X9_car_41 (miU ms 0 (0 : Int32)) v1 v2 v3 v4) else (if (9999 : Int32) < v2 then (f_X9_car_41 (miU ms 0 (0 : Int32)) v1 v2 v3 v4) else (if v3 < 0 then (f_X9_car_41 (miU ms 0 (0 : Int32)) v1 v2 v3 v4) else (if (255 : Int32) < v3 then (f_X9_car_41 (miU ms 0 (0 : Int32)) v1 v2 v3 v4) else (f_X9_car_42 (miU ms 0 (0 : Int32)) v1 v2 v3 v4 (1 : Int32)))))))
def rm_X9_car : Room := { frames := 1, cells := 0, slots := 0, locals := 22 }
set_option maxHeartbeats 4000000 in
set_option maxRecDepth 100000 in
theorem w_X9_car_287 {p : Program} {l : Launch} {e : Env} {s : State} {m : MethodId} {args : Array Value} {below : List Frame} {meth : Method} {c : Code} {X : XT} {B : Nat} {cs : CS} {o : Nat → Int64} {r : Int32} {S9 : MS} (E : Ev X B p s m args meth c RX9 cX9_car 8 (some .int)) (k : MS → Int32 → Int32 → Int32 → Option (Int32 × MS)) (hk : ∀ (ms : MS) (v1 : Int32) (v6 : Int32) (v7 : Int32) (H : Heap) (locs : List Loc) (ls : Array Slot), k ms v1 v6 v7 = some (r, S9) → Ws X B s.heap H locs (cs, ms, o) → lv_has ls 8 [(0, .ref (X.1 7)), (1, .int v1), (6, .int v6), (7, .int v7)] → W p l e rm_X9_car s m args below meth c H locs 0 0 (MQ below (QI X B r (cs, S9, o)) args s 0 0 (Ab B)) (F0 m 231 ls [])) : ∀ (ms : MS) (v1 : Int32) (v6 : Int32) (v7 : Int32) (H : Heap) (locs : List Loc) (ls : Array Slot), f_X9_car_287 k ms v1 v6 v7 = some (r, S9) → Ws X B s.heap H locs (cs, ms, o) → lv_has ls 8 [(0, .ref (X.1 7)), (1, .int v1), (6, .int v6), (7, .int v7)] → W p l e rm_X9_car s m args below meth c H locs 0 0 (MQ below (QI X B r (cs, S9, o)) args s 0 0 (Ab B)) (F0 m 287 ls []) := by
  obtain ⟨hx, hb, hml, hown, hts, -⟩ := id E
  intro ms v1 v6 v7 H locs ls hf hW hl
  unfold f_X9_car_287 at hf
  refine lv_iinc (v := _ + (1 : Int32)) (lv' := [_, _, _, _]) hx hb dX9_car_287 hl (k := 3) rfl rfl (by decide) rfl (fun ls hl => ?_)
  refine lv_goto (tgt := 231) hx hb dX9_car_290 (by decide) ?_
  exact hk _ _ _ _ _ _ _ hf hW (lv_sub hl [1, 2, 3, 0] rfl)
set_option maxHeartbeats 4000000 in
set_option maxRecDepth 100000 in
theorem w_X9_car_231 {p : Program} {l : Launch} {e : Env} {s : State} {m : MethodId} {args : Array Value} {below : List Frame} {meth : Method} {c : Code} {X : XT} {B : Nat} {cs : CS} {o : Nat → Int64} {r : Int32} {S9 : MS} (E : Ev X B p s m args meth c RX9 cX9_car 8 (some .int)) : ∀ (n : Nat) (ms : MS) (v1 : Int32) (v6 : Int32) (v7 : Int32) (H : Heap) (locs : List Loc) (ls : Array Slot), f_X9_car_231 n ms v1 v6 v7 = some (r, S9) → Ws X B s.heap H locs (cs, ms, o) → lv_has ls 8 [(0, .ref (X.1 7)), (1, .int v1), (6, .int v6), (7, .int v7)] → W p l e rm_X9_car s m args below meth c H locs 0 0 (MQ below (QI X B r (cs, S9, o)) args s 0 0 (Ab B)) (F0 m 231 ls []) := by
  obtain ⟨hx, hb, hml, hown, hts, -⟩ := id E
  intro n
  induction n with
  | zero => intro ms v1 v6 v7 H locs ls hf; exact absurd hf nofun
  | succ n ih =>
    intro ms v1 v6 v7 H locs ls hf hW hl
    rw [f_X9_car_231] at hf
    refine lv_iload hx hb dX9_car_231 (lv_at hl 3 rfl) ?_
    refine lv_aload_n hx hb dX9_car_233 rfl (lv_at hl 0 rfl) ?_
    refine rg_X9_82 E hW dX9_car_234 ?_
    refine lv_iload hx hb dX9_car_237 (lv_at hl 2 rfl) ?_
    obtain ⟨v24, hf⟩ := ldI_e hf
    refine ra_49 E hW v24 dX9_car_239 ?_
    refine lv_icmp_ge (tgt := 293) hx hb dX9_car_240 (by decide) (fun h26 => ?_) (fun h26 => ?_)
    · replace hf := ite_t h26 hf
      refine lv_aload_n hx hb dX9_car_293 rfl (lv_at hl 0 rfl) ?_
      refine lv_dup hx hb dX9_car_294 rfl ?_
      refine rg_X9_261 E hW dX9_car_295 ?_
      refine lv_iconst (v := (1 : Int32)) hx hb dX9_car_298 (by decide) ?_
      refine lv_iadd hx hb dX9_car_299 ?_
      refine rp_X9_261 E hW dX9_car_300 (fun H locs hW => ?_)
      refine lv_aload_n hx hb dX9_car_303 rfl (lv_at hl 0 rfl) ?_
      refine lv_iconst (v := (0 : Int32)) hx hb dX9_car_304 (by decide) ?_
      refine rp_X9_241 E hW dX9_car_305 (fun H locs hW => ?_)
      refine lv_iload hx hb dX9_car_308 (lv_at hl 2 rfl) ?_
      exact retI E hW (e2M hf) dX9_car_310
    · replace hf := ite_f h26 hf
      refine lv_aload_n hx hb dX9_car_243 rfl (lv_at hl 0 rfl) ?_
      refine lv_iload hx hb dX9_car_244 (lv_at hl 2 rfl) ?_
      refine lv_iload hx hb dX9_car_246 (lv_at hl 3 rfl) ?_
      obtain ⟨r27, hc, hf⟩ := b1_e hf
      refine callVI (As := [.int _, .int _]) (rest := []) E hW (c_X9_isOn l hc) lk_X9_264 rcv_X9 (Nat.le_of_ble_eq_true rfl) (Nat.le_of_ble_eq_true rfl) (Nat.le_of_ble_eq_true rfl) (Nat.le_of_ble_eq_true rfl) hl.1 (Nat.le_of_ble_eq_true rfl) dX9_car_248 (fun H locs hW => ?_)
      refine lv_if_eq (tgt := 287) hx hb dX9_car_251 (by decide) (fun h28 => ?_) (fun h28 => ?_)
      · replace hf := ite_t h28 hf
        exact w_X9_car_287 E (f_X9_car_231 n) ih _ _ _ _ _ _ _ hf hW (lv_sub hl [0, 1, 2, 3] rfl)
      · replace hf := ite_f h28 hf
        refine lv_aload_n hx hb dX9_car_254 rfl (lv_at hl 0 rfl) ?_
        refine rg_X9_100 E hW dX9_car_255 ?_
        refine lv_aload_n hx hb dX9_car_258 rfl (lv_at hl 0 rfl) ?_
        refine rg_X9_64 E hW dX9_car_259 ?_
        refine lv_bipush (v := (24 : Int32)) hx hb dX9_car_262 (by decide) ?_
        refine lv_iload_n hx hb dX9_car_264 rfl (lv_at hl 1 rfl) ?_
        refine lv_imul hx hb dX9_car_265 ?_
        refine lv_iload hx hb dX9_car_266 (lv_at hl 3 rfl) ?_
        refine lv_iadd hx hb dX9_car_268 ?_
        obtain ⟨v29, hf⟩ := ldI_e hf
        refine ra_43 E hW v29 dX9_car_269 ?_
        refine lv_dup2_11 hx hb dX9_car_270 rfl rfl ?_
        obtain ⟨v31, hf⟩ := ldL_e hf
        refine ra_55 E hW v31 dX9_car_271 ?_
        refine lv_aload_n hx hb dX9_car_272 rfl (lv_at hl 0 rfl) ?_
        refine rg_X9_61 E hW dX9_car_273 ?_
        refine lv_bipush (v := (24 : Int32)) hx hb dX9_car_276 (by decide) ?_
        refine lv_iload_n hx hb dX9_car_278 rfl (lv_at hl 1 rfl) ?_
        refine lv_imul hx hb dX9_car_279 ?_
        refine lv_iload hx hb dX9_car_280 (lv_at hl 3 rfl) ?_
        refine lv_iadd hx hb dX9_car_282 ?_
        obtain ⟨v33, hf⟩ := ldI_e hf
        refine ra_42 E hW v33 dX9_car_283 ?_
        refine lv_i2l hx hb dX9_car_284 rfl ?_
        refine lv_ladd hx hb dX9_car_285 ?_
        obtain ⟨v35, hf⟩ := ixr_e hf
        refine rs_55 E hW v35 dX9_car_286 (fun H locs hW => ?_)
        exact w_X9_car_287 E (f_X9_car_231 n) ih _ _ _ _ _ _ _ hf hW (lv_sub hl [0, 1, 2, 3] rfl)
set_option maxHeartbeats 4000000 in
set_option maxRecDepth 100000 in
theorem w_X9_car_108 {p : Program} {l : Launch} {e : Env} {s : State} {m : MethodId} {args : Array Value} {below : List Frame} {meth : Method} {c : Code} {X : XT} {B : Nat} {cs : CS} {o : Nat → Int64} {r : Int32} {S9 : MS} (E : Ev X B p s m args meth c RX9 cX9_car 8 (some .int)) : ∀ (ms : MS) (v1 : Int32) (v2 : Int32) (v3 : Int32) (v4 : Int32) (s1 : Int32) (H : Heap) (locs : List Loc) (ls : Array Slot), f_X9_car_108 ms v1 v2 v3 v4 s1 = some (r, S9) → Ws X B s.heap H locs (cs, ms, o) → lv_has ls 8 [(0, .ref (X.1 7)), (1, .int v1), (2, .int v2), (3, .int v3), (4, .int v4)] → W p l e rm_X9_car s m args below meth c H locs 0 0 (MQ below (QI X B r (cs, S9, o)) args s 0 0 (Ab B)) (F0 m 108 ls [.int s1, .ref (X.1 7)]) := by
  obtain ⟨hx, hb, hml, hown, hts, -⟩ := id E
  intro ms v1 v2 v3 v4 s1 H locs ls hf hW hl
  unfold f_X9_car_108 at hf
  refine lv_iconst (v := (1 : Int32)) hx hb dX9_car_108 (by decide) ?_
  obtain ⟨r8, ms7, hc, hf⟩ := b2_e hf
  refine callVI (As := [.int _, .int _]) (rest := []) E hW (c_X9_may l hc) lk_X9_151 rcv_X9 (Nat.le_of_ble_eq_true rfl) (Nat.le_of_ble_eq_true rfl) (Nat.le_of_ble_eq_true rfl) (Nat.le_of_ble_eq_true rfl) hl.1 (Nat.le_of_ble_eq_true rfl) dX9_car_109 (fun H locs hW => ?_)
  refine lv_if_ne (tgt := 117) hx hb dX9_car_112 (by decide) (fun h9 => ?_) (fun h9 => ?_)
  · replace hf := ite_f h9 hf
    refine lv_aload_n hx hb dX9_car_117 rfl (lv_at hl 0 rfl) ?_
    refine rg_X9_261 E hW dX9_car_118 ?_
    refine lv_bipush (v := (40 : Int32)) hx hb dX9_car_121 (by decide) ?_
    refine lv_icmp_ne (tgt := 128) hx hb dX9_car_123 (by decide) (fun h10 => ?_) (fun h10 => ?_)
    · replace hf := ite_f h10 hf
      refine lv_aload_n hx hb dX9_car_128 rfl (lv_at hl 0 rfl) ?_
      refine rg_X9_261 E hW dX9_car_129 ?_
      refine lv_istore (lv' := [_, _, _, _, _, _]) hx hb dX9_car_132 hl (by decide) rfl (fun ls hl => ?_)
      refine lv_aload_n hx hb dX9_car_134 rfl (lv_at hl 1 rfl) ?_
      refine rg_X9_73 E hW dX9_car_135 ?_
      refine lv_iload hx hb dX9_car_138 (lv_at hl 0 rfl) ?_
      refine lv_iload_n hx hb dX9_car_140 rfl (lv_at hl 2 rfl) ?_
      obtain ⟨v11, hf⟩ := ixr_e hf
      refine rs_46 E hW v11 dX9_car_141 (fun H locs hW => ?_)
      refine lv_aload_n hx hb dX9_car_142 rfl (lv_at hl 1 rfl) ?_
      refine rg_X9_76 E hW dX9_car_143 ?_
      refine lv_iload hx hb dX9_car_146 (lv_at hl 0 rfl) ?_
      refine lv_iload_n hx hb dX9_car_148 rfl (lv_at hl 3 rfl) ?_
      obtain ⟨v12, hf⟩ := ixr_e hf
      refine rs_47 E hW v12 dX9_car_149 (fun H locs hW => ?_)
      refine lv_aload_n hx hb dX9_car_150 rfl (lv_at hl 1 rfl) ?_
      refine rg_X9_79 E hW dX9_car_151 ?_
      refine lv_iload hx hb dX9_car_154 (lv_at hl 0 rfl) ?_
      refine lv_iload_n hx hb dX9_car_156 rfl (lv_at hl 4 rfl) ?_
      obtain ⟨v13, hf⟩ := ixr_e hf
      refine rs_48 E hW v13 dX9_car_157 (fun H locs hW => ?_)
      refine lv_aload_n hx hb dX9_car_158 rfl (lv_at hl 1 rfl) ?_
      refine rg_X9_82 E hW dX9_car_159 ?_
      refine lv_iload hx hb dX9_car_162 (lv_at hl 0 rfl) ?_
      refine lv_aload_n hx hb dX9_car_164 rfl (lv_at hl 1 rfl) ?_
      refine rg_X9_46 E hW dX9_car_165 ?_
      refine lv_iload_n hx hb dX9_car_168 rfl (lv_at hl 2 rfl) ?_
      obtain ⟨v14, hf⟩ := ldI_e hf
      refine ra_37 E hW v14 dX9_car_169 ?_
      obtain ⟨v16, hf⟩ := ixr_e hf
      refine rs_49 E hW v16 dX9_car_170 (fun H locs hW => ?_)
      refine lv_aload_n hx hb dX9_car_171 rfl (lv_at hl 1 rfl) ?_
      refine rg_X9_85 E hW dX9_car_172 ?_
      refine lv_iload hx hb dX9_car_175 (lv_at hl 0 rfl) ?_
      refine lv_iconst (v := (1 : Int32)) hx hb dX9_car_177 (by decide) ?_
      refine lv_aload_n hx hb dX9_car_178 rfl (lv_at hl 1 rfl) ?_
      refine rg_X9_46 E hW dX9_car_179 ?_
      refine lv_iload_n hx hb dX9_car_182 rfl (lv_at hl 2 rfl) ?_
      obtain ⟨v17, hf⟩ := ldI_e hf
      refine ra_37 E hW v17 dX9_car_183 ?_
      refine lv_ishl hx hb dX9_car_184 ?_
      refine lv_iconst (v := (1 : Int32)) hx hb dX9_car_185 (by decide) ?_
      refine lv_isub hx hb dX9_car_186 ?_
      refine lv_iload hx hb dX9_car_187 (lv_at hl 5 rfl) ?_
      refine lv_iconst (v := (-1 : Int32)) hx hb dX9_car_189 (by decide) ?_
      refine lv_ixor hx hb dX9_car_190 ?_
      refine lv_iand hx hb dX9_car_191 ?_
      obtain ⟨v19, hf⟩ := ixr_e hf
      refine rs_50 E hW v19 dX9_car_192 (fun H locs hW => ?_)
      refine lv_aload_n hx hb dX9_car_193 rfl (lv_at hl 1 rfl) ?_
      refine rg_X9_88 E hW dX9_car_194 ?_
      refine lv_iload hx hb dX9_car_197 (lv_at hl 0 rfl) ?_
      refine lv_aload_n hx hb dX9_car_199 rfl (lv_at hl 1 rfl) ?_
      refine rg_X9_248 E hW dX9_car_200 ?_
      obtain ⟨v20, hf⟩ := ixr_e hf
      refine rs_51 E hW v20 dX9_car_203 (fun H locs hW => ?_)
      refine lv_aload_n hx hb dX9_car_204 rfl (lv_at hl 1 rfl) ?_
      refine rg_X9_91 E hW dX9_car_205 ?_
      refine lv_iload hx hb dX9_car_208 (lv_at hl 0 rfl) ?_
      refine lv_iconst (v := (0 : Int32)) hx hb dX9_car_210 (by decide) ?_
      obtain ⟨v21, hf⟩ := ixr_e hf
      refine rs_52 E hW v21 dX9_car_211 (fun H locs hW => ?_)
      refine lv_aload_n hx hb dX9_car_212 rfl (lv_at hl 1 rfl) ?_
      refine rg_X9_94 E hW dX9_car_213 ?_
      refine lv_iload hx hb dX9_car_216 (lv_at hl 0 rfl) ?_
      refine lv_iconst (v := (0 : Int32)) hx hb dX9_car_218 (by decide) ?_
      obtain ⟨v22, hf⟩ := ixr_e hf
      refine rs_53 E hW v22 dX9_car_219 (fun H locs hW => ?_)
      refine lv_aload_n hx hb dX9_car_220 rfl (lv_at hl 1 rfl) ?_
      refine rg_X9_97 E hW dX9_car_221 ?_
      refine lv_iload hx hb dX9_car_224 (lv_at hl 0 rfl) ?_
      refine lv_iconst (v := (0 : Int32)) hx hb dX9_car_226 (by decide) ?_
      obtain ⟨v23, hf⟩ := ixr_e hf
      refine rs_54 E hW v23 dX9_car_227 (fun H locs hW => ?_)
      refine lv_iconst (v := (0 : Int32)) hx hb dX9_car_228 (by decide) ?_
      refine lv_istore (lv' := [_, _, _, _, _, _, _]) hx hb dX9_car_229 hl (by decide) rfl (fun ls hl => ?_)
      exact w_X9_car_231 E 1000 _ _ _ _ _ _ _ hf hW (lv_sub hl [2, 3, 1, 0] rfl)
    · replace hf := ite_t h10 hf
      refine lv_iconst (v := (-1 : Int32)) hx hb dX9_car_126 (by decide) ?_
      exact retI E hW (e2M hf) dX9_car_127
  · replace hf := ite_t h9 hf
    refine lv_iconst (v := (0 : Int32)) hx hb dX9_car_115 (by decide) ?_
    exact retI E hW (e2M hf) dX9_car_116
set_option maxHeartbeats 4000000 in
set_option maxRecDepth 100000 in
theorem w_X9_car_107 {p : Program} {l : Launch} {e : Env} {s : State} {m : MethodId} {args : Array Value} {below : List Frame} {meth : Method} {c : Code} {X : XT} {B : Nat} {cs : CS} {o : Nat → Int64} {r : Int32} {S9 : MS} (E : Ev X B p s m args meth c RX9 cX9_car 8 (some .int)) : ∀ (ms : MS) (v1 : Int32) (v2 : Int32) (v3 : Int32) (v4 : Int32) (H : Heap) (locs : List Loc) (ls : Array Slot), f_X9_car_107 ms v1 v2 v3 v4 = some (r, S9) → Ws X B s.heap H locs (cs, ms, o) → lv_has ls 8 [(0, .ref (X.1 7)), (1, .int v1), (2, .int v2), (3, .int v3), (4, .int v4)] → W p l e rm_X9_car s m args below meth c H locs 0 0 (MQ below (QI X B r (cs, S9, o)) args s 0 0 (Ab B)) (F0 m 107 ls [.ref (X.1 7)]) := by
  obtain ⟨hx, hb, hml, hown, hts, -⟩ := id E
  intro ms v1 v2 v3 v4 H locs ls hf hW hl
  unfold f_X9_car_107 at hf
  refine lv_iconst (v := (0 : Int32)) hx hb dX9_car_107 (by decide) ?_
  exact w_X9_car_108 E _ _ _ _ _ _ _ _ _ hf hW (lv_sub hl [0, 1, 2, 3, 4] rfl)
set_option maxHeartbeats 4000000 in
set_option maxRecDepth 100000 in
theorem w_X9_car_78 {p : Program} {l : Launch} {e : Env} {s : State} {m : MethodId} {args : Array Value} {below : List Frame} {meth : Method} {c : Code} {X : XT} {B : Nat} {cs : CS} {o : Nat → Int64} {r : Int32} {S9 : MS} (E : Ev X B p s m args meth c RX9 cX9_car 8 (some .int)) : ∀ (ms : MS) (v1 : Int32) (v2 : Int32) (v3 : Int32) (v4 : Int32) (s1 : Int32) (H : Heap) (locs : List Loc) (ls : Array Slot), f_X9_car_78 ms v1 v2 v3 v4 s1 = some (r, S9) → Ws X B s.heap H locs (cs, ms, o) → lv_has ls 8 [(0, .ref (X.1 7)), (1, .int v1), (2, .int v2), (3, .int v3), (4, .int v4)] → W p l e rm_X9_car s m args below meth c H locs 0 0 (MQ below (QI X B r (cs, S9, o)) args s 0 0 (Ab B)) (F0 m 78 ls [.int s1, .ref (X.1 7)]) := by
  obtain ⟨hx, hb, hml, hown, hts, -⟩ := id E
  intro ms v1 v2 v3 v4 s1 H locs ls hf hW hl
  unfold f_X9_car_78 at hf
  refine lv_iconst (v := (1 : Int32)) hx hb dX9_car_78 (by decide) ?_
  obtain ⟨r4, ms3, hc, hf⟩ := b2_e hf
  refine callVI (As := [.int _, .int _]) (rest := []) E hW (c_X9_may l hc) lk_X9_151 rcv_X9 (Nat.le_of_ble_eq_true rfl) (Nat.le_of_ble_eq_true rfl) (Nat.le_of_ble_eq_true rfl) (Nat.le_of_ble_eq_true rfl) hl.1 (Nat.le_of_ble_eq_true rfl) dX9_car_79 (fun H locs hW => ?_)
  refine lv_if_eq (tgt := 115) hx hb dX9_car_82 (by decide) (fun h5 => ?_) (fun h5 => ?_)
  · replace hf := ite_t h5 hf
    refine lv_iconst (v := (0 : Int32)) hx hb dX9_car_115 (by decide) ?_
    exact retI E hW (e2M hf) dX9_car_116
  · replace hf := ite_f h5 hf
    refine lv_aload_n hx hb dX9_car_85 rfl (lv_at hl 0 rfl) ?_
    refine lv_iload hx hb dX9_car_86 (lv_at hl 4 rfl) ?_
    refine lv_if_lt (tgt := 107) hx hb dX9_car_88 (by decide) (fun h6 => ?_) (fun h6 => ?_)
    · replace hf := ite_t h6 hf
      exact w_X9_car_107 E _ _ _ _ _ _ _ _ hf hW (lv_sub hl [0, 1, 2, 3, 4] rfl)
    · replace hf := ite_f h6 hf
      refine lv_iload hx hb dX9_car_91 (lv_at hl 4 rfl) ?_
      refine lv_aload_n hx hb dX9_car_93 rfl (lv_at hl 0 rfl) ?_
      refine rg_X9_46 E hW dX9_car_94 ?_
      refine lv_iload_n hx hb dX9_car_97 rfl (lv_at hl 1 rfl) ?_
      obtain ⟨v36, hf⟩ := ldI_e hf
      refine ra_37 E hW v36 dX9_car_98 ?_
      refine lv_ishr hx hb dX9_car_99 ?_
      refine lv_if_ne (tgt := 107) hx hb dX9_car_100 (by decide) (fun h38 => ?_) (fun h38 => ?_)
      · replace hf := ite_f h38 hf
        exact w_X9_car_107 E _ _ _ _ _ _ _ _ hf hW (lv_sub hl [0, 1, 2, 3, 4] rfl)
      · replace hf := ite_t h38 hf
        refine lv_iconst (v := (1 : Int32)) hx hb dX9_car_103 (by decide) ?_
        refine lv_goto (tgt := 108) hx hb dX9_car_104 (by decide) ?_
        exact w_X9_car_108 E _ _ _ _ _ _ _ _ _ hf hW (lv_sub hl [0, 1, 2, 3, 4] rfl)
set_option maxHeartbeats 4000000 in
set_option maxRecDepth 100000 in
theorem w_X9_car_77 {p : Program} {l : Launch} {e : Env} {s : State} {m : MethodId} {args : Array Value} {below : List Frame} {meth : Method} {c : Code} {X : XT} {B : Nat} {cs : CS} {o : Nat → Int64} {r : Int32} {S9 : MS} (E : Ev X B p s m args meth c RX9 cX9_car 8 (some .int)) : ∀ (ms : MS) (v1 : Int32) (v2 : Int32) (v3 : Int32) (v4 : Int32) (H : Heap) (locs : List Loc) (ls : Array Slot), f_X9_car_77 ms v1 v2 v3 v4 = some (r, S9) → Ws X B s.heap H locs (cs, ms, o) → lv_has ls 8 [(0, .ref (X.1 7)), (1, .int v1), (2, .int v2), (3, .int v3), (4, .int v4)] → W p l e rm_X9_car s m args below meth c H locs 0 0 (MQ below (QI X B r (cs, S9, o)) args s 0 0 (Ab B)) (F0 m 77 ls [.ref (X.1 7)]) := by
  obtain ⟨hx, hb, hml, hown, hts, -⟩ := id E
  intro ms v1 v2 v3 v4 H locs ls hf hW hl
  unfold f_X9_car_77 at hf
  refine lv_iconst (v := (0 : Int32)) hx hb dX9_car_77 (by decide) ?_
  exact w_X9_car_78 E _ _ _ _ _ _ _ _ _ hf hW (lv_sub hl [0, 1, 2, 3, 4] rfl)
set_option maxHeartbeats 4000000 in
set_option maxRecDepth 100000 in
theorem w_X9_car_69 {p : Program} {l : Launch} {e : Env} {s : State} {m : MethodId} {args : Array Value} {below : List Frame} {meth : Method} {c : Code} {X : XT} {B : Nat} {cs : CS} {o : Nat → Int64} {r : Int32} {S9 : MS} (E : Ev X B p s m args meth c RX9 cX9_car 8 (some .int)) : ∀ (ms : MS) (v1 : Int32) (v2 : Int32) (v3 : Int32) (v4 : Int32) (s2 : Int32) (H : Heap) (locs : List Loc) (ls : Array Slot), f_X9_car_69 ms v1 v2 v3 v4 s2 = some (r, S9) → Ws X B s.heap H locs (cs, ms, o) → lv_has ls 8 [(0, .ref (X.1 7)), (1, .int v1), (2, .int v2), (3, .int v3), (4, .int v4)] → W p l e rm_X9_car s m args below meth c H locs 0 0 (MQ below (QI X B r (cs, S9, o)) args s 0 0 (Ab B)) (F0 m 69 ls [.int s2, .ref (X.1 37), .ref (X.1 7)]) := by
  obtain ⟨hx, hb, hml, hown, hts, -⟩ := id E
  intro ms v1 v2 v3 v4 s2 H locs ls hf hW hl
  unfold f_X9_car_69 at hf
  obtain ⟨v40, hf⟩ := ldI_e hf
  refine ra_37 E hW v40 dX9_car_69 ?_
  refine lv_if_le (tgt := 77) hx hb dX9_car_70 (by decide) (fun h42 => ?_) (fun h42 => ?_)
  · replace hf := ite_t h42 hf
    exact w_X9_car_77 E _ _ _ _ _ _ _ _ hf hW (lv_sub hl [0, 1, 2, 3, 4] rfl)
  · replace hf := ite_f h42 hf
    refine lv_iconst (v := (1 : Int32)) hx hb dX9_car_73 (by decide) ?_
    refine lv_goto (tgt := 78) hx hb dX9_car_74 (by decide) ?_
    exact w_X9_car_78 E _ _ _ _ _ _ _ _ _ hf hW (lv_sub hl [0, 1, 2, 3, 4] rfl)
set_option maxHeartbeats 4000000 in
set_option maxRecDepth 100000 in
theorem w_X9_car_64 {p : Program} {l : Launch} {e : Env} {s : State} {m : MethodId} {args : Array Value} {below : List Frame} {meth : Method} {c : Code} {X : XT} {B : Nat} {cs : CS} {o : Nat → Int64} {r : Int32} {S9 : MS} (E : Ev X B p s m args meth c RX9 cX9_car 8 (some .int)) : ∀ (ms : MS) (v1 : Int32) (v2 : Int32) (v3 : Int32) (v4 : Int32) (H : Heap) (locs : List Loc) (ls : Array Slot), f_X9_car_64 ms v1 v2 v3 v4 = some (r, S9) → Ws X B s.heap H locs (cs, ms, o) → lv_has ls 8 [(0, .ref (X.1 7)), (1, .int v1), (2, .int v2), (3, .int v3), (4, .int v4)] → W p l e rm_X9_car s m args below meth c H locs 0 0 (MQ below (QI X B r (cs, S9, o)) args s 0 0 (Ab B)) (F0 m 64 ls [.ref (X.1 37), .ref (X.1 7)]) := by
  obtain ⟨hx, hb, hml, hown, hts, -⟩ := id E
  intro ms v1 v2 v3 v4 H locs ls hf hW hl
  unfold f_X9_car_64 at hf
  refine lv_iconst (v := (0 : Int32)) hx hb dX9_car_64 (by decide) ?_
  refine lv_goto (tgt := 69) hx hb dX9_car_65 (by decide) ?_
  exact w_X9_car_69 E _ _ _ _ _ _ _ _ _ hf hW (lv_sub hl [0, 1, 2, 3, 4] rfl)
set_option maxHeartbeats 4000000 in
set_option maxRecDepth 100000 in
theorem w_X9_car_42 {p : Program} {l : Launch} {e : Env} {s : State} {m : MethodId} {args : Array Value} {below : List Frame} {meth : Method} {c : Code} {X : XT} {B : Nat} {cs : CS} {o : Nat → Int64} {r : Int32} {S9 : MS} (E : Ev X B p s m args meth c RX9 cX9_car 8 (some .int)) : ∀ (ms : MS) (v1 : Int32) (v2 : Int32) (v3 : Int32) (v4 : Int32) (s0 : Int32) (H : Heap) (locs : List Loc) (ls : Array Slot), f_X9_car_42 ms v1 v2 v3 v4 s0 = some (r, S9) → Ws X B s.heap H locs (cs, ms, o) → lv_has ls 8 [(0, .ref (X.1 7)), (1, .int v1), (2, .int v2), (3, .int v3), (4, .int v4)] → W p l e rm_X9_car s m args below meth c H locs 0 0 (MQ below (QI X B r (cs, S9, o)) args s 0 0 (Ab B)) (F0 m 42 ls [.int s0]) := by
  obtain ⟨hx, hb, hml, hown, hts, -⟩ := id E
  intro ms v1 v2 v3 v4 s0 H locs ls hf hW hl
  unfold f_X9_car_42 at hf
  refine lv_istore (lv' := [_, _, _, _, _, _]) hx hb dX9_car_42 hl (by decide) rfl (fun ls hl => ?_)
  refine lv_aload_n hx hb dX9_car_44 rfl (lv_at hl 1 rfl) ?_
  refine lv_iload hx hb dX9_car_45 (lv_at hl 0 rfl) ?_
  refine lv_if_eq (tgt := 77) hx hb dX9_car_47 (by decide) (fun h2 => ?_) (fun h2 => ?_)
  · replace hf := ite_t h2 hf
    exact w_X9_car_77 E _ _ _ _ _ _ _ _ hf hW (lv_sub hl [1, 2, 3, 4, 5] rfl)
  · replace hf := ite_f h2 hf
    refine lv_aload_n hx hb dX9_car_50 rfl (lv_at hl 1 rfl) ?_
    refine rg_X9_46 E hW dX9_car_51 ?_
    refine lv_iload_n hx hb dX9_car_54 rfl (lv_at hl 2 rfl) ?_
    refine lv_if_lt (tgt := 64) hx hb dX9_car_55 (by decide) (fun h39 => ?_) (fun h39 => ?_)
    · replace hf := ite_t h39 hf
      exact w_X9_car_64 E _ _ _ _ _ _ _ _ hf hW (lv_sub hl [1, 2, 3, 4, 5] rfl)
    · replace hf := ite_f h39 hf
      refine lv_iload_n hx hb dX9_car_58 rfl (lv_at hl 2 rfl) ?_
      refine lv_bipush (v := (7 : Int32)) hx hb dX9_car_59 (by decide) ?_
      refine lv_icmp_le (tgt := 68) hx hb dX9_car_61 (by decide) (fun h43 => ?_) (fun h43 => ?_)
      · replace hf := ite_t h43 hf
        refine lv_iload_n hx hb dX9_car_68 rfl (lv_at hl 2 rfl) ?_
        exact w_X9_car_69 E _ _ _ _ _ _ _ _ _ hf hW (lv_sub hl [1, 2, 3, 4, 5] rfl)
      · replace hf := ite_f h43 hf
        exact w_X9_car_64 E _ _ _ _ _ _ _ _ hf hW (lv_sub hl [1, 2, 3, 4, 5] rfl)
set_option maxHeartbeats 4000000 in
set_option maxRecDepth 100000 in
theorem w_X9_car_41 {p : Program} {l : Launch} {e : Env} {s : State} {m : MethodId} {args : Array Value} {below : List Frame} {meth : Method} {c : Code} {X : XT} {B : Nat} {cs : CS} {o : Nat → Int64} {r : Int32} {S9 : MS} (E : Ev X B p s m args meth c RX9 cX9_car 8 (some .int)) : ∀ (ms : MS) (v1 : Int32) (v2 : Int32) (v3 : Int32) (v4 : Int32) (H : Heap) (locs : List Loc) (ls : Array Slot), f_X9_car_41 ms v1 v2 v3 v4 = some (r, S9) → Ws X B s.heap H locs (cs, ms, o) → lv_has ls 8 [(0, .ref (X.1 7)), (1, .int v1), (2, .int v2), (3, .int v3), (4, .int v4)] → W p l e rm_X9_car s m args below meth c H locs 0 0 (MQ below (QI X B r (cs, S9, o)) args s 0 0 (Ab B)) (F0 m 41 ls []) := by
  obtain ⟨hx, hb, hml, hown, hts, -⟩ := id E
  intro ms v1 v2 v3 v4 H locs ls hf hW hl
  unfold f_X9_car_41 at hf
  refine lv_iconst (v := (0 : Int32)) hx hb dX9_car_41 (by decide) ?_
  exact w_X9_car_42 E _ _ _ _ _ _ _ _ _ hf hW (lv_sub hl [0, 1, 2, 3, 4] rfl)
set_option maxHeartbeats 4000000 in
set_option maxRecDepth 100000 in
theorem c_X9_car (l : Launch) {X : XT} {B : Nat} {cs : CS} {ms : MS} {o : Nat → Int64} {v1 : Int32} {v2 : Int32} {v3 : Int32} {v4 : Int32} {r : Int32} {S9 : MS} (hf : f_X9_car ms v1 v2 v3 v4 = some (r, S9)) : Met l yX9_car (.code yX9_car cX9_car 8 (some .int) :: BIG) rm_X9_car (Pre X B (cs, ms, o) [.ref (X.1 7), .int v1, .int v2, .int v3, .int v4]) (QI X B r (cs, S9, o)) 0 0 (Ab B) := by
  refine entry (by decide +kernel) rfl (Nat.le_of_ble_eq_true rfl) (fun p e s m below meth c ls E hW hl => ?_)
  obtain ⟨hx, hb, hml, hown, hts, -⟩ := id E
  replace hl : lv_has ls 8 [(0, .ref (X.1 7)), (1, .int v1), (2, .int v2), (3, .int v3), (4, .int v4)] := hl
  unfold f_X9_car at hf
  refine lv_aload_n hx hb dX9_car_0 rfl (lv_at hl 0 rfl) ?_
  refine lv_iconst (v := (0 : Int32)) hx hb dX9_car_1 (by decide) ?_
  refine rp_X9_1 E hW dX9_car_2 (fun H locs hW => ?_)
  refine lv_iload_n hx hb dX9_car_5 rfl (lv_at hl 1 rfl) ?_
  refine lv_if_lt (tgt := 41) hx hb dX9_car_6 (by decide) (fun h1 => ?_) (fun h1 => ?_)
  · replace hf := ite_t h1 hf
    exact w_X9_car_41 E _ _ _ _ _ _ _ _ hf hW (lv_sub hl [0, 1, 2, 3, 4] rfl)
  · replace hf := ite_f h1 hf
    refine lv_iload_n hx hb dX9_car_9 rfl (lv_at hl 1 rfl) ?_
    refine lv_bipush (v := (8 : Int32)) hx hb dX9_car_10 (by decide) ?_
    refine lv_icmp_ge (tgt := 41) hx hb dX9_car_12 (by decide) (fun h44 => ?_) (fun h44 => ?_)
    · replace hf := ite_t h44 hf
      exact w_X9_car_41 E _ _ _ _ _ _ _ _ hf hW (lv_sub hl [0, 1, 2, 3, 4] rfl)
    · replace hf := ite_f h44 hf
      refine lv_iload_n hx hb dX9_car_15 rfl (lv_at hl 2 rfl) ?_
      refine lv_if_lt (tgt := 41) hx hb dX9_car_16 (by decide) (fun h45 => ?_) (fun h45 => ?_)
      · replace hf := ite_t h45 hf
        exact w_X9_car_41 E _ _ _ _ _ _ _ _ hf hW (lv_sub hl [0, 1, 2, 3, 4] rfl)
      · replace hf := ite_f h45 hf
        refine lv_iload_n hx hb dX9_car_19 rfl (lv_at hl 2 rfl) ?_
        refine lv_sipush (v := (9999 : Int32)) hx hb dX9_car_20 (by decide) ?_
        refine lv_icmp_gt (tgt := 41) hx hb dX9_car_23 (by decide) (fun h46 => ?_) (fun h46 => ?_)
        · replace hf := ite_t h46 hf
          exact w_X9_car_41 E _ _ _ _ _ _ _ _ hf hW (lv_sub hl [0, 1, 2, 3, 4] rfl)
        · replace hf := ite_f h46 hf
          refine lv_iload_n hx hb dX9_car_26 rfl (lv_at hl 3 rfl) ?_
          refine lv_if_lt (tgt := 41) hx hb dX9_car_27 (by decide) (fun h47 => ?_) (fun h47 => ?_)
          · replace hf := ite_t h47 hf
            exact w_X9_car_41 E _ _ _ _ _ _ _ _ hf hW (lv_sub hl [0, 1, 2, 3, 4] rfl)
          · replace hf := ite_f h47 hf
            refine lv_iload_n hx hb dX9_car_30 rfl (lv_at hl 3 rfl) ?_
            refine lv_sipush (v := (255 : Int32)) hx hb dX9_car_31 (by decide) ?_
            refine lv_icmp_gt (tgt := 41) hx hb dX9_car_34 (by decide) (fun h48 => ?_) (fun h48 => ?_)
            · replace hf := ite_t h48 hf
              exact w_X9_car_41 E _ _ _ _ _ _ _ _ hf hW (lv_sub hl [0, 1, 2, 3, 4] rfl)
            · replace hf := ite_f h48 hf
              refine lv_iconst (v := (1 : Int32)) hx hb dX9_car_37 (by decide) ?_
              refine lv_goto (tgt := 42) hx hb dX9_car_38 (by decide) ?_
              exact w_X9_car_42 E _ _ _ _ _ _ _ _ _ hf hW (lv_sub hl [0, 1, 2, 3, 4] rfl)
def f_X9_isCar (ms : MS) (v1 : Int32) : Option (Int32 × MS) := if v1 < 0 then (b2 (f_X9_may ms (0 : Int32) (1 : Int32)) fun r3 ms2 => gd (r3 = 0 ∨ r3 = 1) <| some (r3, ms2)) else (if (mi ms 9) ≤ v1 then (b2 (f_X9_may ms (0 : Int32) (1 : Int32)) fun r7 ms6 => gd (r7 = 0 ∨ r7 = 1) <| some (r7, ms6)) else (b2 (f_X9_may ms (1 : Int32) (1 : Int32)) fun r10 ms9 => gd (r10 = 0 ∨ r10 = 1) <| some (r10, ms9)))
def rm_X9_isCar : Room := { frames := 1, cells := 0, slots := 0, locals := 22 }
set_option maxHeartbeats 4000000 in
set_option maxRecDepth 100000 in
theorem c_X9_isCar (l : Launch) {X : XT} {B : Nat} {cs : CS} {ms : MS} {o : Nat → Int64} {v1 : Int32} {r : Int32} {S9 : MS} (hf : f_X9_isCar ms v1 = some (r, S9)) : Met l yX9_isCar (.code yX9_isCar cX9_isCar 2 (some .boolean) :: BIG) rm_X9_isCar (Pre X B (cs, ms, o) [.ref (X.1 7), .int v1]) (QI X B r (cs, S9, o)) 0 0 (Ab B) := by
  refine entry (by decide +kernel) rfl (Nat.le_of_ble_eq_true rfl) (fun p e s m below meth c ls E hW hl => ?_)
  obtain ⟨hx, hb, hml, hown, hts, -⟩ := id E
  replace hl : lv_has ls 2 [(0, .ref (X.1 7)), (1, .int v1)] := hl
  unfold f_X9_isCar at hf
  refine lv_aload_n hx hb dX9_isCar_0 rfl (lv_at hl 0 rfl) ?_
  refine lv_iload_n hx hb dX9_isCar_1 rfl (lv_at hl 1 rfl) ?_
  refine lv_if_lt (tgt := 17) hx hb dX9_isCar_2 (by decide) (fun h1 => ?_) (fun h1 => ?_)
  · replace hf := ite_t h1 hf
    refine lv_iconst (v := (0 : Int32)) hx hb dX9_isCar_17 (by decide) ?_
    refine lv_iconst (v := (1 : Int32)) hx hb dX9_isCar_18 (by decide) ?_
    obtain ⟨r3, ms2, hc, hf⟩ := b2_e hf
    refine callVI (As := [.int _, .int _]) (rest := []) E hW (c_X9_may l hc) lk_X9_151 rcv_X9 (Nat.le_of_ble_eq_true rfl) (Nat.le_of_ble_eq_true rfl) (Nat.le_of_ble_eq_true rfl) (Nat.le_of_ble_eq_true rfl) hl.1 (Nat.le_of_ble_eq_true rfl) dX9_isCar_19 (fun H locs hW => ?_)
    obtain ⟨v4, hf⟩ := gd_e hf
    exact retZ E hW v4 (e2M hf) dX9_isCar_22
  · replace hf := ite_f h1 hf
    refine lv_iload_n hx hb dX9_isCar_5 rfl (lv_at hl 1 rfl) ?_
    refine lv_aload_n hx hb dX9_isCar_6 rfl (lv_at hl 0 rfl) ?_
    refine rg_X9_261 E hW dX9_isCar_7 ?_
    refine lv_icmp_ge (tgt := 17) hx hb dX9_isCar_10 (by decide) (fun h5 => ?_) (fun h5 => ?_)
    · replace hf := ite_t h5 hf
      refine lv_iconst (v := (0 : Int32)) hx hb dX9_isCar_17 (by decide) ?_
      refine lv_iconst (v := (1 : Int32)) hx hb dX9_isCar_18 (by decide) ?_
      obtain ⟨r7, ms6, hc, hf⟩ := b2_e hf
      refine callVI (As := [.int _, .int _]) (rest := []) E hW (c_X9_may l hc) lk_X9_151 rcv_X9 (Nat.le_of_ble_eq_true rfl) (Nat.le_of_ble_eq_true rfl) (Nat.le_of_ble_eq_true rfl) (Nat.le_of_ble_eq_true rfl) hl.1 (Nat.le_of_ble_eq_true rfl) dX9_isCar_19 (fun H locs hW => ?_)
      obtain ⟨v8, hf⟩ := gd_e hf
      exact retZ E hW v8 (e2M hf) dX9_isCar_22
    · replace hf := ite_f h5 hf
      refine lv_iconst (v := (1 : Int32)) hx hb dX9_isCar_13 (by decide) ?_
      refine lv_goto (tgt := 18) hx hb dX9_isCar_14 (by decide) ?_
      refine lv_iconst (v := (1 : Int32)) hx hb dX9_isCar_18 (by decide) ?_
      obtain ⟨r10, ms9, hc, hf⟩ := b2_e hf
      refine callVI (As := [.int _, .int _]) (rest := []) E hW (c_X9_may l hc) lk_X9_151 rcv_X9 (Nat.le_of_ble_eq_true rfl) (Nat.le_of_ble_eq_true rfl) (Nat.le_of_ble_eq_true rfl) (Nat.le_of_ble_eq_true rfl) hl.1 (Nat.le_of_ble_eq_true rfl) dX9_isCar_19 (fun H locs hW => ?_)
      obtain ⟨v11, hf⟩ := gd_e hf
      exact retZ E hW v11 (e2M hf) dX9_isCar_22
def f_X9_about_29 (ms : MS) (v1 : Int32) (v2 : Int32) (s1 : Int32) : Option (Int32 × MS) := b2 (f_X9_may ms s1 (2 : Int32)) fun r6 ms5 => if r6 = 0 then (some ((0 : Int32), ms5)) else (if v2 = (0 : Int32) then ((ldI (ma ms5 46) 40 v1).bind fun q10 => some (q10, ms5)) else (if v2 = (1 : Int32) then ((ldI (ma ms5 47) 40 v1).bind fun q13 => some (q13, ms5)) else (if v2 = (2 : Int32) then ((ldI (ma ms5 48) 40 v1).bind fun q16 => some (q16, ms5)) else (if v2 = (3 : Int32) then ((ldI (ma ms5 50) 40 v1).bind fun q19 => some (q19, ms5)) else (if v2 = (4 : Int32) then ((ldI (ma ms5 52) 40 v1).bind fun q22 => if q22 = 0 then (some ((0 : Int32), ms5)) else (some ((1 : Int32), ms5))) else (if v2 = (5 : Int32) then ((ldI (ma ms5 53) 40 v1).bind fun q26 => if q26 = 0 then (some ((0 : Int32), ms5)) else (some ((1 : Int32), ms5))) else (if v2 = (6 : Int32) then ((ldI (ma ms5 54) 40 v1).bind fun q30 => if q30 = 0 then (some ((0 : Int32), ms5)) else (some ((1 : Int32), ms5))) else ((ldI (ma ms5 51) 40 v1).bind fun q33 => some (q33, ms5)))))))))
def f_X9_about_28 (ms : MS) (v1 : Int32) (v2 : Int32) : Option (Int32 × MS) := f_X9_about_29 ms v1 v2 (0 : Int32)
def f_X9_about (ms : MS) (v1 : Int32) (v2 : Int32) : Option (Int32 × MS) := b2 (f_X9_isCar (miU ms 0 (0 : Int32)) v1) fun r2 ms1 => if r2 = 0 then (some ((0 : Int32), ms1)) else (if v2 < 0 then (f_X9_about_28 ms1 v1 v2) else (if (7 : Int32) < v2 then (f_X9_about_28 ms1 v1 v2) else (f_X9_about_29 ms1 v1 v2 (1 : Int32))))
def rm_X9_about : Room := { frames := 2, cells := 0, slots := 0, locals := 43 }
set_option maxHeartbeats 4000000 in
set_option maxRecDepth 100000 in
theorem w_X9_about_29 {p : Program} {l : Launch} {e : Env} {s : State} {m : MethodId} {args : Array Value} {below : List Frame} {meth : Method} {c : Code} {X : XT} {B : Nat} {cs : CS} {o : Nat → Int64} {r : Int32} {S9 : MS} (E : Ev X B p s m args meth c RX9 cX9_about 3 (some .int)) : ∀ (ms : MS) (v1 : Int32) (v2 : Int32) (s1 : Int32) (H : Heap) (locs : List Loc) (ls : Array Slot), f_X9_about_29 ms v1 v2 s1 = some (r, S9) → Ws X B s.heap H locs (cs, ms, o) → lv_has ls 3 [(0, .ref (X.1 7)), (1, .int v1), (2, .int v2)] → W p l e rm_X9_about s m args below meth c H locs 0 0 (MQ below (QI X B r (cs, S9, o)) args s 0 0 (Ab B)) (F0 m 29 ls [.int s1, .ref (X.1 7)]) := by
  obtain ⟨hx, hb, hml, hown, hts, -⟩ := id E
  intro ms v1 v2 s1 H locs ls hf hW hl
  unfold f_X9_about_29 at hf
  refine lv_iconst (v := (2 : Int32)) hx hb dX9_about_29 (by decide) ?_
  obtain ⟨r6, ms5, hc, hf⟩ := b2_e hf
  refine callVI (As := [.int _, .int _]) (rest := []) E hW (c_X9_may l hc) lk_X9_151 rcv_X9 (Nat.le_of_ble_eq_true rfl) (Nat.le_of_ble_eq_true rfl) (Nat.le_of_ble_eq_true rfl) (Nat.le_of_ble_eq_true rfl) hl.1 (Nat.le_of_ble_eq_true rfl) dX9_about_30 (fun H locs hW => ?_)
  refine lv_if_ne (tgt := 38) hx hb dX9_about_33 (by decide) (fun h7 => ?_) (fun h7 => ?_)
  · replace hf := ite_f h7 hf
    refine lv_iload_n hx hb dX9_about_38 rfl (lv_at hl 2 rfl) ?_
    by_cases h8 : v2 = (0 : Int32)
    · replace hf := ite_t h8 hf
      refine lv_tableIn (tgt := 80) hx hb dX9_about_39 (by rw [h8]; decide) (by rw [h8]; decide) (by rw [h8]; rfl) (by decide) ?_
      refine lv_aload_n hx hb dX9_about_80 rfl (lv_at hl 0 rfl) ?_
      refine rg_X9_73 E hW dX9_about_81 ?_
      refine lv_iload_n hx hb dX9_about_84 rfl (lv_at hl 1 rfl) ?_
      obtain ⟨v9, hf⟩ := ldI_e hf
      refine ra_46 E hW v9 dX9_about_85 ?_
      exact retI E hW (e2M hf) dX9_about_86
    · replace hf := ite_f h8 hf
      by_cases h11 : v2 = (1 : Int32)
      · replace hf := ite_t h11 hf
        refine lv_tableIn (tgt := 87) hx hb dX9_about_39 (by rw [h11]; decide) (by rw [h11]; decide) (by rw [h11]; rfl) (by decide) ?_
        refine lv_aload_n hx hb dX9_about_87 rfl (lv_at hl 0 rfl) ?_
        refine rg_X9_76 E hW dX9_about_88 ?_
        refine lv_iload_n hx hb dX9_about_91 rfl (lv_at hl 1 rfl) ?_
        obtain ⟨v12, hf⟩ := ldI_e hf
        refine ra_47 E hW v12 dX9_about_92 ?_
        exact retI E hW (e2M hf) dX9_about_93
      · replace hf := ite_f h11 hf
        by_cases h14 : v2 = (2 : Int32)
        · replace hf := ite_t h14 hf
          refine lv_tableIn (tgt := 94) hx hb dX9_about_39 (by rw [h14]; decide) (by rw [h14]; decide) (by rw [h14]; rfl) (by decide) ?_
          refine lv_aload_n hx hb dX9_about_94 rfl (lv_at hl 0 rfl) ?_
          refine rg_X9_79 E hW dX9_about_95 ?_
          refine lv_iload_n hx hb dX9_about_98 rfl (lv_at hl 1 rfl) ?_
          obtain ⟨v15, hf⟩ := ldI_e hf
          refine ra_48 E hW v15 dX9_about_99 ?_
          exact retI E hW (e2M hf) dX9_about_100
        · replace hf := ite_f h14 hf
          by_cases h17 : v2 = (3 : Int32)
          · replace hf := ite_t h17 hf
            refine lv_tableIn (tgt := 101) hx hb dX9_about_39 (by rw [h17]; decide) (by rw [h17]; decide) (by rw [h17]; rfl) (by decide) ?_
            refine lv_aload_n hx hb dX9_about_101 rfl (lv_at hl 0 rfl) ?_
            refine rg_X9_85 E hW dX9_about_102 ?_
            refine lv_iload_n hx hb dX9_about_105 rfl (lv_at hl 1 rfl) ?_
            obtain ⟨v18, hf⟩ := ldI_e hf
            refine ra_50 E hW v18 dX9_about_106 ?_
            exact retI E hW (e2M hf) dX9_about_107
          · replace hf := ite_f h17 hf
            by_cases h20 : v2 = (4 : Int32)
            · replace hf := ite_t h20 hf
              refine lv_tableIn (tgt := 108) hx hb dX9_about_39 (by rw [h20]; decide) (by rw [h20]; decide) (by rw [h20]; rfl) (by decide) ?_
              refine lv_aload_n hx hb dX9_about_108 rfl (lv_at hl 0 rfl) ?_
              refine rg_X9_91 E hW dX9_about_109 ?_
              refine lv_iload_n hx hb dX9_about_112 rfl (lv_at hl 1 rfl) ?_
              obtain ⟨v21, hf⟩ := ldI_e hf
              refine ra_52 E hW v21 dX9_about_113 ?_
              refine lv_if_eq (tgt := 121) hx hb dX9_about_114 (by decide) (fun h23 => ?_) (fun h23 => ?_)
              · replace hf := ite_t h23 hf
                refine lv_iconst (v := (0 : Int32)) hx hb dX9_about_121 (by decide) ?_
                exact retI E hW (e2M hf) dX9_about_122
              · replace hf := ite_f h23 hf
                refine lv_iconst (v := (1 : Int32)) hx hb dX9_about_117 (by decide) ?_
                refine lv_goto (tgt := 122) hx hb dX9_about_118 (by decide) ?_
                exact retI E hW (e2M hf) dX9_about_122
            · replace hf := ite_f h20 hf
              by_cases h24 : v2 = (5 : Int32)
              · replace hf := ite_t h24 hf
                refine lv_tableIn (tgt := 123) hx hb dX9_about_39 (by rw [h24]; decide) (by rw [h24]; decide) (by rw [h24]; rfl) (by decide) ?_
                refine lv_aload_n hx hb dX9_about_123 rfl (lv_at hl 0 rfl) ?_
                refine rg_X9_94 E hW dX9_about_124 ?_
                refine lv_iload_n hx hb dX9_about_127 rfl (lv_at hl 1 rfl) ?_
                obtain ⟨v25, hf⟩ := ldI_e hf
                refine ra_53 E hW v25 dX9_about_128 ?_
                refine lv_if_eq (tgt := 136) hx hb dX9_about_129 (by decide) (fun h27 => ?_) (fun h27 => ?_)
                · replace hf := ite_t h27 hf
                  refine lv_iconst (v := (0 : Int32)) hx hb dX9_about_136 (by decide) ?_
                  exact retI E hW (e2M hf) dX9_about_137
                · replace hf := ite_f h27 hf
                  refine lv_iconst (v := (1 : Int32)) hx hb dX9_about_132 (by decide) ?_
                  refine lv_goto (tgt := 137) hx hb dX9_about_133 (by decide) ?_
                  exact retI E hW (e2M hf) dX9_about_137
              · replace hf := ite_f h24 hf
                by_cases h28 : v2 = (6 : Int32)
                · replace hf := ite_t h28 hf
                  refine lv_tableIn (tgt := 138) hx hb dX9_about_39 (by rw [h28]; decide) (by rw [h28]; decide) (by rw [h28]; rfl) (by decide) ?_
                  refine lv_aload_n hx hb dX9_about_138 rfl (lv_at hl 0 rfl) ?_
                  refine rg_X9_97 E hW dX9_about_139 ?_
                  refine lv_iload_n hx hb dX9_about_142 rfl (lv_at hl 1 rfl) ?_
                  obtain ⟨v29, hf⟩ := ldI_e hf
                  refine ra_54 E hW v29 dX9_about_143 ?_
                  refine lv_if_eq (tgt := 151) hx hb dX9_about_144 (by decide) (fun h31 => ?_) (fun h31 => ?_)
                  · replace hf := ite_t h31 hf
                    refine lv_iconst (v := (0 : Int32)) hx hb dX9_about_151 (by decide) ?_
                    exact retI E hW (e2M hf) dX9_about_152
                  · replace hf := ite_f h31 hf
                    refine lv_iconst (v := (1 : Int32)) hx hb dX9_about_147 (by decide) ?_
                    refine lv_goto (tgt := 152) hx hb dX9_about_148 (by decide) ?_
                    exact retI E hW (e2M hf) dX9_about_152
                · replace hf := ite_f h28 hf
                  have eh8 := lv_neT h8 (a := 0) (by decide)
                  have eh11 := lv_neT h11 (a := 1) (by decide)
                  have eh14 := lv_neT h14 (a := 2) (by decide)
                  have eh17 := lv_neT h17 (a := 3) (by decide)
                  have eh20 := lv_neT h20 (a := 4) (by decide)
                  have eh24 := lv_neT h24 (a := 5) (by decide)
                  have eh28 := lv_neT h28 (a := 6) (by decide)
                  refine lv_tableOut (tgt := 153) hx hb dX9_about_39 (by omega) (by decide) ?_
                  refine lv_aload_n hx hb dX9_about_153 rfl (lv_at hl 0 rfl) ?_
                  refine rg_X9_88 E hW dX9_about_154 ?_
                  refine lv_iload_n hx hb dX9_about_157 rfl (lv_at hl 1 rfl) ?_
                  obtain ⟨v32, hf⟩ := ldI_e hf
                  refine ra_51 E hW v32 dX9_about_158 ?_
                  exact retI E hW (e2M hf) dX9_about_159
  · replace hf := ite_t h7 hf
    refine lv_iconst (v := (0 : Int32)) hx hb dX9_about_36 (by decide) ?_
    exact retI E hW (e2M hf) dX9_about_37
set_option maxHeartbeats 4000000 in
set_option maxRecDepth 100000 in
theorem w_X9_about_28 {p : Program} {l : Launch} {e : Env} {s : State} {m : MethodId} {args : Array Value} {below : List Frame} {meth : Method} {c : Code} {X : XT} {B : Nat} {cs : CS} {o : Nat → Int64} {r : Int32} {S9 : MS} (E : Ev X B p s m args meth c RX9 cX9_about 3 (some .int)) : ∀ (ms : MS) (v1 : Int32) (v2 : Int32) (H : Heap) (locs : List Loc) (ls : Array Slot), f_X9_about_28 ms v1 v2 = some (r, S9) → Ws X B s.heap H locs (cs, ms, o) → lv_has ls 3 [(0, .ref (X.1 7)), (1, .int v1), (2, .int v2)] → W p l e rm_X9_about s m args below meth c H locs 0 0 (MQ below (QI X B r (cs, S9, o)) args s 0 0 (Ab B)) (F0 m 28 ls [.ref (X.1 7)]) := by
  obtain ⟨hx, hb, hml, hown, hts, -⟩ := id E
  intro ms v1 v2 H locs ls hf hW hl
  unfold f_X9_about_28 at hf
  refine lv_iconst (v := (0 : Int32)) hx hb dX9_about_28 (by decide) ?_
  exact w_X9_about_29 E _ _ _ _ _ _ _ hf hW (lv_sub hl [0, 1, 2] rfl)
set_option maxHeartbeats 4000000 in
set_option maxRecDepth 100000 in
theorem c_X9_about (l : Launch) {X : XT} {B : Nat} {cs : CS} {ms : MS} {o : Nat → Int64} {v1 : Int32} {v2 : Int32} {r : Int32} {S9 : MS} (hf : f_X9_about ms v1 v2 = some (r, S9)) : Met l yX9_about (.code yX9_about cX9_about 3 (some .int) :: BIG) rm_X9_about (Pre X B (cs, ms, o) [.ref (X.1 7), .int v1, .int v2]) (QI X B r (cs, S9, o)) 0 0 (Ab B) := by
  refine entry (by decide +kernel) rfl (Nat.le_of_ble_eq_true rfl) (fun p e s m below meth c ls E hW hl => ?_)
  obtain ⟨hx, hb, hml, hown, hts, -⟩ := id E
  replace hl : lv_has ls 3 [(0, .ref (X.1 7)), (1, .int v1), (2, .int v2)] := hl
  unfold f_X9_about at hf
  refine lv_aload_n hx hb dX9_about_0 rfl (lv_at hl 0 rfl) ?_
  refine lv_iconst (v := (0 : Int32)) hx hb dX9_about_1 (by decide) ?_
  refine rp_X9_1 E hW dX9_about_2 (fun H locs hW => ?_)
  refine lv_aload_n hx hb dX9_about_5 rfl (lv_at hl 0 rfl) ?_
  refine lv_iload_n hx hb dX9_about_6 rfl (lv_at hl 1 rfl) ?_
  obtain ⟨r2, ms1, hc, hf⟩ := b2_e hf
  refine callVI (As := [.int _]) (rest := []) E hW (c_X9_isCar l hc) lk_X9_268 rcv_X9 (Nat.le_of_ble_eq_true rfl) (Nat.le_of_ble_eq_true rfl) (Nat.le_of_ble_eq_true rfl) (Nat.le_of_ble_eq_true rfl) hl.1 (Nat.le_of_ble_eq_true rfl) dX9_about_7 (fun H locs hW => ?_)
  refine lv_if_eq (tgt := 36) hx hb dX9_about_10 (by decide) (fun h3 => ?_) (fun h3 => ?_)
  · replace hf := ite_t h3 hf
    refine lv_iconst (v := (0 : Int32)) hx hb dX9_about_36 (by decide) ?_
    exact retI E hW (e2M hf) dX9_about_37
  · replace hf := ite_f h3 hf
    refine lv_aload_n hx hb dX9_about_13 rfl (lv_at hl 0 rfl) ?_
    refine lv_iload_n hx hb dX9_about_14 rfl (lv_at hl 2 rfl) ?_
    refine lv_if_lt (tgt := 28) hx hb dX9_about_15 (by decide) (fun h4 => ?_) (fun h4 => ?_)
    · replace hf := ite_t h4 hf
      exact w_X9_about_28 E _ _ _ _ _ _ hf hW (lv_sub hl [0, 1, 2] rfl)
    · replace hf := ite_f h4 hf
      refine lv_iload_n hx hb dX9_about_18 rfl (lv_at hl 2 rfl) ?_
      refine lv_bipush (v := (7 : Int32)) hx hb dX9_about_19 (by decide) ?_
      refine lv_icmp_gt (tgt := 28) hx hb dX9_about_21 (by decide) (fun h34 => ?_) (fun h34 => ?_)
      · replace hf := ite_t h34 hf
        exact w_X9_about_28 E _ _ _ _ _ _ hf hW (lv_sub hl [0, 1, 2] rfl)
      · replace hf := ite_f h34 hf
        refine lv_iconst (v := (1 : Int32)) hx hb dX9_about_24 (by decide) ?_
        refine lv_goto (tgt := 29) hx hb dX9_about_25 (by decide) ?_
        exact w_X9_about_29 E _ _ _ _ _ _ _ hf hW (lv_sub hl [0, 1, 2] rfl)
def f_X9_drain (ms : MS) (v1 : Int32) : Option (Int32 × MS) := b2 (f_X9_isCar (miU ms 0 (0 : Int32)) v1) fun r2 ms1 => if r2 = 0 then (some ((0 : Int32), ms1)) else ((ldI (ma ms1 52) 40 v1).bind fun q5 => if q5 = 0 then ((ldI (ma ms1 54) 40 v1).bind fun q8 => if q8 = 0 then (ixr 40 v1 <| (f_X9_acted (maU ms1 52 (v1).toNatClampNeg (vp_nar .boolean (1 : Int32))) (1 : Int32) v1 (0 : Int32)).bind fun ms11 => some ((1 : Int32), ms11)) else (some ((0 : Int32), ms1))) else (some ((0 : Int32), ms1)))
def rm_X9_drain : Room := { frames := 2, cells := 0, slots := 0, locals := 43 }
set_option maxHeartbeats 4000000 in
set_option maxRecDepth 100000 in
theorem c_X9_drain (l : Launch) {X : XT} {B : Nat} {cs : CS} {ms : MS} {o : Nat → Int64} {v1 : Int32} {r : Int32} {S9 : MS} (hf : f_X9_drain ms v1 = some (r, S9)) : Met l yX9_drain (.code yX9_drain cX9_drain 2 (some .int) :: BIG) rm_X9_drain (Pre X B (cs, ms, o) [.ref (X.1 7), .int v1]) (QI X B r (cs, S9, o)) 0 0 (Ab B) := by
  refine entry (by decide +kernel) rfl (Nat.le_of_ble_eq_true rfl) (fun p e s m below meth c ls E hW hl => ?_)
  obtain ⟨hx, hb, hml, hown, hts, -⟩ := id E
  replace hl : lv_has ls 2 [(0, .ref (X.1 7)), (1, .int v1)] := hl
  unfold f_X9_drain at hf
  refine lv_aload_n hx hb dX9_drain_0 rfl (lv_at hl 0 rfl) ?_
  refine lv_iconst (v := (0 : Int32)) hx hb dX9_drain_1 (by decide) ?_
  refine rp_X9_1 E hW dX9_drain_2 (fun H locs hW => ?_)
  refine lv_aload_n hx hb dX9_drain_5 rfl (lv_at hl 0 rfl) ?_
  refine lv_iload_n hx hb dX9_drain_6 rfl (lv_at hl 1 rfl) ?_
  obtain ⟨r2, ms1, hc, hf⟩ := b2_e hf
  refine callVI (As := [.int _]) (rest := []) E hW (c_X9_isCar l hc) lk_X9_268 rcv_X9 (Nat.le_of_ble_eq_true rfl) (Nat.le_of_ble_eq_true rfl) (Nat.le_of_ble_eq_true rfl) (Nat.le_of_ble_eq_true rfl) hl.1 (Nat.le_of_ble_eq_true rfl) dX9_drain_7 (fun H locs hW => ?_)
  refine lv_if_eq (tgt := 31) hx hb dX9_drain_10 (by decide) (fun h3 => ?_) (fun h3 => ?_)
  · replace hf := ite_t h3 hf
    refine lv_iconst (v := (0 : Int32)) hx hb dX9_drain_31 (by decide) ?_
    exact retI E hW (e2M hf) dX9_drain_32
  · replace hf := ite_f h3 hf
    refine lv_aload_n hx hb dX9_drain_13 rfl (lv_at hl 0 rfl) ?_
    refine rg_X9_91 E hW dX9_drain_14 ?_
    refine lv_iload_n hx hb dX9_drain_17 rfl (lv_at hl 1 rfl) ?_
    obtain ⟨v4, hf⟩ := ldI_e hf
    refine ra_52 E hW v4 dX9_drain_18 ?_
    refine lv_if_ne (tgt := 31) hx hb dX9_drain_19 (by decide) (fun h6 => ?_) (fun h6 => ?_)
    · replace hf := ite_f h6 hf
      refine lv_iconst (v := (0 : Int32)) hx hb dX9_drain_31 (by decide) ?_
      exact retI E hW (e2M hf) dX9_drain_32
    · replace hf := ite_t h6 hf
      refine lv_aload_n hx hb dX9_drain_22 rfl (lv_at hl 0 rfl) ?_
      refine rg_X9_97 E hW dX9_drain_23 ?_
      refine lv_iload_n hx hb dX9_drain_26 rfl (lv_at hl 1 rfl) ?_
      obtain ⟨v7, hf⟩ := ldI_e hf
      refine ra_54 E hW v7 dX9_drain_27 ?_
      refine lv_if_eq (tgt := 33) hx hb dX9_drain_28 (by decide) (fun h9 => ?_) (fun h9 => ?_)
      · replace hf := ite_t h9 hf
        refine lv_aload_n hx hb dX9_drain_33 rfl (lv_at hl 0 rfl) ?_
        refine rg_X9_91 E hW dX9_drain_34 ?_
        refine lv_iload_n hx hb dX9_drain_37 rfl (lv_at hl 1 rfl) ?_
        refine lv_iconst (v := (1 : Int32)) hx hb dX9_drain_38 (by decide) ?_
        obtain ⟨v10, hf⟩ := ixr_e hf
        refine rs_52 E hW v10 dX9_drain_39 (fun H locs hW => ?_)
        refine lv_aload_n hx hb dX9_drain_40 rfl (lv_at hl 0 rfl) ?_
        refine lv_iconst (v := (1 : Int32)) hx hb dX9_drain_41 (by decide) ?_
        refine lv_iload_n hx hb dX9_drain_42 rfl (lv_at hl 1 rfl) ?_
        refine lv_iconst (v := (0 : Int32)) hx hb dX9_drain_43 (by decide) ?_
        obtain ⟨ms11, hc, hf⟩ := b1_e hf
        refine callVV (As := [.int _, .int _, .int _]) (rest := []) E hW (c_X9_acted l hc) lk_X9_271 rcv_X9 (Nat.le_of_ble_eq_true rfl) (Nat.le_of_ble_eq_true rfl) (Nat.le_of_ble_eq_true rfl) (Nat.le_of_ble_eq_true rfl) hl.1 (Nat.le_of_ble_eq_true rfl) dX9_drain_44 (fun H locs hW => ?_)
        refine lv_iconst (v := (1 : Int32)) hx hb dX9_drain_47 (by decide) ?_
        exact retI E hW (e2M hf) dX9_drain_48
      · replace hf := ite_f h9 hf
        refine lv_iconst (v := (0 : Int32)) hx hb dX9_drain_31 (by decide) ?_
        exact retI E hW (e2M hf) dX9_drain_32
def f_X9_papers (ms : MS) (v1 : Int32) : Option (Int32 × MS) := b2 (f_X9_isCar (miU ms 0 (0 : Int32)) v1) fun r2 ms1 => if r2 = 0 then (some ((0 : Int32), ms1)) else ((ldI (ma ms1 53) 40 v1).bind fun q5 => if q5 = 0 then ((ldI (ma ms1 54) 40 v1).bind fun q8 => if q8 = 0 then (ixr 40 v1 <| (f_X9_acted (maU ms1 53 (v1).toNatClampNeg (vp_nar .boolean (1 : Int32))) (2 : Int32) v1 (0 : Int32)).bind fun ms11 => some ((1 : Int32), ms11)) else (some ((0 : Int32), ms1))) else (some ((0 : Int32), ms1)))
def rm_X9_papers : Room := { frames := 2, cells := 0, slots := 0, locals := 43 }
set_option maxHeartbeats 4000000 in
set_option maxRecDepth 100000 in
theorem c_X9_papers (l : Launch) {X : XT} {B : Nat} {cs : CS} {ms : MS} {o : Nat → Int64} {v1 : Int32} {r : Int32} {S9 : MS} (hf : f_X9_papers ms v1 = some (r, S9)) : Met l yX9_papers (.code yX9_papers cX9_papers 2 (some .int) :: BIG) rm_X9_papers (Pre X B (cs, ms, o) [.ref (X.1 7), .int v1]) (QI X B r (cs, S9, o)) 0 0 (Ab B) := by
  refine entry (by decide +kernel) rfl (Nat.le_of_ble_eq_true rfl) (fun p e s m below meth c ls E hW hl => ?_)
  obtain ⟨hx, hb, hml, hown, hts, -⟩ := id E
  replace hl : lv_has ls 2 [(0, .ref (X.1 7)), (1, .int v1)] := hl
  unfold f_X9_papers at hf
  refine lv_aload_n hx hb dX9_papers_0 rfl (lv_at hl 0 rfl) ?_
  refine lv_iconst (v := (0 : Int32)) hx hb dX9_papers_1 (by decide) ?_
  refine rp_X9_1 E hW dX9_papers_2 (fun H locs hW => ?_)
  refine lv_aload_n hx hb dX9_papers_5 rfl (lv_at hl 0 rfl) ?_
  refine lv_iload_n hx hb dX9_papers_6 rfl (lv_at hl 1 rfl) ?_
  obtain ⟨r2, ms1, hc, hf⟩ := b2_e hf
  refine callVI (As := [.int _]) (rest := []) E hW (c_X9_isCar l hc) lk_X9_268 rcv_X9 (Nat.le_of_ble_eq_true rfl) (Nat.le_of_ble_eq_true rfl) (Nat.le_of_ble_eq_true rfl) (Nat.le_of_ble_eq_true rfl) hl.1 (Nat.le_of_ble_eq_true rfl) dX9_papers_7 (fun H locs hW => ?_)
  refine lv_if_eq (tgt := 31) hx hb dX9_papers_10 (by decide) (fun h3 => ?_) (fun h3 => ?_)
  · replace hf := ite_t h3 hf
    refine lv_iconst (v := (0 : Int32)) hx hb dX9_papers_31 (by decide) ?_
    exact retI E hW (e2M hf) dX9_papers_32
  · replace hf := ite_f h3 hf
    refine lv_aload_n hx hb dX9_papers_13 rfl (lv_at hl 0 rfl) ?_
    refine rg_X9_94 E hW dX9_papers_14 ?_
    refine lv_iload_n hx hb dX9_papers_17 rfl (lv_at hl 1 rfl) ?_
    obtain ⟨v4, hf⟩ := ldI_e hf
    refine ra_53 E hW v4 dX9_papers_18 ?_
    refine lv_if_ne (tgt := 31) hx hb dX9_papers_19 (by decide) (fun h6 => ?_) (fun h6 => ?_)
    · replace hf := ite_f h6 hf
      refine lv_iconst (v := (0 : Int32)) hx hb dX9_papers_31 (by decide) ?_
      exact retI E hW (e2M hf) dX9_papers_32
    · replace hf := ite_t h6 hf
      refine lv_aload_n hx hb dX9_papers_22 rfl (lv_at hl 0 rfl) ?_
      refine rg_X9_97 E hW dX9_papers_23 ?_
      refine lv_iload_n hx hb dX9_papers_26 rfl (lv_at hl 1 rfl) ?_
      obtain ⟨v7, hf⟩ := ldI_e hf
      refine ra_54 E hW v7 dX9_papers_27 ?_
      refine lv_if_eq (tgt := 33) hx hb dX9_papers_28 (by decide) (fun h9 => ?_) (fun h9 => ?_)
      · replace hf := ite_t h9 hf
        refine lv_aload_n hx hb dX9_papers_33 rfl (lv_at hl 0 rfl) ?_
        refine rg_X9_94 E hW dX9_papers_34 ?_
        refine lv_iload_n hx hb dX9_papers_37 rfl (lv_at hl 1 rfl) ?_
        refine lv_iconst (v := (1 : Int32)) hx hb dX9_papers_38 (by decide) ?_
        obtain ⟨v10, hf⟩ := ixr_e hf
        refine rs_53 E hW v10 dX9_papers_39 (fun H locs hW => ?_)
        refine lv_aload_n hx hb dX9_papers_40 rfl (lv_at hl 0 rfl) ?_
        refine lv_iconst (v := (2 : Int32)) hx hb dX9_papers_41 (by decide) ?_
        refine lv_iload_n hx hb dX9_papers_42 rfl (lv_at hl 1 rfl) ?_
        refine lv_iconst (v := (0 : Int32)) hx hb dX9_papers_43 (by decide) ?_
        obtain ⟨ms11, hc, hf⟩ := b1_e hf
        refine callVV (As := [.int _, .int _, .int _]) (rest := []) E hW (c_X9_acted l hc) lk_X9_271 rcv_X9 (Nat.le_of_ble_eq_true rfl) (Nat.le_of_ble_eq_true rfl) (Nat.le_of_ble_eq_true rfl) (Nat.le_of_ble_eq_true rfl) hl.1 (Nat.le_of_ble_eq_true rfl) dX9_papers_44 (fun H locs hW => ?_)
        refine lv_iconst (v := (1 : Int32)) hx hb dX9_papers_47 (by decide) ?_
        exact retI E hW (e2M hf) dX9_papers_48
      · replace hf := ite_f h9 hf
        refine lv_iconst (v := (0 : Int32)) hx hb dX9_papers_31 (by decide) ?_
        exact retI E hW (e2M hf) dX9_papers_32
def f_X9_hindrance_113 (ms : MS) : Option (Int32) := if (mi ms 13) = (60 : Int32) then (some (6 : Int32)) else (if (mi ms 12) = (400 : Int32) then (some (7 : Int32)) else (some (0 : Int32)))
def f_X9_hindrance_93 (ms : MS) (v1 : Int32) (v2 : Int32) (v5 : Int32) : Option (Int32) := if v5 = (5 : Int32) then ((ldI (ma ms 50) 40 v1).bind fun q21 => if q21 = ((1 : Int32) <<< (v2 &&& 31)) then (f_X9_hindrance_113 ms ) else (some (5 : Int32))) else (f_X9_hindrance_113 ms )
def f_X9_hindrance_82 (ms : MS) (v1 : Int32) (v2 : Int32) (v5 : Int32) : Option (Int32) := (ldI (ma ms 52) 40 v1).bind fun q15 => if q15 = 0 then (some (4 : Int32)) else (f_X9_hindrance_93 ms v1 v2 v5)
def f_X9_hindrance_70 (ms : MS) (v1 : Int32) (v2 : Int32) (v5 : Int32) : Option (Int32) := if v5 = (3 : Int32) then (f_X9_hindrance_82 ms v1 v2 v5) else (if v5 = (4 : Int32) then (f_X9_hindrance_82 ms v1 v2 v5) else (f_X9_hindrance_93 ms v1 v2 v5))
def f_X9_hindrance (ms : MS) (v1 : Int32) (v2 : Int32) : Option (Int32) := (ldI (ma ms 46) 40 v1).bind fun q2 => (ldI (ma ms 40) 192 (((24 : Int32) * q2) + v2)).bind fun q4 => (ldI (ma ms 38) 192 (((24 : Int32) * q2) + v2)).bind fun q6 => (ldI (ma ms 54) 40 v1).bind fun q8 => if q8 = 0 then ((f_X9_isOn ms v1 v2).bind fun r10 => if r10 = 0 then (some (2 : Int32)) else (if q4 = (-1 : Int32) then (f_X9_hindrance_70 ms v1 v2 q6) else ((f_X9_isOn ms v1 q4).bind fun r24 => if r24 = 0 then (f_X9_hindrance_70 ms v1 v2 q6) else (some (3 : Int32))))) else (some (1 : Int32))
def rm_X9_hindrance : Room := { frames := 1, cells := 0, slots := 0, locals := 22 }
set_option maxHeartbeats 4000000 in
set_option maxRecDepth 100000 in
theorem w_X9_hindrance_113 {p : Program} {l : Launch} {e : Env} {s : State} {m : MethodId} {args : Array Value} {below : List Frame} {meth : Method} {c : Code} {X : XT} {B : Nat} {cs : CS} {o : Nat → Int64} {r : Int32} (E : Ev X B p s m args meth c RX9 cX9_hindrance 6 (some .int)) : ∀ (ms : MS) (H : Heap) (locs : List Loc) (ls : Array Slot), f_X9_hindrance_113 ms  = some r → Ws X B s.heap H locs (cs, ms, o) → lv_has ls 6 [(0, .ref (X.1 7))] → W p l e rm_X9_hindrance s m args below meth c H locs 0 0 (MQ below (QI X B r (cs, ms, o)) args s 0 0 (Ab B)) (F0 m 113 ls []) := by
  obtain ⟨hx, hb, hml, hown, hts, -⟩ := id E
  intro ms  H locs ls hf hW hl
  unfold f_X9_hindrance_113 at hf
  refine lv_aload_n hx hb dX9_hindrance_113 rfl (lv_at hl 0 rfl) ?_
  refine rg_X9_258 E hW dX9_hindrance_114 ?_
  refine lv_bipush (v := (60 : Int32)) hx hb dX9_hindrance_117 (by decide) ?_
  refine lv_icmp_ne (tgt := 127) hx hb dX9_hindrance_119 (by decide) (fun h18 => ?_) (fun h18 => ?_)
  · replace hf := ite_f h18 hf
    refine lv_aload_n hx hb dX9_hindrance_127 rfl (lv_at hl 0 rfl) ?_
    refine rg_X9_277 E hW dX9_hindrance_128 ?_
    refine lv_sipush (v := (400 : Int32)) hx hb dX9_hindrance_131 (by decide) ?_
    refine lv_icmp_ne (tgt := 142) hx hb dX9_hindrance_134 (by decide) (fun h19 => ?_) (fun h19 => ?_)
    · replace hf := ite_f h19 hf
      refine lv_iconst (v := (0 : Int32)) hx hb dX9_hindrance_142 (by decide) ?_
      exact retI E hW ⟨Option.some.inj hf, rfl⟩ dX9_hindrance_143
    · replace hf := ite_t h19 hf
      refine lv_bipush (v := (7 : Int32)) hx hb dX9_hindrance_137 (by decide) ?_
      refine lv_goto (tgt := 143) hx hb dX9_hindrance_139 (by decide) ?_
      exact retI E hW ⟨Option.some.inj hf, rfl⟩ dX9_hindrance_143
  · replace hf := ite_t h18 hf
    refine lv_bipush (v := (6 : Int32)) hx hb dX9_hindrance_122 (by decide) ?_
    refine lv_goto (tgt := 143) hx hb dX9_hindrance_124 (by decide) ?_
    exact retI E hW ⟨Option.some.inj hf, rfl⟩ dX9_hindrance_143
set_option maxHeartbeats 4000000 in
set_option maxRecDepth 100000 in
theorem w_X9_hindrance_93 {p : Program} {l : Launch} {e : Env} {s : State} {m : MethodId} {args : Array Value} {below : List Frame} {meth : Method} {c : Code} {X : XT} {B : Nat} {cs : CS} {o : Nat → Int64} {r : Int32} (E : Ev X B p s m args meth c RX9 cX9_hindrance 6 (some .int)) : ∀ (ms : MS) (v1 : Int32) (v2 : Int32) (v5 : Int32) (H : Heap) (locs : List Loc) (ls : Array Slot), f_X9_hindrance_93 ms v1 v2 v5 = some r → Ws X B s.heap H locs (cs, ms, o) → lv_has ls 6 [(0, .ref (X.1 7)), (1, .int v1), (2, .int v2), (5, .int v5)] → W p l e rm_X9_hindrance s m args below meth c H locs 0 0 (MQ below (QI X B r (cs, ms, o)) args s 0 0 (Ab B)) (F0 m 93 ls []) := by
  obtain ⟨hx, hb, hml, hown, hts, -⟩ := id E
  intro ms v1 v2 v5 H locs ls hf hW hl
  unfold f_X9_hindrance_93 at hf
  refine lv_iload hx hb dX9_hindrance_93 (lv_at hl 3 rfl) ?_
  refine lv_iconst (v := (5 : Int32)) hx hb dX9_hindrance_95 (by decide) ?_
  refine lv_icmp_ne (tgt := 113) hx hb dX9_hindrance_96 (by decide) (fun h17 => ?_) (fun h17 => ?_)
  · replace hf := ite_f h17 hf
    exact w_X9_hindrance_113 E _ _ _ _ hf hW (lv_sub hl [0] rfl)
  · replace hf := ite_t h17 hf
    refine lv_aload_n hx hb dX9_hindrance_99 rfl (lv_at hl 0 rfl) ?_
    refine rg_X9_85 E hW dX9_hindrance_100 ?_
    refine lv_iload_n hx hb dX9_hindrance_103 rfl (lv_at hl 1 rfl) ?_
    obtain ⟨v20, hf⟩ := ldI_e hf
    refine ra_50 E hW v20 dX9_hindrance_104 ?_
    refine lv_iconst (v := (1 : Int32)) hx hb dX9_hindrance_105 (by decide) ?_
    refine lv_iload_n hx hb dX9_hindrance_106 rfl (lv_at hl 2 rfl) ?_
    refine lv_ishl hx hb dX9_hindrance_107 ?_
    refine lv_icmp_eq (tgt := 113) hx hb dX9_hindrance_108 (by decide) (fun h22 => ?_) (fun h22 => ?_)
    · replace hf := ite_t h22 hf
      exact w_X9_hindrance_113 E _ _ _ _ hf hW (lv_sub hl [0] rfl)
    · replace hf := ite_f h22 hf
      refine lv_iconst (v := (5 : Int32)) hx hb dX9_hindrance_111 (by decide) ?_
      exact retI E hW ⟨Option.some.inj hf, rfl⟩ dX9_hindrance_112
set_option maxHeartbeats 4000000 in
set_option maxRecDepth 100000 in
theorem w_X9_hindrance_82 {p : Program} {l : Launch} {e : Env} {s : State} {m : MethodId} {args : Array Value} {below : List Frame} {meth : Method} {c : Code} {X : XT} {B : Nat} {cs : CS} {o : Nat → Int64} {r : Int32} (E : Ev X B p s m args meth c RX9 cX9_hindrance 6 (some .int)) : ∀ (ms : MS) (v1 : Int32) (v2 : Int32) (v5 : Int32) (H : Heap) (locs : List Loc) (ls : Array Slot), f_X9_hindrance_82 ms v1 v2 v5 = some r → Ws X B s.heap H locs (cs, ms, o) → lv_has ls 6 [(0, .ref (X.1 7)), (1, .int v1), (2, .int v2), (5, .int v5)] → W p l e rm_X9_hindrance s m args below meth c H locs 0 0 (MQ below (QI X B r (cs, ms, o)) args s 0 0 (Ab B)) (F0 m 82 ls []) := by
  obtain ⟨hx, hb, hml, hown, hts, -⟩ := id E
  intro ms v1 v2 v5 H locs ls hf hW hl
  unfold f_X9_hindrance_82 at hf
  refine lv_aload_n hx hb dX9_hindrance_82 rfl (lv_at hl 0 rfl) ?_
  refine rg_X9_91 E hW dX9_hindrance_83 ?_
  refine lv_iload_n hx hb dX9_hindrance_86 rfl (lv_at hl 1 rfl) ?_
  obtain ⟨v14, hf⟩ := ldI_e hf
  refine ra_52 E hW v14 dX9_hindrance_87 ?_
  refine lv_if_ne (tgt := 93) hx hb dX9_hindrance_88 (by decide) (fun h16 => ?_) (fun h16 => ?_)
  · replace hf := ite_f h16 hf
    exact w_X9_hindrance_93 E _ _ _ _ _ _ _ hf hW (lv_sub hl [0, 1, 2, 3] rfl)
  · replace hf := ite_t h16 hf
    refine lv_iconst (v := (4 : Int32)) hx hb dX9_hindrance_91 (by decide) ?_
    exact retI E hW ⟨Option.some.inj hf, rfl⟩ dX9_hindrance_92
set_option maxHeartbeats 4000000 in
set_option maxRecDepth 100000 in
theorem w_X9_hindrance_70 {p : Program} {l : Launch} {e : Env} {s : State} {m : MethodId} {args : Array Value} {below : List Frame} {meth : Method} {c : Code} {X : XT} {B : Nat} {cs : CS} {o : Nat → Int64} {r : Int32} (E : Ev X B p s m args meth c RX9 cX9_hindrance 6 (some .int)) : ∀ (ms : MS) (v1 : Int32) (v2 : Int32) (v5 : Int32) (H : Heap) (locs : List Loc) (ls : Array Slot), f_X9_hindrance_70 ms v1 v2 v5 = some r → Ws X B s.heap H locs (cs, ms, o) → lv_has ls 6 [(0, .ref (X.1 7)), (1, .int v1), (2, .int v2), (5, .int v5)] → W p l e rm_X9_hindrance s m args below meth c H locs 0 0 (MQ below (QI X B r (cs, ms, o)) args s 0 0 (Ab B)) (F0 m 70 ls []) := by
  obtain ⟨hx, hb, hml, hown, hts, -⟩ := id E
  intro ms v1 v2 v5 H locs ls hf hW hl
  unfold f_X9_hindrance_70 at hf
  refine lv_iload hx hb dX9_hindrance_70 (lv_at hl 3 rfl) ?_
  refine lv_iconst (v := (3 : Int32)) hx hb dX9_hindrance_72 (by decide) ?_
  refine lv_icmp_eq (tgt := 82) hx hb dX9_hindrance_73 (by decide) (fun h13 => ?_) (fun h13 => ?_)
  · replace hf := ite_t h13 hf
    exact w_X9_hindrance_82 E _ _ _ _ _ _ _ hf hW (lv_sub hl [0, 1, 2, 3] rfl)
  · replace hf := ite_f h13 hf
    refine lv_iload hx hb dX9_hindrance_76 (lv_at hl 3 rfl) ?_
    refine lv_iconst (v := (4 : Int32)) hx hb dX9_hindrance_78 (by decide) ?_
    refine lv_icmp_ne (tgt := 93) hx hb dX9_hindrance_79 (by decide) (fun h23 => ?_) (fun h23 => ?_)
    · replace hf := ite_f h23 hf
      exact w_X9_hindrance_93 E _ _ _ _ _ _ _ hf hW (lv_sub hl [0, 1, 2, 3] rfl)
    · replace hf := ite_t h23 hf
      exact w_X9_hindrance_82 E _ _ _ _ _ _ _ hf hW (lv_sub hl [0, 1, 2, 3] rfl)
set_option maxHeartbeats 4000000 in
set_option maxRecDepth 100000 in
theorem c_X9_hindrance (l : Launch) {X : XT} {B : Nat} {cs : CS} {ms : MS} {o : Nat → Int64} {v1 : Int32} {v2 : Int32} {r : Int32} (hf : f_X9_hindrance ms v1 v2 = some r) : Met l yX9_hindrance (.code yX9_hindrance cX9_hindrance 6 (some .int) :: BIG) rm_X9_hindrance (Pre X B (cs, ms, o) [.ref (X.1 7), .int v1, .int v2]) (QI X B r (cs, ms, o)) 0 0 (Ab B) := by
  refine entry (by decide +kernel) rfl (Nat.le_of_ble_eq_true rfl) (fun p e s m below meth c ls E hW hl => ?_)
  obtain ⟨hx, hb, hml, hown, hts, -⟩ := id E
  replace hl : lv_has ls 6 [(0, .ref (X.1 7)), (1, .int v1), (2, .int v2)] := hl
  unfold f_X9_hindrance at hf
  refine lv_bipush (v := (24 : Int32)) hx hb dX9_hindrance_0 (by decide) ?_
  refine lv_aload_n hx hb dX9_hindrance_2 rfl (lv_at hl 0 rfl) ?_
  refine rg_X9_73 E hW dX9_hindrance_3 ?_
  refine lv_iload_n hx hb dX9_hindrance_6 rfl (lv_at hl 1 rfl) ?_
  obtain ⟨v1, hf⟩ := ldI_e hf
  refine ra_46 E hW v1 dX9_hindrance_7 ?_
  refine lv_imul hx hb dX9_hindrance_8 ?_
  refine lv_istore_n (lv' := [_, _, _, _]) hx hb dX9_hindrance_9 rfl hl (by decide) rfl (fun ls hl => ?_)
  refine lv_aload_n hx hb dX9_hindrance_10 rfl (lv_at hl 1 rfl) ?_
  refine rg_X9_55 E hW dX9_hindrance_11 ?_
  refine lv_iload_n hx hb dX9_hindrance_14 rfl (lv_at hl 0 rfl) ?_
  refine lv_iload_n hx hb dX9_hindrance_15 rfl (lv_at hl 3 rfl) ?_
  refine lv_iadd hx hb dX9_hindrance_16 ?_
  obtain ⟨v3, hf⟩ := ldI_e hf
  refine ra_40 E hW v3 dX9_hindrance_17 ?_
  refine lv_istore (lv' := [_, _, _, _, _]) hx hb dX9_hindrance_18 hl (by decide) rfl (fun ls hl => ?_)
  refine lv_aload_n hx hb dX9_hindrance_20 rfl (lv_at hl 2 rfl) ?_
  refine rg_X9_49 E hW dX9_hindrance_21 ?_
  refine lv_iload_n hx hb dX9_hindrance_24 rfl (lv_at hl 1 rfl) ?_
  refine lv_iload_n hx hb dX9_hindrance_25 rfl (lv_at hl 4 rfl) ?_
  refine lv_iadd hx hb dX9_hindrance_26 ?_
  obtain ⟨v5, hf⟩ := ldI_e hf
  refine ra_38 E hW v5 dX9_hindrance_27 ?_
  refine lv_istore (lv' := [_, _, _, _, _, _]) hx hb dX9_hindrance_28 hl (by decide) rfl (fun ls hl => ?_)
  refine lv_aload_n hx hb dX9_hindrance_30 rfl (lv_at hl 3 rfl) ?_
  refine rg_X9_97 E hW dX9_hindrance_31 ?_
  refine lv_iload_n hx hb dX9_hindrance_34 rfl (lv_at hl 4 rfl) ?_
  obtain ⟨v7, hf⟩ := ldI_e hf
  refine ra_54 E hW v7 dX9_hindrance_35 ?_
  refine lv_if_eq (tgt := 41) hx hb dX9_hindrance_36 (by decide) (fun h9 => ?_) (fun h9 => ?_)
  · replace hf := ite_t h9 hf
    refine lv_aload_n hx hb dX9_hindrance_41 rfl (lv_at hl 3 rfl) ?_
    refine lv_iload_n hx hb dX9_hindrance_42 rfl (lv_at hl 4 rfl) ?_
    refine lv_iload_n hx hb dX9_hindrance_43 rfl (lv_at hl 5 rfl) ?_
    obtain ⟨r10, hc, hf⟩ := b1_e hf
    refine callVI (As := [.int _, .int _]) (rest := []) E hW (c_X9_isOn l hc) lk_X9_264 rcv_X9 (Nat.le_of_ble_eq_true rfl) (Nat.le_of_ble_eq_true rfl) (Nat.le_of_ble_eq_true rfl) (Nat.le_of_ble_eq_true rfl) hl.1 (Nat.le_of_ble_eq_true rfl) dX9_hindrance_44 (fun H locs hW => ?_)
    refine lv_if_ne (tgt := 52) hx hb dX9_hindrance_47 (by decide) (fun h11 => ?_) (fun h11 => ?_)
    · replace hf := ite_f h11 hf
      refine lv_iload hx hb dX9_hindrance_52 (lv_at hl 1 rfl) ?_
      refine lv_iconst (v := (-1 : Int32)) hx hb dX9_hindrance_54 (by decide) ?_
      refine lv_icmp_eq (tgt := 70) hx hb dX9_hindrance_55 (by decide) (fun h12 => ?_) (fun h12 => ?_)
      · replace hf := ite_t h12 hf
        exact w_X9_hindrance_70 E _ _ _ _ _ _ _ hf hW (lv_sub hl [3, 4, 5, 0] rfl)
      · replace hf := ite_f h12 hf
        refine lv_aload_n hx hb dX9_hindrance_58 rfl (lv_at hl 3 rfl) ?_
        refine lv_iload_n hx hb dX9_hindrance_59 rfl (lv_at hl 4 rfl) ?_
        refine lv_iload hx hb dX9_hindrance_60 (lv_at hl 1 rfl) ?_
        obtain ⟨r24, hc, hf⟩ := b1_e hf
        refine callVI (As := [.int _, .int _]) (rest := []) E hW (c_X9_isOn l hc) lk_X9_264 rcv_X9 (Nat.le_of_ble_eq_true rfl) (Nat.le_of_ble_eq_true rfl) (Nat.le_of_ble_eq_true rfl) (Nat.le_of_ble_eq_true rfl) hl.1 (Nat.le_of_ble_eq_true rfl) dX9_hindrance_62 (fun H locs hW => ?_)
        refine lv_if_eq (tgt := 70) hx hb dX9_hindrance_65 (by decide) (fun h25 => ?_) (fun h25 => ?_)
        · replace hf := ite_t h25 hf
          exact w_X9_hindrance_70 E _ _ _ _ _ _ _ hf hW (lv_sub hl [3, 4, 5, 0] rfl)
        · replace hf := ite_f h25 hf
          refine lv_iconst (v := (3 : Int32)) hx hb dX9_hindrance_68 (by decide) ?_
          exact retI E hW ⟨Option.some.inj hf, rfl⟩ dX9_hindrance_69
    · replace hf := ite_t h11 hf
      refine lv_iconst (v := (2 : Int32)) hx hb dX9_hindrance_50 (by decide) ?_
      exact retI E hW ⟨Option.some.inj hf, rfl⟩ dX9_hindrance_51
  · replace hf := ite_f h9 hf
    refine lv_iconst (v := (1 : Int32)) hx hb dX9_hindrance_39 (by decide) ?_
    exact retI E hW ⟨Option.some.inj hf, rfl⟩ dX9_hindrance_40
def f_X9_isPartOf (ms : MS) (v1 : Int32) (v2 : Int32) : Option (Int32 × MS) := b2 (f_X9_isCar ms v1) fun r2 ms1 => if r2 = 0 then (some ((0 : Int32), ms1)) else (if v2 < 0 then (b2 (f_X9_may ms1 (0 : Int32) (1 : Int32)) fun r6 ms5 => if r6 = 0 then (some ((0 : Int32), ms5)) else (some ((1 : Int32), ms5))) else ((ldI (ma ms1 49) 40 v1).bind fun q9 => if q9 ≤ v2 then (b2 (f_X9_may ms1 (0 : Int32) (1 : Int32)) fun r12 ms11 => if r12 = 0 then (some ((0 : Int32), ms11)) else (some ((1 : Int32), ms11))) else (b2 (f_X9_may ms1 (1 : Int32) (1 : Int32)) fun r15 ms14 => if r15 = 0 then (some ((0 : Int32), ms14)) else (some ((1 : Int32), ms14)))))
def rm_X9_isPartOf : Room := { frames := 2, cells := 0, slots := 0, locals := 43 }
set_option maxHeartbeats 4000000 in
set_option maxRecDepth 100000 in
theorem c_X9_isPartOf (l : Launch) {X : XT} {B : Nat} {cs : CS} {ms : MS} {o : Nat → Int64} {v1 : Int32} {v2 : Int32} {r : Int32} {S9 : MS} (hf : f_X9_isPartOf ms v1 v2 = some (r, S9)) : Met l yX9_isPartOf (.code yX9_isPartOf cX9_isPartOf 3 (some .boolean) :: BIG) rm_X9_isPartOf (Pre X B (cs, ms, o) [.ref (X.1 7), .int v1, .int v2]) (QI X B r (cs, S9, o)) 0 0 (Ab B) := by
  refine entry (by decide +kernel) rfl (Nat.le_of_ble_eq_true rfl) (fun p e s m below meth c ls E hW hl => ?_)
  obtain ⟨hx, hb, hml, hown, hts, -⟩ := id E
  replace hl : lv_has ls 3 [(0, .ref (X.1 7)), (1, .int v1), (2, .int v2)] := hl
  unfold f_X9_isPartOf at hf
  refine lv_aload_n hx hb dX9_isPartOf_0 rfl (lv_at hl 0 rfl) ?_
  refine lv_iload_n hx hb dX9_isPartOf_1 rfl (lv_at hl 1 rfl) ?_
  obtain ⟨r2, ms1, hc, hf⟩ := b2_e hf
  refine callVI (As := [.int _]) (rest := []) E hW (c_X9_isCar l hc) lk_X9_268 rcv_X9 (Nat.le_of_ble_eq_true rfl) (Nat.le_of_ble_eq_true rfl) (Nat.le_of_ble_eq_true rfl) (Nat.le_of_ble_eq_true rfl) hl.1 (Nat.le_of_ble_eq_true rfl) dX9_isPartOf_2 (fun H locs hW => ?_)
  refine lv_if_eq (tgt := 39) hx hb dX9_isPartOf_5 (by decide) (fun h3 => ?_) (fun h3 => ?_)
  · replace hf := ite_t h3 hf
    refine lv_iconst (v := (0 : Int32)) hx hb dX9_isPartOf_39 (by decide) ?_
    exact retZ E hW (Or.inl rfl) (e2M hf) dX9_isPartOf_40
  · replace hf := ite_f h3 hf
    refine lv_aload_n hx hb dX9_isPartOf_8 rfl (lv_at hl 0 rfl) ?_
    refine lv_iload_n hx hb dX9_isPartOf_9 rfl (lv_at hl 2 rfl) ?_
    refine lv_if_lt (tgt := 27) hx hb dX9_isPartOf_10 (by decide) (fun h4 => ?_) (fun h4 => ?_)
    · replace hf := ite_t h4 hf
      refine lv_iconst (v := (0 : Int32)) hx hb dX9_isPartOf_27 (by decide) ?_
      refine lv_iconst (v := (1 : Int32)) hx hb dX9_isPartOf_28 (by decide) ?_
      obtain ⟨r6, ms5, hc, hf⟩ := b2_e hf
      refine callVI (As := [.int _, .int _]) (rest := []) E hW (c_X9_may l hc) lk_X9_151 rcv_X9 (Nat.le_of_ble_eq_true rfl) (Nat.le_of_ble_eq_true rfl) (Nat.le_of_ble_eq_true rfl) (Nat.le_of_ble_eq_true rfl) hl.1 (Nat.le_of_ble_eq_true rfl) dX9_isPartOf_29 (fun H locs hW => ?_)
      refine lv_if_eq (tgt := 39) hx hb dX9_isPartOf_32 (by decide) (fun h7 => ?_) (fun h7 => ?_)
      · replace hf := ite_t h7 hf
        refine lv_iconst (v := (0 : Int32)) hx hb dX9_isPartOf_39 (by decide) ?_
        exact retZ E hW (Or.inl rfl) (e2M hf) dX9_isPartOf_40
      · replace hf := ite_f h7 hf
        refine lv_iconst (v := (1 : Int32)) hx hb dX9_isPartOf_35 (by decide) ?_
        refine lv_goto (tgt := 40) hx hb dX9_isPartOf_36 (by decide) ?_
        exact retZ E hW (Or.inr rfl) (e2M hf) dX9_isPartOf_40
    · replace hf := ite_f h4 hf
      refine lv_iload_n hx hb dX9_isPartOf_13 rfl (lv_at hl 2 rfl) ?_
      refine lv_aload_n hx hb dX9_isPartOf_14 rfl (lv_at hl 0 rfl) ?_
      refine rg_X9_82 E hW dX9_isPartOf_15 ?_
      refine lv_iload_n hx hb dX9_isPartOf_18 rfl (lv_at hl 1 rfl) ?_
      obtain ⟨v8, hf⟩ := ldI_e hf
      refine ra_49 E hW v8 dX9_isPartOf_19 ?_
      refine lv_icmp_ge (tgt := 27) hx hb dX9_isPartOf_20 (by decide) (fun h10 => ?_) (fun h10 => ?_)
      · replace hf := ite_t h10 hf
        refine lv_iconst (v := (0 : Int32)) hx hb dX9_isPartOf_27 (by decide) ?_
        refine lv_iconst (v := (1 : Int32)) hx hb dX9_isPartOf_28 (by decide) ?_
        obtain ⟨r12, ms11, hc, hf⟩ := b2_e hf
        refine callVI (As := [.int _, .int _]) (rest := []) E hW (c_X9_may l hc) lk_X9_151 rcv_X9 (Nat.le_of_ble_eq_true rfl) (Nat.le_of_ble_eq_true rfl) (Nat.le_of_ble_eq_true rfl) (Nat.le_of_ble_eq_true rfl) hl.1 (Nat.le_of_ble_eq_true rfl) dX9_isPartOf_29 (fun H locs hW => ?_)
        refine lv_if_eq (tgt := 39) hx hb dX9_isPartOf_32 (by decide) (fun h13 => ?_) (fun h13 => ?_)
        · replace hf := ite_t h13 hf
          refine lv_iconst (v := (0 : Int32)) hx hb dX9_isPartOf_39 (by decide) ?_
          exact retZ E hW (Or.inl rfl) (e2M hf) dX9_isPartOf_40
        · replace hf := ite_f h13 hf
          refine lv_iconst (v := (1 : Int32)) hx hb dX9_isPartOf_35 (by decide) ?_
          refine lv_goto (tgt := 40) hx hb dX9_isPartOf_36 (by decide) ?_
          exact retZ E hW (Or.inr rfl) (e2M hf) dX9_isPartOf_40
      · replace hf := ite_f h10 hf
        refine lv_iconst (v := (1 : Int32)) hx hb dX9_isPartOf_23 (by decide) ?_
        refine lv_goto (tgt := 28) hx hb dX9_isPartOf_24 (by decide) ?_
        refine lv_iconst (v := (1 : Int32)) hx hb dX9_isPartOf_28 (by decide) ?_
        obtain ⟨r15, ms14, hc, hf⟩ := b2_e hf
        refine callVI (As := [.int _, .int _]) (rest := []) E hW (c_X9_may l hc) lk_X9_151 rcv_X9 (Nat.le_of_ble_eq_true rfl) (Nat.le_of_ble_eq_true rfl) (Nat.le_of_ble_eq_true rfl) (Nat.le_of_ble_eq_true rfl) hl.1 (Nat.le_of_ble_eq_true rfl) dX9_isPartOf_29 (fun H locs hW => ?_)
        refine lv_if_eq (tgt := 39) hx hb dX9_isPartOf_32 (by decide) (fun h16 => ?_) (fun h16 => ?_)
        · replace hf := ite_t h16 hf
          refine lv_iconst (v := (0 : Int32)) hx hb dX9_isPartOf_39 (by decide) ?_
          exact retZ E hW (Or.inl rfl) (e2M hf) dX9_isPartOf_40
        · replace hf := ite_f h16 hf
          refine lv_iconst (v := (1 : Int32)) hx hb dX9_isPartOf_35 (by decide) ?_
          refine lv_goto (tgt := 40) hx hb dX9_isPartOf_36 (by decide) ?_
          exact retZ E hW (Or.inr rfl) (e2M hf) dX9_isPartOf_40
def f_X9_hinders (ms : MS) (v1 : Int32) (v2 : Int32) : Option (Int32 × MS) := b2 (f_X9_isPartOf (miU ms 0 (0 : Int32)) v1 v2) fun r2 ms1 => if r2 = 0 then (some ((0 : Int32), ms1)) else ((f_X9_hindrance ms1 v1 v2).bind fun r4 => some (r4, ms1))
def rm_X9_hinders : Room := { frames := 3, cells := 0, slots := 0, locals := 65 }
set_option maxHeartbeats 4000000 in
set_option maxRecDepth 100000 in
theorem c_X9_hinders (l : Launch) {X : XT} {B : Nat} {cs : CS} {ms : MS} {o : Nat → Int64} {v1 : Int32} {v2 : Int32} {r : Int32} {S9 : MS} (hf : f_X9_hinders ms v1 v2 = some (r, S9)) : Met l yX9_hinders (.code yX9_hinders cX9_hinders 3 (some .int) :: BIG) rm_X9_hinders (Pre X B (cs, ms, o) [.ref (X.1 7), .int v1, .int v2]) (QI X B r (cs, S9, o)) 0 0 (Ab B) := by
  refine entry (by decide +kernel) rfl (Nat.le_of_ble_eq_true rfl) (fun p e s m below meth c ls E hW hl => ?_)
  obtain ⟨hx, hb, hml, hown, hts, -⟩ := id E
  replace hl : lv_has ls 3 [(0, .ref (X.1 7)), (1, .int v1), (2, .int v2)] := hl
  unfold f_X9_hinders at hf
  refine lv_aload_n hx hb dX9_hinders_0 rfl (lv_at hl 0 rfl) ?_
  refine lv_iconst (v := (0 : Int32)) hx hb dX9_hinders_1 (by decide) ?_
  refine rp_X9_1 E hW dX9_hinders_2 (fun H locs hW => ?_)
  refine lv_aload_n hx hb dX9_hinders_5 rfl (lv_at hl 0 rfl) ?_
  refine lv_iload_n hx hb dX9_hinders_6 rfl (lv_at hl 1 rfl) ?_
  refine lv_iload_n hx hb dX9_hinders_7 rfl (lv_at hl 2 rfl) ?_
  obtain ⟨r2, ms1, hc, hf⟩ := b2_e hf
  refine callVI (As := [.int _, .int _]) (rest := []) E hW (c_X9_isPartOf l hc) lk_X9_280 rcv_X9 (Nat.le_of_ble_eq_true rfl) (Nat.le_of_ble_eq_true rfl) (Nat.le_of_ble_eq_true rfl) (Nat.le_of_ble_eq_true rfl) hl.1 (Nat.le_of_ble_eq_true rfl) dX9_hinders_8 (fun H locs hW => ?_)
  refine lv_if_eq (tgt := 23) hx hb dX9_hinders_11 (by decide) (fun h3 => ?_) (fun h3 => ?_)
  · replace hf := ite_t h3 hf
    refine lv_iconst (v := (0 : Int32)) hx hb dX9_hinders_23 (by decide) ?_
    exact retI E hW (e2M hf) dX9_hinders_24
  · replace hf := ite_f h3 hf
    refine lv_aload_n hx hb dX9_hinders_14 rfl (lv_at hl 0 rfl) ?_
    refine lv_iload_n hx hb dX9_hinders_15 rfl (lv_at hl 1 rfl) ?_
    refine lv_iload_n hx hb dX9_hinders_16 rfl (lv_at hl 2 rfl) ?_
    obtain ⟨r4, hc, hf⟩ := b1_e hf
    refine callVI (As := [.int _, .int _]) (rest := []) E hW (c_X9_hindrance l hc) lk_X9_283 rcv_X9 (Nat.le_of_ble_eq_true rfl) (Nat.le_of_ble_eq_true rfl) (Nat.le_of_ble_eq_true rfl) (Nat.le_of_ble_eq_true rfl) hl.1 (Nat.le_of_ble_eq_true rfl) dX9_hinders_17 (fun H locs hW => ?_)
    refine lv_goto (tgt := 24) hx hb dX9_hinders_20 (by decide) ?_
    exact retI E hW (e2M hf) dX9_hinders_24
def f_X9_take (ms : MS) (v1 : Int32) (v2 : Int32) : Option (Int32 × MS) := b2 (f_X9_isPartOf (miU ms 0 (0 : Int32)) v1 v2) fun r2 ms1 => if r2 = 0 then (some ((0 : Int32), ms1)) else ((f_X9_hindrance ms1 v1 v2).bind fun r4 => if r4 ≤ 0 then (ixr 400 (mi ms1 12) <| ixr 400 (mi ms1 12) <| ixr 400 (mi ms1 12) <| ixr 400 (mi ms1 12) <| ixr 400 (mi ms1 12) <| (ldI (ma (miU (miU (maU (maU (maU (maU (maU ms1 63 ((mi ms1 12)).toNatClampNeg v1) 64 ((mi ms1 12)).toNatClampNeg v2) 65 ((mi ms1 12)).toNatClampNeg (0 : Int32)) 66 ((mi ms1 12)).toNatClampNeg (mi (maU (maU (maU ms1 63 ((mi ms1 12)).toNatClampNeg v1) 64 ((mi ms1 12)).toNatClampNeg v2) 65 ((mi ms1 12)).toNatClampNeg (0 : Int32)) 10)) 67 ((mi ms1 12)).toNatClampNeg (0 : Int32)) 12 ((mi (maU (maU (maU (maU (maU ms1 63 ((mi ms1 12)).toNatClampNeg v1) 64 ((mi ms1 12)).toNatClampNeg v2) 65 ((mi ms1 12)).toNatClampNeg (0 : Int32)) 66 ((mi ms1 12)).toNatClampNeg (mi (maU (maU (maU ms1 63 ((mi ms1 12)).toNatClampNeg v1) 64 ((mi ms1 12)).toNatClampNeg v2) 65 ((mi ms1 12)).toNatClampNeg (0 : Int32)) 10)) 67 ((mi ms1 12)).toNatClampNeg (0 : Int32)) 12) + (1 : Int32))) 13 ((mi (miU (maU (maU (maU (maU (maU ms1 63 ((mi ms1 12)).toNatClampNeg v1) 64 ((mi ms1 12)).toNatClampNeg v2) 65 ((mi ms1 12)).toNatClampNeg (0 : Int32)) 66 ((mi ms1 12)).toNatClampNeg (mi (maU (maU (maU ms1 63 ((mi ms1 12)).toNatClampNeg v1) 64 ((mi ms1 12)).toNatClampNeg v2) 65 ((mi ms1 12)).toNatClampNeg (0 : Int32)) 10)) 67 ((mi ms1 12)).toNatClampNeg (0 : Int32)) 12 ((mi (maU (maU (maU (maU (maU ms1 63 ((mi ms1 12)).toNatClampNeg v1) 64 ((mi ms1 12)).toNatClampNeg v2) 65 ((mi ms1 12)).toNatClampNeg (0 : Int32)) 66 ((mi ms1 12)).toNatClampNeg (mi (maU (maU (maU ms1 63 ((mi ms1 12)).toNatClampNeg v1) 64 ((mi ms1 12)).toNatClampNeg v2) 65 ((mi ms1 12)).toNatClampNeg (0 : Int32)) 10)) 67 ((mi ms1 12)).toNatClampNeg (0 : Int32)) 12) + (1 : Int32))) 13) + (1 : Int32))) 50) 40 v1).bind fun q12 => ixr 40 v1 <| (f_X9_stuffOf (maU (miU (miU (maU (maU (maU (maU (maU ms1 63 ((mi ms1 12)).toNatClampNeg v1) 64 ((mi ms1 12)).toNatClampNeg v2) 65 ((mi ms1 12)).toNatClampNeg (0 : Int32)) 66 ((mi ms1 12)).toNatClampNeg (mi (maU (maU (maU ms1 63 ((mi ms1 12)).toNatClampNeg v1) 64 ((mi ms1 12)).toNatClampNeg v2) 65 ((mi ms1 12)).toNatClampNeg (0 : Int32)) 10)) 67 ((mi ms1 12)).toNatClampNeg (0 : Int32)) 12 ((mi (maU (maU (maU (maU (maU ms1 63 ((mi ms1 12)).toNatClampNeg v1) 64 ((mi ms1 12)).toNatClampNeg v2) 65 ((mi ms1 12)).toNatClampNeg (0 : Int32)) 66 ((mi ms1 12)).toNatClampNeg (mi (maU (maU (maU ms1 63 ((mi ms1 12)).toNatClampNeg v1) 64 ((mi ms1 12)).toNatClampNeg v2) 65 ((mi ms1 12)).toNatClampNeg (0 : Int32)) 10)) 67 ((mi ms1 12)).toNatClampNeg (0 : Int32)) 12) + (1 : Int32))) 13 ((mi (miU (maU (maU (maU (maU (maU ms1 63 ((mi ms1 12)).toNatClampNeg v1) 64 ((mi ms1 12)).toNatClampNeg v2) 65 ((mi ms1 12)).toNatClampNeg (0 : Int32)) 66 ((mi ms1 12)).toNatClampNeg (mi (maU (maU (maU ms1 63 ((mi ms1 12)).toNatClampNeg v1) 64 ((mi ms1 12)).toNatClampNeg v2) 65 ((mi ms1 12)).toNatClampNeg (0 : Int32)) 10)) 67 ((mi ms1 12)).toNatClampNeg (0 : Int32)) 12 ((mi (maU (maU (maU (maU (maU ms1 63 ((mi ms1 12)).toNatClampNeg v1) 64 ((mi ms1 12)).toNatClampNeg v2) 65 ((mi ms1 12)).toNatClampNeg (0 : Int32)) 66 ((mi ms1 12)).toNatClampNeg (mi (maU (maU (maU ms1 63 ((mi ms1 12)).toNatClampNeg v1) 64 ((mi ms1 12)).toNatClampNeg v2) 65 ((mi ms1 12)).toNatClampNeg (0 : Int32)) 10)) 67 ((mi ms1 12)).toNatClampNeg (0 : Int32)) 12) + (1 : Int32))) 13) + (1 : Int32))) 50 (v1).toNatClampNeg (q12 &&& (((1 : Int32) <<< (v2 &&& 31)) ^^^ (-1 : Int32)))) (mi ms1 12)).bind fun r14 => (ldL (mb (maU (miU (miU (maU (maU (maU (maU (maU ms1 63 ((mi ms1 12)).toNatClampNeg v1) 64 ((mi ms1 12)).toNatClampNeg v2) 65 ((mi ms1 12)).toNatClampNeg (0 : Int32)) 66 ((mi ms1 12)).toNatClampNeg (mi (maU (maU (maU ms1 63 ((mi ms1 12)).toNatClampNeg v1) 64 ((mi ms1 12)).toNatClampNeg v2) 65 ((mi ms1 12)).toNatClampNeg (0 : Int32)) 10)) 67 ((mi ms1 12)).toNatClampNeg (0 : Int32)) 12 ((mi (maU (maU (maU (maU (maU ms1 63 ((mi ms1 12)).toNatClampNeg v1) 64 ((mi ms1 12)).toNatClampNeg v2) 65 ((mi ms1 12)).toNatClampNeg (0 : Int32)) 66 ((mi ms1 12)).toNatClampNeg (mi (maU (maU (maU ms1 63 ((mi ms1 12)).toNatClampNeg v1) 64 ((mi ms1 12)).toNatClampNeg v2) 65 ((mi ms1 12)).toNatClampNeg (0 : Int32)) 10)) 67 ((mi ms1 12)).toNatClampNeg (0 : Int32)) 12) + (1 : Int32))) 13 ((mi (miU (maU (maU (maU (maU (maU ms1 63 ((mi ms1 12)).toNatClampNeg v1) 64 ((mi ms1 12)).toNatClampNeg v2) 65 ((mi ms1 12)).toNatClampNeg (0 : Int32)) 66 ((mi ms1 12)).toNatClampNeg (mi (maU (maU (maU ms1 63 ((mi ms1 12)).toNatClampNeg v1) 64 ((mi ms1 12)).toNatClampNeg v2) 65 ((mi ms1 12)).toNatClampNeg (0 : Int32)) 10)) 67 ((mi ms1 12)).toNatClampNeg (0 : Int32)) 12 ((mi (maU (maU (maU (maU (maU ms1 63 ((mi ms1 12)).toNatClampNeg v1) 64 ((mi ms1 12)).toNatClampNeg v2) 65 ((mi ms1 12)).toNatClampNeg (0 : Int32)) 66 ((mi ms1 12)).toNatClampNeg (mi (maU (maU (maU ms1 63 ((mi ms1 12)).toNatClampNeg v1) 64 ((mi ms1 12)).toNatClampNeg v2) 65 ((mi ms1 12)).toNatClampNeg (0 : Int32)) 10)) 67 ((mi ms1 12)).toNatClampNeg (0 : Int32)) 12) + (1 : Int32))) 13) + (1 : Int32))) 50 (v1).toNatClampNeg (q12 &&& (((1 : Int32) <<< (v2 &&& 31)) ^^^ (-1 : Int32)))) 58) 4 r14).bind fun q16 => (f_X9_gramsOf (maU (miU (miU (maU (maU (maU (maU (maU ms1 63 ((mi ms1 12)).toNatClampNeg v1) 64 ((mi ms1 12)).toNatClampNeg v2) 65 ((mi ms1 12)).toNatClampNeg (0 : Int32)) 66 ((mi ms1 12)).toNatClampNeg (mi (maU (maU (maU ms1 63 ((mi ms1 12)).toNatClampNeg v1) 64 ((mi ms1 12)).toNatClampNeg v2) 65 ((mi ms1 12)).toNatClampNeg (0 : Int32)) 10)) 67 ((mi ms1 12)).toNatClampNeg (0 : Int32)) 12 ((mi (maU (maU (maU (maU (maU ms1 63 ((mi ms1 12)).toNatClampNeg v1) 64 ((mi ms1 12)).toNatClampNeg v2) 65 ((mi ms1 12)).toNatClampNeg (0 : Int32)) 66 ((mi ms1 12)).toNatClampNeg (mi (maU (maU (maU ms1 63 ((mi ms1 12)).toNatClampNeg v1) 64 ((mi ms1 12)).toNatClampNeg v2) 65 ((mi ms1 12)).toNatClampNeg (0 : Int32)) 10)) 67 ((mi ms1 12)).toNatClampNeg (0 : Int32)) 12) + (1 : Int32))) 13 ((mi (miU (maU (maU (maU (maU (maU ms1 63 ((mi ms1 12)).toNatClampNeg v1) 64 ((mi ms1 12)).toNatClampNeg v2) 65 ((mi ms1 12)).toNatClampNeg (0 : Int32)) 66 ((mi ms1 12)).toNatClampNeg (mi (maU (maU (maU ms1 63 ((mi ms1 12)).toNatClampNeg v1) 64 ((mi ms1 12)).toNatClampNeg v2) 65 ((mi ms1 12)).toNatClampNeg (0 : Int32)) 10)) 67 ((mi ms1 12)).toNatClampNeg (0 : Int32)) 12 ((mi (maU (maU (maU (maU (maU ms1 63 ((mi ms1 12)).toNatClampNeg v1) 64 ((mi ms1 12)).toNatClampNeg v2) 65 ((mi ms1 12)).toNatClampNeg (0 : Int32)) 66 ((mi ms1 12)).toNatClampNeg (mi (maU (maU (maU ms1 63 ((mi ms1 12)).toNatClampNeg v1) 64 ((mi ms1 12)).toNatClampNeg v2) 65 ((mi ms1 12)).toNatClampNeg (0 : Int32)) 10)) 67 ((mi ms1 12)).toNatClampNeg (0 : Int32)) 12) + (1 : Int32))) 13) + (1 : Int32))) 50 (v1).toNatClampNeg (q12 &&& (((1 : Int32) <<< (v2 &&& 31)) ^^^ (-1 : Int32)))) (mi ms1 12)).bind fun r17 => ixr 4 r14 <| (f_X9_acted (mbU (maU (miU (miU (maU (maU (maU (maU (maU ms1 63 ((mi ms1 12)).toNatClampNeg v1) 64 ((mi ms1 12)).toNatClampNeg v2) 65 ((mi ms1 12)).toNatClampNeg (0 : Int32)) 66 ((mi ms1 12)).toNatClampNeg (mi (maU (maU (maU ms1 63 ((mi ms1 12)).toNatClampNeg v1) 64 ((mi ms1 12)).toNatClampNeg v2) 65 ((mi ms1 12)).toNatClampNeg (0 : Int32)) 10)) 67 ((mi ms1 12)).toNatClampNeg (0 : Int32)) 12 ((mi (maU (maU (maU (maU (maU ms1 63 ((mi ms1 12)).toNatClampNeg v1) 64 ((mi ms1 12)).toNatClampNeg v2) 65 ((mi ms1 12)).toNatClampNeg (0 : Int32)) 66 ((mi ms1 12)).toNatClampNeg (mi (maU (maU (maU ms1 63 ((mi ms1 12)).toNatClampNeg v1) 64 ((mi ms1 12)).toNatClampNeg v2) 65 ((mi ms1 12)).toNatClampNeg (0 : Int32)) 10)) 67 ((mi ms1 12)).toNatClampNeg (0 : Int32)) 12) + (1 : Int32))) 13 ((mi (miU (maU (maU (maU (maU (maU ms1 63 ((mi ms1 12)).toNatClampNeg v1) 64 ((mi ms1 12)).toNatClampNeg v2) 65 ((mi ms1 12)).toNatClampNeg (0 : Int32)) 66 ((mi ms1 12)).toNatClampNeg (mi (maU (maU (maU ms1 63 ((mi ms1 12)).toNatClampNeg v1) 64 ((mi ms1 12)).toNatClampNeg v2) 65 ((mi ms1 12)).toNatClampNeg (0 : Int32)) 10)) 67 ((mi ms1 12)).toNatClampNeg (0 : Int32)) 12 ((mi (maU (maU (maU (maU (maU ms1 63 ((mi ms1 12)).toNatClampNeg v1) 64 ((mi ms1 12)).toNatClampNeg v2) 65 ((mi ms1 12)).toNatClampNeg (0 : Int32)) 66 ((mi ms1 12)).toNatClampNeg (mi (maU (maU (maU ms1 63 ((mi ms1 12)).toNatClampNeg v1) 64 ((mi ms1 12)).toNatClampNeg v2) 65 ((mi ms1 12)).toNatClampNeg (0 : Int32)) 10)) 67 ((mi ms1 12)).toNatClampNeg (0 : Int32)) 12) + (1 : Int32))) 13) + (1 : Int32))) 50 (v1).toNatClampNeg (q12 &&& (((1 : Int32) <<< (v2 &&& 31)) ^^^ (-1 : Int32)))) 58 (r14).toNatClampNeg (q16 + r17.toInt64)) (3 : Int32) v1 (mi ms1 12)).bind fun ms19 => some ((mi ms1 12), ms19)) else (some ((-r4), ms1)))
def rm_X9_take : Room := { frames := 3, cells := 0, slots := 0, locals := 65 }
set_option maxHeartbeats 4000000 in
set_option maxRecDepth 100000 in
theorem c_X9_take (l : Launch) {X : XT} {B : Nat} {cs : CS} {ms : MS} {o : Nat → Int64} {v1 : Int32} {v2 : Int32} {r : Int32} {S9 : MS} (hf : f_X9_take ms v1 v2 = some (r, S9)) : Met l yX9_take (.code yX9_take cX9_take 5 (some .int) :: BIG) rm_X9_take (Pre X B (cs, ms, o) [.ref (X.1 7), .int v1, .int v2]) (QI X B r (cs, S9, o)) 0 0 (Ab B) := by
  refine entry (by decide +kernel) rfl (Nat.le_of_ble_eq_true rfl) (fun p e s m below meth c ls E hW hl => ?_)
  obtain ⟨hx, hb, hml, hown, hts, -⟩ := id E
  replace hl : lv_has ls 5 [(0, .ref (X.1 7)), (1, .int v1), (2, .int v2)] := hl
  unfold f_X9_take at hf
  refine lv_aload_n hx hb dX9_take_0 rfl (lv_at hl 0 rfl) ?_
  refine lv_iconst (v := (0 : Int32)) hx hb dX9_take_1 (by decide) ?_
  refine rp_X9_1 E hW dX9_take_2 (fun H locs hW => ?_)
  refine lv_aload_n hx hb dX9_take_5 rfl (lv_at hl 0 rfl) ?_
  refine lv_iload_n hx hb dX9_take_6 rfl (lv_at hl 1 rfl) ?_
  refine lv_iload_n hx hb dX9_take_7 rfl (lv_at hl 2 rfl) ?_
  obtain ⟨r2, ms1, hc, hf⟩ := b2_e hf
  refine callVI (As := [.int _, .int _]) (rest := []) E hW (c_X9_isPartOf l hc) lk_X9_280 rcv_X9 (Nat.le_of_ble_eq_true rfl) (Nat.le_of_ble_eq_true rfl) (Nat.le_of_ble_eq_true rfl) (Nat.le_of_ble_eq_true rfl) hl.1 (Nat.le_of_ble_eq_true rfl) dX9_take_8 (fun H locs hW => ?_)
  refine lv_if_ne (tgt := 16) hx hb dX9_take_11 (by decide) (fun h3 => ?_) (fun h3 => ?_)
  · replace hf := ite_f h3 hf
    refine lv_aload_n hx hb dX9_take_16 rfl (lv_at hl 0 rfl) ?_
    refine lv_iload_n hx hb dX9_take_17 rfl (lv_at hl 1 rfl) ?_
    refine lv_iload_n hx hb dX9_take_18 rfl (lv_at hl 2 rfl) ?_
    obtain ⟨r4, hc, hf⟩ := b1_e hf
    refine callVI (As := [.int _, .int _]) (rest := []) E hW (c_X9_hindrance l hc) lk_X9_283 rcv_X9 (Nat.le_of_ble_eq_true rfl) (Nat.le_of_ble_eq_true rfl) (Nat.le_of_ble_eq_true rfl) (Nat.le_of_ble_eq_true rfl) hl.1 (Nat.le_of_ble_eq_true rfl) dX9_take_19 (fun H locs hW => ?_)
    refine lv_istore_n (lv' := [_, _, _, _]) hx hb dX9_take_22 rfl hl (by decide) rfl (fun ls hl => ?_)
    refine lv_iload_n hx hb dX9_take_23 rfl (lv_at hl 0 rfl) ?_
    refine lv_if_le (tgt := 30) hx hb dX9_take_24 (by decide) (fun h5 => ?_) (fun h5 => ?_)
    · replace hf := ite_t h5 hf
      refine lv_aload_n hx hb dX9_take_30 rfl (lv_at hl 1 rfl) ?_
      refine rg_X9_277 E hW dX9_take_31 ?_
      refine lv_istore (lv' := [_, _, _, _, _]) hx hb dX9_take_34 hl (by decide) rfl (fun ls hl => ?_)
      refine lv_aload_n hx hb dX9_take_36 rfl (lv_at hl 2 rfl) ?_
      refine rg_X9_124 E hW dX9_take_37 ?_
      refine lv_iload hx hb dX9_take_40 (lv_at hl 0 rfl) ?_
      refine lv_iload_n hx hb dX9_take_42 rfl (lv_at hl 3 rfl) ?_
      obtain ⟨v6, hf⟩ := ixr_e hf
      refine rs_63 E hW v6 dX9_take_43 (fun H locs hW => ?_)
      refine lv_aload_n hx hb dX9_take_44 rfl (lv_at hl 2 rfl) ?_
      refine rg_X9_127 E hW dX9_take_45 ?_
      refine lv_iload hx hb dX9_take_48 (lv_at hl 0 rfl) ?_
      refine lv_iload_n hx hb dX9_take_50 rfl (lv_at hl 4 rfl) ?_
      obtain ⟨v7, hf⟩ := ixr_e hf
      refine rs_64 E hW v7 dX9_take_51 (fun H locs hW => ?_)
      refine lv_aload_n hx hb dX9_take_52 rfl (lv_at hl 2 rfl) ?_
      refine rg_X9_130 E hW dX9_take_53 ?_
      refine lv_iload hx hb dX9_take_56 (lv_at hl 0 rfl) ?_
      refine lv_iconst (v := (0 : Int32)) hx hb dX9_take_58 (by decide) ?_
      obtain ⟨v8, hf⟩ := ixr_e hf
      refine rs_65 E hW v8 dX9_take_59 (fun H locs hW => ?_)
      refine lv_aload_n hx hb dX9_take_60 rfl (lv_at hl 2 rfl) ?_
      refine rg_X9_133 E hW dX9_take_61 ?_
      refine lv_iload hx hb dX9_take_64 (lv_at hl 0 rfl) ?_
      refine lv_aload_n hx hb dX9_take_66 rfl (lv_at hl 2 rfl) ?_
      refine rg_X9_248 E hW dX9_take_67 ?_
      obtain ⟨v9, hf⟩ := ixr_e hf
      refine rs_66 E hW v9 dX9_take_70 (fun H locs hW => ?_)
      refine lv_aload_n hx hb dX9_take_71 rfl (lv_at hl 2 rfl) ?_
      refine rg_X9_136 E hW dX9_take_72 ?_
      refine lv_iload hx hb dX9_take_75 (lv_at hl 0 rfl) ?_
      refine lv_iconst (v := (0 : Int32)) hx hb dX9_take_77 (by decide) ?_
      obtain ⟨v10, hf⟩ := ixr_e hf
      refine rs_67 E hW v10 dX9_take_78 (fun H locs hW => ?_)
      refine lv_aload_n hx hb dX9_take_79 rfl (lv_at hl 2 rfl) ?_
      refine lv_dup hx hb dX9_take_80 rfl ?_
      refine rg_X9_277 E hW dX9_take_81 ?_
      refine lv_iconst (v := (1 : Int32)) hx hb dX9_take_84 (by decide) ?_
      refine lv_iadd hx hb dX9_take_85 ?_
      refine rp_X9_277 E hW dX9_take_86 (fun H locs hW => ?_)
      refine lv_aload_n hx hb dX9_take_89 rfl (lv_at hl 2 rfl) ?_
      refine lv_dup hx hb dX9_take_90 rfl ?_
      refine rg_X9_258 E hW dX9_take_91 ?_
      refine lv_iconst (v := (1 : Int32)) hx hb dX9_take_94 (by decide) ?_
      refine lv_iadd hx hb dX9_take_95 ?_
      refine rp_X9_258 E hW dX9_take_96 (fun H locs hW => ?_)
      refine lv_aload_n hx hb dX9_take_99 rfl (lv_at hl 2 rfl) ?_
      refine rg_X9_85 E hW dX9_take_100 ?_
      refine lv_iload_n hx hb dX9_take_103 rfl (lv_at hl 3 rfl) ?_
      refine lv_dup2_11 hx hb dX9_take_104 rfl rfl ?_
      obtain ⟨v11, hf⟩ := ldI_e hf
      refine ra_50 E hW v11 dX9_take_105 ?_
      refine lv_iconst (v := (1 : Int32)) hx hb dX9_take_106 (by decide) ?_
      refine lv_iload_n hx hb dX9_take_107 rfl (lv_at hl 4 rfl) ?_
      refine lv_ishl hx hb dX9_take_108 ?_
      refine lv_iconst (v := (-1 : Int32)) hx hb dX9_take_109 (by decide) ?_
      refine lv_ixor hx hb dX9_take_110 ?_
      refine lv_iand hx hb dX9_take_111 ?_
      obtain ⟨v13, hf⟩ := ixr_e hf
      refine rs_50 E hW v13 dX9_take_112 (fun H locs hW => ?_)
      refine lv_aload_n hx hb dX9_take_113 rfl (lv_at hl 2 rfl) ?_
      refine rg_X9_109 E hW dX9_take_114 ?_
      refine lv_aload_n hx hb dX9_take_117 rfl (lv_at hl 2 rfl) ?_
      refine lv_iload hx hb dX9_take_118 (lv_at hl 0 rfl) ?_
      obtain ⟨r14, hc, hf⟩ := b1_e hf
      refine callVI (As := [.int _]) (rest := [_]) E hW (c_X9_stuffOf l hc) lk_X9_251 rcv_X9 (Nat.le_of_ble_eq_true rfl) (Nat.le_of_ble_eq_true rfl) (Nat.le_of_ble_eq_true rfl) (Nat.le_of_ble_eq_true rfl) hl.1 (Nat.le_of_ble_eq_true rfl) dX9_take_120 (fun H locs hW => ?_)
      refine lv_dup2_11 hx hb dX9_take_123 rfl rfl ?_
      obtain ⟨v15, hf⟩ := ldL_e hf
      refine ra_58 E hW v15 dX9_take_124 ?_
      refine lv_aload_n hx hb dX9_take_125 rfl (lv_at hl 2 rfl) ?_
      refine lv_iload hx hb dX9_take_126 (lv_at hl 0 rfl) ?_
      obtain ⟨r17, hc, hf⟩ := b1_e hf
      refine callVI (As := [.int _]) (rest := [_, _, _]) E hW (c_X9_gramsOf l hc) lk_X9_255 rcv_X9 (Nat.le_of_ble_eq_true rfl) (Nat.le_of_ble_eq_true rfl) (Nat.le_of_ble_eq_true rfl) (Nat.le_of_ble_eq_true rfl) hl.1 (Nat.le_of_ble_eq_true rfl) dX9_take_128 (fun H locs hW => ?_)
      refine lv_i2l hx hb dX9_take_131 rfl ?_
      refine lv_ladd hx hb dX9_take_132 ?_
      obtain ⟨v18, hf⟩ := ixr_e hf
      refine rs_58 E hW v18 dX9_take_133 (fun H locs hW => ?_)
      refine lv_aload_n hx hb dX9_take_134 rfl (lv_at hl 2 rfl) ?_
      refine lv_iconst (v := (3 : Int32)) hx hb dX9_take_135 (by decide) ?_
      refine lv_iload_n hx hb dX9_take_136 rfl (lv_at hl 3 rfl) ?_
      refine lv_iload hx hb dX9_take_137 (lv_at hl 0 rfl) ?_
      obtain ⟨ms19, hc, hf⟩ := b1_e hf
      refine callVV (As := [.int _, .int _, .int _]) (rest := []) E hW (c_X9_acted l hc) lk_X9_271 rcv_X9 (Nat.le_of_ble_eq_true rfl) (Nat.le_of_ble_eq_true rfl) (Nat.le_of_ble_eq_true rfl) (Nat.le_of_ble_eq_true rfl) hl.1 (Nat.le_of_ble_eq_true rfl) dX9_take_139 (fun H locs hW => ?_)
      refine lv_iload hx hb dX9_take_142 (lv_at hl 0 rfl) ?_
      exact retI E hW (e2M hf) dX9_take_144
    · replace hf := ite_f h5 hf
      refine lv_iload_n hx hb dX9_take_27 rfl (lv_at hl 0 rfl) ?_
      refine lv_ineg hx hb dX9_take_28 ?_
      exact retI E hW (e2M hf) dX9_take_29
  · replace hf := ite_t h3 hf
    refine lv_iconst (v := (0 : Int32)) hx hb dX9_take_14 (by decide) ?_
    exact retI E hW (e2M hf) dX9_take_15
def f_X9_press_107 : Nat → MS → Int32 → Int32 → Int32 → Int32 → Option (Int32 × MS)
  | 0, _, _, _, _, _ => none
  | n + 1, ms, v1, v2, v3, v4 => (ldI (ma ms 49) 40 v1).bind fun q19 => if q19 ≤ v4 then (ixr 40 v1 <| ixr 40 v1 <| some (v3, (miU (maU (maU ms 50 (v1).toNatClampNeg (0 : Int32)) 54 (v1).toNatClampNeg (vp_nar .boolean (1 : Int32))) 11 (0 : Int32)))) else ((f_X9_isOn ms v1 v4).bind fun r23 => if r23 = 0 then (f_X9_press_107 n ms v1 v2 v3 (v4 + (1 : Int32))) else ((ldI (ma ms 42) 192 (v2 + v4)).bind fun q26 => (ldI (ma ms 43) 192 (v2 + v4)).bind fun q28 => (ldL (mb ms 57) 4 q28).bind fun q30 => (ldI (ma ms 42) 192 (v2 + v4)).bind fun q32 => ixr 4 q28 <| f_X9_press_107 n (mbU ms 57 (q28).toNatClampNeg (q30 + q32.toInt64)) v1 v2 (v3 + q26) (v4 + (1 : Int32))))
def f_X9_press_62 : Nat → MS → Int32 → Int32 → Int32 → Option (Int32 × MS)
  | 0, _, _, _, _ => none
  | n + 1, ms, v1, v2, v3 => (ldI (ma ms 49) 40 v1).bind fun q16 => if q16 ≤ v3 then (f_X9_press_107 1000 ms v1 v2 (0 : Int32) (0 : Int32)) else ((f_X9_isOn ms v1 v3).bind fun r34 => if r34 = 0 then (f_X9_press_62 n ms v1 v2 (v3 + (1 : Int32))) else ((ldI (ma ms 38) 192 (v2 + v3)).bind fun q37 => if q37 = (4 : Int32) then (some ((-4 : Int32), ms)) else (f_X9_press_62 n ms v1 v2 (v3 + (1 : Int32)))))
def f_X9_press (ms : MS) (v1 : Int32) : Option (Int32 × MS) := b2 (f_X9_isCar (miU ms 0 (0 : Int32)) v1) fun r2 ms1 => if r2 = 0 then (some ((0 : Int32), ms1)) else ((ldI (ma ms1 54) 40 v1).bind fun q5 => if q5 = 0 then ((ldI (ma ms1 52) 40 v1).bind fun q8 => if q8 = 0 then (some ((-2 : Int32), ms1)) else ((ldI (ma ms1 53) 40 v1).bind fun q11 => if q11 = 0 then (some ((-3 : Int32), ms1)) else ((ldI (ma ms1 46) 40 v1).bind fun q14 => f_X9_press_62 1000 ms1 v1 ((24 : Int32) * q14) (0 : Int32)))) else (some ((-1 : Int32), ms1)))
def rm_X9_press : Room := { frames := 2, cells := 0, slots := 0, locals := 43 }
set_option maxHeartbeats 4000000 in
set_option maxRecDepth 100000 in
theorem w_X9_press_107 {p : Program} {l : Launch} {e : Env} {s : State} {m : MethodId} {args : Array Value} {below : List Frame} {meth : Method} {c : Code} {X : XT} {B : Nat} {cs : CS} {o : Nat → Int64} {r : Int32} {S9 : MS} (E : Ev X B p s m args meth c RX9 cX9_press 5 (some .int)) : ∀ (n : Nat) (ms : MS) (v1 : Int32) (v2 : Int32) (v3 : Int32) (v4 : Int32) (H : Heap) (locs : List Loc) (ls : Array Slot), f_X9_press_107 n ms v1 v2 v3 v4 = some (r, S9) → Ws X B s.heap H locs (cs, ms, o) → lv_has ls 5 [(0, .ref (X.1 7)), (1, .int v1), (2, .int v2), (3, .int v3), (4, .int v4)] → W p l e rm_X9_press s m args below meth c H locs 0 0 (MQ below (QI X B r (cs, S9, o)) args s 0 0 (Ab B)) (F0 m 107 ls []) := by
  obtain ⟨hx, hb, hml, hown, hts, -⟩ := id E
  intro n
  induction n with
  | zero => intro ms v1 v2 v3 v4 H locs ls hf; exact absurd hf nofun
  | succ n ih =>
    intro ms v1 v2 v3 v4 H locs ls hf hW hl
    rw [f_X9_press_107] at hf
    refine lv_iload hx hb dX9_press_107 (lv_at hl 4 rfl) ?_
    refine lv_aload_n hx hb dX9_press_109 rfl (lv_at hl 0 rfl) ?_
    refine rg_X9_82 E hW dX9_press_110 ?_
    refine lv_iload_n hx hb dX9_press_113 rfl (lv_at hl 1 rfl) ?_
    obtain ⟨v18, hf⟩ := ldI_e hf
    refine ra_49 E hW v18 dX9_press_114 ?_
    refine lv_icmp_ge (tgt := 176) hx hb dX9_press_115 (by decide) (fun h20 => ?_) (fun h20 => ?_)
    · replace hf := ite_t h20 hf
      refine lv_aload_n hx hb dX9_press_176 rfl (lv_at hl 0 rfl) ?_
      refine rg_X9_85 E hW dX9_press_177 ?_
      refine lv_iload_n hx hb dX9_press_180 rfl (lv_at hl 1 rfl) ?_
      refine lv_iconst (v := (0 : Int32)) hx hb dX9_press_181 (by decide) ?_
      obtain ⟨v21, hf⟩ := ixr_e hf
      refine rs_50 E hW v21 dX9_press_182 (fun H locs hW => ?_)
      refine lv_aload_n hx hb dX9_press_183 rfl (lv_at hl 0 rfl) ?_
      refine rg_X9_97 E hW dX9_press_184 ?_
      refine lv_iload_n hx hb dX9_press_187 rfl (lv_at hl 1 rfl) ?_
      refine lv_iconst (v := (1 : Int32)) hx hb dX9_press_188 (by decide) ?_
      obtain ⟨v22, hf⟩ := ixr_e hf
      refine rs_54 E hW v22 dX9_press_189 (fun H locs hW => ?_)
      refine lv_aload_n hx hb dX9_press_190 rfl (lv_at hl 0 rfl) ?_
      refine lv_iconst (v := (0 : Int32)) hx hb dX9_press_191 (by decide) ?_
      refine rp_X9_241 E hW dX9_press_192 (fun H locs hW => ?_)
      refine lv_iload_n hx hb dX9_press_195 rfl (lv_at hl 3 rfl) ?_
      exact retI E hW (e2M hf) dX9_press_196
    · replace hf := ite_f h20 hf
      refine lv_aload_n hx hb dX9_press_118 rfl (lv_at hl 0 rfl) ?_
      refine lv_iload_n hx hb dX9_press_119 rfl (lv_at hl 1 rfl) ?_
      refine lv_iload hx hb dX9_press_120 (lv_at hl 4 rfl) ?_
      obtain ⟨r23, hc, hf⟩ := b1_e hf
      refine callVI (As := [.int _, .int _]) (rest := []) E hW (c_X9_isOn l hc) lk_X9_264 rcv_X9 (Nat.le_of_ble_eq_true rfl) (Nat.le_of_ble_eq_true rfl) (Nat.le_of_ble_eq_true rfl) (Nat.le_of_ble_eq_true rfl) hl.1 (Nat.le_of_ble_eq_true rfl) dX9_press_122 (fun H locs hW => ?_)
      refine lv_if_ne (tgt := 131) hx hb dX9_press_125 (by decide) (fun h24 => ?_) (fun h24 => ?_)
      · replace hf := ite_f h24 hf
        refine lv_iload_n hx hb dX9_press_131 rfl (lv_at hl 3 rfl) ?_
        refine lv_aload_n hx hb dX9_press_132 rfl (lv_at hl 0 rfl) ?_
        refine rg_X9_61 E hW dX9_press_133 ?_
        refine lv_iload_n hx hb dX9_press_136 rfl (lv_at hl 2 rfl) ?_
        refine lv_iload hx hb dX9_press_137 (lv_at hl 4 rfl) ?_
        refine lv_iadd hx hb dX9_press_139 ?_
        obtain ⟨v25, hf⟩ := ldI_e hf
        refine ra_42 E hW v25 dX9_press_140 ?_
        refine lv_iadd hx hb dX9_press_141 ?_
        refine lv_istore_n (lv' := [_, _, _, _, _]) hx hb dX9_press_142 rfl hl (by decide) rfl (fun ls hl => ?_)
        refine lv_aload_n hx hb dX9_press_143 rfl (lv_at hl 1 rfl) ?_
        refine rg_X9_106 E hW dX9_press_144 ?_
        refine lv_aload_n hx hb dX9_press_147 rfl (lv_at hl 1 rfl) ?_
        refine rg_X9_64 E hW dX9_press_148 ?_
        refine lv_iload_n hx hb dX9_press_151 rfl (lv_at hl 3 rfl) ?_
        refine lv_iload hx hb dX9_press_152 (lv_at hl 4 rfl) ?_
        refine lv_iadd hx hb dX9_press_154 ?_
        obtain ⟨v27, hf⟩ := ldI_e hf
        refine ra_43 E hW v27 dX9_press_155 ?_
        refine lv_dup2_11 hx hb dX9_press_156 rfl rfl ?_
        obtain ⟨v29, hf⟩ := ldL_e hf
        refine ra_57 E hW v29 dX9_press_157 ?_
        refine lv_aload_n hx hb dX9_press_158 rfl (lv_at hl 1 rfl) ?_
        refine rg_X9_61 E hW dX9_press_159 ?_
        refine lv_iload_n hx hb dX9_press_162 rfl (lv_at hl 3 rfl) ?_
        refine lv_iload hx hb dX9_press_163 (lv_at hl 4 rfl) ?_
        refine lv_iadd hx hb dX9_press_165 ?_
        obtain ⟨v31, hf⟩ := ldI_e hf
        refine ra_42 E hW v31 dX9_press_166 ?_
        refine lv_i2l hx hb dX9_press_167 rfl ?_
        refine lv_ladd hx hb dX9_press_168 ?_
        obtain ⟨v33, hf⟩ := ixr_e hf
        refine rs_57 E hW v33 dX9_press_169 (fun H locs hW => ?_)
        refine lv_iinc (v := _ + (1 : Int32)) (lv' := [_, _, _, _, _]) hx hb dX9_press_170 hl (k := 4) rfl rfl (by decide) rfl (fun ls hl => ?_)
        refine lv_goto (tgt := 107) hx hb dX9_press_173 (by decide) ?_
        exact ih _ _ _ _ _ _ _ _ hf hW (lv_sub hl [2, 3, 4, 1, 0] rfl)
      · replace hf := ite_t h24 hf
        refine lv_goto (tgt := 170) hx hb dX9_press_128 (by decide) ?_
        refine lv_iinc (v := _ + (1 : Int32)) (lv' := [_, _, _, _, _]) hx hb dX9_press_170 hl (k := 4) rfl rfl (by decide) rfl (fun ls hl => ?_)
        refine lv_goto (tgt := 107) hx hb dX9_press_173 (by decide) ?_
        exact ih _ _ _ _ _ _ _ _ hf hW (lv_sub hl [1, 2, 3, 4, 0] rfl)
set_option maxHeartbeats 4000000 in
set_option maxRecDepth 100000 in
theorem w_X9_press_62 {p : Program} {l : Launch} {e : Env} {s : State} {m : MethodId} {args : Array Value} {below : List Frame} {meth : Method} {c : Code} {X : XT} {B : Nat} {cs : CS} {o : Nat → Int64} {r : Int32} {S9 : MS} (E : Ev X B p s m args meth c RX9 cX9_press 5 (some .int)) : ∀ (n : Nat) (ms : MS) (v1 : Int32) (v2 : Int32) (v3 : Int32) (H : Heap) (locs : List Loc) (ls : Array Slot), f_X9_press_62 n ms v1 v2 v3 = some (r, S9) → Ws X B s.heap H locs (cs, ms, o) → lv_has ls 5 [(0, .ref (X.1 7)), (1, .int v1), (2, .int v2), (3, .int v3)] → W p l e rm_X9_press s m args below meth c H locs 0 0 (MQ below (QI X B r (cs, S9, o)) args s 0 0 (Ab B)) (F0 m 62 ls []) := by
  obtain ⟨hx, hb, hml, hown, hts, -⟩ := id E
  intro n
  induction n with
  | zero => intro ms v1 v2 v3 H locs ls hf; exact absurd hf nofun
  | succ n ih =>
    intro ms v1 v2 v3 H locs ls hf hW hl
    rw [f_X9_press_62] at hf
    refine lv_iload_n hx hb dX9_press_62 rfl (lv_at hl 3 rfl) ?_
    refine lv_aload_n hx hb dX9_press_63 rfl (lv_at hl 0 rfl) ?_
    refine rg_X9_82 E hW dX9_press_64 ?_
    refine lv_iload_n hx hb dX9_press_67 rfl (lv_at hl 1 rfl) ?_
    obtain ⟨v15, hf⟩ := ldI_e hf
    refine ra_49 E hW v15 dX9_press_68 ?_
    refine lv_icmp_ge (tgt := 102) hx hb dX9_press_69 (by decide) (fun h17 => ?_) (fun h17 => ?_)
    · replace hf := ite_t h17 hf
      refine lv_iconst (v := (0 : Int32)) hx hb dX9_press_102 (by decide) ?_
      refine lv_istore_n (lv' := [_, _, _, _]) hx hb dX9_press_103 rfl hl (by decide) rfl (fun ls hl => ?_)
      refine lv_iconst (v := (0 : Int32)) hx hb dX9_press_104 (by decide) ?_
      refine lv_istore (lv' := [_, _, _, _, _]) hx hb dX9_press_105 hl (by decide) rfl (fun ls hl => ?_)
      exact w_X9_press_107 E 1000 _ _ _ _ _ _ _ _ hf hW (lv_sub hl [2, 3, 4, 1, 0] rfl)
    · replace hf := ite_f h17 hf
      refine lv_aload_n hx hb dX9_press_72 rfl (lv_at hl 0 rfl) ?_
      refine lv_iload_n hx hb dX9_press_73 rfl (lv_at hl 1 rfl) ?_
      refine lv_iload_n hx hb dX9_press_74 rfl (lv_at hl 3 rfl) ?_
      obtain ⟨r34, hc, hf⟩ := b1_e hf
      refine callVI (As := [.int _, .int _]) (rest := []) E hW (c_X9_isOn l hc) lk_X9_264 rcv_X9 (Nat.le_of_ble_eq_true rfl) (Nat.le_of_ble_eq_true rfl) (Nat.le_of_ble_eq_true rfl) (Nat.le_of_ble_eq_true rfl) hl.1 (Nat.le_of_ble_eq_true rfl) dX9_press_75 (fun H locs hW => ?_)
      refine lv_if_eq (tgt := 96) hx hb dX9_press_78 (by decide) (fun h35 => ?_) (fun h35 => ?_)
      · replace hf := ite_t h35 hf
        refine lv_iinc (v := _ + (1 : Int32)) (lv' := [_, _, _, _]) hx hb dX9_press_96 hl (k := 3) rfl rfl (by decide) rfl (fun ls hl => ?_)
        refine lv_goto (tgt := 62) hx hb dX9_press_99 (by decide) ?_
        exact ih _ _ _ _ _ _ _ hf hW (lv_sub hl [1, 2, 3, 0] rfl)
      · replace hf := ite_f h35 hf
        refine lv_aload_n hx hb dX9_press_81 rfl (lv_at hl 0 rfl) ?_
        refine rg_X9_49 E hW dX9_press_82 ?_
        refine lv_iload_n hx hb dX9_press_85 rfl (lv_at hl 2 rfl) ?_
        refine lv_iload_n hx hb dX9_press_86 rfl (lv_at hl 3 rfl) ?_
        refine lv_iadd hx hb dX9_press_87 ?_
        obtain ⟨v36, hf⟩ := ldI_e hf
        refine ra_38 E hW v36 dX9_press_88 ?_
        refine lv_iconst (v := (4 : Int32)) hx hb dX9_press_89 (by decide) ?_
        refine lv_icmp_ne (tgt := 96) hx hb dX9_press_90 (by decide) (fun h38 => ?_) (fun h38 => ?_)
        · replace hf := ite_f h38 hf
          refine lv_iinc (v := _ + (1 : Int32)) (lv' := [_, _, _, _]) hx hb dX9_press_96 hl (k := 3) rfl rfl (by decide) rfl (fun ls hl => ?_)
          refine lv_goto (tgt := 62) hx hb dX9_press_99 (by decide) ?_
          exact ih _ _ _ _ _ _ _ hf hW (lv_sub hl [1, 2, 3, 0] rfl)
        · replace hf := ite_t h38 hf
          refine lv_bipush (v := (-4 : Int32)) hx hb dX9_press_93 (by decide) ?_
          exact retI E hW (e2M hf) dX9_press_95
set_option maxHeartbeats 4000000 in
set_option maxRecDepth 100000 in
theorem c_X9_press (l : Launch) {X : XT} {B : Nat} {cs : CS} {ms : MS} {o : Nat → Int64} {v1 : Int32} {r : Int32} {S9 : MS} (hf : f_X9_press ms v1 = some (r, S9)) : Met l yX9_press (.code yX9_press cX9_press 5 (some .int) :: BIG) rm_X9_press (Pre X B (cs, ms, o) [.ref (X.1 7), .int v1]) (QI X B r (cs, S9, o)) 0 0 (Ab B) := by
  refine entry (by decide +kernel) rfl (Nat.le_of_ble_eq_true rfl) (fun p e s m below meth c ls E hW hl => ?_)
  obtain ⟨hx, hb, hml, hown, hts, -⟩ := id E
  replace hl : lv_has ls 5 [(0, .ref (X.1 7)), (1, .int v1)] := hl
  unfold f_X9_press at hf
  refine lv_aload_n hx hb dX9_press_0 rfl (lv_at hl 0 rfl) ?_
  refine lv_iconst (v := (0 : Int32)) hx hb dX9_press_1 (by decide) ?_
  refine rp_X9_1 E hW dX9_press_2 (fun H locs hW => ?_)
  refine lv_aload_n hx hb dX9_press_5 rfl (lv_at hl 0 rfl) ?_
  refine lv_iload_n hx hb dX9_press_6 rfl (lv_at hl 1 rfl) ?_
  obtain ⟨r2, ms1, hc, hf⟩ := b2_e hf
  refine callVI (As := [.int _]) (rest := []) E hW (c_X9_isCar l hc) lk_X9_268 rcv_X9 (Nat.le_of_ble_eq_true rfl) (Nat.le_of_ble_eq_true rfl) (Nat.le_of_ble_eq_true rfl) (Nat.le_of_ble_eq_true rfl) hl.1 (Nat.le_of_ble_eq_true rfl) dX9_press_7 (fun H locs hW => ?_)
  refine lv_if_ne (tgt := 15) hx hb dX9_press_10 (by decide) (fun h3 => ?_) (fun h3 => ?_)
  · replace hf := ite_f h3 hf
    refine lv_aload_n hx hb dX9_press_15 rfl (lv_at hl 0 rfl) ?_
    refine rg_X9_97 E hW dX9_press_16 ?_
    refine lv_iload_n hx hb dX9_press_19 rfl (lv_at hl 1 rfl) ?_
    obtain ⟨v4, hf⟩ := ldI_e hf
    refine ra_54 E hW v4 dX9_press_20 ?_
    refine lv_if_eq (tgt := 26) hx hb dX9_press_21 (by decide) (fun h6 => ?_) (fun h6 => ?_)
    · replace hf := ite_t h6 hf
      refine lv_aload_n hx hb dX9_press_26 rfl (lv_at hl 0 rfl) ?_
      refine rg_X9_91 E hW dX9_press_27 ?_
      refine lv_iload_n hx hb dX9_press_30 rfl (lv_at hl 1 rfl) ?_
      obtain ⟨v7, hf⟩ := ldI_e hf
      refine ra_52 E hW v7 dX9_press_31 ?_
      refine lv_if_ne (tgt := 38) hx hb dX9_press_32 (by decide) (fun h9 => ?_) (fun h9 => ?_)
      · replace hf := ite_f h9 hf
        refine lv_aload_n hx hb dX9_press_38 rfl (lv_at hl 0 rfl) ?_
        refine rg_X9_94 E hW dX9_press_39 ?_
        refine lv_iload_n hx hb dX9_press_42 rfl (lv_at hl 1 rfl) ?_
        obtain ⟨v10, hf⟩ := ldI_e hf
        refine ra_53 E hW v10 dX9_press_43 ?_
        refine lv_if_ne (tgt := 50) hx hb dX9_press_44 (by decide) (fun h12 => ?_) (fun h12 => ?_)
        · replace hf := ite_f h12 hf
          refine lv_bipush (v := (24 : Int32)) hx hb dX9_press_50 (by decide) ?_
          refine lv_aload_n hx hb dX9_press_52 rfl (lv_at hl 0 rfl) ?_
          refine rg_X9_73 E hW dX9_press_53 ?_
          refine lv_iload_n hx hb dX9_press_56 rfl (lv_at hl 1 rfl) ?_
          obtain ⟨v13, hf⟩ := ldI_e hf
          refine ra_46 E hW v13 dX9_press_57 ?_
          refine lv_imul hx hb dX9_press_58 ?_
          refine lv_istore_n (lv' := [_, _, _]) hx hb dX9_press_59 rfl hl (by decide) rfl (fun ls hl => ?_)
          refine lv_iconst (v := (0 : Int32)) hx hb dX9_press_60 (by decide) ?_
          refine lv_istore_n (lv' := [_, _, _, _]) hx hb dX9_press_61 rfl hl (by decide) rfl (fun ls hl => ?_)
          exact w_X9_press_62 E 1000 _ _ _ _ _ _ _ hf hW (lv_sub hl [2, 3, 1, 0] rfl)
        · replace hf := ite_t h12 hf
          refine lv_bipush (v := (-3 : Int32)) hx hb dX9_press_47 (by decide) ?_
          exact retI E hW (e2M hf) dX9_press_49
      · replace hf := ite_t h9 hf
        refine lv_bipush (v := (-2 : Int32)) hx hb dX9_press_35 (by decide) ?_
        exact retI E hW (e2M hf) dX9_press_37
    · replace hf := ite_f h6 hf
      refine lv_iconst (v := (-1 : Int32)) hx hb dX9_press_24 (by decide) ?_
      exact retI E hW (e2M hf) dX9_press_25
  · replace hf := ite_t h3 hf
    refine lv_iconst (v := (0 : Int32)) hx hb dX9_press_13 (by decide) ?_
    exact retI E hW (e2M hf) dX9_press_14
def f_X9_day_47 (ms : MS) (v1 : Int32) (s1 : Int32) : Option (Int32 × MS) := b2 (f_X9_may ms s1 (2 : Int32)) fun r7 ms6 => if r7 = 0 then (some ((0 : Int32), ms6)) else (if v1 ≤ 0 then (some ((mi (miU ms6 10 ((mi ms6 10) + v1)) 10), (miU ms6 10 ((mi ms6 10) + v1)))) else (some ((mi (miU (miU ms6 10 ((mi ms6 10) + v1)) 11 (0 : Int32)) 10), (miU (miU ms6 10 ((mi ms6 10) + v1)) 11 (0 : Int32)))))
def f_X9_day_22 (ms : MS) (v1 : Int32) (s1 : Int32) : Option (Int32 × MS) := b2 (f_X9_may ms s1 (1 : Int32)) fun r3 ms2 => if r3 = 0 then (some ((0 : Int32), ms2)) else (if (1000000 : Int32) < ((mi ms2 10) + v1) then (f_X9_day_47 ms2 v1 (0 : Int32)) else (f_X9_day_47 ms2 v1 (1 : Int32)))
def f_X9_day_21 (ms : MS) (v1 : Int32) : Option (Int32 × MS) := f_X9_day_22 ms v1 (0 : Int32)
def f_X9_day (ms : MS) (v1 : Int32) : Option (Int32 × MS) := if v1 < 0 then (f_X9_day_21 (miU ms 0 (0 : Int32)) v1) else (if (10000 : Int32) < v1 then (f_X9_day_21 (miU ms 0 (0 : Int32)) v1) else (f_X9_day_22 (miU ms 0 (0 : Int32)) v1 (1 : Int32)))
def rm_X9_day : Room := { frames := 1, cells := 0, slots := 0, locals := 22 }
set_option maxHeartbeats 4000000 in
set_option maxRecDepth 100000 in
theorem w_X9_day_47 {p : Program} {l : Launch} {e : Env} {s : State} {m : MethodId} {args : Array Value} {below : List Frame} {meth : Method} {c : Code} {X : XT} {B : Nat} {cs : CS} {o : Nat → Int64} {r : Int32} {S9 : MS} (E : Ev X B p s m args meth c RX9 cX9_day 2 (some .int)) : ∀ (ms : MS) (v1 : Int32) (s1 : Int32) (H : Heap) (locs : List Loc) (ls : Array Slot), f_X9_day_47 ms v1 s1 = some (r, S9) → Ws X B s.heap H locs (cs, ms, o) → lv_has ls 2 [(0, .ref (X.1 7)), (1, .int v1)] → W p l e rm_X9_day s m args below meth c H locs 0 0 (MQ below (QI X B r (cs, S9, o)) args s 0 0 (Ab B)) (F0 m 47 ls [.int s1, .ref (X.1 7)]) := by
  obtain ⟨hx, hb, hml, hown, hts, -⟩ := id E
  intro ms v1 s1 H locs ls hf hW hl
  unfold f_X9_day_47 at hf
  refine lv_iconst (v := (2 : Int32)) hx hb dX9_day_47 (by decide) ?_
  obtain ⟨r7, ms6, hc, hf⟩ := b2_e hf
  refine callVI (As := [.int _, .int _]) (rest := []) E hW (c_X9_may l hc) lk_X9_151 rcv_X9 (Nat.le_of_ble_eq_true rfl) (Nat.le_of_ble_eq_true rfl) (Nat.le_of_ble_eq_true rfl) (Nat.le_of_ble_eq_true rfl) hl.1 (Nat.le_of_ble_eq_true rfl) dX9_day_48 (fun H locs hW => ?_)
  refine lv_if_ne (tgt := 56) hx hb dX9_day_51 (by decide) (fun h8 => ?_) (fun h8 => ?_)
  · replace hf := ite_f h8 hf
    refine lv_aload_n hx hb dX9_day_56 rfl (lv_at hl 0 rfl) ?_
    refine lv_dup hx hb dX9_day_57 rfl ?_
    refine rg_X9_248 E hW dX9_day_58 ?_
    refine lv_iload_n hx hb dX9_day_61 rfl (lv_at hl 1 rfl) ?_
    refine lv_iadd hx hb dX9_day_62 ?_
    refine rp_X9_248 E hW dX9_day_63 (fun H locs hW => ?_)
    refine lv_iload_n hx hb dX9_day_66 rfl (lv_at hl 1 rfl) ?_
    refine lv_if_le (tgt := 75) hx hb dX9_day_67 (by decide) (fun h9 => ?_) (fun h9 => ?_)
    · replace hf := ite_t h9 hf
      refine lv_aload_n hx hb dX9_day_75 rfl (lv_at hl 0 rfl) ?_
      refine rg_X9_248 E hW dX9_day_76 ?_
      exact retI E hW (e2M hf) dX9_day_79
    · replace hf := ite_f h9 hf
      refine lv_aload_n hx hb dX9_day_70 rfl (lv_at hl 0 rfl) ?_
      refine lv_iconst (v := (0 : Int32)) hx hb dX9_day_71 (by decide) ?_
      refine rp_X9_241 E hW dX9_day_72 (fun H locs hW => ?_)
      refine lv_aload_n hx hb dX9_day_75 rfl (lv_at hl 0 rfl) ?_
      refine rg_X9_248 E hW dX9_day_76 ?_
      exact retI E hW (e2M hf) dX9_day_79
  · replace hf := ite_t h8 hf
    refine lv_iconst (v := (0 : Int32)) hx hb dX9_day_54 (by decide) ?_
    exact retI E hW (e2M hf) dX9_day_55
set_option maxHeartbeats 4000000 in
set_option maxRecDepth 100000 in
theorem w_X9_day_22 {p : Program} {l : Launch} {e : Env} {s : State} {m : MethodId} {args : Array Value} {below : List Frame} {meth : Method} {c : Code} {X : XT} {B : Nat} {cs : CS} {o : Nat → Int64} {r : Int32} {S9 : MS} (E : Ev X B p s m args meth c RX9 cX9_day 2 (some .int)) : ∀ (ms : MS) (v1 : Int32) (s1 : Int32) (H : Heap) (locs : List Loc) (ls : Array Slot), f_X9_day_22 ms v1 s1 = some (r, S9) → Ws X B s.heap H locs (cs, ms, o) → lv_has ls 2 [(0, .ref (X.1 7)), (1, .int v1)] → W p l e rm_X9_day s m args below meth c H locs 0 0 (MQ below (QI X B r (cs, S9, o)) args s 0 0 (Ab B)) (F0 m 22 ls [.int s1, .ref (X.1 7)]) := by
  obtain ⟨hx, hb, hml, hown, hts, -⟩ := id E
  intro ms v1 s1 H locs ls hf hW hl
  unfold f_X9_day_22 at hf
  refine lv_iconst (v := (1 : Int32)) hx hb dX9_day_22 (by decide) ?_
  obtain ⟨r3, ms2, hc, hf⟩ := b2_e hf
  refine callVI (As := [.int _, .int _]) (rest := []) E hW (c_X9_may l hc) lk_X9_151 rcv_X9 (Nat.le_of_ble_eq_true rfl) (Nat.le_of_ble_eq_true rfl) (Nat.le_of_ble_eq_true rfl) (Nat.le_of_ble_eq_true rfl) hl.1 (Nat.le_of_ble_eq_true rfl) dX9_day_23 (fun H locs hW => ?_)
  refine lv_if_eq (tgt := 54) hx hb dX9_day_26 (by decide) (fun h4 => ?_) (fun h4 => ?_)
  · replace hf := ite_t h4 hf
    refine lv_iconst (v := (0 : Int32)) hx hb dX9_day_54 (by decide) ?_
    exact retI E hW (e2M hf) dX9_day_55
  · replace hf := ite_f h4 hf
    refine lv_aload_n hx hb dX9_day_29 rfl (lv_at hl 0 rfl) ?_
    refine lv_aload_n hx hb dX9_day_30 rfl (lv_at hl 0 rfl) ?_
    refine rg_X9_248 E hW dX9_day_31 ?_
    refine lv_iload_n hx hb dX9_day_34 rfl (lv_at hl 1 rfl) ?_
    refine lv_iadd hx hb dX9_day_35 ?_
    refine lv_ldcw (own := RX9) (v := (1000000 : Int32)) hx hb hown (hts _ kc_X9_287) dX9_day_36 ?_
    refine lv_icmp_gt (tgt := 46) hx hb dX9_day_39 (by decide) (fun h5 => ?_) (fun h5 => ?_)
    · replace hf := ite_t h5 hf
      refine lv_iconst (v := (0 : Int32)) hx hb dX9_day_46 (by decide) ?_
      exact w_X9_day_47 E _ _ _ _ _ _ hf hW (lv_sub hl [0, 1] rfl)
    · replace hf := ite_f h5 hf
      refine lv_iconst (v := (1 : Int32)) hx hb dX9_day_42 (by decide) ?_
      refine lv_goto (tgt := 47) hx hb dX9_day_43 (by decide) ?_
      exact w_X9_day_47 E _ _ _ _ _ _ hf hW (lv_sub hl [0, 1] rfl)
set_option maxHeartbeats 4000000 in
set_option maxRecDepth 100000 in
theorem w_X9_day_21 {p : Program} {l : Launch} {e : Env} {s : State} {m : MethodId} {args : Array Value} {below : List Frame} {meth : Method} {c : Code} {X : XT} {B : Nat} {cs : CS} {o : Nat → Int64} {r : Int32} {S9 : MS} (E : Ev X B p s m args meth c RX9 cX9_day 2 (some .int)) : ∀ (ms : MS) (v1 : Int32) (H : Heap) (locs : List Loc) (ls : Array Slot), f_X9_day_21 ms v1 = some (r, S9) → Ws X B s.heap H locs (cs, ms, o) → lv_has ls 2 [(0, .ref (X.1 7)), (1, .int v1)] → W p l e rm_X9_day s m args below meth c H locs 0 0 (MQ below (QI X B r (cs, S9, o)) args s 0 0 (Ab B)) (F0 m 21 ls [.ref (X.1 7)]) := by
  obtain ⟨hx, hb, hml, hown, hts, -⟩ := id E
  intro ms v1 H locs ls hf hW hl
  unfold f_X9_day_21 at hf
  refine lv_iconst (v := (0 : Int32)) hx hb dX9_day_21 (by decide) ?_
  exact w_X9_day_22 E _ _ _ _ _ _ hf hW (lv_sub hl [0, 1] rfl)
set_option maxHeartbeats 4000000 in
set_option maxRecDepth 100000 in
theorem c_X9_day (l : Launch) {X : XT} {B : Nat} {cs : CS} {ms : MS} {o : Nat → Int64} {v1 : Int32} {r : Int32} {S9 : MS} (hf : f_X9_day ms v1 = some (r, S9)) : Met l yX9_day (.code yX9_day cX9_day 2 (some .int) :: BIG) rm_X9_day (Pre X B (cs, ms, o) [.ref (X.1 7), .int v1]) (QI X B r (cs, S9, o)) 0 0 (Ab B) := by
  refine entry (by decide +kernel) rfl (Nat.le_of_ble_eq_true rfl) (fun p e s m below meth c ls E hW hl => ?_)
  obtain ⟨hx, hb, hml, hown, hts, -⟩ := id E
  replace hl : lv_has ls 2 [(0, .ref (X.1 7)), (1, .int v1)] := hl
  unfold f_X9_day at hf
  refine lv_aload_n hx hb dX9_day_0 rfl (lv_at hl 0 rfl) ?_
  refine lv_iconst (v := (0 : Int32)) hx hb dX9_day_1 (by decide) ?_
  refine rp_X9_1 E hW dX9_day_2 (fun H locs hW => ?_)
  refine lv_aload_n hx hb dX9_day_5 rfl (lv_at hl 0 rfl) ?_
  refine lv_iload_n hx hb dX9_day_6 rfl (lv_at hl 1 rfl) ?_
  refine lv_if_lt (tgt := 21) hx hb dX9_day_7 (by decide) (fun h1 => ?_) (fun h1 => ?_)
  · replace hf := ite_t h1 hf
    exact w_X9_day_21 E _ _ _ _ _ hf hW (lv_sub hl [0, 1] rfl)
  · replace hf := ite_f h1 hf
    refine lv_iload_n hx hb dX9_day_10 rfl (lv_at hl 1 rfl) ?_
    refine lv_sipush (v := (10000 : Int32)) hx hb dX9_day_11 (by decide) ?_
    refine lv_icmp_gt (tgt := 21) hx hb dX9_day_14 (by decide) (fun h10 => ?_) (fun h10 => ?_)
    · replace hf := ite_t h10 hf
      exact w_X9_day_21 E _ _ _ _ _ hf hW (lv_sub hl [0, 1] rfl)
    · replace hf := ite_f h10 hf
      refine lv_iconst (v := (1 : Int32)) hx hb dX9_day_17 (by decide) ?_
      refine lv_goto (tgt := 22) hx hb dX9_day_18 (by decide) ?_
      exact w_X9_day_22 E _ _ _ _ _ _ hf hW (lv_sub hl [0, 1] rfl)
def f_X9_late_34 : Nat → MS → Int32 → Int32 → Int32 → Int32 → Option (Int32 × MS)
  | 0, _, _, _, _, _ => none
  | n + 1, ms, v1, v2, v3, v4 => if (mi ms 9) ≤ v4 then (some ((-1 : Int32), ms)) else (if v1 = 0 then ((ldI (ma ms 52) 40 v4).bind fun q15 => if q15 = 0 then ((ldI (ma ms 51) 40 v4).bind fun q18 => if ((mi ms 10) - q18) < (5 : Int32) then (f_X9_late_34 n ms v1 v2 (v3 + (0 : Int32)) (v4 + (1 : Int32))) else (if v3 = v2 then (some (v4, ms)) else (f_X9_late_34 n ms v1 v2 (v3 + (1 : Int32)) (v4 + (1 : Int32))))) else (f_X9_late_34 n ms v1 v2 (v3 + (0 : Int32)) (v4 + (1 : Int32)))) else ((ldI (ma ms 54) 40 v4).bind fun q8 => if q8 = 0 then ((ldI (ma ms 51) 40 v4).bind fun q11 => if ((mi ms 10) - q11) < (90 : Int32) then (f_X9_late_34 n ms v1 v2 (v3 + (0 : Int32)) (v4 + (1 : Int32))) else (if v3 = v2 then (some (v4, ms)) else (f_X9_late_34 n ms v1 v2 (v3 + (1 : Int32)) (v4 + (1 : Int32))))) else (f_X9_late_34 n ms v1 v2 (v3 + (0 : Int32)) (v4 + (1 : Int32)))))
def f_X9_late (ms : MS) (v1 : Int32) (v2 : Int32) : Option (Int32 × MS) := if v1 = 0 then (b2 (f_X9_may (miU ms 0 (0 : Int32)) (1 : Int32) (1 : Int32)) fun r3 ms2 => if r3 = 0 then (some ((0 : Int32), ms2)) else (f_X9_late_34 1000 ms2 v1 v2 (0 : Int32) (0 : Int32))) else (if v1 = (1 : Int32) then (b2 (f_X9_may (miU ms 0 (0 : Int32)) (1 : Int32) (1 : Int32)) fun r26 ms25 => if r26 = 0 then (some ((0 : Int32), ms25)) else (f_X9_late_34 1000 ms25 v1 v2 (0 : Int32) (0 : Int32))) else (b2 (f_X9_may (miU ms 0 (0 : Int32)) (0 : Int32) (1 : Int32)) fun r23 ms22 => if r23 = 0 then (some ((0 : Int32), ms22)) else (f_X9_late_34 1000 ms22 v1 v2 (0 : Int32) (0 : Int32))))
def rm_X9_late : Room := { frames := 1, cells := 0, slots := 0, locals := 22 }
set_option maxHeartbeats 4000000 in
set_option maxRecDepth 100000 in
theorem w_X9_late_34 {p : Program} {l : Launch} {e : Env} {s : State} {m : MethodId} {args : Array Value} {below : List Frame} {meth : Method} {c : Code} {X : XT} {B : Nat} {cs : CS} {o : Nat → Int64} {r : Int32} {S9 : MS} (E : Ev X B p s m args meth c RX9 cX9_late 6 (some .int)) : ∀ (n : Nat) (ms : MS) (v1 : Int32) (v2 : Int32) (v3 : Int32) (v4 : Int32) (H : Heap) (locs : List Loc) (ls : Array Slot), f_X9_late_34 n ms v1 v2 v3 v4 = some (r, S9) → Ws X B s.heap H locs (cs, ms, o) → lv_has ls 6 [(0, .ref (X.1 7)), (1, .int v1), (2, .int v2), (3, .int v3), (4, .int v4)] → W p l e rm_X9_late s m args below meth c H locs 0 0 (MQ below (QI X B r (cs, S9, o)) args s 0 0 (Ab B)) (F0 m 34 ls []) := by
  obtain ⟨hx, hb, hml, hown, hts, -⟩ := id E
  intro n
  induction n with
  | zero => intro ms v1 v2 v3 v4 H locs ls hf; exact absurd hf nofun
  | succ n ih =>
    intro ms v1 v2 v3 v4 H locs ls hf hW hl
    rw [f_X9_late_34] at hf
    refine lv_iload hx hb dX9_late_34 (lv_at hl 4 rfl) ?_
    refine lv_aload_n hx hb dX9_late_36 rfl (lv_at hl 0 rfl) ?_
    refine rg_X9_261 E hW dX9_late_37 ?_
    refine lv_icmp_ge (tgt := 147) hx hb dX9_late_40 (by decide) (fun h5 => ?_) (fun h5 => ?_)
    · replace hf := ite_t h5 hf
      refine lv_iconst (v := (-1 : Int32)) hx hb dX9_late_147 (by decide) ?_
      exact retI E hW (e2M hf) dX9_late_148
    · replace hf := ite_f h5 hf
      refine lv_iload_n hx hb dX9_late_43 rfl (lv_at hl 1 rfl) ?_
      refine lv_if_ne (tgt := 81) hx hb dX9_late_44 (by decide) (fun h6 => ?_) (fun h6 => ?_)
      · replace hf := ite_f h6 hf
        refine lv_aload_n hx hb dX9_late_81 rfl (lv_at hl 0 rfl) ?_
        refine rg_X9_97 E hW dX9_late_82 ?_
        refine lv_iload hx hb dX9_late_85 (lv_at hl 4 rfl) ?_
        obtain ⟨v7, hf⟩ := ldI_e hf
        refine ra_54 E hW v7 dX9_late_87 ?_
        refine lv_if_ne (tgt := 112) hx hb dX9_late_88 (by decide) (fun h9 => ?_) (fun h9 => ?_)
        · replace hf := ite_f h9 hf
          refine lv_iconst (v := (0 : Int32)) hx hb dX9_late_112 (by decide) ?_
          refine lv_istore (lv' := [_, _, _, _, _, _]) hx hb dX9_late_113 hl (by decide) rfl (fun ls hl => ?_)
          refine lv_iload hx hb dX9_late_115 (lv_at hl 0 rfl) ?_
          refine lv_if_eq (tgt := 128) hx hb dX9_late_117 (by decide) (fun _ => ?_) (fun h9 => absurd h9 (by decide))
          refine lv_iload_n hx hb dX9_late_128 rfl (lv_at hl 4 rfl) ?_
          refine lv_iload hx hb dX9_late_129 (lv_at hl 0 rfl) ?_
          refine lv_if_eq (tgt := 138) hx hb dX9_late_131 (by decide) (fun _ => ?_) (fun h9 => absurd h9 (by decide))
          refine lv_iconst (v := (0 : Int32)) hx hb dX9_late_138 (by decide) ?_
          refine lv_iadd hx hb dX9_late_139 ?_
          refine lv_istore_n (lv' := [_, _, _, _, _, _]) hx hb dX9_late_140 rfl hl (by decide) rfl (fun ls hl => ?_)
          refine lv_iinc (v := _ + (1 : Int32)) (lv' := [_, _, _, _, _, _]) hx hb dX9_late_141 hl (k := 5) rfl rfl (by decide) rfl (fun ls hl => ?_)
          refine lv_goto (tgt := 34) hx hb dX9_late_144 (by decide) ?_
          exact ih _ _ _ _ _ _ _ _ hf hW (lv_sub hl [3, 4, 5, 1, 0] rfl)
        · replace hf := ite_t h9 hf
          refine lv_aload_n hx hb dX9_late_91 rfl (lv_at hl 0 rfl) ?_
          refine rg_X9_248 E hW dX9_late_92 ?_
          refine lv_aload_n hx hb dX9_late_95 rfl (lv_at hl 0 rfl) ?_
          refine rg_X9_88 E hW dX9_late_96 ?_
          refine lv_iload hx hb dX9_late_99 (lv_at hl 4 rfl) ?_
          obtain ⟨v10, hf⟩ := ldI_e hf
          refine ra_51 E hW v10 dX9_late_101 ?_
          refine lv_isub hx hb dX9_late_102 ?_
          refine lv_bipush (v := (90 : Int32)) hx hb dX9_late_103 (by decide) ?_
          refine lv_icmp_lt (tgt := 112) hx hb dX9_late_105 (by decide) (fun h12 => ?_) (fun h12 => ?_)
          · replace hf := ite_t h12 hf
            refine lv_iconst (v := (0 : Int32)) hx hb dX9_late_112 (by decide) ?_
            refine lv_istore (lv' := [_, _, _, _, _, _]) hx hb dX9_late_113 hl (by decide) rfl (fun ls hl => ?_)
            refine lv_iload hx hb dX9_late_115 (lv_at hl 0 rfl) ?_
            refine lv_if_eq (tgt := 128) hx hb dX9_late_117 (by decide) (fun _ => ?_) (fun h9 => absurd h9 (by decide))
            refine lv_iload_n hx hb dX9_late_128 rfl (lv_at hl 4 rfl) ?_
            refine lv_iload hx hb dX9_late_129 (lv_at hl 0 rfl) ?_
            refine lv_if_eq (tgt := 138) hx hb dX9_late_131 (by decide) (fun _ => ?_) (fun h9 => absurd h9 (by decide))
            refine lv_iconst (v := (0 : Int32)) hx hb dX9_late_138 (by decide) ?_
            refine lv_iadd hx hb dX9_late_139 ?_
            refine lv_istore_n (lv' := [_, _, _, _, _, _]) hx hb dX9_late_140 rfl hl (by decide) rfl (fun ls hl => ?_)
            refine lv_iinc (v := _ + (1 : Int32)) (lv' := [_, _, _, _, _, _]) hx hb dX9_late_141 hl (k := 5) rfl rfl (by decide) rfl (fun ls hl => ?_)
            refine lv_goto (tgt := 34) hx hb dX9_late_144 (by decide) ?_
            exact ih _ _ _ _ _ _ _ _ hf hW (lv_sub hl [3, 4, 5, 1, 0] rfl)
          · replace hf := ite_f h12 hf
            refine lv_iconst (v := (1 : Int32)) hx hb dX9_late_108 (by decide) ?_
            refine lv_goto (tgt := 113) hx hb dX9_late_109 (by decide) ?_
            refine lv_istore (lv' := [_, _, _, _, _, _]) hx hb dX9_late_113 hl (by decide) rfl (fun ls hl => ?_)
            refine lv_iload hx hb dX9_late_115 (lv_at hl 0 rfl) ?_
            refine lv_if_eq (tgt := 128) hx hb dX9_late_117 (by decide) (fun h9 => absurd h9 (by decide)) (fun _ => ?_)
            refine lv_iload_n hx hb dX9_late_120 rfl (lv_at hl 4 rfl) ?_
            refine lv_iload_n hx hb dX9_late_121 rfl (lv_at hl 3 rfl) ?_
            refine lv_icmp_ne (tgt := 128) hx hb dX9_late_122 (by decide) (fun h13 => ?_) (fun h13 => ?_)
            · replace hf := ite_f h13 hf
              refine lv_iload_n hx hb dX9_late_128 rfl (lv_at hl 4 rfl) ?_
              refine lv_iload hx hb dX9_late_129 (lv_at hl 0 rfl) ?_
              refine lv_if_eq (tgt := 138) hx hb dX9_late_131 (by decide) (fun h9 => absurd h9 (by decide)) (fun _ => ?_)
              refine lv_iconst (v := (1 : Int32)) hx hb dX9_late_134 (by decide) ?_
              refine lv_goto (tgt := 139) hx hb dX9_late_135 (by decide) ?_
              refine lv_iadd hx hb dX9_late_139 ?_
              refine lv_istore_n (lv' := [_, _, _, _, _, _]) hx hb dX9_late_140 rfl hl (by decide) rfl (fun ls hl => ?_)
              refine lv_iinc (v := _ + (1 : Int32)) (lv' := [_, _, _, _, _, _]) hx hb dX9_late_141 hl (k := 5) rfl rfl (by decide) rfl (fun ls hl => ?_)
              refine lv_goto (tgt := 34) hx hb dX9_late_144 (by decide) ?_
              exact ih _ _ _ _ _ _ _ _ hf hW (lv_sub hl [3, 4, 5, 1, 0] rfl)
            · replace hf := ite_t h13 hf
              refine lv_iload hx hb dX9_late_125 (lv_at hl 5 rfl) ?_
              exact retI E hW (e2M hf) dX9_late_127
      · replace hf := ite_t h6 hf
        refine lv_aload_n hx hb dX9_late_47 rfl (lv_at hl 0 rfl) ?_
        refine rg_X9_91 E hW dX9_late_48 ?_
        refine lv_iload hx hb dX9_late_51 (lv_at hl 4 rfl) ?_
        obtain ⟨v14, hf⟩ := ldI_e hf
        refine ra_52 E hW v14 dX9_late_53 ?_
        refine lv_if_ne (tgt := 77) hx hb dX9_late_54 (by decide) (fun h16 => ?_) (fun h16 => ?_)
        · replace hf := ite_f h16 hf
          refine lv_iconst (v := (0 : Int32)) hx hb dX9_late_77 (by decide) ?_
          refine lv_goto (tgt := 113) hx hb dX9_late_78 (by decide) ?_
          refine lv_istore (lv' := [_, _, _, _, _, _]) hx hb dX9_late_113 hl (by decide) rfl (fun ls hl => ?_)
          refine lv_iload hx hb dX9_late_115 (lv_at hl 0 rfl) ?_
          refine lv_if_eq (tgt := 128) hx hb dX9_late_117 (by decide) (fun _ => ?_) (fun h9 => absurd h9 (by decide))
          refine lv_iload_n hx hb dX9_late_128 rfl (lv_at hl 4 rfl) ?_
          refine lv_iload hx hb dX9_late_129 (lv_at hl 0 rfl) ?_
          refine lv_if_eq (tgt := 138) hx hb dX9_late_131 (by decide) (fun _ => ?_) (fun h9 => absurd h9 (by decide))
          refine lv_iconst (v := (0 : Int32)) hx hb dX9_late_138 (by decide) ?_
          refine lv_iadd hx hb dX9_late_139 ?_
          refine lv_istore_n (lv' := [_, _, _, _, _, _]) hx hb dX9_late_140 rfl hl (by decide) rfl (fun ls hl => ?_)
          refine lv_iinc (v := _ + (1 : Int32)) (lv' := [_, _, _, _, _, _]) hx hb dX9_late_141 hl (k := 5) rfl rfl (by decide) rfl (fun ls hl => ?_)
          refine lv_goto (tgt := 34) hx hb dX9_late_144 (by decide) ?_
          exact ih _ _ _ _ _ _ _ _ hf hW (lv_sub hl [3, 4, 5, 1, 0] rfl)
        · replace hf := ite_t h16 hf
          refine lv_aload_n hx hb dX9_late_57 rfl (lv_at hl 0 rfl) ?_
          refine rg_X9_248 E hW dX9_late_58 ?_
          refine lv_aload_n hx hb dX9_late_61 rfl (lv_at hl 0 rfl) ?_
          refine rg_X9_88 E hW dX9_late_62 ?_
          refine lv_iload hx hb dX9_late_65 (lv_at hl 4 rfl) ?_
          obtain ⟨v17, hf⟩ := ldI_e hf
          refine ra_51 E hW v17 dX9_late_67 ?_
          refine lv_isub hx hb dX9_late_68 ?_
          refine lv_iconst (v := (5 : Int32)) hx hb dX9_late_69 (by decide) ?_
          refine lv_icmp_lt (tgt := 77) hx hb dX9_late_70 (by decide) (fun h19 => ?_) (fun h19 => ?_)
          · replace hf := ite_t h19 hf
            refine lv_iconst (v := (0 : Int32)) hx hb dX9_late_77 (by decide) ?_
            refine lv_goto (tgt := 113) hx hb dX9_late_78 (by decide) ?_
            refine lv_istore (lv' := [_, _, _, _, _, _]) hx hb dX9_late_113 hl (by decide) rfl (fun ls hl => ?_)
            refine lv_iload hx hb dX9_late_115 (lv_at hl 0 rfl) ?_
            refine lv_if_eq (tgt := 128) hx hb dX9_late_117 (by decide) (fun _ => ?_) (fun h9 => absurd h9 (by decide))
            refine lv_iload_n hx hb dX9_late_128 rfl (lv_at hl 4 rfl) ?_
            refine lv_iload hx hb dX9_late_129 (lv_at hl 0 rfl) ?_
            refine lv_if_eq (tgt := 138) hx hb dX9_late_131 (by decide) (fun _ => ?_) (fun h9 => absurd h9 (by decide))
            refine lv_iconst (v := (0 : Int32)) hx hb dX9_late_138 (by decide) ?_
            refine lv_iadd hx hb dX9_late_139 ?_
            refine lv_istore_n (lv' := [_, _, _, _, _, _]) hx hb dX9_late_140 rfl hl (by decide) rfl (fun ls hl => ?_)
            refine lv_iinc (v := _ + (1 : Int32)) (lv' := [_, _, _, _, _, _]) hx hb dX9_late_141 hl (k := 5) rfl rfl (by decide) rfl (fun ls hl => ?_)
            refine lv_goto (tgt := 34) hx hb dX9_late_144 (by decide) ?_
            exact ih _ _ _ _ _ _ _ _ hf hW (lv_sub hl [3, 4, 5, 1, 0] rfl)
          · replace hf := ite_f h19 hf
            refine lv_iconst (v := (1 : Int32)) hx hb dX9_late_73 (by decide) ?_
            refine lv_goto (tgt := 113) hx hb dX9_late_74 (by decide) ?_
            refine lv_istore (lv' := [_, _, _, _, _, _]) hx hb dX9_late_113 hl (by decide) rfl (fun ls hl => ?_)
            refine lv_iload hx hb dX9_late_115 (lv_at hl 0 rfl) ?_
            refine lv_if_eq (tgt := 128) hx hb dX9_late_117 (by decide) (fun h9 => absurd h9 (by decide)) (fun _ => ?_)
            refine lv_iload_n hx hb dX9_late_120 rfl (lv_at hl 4 rfl) ?_
            refine lv_iload_n hx hb dX9_late_121 rfl (lv_at hl 3 rfl) ?_
            refine lv_icmp_ne (tgt := 128) hx hb dX9_late_122 (by decide) (fun h20 => ?_) (fun h20 => ?_)
            · replace hf := ite_f h20 hf
              refine lv_iload_n hx hb dX9_late_128 rfl (lv_at hl 4 rfl) ?_
              refine lv_iload hx hb dX9_late_129 (lv_at hl 0 rfl) ?_
              refine lv_if_eq (tgt := 138) hx hb dX9_late_131 (by decide) (fun h9 => absurd h9 (by decide)) (fun _ => ?_)
              refine lv_iconst (v := (1 : Int32)) hx hb dX9_late_134 (by decide) ?_
              refine lv_goto (tgt := 139) hx hb dX9_late_135 (by decide) ?_
              refine lv_iadd hx hb dX9_late_139 ?_
              refine lv_istore_n (lv' := [_, _, _, _, _, _]) hx hb dX9_late_140 rfl hl (by decide) rfl (fun ls hl => ?_)
              refine lv_iinc (v := _ + (1 : Int32)) (lv' := [_, _, _, _, _, _]) hx hb dX9_late_141 hl (k := 5) rfl rfl (by decide) rfl (fun ls hl => ?_)
              refine lv_goto (tgt := 34) hx hb dX9_late_144 (by decide) ?_
              exact ih _ _ _ _ _ _ _ _ hf hW (lv_sub hl [3, 4, 5, 1, 0] rfl)
            · replace hf := ite_t h20 hf
              refine lv_iload hx hb dX9_late_125 (lv_at hl 5 rfl) ?_
              exact retI E hW (e2M hf) dX9_late_127
set_option maxHeartbeats 4000000 in
set_option maxRecDepth 100000 in
theorem c_X9_late (l : Launch) {X : XT} {B : Nat} {cs : CS} {ms : MS} {o : Nat → Int64} {v1 : Int32} {v2 : Int32} {r : Int32} {S9 : MS} (hf : f_X9_late ms v1 v2 = some (r, S9)) : Met l yX9_late (.code yX9_late cX9_late 6 (some .int) :: BIG) rm_X9_late (Pre X B (cs, ms, o) [.ref (X.1 7), .int v1, .int v2]) (QI X B r (cs, S9, o)) 0 0 (Ab B) := by
  refine entry (by decide +kernel) rfl (Nat.le_of_ble_eq_true rfl) (fun p e s m below meth c ls E hW hl => ?_)
  obtain ⟨hx, hb, hml, hown, hts, -⟩ := id E
  replace hl : lv_has ls 6 [(0, .ref (X.1 7)), (1, .int v1), (2, .int v2)] := hl
  unfold f_X9_late at hf
  refine lv_aload_n hx hb dX9_late_0 rfl (lv_at hl 0 rfl) ?_
  refine lv_iconst (v := (0 : Int32)) hx hb dX9_late_1 (by decide) ?_
  refine rp_X9_1 E hW dX9_late_2 (fun H locs hW => ?_)
  refine lv_aload_n hx hb dX9_late_5 rfl (lv_at hl 0 rfl) ?_
  refine lv_iload_n hx hb dX9_late_6 rfl (lv_at hl 1 rfl) ?_
  refine lv_if_eq (tgt := 15) hx hb dX9_late_7 (by decide) (fun h1 => ?_) (fun h1 => ?_)
  · replace hf := ite_t h1 hf
    refine lv_iconst (v := (1 : Int32)) hx hb dX9_late_15 (by decide) ?_
    refine lv_goto (tgt := 20) hx hb dX9_late_16 (by decide) ?_
    refine lv_iconst (v := (1 : Int32)) hx hb dX9_late_20 (by decide) ?_
    obtain ⟨r3, ms2, hc, hf⟩ := b2_e hf
    refine callVI (As := [.int _, .int _]) (rest := []) E hW (c_X9_may l hc) lk_X9_151 rcv_X9 (Nat.le_of_ble_eq_true rfl) (Nat.le_of_ble_eq_true rfl) (Nat.le_of_ble_eq_true rfl) (Nat.le_of_ble_eq_true rfl) hl.1 (Nat.le_of_ble_eq_true rfl) dX9_late_21 (fun H locs hW => ?_)
    refine lv_if_ne (tgt := 29) hx hb dX9_late_24 (by decide) (fun h4 => ?_) (fun h4 => ?_)
    · replace hf := ite_f h4 hf
      refine lv_iconst (v := (0 : Int32)) hx hb dX9_late_29 (by decide) ?_
      refine lv_istore_n (lv' := [_, _, _, _]) hx hb dX9_late_30 rfl hl (by decide) rfl (fun ls hl => ?_)
      refine lv_iconst (v := (0 : Int32)) hx hb dX9_late_31 (by decide) ?_
      refine lv_istore (lv' := [_, _, _, _, _]) hx hb dX9_late_32 hl (by decide) rfl (fun ls hl => ?_)
      exact w_X9_late_34 E 1000 _ _ _ _ _ _ _ _ hf hW (lv_sub hl [2, 3, 4, 1, 0] rfl)
    · replace hf := ite_t h4 hf
      refine lv_iconst (v := (0 : Int32)) hx hb dX9_late_27 (by decide) ?_
      exact retI E hW (e2M hf) dX9_late_28
  · replace hf := ite_f h1 hf
    refine lv_iload_n hx hb dX9_late_10 rfl (lv_at hl 1 rfl) ?_
    refine lv_iconst (v := (1 : Int32)) hx hb dX9_late_11 (by decide) ?_
    refine lv_icmp_ne (tgt := 19) hx hb dX9_late_12 (by decide) (fun h21 => ?_) (fun h21 => ?_)
    · replace hf := ite_f h21 hf
      refine lv_iconst (v := (0 : Int32)) hx hb dX9_late_19 (by decide) ?_
      refine lv_iconst (v := (1 : Int32)) hx hb dX9_late_20 (by decide) ?_
      obtain ⟨r23, ms22, hc, hf⟩ := b2_e hf
      refine callVI (As := [.int _, .int _]) (rest := []) E hW (c_X9_may l hc) lk_X9_151 rcv_X9 (Nat.le_of_ble_eq_true rfl) (Nat.le_of_ble_eq_true rfl) (Nat.le_of_ble_eq_true rfl) (Nat.le_of_ble_eq_true rfl) hl.1 (Nat.le_of_ble_eq_true rfl) dX9_late_21 (fun H locs hW => ?_)
      refine lv_if_ne (tgt := 29) hx hb dX9_late_24 (by decide) (fun h24 => ?_) (fun h24 => ?_)
      · replace hf := ite_f h24 hf
        refine lv_iconst (v := (0 : Int32)) hx hb dX9_late_29 (by decide) ?_
        refine lv_istore_n (lv' := [_, _, _, _]) hx hb dX9_late_30 rfl hl (by decide) rfl (fun ls hl => ?_)
        refine lv_iconst (v := (0 : Int32)) hx hb dX9_late_31 (by decide) ?_
        refine lv_istore (lv' := [_, _, _, _, _]) hx hb dX9_late_32 hl (by decide) rfl (fun ls hl => ?_)
        exact w_X9_late_34 E 1000 _ _ _ _ _ _ _ _ hf hW (lv_sub hl [2, 3, 4, 1, 0] rfl)
      · replace hf := ite_t h24 hf
        refine lv_iconst (v := (0 : Int32)) hx hb dX9_late_27 (by decide) ?_
        exact retI E hW (e2M hf) dX9_late_28
    · replace hf := ite_t h21 hf
      refine lv_iconst (v := (1 : Int32)) hx hb dX9_late_15 (by decide) ?_
      refine lv_goto (tgt := 20) hx hb dX9_late_16 (by decide) ?_
      refine lv_iconst (v := (1 : Int32)) hx hb dX9_late_20 (by decide) ?_
      obtain ⟨r26, ms25, hc, hf⟩ := b2_e hf
      refine callVI (As := [.int _, .int _]) (rest := []) E hW (c_X9_may l hc) lk_X9_151 rcv_X9 (Nat.le_of_ble_eq_true rfl) (Nat.le_of_ble_eq_true rfl) (Nat.le_of_ble_eq_true rfl) (Nat.le_of_ble_eq_true rfl) hl.1 (Nat.le_of_ble_eq_true rfl) dX9_late_21 (fun H locs hW => ?_)
      refine lv_if_ne (tgt := 29) hx hb dX9_late_24 (by decide) (fun h27 => ?_) (fun h27 => ?_)
      · replace hf := ite_f h27 hf
        refine lv_iconst (v := (0 : Int32)) hx hb dX9_late_29 (by decide) ?_
        refine lv_istore_n (lv' := [_, _, _, _]) hx hb dX9_late_30 rfl hl (by decide) rfl (fun ls hl => ?_)
        refine lv_iconst (v := (0 : Int32)) hx hb dX9_late_31 (by decide) ?_
        refine lv_istore (lv' := [_, _, _, _, _]) hx hb dX9_late_32 hl (by decide) rfl (fun ls hl => ?_)
        exact w_X9_late_34 E 1000 _ _ _ _ _ _ _ _ hf hW (lv_sub hl [2, 3, 4, 1, 0] rfl)
      · replace hf := ite_t h27 hf
        refine lv_iconst (v := (0 : Int32)) hx hb dX9_late_27 (by decide) ?_
        exact retI E hW (e2M hf) dX9_late_28
def f_X9_valueOf_53 : Nat → MS → Int32 → Int32 → Int32 → Option (Int32)
  | 0, _, _, _, _ => none
  | n + 1, ms, v3, v4, v5 => if v4 ≤ v5 then (some v3) else (if (24 : Int32) ≤ v5 then (some v3) else (f_X9_valueOf_53 n ms (v3 - (v3 / (8 : Int32))) v4 (v5 + (1 : Int32))))
def f_X9_valueOf (ms : MS) (v1 : Int32) : Option (Int32) := (f_X9_partOf ms v1).bind fun r1 => (ldI (ma ms 38) 192 r1).bind fun q3 => if q3 = (2 : Int32) then ((ldI (ma ms 44) 192 r1).bind fun q12 => (ldI (ma ms 66) 400 v1).bind fun q14 => f_X9_valueOf_53 1000 ms (q12 / (2 : Int32)) (((mi ms 10) - q14) / (30 : Int32)) (0 : Int32)) else ((ldI (ma ms 44) 192 r1).bind fun q6 => (ldI (ma ms 66) 400 v1).bind fun q8 => f_X9_valueOf_53 1000 ms q6 (((mi ms 10) - q8) / (30 : Int32)) (0 : Int32))
def rm_X9_valueOf : Room := { frames := 1, cells := 0, slots := 0, locals := 21 }
set_option maxHeartbeats 4000000 in
set_option maxRecDepth 100000 in
theorem w_X9_valueOf_53 {p : Program} {l : Launch} {e : Env} {s : State} {m : MethodId} {args : Array Value} {below : List Frame} {meth : Method} {c : Code} {X : XT} {B : Nat} {cs : CS} {o : Nat → Int64} {r : Int32} (E : Ev X B p s m args meth c RX9 cX9_valueOf 6 (some .int)) : ∀ (n : Nat) (ms : MS) (v3 : Int32) (v4 : Int32) (v5 : Int32) (H : Heap) (locs : List Loc) (ls : Array Slot), f_X9_valueOf_53 n ms v3 v4 v5 = some r → Ws X B s.heap H locs (cs, ms, o) → lv_has ls 6 [(3, .int v3), (4, .int v4), (5, .int v5)] → W p l e rm_X9_valueOf s m args below meth c H locs 0 0 (MQ below (QI X B r (cs, ms, o)) args s 0 0 (Ab B)) (F0 m 53 ls []) := by
  obtain ⟨hx, hb, hml, hown, hts, -⟩ := id E
  intro n
  induction n with
  | zero => intro ms v3 v4 v5 H locs ls hf; exact absurd hf nofun
  | succ n ih =>
    intro ms v3 v4 v5 H locs ls hf hW hl
    rw [f_X9_valueOf_53] at hf
    refine lv_iload hx hb dX9_valueOf_53 (lv_at hl 2 rfl) ?_
    refine lv_iload hx hb dX9_valueOf_55 (lv_at hl 1 rfl) ?_
    refine lv_icmp_ge (tgt := 80) hx hb dX9_valueOf_57 (by decide) (fun h9 => ?_) (fun h9 => ?_)
    · replace hf := ite_t h9 hf
      refine lv_iload_n hx hb dX9_valueOf_80 rfl (lv_at hl 0 rfl) ?_
      exact retI E hW ⟨Option.some.inj hf, rfl⟩ dX9_valueOf_81
    · replace hf := ite_f h9 hf
      refine lv_iload hx hb dX9_valueOf_60 (lv_at hl 2 rfl) ?_
      refine lv_bipush (v := (24 : Int32)) hx hb dX9_valueOf_62 (by decide) ?_
      refine lv_icmp_ge (tgt := 80) hx hb dX9_valueOf_64 (by decide) (fun h10 => ?_) (fun h10 => ?_)
      · replace hf := ite_t h10 hf
        refine lv_iload_n hx hb dX9_valueOf_80 rfl (lv_at hl 0 rfl) ?_
        exact retI E hW ⟨Option.some.inj hf, rfl⟩ dX9_valueOf_81
      · replace hf := ite_f h10 hf
        refine lv_iload_n hx hb dX9_valueOf_67 rfl (lv_at hl 0 rfl) ?_
        refine lv_iload_n hx hb dX9_valueOf_68 rfl (lv_at hl 0 rfl) ?_
        refine lv_bipush (v := (8 : Int32)) hx hb dX9_valueOf_69 (by decide) ?_
        refine lv_idiv hx hb dX9_valueOf_71 (by decide) ?_
        refine lv_isub hx hb dX9_valueOf_72 ?_
        refine lv_istore_n (lv' := [_, _, _]) hx hb dX9_valueOf_73 rfl hl (by decide) rfl (fun ls hl => ?_)
        refine lv_iinc (v := _ + (1 : Int32)) (lv' := [_, _, _]) hx hb dX9_valueOf_74 hl (k := 2) rfl rfl (by decide) rfl (fun ls hl => ?_)
        refine lv_goto (tgt := 53) hx hb dX9_valueOf_77 (by decide) ?_
        exact ih _ _ _ _ _ _ _ hf hW (lv_sub hl [1, 2, 0] rfl)
set_option maxHeartbeats 4000000 in
set_option maxRecDepth 100000 in
theorem c_X9_valueOf (l : Launch) {X : XT} {B : Nat} {cs : CS} {ms : MS} {o : Nat → Int64} {v1 : Int32} {r : Int32} (hf : f_X9_valueOf ms v1 = some r) : Met l yX9_valueOf (.code yX9_valueOf cX9_valueOf 6 (some .int) :: BIG) rm_X9_valueOf (Pre X B (cs, ms, o) [.ref (X.1 7), .int v1]) (QI X B r (cs, ms, o)) 0 0 (Ab B) := by
  refine entry (by decide +kernel) rfl (Nat.le_of_ble_eq_true rfl) (fun p e s m below meth c ls E hW hl => ?_)
  obtain ⟨hx, hb, hml, hown, hts, -⟩ := id E
  replace hl : lv_has ls 6 [(0, .ref (X.1 7)), (1, .int v1)] := hl
  unfold f_X9_valueOf at hf
  refine lv_aload_n hx hb dX9_valueOf_0 rfl (lv_at hl 0 rfl) ?_
  refine lv_iload_n hx hb dX9_valueOf_1 rfl (lv_at hl 1 rfl) ?_
  obtain ⟨r1, hc, hf⟩ := b1_e hf
  refine callVI (As := [.int _]) (rest := []) E hW (c_X9_partOf l hc) lk_X9_274 rcv_X9 (Nat.le_of_ble_eq_true rfl) (Nat.le_of_ble_eq_true rfl) (Nat.le_of_ble_eq_true rfl) (Nat.le_of_ble_eq_true rfl) hl.1 (Nat.le_of_ble_eq_true rfl) dX9_valueOf_2 (fun H locs hW => ?_)
  refine lv_istore_n (lv' := [_, _, _]) hx hb dX9_valueOf_5 rfl hl (by decide) rfl (fun ls hl => ?_)
  refine lv_aload_n hx hb dX9_valueOf_6 rfl (lv_at hl 1 rfl) ?_
  refine rg_X9_49 E hW dX9_valueOf_7 ?_
  refine lv_iload_n hx hb dX9_valueOf_10 rfl (lv_at hl 0 rfl) ?_
  obtain ⟨v2, hf⟩ := ldI_e hf
  refine ra_38 E hW v2 dX9_valueOf_11 ?_
  refine lv_iconst (v := (2 : Int32)) hx hb dX9_valueOf_12 (by decide) ?_
  refine lv_icmp_ne (tgt := 27) hx hb dX9_valueOf_13 (by decide) (fun h4 => ?_) (fun h4 => ?_)
  · replace hf := ite_f h4 hf
    refine lv_aload_n hx hb dX9_valueOf_27 rfl (lv_at hl 1 rfl) ?_
    refine rg_X9_67 E hW dX9_valueOf_28 ?_
    refine lv_iload_n hx hb dX9_valueOf_31 rfl (lv_at hl 0 rfl) ?_
    obtain ⟨v5, hf⟩ := ldI_e hf
    refine ra_44 E hW v5 dX9_valueOf_32 ?_
    refine lv_istore_n (lv' := [_, _, _, _]) hx hb dX9_valueOf_33 rfl hl (by decide) rfl (fun ls hl => ?_)
    refine lv_aload_n hx hb dX9_valueOf_34 rfl (lv_at hl 2 rfl) ?_
    refine rg_X9_248 E hW dX9_valueOf_35 ?_
    refine lv_aload_n hx hb dX9_valueOf_38 rfl (lv_at hl 2 rfl) ?_
    refine rg_X9_133 E hW dX9_valueOf_39 ?_
    refine lv_iload_n hx hb dX9_valueOf_42 rfl (lv_at hl 3 rfl) ?_
    obtain ⟨v7, hf⟩ := ldI_e hf
    refine ra_66 E hW v7 dX9_valueOf_43 ?_
    refine lv_isub hx hb dX9_valueOf_44 ?_
    refine lv_bipush (v := (30 : Int32)) hx hb dX9_valueOf_45 (by decide) ?_
    refine lv_idiv hx hb dX9_valueOf_47 (by decide) ?_
    refine lv_istore (lv' := [_, _, _, _, _]) hx hb dX9_valueOf_48 hl (by decide) rfl (fun ls hl => ?_)
    refine lv_iconst (v := (0 : Int32)) hx hb dX9_valueOf_50 (by decide) ?_
    refine lv_istore (lv' := [_, _, _, _, _, _]) hx hb dX9_valueOf_51 hl (by decide) rfl (fun ls hl => ?_)
    exact w_X9_valueOf_53 E 1000 _ _ _ _ _ _ _ hf hW (lv_sub hl [2, 1, 0] rfl)
  · replace hf := ite_t h4 hf
    refine lv_aload_n hx hb dX9_valueOf_16 rfl (lv_at hl 1 rfl) ?_
    refine rg_X9_67 E hW dX9_valueOf_17 ?_
    refine lv_iload_n hx hb dX9_valueOf_20 rfl (lv_at hl 0 rfl) ?_
    obtain ⟨v11, hf⟩ := ldI_e hf
    refine ra_44 E hW v11 dX9_valueOf_21 ?_
    refine lv_iconst (v := (2 : Int32)) hx hb dX9_valueOf_22 (by decide) ?_
    refine lv_idiv hx hb dX9_valueOf_23 (by decide) ?_
    refine lv_goto (tgt := 33) hx hb dX9_valueOf_24 (by decide) ?_
    refine lv_istore_n (lv' := [_, _, _, _]) hx hb dX9_valueOf_33 rfl hl (by decide) rfl (fun ls hl => ?_)
    refine lv_aload_n hx hb dX9_valueOf_34 rfl (lv_at hl 2 rfl) ?_
    refine rg_X9_248 E hW dX9_valueOf_35 ?_
    refine lv_aload_n hx hb dX9_valueOf_38 rfl (lv_at hl 2 rfl) ?_
    refine rg_X9_133 E hW dX9_valueOf_39 ?_
    refine lv_iload_n hx hb dX9_valueOf_42 rfl (lv_at hl 3 rfl) ?_
    obtain ⟨v13, hf⟩ := ldI_e hf
    refine ra_66 E hW v13 dX9_valueOf_43 ?_
    refine lv_isub hx hb dX9_valueOf_44 ?_
    refine lv_bipush (v := (30 : Int32)) hx hb dX9_valueOf_45 (by decide) ?_
    refine lv_idiv hx hb dX9_valueOf_47 (by decide) ?_
    refine lv_istore (lv' := [_, _, _, _, _]) hx hb dX9_valueOf_48 hl (by decide) rfl (fun ls hl => ?_)
    refine lv_iconst (v := (0 : Int32)) hx hb dX9_valueOf_50 (by decide) ?_
    refine lv_istore (lv' := [_, _, _, _, _, _]) hx hb dX9_valueOf_51 hl (by decide) rfl (fun ls hl => ?_)
    exact w_X9_valueOf_53 E 1000 _ _ _ _ _ _ _ hf hW (lv_sub hl [2, 1, 0] rfl)
def f_X9_isItem (ms : MS) (v1 : Int32) : Option (Int32 × MS) := if v1 < 0 then (b2 (f_X9_may ms (0 : Int32) (1 : Int32)) fun r3 ms2 => gd (r3 = 0 ∨ r3 = 1) <| some (r3, ms2)) else (if (mi ms 12) ≤ v1 then (b2 (f_X9_may ms (0 : Int32) (1 : Int32)) fun r7 ms6 => gd (r7 = 0 ∨ r7 = 1) <| some (r7, ms6)) else (b2 (f_X9_may ms (1 : Int32) (1 : Int32)) fun r10 ms9 => gd (r10 = 0 ∨ r10 = 1) <| some (r10, ms9)))
def rm_X9_isItem : Room := { frames := 1, cells := 0, slots := 0, locals := 22 }
set_option maxHeartbeats 4000000 in
set_option maxRecDepth 100000 in
theorem c_X9_isItem (l : Launch) {X : XT} {B : Nat} {cs : CS} {ms : MS} {o : Nat → Int64} {v1 : Int32} {r : Int32} {S9 : MS} (hf : f_X9_isItem ms v1 = some (r, S9)) : Met l yX9_isItem (.code yX9_isItem cX9_isItem 2 (some .boolean) :: BIG) rm_X9_isItem (Pre X B (cs, ms, o) [.ref (X.1 7), .int v1]) (QI X B r (cs, S9, o)) 0 0 (Ab B) := by
  refine entry (by decide +kernel) rfl (Nat.le_of_ble_eq_true rfl) (fun p e s m below meth c ls E hW hl => ?_)
  obtain ⟨hx, hb, hml, hown, hts, -⟩ := id E
  replace hl : lv_has ls 2 [(0, .ref (X.1 7)), (1, .int v1)] := hl
  unfold f_X9_isItem at hf
  refine lv_aload_n hx hb dX9_isItem_0 rfl (lv_at hl 0 rfl) ?_
  refine lv_iload_n hx hb dX9_isItem_1 rfl (lv_at hl 1 rfl) ?_
  refine lv_if_lt (tgt := 17) hx hb dX9_isItem_2 (by decide) (fun h1 => ?_) (fun h1 => ?_)
  · replace hf := ite_t h1 hf
    refine lv_iconst (v := (0 : Int32)) hx hb dX9_isItem_17 (by decide) ?_
    refine lv_iconst (v := (1 : Int32)) hx hb dX9_isItem_18 (by decide) ?_
    obtain ⟨r3, ms2, hc, hf⟩ := b2_e hf
    refine callVI (As := [.int _, .int _]) (rest := []) E hW (c_X9_may l hc) lk_X9_151 rcv_X9 (Nat.le_of_ble_eq_true rfl) (Nat.le_of_ble_eq_true rfl) (Nat.le_of_ble_eq_true rfl) (Nat.le_of_ble_eq_true rfl) hl.1 (Nat.le_of_ble_eq_true rfl) dX9_isItem_19 (fun H locs hW => ?_)
    obtain ⟨v4, hf⟩ := gd_e hf
    exact retZ E hW v4 (e2M hf) dX9_isItem_22
  · replace hf := ite_f h1 hf
    refine lv_iload_n hx hb dX9_isItem_5 rfl (lv_at hl 1 rfl) ?_
    refine lv_aload_n hx hb dX9_isItem_6 rfl (lv_at hl 0 rfl) ?_
    refine rg_X9_277 E hW dX9_isItem_7 ?_
    refine lv_icmp_ge (tgt := 17) hx hb dX9_isItem_10 (by decide) (fun h5 => ?_) (fun h5 => ?_)
    · replace hf := ite_t h5 hf
      refine lv_iconst (v := (0 : Int32)) hx hb dX9_isItem_17 (by decide) ?_
      refine lv_iconst (v := (1 : Int32)) hx hb dX9_isItem_18 (by decide) ?_
      obtain ⟨r7, ms6, hc, hf⟩ := b2_e hf
      refine callVI (As := [.int _, .int _]) (rest := []) E hW (c_X9_may l hc) lk_X9_151 rcv_X9 (Nat.le_of_ble_eq_true rfl) (Nat.le_of_ble_eq_true rfl) (Nat.le_of_ble_eq_true rfl) (Nat.le_of_ble_eq_true rfl) hl.1 (Nat.le_of_ble_eq_true rfl) dX9_isItem_19 (fun H locs hW => ?_)
      obtain ⟨v8, hf⟩ := gd_e hf
      exact retZ E hW v8 (e2M hf) dX9_isItem_22
    · replace hf := ite_f h5 hf
      refine lv_iconst (v := (1 : Int32)) hx hb dX9_isItem_13 (by decide) ?_
      refine lv_goto (tgt := 18) hx hb dX9_isItem_14 (by decide) ?_
      refine lv_iconst (v := (1 : Int32)) hx hb dX9_isItem_18 (by decide) ?_
      obtain ⟨r10, ms9, hc, hf⟩ := b2_e hf
      refine callVI (As := [.int _, .int _]) (rest := []) E hW (c_X9_may l hc) lk_X9_151 rcv_X9 (Nat.le_of_ble_eq_true rfl) (Nat.le_of_ble_eq_true rfl) (Nat.le_of_ble_eq_true rfl) (Nat.le_of_ble_eq_true rfl) hl.1 (Nat.le_of_ble_eq_true rfl) dX9_isItem_19 (fun H locs hW => ?_)
      obtain ⟨v11, hf⟩ := gd_e hf
      exact retZ E hW v11 (e2M hf) dX9_isItem_22
def f_X9_item_28 (ms : MS) (v1 : Int32) (v2 : Int32) (s1 : Int32) : Option (Int32 × MS) := b2 (f_X9_may ms s1 (2 : Int32)) fun r6 ms5 => if r6 = 0 then (some ((0 : Int32), ms5)) else (if v2 = (0 : Int32) then ((ldI (ma ms5 63) 400 v1).bind fun q10 => some (q10, ms5)) else (if v2 = (1 : Int32) then ((ldI (ma ms5 64) 400 v1).bind fun q13 => some (q13, ms5)) else (if v2 = (2 : Int32) then ((ldI (ma ms5 65) 400 v1).bind fun q16 => some (q16, ms5)) else (if v2 = (3 : Int32) then ((ldI (ma ms5 65) 400 v1).bind fun q19 => if q19 = 0 then ((f_X9_valueOf ms5 v1).bind fun r26 => some (r26, ms5)) else ((ldI (ma ms5 65) 400 v1).bind fun q22 => if q22 = (1 : Int32) then ((ldI (ma ms5 67) 400 v1).bind fun q25 => some (q25, ms5)) else (some ((0 : Int32), ms5)))) else ((ldI (ma ms5 66) 400 v1).bind fun q28 => some (q28, ms5))))))
def f_X9_item_27 (ms : MS) (v1 : Int32) (v2 : Int32) : Option (Int32 × MS) := f_X9_item_28 ms v1 v2 (0 : Int32)
def f_X9_item (ms : MS) (v1 : Int32) (v2 : Int32) : Option (Int32 × MS) := b2 (f_X9_isItem (miU ms 0 (0 : Int32)) v1) fun r2 ms1 => if r2 = 0 then (some ((0 : Int32), ms1)) else (if v2 < 0 then (f_X9_item_27 ms1 v1 v2) else (if (4 : Int32) < v2 then (f_X9_item_27 ms1 v1 v2) else (f_X9_item_28 ms1 v1 v2 (1 : Int32))))
def rm_X9_item : Room := { frames := 2, cells := 0, slots := 0, locals := 46 }
set_option maxHeartbeats 4000000 in
set_option maxRecDepth 100000 in
theorem w_X9_item_28 {p : Program} {l : Launch} {e : Env} {s : State} {m : MethodId} {args : Array Value} {below : List Frame} {meth : Method} {c : Code} {X : XT} {B : Nat} {cs : CS} {o : Nat → Int64} {r : Int32} {S9 : MS} (E : Ev X B p s m args meth c RX9 cX9_item 3 (some .int)) : ∀ (ms : MS) (v1 : Int32) (v2 : Int32) (s1 : Int32) (H : Heap) (locs : List Loc) (ls : Array Slot), f_X9_item_28 ms v1 v2 s1 = some (r, S9) → Ws X B s.heap H locs (cs, ms, o) → lv_has ls 3 [(0, .ref (X.1 7)), (1, .int v1), (2, .int v2)] → W p l e rm_X9_item s m args below meth c H locs 0 0 (MQ below (QI X B r (cs, S9, o)) args s 0 0 (Ab B)) (F0 m 28 ls [.int s1, .ref (X.1 7)]) := by
  obtain ⟨hx, hb, hml, hown, hts, -⟩ := id E
  intro ms v1 v2 s1 H locs ls hf hW hl
  unfold f_X9_item_28 at hf
  refine lv_iconst (v := (2 : Int32)) hx hb dX9_item_28 (by decide) ?_
  obtain ⟨r6, ms5, hc, hf⟩ := b2_e hf
  refine callVI (As := [.int _, .int _]) (rest := []) E hW (c_X9_may l hc) lk_X9_151 rcv_X9 (Nat.le_of_ble_eq_true rfl) (Nat.le_of_ble_eq_true rfl) (Nat.le_of_ble_eq_true rfl) (Nat.le_of_ble_eq_true rfl) hl.1 (Nat.le_of_ble_eq_true rfl) dX9_item_29 (fun H locs hW => ?_)
  refine lv_if_ne (tgt := 37) hx hb dX9_item_32 (by decide) (fun h7 => ?_) (fun h7 => ?_)
  · replace hf := ite_f h7 hf
    refine lv_iload_n hx hb dX9_item_37 rfl (lv_at hl 2 rfl) ?_
    by_cases h8 : v2 = (0 : Int32)
    · replace hf := ite_t h8 hf
      refine lv_tableIn (tgt := 68) hx hb dX9_item_38 (by rw [h8]; decide) (by rw [h8]; decide) (by rw [h8]; rfl) (by decide) ?_
      refine lv_aload_n hx hb dX9_item_68 rfl (lv_at hl 0 rfl) ?_
      refine rg_X9_124 E hW dX9_item_69 ?_
      refine lv_iload_n hx hb dX9_item_72 rfl (lv_at hl 1 rfl) ?_
      obtain ⟨v9, hf⟩ := ldI_e hf
      refine ra_63 E hW v9 dX9_item_73 ?_
      exact retI E hW (e2M hf) dX9_item_74
    · replace hf := ite_f h8 hf
      by_cases h11 : v2 = (1 : Int32)
      · replace hf := ite_t h11 hf
        refine lv_tableIn (tgt := 75) hx hb dX9_item_38 (by rw [h11]; decide) (by rw [h11]; decide) (by rw [h11]; rfl) (by decide) ?_
        refine lv_aload_n hx hb dX9_item_75 rfl (lv_at hl 0 rfl) ?_
        refine rg_X9_127 E hW dX9_item_76 ?_
        refine lv_iload_n hx hb dX9_item_79 rfl (lv_at hl 1 rfl) ?_
        obtain ⟨v12, hf⟩ := ldI_e hf
        refine ra_64 E hW v12 dX9_item_80 ?_
        exact retI E hW (e2M hf) dX9_item_81
      · replace hf := ite_f h11 hf
        by_cases h14 : v2 = (2 : Int32)
        · replace hf := ite_t h14 hf
          refine lv_tableIn (tgt := 82) hx hb dX9_item_38 (by rw [h14]; decide) (by rw [h14]; decide) (by rw [h14]; rfl) (by decide) ?_
          refine lv_aload_n hx hb dX9_item_82 rfl (lv_at hl 0 rfl) ?_
          refine rg_X9_130 E hW dX9_item_83 ?_
          refine lv_iload_n hx hb dX9_item_86 rfl (lv_at hl 1 rfl) ?_
          obtain ⟨v15, hf⟩ := ldI_e hf
          refine ra_65 E hW v15 dX9_item_87 ?_
          exact retI E hW (e2M hf) dX9_item_88
        · replace hf := ite_f h14 hf
          by_cases h17 : v2 = (3 : Int32)
          · replace hf := ite_t h17 hf
            refine lv_tableIn (tgt := 89) hx hb dX9_item_38 (by rw [h17]; decide) (by rw [h17]; decide) (by rw [h17]; rfl) (by decide) ?_
            refine lv_aload_n hx hb dX9_item_89 rfl (lv_at hl 0 rfl) ?_
            refine rg_X9_130 E hW dX9_item_90 ?_
            refine lv_iload_n hx hb dX9_item_93 rfl (lv_at hl 1 rfl) ?_
            obtain ⟨v18, hf⟩ := ldI_e hf
            refine ra_65 E hW v18 dX9_item_94 ?_
            refine lv_if_ne (tgt := 106) hx hb dX9_item_95 (by decide) (fun h20 => ?_) (fun h20 => ?_)
            · replace hf := ite_f h20 hf
              refine lv_aload_n hx hb dX9_item_106 rfl (lv_at hl 0 rfl) ?_
              refine rg_X9_130 E hW dX9_item_107 ?_
              refine lv_iload_n hx hb dX9_item_110 rfl (lv_at hl 1 rfl) ?_
              obtain ⟨v21, hf⟩ := ldI_e hf
              refine ra_65 E hW v21 dX9_item_111 ?_
              refine lv_iconst (v := (1 : Int32)) hx hb dX9_item_112 (by decide) ?_
              refine lv_icmp_ne (tgt := 125) hx hb dX9_item_113 (by decide) (fun h23 => ?_) (fun h23 => ?_)
              · replace hf := ite_f h23 hf
                refine lv_iconst (v := (0 : Int32)) hx hb dX9_item_125 (by decide) ?_
                exact retI E hW (e2M hf) dX9_item_126
              · replace hf := ite_t h23 hf
                refine lv_aload_n hx hb dX9_item_116 rfl (lv_at hl 0 rfl) ?_
                refine rg_X9_136 E hW dX9_item_117 ?_
                refine lv_iload_n hx hb dX9_item_120 rfl (lv_at hl 1 rfl) ?_
                obtain ⟨v24, hf⟩ := ldI_e hf
                refine ra_67 E hW v24 dX9_item_121 ?_
                refine lv_goto (tgt := 126) hx hb dX9_item_122 (by decide) ?_
                exact retI E hW (e2M hf) dX9_item_126
            · replace hf := ite_t h20 hf
              refine lv_aload_n hx hb dX9_item_98 rfl (lv_at hl 0 rfl) ?_
              refine lv_iload_n hx hb dX9_item_99 rfl (lv_at hl 1 rfl) ?_
              obtain ⟨r26, hc, hf⟩ := b1_e hf
              refine callVI (As := [.int _]) (rest := []) E hW (c_X9_valueOf l hc) lk_X9_291 rcv_X9 (Nat.le_of_ble_eq_true rfl) (Nat.le_of_ble_eq_true rfl) (Nat.le_of_ble_eq_true rfl) (Nat.le_of_ble_eq_true rfl) hl.1 (Nat.le_of_ble_eq_true rfl) dX9_item_100 (fun H locs hW => ?_)
              refine lv_goto (tgt := 126) hx hb dX9_item_103 (by decide) ?_
              exact retI E hW (e2M hf) dX9_item_126
          · replace hf := ite_f h17 hf
            have eh8 := lv_neT h8 (a := 0) (by decide)
            have eh11 := lv_neT h11 (a := 1) (by decide)
            have eh14 := lv_neT h14 (a := 2) (by decide)
            have eh17 := lv_neT h17 (a := 3) (by decide)
            refine lv_tableOut (tgt := 127) hx hb dX9_item_38 (by omega) (by decide) ?_
            refine lv_aload_n hx hb dX9_item_127 rfl (lv_at hl 0 rfl) ?_
            refine rg_X9_133 E hW dX9_item_128 ?_
            refine lv_iload_n hx hb dX9_item_131 rfl (lv_at hl 1 rfl) ?_
            obtain ⟨v27, hf⟩ := ldI_e hf
            refine ra_66 E hW v27 dX9_item_132 ?_
            exact retI E hW (e2M hf) dX9_item_133
  · replace hf := ite_t h7 hf
    refine lv_iconst (v := (0 : Int32)) hx hb dX9_item_35 (by decide) ?_
    exact retI E hW (e2M hf) dX9_item_36
set_option maxHeartbeats 4000000 in
set_option maxRecDepth 100000 in
theorem w_X9_item_27 {p : Program} {l : Launch} {e : Env} {s : State} {m : MethodId} {args : Array Value} {below : List Frame} {meth : Method} {c : Code} {X : XT} {B : Nat} {cs : CS} {o : Nat → Int64} {r : Int32} {S9 : MS} (E : Ev X B p s m args meth c RX9 cX9_item 3 (some .int)) : ∀ (ms : MS) (v1 : Int32) (v2 : Int32) (H : Heap) (locs : List Loc) (ls : Array Slot), f_X9_item_27 ms v1 v2 = some (r, S9) → Ws X B s.heap H locs (cs, ms, o) → lv_has ls 3 [(0, .ref (X.1 7)), (1, .int v1), (2, .int v2)] → W p l e rm_X9_item s m args below meth c H locs 0 0 (MQ below (QI X B r (cs, S9, o)) args s 0 0 (Ab B)) (F0 m 27 ls [.ref (X.1 7)]) := by
  obtain ⟨hx, hb, hml, hown, hts, -⟩ := id E
  intro ms v1 v2 H locs ls hf hW hl
  unfold f_X9_item_27 at hf
  refine lv_iconst (v := (0 : Int32)) hx hb dX9_item_27 (by decide) ?_
  exact w_X9_item_28 E _ _ _ _ _ _ _ hf hW (lv_sub hl [0, 1, 2] rfl)
set_option maxHeartbeats 4000000 in
set_option maxRecDepth 100000 in
theorem c_X9_item (l : Launch) {X : XT} {B : Nat} {cs : CS} {ms : MS} {o : Nat → Int64} {v1 : Int32} {v2 : Int32} {r : Int32} {S9 : MS} (hf : f_X9_item ms v1 v2 = some (r, S9)) : Met l yX9_item (.code yX9_item cX9_item 3 (some .int) :: BIG) rm_X9_item (Pre X B (cs, ms, o) [.ref (X.1 7), .int v1, .int v2]) (QI X B r (cs, S9, o)) 0 0 (Ab B) := by
  refine entry (by decide +kernel) rfl (Nat.le_of_ble_eq_true rfl) (fun p e s m below meth c ls E hW hl => ?_)
  obtain ⟨hx, hb, hml, hown, hts, -⟩ := id E
  replace hl : lv_has ls 3 [(0, .ref (X.1 7)), (1, .int v1), (2, .int v2)] := hl
  unfold f_X9_item at hf
  refine lv_aload_n hx hb dX9_item_0 rfl (lv_at hl 0 rfl) ?_
  refine lv_iconst (v := (0 : Int32)) hx hb dX9_item_1 (by decide) ?_
  refine rp_X9_1 E hW dX9_item_2 (fun H locs hW => ?_)
  refine lv_aload_n hx hb dX9_item_5 rfl (lv_at hl 0 rfl) ?_
  refine lv_iload_n hx hb dX9_item_6 rfl (lv_at hl 1 rfl) ?_
  obtain ⟨r2, ms1, hc, hf⟩ := b2_e hf
  refine callVI (As := [.int _]) (rest := []) E hW (c_X9_isItem l hc) lk_X9_288 rcv_X9 (Nat.le_of_ble_eq_true rfl) (Nat.le_of_ble_eq_true rfl) (Nat.le_of_ble_eq_true rfl) (Nat.le_of_ble_eq_true rfl) hl.1 (Nat.le_of_ble_eq_true rfl) dX9_item_7 (fun H locs hW => ?_)
  refine lv_if_eq (tgt := 35) hx hb dX9_item_10 (by decide) (fun h3 => ?_) (fun h3 => ?_)
  · replace hf := ite_t h3 hf
    refine lv_iconst (v := (0 : Int32)) hx hb dX9_item_35 (by decide) ?_
    exact retI E hW (e2M hf) dX9_item_36
  · replace hf := ite_f h3 hf
    refine lv_aload_n hx hb dX9_item_13 rfl (lv_at hl 0 rfl) ?_
    refine lv_iload_n hx hb dX9_item_14 rfl (lv_at hl 2 rfl) ?_
    refine lv_if_lt (tgt := 27) hx hb dX9_item_15 (by decide) (fun h4 => ?_) (fun h4 => ?_)
    · replace hf := ite_t h4 hf
      exact w_X9_item_27 E _ _ _ _ _ _ hf hW (lv_sub hl [0, 1, 2] rfl)
    · replace hf := ite_f h4 hf
      refine lv_iload_n hx hb dX9_item_18 rfl (lv_at hl 2 rfl) ?_
      refine lv_iconst (v := (4 : Int32)) hx hb dX9_item_19 (by decide) ?_
      refine lv_icmp_gt (tgt := 27) hx hb dX9_item_20 (by decide) (fun h29 => ?_) (fun h29 => ?_)
      · replace hf := ite_t h29 hf
        exact w_X9_item_27 E _ _ _ _ _ _ hf hW (lv_sub hl [0, 1, 2] rfl)
      · replace hf := ite_f h29 hf
        refine lv_iconst (v := (1 : Int32)) hx hb dX9_item_23 (by decide) ?_
        refine lv_goto (tgt := 28) hx hb dX9_item_24 (by decide) ?_
        exact w_X9_item_28 E _ _ _ _ _ _ _ hf hW (lv_sub hl [0, 1, 2] rfl)
def f_X9_insert_107 (k : MS → Int32 → Int32 → Int32 → Int32 → Option (MS)) (ms : MS) (v1 : Int32) (v2 : Int32) (v3 : Int32) (v4 : Int32) : Option (MS) := ixr 60 v4 <| ixr 60 v4 <| ixr 60 v4 <| some (miU (maU (maU (maU ms 68 (v4).toNatClampNeg v1) 69 (v4).toNatClampNeg v3) 70 (v4).toNatClampNeg (vp_nar .boolean v2)) 14 ((mi (maU (maU (maU ms 68 (v4).toNatClampNeg v1) 69 (v4).toNatClampNeg v3) 70 (v4).toNatClampNeg (vp_nar .boolean v2)) 14) + (1 : Int32)))
def f_X9_insert_53 (k : MS → Int32 → Int32 → Int32 → Int32 → Option (MS)) (ms : MS) (v1 : Int32) (v2 : Int32) (v3 : Int32) (v4 : Int32) : Option (MS) := (ldI (ma ms 68) 60 (v4 - (1 : Int32))).bind fun q15 => ixr 60 v4 <| (ldI (ma (maU ms 68 (v4).toNatClampNeg q15) 69) 60 (v4 - (1 : Int32))).bind fun q18 => ixr 60 v4 <| (ldI (ma (maU (maU ms 68 (v4).toNatClampNeg q15) 69 (v4).toNatClampNeg q18) 70) 60 (v4 - (1 : Int32))).bind fun q21 => ixr 60 v4 <| k (maU (maU (maU ms 68 (v4).toNatClampNeg q15) 69 (v4).toNatClampNeg q18) 70 (v4).toNatClampNeg (vp_nar .boolean q21)) v1 v2 v3 (v4 + (-1 : Int32))
def f_X9_insert_27 (k : MS → Int32 → Int32 → Int32 → Int32 → Option (MS)) (ms : MS) (v1 : Int32) (v2 : Int32) (v3 : Int32) (v4 : Int32) : Option (MS) := (ldI (ma ms 70) 60 (v4 - (1 : Int32))).bind fun q9 => if q9 = v2 then ((ldI (ma ms 69) 60 (v4 - (1 : Int32))).bind fun q12 => if q12 ≤ v3 then (f_X9_insert_107 k ms v1 v2 v3 v4) else (f_X9_insert_53 k ms v1 v2 v3 v4)) else (f_X9_insert_107 k ms v1 v2 v3 v4)
def f_X9_insert_6 : Nat → MS → Int32 → Int32 → Int32 → Int32 → Option (MS)
  | 0, _, _, _, _, _ => none
  | n + 1, ms, v1, v2, v3, v4 => if v4 ≤ 0 then (f_X9_insert_107 (f_X9_insert_6 n) ms v1 v2 v3 v4) else ((ldI (ma ms 70) 60 (v4 - (1 : Int32))).bind fun q6 => if q6 = 0 then (f_X9_insert_27 (f_X9_insert_6 n) ms v1 v2 v3 v4) else (if v2 = 0 then (f_X9_insert_53 (f_X9_insert_6 n) ms v1 v2 v3 v4) else (f_X9_insert_27 (f_X9_insert_6 n) ms v1 v2 v3 v4)))
def f_X9_insert (ms : MS) (v1 : Int32) (v2 : Int32) (v3 : Int32) : Option (MS) := f_X9_insert_6 1000 ms v1 v2 v3 (mi ms 14)
def rm_X9_insert : Room := { frames := 0, cells := 0, slots := 0, locals := 0 }
set_option maxHeartbeats 4000000 in
set_option maxRecDepth 100000 in
theorem w_X9_insert_107 {p : Program} {l : Launch} {e : Env} {s : State} {m : MethodId} {args : Array Value} {below : List Frame} {meth : Method} {c : Code} {X : XT} {B : Nat} {cs : CS} {o : Nat → Int64} {S9 : MS} (E : Ev X B p s m args meth c RX9 cX9_insert 5 none) (k : MS → Int32 → Int32 → Int32 → Int32 → Option (MS)) (hk : ∀ (ms : MS) (v1 : Int32) (v2 : Int32) (v3 : Int32) (v4 : Int32) (H : Heap) (locs : List Loc) (ls : Array Slot), k ms v1 v2 v3 v4 = some S9 → Ws X B s.heap H locs (cs, ms, o) → lv_has ls 5 [(0, .ref (X.1 7)), (1, .int v1), (2, .int v2), (3, .int v3), (4, .int v4)] → W p l e rm_X9_insert s m args below meth c H locs 0 0 (MQ below (QV X B (cs, S9, o)) args s 0 0 (Ab B)) (F0 m 6 ls [])) : ∀ (ms : MS) (v1 : Int32) (v2 : Int32) (v3 : Int32) (v4 : Int32) (H : Heap) (locs : List Loc) (ls : Array Slot), f_X9_insert_107 k ms v1 v2 v3 v4 = some S9 → Ws X B s.heap H locs (cs, ms, o) → lv_has ls 5 [(0, .ref (X.1 7)), (1, .int v1), (2, .int v2), (3, .int v3), (4, .int v4)] → W p l e rm_X9_insert s m args below meth c H locs 0 0 (MQ below (QV X B (cs, S9, o)) args s 0 0 (Ab B)) (F0 m 107 ls []) := by
  obtain ⟨hx, hb, hml, hown, hts, -⟩ := id E
  intro ms v1 v2 v3 v4 H locs ls hf hW hl
  unfold f_X9_insert_107 at hf
  refine lv_aload_n hx hb dX9_insert_107 rfl (lv_at hl 0 rfl) ?_
  refine rg_X9_139 E hW dX9_insert_108 ?_
  refine lv_iload hx hb dX9_insert_111 (lv_at hl 4 rfl) ?_
  refine lv_iload_n hx hb dX9_insert_113 rfl (lv_at hl 1 rfl) ?_
  obtain ⟨v2, hf⟩ := ixr_e hf
  refine rs_68 E hW v2 dX9_insert_114 (fun H locs hW => ?_)
  refine lv_aload_n hx hb dX9_insert_115 rfl (lv_at hl 0 rfl) ?_
  refine rg_X9_142 E hW dX9_insert_116 ?_
  refine lv_iload hx hb dX9_insert_119 (lv_at hl 4 rfl) ?_
  refine lv_iload_n hx hb dX9_insert_121 rfl (lv_at hl 3 rfl) ?_
  obtain ⟨v3, hf⟩ := ixr_e hf
  refine rs_69 E hW v3 dX9_insert_122 (fun H locs hW => ?_)
  refine lv_aload_n hx hb dX9_insert_123 rfl (lv_at hl 0 rfl) ?_
  refine rg_X9_145 E hW dX9_insert_124 ?_
  refine lv_iload hx hb dX9_insert_127 (lv_at hl 4 rfl) ?_
  refine lv_iload_n hx hb dX9_insert_129 rfl (lv_at hl 2 rfl) ?_
  obtain ⟨v4, hf⟩ := ixr_e hf
  refine rs_70 E hW v4 dX9_insert_130 (fun H locs hW => ?_)
  refine lv_aload_n hx hb dX9_insert_131 rfl (lv_at hl 0 rfl) ?_
  refine lv_dup hx hb dX9_insert_132 rfl ?_
  refine rg_X9_294 E hW dX9_insert_133 ?_
  refine lv_iconst (v := (1 : Int32)) hx hb dX9_insert_136 (by decide) ?_
  refine lv_iadd hx hb dX9_insert_137 ?_
  refine rp_X9_294 E hW dX9_insert_138 (fun H locs hW => ?_)
  exact retV E hW (e1M hf) dX9_insert_141
set_option maxHeartbeats 4000000 in
set_option maxRecDepth 100000 in
theorem w_X9_insert_53 {p : Program} {l : Launch} {e : Env} {s : State} {m : MethodId} {args : Array Value} {below : List Frame} {meth : Method} {c : Code} {X : XT} {B : Nat} {cs : CS} {o : Nat → Int64} {S9 : MS} (E : Ev X B p s m args meth c RX9 cX9_insert 5 none) (k : MS → Int32 → Int32 → Int32 → Int32 → Option (MS)) (hk : ∀ (ms : MS) (v1 : Int32) (v2 : Int32) (v3 : Int32) (v4 : Int32) (H : Heap) (locs : List Loc) (ls : Array Slot), k ms v1 v2 v3 v4 = some S9 → Ws X B s.heap H locs (cs, ms, o) → lv_has ls 5 [(0, .ref (X.1 7)), (1, .int v1), (2, .int v2), (3, .int v3), (4, .int v4)] → W p l e rm_X9_insert s m args below meth c H locs 0 0 (MQ below (QV X B (cs, S9, o)) args s 0 0 (Ab B)) (F0 m 6 ls [])) : ∀ (ms : MS) (v1 : Int32) (v2 : Int32) (v3 : Int32) (v4 : Int32) (H : Heap) (locs : List Loc) (ls : Array Slot), f_X9_insert_53 k ms v1 v2 v3 v4 = some S9 → Ws X B s.heap H locs (cs, ms, o) → lv_has ls 5 [(0, .ref (X.1 7)), (1, .int v1), (2, .int v2), (3, .int v3), (4, .int v4)] → W p l e rm_X9_insert s m args below meth c H locs 0 0 (MQ below (QV X B (cs, S9, o)) args s 0 0 (Ab B)) (F0 m 53 ls []) := by
  obtain ⟨hx, hb, hml, hown, hts, -⟩ := id E
  intro ms v1 v2 v3 v4 H locs ls hf hW hl
  unfold f_X9_insert_53 at hf
  refine lv_aload_n hx hb dX9_insert_53 rfl (lv_at hl 0 rfl) ?_
  refine rg_X9_139 E hW dX9_insert_54 ?_
  refine lv_iload hx hb dX9_insert_57 (lv_at hl 4 rfl) ?_
  refine lv_aload_n hx hb dX9_insert_59 rfl (lv_at hl 0 rfl) ?_
  refine rg_X9_139 E hW dX9_insert_60 ?_
  refine lv_iload hx hb dX9_insert_63 (lv_at hl 4 rfl) ?_
  refine lv_iconst (v := (1 : Int32)) hx hb dX9_insert_65 (by decide) ?_
  refine lv_isub hx hb dX9_insert_66 ?_
  obtain ⟨v14, hf⟩ := ldI_e hf
  refine ra_68 E hW v14 dX9_insert_67 ?_
  obtain ⟨v16, hf⟩ := ixr_e hf
  refine rs_68 E hW v16 dX9_insert_68 (fun H locs hW => ?_)
  refine lv_aload_n hx hb dX9_insert_69 rfl (lv_at hl 0 rfl) ?_
  refine rg_X9_142 E hW dX9_insert_70 ?_
  refine lv_iload hx hb dX9_insert_73 (lv_at hl 4 rfl) ?_
  refine lv_aload_n hx hb dX9_insert_75 rfl (lv_at hl 0 rfl) ?_
  refine rg_X9_142 E hW dX9_insert_76 ?_
  refine lv_iload hx hb dX9_insert_79 (lv_at hl 4 rfl) ?_
  refine lv_iconst (v := (1 : Int32)) hx hb dX9_insert_81 (by decide) ?_
  refine lv_isub hx hb dX9_insert_82 ?_
  obtain ⟨v17, hf⟩ := ldI_e hf
  refine ra_69 E hW v17 dX9_insert_83 ?_
  obtain ⟨v19, hf⟩ := ixr_e hf
  refine rs_69 E hW v19 dX9_insert_84 (fun H locs hW => ?_)
  refine lv_aload_n hx hb dX9_insert_85 rfl (lv_at hl 0 rfl) ?_
  refine rg_X9_145 E hW dX9_insert_86 ?_
  refine lv_iload hx hb dX9_insert_89 (lv_at hl 4 rfl) ?_
  refine lv_aload_n hx hb dX9_insert_91 rfl (lv_at hl 0 rfl) ?_
  refine rg_X9_145 E hW dX9_insert_92 ?_
  refine lv_iload hx hb dX9_insert_95 (lv_at hl 4 rfl) ?_
  refine lv_iconst (v := (1 : Int32)) hx hb dX9_insert_97 (by decide) ?_
  refine lv_isub hx hb dX9_insert_98 ?_
  obtain ⟨v20, hf⟩ := ldI_e hf
  refine ra_70 E hW v20 dX9_insert_99 ?_
  obtain ⟨v22, hf⟩ := ixr_e hf
  refine rs_70 E hW v22 dX9_insert_100 (fun H locs hW => ?_)
  refine lv_iinc (v := _ + (-1 : Int32)) (lv' := [_, _, _, _, _]) hx hb dX9_insert_101 hl (k := 4) rfl rfl (by decide) rfl (fun ls hl => ?_)
  refine lv_goto (tgt := 6) hx hb dX9_insert_104 (by decide) ?_
  exact hk _ _ _ _ _ _ _ _ hf hW (lv_sub hl [1, 2, 3, 4, 0] rfl)
set_option maxHeartbeats 4000000 in
set_option maxRecDepth 100000 in
theorem w_X9_insert_27 {p : Program} {l : Launch} {e : Env} {s : State} {m : MethodId} {args : Array Value} {below : List Frame} {meth : Method} {c : Code} {X : XT} {B : Nat} {cs : CS} {o : Nat → Int64} {S9 : MS} (E : Ev X B p s m args meth c RX9 cX9_insert 5 none) (k : MS → Int32 → Int32 → Int32 → Int32 → Option (MS)) (hk : ∀ (ms : MS) (v1 : Int32) (v2 : Int32) (v3 : Int32) (v4 : Int32) (H : Heap) (locs : List Loc) (ls : Array Slot), k ms v1 v2 v3 v4 = some S9 → Ws X B s.heap H locs (cs, ms, o) → lv_has ls 5 [(0, .ref (X.1 7)), (1, .int v1), (2, .int v2), (3, .int v3), (4, .int v4)] → W p l e rm_X9_insert s m args below meth c H locs 0 0 (MQ below (QV X B (cs, S9, o)) args s 0 0 (Ab B)) (F0 m 6 ls [])) : ∀ (ms : MS) (v1 : Int32) (v2 : Int32) (v3 : Int32) (v4 : Int32) (H : Heap) (locs : List Loc) (ls : Array Slot), f_X9_insert_27 k ms v1 v2 v3 v4 = some S9 → Ws X B s.heap H locs (cs, ms, o) → lv_has ls 5 [(0, .ref (X.1 7)), (1, .int v1), (2, .int v2), (3, .int v3), (4, .int v4)] → W p l e rm_X9_insert s m args below meth c H locs 0 0 (MQ below (QV X B (cs, S9, o)) args s 0 0 (Ab B)) (F0 m 27 ls []) := by
  obtain ⟨hx, hb, hml, hown, hts, -⟩ := id E
  intro ms v1 v2 v3 v4 H locs ls hf hW hl
  unfold f_X9_insert_27 at hf
  refine lv_aload_n hx hb dX9_insert_27 rfl (lv_at hl 0 rfl) ?_
  refine rg_X9_145 E hW dX9_insert_28 ?_
  refine lv_iload hx hb dX9_insert_31 (lv_at hl 4 rfl) ?_
  refine lv_iconst (v := (1 : Int32)) hx hb dX9_insert_33 (by decide) ?_
  refine lv_isub hx hb dX9_insert_34 ?_
  obtain ⟨v8, hf⟩ := ldI_e hf
  refine ra_70 E hW v8 dX9_insert_35 ?_
  refine lv_iload_n hx hb dX9_insert_36 rfl (lv_at hl 2 rfl) ?_
  refine lv_icmp_ne (tgt := 107) hx hb dX9_insert_37 (by decide) (fun h10 => ?_) (fun h10 => ?_)
  · replace hf := ite_f h10 hf
    exact w_X9_insert_107 E k hk _ _ _ _ _ _ _ _ hf hW (lv_sub hl [0, 1, 2, 3, 4] rfl)
  · replace hf := ite_t h10 hf
    refine lv_aload_n hx hb dX9_insert_40 rfl (lv_at hl 0 rfl) ?_
    refine rg_X9_142 E hW dX9_insert_41 ?_
    refine lv_iload hx hb dX9_insert_44 (lv_at hl 4 rfl) ?_
    refine lv_iconst (v := (1 : Int32)) hx hb dX9_insert_46 (by decide) ?_
    refine lv_isub hx hb dX9_insert_47 ?_
    obtain ⟨v11, hf⟩ := ldI_e hf
    refine ra_69 E hW v11 dX9_insert_48 ?_
    refine lv_iload_n hx hb dX9_insert_49 rfl (lv_at hl 3 rfl) ?_
    refine lv_icmp_le (tgt := 107) hx hb dX9_insert_50 (by decide) (fun h13 => ?_) (fun h13 => ?_)
    · replace hf := ite_t h13 hf
      exact w_X9_insert_107 E k hk _ _ _ _ _ _ _ _ hf hW (lv_sub hl [0, 1, 2, 3, 4] rfl)
    · replace hf := ite_f h13 hf
      exact w_X9_insert_53 E k hk _ _ _ _ _ _ _ _ hf hW (lv_sub hl [0, 1, 2, 3, 4] rfl)
set_option maxHeartbeats 4000000 in
set_option maxRecDepth 100000 in
theorem w_X9_insert_6 {p : Program} {l : Launch} {e : Env} {s : State} {m : MethodId} {args : Array Value} {below : List Frame} {meth : Method} {c : Code} {X : XT} {B : Nat} {cs : CS} {o : Nat → Int64} {S9 : MS} (E : Ev X B p s m args meth c RX9 cX9_insert 5 none) : ∀ (n : Nat) (ms : MS) (v1 : Int32) (v2 : Int32) (v3 : Int32) (v4 : Int32) (H : Heap) (locs : List Loc) (ls : Array Slot), f_X9_insert_6 n ms v1 v2 v3 v4 = some S9 → Ws X B s.heap H locs (cs, ms, o) → lv_has ls 5 [(0, .ref (X.1 7)), (1, .int v1), (2, .int v2), (3, .int v3), (4, .int v4)] → W p l e rm_X9_insert s m args below meth c H locs 0 0 (MQ below (QV X B (cs, S9, o)) args s 0 0 (Ab B)) (F0 m 6 ls []) := by
  obtain ⟨hx, hb, hml, hown, hts, -⟩ := id E
  intro n
  induction n with
  | zero => intro ms v1 v2 v3 v4 H locs ls hf; exact absurd hf nofun
  | succ n ih =>
    intro ms v1 v2 v3 v4 H locs ls hf hW hl
    rw [f_X9_insert_6] at hf
    refine lv_iload hx hb dX9_insert_6 (lv_at hl 4 rfl) ?_
    refine lv_if_le (tgt := 107) hx hb dX9_insert_8 (by decide) (fun h1 => ?_) (fun h1 => ?_)
    · replace hf := ite_t h1 hf
      exact w_X9_insert_107 E (f_X9_insert_6 n) ih _ _ _ _ _ _ _ _ hf hW (lv_sub hl [0, 1, 2, 3, 4] rfl)
    · replace hf := ite_f h1 hf
      refine lv_aload_n hx hb dX9_insert_11 rfl (lv_at hl 0 rfl) ?_
      refine rg_X9_145 E hW dX9_insert_12 ?_
      refine lv_iload hx hb dX9_insert_15 (lv_at hl 4 rfl) ?_
      refine lv_iconst (v := (1 : Int32)) hx hb dX9_insert_17 (by decide) ?_
      refine lv_isub hx hb dX9_insert_18 ?_
      obtain ⟨v5, hf⟩ := ldI_e hf
      refine ra_70 E hW v5 dX9_insert_19 ?_
      refine lv_if_eq (tgt := 27) hx hb dX9_insert_20 (by decide) (fun h7 => ?_) (fun h7 => ?_)
      · replace hf := ite_t h7 hf
        exact w_X9_insert_27 E (f_X9_insert_6 n) ih _ _ _ _ _ _ _ _ hf hW (lv_sub hl [0, 1, 2, 3, 4] rfl)
      · replace hf := ite_f h7 hf
        refine lv_iload_n hx hb dX9_insert_23 rfl (lv_at hl 2 rfl) ?_
        refine lv_if_eq (tgt := 53) hx hb dX9_insert_24 (by decide) (fun h23 => ?_) (fun h23 => ?_)
        · replace hf := ite_t h23 hf
          exact w_X9_insert_53 E (f_X9_insert_6 n) ih _ _ _ _ _ _ _ _ hf hW (lv_sub hl [0, 1, 2, 3, 4] rfl)
        · replace hf := ite_f h23 hf
          exact w_X9_insert_27 E (f_X9_insert_6 n) ih _ _ _ _ _ _ _ _ hf hW (lv_sub hl [0, 1, 2, 3, 4] rfl)
set_option maxHeartbeats 4000000 in
set_option maxRecDepth 100000 in
theorem c_X9_insert (l : Launch) {X : XT} {B : Nat} {cs : CS} {ms : MS} {o : Nat → Int64} {v1 : Int32} {v2 : Int32} {v3 : Int32} {S9 : MS} (hf : f_X9_insert ms v1 v2 v3 = some S9) : Met l yX9_insert (.code yX9_insert cX9_insert 5 none :: BIG) rm_X9_insert (Pre X B (cs, ms, o) [.ref (X.1 7), .int v1, .int v2, .int v3]) (QV X B (cs, S9, o)) 0 0 (Ab B) := by
  refine entry (by decide +kernel) rfl (Nat.le_of_ble_eq_true rfl) (fun p e s m below meth c ls E hW hl => ?_)
  obtain ⟨hx, hb, hml, hown, hts, -⟩ := id E
  replace hl : lv_has ls 5 [(0, .ref (X.1 7)), (1, .int v1), (2, .int v2), (3, .int v3)] := hl
  unfold f_X9_insert at hf
  refine lv_aload_n hx hb dX9_insert_0 rfl (lv_at hl 0 rfl) ?_
  refine rg_X9_294 E hW dX9_insert_1 ?_
  refine lv_istore (lv' := [_, _, _, _, _]) hx hb dX9_insert_4 hl (by decide) rfl (fun ls hl => ?_)
  exact w_X9_insert_6 E 1000 _ _ _ _ _ _ _ _ hf hW (lv_sub hl [1, 2, 3, 4, 0] rfl)
def f_X9_find_38 : Nat → MS → Int32 → Int32 → Int32 → Int32 → Int32 → Option (Int32 × MS)
  | 0, _, _, _, _, _, _ => none
  | n + 1, ms, v1, v2, v3, v4, v5 => if (mi ms 12) ≤ v5 then (some ((mi ms 14), ms)) else ((f_X9_partOf ms v5).bind fun r6 => (ldI (ma ms 65) 400 v5).bind fun q8 => if q8 = 0 then ((ldI (ma ms 39) 192 r6).bind fun q11 => if q11 = v1 then ((ldI (ma ms 63) 400 v5).bind fun q14 => (ldI (ma ms 46) 40 q14).bind fun q16 => if q16 = v2 then ((ldI (ma ms 45) 192 r6).bind fun q29 => if q29 = (-1 : Int32) then ((f_X9_valueOf ms v5).bind fun r38 => (f_X9_insert ms v5 (0 : Int32) r38).bind fun ms39 => f_X9_find_38 n ms39 v1 v2 v3 v4 (v5 + (1 : Int32))) else ((ldI (ma ms 45) 192 r6).bind fun q32 => b2 (f_X9_asks ms q32 v2 v3 v4) fun r34 ms33 => if r34 = 0 then (f_X9_find_38 n ms33 v1 v2 v3 v4 (v5 + (1 : Int32))) else ((f_X9_valueOf ms33 v5).bind fun r36 => (f_X9_insert ms33 v5 (0 : Int32) r36).bind fun ms37 => f_X9_find_38 n ms37 v1 v2 v3 v4 (v5 + (1 : Int32))))) else ((ldI (ma ms 45) 192 r6).bind fun q19 => if q19 = (-1 : Int32) then (f_X9_find_38 n ms v1 v2 v3 v4 (v5 + (1 : Int32))) else ((ldI (ma ms 45) 192 r6).bind fun q22 => b2 (f_X9_asks ms q22 v2 v3 v4) fun r24 ms23 => if r24 = 0 then (f_X9_find_38 n ms23 v1 v2 v3 v4 (v5 + (1 : Int32))) else ((f_X9_valueOf ms23 v5).bind fun r26 => (f_X9_insert ms23 v5 (1 : Int32) r26).bind fun ms27 => f_X9_find_38 n ms27 v1 v2 v3 v4 (v5 + (1 : Int32)))))) else (f_X9_find_38 n ms v1 v2 v3 v4 (v5 + (1 : Int32)))) else (f_X9_find_38 n ms v1 v2 v3 v4 (v5 + (1 : Int32))))
def f_X9_find (ms : MS) (v1 : Int32) (v2 : Int32) (v3 : Int32) (v4 : Int32) : Option (Int32 × MS) := if v1 < 0 then (b2 (f_X9_may (miU ms 0 (0 : Int32)) (0 : Int32) (1 : Int32)) fun r3 ms2 => if r3 = 0 then (some ((0 : Int32), ms2)) else (f_X9_find_38 1000 (miU ms2 14 (0 : Int32)) v1 v2 v3 v4 (0 : Int32))) else (if (99 : Int32) < v1 then (b2 (f_X9_may (miU ms 0 (0 : Int32)) (0 : Int32) (1 : Int32)) fun r42 ms41 => if r42 = 0 then (some ((0 : Int32), ms41)) else (f_X9_find_38 1000 (miU ms41 14 (0 : Int32)) v1 v2 v3 v4 (0 : Int32))) else (b2 (f_X9_may (miU ms 0 (0 : Int32)) (1 : Int32) (1 : Int32)) fun r45 ms44 => if r45 = 0 then (some ((0 : Int32), ms44)) else (f_X9_find_38 1000 (miU ms44 14 (0 : Int32)) v1 v2 v3 v4 (0 : Int32))))
def rm_X9_find : Room := { frames := 2, cells := 0, slots := 0, locals := 46 }
set_option maxHeartbeats 4000000 in
set_option maxRecDepth 100000 in
theorem w_X9_find_38 {p : Program} {l : Launch} {e : Env} {s : State} {m : MethodId} {args : Array Value} {below : List Frame} {meth : Method} {c : Code} {X : XT} {B : Nat} {cs : CS} {o : Nat → Int64} {r : Int32} {S9 : MS} (E : Ev X B p s m args meth c RX9 cX9_find 8 (some .int)) : ∀ (n : Nat) (ms : MS) (v1 : Int32) (v2 : Int32) (v3 : Int32) (v4 : Int32) (v5 : Int32) (H : Heap) (locs : List Loc) (ls : Array Slot), f_X9_find_38 n ms v1 v2 v3 v4 v5 = some (r, S9) → Ws X B s.heap H locs (cs, ms, o) → lv_has ls 8 [(0, .ref (X.1 7)), (1, .int v1), (2, .int v2), (3, .int v3), (4, .int v4), (5, .int v5)] → W p l e rm_X9_find s m args below meth c H locs 0 0 (MQ below (QI X B r (cs, S9, o)) args s 0 0 (Ab B)) (F0 m 38 ls []) := by
  obtain ⟨hx, hb, hml, hown, hts, -⟩ := id E
  intro n
  induction n with
  | zero => intro ms v1 v2 v3 v4 v5 H locs ls hf; exact absurd hf nofun
  | succ n ih =>
    intro ms v1 v2 v3 v4 v5 H locs ls hf hW hl
    rw [f_X9_find_38] at hf
    refine lv_iload hx hb dX9_find_38 (lv_at hl 5 rfl) ?_
    refine lv_aload_n hx hb dX9_find_40 rfl (lv_at hl 0 rfl) ?_
    refine rg_X9_277 E hW dX9_find_41 ?_
    refine lv_icmp_ge (tgt := 170) hx hb dX9_find_44 (by decide) (fun h5 => ?_) (fun h5 => ?_)
    · replace hf := ite_t h5 hf
      refine lv_aload_n hx hb dX9_find_170 rfl (lv_at hl 0 rfl) ?_
      refine rg_X9_294 E hW dX9_find_171 ?_
      exact retI E hW (e2M hf) dX9_find_174
    · replace hf := ite_f h5 hf
      refine lv_aload_n hx hb dX9_find_47 rfl (lv_at hl 0 rfl) ?_
      refine lv_iload hx hb dX9_find_48 (lv_at hl 5 rfl) ?_
      obtain ⟨r6, hc, hf⟩ := b1_e hf
      refine callVI (As := [.int _]) (rest := []) E hW (c_X9_partOf l hc) lk_X9_274 rcv_X9 (Nat.le_of_ble_eq_true rfl) (Nat.le_of_ble_eq_true rfl) (Nat.le_of_ble_eq_true rfl) (Nat.le_of_ble_eq_true rfl) hl.1 (Nat.le_of_ble_eq_true rfl) dX9_find_50 (fun H locs hW => ?_)
      refine lv_istore (lv' := [_, _, _, _, _, _, _]) hx hb dX9_find_53 hl (by decide) rfl (fun ls hl => ?_)
      refine lv_aload_n hx hb dX9_find_55 rfl (lv_at hl 1 rfl) ?_
      refine rg_X9_130 E hW dX9_find_56 ?_
      refine lv_iload hx hb dX9_find_59 (lv_at hl 6 rfl) ?_
      obtain ⟨v7, hf⟩ := ldI_e hf
      refine ra_65 E hW v7 dX9_find_61 ?_
      refine lv_if_ne (tgt := 164) hx hb dX9_find_62 (by decide) (fun h9 => ?_) (fun h9 => ?_)
      · replace hf := ite_f h9 hf
        refine lv_iinc (v := _ + (1 : Int32)) (lv' := [_, _, _, _, _, _, _]) hx hb dX9_find_164 hl (k := 6) rfl rfl (by decide) rfl (fun ls hl => ?_)
        refine lv_goto (tgt := 38) hx hb dX9_find_167 (by decide) ?_
        exact ih _ _ _ _ _ _ _ _ _ hf hW (lv_sub hl [2, 3, 4, 5, 6, 0] rfl)
      · replace hf := ite_t h9 hf
        refine lv_aload_n hx hb dX9_find_65 rfl (lv_at hl 1 rfl) ?_
        refine rg_X9_52 E hW dX9_find_66 ?_
        refine lv_iload hx hb dX9_find_69 (lv_at hl 0 rfl) ?_
        obtain ⟨v10, hf⟩ := ldI_e hf
        refine ra_39 E hW v10 dX9_find_71 ?_
        refine lv_iload_n hx hb dX9_find_72 rfl (lv_at hl 2 rfl) ?_
        refine lv_icmp_eq (tgt := 79) hx hb dX9_find_73 (by decide) (fun h12 => ?_) (fun h12 => ?_)
        · replace hf := ite_t h12 hf
          refine lv_aload_n hx hb dX9_find_79 rfl (lv_at hl 1 rfl) ?_
          refine rg_X9_73 E hW dX9_find_80 ?_
          refine lv_aload_n hx hb dX9_find_83 rfl (lv_at hl 1 rfl) ?_
          refine rg_X9_124 E hW dX9_find_84 ?_
          refine lv_iload hx hb dX9_find_87 (lv_at hl 6 rfl) ?_
          obtain ⟨v13, hf⟩ := ldI_e hf
          refine ra_63 E hW v13 dX9_find_89 ?_
          obtain ⟨v15, hf⟩ := ldI_e hf
          refine ra_46 E hW v15 dX9_find_90 ?_
          refine lv_iload_n hx hb dX9_find_91 rfl (lv_at hl 3 rfl) ?_
          refine lv_icmp_ne (tgt := 99) hx hb dX9_find_92 (by decide) (fun h17 => ?_) (fun h17 => ?_)
          · replace hf := ite_f h17 hf
            refine lv_iconst (v := (0 : Int32)) hx hb dX9_find_99 (by decide) ?_
            refine lv_istore (lv' := [_, _, _, _, _, _, _, _]) hx hb dX9_find_100 hl (by decide) rfl (fun ls hl => ?_)
            refine lv_aload_n hx hb dX9_find_102 rfl (lv_at hl 2 rfl) ?_
            refine rg_X9_70 E hW dX9_find_103 ?_
            refine lv_iload hx hb dX9_find_106 (lv_at hl 1 rfl) ?_
            obtain ⟨v18, hf⟩ := ldI_e hf
            refine ra_45 E hW v18 dX9_find_108 ?_
            refine lv_iconst (v := (-1 : Int32)) hx hb dX9_find_109 (by decide) ?_
            refine lv_icmp_ne (tgt := 121) hx hb dX9_find_110 (by decide) (fun h20 => ?_) (fun h20 => ?_)
            · replace hf := ite_f h20 hf
              refine lv_aload_n hx hb dX9_find_121 rfl (lv_at hl 2 rfl) ?_
              refine lv_aload_n hx hb dX9_find_122 rfl (lv_at hl 2 rfl) ?_
              refine rg_X9_70 E hW dX9_find_123 ?_
              refine lv_iload hx hb dX9_find_126 (lv_at hl 1 rfl) ?_
              obtain ⟨v21, hf⟩ := ldI_e hf
              refine ra_45 E hW v21 dX9_find_128 ?_
              refine lv_iload_n hx hb dX9_find_129 rfl (lv_at hl 4 rfl) ?_
              refine lv_iload_n hx hb dX9_find_130 rfl (lv_at hl 5 rfl) ?_
              refine lv_iload hx hb dX9_find_131 (lv_at hl 6 rfl) ?_
              obtain ⟨r24, ms23, hc, hf⟩ := b2_e hf
              refine callVI (As := [.int _, .int _, .int _, .int _]) (rest := []) E hW (c_X9_asks l hc) lk_X9_215 rcv_X9 (Nat.le_of_ble_eq_true rfl) (Nat.le_of_ble_eq_true rfl) (Nat.le_of_ble_eq_true rfl) (Nat.le_of_ble_eq_true rfl) hl.1 (Nat.le_of_ble_eq_true rfl) dX9_find_133 (fun H locs hW => ?_)
              refine lv_if_ne (tgt := 142) hx hb dX9_find_136 (by decide) (fun h25 => ?_) (fun h25 => ?_)
              · replace hf := ite_f h25 hf
                refine lv_aload_n hx hb dX9_find_142 rfl (lv_at hl 2 rfl) ?_
                refine lv_iload hx hb dX9_find_143 (lv_at hl 7 rfl) ?_
                refine lv_iload hx hb dX9_find_145 (lv_at hl 0 rfl) ?_
                refine lv_if_ne (tgt := 154) hx hb dX9_find_147 (by decide) (fun h9 => absurd h9 (by decide)) (fun _ => ?_)
                refine lv_iconst (v := (1 : Int32)) hx hb dX9_find_150 (by decide) ?_
                refine lv_goto (tgt := 155) hx hb dX9_find_151 (by decide) ?_
                refine lv_aload_n hx hb dX9_find_155 rfl (lv_at hl 2 rfl) ?_
                refine lv_iload hx hb dX9_find_156 (lv_at hl 7 rfl) ?_
                obtain ⟨r26, hc, hf⟩ := b1_e hf
                refine callVI (As := [.int _]) (rest := [_, _, _]) E hW (c_X9_valueOf l hc) lk_X9_291 rcv_X9 (Nat.le_of_ble_eq_true rfl) (Nat.le_of_ble_eq_true rfl) (Nat.le_of_ble_eq_true rfl) (Nat.le_of_ble_eq_true rfl) hl.1 (Nat.le_of_ble_eq_true rfl) dX9_find_158 (fun H locs hW => ?_)
                obtain ⟨ms27, hc, hf⟩ := b1_e hf
                refine callVV (As := [.int _, .int _, .int _]) (rest := []) E hW (c_X9_insert l hc) lk_X9_297 rcv_X9 (Nat.le_of_ble_eq_true rfl) (Nat.le_of_ble_eq_true rfl) (Nat.le_of_ble_eq_true rfl) (Nat.le_of_ble_eq_true rfl) hl.1 (Nat.le_of_ble_eq_true rfl) dX9_find_161 (fun H locs hW => ?_)
                refine lv_iinc (v := _ + (1 : Int32)) (lv' := [_, _, _, _, _, _, _, _]) hx hb dX9_find_164 hl (k := 7) rfl rfl (by decide) rfl (fun ls hl => ?_)
                refine lv_goto (tgt := 38) hx hb dX9_find_167 (by decide) ?_
                exact ih _ _ _ _ _ _ _ _ _ hf hW (lv_sub hl [3, 4, 5, 6, 7, 0] rfl)
              · replace hf := ite_t h25 hf
                refine lv_goto (tgt := 164) hx hb dX9_find_139 (by decide) ?_
                refine lv_iinc (v := _ + (1 : Int32)) (lv' := [_, _, _, _, _, _, _, _]) hx hb dX9_find_164 hl (k := 7) rfl rfl (by decide) rfl (fun ls hl => ?_)
                refine lv_goto (tgt := 38) hx hb dX9_find_167 (by decide) ?_
                exact ih _ _ _ _ _ _ _ _ _ hf hW (lv_sub hl [3, 4, 5, 6, 7, 0] rfl)
            · replace hf := ite_t h20 hf
              refine lv_iload hx hb dX9_find_113 (lv_at hl 0 rfl) ?_
              refine lv_if_ne (tgt := 142) hx hb dX9_find_115 (by decide) (fun h9 => absurd h9 (by decide)) (fun _ => ?_)
              refine lv_goto (tgt := 164) hx hb dX9_find_118 (by decide) ?_
              refine lv_iinc (v := _ + (1 : Int32)) (lv' := [_, _, _, _, _, _, _, _]) hx hb dX9_find_164 hl (k := 7) rfl rfl (by decide) rfl (fun ls hl => ?_)
              refine lv_goto (tgt := 38) hx hb dX9_find_167 (by decide) ?_
              exact ih _ _ _ _ _ _ _ _ _ hf hW (lv_sub hl [3, 4, 5, 6, 7, 0] rfl)
          · replace hf := ite_t h17 hf
            refine lv_iconst (v := (1 : Int32)) hx hb dX9_find_95 (by decide) ?_
            refine lv_goto (tgt := 100) hx hb dX9_find_96 (by decide) ?_
            refine lv_istore (lv' := [_, _, _, _, _, _, _, _]) hx hb dX9_find_100 hl (by decide) rfl (fun ls hl => ?_)
            refine lv_aload_n hx hb dX9_find_102 rfl (lv_at hl 2 rfl) ?_
            refine rg_X9_70 E hW dX9_find_103 ?_
            refine lv_iload hx hb dX9_find_106 (lv_at hl 1 rfl) ?_
            obtain ⟨v28, hf⟩ := ldI_e hf
            refine ra_45 E hW v28 dX9_find_108 ?_
            refine lv_iconst (v := (-1 : Int32)) hx hb dX9_find_109 (by decide) ?_
            refine lv_icmp_ne (tgt := 121) hx hb dX9_find_110 (by decide) (fun h30 => ?_) (fun h30 => ?_)
            · replace hf := ite_f h30 hf
              refine lv_aload_n hx hb dX9_find_121 rfl (lv_at hl 2 rfl) ?_
              refine lv_aload_n hx hb dX9_find_122 rfl (lv_at hl 2 rfl) ?_
              refine rg_X9_70 E hW dX9_find_123 ?_
              refine lv_iload hx hb dX9_find_126 (lv_at hl 1 rfl) ?_
              obtain ⟨v31, hf⟩ := ldI_e hf
              refine ra_45 E hW v31 dX9_find_128 ?_
              refine lv_iload_n hx hb dX9_find_129 rfl (lv_at hl 4 rfl) ?_
              refine lv_iload_n hx hb dX9_find_130 rfl (lv_at hl 5 rfl) ?_
              refine lv_iload hx hb dX9_find_131 (lv_at hl 6 rfl) ?_
              obtain ⟨r34, ms33, hc, hf⟩ := b2_e hf
              refine callVI (As := [.int _, .int _, .int _, .int _]) (rest := []) E hW (c_X9_asks l hc) lk_X9_215 rcv_X9 (Nat.le_of_ble_eq_true rfl) (Nat.le_of_ble_eq_true rfl) (Nat.le_of_ble_eq_true rfl) (Nat.le_of_ble_eq_true rfl) hl.1 (Nat.le_of_ble_eq_true rfl) dX9_find_133 (fun H locs hW => ?_)
              refine lv_if_ne (tgt := 142) hx hb dX9_find_136 (by decide) (fun h35 => ?_) (fun h35 => ?_)
              · replace hf := ite_f h35 hf
                refine lv_aload_n hx hb dX9_find_142 rfl (lv_at hl 2 rfl) ?_
                refine lv_iload hx hb dX9_find_143 (lv_at hl 7 rfl) ?_
                refine lv_iload hx hb dX9_find_145 (lv_at hl 0 rfl) ?_
                refine lv_if_ne (tgt := 154) hx hb dX9_find_147 (by decide) (fun _ => ?_) (fun h9 => absurd h9 (by decide))
                refine lv_iconst (v := (0 : Int32)) hx hb dX9_find_154 (by decide) ?_
                refine lv_aload_n hx hb dX9_find_155 rfl (lv_at hl 2 rfl) ?_
                refine lv_iload hx hb dX9_find_156 (lv_at hl 7 rfl) ?_
                obtain ⟨r36, hc, hf⟩ := b1_e hf
                refine callVI (As := [.int _]) (rest := [_, _, _]) E hW (c_X9_valueOf l hc) lk_X9_291 rcv_X9 (Nat.le_of_ble_eq_true rfl) (Nat.le_of_ble_eq_true rfl) (Nat.le_of_ble_eq_true rfl) (Nat.le_of_ble_eq_true rfl) hl.1 (Nat.le_of_ble_eq_true rfl) dX9_find_158 (fun H locs hW => ?_)
                obtain ⟨ms37, hc, hf⟩ := b1_e hf
                refine callVV (As := [.int _, .int _, .int _]) (rest := []) E hW (c_X9_insert l hc) lk_X9_297 rcv_X9 (Nat.le_of_ble_eq_true rfl) (Nat.le_of_ble_eq_true rfl) (Nat.le_of_ble_eq_true rfl) (Nat.le_of_ble_eq_true rfl) hl.1 (Nat.le_of_ble_eq_true rfl) dX9_find_161 (fun H locs hW => ?_)
                refine lv_iinc (v := _ + (1 : Int32)) (lv' := [_, _, _, _, _, _, _, _]) hx hb dX9_find_164 hl (k := 7) rfl rfl (by decide) rfl (fun ls hl => ?_)
                refine lv_goto (tgt := 38) hx hb dX9_find_167 (by decide) ?_
                exact ih _ _ _ _ _ _ _ _ _ hf hW (lv_sub hl [3, 4, 5, 6, 7, 0] rfl)
              · replace hf := ite_t h35 hf
                refine lv_goto (tgt := 164) hx hb dX9_find_139 (by decide) ?_
                refine lv_iinc (v := _ + (1 : Int32)) (lv' := [_, _, _, _, _, _, _, _]) hx hb dX9_find_164 hl (k := 7) rfl rfl (by decide) rfl (fun ls hl => ?_)
                refine lv_goto (tgt := 38) hx hb dX9_find_167 (by decide) ?_
                exact ih _ _ _ _ _ _ _ _ _ hf hW (lv_sub hl [3, 4, 5, 6, 7, 0] rfl)
            · replace hf := ite_t h30 hf
              refine lv_iload hx hb dX9_find_113 (lv_at hl 0 rfl) ?_
              refine lv_if_ne (tgt := 142) hx hb dX9_find_115 (by decide) (fun _ => ?_) (fun h9 => absurd h9 (by decide))
              refine lv_aload_n hx hb dX9_find_142 rfl (lv_at hl 2 rfl) ?_
              refine lv_iload hx hb dX9_find_143 (lv_at hl 7 rfl) ?_
              refine lv_iload hx hb dX9_find_145 (lv_at hl 0 rfl) ?_
              refine lv_if_ne (tgt := 154) hx hb dX9_find_147 (by decide) (fun _ => ?_) (fun h9 => absurd h9 (by decide))
              refine lv_iconst (v := (0 : Int32)) hx hb dX9_find_154 (by decide) ?_
              refine lv_aload_n hx hb dX9_find_155 rfl (lv_at hl 2 rfl) ?_
              refine lv_iload hx hb dX9_find_156 (lv_at hl 7 rfl) ?_
              obtain ⟨r38, hc, hf⟩ := b1_e hf
              refine callVI (As := [.int _]) (rest := [_, _, _]) E hW (c_X9_valueOf l hc) lk_X9_291 rcv_X9 (Nat.le_of_ble_eq_true rfl) (Nat.le_of_ble_eq_true rfl) (Nat.le_of_ble_eq_true rfl) (Nat.le_of_ble_eq_true rfl) hl.1 (Nat.le_of_ble_eq_true rfl) dX9_find_158 (fun H locs hW => ?_)
              obtain ⟨ms39, hc, hf⟩ := b1_e hf
              refine callVV (As := [.int _, .int _, .int _]) (rest := []) E hW (c_X9_insert l hc) lk_X9_297 rcv_X9 (Nat.le_of_ble_eq_true rfl) (Nat.le_of_ble_eq_true rfl) (Nat.le_of_ble_eq_true rfl) (Nat.le_of_ble_eq_true rfl) hl.1 (Nat.le_of_ble_eq_true rfl) dX9_find_161 (fun H locs hW => ?_)
              refine lv_iinc (v := _ + (1 : Int32)) (lv' := [_, _, _, _, _, _, _, _]) hx hb dX9_find_164 hl (k := 7) rfl rfl (by decide) rfl (fun ls hl => ?_)
              refine lv_goto (tgt := 38) hx hb dX9_find_167 (by decide) ?_
              exact ih _ _ _ _ _ _ _ _ _ hf hW (lv_sub hl [3, 4, 5, 6, 7, 0] rfl)
        · replace hf := ite_f h12 hf
          refine lv_goto (tgt := 164) hx hb dX9_find_76 (by decide) ?_
          refine lv_iinc (v := _ + (1 : Int32)) (lv' := [_, _, _, _, _, _, _]) hx hb dX9_find_164 hl (k := 6) rfl rfl (by decide) rfl (fun ls hl => ?_)
          refine lv_goto (tgt := 38) hx hb dX9_find_167 (by decide) ?_
          exact ih _ _ _ _ _ _ _ _ _ hf hW (lv_sub hl [2, 3, 4, 5, 6, 0] rfl)
set_option maxHeartbeats 4000000 in
set_option maxRecDepth 100000 in
theorem c_X9_find (l : Launch) {X : XT} {B : Nat} {cs : CS} {ms : MS} {o : Nat → Int64} {v1 : Int32} {v2 : Int32} {v3 : Int32} {v4 : Int32} {r : Int32} {S9 : MS} (hf : f_X9_find ms v1 v2 v3 v4 = some (r, S9)) : Met l yX9_find (.code yX9_find cX9_find 8 (some .int) :: BIG) rm_X9_find (Pre X B (cs, ms, o) [.ref (X.1 7), .int v1, .int v2, .int v3, .int v4]) (QI X B r (cs, S9, o)) 0 0 (Ab B) := by
  refine entry (by decide +kernel) rfl (Nat.le_of_ble_eq_true rfl) (fun p e s m below meth c ls E hW hl => ?_)
  obtain ⟨hx, hb, hml, hown, hts, -⟩ := id E
  replace hl : lv_has ls 8 [(0, .ref (X.1 7)), (1, .int v1), (2, .int v2), (3, .int v3), (4, .int v4)] := hl
  unfold f_X9_find at hf
  refine lv_aload_n hx hb dX9_find_0 rfl (lv_at hl 0 rfl) ?_
  refine lv_iconst (v := (0 : Int32)) hx hb dX9_find_1 (by decide) ?_
  refine rp_X9_1 E hW dX9_find_2 (fun H locs hW => ?_)
  refine lv_aload_n hx hb dX9_find_5 rfl (lv_at hl 0 rfl) ?_
  refine lv_iload_n hx hb dX9_find_6 rfl (lv_at hl 1 rfl) ?_
  refine lv_if_lt (tgt := 20) hx hb dX9_find_7 (by decide) (fun h1 => ?_) (fun h1 => ?_)
  · replace hf := ite_t h1 hf
    refine lv_iconst (v := (0 : Int32)) hx hb dX9_find_20 (by decide) ?_
    refine lv_iconst (v := (1 : Int32)) hx hb dX9_find_21 (by decide) ?_
    obtain ⟨r3, ms2, hc, hf⟩ := b2_e hf
    refine callVI (As := [.int _, .int _]) (rest := []) E hW (c_X9_may l hc) lk_X9_151 rcv_X9 (Nat.le_of_ble_eq_true rfl) (Nat.le_of_ble_eq_true rfl) (Nat.le_of_ble_eq_true rfl) (Nat.le_of_ble_eq_true rfl) hl.1 (Nat.le_of_ble_eq_true rfl) dX9_find_22 (fun H locs hW => ?_)
    refine lv_if_ne (tgt := 30) hx hb dX9_find_25 (by decide) (fun h4 => ?_) (fun h4 => ?_)
    · replace hf := ite_f h4 hf
      refine lv_aload_n hx hb dX9_find_30 rfl (lv_at hl 0 rfl) ?_
      refine lv_iconst (v := (0 : Int32)) hx hb dX9_find_31 (by decide) ?_
      refine rp_X9_294 E hW dX9_find_32 (fun H locs hW => ?_)
      refine lv_iconst (v := (0 : Int32)) hx hb dX9_find_35 (by decide) ?_
      refine lv_istore (lv' := [_, _, _, _, _, _]) hx hb dX9_find_36 hl (by decide) rfl (fun ls hl => ?_)
      exact w_X9_find_38 E 1000 _ _ _ _ _ _ _ _ _ hf hW (lv_sub hl [1, 2, 3, 4, 5, 0] rfl)
    · replace hf := ite_t h4 hf
      refine lv_iconst (v := (0 : Int32)) hx hb dX9_find_28 (by decide) ?_
      exact retI E hW (e2M hf) dX9_find_29
  · replace hf := ite_f h1 hf
    refine lv_iload_n hx hb dX9_find_10 rfl (lv_at hl 1 rfl) ?_
    refine lv_bipush (v := (99 : Int32)) hx hb dX9_find_11 (by decide) ?_
    refine lv_icmp_gt (tgt := 20) hx hb dX9_find_13 (by decide) (fun h40 => ?_) (fun h40 => ?_)
    · replace hf := ite_t h40 hf
      refine lv_iconst (v := (0 : Int32)) hx hb dX9_find_20 (by decide) ?_
      refine lv_iconst (v := (1 : Int32)) hx hb dX9_find_21 (by decide) ?_
      obtain ⟨r42, ms41, hc, hf⟩ := b2_e hf
      refine callVI (As := [.int _, .int _]) (rest := []) E hW (c_X9_may l hc) lk_X9_151 rcv_X9 (Nat.le_of_ble_eq_true rfl) (Nat.le_of_ble_eq_true rfl) (Nat.le_of_ble_eq_true rfl) (Nat.le_of_ble_eq_true rfl) hl.1 (Nat.le_of_ble_eq_true rfl) dX9_find_22 (fun H locs hW => ?_)
      refine lv_if_ne (tgt := 30) hx hb dX9_find_25 (by decide) (fun h43 => ?_) (fun h43 => ?_)
      · replace hf := ite_f h43 hf
        refine lv_aload_n hx hb dX9_find_30 rfl (lv_at hl 0 rfl) ?_
        refine lv_iconst (v := (0 : Int32)) hx hb dX9_find_31 (by decide) ?_
        refine rp_X9_294 E hW dX9_find_32 (fun H locs hW => ?_)
        refine lv_iconst (v := (0 : Int32)) hx hb dX9_find_35 (by decide) ?_
        refine lv_istore (lv' := [_, _, _, _, _, _]) hx hb dX9_find_36 hl (by decide) rfl (fun ls hl => ?_)
        exact w_X9_find_38 E 1000 _ _ _ _ _ _ _ _ _ hf hW (lv_sub hl [1, 2, 3, 4, 5, 0] rfl)
      · replace hf := ite_t h43 hf
        refine lv_iconst (v := (0 : Int32)) hx hb dX9_find_28 (by decide) ?_
        exact retI E hW (e2M hf) dX9_find_29
    · replace hf := ite_f h40 hf
      refine lv_iconst (v := (1 : Int32)) hx hb dX9_find_16 (by decide) ?_
      refine lv_goto (tgt := 21) hx hb dX9_find_17 (by decide) ?_
      refine lv_iconst (v := (1 : Int32)) hx hb dX9_find_21 (by decide) ?_
      obtain ⟨r45, ms44, hc, hf⟩ := b2_e hf
      refine callVI (As := [.int _, .int _]) (rest := []) E hW (c_X9_may l hc) lk_X9_151 rcv_X9 (Nat.le_of_ble_eq_true rfl) (Nat.le_of_ble_eq_true rfl) (Nat.le_of_ble_eq_true rfl) (Nat.le_of_ble_eq_true rfl) hl.1 (Nat.le_of_ble_eq_true rfl) dX9_find_22 (fun H locs hW => ?_)
      refine lv_if_ne (tgt := 30) hx hb dX9_find_25 (by decide) (fun h46 => ?_) (fun h46 => ?_)
      · replace hf := ite_f h46 hf
        refine lv_aload_n hx hb dX9_find_30 rfl (lv_at hl 0 rfl) ?_
        refine lv_iconst (v := (0 : Int32)) hx hb dX9_find_31 (by decide) ?_
        refine rp_X9_294 E hW dX9_find_32 (fun H locs hW => ?_)
        refine lv_iconst (v := (0 : Int32)) hx hb dX9_find_35 (by decide) ?_
        refine lv_istore (lv' := [_, _, _, _, _, _]) hx hb dX9_find_36 hl (by decide) rfl (fun ls hl => ?_)
        exact w_X9_find_38 E 1000 _ _ _ _ _ _ _ _ _ hf hW (lv_sub hl [1, 2, 3, 4, 5, 0] rfl)
      · replace hf := ite_t h46 hf
        refine lv_iconst (v := (0 : Int32)) hx hb dX9_find_28 (by decide) ?_
        exact retI E hW (e2M hf) dX9_find_29
def f_X9_found (ms : MS) (v1 : Int32) : Option (Int32 × MS) := if v1 < 0 then (some ((-1 : Int32), (miU ms 0 (0 : Int32)))) else (if (mi (miU ms 0 (0 : Int32)) 14) ≤ v1 then (some ((-1 : Int32), (miU ms 0 (0 : Int32)))) else ((ldI (ma (miU ms 0 (0 : Int32)) 68) 60 v1).bind fun q4 => some (q4, (miU ms 0 (0 : Int32)))))
def rm_X9_found : Room := { frames := 0, cells := 0, slots := 0, locals := 0 }
set_option maxHeartbeats 4000000 in
set_option maxRecDepth 100000 in
theorem c_X9_found (l : Launch) {X : XT} {B : Nat} {cs : CS} {ms : MS} {o : Nat → Int64} {v1 : Int32} {r : Int32} {S9 : MS} (hf : f_X9_found ms v1 = some (r, S9)) : Met l yX9_found (.code yX9_found cX9_found 2 (some .int) :: BIG) rm_X9_found (Pre X B (cs, ms, o) [.ref (X.1 7), .int v1]) (QI X B r (cs, S9, o)) 0 0 (Ab B) := by
  refine entry (by decide +kernel) rfl (Nat.le_of_ble_eq_true rfl) (fun p e s m below meth c ls E hW hl => ?_)
  obtain ⟨hx, hb, hml, hown, hts, -⟩ := id E
  replace hl : lv_has ls 2 [(0, .ref (X.1 7)), (1, .int v1)] := hl
  unfold f_X9_found at hf
  refine lv_aload_n hx hb dX9_found_0 rfl (lv_at hl 0 rfl) ?_
  refine lv_iconst (v := (0 : Int32)) hx hb dX9_found_1 (by decide) ?_
  refine rp_X9_1 E hW dX9_found_2 (fun H locs hW => ?_)
  refine lv_iload_n hx hb dX9_found_5 rfl (lv_at hl 1 rfl) ?_
  refine lv_if_lt (tgt := 26) hx hb dX9_found_6 (by decide) (fun h1 => ?_) (fun h1 => ?_)
  · replace hf := ite_t h1 hf
    refine lv_iconst (v := (-1 : Int32)) hx hb dX9_found_26 (by decide) ?_
    exact retI E hW (e2M hf) dX9_found_27
  · replace hf := ite_f h1 hf
    refine lv_iload_n hx hb dX9_found_9 rfl (lv_at hl 1 rfl) ?_
    refine lv_aload_n hx hb dX9_found_10 rfl (lv_at hl 0 rfl) ?_
    refine rg_X9_294 E hW dX9_found_11 ?_
    refine lv_icmp_ge (tgt := 26) hx hb dX9_found_14 (by decide) (fun h2 => ?_) (fun h2 => ?_)
    · replace hf := ite_t h2 hf
      refine lv_iconst (v := (-1 : Int32)) hx hb dX9_found_26 (by decide) ?_
      exact retI E hW (e2M hf) dX9_found_27
    · replace hf := ite_f h2 hf
      refine lv_aload_n hx hb dX9_found_17 rfl (lv_at hl 0 rfl) ?_
      refine rg_X9_139 E hW dX9_found_18 ?_
      refine lv_iload_n hx hb dX9_found_21 rfl (lv_at hl 1 rfl) ?_
      obtain ⟨v3, hf⟩ := ldI_e hf
      refine ra_68 E hW v3 dX9_found_22 ?_
      refine lv_goto (tgt := 27) hx hb dX9_found_23 (by decide) ?_
      exact retI E hW (e2M hf) dX9_found_27
def f_X9_sells (ms : MS) (v1 : Int32) (v2 : Int32) : Option (MS) := ixr 400 v1 <| ixr 400 v1 <| ixr 400 v1 <| (f_X9_stuffOf (miU (mjU (maU (maU (maU ms 65 (v1).toNatClampNeg (1 : Int32)) 66 (v1).toNatClampNeg (mi (maU ms 65 (v1).toNatClampNeg (1 : Int32)) 10)) 67 (v1).toNatClampNeg v2) 0 ((mj (maU (maU (maU ms 65 (v1).toNatClampNeg (1 : Int32)) 66 (v1).toNatClampNeg (mi (maU ms 65 (v1).toNatClampNeg (1 : Int32)) 10)) 67 (v1).toNatClampNeg v2) 0) + v2.toInt64)) 13 ((mi (mjU (maU (maU (maU ms 65 (v1).toNatClampNeg (1 : Int32)) 66 (v1).toNatClampNeg (mi (maU ms 65 (v1).toNatClampNeg (1 : Int32)) 10)) 67 (v1).toNatClampNeg v2) 0 ((mj (maU (maU (maU ms 65 (v1).toNatClampNeg (1 : Int32)) 66 (v1).toNatClampNeg (mi (maU ms 65 (v1).toNatClampNeg (1 : Int32)) 10)) 67 (v1).toNatClampNeg v2) 0) + v2.toInt64)) 13) - (1 : Int32))) v1).bind fun r4 => (ldL (mb (miU (mjU (maU (maU (maU ms 65 (v1).toNatClampNeg (1 : Int32)) 66 (v1).toNatClampNeg (mi (maU ms 65 (v1).toNatClampNeg (1 : Int32)) 10)) 67 (v1).toNatClampNeg v2) 0 ((mj (maU (maU (maU ms 65 (v1).toNatClampNeg (1 : Int32)) 66 (v1).toNatClampNeg (mi (maU ms 65 (v1).toNatClampNeg (1 : Int32)) 10)) 67 (v1).toNatClampNeg v2) 0) + v2.toInt64)) 13 ((mi (mjU (maU (maU (maU ms 65 (v1).toNatClampNeg (1 : Int32)) 66 (v1).toNatClampNeg (mi (maU ms 65 (v1).toNatClampNeg (1 : Int32)) 10)) 67 (v1).toNatClampNeg v2) 0 ((mj (maU (maU (maU ms 65 (v1).toNatClampNeg (1 : Int32)) 66 (v1).toNatClampNeg (mi (maU ms 65 (v1).toNatClampNeg (1 : Int32)) 10)) 67 (v1).toNatClampNeg v2) 0) + v2.toInt64)) 13) - (1 : Int32))) 58) 4 r4).bind fun q6 => (f_X9_gramsOf (miU (mjU (maU (maU (maU ms 65 (v1).toNatClampNeg (1 : Int32)) 66 (v1).toNatClampNeg (mi (maU ms 65 (v1).toNatClampNeg (1 : Int32)) 10)) 67 (v1).toNatClampNeg v2) 0 ((mj (maU (maU (maU ms 65 (v1).toNatClampNeg (1 : Int32)) 66 (v1).toNatClampNeg (mi (maU ms 65 (v1).toNatClampNeg (1 : Int32)) 10)) 67 (v1).toNatClampNeg v2) 0) + v2.toInt64)) 13 ((mi (mjU (maU (maU (maU ms 65 (v1).toNatClampNeg (1 : Int32)) 66 (v1).toNatClampNeg (mi (maU ms 65 (v1).toNatClampNeg (1 : Int32)) 10)) 67 (v1).toNatClampNeg v2) 0 ((mj (maU (maU (maU ms 65 (v1).toNatClampNeg (1 : Int32)) 66 (v1).toNatClampNeg (mi (maU ms 65 (v1).toNatClampNeg (1 : Int32)) 10)) 67 (v1).toNatClampNeg v2) 0) + v2.toInt64)) 13) - (1 : Int32))) v1).bind fun r7 => ixr 4 r4 <| (f_X9_stuffOf (mbU (miU (mjU (maU (maU (maU ms 65 (v1).toNatClampNeg (1 : Int32)) 66 (v1).toNatClampNeg (mi (maU ms 65 (v1).toNatClampNeg (1 : Int32)) 10)) 67 (v1).toNatClampNeg v2) 0 ((mj (maU (maU (maU ms 65 (v1).toNatClampNeg (1 : Int32)) 66 (v1).toNatClampNeg (mi (maU ms 65 (v1).toNatClampNeg (1 : Int32)) 10)) 67 (v1).toNatClampNeg v2) 0) + v2.toInt64)) 13 ((mi (mjU (maU (maU (maU ms 65 (v1).toNatClampNeg (1 : Int32)) 66 (v1).toNatClampNeg (mi (maU ms 65 (v1).toNatClampNeg (1 : Int32)) 10)) 67 (v1).toNatClampNeg v2) 0 ((mj (maU (maU (maU ms 65 (v1).toNatClampNeg (1 : Int32)) 66 (v1).toNatClampNeg (mi (maU ms 65 (v1).toNatClampNeg (1 : Int32)) 10)) 67 (v1).toNatClampNeg v2) 0) + v2.toInt64)) 13) - (1 : Int32))) 58 (r4).toNatClampNeg (q6 - r7.toInt64)) v1).bind fun r9 => (ldL (mb (mbU (miU (mjU (maU (maU (maU ms 65 (v1).toNatClampNeg (1 : Int32)) 66 (v1).toNatClampNeg (mi (maU ms 65 (v1).toNatClampNeg (1 : Int32)) 10)) 67 (v1).toNatClampNeg v2) 0 ((mj (maU (maU (maU ms 65 (v1).toNatClampNeg (1 : Int32)) 66 (v1).toNatClampNeg (mi (maU ms 65 (v1).toNatClampNeg (1 : Int32)) 10)) 67 (v1).toNatClampNeg v2) 0) + v2.toInt64)) 13 ((mi (mjU (maU (maU (maU ms 65 (v1).toNatClampNeg (1 : Int32)) 66 (v1).toNatClampNeg (mi (maU ms 65 (v1).toNatClampNeg (1 : Int32)) 10)) 67 (v1).toNatClampNeg v2) 0 ((mj (maU (maU (maU ms 65 (v1).toNatClampNeg (1 : Int32)) 66 (v1).toNatClampNeg (mi (maU ms 65 (v1).toNatClampNeg (1 : Int32)) 10)) 67 (v1).toNatClampNeg v2) 0) + v2.toInt64)) 13) - (1 : Int32))) 58 (r4).toNatClampNeg (q6 - r7.toInt64)) 56) 4 r9).bind fun q11 => (f_X9_gramsOf (mbU (miU (mjU (maU (maU (maU ms 65 (v1).toNatClampNeg (1 : Int32)) 66 (v1).toNatClampNeg (mi (maU ms 65 (v1).toNatClampNeg (1 : Int32)) 10)) 67 (v1).toNatClampNeg v2) 0 ((mj (maU (maU (maU ms 65 (v1).toNatClampNeg (1 : Int32)) 66 (v1).toNatClampNeg (mi (maU ms 65 (v1).toNatClampNeg (1 : Int32)) 10)) 67 (v1).toNatClampNeg v2) 0) + v2.toInt64)) 13 ((mi (mjU (maU (maU (maU ms 65 (v1).toNatClampNeg (1 : Int32)) 66 (v1).toNatClampNeg (mi (maU ms 65 (v1).toNatClampNeg (1 : Int32)) 10)) 67 (v1).toNatClampNeg v2) 0 ((mj (maU (maU (maU ms 65 (v1).toNatClampNeg (1 : Int32)) 66 (v1).toNatClampNeg (mi (maU ms 65 (v1).toNatClampNeg (1 : Int32)) 10)) 67 (v1).toNatClampNeg v2) 0) + v2.toInt64)) 13) - (1 : Int32))) 58 (r4).toNatClampNeg (q6 - r7.toInt64)) v1).bind fun r12 => ixr 4 r9 <| some (mbU (mbU (miU (mjU (maU (maU (maU ms 65 (v1).toNatClampNeg (1 : Int32)) 66 (v1).toNatClampNeg (mi (maU ms 65 (v1).toNatClampNeg (1 : Int32)) 10)) 67 (v1).toNatClampNeg v2) 0 ((mj (maU (maU (maU ms 65 (v1).toNatClampNeg (1 : Int32)) 66 (v1).toNatClampNeg (mi (maU ms 65 (v1).toNatClampNeg (1 : Int32)) 10)) 67 (v1).toNatClampNeg v2) 0) + v2.toInt64)) 13 ((mi (mjU (maU (maU (maU ms 65 (v1).toNatClampNeg (1 : Int32)) 66 (v1).toNatClampNeg (mi (maU ms 65 (v1).toNatClampNeg (1 : Int32)) 10)) 67 (v1).toNatClampNeg v2) 0 ((mj (maU (maU (maU ms 65 (v1).toNatClampNeg (1 : Int32)) 66 (v1).toNatClampNeg (mi (maU ms 65 (v1).toNatClampNeg (1 : Int32)) 10)) 67 (v1).toNatClampNeg v2) 0) + v2.toInt64)) 13) - (1 : Int32))) 58 (r4).toNatClampNeg (q6 - r7.toInt64)) 56 (r9).toNatClampNeg (q11 + r12.toInt64))
def rm_X9_sells : Room := { frames := 2, cells := 0, slots := 0, locals := 42 }
set_option maxHeartbeats 4000000 in
set_option maxRecDepth 100000 in
theorem c_X9_sells (l : Launch) {X : XT} {B : Nat} {cs : CS} {ms : MS} {o : Nat → Int64} {v1 : Int32} {v2 : Int32} {S9 : MS} (hf : f_X9_sells ms v1 v2 = some S9) : Met l yX9_sells (.code yX9_sells cX9_sells 3 none :: BIG) rm_X9_sells (Pre X B (cs, ms, o) [.ref (X.1 7), .int v1, .int v2]) (QV X B (cs, S9, o)) 0 0 (Ab B) := by
  refine entry (by decide +kernel) rfl (Nat.le_of_ble_eq_true rfl) (fun p e s m below meth c ls E hW hl => ?_)
  obtain ⟨hx, hb, hml, hown, hts, -⟩ := id E
  replace hl : lv_has ls 3 [(0, .ref (X.1 7)), (1, .int v1), (2, .int v2)] := hl
  unfold f_X9_sells at hf
  refine lv_aload_n hx hb dX9_sells_0 rfl (lv_at hl 0 rfl) ?_
  refine rg_X9_130 E hW dX9_sells_1 ?_
  refine lv_iload_n hx hb dX9_sells_4 rfl (lv_at hl 1 rfl) ?_
  refine lv_iconst (v := (1 : Int32)) hx hb dX9_sells_5 (by decide) ?_
  obtain ⟨v1, hf⟩ := ixr_e hf
  refine rs_65 E hW v1 dX9_sells_6 (fun H locs hW => ?_)
  refine lv_aload_n hx hb dX9_sells_7 rfl (lv_at hl 0 rfl) ?_
  refine rg_X9_133 E hW dX9_sells_8 ?_
  refine lv_iload_n hx hb dX9_sells_11 rfl (lv_at hl 1 rfl) ?_
  refine lv_aload_n hx hb dX9_sells_12 rfl (lv_at hl 0 rfl) ?_
  refine rg_X9_248 E hW dX9_sells_13 ?_
  obtain ⟨v2, hf⟩ := ixr_e hf
  refine rs_66 E hW v2 dX9_sells_16 (fun H locs hW => ?_)
  refine lv_aload_n hx hb dX9_sells_17 rfl (lv_at hl 0 rfl) ?_
  refine rg_X9_136 E hW dX9_sells_18 ?_
  refine lv_iload_n hx hb dX9_sells_21 rfl (lv_at hl 1 rfl) ?_
  refine lv_iload_n hx hb dX9_sells_22 rfl (lv_at hl 2 rfl) ?_
  obtain ⟨v3, hf⟩ := ixr_e hf
  refine rs_67 E hW v3 dX9_sells_23 (fun H locs hW => ?_)
  refine lv_aload_n hx hb dX9_sells_24 rfl (lv_at hl 0 rfl) ?_
  refine lv_dup hx hb dX9_sells_25 rfl ?_
  refine rg_X9_301 E hW dX9_sells_26 ?_
  refine lv_iload_n hx hb dX9_sells_29 rfl (lv_at hl 2 rfl) ?_
  refine lv_i2l hx hb dX9_sells_30 rfl ?_
  refine lv_ladd hx hb dX9_sells_31 ?_
  refine rp_X9_301 E hW dX9_sells_32 (fun H locs hW => ?_)
  refine lv_aload_n hx hb dX9_sells_35 rfl (lv_at hl 0 rfl) ?_
  refine lv_dup hx hb dX9_sells_36 rfl ?_
  refine rg_X9_258 E hW dX9_sells_37 ?_
  refine lv_iconst (v := (1 : Int32)) hx hb dX9_sells_40 (by decide) ?_
  refine lv_isub hx hb dX9_sells_41 ?_
  refine rp_X9_258 E hW dX9_sells_42 (fun H locs hW => ?_)
  refine lv_aload_n hx hb dX9_sells_45 rfl (lv_at hl 0 rfl) ?_
  refine rg_X9_109 E hW dX9_sells_46 ?_
  refine lv_aload_n hx hb dX9_sells_49 rfl (lv_at hl 0 rfl) ?_
  refine lv_iload_n hx hb dX9_sells_50 rfl (lv_at hl 1 rfl) ?_
  obtain ⟨r4, hc, hf⟩ := b1_e hf
  refine callVI (As := [.int _]) (rest := [_]) E hW (c_X9_stuffOf l hc) lk_X9_251 rcv_X9 (Nat.le_of_ble_eq_true rfl) (Nat.le_of_ble_eq_true rfl) (Nat.le_of_ble_eq_true rfl) (Nat.le_of_ble_eq_true rfl) hl.1 (Nat.le_of_ble_eq_true rfl) dX9_sells_51 (fun H locs hW => ?_)
  refine lv_dup2_11 hx hb dX9_sells_54 rfl rfl ?_
  obtain ⟨v5, hf⟩ := ldL_e hf
  refine ra_58 E hW v5 dX9_sells_55 ?_
  refine lv_aload_n hx hb dX9_sells_56 rfl (lv_at hl 0 rfl) ?_
  refine lv_iload_n hx hb dX9_sells_57 rfl (lv_at hl 1 rfl) ?_
  obtain ⟨r7, hc, hf⟩ := b1_e hf
  refine callVI (As := [.int _]) (rest := [_, _, _]) E hW (c_X9_gramsOf l hc) lk_X9_255 rcv_X9 (Nat.le_of_ble_eq_true rfl) (Nat.le_of_ble_eq_true rfl) (Nat.le_of_ble_eq_true rfl) (Nat.le_of_ble_eq_true rfl) hl.1 (Nat.le_of_ble_eq_true rfl) dX9_sells_58 (fun H locs hW => ?_)
  refine lv_i2l hx hb dX9_sells_61 rfl ?_
  refine lv_lsub hx hb dX9_sells_62 ?_
  obtain ⟨v8, hf⟩ := ixr_e hf
  refine rs_58 E hW v8 dX9_sells_63 (fun H locs hW => ?_)
  refine lv_aload_n hx hb dX9_sells_64 rfl (lv_at hl 0 rfl) ?_
  refine rg_X9_103 E hW dX9_sells_65 ?_
  refine lv_aload_n hx hb dX9_sells_68 rfl (lv_at hl 0 rfl) ?_
  refine lv_iload_n hx hb dX9_sells_69 rfl (lv_at hl 1 rfl) ?_
  obtain ⟨r9, hc, hf⟩ := b1_e hf
  refine callVI (As := [.int _]) (rest := [_]) E hW (c_X9_stuffOf l hc) lk_X9_251 rcv_X9 (Nat.le_of_ble_eq_true rfl) (Nat.le_of_ble_eq_true rfl) (Nat.le_of_ble_eq_true rfl) (Nat.le_of_ble_eq_true rfl) hl.1 (Nat.le_of_ble_eq_true rfl) dX9_sells_70 (fun H locs hW => ?_)
  refine lv_dup2_11 hx hb dX9_sells_73 rfl rfl ?_
  obtain ⟨v10, hf⟩ := ldL_e hf
  refine ra_56 E hW v10 dX9_sells_74 ?_
  refine lv_aload_n hx hb dX9_sells_75 rfl (lv_at hl 0 rfl) ?_
  refine lv_iload_n hx hb dX9_sells_76 rfl (lv_at hl 1 rfl) ?_
  obtain ⟨r12, hc, hf⟩ := b1_e hf
  refine callVI (As := [.int _]) (rest := [_, _, _]) E hW (c_X9_gramsOf l hc) lk_X9_255 rcv_X9 (Nat.le_of_ble_eq_true rfl) (Nat.le_of_ble_eq_true rfl) (Nat.le_of_ble_eq_true rfl) (Nat.le_of_ble_eq_true rfl) hl.1 (Nat.le_of_ble_eq_true rfl) dX9_sells_77 (fun H locs hW => ?_)
  refine lv_i2l hx hb dX9_sells_80 rfl ?_
  refine lv_ladd hx hb dX9_sells_81 ?_
  obtain ⟨v13, hf⟩ := ixr_e hf
  refine rs_56 E hW v13 dX9_sells_82 (fun H locs hW => ?_)
  exact retV E hW (e1M hf) dX9_sells_83
def f_X9_sell_186 (k : MS → Int32 → Int32 → Int32 → Int32 → Int32 → Option (Int32 × MS)) (ms : MS) (v1 : Int32) (v3 : Int32) (v4 : Int32) (v5 : Int32) : Option (Int32 × MS) := if v5 = (-1 : Int32) then ((ldI (ma ms 38) 192 v3).bind fun q22 => if q22 = (1 : Int32) then ((f_X9_sells ms v1 (v4 / (2 : Int32))).bind fun ms25 => some ((v4 / (2 : Int32)), ms25)) else ((f_X9_sells ms v1 v4).bind fun ms24 => some (v4, ms24))) else ((f_X9_valueOf ms v5).bind fun r18 => (f_X9_sells ms v1 v4).bind fun ms19 => (f_X9_sells ms19 v5 r18).bind fun ms20 => some ((v4 + r18), ms20))
def f_X9_sell_180 (k : MS → Int32 → Int32 → Int32 → Int32 → Int32 → Option (Int32 × MS)) (ms : MS) (v1 : Int32) (v3 : Int32) (v4 : Int32) (v5 : Int32) (v6 : Int32) : Option (Int32 × MS) := k ms v1 v3 v4 v5 (v6 + (-1 : Int32))
def f_X9_sell_94 : Nat → MS → Int32 → Int32 → Int32 → Int32 → Int32 → Option (Int32 × MS)
  | 0, _, _, _, _, _, _ => none
  | n + 1, ms, v1, v3, v4, v5, v6 => if v6 < 0 then (f_X9_sell_186 (f_X9_sell_94 n) ms v1 v3 v4 v5) else ((ldI (ma ms 38) 192 v3).bind fun q27 => if q27 = (1 : Int32) then (if v6 = v1 then (f_X9_sell_180 (f_X9_sell_94 n) ms v1 v3 v4 v5 v6) else ((ldI (ma ms 65) 400 v6).bind fun q31 => if q31 = 0 then ((ldI (ma ms 63) 400 v6).bind fun q34 => (ldI (ma ms 63) 400 v1).bind fun q36 => if q34 = q36 then ((f_X9_partOf ms v6).bind fun r38 => (ldI (ma ms 38) 192 r38).bind fun q40 => if q40 = (1 : Int32) then ((f_X9_partOf ms v6).bind fun r42 => (ldI (ma ms 39) 192 r42).bind fun q44 => (ldI (ma ms 39) 192 v3).bind fun q46 => if q44 = q46 then (f_X9_sell_180 (f_X9_sell_94 n) ms v1 v3 v4 v6 v6) else (f_X9_sell_180 (f_X9_sell_94 n) ms v1 v3 v4 v5 v6)) else (f_X9_sell_180 (f_X9_sell_94 n) ms v1 v3 v4 v5 v6)) else (f_X9_sell_180 (f_X9_sell_94 n) ms v1 v3 v4 v5 v6)) else (f_X9_sell_180 (f_X9_sell_94 n) ms v1 v3 v4 v5 v6))) else (f_X9_sell_186 (f_X9_sell_94 n) ms v1 v3 v4 v5))
def f_X9_sell_71 (ms : MS) (v1 : Int32) (v3 : Int32) : Option (Int32 × MS) := (f_X9_valueOf (miU ms 11 (0 : Int32)) v1).bind fun r15 => f_X9_sell_94 1000 (miU ms 11 (0 : Int32)) v1 v3 r15 (-1 : Int32) ((mi (miU ms 11 (0 : Int32)) 12) - (1 : Int32))
def f_X9_sell_28 (ms : MS) (v1 : Int32) (v2 : Int32) (s1 : Int32) : Option (Int32 × MS) := b2 (f_X9_may ms s1 (2 : Int32)) fun r6 ms5 => if r6 = 0 then (some ((0 : Int32), ms5)) else ((ldI (ma ms5 65) 400 v1).bind fun q9 => if q9 = 0 then ((f_X9_partOf ms5 v1).bind fun r11 => (ldI (ma ms5 38) 192 r11).bind fun q13 => if q13 = (4 : Int32) then (if v2 = 0 then (some ((-2 : Int32), ms5)) else (f_X9_sell_71 ms5 v1 r11)) else (f_X9_sell_71 ms5 v1 r11)) else (some ((-1 : Int32), ms5)))
def f_X9_sell_23 (ms : MS) (v1 : Int32) (v2 : Int32) : Option (Int32 × MS) := f_X9_sell_28 ms v1 v2 (1 : Int32)
def f_X9_sell (ms : MS) (v1 : Int32) (v2 : Int32) : Option (Int32 × MS) := b2 (f_X9_isItem (miU ms 0 (0 : Int32)) v1) fun r2 ms1 => if r2 = 0 then (some ((0 : Int32), ms1)) else (if v2 = 0 then (f_X9_sell_23 ms1 v1 v2) else (if v2 = (1 : Int32) then (f_X9_sell_23 ms1 v1 v2) else (f_X9_sell_28 ms1 v1 v2 (0 : Int32))))
def rm_X9_sell : Room := { frames := 3, cells := 0, slots := 0, locals := 64 }
set_option maxHeartbeats 4000000 in
set_option maxRecDepth 100000 in
theorem w_X9_sell_186 {p : Program} {l : Launch} {e : Env} {s : State} {m : MethodId} {args : Array Value} {below : List Frame} {meth : Method} {c : Code} {X : XT} {B : Nat} {cs : CS} {o : Nat → Int64} {r : Int32} {S9 : MS} (E : Ev X B p s m args meth c RX9 cX9_sell 7 (some .int)) (k : MS → Int32 → Int32 → Int32 → Int32 → Int32 → Option (Int32 × MS)) (hk : ∀ (ms : MS) (v1 : Int32) (v3 : Int32) (v4 : Int32) (v5 : Int32) (v6 : Int32) (H : Heap) (locs : List Loc) (ls : Array Slot), k ms v1 v3 v4 v5 v6 = some (r, S9) → Ws X B s.heap H locs (cs, ms, o) → lv_has ls 7 [(0, .ref (X.1 7)), (1, .int v1), (3, .int v3), (4, .int v4), (5, .int v5), (6, .int v6)] → W p l e rm_X9_sell s m args below meth c H locs 0 0 (MQ below (QI X B r (cs, S9, o)) args s 0 0 (Ab B)) (F0 m 94 ls [])) : ∀ (ms : MS) (v1 : Int32) (v3 : Int32) (v4 : Int32) (v5 : Int32) (H : Heap) (locs : List Loc) (ls : Array Slot), f_X9_sell_186 k ms v1 v3 v4 v5 = some (r, S9) → Ws X B s.heap H locs (cs, ms, o) → lv_has ls 7 [(0, .ref (X.1 7)), (1, .int v1), (3, .int v3), (4, .int v4), (5, .int v5)] → W p l e rm_X9_sell s m args below meth c H locs 0 0 (MQ below (QI X B r (cs, S9, o)) args s 0 0 (Ab B)) (F0 m 186 ls []) := by
  obtain ⟨hx, hb, hml, hown, hts, -⟩ := id E
  intro ms v1 v3 v4 v5 H locs ls hf hW hl
  unfold f_X9_sell_186 at hf
  refine lv_iload hx hb dX9_sell_186 (lv_at hl 4 rfl) ?_
  refine lv_iconst (v := (-1 : Int32)) hx hb dX9_sell_188 (by decide) ?_
  refine lv_icmp_ne (tgt := 223) hx hb dX9_sell_189 (by decide) (fun h17 => ?_) (fun h17 => ?_)
  · replace hf := ite_f h17 hf
    refine lv_aload_n hx hb dX9_sell_223 rfl (lv_at hl 0 rfl) ?_
    refine lv_iload hx hb dX9_sell_224 (lv_at hl 4 rfl) ?_
    obtain ⟨r18, hc, hf⟩ := b1_e hf
    refine callVI (As := [.int _]) (rest := []) E hW (c_X9_valueOf l hc) lk_X9_291 rcv_X9 (Nat.le_of_ble_eq_true rfl) (Nat.le_of_ble_eq_true rfl) (Nat.le_of_ble_eq_true rfl) (Nat.le_of_ble_eq_true rfl) hl.1 (Nat.le_of_ble_eq_true rfl) dX9_sell_226 (fun H locs hW => ?_)
    refine lv_istore (lv' := [_, _, _, _, _, _]) hx hb dX9_sell_229 hl (by decide) rfl (fun ls hl => ?_)
    refine lv_aload_n hx hb dX9_sell_231 rfl (lv_at hl 1 rfl) ?_
    refine lv_iload_n hx hb dX9_sell_232 rfl (lv_at hl 2 rfl) ?_
    refine lv_iload hx hb dX9_sell_233 (lv_at hl 4 rfl) ?_
    obtain ⟨ms19, hc, hf⟩ := b1_e hf
    refine callVV (As := [.int _, .int _]) (rest := []) E hW (c_X9_sells l hc) lk_X9_305 rcv_X9 (Nat.le_of_ble_eq_true rfl) (Nat.le_of_ble_eq_true rfl) (Nat.le_of_ble_eq_true rfl) (Nat.le_of_ble_eq_true rfl) hl.1 (Nat.le_of_ble_eq_true rfl) dX9_sell_235 (fun H locs hW => ?_)
    refine lv_aload_n hx hb dX9_sell_238 rfl (lv_at hl 1 rfl) ?_
    refine lv_iload hx hb dX9_sell_239 (lv_at hl 5 rfl) ?_
    refine lv_iload hx hb dX9_sell_241 (lv_at hl 0 rfl) ?_
    obtain ⟨ms20, hc, hf⟩ := b1_e hf
    refine callVV (As := [.int _, .int _]) (rest := []) E hW (c_X9_sells l hc) lk_X9_305 rcv_X9 (Nat.le_of_ble_eq_true rfl) (Nat.le_of_ble_eq_true rfl) (Nat.le_of_ble_eq_true rfl) (Nat.le_of_ble_eq_true rfl) hl.1 (Nat.le_of_ble_eq_true rfl) dX9_sell_243 (fun H locs hW => ?_)
    refine lv_iload hx hb dX9_sell_246 (lv_at hl 4 rfl) ?_
    refine lv_iload hx hb dX9_sell_248 (lv_at hl 0 rfl) ?_
    refine lv_iadd hx hb dX9_sell_250 ?_
    exact retI E hW (e2M hf) dX9_sell_251
  · replace hf := ite_t h17 hf
    refine lv_aload_n hx hb dX9_sell_192 rfl (lv_at hl 0 rfl) ?_
    refine rg_X9_49 E hW dX9_sell_193 ?_
    refine lv_iload_n hx hb dX9_sell_196 rfl (lv_at hl 2 rfl) ?_
    obtain ⟨v21, hf⟩ := ldI_e hf
    refine ra_38 E hW v21 dX9_sell_197 ?_
    refine lv_iconst (v := (1 : Int32)) hx hb dX9_sell_198 (by decide) ?_
    refine lv_icmp_ne (tgt := 209) hx hb dX9_sell_199 (by decide) (fun h23 => ?_) (fun h23 => ?_)
    · replace hf := ite_f h23 hf
      refine lv_iload hx hb dX9_sell_209 (lv_at hl 3 rfl) ?_
      refine lv_istore (lv' := [_, _, _, _, _]) hx hb dX9_sell_211 hl (by decide) rfl (fun ls hl => ?_)
      refine lv_aload_n hx hb dX9_sell_213 rfl (lv_at hl 1 rfl) ?_
      refine lv_iload_n hx hb dX9_sell_214 rfl (lv_at hl 2 rfl) ?_
      refine lv_iload hx hb dX9_sell_215 (lv_at hl 0 rfl) ?_
      obtain ⟨ms24, hc, hf⟩ := b1_e hf
      refine callVV (As := [.int _, .int _]) (rest := []) E hW (c_X9_sells l hc) lk_X9_305 rcv_X9 (Nat.le_of_ble_eq_true rfl) (Nat.le_of_ble_eq_true rfl) (Nat.le_of_ble_eq_true rfl) (Nat.le_of_ble_eq_true rfl) hl.1 (Nat.le_of_ble_eq_true rfl) dX9_sell_217 (fun H locs hW => ?_)
      refine lv_iload hx hb dX9_sell_220 (lv_at hl 0 rfl) ?_
      exact retI E hW (e2M hf) dX9_sell_222
    · replace hf := ite_t h23 hf
      refine lv_iload hx hb dX9_sell_202 (lv_at hl 3 rfl) ?_
      refine lv_iconst (v := (2 : Int32)) hx hb dX9_sell_204 (by decide) ?_
      refine lv_idiv hx hb dX9_sell_205 (by decide) ?_
      refine lv_goto (tgt := 211) hx hb dX9_sell_206 (by decide) ?_
      refine lv_istore (lv' := [_, _, _, _, _]) hx hb dX9_sell_211 hl (by decide) rfl (fun ls hl => ?_)
      refine lv_aload_n hx hb dX9_sell_213 rfl (lv_at hl 1 rfl) ?_
      refine lv_iload_n hx hb dX9_sell_214 rfl (lv_at hl 2 rfl) ?_
      refine lv_iload hx hb dX9_sell_215 (lv_at hl 0 rfl) ?_
      obtain ⟨ms25, hc, hf⟩ := b1_e hf
      refine callVV (As := [.int _, .int _]) (rest := []) E hW (c_X9_sells l hc) lk_X9_305 rcv_X9 (Nat.le_of_ble_eq_true rfl) (Nat.le_of_ble_eq_true rfl) (Nat.le_of_ble_eq_true rfl) (Nat.le_of_ble_eq_true rfl) hl.1 (Nat.le_of_ble_eq_true rfl) dX9_sell_217 (fun H locs hW => ?_)
      refine lv_iload hx hb dX9_sell_220 (lv_at hl 0 rfl) ?_
      exact retI E hW (e2M hf) dX9_sell_222
set_option maxHeartbeats 4000000 in
set_option maxRecDepth 100000 in
theorem w_X9_sell_180 {p : Program} {l : Launch} {e : Env} {s : State} {m : MethodId} {args : Array Value} {below : List Frame} {meth : Method} {c : Code} {X : XT} {B : Nat} {cs : CS} {o : Nat → Int64} {r : Int32} {S9 : MS} (E : Ev X B p s m args meth c RX9 cX9_sell 7 (some .int)) (k : MS → Int32 → Int32 → Int32 → Int32 → Int32 → Option (Int32 × MS)) (hk : ∀ (ms : MS) (v1 : Int32) (v3 : Int32) (v4 : Int32) (v5 : Int32) (v6 : Int32) (H : Heap) (locs : List Loc) (ls : Array Slot), k ms v1 v3 v4 v5 v6 = some (r, S9) → Ws X B s.heap H locs (cs, ms, o) → lv_has ls 7 [(0, .ref (X.1 7)), (1, .int v1), (3, .int v3), (4, .int v4), (5, .int v5), (6, .int v6)] → W p l e rm_X9_sell s m args below meth c H locs 0 0 (MQ below (QI X B r (cs, S9, o)) args s 0 0 (Ab B)) (F0 m 94 ls [])) : ∀ (ms : MS) (v1 : Int32) (v3 : Int32) (v4 : Int32) (v5 : Int32) (v6 : Int32) (H : Heap) (locs : List Loc) (ls : Array Slot), f_X9_sell_180 k ms v1 v3 v4 v5 v6 = some (r, S9) → Ws X B s.heap H locs (cs, ms, o) → lv_has ls 7 [(0, .ref (X.1 7)), (1, .int v1), (3, .int v3), (4, .int v4), (5, .int v5), (6, .int v6)] → W p l e rm_X9_sell s m args below meth c H locs 0 0 (MQ below (QI X B r (cs, S9, o)) args s 0 0 (Ab B)) (F0 m 180 ls []) := by
  obtain ⟨hx, hb, hml, hown, hts, -⟩ := id E
  intro ms v1 v3 v4 v5 v6 H locs ls hf hW hl
  unfold f_X9_sell_180 at hf
  refine lv_iinc (v := _ + (-1 : Int32)) (lv' := [_, _, _, _, _, _]) hx hb dX9_sell_180 hl (k := 5) rfl rfl (by decide) rfl (fun ls hl => ?_)
  refine lv_goto (tgt := 94) hx hb dX9_sell_183 (by decide) ?_
  exact hk _ _ _ _ _ _ _ _ _ hf hW (lv_sub hl [1, 2, 3, 4, 5, 0] rfl)
set_option maxHeartbeats 4000000 in
set_option maxRecDepth 100000 in
theorem w_X9_sell_94 {p : Program} {l : Launch} {e : Env} {s : State} {m : MethodId} {args : Array Value} {below : List Frame} {meth : Method} {c : Code} {X : XT} {B : Nat} {cs : CS} {o : Nat → Int64} {r : Int32} {S9 : MS} (E : Ev X B p s m args meth c RX9 cX9_sell 7 (some .int)) : ∀ (n : Nat) (ms : MS) (v1 : Int32) (v3 : Int32) (v4 : Int32) (v5 : Int32) (v6 : Int32) (H : Heap) (locs : List Loc) (ls : Array Slot), f_X9_sell_94 n ms v1 v3 v4 v5 v6 = some (r, S9) → Ws X B s.heap H locs (cs, ms, o) → lv_has ls 7 [(0, .ref (X.1 7)), (1, .int v1), (3, .int v3), (4, .int v4), (5, .int v5), (6, .int v6)] → W p l e rm_X9_sell s m args below meth c H locs 0 0 (MQ below (QI X B r (cs, S9, o)) args s 0 0 (Ab B)) (F0 m 94 ls []) := by
  obtain ⟨hx, hb, hml, hown, hts, -⟩ := id E
  intro n
  induction n with
  | zero => intro ms v1 v3 v4 v5 v6 H locs ls hf; exact absurd hf nofun
  | succ n ih =>
    intro ms v1 v3 v4 v5 v6 H locs ls hf hW hl
    rw [f_X9_sell_94] at hf
    refine lv_iload hx hb dX9_sell_94 (lv_at hl 5 rfl) ?_
    refine lv_if_lt (tgt := 186) hx hb dX9_sell_96 (by decide) (fun h16 => ?_) (fun h16 => ?_)
    · replace hf := ite_t h16 hf
      exact w_X9_sell_186 E (f_X9_sell_94 n) ih _ _ _ _ _ _ _ _ hf hW (lv_sub hl [0, 1, 2, 3, 4] rfl)
    · replace hf := ite_f h16 hf
      refine lv_aload_n hx hb dX9_sell_99 rfl (lv_at hl 0 rfl) ?_
      refine rg_X9_49 E hW dX9_sell_100 ?_
      refine lv_iload_n hx hb dX9_sell_103 rfl (lv_at hl 2 rfl) ?_
      obtain ⟨v26, hf⟩ := ldI_e hf
      refine ra_38 E hW v26 dX9_sell_104 ?_
      refine lv_iconst (v := (1 : Int32)) hx hb dX9_sell_105 (by decide) ?_
      refine lv_icmp_ne (tgt := 186) hx hb dX9_sell_106 (by decide) (fun h28 => ?_) (fun h28 => ?_)
      · replace hf := ite_f h28 hf
        exact w_X9_sell_186 E (f_X9_sell_94 n) ih _ _ _ _ _ _ _ _ hf hW (lv_sub hl [0, 1, 2, 3, 4] rfl)
      · replace hf := ite_t h28 hf
        refine lv_iload hx hb dX9_sell_109 (lv_at hl 5 rfl) ?_
        refine lv_iload_n hx hb dX9_sell_111 rfl (lv_at hl 1 rfl) ?_
        refine lv_icmp_eq (tgt := 180) hx hb dX9_sell_112 (by decide) (fun h29 => ?_) (fun h29 => ?_)
        · replace hf := ite_t h29 hf
          exact w_X9_sell_180 E (f_X9_sell_94 n) ih _ _ _ _ _ _ _ _ _ hf hW (lv_sub hl [0, 1, 2, 3, 4, 5] rfl)
        · replace hf := ite_f h29 hf
          refine lv_aload_n hx hb dX9_sell_115 rfl (lv_at hl 0 rfl) ?_
          refine rg_X9_130 E hW dX9_sell_116 ?_
          refine lv_iload hx hb dX9_sell_119 (lv_at hl 5 rfl) ?_
          obtain ⟨v30, hf⟩ := ldI_e hf
          refine ra_65 E hW v30 dX9_sell_121 ?_
          refine lv_if_ne (tgt := 180) hx hb dX9_sell_122 (by decide) (fun h32 => ?_) (fun h32 => ?_)
          · replace hf := ite_f h32 hf
            exact w_X9_sell_180 E (f_X9_sell_94 n) ih _ _ _ _ _ _ _ _ _ hf hW (lv_sub hl [0, 1, 2, 3, 4, 5] rfl)
          · replace hf := ite_t h32 hf
            refine lv_aload_n hx hb dX9_sell_125 rfl (lv_at hl 0 rfl) ?_
            refine rg_X9_124 E hW dX9_sell_126 ?_
            refine lv_iload hx hb dX9_sell_129 (lv_at hl 5 rfl) ?_
            obtain ⟨v33, hf⟩ := ldI_e hf
            refine ra_63 E hW v33 dX9_sell_131 ?_
            refine lv_aload_n hx hb dX9_sell_132 rfl (lv_at hl 0 rfl) ?_
            refine rg_X9_124 E hW dX9_sell_133 ?_
            refine lv_iload_n hx hb dX9_sell_136 rfl (lv_at hl 1 rfl) ?_
            obtain ⟨v35, hf⟩ := ldI_e hf
            refine ra_63 E hW v35 dX9_sell_137 ?_
            refine lv_icmp_ne (tgt := 180) hx hb dX9_sell_138 (by decide) (fun h37 => ?_) (fun h37 => ?_)
            · replace hf := ite_f h37 hf
              exact w_X9_sell_180 E (f_X9_sell_94 n) ih _ _ _ _ _ _ _ _ _ hf hW (lv_sub hl [0, 1, 2, 3, 4, 5] rfl)
            · replace hf := ite_t h37 hf
              refine lv_aload_n hx hb dX9_sell_141 rfl (lv_at hl 0 rfl) ?_
              refine rg_X9_49 E hW dX9_sell_142 ?_
              refine lv_aload_n hx hb dX9_sell_145 rfl (lv_at hl 0 rfl) ?_
              refine lv_iload hx hb dX9_sell_146 (lv_at hl 5 rfl) ?_
              obtain ⟨r38, hc, hf⟩ := b1_e hf
              refine callVI (As := [.int _]) (rest := [_]) E hW (c_X9_partOf l hc) lk_X9_274 rcv_X9 (Nat.le_of_ble_eq_true rfl) (Nat.le_of_ble_eq_true rfl) (Nat.le_of_ble_eq_true rfl) (Nat.le_of_ble_eq_true rfl) hl.1 (Nat.le_of_ble_eq_true rfl) dX9_sell_148 (fun H locs hW => ?_)
              obtain ⟨v39, hf⟩ := ldI_e hf
              refine ra_38 E hW v39 dX9_sell_151 ?_
              refine lv_iconst (v := (1 : Int32)) hx hb dX9_sell_152 (by decide) ?_
              refine lv_icmp_ne (tgt := 180) hx hb dX9_sell_153 (by decide) (fun h41 => ?_) (fun h41 => ?_)
              · replace hf := ite_f h41 hf
                exact w_X9_sell_180 E (f_X9_sell_94 n) ih _ _ _ _ _ _ _ _ _ hf hW (lv_sub hl [0, 1, 2, 3, 4, 5] rfl)
              · replace hf := ite_t h41 hf
                refine lv_aload_n hx hb dX9_sell_156 rfl (lv_at hl 0 rfl) ?_
                refine rg_X9_52 E hW dX9_sell_157 ?_
                refine lv_aload_n hx hb dX9_sell_160 rfl (lv_at hl 0 rfl) ?_
                refine lv_iload hx hb dX9_sell_161 (lv_at hl 5 rfl) ?_
                obtain ⟨r42, hc, hf⟩ := b1_e hf
                refine callVI (As := [.int _]) (rest := [_]) E hW (c_X9_partOf l hc) lk_X9_274 rcv_X9 (Nat.le_of_ble_eq_true rfl) (Nat.le_of_ble_eq_true rfl) (Nat.le_of_ble_eq_true rfl) (Nat.le_of_ble_eq_true rfl) hl.1 (Nat.le_of_ble_eq_true rfl) dX9_sell_163 (fun H locs hW => ?_)
                obtain ⟨v43, hf⟩ := ldI_e hf
                refine ra_39 E hW v43 dX9_sell_166 ?_
                refine lv_aload_n hx hb dX9_sell_167 rfl (lv_at hl 0 rfl) ?_
                refine rg_X9_52 E hW dX9_sell_168 ?_
                refine lv_iload_n hx hb dX9_sell_171 rfl (lv_at hl 2 rfl) ?_
                obtain ⟨v45, hf⟩ := ldI_e hf
                refine ra_39 E hW v45 dX9_sell_172 ?_
                refine lv_icmp_ne (tgt := 180) hx hb dX9_sell_173 (by decide) (fun h47 => ?_) (fun h47 => ?_)
                · replace hf := ite_f h47 hf
                  exact w_X9_sell_180 E (f_X9_sell_94 n) ih _ _ _ _ _ _ _ _ _ hf hW (lv_sub hl [0, 1, 2, 3, 4, 5] rfl)
                · replace hf := ite_t h47 hf
                  refine lv_iload hx hb dX9_sell_176 (lv_at hl 5 rfl) ?_
                  refine lv_istore (lv' := [_, _, _, _, _, _]) hx hb dX9_sell_178 hl (by decide) rfl (fun ls hl => ?_)
                  exact w_X9_sell_180 E (f_X9_sell_94 n) ih _ _ _ _ _ _ _ _ _ hf hW (lv_sub hl [1, 2, 3, 4, 0, 5] rfl)
set_option maxHeartbeats 4000000 in
set_option maxRecDepth 100000 in
theorem w_X9_sell_71 {p : Program} {l : Launch} {e : Env} {s : State} {m : MethodId} {args : Array Value} {below : List Frame} {meth : Method} {c : Code} {X : XT} {B : Nat} {cs : CS} {o : Nat → Int64} {r : Int32} {S9 : MS} (E : Ev X B p s m args meth c RX9 cX9_sell 7 (some .int)) : ∀ (ms : MS) (v1 : Int32) (v3 : Int32) (H : Heap) (locs : List Loc) (ls : Array Slot), f_X9_sell_71 ms v1 v3 = some (r, S9) → Ws X B s.heap H locs (cs, ms, o) → lv_has ls 7 [(0, .ref (X.1 7)), (1, .int v1), (3, .int v3)] → W p l e rm_X9_sell s m args below meth c H locs 0 0 (MQ below (QI X B r (cs, S9, o)) args s 0 0 (Ab B)) (F0 m 71 ls []) := by
  obtain ⟨hx, hb, hml, hown, hts, -⟩ := id E
  intro ms v1 v3 H locs ls hf hW hl
  unfold f_X9_sell_71 at hf
  refine lv_aload_n hx hb dX9_sell_71 rfl (lv_at hl 0 rfl) ?_
  refine lv_iconst (v := (0 : Int32)) hx hb dX9_sell_72 (by decide) ?_
  refine rp_X9_241 E hW dX9_sell_73 (fun H locs hW => ?_)
  refine lv_aload_n hx hb dX9_sell_76 rfl (lv_at hl 0 rfl) ?_
  refine lv_iload_n hx hb dX9_sell_77 rfl (lv_at hl 1 rfl) ?_
  obtain ⟨r15, hc, hf⟩ := b1_e hf
  refine callVI (As := [.int _]) (rest := []) E hW (c_X9_valueOf l hc) lk_X9_291 rcv_X9 (Nat.le_of_ble_eq_true rfl) (Nat.le_of_ble_eq_true rfl) (Nat.le_of_ble_eq_true rfl) (Nat.le_of_ble_eq_true rfl) hl.1 (Nat.le_of_ble_eq_true rfl) dX9_sell_78 (fun H locs hW => ?_)
  refine lv_istore (lv' := [_, _, _, _]) hx hb dX9_sell_81 hl (by decide) rfl (fun ls hl => ?_)
  refine lv_iconst (v := (-1 : Int32)) hx hb dX9_sell_83 (by decide) ?_
  refine lv_istore (lv' := [_, _, _, _, _]) hx hb dX9_sell_84 hl (by decide) rfl (fun ls hl => ?_)
  refine lv_aload_n hx hb dX9_sell_86 rfl (lv_at hl 2 rfl) ?_
  refine rg_X9_277 E hW dX9_sell_87 ?_
  refine lv_iconst (v := (1 : Int32)) hx hb dX9_sell_90 (by decide) ?_
  refine lv_isub hx hb dX9_sell_91 ?_
  refine lv_istore (lv' := [_, _, _, _, _, _]) hx hb dX9_sell_92 hl (by decide) rfl (fun ls hl => ?_)
  exact w_X9_sell_94 E 1000 _ _ _ _ _ _ _ _ _ hf hW (lv_sub hl [3, 4, 5, 2, 1, 0] rfl)
set_option maxHeartbeats 4000000 in
set_option maxRecDepth 100000 in
theorem w_X9_sell_28 {p : Program} {l : Launch} {e : Env} {s : State} {m : MethodId} {args : Array Value} {below : List Frame} {meth : Method} {c : Code} {X : XT} {B : Nat} {cs : CS} {o : Nat → Int64} {r : Int32} {S9 : MS} (E : Ev X B p s m args meth c RX9 cX9_sell 7 (some .int)) : ∀ (ms : MS) (v1 : Int32) (v2 : Int32) (s1 : Int32) (H : Heap) (locs : List Loc) (ls : Array Slot), f_X9_sell_28 ms v1 v2 s1 = some (r, S9) → Ws X B s.heap H locs (cs, ms, o) → lv_has ls 7 [(0, .ref (X.1 7)), (1, .int v1), (2, .int v2)] → W p l e rm_X9_sell s m args below meth c H locs 0 0 (MQ below (QI X B r (cs, S9, o)) args s 0 0 (Ab B)) (F0 m 28 ls [.int s1, .ref (X.1 7)]) := by
  obtain ⟨hx, hb, hml, hown, hts, -⟩ := id E
  intro ms v1 v2 s1 H locs ls hf hW hl
  unfold f_X9_sell_28 at hf
  refine lv_iconst (v := (2 : Int32)) hx hb dX9_sell_28 (by decide) ?_
  obtain ⟨r6, ms5, hc, hf⟩ := b2_e hf
  refine callVI (As := [.int _, .int _]) (rest := []) E hW (c_X9_may l hc) lk_X9_151 rcv_X9 (Nat.le_of_ble_eq_true rfl) (Nat.le_of_ble_eq_true rfl) (Nat.le_of_ble_eq_true rfl) (Nat.le_of_ble_eq_true rfl) hl.1 (Nat.le_of_ble_eq_true rfl) dX9_sell_29 (fun H locs hW => ?_)
  refine lv_if_ne (tgt := 37) hx hb dX9_sell_32 (by decide) (fun h7 => ?_) (fun h7 => ?_)
  · replace hf := ite_f h7 hf
    refine lv_aload_n hx hb dX9_sell_37 rfl (lv_at hl 0 rfl) ?_
    refine rg_X9_130 E hW dX9_sell_38 ?_
    refine lv_iload_n hx hb dX9_sell_41 rfl (lv_at hl 1 rfl) ?_
    obtain ⟨v8, hf⟩ := ldI_e hf
    refine ra_65 E hW v8 dX9_sell_42 ?_
    refine lv_if_eq (tgt := 48) hx hb dX9_sell_43 (by decide) (fun h10 => ?_) (fun h10 => ?_)
    · replace hf := ite_t h10 hf
      refine lv_aload_n hx hb dX9_sell_48 rfl (lv_at hl 0 rfl) ?_
      refine lv_iload_n hx hb dX9_sell_49 rfl (lv_at hl 1 rfl) ?_
      obtain ⟨r11, hc, hf⟩ := b1_e hf
      refine callVI (As := [.int _]) (rest := []) E hW (c_X9_partOf l hc) lk_X9_274 rcv_X9 (Nat.le_of_ble_eq_true rfl) (Nat.le_of_ble_eq_true rfl) (Nat.le_of_ble_eq_true rfl) (Nat.le_of_ble_eq_true rfl) hl.1 (Nat.le_of_ble_eq_true rfl) dX9_sell_50 (fun H locs hW => ?_)
      refine lv_istore_n (lv' := [_, _, _, _]) hx hb dX9_sell_53 rfl hl (by decide) rfl (fun ls hl => ?_)
      refine lv_aload_n hx hb dX9_sell_54 rfl (lv_at hl 1 rfl) ?_
      refine rg_X9_49 E hW dX9_sell_55 ?_
      refine lv_iload_n hx hb dX9_sell_58 rfl (lv_at hl 0 rfl) ?_
      obtain ⟨v12, hf⟩ := ldI_e hf
      refine ra_38 E hW v12 dX9_sell_59 ?_
      refine lv_iconst (v := (4 : Int32)) hx hb dX9_sell_60 (by decide) ?_
      refine lv_icmp_ne (tgt := 71) hx hb dX9_sell_61 (by decide) (fun h14 => ?_) (fun h14 => ?_)
      · replace hf := ite_f h14 hf
        exact w_X9_sell_71 E _ _ _ _ _ _ hf hW (lv_sub hl [1, 2, 0] rfl)
      · replace hf := ite_t h14 hf
        refine lv_iload_n hx hb dX9_sell_64 rfl (lv_at hl 3 rfl) ?_
        refine lv_if_ne (tgt := 71) hx hb dX9_sell_65 (by decide) (fun h48 => ?_) (fun h48 => ?_)
        · replace hf := ite_f h48 hf
          exact w_X9_sell_71 E _ _ _ _ _ _ hf hW (lv_sub hl [1, 2, 0] rfl)
        · replace hf := ite_t h48 hf
          refine lv_bipush (v := (-2 : Int32)) hx hb dX9_sell_68 (by decide) ?_
          exact retI E hW (e2M hf) dX9_sell_70
    · replace hf := ite_f h10 hf
      refine lv_iconst (v := (-1 : Int32)) hx hb dX9_sell_46 (by decide) ?_
      exact retI E hW (e2M hf) dX9_sell_47
  · replace hf := ite_t h7 hf
    refine lv_iconst (v := (0 : Int32)) hx hb dX9_sell_35 (by decide) ?_
    exact retI E hW (e2M hf) dX9_sell_36
set_option maxHeartbeats 4000000 in
set_option maxRecDepth 100000 in
theorem w_X9_sell_23 {p : Program} {l : Launch} {e : Env} {s : State} {m : MethodId} {args : Array Value} {below : List Frame} {meth : Method} {c : Code} {X : XT} {B : Nat} {cs : CS} {o : Nat → Int64} {r : Int32} {S9 : MS} (E : Ev X B p s m args meth c RX9 cX9_sell 7 (some .int)) : ∀ (ms : MS) (v1 : Int32) (v2 : Int32) (H : Heap) (locs : List Loc) (ls : Array Slot), f_X9_sell_23 ms v1 v2 = some (r, S9) → Ws X B s.heap H locs (cs, ms, o) → lv_has ls 7 [(0, .ref (X.1 7)), (1, .int v1), (2, .int v2)] → W p l e rm_X9_sell s m args below meth c H locs 0 0 (MQ below (QI X B r (cs, S9, o)) args s 0 0 (Ab B)) (F0 m 23 ls [.ref (X.1 7)]) := by
  obtain ⟨hx, hb, hml, hown, hts, -⟩ := id E
  intro ms v1 v2 H locs ls hf hW hl
  unfold f_X9_sell_23 at hf
  refine lv_iconst (v := (1 : Int32)) hx hb dX9_sell_23 (by decide) ?_
  refine lv_goto (tgt := 28) hx hb dX9_sell_24 (by decide) ?_
  exact w_X9_sell_28 E _ _ _ _ _ _ _ hf hW (lv_sub hl [0, 1, 2] rfl)
set_option maxHeartbeats 4000000 in
set_option maxRecDepth 100000 in
theorem c_X9_sell (l : Launch) {X : XT} {B : Nat} {cs : CS} {ms : MS} {o : Nat → Int64} {v1 : Int32} {v2 : Int32} {r : Int32} {S9 : MS} (hf : f_X9_sell ms v1 v2 = some (r, S9)) : Met l yX9_sell (.code yX9_sell cX9_sell 7 (some .int) :: BIG) rm_X9_sell (Pre X B (cs, ms, o) [.ref (X.1 7), .int v1, .int v2]) (QI X B r (cs, S9, o)) 0 0 (Ab B) := by
  refine entry (by decide +kernel) rfl (Nat.le_of_ble_eq_true rfl) (fun p e s m below meth c ls E hW hl => ?_)
  obtain ⟨hx, hb, hml, hown, hts, -⟩ := id E
  replace hl : lv_has ls 7 [(0, .ref (X.1 7)), (1, .int v1), (2, .int v2)] := hl
  unfold f_X9_sell at hf
  refine lv_aload_n hx hb dX9_sell_0 rfl (lv_at hl 0 rfl) ?_
  refine lv_iconst (v := (0 : Int32)) hx hb dX9_sell_1 (by decide) ?_
  refine rp_X9_1 E hW dX9_sell_2 (fun H locs hW => ?_)
  refine lv_aload_n hx hb dX9_sell_5 rfl (lv_at hl 0 rfl) ?_
  refine lv_iload_n hx hb dX9_sell_6 rfl (lv_at hl 1 rfl) ?_
  obtain ⟨r2, ms1, hc, hf⟩ := b2_e hf
  refine callVI (As := [.int _]) (rest := []) E hW (c_X9_isItem l hc) lk_X9_288 rcv_X9 (Nat.le_of_ble_eq_true rfl) (Nat.le_of_ble_eq_true rfl) (Nat.le_of_ble_eq_true rfl) (Nat.le_of_ble_eq_true rfl) hl.1 (Nat.le_of_ble_eq_true rfl) dX9_sell_7 (fun H locs hW => ?_)
  refine lv_if_eq (tgt := 35) hx hb dX9_sell_10 (by decide) (fun h3 => ?_) (fun h3 => ?_)
  · replace hf := ite_t h3 hf
    refine lv_iconst (v := (0 : Int32)) hx hb dX9_sell_35 (by decide) ?_
    exact retI E hW (e2M hf) dX9_sell_36
  · replace hf := ite_f h3 hf
    refine lv_aload_n hx hb dX9_sell_13 rfl (lv_at hl 0 rfl) ?_
    refine lv_iload_n hx hb dX9_sell_14 rfl (lv_at hl 2 rfl) ?_
    refine lv_if_eq (tgt := 23) hx hb dX9_sell_15 (by decide) (fun h4 => ?_) (fun h4 => ?_)
    · replace hf := ite_t h4 hf
      exact w_X9_sell_23 E _ _ _ _ _ _ hf hW (lv_sub hl [0, 1, 2] rfl)
    · replace hf := ite_f h4 hf
      refine lv_iload_n hx hb dX9_sell_18 rfl (lv_at hl 2 rfl) ?_
      refine lv_iconst (v := (1 : Int32)) hx hb dX9_sell_19 (by decide) ?_
      refine lv_icmp_ne (tgt := 27) hx hb dX9_sell_20 (by decide) (fun h49 => ?_) (fun h49 => ?_)
      · replace hf := ite_f h49 hf
        refine lv_iconst (v := (0 : Int32)) hx hb dX9_sell_27 (by decide) ?_
        exact w_X9_sell_28 E _ _ _ _ _ _ _ hf hW (lv_sub hl [0, 1, 2] rfl)
      · replace hf := ite_t h49 hf
        exact w_X9_sell_23 E _ _ _ _ _ _ hf hW (lv_sub hl [0, 1, 2] rfl)
def f_X9_back_139 (ms : MS) (v1 : Int32) (v2 : Int32) (v3 : Int32) (s1 : Int32) (s2 : Int32) : Option (Int32 × MS) := ixr 400 s1 <| (f_X9_stuffOf (maU ms 65 (s1).toNatClampNeg s2) v1).bind fun r21 => (ldL (mb (maU ms 65 (s1).toNatClampNeg s2) 56) 4 r21).bind fun q23 => (f_X9_gramsOf (maU ms 65 (s1).toNatClampNeg s2) v1).bind fun r24 => ixr 4 r21 <| if v2 = (1 : Int32) then ((f_X9_stuffOf (mbU (maU ms 65 (s1).toNatClampNeg s2) 56 (r21).toNatClampNeg (q23 - r24.toInt64)) v1).bind fun r32 => (ldL (mb (mbU (maU ms 65 (s1).toNatClampNeg s2) 56 (r21).toNatClampNeg (q23 - r24.toInt64)) 59) 4 r32).bind fun q34 => (f_X9_gramsOf (mbU (maU ms 65 (s1).toNatClampNeg s2) 56 (r21).toNatClampNeg (q23 - r24.toInt64)) v1).bind fun r35 => ixr 4 r32 <| some (v3, (mbU (mbU (maU ms 65 (s1).toNatClampNeg s2) 56 (r21).toNatClampNeg (q23 - r24.toInt64)) 59 (r32).toNatClampNeg (q34 + r35.toInt64)))) else ((f_X9_stuffOf (mbU (maU ms 65 (s1).toNatClampNeg s2) 56 (r21).toNatClampNeg (q23 - r24.toInt64)) v1).bind fun r27 => (ldL (mb (mbU (maU ms 65 (s1).toNatClampNeg s2) 56 (r21).toNatClampNeg (q23 - r24.toInt64)) 58) 4 r27).bind fun q29 => (f_X9_gramsOf (mbU (maU ms 65 (s1).toNatClampNeg s2) 56 (r21).toNatClampNeg (q23 - r24.toInt64)) v1).bind fun r30 => ixr 4 r27 <| some (v3, (miU (mbU (mbU (maU ms 65 (s1).toNatClampNeg s2) 56 (r21).toNatClampNeg (q23 - r24.toInt64)) 58 (r27).toNatClampNeg (q29 + r30.toInt64)) 13 ((mi (mbU (mbU (maU ms 65 (s1).toNatClampNeg s2) 56 (r21).toNatClampNeg (q23 - r24.toInt64)) 58 (r27).toNatClampNeg (q29 + r30.toInt64)) 13) + (1 : Int32)))))
def f_X9_back_84 (ms : MS) (v1 : Int32) (v2 : Int32) : Option (Int32 × MS) := (ldI (ma (miU ms 11 (0 : Int32)) 67) 400 v1).bind fun q16 => ixr 400 v1 <| ixr 400 v1 <| if v2 = (1 : Int32) then (f_X9_back_139 (maU (maU (mjU (miU ms 11 (0 : Int32)) 0 ((mj (miU ms 11 (0 : Int32)) 0) - q16.toInt64)) 67 (v1).toNatClampNeg (0 : Int32)) 66 (v1).toNatClampNeg (mi (maU (mjU (miU ms 11 (0 : Int32)) 0 ((mj (miU ms 11 (0 : Int32)) 0) - q16.toInt64)) 67 (v1).toNatClampNeg (0 : Int32)) 10)) v1 v2 q16 v1 (2 : Int32)) else (f_X9_back_139 (maU (maU (mjU (miU ms 11 (0 : Int32)) 0 ((mj (miU ms 11 (0 : Int32)) 0) - q16.toInt64)) 67 (v1).toNatClampNeg (0 : Int32)) 66 (v1).toNatClampNeg (mi (maU (mjU (miU ms 11 (0 : Int32)) 0 ((mj (miU ms 11 (0 : Int32)) 0) - q16.toInt64)) 67 (v1).toNatClampNeg (0 : Int32)) 10)) v1 v2 q16 v1 (0 : Int32))
def f_X9_back_28 (ms : MS) (v1 : Int32) (v2 : Int32) (s1 : Int32) : Option (Int32 × MS) := b2 (f_X9_may ms s1 (2 : Int32)) fun r6 ms5 => if r6 = 0 then (some ((0 : Int32), ms5)) else ((ldI (ma ms5 65) 400 v1).bind fun q9 => if q9 = (1 : Int32) then ((ldI (ma ms5 66) 400 v1).bind fun q12 => if ((mi ms5 10) - q12) ≤ (30 : Int32) then (if v2 = 0 then (if (mi ms5 13) = (60 : Int32) then (some ((-3 : Int32), ms5)) else (f_X9_back_84 ms5 v1 v2)) else (f_X9_back_84 ms5 v1 v2)) else (some ((-2 : Int32), ms5))) else (some ((-1 : Int32), ms5)))
def f_X9_back_23 (ms : MS) (v1 : Int32) (v2 : Int32) : Option (Int32 × MS) := f_X9_back_28 ms v1 v2 (1 : Int32)
def f_X9_back (ms : MS) (v1 : Int32) (v2 : Int32) : Option (Int32 × MS) := b2 (f_X9_isItem (miU ms 0 (0 : Int32)) v1) fun r2 ms1 => if r2 = 0 then (some ((0 : Int32), ms1)) else (if v2 = 0 then (f_X9_back_23 ms1 v1 v2) else (if v2 = (1 : Int32) then (f_X9_back_23 ms1 v1 v2) else (f_X9_back_28 ms1 v1 v2 (0 : Int32))))
def rm_X9_back : Room := { frames := 2, cells := 0, slots := 0, locals := 43 }
set_option maxHeartbeats 4000000 in
set_option maxRecDepth 100000 in
theorem w_X9_back_139 {p : Program} {l : Launch} {e : Env} {s : State} {m : MethodId} {args : Array Value} {below : List Frame} {meth : Method} {c : Code} {X : XT} {B : Nat} {cs : CS} {o : Nat → Int64} {r : Int32} {S9 : MS} (E : Ev X B p s m args meth c RX9 cX9_back 4 (some .int)) : ∀ (ms : MS) (v1 : Int32) (v2 : Int32) (v3 : Int32) (s1 : Int32) (s2 : Int32) (H : Heap) (locs : List Loc) (ls : Array Slot), f_X9_back_139 ms v1 v2 v3 s1 s2 = some (r, S9) → Ws X B s.heap H locs (cs, ms, o) → lv_has ls 4 [(0, .ref (X.1 7)), (1, .int v1), (2, .int v2), (3, .int v3)] → W p l e rm_X9_back s m args below meth c H locs 0 0 (MQ below (QI X B r (cs, S9, o)) args s 0 0 (Ab B)) (F0 m 139 ls [.int s2, .int s1, .ref (X.1 65)]) := by
  obtain ⟨hx, hb, hml, hown, hts, -⟩ := id E
  intro ms v1 v2 v3 s1 s2 H locs ls hf hW hl
  unfold f_X9_back_139 at hf
  obtain ⟨v20, hf⟩ := ixr_e hf
  refine rs_65 E hW v20 dX9_back_139 (fun H locs hW => ?_)
  refine lv_aload_n hx hb dX9_back_140 rfl (lv_at hl 0 rfl) ?_
  refine rg_X9_103 E hW dX9_back_141 ?_
  refine lv_aload_n hx hb dX9_back_144 rfl (lv_at hl 0 rfl) ?_
  refine lv_iload_n hx hb dX9_back_145 rfl (lv_at hl 1 rfl) ?_
  obtain ⟨r21, hc, hf⟩ := b1_e hf
  refine callVI (As := [.int _]) (rest := [_]) E hW (c_X9_stuffOf l hc) lk_X9_251 rcv_X9 (Nat.le_of_ble_eq_true rfl) (Nat.le_of_ble_eq_true rfl) (Nat.le_of_ble_eq_true rfl) (Nat.le_of_ble_eq_true rfl) hl.1 (Nat.le_of_ble_eq_true rfl) dX9_back_146 (fun H locs hW => ?_)
  refine lv_dup2_11 hx hb dX9_back_149 rfl rfl ?_
  obtain ⟨v22, hf⟩ := ldL_e hf
  refine ra_56 E hW v22 dX9_back_150 ?_
  refine lv_aload_n hx hb dX9_back_151 rfl (lv_at hl 0 rfl) ?_
  refine lv_iload_n hx hb dX9_back_152 rfl (lv_at hl 1 rfl) ?_
  obtain ⟨r24, hc, hf⟩ := b1_e hf
  refine callVI (As := [.int _]) (rest := [_, _, _]) E hW (c_X9_gramsOf l hc) lk_X9_255 rcv_X9 (Nat.le_of_ble_eq_true rfl) (Nat.le_of_ble_eq_true rfl) (Nat.le_of_ble_eq_true rfl) (Nat.le_of_ble_eq_true rfl) hl.1 (Nat.le_of_ble_eq_true rfl) dX9_back_153 (fun H locs hW => ?_)
  refine lv_i2l hx hb dX9_back_156 rfl ?_
  refine lv_lsub hx hb dX9_back_157 ?_
  obtain ⟨v25, hf⟩ := ixr_e hf
  refine rs_56 E hW v25 dX9_back_158 (fun H locs hW => ?_)
  refine lv_iload_n hx hb dX9_back_159 rfl (lv_at hl 2 rfl) ?_
  refine lv_iconst (v := (1 : Int32)) hx hb dX9_back_160 (by decide) ?_
  refine lv_icmp_ne (tgt := 186) hx hb dX9_back_161 (by decide) (fun h26 => ?_) (fun h26 => ?_)
  · replace hf := ite_f h26 hf
    refine lv_aload_n hx hb dX9_back_186 rfl (lv_at hl 0 rfl) ?_
    refine rg_X9_109 E hW dX9_back_187 ?_
    refine lv_aload_n hx hb dX9_back_190 rfl (lv_at hl 0 rfl) ?_
    refine lv_iload_n hx hb dX9_back_191 rfl (lv_at hl 1 rfl) ?_
    obtain ⟨r27, hc, hf⟩ := b1_e hf
    refine callVI (As := [.int _]) (rest := [_]) E hW (c_X9_stuffOf l hc) lk_X9_251 rcv_X9 (Nat.le_of_ble_eq_true rfl) (Nat.le_of_ble_eq_true rfl) (Nat.le_of_ble_eq_true rfl) (Nat.le_of_ble_eq_true rfl) hl.1 (Nat.le_of_ble_eq_true rfl) dX9_back_192 (fun H locs hW => ?_)
    refine lv_dup2_11 hx hb dX9_back_195 rfl rfl ?_
    obtain ⟨v28, hf⟩ := ldL_e hf
    refine ra_58 E hW v28 dX9_back_196 ?_
    refine lv_aload_n hx hb dX9_back_197 rfl (lv_at hl 0 rfl) ?_
    refine lv_iload_n hx hb dX9_back_198 rfl (lv_at hl 1 rfl) ?_
    obtain ⟨r30, hc, hf⟩ := b1_e hf
    refine callVI (As := [.int _]) (rest := [_, _, _]) E hW (c_X9_gramsOf l hc) lk_X9_255 rcv_X9 (Nat.le_of_ble_eq_true rfl) (Nat.le_of_ble_eq_true rfl) (Nat.le_of_ble_eq_true rfl) (Nat.le_of_ble_eq_true rfl) hl.1 (Nat.le_of_ble_eq_true rfl) dX9_back_199 (fun H locs hW => ?_)
    refine lv_i2l hx hb dX9_back_202 rfl ?_
    refine lv_ladd hx hb dX9_back_203 ?_
    obtain ⟨v31, hf⟩ := ixr_e hf
    refine rs_58 E hW v31 dX9_back_204 (fun H locs hW => ?_)
    refine lv_aload_n hx hb dX9_back_205 rfl (lv_at hl 0 rfl) ?_
    refine lv_dup hx hb dX9_back_206 rfl ?_
    refine rg_X9_258 E hW dX9_back_207 ?_
    refine lv_iconst (v := (1 : Int32)) hx hb dX9_back_210 (by decide) ?_
    refine lv_iadd hx hb dX9_back_211 ?_
    refine rp_X9_258 E hW dX9_back_212 (fun H locs hW => ?_)
    refine lv_iload_n hx hb dX9_back_215 rfl (lv_at hl 3 rfl) ?_
    exact retI E hW (e2M hf) dX9_back_216
  · replace hf := ite_t h26 hf
    refine lv_aload_n hx hb dX9_back_164 rfl (lv_at hl 0 rfl) ?_
    refine rg_X9_112 E hW dX9_back_165 ?_
    refine lv_aload_n hx hb dX9_back_168 rfl (lv_at hl 0 rfl) ?_
    refine lv_iload_n hx hb dX9_back_169 rfl (lv_at hl 1 rfl) ?_
    obtain ⟨r32, hc, hf⟩ := b1_e hf
    refine callVI (As := [.int _]) (rest := [_]) E hW (c_X9_stuffOf l hc) lk_X9_251 rcv_X9 (Nat.le_of_ble_eq_true rfl) (Nat.le_of_ble_eq_true rfl) (Nat.le_of_ble_eq_true rfl) (Nat.le_of_ble_eq_true rfl) hl.1 (Nat.le_of_ble_eq_true rfl) dX9_back_170 (fun H locs hW => ?_)
    refine lv_dup2_11 hx hb dX9_back_173 rfl rfl ?_
    obtain ⟨v33, hf⟩ := ldL_e hf
    refine ra_59 E hW v33 dX9_back_174 ?_
    refine lv_aload_n hx hb dX9_back_175 rfl (lv_at hl 0 rfl) ?_
    refine lv_iload_n hx hb dX9_back_176 rfl (lv_at hl 1 rfl) ?_
    obtain ⟨r35, hc, hf⟩ := b1_e hf
    refine callVI (As := [.int _]) (rest := [_, _, _]) E hW (c_X9_gramsOf l hc) lk_X9_255 rcv_X9 (Nat.le_of_ble_eq_true rfl) (Nat.le_of_ble_eq_true rfl) (Nat.le_of_ble_eq_true rfl) (Nat.le_of_ble_eq_true rfl) hl.1 (Nat.le_of_ble_eq_true rfl) dX9_back_177 (fun H locs hW => ?_)
    refine lv_i2l hx hb dX9_back_180 rfl ?_
    refine lv_ladd hx hb dX9_back_181 ?_
    obtain ⟨v36, hf⟩ := ixr_e hf
    refine rs_59 E hW v36 dX9_back_182 (fun H locs hW => ?_)
    refine lv_goto (tgt := 215) hx hb dX9_back_183 (by decide) ?_
    refine lv_iload_n hx hb dX9_back_215 rfl (lv_at hl 3 rfl) ?_
    exact retI E hW (e2M hf) dX9_back_216
set_option maxHeartbeats 4000000 in
set_option maxRecDepth 100000 in
theorem w_X9_back_84 {p : Program} {l : Launch} {e : Env} {s : State} {m : MethodId} {args : Array Value} {below : List Frame} {meth : Method} {c : Code} {X : XT} {B : Nat} {cs : CS} {o : Nat → Int64} {r : Int32} {S9 : MS} (E : Ev X B p s m args meth c RX9 cX9_back 4 (some .int)) : ∀ (ms : MS) (v1 : Int32) (v2 : Int32) (H : Heap) (locs : List Loc) (ls : Array Slot), f_X9_back_84 ms v1 v2 = some (r, S9) → Ws X B s.heap H locs (cs, ms, o) → lv_has ls 4 [(0, .ref (X.1 7)), (1, .int v1), (2, .int v2)] → W p l e rm_X9_back s m args below meth c H locs 0 0 (MQ below (QI X B r (cs, S9, o)) args s 0 0 (Ab B)) (F0 m 84 ls []) := by
  obtain ⟨hx, hb, hml, hown, hts, -⟩ := id E
  intro ms v1 v2 H locs ls hf hW hl
  unfold f_X9_back_84 at hf
  refine lv_aload_n hx hb dX9_back_84 rfl (lv_at hl 0 rfl) ?_
  refine lv_iconst (v := (0 : Int32)) hx hb dX9_back_85 (by decide) ?_
  refine rp_X9_241 E hW dX9_back_86 (fun H locs hW => ?_)
  refine lv_aload_n hx hb dX9_back_89 rfl (lv_at hl 0 rfl) ?_
  refine rg_X9_136 E hW dX9_back_90 ?_
  refine lv_iload_n hx hb dX9_back_93 rfl (lv_at hl 1 rfl) ?_
  obtain ⟨v15, hf⟩ := ldI_e hf
  refine ra_67 E hW v15 dX9_back_94 ?_
  refine lv_istore_n (lv' := [_, _, _, _]) hx hb dX9_back_95 rfl hl (by decide) rfl (fun ls hl => ?_)
  refine lv_aload_n hx hb dX9_back_96 rfl (lv_at hl 1 rfl) ?_
  refine lv_dup hx hb dX9_back_97 rfl ?_
  refine rg_X9_301 E hW dX9_back_98 ?_
  refine lv_iload_n hx hb dX9_back_101 rfl (lv_at hl 0 rfl) ?_
  refine lv_i2l hx hb dX9_back_102 rfl ?_
  refine lv_lsub hx hb dX9_back_103 ?_
  refine rp_X9_301 E hW dX9_back_104 (fun H locs hW => ?_)
  refine lv_aload_n hx hb dX9_back_107 rfl (lv_at hl 1 rfl) ?_
  refine rg_X9_136 E hW dX9_back_108 ?_
  refine lv_iload_n hx hb dX9_back_111 rfl (lv_at hl 2 rfl) ?_
  refine lv_iconst (v := (0 : Int32)) hx hb dX9_back_112 (by decide) ?_
  obtain ⟨v17, hf⟩ := ixr_e hf
  refine rs_67 E hW v17 dX9_back_113 (fun H locs hW => ?_)
  refine lv_aload_n hx hb dX9_back_114 rfl (lv_at hl 1 rfl) ?_
  refine rg_X9_133 E hW dX9_back_115 ?_
  refine lv_iload_n hx hb dX9_back_118 rfl (lv_at hl 2 rfl) ?_
  refine lv_aload_n hx hb dX9_back_119 rfl (lv_at hl 1 rfl) ?_
  refine rg_X9_248 E hW dX9_back_120 ?_
  obtain ⟨v18, hf⟩ := ixr_e hf
  refine rs_66 E hW v18 dX9_back_123 (fun H locs hW => ?_)
  refine lv_aload_n hx hb dX9_back_124 rfl (lv_at hl 1 rfl) ?_
  refine rg_X9_130 E hW dX9_back_125 ?_
  refine lv_iload_n hx hb dX9_back_128 rfl (lv_at hl 2 rfl) ?_
  refine lv_iload_n hx hb dX9_back_129 rfl (lv_at hl 3 rfl) ?_
  refine lv_iconst (v := (1 : Int32)) hx hb dX9_back_130 (by decide) ?_
  refine lv_icmp_ne (tgt := 138) hx hb dX9_back_131 (by decide) (fun h19 => ?_) (fun h19 => ?_)
  · replace hf := ite_f h19 hf
    refine lv_iconst (v := (0 : Int32)) hx hb dX9_back_138 (by decide) ?_
    exact w_X9_back_139 E _ _ _ _ _ _ _ _ _ hf hW (lv_sub hl [1, 2, 3, 0] rfl)
  · replace hf := ite_t h19 hf
    refine lv_iconst (v := (2 : Int32)) hx hb dX9_back_134 (by decide) ?_
    refine lv_goto (tgt := 139) hx hb dX9_back_135 (by decide) ?_
    exact w_X9_back_139 E _ _ _ _ _ _ _ _ _ hf hW (lv_sub hl [1, 2, 3, 0] rfl)
set_option maxHeartbeats 4000000 in
set_option maxRecDepth 100000 in
theorem w_X9_back_28 {p : Program} {l : Launch} {e : Env} {s : State} {m : MethodId} {args : Array Value} {below : List Frame} {meth : Method} {c : Code} {X : XT} {B : Nat} {cs : CS} {o : Nat → Int64} {r : Int32} {S9 : MS} (E : Ev X B p s m args meth c RX9 cX9_back 4 (some .int)) : ∀ (ms : MS) (v1 : Int32) (v2 : Int32) (s1 : Int32) (H : Heap) (locs : List Loc) (ls : Array Slot), f_X9_back_28 ms v1 v2 s1 = some (r, S9) → Ws X B s.heap H locs (cs, ms, o) → lv_has ls 4 [(0, .ref (X.1 7)), (1, .int v1), (2, .int v2)] → W p l e rm_X9_back s m args below meth c H locs 0 0 (MQ below (QI X B r (cs, S9, o)) args s 0 0 (Ab B)) (F0 m 28 ls [.int s1, .ref (X.1 7)]) := by
  obtain ⟨hx, hb, hml, hown, hts, -⟩ := id E
  intro ms v1 v2 s1 H locs ls hf hW hl
  unfold f_X9_back_28 at hf
  refine lv_iconst (v := (2 : Int32)) hx hb dX9_back_28 (by decide) ?_
  obtain ⟨r6, ms5, hc, hf⟩ := b2_e hf
  refine callVI (As := [.int _, .int _]) (rest := []) E hW (c_X9_may l hc) lk_X9_151 rcv_X9 (Nat.le_of_ble_eq_true rfl) (Nat.le_of_ble_eq_true rfl) (Nat.le_of_ble_eq_true rfl) (Nat.le_of_ble_eq_true rfl) hl.1 (Nat.le_of_ble_eq_true rfl) dX9_back_29 (fun H locs hW => ?_)
  refine lv_if_ne (tgt := 37) hx hb dX9_back_32 (by decide) (fun h7 => ?_) (fun h7 => ?_)
  · replace hf := ite_f h7 hf
    refine lv_aload_n hx hb dX9_back_37 rfl (lv_at hl 0 rfl) ?_
    refine rg_X9_130 E hW dX9_back_38 ?_
    refine lv_iload_n hx hb dX9_back_41 rfl (lv_at hl 1 rfl) ?_
    obtain ⟨v8, hf⟩ := ldI_e hf
    refine ra_65 E hW v8 dX9_back_42 ?_
    refine lv_iconst (v := (1 : Int32)) hx hb dX9_back_43 (by decide) ?_
    refine lv_icmp_eq (tgt := 49) hx hb dX9_back_44 (by decide) (fun h10 => ?_) (fun h10 => ?_)
    · replace hf := ite_t h10 hf
      refine lv_aload_n hx hb dX9_back_49 rfl (lv_at hl 0 rfl) ?_
      refine rg_X9_248 E hW dX9_back_50 ?_
      refine lv_aload_n hx hb dX9_back_53 rfl (lv_at hl 0 rfl) ?_
      refine rg_X9_133 E hW dX9_back_54 ?_
      refine lv_iload_n hx hb dX9_back_57 rfl (lv_at hl 1 rfl) ?_
      obtain ⟨v11, hf⟩ := ldI_e hf
      refine ra_66 E hW v11 dX9_back_58 ?_
      refine lv_isub hx hb dX9_back_59 ?_
      refine lv_bipush (v := (30 : Int32)) hx hb dX9_back_60 (by decide) ?_
      refine lv_icmp_le (tgt := 68) hx hb dX9_back_62 (by decide) (fun h13 => ?_) (fun h13 => ?_)
      · replace hf := ite_t h13 hf
        refine lv_iload_n hx hb dX9_back_68 rfl (lv_at hl 2 rfl) ?_
        refine lv_if_ne (tgt := 84) hx hb dX9_back_69 (by decide) (fun h14 => ?_) (fun h14 => ?_)
        · replace hf := ite_f h14 hf
          exact w_X9_back_84 E _ _ _ _ _ _ hf hW (lv_sub hl [0, 1, 2] rfl)
        · replace hf := ite_t h14 hf
          refine lv_aload_n hx hb dX9_back_72 rfl (lv_at hl 0 rfl) ?_
          refine rg_X9_258 E hW dX9_back_73 ?_
          refine lv_bipush (v := (60 : Int32)) hx hb dX9_back_76 (by decide) ?_
          refine lv_icmp_ne (tgt := 84) hx hb dX9_back_78 (by decide) (fun h37 => ?_) (fun h37 => ?_)
          · replace hf := ite_f h37 hf
            exact w_X9_back_84 E _ _ _ _ _ _ hf hW (lv_sub hl [0, 1, 2] rfl)
          · replace hf := ite_t h37 hf
            refine lv_bipush (v := (-3 : Int32)) hx hb dX9_back_81 (by decide) ?_
            exact retI E hW (e2M hf) dX9_back_83
      · replace hf := ite_f h13 hf
        refine lv_bipush (v := (-2 : Int32)) hx hb dX9_back_65 (by decide) ?_
        exact retI E hW (e2M hf) dX9_back_67
    · replace hf := ite_f h10 hf
      refine lv_iconst (v := (-1 : Int32)) hx hb dX9_back_47 (by decide) ?_
      exact retI E hW (e2M hf) dX9_back_48
  · replace hf := ite_t h7 hf
    refine lv_iconst (v := (0 : Int32)) hx hb dX9_back_35 (by decide) ?_
    exact retI E hW (e2M hf) dX9_back_36
set_option maxHeartbeats 4000000 in
set_option maxRecDepth 100000 in
theorem w_X9_back_23 {p : Program} {l : Launch} {e : Env} {s : State} {m : MethodId} {args : Array Value} {below : List Frame} {meth : Method} {c : Code} {X : XT} {B : Nat} {cs : CS} {o : Nat → Int64} {r : Int32} {S9 : MS} (E : Ev X B p s m args meth c RX9 cX9_back 4 (some .int)) : ∀ (ms : MS) (v1 : Int32) (v2 : Int32) (H : Heap) (locs : List Loc) (ls : Array Slot), f_X9_back_23 ms v1 v2 = some (r, S9) → Ws X B s.heap H locs (cs, ms, o) → lv_has ls 4 [(0, .ref (X.1 7)), (1, .int v1), (2, .int v2)] → W p l e rm_X9_back s m args below meth c H locs 0 0 (MQ below (QI X B r (cs, S9, o)) args s 0 0 (Ab B)) (F0 m 23 ls [.ref (X.1 7)]) := by
  obtain ⟨hx, hb, hml, hown, hts, -⟩ := id E
  intro ms v1 v2 H locs ls hf hW hl
  unfold f_X9_back_23 at hf
  refine lv_iconst (v := (1 : Int32)) hx hb dX9_back_23 (by decide) ?_
  refine lv_goto (tgt := 28) hx hb dX9_back_24 (by decide) ?_
  exact w_X9_back_28 E _ _ _ _ _ _ _ hf hW (lv_sub hl [0, 1, 2] rfl)
set_option maxHeartbeats 4000000 in
set_option maxRecDepth 100000 in
theorem c_X9_back (l : Launch) {X : XT} {B : Nat} {cs : CS} {ms : MS} {o : Nat → Int64} {v1 : Int32} {v2 : Int32} {r : Int32} {S9 : MS} (hf : f_X9_back ms v1 v2 = some (r, S9)) : Met l yX9_back (.code yX9_back cX9_back 4 (some .int) :: BIG) rm_X9_back (Pre X B (cs, ms, o) [.ref (X.1 7), .int v1, .int v2]) (QI X B r (cs, S9, o)) 0 0 (Ab B) := by
  refine entry (by decide +kernel) rfl (Nat.le_of_ble_eq_true rfl) (fun p e s m below meth c ls E hW hl => ?_)
  obtain ⟨hx, hb, hml, hown, hts, -⟩ := id E
  replace hl : lv_has ls 4 [(0, .ref (X.1 7)), (1, .int v1), (2, .int v2)] := hl
  unfold f_X9_back at hf
  refine lv_aload_n hx hb dX9_back_0 rfl (lv_at hl 0 rfl) ?_
  refine lv_iconst (v := (0 : Int32)) hx hb dX9_back_1 (by decide) ?_
  refine rp_X9_1 E hW dX9_back_2 (fun H locs hW => ?_)
  refine lv_aload_n hx hb dX9_back_5 rfl (lv_at hl 0 rfl) ?_
  refine lv_iload_n hx hb dX9_back_6 rfl (lv_at hl 1 rfl) ?_
  obtain ⟨r2, ms1, hc, hf⟩ := b2_e hf
  refine callVI (As := [.int _]) (rest := []) E hW (c_X9_isItem l hc) lk_X9_288 rcv_X9 (Nat.le_of_ble_eq_true rfl) (Nat.le_of_ble_eq_true rfl) (Nat.le_of_ble_eq_true rfl) (Nat.le_of_ble_eq_true rfl) hl.1 (Nat.le_of_ble_eq_true rfl) dX9_back_7 (fun H locs hW => ?_)
  refine lv_if_eq (tgt := 35) hx hb dX9_back_10 (by decide) (fun h3 => ?_) (fun h3 => ?_)
  · replace hf := ite_t h3 hf
    refine lv_iconst (v := (0 : Int32)) hx hb dX9_back_35 (by decide) ?_
    exact retI E hW (e2M hf) dX9_back_36
  · replace hf := ite_f h3 hf
    refine lv_aload_n hx hb dX9_back_13 rfl (lv_at hl 0 rfl) ?_
    refine lv_iload_n hx hb dX9_back_14 rfl (lv_at hl 2 rfl) ?_
    refine lv_if_eq (tgt := 23) hx hb dX9_back_15 (by decide) (fun h4 => ?_) (fun h4 => ?_)
    · replace hf := ite_t h4 hf
      exact w_X9_back_23 E _ _ _ _ _ _ hf hW (lv_sub hl [0, 1, 2] rfl)
    · replace hf := ite_f h4 hf
      refine lv_iload_n hx hb dX9_back_18 rfl (lv_at hl 2 rfl) ?_
      refine lv_iconst (v := (1 : Int32)) hx hb dX9_back_19 (by decide) ?_
      refine lv_icmp_ne (tgt := 27) hx hb dX9_back_20 (by decide) (fun h38 => ?_) (fun h38 => ?_)
      · replace hf := ite_f h38 hf
        refine lv_iconst (v := (0 : Int32)) hx hb dX9_back_27 (by decide) ?_
        exact w_X9_back_28 E _ _ _ _ _ _ _ hf hW (lv_sub hl [0, 1, 2] rfl)
      · replace hf := ite_t h38 hf
        exact w_X9_back_23 E _ _ _ _ _ _ hf hW (lv_sub hl [0, 1, 2] rfl)
def f_X9_findBest_370 (k : MS → Int32 → Int32 → Int32 → Int32 → Option (Int32 × MS)) (ms : MS) (v1 : Int32) (v3 : Int32) (v4 : Int32) (v5 : Int32) : Option (Int32 × MS) := k ms v1 v3 v4 (v5 + (1 : Int32))
def f_X9_findBest_366 (k : MS → Int32 → Int32 → Int32 → Int32 → Option (Int32 × MS)) (ms : MS) (v1 : Int32) (v3 : Int32) (v4 : Int32) (v5 : Int32) (s1 : Int32) (s2 : Int32) : Option (Int32 × MS) := f_X9_findBest_370 k (miU ms 15 (s1 + s2)) v1 v3 v4 v5
def f_X9_findBest_336 (k : MS → Int32 → Int32 → Int32 → Int32 → Option (Int32 × MS)) (ms : MS) (v1 : Int32) (v3 : Int32) (v4 : Int32) (v5 : Int32) (v7 : Int32) : Option (Int32 × MS) := if v7 = 0 then ((ldI (ma ms 71) 24 v5).bind fun q24 => f_X9_findBest_366 k ms v1 v3 (v4 ||| ((1 : Int32) <<< (v5 &&& 31))) v5 (mi ms 15) q24) else (f_X9_findBest_366 k ms v1 v3 (v4 ||| ((1 : Int32) <<< (v5 &&& 31))) v5 (mi ms 15) (0 : Int32))
def f_X9_findBest_306 (k : MS → Int32 → Int32 → Int32 → Int32 → Option (Int32 × MS)) (ms : MS) (v1 : Int32) (v3 : Int32) (v4 : Int32) (v5 : Int32) (v6 : Int32) (s0 : Int32) : Option (Int32 × MS) := (ldI (ma ms 71) 24 v5).bind fun q19 => if q19 ≤ 0 then (f_X9_findBest_370 k ms v1 v3 v4 v5) else (if s0 = 0 then (f_X9_findBest_336 k ms v1 v3 v4 v5 s0) else (if ((v4 >>> (v6 &&& 31)) &&& (1 : Int32)) = 0 then (f_X9_findBest_370 k ms v1 v3 v4 v5) else (f_X9_findBest_336 k ms v1 v3 v4 v5 s0)))
def f_X9_findBest_305 (k : MS → Int32 → Int32 → Int32 → Int32 → Option (Int32 × MS)) (ms : MS) (v1 : Int32) (v3 : Int32) (v4 : Int32) (v5 : Int32) (v6 : Int32) : Option (Int32 × MS) := f_X9_findBest_306 k ms v1 v3 v4 v5 v6 (0 : Int32)
def f_X9_findBest_263 : Nat → MS → Int32 → Int32 → Int32 → Int32 → Option (Int32 × MS)
  | 0, _, _, _, _, _ => none
  | n + 1, ms, v1, v3, v4, v5 => (ldI (ma ms 49) 40 v1).bind fun q13 => if q13 ≤ v5 then (some (v4, ms)) else ((ldI (ma ms 40) 192 (v3 + v5)).bind fun q16 => if q16 = (-1 : Int32) then (f_X9_findBest_305 (f_X9_findBest_263 n) ms v1 v3 v4 v5 q16) else ((f_X9_isOn ms v1 q16).bind fun r26 => if r26 = 0 then (f_X9_findBest_305 (f_X9_findBest_263 n) ms v1 v3 v4 v5 q16) else (f_X9_findBest_306 (f_X9_findBest_263 n) ms v1 v3 v4 v5 q16 (1 : Int32))))
def f_X9_findBest_251 (k : MS → Int32 → Int32 → Int32 → Int32 → Option (Int32 × MS)) (ms : MS) (v1 : Int32) (v2 : Int32) (v3 : Int32) (v4 : Int32) : Option (Int32 × MS) := k ms v1 v2 v3 (v4 + (-1 : Int32))
def f_X9_findBest_183 (k : MS → Int32 → Int32 → Int32 → Int32 → Option (Int32 × MS)) (ms : MS) (v1 : Int32) (v2 : Int32) (v3 : Int32) (v4 : Int32) (s1 : Int32) (s2 : Int32) (s3 : Int32) : Option (Int32 × MS) := (ldI (ma ms 41) 192 (v3 + v4)).bind fun q39 => ixr 24 s1 <| (ldI (ma (maU ms 71 (s1).toNatClampNeg (s2 + (s3 - (q39 * v2)))) 40) 192 (v3 + v4)).bind fun q42 => (ldI (ma (maU ms 71 (s1).toNatClampNeg (s2 + (s3 - (q39 * v2)))) 71) 24 v4).bind fun q44 => if q44 ≤ 0 then (f_X9_findBest_251 k (maU ms 71 (s1).toNatClampNeg (s2 + (s3 - (q39 * v2)))) v1 v2 v3 v4) else (if q42 = (-1 : Int32) then (f_X9_findBest_251 k (maU ms 71 (s1).toNatClampNeg (s2 + (s3 - (q39 * v2)))) v1 v2 v3 v4) else ((f_X9_isOn (maU ms 71 (s1).toNatClampNeg (s2 + (s3 - (q39 * v2)))) v1 q42).bind fun r47 => if r47 = 0 then (f_X9_findBest_251 k (maU ms 71 (s1).toNatClampNeg (s2 + (s3 - (q39 * v2)))) v1 v2 v3 v4) else ((ldI (ma (maU ms 71 (s1).toNatClampNeg (s2 + (s3 - (q39 * v2)))) 71) 24 q42).bind fun q50 => (ldI (ma (maU ms 71 (s1).toNatClampNeg (s2 + (s3 - (q39 * v2)))) 71) 24 v4).bind fun q52 => ixr 24 q42 <| f_X9_findBest_251 k (maU (maU ms 71 (s1).toNatClampNeg (s2 + (s3 - (q39 * v2)))) 71 (q42).toNatClampNeg (q50 + q52)) v1 v2 v3 v4)))
def f_X9_findBest_160 (k : MS → Int32 → Int32 → Int32 → Int32 → Option (Int32 × MS)) (ms : MS) (v1 : Int32) (v2 : Int32) (v3 : Int32) (v4 : Int32) (s1 : Int32) (s2 : Int32) : Option (Int32 × MS) := (ldI (ma ms 44) 192 (v3 + v4)).bind fun q37 => f_X9_findBest_183 k ms v1 v2 v3 v4 s1 s2 (q37 / (2 : Int32))
def f_X9_findBest_122 (k : MS → Int32 → Int32 → Int32 → Int32 → Option (Int32 × MS)) (ms : MS) (v1 : Int32) (v2 : Int32) (v3 : Int32) (v4 : Int32) (v5 : Int32) (s0 : Int32) : Option (Int32 × MS) := if s0 = 0 then (ixr 24 v4 <| f_X9_findBest_251 k (maU ms 71 (v4).toNatClampNeg (-1 : Int32)) v1 v2 v3 v4) else ((ldI (ma ms 71) 24 v4).bind fun q34 => if v5 = (2 : Int32) then (f_X9_findBest_160 k ms v1 v2 v3 v4 v4 q34) else (if v5 = (1 : Int32) then (f_X9_findBest_160 k ms v1 v2 v3 v4 v4 q34) else ((ldI (ma ms 44) 192 (v3 + v4)).bind fun q56 => f_X9_findBest_183 k ms v1 v2 v3 v4 v4 q34 q56)))
def f_X9_findBest_121 (k : MS → Int32 → Int32 → Int32 → Int32 → Option (Int32 × MS)) (ms : MS) (v1 : Int32) (v2 : Int32) (v3 : Int32) (v4 : Int32) (v5 : Int32) : Option (Int32 × MS) := f_X9_findBest_122 k ms v1 v2 v3 v4 v5 (0 : Int32)
def f_X9_findBest_117 (k : MS → Int32 → Int32 → Int32 → Int32 → Option (Int32 × MS)) (ms : MS) (v1 : Int32) (v2 : Int32) (v3 : Int32) (v4 : Int32) (v5 : Int32) : Option (Int32 × MS) := f_X9_findBest_122 k ms v1 v2 v3 v4 v5 (1 : Int32)
def f_X9_findBest_108 (k : MS → Int32 → Int32 → Int32 → Int32 → Option (Int32 × MS)) (ms : MS) (v1 : Int32) (v2 : Int32) (v3 : Int32) (v4 : Int32) (v5 : Int32) : Option (Int32 × MS) := (ldI (ma ms 52) 40 v1).bind fun q61 => if q61 = 0 then (f_X9_findBest_121 k ms v1 v2 v3 v4 v5) else (f_X9_findBest_117 k ms v1 v2 v3 v4 v5)
def f_X9_findBest_64 : Nat → MS → Int32 → Int32 → Int32 → Int32 → Option (Int32 × MS)
  | 0, _, _, _, _, _ => none
  | n + 1, ms, v1, v2, v3, v4 => if v4 < 0 then (f_X9_findBest_263 1000 ms v1 v3 (0 : Int32) (0 : Int32)) else ((ldI (ma ms 38) 192 (v3 + v4)).bind fun q29 => (f_X9_isOn ms v1 v4).bind fun r30 => if r30 = 0 then (f_X9_findBest_121 (f_X9_findBest_64 n) ms v1 v2 v3 v4 q29) else (if q29 = (5 : Int32) then (f_X9_findBest_121 (f_X9_findBest_64 n) ms v1 v2 v3 v4 q29) else (if q29 = (3 : Int32) then (f_X9_findBest_108 (f_X9_findBest_64 n) ms v1 v2 v3 v4 q29) else (if q29 = (4 : Int32) then (f_X9_findBest_108 (f_X9_findBest_64 n) ms v1 v2 v3 v4 q29) else (f_X9_findBest_117 (f_X9_findBest_64 n) ms v1 v2 v3 v4 q29)))))
def f_X9_findBest_29 : Nat → MS → Int32 → Int32 → Int32 → Int32 → Option (Int32 × MS)
  | 0, _, _, _, _, _ => none
  | n + 1, ms, v1, v2, v3, v4 => (ldI (ma ms 49) 40 v1).bind fun q7 => if q7 ≤ v4 then ((ldI (ma ms 49) 40 v1).bind fun q10 => f_X9_findBest_64 1000 ms v1 v2 v3 (q10 - (1 : Int32))) else (ixr 24 v4 <| f_X9_findBest_29 n (maU ms 71 (v4).toNatClampNeg (0 : Int32)) v1 v2 v3 (v4 + (1 : Int32)))
def f_X9_findBest (ms : MS) (v1 : Int32) (v2 : Int32) : Option (Int32 × MS) := (ldI (ma (miU ms 15 (0 : Int32)) 54) 40 v1).bind fun q2 => if q2 = 0 then ((ldI (ma (miU ms 15 (0 : Int32)) 46) 40 v1).bind fun q5 => f_X9_findBest_29 1000 (miU ms 15 (0 : Int32)) v1 v2 ((24 : Int32) * q5) (0 : Int32)) else (some ((0 : Int32), (miU ms 15 (0 : Int32))))
def rm_X9_findBest : Room := { frames := 1, cells := 0, slots := 0, locals := 22 }
set_option maxHeartbeats 4000000 in
set_option maxRecDepth 100000 in
theorem w_X9_findBest_370 {p : Program} {l : Launch} {e : Env} {s : State} {m : MethodId} {args : Array Value} {below : List Frame} {meth : Method} {c : Code} {X : XT} {B : Nat} {cs : CS} {o : Nat → Int64} {r : Int32} {S9 : MS} (E : Ev X B p s m args meth c RX9 cX9_findBest 8 (some .int)) (k : MS → Int32 → Int32 → Int32 → Int32 → Option (Int32 × MS)) (hk : ∀ (ms : MS) (v1 : Int32) (v3 : Int32) (v4 : Int32) (v5 : Int32) (H : Heap) (locs : List Loc) (ls : Array Slot), k ms v1 v3 v4 v5 = some (r, S9) → Ws X B s.heap H locs (cs, ms, o) → lv_has ls 8 [(0, .ref (X.1 7)), (1, .int v1), (3, .int v3), (4, .int v4), (5, .int v5)] → W p l e rm_X9_findBest s m args below meth c H locs 0 0 (MQ below (QI X B r (cs, S9, o)) args s 0 0 (Ab B)) (F0 m 263 ls [])) : ∀ (ms : MS) (v1 : Int32) (v3 : Int32) (v4 : Int32) (v5 : Int32) (H : Heap) (locs : List Loc) (ls : Array Slot), f_X9_findBest_370 k ms v1 v3 v4 v5 = some (r, S9) → Ws X B s.heap H locs (cs, ms, o) → lv_has ls 8 [(0, .ref (X.1 7)), (1, .int v1), (3, .int v3), (4, .int v4), (5, .int v5)] → W p l e rm_X9_findBest s m args below meth c H locs 0 0 (MQ below (QI X B r (cs, S9, o)) args s 0 0 (Ab B)) (F0 m 370 ls []) := by
  obtain ⟨hx, hb, hml, hown, hts, -⟩ := id E
  intro ms v1 v3 v4 v5 H locs ls hf hW hl
  unfold f_X9_findBest_370 at hf
  refine lv_iinc (v := _ + (1 : Int32)) (lv' := [_, _, _, _, _]) hx hb dX9_findBest_370 hl (k := 4) rfl rfl (by decide) rfl (fun ls hl => ?_)
  refine lv_goto (tgt := 263) hx hb dX9_findBest_373 (by decide) ?_
  exact hk _ _ _ _ _ _ _ _ hf hW (lv_sub hl [1, 2, 3, 4, 0] rfl)
set_option maxHeartbeats 4000000 in
set_option maxRecDepth 100000 in
theorem w_X9_findBest_366 {p : Program} {l : Launch} {e : Env} {s : State} {m : MethodId} {args : Array Value} {below : List Frame} {meth : Method} {c : Code} {X : XT} {B : Nat} {cs : CS} {o : Nat → Int64} {r : Int32} {S9 : MS} (E : Ev X B p s m args meth c RX9 cX9_findBest 8 (some .int)) (k : MS → Int32 → Int32 → Int32 → Int32 → Option (Int32 × MS)) (hk : ∀ (ms : MS) (v1 : Int32) (v3 : Int32) (v4 : Int32) (v5 : Int32) (H : Heap) (locs : List Loc) (ls : Array Slot), k ms v1 v3 v4 v5 = some (r, S9) → Ws X B s.heap H locs (cs, ms, o) → lv_has ls 8 [(0, .ref (X.1 7)), (1, .int v1), (3, .int v3), (4, .int v4), (5, .int v5)] → W p l e rm_X9_findBest s m args below meth c H locs 0 0 (MQ below (QI X B r (cs, S9, o)) args s 0 0 (Ab B)) (F0 m 263 ls [])) : ∀ (ms : MS) (v1 : Int32) (v3 : Int32) (v4 : Int32) (v5 : Int32) (s1 : Int32) (s2 : Int32) (H : Heap) (locs : List Loc) (ls : Array Slot), f_X9_findBest_366 k ms v1 v3 v4 v5 s1 s2 = some (r, S9) → Ws X B s.heap H locs (cs, ms, o) → lv_has ls 8 [(0, .ref (X.1 7)), (1, .int v1), (3, .int v3), (4, .int v4), (5, .int v5)] → W p l e rm_X9_findBest s m args below meth c H locs 0 0 (MQ below (QI X B r (cs, S9, o)) args s 0 0 (Ab B)) (F0 m 366 ls [.int s2, .int s1, .ref (X.1 7)]) := by
  obtain ⟨hx, hb, hml, hown, hts, -⟩ := id E
  intro ms v1 v3 v4 v5 s1 s2 H locs ls hf hW hl
  unfold f_X9_findBest_366 at hf
  refine lv_iadd hx hb dX9_findBest_366 ?_
  refine rp_X9_308 E hW dX9_findBest_367 (fun H locs hW => ?_)
  exact w_X9_findBest_370 E k hk _ _ _ _ _ _ _ _ hf hW (lv_sub hl [0, 1, 2, 3, 4] rfl)
set_option maxHeartbeats 4000000 in
set_option maxRecDepth 100000 in
theorem w_X9_findBest_336 {p : Program} {l : Launch} {e : Env} {s : State} {m : MethodId} {args : Array Value} {below : List Frame} {meth : Method} {c : Code} {X : XT} {B : Nat} {cs : CS} {o : Nat → Int64} {r : Int32} {S9 : MS} (E : Ev X B p s m args meth c RX9 cX9_findBest 8 (some .int)) (k : MS → Int32 → Int32 → Int32 → Int32 → Option (Int32 × MS)) (hk : ∀ (ms : MS) (v1 : Int32) (v3 : Int32) (v4 : Int32) (v5 : Int32) (H : Heap) (locs : List Loc) (ls : Array Slot), k ms v1 v3 v4 v5 = some (r, S9) → Ws X B s.heap H locs (cs, ms, o) → lv_has ls 8 [(0, .ref (X.1 7)), (1, .int v1), (3, .int v3), (4, .int v4), (5, .int v5)] → W p l e rm_X9_findBest s m args below meth c H locs 0 0 (MQ below (QI X B r (cs, S9, o)) args s 0 0 (Ab B)) (F0 m 263 ls [])) : ∀ (ms : MS) (v1 : Int32) (v3 : Int32) (v4 : Int32) (v5 : Int32) (v7 : Int32) (H : Heap) (locs : List Loc) (ls : Array Slot), f_X9_findBest_336 k ms v1 v3 v4 v5 v7 = some (r, S9) → Ws X B s.heap H locs (cs, ms, o) → lv_has ls 8 [(0, .ref (X.1 7)), (1, .int v1), (3, .int v3), (4, .int v4), (5, .int v5), (7, .int v7)] → W p l e rm_X9_findBest s m args below meth c H locs 0 0 (MQ below (QI X B r (cs, S9, o)) args s 0 0 (Ab B)) (F0 m 336 ls []) := by
  obtain ⟨hx, hb, hml, hown, hts, -⟩ := id E
  intro ms v1 v3 v4 v5 v7 H locs ls hf hW hl
  unfold f_X9_findBest_336 at hf
  refine lv_iload hx hb dX9_findBest_336 (lv_at hl 3 rfl) ?_
  refine lv_iconst (v := (1 : Int32)) hx hb dX9_findBest_338 (by decide) ?_
  refine lv_iload hx hb dX9_findBest_339 (lv_at hl 4 rfl) ?_
  refine lv_ishl hx hb dX9_findBest_341 ?_
  refine lv_ior hx hb dX9_findBest_342 ?_
  refine lv_istore (lv' := [_, _, _, _, _, _]) hx hb dX9_findBest_343 hl (by decide) rfl (fun ls hl => ?_)
  refine lv_aload_n hx hb dX9_findBest_345 rfl (lv_at hl 1 rfl) ?_
  refine lv_dup hx hb dX9_findBest_346 rfl ?_
  refine rg_X9_308 E hW dX9_findBest_347 ?_
  refine lv_iload hx hb dX9_findBest_350 (lv_at hl 5 rfl) ?_
  refine lv_if_eq (tgt := 359) hx hb dX9_findBest_352 (by decide) (fun h22 => ?_) (fun h22 => ?_)
  · replace hf := ite_t h22 hf
    refine lv_aload_n hx hb dX9_findBest_359 rfl (lv_at hl 1 rfl) ?_
    refine rg_X9_148 E hW dX9_findBest_360 ?_
    refine lv_iload hx hb dX9_findBest_363 (lv_at hl 4 rfl) ?_
    obtain ⟨v23, hf⟩ := ldI_e hf
    refine ra_71 E hW v23 dX9_findBest_365 ?_
    exact w_X9_findBest_366 E k hk _ _ _ _ _ _ _ _ _ _ hf hW (lv_sub hl [1, 2, 3, 0, 4] rfl)
  · replace hf := ite_f h22 hf
    refine lv_iconst (v := (0 : Int32)) hx hb dX9_findBest_355 (by decide) ?_
    refine lv_goto (tgt := 366) hx hb dX9_findBest_356 (by decide) ?_
    exact w_X9_findBest_366 E k hk _ _ _ _ _ _ _ _ _ _ hf hW (lv_sub hl [1, 2, 3, 0, 4] rfl)
set_option maxHeartbeats 4000000 in
set_option maxRecDepth 100000 in
theorem w_X9_findBest_306 {p : Program} {l : Launch} {e : Env} {s : State} {m : MethodId} {args : Array Value} {below : List Frame} {meth : Method} {c : Code} {X : XT} {B : Nat} {cs : CS} {o : Nat → Int64} {r : Int32} {S9 : MS} (E : Ev X B p s m args meth c RX9 cX9_findBest 8 (some .int)) (k : MS → Int32 → Int32 → Int32 → Int32 → Option (Int32 × MS)) (hk : ∀ (ms : MS) (v1 : Int32) (v3 : Int32) (v4 : Int32) (v5 : Int32) (H : Heap) (locs : List Loc) (ls : Array Slot), k ms v1 v3 v4 v5 = some (r, S9) → Ws X B s.heap H locs (cs, ms, o) → lv_has ls 8 [(0, .ref (X.1 7)), (1, .int v1), (3, .int v3), (4, .int v4), (5, .int v5)] → W p l e rm_X9_findBest s m args below meth c H locs 0 0 (MQ below (QI X B r (cs, S9, o)) args s 0 0 (Ab B)) (F0 m 263 ls [])) : ∀ (ms : MS) (v1 : Int32) (v3 : Int32) (v4 : Int32) (v5 : Int32) (v6 : Int32) (s0 : Int32) (H : Heap) (locs : List Loc) (ls : Array Slot), f_X9_findBest_306 k ms v1 v3 v4 v5 v6 s0 = some (r, S9) → Ws X B s.heap H locs (cs, ms, o) → lv_has ls 8 [(0, .ref (X.1 7)), (1, .int v1), (3, .int v3), (4, .int v4), (5, .int v5), (6, .int v6)] → W p l e rm_X9_findBest s m args below meth c H locs 0 0 (MQ below (QI X B r (cs, S9, o)) args s 0 0 (Ab B)) (F0 m 306 ls [.int s0]) := by
  obtain ⟨hx, hb, hml, hown, hts, -⟩ := id E
  intro ms v1 v3 v4 v5 v6 s0 H locs ls hf hW hl
  unfold f_X9_findBest_306 at hf
  refine lv_istore (lv' := [_, _, _, _, _, _, _]) hx hb dX9_findBest_306 hl (by decide) rfl (fun ls hl => ?_)
  refine lv_aload_n hx hb dX9_findBest_308 rfl (lv_at hl 1 rfl) ?_
  refine rg_X9_148 E hW dX9_findBest_309 ?_
  refine lv_iload hx hb dX9_findBest_312 (lv_at hl 5 rfl) ?_
  obtain ⟨v18, hf⟩ := ldI_e hf
  refine ra_71 E hW v18 dX9_findBest_314 ?_
  refine lv_if_le (tgt := 370) hx hb dX9_findBest_315 (by decide) (fun h20 => ?_) (fun h20 => ?_)
  · replace hf := ite_t h20 hf
    exact w_X9_findBest_370 E k hk _ _ _ _ _ _ _ _ hf hW (lv_sub hl [1, 2, 3, 4, 5] rfl)
  · replace hf := ite_f h20 hf
    refine lv_iload hx hb dX9_findBest_318 (lv_at hl 0 rfl) ?_
    refine lv_if_eq (tgt := 336) hx hb dX9_findBest_320 (by decide) (fun h21 => ?_) (fun h21 => ?_)
    · replace hf := ite_t h21 hf
      exact w_X9_findBest_336 E k hk _ _ _ _ _ _ _ _ _ hf hW (lv_sub hl [1, 2, 3, 4, 5, 0] rfl)
    · replace hf := ite_f h21 hf
      refine lv_iload hx hb dX9_findBest_323 (lv_at hl 4 rfl) ?_
      refine lv_iload hx hb dX9_findBest_325 (lv_at hl 6 rfl) ?_
      refine lv_ishr hx hb dX9_findBest_327 ?_
      refine lv_iconst (v := (1 : Int32)) hx hb dX9_findBest_328 (by decide) ?_
      refine lv_iand hx hb dX9_findBest_329 ?_
      refine lv_if_ne (tgt := 336) hx hb dX9_findBest_330 (by decide) (fun h25 => ?_) (fun h25 => ?_)
      · replace hf := ite_f h25 hf
        exact w_X9_findBest_336 E k hk _ _ _ _ _ _ _ _ _ hf hW (lv_sub hl [1, 2, 3, 4, 5, 0] rfl)
      · replace hf := ite_t h25 hf
        refine lv_goto (tgt := 370) hx hb dX9_findBest_333 (by decide) ?_
        exact w_X9_findBest_370 E k hk _ _ _ _ _ _ _ _ hf hW (lv_sub hl [1, 2, 3, 4, 5] rfl)
set_option maxHeartbeats 4000000 in
set_option maxRecDepth 100000 in
theorem w_X9_findBest_305 {p : Program} {l : Launch} {e : Env} {s : State} {m : MethodId} {args : Array Value} {below : List Frame} {meth : Method} {c : Code} {X : XT} {B : Nat} {cs : CS} {o : Nat → Int64} {r : Int32} {S9 : MS} (E : Ev X B p s m args meth c RX9 cX9_findBest 8 (some .int)) (k : MS → Int32 → Int32 → Int32 → Int32 → Option (Int32 × MS)) (hk : ∀ (ms : MS) (v1 : Int32) (v3 : Int32) (v4 : Int32) (v5 : Int32) (H : Heap) (locs : List Loc) (ls : Array Slot), k ms v1 v3 v4 v5 = some (r, S9) → Ws X B s.heap H locs (cs, ms, o) → lv_has ls 8 [(0, .ref (X.1 7)), (1, .int v1), (3, .int v3), (4, .int v4), (5, .int v5)] → W p l e rm_X9_findBest s m args below meth c H locs 0 0 (MQ below (QI X B r (cs, S9, o)) args s 0 0 (Ab B)) (F0 m 263 ls [])) : ∀ (ms : MS) (v1 : Int32) (v3 : Int32) (v4 : Int32) (v5 : Int32) (v6 : Int32) (H : Heap) (locs : List Loc) (ls : Array Slot), f_X9_findBest_305 k ms v1 v3 v4 v5 v6 = some (r, S9) → Ws X B s.heap H locs (cs, ms, o) → lv_has ls 8 [(0, .ref (X.1 7)), (1, .int v1), (3, .int v3), (4, .int v4), (5, .int v5), (6, .int v6)] → W p l e rm_X9_findBest s m args below meth c H locs 0 0 (MQ below (QI X B r (cs, S9, o)) args s 0 0 (Ab B)) (F0 m 305 ls []) := by
  obtain ⟨hx, hb, hml, hown, hts, -⟩ := id E
  intro ms v1 v3 v4 v5 v6 H locs ls hf hW hl
  unfold f_X9_findBest_305 at hf
  refine lv_iconst (v := (0 : Int32)) hx hb dX9_findBest_305 (by decide) ?_
  exact w_X9_findBest_306 E k hk _ _ _ _ _ _ _ _ _ _ hf hW (lv_sub hl [0, 1, 2, 3, 4, 5] rfl)
set_option maxHeartbeats 4000000 in
set_option maxRecDepth 100000 in
theorem w_X9_findBest_263 {p : Program} {l : Launch} {e : Env} {s : State} {m : MethodId} {args : Array Value} {below : List Frame} {meth : Method} {c : Code} {X : XT} {B : Nat} {cs : CS} {o : Nat → Int64} {r : Int32} {S9 : MS} (E : Ev X B p s m args meth c RX9 cX9_findBest 8 (some .int)) : ∀ (n : Nat) (ms : MS) (v1 : Int32) (v3 : Int32) (v4 : Int32) (v5 : Int32) (H : Heap) (locs : List Loc) (ls : Array Slot), f_X9_findBest_263 n ms v1 v3 v4 v5 = some (r, S9) → Ws X B s.heap H locs (cs, ms, o) → lv_has ls 8 [(0, .ref (X.1 7)), (1, .int v1), (3, .int v3), (4, .int v4), (5, .int v5)] → W p l e rm_X9_findBest s m args below meth c H locs 0 0 (MQ below (QI X B r (cs, S9, o)) args s 0 0 (Ab B)) (F0 m 263 ls []) := by
  obtain ⟨hx, hb, hml, hown, hts, -⟩ := id E
  intro n
  induction n with
  | zero => intro ms v1 v3 v4 v5 H locs ls hf; exact absurd hf nofun
  | succ n ih =>
    intro ms v1 v3 v4 v5 H locs ls hf hW hl
    rw [f_X9_findBest_263] at hf
    refine lv_iload hx hb dX9_findBest_263 (lv_at hl 4 rfl) ?_
    refine lv_aload_n hx hb dX9_findBest_265 rfl (lv_at hl 0 rfl) ?_
    refine rg_X9_82 E hW dX9_findBest_266 ?_
    refine lv_iload_n hx hb dX9_findBest_269 rfl (lv_at hl 1 rfl) ?_
    obtain ⟨v12, hf⟩ := ldI_e hf
    refine ra_49 E hW v12 dX9_findBest_270 ?_
    refine lv_icmp_ge (tgt := 376) hx hb dX9_findBest_271 (by decide) (fun h14 => ?_) (fun h14 => ?_)
    · replace hf := ite_t h14 hf
      refine lv_iload hx hb dX9_findBest_376 (lv_at hl 3 rfl) ?_
      exact retI E hW (e2M hf) dX9_findBest_378
    · replace hf := ite_f h14 hf
      refine lv_aload_n hx hb dX9_findBest_274 rfl (lv_at hl 0 rfl) ?_
      refine rg_X9_55 E hW dX9_findBest_275 ?_
      refine lv_iload_n hx hb dX9_findBest_278 rfl (lv_at hl 2 rfl) ?_
      refine lv_iload hx hb dX9_findBest_279 (lv_at hl 4 rfl) ?_
      refine lv_iadd hx hb dX9_findBest_281 ?_
      obtain ⟨v15, hf⟩ := ldI_e hf
      refine ra_40 E hW v15 dX9_findBest_282 ?_
      refine lv_istore (lv' := [_, _, _, _, _, _]) hx hb dX9_findBest_283 hl (by decide) rfl (fun ls hl => ?_)
      refine lv_iload hx hb dX9_findBest_285 (lv_at hl 0 rfl) ?_
      refine lv_iconst (v := (-1 : Int32)) hx hb dX9_findBest_287 (by decide) ?_
      refine lv_icmp_eq (tgt := 305) hx hb dX9_findBest_288 (by decide) (fun h17 => ?_) (fun h17 => ?_)
      · replace hf := ite_t h17 hf
        exact w_X9_findBest_305 E (f_X9_findBest_263 n) ih _ _ _ _ _ _ _ _ _ hf hW (lv_sub hl [1, 2, 3, 4, 5, 0] rfl)
      · replace hf := ite_f h17 hf
        refine lv_aload_n hx hb dX9_findBest_291 rfl (lv_at hl 1 rfl) ?_
        refine lv_iload_n hx hb dX9_findBest_292 rfl (lv_at hl 2 rfl) ?_
        refine lv_iload hx hb dX9_findBest_293 (lv_at hl 0 rfl) ?_
        obtain ⟨r26, hc, hf⟩ := b1_e hf
        refine callVI (As := [.int _, .int _]) (rest := []) E hW (c_X9_isOn l hc) lk_X9_264 rcv_X9 (Nat.le_of_ble_eq_true rfl) (Nat.le_of_ble_eq_true rfl) (Nat.le_of_ble_eq_true rfl) (Nat.le_of_ble_eq_true rfl) hl.1 (Nat.le_of_ble_eq_true rfl) dX9_findBest_295 (fun H locs hW => ?_)
        refine lv_if_eq (tgt := 305) hx hb dX9_findBest_298 (by decide) (fun h27 => ?_) (fun h27 => ?_)
        · replace hf := ite_t h27 hf
          exact w_X9_findBest_305 E (f_X9_findBest_263 n) ih _ _ _ _ _ _ _ _ _ hf hW (lv_sub hl [1, 2, 3, 4, 5, 0] rfl)
        · replace hf := ite_f h27 hf
          refine lv_iconst (v := (1 : Int32)) hx hb dX9_findBest_301 (by decide) ?_
          refine lv_goto (tgt := 306) hx hb dX9_findBest_302 (by decide) ?_
          exact w_X9_findBest_306 E (f_X9_findBest_263 n) ih _ _ _ _ _ _ _ _ _ _ hf hW (lv_sub hl [1, 2, 3, 4, 5, 0] rfl)
set_option maxHeartbeats 4000000 in
set_option maxRecDepth 100000 in
theorem w_X9_findBest_251 {p : Program} {l : Launch} {e : Env} {s : State} {m : MethodId} {args : Array Value} {below : List Frame} {meth : Method} {c : Code} {X : XT} {B : Nat} {cs : CS} {o : Nat → Int64} {r : Int32} {S9 : MS} (E : Ev X B p s m args meth c RX9 cX9_findBest 8 (some .int)) (k : MS → Int32 → Int32 → Int32 → Int32 → Option (Int32 × MS)) (hk : ∀ (ms : MS) (v1 : Int32) (v2 : Int32) (v3 : Int32) (v4 : Int32) (H : Heap) (locs : List Loc) (ls : Array Slot), k ms v1 v2 v3 v4 = some (r, S9) → Ws X B s.heap H locs (cs, ms, o) → lv_has ls 8 [(0, .ref (X.1 7)), (1, .int v1), (2, .int v2), (3, .int v3), (4, .int v4)] → W p l e rm_X9_findBest s m args below meth c H locs 0 0 (MQ below (QI X B r (cs, S9, o)) args s 0 0 (Ab B)) (F0 m 64 ls [])) : ∀ (ms : MS) (v1 : Int32) (v2 : Int32) (v3 : Int32) (v4 : Int32) (H : Heap) (locs : List Loc) (ls : Array Slot), f_X9_findBest_251 k ms v1 v2 v3 v4 = some (r, S9) → Ws X B s.heap H locs (cs, ms, o) → lv_has ls 8 [(0, .ref (X.1 7)), (1, .int v1), (2, .int v2), (3, .int v3), (4, .int v4)] → W p l e rm_X9_findBest s m args below meth c H locs 0 0 (MQ below (QI X B r (cs, S9, o)) args s 0 0 (Ab B)) (F0 m 251 ls []) := by
  obtain ⟨hx, hb, hml, hown, hts, -⟩ := id E
  intro ms v1 v2 v3 v4 H locs ls hf hW hl
  unfold f_X9_findBest_251 at hf
  refine lv_iinc (v := _ + (-1 : Int32)) (lv' := [_, _, _, _, _]) hx hb dX9_findBest_251 hl (k := 4) rfl rfl (by decide) rfl (fun ls hl => ?_)
  refine lv_goto (tgt := 64) hx hb dX9_findBest_254 (by decide) ?_
  exact hk _ _ _ _ _ _ _ _ hf hW (lv_sub hl [1, 2, 3, 4, 0] rfl)
set_option maxHeartbeats 4000000 in
set_option maxRecDepth 100000 in
theorem w_X9_findBest_183 {p : Program} {l : Launch} {e : Env} {s : State} {m : MethodId} {args : Array Value} {below : List Frame} {meth : Method} {c : Code} {X : XT} {B : Nat} {cs : CS} {o : Nat → Int64} {r : Int32} {S9 : MS} (E : Ev X B p s m args meth c RX9 cX9_findBest 8 (some .int)) (k : MS → Int32 → Int32 → Int32 → Int32 → Option (Int32 × MS)) (hk : ∀ (ms : MS) (v1 : Int32) (v2 : Int32) (v3 : Int32) (v4 : Int32) (H : Heap) (locs : List Loc) (ls : Array Slot), k ms v1 v2 v3 v4 = some (r, S9) → Ws X B s.heap H locs (cs, ms, o) → lv_has ls 8 [(0, .ref (X.1 7)), (1, .int v1), (2, .int v2), (3, .int v3), (4, .int v4)] → W p l e rm_X9_findBest s m args below meth c H locs 0 0 (MQ below (QI X B r (cs, S9, o)) args s 0 0 (Ab B)) (F0 m 64 ls [])) : ∀ (ms : MS) (v1 : Int32) (v2 : Int32) (v3 : Int32) (v4 : Int32) (s1 : Int32) (s2 : Int32) (s3 : Int32) (H : Heap) (locs : List Loc) (ls : Array Slot), f_X9_findBest_183 k ms v1 v2 v3 v4 s1 s2 s3 = some (r, S9) → Ws X B s.heap H locs (cs, ms, o) → lv_has ls 8 [(0, .ref (X.1 7)), (1, .int v1), (2, .int v2), (3, .int v3), (4, .int v4)] → W p l e rm_X9_findBest s m args below meth c H locs 0 0 (MQ below (QI X B r (cs, S9, o)) args s 0 0 (Ab B)) (F0 m 183 ls [.int s3, .int s2, .int s1, .ref (X.1 71)]) := by
  obtain ⟨hx, hb, hml, hown, hts, -⟩ := id E
  intro ms v1 v2 v3 v4 s1 s2 s3 H locs ls hf hW hl
  unfold f_X9_findBest_183 at hf
  refine lv_aload_n hx hb dX9_findBest_183 rfl (lv_at hl 0 rfl) ?_
  refine rg_X9_58 E hW dX9_findBest_184 ?_
  refine lv_iload_n hx hb dX9_findBest_187 rfl (lv_at hl 3 rfl) ?_
  refine lv_iload hx hb dX9_findBest_188 (lv_at hl 4 rfl) ?_
  refine lv_iadd hx hb dX9_findBest_190 ?_
  obtain ⟨v38, hf⟩ := ldI_e hf
  refine ra_41 E hW v38 dX9_findBest_191 ?_
  refine lv_iload_n hx hb dX9_findBest_192 rfl (lv_at hl 2 rfl) ?_
  refine lv_imul hx hb dX9_findBest_193 ?_
  refine lv_isub hx hb dX9_findBest_194 ?_
  refine lv_iadd hx hb dX9_findBest_195 ?_
  obtain ⟨v40, hf⟩ := ixr_e hf
  refine rs_71 E hW v40 dX9_findBest_196 (fun H locs hW => ?_)
  refine lv_aload_n hx hb dX9_findBest_197 rfl (lv_at hl 0 rfl) ?_
  refine rg_X9_55 E hW dX9_findBest_198 ?_
  refine lv_iload_n hx hb dX9_findBest_201 rfl (lv_at hl 3 rfl) ?_
  refine lv_iload hx hb dX9_findBest_202 (lv_at hl 4 rfl) ?_
  refine lv_iadd hx hb dX9_findBest_204 ?_
  obtain ⟨v41, hf⟩ := ldI_e hf
  refine ra_40 E hW v41 dX9_findBest_205 ?_
  refine lv_istore (lv' := [_, _, _, _, _, _]) hx hb dX9_findBest_206 hl (by decide) rfl (fun ls hl => ?_)
  refine lv_aload_n hx hb dX9_findBest_208 rfl (lv_at hl 1 rfl) ?_
  refine rg_X9_148 E hW dX9_findBest_209 ?_
  refine lv_iload hx hb dX9_findBest_212 (lv_at hl 5 rfl) ?_
  obtain ⟨v43, hf⟩ := ldI_e hf
  refine ra_71 E hW v43 dX9_findBest_214 ?_
  refine lv_if_le (tgt := 251) hx hb dX9_findBest_215 (by decide) (fun h45 => ?_) (fun h45 => ?_)
  · replace hf := ite_t h45 hf
    exact w_X9_findBest_251 E k hk _ _ _ _ _ _ _ _ hf hW (lv_sub hl [1, 2, 3, 4, 5] rfl)
  · replace hf := ite_f h45 hf
    refine lv_iload hx hb dX9_findBest_218 (lv_at hl 0 rfl) ?_
    refine lv_iconst (v := (-1 : Int32)) hx hb dX9_findBest_220 (by decide) ?_
    refine lv_icmp_eq (tgt := 251) hx hb dX9_findBest_221 (by decide) (fun h46 => ?_) (fun h46 => ?_)
    · replace hf := ite_t h46 hf
      exact w_X9_findBest_251 E k hk _ _ _ _ _ _ _ _ hf hW (lv_sub hl [1, 2, 3, 4, 5] rfl)
    · replace hf := ite_f h46 hf
      refine lv_aload_n hx hb dX9_findBest_224 rfl (lv_at hl 1 rfl) ?_
      refine lv_iload_n hx hb dX9_findBest_225 rfl (lv_at hl 2 rfl) ?_
      refine lv_iload hx hb dX9_findBest_226 (lv_at hl 0 rfl) ?_
      obtain ⟨r47, hc, hf⟩ := b1_e hf
      refine callVI (As := [.int _, .int _]) (rest := []) E hW (c_X9_isOn l hc) lk_X9_264 rcv_X9 (Nat.le_of_ble_eq_true rfl) (Nat.le_of_ble_eq_true rfl) (Nat.le_of_ble_eq_true rfl) (Nat.le_of_ble_eq_true rfl) hl.1 (Nat.le_of_ble_eq_true rfl) dX9_findBest_228 (fun H locs hW => ?_)
      refine lv_if_eq (tgt := 251) hx hb dX9_findBest_231 (by decide) (fun h48 => ?_) (fun h48 => ?_)
      · replace hf := ite_t h48 hf
        exact w_X9_findBest_251 E k hk _ _ _ _ _ _ _ _ hf hW (lv_sub hl [1, 2, 3, 4, 5] rfl)
      · replace hf := ite_f h48 hf
        refine lv_aload_n hx hb dX9_findBest_234 rfl (lv_at hl 1 rfl) ?_
        refine rg_X9_148 E hW dX9_findBest_235 ?_
        refine lv_iload hx hb dX9_findBest_238 (lv_at hl 0 rfl) ?_
        refine lv_dup2_11 hx hb dX9_findBest_240 rfl rfl ?_
        obtain ⟨v49, hf⟩ := ldI_e hf
        refine ra_71 E hW v49 dX9_findBest_241 ?_
        refine lv_aload_n hx hb dX9_findBest_242 rfl (lv_at hl 1 rfl) ?_
        refine rg_X9_148 E hW dX9_findBest_243 ?_
        refine lv_iload hx hb dX9_findBest_246 (lv_at hl 5 rfl) ?_
        obtain ⟨v51, hf⟩ := ldI_e hf
        refine ra_71 E hW v51 dX9_findBest_248 ?_
        refine lv_iadd hx hb dX9_findBest_249 ?_
        obtain ⟨v53, hf⟩ := ixr_e hf
        refine rs_71 E hW v53 dX9_findBest_250 (fun H locs hW => ?_)
        exact w_X9_findBest_251 E k hk _ _ _ _ _ _ _ _ hf hW (lv_sub hl [1, 2, 3, 4, 5] rfl)
set_option maxHeartbeats 4000000 in
set_option maxRecDepth 100000 in
theorem w_X9_findBest_160 {p : Program} {l : Launch} {e : Env} {s : State} {m : MethodId} {args : Array Value} {below : List Frame} {meth : Method} {c : Code} {X : XT} {B : Nat} {cs : CS} {o : Nat → Int64} {r : Int32} {S9 : MS} (E : Ev X B p s m args meth c RX9 cX9_findBest 8 (some .int)) (k : MS → Int32 → Int32 → Int32 → Int32 → Option (Int32 × MS)) (hk : ∀ (ms : MS) (v1 : Int32) (v2 : Int32) (v3 : Int32) (v4 : Int32) (H : Heap) (locs : List Loc) (ls : Array Slot), k ms v1 v2 v3 v4 = some (r, S9) → Ws X B s.heap H locs (cs, ms, o) → lv_has ls 8 [(0, .ref (X.1 7)), (1, .int v1), (2, .int v2), (3, .int v3), (4, .int v4)] → W p l e rm_X9_findBest s m args below meth c H locs 0 0 (MQ below (QI X B r (cs, S9, o)) args s 0 0 (Ab B)) (F0 m 64 ls [])) : ∀ (ms : MS) (v1 : Int32) (v2 : Int32) (v3 : Int32) (v4 : Int32) (s1 : Int32) (s2 : Int32) (H : Heap) (locs : List Loc) (ls : Array Slot), f_X9_findBest_160 k ms v1 v2 v3 v4 s1 s2 = some (r, S9) → Ws X B s.heap H locs (cs, ms, o) → lv_has ls 8 [(0, .ref (X.1 7)), (1, .int v1), (2, .int v2), (3, .int v3), (4, .int v4)] → W p l e rm_X9_findBest s m args below meth c H locs 0 0 (MQ below (QI X B r (cs, S9, o)) args s 0 0 (Ab B)) (F0 m 160 ls [.int s2, .int s1, .ref (X.1 71)]) := by
  obtain ⟨hx, hb, hml, hown, hts, -⟩ := id E
  intro ms v1 v2 v3 v4 s1 s2 H locs ls hf hW hl
  unfold f_X9_findBest_160 at hf
  refine lv_aload_n hx hb dX9_findBest_160 rfl (lv_at hl 0 rfl) ?_
  refine rg_X9_67 E hW dX9_findBest_161 ?_
  refine lv_iload_n hx hb dX9_findBest_164 rfl (lv_at hl 3 rfl) ?_
  refine lv_iload hx hb dX9_findBest_165 (lv_at hl 4 rfl) ?_
  refine lv_iadd hx hb dX9_findBest_167 ?_
  obtain ⟨v36, hf⟩ := ldI_e hf
  refine ra_44 E hW v36 dX9_findBest_168 ?_
  refine lv_iconst (v := (2 : Int32)) hx hb dX9_findBest_169 (by decide) ?_
  refine lv_idiv hx hb dX9_findBest_170 (by decide) ?_
  refine lv_goto (tgt := 183) hx hb dX9_findBest_171 (by decide) ?_
  exact w_X9_findBest_183 E k hk _ _ _ _ _ _ _ _ _ _ _ hf hW (lv_sub hl [0, 1, 2, 3, 4] rfl)
set_option maxHeartbeats 4000000 in
set_option maxRecDepth 100000 in
theorem w_X9_findBest_122 {p : Program} {l : Launch} {e : Env} {s : State} {m : MethodId} {args : Array Value} {below : List Frame} {meth : Method} {c : Code} {X : XT} {B : Nat} {cs : CS} {o : Nat → Int64} {r : Int32} {S9 : MS} (E : Ev X B p s m args meth c RX9 cX9_findBest 8 (some .int)) (k : MS → Int32 → Int32 → Int32 → Int32 → Option (Int32 × MS)) (hk : ∀ (ms : MS) (v1 : Int32) (v2 : Int32) (v3 : Int32) (v4 : Int32) (H : Heap) (locs : List Loc) (ls : Array Slot), k ms v1 v2 v3 v4 = some (r, S9) → Ws X B s.heap H locs (cs, ms, o) → lv_has ls 8 [(0, .ref (X.1 7)), (1, .int v1), (2, .int v2), (3, .int v3), (4, .int v4)] → W p l e rm_X9_findBest s m args below meth c H locs 0 0 (MQ below (QI X B r (cs, S9, o)) args s 0 0 (Ab B)) (F0 m 64 ls [])) : ∀ (ms : MS) (v1 : Int32) (v2 : Int32) (v3 : Int32) (v4 : Int32) (v5 : Int32) (s0 : Int32) (H : Heap) (locs : List Loc) (ls : Array Slot), f_X9_findBest_122 k ms v1 v2 v3 v4 v5 s0 = some (r, S9) → Ws X B s.heap H locs (cs, ms, o) → lv_has ls 8 [(0, .ref (X.1 7)), (1, .int v1), (2, .int v2), (3, .int v3), (4, .int v4), (5, .int v5)] → W p l e rm_X9_findBest s m args below meth c H locs 0 0 (MQ below (QI X B r (cs, S9, o)) args s 0 0 (Ab B)) (F0 m 122 ls [.int s0]) := by
  obtain ⟨hx, hb, hml, hown, hts, -⟩ := id E
  intro ms v1 v2 v3 v4 v5 s0 H locs ls hf hW hl
  unfold f_X9_findBest_122 at hf
  refine lv_istore (lv' := [_, _, _, _, _, _, _]) hx hb dX9_findBest_122 hl (by decide) rfl (fun ls hl => ?_)
  refine lv_iload hx hb dX9_findBest_124 (lv_at hl 0 rfl) ?_
  refine lv_if_ne (tgt := 140) hx hb dX9_findBest_126 (by decide) (fun h32 => ?_) (fun h32 => ?_)
  · replace hf := ite_f h32 hf
    refine lv_aload_n hx hb dX9_findBest_140 rfl (lv_at hl 1 rfl) ?_
    refine rg_X9_148 E hW dX9_findBest_141 ?_
    refine lv_iload hx hb dX9_findBest_144 (lv_at hl 5 rfl) ?_
    refine lv_dup2_11 hx hb dX9_findBest_146 rfl rfl ?_
    obtain ⟨v33, hf⟩ := ldI_e hf
    refine ra_71 E hW v33 dX9_findBest_147 ?_
    refine lv_iload hx hb dX9_findBest_148 (lv_at hl 6 rfl) ?_
    refine lv_iconst (v := (2 : Int32)) hx hb dX9_findBest_150 (by decide) ?_
    refine lv_icmp_eq (tgt := 160) hx hb dX9_findBest_151 (by decide) (fun h35 => ?_) (fun h35 => ?_)
    · replace hf := ite_t h35 hf
      exact w_X9_findBest_160 E k hk _ _ _ _ _ _ _ _ _ _ hf hW (lv_sub hl [1, 2, 3, 4, 5] rfl)
    · replace hf := ite_f h35 hf
      refine lv_iload hx hb dX9_findBest_154 (lv_at hl 6 rfl) ?_
      refine lv_iconst (v := (1 : Int32)) hx hb dX9_findBest_156 (by decide) ?_
      refine lv_icmp_ne (tgt := 174) hx hb dX9_findBest_157 (by decide) (fun h54 => ?_) (fun h54 => ?_)
      · replace hf := ite_f h54 hf
        refine lv_aload_n hx hb dX9_findBest_174 rfl (lv_at hl 1 rfl) ?_
        refine rg_X9_67 E hW dX9_findBest_175 ?_
        refine lv_iload_n hx hb dX9_findBest_178 rfl (lv_at hl 4 rfl) ?_
        refine lv_iload hx hb dX9_findBest_179 (lv_at hl 5 rfl) ?_
        refine lv_iadd hx hb dX9_findBest_181 ?_
        obtain ⟨v55, hf⟩ := ldI_e hf
        refine ra_44 E hW v55 dX9_findBest_182 ?_
        exact w_X9_findBest_183 E k hk _ _ _ _ _ _ _ _ _ _ _ hf hW (lv_sub hl [1, 2, 3, 4, 5] rfl)
      · replace hf := ite_t h54 hf
        exact w_X9_findBest_160 E k hk _ _ _ _ _ _ _ _ _ _ hf hW (lv_sub hl [1, 2, 3, 4, 5] rfl)
  · replace hf := ite_t h32 hf
    refine lv_aload_n hx hb dX9_findBest_129 rfl (lv_at hl 1 rfl) ?_
    refine rg_X9_148 E hW dX9_findBest_130 ?_
    refine lv_iload hx hb dX9_findBest_133 (lv_at hl 5 rfl) ?_
    refine lv_iconst (v := (-1 : Int32)) hx hb dX9_findBest_135 (by decide) ?_
    obtain ⟨v57, hf⟩ := ixr_e hf
    refine rs_71 E hW v57 dX9_findBest_136 (fun H locs hW => ?_)
    refine lv_goto (tgt := 251) hx hb dX9_findBest_137 (by decide) ?_
    exact w_X9_findBest_251 E k hk _ _ _ _ _ _ _ _ hf hW (lv_sub hl [1, 2, 3, 4, 5] rfl)
set_option maxHeartbeats 4000000 in
set_option maxRecDepth 100000 in
theorem w_X9_findBest_121 {p : Program} {l : Launch} {e : Env} {s : State} {m : MethodId} {args : Array Value} {below : List Frame} {meth : Method} {c : Code} {X : XT} {B : Nat} {cs : CS} {o : Nat → Int64} {r : Int32} {S9 : MS} (E : Ev X B p s m args meth c RX9 cX9_findBest 8 (some .int)) (k : MS → Int32 → Int32 → Int32 → Int32 → Option (Int32 × MS)) (hk : ∀ (ms : MS) (v1 : Int32) (v2 : Int32) (v3 : Int32) (v4 : Int32) (H : Heap) (locs : List Loc) (ls : Array Slot), k ms v1 v2 v3 v4 = some (r, S9) → Ws X B s.heap H locs (cs, ms, o) → lv_has ls 8 [(0, .ref (X.1 7)), (1, .int v1), (2, .int v2), (3, .int v3), (4, .int v4)] → W p l e rm_X9_findBest s m args below meth c H locs 0 0 (MQ below (QI X B r (cs, S9, o)) args s 0 0 (Ab B)) (F0 m 64 ls [])) : ∀ (ms : MS) (v1 : Int32) (v2 : Int32) (v3 : Int32) (v4 : Int32) (v5 : Int32) (H : Heap) (locs : List Loc) (ls : Array Slot), f_X9_findBest_121 k ms v1 v2 v3 v4 v5 = some (r, S9) → Ws X B s.heap H locs (cs, ms, o) → lv_has ls 8 [(0, .ref (X.1 7)), (1, .int v1), (2, .int v2), (3, .int v3), (4, .int v4), (5, .int v5)] → W p l e rm_X9_findBest s m args below meth c H locs 0 0 (MQ below (QI X B r (cs, S9, o)) args s 0 0 (Ab B)) (F0 m 121 ls []) := by
  obtain ⟨hx, hb, hml, hown, hts, -⟩ := id E
  intro ms v1 v2 v3 v4 v5 H locs ls hf hW hl
  unfold f_X9_findBest_121 at hf
  refine lv_iconst (v := (0 : Int32)) hx hb dX9_findBest_121 (by decide) ?_
  exact w_X9_findBest_122 E k hk _ _ _ _ _ _ _ _ _ _ hf hW (lv_sub hl [0, 1, 2, 3, 4, 5] rfl)
set_option maxHeartbeats 4000000 in
set_option maxRecDepth 100000 in
theorem w_X9_findBest_117 {p : Program} {l : Launch} {e : Env} {s : State} {m : MethodId} {args : Array Value} {below : List Frame} {meth : Method} {c : Code} {X : XT} {B : Nat} {cs : CS} {o : Nat → Int64} {r : Int32} {S9 : MS} (E : Ev X B p s m args meth c RX9 cX9_findBest 8 (some .int)) (k : MS → Int32 → Int32 → Int32 → Int32 → Option (Int32 × MS)) (hk : ∀ (ms : MS) (v1 : Int32) (v2 : Int32) (v3 : Int32) (v4 : Int32) (H : Heap) (locs : List Loc) (ls : Array Slot), k ms v1 v2 v3 v4 = some (r, S9) → Ws X B s.heap H locs (cs, ms, o) → lv_has ls 8 [(0, .ref (X.1 7)), (1, .int v1), (2, .int v2), (3, .int v3), (4, .int v4)] → W p l e rm_X9_findBest s m args below meth c H locs 0 0 (MQ below (QI X B r (cs, S9, o)) args s 0 0 (Ab B)) (F0 m 64 ls [])) : ∀ (ms : MS) (v1 : Int32) (v2 : Int32) (v3 : Int32) (v4 : Int32) (v5 : Int32) (H : Heap) (locs : List Loc) (ls : Array Slot), f_X9_findBest_117 k ms v1 v2 v3 v4 v5 = some (r, S9) → Ws X B s.heap H locs (cs, ms, o) → lv_has ls 8 [(0, .ref (X.1 7)), (1, .int v1), (2, .int v2), (3, .int v3), (4, .int v4), (5, .int v5)] → W p l e rm_X9_findBest s m args below meth c H locs 0 0 (MQ below (QI X B r (cs, S9, o)) args s 0 0 (Ab B)) (F0 m 117 ls []) := by
  obtain ⟨hx, hb, hml, hown, hts, -⟩ := id E
  intro ms v1 v2 v3 v4 v5 H locs ls hf hW hl
  unfold f_X9_findBest_117 at hf
  refine lv_iconst (v := (1 : Int32)) hx hb dX9_findBest_117 (by decide) ?_
  refine lv_goto (tgt := 122) hx hb dX9_findBest_118 (by decide) ?_
  exact w_X9_findBest_122 E k hk _ _ _ _ _ _ _ _ _ _ hf hW (lv_sub hl [0, 1, 2, 3, 4, 5] rfl)
set_option maxHeartbeats 4000000 in
set_option maxRecDepth 100000 in
theorem w_X9_findBest_108 {p : Program} {l : Launch} {e : Env} {s : State} {m : MethodId} {args : Array Value} {below : List Frame} {meth : Method} {c : Code} {X : XT} {B : Nat} {cs : CS} {o : Nat → Int64} {r : Int32} {S9 : MS} (E : Ev X B p s m args meth c RX9 cX9_findBest 8 (some .int)) (k : MS → Int32 → Int32 → Int32 → Int32 → Option (Int32 × MS)) (hk : ∀ (ms : MS) (v1 : Int32) (v2 : Int32) (v3 : Int32) (v4 : Int32) (H : Heap) (locs : List Loc) (ls : Array Slot), k ms v1 v2 v3 v4 = some (r, S9) → Ws X B s.heap H locs (cs, ms, o) → lv_has ls 8 [(0, .ref (X.1 7)), (1, .int v1), (2, .int v2), (3, .int v3), (4, .int v4)] → W p l e rm_X9_findBest s m args below meth c H locs 0 0 (MQ below (QI X B r (cs, S9, o)) args s 0 0 (Ab B)) (F0 m 64 ls [])) : ∀ (ms : MS) (v1 : Int32) (v2 : Int32) (v3 : Int32) (v4 : Int32) (v5 : Int32) (H : Heap) (locs : List Loc) (ls : Array Slot), f_X9_findBest_108 k ms v1 v2 v3 v4 v5 = some (r, S9) → Ws X B s.heap H locs (cs, ms, o) → lv_has ls 8 [(0, .ref (X.1 7)), (1, .int v1), (2, .int v2), (3, .int v3), (4, .int v4), (5, .int v5)] → W p l e rm_X9_findBest s m args below meth c H locs 0 0 (MQ below (QI X B r (cs, S9, o)) args s 0 0 (Ab B)) (F0 m 108 ls []) := by
  obtain ⟨hx, hb, hml, hown, hts, -⟩ := id E
  intro ms v1 v2 v3 v4 v5 H locs ls hf hW hl
  unfold f_X9_findBest_108 at hf
  refine lv_aload_n hx hb dX9_findBest_108 rfl (lv_at hl 0 rfl) ?_
  refine rg_X9_91 E hW dX9_findBest_109 ?_
  refine lv_iload_n hx hb dX9_findBest_112 rfl (lv_at hl 1 rfl) ?_
  obtain ⟨v60, hf⟩ := ldI_e hf
  refine ra_52 E hW v60 dX9_findBest_113 ?_
  refine lv_if_eq (tgt := 121) hx hb dX9_findBest_114 (by decide) (fun h62 => ?_) (fun h62 => ?_)
  · replace hf := ite_t h62 hf
    exact w_X9_findBest_121 E k hk _ _ _ _ _ _ _ _ _ hf hW (lv_sub hl [0, 1, 2, 3, 4, 5] rfl)
  · replace hf := ite_f h62 hf
    exact w_X9_findBest_117 E k hk _ _ _ _ _ _ _ _ _ hf hW (lv_sub hl [0, 1, 2, 3, 4, 5] rfl)
set_option maxHeartbeats 4000000 in
set_option maxRecDepth 100000 in
theorem w_X9_findBest_64 {p : Program} {l : Launch} {e : Env} {s : State} {m : MethodId} {args : Array Value} {below : List Frame} {meth : Method} {c : Code} {X : XT} {B : Nat} {cs : CS} {o : Nat → Int64} {r : Int32} {S9 : MS} (E : Ev X B p s m args meth c RX9 cX9_findBest 8 (some .int)) : ∀ (n : Nat) (ms : MS) (v1 : Int32) (v2 : Int32) (v3 : Int32) (v4 : Int32) (H : Heap) (locs : List Loc) (ls : Array Slot), f_X9_findBest_64 n ms v1 v2 v3 v4 = some (r, S9) → Ws X B s.heap H locs (cs, ms, o) → lv_has ls 8 [(0, .ref (X.1 7)), (1, .int v1), (2, .int v2), (3, .int v3), (4, .int v4)] → W p l e rm_X9_findBest s m args below meth c H locs 0 0 (MQ below (QI X B r (cs, S9, o)) args s 0 0 (Ab B)) (F0 m 64 ls []) := by
  obtain ⟨hx, hb, hml, hown, hts, -⟩ := id E
  intro n
  induction n with
  | zero => intro ms v1 v2 v3 v4 H locs ls hf; exact absurd hf nofun
  | succ n ih =>
    intro ms v1 v2 v3 v4 H locs ls hf hW hl
    rw [f_X9_findBest_64] at hf
    refine lv_iload hx hb dX9_findBest_64 (lv_at hl 4 rfl) ?_
    refine lv_if_lt (tgt := 257) hx hb dX9_findBest_66 (by decide) (fun h11 => ?_) (fun h11 => ?_)
    · replace hf := ite_t h11 hf
      refine lv_iconst (v := (0 : Int32)) hx hb dX9_findBest_257 (by decide) ?_
      refine lv_istore (lv' := [_, _, _, _, _]) hx hb dX9_findBest_258 hl (by decide) rfl (fun ls hl => ?_)
      refine lv_iconst (v := (0 : Int32)) hx hb dX9_findBest_260 (by decide) ?_
      refine lv_istore (lv' := [_, _, _, _, _, _]) hx hb dX9_findBest_261 hl (by decide) rfl (fun ls hl => ?_)
      exact w_X9_findBest_263 E 1000 _ _ _ _ _ _ _ _ hf hW (lv_sub hl [2, 3, 5, 1, 0] rfl)
    · replace hf := ite_f h11 hf
      refine lv_aload_n hx hb dX9_findBest_69 rfl (lv_at hl 0 rfl) ?_
      refine rg_X9_49 E hW dX9_findBest_70 ?_
      refine lv_iload_n hx hb dX9_findBest_73 rfl (lv_at hl 3 rfl) ?_
      refine lv_iload hx hb dX9_findBest_74 (lv_at hl 4 rfl) ?_
      refine lv_iadd hx hb dX9_findBest_76 ?_
      obtain ⟨v28, hf⟩ := ldI_e hf
      refine ra_38 E hW v28 dX9_findBest_77 ?_
      refine lv_istore (lv' := [_, _, _, _, _, _]) hx hb dX9_findBest_78 hl (by decide) rfl (fun ls hl => ?_)
      refine lv_aload_n hx hb dX9_findBest_80 rfl (lv_at hl 1 rfl) ?_
      refine lv_iload_n hx hb dX9_findBest_81 rfl (lv_at hl 2 rfl) ?_
      refine lv_iload hx hb dX9_findBest_82 (lv_at hl 5 rfl) ?_
      obtain ⟨r30, hc, hf⟩ := b1_e hf
      refine callVI (As := [.int _, .int _]) (rest := []) E hW (c_X9_isOn l hc) lk_X9_264 rcv_X9 (Nat.le_of_ble_eq_true rfl) (Nat.le_of_ble_eq_true rfl) (Nat.le_of_ble_eq_true rfl) (Nat.le_of_ble_eq_true rfl) hl.1 (Nat.le_of_ble_eq_true rfl) dX9_findBest_84 (fun H locs hW => ?_)
      refine lv_if_eq (tgt := 121) hx hb dX9_findBest_87 (by decide) (fun h31 => ?_) (fun h31 => ?_)
      · replace hf := ite_t h31 hf
        exact w_X9_findBest_121 E (f_X9_findBest_64 n) ih _ _ _ _ _ _ _ _ _ hf hW (lv_sub hl [1, 2, 3, 4, 5, 0] rfl)
      · replace hf := ite_f h31 hf
        refine lv_iload hx hb dX9_findBest_90 (lv_at hl 0 rfl) ?_
        refine lv_iconst (v := (5 : Int32)) hx hb dX9_findBest_92 (by decide) ?_
        refine lv_icmp_eq (tgt := 121) hx hb dX9_findBest_93 (by decide) (fun h58 => ?_) (fun h58 => ?_)
        · replace hf := ite_t h58 hf
          exact w_X9_findBest_121 E (f_X9_findBest_64 n) ih _ _ _ _ _ _ _ _ _ hf hW (lv_sub hl [1, 2, 3, 4, 5, 0] rfl)
        · replace hf := ite_f h58 hf
          refine lv_iload hx hb dX9_findBest_96 (lv_at hl 0 rfl) ?_
          refine lv_iconst (v := (3 : Int32)) hx hb dX9_findBest_98 (by decide) ?_
          refine lv_icmp_eq (tgt := 108) hx hb dX9_findBest_99 (by decide) (fun h59 => ?_) (fun h59 => ?_)
          · replace hf := ite_t h59 hf
            exact w_X9_findBest_108 E (f_X9_findBest_64 n) ih _ _ _ _ _ _ _ _ _ hf hW (lv_sub hl [1, 2, 3, 4, 5, 0] rfl)
          · replace hf := ite_f h59 hf
            refine lv_iload hx hb dX9_findBest_102 (lv_at hl 0 rfl) ?_
            refine lv_iconst (v := (4 : Int32)) hx hb dX9_findBest_104 (by decide) ?_
            refine lv_icmp_ne (tgt := 117) hx hb dX9_findBest_105 (by decide) (fun h63 => ?_) (fun h63 => ?_)
            · replace hf := ite_f h63 hf
              exact w_X9_findBest_117 E (f_X9_findBest_64 n) ih _ _ _ _ _ _ _ _ _ hf hW (lv_sub hl [1, 2, 3, 4, 5, 0] rfl)
            · replace hf := ite_t h63 hf
              exact w_X9_findBest_108 E (f_X9_findBest_64 n) ih _ _ _ _ _ _ _ _ _ hf hW (lv_sub hl [1, 2, 3, 4, 5, 0] rfl)
set_option maxHeartbeats 4000000 in
set_option maxRecDepth 100000 in
theorem w_X9_findBest_29 {p : Program} {l : Launch} {e : Env} {s : State} {m : MethodId} {args : Array Value} {below : List Frame} {meth : Method} {c : Code} {X : XT} {B : Nat} {cs : CS} {o : Nat → Int64} {r : Int32} {S9 : MS} (E : Ev X B p s m args meth c RX9 cX9_findBest 8 (some .int)) : ∀ (n : Nat) (ms : MS) (v1 : Int32) (v2 : Int32) (v3 : Int32) (v4 : Int32) (H : Heap) (locs : List Loc) (ls : Array Slot), f_X9_findBest_29 n ms v1 v2 v3 v4 = some (r, S9) → Ws X B s.heap H locs (cs, ms, o) → lv_has ls 8 [(0, .ref (X.1 7)), (1, .int v1), (2, .int v2), (3, .int v3), (4, .int v4)] → W p l e rm_X9_findBest s m args below meth c H locs 0 0 (MQ below (QI X B r (cs, S9, o)) args s 0 0 (Ab B)) (F0 m 29 ls []) := by
  obtain ⟨hx, hb, hml, hown, hts, -⟩ := id E
  intro n
  induction n with
  | zero => intro ms v1 v2 v3 v4 H locs ls hf; exact absurd hf nofun
  | succ n ih =>
    intro ms v1 v2 v3 v4 H locs ls hf hW hl
    rw [f_X9_findBest_29] at hf
    refine lv_iload hx hb dX9_findBest_29 (lv_at hl 4 rfl) ?_
    refine lv_aload_n hx hb dX9_findBest_31 rfl (lv_at hl 0 rfl) ?_
    refine rg_X9_82 E hW dX9_findBest_32 ?_
    refine lv_iload_n hx hb dX9_findBest_35 rfl (lv_at hl 1 rfl) ?_
    obtain ⟨v6, hf⟩ := ldI_e hf
    refine ra_49 E hW v6 dX9_findBest_36 ?_
    refine lv_icmp_ge (tgt := 54) hx hb dX9_findBest_37 (by decide) (fun h8 => ?_) (fun h8 => ?_)
    · replace hf := ite_t h8 hf
      refine lv_aload_n hx hb dX9_findBest_54 rfl (lv_at hl 0 rfl) ?_
      refine rg_X9_82 E hW dX9_findBest_55 ?_
      refine lv_iload_n hx hb dX9_findBest_58 rfl (lv_at hl 1 rfl) ?_
      obtain ⟨v9, hf⟩ := ldI_e hf
      refine ra_49 E hW v9 dX9_findBest_59 ?_
      refine lv_iconst (v := (1 : Int32)) hx hb dX9_findBest_60 (by decide) ?_
      refine lv_isub hx hb dX9_findBest_61 ?_
      refine lv_istore (lv' := [_, _, _, _, _]) hx hb dX9_findBest_62 hl (by decide) rfl (fun ls hl => ?_)
      exact w_X9_findBest_64 E 1000 _ _ _ _ _ _ _ _ hf hW (lv_sub hl [1, 2, 3, 4, 0] rfl)
    · replace hf := ite_f h8 hf
      refine lv_aload_n hx hb dX9_findBest_40 rfl (lv_at hl 0 rfl) ?_
      refine rg_X9_148 E hW dX9_findBest_41 ?_
      refine lv_iload hx hb dX9_findBest_44 (lv_at hl 4 rfl) ?_
      refine lv_iconst (v := (0 : Int32)) hx hb dX9_findBest_46 (by decide) ?_
      obtain ⟨v64, hf⟩ := ixr_e hf
      refine rs_71 E hW v64 dX9_findBest_47 (fun H locs hW => ?_)
      refine lv_iinc (v := _ + (1 : Int32)) (lv' := [_, _, _, _, _]) hx hb dX9_findBest_48 hl (k := 4) rfl rfl (by decide) rfl (fun ls hl => ?_)
      refine lv_goto (tgt := 29) hx hb dX9_findBest_51 (by decide) ?_
      exact ih _ _ _ _ _ _ _ _ hf hW (lv_sub hl [1, 2, 3, 4, 0] rfl)
set_option maxHeartbeats 4000000 in
set_option maxRecDepth 100000 in
theorem c_X9_findBest (l : Launch) {X : XT} {B : Nat} {cs : CS} {ms : MS} {o : Nat → Int64} {v1 : Int32} {v2 : Int32} {r : Int32} {S9 : MS} (hf : f_X9_findBest ms v1 v2 = some (r, S9)) : Met l yX9_findBest (.code yX9_findBest cX9_findBest 8 (some .int) :: BIG) rm_X9_findBest (Pre X B (cs, ms, o) [.ref (X.1 7), .int v1, .int v2]) (QI X B r (cs, S9, o)) 0 0 (Ab B) := by
  refine entry (by decide +kernel) rfl (Nat.le_of_ble_eq_true rfl) (fun p e s m below meth c ls E hW hl => ?_)
  obtain ⟨hx, hb, hml, hown, hts, -⟩ := id E
  replace hl : lv_has ls 8 [(0, .ref (X.1 7)), (1, .int v1), (2, .int v2)] := hl
  unfold f_X9_findBest at hf
  refine lv_aload_n hx hb dX9_findBest_0 rfl (lv_at hl 0 rfl) ?_
  refine lv_iconst (v := (0 : Int32)) hx hb dX9_findBest_1 (by decide) ?_
  refine rp_X9_308 E hW dX9_findBest_2 (fun H locs hW => ?_)
  refine lv_aload_n hx hb dX9_findBest_5 rfl (lv_at hl 0 rfl) ?_
  refine rg_X9_97 E hW dX9_findBest_6 ?_
  refine lv_iload_n hx hb dX9_findBest_9 rfl (lv_at hl 1 rfl) ?_
  obtain ⟨v1, hf⟩ := ldI_e hf
  refine ra_54 E hW v1 dX9_findBest_10 ?_
  refine lv_if_eq (tgt := 16) hx hb dX9_findBest_11 (by decide) (fun h3 => ?_) (fun h3 => ?_)
  · replace hf := ite_t h3 hf
    refine lv_bipush (v := (24 : Int32)) hx hb dX9_findBest_16 (by decide) ?_
    refine lv_aload_n hx hb dX9_findBest_18 rfl (lv_at hl 0 rfl) ?_
    refine rg_X9_73 E hW dX9_findBest_19 ?_
    refine lv_iload_n hx hb dX9_findBest_22 rfl (lv_at hl 1 rfl) ?_
    obtain ⟨v4, hf⟩ := ldI_e hf
    refine ra_46 E hW v4 dX9_findBest_23 ?_
    refine lv_imul hx hb dX9_findBest_24 ?_
    refine lv_istore_n (lv' := [_, _, _, _]) hx hb dX9_findBest_25 rfl hl (by decide) rfl (fun ls hl => ?_)
    refine lv_iconst (v := (0 : Int32)) hx hb dX9_findBest_26 (by decide) ?_
    refine lv_istore (lv' := [_, _, _, _, _]) hx hb dX9_findBest_27 hl (by decide) rfl (fun ls hl => ?_)
    exact w_X9_findBest_29 E 1000 _ _ _ _ _ _ _ _ hf hW (lv_sub hl [2, 3, 4, 1, 0] rfl)
  · replace hf := ite_f h3 hf
    refine lv_iconst (v := (0 : Int32)) hx hb dX9_findBest_14 (by decide) ?_
    exact retI E hW (e2M hf) dX9_findBest_15
def f_X9_best (ms : MS) (v1 : Int32) (v2 : Int32) : Option (Int32 × MS) := b2 (f_X9_isCar (miU ms 0 (0 : Int32)) v1) fun r2 ms1 => if r2 = 0 then (some ((0 : Int32), ms1)) else (if v2 < 0 then (b2 (f_X9_may ms1 (0 : Int32) (2 : Int32)) fun r6 ms5 => if r6 = 0 then (some ((0 : Int32), ms5)) else (b2 (f_X9_findBest ms5 v1 v2) fun r9 ms8 => some (r9, ms8))) else (if (1000 : Int32) < v2 then (b2 (f_X9_may ms1 (0 : Int32) (2 : Int32)) fun r12 ms11 => if r12 = 0 then (some ((0 : Int32), ms11)) else (b2 (f_X9_findBest ms11 v1 v2) fun r15 ms14 => some (r15, ms14))) else (b2 (f_X9_may ms1 (1 : Int32) (2 : Int32)) fun r17 ms16 => if r17 = 0 then (some ((0 : Int32), ms16)) else (b2 (f_X9_findBest ms16 v1 v2) fun r20 ms19 => some (r20, ms19)))))
def rm_X9_best : Room := { frames := 2, cells := 0, slots := 0, locals := 49 }
set_option maxHeartbeats 4000000 in
set_option maxRecDepth 100000 in
theorem c_X9_best (l : Launch) {X : XT} {B : Nat} {cs : CS} {ms : MS} {o : Nat → Int64} {v1 : Int32} {v2 : Int32} {r : Int32} {S9 : MS} (hf : f_X9_best ms v1 v2 = some (r, S9)) : Met l yX9_best (.code yX9_best cX9_best 3 (some .int) :: BIG) rm_X9_best (Pre X B (cs, ms, o) [.ref (X.1 7), .int v1, .int v2]) (QI X B r (cs, S9, o)) 0 0 (Ab B) := by
  refine entry (by decide +kernel) rfl (Nat.le_of_ble_eq_true rfl) (fun p e s m below meth c ls E hW hl => ?_)
  obtain ⟨hx, hb, hml, hown, hts, -⟩ := id E
  replace hl : lv_has ls 3 [(0, .ref (X.1 7)), (1, .int v1), (2, .int v2)] := hl
  unfold f_X9_best at hf
  refine lv_aload_n hx hb dX9_best_0 rfl (lv_at hl 0 rfl) ?_
  refine lv_iconst (v := (0 : Int32)) hx hb dX9_best_1 (by decide) ?_
  refine rp_X9_1 E hW dX9_best_2 (fun H locs hW => ?_)
  refine lv_aload_n hx hb dX9_best_5 rfl (lv_at hl 0 rfl) ?_
  refine lv_iload_n hx hb dX9_best_6 rfl (lv_at hl 1 rfl) ?_
  obtain ⟨r2, ms1, hc, hf⟩ := b2_e hf
  refine callVI (As := [.int _]) (rest := []) E hW (c_X9_isCar l hc) lk_X9_268 rcv_X9 (Nat.le_of_ble_eq_true rfl) (Nat.le_of_ble_eq_true rfl) (Nat.le_of_ble_eq_true rfl) (Nat.le_of_ble_eq_true rfl) hl.1 (Nat.le_of_ble_eq_true rfl) dX9_best_7 (fun H locs hW => ?_)
  refine lv_if_eq (tgt := 46) hx hb dX9_best_10 (by decide) (fun h3 => ?_) (fun h3 => ?_)
  · replace hf := ite_t h3 hf
    refine lv_iconst (v := (0 : Int32)) hx hb dX9_best_46 (by decide) ?_
    exact retI E hW (e2M hf) dX9_best_47
  · replace hf := ite_f h3 hf
    refine lv_aload_n hx hb dX9_best_13 rfl (lv_at hl 0 rfl) ?_
    refine lv_iload_n hx hb dX9_best_14 rfl (lv_at hl 2 rfl) ?_
    refine lv_if_lt (tgt := 29) hx hb dX9_best_15 (by decide) (fun h4 => ?_) (fun h4 => ?_)
    · replace hf := ite_t h4 hf
      refine lv_iconst (v := (0 : Int32)) hx hb dX9_best_29 (by decide) ?_
      refine lv_iconst (v := (2 : Int32)) hx hb dX9_best_30 (by decide) ?_
      obtain ⟨r6, ms5, hc, hf⟩ := b2_e hf
      refine callVI (As := [.int _, .int _]) (rest := []) E hW (c_X9_may l hc) lk_X9_151 rcv_X9 (Nat.le_of_ble_eq_true rfl) (Nat.le_of_ble_eq_true rfl) (Nat.le_of_ble_eq_true rfl) (Nat.le_of_ble_eq_true rfl) hl.1 (Nat.le_of_ble_eq_true rfl) dX9_best_31 (fun H locs hW => ?_)
      refine lv_if_eq (tgt := 46) hx hb dX9_best_34 (by decide) (fun h7 => ?_) (fun h7 => ?_)
      · replace hf := ite_t h7 hf
        refine lv_iconst (v := (0 : Int32)) hx hb dX9_best_46 (by decide) ?_
        exact retI E hW (e2M hf) dX9_best_47
      · replace hf := ite_f h7 hf
        refine lv_aload_n hx hb dX9_best_37 rfl (lv_at hl 0 rfl) ?_
        refine lv_iload_n hx hb dX9_best_38 rfl (lv_at hl 1 rfl) ?_
        refine lv_iload_n hx hb dX9_best_39 rfl (lv_at hl 2 rfl) ?_
        obtain ⟨r9, ms8, hc, hf⟩ := b2_e hf
        refine callVI (As := [.int _, .int _]) (rest := []) E hW (c_X9_findBest l hc) lk_X9_311 rcv_X9 (Nat.le_of_ble_eq_true rfl) (Nat.le_of_ble_eq_true rfl) (Nat.le_of_ble_eq_true rfl) (Nat.le_of_ble_eq_true rfl) hl.1 (Nat.le_of_ble_eq_true rfl) dX9_best_40 (fun H locs hW => ?_)
        refine lv_goto (tgt := 47) hx hb dX9_best_43 (by decide) ?_
        exact retI E hW (e2M hf) dX9_best_47
    · replace hf := ite_f h4 hf
      refine lv_iload_n hx hb dX9_best_18 rfl (lv_at hl 2 rfl) ?_
      refine lv_sipush (v := (1000 : Int32)) hx hb dX9_best_19 (by decide) ?_
      refine lv_icmp_gt (tgt := 29) hx hb dX9_best_22 (by decide) (fun h10 => ?_) (fun h10 => ?_)
      · replace hf := ite_t h10 hf
        refine lv_iconst (v := (0 : Int32)) hx hb dX9_best_29 (by decide) ?_
        refine lv_iconst (v := (2 : Int32)) hx hb dX9_best_30 (by decide) ?_
        obtain ⟨r12, ms11, hc, hf⟩ := b2_e hf
        refine callVI (As := [.int _, .int _]) (rest := []) E hW (c_X9_may l hc) lk_X9_151 rcv_X9 (Nat.le_of_ble_eq_true rfl) (Nat.le_of_ble_eq_true rfl) (Nat.le_of_ble_eq_true rfl) (Nat.le_of_ble_eq_true rfl) hl.1 (Nat.le_of_ble_eq_true rfl) dX9_best_31 (fun H locs hW => ?_)
        refine lv_if_eq (tgt := 46) hx hb dX9_best_34 (by decide) (fun h13 => ?_) (fun h13 => ?_)
        · replace hf := ite_t h13 hf
          refine lv_iconst (v := (0 : Int32)) hx hb dX9_best_46 (by decide) ?_
          exact retI E hW (e2M hf) dX9_best_47
        · replace hf := ite_f h13 hf
          refine lv_aload_n hx hb dX9_best_37 rfl (lv_at hl 0 rfl) ?_
          refine lv_iload_n hx hb dX9_best_38 rfl (lv_at hl 1 rfl) ?_
          refine lv_iload_n hx hb dX9_best_39 rfl (lv_at hl 2 rfl) ?_
          obtain ⟨r15, ms14, hc, hf⟩ := b2_e hf
          refine callVI (As := [.int _, .int _]) (rest := []) E hW (c_X9_findBest l hc) lk_X9_311 rcv_X9 (Nat.le_of_ble_eq_true rfl) (Nat.le_of_ble_eq_true rfl) (Nat.le_of_ble_eq_true rfl) (Nat.le_of_ble_eq_true rfl) hl.1 (Nat.le_of_ble_eq_true rfl) dX9_best_40 (fun H locs hW => ?_)
          refine lv_goto (tgt := 47) hx hb dX9_best_43 (by decide) ?_
          exact retI E hW (e2M hf) dX9_best_47
      · replace hf := ite_f h10 hf
        refine lv_iconst (v := (1 : Int32)) hx hb dX9_best_25 (by decide) ?_
        refine lv_goto (tgt := 30) hx hb dX9_best_26 (by decide) ?_
        refine lv_iconst (v := (2 : Int32)) hx hb dX9_best_30 (by decide) ?_
        obtain ⟨r17, ms16, hc, hf⟩ := b2_e hf
        refine callVI (As := [.int _, .int _]) (rest := []) E hW (c_X9_may l hc) lk_X9_151 rcv_X9 (Nat.le_of_ble_eq_true rfl) (Nat.le_of_ble_eq_true rfl) (Nat.le_of_ble_eq_true rfl) (Nat.le_of_ble_eq_true rfl) hl.1 (Nat.le_of_ble_eq_true rfl) dX9_best_31 (fun H locs hW => ?_)
        refine lv_if_eq (tgt := 46) hx hb dX9_best_34 (by decide) (fun h18 => ?_) (fun h18 => ?_)
        · replace hf := ite_t h18 hf
          refine lv_iconst (v := (0 : Int32)) hx hb dX9_best_46 (by decide) ?_
          exact retI E hW (e2M hf) dX9_best_47
        · replace hf := ite_f h18 hf
          refine lv_aload_n hx hb dX9_best_37 rfl (lv_at hl 0 rfl) ?_
          refine lv_iload_n hx hb dX9_best_38 rfl (lv_at hl 1 rfl) ?_
          refine lv_iload_n hx hb dX9_best_39 rfl (lv_at hl 2 rfl) ?_
          obtain ⟨r20, ms19, hc, hf⟩ := b2_e hf
          refine callVI (As := [.int _, .int _]) (rest := []) E hW (c_X9_findBest l hc) lk_X9_311 rcv_X9 (Nat.le_of_ble_eq_true rfl) (Nat.le_of_ble_eq_true rfl) (Nat.le_of_ble_eq_true rfl) (Nat.le_of_ble_eq_true rfl) hl.1 (Nat.le_of_ble_eq_true rfl) dX9_best_40 (fun H locs hW => ?_)
          refine lv_goto (tgt := 47) hx hb dX9_best_43 (by decide) ?_
          exact retI E hW (e2M hf) dX9_best_47
def f_X9_worth (ms : MS) (v1 : Int32) (v2 : Int32) : Option (Int32 × MS) := b2 (f_X9_isCar (miU ms 0 (0 : Int32)) v1) fun r2 ms1 => if r2 = 0 then (some ((0 : Int32), ms1)) else (if v2 < 0 then (b2 (f_X9_may ms1 (0 : Int32) (2 : Int32)) fun r6 ms5 => if r6 = 0 then (some ((0 : Int32), ms5)) else (b2 (f_X9_findBest ms5 v1 v2) fun r9 ms8 => some ((mi ms8 15), ms8))) else (if (1000 : Int32) < v2 then (b2 (f_X9_may ms1 (0 : Int32) (2 : Int32)) fun r12 ms11 => if r12 = 0 then (some ((0 : Int32), ms11)) else (b2 (f_X9_findBest ms11 v1 v2) fun r15 ms14 => some ((mi ms14 15), ms14))) else (b2 (f_X9_may ms1 (1 : Int32) (2 : Int32)) fun r17 ms16 => if r17 = 0 then (some ((0 : Int32), ms16)) else (b2 (f_X9_findBest ms16 v1 v2) fun r20 ms19 => some ((mi ms19 15), ms19)))))
def rm_X9_worth : Room := { frames := 2, cells := 0, slots := 0, locals := 49 }
set_option maxHeartbeats 4000000 in
set_option maxRecDepth 100000 in
theorem c_X9_worth (l : Launch) {X : XT} {B : Nat} {cs : CS} {ms : MS} {o : Nat → Int64} {v1 : Int32} {v2 : Int32} {r : Int32} {S9 : MS} (hf : f_X9_worth ms v1 v2 = some (r, S9)) : Met l yX9_worth (.code yX9_worth cX9_worth 3 (some .int) :: BIG) rm_X9_worth (Pre X B (cs, ms, o) [.ref (X.1 7), .int v1, .int v2]) (QI X B r (cs, S9, o)) 0 0 (Ab B) := by
  refine entry (by decide +kernel) rfl (Nat.le_of_ble_eq_true rfl) (fun p e s m below meth c ls E hW hl => ?_)
  obtain ⟨hx, hb, hml, hown, hts, -⟩ := id E
  replace hl : lv_has ls 3 [(0, .ref (X.1 7)), (1, .int v1), (2, .int v2)] := hl
  unfold f_X9_worth at hf
  refine lv_aload_n hx hb dX9_worth_0 rfl (lv_at hl 0 rfl) ?_
  refine lv_iconst (v := (0 : Int32)) hx hb dX9_worth_1 (by decide) ?_
  refine rp_X9_1 E hW dX9_worth_2 (fun H locs hW => ?_)
  refine lv_aload_n hx hb dX9_worth_5 rfl (lv_at hl 0 rfl) ?_
  refine lv_iload_n hx hb dX9_worth_6 rfl (lv_at hl 1 rfl) ?_
  obtain ⟨r2, ms1, hc, hf⟩ := b2_e hf
  refine callVI (As := [.int _]) (rest := []) E hW (c_X9_isCar l hc) lk_X9_268 rcv_X9 (Nat.le_of_ble_eq_true rfl) (Nat.le_of_ble_eq_true rfl) (Nat.le_of_ble_eq_true rfl) (Nat.le_of_ble_eq_true rfl) hl.1 (Nat.le_of_ble_eq_true rfl) dX9_worth_7 (fun H locs hW => ?_)
  refine lv_if_eq (tgt := 37) hx hb dX9_worth_10 (by decide) (fun h3 => ?_) (fun h3 => ?_)
  · replace hf := ite_t h3 hf
    refine lv_iconst (v := (0 : Int32)) hx hb dX9_worth_37 (by decide) ?_
    exact retI E hW (e2M hf) dX9_worth_38
  · replace hf := ite_f h3 hf
    refine lv_aload_n hx hb dX9_worth_13 rfl (lv_at hl 0 rfl) ?_
    refine lv_iload_n hx hb dX9_worth_14 rfl (lv_at hl 2 rfl) ?_
    refine lv_if_lt (tgt := 29) hx hb dX9_worth_15 (by decide) (fun h4 => ?_) (fun h4 => ?_)
    · replace hf := ite_t h4 hf
      refine lv_iconst (v := (0 : Int32)) hx hb dX9_worth_29 (by decide) ?_
      refine lv_iconst (v := (2 : Int32)) hx hb dX9_worth_30 (by decide) ?_
      obtain ⟨r6, ms5, hc, hf⟩ := b2_e hf
      refine callVI (As := [.int _, .int _]) (rest := []) E hW (c_X9_may l hc) lk_X9_151 rcv_X9 (Nat.le_of_ble_eq_true rfl) (Nat.le_of_ble_eq_true rfl) (Nat.le_of_ble_eq_true rfl) (Nat.le_of_ble_eq_true rfl) hl.1 (Nat.le_of_ble_eq_true rfl) dX9_worth_31 (fun H locs hW => ?_)
      refine lv_if_ne (tgt := 39) hx hb dX9_worth_34 (by decide) (fun h7 => ?_) (fun h7 => ?_)
      · replace hf := ite_f h7 hf
        refine lv_aload_n hx hb dX9_worth_39 rfl (lv_at hl 0 rfl) ?_
        refine lv_iload_n hx hb dX9_worth_40 rfl (lv_at hl 1 rfl) ?_
        refine lv_iload_n hx hb dX9_worth_41 rfl (lv_at hl 2 rfl) ?_
        obtain ⟨r9, ms8, hc, hf⟩ := b2_e hf
        refine callVI (As := [.int _, .int _]) (rest := []) E hW (c_X9_findBest l hc) lk_X9_311 rcv_X9 (Nat.le_of_ble_eq_true rfl) (Nat.le_of_ble_eq_true rfl) (Nat.le_of_ble_eq_true rfl) (Nat.le_of_ble_eq_true rfl) hl.1 (Nat.le_of_ble_eq_true rfl) dX9_worth_42 (fun H locs hW => ?_)
        refine lv_pop hx hb dX9_worth_45 rfl ?_
        refine lv_aload_n hx hb dX9_worth_46 rfl (lv_at hl 0 rfl) ?_
        refine rg_X9_308 E hW dX9_worth_47 ?_
        exact retI E hW (e2M hf) dX9_worth_50
      · replace hf := ite_t h7 hf
        refine lv_iconst (v := (0 : Int32)) hx hb dX9_worth_37 (by decide) ?_
        exact retI E hW (e2M hf) dX9_worth_38
    · replace hf := ite_f h4 hf
      refine lv_iload_n hx hb dX9_worth_18 rfl (lv_at hl 2 rfl) ?_
      refine lv_sipush (v := (1000 : Int32)) hx hb dX9_worth_19 (by decide) ?_
      refine lv_icmp_gt (tgt := 29) hx hb dX9_worth_22 (by decide) (fun h10 => ?_) (fun h10 => ?_)
      · replace hf := ite_t h10 hf
        refine lv_iconst (v := (0 : Int32)) hx hb dX9_worth_29 (by decide) ?_
        refine lv_iconst (v := (2 : Int32)) hx hb dX9_worth_30 (by decide) ?_
        obtain ⟨r12, ms11, hc, hf⟩ := b2_e hf
        refine callVI (As := [.int _, .int _]) (rest := []) E hW (c_X9_may l hc) lk_X9_151 rcv_X9 (Nat.le_of_ble_eq_true rfl) (Nat.le_of_ble_eq_true rfl) (Nat.le_of_ble_eq_true rfl) (Nat.le_of_ble_eq_true rfl) hl.1 (Nat.le_of_ble_eq_true rfl) dX9_worth_31 (fun H locs hW => ?_)
        refine lv_if_ne (tgt := 39) hx hb dX9_worth_34 (by decide) (fun h13 => ?_) (fun h13 => ?_)
        · replace hf := ite_f h13 hf
          refine lv_aload_n hx hb dX9_worth_39 rfl (lv_at hl 0 rfl) ?_
          refine lv_iload_n hx hb dX9_worth_40 rfl (lv_at hl 1 rfl) ?_
          refine lv_iload_n hx hb dX9_worth_41 rfl (lv_at hl 2 rfl) ?_
          obtain ⟨r15, ms14, hc, hf⟩ := b2_e hf
          refine callVI (As := [.int _, .int _]) (rest := []) E hW (c_X9_findBest l hc) lk_X9_311 rcv_X9 (Nat.le_of_ble_eq_true rfl) (Nat.le_of_ble_eq_true rfl) (Nat.le_of_ble_eq_true rfl) (Nat.le_of_ble_eq_true rfl) hl.1 (Nat.le_of_ble_eq_true rfl) dX9_worth_42 (fun H locs hW => ?_)
          refine lv_pop hx hb dX9_worth_45 rfl ?_
          refine lv_aload_n hx hb dX9_worth_46 rfl (lv_at hl 0 rfl) ?_
          refine rg_X9_308 E hW dX9_worth_47 ?_
          exact retI E hW (e2M hf) dX9_worth_50
        · replace hf := ite_t h13 hf
          refine lv_iconst (v := (0 : Int32)) hx hb dX9_worth_37 (by decide) ?_
          exact retI E hW (e2M hf) dX9_worth_38
      · replace hf := ite_f h10 hf
        refine lv_iconst (v := (1 : Int32)) hx hb dX9_worth_25 (by decide) ?_
        refine lv_goto (tgt := 30) hx hb dX9_worth_26 (by decide) ?_
        refine lv_iconst (v := (2 : Int32)) hx hb dX9_worth_30 (by decide) ?_
        obtain ⟨r17, ms16, hc, hf⟩ := b2_e hf
        refine callVI (As := [.int _, .int _]) (rest := []) E hW (c_X9_may l hc) lk_X9_151 rcv_X9 (Nat.le_of_ble_eq_true rfl) (Nat.le_of_ble_eq_true rfl) (Nat.le_of_ble_eq_true rfl) (Nat.le_of_ble_eq_true rfl) hl.1 (Nat.le_of_ble_eq_true rfl) dX9_worth_31 (fun H locs hW => ?_)
        refine lv_if_ne (tgt := 39) hx hb dX9_worth_34 (by decide) (fun h18 => ?_) (fun h18 => ?_)
        · replace hf := ite_f h18 hf
          refine lv_aload_n hx hb dX9_worth_39 rfl (lv_at hl 0 rfl) ?_
          refine lv_iload_n hx hb dX9_worth_40 rfl (lv_at hl 1 rfl) ?_
          refine lv_iload_n hx hb dX9_worth_41 rfl (lv_at hl 2 rfl) ?_
          obtain ⟨r20, ms19, hc, hf⟩ := b2_e hf
          refine callVI (As := [.int _, .int _]) (rest := []) E hW (c_X9_findBest l hc) lk_X9_311 rcv_X9 (Nat.le_of_ble_eq_true rfl) (Nat.le_of_ble_eq_true rfl) (Nat.le_of_ble_eq_true rfl) (Nat.le_of_ble_eq_true rfl) hl.1 (Nat.le_of_ble_eq_true rfl) dX9_worth_42 (fun H locs hW => ?_)
          refine lv_pop hx hb dX9_worth_45 rfl ?_
          refine lv_aload_n hx hb dX9_worth_46 rfl (lv_at hl 0 rfl) ?_
          refine rg_X9_308 E hW dX9_worth_47 ?_
          exact retI E hW (e2M hf) dX9_worth_50
        · replace hf := ite_t h18 hf
          refine lv_iconst (v := (0 : Int32)) hx hb dX9_worth_37 (by decide) ?_
          exact retI E hW (e2M hf) dX9_worth_38
def f_X9_grams_29 (ms : MS) (v1 : Int32) (v2 : Int32) (s1 : Int32) : Option (Int32 × MS) := b2 (f_X9_may ms s1 (1 : Int32)) fun r3 ms2 => if r3 = 0 then (some ((0 : Int32), ms2)) else (if v2 = (0 : Int32) then ((ldL (mb ms2 55) 4 v1).bind fun q7 => some (q7.toInt32, ms2)) else (if v2 = (1 : Int32) then ((ldL (mb ms2 55) 4 v1).bind fun q10 => (ldL (mb ms2 58) 4 v1).bind fun q12 => (ldL (mb ms2 56) 4 v1).bind fun q14 => (ldL (mb ms2 57) 4 v1).bind fun q16 => (ldL (mb ms2 59) 4 v1).bind fun q18 => some (((((q10 - q12) - q14) - q16) - q18).toInt32, ms2)) else (if v2 = (2 : Int32) then ((ldL (mb ms2 58) 4 v1).bind fun q21 => some (q21.toInt32, ms2)) else (if v2 = (3 : Int32) then ((ldL (mb ms2 56) 4 v1).bind fun q24 => some (q24.toInt32, ms2)) else (if v2 = (4 : Int32) then ((ldL (mb ms2 57) 4 v1).bind fun q27 => some (q27.toInt32, ms2)) else ((ldL (mb ms2 59) 4 v1).bind fun q29 => some (q29.toInt32, ms2)))))))
def f_X9_grams_28 (ms : MS) (v1 : Int32) (v2 : Int32) : Option (Int32 × MS) := f_X9_grams_29 ms v1 v2 (0 : Int32)
def f_X9_grams (ms : MS) (v1 : Int32) (v2 : Int32) : Option (Int32 × MS) := if v1 < 0 then (f_X9_grams_28 (miU ms 0 (0 : Int32)) v1 v2) else (if (3 : Int32) < v1 then (f_X9_grams_28 (miU ms 0 (0 : Int32)) v1 v2) else (if v2 < 0 then (f_X9_grams_28 (miU ms 0 (0 : Int32)) v1 v2) else (if (5 : Int32) < v2 then (f_X9_grams_28 (miU ms 0 (0 : Int32)) v1 v2) else (f_X9_grams_29 (miU ms 0 (0 : Int32)) v1 v2 (1 : Int32)))))
def rm_X9_grams : Room := { frames := 1, cells := 0, slots := 0, locals := 22 }
set_option maxHeartbeats 4000000 in
set_option maxRecDepth 100000 in
theorem w_X9_grams_29 {p : Program} {l : Launch} {e : Env} {s : State} {m : MethodId} {args : Array Value} {below : List Frame} {meth : Method} {c : Code} {X : XT} {B : Nat} {cs : CS} {o : Nat → Int64} {r : Int32} {S9 : MS} (E : Ev X B p s m args meth c RX9 cX9_grams 3 (some .int)) : ∀ (ms : MS) (v1 : Int32) (v2 : Int32) (s1 : Int32) (H : Heap) (locs : List Loc) (ls : Array Slot), f_X9_grams_29 ms v1 v2 s1 = some (r, S9) → Ws X B s.heap H locs (cs, ms, o) → lv_has ls 3 [(0, .ref (X.1 7)), (1, .int v1), (2, .int v2)] → W p l e rm_X9_grams s m args below meth c H locs 0 0 (MQ below (QI X B r (cs, S9, o)) args s 0 0 (Ab B)) (F0 m 29 ls [.int s1, .ref (X.1 7)]) := by
  obtain ⟨hx, hb, hml, hown, hts, -⟩ := id E
  intro ms v1 v2 s1 H locs ls hf hW hl
  unfold f_X9_grams_29 at hf
  refine lv_iconst (v := (1 : Int32)) hx hb dX9_grams_29 (by decide) ?_
  obtain ⟨r3, ms2, hc, hf⟩ := b2_e hf
  refine callVI (As := [.int _, .int _]) (rest := []) E hW (c_X9_may l hc) lk_X9_151 rcv_X9 (Nat.le_of_ble_eq_true rfl) (Nat.le_of_ble_eq_true rfl) (Nat.le_of_ble_eq_true rfl) (Nat.le_of_ble_eq_true rfl) hl.1 (Nat.le_of_ble_eq_true rfl) dX9_grams_30 (fun H locs hW => ?_)
  refine lv_if_ne (tgt := 38) hx hb dX9_grams_33 (by decide) (fun h4 => ?_) (fun h4 => ?_)
  · replace hf := ite_f h4 hf
    refine lv_iload_n hx hb dX9_grams_38 rfl (lv_at hl 2 rfl) ?_
    by_cases h5 : v2 = (0 : Int32)
    · replace hf := ite_t h5 hf
      refine lv_tableIn (tgt := 72) hx hb dX9_grams_39 (by rw [h5]; decide) (by rw [h5]; decide) (by rw [h5]; rfl) (by decide) ?_
      refine lv_aload_n hx hb dX9_grams_72 rfl (lv_at hl 0 rfl) ?_
      refine rg_X9_100 E hW dX9_grams_73 ?_
      refine lv_iload_n hx hb dX9_grams_76 rfl (lv_at hl 1 rfl) ?_
      obtain ⟨v6, hf⟩ := ldL_e hf
      refine ra_55 E hW v6 dX9_grams_77 ?_
      refine lv_l2i hx hb dX9_grams_78 rfl ?_
      exact retI E hW (e2M hf) dX9_grams_79
    · replace hf := ite_f h5 hf
      by_cases h8 : v2 = (1 : Int32)
      · replace hf := ite_t h8 hf
        refine lv_tableIn (tgt := 80) hx hb dX9_grams_39 (by rw [h8]; decide) (by rw [h8]; decide) (by rw [h8]; rfl) (by decide) ?_
        refine lv_aload_n hx hb dX9_grams_80 rfl (lv_at hl 0 rfl) ?_
        refine rg_X9_100 E hW dX9_grams_81 ?_
        refine lv_iload_n hx hb dX9_grams_84 rfl (lv_at hl 1 rfl) ?_
        obtain ⟨v9, hf⟩ := ldL_e hf
        refine ra_55 E hW v9 dX9_grams_85 ?_
        refine lv_aload_n hx hb dX9_grams_86 rfl (lv_at hl 0 rfl) ?_
        refine rg_X9_109 E hW dX9_grams_87 ?_
        refine lv_iload_n hx hb dX9_grams_90 rfl (lv_at hl 1 rfl) ?_
        obtain ⟨v11, hf⟩ := ldL_e hf
        refine ra_58 E hW v11 dX9_grams_91 ?_
        refine lv_lsub hx hb dX9_grams_92 ?_
        refine lv_aload_n hx hb dX9_grams_93 rfl (lv_at hl 0 rfl) ?_
        refine rg_X9_103 E hW dX9_grams_94 ?_
        refine lv_iload_n hx hb dX9_grams_97 rfl (lv_at hl 1 rfl) ?_
        obtain ⟨v13, hf⟩ := ldL_e hf
        refine ra_56 E hW v13 dX9_grams_98 ?_
        refine lv_lsub hx hb dX9_grams_99 ?_
        refine lv_aload_n hx hb dX9_grams_100 rfl (lv_at hl 0 rfl) ?_
        refine rg_X9_106 E hW dX9_grams_101 ?_
        refine lv_iload_n hx hb dX9_grams_104 rfl (lv_at hl 1 rfl) ?_
        obtain ⟨v15, hf⟩ := ldL_e hf
        refine ra_57 E hW v15 dX9_grams_105 ?_
        refine lv_lsub hx hb dX9_grams_106 ?_
        refine lv_aload_n hx hb dX9_grams_107 rfl (lv_at hl 0 rfl) ?_
        refine rg_X9_112 E hW dX9_grams_108 ?_
        refine lv_iload_n hx hb dX9_grams_111 rfl (lv_at hl 1 rfl) ?_
        obtain ⟨v17, hf⟩ := ldL_e hf
        refine ra_59 E hW v17 dX9_grams_112 ?_
        refine lv_lsub hx hb dX9_grams_113 ?_
        refine lv_l2i hx hb dX9_grams_114 rfl ?_
        exact retI E hW (e2M hf) dX9_grams_115
      · replace hf := ite_f h8 hf
        by_cases h19 : v2 = (2 : Int32)
        · replace hf := ite_t h19 hf
          refine lv_tableIn (tgt := 116) hx hb dX9_grams_39 (by rw [h19]; decide) (by rw [h19]; decide) (by rw [h19]; rfl) (by decide) ?_
          refine lv_aload_n hx hb dX9_grams_116 rfl (lv_at hl 0 rfl) ?_
          refine rg_X9_109 E hW dX9_grams_117 ?_
          refine lv_iload_n hx hb dX9_grams_120 rfl (lv_at hl 1 rfl) ?_
          obtain ⟨v20, hf⟩ := ldL_e hf
          refine ra_58 E hW v20 dX9_grams_121 ?_
          refine lv_l2i hx hb dX9_grams_122 rfl ?_
          exact retI E hW (e2M hf) dX9_grams_123
        · replace hf := ite_f h19 hf
          by_cases h22 : v2 = (3 : Int32)
          · replace hf := ite_t h22 hf
            refine lv_tableIn (tgt := 124) hx hb dX9_grams_39 (by rw [h22]; decide) (by rw [h22]; decide) (by rw [h22]; rfl) (by decide) ?_
            refine lv_aload_n hx hb dX9_grams_124 rfl (lv_at hl 0 rfl) ?_
            refine rg_X9_103 E hW dX9_grams_125 ?_
            refine lv_iload_n hx hb dX9_grams_128 rfl (lv_at hl 1 rfl) ?_
            obtain ⟨v23, hf⟩ := ldL_e hf
            refine ra_56 E hW v23 dX9_grams_129 ?_
            refine lv_l2i hx hb dX9_grams_130 rfl ?_
            exact retI E hW (e2M hf) dX9_grams_131
          · replace hf := ite_f h22 hf
            by_cases h25 : v2 = (4 : Int32)
            · replace hf := ite_t h25 hf
              refine lv_tableIn (tgt := 132) hx hb dX9_grams_39 (by rw [h25]; decide) (by rw [h25]; decide) (by rw [h25]; rfl) (by decide) ?_
              refine lv_aload_n hx hb dX9_grams_132 rfl (lv_at hl 0 rfl) ?_
              refine rg_X9_106 E hW dX9_grams_133 ?_
              refine lv_iload_n hx hb dX9_grams_136 rfl (lv_at hl 1 rfl) ?_
              obtain ⟨v26, hf⟩ := ldL_e hf
              refine ra_57 E hW v26 dX9_grams_137 ?_
              refine lv_l2i hx hb dX9_grams_138 rfl ?_
              exact retI E hW (e2M hf) dX9_grams_139
            · replace hf := ite_f h25 hf
              have eh5 := lv_neT h5 (a := 0) (by decide)
              have eh8 := lv_neT h8 (a := 1) (by decide)
              have eh19 := lv_neT h19 (a := 2) (by decide)
              have eh22 := lv_neT h22 (a := 3) (by decide)
              have eh25 := lv_neT h25 (a := 4) (by decide)
              refine lv_tableOut (tgt := 140) hx hb dX9_grams_39 (by omega) (by decide) ?_
              refine lv_aload_n hx hb dX9_grams_140 rfl (lv_at hl 0 rfl) ?_
              refine rg_X9_112 E hW dX9_grams_141 ?_
              refine lv_iload_n hx hb dX9_grams_144 rfl (lv_at hl 1 rfl) ?_
              obtain ⟨v28, hf⟩ := ldL_e hf
              refine ra_59 E hW v28 dX9_grams_145 ?_
              refine lv_l2i hx hb dX9_grams_146 rfl ?_
              exact retI E hW (e2M hf) dX9_grams_147
  · replace hf := ite_t h4 hf
    refine lv_iconst (v := (0 : Int32)) hx hb dX9_grams_36 (by decide) ?_
    exact retI E hW (e2M hf) dX9_grams_37
set_option maxHeartbeats 4000000 in
set_option maxRecDepth 100000 in
theorem w_X9_grams_28 {p : Program} {l : Launch} {e : Env} {s : State} {m : MethodId} {args : Array Value} {below : List Frame} {meth : Method} {c : Code} {X : XT} {B : Nat} {cs : CS} {o : Nat → Int64} {r : Int32} {S9 : MS} (E : Ev X B p s m args meth c RX9 cX9_grams 3 (some .int)) : ∀ (ms : MS) (v1 : Int32) (v2 : Int32) (H : Heap) (locs : List Loc) (ls : Array Slot), f_X9_grams_28 ms v1 v2 = some (r, S9) → Ws X B s.heap H locs (cs, ms, o) → lv_has ls 3 [(0, .ref (X.1 7)), (1, .int v1), (2, .int v2)] → W p l e rm_X9_grams s m args below meth c H locs 0 0 (MQ below (QI X B r (cs, S9, o)) args s 0 0 (Ab B)) (F0 m 28 ls [.ref (X.1 7)]) := by
  obtain ⟨hx, hb, hml, hown, hts, -⟩ := id E
  intro ms v1 v2 H locs ls hf hW hl
  unfold f_X9_grams_28 at hf
  refine lv_iconst (v := (0 : Int32)) hx hb dX9_grams_28 (by decide) ?_
  exact w_X9_grams_29 E _ _ _ _ _ _ _ hf hW (lv_sub hl [0, 1, 2] rfl)
set_option maxHeartbeats 4000000 in
set_option maxRecDepth 100000 in
theorem c_X9_grams (l : Launch) {X : XT} {B : Nat} {cs : CS} {ms : MS} {o : Nat → Int64} {v1 : Int32} {v2 : Int32} {r : Int32} {S9 : MS} (hf : f_X9_grams ms v1 v2 = some (r, S9)) : Met l yX9_grams (.code yX9_grams cX9_grams 3 (some .int) :: BIG) rm_X9_grams (Pre X B (cs, ms, o) [.ref (X.1 7), .int v1, .int v2]) (QI X B r (cs, S9, o)) 0 0 (Ab B) := by
  refine entry (by decide +kernel) rfl (Nat.le_of_ble_eq_true rfl) (fun p e s m below meth c ls E hW hl => ?_)
  obtain ⟨hx, hb, hml, hown, hts, -⟩ := id E
  replace hl : lv_has ls 3 [(0, .ref (X.1 7)), (1, .int v1), (2, .int v2)] := hl
  unfold f_X9_grams at hf
  refine lv_aload_n hx hb dX9_grams_0 rfl (lv_at hl 0 rfl) ?_
  refine lv_iconst (v := (0 : Int32)) hx hb dX9_grams_1 (by decide) ?_
  refine rp_X9_1 E hW dX9_grams_2 (fun H locs hW => ?_)
  refine lv_aload_n hx hb dX9_grams_5 rfl (lv_at hl 0 rfl) ?_
  refine lv_iload_n hx hb dX9_grams_6 rfl (lv_at hl 1 rfl) ?_
  refine lv_if_lt (tgt := 28) hx hb dX9_grams_7 (by decide) (fun h1 => ?_) (fun h1 => ?_)
  · replace hf := ite_t h1 hf
    exact w_X9_grams_28 E _ _ _ _ _ _ hf hW (lv_sub hl [0, 1, 2] rfl)
  · replace hf := ite_f h1 hf
    refine lv_iload_n hx hb dX9_grams_10 rfl (lv_at hl 1 rfl) ?_
    refine lv_iconst (v := (3 : Int32)) hx hb dX9_grams_11 (by decide) ?_
    refine lv_icmp_gt (tgt := 28) hx hb dX9_grams_12 (by decide) (fun h30 => ?_) (fun h30 => ?_)
    · replace hf := ite_t h30 hf
      exact w_X9_grams_28 E _ _ _ _ _ _ hf hW (lv_sub hl [0, 1, 2] rfl)
    · replace hf := ite_f h30 hf
      refine lv_iload_n hx hb dX9_grams_15 rfl (lv_at hl 2 rfl) ?_
      refine lv_if_lt (tgt := 28) hx hb dX9_grams_16 (by decide) (fun h31 => ?_) (fun h31 => ?_)
      · replace hf := ite_t h31 hf
        exact w_X9_grams_28 E _ _ _ _ _ _ hf hW (lv_sub hl [0, 1, 2] rfl)
      · replace hf := ite_f h31 hf
        refine lv_iload_n hx hb dX9_grams_19 rfl (lv_at hl 2 rfl) ?_
        refine lv_iconst (v := (5 : Int32)) hx hb dX9_grams_20 (by decide) ?_
        refine lv_icmp_gt (tgt := 28) hx hb dX9_grams_21 (by decide) (fun h32 => ?_) (fun h32 => ?_)
        · replace hf := ite_t h32 hf
          exact w_X9_grams_28 E _ _ _ _ _ _ hf hW (lv_sub hl [0, 1, 2] rfl)
        · replace hf := ite_f h32 hf
          refine lv_iconst (v := (1 : Int32)) hx hb dX9_grams_24 (by decide) ?_
          refine lv_goto (tgt := 29) hx hb dX9_grams_25 (by decide) ?_
          exact w_X9_grams_29 E _ _ _ _ _ _ _ hf hW (lv_sub hl [0, 1, 2] rfl)
def f_X9_count (ms : MS) (v1 : Int32) : Option (Int32 × MS) := if v1 = (0 : Int32) then (some ((mi (miU ms 0 (0 : Int32)) 1), (miU ms 0 (0 : Int32)))) else (if v1 = (1 : Int32) then (some ((mi (miU ms 0 (0 : Int32)) 3), (miU ms 0 (0 : Int32)))) else (if v1 = (2 : Int32) then (some ((mi (miU ms 0 (0 : Int32)) 9), (miU ms 0 (0 : Int32)))) else (if v1 = (3 : Int32) then (some ((mi (miU ms 0 (0 : Int32)) 13), (miU ms 0 (0 : Int32)))) else (if v1 = (4 : Int32) then (some ((mi (miU ms 0 (0 : Int32)) 12), (miU ms 0 (0 : Int32)))) else (if v1 = (5 : Int32) then (some ((mi (miU ms 0 (0 : Int32)) 10), (miU ms 0 (0 : Int32)))) else (if v1 = (6 : Int32) then (some ((mi (miU ms 0 (0 : Int32)) 11), (miU ms 0 (0 : Int32)))) else (if v1 = (7 : Int32) then (some ((mi (miU ms 0 (0 : Int32)) 2), (miU ms 0 (0 : Int32)))) else (some ((-1 : Int32), (miU ms 0 (0 : Int32)))))))))))
def rm_X9_count : Room := { frames := 0, cells := 0, slots := 0, locals := 0 }
set_option maxHeartbeats 4000000 in
set_option maxRecDepth 100000 in
theorem c_X9_count (l : Launch) {X : XT} {B : Nat} {cs : CS} {ms : MS} {o : Nat → Int64} {v1 : Int32} {r : Int32} {S9 : MS} (hf : f_X9_count ms v1 = some (r, S9)) : Met l yX9_count (.code yX9_count cX9_count 2 (some .int) :: BIG) rm_X9_count (Pre X B (cs, ms, o) [.ref (X.1 7), .int v1]) (QI X B r (cs, S9, o)) 0 0 (Ab B) := by
  refine entry (by decide +kernel) rfl (Nat.le_of_ble_eq_true rfl) (fun p e s m below meth c ls E hW hl => ?_)
  obtain ⟨hx, hb, hml, hown, hts, -⟩ := id E
  replace hl : lv_has ls 2 [(0, .ref (X.1 7)), (1, .int v1)] := hl
  unfold f_X9_count at hf
  refine lv_aload_n hx hb dX9_count_0 rfl (lv_at hl 0 rfl) ?_
  refine lv_iconst (v := (0 : Int32)) hx hb dX9_count_1 (by decide) ?_
  refine rp_X9_1 E hW dX9_count_2 (fun H locs hW => ?_)
  refine lv_iload_n hx hb dX9_count_5 rfl (lv_at hl 1 rfl) ?_
  by_cases h1 : v1 = (0 : Int32)
  · replace hf := ite_t h1 hf
    refine lv_tableIn (tgt := 52) hx hb dX9_count_6 (by rw [h1]; decide) (by rw [h1]; decide) (by rw [h1]; rfl) (by decide) ?_
    refine lv_aload_n hx hb dX9_count_52 rfl (lv_at hl 0 rfl) ?_
    refine rg_X9_155 E hW dX9_count_53 ?_
    exact retI E hW (e2M hf) dX9_count_56
  · replace hf := ite_f h1 hf
    by_cases h2 : v1 = (1 : Int32)
    · replace hf := ite_t h2 hf
      refine lv_tableIn (tgt := 57) hx hb dX9_count_6 (by rw [h2]; decide) (by rw [h2]; decide) (by rw [h2]; rfl) (by decide) ?_
      refine lv_aload_n hx hb dX9_count_57 rfl (lv_at hl 0 rfl) ?_
      refine rg_X9_174 E hW dX9_count_58 ?_
      exact retI E hW (e2M hf) dX9_count_61
    · replace hf := ite_f h2 hf
      by_cases h3 : v1 = (2 : Int32)
      · replace hf := ite_t h3 hf
        refine lv_tableIn (tgt := 62) hx hb dX9_count_6 (by rw [h3]; decide) (by rw [h3]; decide) (by rw [h3]; rfl) (by decide) ?_
        refine lv_aload_n hx hb dX9_count_62 rfl (lv_at hl 0 rfl) ?_
        refine rg_X9_261 E hW dX9_count_63 ?_
        exact retI E hW (e2M hf) dX9_count_66
      · replace hf := ite_f h3 hf
        by_cases h4 : v1 = (3 : Int32)
        · replace hf := ite_t h4 hf
          refine lv_tableIn (tgt := 67) hx hb dX9_count_6 (by rw [h4]; decide) (by rw [h4]; decide) (by rw [h4]; rfl) (by decide) ?_
          refine lv_aload_n hx hb dX9_count_67 rfl (lv_at hl 0 rfl) ?_
          refine rg_X9_258 E hW dX9_count_68 ?_
          exact retI E hW (e2M hf) dX9_count_71
        · replace hf := ite_f h4 hf
          by_cases h5 : v1 = (4 : Int32)
          · replace hf := ite_t h5 hf
            refine lv_tableIn (tgt := 72) hx hb dX9_count_6 (by rw [h5]; decide) (by rw [h5]; decide) (by rw [h5]; rfl) (by decide) ?_
            refine lv_aload_n hx hb dX9_count_72 rfl (lv_at hl 0 rfl) ?_
            refine rg_X9_277 E hW dX9_count_73 ?_
            exact retI E hW (e2M hf) dX9_count_76
          · replace hf := ite_f h5 hf
            by_cases h6 : v1 = (5 : Int32)
            · replace hf := ite_t h6 hf
              refine lv_tableIn (tgt := 77) hx hb dX9_count_6 (by rw [h6]; decide) (by rw [h6]; decide) (by rw [h6]; rfl) (by decide) ?_
              refine lv_aload_n hx hb dX9_count_77 rfl (lv_at hl 0 rfl) ?_
              refine rg_X9_248 E hW dX9_count_78 ?_
              exact retI E hW (e2M hf) dX9_count_81
            · replace hf := ite_f h6 hf
              by_cases h7 : v1 = (6 : Int32)
              · replace hf := ite_t h7 hf
                refine lv_tableIn (tgt := 82) hx hb dX9_count_6 (by rw [h7]; decide) (by rw [h7]; decide) (by rw [h7]; rfl) (by decide) ?_
                refine lv_aload_n hx hb dX9_count_82 rfl (lv_at hl 0 rfl) ?_
                refine rg_X9_241 E hW dX9_count_83 ?_
                exact retI E hW (e2M hf) dX9_count_86
              · replace hf := ite_f h7 hf
                by_cases h8 : v1 = (7 : Int32)
                · replace hf := ite_t h8 hf
                  refine lv_tableIn (tgt := 87) hx hb dX9_count_6 (by rw [h8]; decide) (by rw [h8]; decide) (by rw [h8]; rfl) (by decide) ?_
                  refine lv_aload_n hx hb dX9_count_87 rfl (lv_at hl 0 rfl) ?_
                  refine rg_X9_162 E hW dX9_count_88 ?_
                  exact retI E hW (e2M hf) dX9_count_91
                · replace hf := ite_f h8 hf
                  have eh1 := lv_neT h1 (a := 0) (by decide)
                  have eh2 := lv_neT h2 (a := 1) (by decide)
                  have eh3 := lv_neT h3 (a := 2) (by decide)
                  have eh4 := lv_neT h4 (a := 3) (by decide)
                  have eh5 := lv_neT h5 (a := 4) (by decide)
                  have eh6 := lv_neT h6 (a := 5) (by decide)
                  have eh7 := lv_neT h7 (a := 6) (by decide)
                  have eh8 := lv_neT h8 (a := 7) (by decide)
                  refine lv_tableOut (tgt := 92) hx hb dX9_count_6 (by omega) (by decide) ?_
                  refine lv_iconst (v := (-1 : Int32)) hx hb dX9_count_92 (by decide) ?_
                  exact retI E hW (e2M hf) dX9_count_93
def f_X9_till (ms : MS) : Option (Int64 × MS) := some ((mj (miU ms 0 (0 : Int32)) 0), (miU ms 0 (0 : Int32)))
def rm_X9_till : Room := { frames := 0, cells := 0, slots := 0, locals := 0 }
set_option maxHeartbeats 4000000 in
set_option maxRecDepth 100000 in
theorem c_X9_till (l : Launch) {X : XT} {B : Nat} {cs : CS} {ms : MS} {o : Nat → Int64} {r : Int64} {S9 : MS} (hf : f_X9_till ms  = some (r, S9)) : Met l yX9_till (.code yX9_till cX9_till 1 (some .long) :: BIG) rm_X9_till (Pre X B (cs, ms, o) [.ref (X.1 7)]) (QL X B r (cs, S9, o)) 0 0 (Ab B) := by
  refine entry (by decide +kernel) rfl (Nat.le_of_ble_eq_true rfl) (fun p e s m below meth c ls E hW hl => ?_)
  obtain ⟨hx, hb, hml, hown, hts, -⟩ := id E
  replace hl : lv_has ls 1 [(0, .ref (X.1 7))] := hl
  unfold f_X9_till at hf
  refine lv_aload_n hx hb dX9_till_0 rfl (lv_at hl 0 rfl) ?_
  refine lv_iconst (v := (0 : Int32)) hx hb dX9_till_1 (by decide) ?_
  refine rp_X9_1 E hW dX9_till_2 (fun H locs hW => ?_)
  refine lv_aload_n hx hb dX9_till_5 rfl (lv_at hl 0 rfl) ?_
  refine rg_X9_301 E hW dX9_till_6 ?_
  exact retL E hW (e2M hf) dX9_till_9

def rm_X3_readAll (F L : Nat) : Room := { frames := F + 3, cells := 0, slots := 0, locals := L + 100 }
def rm_X3_readAny (F L : Nat) : Room := { frames := F + 5, cells := 0, slots := 0, locals := L + 200 }
def rm_X3_readUnit (F L : Nat) : Room := { frames := F + 8, cells := 0, slots := 0, locals := L + 300 }
def f_X3_readAll_7 (u : CS → Int32 → Option CS) : Nat → CS → Int32 → Int32 → Option (CS)
  | 0, _, _, _ => none
  | n + 1, cs, v1, v2 => if (100 : Int32) ≤ v2 then (some cs) else (b2 (f_X3_comes cs (38 : Int32)) fun r4 cs3 => if r4 = 0 then (some cs3) else ((u cs3 v1).bind fun cs6 => (f_X3_add cs6 (4 : Int32) (0 : Int32) (0 : Int32)).bind fun cs7 => f_X3_readAll_7 u n cs7 v1 (v2 + (1 : Int32))))
def f_X3_readAll (u : CS → Int32 → Option CS) (cs : CS) (v1 : Int32) : Option (CS) := (u cs v1).bind fun cs1 => f_X3_readAll_7 u 1000 cs1 v1 (0 : Int32)
set_option maxHeartbeats 4000000 in
set_option maxRecDepth 100000 in
theorem w_X3_readAll_7 {p : Program} {l : Launch} {e : Env} {s : State} {m : MethodId} {args : Array Value} {below : List Frame} {meth : Method} {c : Code} {X : XT} {B : Nat} {F L : Nat} {ms : MS} {o : Nat → Int64} {S9 : CS} (E : Ev X B p s m args meth c RX3 cX3_readAll 3 none) (u : CS → Int32 → Option CS) (hu : ∀ {cs : CS} {ms : MS} {o : Nat → Int64} {v1 : Int32} {S9 : CS}, u cs v1 = some S9 → Met l yX3_readUnit (.code yX3_readUnit cX3_readUnit 2 none :: BIG) { frames := F, cells := 0, slots := 0, locals := L } (Pre X B (cs, ms, o) [.ref (X.1 3), .int v1]) (QV X B (S9, ms, o)) 0 0 (Ab B)) : ∀ (n : Nat) (cs : CS) (v1 : Int32) (v2 : Int32) (H : Heap) (locs : List Loc) (ls : Array Slot), f_X3_readAll_7 u n cs v1 v2 = some S9 → Ws X B s.heap H locs (cs, ms, o) → lv_has ls 3 [(0, .ref (X.1 3)), (1, .int v1), (2, .int v2)] → W p l e (rm_X3_readAll F L) s m args below meth c H locs 0 0 (MQ below (QV X B (S9, ms, o)) args s 0 0 (Ab B)) (F0 m 7 ls []) := by
  obtain ⟨hx, hb, hml, hown, hts, -⟩ := id E
  intro n
  induction n with
  | zero => intro cs v1 v2 H locs ls hf; exact absurd hf nofun
  | succ n ih =>
    intro cs v1 v2 H locs ls hf hW hl
    rw [f_X3_readAll_7] at hf
    refine lv_iload_n hx hb dX3_readAll_7 rfl (lv_at hl 2 rfl) ?_
    refine lv_bipush (v := (100 : Int32)) hx hb dX3_readAll_8 (by decide) ?_
    refine lv_icmp_ge (tgt := 40) hx hb dX3_readAll_10 (by decide) (fun h2 => ?_) (fun h2 => ?_)
    · replace hf := ite_t h2 hf
      exact retV E hW (e1C hf) dX3_readAll_40
    · replace hf := ite_f h2 hf
      refine lv_aload_n hx hb dX3_readAll_13 rfl (lv_at hl 0 rfl) ?_
      refine lv_bipush (v := (38 : Int32)) hx hb dX3_readAll_14 (by decide) ?_
      obtain ⟨r4, cs3, hc, hf⟩ := b2_e hf
      refine callVI (As := [.int _]) (rest := []) E hW (c_X3_comes l hc) lk_X3_57 rcv_X3 (by simp only [rm_X3_readAll, rm_X3_readAny, rm_X3_readUnit, rm_X3_comes, rm_X3_add, rm_X3_must, rm_X3_readTest]; omega) (by simp only [rm_X3_readAll, rm_X3_readAny, rm_X3_readUnit, rm_X3_comes, rm_X3_add, rm_X3_must, rm_X3_readTest]; omega) (Nat.zero_le _) (Nat.zero_le _) hl.1 (Nat.le_of_ble_eq_true rfl) dX3_readAll_16 (fun H locs hW => ?_)
      refine lv_if_eq (tgt := 40) hx hb dX3_readAll_19 (by decide) (fun h5 => ?_) (fun h5 => ?_)
      · replace hf := ite_t h5 hf
        exact retV E hW (e1C hf) dX3_readAll_40
      · replace hf := ite_f h5 hf
        refine lv_aload_n hx hb dX3_readAll_22 rfl (lv_at hl 0 rfl) ?_
        refine lv_iload_n hx hb dX3_readAll_23 rfl (lv_at hl 1 rfl) ?_
        obtain ⟨cs6, hc, hf⟩ := b1_e hf
        refine callVV (As := [.int _]) (rest := []) E hW (hu hc) lk_X3_65 rcv_X3 (by simp only [rm_X3_readAll, rm_X3_readAny, rm_X3_readUnit, rm_X3_comes, rm_X3_add, rm_X3_must, rm_X3_readTest]; omega) (by simp only [rm_X3_readAll, rm_X3_readAny, rm_X3_readUnit, rm_X3_comes, rm_X3_add, rm_X3_must, rm_X3_readTest]; omega) (Nat.zero_le _) (Nat.zero_le _) hl.1 (Nat.le_of_ble_eq_true rfl) dX3_readAll_24 (fun H locs hW => ?_)
        refine lv_aload_n hx hb dX3_readAll_27 rfl (lv_at hl 0 rfl) ?_
        refine lv_iconst (v := (4 : Int32)) hx hb dX3_readAll_28 (by decide) ?_
        refine lv_iconst (v := (0 : Int32)) hx hb dX3_readAll_29 (by decide) ?_
        refine lv_iconst (v := (0 : Int32)) hx hb dX3_readAll_30 (by decide) ?_
        obtain ⟨cs7, hc, hf⟩ := b1_e hf
        refine callVV (As := [.int _, .int _, .int _]) (rest := []) E hW (c_X3_add l hc) lk_X3_61 rcv_X3 (by simp only [rm_X3_readAll, rm_X3_readAny, rm_X3_readUnit, rm_X3_comes, rm_X3_add, rm_X3_must, rm_X3_readTest]; omega) (by simp only [rm_X3_readAll, rm_X3_readAny, rm_X3_readUnit, rm_X3_comes, rm_X3_add, rm_X3_must, rm_X3_readTest]; omega) (Nat.zero_le _) (Nat.zero_le _) hl.1 (Nat.le_of_ble_eq_true rfl) dX3_readAll_31 (fun H locs hW => ?_)
        refine lv_iinc (v := _ + (1 : Int32)) (lv' := [_, _, _]) hx hb dX3_readAll_34 hl (k := 2) rfl rfl (by decide) rfl (fun ls hl => ?_)
        refine lv_goto (tgt := 7) hx hb dX3_readAll_37 (by decide) ?_
        exact ih _ _ _ _ _ _ hf hW (lv_sub hl [1, 2, 0] rfl)
set_option maxHeartbeats 4000000 in
set_option maxRecDepth 100000 in
theorem c_X3_readAll (l : Launch) {X : XT} {B : Nat} {F L : Nat} (u : CS → Int32 → Option CS) (hu : ∀ {cs : CS} {ms : MS} {o : Nat → Int64} {v1 : Int32} {S9 : CS}, u cs v1 = some S9 → Met l yX3_readUnit (.code yX3_readUnit cX3_readUnit 2 none :: BIG) { frames := F, cells := 0, slots := 0, locals := L } (Pre X B (cs, ms, o) [.ref (X.1 3), .int v1]) (QV X B (S9, ms, o)) 0 0 (Ab B)) {cs : CS} {ms : MS} {o : Nat → Int64} {v1 : Int32} {S9 : CS} (hf : f_X3_readAll u cs v1 = some S9) : Met l yX3_readAll (.code yX3_readAll cX3_readAll 3 none :: BIG) (rm_X3_readAll F L) (Pre X B (cs, ms, o) [.ref (X.1 3), .int v1]) (QV X B (S9, ms, o)) 0 0 (Ab B) := by
  refine entry (by decide +kernel) rfl (Nat.le_of_ble_eq_true rfl) (fun p e s m below meth c ls E hW hl => ?_)
  obtain ⟨hx, hb, hml, hown, hts, -⟩ := id E
  replace hl : lv_has ls 3 [(0, .ref (X.1 3)), (1, .int v1)] := hl
  unfold f_X3_readAll at hf
  refine lv_aload_n hx hb dX3_readAll_0 rfl (lv_at hl 0 rfl) ?_
  refine lv_iload_n hx hb dX3_readAll_1 rfl (lv_at hl 1 rfl) ?_
  obtain ⟨cs1, hc, hf⟩ := b1_e hf
  refine callVV (As := [.int _]) (rest := []) E hW (hu hc) lk_X3_65 rcv_X3 (by simp only [rm_X3_readAll, rm_X3_readAny, rm_X3_readUnit, rm_X3_comes, rm_X3_add, rm_X3_must, rm_X3_readTest]; omega) (by simp only [rm_X3_readAll, rm_X3_readAny, rm_X3_readUnit, rm_X3_comes, rm_X3_add, rm_X3_must, rm_X3_readTest]; omega) (Nat.zero_le _) (Nat.zero_le _) hl.1 (Nat.le_of_ble_eq_true rfl) dX3_readAll_2 (fun H locs hW => ?_)
  refine lv_iconst (v := (0 : Int32)) hx hb dX3_readAll_5 (by decide) ?_
  refine lv_istore_n (lv' := [_, _, _]) hx hb dX3_readAll_6 rfl hl (by decide) rfl (fun ls hl => ?_)
  exact w_X3_readAll_7 E u hu 1000 _ _ _ _ _ _ hf hW (lv_sub hl [1, 2, 0] rfl)
def f_X3_readAny_7 (u : CS → Int32 → Option CS) : Nat → CS → Int32 → Int32 → Option (CS)
  | 0, _, _, _ => none
  | n + 1, cs, v1, v2 => if (100 : Int32) ≤ v2 then (some cs) else (b2 (f_X3_comes cs (124 : Int32)) fun r4 cs3 => if r4 = 0 then (some cs3) else ((f_X3_readAll u cs3 v1).bind fun cs6 => (f_X3_add cs6 (5 : Int32) (0 : Int32) (0 : Int32)).bind fun cs7 => f_X3_readAny_7 u n cs7 v1 (v2 + (1 : Int32))))
def f_X3_readAny (u : CS → Int32 → Option CS) (cs : CS) (v1 : Int32) : Option (CS) := (f_X3_readAll u cs v1).bind fun cs1 => f_X3_readAny_7 u 1000 cs1 v1 (0 : Int32)
set_option maxHeartbeats 4000000 in
set_option maxRecDepth 100000 in
theorem w_X3_readAny_7 {p : Program} {l : Launch} {e : Env} {s : State} {m : MethodId} {args : Array Value} {below : List Frame} {meth : Method} {c : Code} {X : XT} {B : Nat} {F L : Nat} {ms : MS} {o : Nat → Int64} {S9 : CS} (E : Ev X B p s m args meth c RX3 cX3_readAny 3 none) (u : CS → Int32 → Option CS) (hu : ∀ {cs : CS} {ms : MS} {o : Nat → Int64} {v1 : Int32} {S9 : CS}, u cs v1 = some S9 → Met l yX3_readUnit (.code yX3_readUnit cX3_readUnit 2 none :: BIG) { frames := F, cells := 0, slots := 0, locals := L } (Pre X B (cs, ms, o) [.ref (X.1 3), .int v1]) (QV X B (S9, ms, o)) 0 0 (Ab B)) : ∀ (n : Nat) (cs : CS) (v1 : Int32) (v2 : Int32) (H : Heap) (locs : List Loc) (ls : Array Slot), f_X3_readAny_7 u n cs v1 v2 = some S9 → Ws X B s.heap H locs (cs, ms, o) → lv_has ls 3 [(0, .ref (X.1 3)), (1, .int v1), (2, .int v2)] → W p l e (rm_X3_readAny F L) s m args below meth c H locs 0 0 (MQ below (QV X B (S9, ms, o)) args s 0 0 (Ab B)) (F0 m 7 ls []) := by
  obtain ⟨hx, hb, hml, hown, hts, -⟩ := id E
  intro n
  induction n with
  | zero => intro cs v1 v2 H locs ls hf; exact absurd hf nofun
  | succ n ih =>
    intro cs v1 v2 H locs ls hf hW hl
    rw [f_X3_readAny_7] at hf
    refine lv_iload_n hx hb dX3_readAny_7 rfl (lv_at hl 2 rfl) ?_
    refine lv_bipush (v := (100 : Int32)) hx hb dX3_readAny_8 (by decide) ?_
    refine lv_icmp_ge (tgt := 40) hx hb dX3_readAny_10 (by decide) (fun h2 => ?_) (fun h2 => ?_)
    · replace hf := ite_t h2 hf
      exact retV E hW (e1C hf) dX3_readAny_40
    · replace hf := ite_f h2 hf
      refine lv_aload_n hx hb dX3_readAny_13 rfl (lv_at hl 0 rfl) ?_
      refine lv_bipush (v := (124 : Int32)) hx hb dX3_readAny_14 (by decide) ?_
      obtain ⟨r4, cs3, hc, hf⟩ := b2_e hf
      refine callVI (As := [.int _]) (rest := []) E hW (c_X3_comes l hc) lk_X3_57 rcv_X3 (by simp only [rm_X3_readAll, rm_X3_readAny, rm_X3_readUnit, rm_X3_comes, rm_X3_add, rm_X3_must, rm_X3_readTest]; omega) (by simp only [rm_X3_readAll, rm_X3_readAny, rm_X3_readUnit, rm_X3_comes, rm_X3_add, rm_X3_must, rm_X3_readTest]; omega) (Nat.zero_le _) (Nat.zero_le _) hl.1 (Nat.le_of_ble_eq_true rfl) dX3_readAny_16 (fun H locs hW => ?_)
      refine lv_if_eq (tgt := 40) hx hb dX3_readAny_19 (by decide) (fun h5 => ?_) (fun h5 => ?_)
      · replace hf := ite_t h5 hf
        exact retV E hW (e1C hf) dX3_readAny_40
      · replace hf := ite_f h5 hf
        refine lv_aload_n hx hb dX3_readAny_22 rfl (lv_at hl 0 rfl) ?_
        refine lv_iload_n hx hb dX3_readAny_23 rfl (lv_at hl 1 rfl) ?_
        obtain ⟨cs6, hc, hf⟩ := b1_e hf
        refine callVV (As := [.int _]) (rest := []) E hW (c_X3_readAll l u hu hc) lk_X3_54 rcv_X3 (by simp only [rm_X3_readAll, rm_X3_readAny, rm_X3_readUnit, rm_X3_comes, rm_X3_add, rm_X3_must, rm_X3_readTest]; omega) (by simp only [rm_X3_readAll, rm_X3_readAny, rm_X3_readUnit, rm_X3_comes, rm_X3_add, rm_X3_must, rm_X3_readTest]; omega) (Nat.zero_le _) (Nat.zero_le _) hl.1 (Nat.le_of_ble_eq_true rfl) dX3_readAny_24 (fun H locs hW => ?_)
        refine lv_aload_n hx hb dX3_readAny_27 rfl (lv_at hl 0 rfl) ?_
        refine lv_iconst (v := (5 : Int32)) hx hb dX3_readAny_28 (by decide) ?_
        refine lv_iconst (v := (0 : Int32)) hx hb dX3_readAny_29 (by decide) ?_
        refine lv_iconst (v := (0 : Int32)) hx hb dX3_readAny_30 (by decide) ?_
        obtain ⟨cs7, hc, hf⟩ := b1_e hf
        refine callVV (As := [.int _, .int _, .int _]) (rest := []) E hW (c_X3_add l hc) lk_X3_61 rcv_X3 (by simp only [rm_X3_readAll, rm_X3_readAny, rm_X3_readUnit, rm_X3_comes, rm_X3_add, rm_X3_must, rm_X3_readTest]; omega) (by simp only [rm_X3_readAll, rm_X3_readAny, rm_X3_readUnit, rm_X3_comes, rm_X3_add, rm_X3_must, rm_X3_readTest]; omega) (Nat.zero_le _) (Nat.zero_le _) hl.1 (Nat.le_of_ble_eq_true rfl) dX3_readAny_31 (fun H locs hW => ?_)
        refine lv_iinc (v := _ + (1 : Int32)) (lv' := [_, _, _]) hx hb dX3_readAny_34 hl (k := 2) rfl rfl (by decide) rfl (fun ls hl => ?_)
        refine lv_goto (tgt := 7) hx hb dX3_readAny_37 (by decide) ?_
        exact ih _ _ _ _ _ _ hf hW (lv_sub hl [1, 2, 0] rfl)
set_option maxHeartbeats 4000000 in
set_option maxRecDepth 100000 in
theorem c_X3_readAny (l : Launch) {X : XT} {B : Nat} {F L : Nat} (u : CS → Int32 → Option CS) (hu : ∀ {cs : CS} {ms : MS} {o : Nat → Int64} {v1 : Int32} {S9 : CS}, u cs v1 = some S9 → Met l yX3_readUnit (.code yX3_readUnit cX3_readUnit 2 none :: BIG) { frames := F, cells := 0, slots := 0, locals := L } (Pre X B (cs, ms, o) [.ref (X.1 3), .int v1]) (QV X B (S9, ms, o)) 0 0 (Ab B)) {cs : CS} {ms : MS} {o : Nat → Int64} {v1 : Int32} {S9 : CS} (hf : f_X3_readAny u cs v1 = some S9) : Met l yX3_readAny (.code yX3_readAny cX3_readAny 3 none :: BIG) (rm_X3_readAny F L) (Pre X B (cs, ms, o) [.ref (X.1 3), .int v1]) (QV X B (S9, ms, o)) 0 0 (Ab B) := by
  refine entry (by decide +kernel) rfl (Nat.le_of_ble_eq_true rfl) (fun p e s m below meth c ls E hW hl => ?_)
  obtain ⟨hx, hb, hml, hown, hts, -⟩ := id E
  replace hl : lv_has ls 3 [(0, .ref (X.1 3)), (1, .int v1)] := hl
  unfold f_X3_readAny at hf
  refine lv_aload_n hx hb dX3_readAny_0 rfl (lv_at hl 0 rfl) ?_
  refine lv_iload_n hx hb dX3_readAny_1 rfl (lv_at hl 1 rfl) ?_
  obtain ⟨cs1, hc, hf⟩ := b1_e hf
  refine callVV (As := [.int _]) (rest := []) E hW (c_X3_readAll l u hu hc) lk_X3_54 rcv_X3 (by simp only [rm_X3_readAll, rm_X3_readAny, rm_X3_readUnit, rm_X3_comes, rm_X3_add, rm_X3_must, rm_X3_readTest]; omega) (by simp only [rm_X3_readAll, rm_X3_readAny, rm_X3_readUnit, rm_X3_comes, rm_X3_add, rm_X3_must, rm_X3_readTest]; omega) (Nat.zero_le _) (Nat.zero_le _) hl.1 (Nat.le_of_ble_eq_true rfl) dX3_readAny_2 (fun H locs hW => ?_)
  refine lv_iconst (v := (0 : Int32)) hx hb dX3_readAny_5 (by decide) ?_
  refine lv_istore_n (lv' := [_, _, _]) hx hb dX3_readAny_6 rfl hl (by decide) rfl (fun ls hl => ?_)
  exact w_X3_readAny_7 E u hu 1000 _ _ _ _ _ _ hf hW (lv_sub hl [1, 2, 0] rfl)
def f_X3_readUnit (u : CS → Int32 → Option CS) (cs : CS) (v1 : Int32) : Option (CS) := if (20 : Int32) ≤ v1 then (if (20 : Int32) ≤ v1 then ((f_X3_readTest cs ).bind fun cs3 => some cs3) else (b2 (f_X3_comes cs (40 : Int32)) fun r5 cs4 => if r5 = 0 then ((f_X3_readTest cs4 ).bind fun cs7 => some cs7) else ((f_X3_readAny u cs4 (v1 + (1 : Int32))).bind fun cs8 => (f_X3_must cs8 (41 : Int32)).bind fun cs9 => some cs9))) else (b2 (f_X3_comes cs (33 : Int32)) fun r11 cs10 => if r11 = 0 then (if (20 : Int32) ≤ v1 then ((f_X3_readTest cs10 ).bind fun cs14 => some cs14) else (b2 (f_X3_comes cs10 (40 : Int32)) fun r16 cs15 => if r16 = 0 then ((f_X3_readTest cs15 ).bind fun cs18 => some cs18) else ((f_X3_readAny u cs15 (v1 + (1 : Int32))).bind fun cs19 => (f_X3_must cs19 (41 : Int32)).bind fun cs20 => some cs20))) else ((u cs10 (v1 + (1 : Int32))).bind fun cs21 => (f_X3_add cs21 (3 : Int32) (0 : Int32) (0 : Int32)).bind fun cs22 => some cs22))
set_option maxHeartbeats 4000000 in
set_option maxRecDepth 100000 in
theorem c_X3_readUnit (l : Launch) {X : XT} {B : Nat} {F L : Nat} (u : CS → Int32 → Option CS) (hu : ∀ {cs : CS} {ms : MS} {o : Nat → Int64} {v1 : Int32} {S9 : CS}, u cs v1 = some S9 → Met l yX3_readUnit (.code yX3_readUnit cX3_readUnit 2 none :: BIG) { frames := F, cells := 0, slots := 0, locals := L } (Pre X B (cs, ms, o) [.ref (X.1 3), .int v1]) (QV X B (S9, ms, o)) 0 0 (Ab B)) {cs : CS} {ms : MS} {o : Nat → Int64} {v1 : Int32} {S9 : CS} (hf : f_X3_readUnit u cs v1 = some S9) : Met l yX3_readUnit (.code yX3_readUnit cX3_readUnit 2 none :: BIG) (rm_X3_readUnit F L) (Pre X B (cs, ms, o) [.ref (X.1 3), .int v1]) (QV X B (S9, ms, o)) 0 0 (Ab B) := by
  refine entry (by decide +kernel) rfl (Nat.le_of_ble_eq_true rfl) (fun p e s m below meth c ls E hW hl => ?_)
  obtain ⟨hx, hb, hml, hown, hts, -⟩ := id E
  replace hl : lv_has ls 2 [(0, .ref (X.1 3)), (1, .int v1)] := hl
  unfold f_X3_readUnit at hf
  refine lv_iload_n hx hb dX3_readUnit_0 rfl (lv_at hl 1 rfl) ?_
  refine lv_bipush (v := (20 : Int32)) hx hb dX3_readUnit_1 (by decide) ?_
  refine lv_icmp_ge (tgt := 32) hx hb dX3_readUnit_3 (by decide) (fun h1 => ?_) (fun h1 => ?_)
  · replace hf := ite_t h1 hf
    refine lv_iload_n hx hb dX3_readUnit_32 rfl (lv_at hl 1 rfl) ?_
    refine lv_bipush (v := (20 : Int32)) hx hb dX3_readUnit_33 (by decide) ?_
    refine lv_icmp_ge (tgt := 63) hx hb dX3_readUnit_35 (by decide) (fun h2 => ?_) (fun h2 => ?_)
    · replace hf := ite_t h2 hf
      refine lv_aload_n hx hb dX3_readUnit_63 rfl (lv_at hl 0 rfl) ?_
      obtain ⟨cs3, hc, hf⟩ := b1_e hf
      refine callVV (As := []) (rest := []) E hW (c_X3_readTest l hc) lk_X3_72 rcv_X3 (by simp only [rm_X3_readAll, rm_X3_readAny, rm_X3_readUnit, rm_X3_comes, rm_X3_add, rm_X3_must, rm_X3_readTest]; omega) (by simp only [rm_X3_readAll, rm_X3_readAny, rm_X3_readUnit, rm_X3_comes, rm_X3_add, rm_X3_must, rm_X3_readTest]; omega) (Nat.zero_le _) (Nat.zero_le _) hl.1 (Nat.le_of_ble_eq_true rfl) dX3_readUnit_64 (fun H locs hW => ?_)
      exact retV E hW (e1C hf) dX3_readUnit_67
    · replace hf := ite_f h2 hf
      refine lv_aload_n hx hb dX3_readUnit_38 rfl (lv_at hl 0 rfl) ?_
      refine lv_bipush (v := (40 : Int32)) hx hb dX3_readUnit_39 (by decide) ?_
      obtain ⟨r5, cs4, hc, hf⟩ := b2_e hf
      refine callVI (As := [.int _]) (rest := []) E hW (c_X3_comes l hc) lk_X3_57 rcv_X3 (by simp only [rm_X3_readAll, rm_X3_readAny, rm_X3_readUnit, rm_X3_comes, rm_X3_add, rm_X3_must, rm_X3_readTest]; omega) (by simp only [rm_X3_readAll, rm_X3_readAny, rm_X3_readUnit, rm_X3_comes, rm_X3_add, rm_X3_must, rm_X3_readTest]; omega) (Nat.zero_le _) (Nat.zero_le _) hl.1 (Nat.le_of_ble_eq_true rfl) dX3_readUnit_41 (fun H locs hW => ?_)
      refine lv_if_eq (tgt := 63) hx hb dX3_readUnit_44 (by decide) (fun h6 => ?_) (fun h6 => ?_)
      · replace hf := ite_t h6 hf
        refine lv_aload_n hx hb dX3_readUnit_63 rfl (lv_at hl 0 rfl) ?_
        obtain ⟨cs7, hc, hf⟩ := b1_e hf
        refine callVV (As := []) (rest := []) E hW (c_X3_readTest l hc) lk_X3_72 rcv_X3 (by simp only [rm_X3_readAll, rm_X3_readAny, rm_X3_readUnit, rm_X3_comes, rm_X3_add, rm_X3_must, rm_X3_readTest]; omega) (by simp only [rm_X3_readAll, rm_X3_readAny, rm_X3_readUnit, rm_X3_comes, rm_X3_add, rm_X3_must, rm_X3_readTest]; omega) (Nat.zero_le _) (Nat.zero_le _) hl.1 (Nat.le_of_ble_eq_true rfl) dX3_readUnit_64 (fun H locs hW => ?_)
        exact retV E hW (e1C hf) dX3_readUnit_67
      · replace hf := ite_f h6 hf
        refine lv_aload_n hx hb dX3_readUnit_47 rfl (lv_at hl 0 rfl) ?_
        refine lv_iload_n hx hb dX3_readUnit_48 rfl (lv_at hl 1 rfl) ?_
        refine lv_iconst (v := (1 : Int32)) hx hb dX3_readUnit_49 (by decide) ?_
        refine lv_iadd hx hb dX3_readUnit_50 ?_
        obtain ⟨cs8, hc, hf⟩ := b1_e hf
        refine callVV (As := [.int _]) (rest := []) E hW (c_X3_readAny l u hu hc) lk_X3_46 rcv_X3 (by simp only [rm_X3_readAll, rm_X3_readAny, rm_X3_readUnit, rm_X3_comes, rm_X3_add, rm_X3_must, rm_X3_readTest]; omega) (by simp only [rm_X3_readAll, rm_X3_readAny, rm_X3_readUnit, rm_X3_comes, rm_X3_add, rm_X3_must, rm_X3_readTest]; omega) (Nat.zero_le _) (Nat.zero_le _) hl.1 (Nat.le_of_ble_eq_true rfl) dX3_readUnit_51 (fun H locs hW => ?_)
        refine lv_aload_n hx hb dX3_readUnit_54 rfl (lv_at hl 0 rfl) ?_
        refine lv_bipush (v := (41 : Int32)) hx hb dX3_readUnit_55 (by decide) ?_
        obtain ⟨cs9, hc, hf⟩ := b1_e hf
        refine callVV (As := [.int _]) (rest := []) E hW (c_X3_must l hc) lk_X3_68 rcv_X3 (by simp only [rm_X3_readAll, rm_X3_readAny, rm_X3_readUnit, rm_X3_comes, rm_X3_add, rm_X3_must, rm_X3_readTest]; omega) (by simp only [rm_X3_readAll, rm_X3_readAny, rm_X3_readUnit, rm_X3_comes, rm_X3_add, rm_X3_must, rm_X3_readTest]; omega) (Nat.zero_le _) (Nat.zero_le _) hl.1 (Nat.le_of_ble_eq_true rfl) dX3_readUnit_57 (fun H locs hW => ?_)
        refine lv_goto (tgt := 67) hx hb dX3_readUnit_60 (by decide) ?_
        exact retV E hW (e1C hf) dX3_readUnit_67
  · replace hf := ite_f h1 hf
    refine lv_aload_n hx hb dX3_readUnit_6 rfl (lv_at hl 0 rfl) ?_
    refine lv_bipush (v := (33 : Int32)) hx hb dX3_readUnit_7 (by decide) ?_
    obtain ⟨r11, cs10, hc, hf⟩ := b2_e hf
    refine callVI (As := [.int _]) (rest := []) E hW (c_X3_comes l hc) lk_X3_57 rcv_X3 (by simp only [rm_X3_readAll, rm_X3_readAny, rm_X3_readUnit, rm_X3_comes, rm_X3_add, rm_X3_must, rm_X3_readTest]; omega) (by simp only [rm_X3_readAll, rm_X3_readAny, rm_X3_readUnit, rm_X3_comes, rm_X3_add, rm_X3_must, rm_X3_readTest]; omega) (Nat.zero_le _) (Nat.zero_le _) hl.1 (Nat.le_of_ble_eq_true rfl) dX3_readUnit_9 (fun H locs hW => ?_)
    refine lv_if_eq (tgt := 32) hx hb dX3_readUnit_12 (by decide) (fun h12 => ?_) (fun h12 => ?_)
    · replace hf := ite_t h12 hf
      refine lv_iload_n hx hb dX3_readUnit_32 rfl (lv_at hl 1 rfl) ?_
      refine lv_bipush (v := (20 : Int32)) hx hb dX3_readUnit_33 (by decide) ?_
      refine lv_icmp_ge (tgt := 63) hx hb dX3_readUnit_35 (by decide) (fun h13 => ?_) (fun h13 => ?_)
      · replace hf := ite_t h13 hf
        refine lv_aload_n hx hb dX3_readUnit_63 rfl (lv_at hl 0 rfl) ?_
        obtain ⟨cs14, hc, hf⟩ := b1_e hf
        refine callVV (As := []) (rest := []) E hW (c_X3_readTest l hc) lk_X3_72 rcv_X3 (by simp only [rm_X3_readAll, rm_X3_readAny, rm_X3_readUnit, rm_X3_comes, rm_X3_add, rm_X3_must, rm_X3_readTest]; omega) (by simp only [rm_X3_readAll, rm_X3_readAny, rm_X3_readUnit, rm_X3_comes, rm_X3_add, rm_X3_must, rm_X3_readTest]; omega) (Nat.zero_le _) (Nat.zero_le _) hl.1 (Nat.le_of_ble_eq_true rfl) dX3_readUnit_64 (fun H locs hW => ?_)
        exact retV E hW (e1C hf) dX3_readUnit_67
      · replace hf := ite_f h13 hf
        refine lv_aload_n hx hb dX3_readUnit_38 rfl (lv_at hl 0 rfl) ?_
        refine lv_bipush (v := (40 : Int32)) hx hb dX3_readUnit_39 (by decide) ?_
        obtain ⟨r16, cs15, hc, hf⟩ := b2_e hf
        refine callVI (As := [.int _]) (rest := []) E hW (c_X3_comes l hc) lk_X3_57 rcv_X3 (by simp only [rm_X3_readAll, rm_X3_readAny, rm_X3_readUnit, rm_X3_comes, rm_X3_add, rm_X3_must, rm_X3_readTest]; omega) (by simp only [rm_X3_readAll, rm_X3_readAny, rm_X3_readUnit, rm_X3_comes, rm_X3_add, rm_X3_must, rm_X3_readTest]; omega) (Nat.zero_le _) (Nat.zero_le _) hl.1 (Nat.le_of_ble_eq_true rfl) dX3_readUnit_41 (fun H locs hW => ?_)
        refine lv_if_eq (tgt := 63) hx hb dX3_readUnit_44 (by decide) (fun h17 => ?_) (fun h17 => ?_)
        · replace hf := ite_t h17 hf
          refine lv_aload_n hx hb dX3_readUnit_63 rfl (lv_at hl 0 rfl) ?_
          obtain ⟨cs18, hc, hf⟩ := b1_e hf
          refine callVV (As := []) (rest := []) E hW (c_X3_readTest l hc) lk_X3_72 rcv_X3 (by simp only [rm_X3_readAll, rm_X3_readAny, rm_X3_readUnit, rm_X3_comes, rm_X3_add, rm_X3_must, rm_X3_readTest]; omega) (by simp only [rm_X3_readAll, rm_X3_readAny, rm_X3_readUnit, rm_X3_comes, rm_X3_add, rm_X3_must, rm_X3_readTest]; omega) (Nat.zero_le _) (Nat.zero_le _) hl.1 (Nat.le_of_ble_eq_true rfl) dX3_readUnit_64 (fun H locs hW => ?_)
          exact retV E hW (e1C hf) dX3_readUnit_67
        · replace hf := ite_f h17 hf
          refine lv_aload_n hx hb dX3_readUnit_47 rfl (lv_at hl 0 rfl) ?_
          refine lv_iload_n hx hb dX3_readUnit_48 rfl (lv_at hl 1 rfl) ?_
          refine lv_iconst (v := (1 : Int32)) hx hb dX3_readUnit_49 (by decide) ?_
          refine lv_iadd hx hb dX3_readUnit_50 ?_
          obtain ⟨cs19, hc, hf⟩ := b1_e hf
          refine callVV (As := [.int _]) (rest := []) E hW (c_X3_readAny l u hu hc) lk_X3_46 rcv_X3 (by simp only [rm_X3_readAll, rm_X3_readAny, rm_X3_readUnit, rm_X3_comes, rm_X3_add, rm_X3_must, rm_X3_readTest]; omega) (by simp only [rm_X3_readAll, rm_X3_readAny, rm_X3_readUnit, rm_X3_comes, rm_X3_add, rm_X3_must, rm_X3_readTest]; omega) (Nat.zero_le _) (Nat.zero_le _) hl.1 (Nat.le_of_ble_eq_true rfl) dX3_readUnit_51 (fun H locs hW => ?_)
          refine lv_aload_n hx hb dX3_readUnit_54 rfl (lv_at hl 0 rfl) ?_
          refine lv_bipush (v := (41 : Int32)) hx hb dX3_readUnit_55 (by decide) ?_
          obtain ⟨cs20, hc, hf⟩ := b1_e hf
          refine callVV (As := [.int _]) (rest := []) E hW (c_X3_must l hc) lk_X3_68 rcv_X3 (by simp only [rm_X3_readAll, rm_X3_readAny, rm_X3_readUnit, rm_X3_comes, rm_X3_add, rm_X3_must, rm_X3_readTest]; omega) (by simp only [rm_X3_readAll, rm_X3_readAny, rm_X3_readUnit, rm_X3_comes, rm_X3_add, rm_X3_must, rm_X3_readTest]; omega) (Nat.zero_le _) (Nat.zero_le _) hl.1 (Nat.le_of_ble_eq_true rfl) dX3_readUnit_57 (fun H locs hW => ?_)
          refine lv_goto (tgt := 67) hx hb dX3_readUnit_60 (by decide) ?_
          exact retV E hW (e1C hf) dX3_readUnit_67
    · replace hf := ite_f h12 hf
      refine lv_aload_n hx hb dX3_readUnit_15 rfl (lv_at hl 0 rfl) ?_
      refine lv_iload_n hx hb dX3_readUnit_16 rfl (lv_at hl 1 rfl) ?_
      refine lv_iconst (v := (1 : Int32)) hx hb dX3_readUnit_17 (by decide) ?_
      refine lv_iadd hx hb dX3_readUnit_18 ?_
      obtain ⟨cs21, hc, hf⟩ := b1_e hf
      refine callVV (As := [.int _]) (rest := []) E hW (hu hc) lk_X3_65 rcv_X3 (by simp only [rm_X3_readAll, rm_X3_readAny, rm_X3_readUnit, rm_X3_comes, rm_X3_add, rm_X3_must, rm_X3_readTest]; omega) (by simp only [rm_X3_readAll, rm_X3_readAny, rm_X3_readUnit, rm_X3_comes, rm_X3_add, rm_X3_must, rm_X3_readTest]; omega) (Nat.zero_le _) (Nat.zero_le _) hl.1 (Nat.le_of_ble_eq_true rfl) dX3_readUnit_19 (fun H locs hW => ?_)
      refine lv_aload_n hx hb dX3_readUnit_22 rfl (lv_at hl 0 rfl) ?_
      refine lv_iconst (v := (3 : Int32)) hx hb dX3_readUnit_23 (by decide) ?_
      refine lv_iconst (v := (0 : Int32)) hx hb dX3_readUnit_24 (by decide) ?_
      refine lv_iconst (v := (0 : Int32)) hx hb dX3_readUnit_25 (by decide) ?_
      obtain ⟨cs22, hc, hf⟩ := b1_e hf
      refine callVV (As := [.int _, .int _, .int _]) (rest := []) E hW (c_X3_add l hc) lk_X3_61 rcv_X3 (by simp only [rm_X3_readAll, rm_X3_readAny, rm_X3_readUnit, rm_X3_comes, rm_X3_add, rm_X3_must, rm_X3_readTest]; omega) (by simp only [rm_X3_readAll, rm_X3_readAny, rm_X3_readUnit, rm_X3_comes, rm_X3_add, rm_X3_must, rm_X3_readTest]; omega) (Nat.zero_le _) (Nat.zero_le _) hl.1 (Nat.le_of_ble_eq_true rfl) dX3_readUnit_26 (fun H locs hW => ?_)
      refine lv_goto (tgt := 67) hx hb dX3_readUnit_29 (by decide) ?_
      exact retV E hW (e1C hf) dX3_readUnit_67
def ru : Nat → CS → Int32 → Option CS
  | 0, _, _ => none
  | d + 1, cs, v => f_X3_readUnit (ru d) cs v
theorem c_ru (l : Launch) {X : XT} {B : Nat} : ∀ (d : Nat) {cs : CS} {ms : MS} {o : Nat → Int64} {v1 : Int32} {S9 : CS}, ru d cs v1 = some S9 → Met l yX3_readUnit (.code yX3_readUnit cX3_readUnit 2 none :: BIG) { frames := 8 * d, cells := 0, slots := 0, locals := 300 * d } (Pre X B (cs, ms, o) [.ref (X.1 3), .int v1]) (QV X B (S9, ms, o)) 0 0 (Ab B) := by
  intro d
  induction d with
  | zero => intro cs ms o v1 S9 hf; exact absurd hf nofun
  | succ d ih => intro cs ms o v1 S9 hf; exact c_X3_readUnit l (ru d) ih hf
def f_X3_rA (cs : CS) (v1 : Int32) : Option CS := f_X3_readAny (ru 25) cs v1
abbrev rm_X3_rA : Room := rm_X3_readAny 200 7500
theorem c_X3_rA (l : Launch) {X : XT} {B : Nat} {cs : CS} {ms : MS} {o : Nat → Int64} {v1 : Int32} {S9 : CS} (hf : f_X3_rA cs v1 = some S9) : Met l yX3_readAny (.code yX3_readAny cX3_readAny 3 none :: BIG) rm_X3_rA (Pre X B (cs, ms, o) [.ref (X.1 3), .int v1]) (QV X B (S9, ms, o)) 0 0 (Ab B) := c_X3_readAny l (ru 25) (c_ru l 25) hf
def f_X3_read_32 : Nat → CS → Int32 → Option (Int32 × CS)
  | 0, _, _ => none
  | n + 1, cs, v3 => if (ci cs 7) ≤ v3 then ((f_X3_rA (ciU (ciU (ciU cs 8 (0 : Int32)) 9 (0 : Int32)) 10 (0 : Int32)) (0 : Int32)).bind fun cs2 => b2 (f_X3_nextByte cs2 ) fun r4 cs3 => if r4 = (-1 : Int32) then (if (ci cs3 10) = 0 then (some ((-1 : Int32), cs3)) else (some ((ci cs3 8), cs3))) else (if (ci (ciU cs3 10 (1 : Int32)) 10) = 0 then (some ((-1 : Int32), (ciU cs3 10 (1 : Int32)))) else (some ((ci (ciU cs3 10 (1 : Int32)) 8), (ciU cs3 10 (1 : Int32)))))) else ((ldI (ca cs 15) 100 v3).bind fun q9 => ixr 100 v3 <| f_X3_read_32 n (caU cs 18 (v3).toNatClampNeg (vp_nar .byte q9)) (v3 + (1 : Int32)))
def f_X3_read (cs : CS) (v2 : Int32) : Option (Int32 × CS) := f_X3_read_32 1000 (ciU cs 7 (if (if (100 : Int32) < (100 : Int32) then (100 : Int32) else (100 : Int32)) < (if v2 < (0 : Int32) then (0 : Int32) else v2) then (if (100 : Int32) < (100 : Int32) then (100 : Int32) else (100 : Int32)) else (if v2 < (0 : Int32) then (0 : Int32) else v2))) (0 : Int32)
def rm_X3_read : Room := { frames := 206, cells := 0, slots := 0, locals := 7722 }
set_option maxHeartbeats 4000000 in
set_option maxRecDepth 100000 in
theorem w_X3_read_32 {p : Program} {l : Launch} {e : Env} {s : State} {m : MethodId} {args : Array Value} {below : List Frame} {meth : Method} {c : Code} {X : XT} {B : Nat} {ms : MS} {o : Nat → Int64} {r : Int32} {S9 : CS} (E : Ev X B p s m args meth c RX3 cX3_read 4 (some .int)) : ∀ (n : Nat) (cs : CS) (v3 : Int32) (H : Heap) (locs : List Loc) (ls : Array Slot), f_X3_read_32 n cs v3 = some (r, S9) → Ws X B s.heap H locs (cs, ms, o) → lv_has ls 4 [(0, .ref (X.1 3)), (1, .ref (X.1 15)), (3, .int v3)] → W p l e rm_X3_read s m args below meth c H locs 0 0 (MQ below (QI X B r (S9, ms, o)) args s 0 0 (Ab B)) (F0 m 32 ls []) := by
  obtain ⟨hx, hb, hml, hown, hts, -⟩ := id E
  intro n
  induction n with
  | zero => intro cs v3 H locs ls hf; exact absurd hf nofun
  | succ n ih =>
    intro cs v3 H locs ls hf hW hl
    rw [f_X3_read_32] at hf
    refine lv_iload_n hx hb dX3_read_32 rfl (lv_at hl 2 rfl) ?_
    refine lv_aload_n hx hb dX3_read_33 rfl (lv_at hl 0 rfl) ?_
    refine rg_X3_19 E hW dX3_read_34 ?_
    refine lv_icmp_ge (tgt := 55) hx hb dX3_read_37 (by decide) (fun h1 => ?_) (fun h1 => ?_)
    · replace hf := ite_t h1 hf
      refine lv_aload_n hx hb dX3_read_55 rfl (lv_at hl 0 rfl) ?_
      refine lv_iconst (v := (0 : Int32)) hx hb dX3_read_56 (by decide) ?_
      refine rp_X3_23 E hW dX3_read_57 (fun H locs hW => ?_)
      refine lv_aload_n hx hb dX3_read_60 rfl (lv_at hl 0 rfl) ?_
      refine lv_iconst (v := (0 : Int32)) hx hb dX3_read_61 (by decide) ?_
      refine rp_X3_26 E hW dX3_read_62 (fun H locs hW => ?_)
      refine lv_aload_n hx hb dX3_read_65 rfl (lv_at hl 0 rfl) ?_
      refine lv_iconst (v := (0 : Int32)) hx hb dX3_read_66 (by decide) ?_
      refine rp_X3_29 E hW (Or.inl rfl) dX3_read_67 (fun H locs hW => ?_)
      refine lv_aload_n hx hb dX3_read_70 rfl (lv_at hl 0 rfl) ?_
      refine lv_iconst (v := (0 : Int32)) hx hb dX3_read_71 (by decide) ?_
      obtain ⟨cs2, hc, hf⟩ := b1_e hf
      refine callVV (As := [.int _]) (rest := []) E hW (c_X3_rA l hc) lk_X3_46 rcv_X3 (Nat.le_of_ble_eq_true rfl) (Nat.le_of_ble_eq_true rfl) (Nat.le_of_ble_eq_true rfl) (Nat.le_of_ble_eq_true rfl) hl.1 (Nat.le_of_ble_eq_true rfl) dX3_read_72 (fun H locs hW => ?_)
      refine lv_aload_n hx hb dX3_read_75 rfl (lv_at hl 0 rfl) ?_
      obtain ⟨r4, cs3, hc, hf⟩ := b2_e hf
      refine callVI (As := []) (rest := []) E hW (c_X3_nextByte l hc) lk_X3_50 rcv_X3 (Nat.le_of_ble_eq_true rfl) (Nat.le_of_ble_eq_true rfl) (Nat.le_of_ble_eq_true rfl) (Nat.le_of_ble_eq_true rfl) hl.1 (Nat.le_of_ble_eq_true rfl) dX3_read_76 (fun H locs hW => ?_)
      refine lv_iconst (v := (-1 : Int32)) hx hb dX3_read_79 (by decide) ?_
      refine lv_icmp_eq (tgt := 88) hx hb dX3_read_80 (by decide) (fun h5 => ?_) (fun h5 => ?_)
      · replace hf := ite_t h5 hf
        refine lv_aload_n hx hb dX3_read_88 rfl (lv_at hl 0 rfl) ?_
        refine rg_X3_29 E hW dX3_read_89 ?_
        refine lv_if_eq (tgt := 102) hx hb dX3_read_92 (by decide) (fun h6 => ?_) (fun h6 => ?_)
        · replace hf := ite_t h6 hf
          refine lv_iconst (v := (-1 : Int32)) hx hb dX3_read_102 (by decide) ?_
          exact retI E hW (e2C hf) dX3_read_103
        · replace hf := ite_f h6 hf
          refine lv_aload_n hx hb dX3_read_95 rfl (lv_at hl 0 rfl) ?_
          refine rg_X3_23 E hW dX3_read_96 ?_
          refine lv_goto (tgt := 103) hx hb dX3_read_99 (by decide) ?_
          exact retI E hW (e2C hf) dX3_read_103
      · replace hf := ite_f h5 hf
        refine lv_aload_n hx hb dX3_read_83 rfl (lv_at hl 0 rfl) ?_
        refine lv_iconst (v := (1 : Int32)) hx hb dX3_read_84 (by decide) ?_
        refine rp_X3_29 E hW (Or.inr rfl) dX3_read_85 (fun H locs hW => ?_)
        refine lv_aload_n hx hb dX3_read_88 rfl (lv_at hl 0 rfl) ?_
        refine rg_X3_29 E hW dX3_read_89 ?_
        refine lv_if_eq (tgt := 102) hx hb dX3_read_92 (by decide) (fun h7 => ?_) (fun h7 => ?_)
        · replace hf := ite_t h7 hf
          refine lv_iconst (v := (-1 : Int32)) hx hb dX3_read_102 (by decide) ?_
          exact retI E hW (e2C hf) dX3_read_103
        · replace hf := ite_f h7 hf
          refine lv_aload_n hx hb dX3_read_95 rfl (lv_at hl 0 rfl) ?_
          refine rg_X3_23 E hW dX3_read_96 ?_
          refine lv_goto (tgt := 103) hx hb dX3_read_99 (by decide) ?_
          exact retI E hW (e2C hf) dX3_read_103
    · replace hf := ite_f h1 hf
      refine lv_aload_n hx hb dX3_read_40 rfl (lv_at hl 0 rfl) ?_
      refine rg_X3_11 E hW dX3_read_41 ?_
      refine lv_iload_n hx hb dX3_read_44 rfl (lv_at hl 2 rfl) ?_
      refine lv_aload_n hx hb dX3_read_45 rfl (lv_at hl 1 rfl) ?_
      refine lv_iload_n hx hb dX3_read_46 rfl (lv_at hl 2 rfl) ?_
      obtain ⟨v8, hf⟩ := ldI_e hf
      refine ra_15 E hW v8 dX3_read_47 ?_
      obtain ⟨v10, hf⟩ := ixr_e hf
      refine rs_18 E hW v10 dX3_read_48 (fun H locs hW => ?_)
      refine lv_iinc (v := _ + (1 : Int32)) (lv' := [_, _, _]) hx hb dX3_read_49 hl (k := 2) rfl rfl (by decide) rfl (fun ls hl => ?_)
      refine lv_goto (tgt := 32) hx hb dX3_read_52 (by decide) ?_
      exact ih _ _ _ _ _ hf hW (lv_sub hl [1, 2, 0] rfl)
set_option maxHeartbeats 4000000 in
set_option maxRecDepth 100000 in
theorem c_X3_read (l : Launch) {X : XT} {B : Nat} {cs : CS} {ms : MS} {o : Nat → Int64} {v2 : Int32} {r : Int32} {S9 : CS} (hf : f_X3_read cs v2 = some (r, S9)) : Met l yX3_read (.code yX3_read cX3_read 4 (some .int) :: BIG) rm_X3_read (Pre X B (cs, ms, o) [.ref (X.1 3), .ref (X.1 15), .int v2]) (QI X B r (S9, ms, o)) 0 0 (Ab B) := by
  refine entry (by decide +kernel) rfl (Nat.le_of_ble_eq_true rfl) (fun p e s m below meth c ls E hW hl => ?_)
  obtain ⟨hx, hb, hml, hown, hts, -⟩ := id E
  replace hl : lv_has ls 4 [(0, .ref (X.1 3)), (1, .ref (X.1 15)), (2, .int v2)] := hl
  unfold f_X3_read at hf
  refine lv_aload_n hx hb dX3_read_0 rfl (lv_at hl 0 rfl) ?_
  refine lv_aload_n hx hb dX3_read_1 rfl (lv_at hl 1 rfl) ?_
  refine lv_ifnonnull (tgt := 9) hx hb dX3_read_2 (by decide) ?_
  refine lv_iload_n hx hb dX3_read_9 rfl (lv_at hl 2 rfl) ?_
  refine lv_iconst (v := (0 : Int32)) hx hb dX3_read_10 (by decide) ?_
  refine va_mmax hx hb (hml.trans hl.1.symm) hown (hts _ km_X3_37) (hts _ km_max_s) (hts _ km_ini) (hts _ km_max_c) (Nat.le_of_ble_eq_true rfl) (Nat.le_of_ble_eq_true rfl) (Nat.le_of_ble_eq_true rfl) (Nat.le_of_ble_eq_true rfl) dX3_read_11 ?_
  refine lv_aload_n hx hb dX3_read_14 rfl (lv_at hl 1 rfl) ?_
  refine rl_15 E hW dX3_read_15 ?_
  refine lv_aload_n hx hb dX3_read_16 rfl (lv_at hl 0 rfl) ?_
  refine rg_X3_11 E hW dX3_read_17 ?_
  refine rl_18 E hW dX3_read_20 ?_
  refine va_mmin hx hb (hml.trans hl.1.symm) hown (hts _ km_X3_43) (hts _ km_min_s) (hts _ km_ini) (hts _ km_min_c) (Nat.le_of_ble_eq_true rfl) (Nat.le_of_ble_eq_true rfl) (Nat.le_of_ble_eq_true rfl) (Nat.le_of_ble_eq_true rfl) dX3_read_21 ?_
  refine va_mmin hx hb (hml.trans hl.1.symm) hown (hts _ km_X3_43) (hts _ km_min_s) (hts _ km_ini) (hts _ km_min_c) (Nat.le_of_ble_eq_true rfl) (Nat.le_of_ble_eq_true rfl) (Nat.le_of_ble_eq_true rfl) (Nat.le_of_ble_eq_true rfl) dX3_read_24 ?_
  refine rp_X3_19 E hW dX3_read_27 (fun H locs hW => ?_)
  refine lv_iconst (v := (0 : Int32)) hx hb dX3_read_30 (by decide) ?_
  refine lv_istore_n (lv' := [_, _, _, _]) hx hb dX3_read_31 rfl hl (by decide) rfl (fun ls hl => ?_)
  exact w_X3_read_32 E 1000 _ _ _ _ _ hf hW (lv_sub hl [1, 2, 0] rfl)
def f_X4_readTape (cs : CS) (v1 : Int32) : Option (Int32 × CS) := b2 (f_X3_read (ciU cs 6 (0 : Int32)) v1) fun r2 cs1 => if r2 = (-1 : Int32) then (if (ci cs1 5) < (30 : Int32) then ((f_X4_keep cs1 ).bind fun cs5 => some (((ci cs5 5) - (1 : Int32)), cs5)) else (some ((-1 : Int32), cs1))) else (some (((-2 : Int32) - r2), cs1))
def rm_X4_readTape : Room := { frames := 207, cells := 0, slots := 0, locals := 7745 }
set_option maxHeartbeats 4000000 in
set_option maxRecDepth 100000 in
theorem c_X4_readTape (l : Launch) {X : XT} {B : Nat} {cs : CS} {ms : MS} {o : Nat → Int64} {v1 : Int32} {r : Int32} {S9 : CS} (hf : f_X4_readTape cs v1 = some (r, S9)) : Met l yX4_readTape (.code yX4_readTape cX4_readTape 3 (some .int) :: BIG) rm_X4_readTape (Pre X B (cs, ms, o) [.ref (X.1 2), .int v1]) (QI X B r (S9, ms, o)) 0 0 (Ab B) := by
  refine entry (by decide +kernel) rfl (Nat.le_of_ble_eq_true rfl) (fun p e s m below meth c ls E hW hl => ?_)
  obtain ⟨hx, hb, hml, hown, hts, -⟩ := id E
  replace hl : lv_has ls 3 [(0, .ref (X.1 2)), (1, .int v1)] := hl
  unfold f_X4_readTape at hf
  refine lv_aload_n hx hb dX4_readTape_0 rfl (lv_at hl 0 rfl) ?_
  refine lv_iconst (v := (0 : Int32)) hx hb dX4_readTape_1 (by decide) ?_
  refine rp_X4_33 E hW dX4_readTape_2 (fun H locs hW => ?_)
  refine lv_aload_n hx hb dX4_readTape_5 rfl (lv_at hl 0 rfl) ?_
  refine rg_X4_18 E hW dX4_readTape_6 ?_
  refine lv_aload_n hx hb dX4_readTape_9 rfl (lv_at hl 0 rfl) ?_
  refine rg_X4_11 E hW dX4_readTape_10 ?_
  refine lv_iload_n hx hb dX4_readTape_13 rfl (lv_at hl 1 rfl) ?_
  obtain ⟨r2, cs1, hc, hf⟩ := b2_e hf
  refine callVI (As := [.ref _, .int _]) (rest := []) E hW (c_X3_read l hc) lk_X4_36 rcv_X3 (Nat.le_of_ble_eq_true rfl) (Nat.le_of_ble_eq_true rfl) (Nat.le_of_ble_eq_true rfl) (Nat.le_of_ble_eq_true rfl) hl.1 (Nat.le_of_ble_eq_true rfl) dX4_readTape_14 (fun H locs hW => ?_)
  refine lv_istore_n (lv' := [_, _, _]) hx hb dX4_readTape_17 rfl hl (by decide) rfl (fun ls hl => ?_)
  refine lv_iload_n hx hb dX4_readTape_18 rfl (lv_at hl 0 rfl) ?_
  refine lv_iconst (v := (-1 : Int32)) hx hb dX4_readTape_19 (by decide) ?_
  refine lv_icmp_eq (tgt := 28) hx hb dX4_readTape_20 (by decide) (fun h3 => ?_) (fun h3 => ?_)
  · replace hf := ite_t h3 hf
    refine lv_aload_n hx hb dX4_readTape_28 rfl (lv_at hl 1 rfl) ?_
    refine rg_X4_29 E hW dX4_readTape_29 ?_
    refine lv_bipush (v := (30 : Int32)) hx hb dX4_readTape_32 (by decide) ?_
    refine lv_icmp_lt (tgt := 39) hx hb dX4_readTape_34 (by decide) (fun h4 => ?_) (fun h4 => ?_)
    · replace hf := ite_t h4 hf
      refine lv_aload_n hx hb dX4_readTape_39 rfl (lv_at hl 1 rfl) ?_
      obtain ⟨cs5, hc, hf⟩ := b1_e hf
      refine callVV (As := []) (rest := []) E hW (c_X4_keep l hc) lk_X4_40 rcv_X4 (Nat.le_of_ble_eq_true rfl) (Nat.le_of_ble_eq_true rfl) (Nat.le_of_ble_eq_true rfl) (Nat.le_of_ble_eq_true rfl) hl.1 (Nat.le_of_ble_eq_true rfl) dX4_readTape_40 (fun H locs hW => ?_)
      refine lv_aload_n hx hb dX4_readTape_43 rfl (lv_at hl 1 rfl) ?_
      refine rg_X4_29 E hW dX4_readTape_44 ?_
      refine lv_iconst (v := (1 : Int32)) hx hb dX4_readTape_47 (by decide) ?_
      refine lv_isub hx hb dX4_readTape_48 ?_
      exact retI E hW (e2C hf) dX4_readTape_49
    · replace hf := ite_f h4 hf
      refine lv_iconst (v := (-1 : Int32)) hx hb dX4_readTape_37 (by decide) ?_
      exact retI E hW (e2C hf) dX4_readTape_38
  · replace hf := ite_f h3 hf
    refine lv_bipush (v := (-2 : Int32)) hx hb dX4_readTape_23 (by decide) ?_
    refine lv_iload_n hx hb dX4_readTape_25 rfl (lv_at hl 0 rfl) ?_
    refine lv_isub hx hb dX4_readTape_26 ?_
    exact retI E hW (e2C hf) dX4_readTape_27
def f_X8_fit (cs : CS) (v1 : Int32) : Option ((Int32 ⊕ String) × CS) := if v1 < 0 then (some (.inr "java/lang/IllegalArgumentException", cs)) else ((f_X4_fed cs ).bind fun r2 => if v1 ≤ r2 then (b2 (f_X4_readTape cs v1) fun r5 cs4 => some (.inl r5, cs4)) else (some (.inr "java/lang/IllegalArgumentException", cs)))
def rm_X8_fit : Room := { frames := 208, cells := 1, slots := 6, locals := 7767 }
set_option maxHeartbeats 4000000 in
set_option maxRecDepth 100000 in
theorem c_X8_fit (l : Launch) (hl0 : l.stackTraces = false) {X : XT} {B : Nat} {cs : CS} {ms : MS} {o : Nat → Int64} {v1 : Int32} {r : Int32 ⊕ String} {S9 : CS} (hf : f_X8_fit cs v1 = some (r, S9)) : vx_Met l yX8_fit (.code yX8_fit cX8_fit 2 (some .int) :: BIG) rm_X8_fit (Pre X B (cs, ms, o) [.ref (X.1 0), .int v1]) (QXI X B r (S9, ms, o)) (XCx X B r (S9, ms, o)) 1 6 (Ab B) := by
  refine xentry (by decide +kernel) rfl (Nat.le_of_ble_eq_true rfl) (fun p e s m below meth c ls E hxt hW hl => ?_)
  obtain ⟨hx, hb, hml, hown, hts, -⟩ := id E
  replace hl : lv_has ls 2 [(0, .ref (X.1 0)), (1, .int v1)] := hl
  unfold f_X8_fit at hf
  refine lv_iload_n hx hb dX8_fit_0 rfl (lv_at hl 1 rfl) ?_
  refine lv_if_lt (tgt := 15) hx hb dX8_fit_1 (by decide) (fun h1 => ?_) (fun h1 => ?_)
  · replace hf := ite_t h1 hf
    exact throwS E hl0 hxt hW th_X8_84_135_88 dX8_fit_15 dX8_fit_18 dX8_fit_19 dX8_fit_21 dX8_fit_24 (etC hf) (Nat.le_of_ble_eq_true rfl) (Nat.le_of_ble_eq_true rfl) (Nat.le_of_ble_eq_true rfl) (Nat.le_of_ble_eq_true rfl) (Nat.le_of_ble_eq_true rfl) (by decide) (by decide) (hl.1.trans hml.symm)
  · replace hf := ite_f h1 hf
    refine lv_iload_n hx hb dX8_fit_4 rfl (lv_at hl 1 rfl) ?_
    refine lv_aload_n hx hb dX8_fit_5 rfl (lv_at hl 0 rfl) ?_
    refine rg_X8_19 E hW dX8_fit_6 ?_
    obtain ⟨r2, hc, hf⟩ := b1_e hf
    refine callVI (As := []) (rest := [_]) E hW (c_X4_fed l hc) lk_X8_131 rcv_X4 (Nat.le_of_ble_eq_true rfl) (Nat.le_of_ble_eq_true rfl) (Nat.le_of_ble_eq_true rfl) (Nat.le_of_ble_eq_true rfl) hl.1 (Nat.le_of_ble_eq_true rfl) dX8_fit_9 (fun H locs hW => ?_)
    refine lv_icmp_le (tgt := 25) hx hb dX8_fit_12 (by decide) (fun h3 => ?_) (fun h3 => ?_)
    · replace hf := ite_t h3 hf
      refine lv_aload_n hx hb dX8_fit_25 rfl (lv_at hl 0 rfl) ?_
      refine rg_X8_19 E hW dX8_fit_26 ?_
      refine lv_iload_n hx hb dX8_fit_29 rfl (lv_at hl 1 rfl) ?_
      obtain ⟨r5, cs4, hc, hf⟩ := b2_e hf
      refine callVI (As := [.int _]) (rest := []) E hW (c_X4_readTape l hc) lk_X8_137 rcv_X4 (Nat.le_of_ble_eq_true rfl) (Nat.le_of_ble_eq_true rfl) (Nat.le_of_ble_eq_true rfl) (Nat.le_of_ble_eq_true rfl) hl.1 (Nat.le_of_ble_eq_true rfl) dX8_fit_30 (fun H locs hW => ?_)
      refine W.widen (k := 1) (n := 6) (by decide) (by decide) ?_
      exact vx_ret (retIX E hW (exC hf) dX8_fit_33)
    · replace hf := ite_f h3 hf
      exact throwS E hl0 hxt hW th_X8_84_135_88 dX8_fit_15 dX8_fit_18 dX8_fit_19 dX8_fit_21 dX8_fit_24 (etC hf) (Nat.le_of_ble_eq_true rfl) (Nat.le_of_ble_eq_true rfl) (Nat.le_of_ble_eq_true rfl) (Nat.le_of_ble_eq_true rfl) (Nat.le_of_ble_eq_true rfl) (by decide) (by decide) (hl.1.trans hml.symm)

def f_X0_held (cs : CS) : Option (Int32) := some (ci cs 11)
def rm_X0_held : Room := { frames := 0, cells := 0, slots := 0, locals := 0 }
set_option maxHeartbeats 4000000 in
set_option maxRecDepth 100000 in
theorem c_X0_held (l : Launch) {X : XT} {B : Nat} {cs : CS} {ms : MS} {o : Nat → Int64} {r : Int32} (hf : f_X0_held cs  = some r) : Met l yX0_held (.code yX0_held cX0_held 1 (some .int) :: BIG) rm_X0_held (Pre X B (cs, ms, o) [.ref (X.1 5)]) (QI X B r (cs, ms, o)) 0 0 (Ab B) := by
  refine entry (by decide +kernel) rfl (Nat.le_of_ble_eq_true rfl) (fun p e s m below meth c ls E hW hl => ?_)
  obtain ⟨hx, hb, hml, hown, hts, -⟩ := id E
  replace hl : lv_has ls 1 [(0, .ref (X.1 5))] := hl
  unfold f_X0_held at hf
  refine lv_aload_n hx hb dX0_held_0 rfl (lv_at hl 0 rfl) ?_
  refine rg_X0_18 E hW dX0_held_1 ?_
  exact retI E hW ⟨Option.some.inj hf, rfl⟩ dX0_held_4
def f_X0_forget (cs : CS) : Option (CS) := some (ciU cs 11 (0 : Int32))
def rm_X0_forget : Room := { frames := 0, cells := 0, slots := 0, locals := 0 }
set_option maxHeartbeats 4000000 in
set_option maxRecDepth 100000 in
theorem c_X0_forget (l : Launch) {X : XT} {B : Nat} {cs : CS} {ms : MS} {o : Nat → Int64} {S9 : CS} (hf : f_X0_forget cs  = some S9) : Met l yX0_forget (.code yX0_forget cX0_forget 1 none :: BIG) rm_X0_forget (Pre X B (cs, ms, o) [.ref (X.1 5)]) (QV X B (S9, ms, o)) 0 0 (Ab B) := by
  refine entry (by decide +kernel) rfl (Nat.le_of_ble_eq_true rfl) (fun p e s m below meth c ls E hW hl => ?_)
  obtain ⟨hx, hb, hml, hown, hts, -⟩ := id E
  replace hl : lv_has ls 1 [(0, .ref (X.1 5))] := hl
  unfold f_X0_forget at hf
  refine lv_aload_n hx hb dX0_forget_0 rfl (lv_at hl 0 rfl) ?_
  refine lv_iconst (v := (0 : Int32)) hx hb dX0_forget_1 (by decide) ?_
  refine rp_X0_18 E hW dX0_forget_2 (fun H locs hW => ?_)
  exact retV E hW (e1C hf) dX0_forget_5
def f_X0_dropEldest_2 : Nat → CS → Int32 → Option (CS)
  | 0, _, _ => none
  | n + 1, cs, v1 => if (10 : Int32) ≤ v1 then (some (ciU cs 11 (9 : Int32))) else ((ldI (ca cs 22) 10 v1).bind fun q3 => ixr 10 (v1 - (1 : Int32)) <| (ldI (ca (caU cs 22 ((v1 - (1 : Int32))).toNatClampNeg q3) 23) 10 v1).bind fun q6 => ixr 10 (v1 - (1 : Int32)) <| f_X0_dropEldest_2 n (caU (caU cs 22 ((v1 - (1 : Int32))).toNatClampNeg q3) 23 ((v1 - (1 : Int32))).toNatClampNeg q6) (v1 + (1 : Int32)))
def f_X0_dropEldest (cs : CS) : Option (CS) := f_X0_dropEldest_2 1000 cs (1 : Int32)
def rm_X0_dropEldest : Room := { frames := 0, cells := 0, slots := 0, locals := 0 }
set_option maxHeartbeats 4000000 in
set_option maxRecDepth 100000 in
theorem w_X0_dropEldest_2 {p : Program} {l : Launch} {e : Env} {s : State} {m : MethodId} {args : Array Value} {below : List Frame} {meth : Method} {c : Code} {X : XT} {B : Nat} {ms : MS} {o : Nat → Int64} {S9 : CS} (E : Ev X B p s m args meth c RX0 cX0_dropEldest 2 none) : ∀ (n : Nat) (cs : CS) (v1 : Int32) (H : Heap) (locs : List Loc) (ls : Array Slot), f_X0_dropEldest_2 n cs v1 = some S9 → Ws X B s.heap H locs (cs, ms, o) → lv_has ls 2 [(0, .ref (X.1 5)), (1, .int v1)] → W p l e rm_X0_dropEldest s m args below meth c H locs 0 0 (MQ below (QV X B (S9, ms, o)) args s 0 0 (Ab B)) (F0 m 2 ls []) := by
  obtain ⟨hx, hb, hml, hown, hts, -⟩ := id E
  intro n
  induction n with
  | zero => intro cs v1 H locs ls hf; exact absurd hf nofun
  | succ n ih =>
    intro cs v1 H locs ls hf hW hl
    rw [f_X0_dropEldest_2] at hf
    refine lv_iload_n hx hb dX0_dropEldest_2 rfl (lv_at hl 1 rfl) ?_
    refine lv_bipush (v := (10 : Int32)) hx hb dX0_dropEldest_3 (by decide) ?_
    refine lv_icmp_ge (tgt := 42) hx hb dX0_dropEldest_5 (by decide) (fun h1 => ?_) (fun h1 => ?_)
    · replace hf := ite_t h1 hf
      refine lv_aload_n hx hb dX0_dropEldest_42 rfl (lv_at hl 0 rfl) ?_
      refine lv_bipush (v := (9 : Int32)) hx hb dX0_dropEldest_43 (by decide) ?_
      refine rp_X0_18 E hW dX0_dropEldest_45 (fun H locs hW => ?_)
      exact retV E hW (e1C hf) dX0_dropEldest_48
    · replace hf := ite_f h1 hf
      refine lv_aload_n hx hb dX0_dropEldest_8 rfl (lv_at hl 0 rfl) ?_
      refine rg_X0_11 E hW dX0_dropEldest_9 ?_
      refine lv_iload_n hx hb dX0_dropEldest_12 rfl (lv_at hl 1 rfl) ?_
      refine lv_iconst (v := (1 : Int32)) hx hb dX0_dropEldest_13 (by decide) ?_
      refine lv_isub hx hb dX0_dropEldest_14 ?_
      refine lv_aload_n hx hb dX0_dropEldest_15 rfl (lv_at hl 0 rfl) ?_
      refine rg_X0_11 E hW dX0_dropEldest_16 ?_
      refine lv_iload_n hx hb dX0_dropEldest_19 rfl (lv_at hl 1 rfl) ?_
      obtain ⟨v2, hf⟩ := ldI_e hf
      refine ra_22 E hW v2 dX0_dropEldest_20 ?_
      obtain ⟨v4, hf⟩ := ixr_e hf
      refine rs_22 E hW v4 dX0_dropEldest_21 (fun H locs hW => ?_)
      refine lv_aload_n hx hb dX0_dropEldest_22 rfl (lv_at hl 0 rfl) ?_
      refine rg_X0_15 E hW dX0_dropEldest_23 ?_
      refine lv_iload_n hx hb dX0_dropEldest_26 rfl (lv_at hl 1 rfl) ?_
      refine lv_iconst (v := (1 : Int32)) hx hb dX0_dropEldest_27 (by decide) ?_
      refine lv_isub hx hb dX0_dropEldest_28 ?_
      refine lv_aload_n hx hb dX0_dropEldest_29 rfl (lv_at hl 0 rfl) ?_
      refine rg_X0_15 E hW dX0_dropEldest_30 ?_
      refine lv_iload_n hx hb dX0_dropEldest_33 rfl (lv_at hl 1 rfl) ?_
      obtain ⟨v5, hf⟩ := ldI_e hf
      refine ra_23 E hW v5 dX0_dropEldest_34 ?_
      obtain ⟨v7, hf⟩ := ixr_e hf
      refine rs_23 E hW v7 dX0_dropEldest_35 (fun H locs hW => ?_)
      refine lv_iinc (v := _ + (1 : Int32)) (lv' := [_, _]) hx hb dX0_dropEldest_36 hl (k := 1) rfl rfl (by decide) rfl (fun ls hl => ?_)
      refine lv_goto (tgt := 2) hx hb dX0_dropEldest_39 (by decide) ?_
      exact ih _ _ _ _ _ hf hW (lv_sub hl [1, 0] rfl)
set_option maxHeartbeats 4000000 in
set_option maxRecDepth 100000 in
theorem c_X0_dropEldest (l : Launch) {X : XT} {B : Nat} {cs : CS} {ms : MS} {o : Nat → Int64} {S9 : CS} (hf : f_X0_dropEldest cs  = some S9) : Met l yX0_dropEldest (.code yX0_dropEldest cX0_dropEldest 2 none :: BIG) rm_X0_dropEldest (Pre X B (cs, ms, o) [.ref (X.1 5)]) (QV X B (S9, ms, o)) 0 0 (Ab B) := by
  refine entry (by decide +kernel) rfl (Nat.le_of_ble_eq_true rfl) (fun p e s m below meth c ls E hW hl => ?_)
  obtain ⟨hx, hb, hml, hown, hts, -⟩ := id E
  replace hl : lv_has ls 2 [(0, .ref (X.1 5))] := hl
  unfold f_X0_dropEldest at hf
  refine lv_iconst (v := (1 : Int32)) hx hb dX0_dropEldest_0 (by decide) ?_
  refine lv_istore_n (lv' := [_, _]) hx hb dX0_dropEldest_1 rfl hl (by decide) rfl (fun ls hl => ?_)
  exact w_X0_dropEldest_2 E 1000 _ _ _ _ _ hf hW (lv_sub hl [1, 0] rfl)
def f_X0_remember (cs : CS) (v1 : Int32) (v2 : Int32) : Option (CS) := if (ci cs 11) < (10 : Int32) then (if (ci cs 11) < 0 then (some cs) else (if (10 : Int32) ≤ (ci cs 11) then (some cs) else (ixr 10 (ci cs 11) <| ixr 10 (ci (caU cs 22 ((ci cs 11)).toNatClampNeg v1) 11) <| some (ciU (caU (caU cs 22 ((ci cs 11)).toNatClampNeg v1) 23 ((ci (caU cs 22 ((ci cs 11)).toNatClampNeg v1) 11)).toNatClampNeg v2) 11 ((ci (caU (caU cs 22 ((ci cs 11)).toNatClampNeg v1) 23 ((ci (caU cs 22 ((ci cs 11)).toNatClampNeg v1) 11)).toNatClampNeg v2) 11) + (1 : Int32)))))) else ((f_X0_dropEldest cs ).bind fun cs6 => if (ci cs6 11) < 0 then (some cs6) else (if (10 : Int32) ≤ (ci cs6 11) then (some cs6) else (ixr 10 (ci cs6 11) <| ixr 10 (ci (caU cs6 22 ((ci cs6 11)).toNatClampNeg v1) 11) <| some (ciU (caU (caU cs6 22 ((ci cs6 11)).toNatClampNeg v1) 23 ((ci (caU cs6 22 ((ci cs6 11)).toNatClampNeg v1) 11)).toNatClampNeg v2) 11 ((ci (caU (caU cs6 22 ((ci cs6 11)).toNatClampNeg v1) 23 ((ci (caU cs6 22 ((ci cs6 11)).toNatClampNeg v1) 11)).toNatClampNeg v2) 11) + (1 : Int32))))))
def rm_X0_remember : Room := { frames := 1, cells := 0, slots := 0, locals := 21 }
set_option maxHeartbeats 4000000 in
set_option maxRecDepth 100000 in
theorem c_X0_remember (l : Launch) {X : XT} {B : Nat} {cs : CS} {ms : MS} {o : Nat → Int64} {v1 : Int32} {v2 : Int32} {S9 : CS} (hf : f_X0_remember cs v1 v2 = some S9) : Met l yX0_remember (.code yX0_remember cX0_remember 3 none :: BIG) rm_X0_remember (Pre X B (cs, ms, o) [.ref (X.1 5), .int v1, .int v2]) (QV X B (S9, ms, o)) 0 0 (Ab B) := by
  refine entry (by decide +kernel) rfl (Nat.le_of_ble_eq_true rfl) (fun p e s m below meth c ls E hW hl => ?_)
  obtain ⟨hx, hb, hml, hown, hts, -⟩ := id E
  replace hl : lv_has ls 3 [(0, .ref (X.1 5)), (1, .int v1), (2, .int v2)] := hl
  unfold f_X0_remember at hf
  refine lv_aload_n hx hb dX0_remember_0 rfl (lv_at hl 0 rfl) ?_
  refine rg_X0_18 E hW dX0_remember_1 ?_
  refine lv_bipush (v := (10 : Int32)) hx hb dX0_remember_4 (by decide) ?_
  refine lv_icmp_lt (tgt := 13) hx hb dX0_remember_6 (by decide) (fun h1 => ?_) (fun h1 => ?_)
  · replace hf := ite_t h1 hf
    refine lv_aload_n hx hb dX0_remember_13 rfl (lv_at hl 0 rfl) ?_
    refine rg_X0_18 E hW dX0_remember_14 ?_
    refine lv_if_lt (tgt := 59) hx hb dX0_remember_17 (by decide) (fun h2 => ?_) (fun h2 => ?_)
    · replace hf := ite_t h2 hf
      exact retV E hW (e1C hf) dX0_remember_59
    · replace hf := ite_f h2 hf
      refine lv_aload_n hx hb dX0_remember_20 rfl (lv_at hl 0 rfl) ?_
      refine rg_X0_18 E hW dX0_remember_21 ?_
      refine lv_bipush (v := (10 : Int32)) hx hb dX0_remember_24 (by decide) ?_
      refine lv_icmp_ge (tgt := 59) hx hb dX0_remember_26 (by decide) (fun h3 => ?_) (fun h3 => ?_)
      · replace hf := ite_t h3 hf
        exact retV E hW (e1C hf) dX0_remember_59
      · replace hf := ite_f h3 hf
        refine lv_aload_n hx hb dX0_remember_29 rfl (lv_at hl 0 rfl) ?_
        refine rg_X0_11 E hW dX0_remember_30 ?_
        refine lv_aload_n hx hb dX0_remember_33 rfl (lv_at hl 0 rfl) ?_
        refine rg_X0_18 E hW dX0_remember_34 ?_
        refine lv_iload_n hx hb dX0_remember_37 rfl (lv_at hl 1 rfl) ?_
        obtain ⟨v4, hf⟩ := ixr_e hf
        refine rs_22 E hW v4 dX0_remember_38 (fun H locs hW => ?_)
        refine lv_aload_n hx hb dX0_remember_39 rfl (lv_at hl 0 rfl) ?_
        refine rg_X0_15 E hW dX0_remember_40 ?_
        refine lv_aload_n hx hb dX0_remember_43 rfl (lv_at hl 0 rfl) ?_
        refine rg_X0_18 E hW dX0_remember_44 ?_
        refine lv_iload_n hx hb dX0_remember_47 rfl (lv_at hl 2 rfl) ?_
        obtain ⟨v5, hf⟩ := ixr_e hf
        refine rs_23 E hW v5 dX0_remember_48 (fun H locs hW => ?_)
        refine lv_aload_n hx hb dX0_remember_49 rfl (lv_at hl 0 rfl) ?_
        refine lv_dup hx hb dX0_remember_50 rfl ?_
        refine rg_X0_18 E hW dX0_remember_51 ?_
        refine lv_iconst (v := (1 : Int32)) hx hb dX0_remember_54 (by decide) ?_
        refine lv_iadd hx hb dX0_remember_55 ?_
        refine rp_X0_18 E hW dX0_remember_56 (fun H locs hW => ?_)
        exact retV E hW (e1C hf) dX0_remember_59
  · replace hf := ite_f h1 hf
    refine lv_aload_n hx hb dX0_remember_9 rfl (lv_at hl 0 rfl) ?_
    obtain ⟨cs6, hc, hf⟩ := b1_e hf
    refine callVV (As := []) (rest := []) E hW (c_X0_dropEldest l hc) lk_X0_22 rcv_X0 (Nat.le_of_ble_eq_true rfl) (Nat.le_of_ble_eq_true rfl) (Nat.le_of_ble_eq_true rfl) (Nat.le_of_ble_eq_true rfl) hl.1 (Nat.le_of_ble_eq_true rfl) dX0_remember_10 (fun H locs hW => ?_)
    refine lv_aload_n hx hb dX0_remember_13 rfl (lv_at hl 0 rfl) ?_
    refine rg_X0_18 E hW dX0_remember_14 ?_
    refine lv_if_lt (tgt := 59) hx hb dX0_remember_17 (by decide) (fun h7 => ?_) (fun h7 => ?_)
    · replace hf := ite_t h7 hf
      exact retV E hW (e1C hf) dX0_remember_59
    · replace hf := ite_f h7 hf
      refine lv_aload_n hx hb dX0_remember_20 rfl (lv_at hl 0 rfl) ?_
      refine rg_X0_18 E hW dX0_remember_21 ?_
      refine lv_bipush (v := (10 : Int32)) hx hb dX0_remember_24 (by decide) ?_
      refine lv_icmp_ge (tgt := 59) hx hb dX0_remember_26 (by decide) (fun h8 => ?_) (fun h8 => ?_)
      · replace hf := ite_t h8 hf
        exact retV E hW (e1C hf) dX0_remember_59
      · replace hf := ite_f h8 hf
        refine lv_aload_n hx hb dX0_remember_29 rfl (lv_at hl 0 rfl) ?_
        refine rg_X0_11 E hW dX0_remember_30 ?_
        refine lv_aload_n hx hb dX0_remember_33 rfl (lv_at hl 0 rfl) ?_
        refine rg_X0_18 E hW dX0_remember_34 ?_
        refine lv_iload_n hx hb dX0_remember_37 rfl (lv_at hl 1 rfl) ?_
        obtain ⟨v9, hf⟩ := ixr_e hf
        refine rs_22 E hW v9 dX0_remember_38 (fun H locs hW => ?_)
        refine lv_aload_n hx hb dX0_remember_39 rfl (lv_at hl 0 rfl) ?_
        refine rg_X0_15 E hW dX0_remember_40 ?_
        refine lv_aload_n hx hb dX0_remember_43 rfl (lv_at hl 0 rfl) ?_
        refine rg_X0_18 E hW dX0_remember_44 ?_
        refine lv_iload_n hx hb dX0_remember_47 rfl (lv_at hl 2 rfl) ?_
        obtain ⟨v10, hf⟩ := ixr_e hf
        refine rs_23 E hW v10 dX0_remember_48 (fun H locs hW => ?_)
        refine lv_aload_n hx hb dX0_remember_49 rfl (lv_at hl 0 rfl) ?_
        refine lv_dup hx hb dX0_remember_50 rfl ?_
        refine rg_X0_18 E hW dX0_remember_51 ?_
        refine lv_iconst (v := (1 : Int32)) hx hb dX0_remember_54 (by decide) ?_
        refine lv_iadd hx hb dX0_remember_55 ?_
        refine rp_X0_18 E hW dX0_remember_56 (fun H locs hW => ?_)
        exact retV E hW (e1C hf) dX0_remember_59
def f_X0_latestAct (cs : CS) : Option (Int32) := if (ci cs 11) ≤ 0 then (some (-1 : Int32)) else (if (10 : Int32) < (ci cs 11) then (some (-1 : Int32)) else ((ldI (ca cs 22) 10 ((ci cs 11) - (1 : Int32))).bind fun q4 => some q4))
def rm_X0_latestAct : Room := { frames := 0, cells := 0, slots := 0, locals := 0 }
set_option maxHeartbeats 4000000 in
set_option maxRecDepth 100000 in
theorem c_X0_latestAct (l : Launch) {X : XT} {B : Nat} {cs : CS} {ms : MS} {o : Nat → Int64} {r : Int32} (hf : f_X0_latestAct cs  = some r) : Met l yX0_latestAct (.code yX0_latestAct cX0_latestAct 1 (some .int) :: BIG) rm_X0_latestAct (Pre X B (cs, ms, o) [.ref (X.1 5)]) (QI X B r (cs, ms, o)) 0 0 (Ab B) := by
  refine entry (by decide +kernel) rfl (Nat.le_of_ble_eq_true rfl) (fun p e s m below meth c ls E hW hl => ?_)
  obtain ⟨hx, hb, hml, hown, hts, -⟩ := id E
  replace hl : lv_has ls 1 [(0, .ref (X.1 5))] := hl
  unfold f_X0_latestAct at hf
  refine lv_aload_n hx hb dX0_latestAct_0 rfl (lv_at hl 0 rfl) ?_
  refine rg_X0_18 E hW dX0_latestAct_1 ?_
  refine lv_if_le (tgt := 30) hx hb dX0_latestAct_4 (by decide) (fun h1 => ?_) (fun h1 => ?_)
  · replace hf := ite_t h1 hf
    refine lv_iconst (v := (-1 : Int32)) hx hb dX0_latestAct_30 (by decide) ?_
    exact retI E hW ⟨Option.some.inj hf, rfl⟩ dX0_latestAct_31
  · replace hf := ite_f h1 hf
    refine lv_aload_n hx hb dX0_latestAct_7 rfl (lv_at hl 0 rfl) ?_
    refine rg_X0_18 E hW dX0_latestAct_8 ?_
    refine lv_bipush (v := (10 : Int32)) hx hb dX0_latestAct_11 (by decide) ?_
    refine lv_icmp_gt (tgt := 30) hx hb dX0_latestAct_13 (by decide) (fun h2 => ?_) (fun h2 => ?_)
    · replace hf := ite_t h2 hf
      refine lv_iconst (v := (-1 : Int32)) hx hb dX0_latestAct_30 (by decide) ?_
      exact retI E hW ⟨Option.some.inj hf, rfl⟩ dX0_latestAct_31
    · replace hf := ite_f h2 hf
      refine lv_aload_n hx hb dX0_latestAct_16 rfl (lv_at hl 0 rfl) ?_
      refine rg_X0_11 E hW dX0_latestAct_17 ?_
      refine lv_aload_n hx hb dX0_latestAct_20 rfl (lv_at hl 0 rfl) ?_
      refine rg_X0_18 E hW dX0_latestAct_21 ?_
      refine lv_iconst (v := (1 : Int32)) hx hb dX0_latestAct_24 (by decide) ?_
      refine lv_isub hx hb dX0_latestAct_25 ?_
      obtain ⟨v3, hf⟩ := ldI_e hf
      refine ra_22 E hW v3 dX0_latestAct_26 ?_
      refine lv_goto (tgt := 31) hx hb dX0_latestAct_27 (by decide) ?_
      exact retI E hW ⟨Option.some.inj hf, rfl⟩ dX0_latestAct_31
def f_X0_latestNumber (cs : CS) : Option (Int32) := if (ci cs 11) ≤ 0 then (some (-1 : Int32)) else (if (10 : Int32) < (ci cs 11) then (some (-1 : Int32)) else ((ldI (ca cs 23) 10 ((ci cs 11) - (1 : Int32))).bind fun q4 => some q4))
def rm_X0_latestNumber : Room := { frames := 0, cells := 0, slots := 0, locals := 0 }
set_option maxHeartbeats 4000000 in
set_option maxRecDepth 100000 in
theorem c_X0_latestNumber (l : Launch) {X : XT} {B : Nat} {cs : CS} {ms : MS} {o : Nat → Int64} {r : Int32} (hf : f_X0_latestNumber cs  = some r) : Met l yX0_latestNumber (.code yX0_latestNumber cX0_latestNumber 1 (some .int) :: BIG) rm_X0_latestNumber (Pre X B (cs, ms, o) [.ref (X.1 5)]) (QI X B r (cs, ms, o)) 0 0 (Ab B) := by
  refine entry (by decide +kernel) rfl (Nat.le_of_ble_eq_true rfl) (fun p e s m below meth c ls E hW hl => ?_)
  obtain ⟨hx, hb, hml, hown, hts, -⟩ := id E
  replace hl : lv_has ls 1 [(0, .ref (X.1 5))] := hl
  unfold f_X0_latestNumber at hf
  refine lv_aload_n hx hb dX0_latestNumber_0 rfl (lv_at hl 0 rfl) ?_
  refine rg_X0_18 E hW dX0_latestNumber_1 ?_
  refine lv_if_le (tgt := 30) hx hb dX0_latestNumber_4 (by decide) (fun h1 => ?_) (fun h1 => ?_)
  · replace hf := ite_t h1 hf
    refine lv_iconst (v := (-1 : Int32)) hx hb dX0_latestNumber_30 (by decide) ?_
    exact retI E hW ⟨Option.some.inj hf, rfl⟩ dX0_latestNumber_31
  · replace hf := ite_f h1 hf
    refine lv_aload_n hx hb dX0_latestNumber_7 rfl (lv_at hl 0 rfl) ?_
    refine rg_X0_18 E hW dX0_latestNumber_8 ?_
    refine lv_bipush (v := (10 : Int32)) hx hb dX0_latestNumber_11 (by decide) ?_
    refine lv_icmp_gt (tgt := 30) hx hb dX0_latestNumber_13 (by decide) (fun h2 => ?_) (fun h2 => ?_)
    · replace hf := ite_t h2 hf
      refine lv_iconst (v := (-1 : Int32)) hx hb dX0_latestNumber_30 (by decide) ?_
      exact retI E hW ⟨Option.some.inj hf, rfl⟩ dX0_latestNumber_31
    · replace hf := ite_f h2 hf
      refine lv_aload_n hx hb dX0_latestNumber_16 rfl (lv_at hl 0 rfl) ?_
      refine rg_X0_15 E hW dX0_latestNumber_17 ?_
      refine lv_aload_n hx hb dX0_latestNumber_20 rfl (lv_at hl 0 rfl) ?_
      refine rg_X0_18 E hW dX0_latestNumber_21 ?_
      refine lv_iconst (v := (1 : Int32)) hx hb dX0_latestNumber_24 (by decide) ?_
      refine lv_isub hx hb dX0_latestNumber_25 ?_
      obtain ⟨v3, hf⟩ := ldI_e hf
      refine ra_23 E hW v3 dX0_latestNumber_26 ?_
      refine lv_goto (tgt := 31) hx hb dX0_latestNumber_27 (by decide) ?_
      exact retI E hW ⟨Option.some.inj hf, rfl⟩ dX0_latestNumber_31
def f_X0_dropLatest (cs : CS) : Option (CS) := if (ci cs 11) ≤ 0 then (some cs) else (some (ciU cs 11 ((ci cs 11) - (1 : Int32))))
def rm_X0_dropLatest : Room := { frames := 0, cells := 0, slots := 0, locals := 0 }
set_option maxHeartbeats 4000000 in
set_option maxRecDepth 100000 in
theorem c_X0_dropLatest (l : Launch) {X : XT} {B : Nat} {cs : CS} {ms : MS} {o : Nat → Int64} {S9 : CS} (hf : f_X0_dropLatest cs  = some S9) : Met l yX0_dropLatest (.code yX0_dropLatest cX0_dropLatest 1 none :: BIG) rm_X0_dropLatest (Pre X B (cs, ms, o) [.ref (X.1 5)]) (QV X B (S9, ms, o)) 0 0 (Ab B) := by
  refine entry (by decide +kernel) rfl (Nat.le_of_ble_eq_true rfl) (fun p e s m below meth c ls E hW hl => ?_)
  obtain ⟨hx, hb, hml, hown, hts, -⟩ := id E
  replace hl : lv_has ls 1 [(0, .ref (X.1 5))] := hl
  unfold f_X0_dropLatest at hf
  refine lv_aload_n hx hb dX0_dropLatest_0 rfl (lv_at hl 0 rfl) ?_
  refine rg_X0_18 E hW dX0_dropLatest_1 ?_
  refine lv_if_le (tgt := 17) hx hb dX0_dropLatest_4 (by decide) (fun h1 => ?_) (fun h1 => ?_)
  · replace hf := ite_t h1 hf
    exact retV E hW (e1C hf) dX0_dropLatest_17
  · replace hf := ite_f h1 hf
    refine lv_aload_n hx hb dX0_dropLatest_7 rfl (lv_at hl 0 rfl) ?_
    refine lv_dup hx hb dX0_dropLatest_8 rfl ?_
    refine rg_X0_18 E hW dX0_dropLatest_9 ?_
    refine lv_iconst (v := (1 : Int32)) hx hb dX0_dropLatest_12 (by decide) ?_
    refine lv_isub hx hb dX0_dropLatest_13 ?_
    refine rp_X0_18 E hW dX0_dropLatest_14 (fun H locs hW => ?_)
    exact retV E hW (e1C hf) dX0_dropLatest_17
def f_X1_init (cs : CS) (v0 : Nat) (v1 : Int32) (v2 : Int32) (v3 : Int32) (v4 : Int32) (v5 : Int32) (v6 : Int32) : Option (CS) := gd (v0 ∈ cl cs ∧ ck cs v0 = 0) <| some (cpU (cpU (cpU (cpU (cpU (cpU (cpU (cpU (cpU cs v0 6 (0 : Int32)) v0 7 (0 : Int32)) v0 8 (0 : Int32)) v0 0 v1) v0 1 v2) v0 2 v3) v0 3 v4) v0 5 v5) v0 4 v6)
def rm_X1_init : Room := { frames := 1, cells := 0, slots := 0, locals := 30 }
set_option maxHeartbeats 4000000 in
set_option maxRecDepth 100000 in
theorem c_X1_init (l : Launch) {X : XT} {B : Nat} {cs : CS} {ms : MS} {o : Nat → Int64} {v0 : Nat} {v1 : Int32} {v2 : Int32} {v3 : Int32} {v4 : Int32} {v5 : Int32} {v6 : Int32} {S9 : CS} (hf : f_X1_init cs v0 v1 v2 v3 v4 v5 v6 = some S9) : Met l yX1_init (.code yX1_init cX1_init 7 none :: BIG) rm_X1_init (Pre X B (cs, ms, o) [.ref v0, .int v1, .int v2, .int v3, .int v4, .int v5, .int v6]) (QV X B (S9, ms, o)) 0 0 (Ab B) := by
  refine centry (by decide +kernel) rfl (Nat.le_of_ble_eq_true rfl) rfl (fun p e s m below meth c ls E hin9 hW hl => ?_)
  obtain ⟨hx, hb, hml, hown, hts, -⟩ := id E
  replace hl : lv_has ls 7 [(0, .ref v0), (1, .int v1), (2, .int v2), (3, .int v3), (4, .int v4), (5, .int v5), (6, .int v6)] := hl
  unfold f_X1_init at hf
  refine lv_aload_n hx hb dX1_init_0 rfl (lv_at hl 0 rfl) ?_
  refine W.objInit hx hb hown (hts _ ko_X1_1) (hts _ ko_inst) (hts _ ko_code) rfl (hl.1.trans hml.symm) rfl dX1_init_1 (Nat.le_of_ble_eq_true rfl) (Nat.le_trans (Nat.add_le_add_right (lv_room (Nat.le_of_ble_eq_true rfl)) 12) (Nat.le_of_ble_eq_true rfl)) ?_
  refine lv_aload_n hx hb dX1_init_4 rfl (lv_at hl 0 rfl) ?_
  refine lv_iconst (v := (0 : Int32)) hx hb dX1_init_5 (by decide) ?_
  obtain ⟨v1, hf⟩ := gd_e hf
  refine rp_X1_7 E hW v1 (Or.inl rfl) dX1_init_6 (fun H locs hW => ?_)
  refine lv_aload_n hx hb dX1_init_9 rfl (lv_at hl 0 rfl) ?_
  refine lv_iconst (v := (0 : Int32)) hx hb dX1_init_10 (by decide) ?_
  refine rp_X1_13 E hW v1 (Or.inl rfl) dX1_init_11 (fun H locs hW => ?_)
  refine lv_aload_n hx hb dX1_init_14 rfl (lv_at hl 0 rfl) ?_
  refine lv_iconst (v := (0 : Int32)) hx hb dX1_init_15 (by decide) ?_
  refine rp_X1_16 E hW v1 (Or.inl rfl) dX1_init_16 (fun H locs hW => ?_)
  refine lv_aload_n hx hb dX1_init_19 rfl (lv_at hl 0 rfl) ?_
  refine lv_iload_n hx hb dX1_init_20 rfl (lv_at hl 1 rfl) ?_
  refine rp_X1_19 E hin9 hW v1 dX1_init_21 (fun H locs hW => ?_)
  refine lv_aload_n hx hb dX1_init_24 rfl (lv_at hl 0 rfl) ?_
  refine lv_iload_n hx hb dX1_init_25 rfl (lv_at hl 2 rfl) ?_
  refine rp_X1_23 E hin9 hW v1 dX1_init_26 (fun H locs hW => ?_)
  refine lv_aload_n hx hb dX1_init_29 rfl (lv_at hl 0 rfl) ?_
  refine lv_iload_n hx hb dX1_init_30 rfl (lv_at hl 3 rfl) ?_
  refine rp_X1_26 E hin9 hW v1 dX1_init_31 (fun H locs hW => ?_)
  refine lv_aload_n hx hb dX1_init_34 rfl (lv_at hl 0 rfl) ?_
  refine lv_iload hx hb dX1_init_35 (lv_at hl 4 rfl) ?_
  refine rp_X1_29 E hin9 hW v1 dX1_init_37 (fun H locs hW => ?_)
  refine lv_aload_n hx hb dX1_init_40 rfl (lv_at hl 0 rfl) ?_
  refine lv_iload hx hb dX1_init_41 (lv_at hl 5 rfl) ?_
  refine rp_X1_32 E hW v1 dX1_init_43 (fun H locs hW => ?_)
  refine lv_aload_n hx hb dX1_init_46 rfl (lv_at hl 0 rfl) ?_
  refine lv_iload hx hb dX1_init_47 (lv_at hl 6 rfl) ?_
  refine rp_X1_35 E hin9 hW v1 dX1_init_49 (fun H locs hW => ?_)
  exact retV E hW (e1C hf) dX1_init_52
def f_X1_isOn (cs : CS) (v0 : Nat) (v1 : Int32) : Option (Int32) := if v1 < 0 then (some (0 : Int32)) else (gd (v0 ∈ cl cs ∧ ck cs v0 = 0) <| if (cp cs v0 3) ≤ v1 then (some (0 : Int32)) else (if (((cp cs v0 5) >>> (v1 &&& 31)) &&& (1 : Int32)) = 0 then (some (0 : Int32)) else (some (1 : Int32))))
def rm_X1_isOn : Room := { frames := 0, cells := 0, slots := 0, locals := 0 }
set_option maxHeartbeats 4000000 in
set_option maxRecDepth 100000 in
theorem c_X1_isOn (l : Launch) {X : XT} {B : Nat} {cs : CS} {ms : MS} {o : Nat → Int64} {v0 : Nat} {v1 : Int32} {r : Int32} (hf : f_X1_isOn cs v0 v1 = some r) : Met l yX1_isOn (.code yX1_isOn cX1_isOn 2 (some .boolean) :: BIG) rm_X1_isOn (Pre X B (cs, ms, o) [.ref v0, .int v1]) (QI X B r (cs, ms, o)) 0 0 (Ab B) := by
  refine entry (by decide +kernel) rfl (Nat.le_of_ble_eq_true rfl) (fun p e s m below meth c ls E hW hl => ?_)
  obtain ⟨hx, hb, hml, hown, hts, -⟩ := id E
  replace hl : lv_has ls 2 [(0, .ref v0), (1, .int v1)] := hl
  unfold f_X1_isOn at hf
  refine lv_iload_n hx hb dX1_isOn_0 rfl (lv_at hl 1 rfl) ?_
  refine lv_if_lt (tgt := 27) hx hb dX1_isOn_1 (by decide) (fun h1 => ?_) (fun h1 => ?_)
  · replace hf := ite_t h1 hf
    refine lv_iconst (v := (0 : Int32)) hx hb dX1_isOn_27 (by decide) ?_
    exact retZ E hW (Or.inl rfl) ⟨Option.some.inj hf, rfl⟩ dX1_isOn_28
  · replace hf := ite_f h1 hf
    refine lv_iload_n hx hb dX1_isOn_4 rfl (lv_at hl 1 rfl) ?_
    refine lv_aload_n hx hb dX1_isOn_5 rfl (lv_at hl 0 rfl) ?_
    obtain ⟨v2, hf⟩ := gd_e hf
    refine rg_X1_29 E hW v2 dX1_isOn_6 ?_
    refine lv_icmp_ge (tgt := 27) hx hb dX1_isOn_9 (by decide) (fun h3 => ?_) (fun h3 => ?_)
    · replace hf := ite_t h3 hf
      refine lv_iconst (v := (0 : Int32)) hx hb dX1_isOn_27 (by decide) ?_
      exact retZ E hW (Or.inl rfl) ⟨Option.some.inj hf, rfl⟩ dX1_isOn_28
    · replace hf := ite_f h3 hf
      refine lv_aload_n hx hb dX1_isOn_12 rfl (lv_at hl 0 rfl) ?_
      refine rg_X1_32 E hW v2 dX1_isOn_13 ?_
      refine lv_iload_n hx hb dX1_isOn_16 rfl (lv_at hl 1 rfl) ?_
      refine lv_ishr hx hb dX1_isOn_17 ?_
      refine lv_iconst (v := (1 : Int32)) hx hb dX1_isOn_18 (by decide) ?_
      refine lv_iand hx hb dX1_isOn_19 ?_
      refine lv_if_eq (tgt := 27) hx hb dX1_isOn_20 (by decide) (fun h4 => ?_) (fun h4 => ?_)
      · replace hf := ite_t h4 hf
        refine lv_iconst (v := (0 : Int32)) hx hb dX1_isOn_27 (by decide) ?_
        exact retZ E hW (Or.inl rfl) ⟨Option.some.inj hf, rfl⟩ dX1_isOn_28
      · replace hf := ite_f h4 hf
        refine lv_iconst (v := (1 : Int32)) hx hb dX1_isOn_23 (by decide) ?_
        refine lv_goto (tgt := 28) hx hb dX1_isOn_24 (by decide) ?_
        exact retZ E hW (Or.inr rfl) ⟨Option.some.inj hf, rfl⟩ dX1_isOn_28
def f_X2_size (cs : CS) : Option (Int32) := some (ci cs 12)
def rm_X2_size : Room := { frames := 0, cells := 0, slots := 0, locals := 0 }
set_option maxHeartbeats 4000000 in
set_option maxRecDepth 100000 in
theorem c_X2_size (l : Launch) {X : XT} {B : Nat} {cs : CS} {ms : MS} {o : Nat → Int64} {r : Int32} (hf : f_X2_size cs  = some r) : Met l yX2_size (.code yX2_size cX2_size 1 (some .int) :: BIG) rm_X2_size (Pre X B (cs, ms, o) [.ref (X.1 6)]) (QI X B r (cs, ms, o)) 0 0 (Ab B) := by
  refine entry (by decide +kernel) rfl (Nat.le_of_ble_eq_true rfl) (fun p e s m below meth c ls E hW hl => ?_)
  obtain ⟨hx, hb, hml, hown, hts, -⟩ := id E
  replace hl : lv_has ls 1 [(0, .ref (X.1 6))] := hl
  unfold f_X2_size at hf
  refine lv_aload_n hx hb dX2_size_0 rfl (lv_at hl 0 rfl) ?_
  refine rg_X2_22 E hW dX2_size_1 ?_
  exact retI E hW ⟨Option.some.inj hf, rfl⟩ dX2_size_4
def f_X2_numberAt (cs : CS) (v1 : Int32) : Option (Int32) := if v1 < 0 then (some (-1 : Int32)) else (if (ci cs 12) ≤ v1 then (some (-1 : Int32)) else (if (60 : Int32) ≤ v1 then (some (-1 : Int32)) else ((ldI (ca cs 24) 60 v1).bind fun q5 => some q5)))
def rm_X2_numberAt : Room := { frames := 0, cells := 0, slots := 0, locals := 0 }
set_option maxHeartbeats 4000000 in
set_option maxRecDepth 100000 in
theorem c_X2_numberAt (l : Launch) {X : XT} {B : Nat} {cs : CS} {ms : MS} {o : Nat → Int64} {v1 : Int32} {r : Int32} (hf : f_X2_numberAt cs v1 = some r) : Met l yX2_numberAt (.code yX2_numberAt cX2_numberAt 2 (some .int) :: BIG) rm_X2_numberAt (Pre X B (cs, ms, o) [.ref (X.1 6), .int v1]) (QI X B r (cs, ms, o)) 0 0 (Ab B) := by
  refine entry (by decide +kernel) rfl (Nat.le_of_ble_eq_true rfl) (fun p e s m below meth c ls E hW hl => ?_)
  obtain ⟨hx, hb, hml, hown, hts, -⟩ := id E
  replace hl : lv_has ls 2 [(0, .ref (X.1 6)), (1, .int v1)] := hl
  unfold f_X2_numberAt at hf
  refine lv_iload_n hx hb dX2_numberAt_0 rfl (lv_at hl 1 rfl) ?_
  refine lv_if_lt (tgt := 30) hx hb dX2_numberAt_1 (by decide) (fun h1 => ?_) (fun h1 => ?_)
  · replace hf := ite_t h1 hf
    refine lv_iconst (v := (-1 : Int32)) hx hb dX2_numberAt_30 (by decide) ?_
    exact retI E hW ⟨Option.some.inj hf, rfl⟩ dX2_numberAt_31
  · replace hf := ite_f h1 hf
    refine lv_iload_n hx hb dX2_numberAt_4 rfl (lv_at hl 1 rfl) ?_
    refine lv_aload_n hx hb dX2_numberAt_5 rfl (lv_at hl 0 rfl) ?_
    refine rg_X2_22 E hW dX2_numberAt_6 ?_
    refine lv_icmp_ge (tgt := 30) hx hb dX2_numberAt_9 (by decide) (fun h2 => ?_) (fun h2 => ?_)
    · replace hf := ite_t h2 hf
      refine lv_iconst (v := (-1 : Int32)) hx hb dX2_numberAt_30 (by decide) ?_
      exact retI E hW ⟨Option.some.inj hf, rfl⟩ dX2_numberAt_31
    · replace hf := ite_f h2 hf
      refine lv_iload_n hx hb dX2_numberAt_12 rfl (lv_at hl 1 rfl) ?_
      refine lv_aload_n hx hb dX2_numberAt_13 rfl (lv_at hl 0 rfl) ?_
      refine rg_X2_9 E hW dX2_numberAt_14 ?_
      refine rl_24 E hW dX2_numberAt_17 ?_
      refine lv_icmp_ge (tgt := 30) hx hb dX2_numberAt_18 (by decide) (fun h3 => ?_) (fun h3 => ?_)
      · replace hf := ite_t h3 hf
        refine lv_iconst (v := (-1 : Int32)) hx hb dX2_numberAt_30 (by decide) ?_
        exact retI E hW ⟨Option.some.inj hf, rfl⟩ dX2_numberAt_31
      · replace hf := ite_f h3 hf
        refine lv_aload_n hx hb dX2_numberAt_21 rfl (lv_at hl 0 rfl) ?_
        refine rg_X2_9 E hW dX2_numberAt_22 ?_
        refine lv_iload_n hx hb dX2_numberAt_25 rfl (lv_at hl 1 rfl) ?_
        obtain ⟨v4, hf⟩ := ldI_e hf
        refine ra_24 E hW v4 dX2_numberAt_26 ?_
        refine lv_goto (tgt := 31) hx hb dX2_numberAt_27 (by decide) ?_
        exact retI E hW ⟨Option.some.inj hf, rfl⟩ dX2_numberAt_31
def f_X2_clear (cs : CS) : Option (CS) := some (ciU cs 12 (0 : Int32))
def rm_X2_clear : Room := { frames := 0, cells := 0, slots := 0, locals := 0 }
set_option maxHeartbeats 4000000 in
set_option maxRecDepth 100000 in
theorem c_X2_clear (l : Launch) {X : XT} {B : Nat} {cs : CS} {ms : MS} {o : Nat → Int64} {S9 : CS} (hf : f_X2_clear cs  = some S9) : Met l yX2_clear (.code yX2_clear cX2_clear 1 none :: BIG) rm_X2_clear (Pre X B (cs, ms, o) [.ref (X.1 6)]) (QV X B (S9, ms, o)) 0 0 (Ab B) := by
  refine entry (by decide +kernel) rfl (Nat.le_of_ble_eq_true rfl) (fun p e s m below meth c ls E hW hl => ?_)
  obtain ⟨hx, hb, hml, hown, hts, -⟩ := id E
  replace hl : lv_has ls 1 [(0, .ref (X.1 6))] := hl
  unfold f_X2_clear at hf
  refine lv_aload_n hx hb dX2_clear_0 rfl (lv_at hl 0 rfl) ?_
  refine lv_iconst (v := (0 : Int32)) hx hb dX2_clear_1 (by decide) ?_
  refine rp_X2_22 E hW dX2_clear_2 (fun H locs hW => ?_)
  exact retV E hW (e1C hf) dX2_clear_5
def f_X2_goesAhead (cs : CS) (v1 : Int32) (v2 : Int32) (v3 : Int32) : Option (Int32) := if v3 < 0 then (some (0 : Int32)) else (if v3 < (60 : Int32) then ((ldI (ca cs 26) 60 v3).bind fun q4 => if v1 = q4 then ((ldI (ca cs 25) 60 v3).bind fun q8 => if q8 ≤ v2 then (some (0 : Int32)) else (some (1 : Int32))) else (gd (v1 = 0 ∨ v1 = 1) <| some v1)) else (some (0 : Int32)))
def rm_X2_goesAhead : Room := { frames := 0, cells := 0, slots := 0, locals := 0 }
set_option maxHeartbeats 4000000 in
set_option maxRecDepth 100000 in
theorem c_X2_goesAhead (l : Launch) {X : XT} {B : Nat} {cs : CS} {ms : MS} {o : Nat → Int64} {v1 : Int32} {v2 : Int32} {v3 : Int32} {r : Int32} (hf : f_X2_goesAhead cs v1 v2 v3 = some r) : Met l yX2_goesAhead (.code yX2_goesAhead cX2_goesAhead 4 (some .boolean) :: BIG) rm_X2_goesAhead (Pre X B (cs, ms, o) [.ref (X.1 6), .int v1, .int v2, .int v3]) (QI X B r (cs, ms, o)) 0 0 (Ab B) := by
  refine entry (by decide +kernel) rfl (Nat.le_of_ble_eq_true rfl) (fun p e s m below meth c ls E hW hl => ?_)
  obtain ⟨hx, hb, hml, hown, hts, -⟩ := id E
  replace hl : lv_has ls 4 [(0, .ref (X.1 6)), (1, .int v1), (2, .int v2), (3, .int v3)] := hl
  unfold f_X2_goesAhead at hf
  refine lv_iload_n hx hb dX2_goesAhead_0 rfl (lv_at hl 3 rfl) ?_
  refine lv_if_lt (tgt := 13) hx hb dX2_goesAhead_1 (by decide) (fun h1 => ?_) (fun h1 => ?_)
  · replace hf := ite_t h1 hf
    refine lv_iconst (v := (0 : Int32)) hx hb dX2_goesAhead_13 (by decide) ?_
    exact retZ E hW (Or.inl rfl) ⟨Option.some.inj hf, rfl⟩ dX2_goesAhead_14
  · replace hf := ite_f h1 hf
    refine lv_iload_n hx hb dX2_goesAhead_4 rfl (lv_at hl 3 rfl) ?_
    refine lv_aload_n hx hb dX2_goesAhead_5 rfl (lv_at hl 0 rfl) ?_
    refine rg_X2_9 E hW dX2_goesAhead_6 ?_
    refine rl_24 E hW dX2_goesAhead_9 ?_
    refine lv_icmp_lt (tgt := 15) hx hb dX2_goesAhead_10 (by decide) (fun h2 => ?_) (fun h2 => ?_)
    · replace hf := ite_t h2 hf
      refine lv_iload_n hx hb dX2_goesAhead_15 rfl (lv_at hl 1 rfl) ?_
      refine lv_aload_n hx hb dX2_goesAhead_16 rfl (lv_at hl 0 rfl) ?_
      refine rg_X2_18 E hW dX2_goesAhead_17 ?_
      refine lv_iload_n hx hb dX2_goesAhead_20 rfl (lv_at hl 3 rfl) ?_
      obtain ⟨v3, hf⟩ := ldI_e hf
      refine ra_26 E hW v3 dX2_goesAhead_21 ?_
      refine lv_icmp_ne (tgt := 43) hx hb dX2_goesAhead_22 (by decide) (fun h5 => ?_) (fun h5 => ?_)
      · replace hf := ite_f h5 hf
        refine lv_iload_n hx hb dX2_goesAhead_43 rfl (lv_at hl 1 rfl) ?_
        obtain ⟨v6, hf⟩ := gd_e hf
        exact retZ E hW v6 ⟨Option.some.inj hf, rfl⟩ dX2_goesAhead_44
      · replace hf := ite_t h5 hf
        refine lv_iload_n hx hb dX2_goesAhead_25 rfl (lv_at hl 2 rfl) ?_
        refine lv_aload_n hx hb dX2_goesAhead_26 rfl (lv_at hl 0 rfl) ?_
        refine rg_X2_15 E hW dX2_goesAhead_27 ?_
        refine lv_iload_n hx hb dX2_goesAhead_30 rfl (lv_at hl 3 rfl) ?_
        obtain ⟨v7, hf⟩ := ldI_e hf
        refine ra_25 E hW v7 dX2_goesAhead_31 ?_
        refine lv_icmp_ge (tgt := 39) hx hb dX2_goesAhead_32 (by decide) (fun h9 => ?_) (fun h9 => ?_)
        · replace hf := ite_t h9 hf
          refine lv_iconst (v := (0 : Int32)) hx hb dX2_goesAhead_39 (by decide) ?_
          refine lv_goto (tgt := 44) hx hb dX2_goesAhead_40 (by decide) ?_
          exact retZ E hW (Or.inl rfl) ⟨Option.some.inj hf, rfl⟩ dX2_goesAhead_44
        · replace hf := ite_f h9 hf
          refine lv_iconst (v := (1 : Int32)) hx hb dX2_goesAhead_35 (by decide) ?_
          refine lv_goto (tgt := 44) hx hb dX2_goesAhead_36 (by decide) ?_
          exact retZ E hW (Or.inr rfl) ⟨Option.some.inj hf, rfl⟩ dX2_goesAhead_44
    · replace hf := ite_f h2 hf
      refine lv_iconst (v := (0 : Int32)) hx hb dX2_goesAhead_13 (by decide) ?_
      exact retZ E hW (Or.inl rfl) ⟨Option.some.inj hf, rfl⟩ dX2_goesAhead_14
def f_X2_write (cs : CS) (v1 : Int32) (v2 : Int32) (v3 : Int32) (v4 : Int32) : Option (CS) := if v1 < 0 then (some cs) else (if (60 : Int32) ≤ v1 then (some cs) else (ixr 60 v1 <| ixr 60 v1 <| ixr 60 v1 <| some (caU (caU (caU cs 24 (v1).toNatClampNeg v2) 26 (v1).toNatClampNeg (vp_nar .boolean v3)) 25 (v1).toNatClampNeg v4)))
def rm_X2_write : Room := { frames := 0, cells := 0, slots := 0, locals := 0 }
set_option maxHeartbeats 4000000 in
set_option maxRecDepth 100000 in
theorem c_X2_write (l : Launch) {X : XT} {B : Nat} {cs : CS} {ms : MS} {o : Nat → Int64} {v1 : Int32} {v2 : Int32} {v3 : Int32} {v4 : Int32} {S9 : CS} (hf : f_X2_write cs v1 v2 v3 v4 = some S9) : Met l yX2_write (.code yX2_write cX2_write 5 none :: BIG) rm_X2_write (Pre X B (cs, ms, o) [.ref (X.1 6), .int v1, .int v2, .int v3, .int v4]) (QV X B (S9, ms, o)) 0 0 (Ab B) := by
  refine entry (by decide +kernel) rfl (Nat.le_of_ble_eq_true rfl) (fun p e s m below meth c ls E hW hl => ?_)
  obtain ⟨hx, hb, hml, hown, hts, -⟩ := id E
  replace hl : lv_has ls 5 [(0, .ref (X.1 6)), (1, .int v1), (2, .int v2), (3, .int v3), (4, .int v4)] := hl
  unfold f_X2_write at hf
  refine lv_iload_n hx hb dX2_write_0 rfl (lv_at hl 1 rfl) ?_
  refine lv_if_lt (tgt := 35) hx hb dX2_write_1 (by decide) (fun h1 => ?_) (fun h1 => ?_)
  · replace hf := ite_t h1 hf
    exact retV E hW (e1C hf) dX2_write_35
  · replace hf := ite_f h1 hf
    refine lv_iload_n hx hb dX2_write_4 rfl (lv_at hl 1 rfl) ?_
    refine lv_aload_n hx hb dX2_write_5 rfl (lv_at hl 0 rfl) ?_
    refine rg_X2_9 E hW dX2_write_6 ?_
    refine rl_24 E hW dX2_write_9 ?_
    refine lv_icmp_ge (tgt := 35) hx hb dX2_write_10 (by decide) (fun h2 => ?_) (fun h2 => ?_)
    · replace hf := ite_t h2 hf
      exact retV E hW (e1C hf) dX2_write_35
    · replace hf := ite_f h2 hf
      refine lv_aload_n hx hb dX2_write_13 rfl (lv_at hl 0 rfl) ?_
      refine rg_X2_9 E hW dX2_write_14 ?_
      refine lv_iload_n hx hb dX2_write_17 rfl (lv_at hl 1 rfl) ?_
      refine lv_iload_n hx hb dX2_write_18 rfl (lv_at hl 2 rfl) ?_
      obtain ⟨v3, hf⟩ := ixr_e hf
      refine rs_24 E hW v3 dX2_write_19 (fun H locs hW => ?_)
      refine lv_aload_n hx hb dX2_write_20 rfl (lv_at hl 0 rfl) ?_
      refine rg_X2_18 E hW dX2_write_21 ?_
      refine lv_iload_n hx hb dX2_write_24 rfl (lv_at hl 1 rfl) ?_
      refine lv_iload_n hx hb dX2_write_25 rfl (lv_at hl 3 rfl) ?_
      obtain ⟨v4, hf⟩ := ixr_e hf
      refine rs_26 E hW v4 dX2_write_26 (fun H locs hW => ?_)
      refine lv_aload_n hx hb dX2_write_27 rfl (lv_at hl 0 rfl) ?_
      refine rg_X2_15 E hW dX2_write_28 ?_
      refine lv_iload_n hx hb dX2_write_31 rfl (lv_at hl 1 rfl) ?_
      refine lv_iload hx hb dX2_write_32 (lv_at hl 4 rfl) ?_
      obtain ⟨v5, hf⟩ := ixr_e hf
      refine rs_25 E hW v5 dX2_write_34 (fun H locs hW => ?_)
      exact retV E hW (e1C hf) dX2_write_35
def f_X2_insert_26 : Nat → CS → Int32 → Int32 → Int32 → Int32 → Option (CS)
  | 0, _, _, _, _, _ => none
  | n + 1, cs, v1, v2, v3, v4 => if v4 ≤ 0 then ((f_X2_write cs v4 v1 v2 v3).bind fun cs4 => some (ciU cs4 12 ((ci cs4 12) + (1 : Int32)))) else ((f_X2_goesAhead cs v2 v3 (v4 - (1 : Int32))).bind fun r5 => if r5 = 0 then ((f_X2_write cs v4 v1 v2 v3).bind fun cs7 => some (ciU cs7 12 ((ci cs7 12) + (1 : Int32)))) else ((ldI (ca cs 24) 60 (v4 - (1 : Int32))).bind fun q9 => (ldI (ca cs 26) 60 (v4 - (1 : Int32))).bind fun q11 => (ldI (ca cs 25) 60 (v4 - (1 : Int32))).bind fun q13 => (f_X2_write cs v4 q9 q11 q13).bind fun cs14 => f_X2_insert_26 n cs14 v1 v2 v3 (v4 + (-1 : Int32))))
def f_X2_insert (cs : CS) (v1 : Int32) (v2 : Int32) (v3 : Int32) : Option (CS) := if (ci cs 12) < 0 then (some cs) else (if (ci cs 12) < (60 : Int32) then (f_X2_insert_26 1000 cs v1 v2 v3 (ci cs 12)) else (some cs))
def rm_X2_insert : Room := { frames := 1, cells := 0, slots := 0, locals := 24 }
set_option maxHeartbeats 4000000 in
set_option maxRecDepth 100000 in
theorem w_X2_insert_26 {p : Program} {l : Launch} {e : Env} {s : State} {m : MethodId} {args : Array Value} {below : List Frame} {meth : Method} {c : Code} {X : XT} {B : Nat} {ms : MS} {o : Nat → Int64} {S9 : CS} (E : Ev X B p s m args meth c RX2 cX2_insert 5 none) : ∀ (n : Nat) (cs : CS) (v1 : Int32) (v2 : Int32) (v3 : Int32) (v4 : Int32) (H : Heap) (locs : List Loc) (ls : Array Slot), f_X2_insert_26 n cs v1 v2 v3 v4 = some S9 → Ws X B s.heap H locs (cs, ms, o) → lv_has ls 5 [(0, .ref (X.1 6)), (1, .int v1), (2, .int v2), (3, .int v3), (4, .int v4)] → W p l e rm_X2_insert s m args below meth c H locs 0 0 (MQ below (QV X B (S9, ms, o)) args s 0 0 (Ab B)) (F0 m 26 ls []) := by
  obtain ⟨hx, hb, hml, hown, hts, -⟩ := id E
  intro n
  induction n with
  | zero => intro cs v1 v2 v3 v4 H locs ls hf; exact absurd hf nofun
  | succ n ih =>
    intro cs v1 v2 v3 v4 H locs ls hf hW hl
    rw [f_X2_insert_26] at hf
    refine lv_iload hx hb dX2_insert_26 (lv_at hl 4 rfl) ?_
    refine lv_if_le (tgt := 83) hx hb dX2_insert_28 (by decide) (fun h3 => ?_) (fun h3 => ?_)
    · replace hf := ite_t h3 hf
      refine lv_aload_n hx hb dX2_insert_83 rfl (lv_at hl 0 rfl) ?_
      refine lv_iload hx hb dX2_insert_84 (lv_at hl 4 rfl) ?_
      refine lv_iload_n hx hb dX2_insert_86 rfl (lv_at hl 1 rfl) ?_
      refine lv_iload_n hx hb dX2_insert_87 rfl (lv_at hl 2 rfl) ?_
      refine lv_iload_n hx hb dX2_insert_88 rfl (lv_at hl 3 rfl) ?_
      obtain ⟨cs4, hc, hf⟩ := b1_e hf
      refine callVV (As := [.int _, .int _, .int _, .int _]) (rest := []) E hW (c_X2_write l hc) lk_X2_30 rcv_X2 (Nat.le_of_ble_eq_true rfl) (Nat.le_of_ble_eq_true rfl) (Nat.le_of_ble_eq_true rfl) (Nat.le_of_ble_eq_true rfl) hl.1 (Nat.le_of_ble_eq_true rfl) dX2_insert_89 (fun H locs hW => ?_)
      refine lv_aload_n hx hb dX2_insert_92 rfl (lv_at hl 0 rfl) ?_
      refine lv_dup hx hb dX2_insert_93 rfl ?_
      refine rg_X2_22 E hW dX2_insert_94 ?_
      refine lv_iconst (v := (1 : Int32)) hx hb dX2_insert_97 (by decide) ?_
      refine lv_iadd hx hb dX2_insert_98 ?_
      refine rp_X2_22 E hW dX2_insert_99 (fun H locs hW => ?_)
      exact retV E hW (e1C hf) dX2_insert_102
    · replace hf := ite_f h3 hf
      refine lv_aload_n hx hb dX2_insert_31 rfl (lv_at hl 0 rfl) ?_
      refine lv_iload_n hx hb dX2_insert_32 rfl (lv_at hl 2 rfl) ?_
      refine lv_iload_n hx hb dX2_insert_33 rfl (lv_at hl 3 rfl) ?_
      refine lv_iload hx hb dX2_insert_34 (lv_at hl 4 rfl) ?_
      refine lv_iconst (v := (1 : Int32)) hx hb dX2_insert_36 (by decide) ?_
      refine lv_isub hx hb dX2_insert_37 ?_
      obtain ⟨r5, hc, hf⟩ := b1_e hf
      refine callVI (As := [.int _, .int _, .int _]) (rest := []) E hW (c_X2_goesAhead l hc) lk_X2_26 rcv_X2 (Nat.le_of_ble_eq_true rfl) (Nat.le_of_ble_eq_true rfl) (Nat.le_of_ble_eq_true rfl) (Nat.le_of_ble_eq_true rfl) hl.1 (Nat.le_of_ble_eq_true rfl) dX2_insert_38 (fun H locs hW => ?_)
      refine lv_if_eq (tgt := 83) hx hb dX2_insert_41 (by decide) (fun h6 => ?_) (fun h6 => ?_)
      · replace hf := ite_t h6 hf
        refine lv_aload_n hx hb dX2_insert_83 rfl (lv_at hl 0 rfl) ?_
        refine lv_iload hx hb dX2_insert_84 (lv_at hl 4 rfl) ?_
        refine lv_iload_n hx hb dX2_insert_86 rfl (lv_at hl 1 rfl) ?_
        refine lv_iload_n hx hb dX2_insert_87 rfl (lv_at hl 2 rfl) ?_
        refine lv_iload_n hx hb dX2_insert_88 rfl (lv_at hl 3 rfl) ?_
        obtain ⟨cs7, hc, hf⟩ := b1_e hf
        refine callVV (As := [.int _, .int _, .int _, .int _]) (rest := []) E hW (c_X2_write l hc) lk_X2_30 rcv_X2 (Nat.le_of_ble_eq_true rfl) (Nat.le_of_ble_eq_true rfl) (Nat.le_of_ble_eq_true rfl) (Nat.le_of_ble_eq_true rfl) hl.1 (Nat.le_of_ble_eq_true rfl) dX2_insert_89 (fun H locs hW => ?_)
        refine lv_aload_n hx hb dX2_insert_92 rfl (lv_at hl 0 rfl) ?_
        refine lv_dup hx hb dX2_insert_93 rfl ?_
        refine rg_X2_22 E hW dX2_insert_94 ?_
        refine lv_iconst (v := (1 : Int32)) hx hb dX2_insert_97 (by decide) ?_
        refine lv_iadd hx hb dX2_insert_98 ?_
        refine rp_X2_22 E hW dX2_insert_99 (fun H locs hW => ?_)
        exact retV E hW (e1C hf) dX2_insert_102
      · replace hf := ite_f h6 hf
        refine lv_aload_n hx hb dX2_insert_44 rfl (lv_at hl 0 rfl) ?_
        refine lv_iload hx hb dX2_insert_45 (lv_at hl 4 rfl) ?_
        refine lv_aload_n hx hb dX2_insert_47 rfl (lv_at hl 0 rfl) ?_
        refine rg_X2_9 E hW dX2_insert_48 ?_
        refine lv_iload hx hb dX2_insert_51 (lv_at hl 4 rfl) ?_
        refine lv_iconst (v := (1 : Int32)) hx hb dX2_insert_53 (by decide) ?_
        refine lv_isub hx hb dX2_insert_54 ?_
        obtain ⟨v8, hf⟩ := ldI_e hf
        refine ra_24 E hW v8 dX2_insert_55 ?_
        refine lv_aload_n hx hb dX2_insert_56 rfl (lv_at hl 0 rfl) ?_
        refine rg_X2_18 E hW dX2_insert_57 ?_
        refine lv_iload hx hb dX2_insert_60 (lv_at hl 4 rfl) ?_
        refine lv_iconst (v := (1 : Int32)) hx hb dX2_insert_62 (by decide) ?_
        refine lv_isub hx hb dX2_insert_63 ?_
        obtain ⟨v10, hf⟩ := ldI_e hf
        refine ra_26 E hW v10 dX2_insert_64 ?_
        refine lv_aload_n hx hb dX2_insert_65 rfl (lv_at hl 0 rfl) ?_
        refine rg_X2_15 E hW dX2_insert_66 ?_
        refine lv_iload hx hb dX2_insert_69 (lv_at hl 4 rfl) ?_
        refine lv_iconst (v := (1 : Int32)) hx hb dX2_insert_71 (by decide) ?_
        refine lv_isub hx hb dX2_insert_72 ?_
        obtain ⟨v12, hf⟩ := ldI_e hf
        refine ra_25 E hW v12 dX2_insert_73 ?_
        obtain ⟨cs14, hc, hf⟩ := b1_e hf
        refine callVV (As := [.int _, .int _, .int _, .int _]) (rest := []) E hW (c_X2_write l hc) lk_X2_30 rcv_X2 (Nat.le_of_ble_eq_true rfl) (Nat.le_of_ble_eq_true rfl) (Nat.le_of_ble_eq_true rfl) (Nat.le_of_ble_eq_true rfl) hl.1 (Nat.le_of_ble_eq_true rfl) dX2_insert_74 (fun H locs hW => ?_)
        refine lv_iinc (v := _ + (-1 : Int32)) (lv' := [_, _, _, _, _]) hx hb dX2_insert_77 hl (k := 4) rfl rfl (by decide) rfl (fun ls hl => ?_)
        refine lv_goto (tgt := 26) hx hb dX2_insert_80 (by decide) ?_
        exact ih _ _ _ _ _ _ _ _ hf hW (lv_sub hl [1, 2, 3, 4, 0] rfl)
set_option maxHeartbeats 4000000 in
set_option maxRecDepth 100000 in
theorem c_X2_insert (l : Launch) {X : XT} {B : Nat} {cs : CS} {ms : MS} {o : Nat → Int64} {v1 : Int32} {v2 : Int32} {v3 : Int32} {S9 : CS} (hf : f_X2_insert cs v1 v2 v3 = some S9) : Met l yX2_insert (.code yX2_insert cX2_insert 5 none :: BIG) rm_X2_insert (Pre X B (cs, ms, o) [.ref (X.1 6), .int v1, .int v2, .int v3]) (QV X B (S9, ms, o)) 0 0 (Ab B) := by
  refine entry (by decide +kernel) rfl (Nat.le_of_ble_eq_true rfl) (fun p e s m below meth c ls E hW hl => ?_)
  obtain ⟨hx, hb, hml, hown, hts, -⟩ := id E
  replace hl : lv_has ls 5 [(0, .ref (X.1 6)), (1, .int v1), (2, .int v2), (3, .int v3)] := hl
  unfold f_X2_insert at hf
  refine lv_aload_n hx hb dX2_insert_0 rfl (lv_at hl 0 rfl) ?_
  refine rg_X2_22 E hW dX2_insert_1 ?_
  refine lv_if_lt (tgt := 19) hx hb dX2_insert_4 (by decide) (fun h1 => ?_) (fun h1 => ?_)
  · replace hf := ite_t h1 hf
    exact retV E hW (e1C hf) dX2_insert_19
  · replace hf := ite_f h1 hf
    refine lv_aload_n hx hb dX2_insert_7 rfl (lv_at hl 0 rfl) ?_
    refine rg_X2_22 E hW dX2_insert_8 ?_
    refine lv_aload_n hx hb dX2_insert_11 rfl (lv_at hl 0 rfl) ?_
    refine rg_X2_9 E hW dX2_insert_12 ?_
    refine rl_24 E hW dX2_insert_15 ?_
    refine lv_icmp_lt (tgt := 20) hx hb dX2_insert_16 (by decide) (fun h2 => ?_) (fun h2 => ?_)
    · replace hf := ite_t h2 hf
      refine lv_aload_n hx hb dX2_insert_20 rfl (lv_at hl 0 rfl) ?_
      refine rg_X2_22 E hW dX2_insert_21 ?_
      refine lv_istore (lv' := [_, _, _, _, _]) hx hb dX2_insert_24 hl (by decide) rfl (fun ls hl => ?_)
      exact w_X2_insert_26 E 1000 _ _ _ _ _ _ _ _ hf hW (lv_sub hl [1, 2, 3, 4, 0] rfl)
    · replace hf := ite_f h2 hf
      exact retV E hW (e1C hf) dX2_insert_19
def f_X3_signOf (cs : CS) (v0 : Int32) : Option (Int32) := some (v0 >>> ((28 : Int32) &&& 31))
def rm_X3_signOf : Room := { frames := 0, cells := 0, slots := 0, locals := 0 }
set_option maxHeartbeats 4000000 in
set_option maxRecDepth 100000 in
theorem c_X3_signOf (l : Launch) {X : XT} {B : Nat} {cs : CS} {ms : MS} {o : Nat → Int64} {v0 : Int32} {r : Int32} (hf : f_X3_signOf cs v0 = some r) : Met l yX3_signOf (.code yX3_signOf cX3_signOf 1 (some .int) :: BIG) rm_X3_signOf (Pre X B (cs, ms, o) [.int v0]) (QI X B r (cs, ms, o)) 0 0 (Ab B) := by
  refine entry (by decide +kernel) rfl (Nat.le_of_ble_eq_true rfl) (fun p e s m below meth c ls E hW hl => ?_)
  obtain ⟨hx, hb, hml, hown, hts, -⟩ := id E
  replace hl : lv_has ls 1 [(0, .int v0)] := hl
  unfold f_X3_signOf at hf
  refine lv_iload_n hx hb dX3_signOf_0 rfl (lv_at hl 0 rfl) ?_
  refine lv_bipush (v := (28 : Int32)) hx hb dX3_signOf_1 (by decide) ?_
  refine lv_ishr hx hb dX3_signOf_3 ?_
  exact retI E hW ⟨Option.some.inj hf, rfl⟩ dX3_signOf_4
def f_X3_passes (cs : CS) (v0 : Int32) (v1 : Int32) (v2 : Int32) (v3 : Int32) : Option (Int32) := (f_X3_signOf cs v0).bind fun r1 => if r1 = (0 : Int32) then (if v1 = ((v0 >>> ((14 : Int32) &&& 31)) &&& (16383 : Int32)) then (some (1 : Int32)) else (some (0 : Int32))) else (if r1 = (1 : Int32) then (if v2 < ((v0 >>> ((14 : Int32) &&& 31)) &&& (16383 : Int32)) then (some (0 : Int32)) else (if (v0 &&& (16383 : Int32)) < v2 then (some (0 : Int32)) else (some (1 : Int32)))) else (if ((v3 >>> (((v0 >>> ((14 : Int32) &&& 31)) &&& (16383 : Int32)) &&& 31)) &&& (1 : Int32)) = 0 then (some (0 : Int32)) else (some (1 : Int32))))
def rm_X3_passes : Room := { frames := 1, cells := 0, slots := 0, locals := 20 }
set_option maxHeartbeats 4000000 in
set_option maxRecDepth 100000 in
theorem c_X3_passes (l : Launch) {X : XT} {B : Nat} {cs : CS} {ms : MS} {o : Nat → Int64} {v0 : Int32} {v1 : Int32} {v2 : Int32} {v3 : Int32} {r : Int32} (hf : f_X3_passes cs v0 v1 v2 v3 = some r) : Met l yX3_passes (.code yX3_passes cX3_passes 6 (some .boolean) :: BIG) rm_X3_passes (Pre X B (cs, ms, o) [.int v0, .int v1, .int v2, .int v3]) (QI X B r (cs, ms, o)) 0 0 (Ab B) := by
  refine entry (by decide +kernel) rfl (Nat.le_of_ble_eq_true rfl) (fun p e s m below meth c ls E hW hl => ?_)
  obtain ⟨hx, hb, hml, hown, hts, -⟩ := id E
  replace hl : lv_has ls 6 [(0, .int v0), (1, .int v1), (2, .int v2), (3, .int v3)] := hl
  unfold f_X3_passes at hf
  refine lv_iload_n hx hb dX3_passes_0 rfl (lv_at hl 0 rfl) ?_
  refine lv_bipush (v := (14 : Int32)) hx hb dX3_passes_1 (by decide) ?_
  refine lv_ishr hx hb dX3_passes_3 ?_
  refine lv_sipush (v := (16383 : Int32)) hx hb dX3_passes_4 (by decide) ?_
  refine lv_iand hx hb dX3_passes_7 ?_
  refine lv_istore (lv' := [_, _, _, _, _]) hx hb dX3_passes_8 hl (by decide) rfl (fun ls hl => ?_)
  refine lv_iload_n hx hb dX3_passes_10 rfl (lv_at hl 1 rfl) ?_
  refine lv_sipush (v := (16383 : Int32)) hx hb dX3_passes_11 (by decide) ?_
  refine lv_iand hx hb dX3_passes_14 ?_
  refine lv_istore (lv' := [_, _, _, _, _, _]) hx hb dX3_passes_15 hl (by decide) rfl (fun ls hl => ?_)
  refine lv_iload_n hx hb dX3_passes_17 rfl (lv_at hl 2 rfl) ?_
  obtain ⟨r1, hc, hf⟩ := b1_e hf
  refine callSI (As := [.int _]) (rest := []) E hW (c_X3_signOf l hc) lk_X3_33 (Nat.le_of_ble_eq_true rfl) (Nat.le_of_ble_eq_true rfl) (Nat.le_of_ble_eq_true rfl) (Nat.le_of_ble_eq_true rfl) hl.1 (Nat.le_of_ble_eq_true rfl) dX3_passes_18 (fun H locs hW => ?_)
  by_cases h2 : r1 = (0 : Int32)
  · replace hf := ite_t h2 hf
    refine lv_lookup (off := 27) (tgt := 48) hx hb dX3_passes_21 (by decide) (by first | (rw [h2]; done) | (rw [h2]; rfl)) (by decide) ?_
    refine lv_iload_n hx hb dX3_passes_48 rfl (lv_at hl 3 rfl) ?_
    refine lv_iload hx hb dX3_passes_49 (lv_at hl 1 rfl) ?_
    refine lv_icmp_ne (tgt := 58) hx hb dX3_passes_51 (by decide) (fun h3 => ?_) (fun h3 => ?_)
    · replace hf := ite_f h3 hf
      refine lv_iconst (v := (0 : Int32)) hx hb dX3_passes_58 (by decide) ?_
      exact retZ E hW (Or.inl rfl) ⟨Option.some.inj hf, rfl⟩ dX3_passes_59
    · replace hf := ite_t h3 hf
      refine lv_iconst (v := (1 : Int32)) hx hb dX3_passes_54 (by decide) ?_
      refine lv_goto (tgt := 59) hx hb dX3_passes_55 (by decide) ?_
      exact retZ E hW (Or.inr rfl) ⟨Option.some.inj hf, rfl⟩ dX3_passes_59
  · replace hf := ite_f h2 hf
    by_cases h4 : r1 = (1 : Int32)
    · replace hf := ite_t h4 hf
      refine lv_lookup (off := 39) (tgt := 60) hx hb dX3_passes_21 (by decide) (by first | (rw [h4]; done) | (rw [h4]; rfl)) (by decide) ?_
      refine lv_iload_n hx hb dX3_passes_60 rfl (lv_at hl 4 rfl) ?_
      refine lv_iload hx hb dX3_passes_61 (lv_at hl 1 rfl) ?_
      refine lv_icmp_lt (tgt := 76) hx hb dX3_passes_63 (by decide) (fun h5 => ?_) (fun h5 => ?_)
      · replace hf := ite_t h5 hf
        refine lv_iconst (v := (0 : Int32)) hx hb dX3_passes_76 (by decide) ?_
        exact retZ E hW (Or.inl rfl) ⟨Option.some.inj hf, rfl⟩ dX3_passes_77
      · replace hf := ite_f h5 hf
        refine lv_iload_n hx hb dX3_passes_66 rfl (lv_at hl 4 rfl) ?_
        refine lv_iload hx hb dX3_passes_67 (lv_at hl 0 rfl) ?_
        refine lv_icmp_gt (tgt := 76) hx hb dX3_passes_69 (by decide) (fun h6 => ?_) (fun h6 => ?_)
        · replace hf := ite_t h6 hf
          refine lv_iconst (v := (0 : Int32)) hx hb dX3_passes_76 (by decide) ?_
          exact retZ E hW (Or.inl rfl) ⟨Option.some.inj hf, rfl⟩ dX3_passes_77
        · replace hf := ite_f h6 hf
          refine lv_iconst (v := (1 : Int32)) hx hb dX3_passes_72 (by decide) ?_
          refine lv_goto (tgt := 77) hx hb dX3_passes_73 (by decide) ?_
          exact retZ E hW (Or.inr rfl) ⟨Option.some.inj hf, rfl⟩ dX3_passes_77
    · replace hf := ite_f h4 hf
      refine lv_lookup (off := 57) (tgt := 78) hx hb dX3_passes_21 (by decide) (by show Op.lookupswitch.offset [(0, 27), (1, 39)] _ _ = _; first | (rw [lv_osw h2 (a := 0) (by decide), lv_osw h4 (a := 1) (by decide)]; done) | (rw [lv_osw h2 (a := 0) (by decide), lv_osw h4 (a := 1) (by decide)]; rfl)) (by decide) ?_
      refine lv_iload_n hx hb dX3_passes_78 rfl (lv_at hl 5 rfl) ?_
      refine lv_iload hx hb dX3_passes_79 (lv_at hl 1 rfl) ?_
      refine lv_ishr hx hb dX3_passes_81 ?_
      refine lv_iconst (v := (1 : Int32)) hx hb dX3_passes_82 (by decide) ?_
      refine lv_iand hx hb dX3_passes_83 ?_
      refine lv_if_eq (tgt := 91) hx hb dX3_passes_84 (by decide) (fun h7 => ?_) (fun h7 => ?_)
      · replace hf := ite_t h7 hf
        refine lv_iconst (v := (0 : Int32)) hx hb dX3_passes_91 (by decide) ?_
        exact retZ E hW (Or.inl rfl) ⟨Option.some.inj hf, rfl⟩ dX3_passes_92
      · replace hf := ite_f h7 hf
        refine lv_iconst (v := (1 : Int32)) hx hb dX3_passes_87 (by decide) ?_
        refine lv_goto (tgt := 92) hx hb dX3_passes_88 (by decide) ?_
        exact retZ E hW (Or.inr rfl) ⟨Option.some.inj hf, rfl⟩ dX3_passes_92
def f_X3_size (cs : CS) : Option (Int32) := some (ci cs 9)
def rm_X3_size : Room := { frames := 0, cells := 0, slots := 0, locals := 0 }
set_option maxHeartbeats 4000000 in
set_option maxRecDepth 100000 in
theorem c_X3_size (l : Launch) {X : XT} {B : Nat} {cs : CS} {ms : MS} {o : Nat → Int64} {r : Int32} (hf : f_X3_size cs  = some r) : Met l yX3_size (.code yX3_size cX3_size 1 (some .int) :: BIG) rm_X3_size (Pre X B (cs, ms, o) [.ref (X.1 3)]) (QI X B r (cs, ms, o)) 0 0 (Ab B) := by
  refine entry (by decide +kernel) rfl (Nat.le_of_ble_eq_true rfl) (fun p e s m below meth c ls E hW hl => ?_)
  obtain ⟨hx, hb, hml, hown, hts, -⟩ := id E
  replace hl : lv_has ls 1 [(0, .ref (X.1 3))] := hl
  unfold f_X3_size at hf
  refine lv_aload_n hx hb dX3_size_0 rfl (lv_at hl 0 rfl) ?_
  refine rg_X3_26 E hW dX3_size_1 ?_
  exact retI E hW ⟨Option.some.inj hf, rfl⟩ dX3_size_4
def f_X3_stepAt (cs : CS) (v1 : Int32) : Option (Int32) := if v1 < 0 then (some (0 : Int32)) else (if (ci cs 9) ≤ v1 then (some (0 : Int32)) else (if (100 : Int32) ≤ v1 then (some (0 : Int32)) else ((ldI (ca cs 19) 100 v1).bind fun q5 => some q5)))
def rm_X3_stepAt : Room := { frames := 0, cells := 0, slots := 0, locals := 0 }
set_option maxHeartbeats 4000000 in
set_option maxRecDepth 100000 in
theorem c_X3_stepAt (l : Launch) {X : XT} {B : Nat} {cs : CS} {ms : MS} {o : Nat → Int64} {v1 : Int32} {r : Int32} (hf : f_X3_stepAt cs v1 = some r) : Met l yX3_stepAt (.code yX3_stepAt cX3_stepAt 2 (some .int) :: BIG) rm_X3_stepAt (Pre X B (cs, ms, o) [.ref (X.1 3), .int v1]) (QI X B r (cs, ms, o)) 0 0 (Ab B) := by
  refine entry (by decide +kernel) rfl (Nat.le_of_ble_eq_true rfl) (fun p e s m below meth c ls E hW hl => ?_)
  obtain ⟨hx, hb, hml, hown, hts, -⟩ := id E
  replace hl : lv_has ls 2 [(0, .ref (X.1 3)), (1, .int v1)] := hl
  unfold f_X3_stepAt at hf
  refine lv_iload_n hx hb dX3_stepAt_0 rfl (lv_at hl 1 rfl) ?_
  refine lv_if_lt (tgt := 30) hx hb dX3_stepAt_1 (by decide) (fun h1 => ?_) (fun h1 => ?_)
  · replace hf := ite_t h1 hf
    refine lv_iconst (v := (0 : Int32)) hx hb dX3_stepAt_30 (by decide) ?_
    exact retI E hW ⟨Option.some.inj hf, rfl⟩ dX3_stepAt_31
  · replace hf := ite_f h1 hf
    refine lv_iload_n hx hb dX3_stepAt_4 rfl (lv_at hl 1 rfl) ?_
    refine lv_aload_n hx hb dX3_stepAt_5 rfl (lv_at hl 0 rfl) ?_
    refine rg_X3_26 E hW dX3_stepAt_6 ?_
    refine lv_icmp_ge (tgt := 30) hx hb dX3_stepAt_9 (by decide) (fun h2 => ?_) (fun h2 => ?_)
    · replace hf := ite_t h2 hf
      refine lv_iconst (v := (0 : Int32)) hx hb dX3_stepAt_30 (by decide) ?_
      exact retI E hW ⟨Option.some.inj hf, rfl⟩ dX3_stepAt_31
    · replace hf := ite_f h2 hf
      refine lv_iload_n hx hb dX3_stepAt_12 rfl (lv_at hl 1 rfl) ?_
      refine lv_aload_n hx hb dX3_stepAt_13 rfl (lv_at hl 0 rfl) ?_
      refine rg_X3_15 E hW dX3_stepAt_14 ?_
      refine rl_19 E hW dX3_stepAt_17 ?_
      refine lv_icmp_ge (tgt := 30) hx hb dX3_stepAt_18 (by decide) (fun h3 => ?_) (fun h3 => ?_)
      · replace hf := ite_t h3 hf
        refine lv_iconst (v := (0 : Int32)) hx hb dX3_stepAt_30 (by decide) ?_
        exact retI E hW ⟨Option.some.inj hf, rfl⟩ dX3_stepAt_31
      · replace hf := ite_f h3 hf
        refine lv_aload_n hx hb dX3_stepAt_21 rfl (lv_at hl 0 rfl) ?_
        refine rg_X3_15 E hW dX3_stepAt_22 ?_
        refine lv_iload_n hx hb dX3_stepAt_25 rfl (lv_at hl 1 rfl) ?_
        obtain ⟨v4, hf⟩ := ldI_e hf
        refine ra_19 E hW v4 dX3_stepAt_26 ?_
        refine lv_goto (tgt := 31) hx hb dX3_stepAt_27 (by decide) ?_
        exact retI E hW ⟨Option.some.inj hf, rfl⟩ dX3_stepAt_31
def f_X3_byteHere (cs : CS) : Option (Int32) := if (ci cs 10) = 0 then (if (ci cs 8) < 0 then (some (-1 : Int32)) else (if (ci cs 7) ≤ (ci cs 8) then (some (-1 : Int32)) else (if (100 : Int32) ≤ (ci cs 8) then (some (-1 : Int32)) else ((ldI (ca cs 18) 100 (ci cs 8)).bind fun q6 => some (q6 &&& (255 : Int32)))))) else (some (-1 : Int32))
def rm_X3_byteHere : Room := { frames := 0, cells := 0, slots := 0, locals := 0 }
set_option maxHeartbeats 4000000 in
set_option maxRecDepth 100000 in
theorem c_X3_byteHere (l : Launch) {X : XT} {B : Nat} {cs : CS} {ms : MS} {o : Nat → Int64} {r : Int32} (hf : f_X3_byteHere cs  = some r) : Met l yX3_byteHere (.code yX3_byteHere cX3_byteHere 1 (some .int) :: BIG) rm_X3_byteHere (Pre X B (cs, ms, o) [.ref (X.1 3)]) (QI X B r (cs, ms, o)) 0 0 (Ab B) := by
  refine entry (by decide +kernel) rfl (Nat.le_of_ble_eq_true rfl) (fun p e s m below meth c ls E hW hl => ?_)
  obtain ⟨hx, hb, hml, hown, hts, -⟩ := id E
  replace hl : lv_has ls 1 [(0, .ref (X.1 3))] := hl
  unfold f_X3_byteHere at hf
  refine lv_aload_n hx hb dX3_byteHere_0 rfl (lv_at hl 0 rfl) ?_
  refine rg_X3_29 E hW dX3_byteHere_1 ?_
  refine lv_if_ne (tgt := 53) hx hb dX3_byteHere_4 (by decide) (fun h1 => ?_) (fun h1 => ?_)
  · replace hf := ite_f h1 hf
    refine lv_iconst (v := (-1 : Int32)) hx hb dX3_byteHere_53 (by decide) ?_
    exact retI E hW ⟨Option.some.inj hf, rfl⟩ dX3_byteHere_54
  · replace hf := ite_t h1 hf
    refine lv_aload_n hx hb dX3_byteHere_7 rfl (lv_at hl 0 rfl) ?_
    refine rg_X3_23 E hW dX3_byteHere_8 ?_
    refine lv_if_lt (tgt := 53) hx hb dX3_byteHere_11 (by decide) (fun h2 => ?_) (fun h2 => ?_)
    · replace hf := ite_t h2 hf
      refine lv_iconst (v := (-1 : Int32)) hx hb dX3_byteHere_53 (by decide) ?_
      exact retI E hW ⟨Option.some.inj hf, rfl⟩ dX3_byteHere_54
    · replace hf := ite_f h2 hf
      refine lv_aload_n hx hb dX3_byteHere_14 rfl (lv_at hl 0 rfl) ?_
      refine rg_X3_23 E hW dX3_byteHere_15 ?_
      refine lv_aload_n hx hb dX3_byteHere_18 rfl (lv_at hl 0 rfl) ?_
      refine rg_X3_19 E hW dX3_byteHere_19 ?_
      refine lv_icmp_ge (tgt := 53) hx hb dX3_byteHere_22 (by decide) (fun h3 => ?_) (fun h3 => ?_)
      · replace hf := ite_t h3 hf
        refine lv_iconst (v := (-1 : Int32)) hx hb dX3_byteHere_53 (by decide) ?_
        exact retI E hW ⟨Option.some.inj hf, rfl⟩ dX3_byteHere_54
      · replace hf := ite_f h3 hf
        refine lv_aload_n hx hb dX3_byteHere_25 rfl (lv_at hl 0 rfl) ?_
        refine rg_X3_23 E hW dX3_byteHere_26 ?_
        refine lv_aload_n hx hb dX3_byteHere_29 rfl (lv_at hl 0 rfl) ?_
        refine rg_X3_11 E hW dX3_byteHere_30 ?_
        refine rl_18 E hW dX3_byteHere_33 ?_
        refine lv_icmp_ge (tgt := 53) hx hb dX3_byteHere_34 (by decide) (fun h4 => ?_) (fun h4 => ?_)
        · replace hf := ite_t h4 hf
          refine lv_iconst (v := (-1 : Int32)) hx hb dX3_byteHere_53 (by decide) ?_
          exact retI E hW ⟨Option.some.inj hf, rfl⟩ dX3_byteHere_54
        · replace hf := ite_f h4 hf
          refine lv_aload_n hx hb dX3_byteHere_37 rfl (lv_at hl 0 rfl) ?_
          refine rg_X3_11 E hW dX3_byteHere_38 ?_
          refine lv_aload_n hx hb dX3_byteHere_41 rfl (lv_at hl 0 rfl) ?_
          refine rg_X3_23 E hW dX3_byteHere_42 ?_
          obtain ⟨v5, hf⟩ := ldI_e hf
          refine ra_18 E hW v5 dX3_byteHere_45 ?_
          refine lv_sipush (v := (255 : Int32)) hx hb dX3_byteHere_46 (by decide) ?_
          refine lv_iand hx hb dX3_byteHere_49 ?_
          refine lv_goto (tgt := 54) hx hb dX3_byteHere_50 (by decide) ?_
          exact retI E hW ⟨Option.some.inj hf, rfl⟩ dX3_byteHere_54
def f_X3_nextByte_0 : Nat → CS → Option (Int32 × CS)
  | 0, _ => none
  | n + 1, cs => if (ci cs 10) = 0 then (if (ci cs 7) ≤ (ci cs 8) then ((f_X3_byteHere cs ).bind fun r4 => some (r4, cs)) else ((f_X3_byteHere cs ).bind fun r5 => if r5 = (32 : Int32) then (f_X3_nextByte_0 n (ciU cs 8 ((ci cs 8) + (1 : Int32))) ) else ((f_X3_byteHere cs ).bind fun r7 => some (r7, cs)))) else ((f_X3_byteHere cs ).bind fun r2 => some (r2, cs))
def f_X3_nextByte (cs : CS) : Option (Int32 × CS) := f_X3_nextByte_0 1000 cs 
def rm_X3_nextByte : Room := { frames := 1, cells := 0, slots := 0, locals := 20 }
set_option maxHeartbeats 4000000 in
set_option maxRecDepth 100000 in
theorem w_X3_nextByte_0 {p : Program} {l : Launch} {e : Env} {s : State} {m : MethodId} {args : Array Value} {below : List Frame} {meth : Method} {c : Code} {X : XT} {B : Nat} {ms : MS} {o : Nat → Int64} {r : Int32} {S9 : CS} (E : Ev X B p s m args meth c RX3 cX3_nextByte 1 (some .int)) : ∀ (n : Nat) (cs : CS) (H : Heap) (locs : List Loc) (ls : Array Slot), f_X3_nextByte_0 n cs  = some (r, S9) → Ws X B s.heap H locs (cs, ms, o) → lv_has ls 1 [(0, .ref (X.1 3))] → W p l e rm_X3_nextByte s m args below meth c H locs 0 0 (MQ below (QI X B r (S9, ms, o)) args s 0 0 (Ab B)) (F0 m 0 ls []) := by
  obtain ⟨hx, hb, hml, hown, hts, -⟩ := id E
  intro n
  induction n with
  | zero => intro cs  H locs ls hf; exact absurd hf nofun
  | succ n ih =>
    intro cs  H locs ls hf hW hl
    rw [f_X3_nextByte_0] at hf
    refine lv_aload_n hx hb dX3_nextByte_0 rfl (lv_at hl 0 rfl) ?_
    refine rg_X3_29 E hW dX3_nextByte_1 ?_
    refine lv_if_ne (tgt := 40) hx hb dX3_nextByte_4 (by decide) (fun h1 => ?_) (fun h1 => ?_)
    · replace hf := ite_f h1 hf
      refine lv_aload_n hx hb dX3_nextByte_40 rfl (lv_at hl 0 rfl) ?_
      obtain ⟨r2, hc, hf⟩ := b1_e hf
      refine callVI (As := []) (rest := []) E hW (c_X3_byteHere l hc) lk_X3_85 rcv_X3 (Nat.le_of_ble_eq_true rfl) (Nat.le_of_ble_eq_true rfl) (Nat.le_of_ble_eq_true rfl) (Nat.le_of_ble_eq_true rfl) hl.1 (Nat.le_of_ble_eq_true rfl) dX3_nextByte_41 (fun H locs hW => ?_)
      exact retI E hW (e2C hf) dX3_nextByte_44
    · replace hf := ite_t h1 hf
      refine lv_aload_n hx hb dX3_nextByte_7 rfl (lv_at hl 0 rfl) ?_
      refine rg_X3_23 E hW dX3_nextByte_8 ?_
      refine lv_aload_n hx hb dX3_nextByte_11 rfl (lv_at hl 0 rfl) ?_
      refine rg_X3_19 E hW dX3_nextByte_12 ?_
      refine lv_icmp_ge (tgt := 40) hx hb dX3_nextByte_15 (by decide) (fun h3 => ?_) (fun h3 => ?_)
      · replace hf := ite_t h3 hf
        refine lv_aload_n hx hb dX3_nextByte_40 rfl (lv_at hl 0 rfl) ?_
        obtain ⟨r4, hc, hf⟩ := b1_e hf
        refine callVI (As := []) (rest := []) E hW (c_X3_byteHere l hc) lk_X3_85 rcv_X3 (Nat.le_of_ble_eq_true rfl) (Nat.le_of_ble_eq_true rfl) (Nat.le_of_ble_eq_true rfl) (Nat.le_of_ble_eq_true rfl) hl.1 (Nat.le_of_ble_eq_true rfl) dX3_nextByte_41 (fun H locs hW => ?_)
        exact retI E hW (e2C hf) dX3_nextByte_44
      · replace hf := ite_f h3 hf
        refine lv_aload_n hx hb dX3_nextByte_18 rfl (lv_at hl 0 rfl) ?_
        obtain ⟨r5, hc, hf⟩ := b1_e hf
        refine callVI (As := []) (rest := []) E hW (c_X3_byteHere l hc) lk_X3_85 rcv_X3 (Nat.le_of_ble_eq_true rfl) (Nat.le_of_ble_eq_true rfl) (Nat.le_of_ble_eq_true rfl) (Nat.le_of_ble_eq_true rfl) hl.1 (Nat.le_of_ble_eq_true rfl) dX3_nextByte_19 (fun H locs hW => ?_)
        refine lv_bipush (v := (32 : Int32)) hx hb dX3_nextByte_22 (by decide) ?_
        refine lv_icmp_ne (tgt := 40) hx hb dX3_nextByte_24 (by decide) (fun h6 => ?_) (fun h6 => ?_)
        · replace hf := ite_f h6 hf
          refine lv_aload_n hx hb dX3_nextByte_40 rfl (lv_at hl 0 rfl) ?_
          obtain ⟨r7, hc, hf⟩ := b1_e hf
          refine callVI (As := []) (rest := []) E hW (c_X3_byteHere l hc) lk_X3_85 rcv_X3 (Nat.le_of_ble_eq_true rfl) (Nat.le_of_ble_eq_true rfl) (Nat.le_of_ble_eq_true rfl) (Nat.le_of_ble_eq_true rfl) hl.1 (Nat.le_of_ble_eq_true rfl) dX3_nextByte_41 (fun H locs hW => ?_)
          exact retI E hW (e2C hf) dX3_nextByte_44
        · replace hf := ite_t h6 hf
          refine lv_aload_n hx hb dX3_nextByte_27 rfl (lv_at hl 0 rfl) ?_
          refine lv_dup hx hb dX3_nextByte_28 rfl ?_
          refine rg_X3_23 E hW dX3_nextByte_29 ?_
          refine lv_iconst (v := (1 : Int32)) hx hb dX3_nextByte_32 (by decide) ?_
          refine lv_iadd hx hb dX3_nextByte_33 ?_
          refine rp_X3_23 E hW dX3_nextByte_34 (fun H locs hW => ?_)
          refine lv_goto (tgt := 0) hx hb dX3_nextByte_37 (by decide) ?_
          exact ih _ _ _ _ hf hW (lv_sub hl [0] rfl)
set_option maxHeartbeats 4000000 in
set_option maxRecDepth 100000 in
theorem c_X3_nextByte (l : Launch) {X : XT} {B : Nat} {cs : CS} {ms : MS} {o : Nat → Int64} {r : Int32} {S9 : CS} (hf : f_X3_nextByte cs  = some (r, S9)) : Met l yX3_nextByte (.code yX3_nextByte cX3_nextByte 1 (some .int) :: BIG) rm_X3_nextByte (Pre X B (cs, ms, o) [.ref (X.1 3)]) (QI X B r (S9, ms, o)) 0 0 (Ab B) := by
  refine entry (by decide +kernel) rfl (Nat.le_of_ble_eq_true rfl) (fun p e s m below meth c ls E hW hl => ?_)
  obtain ⟨hx, hb, hml, hown, hts, -⟩ := id E
  replace hl : lv_has ls 1 [(0, .ref (X.1 3))] := hl
  unfold f_X3_nextByte at hf
  exact w_X3_nextByte_0 E 1000 _ _ _ _ hf hW (lv_sub hl [0] rfl)
def f_X3_add (cs : CS) (v1 : Int32) (v2 : Int32) (v3 : Int32) : Option (CS) := if (ci cs 10) = 0 then (if (ci cs 9) < 0 then (some cs) else (if (100 : Int32) ≤ (ci cs 9) then (some cs) else (ixr 100 (ci cs 9) <| some (ciU (caU cs 19 ((ci cs 9)).toNatClampNeg (((v1 <<< ((28 : Int32) &&& 31)) ||| (v2 <<< ((14 : Int32) &&& 31))) ||| v3)) 9 ((ci (caU cs 19 ((ci cs 9)).toNatClampNeg (((v1 <<< ((28 : Int32) &&& 31)) ||| (v2 <<< ((14 : Int32) &&& 31))) ||| v3)) 9) + (1 : Int32)))))) else (some cs)
def rm_X3_add : Room := { frames := 0, cells := 0, slots := 0, locals := 0 }
set_option maxHeartbeats 4000000 in
set_option maxRecDepth 100000 in
theorem c_X3_add (l : Launch) {X : XT} {B : Nat} {cs : CS} {ms : MS} {o : Nat → Int64} {v1 : Int32} {v2 : Int32} {v3 : Int32} {S9 : CS} (hf : f_X3_add cs v1 v2 v3 = some S9) : Met l yX3_add (.code yX3_add cX3_add 4 none :: BIG) rm_X3_add (Pre X B (cs, ms, o) [.ref (X.1 3), .int v1, .int v2, .int v3]) (QV X B (S9, ms, o)) 0 0 (Ab B) := by
  refine entry (by decide +kernel) rfl (Nat.le_of_ble_eq_true rfl) (fun p e s m below meth c ls E hW hl => ?_)
  obtain ⟨hx, hb, hml, hown, hts, -⟩ := id E
  replace hl : lv_has ls 4 [(0, .ref (X.1 3)), (1, .int v1), (2, .int v2), (3, .int v3)] := hl
  unfold f_X3_add at hf
  refine lv_aload_n hx hb dX3_add_0 rfl (lv_at hl 0 rfl) ?_
  refine rg_X3_29 E hW dX3_add_1 ?_
  refine lv_if_ne (tgt := 56) hx hb dX3_add_4 (by decide) (fun h1 => ?_) (fun h1 => ?_)
  · replace hf := ite_f h1 hf
    exact retV E hW (e1C hf) dX3_add_56
  · replace hf := ite_t h1 hf
    refine lv_aload_n hx hb dX3_add_7 rfl (lv_at hl 0 rfl) ?_
    refine rg_X3_26 E hW dX3_add_8 ?_
    refine lv_if_lt (tgt := 56) hx hb dX3_add_11 (by decide) (fun h2 => ?_) (fun h2 => ?_)
    · replace hf := ite_t h2 hf
      exact retV E hW (e1C hf) dX3_add_56
    · replace hf := ite_f h2 hf
      refine lv_aload_n hx hb dX3_add_14 rfl (lv_at hl 0 rfl) ?_
      refine rg_X3_26 E hW dX3_add_15 ?_
      refine lv_aload_n hx hb dX3_add_18 rfl (lv_at hl 0 rfl) ?_
      refine rg_X3_15 E hW dX3_add_19 ?_
      refine rl_19 E hW dX3_add_22 ?_
      refine lv_icmp_ge (tgt := 56) hx hb dX3_add_23 (by decide) (fun h3 => ?_) (fun h3 => ?_)
      · replace hf := ite_t h3 hf
        exact retV E hW (e1C hf) dX3_add_56
      · replace hf := ite_f h3 hf
        refine lv_aload_n hx hb dX3_add_26 rfl (lv_at hl 0 rfl) ?_
        refine rg_X3_15 E hW dX3_add_27 ?_
        refine lv_aload_n hx hb dX3_add_30 rfl (lv_at hl 0 rfl) ?_
        refine rg_X3_26 E hW dX3_add_31 ?_
        refine lv_iload_n hx hb dX3_add_34 rfl (lv_at hl 1 rfl) ?_
        refine lv_bipush (v := (28 : Int32)) hx hb dX3_add_35 (by decide) ?_
        refine lv_ishl hx hb dX3_add_37 ?_
        refine lv_iload_n hx hb dX3_add_38 rfl (lv_at hl 2 rfl) ?_
        refine lv_bipush (v := (14 : Int32)) hx hb dX3_add_39 (by decide) ?_
        refine lv_ishl hx hb dX3_add_41 ?_
        refine lv_ior hx hb dX3_add_42 ?_
        refine lv_iload_n hx hb dX3_add_43 rfl (lv_at hl 3 rfl) ?_
        refine lv_ior hx hb dX3_add_44 ?_
        obtain ⟨v4, hf⟩ := ixr_e hf
        refine rs_19 E hW v4 dX3_add_45 (fun H locs hW => ?_)
        refine lv_aload_n hx hb dX3_add_46 rfl (lv_at hl 0 rfl) ?_
        refine lv_dup hx hb dX3_add_47 rfl ?_
        refine rg_X3_26 E hW dX3_add_48 ?_
        refine lv_iconst (v := (1 : Int32)) hx hb dX3_add_51 (by decide) ?_
        refine lv_iadd hx hb dX3_add_52 ?_
        refine rp_X3_26 E hW dX3_add_53 (fun H locs hW => ?_)
        exact retV E hW (e1C hf) dX3_add_56
def f_X3_comes (cs : CS) (v1 : Int32) : Option (Int32 × CS) := b2 (f_X3_nextByte cs ) fun r2 cs1 => if r2 = v1 then (some ((1 : Int32), (ciU cs1 8 ((ci cs1 8) + (1 : Int32))))) else (some ((0 : Int32), cs1))
def rm_X3_comes : Room := { frames := 2, cells := 0, slots := 0, locals := 40 }
set_option maxHeartbeats 4000000 in
set_option maxRecDepth 100000 in
theorem c_X3_comes (l : Launch) {X : XT} {B : Nat} {cs : CS} {ms : MS} {o : Nat → Int64} {v1 : Int32} {r : Int32} {S9 : CS} (hf : f_X3_comes cs v1 = some (r, S9)) : Met l yX3_comes (.code yX3_comes cX3_comes 2 (some .boolean) :: BIG) rm_X3_comes (Pre X B (cs, ms, o) [.ref (X.1 3), .int v1]) (QI X B r (S9, ms, o)) 0 0 (Ab B) := by
  refine entry (by decide +kernel) rfl (Nat.le_of_ble_eq_true rfl) (fun p e s m below meth c ls E hW hl => ?_)
  obtain ⟨hx, hb, hml, hown, hts, -⟩ := id E
  replace hl : lv_has ls 2 [(0, .ref (X.1 3)), (1, .int v1)] := hl
  unfold f_X3_comes at hf
  refine lv_aload_n hx hb dX3_comes_0 rfl (lv_at hl 0 rfl) ?_
  obtain ⟨r2, cs1, hc, hf⟩ := b2_e hf
  refine callVI (As := []) (rest := []) E hW (c_X3_nextByte l hc) lk_X3_50 rcv_X3 (Nat.le_of_ble_eq_true rfl) (Nat.le_of_ble_eq_true rfl) (Nat.le_of_ble_eq_true rfl) (Nat.le_of_ble_eq_true rfl) hl.1 (Nat.le_of_ble_eq_true rfl) dX3_comes_1 (fun H locs hW => ?_)
  refine lv_iload_n hx hb dX3_comes_4 rfl (lv_at hl 1 rfl) ?_
  refine lv_icmp_eq (tgt := 10) hx hb dX3_comes_5 (by decide) (fun h3 => ?_) (fun h3 => ?_)
  · replace hf := ite_t h3 hf
    refine lv_aload_n hx hb dX3_comes_10 rfl (lv_at hl 0 rfl) ?_
    refine lv_dup hx hb dX3_comes_11 rfl ?_
    refine rg_X3_23 E hW dX3_comes_12 ?_
    refine lv_iconst (v := (1 : Int32)) hx hb dX3_comes_15 (by decide) ?_
    refine lv_iadd hx hb dX3_comes_16 ?_
    refine rp_X3_23 E hW dX3_comes_17 (fun H locs hW => ?_)
    refine lv_iconst (v := (1 : Int32)) hx hb dX3_comes_20 (by decide) ?_
    exact retZ E hW (Or.inr rfl) (e2C hf) dX3_comes_21
  · replace hf := ite_f h3 hf
    refine lv_iconst (v := (0 : Int32)) hx hb dX3_comes_8 (by decide) ?_
    exact retZ E hW (Or.inl rfl) (e2C hf) dX3_comes_9
def f_X3_must (cs : CS) (v1 : Int32) : Option (CS) := b2 (f_X3_nextByte cs ) fun r2 cs1 => if r2 = v1 then (some (ciU cs1 8 ((ci cs1 8) + (1 : Int32)))) else (some (ciU cs1 10 (1 : Int32)))
def rm_X3_must : Room := { frames := 2, cells := 0, slots := 0, locals := 40 }
set_option maxHeartbeats 4000000 in
set_option maxRecDepth 100000 in
theorem c_X3_must (l : Launch) {X : XT} {B : Nat} {cs : CS} {ms : MS} {o : Nat → Int64} {v1 : Int32} {S9 : CS} (hf : f_X3_must cs v1 = some S9) : Met l yX3_must (.code yX3_must cX3_must 2 none :: BIG) rm_X3_must (Pre X B (cs, ms, o) [.ref (X.1 3), .int v1]) (QV X B (S9, ms, o)) 0 0 (Ab B) := by
  refine entry (by decide +kernel) rfl (Nat.le_of_ble_eq_true rfl) (fun p e s m below meth c ls E hW hl => ?_)
  obtain ⟨hx, hb, hml, hown, hts, -⟩ := id E
  replace hl : lv_has ls 2 [(0, .ref (X.1 3)), (1, .int v1)] := hl
  unfold f_X3_must at hf
  refine lv_aload_n hx hb dX3_must_0 rfl (lv_at hl 0 rfl) ?_
  obtain ⟨r2, cs1, hc, hf⟩ := b2_e hf
  refine callVI (As := []) (rest := []) E hW (c_X3_nextByte l hc) lk_X3_50 rcv_X3 (Nat.le_of_ble_eq_true rfl) (Nat.le_of_ble_eq_true rfl) (Nat.le_of_ble_eq_true rfl) (Nat.le_of_ble_eq_true rfl) hl.1 (Nat.le_of_ble_eq_true rfl) dX3_must_1 (fun H locs hW => ?_)
  refine lv_iload_n hx hb dX3_must_4 rfl (lv_at hl 1 rfl) ?_
  refine lv_icmp_ne (tgt := 21) hx hb dX3_must_5 (by decide) (fun h3 => ?_) (fun h3 => ?_)
  · replace hf := ite_f h3 hf
    refine lv_aload_n hx hb dX3_must_21 rfl (lv_at hl 0 rfl) ?_
    refine lv_iconst (v := (1 : Int32)) hx hb dX3_must_22 (by decide) ?_
    refine rp_X3_29 E hW (Or.inr rfl) dX3_must_23 (fun H locs hW => ?_)
    exact retV E hW (e1C hf) dX3_must_26
  · replace hf := ite_t h3 hf
    refine lv_aload_n hx hb dX3_must_8 rfl (lv_at hl 0 rfl) ?_
    refine lv_dup hx hb dX3_must_9 rfl ?_
    refine rg_X3_23 E hW dX3_must_10 ?_
    refine lv_iconst (v := (1 : Int32)) hx hb dX3_must_13 (by decide) ?_
    refine lv_iadd hx hb dX3_must_14 ?_
    refine rp_X3_23 E hW dX3_must_15 (fun H locs hW => ?_)
    refine lv_goto (tgt := 26) hx hb dX3_must_18 (by decide) ?_
    exact retV E hW (e1C hf) dX3_must_26
def f_X3_readLetter (cs : CS) : Option (Int32 × CS) := b2 (f_X3_nextByte cs ) fun r2 cs1 => if r2 < (97 : Int32) then (some ((0 : Int32), (ciU cs1 10 (1 : Int32)))) else (if r2 ≤ (104 : Int32) then (some ((r2 - (97 : Int32)), (ciU cs1 8 ((ci cs1 8) + (1 : Int32))))) else (some ((0 : Int32), (ciU cs1 10 (1 : Int32)))))
def rm_X3_readLetter : Room := { frames := 2, cells := 0, slots := 0, locals := 40 }
set_option maxHeartbeats 4000000 in
set_option maxRecDepth 100000 in
theorem c_X3_readLetter (l : Launch) {X : XT} {B : Nat} {cs : CS} {ms : MS} {o : Nat → Int64} {r : Int32} {S9 : CS} (hf : f_X3_readLetter cs  = some (r, S9)) : Met l yX3_readLetter (.code yX3_readLetter cX3_readLetter 2 (some .int) :: BIG) rm_X3_readLetter (Pre X B (cs, ms, o) [.ref (X.1 3)]) (QI X B r (S9, ms, o)) 0 0 (Ab B) := by
  refine entry (by decide +kernel) rfl (Nat.le_of_ble_eq_true rfl) (fun p e s m below meth c ls E hW hl => ?_)
  obtain ⟨hx, hb, hml, hown, hts, -⟩ := id E
  replace hl : lv_has ls 2 [(0, .ref (X.1 3))] := hl
  unfold f_X3_readLetter at hf
  refine lv_aload_n hx hb dX3_readLetter_0 rfl (lv_at hl 0 rfl) ?_
  obtain ⟨r2, cs1, hc, hf⟩ := b2_e hf
  refine callVI (As := []) (rest := []) E hW (c_X3_nextByte l hc) lk_X3_50 rcv_X3 (Nat.le_of_ble_eq_true rfl) (Nat.le_of_ble_eq_true rfl) (Nat.le_of_ble_eq_true rfl) (Nat.le_of_ble_eq_true rfl) hl.1 (Nat.le_of_ble_eq_true rfl) dX3_readLetter_1 (fun H locs hW => ?_)
  refine lv_istore_n (lv' := [_, _]) hx hb dX3_readLetter_4 rfl hl (by decide) rfl (fun ls hl => ?_)
  refine lv_iload_n hx hb dX3_readLetter_5 rfl (lv_at hl 0 rfl) ?_
  refine lv_bipush (v := (97 : Int32)) hx hb dX3_readLetter_6 (by decide) ?_
  refine lv_icmp_lt (tgt := 17) hx hb dX3_readLetter_8 (by decide) (fun h3 => ?_) (fun h3 => ?_)
  · replace hf := ite_t h3 hf
    refine lv_aload_n hx hb dX3_readLetter_17 rfl (lv_at hl 1 rfl) ?_
    refine lv_iconst (v := (1 : Int32)) hx hb dX3_readLetter_18 (by decide) ?_
    refine rp_X3_29 E hW (Or.inr rfl) dX3_readLetter_19 (fun H locs hW => ?_)
    refine lv_iconst (v := (0 : Int32)) hx hb dX3_readLetter_22 (by decide) ?_
    exact retI E hW (e2C hf) dX3_readLetter_23
  · replace hf := ite_f h3 hf
    refine lv_iload_n hx hb dX3_readLetter_11 rfl (lv_at hl 0 rfl) ?_
    refine lv_bipush (v := (104 : Int32)) hx hb dX3_readLetter_12 (by decide) ?_
    refine lv_icmp_le (tgt := 24) hx hb dX3_readLetter_14 (by decide) (fun h4 => ?_) (fun h4 => ?_)
    · replace hf := ite_t h4 hf
      refine lv_aload_n hx hb dX3_readLetter_24 rfl (lv_at hl 1 rfl) ?_
      refine lv_dup hx hb dX3_readLetter_25 rfl ?_
      refine rg_X3_23 E hW dX3_readLetter_26 ?_
      refine lv_iconst (v := (1 : Int32)) hx hb dX3_readLetter_29 (by decide) ?_
      refine lv_iadd hx hb dX3_readLetter_30 ?_
      refine rp_X3_23 E hW dX3_readLetter_31 (fun H locs hW => ?_)
      refine lv_iload_n hx hb dX3_readLetter_34 rfl (lv_at hl 0 rfl) ?_
      refine lv_bipush (v := (97 : Int32)) hx hb dX3_readLetter_35 (by decide) ?_
      refine lv_isub hx hb dX3_readLetter_37 ?_
      exact retI E hW (e2C hf) dX3_readLetter_38
    · replace hf := ite_f h4 hf
      refine lv_aload_n hx hb dX3_readLetter_17 rfl (lv_at hl 1 rfl) ?_
      refine lv_iconst (v := (1 : Int32)) hx hb dX3_readLetter_18 (by decide) ?_
      refine rp_X3_29 E hW (Or.inr rfl) dX3_readLetter_19 (fun H locs hW => ?_)
      refine lv_iconst (v := (0 : Int32)) hx hb dX3_readLetter_22 (by decide) ?_
      exact retI E hW (e2C hf) dX3_readLetter_23
def f_X3_isDigit (cs : CS) (v0 : Int32) : Option (Int32) := if v0 < (48 : Int32) then (some (0 : Int32)) else (if (57 : Int32) < v0 then (some (0 : Int32)) else (some (1 : Int32)))
def rm_X3_isDigit : Room := { frames := 0, cells := 0, slots := 0, locals := 0 }
set_option maxHeartbeats 4000000 in
set_option maxRecDepth 100000 in
theorem c_X3_isDigit (l : Launch) {X : XT} {B : Nat} {cs : CS} {ms : MS} {o : Nat → Int64} {v0 : Int32} {r : Int32} (hf : f_X3_isDigit cs v0 = some r) : Met l yX3_isDigit (.code yX3_isDigit cX3_isDigit 1 (some .boolean) :: BIG) rm_X3_isDigit (Pre X B (cs, ms, o) [.int v0]) (QI X B r (cs, ms, o)) 0 0 (Ab B) := by
  refine entry (by decide +kernel) rfl (Nat.le_of_ble_eq_true rfl) (fun p e s m below meth c ls E hW hl => ?_)
  obtain ⟨hx, hb, hml, hown, hts, -⟩ := id E
  replace hl : lv_has ls 1 [(0, .int v0)] := hl
  unfold f_X3_isDigit at hf
  refine lv_iload_n hx hb dX3_isDigit_0 rfl (lv_at hl 0 rfl) ?_
  refine lv_bipush (v := (48 : Int32)) hx hb dX3_isDigit_1 (by decide) ?_
  refine lv_icmp_lt (tgt := 16) hx hb dX3_isDigit_3 (by decide) (fun h1 => ?_) (fun h1 => ?_)
  · replace hf := ite_t h1 hf
    refine lv_iconst (v := (0 : Int32)) hx hb dX3_isDigit_16 (by decide) ?_
    exact retZ E hW (Or.inl rfl) ⟨Option.some.inj hf, rfl⟩ dX3_isDigit_17
  · replace hf := ite_f h1 hf
    refine lv_iload_n hx hb dX3_isDigit_6 rfl (lv_at hl 0 rfl) ?_
    refine lv_bipush (v := (57 : Int32)) hx hb dX3_isDigit_7 (by decide) ?_
    refine lv_icmp_gt (tgt := 16) hx hb dX3_isDigit_9 (by decide) (fun h2 => ?_) (fun h2 => ?_)
    · replace hf := ite_t h2 hf
      refine lv_iconst (v := (0 : Int32)) hx hb dX3_isDigit_16 (by decide) ?_
      exact retZ E hW (Or.inl rfl) ⟨Option.some.inj hf, rfl⟩ dX3_isDigit_17
    · replace hf := ite_f h2 hf
      refine lv_iconst (v := (1 : Int32)) hx hb dX3_isDigit_12 (by decide) ?_
      refine lv_goto (tgt := 17) hx hb dX3_isDigit_13 (by decide) ?_
      exact retZ E hW (Or.inr rfl) ⟨Option.some.inj hf, rfl⟩ dX3_isDigit_17
def f_X3_readNumber_23 : Nat → CS → Int32 → Int32 → Int32 → Option (Int32 × CS)
  | 0, _, _, _, _ => none
  | n + 1, cs, v1, v2, v3 => if (4 : Int32) ≤ v3 then (some (v2, cs)) else ((f_X3_isDigit cs v1).bind fun r6 => if r6 = 0 then (some (v2, cs)) else ((f_X3_byteHere (ciU cs 8 ((ci cs 8) + (1 : Int32))) ).bind fun r8 => f_X3_readNumber_23 n (ciU cs 8 ((ci cs 8) + (1 : Int32))) r8 (((v2 * (10 : Int32)) + v1) - (48 : Int32)) (v3 + (1 : Int32))))
def f_X3_readNumber (cs : CS) : Option (Int32 × CS) := b2 (f_X3_nextByte cs ) fun r2 cs1 => (f_X3_isDigit cs1 r2).bind fun r3 => if r3 = 0 then (some ((0 : Int32), (ciU cs1 10 (1 : Int32)))) else (f_X3_readNumber_23 1000 cs1 r2 (0 : Int32) (0 : Int32))
def rm_X3_readNumber : Room := { frames := 2, cells := 0, slots := 0, locals := 40 }
set_option maxHeartbeats 4000000 in
set_option maxRecDepth 100000 in
theorem w_X3_readNumber_23 {p : Program} {l : Launch} {e : Env} {s : State} {m : MethodId} {args : Array Value} {below : List Frame} {meth : Method} {c : Code} {X : XT} {B : Nat} {ms : MS} {o : Nat → Int64} {r : Int32} {S9 : CS} (E : Ev X B p s m args meth c RX3 cX3_readNumber 4 (some .int)) : ∀ (n : Nat) (cs : CS) (v1 : Int32) (v2 : Int32) (v3 : Int32) (H : Heap) (locs : List Loc) (ls : Array Slot), f_X3_readNumber_23 n cs v1 v2 v3 = some (r, S9) → Ws X B s.heap H locs (cs, ms, o) → lv_has ls 4 [(0, .ref (X.1 3)), (1, .int v1), (2, .int v2), (3, .int v3)] → W p l e rm_X3_readNumber s m args below meth c H locs 0 0 (MQ below (QI X B r (S9, ms, o)) args s 0 0 (Ab B)) (F0 m 23 ls []) := by
  obtain ⟨hx, hb, hml, hown, hts, -⟩ := id E
  intro n
  induction n with
  | zero => intro cs v1 v2 v3 H locs ls hf; exact absurd hf nofun
  | succ n ih =>
    intro cs v1 v2 v3 H locs ls hf hW hl
    rw [f_X3_readNumber_23] at hf
    refine lv_iload_n hx hb dX3_readNumber_23 rfl (lv_at hl 3 rfl) ?_
    refine lv_iconst (v := (4 : Int32)) hx hb dX3_readNumber_24 (by decide) ?_
    refine lv_icmp_ge (tgt := 66) hx hb dX3_readNumber_25 (by decide) (fun h5 => ?_) (fun h5 => ?_)
    · replace hf := ite_t h5 hf
      refine lv_iload_n hx hb dX3_readNumber_66 rfl (lv_at hl 2 rfl) ?_
      exact retI E hW (e2C hf) dX3_readNumber_67
    · replace hf := ite_f h5 hf
      refine lv_iload_n hx hb dX3_readNumber_28 rfl (lv_at hl 1 rfl) ?_
      obtain ⟨r6, hc, hf⟩ := b1_e hf
      refine callSI (As := [.int _]) (rest := []) E hW (c_X3_isDigit l hc) lk_X3_81 (Nat.le_of_ble_eq_true rfl) (Nat.le_of_ble_eq_true rfl) (Nat.le_of_ble_eq_true rfl) (Nat.le_of_ble_eq_true rfl) hl.1 (Nat.le_of_ble_eq_true rfl) dX3_readNumber_29 (fun H locs hW => ?_)
      refine lv_if_eq (tgt := 66) hx hb dX3_readNumber_32 (by decide) (fun h7 => ?_) (fun h7 => ?_)
      · replace hf := ite_t h7 hf
        refine lv_iload_n hx hb dX3_readNumber_66 rfl (lv_at hl 2 rfl) ?_
        exact retI E hW (e2C hf) dX3_readNumber_67
      · replace hf := ite_f h7 hf
        refine lv_iload_n hx hb dX3_readNumber_35 rfl (lv_at hl 2 rfl) ?_
        refine lv_bipush (v := (10 : Int32)) hx hb dX3_readNumber_36 (by decide) ?_
        refine lv_imul hx hb dX3_readNumber_38 ?_
        refine lv_iload_n hx hb dX3_readNumber_39 rfl (lv_at hl 1 rfl) ?_
        refine lv_iadd hx hb dX3_readNumber_40 ?_
        refine lv_bipush (v := (48 : Int32)) hx hb dX3_readNumber_41 (by decide) ?_
        refine lv_isub hx hb dX3_readNumber_43 ?_
        refine lv_istore_n (lv' := [_, _, _, _]) hx hb dX3_readNumber_44 rfl hl (by decide) rfl (fun ls hl => ?_)
        refine lv_aload_n hx hb dX3_readNumber_45 rfl (lv_at hl 1 rfl) ?_
        refine lv_dup hx hb dX3_readNumber_46 rfl ?_
        refine rg_X3_23 E hW dX3_readNumber_47 ?_
        refine lv_iconst (v := (1 : Int32)) hx hb dX3_readNumber_50 (by decide) ?_
        refine lv_iadd hx hb dX3_readNumber_51 ?_
        refine rp_X3_23 E hW dX3_readNumber_52 (fun H locs hW => ?_)
        refine lv_aload_n hx hb dX3_readNumber_55 rfl (lv_at hl 1 rfl) ?_
        obtain ⟨r8, hc, hf⟩ := b1_e hf
        refine callVI (As := []) (rest := []) E hW (c_X3_byteHere l hc) lk_X3_85 rcv_X3 (Nat.le_of_ble_eq_true rfl) (Nat.le_of_ble_eq_true rfl) (Nat.le_of_ble_eq_true rfl) (Nat.le_of_ble_eq_true rfl) hl.1 (Nat.le_of_ble_eq_true rfl) dX3_readNumber_56 (fun H locs hW => ?_)
        refine lv_istore_n (lv' := [_, _, _, _]) hx hb dX3_readNumber_59 rfl hl (by decide) rfl (fun ls hl => ?_)
        refine lv_iinc (v := _ + (1 : Int32)) (lv' := [_, _, _, _]) hx hb dX3_readNumber_60 hl (k := 3) rfl rfl (by decide) rfl (fun ls hl => ?_)
        refine lv_goto (tgt := 23) hx hb dX3_readNumber_63 (by decide) ?_
        exact ih _ _ _ _ _ _ _ hf hW (lv_sub hl [3, 1, 2, 0] rfl)
set_option maxHeartbeats 4000000 in
set_option maxRecDepth 100000 in
theorem c_X3_readNumber (l : Launch) {X : XT} {B : Nat} {cs : CS} {ms : MS} {o : Nat → Int64} {r : Int32} {S9 : CS} (hf : f_X3_readNumber cs  = some (r, S9)) : Met l yX3_readNumber (.code yX3_readNumber cX3_readNumber 4 (some .int) :: BIG) rm_X3_readNumber (Pre X B (cs, ms, o) [.ref (X.1 3)]) (QI X B r (S9, ms, o)) 0 0 (Ab B) := by
  refine entry (by decide +kernel) rfl (Nat.le_of_ble_eq_true rfl) (fun p e s m below meth c ls E hW hl => ?_)
  obtain ⟨hx, hb, hml, hown, hts, -⟩ := id E
  replace hl : lv_has ls 4 [(0, .ref (X.1 3))] := hl
  unfold f_X3_readNumber at hf
  refine lv_aload_n hx hb dX3_readNumber_0 rfl (lv_at hl 0 rfl) ?_
  obtain ⟨r2, cs1, hc, hf⟩ := b2_e hf
  refine callVI (As := []) (rest := []) E hW (c_X3_nextByte l hc) lk_X3_50 rcv_X3 (Nat.le_of_ble_eq_true rfl) (Nat.le_of_ble_eq_true rfl) (Nat.le_of_ble_eq_true rfl) (Nat.le_of_ble_eq_true rfl) hl.1 (Nat.le_of_ble_eq_true rfl) dX3_readNumber_1 (fun H locs hW => ?_)
  refine lv_istore_n (lv' := [_, _]) hx hb dX3_readNumber_4 rfl hl (by decide) rfl (fun ls hl => ?_)
  refine lv_iload_n hx hb dX3_readNumber_5 rfl (lv_at hl 0 rfl) ?_
  obtain ⟨r3, hc, hf⟩ := b1_e hf
  refine callSI (As := [.int _]) (rest := []) E hW (c_X3_isDigit l hc) lk_X3_81 (Nat.le_of_ble_eq_true rfl) (Nat.le_of_ble_eq_true rfl) (Nat.le_of_ble_eq_true rfl) (Nat.le_of_ble_eq_true rfl) hl.1 (Nat.le_of_ble_eq_true rfl) dX3_readNumber_6 (fun H locs hW => ?_)
  refine lv_if_ne (tgt := 19) hx hb dX3_readNumber_9 (by decide) (fun h4 => ?_) (fun h4 => ?_)
  · replace hf := ite_f h4 hf
    refine lv_iconst (v := (0 : Int32)) hx hb dX3_readNumber_19 (by decide) ?_
    refine lv_istore_n (lv' := [_, _, _]) hx hb dX3_readNumber_20 rfl hl (by decide) rfl (fun ls hl => ?_)
    refine lv_iconst (v := (0 : Int32)) hx hb dX3_readNumber_21 (by decide) ?_
    refine lv_istore_n (lv' := [_, _, _, _]) hx hb dX3_readNumber_22 rfl hl (by decide) rfl (fun ls hl => ?_)
    exact w_X3_readNumber_23 E 1000 _ _ _ _ _ _ _ hf hW (lv_sub hl [3, 2, 1, 0] rfl)
  · replace hf := ite_t h4 hf
    refine lv_aload_n hx hb dX3_readNumber_12 rfl (lv_at hl 1 rfl) ?_
    refine lv_iconst (v := (1 : Int32)) hx hb dX3_readNumber_13 (by decide) ?_
    refine rp_X3_29 E hW (Or.inr rfl) dX3_readNumber_14 (fun H locs hW => ?_)
    refine lv_iconst (v := (0 : Int32)) hx hb dX3_readNumber_17 (by decide) ?_
    exact retI E hW (e2C hf) dX3_readNumber_18
def f_X3_readTest (cs : CS) : Option (CS) := b2 (f_X3_comes cs (77 : Int32)) fun r2 cs1 => if r2 = 0 then (b2 (f_X3_comes cs1 (89 : Int32)) fun r5 cs4 => if r5 = 0 then ((f_X3_must cs4 (75 : Int32)).bind fun cs7 => b2 (f_X3_readLetter cs7 ) fun r9 cs8 => (f_X3_add cs8 (2 : Int32) r9 (0 : Int32)).bind fun cs10 => some cs10) else (b2 (f_X3_readNumber cs4 ) fun r12 cs11 => (f_X3_must cs11 (45 : Int32)).bind fun cs13 => b2 (f_X3_readNumber cs13 ) fun r15 cs14 => (f_X3_add cs14 (1 : Int32) r12 r15).bind fun cs16 => some cs16)) else (b2 (f_X3_readNumber cs1 ) fun r18 cs17 => (f_X3_add cs17 (0 : Int32) r18 (0 : Int32)).bind fun cs19 => some cs19)
def rm_X3_readTest : Room := { frames := 3, cells := 0, slots := 0, locals := 63 }
set_option maxHeartbeats 4000000 in
set_option maxRecDepth 100000 in
theorem c_X3_readTest (l : Launch) {X : XT} {B : Nat} {cs : CS} {ms : MS} {o : Nat → Int64} {S9 : CS} (hf : f_X3_readTest cs  = some S9) : Met l yX3_readTest (.code yX3_readTest cX3_readTest 2 none :: BIG) rm_X3_readTest (Pre X B (cs, ms, o) [.ref (X.1 3)]) (QV X B (S9, ms, o)) 0 0 (Ab B) := by
  refine entry (by decide +kernel) rfl (Nat.le_of_ble_eq_true rfl) (fun p e s m below meth c ls E hW hl => ?_)
  obtain ⟨hx, hb, hml, hown, hts, -⟩ := id E
  replace hl : lv_has ls 2 [(0, .ref (X.1 3))] := hl
  unfold f_X3_readTest at hf
  refine lv_aload_n hx hb dX3_readTest_0 rfl (lv_at hl 0 rfl) ?_
  refine lv_bipush (v := (77 : Int32)) hx hb dX3_readTest_1 (by decide) ?_
  obtain ⟨r2, cs1, hc, hf⟩ := b2_e hf
  refine callVI (As := [.int _]) (rest := []) E hW (c_X3_comes l hc) lk_X3_57 rcv_X3 (Nat.le_of_ble_eq_true rfl) (Nat.le_of_ble_eq_true rfl) (Nat.le_of_ble_eq_true rfl) (Nat.le_of_ble_eq_true rfl) hl.1 (Nat.le_of_ble_eq_true rfl) dX3_readTest_3 (fun H locs hW => ?_)
  refine lv_if_eq (tgt := 22) hx hb dX3_readTest_6 (by decide) (fun h3 => ?_) (fun h3 => ?_)
  · replace hf := ite_t h3 hf
    refine lv_aload_n hx hb dX3_readTest_22 rfl (lv_at hl 0 rfl) ?_
    refine lv_bipush (v := (89 : Int32)) hx hb dX3_readTest_23 (by decide) ?_
    obtain ⟨r5, cs4, hc, hf⟩ := b2_e hf
    refine callVI (As := [.int _]) (rest := []) E hW (c_X3_comes l hc) lk_X3_57 rcv_X3 (Nat.le_of_ble_eq_true rfl) (Nat.le_of_ble_eq_true rfl) (Nat.le_of_ble_eq_true rfl) (Nat.le_of_ble_eq_true rfl) hl.1 (Nat.le_of_ble_eq_true rfl) dX3_readTest_25 (fun H locs hW => ?_)
    refine lv_if_eq (tgt := 55) hx hb dX3_readTest_28 (by decide) (fun h6 => ?_) (fun h6 => ?_)
    · replace hf := ite_t h6 hf
      refine lv_aload_n hx hb dX3_readTest_55 rfl (lv_at hl 0 rfl) ?_
      refine lv_bipush (v := (75 : Int32)) hx hb dX3_readTest_56 (by decide) ?_
      obtain ⟨cs7, hc, hf⟩ := b1_e hf
      refine callVV (As := [.int _]) (rest := []) E hW (c_X3_must l hc) lk_X3_68 rcv_X3 (Nat.le_of_ble_eq_true rfl) (Nat.le_of_ble_eq_true rfl) (Nat.le_of_ble_eq_true rfl) (Nat.le_of_ble_eq_true rfl) hl.1 (Nat.le_of_ble_eq_true rfl) dX3_readTest_58 (fun H locs hW => ?_)
      refine lv_aload_n hx hb dX3_readTest_61 rfl (lv_at hl 0 rfl) ?_
      refine lv_iconst (v := (2 : Int32)) hx hb dX3_readTest_62 (by decide) ?_
      refine lv_aload_n hx hb dX3_readTest_63 rfl (lv_at hl 0 rfl) ?_
      obtain ⟨r9, cs8, hc, hf⟩ := b2_e hf
      refine callVI (As := []) (rest := [_, _]) E hW (c_X3_readLetter l hc) lk_X3_78 rcv_X3 (Nat.le_of_ble_eq_true rfl) (Nat.le_of_ble_eq_true rfl) (Nat.le_of_ble_eq_true rfl) (Nat.le_of_ble_eq_true rfl) hl.1 (Nat.le_of_ble_eq_true rfl) dX3_readTest_64 (fun H locs hW => ?_)
      refine lv_iconst (v := (0 : Int32)) hx hb dX3_readTest_67 (by decide) ?_
      obtain ⟨cs10, hc, hf⟩ := b1_e hf
      refine callVV (As := [.int _, .int _, .int _]) (rest := []) E hW (c_X3_add l hc) lk_X3_61 rcv_X3 (Nat.le_of_ble_eq_true rfl) (Nat.le_of_ble_eq_true rfl) (Nat.le_of_ble_eq_true rfl) (Nat.le_of_ble_eq_true rfl) hl.1 (Nat.le_of_ble_eq_true rfl) dX3_readTest_68 (fun H locs hW => ?_)
      exact retV E hW (e1C hf) dX3_readTest_71
    · replace hf := ite_f h6 hf
      refine lv_aload_n hx hb dX3_readTest_31 rfl (lv_at hl 0 rfl) ?_
      obtain ⟨r12, cs11, hc, hf⟩ := b2_e hf
      refine callVI (As := []) (rest := []) E hW (c_X3_readNumber l hc) lk_X3_75 rcv_X3 (Nat.le_of_ble_eq_true rfl) (Nat.le_of_ble_eq_true rfl) (Nat.le_of_ble_eq_true rfl) (Nat.le_of_ble_eq_true rfl) hl.1 (Nat.le_of_ble_eq_true rfl) dX3_readTest_32 (fun H locs hW => ?_)
      refine lv_istore_n (lv' := [_, _]) hx hb dX3_readTest_35 rfl hl (by decide) rfl (fun ls hl => ?_)
      refine lv_aload_n hx hb dX3_readTest_36 rfl (lv_at hl 1 rfl) ?_
      refine lv_bipush (v := (45 : Int32)) hx hb dX3_readTest_37 (by decide) ?_
      obtain ⟨cs13, hc, hf⟩ := b1_e hf
      refine callVV (As := [.int _]) (rest := []) E hW (c_X3_must l hc) lk_X3_68 rcv_X3 (Nat.le_of_ble_eq_true rfl) (Nat.le_of_ble_eq_true rfl) (Nat.le_of_ble_eq_true rfl) (Nat.le_of_ble_eq_true rfl) hl.1 (Nat.le_of_ble_eq_true rfl) dX3_readTest_39 (fun H locs hW => ?_)
      refine lv_aload_n hx hb dX3_readTest_42 rfl (lv_at hl 1 rfl) ?_
      refine lv_iconst (v := (1 : Int32)) hx hb dX3_readTest_43 (by decide) ?_
      refine lv_iload_n hx hb dX3_readTest_44 rfl (lv_at hl 0 rfl) ?_
      refine lv_aload_n hx hb dX3_readTest_45 rfl (lv_at hl 1 rfl) ?_
      obtain ⟨r15, cs14, hc, hf⟩ := b2_e hf
      refine callVI (As := []) (rest := [_, _, _]) E hW (c_X3_readNumber l hc) lk_X3_75 rcv_X3 (Nat.le_of_ble_eq_true rfl) (Nat.le_of_ble_eq_true rfl) (Nat.le_of_ble_eq_true rfl) (Nat.le_of_ble_eq_true rfl) hl.1 (Nat.le_of_ble_eq_true rfl) dX3_readTest_46 (fun H locs hW => ?_)
      obtain ⟨cs16, hc, hf⟩ := b1_e hf
      refine callVV (As := [.int _, .int _, .int _]) (rest := []) E hW (c_X3_add l hc) lk_X3_61 rcv_X3 (Nat.le_of_ble_eq_true rfl) (Nat.le_of_ble_eq_true rfl) (Nat.le_of_ble_eq_true rfl) (Nat.le_of_ble_eq_true rfl) hl.1 (Nat.le_of_ble_eq_true rfl) dX3_readTest_49 (fun H locs hW => ?_)
      refine lv_goto (tgt := 71) hx hb dX3_readTest_52 (by decide) ?_
      exact retV E hW (e1C hf) dX3_readTest_71
  · replace hf := ite_f h3 hf
    refine lv_aload_n hx hb dX3_readTest_9 rfl (lv_at hl 0 rfl) ?_
    refine lv_iconst (v := (0 : Int32)) hx hb dX3_readTest_10 (by decide) ?_
    refine lv_aload_n hx hb dX3_readTest_11 rfl (lv_at hl 0 rfl) ?_
    obtain ⟨r18, cs17, hc, hf⟩ := b2_e hf
    refine callVI (As := []) (rest := [_, _]) E hW (c_X3_readNumber l hc) lk_X3_75 rcv_X3 (Nat.le_of_ble_eq_true rfl) (Nat.le_of_ble_eq_true rfl) (Nat.le_of_ble_eq_true rfl) (Nat.le_of_ble_eq_true rfl) hl.1 (Nat.le_of_ble_eq_true rfl) dX3_readTest_12 (fun H locs hW => ?_)
    refine lv_iconst (v := (0 : Int32)) hx hb dX3_readTest_15 (by decide) ?_
    obtain ⟨cs19, hc, hf⟩ := b1_e hf
    refine callVV (As := [.int _, .int _, .int _]) (rest := []) E hW (c_X3_add l hc) lk_X3_61 rcv_X3 (Nat.le_of_ble_eq_true rfl) (Nat.le_of_ble_eq_true rfl) (Nat.le_of_ble_eq_true rfl) (Nat.le_of_ble_eq_true rfl) hl.1 (Nat.le_of_ble_eq_true rfl) dX3_readTest_16 (fun H locs hW => ?_)
    refine lv_goto (tgt := 71) hx hb dX3_readTest_19 (by decide) ?_
    exact retV E hW (e1C hf) dX3_readTest_71
def f_X4_made (cs : CS) : Option (Int32) := some (ci cs 5)
def rm_X4_made : Room := { frames := 0, cells := 0, slots := 0, locals := 0 }
set_option maxHeartbeats 4000000 in
set_option maxRecDepth 100000 in
theorem c_X4_made (l : Launch) {X : XT} {B : Nat} {cs : CS} {ms : MS} {o : Nat → Int64} {r : Int32} (hf : f_X4_made cs  = some r) : Met l yX4_made (.code yX4_made cX4_made 1 (some .int) :: BIG) rm_X4_made (Pre X B (cs, ms, o) [.ref (X.1 2)]) (QI X B r (cs, ms, o)) 0 0 (Ab B) := by
  refine entry (by decide +kernel) rfl (Nat.le_of_ble_eq_true rfl) (fun p e s m below meth c ls E hW hl => ?_)
  obtain ⟨hx, hb, hml, hown, hts, -⟩ := id E
  replace hl : lv_has ls 1 [(0, .ref (X.1 2))] := hl
  unfold f_X4_made at hf
  refine lv_aload_n hx hb dX4_made_0 rfl (lv_at hl 0 rfl) ?_
  refine rg_X4_29 E hW dX4_made_1 ?_
  exact retI E hW ⟨Option.some.inj hf, rfl⟩ dX4_made_4
def f_X4_fed (cs : CS) : Option (Int32) := some (ci cs 6)
def rm_X4_fed : Room := { frames := 0, cells := 0, slots := 0, locals := 0 }
set_option maxHeartbeats 4000000 in
set_option maxRecDepth 100000 in
theorem c_X4_fed (l : Launch) {X : XT} {B : Nat} {cs : CS} {ms : MS} {o : Nat → Int64} {r : Int32} (hf : f_X4_fed cs  = some r) : Met l yX4_fed (.code yX4_fed cX4_fed 1 (some .int) :: BIG) rm_X4_fed (Pre X B (cs, ms, o) [.ref (X.1 2)]) (QI X B r (cs, ms, o)) 0 0 (Ab B) := by
  refine entry (by decide +kernel) rfl (Nat.le_of_ble_eq_true rfl) (fun p e s m below meth c ls E hW hl => ?_)
  obtain ⟨hx, hb, hml, hown, hts, -⟩ := id E
  replace hl : lv_has ls 1 [(0, .ref (X.1 2))] := hl
  unfold f_X4_fed at hf
  refine lv_aload_n hx hb dX4_fed_0 rfl (lv_at hl 0 rfl) ?_
  refine rg_X4_33 E hW dX4_fed_1 ?_
  exact retI E hW ⟨Option.some.inj hf, rfl⟩ dX4_fed_4
def f_X4_hasRoomToFeed (cs : CS) : Option (Int32) := if (100 : Int32) < ((ci cs 6) + (20 : Int32)) then (some (0 : Int32)) else (some (1 : Int32))
def rm_X4_hasRoomToFeed : Room := { frames := 0, cells := 0, slots := 0, locals := 0 }
set_option maxHeartbeats 4000000 in
set_option maxRecDepth 100000 in
theorem c_X4_hasRoomToFeed (l : Launch) {X : XT} {B : Nat} {cs : CS} {ms : MS} {o : Nat → Int64} {r : Int32} (hf : f_X4_hasRoomToFeed cs  = some r) : Met l yX4_hasRoomToFeed (.code yX4_hasRoomToFeed cX4_hasRoomToFeed 1 (some .boolean) :: BIG) rm_X4_hasRoomToFeed (Pre X B (cs, ms, o) [.ref (X.1 2)]) (QI X B r (cs, ms, o)) 0 0 (Ab B) := by
  refine entry (by decide +kernel) rfl (Nat.le_of_ble_eq_true rfl) (fun p e s m below meth c ls E hW hl => ?_)
  obtain ⟨hx, hb, hml, hown, hts, -⟩ := id E
  replace hl : lv_has ls 1 [(0, .ref (X.1 2))] := hl
  unfold f_X4_hasRoomToFeed at hf
  refine lv_aload_n hx hb dX4_hasRoomToFeed_0 rfl (lv_at hl 0 rfl) ?_
  refine rg_X4_33 E hW dX4_hasRoomToFeed_1 ?_
  refine lv_bipush (v := (20 : Int32)) hx hb dX4_hasRoomToFeed_4 (by decide) ?_
  refine lv_iadd hx hb dX4_hasRoomToFeed_6 ?_
  refine lv_bipush (v := (100 : Int32)) hx hb dX4_hasRoomToFeed_7 (by decide) ?_
  refine lv_icmp_gt (tgt := 16) hx hb dX4_hasRoomToFeed_9 (by decide) (fun h1 => ?_) (fun h1 => ?_)
  · replace hf := ite_t h1 hf
    refine lv_iconst (v := (0 : Int32)) hx hb dX4_hasRoomToFeed_16 (by decide) ?_
    exact retZ E hW (Or.inl rfl) ⟨Option.some.inj hf, rfl⟩ dX4_hasRoomToFeed_17
  · replace hf := ite_f h1 hf
    refine lv_iconst (v := (1 : Int32)) hx hb dX4_hasRoomToFeed_12 (by decide) ?_
    refine lv_goto (tgt := 17) hx hb dX4_hasRoomToFeed_13 (by decide) ?_
    exact retZ E hW (Or.inr rfl) ⟨Option.some.inj hf, rfl⟩ dX4_hasRoomToFeed_17
def f_X4_append_3 : Nat → CS → Int32 → Int32 → Option (CS)
  | 0, _, _, _ => none
  | n + 1, cs, v1, v2 => if v2 < 0 then (some cs) else (if (ci cs 6) < 0 then (f_X4_append_3 n cs v1 (v2 + (-8 : Int32))) else (if (100 : Int32) ≤ (ci cs 6) then (f_X4_append_3 n cs v1 (v2 + (-8 : Int32))) else (ixr 100 (ci cs 6) <| f_X4_append_3 n (ciU (caU cs 15 ((ci cs 6)).toNatClampNeg (vp_nar .byte (v1 >>> (v2 &&& 31)).toInt8.toInt32)) 6 ((ci (caU cs 15 ((ci cs 6)).toNatClampNeg (vp_nar .byte (v1 >>> (v2 &&& 31)).toInt8.toInt32)) 6) + (1 : Int32))) v1 (v2 + (-8 : Int32)))))
def f_X4_append (cs : CS) (v1 : Int32) : Option (CS) := f_X4_append_3 1000 cs v1 (24 : Int32)
def rm_X4_append : Room := { frames := 0, cells := 0, slots := 0, locals := 0 }
set_option maxHeartbeats 4000000 in
set_option maxRecDepth 100000 in
theorem w_X4_append_3 {p : Program} {l : Launch} {e : Env} {s : State} {m : MethodId} {args : Array Value} {below : List Frame} {meth : Method} {c : Code} {X : XT} {B : Nat} {ms : MS} {o : Nat → Int64} {S9 : CS} (E : Ev X B p s m args meth c RX4 cX4_append 3 none) : ∀ (n : Nat) (cs : CS) (v1 : Int32) (v2 : Int32) (H : Heap) (locs : List Loc) (ls : Array Slot), f_X4_append_3 n cs v1 v2 = some S9 → Ws X B s.heap H locs (cs, ms, o) → lv_has ls 3 [(0, .ref (X.1 2)), (1, .int v1), (2, .int v2)] → W p l e rm_X4_append s m args below meth c H locs 0 0 (MQ below (QV X B (S9, ms, o)) args s 0 0 (Ab B)) (F0 m 3 ls []) := by
  obtain ⟨hx, hb, hml, hown, hts, -⟩ := id E
  intro n
  induction n with
  | zero => intro cs v1 v2 H locs ls hf; exact absurd hf nofun
  | succ n ih =>
    intro cs v1 v2 H locs ls hf hW hl
    rw [f_X4_append_3] at hf
    refine lv_iload_n hx hb dX4_append_3 rfl (lv_at hl 2 rfl) ?_
    refine lv_if_lt (tgt := 55) hx hb dX4_append_4 (by decide) (fun h1 => ?_) (fun h1 => ?_)
    · replace hf := ite_t h1 hf
      exact retV E hW (e1C hf) dX4_append_55
    · replace hf := ite_f h1 hf
      refine lv_aload_n hx hb dX4_append_7 rfl (lv_at hl 0 rfl) ?_
      refine rg_X4_33 E hW dX4_append_8 ?_
      refine lv_if_lt (tgt := 49) hx hb dX4_append_11 (by decide) (fun h2 => ?_) (fun h2 => ?_)
      · replace hf := ite_t h2 hf
        refine lv_iinc (v := _ + (-8 : Int32)) (lv' := [_, _, _]) hx hb dX4_append_49 hl (k := 2) rfl rfl (by decide) rfl (fun ls hl => ?_)
        refine lv_goto (tgt := 3) hx hb dX4_append_52 (by decide) ?_
        exact ih _ _ _ _ _ _ hf hW (lv_sub hl [1, 2, 0] rfl)
      · replace hf := ite_f h2 hf
        refine lv_aload_n hx hb dX4_append_14 rfl (lv_at hl 0 rfl) ?_
        refine rg_X4_33 E hW dX4_append_15 ?_
        refine lv_aload_n hx hb dX4_append_18 rfl (lv_at hl 0 rfl) ?_
        refine rg_X4_11 E hW dX4_append_19 ?_
        refine rl_15 E hW dX4_append_22 ?_
        refine lv_icmp_ge (tgt := 49) hx hb dX4_append_23 (by decide) (fun h3 => ?_) (fun h3 => ?_)
        · replace hf := ite_t h3 hf
          refine lv_iinc (v := _ + (-8 : Int32)) (lv' := [_, _, _]) hx hb dX4_append_49 hl (k := 2) rfl rfl (by decide) rfl (fun ls hl => ?_)
          refine lv_goto (tgt := 3) hx hb dX4_append_52 (by decide) ?_
          exact ih _ _ _ _ _ _ hf hW (lv_sub hl [1, 2, 0] rfl)
        · replace hf := ite_f h3 hf
          refine lv_aload_n hx hb dX4_append_26 rfl (lv_at hl 0 rfl) ?_
          refine rg_X4_11 E hW dX4_append_27 ?_
          refine lv_aload_n hx hb dX4_append_30 rfl (lv_at hl 0 rfl) ?_
          refine rg_X4_33 E hW dX4_append_31 ?_
          refine lv_iload_n hx hb dX4_append_34 rfl (lv_at hl 1 rfl) ?_
          refine lv_iload_n hx hb dX4_append_35 rfl (lv_at hl 2 rfl) ?_
          refine lv_ishr hx hb dX4_append_36 ?_
          refine lv_i2b hx hb dX4_append_37 rfl ?_
          obtain ⟨v4, hf⟩ := ixr_e hf
          refine rs_15 E hW v4 dX4_append_38 (fun H locs hW => ?_)
          refine lv_aload_n hx hb dX4_append_39 rfl (lv_at hl 0 rfl) ?_
          refine lv_dup hx hb dX4_append_40 rfl ?_
          refine rg_X4_33 E hW dX4_append_41 ?_
          refine lv_iconst (v := (1 : Int32)) hx hb dX4_append_44 (by decide) ?_
          refine lv_iadd hx hb dX4_append_45 ?_
          refine rp_X4_33 E hW dX4_append_46 (fun H locs hW => ?_)
          refine lv_iinc (v := _ + (-8 : Int32)) (lv' := [_, _, _]) hx hb dX4_append_49 hl (k := 2) rfl rfl (by decide) rfl (fun ls hl => ?_)
          refine lv_goto (tgt := 3) hx hb dX4_append_52 (by decide) ?_
          exact ih _ _ _ _ _ _ hf hW (lv_sub hl [1, 2, 0] rfl)
set_option maxHeartbeats 4000000 in
set_option maxRecDepth 100000 in
theorem c_X4_append (l : Launch) {X : XT} {B : Nat} {cs : CS} {ms : MS} {o : Nat → Int64} {v1 : Int32} {S9 : CS} (hf : f_X4_append cs v1 = some S9) : Met l yX4_append (.code yX4_append cX4_append 3 none :: BIG) rm_X4_append (Pre X B (cs, ms, o) [.ref (X.1 2), .int v1]) (QV X B (S9, ms, o)) 0 0 (Ab B) := by
  refine entry (by decide +kernel) rfl (Nat.le_of_ble_eq_true rfl) (fun p e s m below meth c ls E hW hl => ?_)
  obtain ⟨hx, hb, hml, hown, hts, -⟩ := id E
  replace hl : lv_has ls 3 [(0, .ref (X.1 2)), (1, .int v1)] := hl
  unfold f_X4_append at hf
  refine lv_bipush (v := (24 : Int32)) hx hb dX4_append_0 (by decide) ?_
  refine lv_istore_n (lv' := [_, _, _]) hx hb dX4_append_2 rfl hl (by decide) rfl (fun ls hl => ?_)
  exact w_X4_append_3 E 1000 _ _ _ _ _ _ hf hW (lv_sub hl [1, 2, 0] rfl)
def f_X4_stepPlace (cs : CS) (v1 : Int32) (v2 : Int32) : Option (Int32) := if v1 < 0 then (some (-1 : Int32)) else (if v2 < 0 then (some (-1 : Int32)) else (if ((v1 * (100 : Int32)) + v2) < 0 then (some (-1 : Int32)) else (if (3000 : Int32) ≤ ((v1 * (100 : Int32)) + v2) then (some (-1 : Int32)) else (some ((v1 * (100 : Int32)) + v2)))))
def rm_X4_stepPlace : Room := { frames := 0, cells := 0, slots := 0, locals := 0 }
set_option maxHeartbeats 4000000 in
set_option maxRecDepth 100000 in
theorem c_X4_stepPlace (l : Launch) {X : XT} {B : Nat} {cs : CS} {ms : MS} {o : Nat → Int64} {v1 : Int32} {v2 : Int32} {r : Int32} (hf : f_X4_stepPlace cs v1 v2 = some r) : Met l yX4_stepPlace (.code yX4_stepPlace cX4_stepPlace 4 (some .int) :: BIG) rm_X4_stepPlace (Pre X B (cs, ms, o) [.ref (X.1 2), .int v1, .int v2]) (QI X B r (cs, ms, o)) 0 0 (Ab B) := by
  refine entry (by decide +kernel) rfl (Nat.le_of_ble_eq_true rfl) (fun p e s m below meth c ls E hW hl => ?_)
  obtain ⟨hx, hb, hml, hown, hts, -⟩ := id E
  replace hl : lv_has ls 4 [(0, .ref (X.1 2)), (1, .int v1), (2, .int v2)] := hl
  unfold f_X4_stepPlace at hf
  refine lv_iload_n hx hb dX4_stepPlace_0 rfl (lv_at hl 1 rfl) ?_
  refine lv_bipush (v := (100 : Int32)) hx hb dX4_stepPlace_1 (by decide) ?_
  refine lv_imul hx hb dX4_stepPlace_3 ?_
  refine lv_iload_n hx hb dX4_stepPlace_4 rfl (lv_at hl 2 rfl) ?_
  refine lv_iadd hx hb dX4_stepPlace_5 ?_
  refine lv_istore_n (lv' := [_, _, _, _]) hx hb dX4_stepPlace_6 rfl hl (by decide) rfl (fun ls hl => ?_)
  refine lv_iload_n hx hb dX4_stepPlace_7 rfl (lv_at hl 2 rfl) ?_
  refine lv_if_lt (tgt := 32) hx hb dX4_stepPlace_8 (by decide) (fun h1 => ?_) (fun h1 => ?_)
  · replace hf := ite_t h1 hf
    refine lv_iconst (v := (-1 : Int32)) hx hb dX4_stepPlace_32 (by decide) ?_
    exact retI E hW ⟨Option.some.inj hf, rfl⟩ dX4_stepPlace_33
  · replace hf := ite_f h1 hf
    refine lv_iload_n hx hb dX4_stepPlace_11 rfl (lv_at hl 3 rfl) ?_
    refine lv_if_lt (tgt := 32) hx hb dX4_stepPlace_12 (by decide) (fun h2 => ?_) (fun h2 => ?_)
    · replace hf := ite_t h2 hf
      refine lv_iconst (v := (-1 : Int32)) hx hb dX4_stepPlace_32 (by decide) ?_
      exact retI E hW ⟨Option.some.inj hf, rfl⟩ dX4_stepPlace_33
    · replace hf := ite_f h2 hf
      refine lv_iload_n hx hb dX4_stepPlace_15 rfl (lv_at hl 0 rfl) ?_
      refine lv_if_lt (tgt := 32) hx hb dX4_stepPlace_16 (by decide) (fun h3 => ?_) (fun h3 => ?_)
      · replace hf := ite_t h3 hf
        refine lv_iconst (v := (-1 : Int32)) hx hb dX4_stepPlace_32 (by decide) ?_
        exact retI E hW ⟨Option.some.inj hf, rfl⟩ dX4_stepPlace_33
      · replace hf := ite_f h3 hf
        refine lv_iload_n hx hb dX4_stepPlace_19 rfl (lv_at hl 0 rfl) ?_
        refine lv_aload_n hx hb dX4_stepPlace_20 rfl (lv_at hl 1 rfl) ?_
        refine rg_X4_22 E hW dX4_stepPlace_21 ?_
        refine rl_16 E hW dX4_stepPlace_24 ?_
        refine lv_icmp_ge (tgt := 32) hx hb dX4_stepPlace_25 (by decide) (fun h4 => ?_) (fun h4 => ?_)
        · replace hf := ite_t h4 hf
          refine lv_iconst (v := (-1 : Int32)) hx hb dX4_stepPlace_32 (by decide) ?_
          exact retI E hW ⟨Option.some.inj hf, rfl⟩ dX4_stepPlace_33
        · replace hf := ite_f h4 hf
          refine lv_iload_n hx hb dX4_stepPlace_28 rfl (lv_at hl 0 rfl) ?_
          refine lv_goto (tgt := 33) hx hb dX4_stepPlace_29 (by decide) ?_
          exact retI E hW ⟨Option.some.inj hf, rfl⟩ dX4_stepPlace_33
def f_X4_keep_2 : Nat → CS → Int32 → Option (CS)
  | 0, _, _ => none
  | n + 1, cs, v1 => (f_X3_size cs ).bind fun r1 => if r1 ≤ v1 then (if (ci cs 5) < 0 then (some cs) else (if (30 : Int32) ≤ (ci cs 5) then (some cs) else ((f_X3_size cs ).bind fun r5 => ixr 30 (ci cs 5) <| some (ciU (caU cs 17 ((ci cs 5)).toNatClampNeg r5) 5 ((ci (caU cs 17 ((ci cs 5)).toNatClampNeg r5) 5) + (1 : Int32)))))) else ((f_X4_stepPlace cs (ci cs 5) v1).bind fun r7 => if r7 = (-1 : Int32) then (f_X4_keep_2 n cs (v1 + (1 : Int32))) else ((f_X3_stepAt cs v1).bind fun r9 => ixr 3000 r7 <| f_X4_keep_2 n (caU cs 16 (r7).toNatClampNeg r9) (v1 + (1 : Int32))))
def f_X4_keep (cs : CS) : Option (CS) := f_X4_keep_2 1000 cs (0 : Int32)
def rm_X4_keep : Room := { frames := 1, cells := 0, slots := 0, locals := 23 }
set_option maxHeartbeats 4000000 in
set_option maxRecDepth 100000 in
theorem w_X4_keep_2 {p : Program} {l : Launch} {e : Env} {s : State} {m : MethodId} {args : Array Value} {below : List Frame} {meth : Method} {c : Code} {X : XT} {B : Nat} {ms : MS} {o : Nat → Int64} {S9 : CS} (E : Ev X B p s m args meth c RX4 cX4_keep 3 none) : ∀ (n : Nat) (cs : CS) (v1 : Int32) (H : Heap) (locs : List Loc) (ls : Array Slot), f_X4_keep_2 n cs v1 = some S9 → Ws X B s.heap H locs (cs, ms, o) → lv_has ls 3 [(0, .ref (X.1 2)), (1, .int v1)] → W p l e rm_X4_keep s m args below meth c H locs 0 0 (MQ below (QV X B (S9, ms, o)) args s 0 0 (Ab B)) (F0 m 2 ls []) := by
  obtain ⟨hx, hb, hml, hown, hts, -⟩ := id E
  intro n
  induction n with
  | zero => intro cs v1 H locs ls hf; exact absurd hf nofun
  | succ n ih =>
    intro cs v1 H locs ls hf hW hl
    rw [f_X4_keep_2] at hf
    refine lv_iload_n hx hb dX4_keep_2 rfl (lv_at hl 1 rfl) ?_
    refine lv_aload_n hx hb dX4_keep_3 rfl (lv_at hl 0 rfl) ?_
    refine rg_X4_18 E hW dX4_keep_4 ?_
    obtain ⟨r1, hc, hf⟩ := b1_e hf
    refine callVI (As := []) (rest := [_]) E hW (c_X3_size l hc) lk_X4_43 rcv_X3 (Nat.le_of_ble_eq_true rfl) (Nat.le_of_ble_eq_true rfl) (Nat.le_of_ble_eq_true rfl) (Nat.le_of_ble_eq_true rfl) hl.1 (Nat.le_of_ble_eq_true rfl) dX4_keep_7 (fun H locs hW => ?_)
    refine lv_icmp_ge (tgt := 48) hx hb dX4_keep_10 (by decide) (fun h2 => ?_) (fun h2 => ?_)
    · replace hf := ite_t h2 hf
      refine lv_aload_n hx hb dX4_keep_48 rfl (lv_at hl 0 rfl) ?_
      refine rg_X4_29 E hW dX4_keep_49 ?_
      refine lv_if_lt (tgt := 93) hx hb dX4_keep_52 (by decide) (fun h3 => ?_) (fun h3 => ?_)
      · replace hf := ite_t h3 hf
        exact retV E hW (e1C hf) dX4_keep_93
      · replace hf := ite_f h3 hf
        refine lv_aload_n hx hb dX4_keep_55 rfl (lv_at hl 0 rfl) ?_
        refine rg_X4_29 E hW dX4_keep_56 ?_
        refine lv_aload_n hx hb dX4_keep_59 rfl (lv_at hl 0 rfl) ?_
        refine rg_X4_26 E hW dX4_keep_60 ?_
        refine rl_17 E hW dX4_keep_63 ?_
        refine lv_icmp_ge (tgt := 93) hx hb dX4_keep_64 (by decide) (fun h4 => ?_) (fun h4 => ?_)
        · replace hf := ite_t h4 hf
          exact retV E hW (e1C hf) dX4_keep_93
        · replace hf := ite_f h4 hf
          refine lv_aload_n hx hb dX4_keep_67 rfl (lv_at hl 0 rfl) ?_
          refine rg_X4_26 E hW dX4_keep_68 ?_
          refine lv_aload_n hx hb dX4_keep_71 rfl (lv_at hl 0 rfl) ?_
          refine rg_X4_29 E hW dX4_keep_72 ?_
          refine lv_aload_n hx hb dX4_keep_75 rfl (lv_at hl 0 rfl) ?_
          refine rg_X4_18 E hW dX4_keep_76 ?_
          obtain ⟨r5, hc, hf⟩ := b1_e hf
          refine callVI (As := []) (rest := [_, _]) E hW (c_X3_size l hc) lk_X4_43 rcv_X3 (Nat.le_of_ble_eq_true rfl) (Nat.le_of_ble_eq_true rfl) (Nat.le_of_ble_eq_true rfl) (Nat.le_of_ble_eq_true rfl) hl.1 (Nat.le_of_ble_eq_true rfl) dX4_keep_79 (fun H locs hW => ?_)
          obtain ⟨v6, hf⟩ := ixr_e hf
          refine rs_17 E hW v6 dX4_keep_82 (fun H locs hW => ?_)
          refine lv_aload_n hx hb dX4_keep_83 rfl (lv_at hl 0 rfl) ?_
          refine lv_dup hx hb dX4_keep_84 rfl ?_
          refine rg_X4_29 E hW dX4_keep_85 ?_
          refine lv_iconst (v := (1 : Int32)) hx hb dX4_keep_88 (by decide) ?_
          refine lv_iadd hx hb dX4_keep_89 ?_
          refine rp_X4_29 E hW dX4_keep_90 (fun H locs hW => ?_)
          exact retV E hW (e1C hf) dX4_keep_93
    · replace hf := ite_f h2 hf
      refine lv_aload_n hx hb dX4_keep_13 rfl (lv_at hl 0 rfl) ?_
      refine lv_aload_n hx hb dX4_keep_14 rfl (lv_at hl 0 rfl) ?_
      refine rg_X4_29 E hW dX4_keep_15 ?_
      refine lv_iload_n hx hb dX4_keep_18 rfl (lv_at hl 1 rfl) ?_
      obtain ⟨r7, hc, hf⟩ := b1_e hf
      refine callVI (As := [.int _, .int _]) (rest := []) E hW (c_X4_stepPlace l hc) lk_X4_47 rcv_X4 (Nat.le_of_ble_eq_true rfl) (Nat.le_of_ble_eq_true rfl) (Nat.le_of_ble_eq_true rfl) (Nat.le_of_ble_eq_true rfl) hl.1 (Nat.le_of_ble_eq_true rfl) dX4_keep_19 (fun H locs hW => ?_)
      refine lv_istore_n (lv' := [_, _, _]) hx hb dX4_keep_22 rfl hl (by decide) rfl (fun ls hl => ?_)
      refine lv_iload_n hx hb dX4_keep_23 rfl (lv_at hl 0 rfl) ?_
      refine lv_iconst (v := (-1 : Int32)) hx hb dX4_keep_24 (by decide) ?_
      refine lv_icmp_eq (tgt := 42) hx hb dX4_keep_25 (by decide) (fun h8 => ?_) (fun h8 => ?_)
      · replace hf := ite_t h8 hf
        refine lv_iinc (v := _ + (1 : Int32)) (lv' := [_, _, _]) hx hb dX4_keep_42 hl (k := 2) rfl rfl (by decide) rfl (fun ls hl => ?_)
        refine lv_goto (tgt := 2) hx hb dX4_keep_45 (by decide) ?_
        exact ih _ _ _ _ _ hf hW (lv_sub hl [2, 0] rfl)
      · replace hf := ite_f h8 hf
        refine lv_aload_n hx hb dX4_keep_28 rfl (lv_at hl 1 rfl) ?_
        refine rg_X4_22 E hW dX4_keep_29 ?_
        refine lv_iload_n hx hb dX4_keep_32 rfl (lv_at hl 0 rfl) ?_
        refine lv_aload_n hx hb dX4_keep_33 rfl (lv_at hl 1 rfl) ?_
        refine rg_X4_18 E hW dX4_keep_34 ?_
        refine lv_iload_n hx hb dX4_keep_37 rfl (lv_at hl 2 rfl) ?_
        obtain ⟨r9, hc, hf⟩ := b1_e hf
        refine callVI (As := [.int _]) (rest := [_, _]) E hW (c_X3_stepAt l hc) lk_X4_51 rcv_X3 (Nat.le_of_ble_eq_true rfl) (Nat.le_of_ble_eq_true rfl) (Nat.le_of_ble_eq_true rfl) (Nat.le_of_ble_eq_true rfl) hl.1 (Nat.le_of_ble_eq_true rfl) dX4_keep_38 (fun H locs hW => ?_)
        obtain ⟨v10, hf⟩ := ixr_e hf
        refine rs_16 E hW v10 dX4_keep_41 (fun H locs hW => ?_)
        refine lv_iinc (v := _ + (1 : Int32)) (lv' := [_, _, _]) hx hb dX4_keep_42 hl (k := 2) rfl rfl (by decide) rfl (fun ls hl => ?_)
        refine lv_goto (tgt := 2) hx hb dX4_keep_45 (by decide) ?_
        exact ih _ _ _ _ _ hf hW (lv_sub hl [2, 0] rfl)
set_option maxHeartbeats 4000000 in
set_option maxRecDepth 100000 in
theorem c_X4_keep (l : Launch) {X : XT} {B : Nat} {cs : CS} {ms : MS} {o : Nat → Int64} {S9 : CS} (hf : f_X4_keep cs  = some S9) : Met l yX4_keep (.code yX4_keep cX4_keep 3 none :: BIG) rm_X4_keep (Pre X B (cs, ms, o) [.ref (X.1 2)]) (QV X B (S9, ms, o)) 0 0 (Ab B) := by
  refine entry (by decide +kernel) rfl (Nat.le_of_ble_eq_true rfl) (fun p e s m below meth c ls E hW hl => ?_)
  obtain ⟨hx, hb, hml, hown, hts, -⟩ := id E
  replace hl : lv_has ls 3 [(0, .ref (X.1 2))] := hl
  unfold f_X4_keep at hf
  refine lv_iconst (v := (0 : Int32)) hx hb dX4_keep_0 (by decide) ?_
  refine lv_istore_n (lv' := [_, _]) hx hb dX4_keep_1 rfl hl (by decide) rfl (fun ls hl => ?_)
  exact w_X4_keep_2 E 1000 _ _ _ _ _ hf hW (lv_sub hl [1, 0] rfl)
def f_X4_holds_168 (k : CS → Int32 → Int32 → Int32 → Int32 → Int32 → Int64 → Int32 → Option (Int32)) (cs : CS) (v1 : Int32) (v2 : Int32) (v3 : Int32) (v4 : Int32) (v5 : Int32) (v6 : Int64) (v8 : Int32) : Option (Int32) := k cs v1 v2 v3 v4 v5 v6 (v8 + (1 : Int32))
def f_X4_holds_164 (k : CS → Int32 → Int32 → Int32 → Int32 → Int32 → Int64 → Int32 → Option (Int32)) (cs : CS) (v1 : Int32) (v2 : Int32) (v3 : Int32) (v4 : Int32) (v5 : Int32) (v8 : Int32) (s0 : Int64) (s1 : Int32) : Option (Int32) := f_X4_holds_168 k cs v1 v2 v3 v4 v5 (s0 ||| s1.toInt64) v8
def f_X4_holds_72 (k : CS → Int32 → Int32 → Int32 → Int32 → Int32 → Int64 → Int32 → Option (Int32)) (cs : CS) (v1 : Int32) (v2 : Int32) (v3 : Int32) (v4 : Int32) (v5 : Int32) (v6 : Int64) (v8 : Int32) (s0 : Int32) : Option (Int32) := (f_X3_signOf cs s0).bind fun r8 => if r8 = (3 : Int32) then (f_X4_holds_168 k cs v1 v2 v3 v4 v5 (v6 ^^^ (1 : Int64)) v8) else (if r8 = (4 : Int32) then (f_X4_holds_168 k cs v1 v2 v3 v4 v5 ((v6.toUInt64 >>> ((1 : Int32).toInt64.toUInt64 &&& Int64.toUInt64 63)).toInt64 &&& (v6 ||| (-2 : Int64))) v8) else (if r8 = (5 : Int32) then (f_X4_holds_168 k cs v1 v2 v3 v4 v5 ((v6.toUInt64 >>> ((1 : Int32).toInt64.toUInt64 &&& Int64.toUInt64 63)).toInt64 ||| (v6 &&& (1 : Int64))) v8) else ((f_X3_passes cs s0 v2 v3 v4).bind fun r12 => if r12 = 0 then (f_X4_holds_164 k cs v1 v2 v3 v4 v5 v8 (v6 <<< ((1 : Int32).toInt64 &&& 63)) (0 : Int32)) else (f_X4_holds_164 k cs v1 v2 v3 v4 v5 v8 (v6 <<< ((1 : Int32).toInt64 &&& 63)) (1 : Int32)))))
def f_X4_holds_39 : Nat → CS → Int32 → Int32 → Int32 → Int32 → Int32 → Int64 → Int32 → Option (Int32)
  | 0, _, _, _, _, _, _, _, _ => none
  | n + 1, cs, v1, v2, v3, v4, v5, v6, v8 => if v5 ≤ v8 then (if (lg_cmp (v6 &&& (1 : Int64)) (0 : Int64)) = 0 then (some (0 : Int32)) else (some (1 : Int32))) else ((f_X4_stepPlace cs v1 v8).bind fun r4 => if r4 = (-1 : Int32) then (f_X4_holds_72 (f_X4_holds_39 n) cs v1 v2 v3 v4 v5 v6 v8 (0 : Int32)) else ((ldI (ca cs 16) 3000 r4).bind fun q7 => f_X4_holds_72 (f_X4_holds_39 n) cs v1 v2 v3 v4 v5 v6 v8 q7))
def f_X4_holds_31 (cs : CS) (v1 : Int32) (v2 : Int32) (v3 : Int32) (v4 : Int32) (s0 : Int32) : Option (Int32) := f_X4_holds_39 1000 cs v1 v2 v3 v4 s0 (0 : Int64) (0 : Int32)
def f_X4_holds_30 (cs : CS) (v1 : Int32) (v2 : Int32) (v3 : Int32) (v4 : Int32) : Option (Int32) := f_X4_holds_31 cs v1 v2 v3 v4 (0 : Int32)
def f_X4_holds (cs : CS) (v1 : Int32) (v2 : Int32) (v3 : Int32) (v4 : Int32) : Option (Int32) := if v1 < 0 then (f_X4_holds_30 cs v1 v2 v3 v4) else (if (ci cs 5) ≤ v1 then (f_X4_holds_30 cs v1 v2 v3 v4) else (if (30 : Int32) ≤ v1 then (f_X4_holds_30 cs v1 v2 v3 v4) else ((ldI (ca cs 17) 30 v1).bind fun q17 => f_X4_holds_31 cs v1 v2 v3 v4 q17)))
def rm_X4_holds : Room := { frames := 2, cells := 0, slots := 0, locals := 45 }
set_option maxHeartbeats 4000000 in
set_option maxRecDepth 100000 in
theorem w_X4_holds_168 {p : Program} {l : Launch} {e : Env} {s : State} {m : MethodId} {args : Array Value} {below : List Frame} {meth : Method} {c : Code} {X : XT} {B : Nat} {ms : MS} {o : Nat → Int64} {r : Int32} (E : Ev X B p s m args meth c RX4 cX4_holds 11 (some .boolean)) (k : CS → Int32 → Int32 → Int32 → Int32 → Int32 → Int64 → Int32 → Option (Int32)) (hk : ∀ (cs : CS) (v1 : Int32) (v2 : Int32) (v3 : Int32) (v4 : Int32) (v5 : Int32) (v6 : Int64) (v8 : Int32) (H : Heap) (locs : List Loc) (ls : Array Slot), k cs v1 v2 v3 v4 v5 v6 v8 = some r → Ws X B s.heap H locs (cs, ms, o) → lv_has ls 11 [(0, .ref (X.1 2)), (1, .int v1), (2, .int v2), (3, .int v3), (4, .int v4), (5, .int v5), (6, .long v6), (8, .int v8)] → W p l e rm_X4_holds s m args below meth c H locs 0 0 (MQ below (QI X B r (cs, ms, o)) args s 0 0 (Ab B)) (F0 m 39 ls [])) : ∀ (cs : CS) (v1 : Int32) (v2 : Int32) (v3 : Int32) (v4 : Int32) (v5 : Int32) (v6 : Int64) (v8 : Int32) (H : Heap) (locs : List Loc) (ls : Array Slot), f_X4_holds_168 k cs v1 v2 v3 v4 v5 v6 v8 = some r → Ws X B s.heap H locs (cs, ms, o) → lv_has ls 11 [(0, .ref (X.1 2)), (1, .int v1), (2, .int v2), (3, .int v3), (4, .int v4), (5, .int v5), (6, .long v6), (8, .int v8)] → W p l e rm_X4_holds s m args below meth c H locs 0 0 (MQ below (QI X B r (cs, ms, o)) args s 0 0 (Ab B)) (F0 m 168 ls []) := by
  obtain ⟨hx, hb, hml, hown, hts, -⟩ := id E
  intro cs v1 v2 v3 v4 v5 v6 v8 H locs ls hf hW hl
  unfold f_X4_holds_168 at hf
  refine lv_iinc (v := _ + (1 : Int32)) (lv' := [_, _, _, _, _, _, _, _]) hx hb dX4_holds_168 hl (k := 7) rfl rfl (by decide) rfl (fun ls hl => ?_)
  refine lv_goto (tgt := 39) hx hb dX4_holds_171 (by decide) ?_
  exact hk _ _ _ _ _ _ _ _ _ _ _ hf hW (lv_sub hl [1, 2, 3, 4, 5, 6, 7, 0] rfl)
set_option maxHeartbeats 4000000 in
set_option maxRecDepth 100000 in
theorem w_X4_holds_164 {p : Program} {l : Launch} {e : Env} {s : State} {m : MethodId} {args : Array Value} {below : List Frame} {meth : Method} {c : Code} {X : XT} {B : Nat} {ms : MS} {o : Nat → Int64} {r : Int32} (E : Ev X B p s m args meth c RX4 cX4_holds 11 (some .boolean)) (k : CS → Int32 → Int32 → Int32 → Int32 → Int32 → Int64 → Int32 → Option (Int32)) (hk : ∀ (cs : CS) (v1 : Int32) (v2 : Int32) (v3 : Int32) (v4 : Int32) (v5 : Int32) (v6 : Int64) (v8 : Int32) (H : Heap) (locs : List Loc) (ls : Array Slot), k cs v1 v2 v3 v4 v5 v6 v8 = some r → Ws X B s.heap H locs (cs, ms, o) → lv_has ls 11 [(0, .ref (X.1 2)), (1, .int v1), (2, .int v2), (3, .int v3), (4, .int v4), (5, .int v5), (6, .long v6), (8, .int v8)] → W p l e rm_X4_holds s m args below meth c H locs 0 0 (MQ below (QI X B r (cs, ms, o)) args s 0 0 (Ab B)) (F0 m 39 ls [])) : ∀ (cs : CS) (v1 : Int32) (v2 : Int32) (v3 : Int32) (v4 : Int32) (v5 : Int32) (v8 : Int32) (s0 : Int64) (s1 : Int32) (H : Heap) (locs : List Loc) (ls : Array Slot), f_X4_holds_164 k cs v1 v2 v3 v4 v5 v8 s0 s1 = some r → Ws X B s.heap H locs (cs, ms, o) → lv_has ls 11 [(0, .ref (X.1 2)), (1, .int v1), (2, .int v2), (3, .int v3), (4, .int v4), (5, .int v5), (8, .int v8)] → W p l e rm_X4_holds s m args below meth c H locs 0 0 (MQ below (QI X B r (cs, ms, o)) args s 0 0 (Ab B)) (F0 m 164 ls [.int s1, .long s0]) := by
  obtain ⟨hx, hb, hml, hown, hts, -⟩ := id E
  intro cs v1 v2 v3 v4 v5 v8 s0 s1 H locs ls hf hW hl
  unfold f_X4_holds_164 at hf
  refine lv_i2l hx hb dX4_holds_164 rfl ?_
  refine lv_lor hx hb dX4_holds_165 ?_
  refine lv_lstore (lv' := [_, _, _, _, _, _, _, _]) hx hb dX4_holds_166 hl (by decide) rfl (fun ls hl => ?_)
  exact w_X4_holds_168 E k hk _ _ _ _ _ _ _ _ _ _ _ hf hW (lv_sub hl [1, 2, 3, 4, 5, 6, 0, 7] rfl)
set_option maxHeartbeats 4000000 in
set_option maxRecDepth 100000 in
theorem w_X4_holds_72 {p : Program} {l : Launch} {e : Env} {s : State} {m : MethodId} {args : Array Value} {below : List Frame} {meth : Method} {c : Code} {X : XT} {B : Nat} {ms : MS} {o : Nat → Int64} {r : Int32} (E : Ev X B p s m args meth c RX4 cX4_holds 11 (some .boolean)) (k : CS → Int32 → Int32 → Int32 → Int32 → Int32 → Int64 → Int32 → Option (Int32)) (hk : ∀ (cs : CS) (v1 : Int32) (v2 : Int32) (v3 : Int32) (v4 : Int32) (v5 : Int32) (v6 : Int64) (v8 : Int32) (H : Heap) (locs : List Loc) (ls : Array Slot), k cs v1 v2 v3 v4 v5 v6 v8 = some r → Ws X B s.heap H locs (cs, ms, o) → lv_has ls 11 [(0, .ref (X.1 2)), (1, .int v1), (2, .int v2), (3, .int v3), (4, .int v4), (5, .int v5), (6, .long v6), (8, .int v8)] → W p l e rm_X4_holds s m args below meth c H locs 0 0 (MQ below (QI X B r (cs, ms, o)) args s 0 0 (Ab B)) (F0 m 39 ls [])) : ∀ (cs : CS) (v1 : Int32) (v2 : Int32) (v3 : Int32) (v4 : Int32) (v5 : Int32) (v6 : Int64) (v8 : Int32) (s0 : Int32) (H : Heap) (locs : List Loc) (ls : Array Slot), f_X4_holds_72 k cs v1 v2 v3 v4 v5 v6 v8 s0 = some r → Ws X B s.heap H locs (cs, ms, o) → lv_has ls 11 [(0, .ref (X.1 2)), (1, .int v1), (2, .int v2), (3, .int v3), (4, .int v4), (5, .int v5), (6, .long v6), (8, .int v8)] → W p l e rm_X4_holds s m args below meth c H locs 0 0 (MQ below (QI X B r (cs, ms, o)) args s 0 0 (Ab B)) (F0 m 72 ls [.int s0]) := by
  obtain ⟨hx, hb, hml, hown, hts, -⟩ := id E
  intro cs v1 v2 v3 v4 v5 v6 v8 s0 H locs ls hf hW hl
  unfold f_X4_holds_72 at hf
  refine lv_istore (lv' := [_, _, _, _, _, _, _, _, _]) hx hb dX4_holds_72 hl (by decide) rfl (fun ls hl => ?_)
  refine lv_iload hx hb dX4_holds_74 (lv_at hl 0 rfl) ?_
  obtain ⟨r8, hc, hf⟩ := b1_e hf
  refine callSI (As := [.int _]) (rest := []) E hW (c_X3_signOf l hc) lk_X4_55 (Nat.le_of_ble_eq_true rfl) (Nat.le_of_ble_eq_true rfl) (Nat.le_of_ble_eq_true rfl) (Nat.le_of_ble_eq_true rfl) hl.1 (Nat.le_of_ble_eq_true rfl) dX4_holds_76 (fun H locs hW => ?_)
  by_cases h9 : r8 = (3 : Int32)
  · replace hf := ite_t h9 hf
    refine lv_tableIn (tgt := 104) hx hb dX4_holds_79 (by rw [h9]; decide) (by rw [h9]; decide) (by rw [h9]; rfl) (by decide) ?_
    refine lv_lload hx hb dX4_holds_104 (lv_at hl 7 rfl) ?_
    refine lv_lconst (v := (1 : Int64)) hx hb dX4_holds_106 (by decide) ?_
    refine lv_lxor hx hb dX4_holds_107 ?_
    refine lv_lstore (lv' := [_, _, _, _, _, _, _, _, _]) hx hb dX4_holds_108 hl (by decide) rfl (fun ls hl => ?_)
    refine lv_goto (tgt := 168) hx hb dX4_holds_110 (by decide) ?_
    exact w_X4_holds_168 E k hk _ _ _ _ _ _ _ _ _ _ _ hf hW (lv_sub hl [2, 3, 4, 5, 6, 7, 0, 8] rfl)
  · replace hf := ite_f h9 hf
    by_cases h10 : r8 = (4 : Int32)
    · replace hf := ite_t h10 hf
      refine lv_tableIn (tgt := 113) hx hb dX4_holds_79 (by rw [h10]; decide) (by rw [h10]; decide) (by rw [h10]; rfl) (by decide) ?_
      refine lv_lload hx hb dX4_holds_113 (lv_at hl 7 rfl) ?_
      refine lv_iconst (v := (1 : Int32)) hx hb dX4_holds_115 (by decide) ?_
      refine lv_lushr hx hb dX4_holds_116 rfl ?_
      refine lv_lload hx hb dX4_holds_117 (lv_at hl 7 rfl) ?_
      refine lv_ldc2 (own := RX4) (v := (-2 : Int64)) hx hb hown (hts _ kc_X4_58) dX4_holds_119 ?_
      refine lv_lor hx hb dX4_holds_122 ?_
      refine lv_land hx hb dX4_holds_123 ?_
      refine lv_lstore (lv' := [_, _, _, _, _, _, _, _, _]) hx hb dX4_holds_124 hl (by decide) rfl (fun ls hl => ?_)
      refine lv_goto (tgt := 168) hx hb dX4_holds_126 (by decide) ?_
      exact w_X4_holds_168 E k hk _ _ _ _ _ _ _ _ _ _ _ hf hW (lv_sub hl [2, 3, 4, 5, 6, 7, 0, 8] rfl)
    · replace hf := ite_f h10 hf
      by_cases h11 : r8 = (5 : Int32)
      · replace hf := ite_t h11 hf
        refine lv_tableIn (tgt := 129) hx hb dX4_holds_79 (by rw [h11]; decide) (by rw [h11]; decide) (by rw [h11]; rfl) (by decide) ?_
        refine lv_lload hx hb dX4_holds_129 (lv_at hl 7 rfl) ?_
        refine lv_iconst (v := (1 : Int32)) hx hb dX4_holds_131 (by decide) ?_
        refine lv_lushr hx hb dX4_holds_132 rfl ?_
        refine lv_lload hx hb dX4_holds_133 (lv_at hl 7 rfl) ?_
        refine lv_lconst (v := (1 : Int64)) hx hb dX4_holds_135 (by decide) ?_
        refine lv_land hx hb dX4_holds_136 ?_
        refine lv_lor hx hb dX4_holds_137 ?_
        refine lv_lstore (lv' := [_, _, _, _, _, _, _, _, _]) hx hb dX4_holds_138 hl (by decide) rfl (fun ls hl => ?_)
        refine lv_goto (tgt := 168) hx hb dX4_holds_140 (by decide) ?_
        exact w_X4_holds_168 E k hk _ _ _ _ _ _ _ _ _ _ _ hf hW (lv_sub hl [2, 3, 4, 5, 6, 7, 0, 8] rfl)
      · replace hf := ite_f h11 hf
        have eh9 := lv_neT h9 (a := 3) (by decide)
        have eh10 := lv_neT h10 (a := 4) (by decide)
        have eh11 := lv_neT h11 (a := 5) (by decide)
        refine lv_tableOut (tgt := 143) hx hb dX4_holds_79 (by omega) (by decide) ?_
        refine lv_lload hx hb dX4_holds_143 (lv_at hl 7 rfl) ?_
        refine lv_iconst (v := (1 : Int32)) hx hb dX4_holds_145 (by decide) ?_
        refine lv_lshl hx hb dX4_holds_146 rfl ?_
        refine lv_iload hx hb dX4_holds_147 (lv_at hl 0 rfl) ?_
        refine lv_iload_n hx hb dX4_holds_149 rfl (lv_at hl 3 rfl) ?_
        refine lv_iload_n hx hb dX4_holds_150 rfl (lv_at hl 4 rfl) ?_
        refine lv_iload hx hb dX4_holds_151 (lv_at hl 5 rfl) ?_
        obtain ⟨r12, hc, hf⟩ := b1_e hf
        refine callSI (As := [.int _, .int _, .int _, .int _]) (rest := [_]) E hW (c_X3_passes l hc) lk_X4_60 (Nat.le_of_ble_eq_true rfl) (Nat.le_of_ble_eq_true rfl) (Nat.le_of_ble_eq_true rfl) (Nat.le_of_ble_eq_true rfl) hl.1 (Nat.le_of_ble_eq_true rfl) dX4_holds_153 (fun H locs hW => ?_)
        refine lv_if_eq (tgt := 163) hx hb dX4_holds_156 (by decide) (fun h13 => ?_) (fun h13 => ?_)
        · replace hf := ite_t h13 hf
          refine lv_iconst (v := (0 : Int32)) hx hb dX4_holds_163 (by decide) ?_
          exact w_X4_holds_164 E k hk _ _ _ _ _ _ _ _ _ _ _ _ hf hW (lv_sub hl [1, 2, 3, 4, 5, 6, 8] rfl)
        · replace hf := ite_f h13 hf
          refine lv_iconst (v := (1 : Int32)) hx hb dX4_holds_159 (by decide) ?_
          refine lv_goto (tgt := 164) hx hb dX4_holds_160 (by decide) ?_
          exact w_X4_holds_164 E k hk _ _ _ _ _ _ _ _ _ _ _ _ hf hW (lv_sub hl [1, 2, 3, 4, 5, 6, 8] rfl)
set_option maxHeartbeats 4000000 in
set_option maxRecDepth 100000 in
theorem w_X4_holds_39 {p : Program} {l : Launch} {e : Env} {s : State} {m : MethodId} {args : Array Value} {below : List Frame} {meth : Method} {c : Code} {X : XT} {B : Nat} {ms : MS} {o : Nat → Int64} {r : Int32} (E : Ev X B p s m args meth c RX4 cX4_holds 11 (some .boolean)) : ∀ (n : Nat) (cs : CS) (v1 : Int32) (v2 : Int32) (v3 : Int32) (v4 : Int32) (v5 : Int32) (v6 : Int64) (v8 : Int32) (H : Heap) (locs : List Loc) (ls : Array Slot), f_X4_holds_39 n cs v1 v2 v3 v4 v5 v6 v8 = some r → Ws X B s.heap H locs (cs, ms, o) → lv_has ls 11 [(0, .ref (X.1 2)), (1, .int v1), (2, .int v2), (3, .int v3), (4, .int v4), (5, .int v5), (6, .long v6), (8, .int v8)] → W p l e rm_X4_holds s m args below meth c H locs 0 0 (MQ below (QI X B r (cs, ms, o)) args s 0 0 (Ab B)) (F0 m 39 ls []) := by
  obtain ⟨hx, hb, hml, hown, hts, -⟩ := id E
  intro n
  induction n with
  | zero => intro cs v1 v2 v3 v4 v5 v6 v8 H locs ls hf; exact absurd hf nofun
  | succ n ih =>
    intro cs v1 v2 v3 v4 v5 v6 v8 H locs ls hf hW hl
    rw [f_X4_holds_39] at hf
    refine lv_iload hx hb dX4_holds_39 (lv_at hl 7 rfl) ?_
    refine lv_iload hx hb dX4_holds_41 (lv_at hl 5 rfl) ?_
    refine lv_icmp_ge (tgt := 174) hx hb dX4_holds_43 (by decide) (fun h2 => ?_) (fun h2 => ?_)
    · replace hf := ite_t h2 hf
      refine lv_lload hx hb dX4_holds_174 (lv_at hl 6 rfl) ?_
      refine lv_lconst (v := (1 : Int64)) hx hb dX4_holds_176 (by decide) ?_
      refine lv_land hx hb dX4_holds_177 ?_
      refine lv_lconst (v := (0 : Int64)) hx hb dX4_holds_178 (by decide) ?_
      refine W.lcmp hx hb dX4_holds_179 ?_
      refine lv_if_eq (tgt := 187) hx hb dX4_holds_180 (by decide) (fun h3 => ?_) (fun h3 => ?_)
      · replace hf := ite_t h3 hf
        refine lv_iconst (v := (0 : Int32)) hx hb dX4_holds_187 (by decide) ?_
        exact retZ E hW (Or.inl rfl) ⟨Option.some.inj hf, rfl⟩ dX4_holds_188
      · replace hf := ite_f h3 hf
        refine lv_iconst (v := (1 : Int32)) hx hb dX4_holds_183 (by decide) ?_
        refine lv_goto (tgt := 188) hx hb dX4_holds_184 (by decide) ?_
        exact retZ E hW (Or.inr rfl) ⟨Option.some.inj hf, rfl⟩ dX4_holds_188
    · replace hf := ite_f h2 hf
      refine lv_aload_n hx hb dX4_holds_46 rfl (lv_at hl 0 rfl) ?_
      refine lv_iload_n hx hb dX4_holds_47 rfl (lv_at hl 1 rfl) ?_
      refine lv_iload hx hb dX4_holds_48 (lv_at hl 7 rfl) ?_
      obtain ⟨r4, hc, hf⟩ := b1_e hf
      refine callVI (As := [.int _, .int _]) (rest := []) E hW (c_X4_stepPlace l hc) lk_X4_47 rcv_X4 (Nat.le_of_ble_eq_true rfl) (Nat.le_of_ble_eq_true rfl) (Nat.le_of_ble_eq_true rfl) (Nat.le_of_ble_eq_true rfl) hl.1 (Nat.le_of_ble_eq_true rfl) dX4_holds_50 (fun H locs hW => ?_)
      refine lv_istore (lv' := [_, _, _, _, _, _, _, _, _]) hx hb dX4_holds_53 hl (by decide) rfl (fun ls hl => ?_)
      refine lv_iload hx hb dX4_holds_55 (lv_at hl 0 rfl) ?_
      refine lv_iconst (v := (-1 : Int32)) hx hb dX4_holds_57 (by decide) ?_
      refine lv_icmp_ne (tgt := 65) hx hb dX4_holds_58 (by decide) (fun h5 => ?_) (fun h5 => ?_)
      · replace hf := ite_f h5 hf
        refine lv_aload_n hx hb dX4_holds_65 rfl (lv_at hl 1 rfl) ?_
        refine rg_X4_22 E hW dX4_holds_66 ?_
        refine lv_iload hx hb dX4_holds_69 (lv_at hl 0 rfl) ?_
        obtain ⟨v6, hf⟩ := ldI_e hf
        refine ra_16 E hW v6 dX4_holds_71 ?_
        exact w_X4_holds_72 E (f_X4_holds_39 n) ih _ _ _ _ _ _ _ _ _ _ _ _ hf hW (lv_sub hl [1, 2, 3, 4, 5, 6, 7, 8] rfl)
      · replace hf := ite_t h5 hf
        refine lv_iconst (v := (0 : Int32)) hx hb dX4_holds_61 (by decide) ?_
        refine lv_goto (tgt := 72) hx hb dX4_holds_62 (by decide) ?_
        exact w_X4_holds_72 E (f_X4_holds_39 n) ih _ _ _ _ _ _ _ _ _ _ _ _ hf hW (lv_sub hl [1, 2, 3, 4, 5, 6, 7, 8] rfl)
set_option maxHeartbeats 4000000 in
set_option maxRecDepth 100000 in
theorem w_X4_holds_31 {p : Program} {l : Launch} {e : Env} {s : State} {m : MethodId} {args : Array Value} {below : List Frame} {meth : Method} {c : Code} {X : XT} {B : Nat} {ms : MS} {o : Nat → Int64} {r : Int32} (E : Ev X B p s m args meth c RX4 cX4_holds 11 (some .boolean)) : ∀ (cs : CS) (v1 : Int32) (v2 : Int32) (v3 : Int32) (v4 : Int32) (s0 : Int32) (H : Heap) (locs : List Loc) (ls : Array Slot), f_X4_holds_31 cs v1 v2 v3 v4 s0 = some r → Ws X B s.heap H locs (cs, ms, o) → lv_has ls 11 [(0, .ref (X.1 2)), (1, .int v1), (2, .int v2), (3, .int v3), (4, .int v4)] → W p l e rm_X4_holds s m args below meth c H locs 0 0 (MQ below (QI X B r (cs, ms, o)) args s 0 0 (Ab B)) (F0 m 31 ls [.int s0]) := by
  obtain ⟨hx, hb, hml, hown, hts, -⟩ := id E
  intro cs v1 v2 v3 v4 s0 H locs ls hf hW hl
  unfold f_X4_holds_31 at hf
  refine lv_istore (lv' := [_, _, _, _, _, _]) hx hb dX4_holds_31 hl (by decide) rfl (fun ls hl => ?_)
  refine lv_lconst (v := (0 : Int64)) hx hb dX4_holds_33 (by decide) ?_
  refine lv_lstore (lv' := [_, _, _, _, _, _, _]) hx hb dX4_holds_34 hl (by decide) rfl (fun ls hl => ?_)
  refine lv_iconst (v := (0 : Int32)) hx hb dX4_holds_36 (by decide) ?_
  refine lv_istore (lv' := [_, _, _, _, _, _, _, _]) hx hb dX4_holds_37 hl (by decide) rfl (fun ls hl => ?_)
  exact w_X4_holds_39 E 1000 _ _ _ _ _ _ _ _ _ _ _ hf hW (lv_sub hl [3, 4, 5, 6, 7, 2, 1, 0] rfl)
set_option maxHeartbeats 4000000 in
set_option maxRecDepth 100000 in
theorem w_X4_holds_30 {p : Program} {l : Launch} {e : Env} {s : State} {m : MethodId} {args : Array Value} {below : List Frame} {meth : Method} {c : Code} {X : XT} {B : Nat} {ms : MS} {o : Nat → Int64} {r : Int32} (E : Ev X B p s m args meth c RX4 cX4_holds 11 (some .boolean)) : ∀ (cs : CS) (v1 : Int32) (v2 : Int32) (v3 : Int32) (v4 : Int32) (H : Heap) (locs : List Loc) (ls : Array Slot), f_X4_holds_30 cs v1 v2 v3 v4 = some r → Ws X B s.heap H locs (cs, ms, o) → lv_has ls 11 [(0, .ref (X.1 2)), (1, .int v1), (2, .int v2), (3, .int v3), (4, .int v4)] → W p l e rm_X4_holds s m args below meth c H locs 0 0 (MQ below (QI X B r (cs, ms, o)) args s 0 0 (Ab B)) (F0 m 30 ls []) := by
  obtain ⟨hx, hb, hml, hown, hts, -⟩ := id E
  intro cs v1 v2 v3 v4 H locs ls hf hW hl
  unfold f_X4_holds_30 at hf
  refine lv_iconst (v := (0 : Int32)) hx hb dX4_holds_30 (by decide) ?_
  exact w_X4_holds_31 E _ _ _ _ _ _ _ _ _ hf hW (lv_sub hl [0, 1, 2, 3, 4] rfl)
set_option maxHeartbeats 4000000 in
set_option maxRecDepth 100000 in
theorem c_X4_holds (l : Launch) {X : XT} {B : Nat} {cs : CS} {ms : MS} {o : Nat → Int64} {v1 : Int32} {v2 : Int32} {v3 : Int32} {v4 : Int32} {r : Int32} (hf : f_X4_holds cs v1 v2 v3 v4 = some r) : Met l yX4_holds (.code yX4_holds cX4_holds 11 (some .boolean) :: BIG) rm_X4_holds (Pre X B (cs, ms, o) [.ref (X.1 2), .int v1, .int v2, .int v3, .int v4]) (QI X B r (cs, ms, o)) 0 0 (Ab B) := by
  refine entry (by decide +kernel) rfl (Nat.le_of_ble_eq_true rfl) (fun p e s m below meth c ls E hW hl => ?_)
  obtain ⟨hx, hb, hml, hown, hts, -⟩ := id E
  replace hl : lv_has ls 11 [(0, .ref (X.1 2)), (1, .int v1), (2, .int v2), (3, .int v3), (4, .int v4)] := hl
  unfold f_X4_holds at hf
  refine lv_iload_n hx hb dX4_holds_0 rfl (lv_at hl 1 rfl) ?_
  refine lv_if_lt (tgt := 30) hx hb dX4_holds_1 (by decide) (fun h1 => ?_) (fun h1 => ?_)
  · replace hf := ite_t h1 hf
    exact w_X4_holds_30 E _ _ _ _ _ _ _ _ hf hW (lv_sub hl [0, 1, 2, 3, 4] rfl)
  · replace hf := ite_f h1 hf
    refine lv_iload_n hx hb dX4_holds_4 rfl (lv_at hl 1 rfl) ?_
    refine lv_aload_n hx hb dX4_holds_5 rfl (lv_at hl 0 rfl) ?_
    refine rg_X4_29 E hW dX4_holds_6 ?_
    refine lv_icmp_ge (tgt := 30) hx hb dX4_holds_9 (by decide) (fun h14 => ?_) (fun h14 => ?_)
    · replace hf := ite_t h14 hf
      exact w_X4_holds_30 E _ _ _ _ _ _ _ _ hf hW (lv_sub hl [0, 1, 2, 3, 4] rfl)
    · replace hf := ite_f h14 hf
      refine lv_iload_n hx hb dX4_holds_12 rfl (lv_at hl 1 rfl) ?_
      refine lv_aload_n hx hb dX4_holds_13 rfl (lv_at hl 0 rfl) ?_
      refine rg_X4_26 E hW dX4_holds_14 ?_
      refine rl_17 E hW dX4_holds_17 ?_
      refine lv_icmp_ge (tgt := 30) hx hb dX4_holds_18 (by decide) (fun h15 => ?_) (fun h15 => ?_)
      · replace hf := ite_t h15 hf
        exact w_X4_holds_30 E _ _ _ _ _ _ _ _ hf hW (lv_sub hl [0, 1, 2, 3, 4] rfl)
      · replace hf := ite_f h15 hf
        refine lv_aload_n hx hb dX4_holds_21 rfl (lv_at hl 0 rfl) ?_
        refine rg_X4_26 E hW dX4_holds_22 ?_
        refine lv_iload_n hx hb dX4_holds_25 rfl (lv_at hl 1 rfl) ?_
        obtain ⟨v16, hf⟩ := ldI_e hf
        refine ra_17 E hW v16 dX4_holds_26 ?_
        refine lv_goto (tgt := 31) hx hb dX4_holds_27 (by decide) ?_
        exact w_X4_holds_31 E _ _ _ _ _ _ _ _ _ hf hW (lv_sub hl [0, 1, 2, 3, 4] rfl)
def f_X5_init (cs : CS) (v0 : Nat) (v1 : Int32) (v2 : Int32) (v3 : Int32) : Option (CS) := gd (v0 ∈ cl cs ∧ ck cs v0 = 1) <| some (cpU (cpU (cpU (cpU (cpU (cpU cs v0 3 (3 : Int32)) v0 4 (0 : Int32)) v0 5 (0 : Int32)) v0 0 v1) v0 1 v2) v0 2 v3)
def rm_X5_init : Room := { frames := 1, cells := 0, slots := 0, locals := 30 }
set_option maxHeartbeats 4000000 in
set_option maxRecDepth 100000 in
theorem c_X5_init (l : Launch) {X : XT} {B : Nat} {cs : CS} {ms : MS} {o : Nat → Int64} {v0 : Nat} {v1 : Int32} {v2 : Int32} {v3 : Int32} {S9 : CS} (hf : f_X5_init cs v0 v1 v2 v3 = some S9) : Met l yX5_init (.code yX5_init cX5_init 4 none :: BIG) rm_X5_init (Pre X B (cs, ms, o) [.ref v0, .int v1, .int v2, .int v3]) (QV X B (S9, ms, o)) 0 0 (Ab B) := by
  refine centry (by decide +kernel) rfl (Nat.le_of_ble_eq_true rfl) rfl (fun p e s m below meth c ls E hin9 hW hl => ?_)
  obtain ⟨hx, hb, hml, hown, hts, -⟩ := id E
  replace hl : lv_has ls 4 [(0, .ref v0), (1, .int v1), (2, .int v2), (3, .int v3)] := hl
  unfold f_X5_init at hf
  refine lv_aload_n hx hb dX5_init_0 rfl (lv_at hl 0 rfl) ?_
  refine W.objInit hx hb hown (hts _ ko_X5_3) (hts _ ko_inst) (hts _ ko_code) rfl (hl.1.trans hml.symm) rfl dX5_init_1 (Nat.le_of_ble_eq_true rfl) (Nat.le_trans (Nat.add_le_add_right (lv_room (Nat.le_of_ble_eq_true rfl)) 12) (Nat.le_of_ble_eq_true rfl)) ?_
  refine lv_aload_n hx hb dX5_init_4 rfl (lv_at hl 0 rfl) ?_
  refine lv_iconst (v := (3 : Int32)) hx hb dX5_init_5 (by decide) ?_
  obtain ⟨v1, hf⟩ := gd_e hf
  refine rp_X5_9 E hW v1 dX5_init_6 (fun H locs hW => ?_)
  refine lv_aload_n hx hb dX5_init_9 rfl (lv_at hl 0 rfl) ?_
  refine lv_iconst (v := (0 : Int32)) hx hb dX5_init_10 (by decide) ?_
  refine rp_X5_15 E hW v1 dX5_init_11 (fun H locs hW => ?_)
  refine lv_aload_n hx hb dX5_init_14 rfl (lv_at hl 0 rfl) ?_
  refine lv_iconst (v := (0 : Int32)) hx hb dX5_init_15 (by decide) ?_
  refine rp_X5_18 E hW v1 dX5_init_16 (fun H locs hW => ?_)
  refine lv_aload_n hx hb dX5_init_19 rfl (lv_at hl 0 rfl) ?_
  refine lv_iload_n hx hb dX5_init_20 rfl (lv_at hl 1 rfl) ?_
  refine rp_X5_21 E hin9 hW v1 dX5_init_21 (fun H locs hW => ?_)
  refine lv_aload_n hx hb dX5_init_24 rfl (lv_at hl 0 rfl) ?_
  refine lv_iload_n hx hb dX5_init_25 rfl (lv_at hl 2 rfl) ?_
  refine rp_X5_24 E hin9 hW v1 dX5_init_26 (fun H locs hW => ?_)
  refine lv_aload_n hx hb dX5_init_29 rfl (lv_at hl 0 rfl) ?_
  refine lv_iload_n hx hb dX5_init_30 rfl (lv_at hl 3 rfl) ?_
  refine rp_X5_27 E hin9 hW v1 dX5_init_31 (fun H locs hW => ?_)
  exact retV E hW (e1C hf) dX5_init_34
def f_X6_isModel (cs : CS) (v0 : Int32) : Option (Int32) := if v0 < 0 then (some (0 : Int32)) else (if (8 : Int32) ≤ v0 then (some (0 : Int32)) else (some (1 : Int32)))
def rm_X6_isModel : Room := { frames := 0, cells := 0, slots := 0, locals := 0 }
set_option maxHeartbeats 4000000 in
set_option maxRecDepth 100000 in
theorem c_X6_isModel (l : Launch) {X : XT} {B : Nat} {cs : CS} {ms : MS} {o : Nat → Int64} {v0 : Int32} {r : Int32} (hf : f_X6_isModel cs v0 = some r) : Met l yX6_isModel (.code yX6_isModel cX6_isModel 1 (some .boolean) :: BIG) rm_X6_isModel (Pre X B (cs, ms, o) [.int v0]) (QI X B r (cs, ms, o)) 0 0 (Ab B) := by
  refine entry (by decide +kernel) rfl (Nat.le_of_ble_eq_true rfl) (fun p e s m below meth c ls E hW hl => ?_)
  obtain ⟨hx, hb, hml, hown, hts, -⟩ := id E
  replace hl : lv_has ls 1 [(0, .int v0)] := hl
  unfold f_X6_isModel at hf
  refine lv_iload_n hx hb dX6_isModel_0 rfl (lv_at hl 0 rfl) ?_
  refine lv_if_lt (tgt := 14) hx hb dX6_isModel_1 (by decide) (fun h1 => ?_) (fun h1 => ?_)
  · replace hf := ite_t h1 hf
    refine lv_iconst (v := (0 : Int32)) hx hb dX6_isModel_14 (by decide) ?_
    exact retZ E hW (Or.inl rfl) ⟨Option.some.inj hf, rfl⟩ dX6_isModel_15
  · replace hf := ite_f h1 hf
    refine lv_iload_n hx hb dX6_isModel_4 rfl (lv_at hl 0 rfl) ?_
    refine lv_bipush (v := (8 : Int32)) hx hb dX6_isModel_5 (by decide) ?_
    refine lv_icmp_ge (tgt := 14) hx hb dX6_isModel_7 (by decide) (fun h2 => ?_) (fun h2 => ?_)
    · replace hf := ite_t h2 hf
      refine lv_iconst (v := (0 : Int32)) hx hb dX6_isModel_14 (by decide) ?_
      exact retZ E hW (Or.inl rfl) ⟨Option.some.inj hf, rfl⟩ dX6_isModel_15
    · replace hf := ite_f h2 hf
      refine lv_iconst (v := (1 : Int32)) hx hb dX6_isModel_10 (by decide) ?_
      refine lv_goto (tgt := 15) hx hb dX6_isModel_11 (by decide) ?_
      exact retZ E hW (Or.inr rfl) ⟨Option.some.inj hf, rfl⟩ dX6_isModel_15
def f_X6_partsOf (cs : CS) (v1 : Int32) : Option (Int32) := if v1 < 0 then (some (0 : Int32)) else (if (8 : Int32) ≤ v1 then (some (0 : Int32)) else ((ldI (ca cs 20) 8 v1).bind fun q4 => some q4))
def rm_X6_partsOf : Room := { frames := 0, cells := 0, slots := 0, locals := 0 }
set_option maxHeartbeats 4000000 in
set_option maxRecDepth 100000 in
theorem c_X6_partsOf (l : Launch) {X : XT} {B : Nat} {cs : CS} {ms : MS} {o : Nat → Int64} {v1 : Int32} {r : Int32} (hf : f_X6_partsOf cs v1 = some r) : Met l yX6_partsOf (.code yX6_partsOf cX6_partsOf 2 (some .int) :: BIG) rm_X6_partsOf (Pre X B (cs, ms, o) [.ref (X.1 4), .int v1]) (QI X B r (cs, ms, o)) 0 0 (Ab B) := by
  refine entry (by decide +kernel) rfl (Nat.le_of_ble_eq_true rfl) (fun p e s m below meth c ls E hW hl => ?_)
  obtain ⟨hx, hb, hml, hown, hts, -⟩ := id E
  replace hl : lv_has ls 2 [(0, .ref (X.1 4)), (1, .int v1)] := hl
  unfold f_X6_partsOf at hf
  refine lv_iload_n hx hb dX6_partsOf_0 rfl (lv_at hl 1 rfl) ?_
  refine lv_if_lt (tgt := 22) hx hb dX6_partsOf_1 (by decide) (fun h1 => ?_) (fun h1 => ?_)
  · replace hf := ite_t h1 hf
    refine lv_iconst (v := (0 : Int32)) hx hb dX6_partsOf_22 (by decide) ?_
    exact retI E hW ⟨Option.some.inj hf, rfl⟩ dX6_partsOf_23
  · replace hf := ite_f h1 hf
    refine lv_iload_n hx hb dX6_partsOf_4 rfl (lv_at hl 1 rfl) ?_
    refine lv_aload_n hx hb dX6_partsOf_5 rfl (lv_at hl 0 rfl) ?_
    refine rg_X6_11 E hW dX6_partsOf_6 ?_
    refine rl_20 E hW dX6_partsOf_9 ?_
    refine lv_icmp_ge (tgt := 22) hx hb dX6_partsOf_10 (by decide) (fun h2 => ?_) (fun h2 => ?_)
    · replace hf := ite_t h2 hf
      refine lv_iconst (v := (0 : Int32)) hx hb dX6_partsOf_22 (by decide) ?_
      exact retI E hW ⟨Option.some.inj hf, rfl⟩ dX6_partsOf_23
    · replace hf := ite_f h2 hf
      refine lv_aload_n hx hb dX6_partsOf_13 rfl (lv_at hl 0 rfl) ?_
      refine rg_X6_11 E hW dX6_partsOf_14 ?_
      refine lv_iload_n hx hb dX6_partsOf_17 rfl (lv_at hl 1 rfl) ?_
      obtain ⟨v3, hf⟩ := ldI_e hf
      refine ra_20 E hW v3 dX6_partsOf_18 ?_
      refine lv_goto (tgt := 23) hx hb dX6_partsOf_19 (by decide) ?_
      exact retI E hW ⟨Option.some.inj hf, rfl⟩ dX6_partsOf_23
def f_X6_add (cs : CS) (v1 : Int32) : Option (Int32 × CS) := (f_X6_partsOf cs v1).bind fun r1 => if v1 < 0 then (some (r1, cs)) else (if (8 : Int32) ≤ v1 then (some (r1, cs)) else (if (24 : Int32) ≤ r1 then (some (r1, cs)) else (ixr 8 v1 <| some (r1, (caU cs 20 (v1).toNatClampNeg (r1 + (1 : Int32)))))))
def rm_X6_add : Room := { frames := 1, cells := 0, slots := 0, locals := 21 }
set_option maxHeartbeats 4000000 in
set_option maxRecDepth 100000 in
theorem c_X6_add (l : Launch) {X : XT} {B : Nat} {cs : CS} {ms : MS} {o : Nat → Int64} {v1 : Int32} {r : Int32} {S9 : CS} (hf : f_X6_add cs v1 = some (r, S9)) : Met l yX6_add (.code yX6_add cX6_add 3 (some .int) :: BIG) rm_X6_add (Pre X B (cs, ms, o) [.ref (X.1 4), .int v1]) (QI X B r (S9, ms, o)) 0 0 (Ab B) := by
  refine entry (by decide +kernel) rfl (Nat.le_of_ble_eq_true rfl) (fun p e s m below meth c ls E hW hl => ?_)
  obtain ⟨hx, hb, hml, hown, hts, -⟩ := id E
  replace hl : lv_has ls 3 [(0, .ref (X.1 4)), (1, .int v1)] := hl
  unfold f_X6_add at hf
  refine lv_aload_n hx hb dX6_add_0 rfl (lv_at hl 0 rfl) ?_
  refine lv_iload_n hx hb dX6_add_1 rfl (lv_at hl 1 rfl) ?_
  obtain ⟨r1, hc, hf⟩ := b1_e hf
  refine callVI (As := [.int _]) (rest := []) E hW (c_X6_partsOf l hc) lk_X6_18 rcv_X6 (Nat.le_of_ble_eq_true rfl) (Nat.le_of_ble_eq_true rfl) (Nat.le_of_ble_eq_true rfl) (Nat.le_of_ble_eq_true rfl) hl.1 (Nat.le_of_ble_eq_true rfl) dX6_add_2 (fun H locs hW => ?_)
  refine lv_istore_n (lv' := [_, _, _]) hx hb dX6_add_5 rfl hl (by decide) rfl (fun ls hl => ?_)
  refine lv_iload_n hx hb dX6_add_6 rfl (lv_at hl 2 rfl) ?_
  refine lv_if_lt (tgt := 34) hx hb dX6_add_7 (by decide) (fun h2 => ?_) (fun h2 => ?_)
  · replace hf := ite_t h2 hf
    refine lv_iload_n hx hb dX6_add_34 rfl (lv_at hl 0 rfl) ?_
    exact retI E hW (e2C hf) dX6_add_35
  · replace hf := ite_f h2 hf
    refine lv_iload_n hx hb dX6_add_10 rfl (lv_at hl 2 rfl) ?_
    refine lv_aload_n hx hb dX6_add_11 rfl (lv_at hl 1 rfl) ?_
    refine rg_X6_11 E hW dX6_add_12 ?_
    refine rl_20 E hW dX6_add_15 ?_
    refine lv_icmp_ge (tgt := 34) hx hb dX6_add_16 (by decide) (fun h3 => ?_) (fun h3 => ?_)
    · replace hf := ite_t h3 hf
      refine lv_iload_n hx hb dX6_add_34 rfl (lv_at hl 0 rfl) ?_
      exact retI E hW (e2C hf) dX6_add_35
    · replace hf := ite_f h3 hf
      refine lv_iload_n hx hb dX6_add_19 rfl (lv_at hl 0 rfl) ?_
      refine lv_bipush (v := (24 : Int32)) hx hb dX6_add_20 (by decide) ?_
      refine lv_icmp_ge (tgt := 34) hx hb dX6_add_22 (by decide) (fun h4 => ?_) (fun h4 => ?_)
      · replace hf := ite_t h4 hf
        refine lv_iload_n hx hb dX6_add_34 rfl (lv_at hl 0 rfl) ?_
        exact retI E hW (e2C hf) dX6_add_35
      · replace hf := ite_f h4 hf
        refine lv_aload_n hx hb dX6_add_25 rfl (lv_at hl 1 rfl) ?_
        refine rg_X6_11 E hW dX6_add_26 ?_
        refine lv_iload_n hx hb dX6_add_29 rfl (lv_at hl 2 rfl) ?_
        refine lv_iload_n hx hb dX6_add_30 rfl (lv_at hl 0 rfl) ?_
        refine lv_iconst (v := (1 : Int32)) hx hb dX6_add_31 (by decide) ?_
        refine lv_iadd hx hb dX6_add_32 ?_
        obtain ⟨v5, hf⟩ := ixr_e hf
        refine rs_20 E hW v5 dX6_add_33 (fun H locs hW => ?_)
        refine lv_iload_n hx hb dX6_add_34 rfl (lv_at hl 0 rfl) ?_
        exact retI E hW (e2C hf) dX6_add_35
def f_X6_placeOf_28 (cs : CS) (v1 : Int32) (v2 : Int32) (v3 : Int32) (s0 : Int32) : Option (Int32) := if s0 = 0 then (some (-1 : Int32)) else (if ((((v1 * (24 : Int32)) + v2) * (8 : Int32)) + v3) < 0 then (some (-1 : Int32)) else (if (1536 : Int32) ≤ ((((v1 * (24 : Int32)) + v2) * (8 : Int32)) + v3) then (some (-1 : Int32)) else (some ((((v1 * (24 : Int32)) + v2) * (8 : Int32)) + v3))))
def f_X6_placeOf_27 (cs : CS) (v1 : Int32) (v2 : Int32) (v3 : Int32) : Option (Int32) := f_X6_placeOf_28 cs v1 v2 v3 (0 : Int32)
def f_X6_placeOf (cs : CS) (v1 : Int32) (v2 : Int32) (v3 : Int32) : Option (Int32) := if v2 < 0 then (f_X6_placeOf_27 cs v1 v2 v3) else ((f_X6_partsOf cs v1).bind fun r5 => if r5 ≤ v2 then (f_X6_placeOf_27 cs v1 v2 v3) else (if v3 < 0 then (f_X6_placeOf_27 cs v1 v2 v3) else (if (8 : Int32) ≤ v3 then (f_X6_placeOf_27 cs v1 v2 v3) else (f_X6_placeOf_28 cs v1 v2 v3 (1 : Int32)))))
def rm_X6_placeOf : Room := { frames := 1, cells := 0, slots := 0, locals := 21 }
set_option maxHeartbeats 4000000 in
set_option maxRecDepth 100000 in
theorem w_X6_placeOf_28 {p : Program} {l : Launch} {e : Env} {s : State} {m : MethodId} {args : Array Value} {below : List Frame} {meth : Method} {c : Code} {X : XT} {B : Nat} {ms : MS} {o : Nat → Int64} {r : Int32} (E : Ev X B p s m args meth c RX6 cX6_placeOf 6 (some .int)) : ∀ (cs : CS) (v1 : Int32) (v2 : Int32) (v3 : Int32) (s0 : Int32) (H : Heap) (locs : List Loc) (ls : Array Slot), f_X6_placeOf_28 cs v1 v2 v3 s0 = some r → Ws X B s.heap H locs (cs, ms, o) → lv_has ls 6 [(0, .ref (X.1 4)), (1, .int v1), (2, .int v2), (3, .int v3)] → W p l e rm_X6_placeOf s m args below meth c H locs 0 0 (MQ below (QI X B r (cs, ms, o)) args s 0 0 (Ab B)) (F0 m 28 ls [.int s0]) := by
  obtain ⟨hx, hb, hml, hown, hts, -⟩ := id E
  intro cs v1 v2 v3 s0 H locs ls hf hW hl
  unfold f_X6_placeOf_28 at hf
  refine lv_istore (lv' := [_, _, _, _, _]) hx hb dX6_placeOf_28 hl (by decide) rfl (fun ls hl => ?_)
  refine lv_iload_n hx hb dX6_placeOf_30 rfl (lv_at hl 2 rfl) ?_
  refine lv_bipush (v := (24 : Int32)) hx hb dX6_placeOf_31 (by decide) ?_
  refine lv_imul hx hb dX6_placeOf_33 ?_
  refine lv_iload_n hx hb dX6_placeOf_34 rfl (lv_at hl 3 rfl) ?_
  refine lv_iadd hx hb dX6_placeOf_35 ?_
  refine lv_bipush (v := (8 : Int32)) hx hb dX6_placeOf_36 (by decide) ?_
  refine lv_imul hx hb dX6_placeOf_38 ?_
  refine lv_iload_n hx hb dX6_placeOf_39 rfl (lv_at hl 4 rfl) ?_
  refine lv_iadd hx hb dX6_placeOf_40 ?_
  refine lv_istore (lv' := [_, _, _, _, _, _]) hx hb dX6_placeOf_41 hl (by decide) rfl (fun ls hl => ?_)
  refine lv_iload hx hb dX6_placeOf_43 (lv_at hl 1 rfl) ?_
  refine lv_if_eq (tgt := 68) hx hb dX6_placeOf_45 (by decide) (fun h2 => ?_) (fun h2 => ?_)
  · replace hf := ite_t h2 hf
    refine lv_iconst (v := (-1 : Int32)) hx hb dX6_placeOf_68 (by decide) ?_
    exact retI E hW ⟨Option.some.inj hf, rfl⟩ dX6_placeOf_69
  · replace hf := ite_f h2 hf
    refine lv_iload hx hb dX6_placeOf_48 (lv_at hl 0 rfl) ?_
    refine lv_if_lt (tgt := 68) hx hb dX6_placeOf_50 (by decide) (fun h3 => ?_) (fun h3 => ?_)
    · replace hf := ite_t h3 hf
      refine lv_iconst (v := (-1 : Int32)) hx hb dX6_placeOf_68 (by decide) ?_
      exact retI E hW ⟨Option.some.inj hf, rfl⟩ dX6_placeOf_69
    · replace hf := ite_f h3 hf
      refine lv_iload hx hb dX6_placeOf_53 (lv_at hl 0 rfl) ?_
      refine lv_aload_n hx hb dX6_placeOf_55 rfl (lv_at hl 2 rfl) ?_
      refine rg_X6_15 E hW dX6_placeOf_56 ?_
      refine rl_21 E hW dX6_placeOf_59 ?_
      refine lv_icmp_ge (tgt := 68) hx hb dX6_placeOf_60 (by decide) (fun h4 => ?_) (fun h4 => ?_)
      · replace hf := ite_t h4 hf
        refine lv_iconst (v := (-1 : Int32)) hx hb dX6_placeOf_68 (by decide) ?_
        exact retI E hW ⟨Option.some.inj hf, rfl⟩ dX6_placeOf_69
      · replace hf := ite_f h4 hf
        refine lv_iload hx hb dX6_placeOf_63 (lv_at hl 0 rfl) ?_
        refine lv_goto (tgt := 69) hx hb dX6_placeOf_65 (by decide) ?_
        exact retI E hW ⟨Option.some.inj hf, rfl⟩ dX6_placeOf_69
set_option maxHeartbeats 4000000 in
set_option maxRecDepth 100000 in
theorem w_X6_placeOf_27 {p : Program} {l : Launch} {e : Env} {s : State} {m : MethodId} {args : Array Value} {below : List Frame} {meth : Method} {c : Code} {X : XT} {B : Nat} {ms : MS} {o : Nat → Int64} {r : Int32} (E : Ev X B p s m args meth c RX6 cX6_placeOf 6 (some .int)) : ∀ (cs : CS) (v1 : Int32) (v2 : Int32) (v3 : Int32) (H : Heap) (locs : List Loc) (ls : Array Slot), f_X6_placeOf_27 cs v1 v2 v3 = some r → Ws X B s.heap H locs (cs, ms, o) → lv_has ls 6 [(0, .ref (X.1 4)), (1, .int v1), (2, .int v2), (3, .int v3)] → W p l e rm_X6_placeOf s m args below meth c H locs 0 0 (MQ below (QI X B r (cs, ms, o)) args s 0 0 (Ab B)) (F0 m 27 ls []) := by
  obtain ⟨hx, hb, hml, hown, hts, -⟩ := id E
  intro cs v1 v2 v3 H locs ls hf hW hl
  unfold f_X6_placeOf_27 at hf
  refine lv_iconst (v := (0 : Int32)) hx hb dX6_placeOf_27 (by decide) ?_
  exact w_X6_placeOf_28 E _ _ _ _ _ _ _ _ hf hW (lv_sub hl [0, 1, 2, 3] rfl)
set_option maxHeartbeats 4000000 in
set_option maxRecDepth 100000 in
theorem c_X6_placeOf (l : Launch) {X : XT} {B : Nat} {cs : CS} {ms : MS} {o : Nat → Int64} {v1 : Int32} {v2 : Int32} {v3 : Int32} {r : Int32} (hf : f_X6_placeOf cs v1 v2 v3 = some r) : Met l yX6_placeOf (.code yX6_placeOf cX6_placeOf 6 (some .int) :: BIG) rm_X6_placeOf (Pre X B (cs, ms, o) [.ref (X.1 4), .int v1, .int v2, .int v3]) (QI X B r (cs, ms, o)) 0 0 (Ab B) := by
  refine entry (by decide +kernel) rfl (Nat.le_of_ble_eq_true rfl) (fun p e s m below meth c ls E hW hl => ?_)
  obtain ⟨hx, hb, hml, hown, hts, -⟩ := id E
  replace hl : lv_has ls 6 [(0, .ref (X.1 4)), (1, .int v1), (2, .int v2), (3, .int v3)] := hl
  unfold f_X6_placeOf at hf
  refine lv_iload_n hx hb dX6_placeOf_0 rfl (lv_at hl 2 rfl) ?_
  refine lv_if_lt (tgt := 27) hx hb dX6_placeOf_1 (by decide) (fun h1 => ?_) (fun h1 => ?_)
  · replace hf := ite_t h1 hf
    exact w_X6_placeOf_27 E _ _ _ _ _ _ _ hf hW (lv_sub hl [0, 1, 2, 3] rfl)
  · replace hf := ite_f h1 hf
    refine lv_iload_n hx hb dX6_placeOf_4 rfl (lv_at hl 2 rfl) ?_
    refine lv_aload_n hx hb dX6_placeOf_5 rfl (lv_at hl 0 rfl) ?_
    refine lv_iload_n hx hb dX6_placeOf_6 rfl (lv_at hl 1 rfl) ?_
    obtain ⟨r5, hc, hf⟩ := b1_e hf
    refine callVI (As := [.int _]) (rest := [_]) E hW (c_X6_partsOf l hc) lk_X6_18 rcv_X6 (Nat.le_of_ble_eq_true rfl) (Nat.le_of_ble_eq_true rfl) (Nat.le_of_ble_eq_true rfl) (Nat.le_of_ble_eq_true rfl) hl.1 (Nat.le_of_ble_eq_true rfl) dX6_placeOf_7 (fun H locs hW => ?_)
    refine lv_icmp_ge (tgt := 27) hx hb dX6_placeOf_10 (by decide) (fun h6 => ?_) (fun h6 => ?_)
    · replace hf := ite_t h6 hf
      exact w_X6_placeOf_27 E _ _ _ _ _ _ _ hf hW (lv_sub hl [0, 1, 2, 3] rfl)
    · replace hf := ite_f h6 hf
      refine lv_iload_n hx hb dX6_placeOf_13 rfl (lv_at hl 3 rfl) ?_
      refine lv_if_lt (tgt := 27) hx hb dX6_placeOf_14 (by decide) (fun h7 => ?_) (fun h7 => ?_)
      · replace hf := ite_t h7 hf
        exact w_X6_placeOf_27 E _ _ _ _ _ _ _ hf hW (lv_sub hl [0, 1, 2, 3] rfl)
      · replace hf := ite_f h7 hf
        refine lv_iload_n hx hb dX6_placeOf_17 rfl (lv_at hl 3 rfl) ?_
        refine lv_bipush (v := (8 : Int32)) hx hb dX6_placeOf_18 (by decide) ?_
        refine lv_icmp_ge (tgt := 27) hx hb dX6_placeOf_20 (by decide) (fun h8 => ?_) (fun h8 => ?_)
        · replace hf := ite_t h8 hf
          exact w_X6_placeOf_27 E _ _ _ _ _ _ _ hf hW (lv_sub hl [0, 1, 2, 3] rfl)
        · replace hf := ite_f h8 hf
          refine lv_iconst (v := (1 : Int32)) hx hb dX6_placeOf_23 (by decide) ?_
          refine lv_goto (tgt := 28) hx hb dX6_placeOf_24 (by decide) ?_
          exact w_X6_placeOf_28 E _ _ _ _ _ _ _ _ hf hW (lv_sub hl [0, 1, 2, 3] rfl)
def f_X6_factOf (cs : CS) (v1 : Int32) (v2 : Int32) (v3 : Int32) : Option (Int32) := (f_X6_placeOf cs v1 v2 v3).bind fun r1 => if r1 = (-1 : Int32) then (some (-1 : Int32)) else ((ldI (ca cs 21) 1536 r1).bind fun q4 => some q4)
def rm_X6_factOf : Room := { frames := 2, cells := 0, slots := 0, locals := 46 }
set_option maxHeartbeats 4000000 in
set_option maxRecDepth 100000 in
theorem c_X6_factOf (l : Launch) {X : XT} {B : Nat} {cs : CS} {ms : MS} {o : Nat → Int64} {v1 : Int32} {v2 : Int32} {v3 : Int32} {r : Int32} (hf : f_X6_factOf cs v1 v2 v3 = some r) : Met l yX6_factOf (.code yX6_factOf cX6_factOf 5 (some .int) :: BIG) rm_X6_factOf (Pre X B (cs, ms, o) [.ref (X.1 4), .int v1, .int v2, .int v3]) (QI X B r (cs, ms, o)) 0 0 (Ab B) := by
  refine entry (by decide +kernel) rfl (Nat.le_of_ble_eq_true rfl) (fun p e s m below meth c ls E hW hl => ?_)
  obtain ⟨hx, hb, hml, hown, hts, -⟩ := id E
  replace hl : lv_has ls 5 [(0, .ref (X.1 4)), (1, .int v1), (2, .int v2), (3, .int v3)] := hl
  unfold f_X6_factOf at hf
  refine lv_aload_n hx hb dX6_factOf_0 rfl (lv_at hl 0 rfl) ?_
  refine lv_iload_n hx hb dX6_factOf_1 rfl (lv_at hl 1 rfl) ?_
  refine lv_iload_n hx hb dX6_factOf_2 rfl (lv_at hl 2 rfl) ?_
  refine lv_iload_n hx hb dX6_factOf_3 rfl (lv_at hl 3 rfl) ?_
  obtain ⟨r1, hc, hf⟩ := b1_e hf
  refine callVI (As := [.int _, .int _, .int _]) (rest := []) E hW (c_X6_placeOf l hc) lk_X6_22 rcv_X6 (Nat.le_of_ble_eq_true rfl) (Nat.le_of_ble_eq_true rfl) (Nat.le_of_ble_eq_true rfl) (Nat.le_of_ble_eq_true rfl) hl.1 (Nat.le_of_ble_eq_true rfl) dX6_factOf_4 (fun H locs hW => ?_)
  refine lv_istore (lv' := [_, _, _, _, _]) hx hb dX6_factOf_7 hl (by decide) rfl (fun ls hl => ?_)
  refine lv_iload hx hb dX6_factOf_9 (lv_at hl 0 rfl) ?_
  refine lv_iconst (v := (-1 : Int32)) hx hb dX6_factOf_11 (by decide) ?_
  refine lv_icmp_ne (tgt := 19) hx hb dX6_factOf_12 (by decide) (fun h2 => ?_) (fun h2 => ?_)
  · replace hf := ite_f h2 hf
    refine lv_aload_n hx hb dX6_factOf_19 rfl (lv_at hl 1 rfl) ?_
    refine rg_X6_15 E hW dX6_factOf_20 ?_
    refine lv_iload hx hb dX6_factOf_23 (lv_at hl 0 rfl) ?_
    obtain ⟨v3, hf⟩ := ldI_e hf
    refine ra_21 E hW v3 dX6_factOf_25 ?_
    exact retI E hW ⟨Option.some.inj hf, rfl⟩ dX6_factOf_26
  · replace hf := ite_t h2 hf
    refine lv_iconst (v := (-1 : Int32)) hx hb dX6_factOf_15 (by decide) ?_
    refine lv_goto (tgt := 26) hx hb dX6_factOf_16 (by decide) ?_
    exact retI E hW ⟨Option.some.inj hf, rfl⟩ dX6_factOf_26
def f_X6_store (cs : CS) (v1 : Int32) (v2 : Int32) (v3 : Int32) (v4 : Int32) : Option (CS) := (f_X6_placeOf cs v1 v2 v3).bind fun r1 => if r1 = (-1 : Int32) then (some cs) else (ixr 1536 r1 <| some (caU cs 21 (r1).toNatClampNeg v4))
def rm_X6_store : Room := { frames := 2, cells := 0, slots := 0, locals := 46 }
set_option maxHeartbeats 4000000 in
set_option maxRecDepth 100000 in
theorem c_X6_store (l : Launch) {X : XT} {B : Nat} {cs : CS} {ms : MS} {o : Nat → Int64} {v1 : Int32} {v2 : Int32} {v3 : Int32} {v4 : Int32} {S9 : CS} (hf : f_X6_store cs v1 v2 v3 v4 = some S9) : Met l yX6_store (.code yX6_store cX6_store 6 none :: BIG) rm_X6_store (Pre X B (cs, ms, o) [.ref (X.1 4), .int v1, .int v2, .int v3, .int v4]) (QV X B (S9, ms, o)) 0 0 (Ab B) := by
  refine entry (by decide +kernel) rfl (Nat.le_of_ble_eq_true rfl) (fun p e s m below meth c ls E hW hl => ?_)
  obtain ⟨hx, hb, hml, hown, hts, -⟩ := id E
  replace hl : lv_has ls 6 [(0, .ref (X.1 4)), (1, .int v1), (2, .int v2), (3, .int v3), (4, .int v4)] := hl
  unfold f_X6_store at hf
  refine lv_aload_n hx hb dX6_store_0 rfl (lv_at hl 0 rfl) ?_
  refine lv_iload_n hx hb dX6_store_1 rfl (lv_at hl 1 rfl) ?_
  refine lv_iload_n hx hb dX6_store_2 rfl (lv_at hl 2 rfl) ?_
  refine lv_iload_n hx hb dX6_store_3 rfl (lv_at hl 3 rfl) ?_
  obtain ⟨r1, hc, hf⟩ := b1_e hf
  refine callVI (As := [.int _, .int _, .int _]) (rest := []) E hW (c_X6_placeOf l hc) lk_X6_22 rcv_X6 (Nat.le_of_ble_eq_true rfl) (Nat.le_of_ble_eq_true rfl) (Nat.le_of_ble_eq_true rfl) (Nat.le_of_ble_eq_true rfl) hl.1 (Nat.le_of_ble_eq_true rfl) dX6_store_4 (fun H locs hW => ?_)
  refine lv_istore (lv' := [_, _, _, _, _, _]) hx hb dX6_store_7 hl (by decide) rfl (fun ls hl => ?_)
  refine lv_iload hx hb dX6_store_9 (lv_at hl 0 rfl) ?_
  refine lv_iconst (v := (-1 : Int32)) hx hb dX6_store_11 (by decide) ?_
  refine lv_icmp_eq (tgt := 24) hx hb dX6_store_12 (by decide) (fun h2 => ?_) (fun h2 => ?_)
  · replace hf := ite_t h2 hf
    exact retV E hW (e1C hf) dX6_store_24
  · replace hf := ite_f h2 hf
    refine lv_aload_n hx hb dX6_store_15 rfl (lv_at hl 1 rfl) ?_
    refine rg_X6_15 E hW dX6_store_16 ?_
    refine lv_iload hx hb dX6_store_19 (lv_at hl 0 rfl) ?_
    refine lv_iload hx hb dX6_store_21 (lv_at hl 5 rfl) ?_
    obtain ⟨v3, hf⟩ := ixr_e hf
    refine rs_21 E hW v3 dX6_store_23 (fun H locs hW => ?_)
    exact retV E hW (e1C hf) dX6_store_24
def f_X6_hasShell_2 : Nat → CS → Int32 → Int32 → Option (Int32)
  | 0, _, _, _ => none
  | n + 1, cs, v1, v2 => (f_X6_partsOf cs v1).bind fun r1 => if r1 ≤ v2 then (some (0 : Int32)) else ((f_X6_factOf cs v1 v2 (0 : Int32)).bind fun r3 => if r3 = (5 : Int32) then (some (1 : Int32)) else (f_X6_hasShell_2 n cs v1 (v2 + (1 : Int32))))
def f_X6_hasShell (cs : CS) (v1 : Int32) : Option (Int32) := f_X6_hasShell_2 1000 cs v1 (0 : Int32)
def rm_X6_hasShell : Room := { frames := 3, cells := 0, slots := 0, locals := 70 }
set_option maxHeartbeats 4000000 in
set_option maxRecDepth 100000 in
theorem w_X6_hasShell_2 {p : Program} {l : Launch} {e : Env} {s : State} {m : MethodId} {args : Array Value} {below : List Frame} {meth : Method} {c : Code} {X : XT} {B : Nat} {ms : MS} {o : Nat → Int64} {r : Int32} (E : Ev X B p s m args meth c RX6 cX6_hasShell 3 (some .boolean)) : ∀ (n : Nat) (cs : CS) (v1 : Int32) (v2 : Int32) (H : Heap) (locs : List Loc) (ls : Array Slot), f_X6_hasShell_2 n cs v1 v2 = some r → Ws X B s.heap H locs (cs, ms, o) → lv_has ls 3 [(0, .ref (X.1 4)), (1, .int v1), (2, .int v2)] → W p l e rm_X6_hasShell s m args below meth c H locs 0 0 (MQ below (QI X B r (cs, ms, o)) args s 0 0 (Ab B)) (F0 m 2 ls []) := by
  obtain ⟨hx, hb, hml, hown, hts, -⟩ := id E
  intro n
  induction n with
  | zero => intro cs v1 v2 H locs ls hf; exact absurd hf nofun
  | succ n ih =>
    intro cs v1 v2 H locs ls hf hW hl
    rw [f_X6_hasShell_2] at hf
    refine lv_iload_n hx hb dX6_hasShell_2 rfl (lv_at hl 2 rfl) ?_
    refine lv_aload_n hx hb dX6_hasShell_3 rfl (lv_at hl 0 rfl) ?_
    refine lv_iload_n hx hb dX6_hasShell_4 rfl (lv_at hl 1 rfl) ?_
    obtain ⟨r1, hc, hf⟩ := b1_e hf
    refine callVI (As := [.int _]) (rest := [_]) E hW (c_X6_partsOf l hc) lk_X6_18 rcv_X6 (Nat.le_of_ble_eq_true rfl) (Nat.le_of_ble_eq_true rfl) (Nat.le_of_ble_eq_true rfl) (Nat.le_of_ble_eq_true rfl) hl.1 (Nat.le_of_ble_eq_true rfl) dX6_hasShell_5 (fun H locs hW => ?_)
    refine lv_icmp_ge (tgt := 30) hx hb dX6_hasShell_8 (by decide) (fun h2 => ?_) (fun h2 => ?_)
    · replace hf := ite_t h2 hf
      refine lv_iconst (v := (0 : Int32)) hx hb dX6_hasShell_30 (by decide) ?_
      exact retZ E hW (Or.inl rfl) ⟨Option.some.inj hf, rfl⟩ dX6_hasShell_31
    · replace hf := ite_f h2 hf
      refine lv_aload_n hx hb dX6_hasShell_11 rfl (lv_at hl 0 rfl) ?_
      refine lv_iload_n hx hb dX6_hasShell_12 rfl (lv_at hl 1 rfl) ?_
      refine lv_iload_n hx hb dX6_hasShell_13 rfl (lv_at hl 2 rfl) ?_
      refine lv_iconst (v := (0 : Int32)) hx hb dX6_hasShell_14 (by decide) ?_
      obtain ⟨r3, hc, hf⟩ := b1_e hf
      refine callVI (As := [.int _, .int _, .int _]) (rest := []) E hW (c_X6_factOf l hc) lk_X6_26 rcv_X6 (Nat.le_of_ble_eq_true rfl) (Nat.le_of_ble_eq_true rfl) (Nat.le_of_ble_eq_true rfl) (Nat.le_of_ble_eq_true rfl) hl.1 (Nat.le_of_ble_eq_true rfl) dX6_hasShell_15 (fun H locs hW => ?_)
      refine lv_iconst (v := (5 : Int32)) hx hb dX6_hasShell_18 (by decide) ?_
      refine lv_icmp_ne (tgt := 24) hx hb dX6_hasShell_19 (by decide) (fun h4 => ?_) (fun h4 => ?_)
      · replace hf := ite_f h4 hf
        refine lv_iinc (v := _ + (1 : Int32)) (lv' := [_, _, _]) hx hb dX6_hasShell_24 hl (k := 2) rfl rfl (by decide) rfl (fun ls hl => ?_)
        refine lv_goto (tgt := 2) hx hb dX6_hasShell_27 (by decide) ?_
        exact ih _ _ _ _ _ _ hf hW (lv_sub hl [1, 2, 0] rfl)
      · replace hf := ite_t h4 hf
        refine lv_iconst (v := (1 : Int32)) hx hb dX6_hasShell_22 (by decide) ?_
        exact retZ E hW (Or.inr rfl) ⟨Option.some.inj hf, rfl⟩ dX6_hasShell_23
set_option maxHeartbeats 4000000 in
set_option maxRecDepth 100000 in
theorem c_X6_hasShell (l : Launch) {X : XT} {B : Nat} {cs : CS} {ms : MS} {o : Nat → Int64} {v1 : Int32} {r : Int32} (hf : f_X6_hasShell cs v1 = some r) : Met l yX6_hasShell (.code yX6_hasShell cX6_hasShell 3 (some .boolean) :: BIG) rm_X6_hasShell (Pre X B (cs, ms, o) [.ref (X.1 4), .int v1]) (QI X B r (cs, ms, o)) 0 0 (Ab B) := by
  refine entry (by decide +kernel) rfl (Nat.le_of_ble_eq_true rfl) (fun p e s m below meth c ls E hW hl => ?_)
  obtain ⟨hx, hb, hml, hown, hts, -⟩ := id E
  replace hl : lv_has ls 3 [(0, .ref (X.1 4)), (1, .int v1)] := hl
  unfold f_X6_hasShell at hf
  refine lv_iconst (v := (0 : Int32)) hx hb dX6_hasShell_0 (by decide) ?_
  refine lv_istore_n (lv' := [_, _, _]) hx hb dX6_hasShell_1 rfl hl (by decide) rfl (fun ls hl => ?_)
  exact w_X6_hasShell_2 E 1000 _ _ _ _ _ _ hf hW (lv_sub hl [1, 2, 0] rfl)
def f_X7_isWidth (cs : CS) (v0 : Int32) : Option (Int32) := if v0 < 0 then (some (0 : Int32)) else (if (2 : Int32) < v0 then (some (0 : Int32)) else (some (1 : Int32)))
def rm_X7_isWidth : Room := { frames := 0, cells := 0, slots := 0, locals := 0 }
set_option maxHeartbeats 4000000 in
set_option maxRecDepth 100000 in
theorem c_X7_isWidth (l : Launch) {X : XT} {B : Nat} {cs : CS} {ms : MS} {o : Nat → Int64} {v0 : Int32} {r : Int32} (hf : f_X7_isWidth cs v0 = some r) : Met l yX7_isWidth (.code yX7_isWidth cX7_isWidth 1 (some .boolean) :: BIG) rm_X7_isWidth (Pre X B (cs, ms, o) [.int v0]) (QI X B r (cs, ms, o)) 0 0 (Ab B) := by
  refine entry (by decide +kernel) rfl (Nat.le_of_ble_eq_true rfl) (fun p e s m below meth c ls E hW hl => ?_)
  obtain ⟨hx, hb, hml, hown, hts, -⟩ := id E
  replace hl : lv_has ls 1 [(0, .int v0)] := hl
  unfold f_X7_isWidth at hf
  refine lv_iload_n hx hb dX7_isWidth_0 rfl (lv_at hl 0 rfl) ?_
  refine lv_if_lt (tgt := 13) hx hb dX7_isWidth_1 (by decide) (fun h1 => ?_) (fun h1 => ?_)
  · replace hf := ite_t h1 hf
    refine lv_iconst (v := (0 : Int32)) hx hb dX7_isWidth_13 (by decide) ?_
    exact retZ E hW (Or.inl rfl) ⟨Option.some.inj hf, rfl⟩ dX7_isWidth_14
  · replace hf := ite_f h1 hf
    refine lv_iload_n hx hb dX7_isWidth_4 rfl (lv_at hl 0 rfl) ?_
    refine lv_iconst (v := (2 : Int32)) hx hb dX7_isWidth_5 (by decide) ?_
    refine lv_icmp_gt (tgt := 13) hx hb dX7_isWidth_6 (by decide) (fun h2 => ?_) (fun h2 => ?_)
    · replace hf := ite_t h2 hf
      refine lv_iconst (v := (0 : Int32)) hx hb dX7_isWidth_13 (by decide) ?_
      exact retZ E hW (Or.inl rfl) ⟨Option.some.inj hf, rfl⟩ dX7_isWidth_14
    · replace hf := ite_f h2 hf
      refine lv_iconst (v := (1 : Int32)) hx hb dX7_isWidth_9 (by decide) ?_
      refine lv_goto (tgt := 14) hx hb dX7_isWidth_10 (by decide) ?_
      exact retZ E hW (Or.inr rfl) ⟨Option.some.inj hf, rfl⟩ dX7_isWidth_14
def f_X7_made (cs : CS) : Option (Int32) := some (ci cs 4)
def rm_X7_made : Room := { frames := 0, cells := 0, slots := 0, locals := 0 }
set_option maxHeartbeats 4000000 in
set_option maxRecDepth 100000 in
theorem c_X7_made (l : Launch) {X : XT} {B : Nat} {cs : CS} {ms : MS} {o : Nat → Int64} {r : Int32} (hf : f_X7_made cs  = some r) : Met l yX7_made (.code yX7_made cX7_made 1 (some .int) :: BIG) rm_X7_made (Pre X B (cs, ms, o) [.ref (X.1 1)]) (QI X B r (cs, ms, o)) 0 0 (Ab B) := by
  refine entry (by decide +kernel) rfl (Nat.le_of_ble_eq_true rfl) (fun p e s m below meth c ls E hW hl => ?_)
  obtain ⟨hx, hb, hml, hown, hts, -⟩ := id E
  replace hl : lv_has ls 1 [(0, .ref (X.1 1))] := hl
  unfold f_X7_made at hf
  refine lv_aload_n hx hb dX7_made_0 rfl (lv_at hl 0 rfl) ?_
  refine rg_X7_22 E hW dX7_made_1 ?_
  exact retI E hW ⟨Option.some.inj hf, rfl⟩ dX7_made_4
def f_X7_open (cs : CS) (v1 : Int32) : Option (Int32 × CS) := if (ci cs 4) < 0 then (some ((-1 : Int32), cs)) else (if (ci cs 4) < (8 : Int32) then (ixr 8 (ci cs 4) <| some (((ci (ciU (caU cs 12 ((ci cs 4)).toNatClampNeg v1) 4 ((ci (caU cs 12 ((ci cs 4)).toNatClampNeg v1) 4) + (1 : Int32))) 4) - (1 : Int32)), (ciU (caU cs 12 ((ci cs 4)).toNatClampNeg v1) 4 ((ci (caU cs 12 ((ci cs 4)).toNatClampNeg v1) 4) + (1 : Int32))))) else (some ((-1 : Int32), cs)))
def rm_X7_open : Room := { frames := 0, cells := 0, slots := 0, locals := 0 }
set_option maxHeartbeats 4000000 in
set_option maxRecDepth 100000 in
theorem c_X7_open (l : Launch) {X : XT} {B : Nat} {cs : CS} {ms : MS} {o : Nat → Int64} {v1 : Int32} {r : Int32} {S9 : CS} (hf : f_X7_open cs v1 = some (r, S9)) : Met l yX7_open (.code yX7_open cX7_open 2 (some .int) :: BIG) rm_X7_open (Pre X B (cs, ms, o) [.ref (X.1 1), .int v1]) (QI X B r (S9, ms, o)) 0 0 (Ab B) := by
  refine entry (by decide +kernel) rfl (Nat.le_of_ble_eq_true rfl) (fun p e s m below meth c ls E hW hl => ?_)
  obtain ⟨hx, hb, hml, hown, hts, -⟩ := id E
  replace hl : lv_has ls 2 [(0, .ref (X.1 1)), (1, .int v1)] := hl
  unfold f_X7_open at hf
  refine lv_aload_n hx hb dX7_open_0 rfl (lv_at hl 0 rfl) ?_
  refine rg_X7_22 E hW dX7_open_1 ?_
  refine lv_if_lt (tgt := 19) hx hb dX7_open_4 (by decide) (fun h1 => ?_) (fun h1 => ?_)
  · replace hf := ite_t h1 hf
    refine lv_iconst (v := (-1 : Int32)) hx hb dX7_open_19 (by decide) ?_
    exact retI E hW (e2C hf) dX7_open_20
  · replace hf := ite_f h1 hf
    refine lv_aload_n hx hb dX7_open_7 rfl (lv_at hl 0 rfl) ?_
    refine rg_X7_22 E hW dX7_open_8 ?_
    refine lv_aload_n hx hb dX7_open_11 rfl (lv_at hl 0 rfl) ?_
    refine rg_X7_11 E hW dX7_open_12 ?_
    refine rl_12 E hW dX7_open_15 ?_
    refine lv_icmp_lt (tgt := 21) hx hb dX7_open_16 (by decide) (fun h2 => ?_) (fun h2 => ?_)
    · replace hf := ite_t h2 hf
      refine lv_aload_n hx hb dX7_open_21 rfl (lv_at hl 0 rfl) ?_
      refine rg_X7_11 E hW dX7_open_22 ?_
      refine lv_aload_n hx hb dX7_open_25 rfl (lv_at hl 0 rfl) ?_
      refine rg_X7_22 E hW dX7_open_26 ?_
      refine lv_iload_n hx hb dX7_open_29 rfl (lv_at hl 1 rfl) ?_
      obtain ⟨v3, hf⟩ := ixr_e hf
      refine rs_12 E hW v3 dX7_open_30 (fun H locs hW => ?_)
      refine lv_aload_n hx hb dX7_open_31 rfl (lv_at hl 0 rfl) ?_
      refine lv_dup hx hb dX7_open_32 rfl ?_
      refine rg_X7_22 E hW dX7_open_33 ?_
      refine lv_iconst (v := (1 : Int32)) hx hb dX7_open_36 (by decide) ?_
      refine lv_iadd hx hb dX7_open_37 ?_
      refine rp_X7_22 E hW dX7_open_38 (fun H locs hW => ?_)
      refine lv_aload_n hx hb dX7_open_41 rfl (lv_at hl 0 rfl) ?_
      refine rg_X7_22 E hW dX7_open_42 ?_
      refine lv_iconst (v := (1 : Int32)) hx hb dX7_open_45 (by decide) ?_
      refine lv_isub hx hb dX7_open_46 ?_
      exact retI E hW (e2C hf) dX7_open_47
    · replace hf := ite_f h2 hf
      refine lv_iconst (v := (-1 : Int32)) hx hb dX7_open_19 (by decide) ?_
      exact retI E hW (e2C hf) dX7_open_20
def f_X7_slotAt (cs : CS) (v1 : Int32) (v2 : Int32) : Option (Int32) := if v1 < 0 then (some (-1 : Int32)) else (if (ci cs 4) ≤ v1 then (some (-1 : Int32)) else (if v2 < 0 then (some (-1 : Int32)) else (if (16 : Int32) ≤ v2 then (some (-1 : Int32)) else (some ((v1 * (16 : Int32)) + v2)))))
def rm_X7_slotAt : Room := { frames := 0, cells := 0, slots := 0, locals := 0 }
set_option maxHeartbeats 4000000 in
set_option maxRecDepth 100000 in
theorem c_X7_slotAt (l : Launch) {X : XT} {B : Nat} {cs : CS} {ms : MS} {o : Nat → Int64} {v1 : Int32} {v2 : Int32} {r : Int32} (hf : f_X7_slotAt cs v1 v2 = some r) : Met l yX7_slotAt (.code yX7_slotAt cX7_slotAt 3 (some .int) :: BIG) rm_X7_slotAt (Pre X B (cs, ms, o) [.ref (X.1 1), .int v1, .int v2]) (QI X B r (cs, ms, o)) 0 0 (Ab B) := by
  refine entry (by decide +kernel) rfl (Nat.le_of_ble_eq_true rfl) (fun p e s m below meth c ls E hW hl => ?_)
  obtain ⟨hx, hb, hml, hown, hts, -⟩ := id E
  replace hl : lv_has ls 3 [(0, .ref (X.1 1)), (1, .int v1), (2, .int v2)] := hl
  unfold f_X7_slotAt at hf
  refine lv_iload_n hx hb dX7_slotAt_0 rfl (lv_at hl 1 rfl) ?_
  refine lv_if_lt (tgt := 31) hx hb dX7_slotAt_1 (by decide) (fun h1 => ?_) (fun h1 => ?_)
  · replace hf := ite_t h1 hf
    refine lv_iconst (v := (-1 : Int32)) hx hb dX7_slotAt_31 (by decide) ?_
    exact retI E hW ⟨Option.some.inj hf, rfl⟩ dX7_slotAt_32
  · replace hf := ite_f h1 hf
    refine lv_iload_n hx hb dX7_slotAt_4 rfl (lv_at hl 1 rfl) ?_
    refine lv_aload_n hx hb dX7_slotAt_5 rfl (lv_at hl 0 rfl) ?_
    refine rg_X7_22 E hW dX7_slotAt_6 ?_
    refine lv_icmp_ge (tgt := 31) hx hb dX7_slotAt_9 (by decide) (fun h2 => ?_) (fun h2 => ?_)
    · replace hf := ite_t h2 hf
      refine lv_iconst (v := (-1 : Int32)) hx hb dX7_slotAt_31 (by decide) ?_
      exact retI E hW ⟨Option.some.inj hf, rfl⟩ dX7_slotAt_32
    · replace hf := ite_f h2 hf
      refine lv_iload_n hx hb dX7_slotAt_12 rfl (lv_at hl 2 rfl) ?_
      refine lv_if_lt (tgt := 31) hx hb dX7_slotAt_13 (by decide) (fun h3 => ?_) (fun h3 => ?_)
      · replace hf := ite_t h3 hf
        refine lv_iconst (v := (-1 : Int32)) hx hb dX7_slotAt_31 (by decide) ?_
        exact retI E hW ⟨Option.some.inj hf, rfl⟩ dX7_slotAt_32
      · replace hf := ite_f h3 hf
        refine lv_iload_n hx hb dX7_slotAt_16 rfl (lv_at hl 2 rfl) ?_
        refine lv_bipush (v := (16 : Int32)) hx hb dX7_slotAt_17 (by decide) ?_
        refine lv_icmp_ge (tgt := 31) hx hb dX7_slotAt_19 (by decide) (fun h4 => ?_) (fun h4 => ?_)
        · replace hf := ite_t h4 hf
          refine lv_iconst (v := (-1 : Int32)) hx hb dX7_slotAt_31 (by decide) ?_
          exact retI E hW ⟨Option.some.inj hf, rfl⟩ dX7_slotAt_32
        · replace hf := ite_f h4 hf
          refine lv_iload_n hx hb dX7_slotAt_22 rfl (lv_at hl 1 rfl) ?_
          refine lv_bipush (v := (16 : Int32)) hx hb dX7_slotAt_23 (by decide) ?_
          refine lv_imul hx hb dX7_slotAt_25 ?_
          refine lv_iload_n hx hb dX7_slotAt_26 rfl (lv_at hl 2 rfl) ?_
          refine lv_iadd hx hb dX7_slotAt_27 ?_
          refine lv_goto (tgt := 32) hx hb dX7_slotAt_28 (by decide) ?_
          exact retI E hW ⟨Option.some.inj hf, rfl⟩ dX7_slotAt_32
def f_X7_lengthAt (cs : CS) (v1 : Int32) : Option (Int32) := if v1 < 0 then (some (-1 : Int32)) else (if (128 : Int32) ≤ v1 then (some (-1 : Int32)) else ((ldI (ca cs 13) 128 v1).bind fun q4 => some q4))
def rm_X7_lengthAt : Room := { frames := 0, cells := 0, slots := 0, locals := 0 }
set_option maxHeartbeats 4000000 in
set_option maxRecDepth 100000 in
theorem c_X7_lengthAt (l : Launch) {X : XT} {B : Nat} {cs : CS} {ms : MS} {o : Nat → Int64} {v1 : Int32} {r : Int32} (hf : f_X7_lengthAt cs v1 = some r) : Met l yX7_lengthAt (.code yX7_lengthAt cX7_lengthAt 2 (some .int) :: BIG) rm_X7_lengthAt (Pre X B (cs, ms, o) [.ref (X.1 1), .int v1]) (QI X B r (cs, ms, o)) 0 0 (Ab B) := by
  refine entry (by decide +kernel) rfl (Nat.le_of_ble_eq_true rfl) (fun p e s m below meth c ls E hW hl => ?_)
  obtain ⟨hx, hb, hml, hown, hts, -⟩ := id E
  replace hl : lv_has ls 2 [(0, .ref (X.1 1)), (1, .int v1)] := hl
  unfold f_X7_lengthAt at hf
  refine lv_iload_n hx hb dX7_lengthAt_0 rfl (lv_at hl 1 rfl) ?_
  refine lv_if_lt (tgt := 22) hx hb dX7_lengthAt_1 (by decide) (fun h1 => ?_) (fun h1 => ?_)
  · replace hf := ite_t h1 hf
    refine lv_iconst (v := (-1 : Int32)) hx hb dX7_lengthAt_22 (by decide) ?_
    exact retI E hW ⟨Option.some.inj hf, rfl⟩ dX7_lengthAt_23
  · replace hf := ite_f h1 hf
    refine lv_iload_n hx hb dX7_lengthAt_4 rfl (lv_at hl 1 rfl) ?_
    refine lv_aload_n hx hb dX7_lengthAt_5 rfl (lv_at hl 0 rfl) ?_
    refine rg_X7_15 E hW dX7_lengthAt_6 ?_
    refine rl_13 E hW dX7_lengthAt_9 ?_
    refine lv_icmp_ge (tgt := 22) hx hb dX7_lengthAt_10 (by decide) (fun h2 => ?_) (fun h2 => ?_)
    · replace hf := ite_t h2 hf
      refine lv_iconst (v := (-1 : Int32)) hx hb dX7_lengthAt_22 (by decide) ?_
      exact retI E hW ⟨Option.some.inj hf, rfl⟩ dX7_lengthAt_23
    · replace hf := ite_f h2 hf
      refine lv_aload_n hx hb dX7_lengthAt_13 rfl (lv_at hl 0 rfl) ?_
      refine rg_X7_15 E hW dX7_lengthAt_14 ?_
      refine lv_iload_n hx hb dX7_lengthAt_17 rfl (lv_at hl 1 rfl) ?_
      obtain ⟨v3, hf⟩ := ldI_e hf
      refine ra_13 E hW v3 dX7_lengthAt_18 ?_
      refine lv_goto (tgt := 23) hx hb dX7_lengthAt_19 (by decide) ?_
      exact retI E hW ⟨Option.some.inj hf, rfl⟩ dX7_lengthAt_23
def f_X7_lowestBits (cs : CS) (v1 : Int32) (v2 : Int64) : Option (Int64) := if (v1 / (16 : Int32)) < 0 then (some v2) else (if (8 : Int32) ≤ (v1 / (16 : Int32)) then (some v2) else ((ldI (ca cs 12) 8 (v1 / (16 : Int32))).bind fun q4 => if q4 = 0 then (some v2.toInt32.toInt16.toInt32.toInt64) else (if q4 = (1 : Int32) then (some v2.toInt32.toInt64) else (some v2))))
def rm_X7_lowestBits : Room := { frames := 0, cells := 0, slots := 0, locals := 0 }
set_option maxHeartbeats 4000000 in
set_option maxRecDepth 100000 in
theorem c_X7_lowestBits (l : Launch) {X : XT} {B : Nat} {cs : CS} {ms : MS} {o : Nat → Int64} {v1 : Int32} {v2 : Int64} {r : Int64} (hf : f_X7_lowestBits cs v1 v2 = some r) : Met l yX7_lowestBits (.code yX7_lowestBits cX7_lowestBits 6 (some .long) :: BIG) rm_X7_lowestBits (Pre X B (cs, ms, o) [.ref (X.1 1), .int v1, .long v2]) (QL X B r (cs, ms, o)) 0 0 (Ab B) := by
  refine entry (by decide +kernel) rfl (Nat.le_of_ble_eq_true rfl) (fun p e s m below meth c ls E hW hl => ?_)
  obtain ⟨hx, hb, hml, hown, hts, -⟩ := id E
  replace hl : lv_has ls 6 [(0, .ref (X.1 1)), (1, .int v1), (2, .long v2)] := hl
  unfold f_X7_lowestBits at hf
  refine lv_iload_n hx hb dX7_lowestBits_0 rfl (lv_at hl 1 rfl) ?_
  refine lv_bipush (v := (16 : Int32)) hx hb dX7_lowestBits_1 (by decide) ?_
  refine lv_idiv hx hb dX7_lowestBits_3 (by decide) ?_
  refine lv_istore (lv' := [_, _, _, _]) hx hb dX7_lowestBits_4 hl (by decide) rfl (fun ls hl => ?_)
  refine lv_iload hx hb dX7_lowestBits_6 (lv_at hl 0 rfl) ?_
  refine lv_if_lt (tgt := 31) hx hb dX7_lowestBits_8 (by decide) (fun h1 => ?_) (fun h1 => ?_)
  · replace hf := ite_t h1 hf
    refine lv_iconst (v := (2 : Int32)) hx hb dX7_lowestBits_31 (by decide) ?_
    refine lv_istore (lv' := [_, _, _, _, _]) hx hb dX7_lowestBits_32 hl (by decide) rfl (fun ls hl => ?_)
    refine lv_iload hx hb dX7_lowestBits_34 (lv_at hl 0 rfl) ?_
    refine lv_if_ne (tgt := 44) hx hb dX7_lowestBits_36 (by decide) (fun _ => ?_) (fun h9 => absurd h9 (by decide))
    refine lv_iload hx hb dX7_lowestBits_44 (lv_at hl 0 rfl) ?_
    refine lv_iconst (v := (1 : Int32)) hx hb dX7_lowestBits_46 (by decide) ?_
    refine lv_icmp_ne (tgt := 56) hx hb dX7_lowestBits_47 (by decide) (fun _ => ?_) (fun h9 => absurd h9 (by decide))
    refine lv_lload_n hx hb dX7_lowestBits_56 rfl (lv_at hl 4 rfl) ?_
    exact retL E hW ⟨Option.some.inj hf, rfl⟩ dX7_lowestBits_57
  · replace hf := ite_f h1 hf
    refine lv_iload hx hb dX7_lowestBits_11 (lv_at hl 0 rfl) ?_
    refine lv_aload_n hx hb dX7_lowestBits_13 rfl (lv_at hl 1 rfl) ?_
    refine rg_X7_11 E hW dX7_lowestBits_14 ?_
    refine rl_12 E hW dX7_lowestBits_17 ?_
    refine lv_icmp_ge (tgt := 31) hx hb dX7_lowestBits_18 (by decide) (fun h2 => ?_) (fun h2 => ?_)
    · replace hf := ite_t h2 hf
      refine lv_iconst (v := (2 : Int32)) hx hb dX7_lowestBits_31 (by decide) ?_
      refine lv_istore (lv' := [_, _, _, _, _]) hx hb dX7_lowestBits_32 hl (by decide) rfl (fun ls hl => ?_)
      refine lv_iload hx hb dX7_lowestBits_34 (lv_at hl 0 rfl) ?_
      refine lv_if_ne (tgt := 44) hx hb dX7_lowestBits_36 (by decide) (fun _ => ?_) (fun h9 => absurd h9 (by decide))
      refine lv_iload hx hb dX7_lowestBits_44 (lv_at hl 0 rfl) ?_
      refine lv_iconst (v := (1 : Int32)) hx hb dX7_lowestBits_46 (by decide) ?_
      refine lv_icmp_ne (tgt := 56) hx hb dX7_lowestBits_47 (by decide) (fun _ => ?_) (fun h9 => absurd h9 (by decide))
      refine lv_lload_n hx hb dX7_lowestBits_56 rfl (lv_at hl 4 rfl) ?_
      exact retL E hW ⟨Option.some.inj hf, rfl⟩ dX7_lowestBits_57
    · replace hf := ite_f h2 hf
      refine lv_aload_n hx hb dX7_lowestBits_21 rfl (lv_at hl 1 rfl) ?_
      refine rg_X7_11 E hW dX7_lowestBits_22 ?_
      refine lv_iload hx hb dX7_lowestBits_25 (lv_at hl 0 rfl) ?_
      obtain ⟨v3, hf⟩ := ldI_e hf
      refine ra_12 E hW v3 dX7_lowestBits_27 ?_
      refine lv_goto (tgt := 32) hx hb dX7_lowestBits_28 (by decide) ?_
      refine lv_istore (lv' := [_, _, _, _, _]) hx hb dX7_lowestBits_32 hl (by decide) rfl (fun ls hl => ?_)
      refine lv_iload hx hb dX7_lowestBits_34 (lv_at hl 0 rfl) ?_
      refine lv_if_ne (tgt := 44) hx hb dX7_lowestBits_36 (by decide) (fun h5 => ?_) (fun h5 => ?_)
      · replace hf := ite_f h5 hf
        refine lv_iload hx hb dX7_lowestBits_44 (lv_at hl 0 rfl) ?_
        refine lv_iconst (v := (1 : Int32)) hx hb dX7_lowestBits_46 (by decide) ?_
        refine lv_icmp_ne (tgt := 56) hx hb dX7_lowestBits_47 (by decide) (fun h6 => ?_) (fun h6 => ?_)
        · replace hf := ite_f h6 hf
          refine lv_lload_n hx hb dX7_lowestBits_56 rfl (lv_at hl 4 rfl) ?_
          exact retL E hW ⟨Option.some.inj hf, rfl⟩ dX7_lowestBits_57
        · replace hf := ite_t h6 hf
          refine lv_lload_n hx hb dX7_lowestBits_50 rfl (lv_at hl 4 rfl) ?_
          refine lv_l2i hx hb dX7_lowestBits_51 rfl ?_
          refine lv_i2l hx hb dX7_lowestBits_52 rfl ?_
          refine lv_goto (tgt := 57) hx hb dX7_lowestBits_53 (by decide) ?_
          exact retL E hW ⟨Option.some.inj hf, rfl⟩ dX7_lowestBits_57
      · replace hf := ite_t h5 hf
        refine lv_lload_n hx hb dX7_lowestBits_39 rfl (lv_at hl 4 rfl) ?_
        refine lv_l2i hx hb dX7_lowestBits_40 rfl ?_
        refine lv_i2s hx hb dX7_lowestBits_41 rfl ?_
        refine lv_i2l hx hb dX7_lowestBits_42 rfl ?_
        exact retL E hW ⟨Option.some.inj hf, rfl⟩ dX7_lowestBits_43
def f_X7_placeOf (cs : CS) (v1 : Int32) (v2 : Int32) : Option (Int32) := if v2 < 0 then (some (-1 : Int32)) else ((f_X7_lengthAt cs v1).bind fun r2 => if r2 ≤ v2 then (some (-1 : Int32)) else (if ((v1 * (12 : Int32)) + v2) < 0 then (some (-1 : Int32)) else (if (1536 : Int32) ≤ ((v1 * (12 : Int32)) + v2) then (some (-1 : Int32)) else (some ((v1 * (12 : Int32)) + v2)))))
def rm_X7_placeOf : Room := { frames := 1, cells := 0, slots := 0, locals := 21 }
set_option maxHeartbeats 4000000 in
set_option maxRecDepth 100000 in
theorem c_X7_placeOf (l : Launch) {X : XT} {B : Nat} {cs : CS} {ms : MS} {o : Nat → Int64} {v1 : Int32} {v2 : Int32} {r : Int32} (hf : f_X7_placeOf cs v1 v2 = some r) : Met l yX7_placeOf (.code yX7_placeOf cX7_placeOf 4 (some .int) :: BIG) rm_X7_placeOf (Pre X B (cs, ms, o) [.ref (X.1 1), .int v1, .int v2]) (QI X B r (cs, ms, o)) 0 0 (Ab B) := by
  refine entry (by decide +kernel) rfl (Nat.le_of_ble_eq_true rfl) (fun p e s m below meth c ls E hW hl => ?_)
  obtain ⟨hx, hb, hml, hown, hts, -⟩ := id E
  replace hl : lv_has ls 4 [(0, .ref (X.1 1)), (1, .int v1), (2, .int v2)] := hl
  unfold f_X7_placeOf at hf
  refine lv_iload_n hx hb dX7_placeOf_0 rfl (lv_at hl 1 rfl) ?_
  refine lv_bipush (v := (12 : Int32)) hx hb dX7_placeOf_1 (by decide) ?_
  refine lv_imul hx hb dX7_placeOf_3 ?_
  refine lv_iload_n hx hb dX7_placeOf_4 rfl (lv_at hl 2 rfl) ?_
  refine lv_iadd hx hb dX7_placeOf_5 ?_
  refine lv_istore_n (lv' := [_, _, _, _]) hx hb dX7_placeOf_6 rfl hl (by decide) rfl (fun ls hl => ?_)
  refine lv_iload_n hx hb dX7_placeOf_7 rfl (lv_at hl 3 rfl) ?_
  refine lv_if_lt (tgt := 37) hx hb dX7_placeOf_8 (by decide) (fun h1 => ?_) (fun h1 => ?_)
  · replace hf := ite_t h1 hf
    refine lv_iconst (v := (-1 : Int32)) hx hb dX7_placeOf_37 (by decide) ?_
    exact retI E hW ⟨Option.some.inj hf, rfl⟩ dX7_placeOf_38
  · replace hf := ite_f h1 hf
    refine lv_iload_n hx hb dX7_placeOf_11 rfl (lv_at hl 3 rfl) ?_
    refine lv_aload_n hx hb dX7_placeOf_12 rfl (lv_at hl 1 rfl) ?_
    refine lv_iload_n hx hb dX7_placeOf_13 rfl (lv_at hl 2 rfl) ?_
    obtain ⟨r2, hc, hf⟩ := b1_e hf
    refine callVI (As := [.int _]) (rest := [_]) E hW (c_X7_lengthAt l hc) lk_X7_44 rcv_X7 (Nat.le_of_ble_eq_true rfl) (Nat.le_of_ble_eq_true rfl) (Nat.le_of_ble_eq_true rfl) (Nat.le_of_ble_eq_true rfl) hl.1 (Nat.le_of_ble_eq_true rfl) dX7_placeOf_14 (fun H locs hW => ?_)
    refine lv_icmp_ge (tgt := 37) hx hb dX7_placeOf_17 (by decide) (fun h3 => ?_) (fun h3 => ?_)
    · replace hf := ite_t h3 hf
      refine lv_iconst (v := (-1 : Int32)) hx hb dX7_placeOf_37 (by decide) ?_
      exact retI E hW ⟨Option.some.inj hf, rfl⟩ dX7_placeOf_38
    · replace hf := ite_f h3 hf
      refine lv_iload_n hx hb dX7_placeOf_20 rfl (lv_at hl 0 rfl) ?_
      refine lv_if_lt (tgt := 37) hx hb dX7_placeOf_21 (by decide) (fun h4 => ?_) (fun h4 => ?_)
      · replace hf := ite_t h4 hf
        refine lv_iconst (v := (-1 : Int32)) hx hb dX7_placeOf_37 (by decide) ?_
        exact retI E hW ⟨Option.some.inj hf, rfl⟩ dX7_placeOf_38
      · replace hf := ite_f h4 hf
        refine lv_iload_n hx hb dX7_placeOf_24 rfl (lv_at hl 0 rfl) ?_
        refine lv_aload_n hx hb dX7_placeOf_25 rfl (lv_at hl 1 rfl) ?_
        refine rg_X7_18 E hW dX7_placeOf_26 ?_
        refine rl_14 E hW dX7_placeOf_29 ?_
        refine lv_icmp_ge (tgt := 37) hx hb dX7_placeOf_30 (by decide) (fun h5 => ?_) (fun h5 => ?_)
        · replace hf := ite_t h5 hf
          refine lv_iconst (v := (-1 : Int32)) hx hb dX7_placeOf_37 (by decide) ?_
          exact retI E hW ⟨Option.some.inj hf, rfl⟩ dX7_placeOf_38
        · replace hf := ite_f h5 hf
          refine lv_iload_n hx hb dX7_placeOf_33 rfl (lv_at hl 0 rfl) ?_
          refine lv_goto (tgt := 38) hx hb dX7_placeOf_34 (by decide) ?_
          exact retI E hW ⟨Option.some.inj hf, rfl⟩ dX7_placeOf_38
def f_X7_write (cs : CS) (v1 : Int32) (v2 : Int32) (v3 : Int64) : Option (Int32 × CS) := (f_X7_placeOf cs v1 v2).bind fun r1 => if r1 = (-1 : Int32) then (some ((0 : Int32), cs)) else ((f_X7_lowestBits cs v1 v3).bind fun r3 => ixr 1536 r1 <| some ((1 : Int32), (cbU cs 14 (r1).toNatClampNeg r3)))
def rm_X7_write : Room := { frames := 2, cells := 0, slots := 0, locals := 44 }
set_option maxHeartbeats 4000000 in
set_option maxRecDepth 100000 in
theorem c_X7_write (l : Launch) {X : XT} {B : Nat} {cs : CS} {ms : MS} {o : Nat → Int64} {v1 : Int32} {v2 : Int32} {v3 : Int64} {r : Int32} {S9 : CS} (hf : f_X7_write cs v1 v2 v3 = some (r, S9)) : Met l yX7_write (.code yX7_write cX7_write 6 (some .boolean) :: BIG) rm_X7_write (Pre X B (cs, ms, o) [.ref (X.1 1), .int v1, .int v2, .long v3]) (QI X B r (S9, ms, o)) 0 0 (Ab B) := by
  refine entry (by decide +kernel) rfl (Nat.le_of_ble_eq_true rfl) (fun p e s m below meth c ls E hW hl => ?_)
  obtain ⟨hx, hb, hml, hown, hts, -⟩ := id E
  replace hl : lv_has ls 6 [(0, .ref (X.1 1)), (1, .int v1), (2, .int v2), (3, .long v3)] := hl
  unfold f_X7_write at hf
  refine lv_aload_n hx hb dX7_write_0 rfl (lv_at hl 0 rfl) ?_
  refine lv_iload_n hx hb dX7_write_1 rfl (lv_at hl 1 rfl) ?_
  refine lv_iload_n hx hb dX7_write_2 rfl (lv_at hl 2 rfl) ?_
  obtain ⟨r1, hc, hf⟩ := b1_e hf
  refine callVI (As := [.int _, .int _]) (rest := []) E hW (c_X7_placeOf l hc) lk_X7_36 rcv_X7 (Nat.le_of_ble_eq_true rfl) (Nat.le_of_ble_eq_true rfl) (Nat.le_of_ble_eq_true rfl) (Nat.le_of_ble_eq_true rfl) hl.1 (Nat.le_of_ble_eq_true rfl) dX7_write_3 (fun H locs hW => ?_)
  refine lv_istore (lv' := [_, _, _, _, _]) hx hb dX7_write_6 hl (by decide) rfl (fun ls hl => ?_)
  refine lv_iload hx hb dX7_write_8 (lv_at hl 0 rfl) ?_
  refine lv_iconst (v := (-1 : Int32)) hx hb dX7_write_10 (by decide) ?_
  refine lv_icmp_ne (tgt := 16) hx hb dX7_write_11 (by decide) (fun h2 => ?_) (fun h2 => ?_)
  · replace hf := ite_f h2 hf
    refine lv_aload_n hx hb dX7_write_16 rfl (lv_at hl 1 rfl) ?_
    refine rg_X7_18 E hW dX7_write_17 ?_
    refine lv_iload hx hb dX7_write_20 (lv_at hl 0 rfl) ?_
    refine lv_aload_n hx hb dX7_write_22 rfl (lv_at hl 1 rfl) ?_
    refine lv_iload_n hx hb dX7_write_23 rfl (lv_at hl 2 rfl) ?_
    refine lv_lload_n hx hb dX7_write_24 rfl (lv_at hl 4 rfl) ?_
    obtain ⟨r3, hc, hf⟩ := b1_e hf
    refine callVJ (As := [.int _, .long _]) (rest := [_, _]) E hW (c_X7_lowestBits l hc) lk_X7_40 rcv_X7 (Nat.le_of_ble_eq_true rfl) (Nat.le_of_ble_eq_true rfl) (Nat.le_of_ble_eq_true rfl) (Nat.le_of_ble_eq_true rfl) hl.1 (Nat.le_of_ble_eq_true rfl) dX7_write_25 (fun H locs hW => ?_)
    obtain ⟨v4, hf⟩ := ixr_e hf
    refine rs_14 E hW v4 dX7_write_28 (fun H locs hW => ?_)
    refine lv_iconst (v := (1 : Int32)) hx hb dX7_write_29 (by decide) ?_
    exact retZ E hW (Or.inr rfl) (e2C hf) dX7_write_30
  · replace hf := ite_t h2 hf
    refine lv_iconst (v := (0 : Int32)) hx hb dX7_write_14 (by decide) ?_
    exact retZ E hW (Or.inl rfl) (e2C hf) dX7_write_15
def f_X7_renew_23 : Nat → CS → Int32 → Int32 → Int32 → Option (CS)
  | 0, _, _, _, _ => none
  | n + 1, cs, v1, v2, v3 => if v2 ≤ v3 then (some cs) else (b2 (f_X7_write cs v1 v3 (0 : Int64)) fun r6 cs5 => f_X7_renew_23 n cs5 v1 v2 (v3 + (1 : Int32)))
def f_X7_renew (cs : CS) (v1 : Int32) (v2 : Int32) : Option (CS) := if v1 < 0 then (some cs) else (if v1 < (128 : Int32) then (ixr 128 v1 <| f_X7_renew_23 1000 (caU cs 13 (v1).toNatClampNeg v2) v1 v2 (0 : Int32)) else (some cs))
def rm_X7_renew : Room := { frames := 3, cells := 0, slots := 0, locals := 69 }
set_option maxHeartbeats 4000000 in
set_option maxRecDepth 100000 in
theorem w_X7_renew_23 {p : Program} {l : Launch} {e : Env} {s : State} {m : MethodId} {args : Array Value} {below : List Frame} {meth : Method} {c : Code} {X : XT} {B : Nat} {ms : MS} {o : Nat → Int64} {S9 : CS} (E : Ev X B p s m args meth c RX7 cX7_renew 4 none) : ∀ (n : Nat) (cs : CS) (v1 : Int32) (v2 : Int32) (v3 : Int32) (H : Heap) (locs : List Loc) (ls : Array Slot), f_X7_renew_23 n cs v1 v2 v3 = some S9 → Ws X B s.heap H locs (cs, ms, o) → lv_has ls 4 [(0, .ref (X.1 1)), (1, .int v1), (2, .int v2), (3, .int v3)] → W p l e rm_X7_renew s m args below meth c H locs 0 0 (MQ below (QV X B (S9, ms, o)) args s 0 0 (Ab B)) (F0 m 23 ls []) := by
  obtain ⟨hx, hb, hml, hown, hts, -⟩ := id E
  intro n
  induction n with
  | zero => intro cs v1 v2 v3 H locs ls hf; exact absurd hf nofun
  | succ n ih =>
    intro cs v1 v2 v3 H locs ls hf hW hl
    rw [f_X7_renew_23] at hf
    refine lv_iload_n hx hb dX7_renew_23 rfl (lv_at hl 3 rfl) ?_
    refine lv_iload_n hx hb dX7_renew_24 rfl (lv_at hl 2 rfl) ?_
    refine lv_icmp_ge (tgt := 42) hx hb dX7_renew_25 (by decide) (fun h4 => ?_) (fun h4 => ?_)
    · replace hf := ite_t h4 hf
      exact retV E hW (e1C hf) dX7_renew_42
    · replace hf := ite_f h4 hf
      refine lv_aload_n hx hb dX7_renew_28 rfl (lv_at hl 0 rfl) ?_
      refine lv_iload_n hx hb dX7_renew_29 rfl (lv_at hl 1 rfl) ?_
      refine lv_iload_n hx hb dX7_renew_30 rfl (lv_at hl 3 rfl) ?_
      refine lv_lconst (v := (0 : Int64)) hx hb dX7_renew_31 (by decide) ?_
      obtain ⟨r6, cs5, hc, hf⟩ := b2_e hf
      refine callVI (As := [.int _, .int _, .long _]) (rest := []) E hW (c_X7_write l hc) lk_X7_32 rcv_X7 (Nat.le_of_ble_eq_true rfl) (Nat.le_of_ble_eq_true rfl) (Nat.le_of_ble_eq_true rfl) (Nat.le_of_ble_eq_true rfl) hl.1 (Nat.le_of_ble_eq_true rfl) dX7_renew_32 (fun H locs hW => ?_)
      refine lv_pop hx hb dX7_renew_35 rfl ?_
      refine lv_iinc (v := _ + (1 : Int32)) (lv' := [_, _, _, _]) hx hb dX7_renew_36 hl (k := 3) rfl rfl (by decide) rfl (fun ls hl => ?_)
      refine lv_goto (tgt := 23) hx hb dX7_renew_39 (by decide) ?_
      exact ih _ _ _ _ _ _ _ hf hW (lv_sub hl [1, 2, 3, 0] rfl)
set_option maxHeartbeats 4000000 in
set_option maxRecDepth 100000 in
theorem c_X7_renew (l : Launch) {X : XT} {B : Nat} {cs : CS} {ms : MS} {o : Nat → Int64} {v1 : Int32} {v2 : Int32} {S9 : CS} (hf : f_X7_renew cs v1 v2 = some S9) : Met l yX7_renew (.code yX7_renew cX7_renew 4 none :: BIG) rm_X7_renew (Pre X B (cs, ms, o) [.ref (X.1 1), .int v1, .int v2]) (QV X B (S9, ms, o)) 0 0 (Ab B) := by
  refine entry (by decide +kernel) rfl (Nat.le_of_ble_eq_true rfl) (fun p e s m below meth c ls E hW hl => ?_)
  obtain ⟨hx, hb, hml, hown, hts, -⟩ := id E
  replace hl : lv_has ls 4 [(0, .ref (X.1 1)), (1, .int v1), (2, .int v2)] := hl
  unfold f_X7_renew at hf
  refine lv_iload_n hx hb dX7_renew_0 rfl (lv_at hl 1 rfl) ?_
  refine lv_if_lt (tgt := 13) hx hb dX7_renew_1 (by decide) (fun h1 => ?_) (fun h1 => ?_)
  · replace hf := ite_t h1 hf
    exact retV E hW (e1C hf) dX7_renew_13
  · replace hf := ite_f h1 hf
    refine lv_iload_n hx hb dX7_renew_4 rfl (lv_at hl 1 rfl) ?_
    refine lv_aload_n hx hb dX7_renew_5 rfl (lv_at hl 0 rfl) ?_
    refine rg_X7_15 E hW dX7_renew_6 ?_
    refine rl_13 E hW dX7_renew_9 ?_
    refine lv_icmp_lt (tgt := 14) hx hb dX7_renew_10 (by decide) (fun h2 => ?_) (fun h2 => ?_)
    · replace hf := ite_t h2 hf
      refine lv_aload_n hx hb dX7_renew_14 rfl (lv_at hl 0 rfl) ?_
      refine rg_X7_15 E hW dX7_renew_15 ?_
      refine lv_iload_n hx hb dX7_renew_18 rfl (lv_at hl 1 rfl) ?_
      refine lv_iload_n hx hb dX7_renew_19 rfl (lv_at hl 2 rfl) ?_
      obtain ⟨v3, hf⟩ := ixr_e hf
      refine rs_13 E hW v3 dX7_renew_20 (fun H locs hW => ?_)
      refine lv_iconst (v := (0 : Int32)) hx hb dX7_renew_21 (by decide) ?_
      refine lv_istore_n (lv' := [_, _, _, _]) hx hb dX7_renew_22 rfl hl (by decide) rfl (fun ls hl => ?_)
      exact w_X7_renew_23 E 1000 _ _ _ _ _ _ _ hf hW (lv_sub hl [1, 2, 3, 0] rfl)
    · replace hf := ite_f h2 hf
      exact retV E hW (e1C hf) dX7_renew_13
def f_X7_read (cs : CS) (v1 : Int32) (v2 : Int32) : Option (Int64) := (f_X7_placeOf cs v1 v2).bind fun r1 => if r1 = (-1 : Int32) then (some (0 : Int64)) else ((ldL (cb cs 14) 1536 r1).bind fun q4 => some q4)
def rm_X7_read : Room := { frames := 2, cells := 0, slots := 0, locals := 44 }
set_option maxHeartbeats 4000000 in
set_option maxRecDepth 100000 in
theorem c_X7_read (l : Launch) {X : XT} {B : Nat} {cs : CS} {ms : MS} {o : Nat → Int64} {v1 : Int32} {v2 : Int32} {r : Int64} (hf : f_X7_read cs v1 v2 = some r) : Met l yX7_read (.code yX7_read cX7_read 4 (some .long) :: BIG) rm_X7_read (Pre X B (cs, ms, o) [.ref (X.1 1), .int v1, .int v2]) (QL X B r (cs, ms, o)) 0 0 (Ab B) := by
  refine entry (by decide +kernel) rfl (Nat.le_of_ble_eq_true rfl) (fun p e s m below meth c ls E hW hl => ?_)
  obtain ⟨hx, hb, hml, hown, hts, -⟩ := id E
  replace hl : lv_has ls 4 [(0, .ref (X.1 1)), (1, .int v1), (2, .int v2)] := hl
  unfold f_X7_read at hf
  refine lv_aload_n hx hb dX7_read_0 rfl (lv_at hl 0 rfl) ?_
  refine lv_iload_n hx hb dX7_read_1 rfl (lv_at hl 1 rfl) ?_
  refine lv_iload_n hx hb dX7_read_2 rfl (lv_at hl 2 rfl) ?_
  obtain ⟨r1, hc, hf⟩ := b1_e hf
  refine callVI (As := [.int _, .int _]) (rest := []) E hW (c_X7_placeOf l hc) lk_X7_36 rcv_X7 (Nat.le_of_ble_eq_true rfl) (Nat.le_of_ble_eq_true rfl) (Nat.le_of_ble_eq_true rfl) (Nat.le_of_ble_eq_true rfl) hl.1 (Nat.le_of_ble_eq_true rfl) dX7_read_3 (fun H locs hW => ?_)
  refine lv_istore_n (lv' := [_, _, _, _]) hx hb dX7_read_6 rfl hl (by decide) rfl (fun ls hl => ?_)
  refine lv_iload_n hx hb dX7_read_7 rfl (lv_at hl 0 rfl) ?_
  refine lv_iconst (v := (-1 : Int32)) hx hb dX7_read_8 (by decide) ?_
  refine lv_icmp_ne (tgt := 16) hx hb dX7_read_9 (by decide) (fun h2 => ?_) (fun h2 => ?_)
  · replace hf := ite_f h2 hf
    refine lv_aload_n hx hb dX7_read_16 rfl (lv_at hl 1 rfl) ?_
    refine rg_X7_18 E hW dX7_read_17 ?_
    refine lv_iload_n hx hb dX7_read_20 rfl (lv_at hl 0 rfl) ?_
    obtain ⟨v3, hf⟩ := ldL_e hf
    refine ra_14 E hW v3 dX7_read_21 ?_
    exact retL E hW ⟨Option.some.inj hf, rfl⟩ dX7_read_22
  · replace hf := ite_t h2 hf
    refine lv_lconst (v := (0 : Int64)) hx hb dX7_read_12 (by decide) ?_
    refine lv_goto (tgt := 22) hx hb dX7_read_13 (by decide) ?_
    exact retL E hW ⟨Option.some.inj hf, rfl⟩ dX7_read_22

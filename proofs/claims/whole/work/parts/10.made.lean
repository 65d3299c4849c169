def f_X8_car_109 (cs : CS) (v1 : Int32) (v2 : Int32) (v3 : Int32) (v4 : Int32) (v5 : Int32) (v6 : Int32) (s0 : Nat) : Option ((Int32 ⊕ String) × CS) := gd (s0 ∈ cl cs ∧ ck cs s0 = 0) <| (f_X1_init cs s0 v1 v2 v3 v5 (v6 &&& (v4 ^^^ (-1 : Int32))) (ci cs 3)).bind fun cs2 => gd (s0 ∈ cl cs2 ∧ ck cs2 s0 = 0) <| ixr 40 (ci cs2 0) <| (f_X8_weighComing (ciU (cgU cs2 8 ((ci cs2 0)).toNatClampNeg s0) 0 ((ci (cgU cs2 8 ((ci cs2 0)).toNatClampNeg s0) 0) + (1 : Int32))) (some s0)).bind fun cs5 => (f_X0_forget cs5 ).bind fun cs6 => some (.inl ((ci cs6 0) - (1 : Int32)), cs6)
def f_X8_car (cs : CS) (v1 : Int32) (v2 : Int32) (v3 : Int32) (v4 : Int32) : Option (((Int32 ⊕ String) ⊕ (Int32 × Int32 × Int32 × Int32 × Int32 × Int32)) × CS) := (f_X6_partsOf cs v1).bind fun r1 => if r1 = 0 then (some (.inl (.inr "java/lang/IllegalArgumentException"), cs)) else (if v2 < 0 then (some (.inl (.inr "java/lang/IllegalArgumentException"), cs)) else (if (9999 : Int32) < v2 then (some (.inl (.inr "java/lang/IllegalArgumentException"), cs)) else (if v3 < 0 then (some (.inl (.inr "java/lang/IllegalArgumentException"), cs)) else (if v3 ≤ (255 : Int32) then (if (v4 &&& ((((1 : Int32) <<< (r1 &&& 31)) - (1 : Int32)) ^^^ (-1 : Int32))) = 0 then (if (ci cs 0) < 0 then (some (.inl (.inl (-1 : Int32)), cs)) else (if (ci cs 0) < (40 : Int32) then (some (.inr (v1, v2, v3, v4, r1, (((1 : Int32) <<< (r1 &&& 31)) - (1 : Int32))), cs)) else (some (.inl (.inl (-1 : Int32)), cs)))) else (some (.inl (.inr "java/lang/IllegalArgumentException"), cs))) else (some (.inl (.inr "java/lang/IllegalArgumentException"), cs))))))
def rm_X8_car : Room := { frames := 10, cells := 1, slots := 9, locals := 150 }
set_option maxHeartbeats 4000000 in
set_option maxRecDepth 100000 in
theorem w_X8_car_109 {p : Program} {l : Launch} {e : Env} {s : State} {m : MethodId} {args : Array Value} {below : List Frame} {meth : Method} {c : Code} {X : XT} {B : Nat} {ms : MS} {o : Nat → Int64} {r : Int32 ⊕ String} {S9 : CS} (E : Ev X B p s m args meth c RX8 cX8_car 8 (some .int)) (hl0 : l.stackTraces = false) (hxt : ∀ x ∈ c.exceptionTable.toList, False) {G : Int32 ⊕ String → TS → Prop} (hG : G r (S9, ms, o)) : ∀ (cs : CS) (v1 : Int32) (v2 : Int32) (v3 : Int32) (v4 : Int32) (v5 : Int32) (v6 : Int32) (s0 : Nat) (H : Heap) (locs : List Loc) (ls : Array Slot), f_X8_car_109 cs v1 v2 v3 v4 v5 v6 s0 = some (r, S9) → Ws X B s.heap H locs (cs, ms, o) → lv_has ls 8 [(0, .ref (X.1 0)), (1, .int v1), (2, .int v2), (3, .int v3), (4, .int v4), (5, .int v5), (6, .int v6)] → W p l e rm_X8_car s m args below meth c H locs 1 9 (vx_MQ below (QXG X B G) (XCG X B G) args s 1 9 (Ab B)) (F0 m 109 ls [.ref s0]) := by
  obtain ⟨hx, hb, hml, hown, hts, -⟩ := id E
  intro cs v1 v2 v3 v4 v5 v6 s0 H locs ls hf hW hl
  unfold f_X8_car_109 at hf
  refine lv_dup hx hb dX8_car_109 rfl ?_
  refine lv_iload_n hx hb dX8_car_110 rfl (lv_at hl 1 rfl) ?_
  refine lv_iload_n hx hb dX8_car_111 rfl (lv_at hl 2 rfl) ?_
  refine lv_iload_n hx hb dX8_car_112 rfl (lv_at hl 3 rfl) ?_
  refine lv_iload hx hb dX8_car_113 (lv_at hl 5 rfl) ?_
  refine lv_iload hx hb dX8_car_115 (lv_at hl 6 rfl) ?_
  refine lv_iload hx hb dX8_car_117 (lv_at hl 4 rfl) ?_
  refine lv_iconst (v := (-1 : Int32)) hx hb dX8_car_119 (by decide) ?_
  refine lv_ixor hx hb dX8_car_120 ?_
  refine lv_iand hx hb dX8_car_121 ?_
  refine lv_aload_n hx hb dX8_car_122 rfl (lv_at hl 0 rfl) ?_
  refine rg_X8_73 E hW dX8_car_123 ?_
  obtain ⟨v1, hf⟩ := gd_e hf
  obtain ⟨cs2, hc, hf⟩ := b1_e hf
  refine callCV (As := [.int _, .int _, .int _, .int _, .int _, .int _]) (rest := [_]) E hW (c_X1_init l hc) lk_X8_218 (Nat.le_of_ble_eq_true rfl) (Nat.le_of_ble_eq_true rfl) (Nat.le_of_ble_eq_true rfl) (Nat.le_of_ble_eq_true rfl) hl.1 (Nat.le_of_ble_eq_true rfl) dX8_car_126 (fun H locs hW => ?_)
  refine lv_astore (lv' := [_, _, _, _, _, _, _, _]) hx hb dX8_car_129 hl (by decide) rfl (fun ls hl => ?_)
  refine lv_aload_n hx hb dX8_car_131 rfl (lv_at hl 1 rfl) ?_
  refine rg_X8_46 E hW dX8_car_132 ?_
  refine lv_aload_n hx hb dX8_car_135 rfl (lv_at hl 1 rfl) ?_
  refine rg_X8_63 E hW dX8_car_136 ?_
  refine lv_aload hx hb dX8_car_139 (lv_at hl 0 rfl) ?_
  obtain ⟨v4, hf⟩ := gd_e hf
  obtain ⟨v3, hf⟩ := ixr_e hf
  refine rs_8 E hW v4 v3 dX8_car_141 (fun H locs hW => ?_)
  refine lv_aload_n hx hb dX8_car_142 rfl (lv_at hl 1 rfl) ?_
  refine lv_dup hx hb dX8_car_143 rfl ?_
  refine rg_X8_63 E hW dX8_car_144 ?_
  refine lv_iconst (v := (1 : Int32)) hx hb dX8_car_147 (by decide) ?_
  refine lv_iadd hx hb dX8_car_148 ?_
  refine rp_X8_63 E hW dX8_car_149 (fun H locs hW => ?_)
  refine lv_aload_n hx hb dX8_car_152 rfl (lv_at hl 1 rfl) ?_
  refine lv_aload hx hb dX8_car_153 (lv_at hl 0 rfl) ?_
  obtain ⟨cs5, hc, hf⟩ := b1_e hf
  refine callVV (As := [va_rf (some _)]) (rest := []) E hW (c_X8_weighComing l hc) lk_X8_221 rcv_X8 (Nat.le_of_ble_eq_true rfl) (Nat.le_of_ble_eq_true rfl) (Nat.le_of_ble_eq_true rfl) (Nat.le_of_ble_eq_true rfl) hl.1 (Nat.le_of_ble_eq_true rfl) dX8_car_155 (fun H locs hW => ?_)
  refine lv_aload_n hx hb dX8_car_158 rfl (lv_at hl 1 rfl) ?_
  refine rg_X8_33 E hW dX8_car_159 ?_
  obtain ⟨cs6, hc, hf⟩ := b1_e hf
  refine callVV (As := []) (rest := []) E hW (c_X0_forget l hc) lk_X8_225 rcv_X0 (Nat.le_of_ble_eq_true rfl) (Nat.le_of_ble_eq_true rfl) (Nat.le_of_ble_eq_true rfl) (Nat.le_of_ble_eq_true rfl) hl.1 (Nat.le_of_ble_eq_true rfl) dX8_car_162 (fun H locs hW => ?_)
  refine lv_aload_n hx hb dX8_car_165 rfl (lv_at hl 1 rfl) ?_
  refine rg_X8_63 E hW dX8_car_166 ?_
  refine lv_iconst (v := (1 : Int32)) hx hb dX8_car_169 (by decide) ?_
  refine lv_isub hx hb dX8_car_170 ?_
  exact vx_ret (retIX E hW (gx hG (exC hf)) dX8_car_171)
set_option maxHeartbeats 4000000 in
set_option maxRecDepth 100000 in
theorem c_X8_car (l : Launch) (hl0 : l.stackTraces = false) {X : XT} {B : Nat} {cs : CS} {ms : MS} {o : Nat → Int64} {v1 : Int32} {v2 : Int32} {v3 : Int32} {v4 : Int32} {R : ((Int32 ⊕ String) ⊕ (Int32 × Int32 × Int32 × Int32 × Int32 × Int32)) × CS} {G : Int32 ⊕ String → TS → Prop} (hf : f_X8_car cs v1 v2 v3 v4 = some R) (hE : ∀ (r : Int32 ⊕ String) (S9 : CS), R = (.inl r, S9) → G r (S9, ms, o)) (hK : ∀ (x0 : Int32) (x1 : Int32) (x2 : Int32) (x3 : Int32) (x4 : Int32) (x5 : Int32) (S1 : CS), R = (.inr (x0, x1, x2, x3, x4, x5), S1) → ∀ q, q ∉ cl S1 → ∃ (r : Int32 ⊕ String) (S9 : CS), f_X8_car_109 (cnU S1 q 0) x0 x1 x2 x3 x4 x5 q = some (r, S9) ∧ G r (S9, ms, o)) : vx_Met l yX8_car (.code yX8_car cX8_car 8 (some .int) :: BIG) rm_X8_car (Pre X B (cs, ms, o) [.ref (X.1 0), .int v1, .int v2, .int v3, .int v4]) (QXG X B G) (XCG X B G) 1 9 (Ab B) := by
  refine xentry (by decide +kernel) rfl (Nat.le_of_ble_eq_true rfl) (fun p e s m below meth c ls E hxt hW hl => ?_)
  obtain ⟨hx, hb, hml, hown, hts, -⟩ := id E
  replace hl : lv_has ls 8 [(0, .ref (X.1 0)), (1, .int v1), (2, .int v2), (3, .int v3), (4, .int v4)] := hl
  unfold f_X8_car at hf
  refine lv_aload_n hx hb dX8_car_0 rfl (lv_at hl 0 rfl) ?_
  refine rg_X8_26 E hW dX8_car_1 ?_
  refine lv_iload_n hx hb dX8_car_4 rfl (lv_at hl 1 rfl) ?_
  obtain ⟨r1, hc, hf⟩ := b1_e hf
  refine callVI (As := [.int _]) (rest := []) E hW (c_X6_partsOf l hc) lk_X8_161 rcv_X6 (Nat.le_of_ble_eq_true rfl) (Nat.le_of_ble_eq_true rfl) (Nat.le_of_ble_eq_true rfl) (Nat.le_of_ble_eq_true rfl) hl.1 (Nat.le_of_ble_eq_true rfl) dX8_car_5 (fun H locs hW => ?_)
  refine lv_istore (lv' := [_, _, _, _, _, _]) hx hb dX8_car_8 hl (by decide) rfl (fun ls hl => ?_)
  refine lv_iload hx hb dX8_car_10 (lv_at hl 0 rfl) ?_
  refine lv_if_ne (tgt := 25) hx hb dX8_car_12 (by decide) (fun h2 => ?_) (fun h2 => ?_)
  · replace hf := ite_f h2 hf
    refine lv_iload_n hx hb dX8_car_25 rfl (lv_at hl 3 rfl) ?_
    refine lv_if_lt (tgt := 47) hx hb dX8_car_26 (by decide) (fun h3 => ?_) (fun h3 => ?_)
    · replace hf := ite_t h3 hf
      exact throwS E hl0 hxt hW th_X8_84_214_88 dX8_car_47 dX8_car_50 dX8_car_51 dX8_car_53 dX8_car_56 (hE _ _ (Option.some.inj hf).symm) (Nat.le_of_ble_eq_true rfl) (Nat.le_of_ble_eq_true rfl) (Nat.le_of_ble_eq_true rfl) (Nat.le_of_ble_eq_true rfl) (Nat.le_of_ble_eq_true rfl) (by decide) (by decide) (hl.1.trans hml.symm)
    · replace hf := ite_f h3 hf
      refine lv_iload_n hx hb dX8_car_29 rfl (lv_at hl 3 rfl) ?_
      refine lv_sipush (v := (9999 : Int32)) hx hb dX8_car_30 (by decide) ?_
      refine lv_icmp_gt (tgt := 47) hx hb dX8_car_33 (by decide) (fun h4 => ?_) (fun h4 => ?_)
      · replace hf := ite_t h4 hf
        exact throwS E hl0 hxt hW th_X8_84_214_88 dX8_car_47 dX8_car_50 dX8_car_51 dX8_car_53 dX8_car_56 (hE _ _ (Option.some.inj hf).symm) (Nat.le_of_ble_eq_true rfl) (Nat.le_of_ble_eq_true rfl) (Nat.le_of_ble_eq_true rfl) (Nat.le_of_ble_eq_true rfl) (Nat.le_of_ble_eq_true rfl) (by decide) (by decide) (hl.1.trans hml.symm)
      · replace hf := ite_f h4 hf
        refine lv_iload_n hx hb dX8_car_36 rfl (lv_at hl 4 rfl) ?_
        refine lv_if_lt (tgt := 47) hx hb dX8_car_37 (by decide) (fun h5 => ?_) (fun h5 => ?_)
        · replace hf := ite_t h5 hf
          exact throwS E hl0 hxt hW th_X8_84_214_88 dX8_car_47 dX8_car_50 dX8_car_51 dX8_car_53 dX8_car_56 (hE _ _ (Option.some.inj hf).symm) (Nat.le_of_ble_eq_true rfl) (Nat.le_of_ble_eq_true rfl) (Nat.le_of_ble_eq_true rfl) (Nat.le_of_ble_eq_true rfl) (Nat.le_of_ble_eq_true rfl) (by decide) (by decide) (hl.1.trans hml.symm)
        · replace hf := ite_f h5 hf
          refine lv_iload_n hx hb dX8_car_40 rfl (lv_at hl 4 rfl) ?_
          refine lv_sipush (v := (255 : Int32)) hx hb dX8_car_41 (by decide) ?_
          refine lv_icmp_le (tgt := 57) hx hb dX8_car_44 (by decide) (fun h6 => ?_) (fun h6 => ?_)
          · replace hf := ite_t h6 hf
            refine lv_iconst (v := (1 : Int32)) hx hb dX8_car_57 (by decide) ?_
            refine lv_iload hx hb dX8_car_58 (lv_at hl 0 rfl) ?_
            refine lv_ishl hx hb dX8_car_60 ?_
            refine lv_iconst (v := (1 : Int32)) hx hb dX8_car_61 (by decide) ?_
            refine lv_isub hx hb dX8_car_62 ?_
            refine lv_istore (lv' := [_, _, _, _, _, _, _]) hx hb dX8_car_63 hl (by decide) rfl (fun ls hl => ?_)
            refine lv_iload hx hb dX8_car_65 (lv_at hl 6 rfl) ?_
            refine lv_iload hx hb dX8_car_67 (lv_at hl 0 rfl) ?_
            refine lv_iconst (v := (-1 : Int32)) hx hb dX8_car_69 (by decide) ?_
            refine lv_ixor hx hb dX8_car_70 ?_
            refine lv_iand hx hb dX8_car_71 ?_
            refine lv_if_eq (tgt := 85) hx hb dX8_car_72 (by decide) (fun h7 => ?_) (fun h7 => ?_)
            · replace hf := ite_t h7 hf
              refine lv_aload_n hx hb dX8_car_85 rfl (lv_at hl 2 rfl) ?_
              refine rg_X8_63 E hW dX8_car_86 ?_
              refine lv_if_lt (tgt := 104) hx hb dX8_car_89 (by decide) (fun h8 => ?_) (fun h8 => ?_)
              · replace hf := ite_t h8 hf
                refine lv_iconst (v := (-1 : Int32)) hx hb dX8_car_104 (by decide) ?_
                refine W.widen (k := 1) (n := 9) (by decide) (by decide) ?_
                exact vx_ret (retIX E hW (hE _ _ (Option.some.inj hf).symm) dX8_car_105)
              · replace hf := ite_f h8 hf
                refine lv_aload_n hx hb dX8_car_92 rfl (lv_at hl 2 rfl) ?_
                refine rg_X8_63 E hW dX8_car_93 ?_
                refine lv_aload_n hx hb dX8_car_96 rfl (lv_at hl 2 rfl) ?_
                refine rg_X8_46 E hW dX8_car_97 ?_
                refine rl_8 E hW dX8_car_100 ?_
                refine lv_icmp_lt (tgt := 106) hx hb dX8_car_101 (by decide) (fun h9 => ?_) (fun h9 => ?_)
                · replace hf := ite_t h9 hf
                  refine rn_X8_44 E hW (Nat.le_of_ble_eq_true rfl) (Nat.le_of_ble_eq_true rfl) dX8_car_106 (fun q H hq hW => ?_)
                  obtain ⟨r9, S9, hf9, hG9⟩ := hK _ _ _ _ _ _ _ (Option.some.inj hf).symm q hq
                  exact w_X8_car_109 E hl0 hxt hG9 _ _ _ _ _ _ _ _ _ _ _ hf9 hW (lv_sub hl [2, 3, 4, 5, 6, 1, 0] rfl)
                · replace hf := ite_f h9 hf
                  refine lv_iconst (v := (-1 : Int32)) hx hb dX8_car_104 (by decide) ?_
                  refine W.widen (k := 1) (n := 9) (by decide) (by decide) ?_
                  exact vx_ret (retIX E hW (hE _ _ (Option.some.inj hf).symm) dX8_car_105)
            · replace hf := ite_f h7 hf
              exact throwS E hl0 hxt hW th_X8_84_216_88 dX8_car_75 dX8_car_78 dX8_car_79 dX8_car_81 dX8_car_84 (hE _ _ (Option.some.inj hf).symm) (Nat.le_of_ble_eq_true rfl) (Nat.le_of_ble_eq_true rfl) (Nat.le_of_ble_eq_true rfl) (Nat.le_of_ble_eq_true rfl) (Nat.le_of_ble_eq_true rfl) (by decide) (by decide) (hl.1.trans hml.symm)
          · replace hf := ite_f h6 hf
            exact throwS E hl0 hxt hW th_X8_84_214_88 dX8_car_47 dX8_car_50 dX8_car_51 dX8_car_53 dX8_car_56 (hE _ _ (Option.some.inj hf).symm) (Nat.le_of_ble_eq_true rfl) (Nat.le_of_ble_eq_true rfl) (Nat.le_of_ble_eq_true rfl) (Nat.le_of_ble_eq_true rfl) (Nat.le_of_ble_eq_true rfl) (by decide) (by decide) (hl.1.trans hml.symm)
  · replace hf := ite_t h2 hf
    exact throwS E hl0 hxt hW th_X8_84_212_88 dX8_car_15 dX8_car_18 dX8_car_19 dX8_car_21 dX8_car_24 (hE _ _ (Option.some.inj hf).symm) (Nat.le_of_ble_eq_true rfl) (Nat.le_of_ble_eq_true rfl) (Nat.le_of_ble_eq_true rfl) (Nat.le_of_ble_eq_true rfl) (Nat.le_of_ble_eq_true rfl) (by decide) (by decide) (hl.1.trans hml.symm)
def f_X8_take_28 (cs : CS) (v1 : Int32) (v2 : Int32) (v3 : Nat) (s1 : Nat) : Option ((Int32 ⊕ String) × CS) := gd (v3 ∈ cl cs ∧ ck cs v3 = 0) <| gd (s1 ∈ cl cs ∧ ck cs s1 = 1) <| (f_X5_init cs s1 v1 (cp cs v3 0) v2).bind fun cs3 => b2 (f_X8_addItem cs3 (some s1)) fun r5 cs4 => gd (v3 ∈ cl cs4 ∧ ck cs4 v3 = 0) <| (f_X0_remember (cpU cs4 v3 5 ((cp cs4 v3 5) &&& (((1 : Int32) <<< (v2 &&& 31)) ^^^ (-1 : Int32)))) (3 : Int32) r5).bind fun cs7 => some (.inl r5, cs7)
def f_X8_take (cs : CS) (v1 : Int32) (v2 : Int32) : Option (((Int32 ⊕ String) ⊕ (Int32 × Int32 × Nat)) × CS) := bxA (f_X8_carWithPart cs v1 v2) fun b3 cs2 => ob b3 ((f_X8_hindranceOf cs2 none v2).bind fun r8 => if r8 = 0 then (none) else (some (.inl (.inl (-r8)), cs2))) fun a7 => ((f_X8_hindranceOf cs2 (some a7) v2).bind fun r10 => if r10 = 0 then (some (.inr (v1, v2, a7), cs2)) else (some (.inl (.inl (-r10)), cs2)))
def rm_X8_take : Room := { frames := 12, cells := 3, slots := 18, locals := 195 }
set_option maxHeartbeats 4000000 in
set_option maxRecDepth 100000 in
theorem w_X8_take_28 {p : Program} {l : Launch} {e : Env} {s : State} {m : MethodId} {args : Array Value} {below : List Frame} {meth : Method} {c : Code} {X : XT} {B : Nat} {ms : MS} {o : Nat → Int64} {r : Int32 ⊕ String} {S9 : CS} (E : Ev X B p s m args meth c RX8 cX8_take 6 (some .int)) (hl0 : l.stackTraces = false) (hxt : ∀ x ∈ c.exceptionTable.toList, False) {G : Int32 ⊕ String → TS → Prop} (hG : G r (S9, ms, o)) : ∀ (cs : CS) (v1 : Int32) (v2 : Int32) (v3 : Nat) (s1 : Nat) (H : Heap) (locs : List Loc) (ls : Array Slot), f_X8_take_28 cs v1 v2 v3 s1 = some (r, S9) → Ws X B s.heap H locs (cs, ms, o) → lv_has ls 6 [(0, .ref (X.1 0)), (1, .int v1), (2, .int v2), (3, .ref v3)] → W p l e rm_X8_take s m args below meth c H locs 3 18 (vx_MQ below (QXG X B G) (XCG X B G) args s 3 18 (Ab B)) (F0 m 28 ls [.ref s1, .ref (X.1 0)]) := by
  obtain ⟨hx, hb, hml, hown, hts, -⟩ := id E
  intro cs v1 v2 v3 s1 H locs ls hf hW hl
  unfold f_X8_take_28 at hf
  refine lv_dup hx hb dX8_take_28 rfl ?_
  refine lv_iload_n hx hb dX8_take_29 rfl (lv_at hl 1 rfl) ?_
  refine lv_aload_n hx hb dX8_take_30 rfl (lv_at hl 3 rfl) ?_
  obtain ⟨v1, hf⟩ := gd_e hf
  refine rg_X8_232 E hW v1 dX8_take_31 ?_
  refine lv_iload_n hx hb dX8_take_34 rfl (lv_at hl 2 rfl) ?_
  obtain ⟨v2, hf⟩ := gd_e hf
  obtain ⟨cs3, hc, hf⟩ := b1_e hf
  refine callCV (As := [.int _, .int _, .int _]) (rest := [_, _]) E hW (c_X5_init l hc) lk_X8_284 (Nat.le_of_ble_eq_true rfl) (Nat.le_of_ble_eq_true rfl) (Nat.le_of_ble_eq_true rfl) (Nat.le_of_ble_eq_true rfl) hl.1 (Nat.le_of_ble_eq_true rfl) dX8_take_35 (fun H locs hW => ?_)
  obtain ⟨r5, cs4, hc, hf⟩ := b2_e hf
  refine callVI (As := [va_rf (some _)]) (rest := []) E hW (c_X8_addItem l hc) lk_X8_287 rcv_X8 (Nat.le_of_ble_eq_true rfl) (Nat.le_of_ble_eq_true rfl) (Nat.le_of_ble_eq_true rfl) (Nat.le_of_ble_eq_true rfl) hl.1 (Nat.le_of_ble_eq_true rfl) dX8_take_38 (fun H locs hW => ?_)
  refine lv_istore (lv' := [_, _, _, _, _]) hx hb dX8_take_41 hl (by decide) rfl (fun ls hl => ?_)
  refine lv_aload_n hx hb dX8_take_43 rfl (lv_at hl 4 rfl) ?_
  refine lv_dup hx hb dX8_take_44 rfl ?_
  obtain ⟨v6, hf⟩ := gd_e hf
  refine rg_X8_241 E hW v6 dX8_take_45 ?_
  refine lv_iconst (v := (1 : Int32)) hx hb dX8_take_48 (by decide) ?_
  refine lv_iload_n hx hb dX8_take_49 rfl (lv_at hl 3 rfl) ?_
  refine lv_ishl hx hb dX8_take_50 ?_
  refine lv_iconst (v := (-1 : Int32)) hx hb dX8_take_51 (by decide) ?_
  refine lv_ixor hx hb dX8_take_52 ?_
  refine lv_iand hx hb dX8_take_53 ?_
  refine rp_X8_241 E hW v6 dX8_take_54 (fun H locs hW => ?_)
  refine lv_aload_n hx hb dX8_take_57 rfl (lv_at hl 1 rfl) ?_
  refine rg_X8_33 E hW dX8_take_58 ?_
  refine lv_iconst (v := (3 : Int32)) hx hb dX8_take_61 (by decide) ?_
  refine lv_iload hx hb dX8_take_62 (lv_at hl 0 rfl) ?_
  obtain ⟨cs7, hc, hf⟩ := b1_e hf
  refine callVV (As := [.int _, .int _]) (rest := []) E hW (c_X0_remember l hc) lk_X8_257 rcv_X0 (Nat.le_of_ble_eq_true rfl) (Nat.le_of_ble_eq_true rfl) (Nat.le_of_ble_eq_true rfl) (Nat.le_of_ble_eq_true rfl) hl.1 (Nat.le_of_ble_eq_true rfl) dX8_take_64 (fun H locs hW => ?_)
  refine lv_iload hx hb dX8_take_67 (lv_at hl 0 rfl) ?_
  exact vx_ret (retIX E hW (gx hG (exC hf)) dX8_take_69)
set_option maxHeartbeats 4000000 in
set_option maxRecDepth 100000 in
theorem c_X8_take (l : Launch) (hl0 : l.stackTraces = false) {X : XT} {B : Nat} {cs : CS} {ms : MS} {o : Nat → Int64} {v1 : Int32} {v2 : Int32} {R : ((Int32 ⊕ String) ⊕ (Int32 × Int32 × Nat)) × CS} {G : Int32 ⊕ String → TS → Prop} (hf : f_X8_take cs v1 v2 = some R) (hE : ∀ (r : Int32 ⊕ String) (S9 : CS), R = (.inl r, S9) → G r (S9, ms, o)) (hK : ∀ (x0 : Int32) (x1 : Int32) (x2 : Nat) (S1 : CS), R = (.inr (x0, x1, x2), S1) → ∀ q, q ∉ cl S1 → ∃ (r : Int32 ⊕ String) (S9 : CS), f_X8_take_28 (cnU S1 q 1) x0 x1 x2 q = some (r, S9) ∧ G r (S9, ms, o)) : vx_Met l yX8_take (.code yX8_take cX8_take 6 (some .int) :: BIG) rm_X8_take (Pre X B (cs, ms, o) [.ref (X.1 0), .int v1, .int v2]) (QXG X B G) (XCG X B G) 3 18 (Ab B) := by
  refine xentry (by decide +kernel) rfl (Nat.le_of_ble_eq_true rfl) (fun p e s m below meth c ls E hxt hW hl => ?_)
  obtain ⟨hx, hb, hml, hown, hts, -⟩ := id E
  replace hl : lv_has ls 6 [(0, .ref (X.1 0)), (1, .int v1), (2, .int v2)] := hl
  unfold f_X8_take at hf
  refine lv_aload_n hx hb dX8_take_0 rfl (lv_at hl 0 rfl) ?_
  refine lv_iload_n hx hb dX8_take_1 rfl (lv_at hl 1 rfl) ?_
  refine lv_iload_n hx hb dX8_take_2 rfl (lv_at hl 2 rfl) ?_
  obtain ⟨r1, cs2, hc, k4, e5⟩ := bxA_e hf
  refine xcallVQ (As := [.int _, .int _]) (rest := []) E hW (c_X8_carWithPart l hl0 hc) lk_X8_276 rcv_X8 (Nat.le_of_ble_eq_true rfl) (Nat.le_of_ble_eq_true rfl) (Nat.le_of_ble_eq_true rfl) (Nat.le_of_ble_eq_true rfl) hl.1 (Nat.le_of_ble_eq_true rfl) dX8_take_3 hxt (by decide) (by decide) (fun z hz => hE _ _ (e5 z hz)) (fun b3 q6 H locs hW => ?_)
  replace hf := k4 b3 q6
  cases b3 with
  | none =>
    replace hf := ob_n hf
    refine lv_astore_nN (lv' := [_, _, _, _]) hx hb dX8_take_6 rfl hl (by decide) rfl (fun ls hl => ?_)
    refine lv_aload_n hx hb dX8_take_7 rfl (lv_at hl 1 rfl) ?_
    refine lv_aload_nN hx hb dX8_take_8 rfl (lv_at hl 0 rfl) ?_
    refine lv_iload_n hx hb dX8_take_9 rfl (lv_at hl 3 rfl) ?_
    obtain ⟨r8, hc, hf⟩ := b1_e hf
    refine callVI (As := [va_rf none, .int _]) (rest := []) E hW (c_X8_hindranceOf l hc) lk_X8_280 rcv_X8 (Nat.le_of_ble_eq_true rfl) (Nat.le_of_ble_eq_true rfl) (Nat.le_of_ble_eq_true rfl) (Nat.le_of_ble_eq_true rfl) hl.1 (Nat.le_of_ble_eq_true rfl) dX8_take_10 (fun H locs hW => ?_)
    refine lv_istore (lv' := [_, _, _, _, _]) hx hb dX8_take_13 hl (by decide) rfl (fun ls hl => ?_)
    refine lv_iload hx hb dX8_take_15 (lv_at hl 0 rfl) ?_
    refine lv_if_eq (tgt := 24) hx hb dX8_take_17 (by decide) (fun h9 => ?_) (fun h9 => ?_)
    · replace hf := ite_t h9 hf
      refine lv_aload_n hx hb dX8_take_24 rfl (lv_at hl 2 rfl) ?_
      exact absurd hf nofun
    · replace hf := ite_f h9 hf
      refine lv_iload hx hb dX8_take_20 (lv_at hl 0 rfl) ?_
      refine lv_ineg hx hb dX8_take_22 ?_
      refine W.widen (k := 3) (n := 18) (by decide) (by decide) ?_
      exact vx_ret (retIX E hW (hE _ _ (Option.some.inj hf).symm) dX8_take_23)
  | some a7 =>
    replace hf := ob_s hf
    refine lv_astore_n (lv' := [_, _, _, _]) hx hb dX8_take_6 rfl hl (by decide) rfl (fun ls hl => ?_)
    refine lv_aload_n hx hb dX8_take_7 rfl (lv_at hl 1 rfl) ?_
    refine lv_aload_n hx hb dX8_take_8 rfl (lv_at hl 0 rfl) ?_
    refine lv_iload_n hx hb dX8_take_9 rfl (lv_at hl 3 rfl) ?_
    obtain ⟨r10, hc, hf⟩ := b1_e hf
    refine callVI (As := [va_rf (some _), .int _]) (rest := []) E hW (c_X8_hindranceOf l hc) lk_X8_280 rcv_X8 (Nat.le_of_ble_eq_true rfl) (Nat.le_of_ble_eq_true rfl) (Nat.le_of_ble_eq_true rfl) (Nat.le_of_ble_eq_true rfl) hl.1 (Nat.le_of_ble_eq_true rfl) dX8_take_10 (fun H locs hW => ?_)
    refine lv_istore (lv' := [_, _, _, _, _]) hx hb dX8_take_13 hl (by decide) rfl (fun ls hl => ?_)
    refine lv_iload hx hb dX8_take_15 (lv_at hl 0 rfl) ?_
    refine lv_if_eq (tgt := 24) hx hb dX8_take_17 (by decide) (fun h11 => ?_) (fun h11 => ?_)
    · replace hf := ite_t h11 hf
      refine lv_aload_n hx hb dX8_take_24 rfl (lv_at hl 2 rfl) ?_
      refine rn_X8_50 E hW (Nat.le_of_ble_eq_true rfl) (Nat.le_of_ble_eq_true rfl) dX8_take_25 (fun q H hq hW => ?_)
      obtain ⟨r9, S9, hf9, hG9⟩ := hK _ _ _ _ (Option.some.inj hf).symm q hq
      exact w_X8_take_28 E hl0 hxt hG9 _ _ _ _ _ _ _ _ hf9 hW (lv_sub hl [2, 3, 4, 1] rfl)
    · replace hf := ite_f h11 hf
      refine lv_iload hx hb dX8_take_20 (lv_at hl 0 rfl) ?_
      refine lv_ineg hx hb dX8_take_22 ?_
      refine W.widen (k := 3) (n := 18) (by decide) (by decide) ?_
      exact vx_ret (retIX E hW (hE _ _ (Option.some.inj hf).symm) dX8_take_23)

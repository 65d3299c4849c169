/-! ===== the law's own methods: each calls the class once, catches what it throws, puts the answer into the row ===== -/
def LPost (V : Int32 → Int64) (cd : String → Int32) (G : Int32 ⊕ String → TS → Prop) (k : Int32) (u : TS) : Prop := (∃ (r : Int32) (t : TS), k = 0 ∧ G (.inl r) t ∧ u = (t.1, t.2.1, vp_updL t.2.2 0 (V r))) ∨ ∃ (E : String) (t : TS), k = cd E ∧ G (.inr E) t ∧ u = t
def cd1 : String → Int32 := fun _ => 1
def cd2 (a : String) : String → Int32 := fun x => if x = a then 1 else 2
def LkW (own : String) (i : Nat) (y : MethodName) (cc : ByteArray) (n : Nat) (ret : Option FieldType) (hh : List (Nat × Nat × Nat × Nat)) (k : Nat) : Prop := Cond.methodLink own i y ∈ BIG ∧ Cond.static y ∈ BIG ∧ Cond.initialized y.cls ∈ BIG ∧ Cond.codeWith y cc n ret hh ∈ BIG ∧ y.cls ≠ "java/lang/invoke/MethodHandle" ∧ y.cls ≠ "java/lang/invoke/VarHandle" ∧ (parseMethodDescriptor y.desc).map (fun d => d.parameters.length) = some k
section LAWM
variable {p : Program} {l : Launch} {e : Env} {R : Room} {s : State} {m : MethodId} {args : Array Value} {below : List Frame} {meth : Method} {c : Code} {H : Heap} {locs : List Loc} {cells slots : Nat} {Q : State → Prop} {X : XT} {B : Nat} {cc : ByteArray} {nL : Nat} {ret : Option FieldType} {pc : Nat} {ls : Array Slot} {rest : List Value} {t t' : TS} {own : String}
variable {y : MethodName} {bytes : ByteArray} {maxL mc mk index : Nat} {ret2 : Option FieldType} {rm : Room} {b : Nat} {As : List Value} {hh : List (Nat × Nat × Nat × Nat)}
theorem wentry {av : List Value} {Qc : Array Value → State → Outcome → State → Prop} {ms : Nat} (hp : plainName y.cls = true) (hy : y.cls = own) (hn : (lg_sl av).length ≤ nL)
    (body : ∀ (p : Program) (e : Env) (s : State) (m : MethodId) (below : List Frame) (meth : Method) (c : Code) (ls : Array Slot), Ev X B p s m av.toArray meth c own cc nL ret → c.exceptionTable.toList = tableOf hh → Ws X B s.heap s.heap [] t → lv_has ls nL (lv_args 0 av) → W p l e rm s m av.toArray below meth c s.heap [] 0 0 (MQ below Qc av.toArray s mc ms (Ab B)) (F0 m 0 ls [])) :
    Met l y (.codeWith y cc nL ret hh :: BIG) rm (Pre X B t av) Qc mc ms (Ab B) := by
  refine va_MetW (cc := cc) (maxL := nL) (ret := ret) (hh := hh) hp rfl ?_
  intro p e s m args below meth c s₁ Bd hml hv
  obtain ⟨h0, h1, hP, hK, hD, hZ⟩ := hv
  subst hy
  subst h0
  have hat := atoms_spec (ws := .codeWith y cc nL ret hh :: BIG) Bd.pre
  have htab : c.exceptionTable.toList = tableOf hh := vx_table (x := y) Bd (hat _ List.mem_cons_self)
  rw [lg_entry_eq]
  exact body p e s m below meth c _ ⟨Bd.exec, Bd.bytes, hml, findClass_of_methodNamed Bd.named, big_of hat, hK, Bd.returns, Bd.notSynchronized, h1, hZ⟩ htab ⟨hP, hD, va_S.rf⟩ (lv_entry av hn)
theorem retP {v : Int32} {P : Int32 → TS → Prop} (E : Ev X B p s m args meth c own cc nL (some .int)) (hW : Ws X B s.heap H locs t) (h : P v t) (hdg : decode cc pc = .ok (.ireturn, 1)) : W p l e R s m args below meth c H locs cells slots (MQ below (va_Qi P (Pst X B) (Ab B)) args s cells slots (Ab B)) (F0 m pc ls [.int v]) :=
  W.iret E.1 E.2.1 E.2.2.2.2.2.2.1 (fun U hU _ => ⟨⟨v, t, rfl, h, hW.pst hU⟩, hW.2.2.F hU⟩) hW.2.2.2.2 hdg E.2.2.2.2.2.2.2.1
/-- a call that may throw, with handlers behind it -/
theorem ycall {G : Int32 ⊕ String → TS → Prop} (E : Ev X B p s m args meth c own cc nL ret) (hW : Ws X B s.heap H locs t) (hM : vx_Met l y (.code y bytes maxL ret2 :: BIG) rm (Pre X B t (.ref b :: As)) (QXG X B G) (XCG X B G) mc mk (Ab B)) (hk : LkV own index y bytes maxL ret2 As.length) (hrv : Rcv X t b y.cls) (hR1 : rm.frames + 1 ≤ R.frames) (hR2 : 8 + (maxL + 11) + rm.locals ≤ R.locals) (hc1 : cells + mc ≤ R.cells) (hc2 : slots + mk ≤ R.slots) (hsz : ls.size = nL) (hst : (rest.map fun v => v.category).sum ≤ 8) (hdg : decode cc pc = .ok (.invokevirtual index, 3))
    (kx : ∀ (E9 : String) (t9 : TS) (H1 : Heap) (locs1 : List Loc) (ce : Cell) (q9 : Addr), G (.inr E9) t9 → Ws X B s.heap H1 locs1 t9 → H1[q9]? = some ce → ce.vm = .none → s.vm.findClass E9 = some ce.cls → vx_W p l e R s m args below meth c H1 locs1 (cells + mc) (slots + mk) Q (F0 m pc ls rest) q9)
    (kk : ∀ (r : Int32) (t9 : TS) (H1 : Heap) (locs1 : List Loc), G (.inl r) t9 → Ws X B s.heap H1 locs1 t9 → W p l e R s m args below meth c H1 locs1 (cells + mc) (slots + mk) Q (F0 m (pc + 3) ls (.int r :: rest))) (hrm : rm.cells = mc ∧ rm.slots = mk := by exact ⟨rfl, rfl⟩) : W p l e R s m args below meth c H locs cells slots Q (F0 m pc ls (As.reverse ++ .ref b :: rest)) := by
  refine vx_calli (vx_runV (As := As) (rest := rest) ⟨E.1, E.2.1, E.2.2.1, E.2.2.2.1, E.2.2.2.2.1⟩ hM (cw_V E hk hR1 hR2 hrm) ⟨Pre.blind, rcv_of E hW hrv, Pre.of E hW (.ref b :: As)⟩ rfl rfl hsz rfl (lv_room hst) hdg ⟨hc1, hc2⟩) hW.2.2 (fun q _ h => h) (fun q h => h) (fun q _ h => h) (fun E9 ce q9 u t1 H1 locs1 ht hvm hp hB hz1 hk1 hS hce hcv hcl => ?_) (fun r1 u t1 H1 locs1 ht hvm hw hB hz1 hk1 hS => ?_)
  · exact kx E9 u H1 locs1 ce q9 hB.1 ⟨by rw [← ht]; exact hB.2.1, hB.2.2, hS⟩ hce hcv hcl
  · exact kk r1 u H1 locs1 hw ⟨by rw [← ht]; exact hB.1, hB.2, hS⟩
/-- the law's call of one of its own methods -/
theorem callW {P : Int32 → TS → Prop} (E : Ev X B p s m args meth c own cc nL ret) (hW : Ws X B s.heap H locs t) (hM : Met l y (.codeWith y bytes maxL ret2 hh :: BIG) rm (Pre X B t As) (va_Qi P (Pst X B) (Ab B)) mc mk (Ab B)) (hk : LkW own index y bytes maxL ret2 hh As.length) (hR1 : rm.frames + 1 ≤ R.frames) (hR2 : 8 + (maxL + 11) + rm.locals ≤ R.locals) (hc1 : cells + mc ≤ R.cells) (hc2 : slots + mk ≤ R.slots) (hsz : ls.size = nL) (hst : (rest.map fun v => v.category).sum ≤ 8) (hdg : decode cc pc = .ok (.invokestatic index, 3)) (kk : ∀ (r : Int32) (u : TS), P r u → ∀ (H1 : Heap) (locs1 : List Loc), Ws X B s.heap H1 locs1 u → W p l e R s m args below meth c H1 locs1 (cells + mc) (slots + mk) Q (F0 m (pc + 3) ls (.int r :: rest))) (hrm : rm.cells = mc ∧ rm.slots = mk := by exact ⟨rfl, rfl⟩) : W p l e R s m args below meth c H locs cells slots Q (F0 m pc ls (As.reverse ++ rest)) := by
  refine va_calli (vx_runSW (As := As) (rest := rest) ⟨E.1, E.2.1, E.2.2.1, E.2.2.2.1, E.2.2.2.2.1⟩ hM (vx_cwSW (ws' := BIG) As.length E.2.2.2.2.1 (fun w hw => by
    simp only [va_wsS, List.mem_append, List.mem_cons, List.not_mem_nil, or_false] at hw
    rcases hw with (h | h | h) | h | h
    · rw [h]; exact big_self hk.1
    · rw [h]; exact big_self hk.2.1
    · rw [h]; exact big_self hk.2.2.1
    · rw [h]; exact big_self hk.2.2.2.1
    · exact big_self h) rfl hrm.1 hrm.2 hk.2.2.2.2 ⟨hR1, hR2⟩) ⟨Pre.blind, Pre.of E hW As⟩ rfl rfl hsz rfl (lv_room hst) hdg ⟨hc1, hc2⟩) hW.2.2 (fun q _ h => h) (fun q h => h) (fun r u t1 H1 locs1 ht hvm hw hB hz1 hk1 hS => ?_)
  exact kk r u hw H1 locs1 ⟨by rw [← ht]; exact hB.1, hB.2, hS⟩
end LAWM
theorem zs_cast {B : Nat} {X : XT} {U : State} {H : Heap} (hZ : Zs B X U H) {q : String} (h : q ∈ excL) {args : Array Value} : (Cond.castable q q).before args U = true := va_Nw.use rfl (hZ.2.2.2.1 q h)
theorem zs_nc {B : Nat} {X : XT} {U : State} {H : Heap} (hZ : Zs B X U H) {a b : String} (h : (a, b) ∈ ncL) : va_Nc a b U := hZ.2.2.2.2.1 (a, b) h
theorem kcl_L_13 : Cond.classLink RL 13 "java/lang/IllegalArgumentException" ∈ BIG := (bigm (inT2 (List.mem_of_getElem? (i := 61) rfl)) rfl)
theorem kcl_L_15 : Cond.classLink RL 15 "java/lang/IllegalStateException" ∈ BIG := (bigm (inT2 (List.mem_of_getElem? (i := 62) rfl)) rfl)
theorem kcl_L_21 : Cond.classLink RL 21 "java/lang/IndexOutOfBoundsException" ∈ BIG := (bigm (inT2 (List.mem_of_getElem? (i := 161) rfl)) rfl)
theorem kcl_L_44 : Cond.classLink RL 44 "java/util/NoSuchElementException" ∈ BIG := (bigm (inT3 (List.mem_of_getElem? (i := 150) rfl)) rfl)
theorem ki_L : Cond.initialized RL ∈ BIG := (bigm (inT1 (List.mem_of_getElem? (i := 0) rfl)) rfl)
theorem lk_L_7 : LkV RL 7 yX8_sheet cX8_sheet 3 (some .int) 1 := ⟨(bigm (inT2 (List.mem_of_getElem? (i := 63) rfl)) rfl), km_X8_sheet_inst, km_X8_sheet_sel, ki_X8, km_X8_sheet_code, by decide +kernel, by decide +kernel, by decide +kernel⟩
def rm_L_sheet : Room := { frames := 11, cells := 1, slots := 6, locals := 172 }
set_option maxHeartbeats 4000000 in
set_option maxRecDepth 100000 in
theorem c_L_sheet (l : Launch) {X : XT} {B : Nat} {t : TS} {v1 : Int32} {G : Int32 ⊕ String → TS → Prop} (hM : vx_Met l yX8_sheet (.code yX8_sheet cX8_sheet 3 (some .int) :: BIG) rm_X8_sheet (Pre X B t [.ref (X.1 0), .int v1]) (QXG X B G) (XCG X B G) 1 6 (Ab B)) (hEx : ∀ (E : String) (t9 : TS), G (.inr E) t9 → E = "java/lang/IllegalArgumentException" ∨ E = "java/lang/IllegalStateException") : Met l yL_sheet (.codeWith yL_sheet cL_sheet 4 (some .int) [(0, 9, 12, 13), (0, 9, 15, 15)] :: BIG) rm_L_sheet (Pre X B t [.ref (X.1 0), .int v1, .ref (X.1 72)]) (va_Qi (LPost (fun r => r.toInt64) (cd2 "java/lang/IllegalArgumentException") G) (Pst X B) (Ab B)) 1 6 (Ab B) := by
  refine wentry (by decide +kernel) rfl (Nat.le_of_ble_eq_true rfl) (fun p e s m below meth c ls E htab hW hl => ?_)
  obtain ⟨hx, hb, hml, hown, hts, -⟩ := id E
  replace hl : lv_has ls 4 [(0, .ref (X.1 0)), (1, .int v1), (2, .ref (X.1 72))] := hl
  refine lv_aload_n hx hb dL_sheet_0 rfl (lv_at hl 2 rfl) ?_
  refine lv_iconst (v := (0 : Int32)) hx hb dL_sheet_1 (by decide) ?_
  refine lv_aload_n hx hb dL_sheet_2 rfl (lv_at hl 0 rfl) ?_
  refine lv_iload_n hx hb dL_sheet_3 rfl (lv_at hl 1 rfl) ?_
  refine ycall (As := [.int _]) (rest := [_, _]) E hW hM lk_L_7 rcv_X8 (Nat.le_of_ble_eq_true rfl) (Nat.le_of_ble_eq_true rfl) (Nat.le_of_ble_eq_true rfl) (Nat.le_of_ble_eq_true rfl) hl.1 (Nat.le_of_ble_eq_true rfl) dL_sheet_4 (fun E9 t9 H locs ce q9 hG hW hce hcv hcl => ?_) (fun r9 t9 H locs hG hW => ?_)
  · rcases hEx E9 t9 hG with rfl | rfl
    · refine vx_catch hown [] ⟨0, 9, 12, 13⟩ [⟨0, 9, 15, 15⟩] htab (fun z hz => nomatch hz) (by decide) (by decide) (hts _ kcl_L_13) (zs_cast E.2.2.2.2.2.2.2.2.2 (by simp [excL])) hce hcv hcl ?_
      refine lv_astore_n (lv' := [_, _, _, _]) hx hb dL_sheet_12 rfl hl (by decide) rfl (fun ls hl => ?_)
      refine lv_iconst (v := (1 : Int32)) hx hb dL_sheet_13 (by decide) ?_
      exact retP E hW (Or.inr ⟨_, _, (if_pos rfl).symm, hG, rfl⟩) dL_sheet_14
    · refine vx_catch hown [⟨0, 9, 12, 13⟩] ⟨0, 9, 15, 15⟩ [] htab (fun z hz => by rw [List.mem_singleton.mp hz]; exact Or.inr ⟨by decide, "java/lang/IllegalArgumentException", hts _ kcl_L_13, zs_nc E.2.2.2.2.2.2.2.2.2 (by simp [ncL])⟩) (by decide) (by decide) (hts _ kcl_L_15) (zs_cast E.2.2.2.2.2.2.2.2.2 (by simp [excL])) hce hcv hcl ?_
      refine lv_astore_n (lv' := [_, _, _, _]) hx hb dL_sheet_15 rfl hl (by decide) rfl (fun ls hl => ?_)
      refine lv_iconst (v := (2 : Int32)) hx hb dL_sheet_16 (by decide) ?_
      exact retP E hW (Or.inr ⟨_, _, (if_neg (by decide)).symm, hG, rfl⟩) dL_sheet_17
  · obtain ⟨cs9, ms9, o9⟩ := t9
    refine lv_i2l hx hb dL_sheet_7 rfl ?_
    refine rs_72 E hW (vp_in_nI (n := 0) (Nat.le_of_ble_eq_true rfl) (Nat.le_of_ble_eq_true rfl)) dL_sheet_8 (fun H locs hW => ?_)
    refine lv_goto (tgt := 18) hx hb dL_sheet_9 (by decide) ?_
    refine lv_iconst (v := (0 : Int32)) hx hb dL_sheet_18 (by decide) ?_
    exact retP E hW (Or.inl ⟨r9, _, rfl, hG, rfl⟩) dL_sheet_19
theorem lw_L_99 : LkW RL 99 yL_sheet cL_sheet 4 (some .int) [(0, 9, 12, 13), (0, 9, 15, 15)] 3 := ⟨(bigm (inT2 (List.mem_of_getElem? (i := 58) rfl)) rfl), (bigm (inT2 (List.mem_of_getElem? (i := 59) rfl)) rfl), ki_L, (bigm (inT2 (List.mem_of_getElem? (i := 60) rfl)) rfl), by decide +kernel, by decide +kernel, by decide +kernel⟩
theorem lk_L_17 : LkV RL 17 yX8_row cX8_row 5 (some .int) 3 := ⟨(bigm (inT2 (List.mem_of_getElem? (i := 162) rfl)) rfl), km_X8_row_inst, km_X8_row_sel, ki_X8, km_X8_row_code, by decide +kernel, by decide +kernel, by decide +kernel⟩
def rm_L_row : Room := { frames := 12, cells := 1, slots := 6, locals := 197 }
set_option maxHeartbeats 4000000 in
set_option maxRecDepth 100000 in
theorem c_L_row (l : Launch) {X : XT} {B : Nat} {t : TS} {v1 : Int32} {v2 : Int32} {v3 : Int32} {G : Int32 ⊕ String → TS → Prop} (hM : vx_Met l yX8_row (.code yX8_row cX8_row 5 (some .int) :: BIG) rm_X8_row (Pre X B t [.ref (X.1 0), .int v1, .int v2, .int v3]) (QXG X B G) (XCG X B G) 1 6 (Ab B)) (hEx : ∀ (E : String) (t9 : TS), G (.inr E) t9 → E = "java/lang/IndexOutOfBoundsException") : Met l yL_row (.codeWith yL_row cL_row 6 (some .int) [(0, 12, 15, 21)] :: BIG) rm_L_row (Pre X B t [.ref (X.1 0), .int v1, .int v2, .int v3, .ref (X.1 72)]) (va_Qi (LPost (fun r => r.toInt64) cd1 G) (Pst X B) (Ab B)) 1 6 (Ab B) := by
  refine wentry (by decide +kernel) rfl (Nat.le_of_ble_eq_true rfl) (fun p e s m below meth c ls E htab hW hl => ?_)
  obtain ⟨hx, hb, hml, hown, hts, -⟩ := id E
  replace hl : lv_has ls 6 [(0, .ref (X.1 0)), (1, .int v1), (2, .int v2), (3, .int v3), (4, .ref (X.1 72))] := hl
  refine lv_aload hx hb dL_row_0 (lv_at hl 4 rfl) ?_
  refine lv_iconst (v := (0 : Int32)) hx hb dL_row_2 (by decide) ?_
  refine lv_aload_n hx hb dL_row_3 rfl (lv_at hl 0 rfl) ?_
  refine lv_iload_n hx hb dL_row_4 rfl (lv_at hl 1 rfl) ?_
  refine lv_iload_n hx hb dL_row_5 rfl (lv_at hl 2 rfl) ?_
  refine lv_iload_n hx hb dL_row_6 rfl (lv_at hl 3 rfl) ?_
  refine ycall (As := [.int _, .int _, .int _]) (rest := [_, _]) E hW hM lk_L_17 rcv_X8 (Nat.le_of_ble_eq_true rfl) (Nat.le_of_ble_eq_true rfl) (Nat.le_of_ble_eq_true rfl) (Nat.le_of_ble_eq_true rfl) hl.1 (Nat.le_of_ble_eq_true rfl) dL_row_7 (fun E9 t9 H locs ce q9 hG hW hce hcv hcl => ?_) (fun r9 t9 H locs hG hW => ?_)
  · obtain rfl := hEx E9 t9 hG
    refine vx_catch hown [] ⟨0, 12, 15, 21⟩ [] htab (fun z hz => nomatch hz) (by decide) (by decide) (hts _ kcl_L_21) (zs_cast E.2.2.2.2.2.2.2.2.2 (by simp [excL])) hce hcv hcl ?_
    refine lv_astore (lv' := [_, _, _, _, _, _]) hx hb dL_row_15 hl (by decide) rfl (fun ls hl => ?_)
    refine lv_iconst (v := (1 : Int32)) hx hb dL_row_17 (by decide) ?_
    exact retP E hW (Or.inr ⟨_, _, rfl, hG, rfl⟩) dL_row_18
  · obtain ⟨cs9, ms9, o9⟩ := t9
    refine lv_i2l hx hb dL_row_10 rfl ?_
    refine rs_72 E hW (vp_in_nI (n := 0) (Nat.le_of_ble_eq_true rfl) (Nat.le_of_ble_eq_true rfl)) dL_row_11 (fun H locs hW => ?_)
    refine lv_goto (tgt := 19) hx hb dL_row_12 (by decide) ?_
    refine lv_iconst (v := (0 : Int32)) hx hb dL_row_19 (by decide) ?_
    exact retP E hW (Or.inl ⟨r9, _, rfl, hG, rfl⟩) dL_row_20
theorem lw_L_109 : LkW RL 109 yL_row cL_row 6 (some .int) [(0, 12, 15, 21)] 5 := ⟨(bigm (inT2 (List.mem_of_getElem? (i := 158) rfl)) rfl), (bigm (inT2 (List.mem_of_getElem? (i := 159) rfl)) rfl), ki_L, (bigm (inT2 (List.mem_of_getElem? (i := 160) rfl)) rfl), by decide +kernel, by decide +kernel, by decide +kernel⟩
theorem lk_L_23 : LkV RL 23 yX8_put cX8_put 7 (some .int) 4 := ⟨(bigm (inT2 (List.mem_of_getElem? (i := 213) rfl)) rfl), km_X8_put_inst, km_X8_put_sel, ki_X8, km_X8_put_code, by decide +kernel, by decide +kernel, by decide +kernel⟩
def rm_L_put : Room := { frames := 12, cells := 1, slots := 6, locals := 199 }
set_option maxHeartbeats 4000000 in
set_option maxRecDepth 100000 in
theorem c_L_put (l : Launch) {X : XT} {B : Nat} {t : TS} {v1 : Int32} {v2 : Int32} {v3 : Int32} {v4 : Int64} {G : Int32 ⊕ String → TS → Prop} (hM : vx_Met l yX8_put (.code yX8_put cX8_put 7 (some .int) :: BIG) rm_X8_put (Pre X B t [.ref (X.1 0), .int v1, .int v2, .int v3, .long v4]) (QXG X B G) (XCG X B G) 1 6 (Ab B)) (hEx : ∀ (E : String) (t9 : TS), G (.inr E) t9 → E = "java/lang/IndexOutOfBoundsException") : Met l yL_put (.codeWith yL_put cL_put 8 (some .int) [(0, 14, 17, 21)] :: BIG) rm_L_put (Pre X B t [.ref (X.1 0), .int v1, .int v2, .int v3, .long v4, .ref (X.1 72)]) (va_Qi (LPost (fun r => r.toInt64) cd1 G) (Pst X B) (Ab B)) 1 6 (Ab B) := by
  refine wentry (by decide +kernel) rfl (Nat.le_of_ble_eq_true rfl) (fun p e s m below meth c ls E htab hW hl => ?_)
  obtain ⟨hx, hb, hml, hown, hts, -⟩ := id E
  replace hl : lv_has ls 8 [(0, .ref (X.1 0)), (1, .int v1), (2, .int v2), (3, .int v3), (4, .long v4), (6, .ref (X.1 72))] := hl
  refine lv_aload hx hb dL_put_0 (lv_at hl 5 rfl) ?_
  refine lv_iconst (v := (0 : Int32)) hx hb dL_put_2 (by decide) ?_
  refine lv_aload_n hx hb dL_put_3 rfl (lv_at hl 0 rfl) ?_
  refine lv_iload_n hx hb dL_put_4 rfl (lv_at hl 1 rfl) ?_
  refine lv_iload_n hx hb dL_put_5 rfl (lv_at hl 2 rfl) ?_
  refine lv_iload_n hx hb dL_put_6 rfl (lv_at hl 3 rfl) ?_
  refine lv_lload hx hb dL_put_7 (lv_at hl 4 rfl) ?_
  refine ycall (As := [.int _, .int _, .int _, .long _]) (rest := [_, _]) E hW hM lk_L_23 rcv_X8 (Nat.le_of_ble_eq_true rfl) (Nat.le_of_ble_eq_true rfl) (Nat.le_of_ble_eq_true rfl) (Nat.le_of_ble_eq_true rfl) hl.1 (Nat.le_of_ble_eq_true rfl) dL_put_9 (fun E9 t9 H locs ce q9 hG hW hce hcv hcl => ?_) (fun r9 t9 H locs hG hW => ?_)
  · obtain rfl := hEx E9 t9 hG
    refine vx_catch hown [] ⟨0, 14, 17, 21⟩ [] htab (fun z hz => nomatch hz) (by decide) (by decide) (hts _ kcl_L_21) (zs_cast E.2.2.2.2.2.2.2.2.2 (by simp [excL])) hce hcv hcl ?_
    refine lv_astore (lv' := [_, _, _, _, _, _, _]) hx hb dL_put_17 hl (by decide) rfl (fun ls hl => ?_)
    refine lv_iconst (v := (1 : Int32)) hx hb dL_put_19 (by decide) ?_
    exact retP E hW (Or.inr ⟨_, _, rfl, hG, rfl⟩) dL_put_20
  · obtain ⟨cs9, ms9, o9⟩ := t9
    refine lv_i2l hx hb dL_put_12 rfl ?_
    refine rs_72 E hW (vp_in_nI (n := 0) (Nat.le_of_ble_eq_true rfl) (Nat.le_of_ble_eq_true rfl)) dL_put_13 (fun H locs hW => ?_)
    refine lv_goto (tgt := 21) hx hb dL_put_14 (by decide) ?_
    refine lv_iconst (v := (0 : Int32)) hx hb dL_put_21 (by decide) ?_
    exact retP E hW (Or.inl ⟨r9, _, rfl, hG, rfl⟩) dL_put_22
theorem lw_L_115 : LkW RL 115 yL_put cL_put 8 (some .int) [(0, 14, 17, 21)] 6 := ⟨(bigm (inT2 (List.mem_of_getElem? (i := 210) rfl)) rfl), (bigm (inT2 (List.mem_of_getElem? (i := 211) rfl)) rfl), ki_L, (bigm (inT2 (List.mem_of_getElem? (i := 212) rfl)) rfl), by decide +kernel, by decide +kernel, by decide +kernel⟩
theorem lk_L_27 : LkV RL 27 yX8_tear cX8_tear 4 (some .int) 2 := ⟨(bigm (inT2 (List.mem_of_getElem? (i := 222) rfl)) rfl), km_X8_tear_inst, km_X8_tear_sel, ki_X8, km_X8_tear_code, by decide +kernel, by decide +kernel, by decide +kernel⟩
def rm_L_tear : Room := { frames := 12, cells := 1, slots := 6, locals := 196 }
set_option maxHeartbeats 4000000 in
set_option maxRecDepth 100000 in
theorem c_L_tear (l : Launch) {X : XT} {B : Nat} {t : TS} {v1 : Int32} {v2 : Int32} {G : Int32 ⊕ String → TS → Prop} (hM : vx_Met l yX8_tear (.code yX8_tear cX8_tear 4 (some .int) :: BIG) rm_X8_tear (Pre X B t [.ref (X.1 0), .int v1, .int v2]) (QXG X B G) (XCG X B G) 1 6 (Ab B)) (hEx : ∀ (E : String) (t9 : TS), G (.inr E) t9 → E = "java/lang/IndexOutOfBoundsException") : Met l yL_tear (.codeWith yL_tear cL_tear 5 (some .int) [(0, 10, 13, 21)] :: BIG) rm_L_tear (Pre X B t [.ref (X.1 0), .int v1, .int v2, .ref (X.1 72)]) (va_Qi (LPost (fun r => r.toInt64) cd1 G) (Pst X B) (Ab B)) 1 6 (Ab B) := by
  refine wentry (by decide +kernel) rfl (Nat.le_of_ble_eq_true rfl) (fun p e s m below meth c ls E htab hW hl => ?_)
  obtain ⟨hx, hb, hml, hown, hts, -⟩ := id E
  replace hl : lv_has ls 5 [(0, .ref (X.1 0)), (1, .int v1), (2, .int v2), (3, .ref (X.1 72))] := hl
  refine lv_aload_n hx hb dL_tear_0 rfl (lv_at hl 3 rfl) ?_
  refine lv_iconst (v := (0 : Int32)) hx hb dL_tear_1 (by decide) ?_
  refine lv_aload_n hx hb dL_tear_2 rfl (lv_at hl 0 rfl) ?_
  refine lv_iload_n hx hb dL_tear_3 rfl (lv_at hl 1 rfl) ?_
  refine lv_iload_n hx hb dL_tear_4 rfl (lv_at hl 2 rfl) ?_
  refine ycall (As := [.int _, .int _]) (rest := [_, _]) E hW hM lk_L_27 rcv_X8 (Nat.le_of_ble_eq_true rfl) (Nat.le_of_ble_eq_true rfl) (Nat.le_of_ble_eq_true rfl) (Nat.le_of_ble_eq_true rfl) hl.1 (Nat.le_of_ble_eq_true rfl) dL_tear_5 (fun E9 t9 H locs ce q9 hG hW hce hcv hcl => ?_) (fun r9 t9 H locs hG hW => ?_)
  · obtain rfl := hEx E9 t9 hG
    refine vx_catch hown [] ⟨0, 10, 13, 21⟩ [] htab (fun z hz => nomatch hz) (by decide) (by decide) (hts _ kcl_L_21) (zs_cast E.2.2.2.2.2.2.2.2.2 (by simp [excL])) hce hcv hcl ?_
    refine lv_astore (lv' := [_, _, _, _, _]) hx hb dL_tear_13 hl (by decide) rfl (fun ls hl => ?_)
    refine lv_iconst (v := (1 : Int32)) hx hb dL_tear_15 (by decide) ?_
    exact retP E hW (Or.inr ⟨_, _, rfl, hG, rfl⟩) dL_tear_16
  · obtain ⟨cs9, ms9, o9⟩ := t9
    refine lv_i2l hx hb dL_tear_8 rfl ?_
    refine rs_72 E hW (vp_in_nI (n := 0) (Nat.le_of_ble_eq_true rfl) (Nat.le_of_ble_eq_true rfl)) dL_tear_9 (fun H locs hW => ?_)
    refine lv_goto (tgt := 17) hx hb dL_tear_10 (by decide) ?_
    refine lv_iconst (v := (0 : Int32)) hx hb dL_tear_17 (by decide) ?_
    exact retP E hW (Or.inl ⟨r9, _, rfl, hG, rfl⟩) dL_tear_18
theorem lw_L_119 : LkW RL 119 yL_tear cL_tear 5 (some .int) [(0, 10, 13, 21)] 4 := ⟨(bigm (inT2 (List.mem_of_getElem? (i := 219) rfl)) rfl), (bigm (inT2 (List.mem_of_getElem? (i := 220) rfl)) rfl), ki_L, (bigm (inT2 (List.mem_of_getElem? (i := 221) rfl)) rfl), by decide +kernel, by decide +kernel, by decide +kernel⟩
theorem lk_L_31 : LkV RL 31 yX8_fit cX8_fit 2 (some .int) 1 := ⟨(bigm (inT2 (List.mem_of_getElem? (i := 229) rfl)) rfl), km_X8_fit_inst, km_X8_fit_sel, ki_X8, km_X8_fit_code, by decide +kernel, by decide +kernel, by decide +kernel⟩
def rm_L_fit : Room := { frames := 209, cells := 1, slots := 6, locals := 7788 }
set_option maxHeartbeats 4000000 in
set_option maxRecDepth 100000 in
theorem c_L_fit (l : Launch) {X : XT} {B : Nat} {t : TS} {v1 : Int32} {G : Int32 ⊕ String → TS → Prop} (hM : vx_Met l yX8_fit (.code yX8_fit cX8_fit 2 (some .int) :: BIG) rm_X8_fit (Pre X B t [.ref (X.1 0), .int v1]) (QXG X B G) (XCG X B G) 1 6 (Ab B)) (hEx : ∀ (E : String) (t9 : TS), G (.inr E) t9 → E = "java/lang/IllegalArgumentException") : Met l yL_fit (.codeWith yL_fit cL_fit 4 (some .int) [(0, 9, 12, 13)] :: BIG) rm_L_fit (Pre X B t [.ref (X.1 0), .int v1, .ref (X.1 72)]) (va_Qi (LPost (fun r => r.toInt64) cd1 G) (Pst X B) (Ab B)) 1 6 (Ab B) := by
  refine wentry (by decide +kernel) rfl (Nat.le_of_ble_eq_true rfl) (fun p e s m below meth c ls E htab hW hl => ?_)
  obtain ⟨hx, hb, hml, hown, hts, -⟩ := id E
  replace hl : lv_has ls 4 [(0, .ref (X.1 0)), (1, .int v1), (2, .ref (X.1 72))] := hl
  refine lv_aload_n hx hb dL_fit_0 rfl (lv_at hl 2 rfl) ?_
  refine lv_iconst (v := (0 : Int32)) hx hb dL_fit_1 (by decide) ?_
  refine lv_aload_n hx hb dL_fit_2 rfl (lv_at hl 0 rfl) ?_
  refine lv_iload_n hx hb dL_fit_3 rfl (lv_at hl 1 rfl) ?_
  refine ycall (As := [.int _]) (rest := [_, _]) E hW hM lk_L_31 rcv_X8 (Nat.le_of_ble_eq_true rfl) (Nat.le_of_ble_eq_true rfl) (Nat.le_of_ble_eq_true rfl) (Nat.le_of_ble_eq_true rfl) hl.1 (Nat.le_of_ble_eq_true rfl) dL_fit_4 (fun E9 t9 H locs ce q9 hG hW hce hcv hcl => ?_) (fun r9 t9 H locs hG hW => ?_)
  · obtain rfl := hEx E9 t9 hG
    refine vx_catch hown [] ⟨0, 9, 12, 13⟩ [] htab (fun z hz => nomatch hz) (by decide) (by decide) (hts _ kcl_L_13) (zs_cast E.2.2.2.2.2.2.2.2.2 (by simp [excL])) hce hcv hcl ?_
    refine lv_astore_n (lv' := [_, _, _, _]) hx hb dL_fit_12 rfl hl (by decide) rfl (fun ls hl => ?_)
    refine lv_iconst (v := (1 : Int32)) hx hb dL_fit_13 (by decide) ?_
    exact retP E hW (Or.inr ⟨_, _, rfl, hG, rfl⟩) dL_fit_14
  · obtain ⟨cs9, ms9, o9⟩ := t9
    refine lv_i2l hx hb dL_fit_7 rfl ?_
    refine rs_72 E hW (vp_in_nI (n := 0) (Nat.le_of_ble_eq_true rfl) (Nat.le_of_ble_eq_true rfl)) dL_fit_8 (fun H locs hW => ?_)
    refine lv_goto (tgt := 15) hx hb dL_fit_9 (by decide) ?_
    refine lv_iconst (v := (0 : Int32)) hx hb dL_fit_15 (by decide) ?_
    exact retP E hW (Or.inl ⟨r9, _, rfl, hG, rfl⟩) dL_fit_16
theorem lw_L_128 : LkW RL 128 yL_fit cL_fit 4 (some .int) [(0, 9, 12, 13)] 3 := ⟨(bigm (inT2 (List.mem_of_getElem? (i := 226) rfl)) rfl), (bigm (inT2 (List.mem_of_getElem? (i := 227) rfl)) rfl), ki_L, (bigm (inT2 (List.mem_of_getElem? (i := 228) rfl)) rfl), by decide +kernel, by decide +kernel, by decide +kernel⟩
theorem lk_L_34 : LkV RL 34 yX8_says cX8_says 5 (some .boolean) 4 := ⟨(bigm (inT3 (List.mem_of_getElem? (i := 74) rfl)) rfl), km_X8_says_inst, km_X8_says_sel, ki_X8, km_X8_says_code, by decide +kernel, by decide +kernel, by decide +kernel⟩
def rm_L_says : Room := { frames := 11, cells := 1, slots := 6, locals := 174 }
set_option maxHeartbeats 4000000 in
set_option maxRecDepth 100000 in
theorem c_L_says (l : Launch) {X : XT} {B : Nat} {t : TS} {v1 : Int32} {v2 : Int32} {v3 : Int32} {v4 : Int32} {G : Int32 ⊕ String → TS → Prop} (hM : vx_Met l yX8_says (.code yX8_says cX8_says 5 (some .boolean) :: BIG) rm_X8_says (Pre X B t [.ref (X.1 0), .int v1, .int v2, .int v3, .int v4]) (QXG X B G) (XCG X B G) 1 6 (Ab B)) (hEx : ∀ (E : String) (t9 : TS), G (.inr E) t9 → E = "java/lang/IndexOutOfBoundsException") : Met l yL_says (.codeWith yL_says cL_says 7 (some .int) [(0, 21, 24, 21)] :: BIG) rm_L_says (Pre X B t [.ref (X.1 0), .int v1, .int v2, .int v3, .int v4, .ref (X.1 72)]) (va_Qi (LPost (fun r => if r = 0 then 0 else 1) cd1 G) (Pst X B) (Ab B)) 1 6 (Ab B) := by
  refine wentry (by decide +kernel) rfl (Nat.le_of_ble_eq_true rfl) (fun p e s m below meth c ls E htab hW hl => ?_)
  obtain ⟨hx, hb, hml, hown, hts, -⟩ := id E
  replace hl : lv_has ls 7 [(0, .ref (X.1 0)), (1, .int v1), (2, .int v2), (3, .int v3), (4, .int v4), (5, .ref (X.1 72))] := hl
  refine lv_aload hx hb dL_says_0 (lv_at hl 5 rfl) ?_
  refine lv_iconst (v := (0 : Int32)) hx hb dL_says_2 (by decide) ?_
  refine lv_aload_n hx hb dL_says_3 rfl (lv_at hl 0 rfl) ?_
  refine lv_iload_n hx hb dL_says_4 rfl (lv_at hl 1 rfl) ?_
  refine lv_iload_n hx hb dL_says_5 rfl (lv_at hl 2 rfl) ?_
  refine lv_iload_n hx hb dL_says_6 rfl (lv_at hl 3 rfl) ?_
  refine lv_iload hx hb dL_says_7 (lv_at hl 4 rfl) ?_
  refine ycall (As := [.int _, .int _, .int _, .int _]) (rest := [_, _]) E hW hM lk_L_34 rcv_X8 (Nat.le_of_ble_eq_true rfl) (Nat.le_of_ble_eq_true rfl) (Nat.le_of_ble_eq_true rfl) (Nat.le_of_ble_eq_true rfl) hl.1 (Nat.le_of_ble_eq_true rfl) dL_says_9 (fun E9 t9 H locs ce q9 hG hW hce hcv hcl => ?_) (fun r9 t9 H locs hG hW => ?_)
  · obtain rfl := hEx E9 t9 hG
    refine vx_catch hown [] ⟨0, 21, 24, 21⟩ [] htab (fun z hz => nomatch hz) (by decide) (by decide) (hts _ kcl_L_21) (zs_cast E.2.2.2.2.2.2.2.2.2 (by simp [excL])) hce hcv hcl ?_
    refine lv_astore (lv' := [_, _, _, _, _, _, _]) hx hb dL_says_24 hl (by decide) rfl (fun ls hl => ?_)
    refine lv_iconst (v := (1 : Int32)) hx hb dL_says_26 (by decide) ?_
    exact retP E hW (Or.inr ⟨_, _, rfl, hG, rfl⟩) dL_says_27
  · obtain ⟨cs9, ms9, o9⟩ := t9
    refine lv_if_eq (tgt := 19) hx hb dL_says_12 (by decide) (fun h9 => ?_) (fun h9 => ?_)
    · refine lv_lconst (v := (0 : Int64)) hx hb dL_says_19 (by decide) ?_
      refine rs_72 E hW (vp_in_nI (n := 0) (Nat.le_of_ble_eq_true rfl) (Nat.le_of_ble_eq_true rfl)) dL_says_20 (fun H locs hW => ?_)
      refine lv_goto (tgt := 28) hx hb dL_says_21 (by decide) ?_
      refine lv_iconst (v := (0 : Int32)) hx hb dL_says_28 (by decide) ?_
      exact retP E hW (Or.inl ⟨r9, _, rfl, hG, by show _ = (cs9, ms9, vp_updL o9 0 (if r9 = 0 then 0 else 1)); rw [if_pos h9]; rfl⟩) dL_says_29
    · refine lv_lconst (v := (1 : Int64)) hx hb dL_says_15 (by decide) ?_
      refine lv_goto (tgt := 20) hx hb dL_says_16 (by decide) ?_
      refine rs_72 E hW (vp_in_nI (n := 0) (Nat.le_of_ble_eq_true rfl) (Nat.le_of_ble_eq_true rfl)) dL_says_20 (fun H locs hW => ?_)
      refine lv_goto (tgt := 28) hx hb dL_says_21 (by decide) ?_
      refine lv_iconst (v := (0 : Int32)) hx hb dL_says_28 (by decide) ?_
      exact retP E hW (Or.inl ⟨r9, _, rfl, hG, by show _ = (cs9, ms9, vp_updL o9 0 (if r9 = 0 then 0 else 1)); rw [if_neg h9]; rfl⟩) dL_says_29
theorem lw_L_131 : LkW RL 131 yL_says cL_says 7 (some .int) [(0, 21, 24, 21)] 6 := ⟨(bigm (inT3 (List.mem_of_getElem? (i := 71) rfl)) rfl), (bigm (inT3 (List.mem_of_getElem? (i := 72) rfl)) rfl), ki_L, (bigm (inT3 (List.mem_of_getElem? (i := 73) rfl)) rfl), by decide +kernel, by decide +kernel, by decide +kernel⟩
theorem lk_L_38 : LkV RL 38 yX8_part cX8_part 6 (some .int) 3 := ⟨(bigm (inT3 (List.mem_of_getElem? (i := 94) rfl)) rfl), km_X8_part_inst, km_X8_part_sel, ki_X8, km_X8_part_code, by decide +kernel, by decide +kernel, by decide +kernel⟩
def rm_L_part : Room := { frames := 12, cells := 1, slots := 6, locals := 198 }
set_option maxHeartbeats 4000000 in
set_option maxRecDepth 100000 in
theorem c_L_part (l : Launch) {X : XT} {B : Nat} {t : TS} {v1 : Int32} {v2 : Int32} {v3 : Int32} {G : Int32 ⊕ String → TS → Prop} (hM : vx_Met l yX8_part (.code yX8_part cX8_part 6 (some .int) :: BIG) rm_X8_part (Pre X B t [.ref (X.1 0), .int v1, .int v2, .int v3]) (QXG X B G) (XCG X B G) 1 6 (Ab B)) (hEx : ∀ (E : String) (t9 : TS), G (.inr E) t9 → E = "java/lang/IllegalArgumentException" ∨ E = "java/lang/IndexOutOfBoundsException") : Met l yL_part (.codeWith yL_part cL_part 6 (some .int) [(0, 12, 15, 13), (0, 12, 19, 21)] :: BIG) rm_L_part (Pre X B t [.ref (X.1 0), .int v1, .int v2, .int v3, .ref (X.1 72)]) (va_Qi (LPost (fun r => r.toInt64) (cd2 "java/lang/IllegalArgumentException") G) (Pst X B) (Ab B)) 1 6 (Ab B) := by
  refine wentry (by decide +kernel) rfl (Nat.le_of_ble_eq_true rfl) (fun p e s m below meth c ls E htab hW hl => ?_)
  obtain ⟨hx, hb, hml, hown, hts, -⟩ := id E
  replace hl : lv_has ls 6 [(0, .ref (X.1 0)), (1, .int v1), (2, .int v2), (3, .int v3), (4, .ref (X.1 72))] := hl
  refine lv_aload hx hb dL_part_0 (lv_at hl 4 rfl) ?_
  refine lv_iconst (v := (0 : Int32)) hx hb dL_part_2 (by decide) ?_
  refine lv_aload_n hx hb dL_part_3 rfl (lv_at hl 0 rfl) ?_
  refine lv_iload_n hx hb dL_part_4 rfl (lv_at hl 1 rfl) ?_
  refine lv_iload_n hx hb dL_part_5 rfl (lv_at hl 2 rfl) ?_
  refine lv_iload_n hx hb dL_part_6 rfl (lv_at hl 3 rfl) ?_
  refine ycall (As := [.int _, .int _, .int _]) (rest := [_, _]) E hW hM lk_L_38 rcv_X8 (Nat.le_of_ble_eq_true rfl) (Nat.le_of_ble_eq_true rfl) (Nat.le_of_ble_eq_true rfl) (Nat.le_of_ble_eq_true rfl) hl.1 (Nat.le_of_ble_eq_true rfl) dL_part_7 (fun E9 t9 H locs ce q9 hG hW hce hcv hcl => ?_) (fun r9 t9 H locs hG hW => ?_)
  · rcases hEx E9 t9 hG with rfl | rfl
    · refine vx_catch hown [] ⟨0, 12, 15, 13⟩ [⟨0, 12, 19, 21⟩] htab (fun z hz => nomatch hz) (by decide) (by decide) (hts _ kcl_L_13) (zs_cast E.2.2.2.2.2.2.2.2.2 (by simp [excL])) hce hcv hcl ?_
      refine lv_astore (lv' := [_, _, _, _, _, _]) hx hb dL_part_15 hl (by decide) rfl (fun ls hl => ?_)
      refine lv_iconst (v := (1 : Int32)) hx hb dL_part_17 (by decide) ?_
      exact retP E hW (Or.inr ⟨_, _, (if_pos rfl).symm, hG, rfl⟩) dL_part_18
    · refine vx_catch hown [⟨0, 12, 15, 13⟩] ⟨0, 12, 19, 21⟩ [] htab (fun z hz => by rw [List.mem_singleton.mp hz]; exact Or.inr ⟨by decide, "java/lang/IllegalArgumentException", hts _ kcl_L_13, zs_nc E.2.2.2.2.2.2.2.2.2 (by simp [ncL])⟩) (by decide) (by decide) (hts _ kcl_L_21) (zs_cast E.2.2.2.2.2.2.2.2.2 (by simp [excL])) hce hcv hcl ?_
      refine lv_astore (lv' := [_, _, _, _, _, _]) hx hb dL_part_19 hl (by decide) rfl (fun ls hl => ?_)
      refine lv_iconst (v := (2 : Int32)) hx hb dL_part_21 (by decide) ?_
      exact retP E hW (Or.inr ⟨_, _, (if_neg (by decide)).symm, hG, rfl⟩) dL_part_22
  · obtain ⟨cs9, ms9, o9⟩ := t9
    refine lv_i2l hx hb dL_part_10 rfl ?_
    refine rs_72 E hW (vp_in_nI (n := 0) (Nat.le_of_ble_eq_true rfl) (Nat.le_of_ble_eq_true rfl)) dL_part_11 (fun H locs hW => ?_)
    refine lv_goto (tgt := 23) hx hb dL_part_12 (by decide) ?_
    refine lv_iconst (v := (0 : Int32)) hx hb dL_part_23 (by decide) ?_
    exact retP E hW (Or.inl ⟨r9, _, rfl, hG, rfl⟩) dL_part_24
theorem lw_L_135 : LkW RL 135 yL_part cL_part 6 (some .int) [(0, 12, 15, 13), (0, 12, 19, 21)] 5 := ⟨(bigm (inT3 (List.mem_of_getElem? (i := 91) rfl)) rfl), (bigm (inT3 (List.mem_of_getElem? (i := 92) rfl)) rfl), ki_L, (bigm (inT3 (List.mem_of_getElem? (i := 93) rfl)) rfl), by decide +kernel, by decide +kernel, by decide +kernel⟩
theorem lk_L_41 : LkV RL 41 yX8_told cX8_told 4 (some .int) 3 := ⟨(bigm (inT3 (List.mem_of_getElem? (i := 151) rfl)) rfl), km_X8_told_inst, km_X8_told_sel, ki_X8, km_X8_told_code, by decide +kernel, by decide +kernel, by decide +kernel⟩
def rm_L_told : Room := { frames := 11, cells := 1, slots := 6, locals := 173 }
set_option maxHeartbeats 4000000 in
set_option maxRecDepth 100000 in
theorem c_L_told (l : Launch) {X : XT} {B : Nat} {t : TS} {v1 : Int32} {v2 : Int32} {v3 : Int32} {G : Int32 ⊕ String → TS → Prop} (hM : vx_Met l yX8_told (.code yX8_told cX8_told 4 (some .int) :: BIG) rm_X8_told (Pre X B t [.ref (X.1 0), .int v1, .int v2, .int v3]) (QXG X B G) (XCG X B G) 1 6 (Ab B)) (hEx : ∀ (E : String) (t9 : TS), G (.inr E) t9 → E = "java/util/NoSuchElementException" ∨ E = "java/lang/IllegalArgumentException") : Met l yL_told (.codeWith yL_told cL_told 6 (some .int) [(0, 12, 15, 44), (0, 12, 19, 13)] :: BIG) rm_L_told (Pre X B t [.ref (X.1 0), .int v1, .int v2, .int v3, .ref (X.1 72)]) (va_Qi (LPost (fun r => r.toInt64) (cd2 "java/util/NoSuchElementException") G) (Pst X B) (Ab B)) 1 6 (Ab B) := by
  refine wentry (by decide +kernel) rfl (Nat.le_of_ble_eq_true rfl) (fun p e s m below meth c ls E htab hW hl => ?_)
  obtain ⟨hx, hb, hml, hown, hts, -⟩ := id E
  replace hl : lv_has ls 6 [(0, .ref (X.1 0)), (1, .int v1), (2, .int v2), (3, .int v3), (4, .ref (X.1 72))] := hl
  refine lv_aload hx hb dL_told_0 (lv_at hl 4 rfl) ?_
  refine lv_iconst (v := (0 : Int32)) hx hb dL_told_2 (by decide) ?_
  refine lv_aload_n hx hb dL_told_3 rfl (lv_at hl 0 rfl) ?_
  refine lv_iload_n hx hb dL_told_4 rfl (lv_at hl 1 rfl) ?_
  refine lv_iload_n hx hb dL_told_5 rfl (lv_at hl 2 rfl) ?_
  refine lv_iload_n hx hb dL_told_6 rfl (lv_at hl 3 rfl) ?_
  refine ycall (As := [.int _, .int _, .int _]) (rest := [_, _]) E hW hM lk_L_41 rcv_X8 (Nat.le_of_ble_eq_true rfl) (Nat.le_of_ble_eq_true rfl) (Nat.le_of_ble_eq_true rfl) (Nat.le_of_ble_eq_true rfl) hl.1 (Nat.le_of_ble_eq_true rfl) dL_told_7 (fun E9 t9 H locs ce q9 hG hW hce hcv hcl => ?_) (fun r9 t9 H locs hG hW => ?_)
  · rcases hEx E9 t9 hG with rfl | rfl
    · refine vx_catch hown [] ⟨0, 12, 15, 44⟩ [⟨0, 12, 19, 13⟩] htab (fun z hz => nomatch hz) (by decide) (by decide) (hts _ kcl_L_44) (zs_cast E.2.2.2.2.2.2.2.2.2 (by simp [excL])) hce hcv hcl ?_
      refine lv_astore (lv' := [_, _, _, _, _, _]) hx hb dL_told_15 hl (by decide) rfl (fun ls hl => ?_)
      refine lv_iconst (v := (1 : Int32)) hx hb dL_told_17 (by decide) ?_
      exact retP E hW (Or.inr ⟨_, _, (if_pos rfl).symm, hG, rfl⟩) dL_told_18
    · refine vx_catch hown [⟨0, 12, 15, 44⟩] ⟨0, 12, 19, 13⟩ [] htab (fun z hz => by rw [List.mem_singleton.mp hz]; exact Or.inr ⟨by decide, "java/util/NoSuchElementException", hts _ kcl_L_44, zs_nc E.2.2.2.2.2.2.2.2.2 (by simp [ncL])⟩) (by decide) (by decide) (hts _ kcl_L_13) (zs_cast E.2.2.2.2.2.2.2.2.2 (by simp [excL])) hce hcv hcl ?_
      refine lv_astore (lv' := [_, _, _, _, _, _]) hx hb dL_told_19 hl (by decide) rfl (fun ls hl => ?_)
      refine lv_iconst (v := (2 : Int32)) hx hb dL_told_21 (by decide) ?_
      exact retP E hW (Or.inr ⟨_, _, (if_neg (by decide)).symm, hG, rfl⟩) dL_told_22
  · obtain ⟨cs9, ms9, o9⟩ := t9
    refine lv_i2l hx hb dL_told_10 rfl ?_
    refine rs_72 E hW (vp_in_nI (n := 0) (Nat.le_of_ble_eq_true rfl) (Nat.le_of_ble_eq_true rfl)) dL_told_11 (fun H locs hW => ?_)
    refine lv_goto (tgt := 23) hx hb dL_told_12 (by decide) ?_
    refine lv_iconst (v := (0 : Int32)) hx hb dL_told_23 (by decide) ?_
    exact retP E hW (Or.inl ⟨r9, _, rfl, hG, rfl⟩) dL_told_24
theorem lw_L_138 : LkW RL 138 yL_told cL_told 6 (some .int) [(0, 12, 15, 44), (0, 12, 19, 13)] 5 := ⟨(bigm (inT3 (List.mem_of_getElem? (i := 147) rfl)) rfl), (bigm (inT3 (List.mem_of_getElem? (i := 148) rfl)) rfl), ki_L, (bigm (inT3 (List.mem_of_getElem? (i := 149) rfl)) rfl), by decide +kernel, by decide +kernel, by decide +kernel⟩
theorem lk_L_46 : LkV RL 46 yX8_car cX8_car 8 (some .int) 4 := ⟨(bigm (inT3 (List.mem_of_getElem? (i := 175) rfl)) rfl), km_X8_car_inst, km_X8_car_sel, ki_X8, km_X8_car_code, by decide +kernel, by decide +kernel, by decide +kernel⟩
def rm_L_car : Room := { frames := 11, cells := 1, slots := 9, locals := 177 }
set_option maxHeartbeats 4000000 in
set_option maxRecDepth 100000 in
theorem c_L_car (l : Launch) {X : XT} {B : Nat} {t : TS} {v1 : Int32} {v2 : Int32} {v3 : Int32} {v4 : Int32} {G : Int32 ⊕ String → TS → Prop} (hM : vx_Met l yX8_car (.code yX8_car cX8_car 8 (some .int) :: BIG) rm_X8_car (Pre X B t [.ref (X.1 0), .int v1, .int v2, .int v3, .int v4]) (QXG X B G) (XCG X B G) 1 9 (Ab B)) (hEx : ∀ (E : String) (t9 : TS), G (.inr E) t9 → E = "java/lang/IllegalArgumentException") : Met l yL_car (.codeWith yL_car cL_car 7 (some .int) [(0, 14, 17, 13)] :: BIG) rm_L_car (Pre X B t [.ref (X.1 0), .int v1, .int v2, .int v3, .int v4, .ref (X.1 72)]) (va_Qi (LPost (fun r => r.toInt64) cd1 G) (Pst X B) (Ab B)) 1 9 (Ab B) := by
  refine wentry (by decide +kernel) rfl (Nat.le_of_ble_eq_true rfl) (fun p e s m below meth c ls E htab hW hl => ?_)
  obtain ⟨hx, hb, hml, hown, hts, -⟩ := id E
  replace hl : lv_has ls 7 [(0, .ref (X.1 0)), (1, .int v1), (2, .int v2), (3, .int v3), (4, .int v4), (5, .ref (X.1 72))] := hl
  refine lv_aload hx hb dL_car_0 (lv_at hl 5 rfl) ?_
  refine lv_iconst (v := (0 : Int32)) hx hb dL_car_2 (by decide) ?_
  refine lv_aload_n hx hb dL_car_3 rfl (lv_at hl 0 rfl) ?_
  refine lv_iload_n hx hb dL_car_4 rfl (lv_at hl 1 rfl) ?_
  refine lv_iload_n hx hb dL_car_5 rfl (lv_at hl 2 rfl) ?_
  refine lv_iload_n hx hb dL_car_6 rfl (lv_at hl 3 rfl) ?_
  refine lv_iload hx hb dL_car_7 (lv_at hl 4 rfl) ?_
  refine ycall (As := [.int _, .int _, .int _, .int _]) (rest := [_, _]) E hW hM lk_L_46 rcv_X8 (Nat.le_of_ble_eq_true rfl) (Nat.le_of_ble_eq_true rfl) (Nat.le_of_ble_eq_true rfl) (Nat.le_of_ble_eq_true rfl) hl.1 (Nat.le_of_ble_eq_true rfl) dL_car_9 (fun E9 t9 H locs ce q9 hG hW hce hcv hcl => ?_) (fun r9 t9 H locs hG hW => ?_)
  · obtain rfl := hEx E9 t9 hG
    refine vx_catch hown [] ⟨0, 14, 17, 13⟩ [] htab (fun z hz => nomatch hz) (by decide) (by decide) (hts _ kcl_L_13) (zs_cast E.2.2.2.2.2.2.2.2.2 (by simp [excL])) hce hcv hcl ?_
    refine lv_astore (lv' := [_, _, _, _, _, _, _]) hx hb dL_car_17 hl (by decide) rfl (fun ls hl => ?_)
    refine lv_iconst (v := (1 : Int32)) hx hb dL_car_19 (by decide) ?_
    exact retP E hW (Or.inr ⟨_, _, rfl, hG, rfl⟩) dL_car_20
  · obtain ⟨cs9, ms9, o9⟩ := t9
    refine lv_i2l hx hb dL_car_12 rfl ?_
    refine rs_72 E hW (vp_in_nI (n := 0) (Nat.le_of_ble_eq_true rfl) (Nat.le_of_ble_eq_true rfl)) dL_car_13 (fun H locs hW => ?_)
    refine lv_goto (tgt := 21) hx hb dL_car_14 (by decide) ?_
    refine lv_iconst (v := (0 : Int32)) hx hb dL_car_21 (by decide) ?_
    exact retP E hW (Or.inl ⟨r9, _, rfl, hG, rfl⟩) dL_car_22
theorem lw_L_141 : LkW RL 141 yL_car cL_car 7 (some .int) [(0, 14, 17, 13)] 6 := ⟨(bigm (inT3 (List.mem_of_getElem? (i := 172) rfl)) rfl), (bigm (inT3 (List.mem_of_getElem? (i := 173) rfl)) rfl), ki_L, (bigm (inT3 (List.mem_of_getElem? (i := 174) rfl)) rfl), by decide +kernel, by decide +kernel, by decide +kernel⟩
theorem lk_L_50 : LkV RL 50 yX8_about cX8_about 4 (some .int) 2 := ⟨(bigm (inT3 (List.mem_of_getElem? (i := 239) rfl)) rfl), km_X8_about_inst, km_X8_about_sel, ki_X8, km_X8_about_code, by decide +kernel, by decide +kernel, by decide +kernel⟩
def rm_L_about : Room := { frames := 12, cells := 2, slots := 12, locals := 195 }
set_option maxHeartbeats 4000000 in
set_option maxRecDepth 100000 in
theorem c_L_about (l : Launch) {X : XT} {B : Nat} {t : TS} {v1 : Int32} {v2 : Int32} {G : Int32 ⊕ String → TS → Prop} (hM : vx_Met l yX8_about (.code yX8_about cX8_about 4 (some .int) :: BIG) rm_X8_about (Pre X B t [.ref (X.1 0), .int v1, .int v2]) (QXG X B G) (XCG X B G) 2 12 (Ab B)) (hEx : ∀ (E : String) (t9 : TS), G (.inr E) t9 → E = "java/util/NoSuchElementException" ∨ E = "java/lang/IllegalArgumentException") : Met l yL_about (.codeWith yL_about cL_about 5 (some .int) [(0, 10, 13, 44), (0, 10, 17, 13)] :: BIG) rm_L_about (Pre X B t [.ref (X.1 0), .int v1, .int v2, .ref (X.1 72)]) (va_Qi (LPost (fun r => r.toInt64) (cd2 "java/util/NoSuchElementException") G) (Pst X B) (Ab B)) 2 12 (Ab B) := by
  refine wentry (by decide +kernel) rfl (Nat.le_of_ble_eq_true rfl) (fun p e s m below meth c ls E htab hW hl => ?_)
  obtain ⟨hx, hb, hml, hown, hts, -⟩ := id E
  replace hl : lv_has ls 5 [(0, .ref (X.1 0)), (1, .int v1), (2, .int v2), (3, .ref (X.1 72))] := hl
  refine lv_aload_n hx hb dL_about_0 rfl (lv_at hl 3 rfl) ?_
  refine lv_iconst (v := (0 : Int32)) hx hb dL_about_1 (by decide) ?_
  refine lv_aload_n hx hb dL_about_2 rfl (lv_at hl 0 rfl) ?_
  refine lv_iload_n hx hb dL_about_3 rfl (lv_at hl 1 rfl) ?_
  refine lv_iload_n hx hb dL_about_4 rfl (lv_at hl 2 rfl) ?_
  refine ycall (As := [.int _, .int _]) (rest := [_, _]) E hW hM lk_L_50 rcv_X8 (Nat.le_of_ble_eq_true rfl) (Nat.le_of_ble_eq_true rfl) (Nat.le_of_ble_eq_true rfl) (Nat.le_of_ble_eq_true rfl) hl.1 (Nat.le_of_ble_eq_true rfl) dL_about_5 (fun E9 t9 H locs ce q9 hG hW hce hcv hcl => ?_) (fun r9 t9 H locs hG hW => ?_)
  · rcases hEx E9 t9 hG with rfl | rfl
    · refine vx_catch hown [] ⟨0, 10, 13, 44⟩ [⟨0, 10, 17, 13⟩] htab (fun z hz => nomatch hz) (by decide) (by decide) (hts _ kcl_L_44) (zs_cast E.2.2.2.2.2.2.2.2.2 (by simp [excL])) hce hcv hcl ?_
      refine lv_astore (lv' := [_, _, _, _, _]) hx hb dL_about_13 hl (by decide) rfl (fun ls hl => ?_)
      refine lv_iconst (v := (1 : Int32)) hx hb dL_about_15 (by decide) ?_
      exact retP E hW (Or.inr ⟨_, _, (if_pos rfl).symm, hG, rfl⟩) dL_about_16
    · refine vx_catch hown [⟨0, 10, 13, 44⟩] ⟨0, 10, 17, 13⟩ [] htab (fun z hz => by rw [List.mem_singleton.mp hz]; exact Or.inr ⟨by decide, "java/util/NoSuchElementException", hts _ kcl_L_44, zs_nc E.2.2.2.2.2.2.2.2.2 (by simp [ncL])⟩) (by decide) (by decide) (hts _ kcl_L_13) (zs_cast E.2.2.2.2.2.2.2.2.2 (by simp [excL])) hce hcv hcl ?_
      refine lv_astore (lv' := [_, _, _, _, _]) hx hb dL_about_17 hl (by decide) rfl (fun ls hl => ?_)
      refine lv_iconst (v := (2 : Int32)) hx hb dL_about_19 (by decide) ?_
      exact retP E hW (Or.inr ⟨_, _, (if_neg (by decide)).symm, hG, rfl⟩) dL_about_20
  · obtain ⟨cs9, ms9, o9⟩ := t9
    refine lv_i2l hx hb dL_about_8 rfl ?_
    refine rs_72 E hW (vp_in_nI (n := 0) (Nat.le_of_ble_eq_true rfl) (Nat.le_of_ble_eq_true rfl)) dL_about_9 (fun H locs hW => ?_)
    refine lv_goto (tgt := 21) hx hb dL_about_10 (by decide) ?_
    refine lv_iconst (v := (0 : Int32)) hx hb dL_about_21 (by decide) ?_
    exact retP E hW (Or.inl ⟨r9, _, rfl, hG, rfl⟩) dL_about_22
theorem lw_L_144 : LkW RL 144 yL_about cL_about 5 (some .int) [(0, 10, 13, 44), (0, 10, 17, 13)] 4 := ⟨(bigm (inT3 (List.mem_of_getElem? (i := 236) rfl)) rfl), (bigm (inT3 (List.mem_of_getElem? (i := 237) rfl)) rfl), ki_L, (bigm (inT3 (List.mem_of_getElem? (i := 238) rfl)) rfl), by decide +kernel, by decide +kernel, by decide +kernel⟩
theorem lk_L_53 : LkV RL 53 yX8_drain cX8_drain 3 (some .int) 1 := ⟨(bigm (inT4 (List.mem_of_getElem? (i := 11) rfl)) rfl), km_X8_drain_inst, km_X8_drain_sel, ki_X8, km_X8_drain_code, by decide +kernel, by decide +kernel, by decide +kernel⟩
def rm_L_drain : Room := { frames := 12, cells := 1, slots := 6, locals := 194 }
set_option maxHeartbeats 4000000 in
set_option maxRecDepth 100000 in
theorem c_L_drain (l : Launch) {X : XT} {B : Nat} {t : TS} {v1 : Int32} {G : Int32 ⊕ String → TS → Prop} (hM : vx_Met l yX8_drain (.code yX8_drain cX8_drain 3 (some .int) :: BIG) rm_X8_drain (Pre X B t [.ref (X.1 0), .int v1]) (QXG X B G) (XCG X B G) 1 6 (Ab B)) (hEx : ∀ (E : String) (t9 : TS), G (.inr E) t9 → E = "java/util/NoSuchElementException") : Met l yL_drain (.codeWith yL_drain cL_drain 4 (some .int) [(0, 9, 12, 44)] :: BIG) rm_L_drain (Pre X B t [.ref (X.1 0), .int v1, .ref (X.1 72)]) (va_Qi (LPost (fun r => r.toInt64) cd1 G) (Pst X B) (Ab B)) 1 6 (Ab B) := by
  refine wentry (by decide +kernel) rfl (Nat.le_of_ble_eq_true rfl) (fun p e s m below meth c ls E htab hW hl => ?_)
  obtain ⟨hx, hb, hml, hown, hts, -⟩ := id E
  replace hl : lv_has ls 4 [(0, .ref (X.1 0)), (1, .int v1), (2, .ref (X.1 72))] := hl
  refine lv_aload_n hx hb dL_drain_0 rfl (lv_at hl 2 rfl) ?_
  refine lv_iconst (v := (0 : Int32)) hx hb dL_drain_1 (by decide) ?_
  refine lv_aload_n hx hb dL_drain_2 rfl (lv_at hl 0 rfl) ?_
  refine lv_iload_n hx hb dL_drain_3 rfl (lv_at hl 1 rfl) ?_
  refine ycall (As := [.int _]) (rest := [_, _]) E hW hM lk_L_53 rcv_X8 (Nat.le_of_ble_eq_true rfl) (Nat.le_of_ble_eq_true rfl) (Nat.le_of_ble_eq_true rfl) (Nat.le_of_ble_eq_true rfl) hl.1 (Nat.le_of_ble_eq_true rfl) dL_drain_4 (fun E9 t9 H locs ce q9 hG hW hce hcv hcl => ?_) (fun r9 t9 H locs hG hW => ?_)
  · obtain rfl := hEx E9 t9 hG
    refine vx_catch hown [] ⟨0, 9, 12, 44⟩ [] htab (fun z hz => nomatch hz) (by decide) (by decide) (hts _ kcl_L_44) (zs_cast E.2.2.2.2.2.2.2.2.2 (by simp [excL])) hce hcv hcl ?_
    refine lv_astore_n (lv' := [_, _, _, _]) hx hb dL_drain_12 rfl hl (by decide) rfl (fun ls hl => ?_)
    refine lv_iconst (v := (1 : Int32)) hx hb dL_drain_13 (by decide) ?_
    exact retP E hW (Or.inr ⟨_, _, rfl, hG, rfl⟩) dL_drain_14
  · obtain ⟨cs9, ms9, o9⟩ := t9
    refine lv_i2l hx hb dL_drain_7 rfl ?_
    refine rs_72 E hW (vp_in_nI (n := 0) (Nat.le_of_ble_eq_true rfl) (Nat.le_of_ble_eq_true rfl)) dL_drain_8 (fun H locs hW => ?_)
    refine lv_goto (tgt := 15) hx hb dL_drain_9 (by decide) ?_
    refine lv_iconst (v := (0 : Int32)) hx hb dL_drain_15 (by decide) ?_
    exact retP E hW (Or.inl ⟨r9, _, rfl, hG, rfl⟩) dL_drain_16
theorem lw_L_147 : LkW RL 147 yL_drain cL_drain 4 (some .int) [(0, 9, 12, 44)] 3 := ⟨(bigm (inT4 (List.mem_of_getElem? (i := 8) rfl)) rfl), (bigm (inT4 (List.mem_of_getElem? (i := 9) rfl)) rfl), ki_L, (bigm (inT4 (List.mem_of_getElem? (i := 10) rfl)) rfl), by decide +kernel, by decide +kernel, by decide +kernel⟩
theorem lk_L_56 : LkV RL 56 yX8_papers cX8_papers 3 (some .int) 1 := ⟨(bigm (inT4 (List.mem_of_getElem? (i := 26) rfl)) rfl), km_X8_papers_inst, km_X8_papers_sel, ki_X8, km_X8_papers_code, by decide +kernel, by decide +kernel, by decide +kernel⟩
def rm_L_papers : Room := { frames := 12, cells := 1, slots := 6, locals := 194 }
set_option maxHeartbeats 4000000 in
set_option maxRecDepth 100000 in
theorem c_L_papers (l : Launch) {X : XT} {B : Nat} {t : TS} {v1 : Int32} {G : Int32 ⊕ String → TS → Prop} (hM : vx_Met l yX8_papers (.code yX8_papers cX8_papers 3 (some .int) :: BIG) rm_X8_papers (Pre X B t [.ref (X.1 0), .int v1]) (QXG X B G) (XCG X B G) 1 6 (Ab B)) (hEx : ∀ (E : String) (t9 : TS), G (.inr E) t9 → E = "java/util/NoSuchElementException") : Met l yL_papers (.codeWith yL_papers cL_papers 4 (some .int) [(0, 9, 12, 44)] :: BIG) rm_L_papers (Pre X B t [.ref (X.1 0), .int v1, .ref (X.1 72)]) (va_Qi (LPost (fun r => r.toInt64) cd1 G) (Pst X B) (Ab B)) 1 6 (Ab B) := by
  refine wentry (by decide +kernel) rfl (Nat.le_of_ble_eq_true rfl) (fun p e s m below meth c ls E htab hW hl => ?_)
  obtain ⟨hx, hb, hml, hown, hts, -⟩ := id E
  replace hl : lv_has ls 4 [(0, .ref (X.1 0)), (1, .int v1), (2, .ref (X.1 72))] := hl
  refine lv_aload_n hx hb dL_papers_0 rfl (lv_at hl 2 rfl) ?_
  refine lv_iconst (v := (0 : Int32)) hx hb dL_papers_1 (by decide) ?_
  refine lv_aload_n hx hb dL_papers_2 rfl (lv_at hl 0 rfl) ?_
  refine lv_iload_n hx hb dL_papers_3 rfl (lv_at hl 1 rfl) ?_
  refine ycall (As := [.int _]) (rest := [_, _]) E hW hM lk_L_56 rcv_X8 (Nat.le_of_ble_eq_true rfl) (Nat.le_of_ble_eq_true rfl) (Nat.le_of_ble_eq_true rfl) (Nat.le_of_ble_eq_true rfl) hl.1 (Nat.le_of_ble_eq_true rfl) dL_papers_4 (fun E9 t9 H locs ce q9 hG hW hce hcv hcl => ?_) (fun r9 t9 H locs hG hW => ?_)
  · obtain rfl := hEx E9 t9 hG
    refine vx_catch hown [] ⟨0, 9, 12, 44⟩ [] htab (fun z hz => nomatch hz) (by decide) (by decide) (hts _ kcl_L_44) (zs_cast E.2.2.2.2.2.2.2.2.2 (by simp [excL])) hce hcv hcl ?_
    refine lv_astore_n (lv' := [_, _, _, _]) hx hb dL_papers_12 rfl hl (by decide) rfl (fun ls hl => ?_)
    refine lv_iconst (v := (1 : Int32)) hx hb dL_papers_13 (by decide) ?_
    exact retP E hW (Or.inr ⟨_, _, rfl, hG, rfl⟩) dL_papers_14
  · obtain ⟨cs9, ms9, o9⟩ := t9
    refine lv_i2l hx hb dL_papers_7 rfl ?_
    refine rs_72 E hW (vp_in_nI (n := 0) (Nat.le_of_ble_eq_true rfl) (Nat.le_of_ble_eq_true rfl)) dL_papers_8 (fun H locs hW => ?_)
    refine lv_goto (tgt := 15) hx hb dL_papers_9 (by decide) ?_
    refine lv_iconst (v := (0 : Int32)) hx hb dL_papers_15 (by decide) ?_
    exact retP E hW (Or.inl ⟨r9, _, rfl, hG, rfl⟩) dL_papers_16
theorem lw_L_150 : LkW RL 150 yL_papers cL_papers 4 (some .int) [(0, 9, 12, 44)] 3 := ⟨(bigm (inT4 (List.mem_of_getElem? (i := 23) rfl)) rfl), (bigm (inT4 (List.mem_of_getElem? (i := 24) rfl)) rfl), ki_L, (bigm (inT4 (List.mem_of_getElem? (i := 25) rfl)) rfl), by decide +kernel, by decide +kernel, by decide +kernel⟩
theorem lk_L_59 : LkV RL 59 yX8_hinders cX8_hinders 3 (some .int) 2 := ⟨(bigm (inT4 (List.mem_of_getElem? (i := 33) rfl)) rfl), km_X8_hinders_inst, km_X8_hinders_sel, ki_X8, km_X8_hinders_code, by decide +kernel, by decide +kernel, by decide +kernel⟩
def rm_L_hinders : Room := { frames := 13, cells := 2, slots := 12, locals := 217 }
set_option maxHeartbeats 4000000 in
set_option maxRecDepth 100000 in
theorem c_L_hinders (l : Launch) {X : XT} {B : Nat} {t : TS} {v1 : Int32} {v2 : Int32} {G : Int32 ⊕ String → TS → Prop} (hM : vx_Met l yX8_hinders (.code yX8_hinders cX8_hinders 3 (some .int) :: BIG) rm_X8_hinders (Pre X B t [.ref (X.1 0), .int v1, .int v2]) (QXG X B G) (XCG X B G) 2 12 (Ab B)) (hEx : ∀ (E : String) (t9 : TS), G (.inr E) t9 → E = "java/util/NoSuchElementException") : Met l yL_hinders (.codeWith yL_hinders cL_hinders 5 (some .int) [(0, 10, 13, 44)] :: BIG) rm_L_hinders (Pre X B t [.ref (X.1 0), .int v1, .int v2, .ref (X.1 72)]) (va_Qi (LPost (fun r => r.toInt64) cd1 G) (Pst X B) (Ab B)) 2 12 (Ab B) := by
  refine wentry (by decide +kernel) rfl (Nat.le_of_ble_eq_true rfl) (fun p e s m below meth c ls E htab hW hl => ?_)
  obtain ⟨hx, hb, hml, hown, hts, -⟩ := id E
  replace hl : lv_has ls 5 [(0, .ref (X.1 0)), (1, .int v1), (2, .int v2), (3, .ref (X.1 72))] := hl
  refine lv_aload_n hx hb dL_hinders_0 rfl (lv_at hl 3 rfl) ?_
  refine lv_iconst (v := (0 : Int32)) hx hb dL_hinders_1 (by decide) ?_
  refine lv_aload_n hx hb dL_hinders_2 rfl (lv_at hl 0 rfl) ?_
  refine lv_iload_n hx hb dL_hinders_3 rfl (lv_at hl 1 rfl) ?_
  refine lv_iload_n hx hb dL_hinders_4 rfl (lv_at hl 2 rfl) ?_
  refine ycall (As := [.int _, .int _]) (rest := [_, _]) E hW hM lk_L_59 rcv_X8 (Nat.le_of_ble_eq_true rfl) (Nat.le_of_ble_eq_true rfl) (Nat.le_of_ble_eq_true rfl) (Nat.le_of_ble_eq_true rfl) hl.1 (Nat.le_of_ble_eq_true rfl) dL_hinders_5 (fun E9 t9 H locs ce q9 hG hW hce hcv hcl => ?_) (fun r9 t9 H locs hG hW => ?_)
  · obtain rfl := hEx E9 t9 hG
    refine vx_catch hown [] ⟨0, 10, 13, 44⟩ [] htab (fun z hz => nomatch hz) (by decide) (by decide) (hts _ kcl_L_44) (zs_cast E.2.2.2.2.2.2.2.2.2 (by simp [excL])) hce hcv hcl ?_
    refine lv_astore (lv' := [_, _, _, _, _]) hx hb dL_hinders_13 hl (by decide) rfl (fun ls hl => ?_)
    refine lv_iconst (v := (1 : Int32)) hx hb dL_hinders_15 (by decide) ?_
    exact retP E hW (Or.inr ⟨_, _, rfl, hG, rfl⟩) dL_hinders_16
  · obtain ⟨cs9, ms9, o9⟩ := t9
    refine lv_i2l hx hb dL_hinders_8 rfl ?_
    refine rs_72 E hW (vp_in_nI (n := 0) (Nat.le_of_ble_eq_true rfl) (Nat.le_of_ble_eq_true rfl)) dL_hinders_9 (fun H locs hW => ?_)
    refine lv_goto (tgt := 17) hx hb dL_hinders_10 (by decide) ?_
    refine lv_iconst (v := (0 : Int32)) hx hb dL_hinders_17 (by decide) ?_
    exact retP E hW (Or.inl ⟨r9, _, rfl, hG, rfl⟩) dL_hinders_18
theorem lw_L_153 : LkW RL 153 yL_hinders cL_hinders 5 (some .int) [(0, 10, 13, 44)] 4 := ⟨(bigm (inT4 (List.mem_of_getElem? (i := 30) rfl)) rfl), (bigm (inT4 (List.mem_of_getElem? (i := 31) rfl)) rfl), ki_L, (bigm (inT4 (List.mem_of_getElem? (i := 32) rfl)) rfl), by decide +kernel, by decide +kernel, by decide +kernel⟩
theorem lk_L_62 : LkV RL 62 yX8_take cX8_take 6 (some .int) 2 := ⟨(bigm (inT4 (List.mem_of_getElem? (i := 52) rfl)) rfl), km_X8_take_inst, km_X8_take_sel, ki_X8, km_X8_take_code, by decide +kernel, by decide +kernel, by decide +kernel⟩
def rm_L_take : Room := { frames := 13, cells := 3, slots := 18, locals := 220 }
set_option maxHeartbeats 4000000 in
set_option maxRecDepth 100000 in
theorem c_L_take (l : Launch) {X : XT} {B : Nat} {t : TS} {v1 : Int32} {v2 : Int32} {G : Int32 ⊕ String → TS → Prop} (hM : vx_Met l yX8_take (.code yX8_take cX8_take 6 (some .int) :: BIG) rm_X8_take (Pre X B t [.ref (X.1 0), .int v1, .int v2]) (QXG X B G) (XCG X B G) 3 18 (Ab B)) (hEx : ∀ (E : String) (t9 : TS), G (.inr E) t9 → E = "java/util/NoSuchElementException") : Met l yL_take (.codeWith yL_take cL_take 5 (some .int) [(0, 10, 13, 44)] :: BIG) rm_L_take (Pre X B t [.ref (X.1 0), .int v1, .int v2, .ref (X.1 72)]) (va_Qi (LPost (fun r => r.toInt64) cd1 G) (Pst X B) (Ab B)) 3 18 (Ab B) := by
  refine wentry (by decide +kernel) rfl (Nat.le_of_ble_eq_true rfl) (fun p e s m below meth c ls E htab hW hl => ?_)
  obtain ⟨hx, hb, hml, hown, hts, -⟩ := id E
  replace hl : lv_has ls 5 [(0, .ref (X.1 0)), (1, .int v1), (2, .int v2), (3, .ref (X.1 72))] := hl
  refine lv_aload_n hx hb dL_take_0 rfl (lv_at hl 3 rfl) ?_
  refine lv_iconst (v := (0 : Int32)) hx hb dL_take_1 (by decide) ?_
  refine lv_aload_n hx hb dL_take_2 rfl (lv_at hl 0 rfl) ?_
  refine lv_iload_n hx hb dL_take_3 rfl (lv_at hl 1 rfl) ?_
  refine lv_iload_n hx hb dL_take_4 rfl (lv_at hl 2 rfl) ?_
  refine ycall (As := [.int _, .int _]) (rest := [_, _]) E hW hM lk_L_62 rcv_X8 (Nat.le_of_ble_eq_true rfl) (Nat.le_of_ble_eq_true rfl) (Nat.le_of_ble_eq_true rfl) (Nat.le_of_ble_eq_true rfl) hl.1 (Nat.le_of_ble_eq_true rfl) dL_take_5 (fun E9 t9 H locs ce q9 hG hW hce hcv hcl => ?_) (fun r9 t9 H locs hG hW => ?_)
  · obtain rfl := hEx E9 t9 hG
    refine vx_catch hown [] ⟨0, 10, 13, 44⟩ [] htab (fun z hz => nomatch hz) (by decide) (by decide) (hts _ kcl_L_44) (zs_cast E.2.2.2.2.2.2.2.2.2 (by simp [excL])) hce hcv hcl ?_
    refine lv_astore (lv' := [_, _, _, _, _]) hx hb dL_take_13 hl (by decide) rfl (fun ls hl => ?_)
    refine lv_iconst (v := (1 : Int32)) hx hb dL_take_15 (by decide) ?_
    exact retP E hW (Or.inr ⟨_, _, rfl, hG, rfl⟩) dL_take_16
  · obtain ⟨cs9, ms9, o9⟩ := t9
    refine lv_i2l hx hb dL_take_8 rfl ?_
    refine rs_72 E hW (vp_in_nI (n := 0) (Nat.le_of_ble_eq_true rfl) (Nat.le_of_ble_eq_true rfl)) dL_take_9 (fun H locs hW => ?_)
    refine lv_goto (tgt := 17) hx hb dL_take_10 (by decide) ?_
    refine lv_iconst (v := (0 : Int32)) hx hb dL_take_17 (by decide) ?_
    exact retP E hW (Or.inl ⟨r9, _, rfl, hG, rfl⟩) dL_take_18
theorem lw_L_156 : LkW RL 156 yL_take cL_take 5 (some .int) [(0, 10, 13, 44)] 4 := ⟨(bigm (inT4 (List.mem_of_getElem? (i := 49) rfl)) rfl), (bigm (inT4 (List.mem_of_getElem? (i := 50) rfl)) rfl), ki_L, (bigm (inT4 (List.mem_of_getElem? (i := 51) rfl)) rfl), by decide +kernel, by decide +kernel, by decide +kernel⟩
theorem lk_L_65 : LkV RL 65 yX8_press cX8_press 6 (some .int) 1 := ⟨(bigm (inT4 (List.mem_of_getElem? (i := 93) rfl)) rfl), km_X8_press_inst, km_X8_press_sel, ki_X8, km_X8_press_code, by decide +kernel, by decide +kernel, by decide +kernel⟩
def rm_L_press : Room := { frames := 12, cells := 1, slots := 6, locals := 197 }
set_option maxHeartbeats 4000000 in
set_option maxRecDepth 100000 in
theorem c_L_press (l : Launch) {X : XT} {B : Nat} {t : TS} {v1 : Int32} {G : Int32 ⊕ String → TS → Prop} (hM : vx_Met l yX8_press (.code yX8_press cX8_press 6 (some .int) :: BIG) rm_X8_press (Pre X B t [.ref (X.1 0), .int v1]) (QXG X B G) (XCG X B G) 1 6 (Ab B)) (hEx : ∀ (E : String) (t9 : TS), G (.inr E) t9 → E = "java/util/NoSuchElementException") : Met l yL_press (.codeWith yL_press cL_press 4 (some .int) [(0, 9, 12, 44)] :: BIG) rm_L_press (Pre X B t [.ref (X.1 0), .int v1, .ref (X.1 72)]) (va_Qi (LPost (fun r => r.toInt64) cd1 G) (Pst X B) (Ab B)) 1 6 (Ab B) := by
  refine wentry (by decide +kernel) rfl (Nat.le_of_ble_eq_true rfl) (fun p e s m below meth c ls E htab hW hl => ?_)
  obtain ⟨hx, hb, hml, hown, hts, -⟩ := id E
  replace hl : lv_has ls 4 [(0, .ref (X.1 0)), (1, .int v1), (2, .ref (X.1 72))] := hl
  refine lv_aload_n hx hb dL_press_0 rfl (lv_at hl 2 rfl) ?_
  refine lv_iconst (v := (0 : Int32)) hx hb dL_press_1 (by decide) ?_
  refine lv_aload_n hx hb dL_press_2 rfl (lv_at hl 0 rfl) ?_
  refine lv_iload_n hx hb dL_press_3 rfl (lv_at hl 1 rfl) ?_
  refine ycall (As := [.int _]) (rest := [_, _]) E hW hM lk_L_65 rcv_X8 (Nat.le_of_ble_eq_true rfl) (Nat.le_of_ble_eq_true rfl) (Nat.le_of_ble_eq_true rfl) (Nat.le_of_ble_eq_true rfl) hl.1 (Nat.le_of_ble_eq_true rfl) dL_press_4 (fun E9 t9 H locs ce q9 hG hW hce hcv hcl => ?_) (fun r9 t9 H locs hG hW => ?_)
  · obtain rfl := hEx E9 t9 hG
    refine vx_catch hown [] ⟨0, 9, 12, 44⟩ [] htab (fun z hz => nomatch hz) (by decide) (by decide) (hts _ kcl_L_44) (zs_cast E.2.2.2.2.2.2.2.2.2 (by simp [excL])) hce hcv hcl ?_
    refine lv_astore_n (lv' := [_, _, _, _]) hx hb dL_press_12 rfl hl (by decide) rfl (fun ls hl => ?_)
    refine lv_iconst (v := (1 : Int32)) hx hb dL_press_13 (by decide) ?_
    exact retP E hW (Or.inr ⟨_, _, rfl, hG, rfl⟩) dL_press_14
  · obtain ⟨cs9, ms9, o9⟩ := t9
    refine lv_i2l hx hb dL_press_7 rfl ?_
    refine rs_72 E hW (vp_in_nI (n := 0) (Nat.le_of_ble_eq_true rfl) (Nat.le_of_ble_eq_true rfl)) dL_press_8 (fun H locs hW => ?_)
    refine lv_goto (tgt := 15) hx hb dL_press_9 (by decide) ?_
    refine lv_iconst (v := (0 : Int32)) hx hb dL_press_15 (by decide) ?_
    exact retP E hW (Or.inl ⟨r9, _, rfl, hG, rfl⟩) dL_press_16
theorem lw_L_159 : LkW RL 159 yL_press cL_press 4 (some .int) [(0, 9, 12, 44)] 3 := ⟨(bigm (inT4 (List.mem_of_getElem? (i := 90) rfl)) rfl), (bigm (inT4 (List.mem_of_getElem? (i := 91) rfl)) rfl), ki_L, (bigm (inT4 (List.mem_of_getElem? (i := 92) rfl)) rfl), by decide +kernel, by decide +kernel, by decide +kernel⟩
theorem lk_L_68 : LkV RL 68 yX8_day cX8_day 2 (some .int) 1 := ⟨(bigm (inT4 (List.mem_of_getElem? (i := 108) rfl)) rfl), km_X8_day_inst, km_X8_day_sel, ki_X8, km_X8_day_code, by decide +kernel, by decide +kernel, by decide +kernel⟩
def rm_L_day : Room := { frames := 11, cells := 1, slots := 6, locals := 171 }
set_option maxHeartbeats 4000000 in
set_option maxRecDepth 100000 in
theorem c_L_day (l : Launch) {X : XT} {B : Nat} {t : TS} {v1 : Int32} {G : Int32 ⊕ String → TS → Prop} (hM : vx_Met l yX8_day (.code yX8_day cX8_day 2 (some .int) :: BIG) rm_X8_day (Pre X B t [.ref (X.1 0), .int v1]) (QXG X B G) (XCG X B G) 1 6 (Ab B)) (hEx : ∀ (E : String) (t9 : TS), G (.inr E) t9 → E = "java/lang/IllegalArgumentException" ∨ E = "java/lang/IllegalStateException") : Met l yL_day (.codeWith yL_day cL_day 4 (some .int) [(0, 9, 12, 13), (0, 9, 15, 15)] :: BIG) rm_L_day (Pre X B t [.ref (X.1 0), .int v1, .ref (X.1 72)]) (va_Qi (LPost (fun r => r.toInt64) (cd2 "java/lang/IllegalArgumentException") G) (Pst X B) (Ab B)) 1 6 (Ab B) := by
  refine wentry (by decide +kernel) rfl (Nat.le_of_ble_eq_true rfl) (fun p e s m below meth c ls E htab hW hl => ?_)
  obtain ⟨hx, hb, hml, hown, hts, -⟩ := id E
  replace hl : lv_has ls 4 [(0, .ref (X.1 0)), (1, .int v1), (2, .ref (X.1 72))] := hl
  refine lv_aload_n hx hb dL_day_0 rfl (lv_at hl 2 rfl) ?_
  refine lv_iconst (v := (0 : Int32)) hx hb dL_day_1 (by decide) ?_
  refine lv_aload_n hx hb dL_day_2 rfl (lv_at hl 0 rfl) ?_
  refine lv_iload_n hx hb dL_day_3 rfl (lv_at hl 1 rfl) ?_
  refine ycall (As := [.int _]) (rest := [_, _]) E hW hM lk_L_68 rcv_X8 (Nat.le_of_ble_eq_true rfl) (Nat.le_of_ble_eq_true rfl) (Nat.le_of_ble_eq_true rfl) (Nat.le_of_ble_eq_true rfl) hl.1 (Nat.le_of_ble_eq_true rfl) dL_day_4 (fun E9 t9 H locs ce q9 hG hW hce hcv hcl => ?_) (fun r9 t9 H locs hG hW => ?_)
  · rcases hEx E9 t9 hG with rfl | rfl
    · refine vx_catch hown [] ⟨0, 9, 12, 13⟩ [⟨0, 9, 15, 15⟩] htab (fun z hz => nomatch hz) (by decide) (by decide) (hts _ kcl_L_13) (zs_cast E.2.2.2.2.2.2.2.2.2 (by simp [excL])) hce hcv hcl ?_
      refine lv_astore_n (lv' := [_, _, _, _]) hx hb dL_day_12 rfl hl (by decide) rfl (fun ls hl => ?_)
      refine lv_iconst (v := (1 : Int32)) hx hb dL_day_13 (by decide) ?_
      exact retP E hW (Or.inr ⟨_, _, (if_pos rfl).symm, hG, rfl⟩) dL_day_14
    · refine vx_catch hown [⟨0, 9, 12, 13⟩] ⟨0, 9, 15, 15⟩ [] htab (fun z hz => by rw [List.mem_singleton.mp hz]; exact Or.inr ⟨by decide, "java/lang/IllegalArgumentException", hts _ kcl_L_13, zs_nc E.2.2.2.2.2.2.2.2.2 (by simp [ncL])⟩) (by decide) (by decide) (hts _ kcl_L_15) (zs_cast E.2.2.2.2.2.2.2.2.2 (by simp [excL])) hce hcv hcl ?_
      refine lv_astore_n (lv' := [_, _, _, _]) hx hb dL_day_15 rfl hl (by decide) rfl (fun ls hl => ?_)
      refine lv_iconst (v := (2 : Int32)) hx hb dL_day_16 (by decide) ?_
      exact retP E hW (Or.inr ⟨_, _, (if_neg (by decide)).symm, hG, rfl⟩) dL_day_17
  · obtain ⟨cs9, ms9, o9⟩ := t9
    refine lv_i2l hx hb dL_day_7 rfl ?_
    refine rs_72 E hW (vp_in_nI (n := 0) (Nat.le_of_ble_eq_true rfl) (Nat.le_of_ble_eq_true rfl)) dL_day_8 (fun H locs hW => ?_)
    refine lv_goto (tgt := 18) hx hb dL_day_9 (by decide) ?_
    refine lv_iconst (v := (0 : Int32)) hx hb dL_day_18 (by decide) ?_
    exact retP E hW (Or.inl ⟨r9, _, rfl, hG, rfl⟩) dL_day_19
theorem lw_L_162 : LkW RL 162 yL_day cL_day 4 (some .int) [(0, 9, 12, 13), (0, 9, 15, 15)] 3 := ⟨(bigm (inT4 (List.mem_of_getElem? (i := 105) rfl)) rfl), (bigm (inT4 (List.mem_of_getElem? (i := 106) rfl)) rfl), ki_L, (bigm (inT4 (List.mem_of_getElem? (i := 107) rfl)) rfl), by decide +kernel, by decide +kernel, by decide +kernel⟩
theorem lk_L_71 : LkV RL 71 yX8_late cX8_late 5 (some .int) 2 := ⟨(bigm (inT4 (List.mem_of_getElem? (i := 118) rfl)) rfl), km_X8_late_inst, km_X8_late_sel, ki_X8, km_X8_late_code, by decide +kernel, by decide +kernel, by decide +kernel⟩
def rm_L_late : Room := { frames := 11, cells := 1, slots := 6, locals := 174 }
set_option maxHeartbeats 4000000 in
set_option maxRecDepth 100000 in
theorem c_L_late (l : Launch) {X : XT} {B : Nat} {t : TS} {v1 : Int32} {v2 : Int32} {G : Int32 ⊕ String → TS → Prop} (hM : vx_Met l yX8_late (.code yX8_late cX8_late 5 (some .int) :: BIG) rm_X8_late (Pre X B t [.ref (X.1 0), .int v1, .int v2]) (QXG X B G) (XCG X B G) 1 6 (Ab B)) (hEx : ∀ (E : String) (t9 : TS), G (.inr E) t9 → E = "java/lang/IllegalArgumentException") : Met l yL_late (.codeWith yL_late cL_late 5 (some .int) [(0, 10, 13, 13)] :: BIG) rm_L_late (Pre X B t [.ref (X.1 0), .int v1, .int v2, .ref (X.1 72)]) (va_Qi (LPost (fun r => r.toInt64) cd1 G) (Pst X B) (Ab B)) 1 6 (Ab B) := by
  refine wentry (by decide +kernel) rfl (Nat.le_of_ble_eq_true rfl) (fun p e s m below meth c ls E htab hW hl => ?_)
  obtain ⟨hx, hb, hml, hown, hts, -⟩ := id E
  replace hl : lv_has ls 5 [(0, .ref (X.1 0)), (1, .int v1), (2, .int v2), (3, .ref (X.1 72))] := hl
  refine lv_aload_n hx hb dL_late_0 rfl (lv_at hl 3 rfl) ?_
  refine lv_iconst (v := (0 : Int32)) hx hb dL_late_1 (by decide) ?_
  refine lv_aload_n hx hb dL_late_2 rfl (lv_at hl 0 rfl) ?_
  refine lv_iload_n hx hb dL_late_3 rfl (lv_at hl 1 rfl) ?_
  refine lv_iload_n hx hb dL_late_4 rfl (lv_at hl 2 rfl) ?_
  refine ycall (As := [.int _, .int _]) (rest := [_, _]) E hW hM lk_L_71 rcv_X8 (Nat.le_of_ble_eq_true rfl) (Nat.le_of_ble_eq_true rfl) (Nat.le_of_ble_eq_true rfl) (Nat.le_of_ble_eq_true rfl) hl.1 (Nat.le_of_ble_eq_true rfl) dL_late_5 (fun E9 t9 H locs ce q9 hG hW hce hcv hcl => ?_) (fun r9 t9 H locs hG hW => ?_)
  · obtain rfl := hEx E9 t9 hG
    refine vx_catch hown [] ⟨0, 10, 13, 13⟩ [] htab (fun z hz => nomatch hz) (by decide) (by decide) (hts _ kcl_L_13) (zs_cast E.2.2.2.2.2.2.2.2.2 (by simp [excL])) hce hcv hcl ?_
    refine lv_astore (lv' := [_, _, _, _, _]) hx hb dL_late_13 hl (by decide) rfl (fun ls hl => ?_)
    refine lv_iconst (v := (1 : Int32)) hx hb dL_late_15 (by decide) ?_
    exact retP E hW (Or.inr ⟨_, _, rfl, hG, rfl⟩) dL_late_16
  · obtain ⟨cs9, ms9, o9⟩ := t9
    refine lv_i2l hx hb dL_late_8 rfl ?_
    refine rs_72 E hW (vp_in_nI (n := 0) (Nat.le_of_ble_eq_true rfl) (Nat.le_of_ble_eq_true rfl)) dL_late_9 (fun H locs hW => ?_)
    refine lv_goto (tgt := 17) hx hb dL_late_10 (by decide) ?_
    refine lv_iconst (v := (0 : Int32)) hx hb dL_late_17 (by decide) ?_
    exact retP E hW (Or.inl ⟨r9, _, rfl, hG, rfl⟩) dL_late_18
theorem lw_L_165 : LkW RL 165 yL_late cL_late 5 (some .int) [(0, 10, 13, 13)] 4 := ⟨(bigm (inT4 (List.mem_of_getElem? (i := 115) rfl)) rfl), (bigm (inT4 (List.mem_of_getElem? (i := 116) rfl)) rfl), ki_L, (bigm (inT4 (List.mem_of_getElem? (i := 117) rfl)) rfl), by decide +kernel, by decide +kernel, by decide +kernel⟩
theorem lk_L_74 : LkV RL 74 yX8_item cX8_item 4 (some .int) 2 := ⟨(bigm (inT4 (List.mem_of_getElem? (i := 129) rfl)) rfl), km_X8_item_inst, km_X8_item_sel, ki_X8, km_X8_item_code, by decide +kernel, by decide +kernel, by decide +kernel⟩
def rm_L_item : Room := { frames := 12, cells := 2, slots := 12, locals := 195 }
set_option maxHeartbeats 4000000 in
set_option maxRecDepth 100000 in
theorem c_L_item (l : Launch) {X : XT} {B : Nat} {t : TS} {v1 : Int32} {v2 : Int32} {G : Int32 ⊕ String → TS → Prop} (hM : vx_Met l yX8_item (.code yX8_item cX8_item 4 (some .int) :: BIG) rm_X8_item (Pre X B t [.ref (X.1 0), .int v1, .int v2]) (QXG X B G) (XCG X B G) 2 12 (Ab B)) (hEx : ∀ (E : String) (t9 : TS), G (.inr E) t9 → E = "java/util/NoSuchElementException" ∨ E = "java/lang/IllegalArgumentException") : Met l yL_item (.codeWith yL_item cL_item 5 (some .int) [(0, 10, 13, 44), (0, 10, 17, 13)] :: BIG) rm_L_item (Pre X B t [.ref (X.1 0), .int v1, .int v2, .ref (X.1 72)]) (va_Qi (LPost (fun r => r.toInt64) (cd2 "java/util/NoSuchElementException") G) (Pst X B) (Ab B)) 2 12 (Ab B) := by
  refine wentry (by decide +kernel) rfl (Nat.le_of_ble_eq_true rfl) (fun p e s m below meth c ls E htab hW hl => ?_)
  obtain ⟨hx, hb, hml, hown, hts, -⟩ := id E
  replace hl : lv_has ls 5 [(0, .ref (X.1 0)), (1, .int v1), (2, .int v2), (3, .ref (X.1 72))] := hl
  refine lv_aload_n hx hb dL_item_0 rfl (lv_at hl 3 rfl) ?_
  refine lv_iconst (v := (0 : Int32)) hx hb dL_item_1 (by decide) ?_
  refine lv_aload_n hx hb dL_item_2 rfl (lv_at hl 0 rfl) ?_
  refine lv_iload_n hx hb dL_item_3 rfl (lv_at hl 1 rfl) ?_
  refine lv_iload_n hx hb dL_item_4 rfl (lv_at hl 2 rfl) ?_
  refine ycall (As := [.int _, .int _]) (rest := [_, _]) E hW hM lk_L_74 rcv_X8 (Nat.le_of_ble_eq_true rfl) (Nat.le_of_ble_eq_true rfl) (Nat.le_of_ble_eq_true rfl) (Nat.le_of_ble_eq_true rfl) hl.1 (Nat.le_of_ble_eq_true rfl) dL_item_5 (fun E9 t9 H locs ce q9 hG hW hce hcv hcl => ?_) (fun r9 t9 H locs hG hW => ?_)
  · rcases hEx E9 t9 hG with rfl | rfl
    · refine vx_catch hown [] ⟨0, 10, 13, 44⟩ [⟨0, 10, 17, 13⟩] htab (fun z hz => nomatch hz) (by decide) (by decide) (hts _ kcl_L_44) (zs_cast E.2.2.2.2.2.2.2.2.2 (by simp [excL])) hce hcv hcl ?_
      refine lv_astore (lv' := [_, _, _, _, _]) hx hb dL_item_13 hl (by decide) rfl (fun ls hl => ?_)
      refine lv_iconst (v := (1 : Int32)) hx hb dL_item_15 (by decide) ?_
      exact retP E hW (Or.inr ⟨_, _, (if_pos rfl).symm, hG, rfl⟩) dL_item_16
    · refine vx_catch hown [⟨0, 10, 13, 44⟩] ⟨0, 10, 17, 13⟩ [] htab (fun z hz => by rw [List.mem_singleton.mp hz]; exact Or.inr ⟨by decide, "java/util/NoSuchElementException", hts _ kcl_L_44, zs_nc E.2.2.2.2.2.2.2.2.2 (by simp [ncL])⟩) (by decide) (by decide) (hts _ kcl_L_13) (zs_cast E.2.2.2.2.2.2.2.2.2 (by simp [excL])) hce hcv hcl ?_
      refine lv_astore (lv' := [_, _, _, _, _]) hx hb dL_item_17 hl (by decide) rfl (fun ls hl => ?_)
      refine lv_iconst (v := (2 : Int32)) hx hb dL_item_19 (by decide) ?_
      exact retP E hW (Or.inr ⟨_, _, (if_neg (by decide)).symm, hG, rfl⟩) dL_item_20
  · obtain ⟨cs9, ms9, o9⟩ := t9
    refine lv_i2l hx hb dL_item_8 rfl ?_
    refine rs_72 E hW (vp_in_nI (n := 0) (Nat.le_of_ble_eq_true rfl) (Nat.le_of_ble_eq_true rfl)) dL_item_9 (fun H locs hW => ?_)
    refine lv_goto (tgt := 21) hx hb dL_item_10 (by decide) ?_
    refine lv_iconst (v := (0 : Int32)) hx hb dL_item_21 (by decide) ?_
    exact retP E hW (Or.inl ⟨r9, _, rfl, hG, rfl⟩) dL_item_22
theorem lw_L_168 : LkW RL 168 yL_item cL_item 5 (some .int) [(0, 10, 13, 44), (0, 10, 17, 13)] 4 := ⟨(bigm (inT4 (List.mem_of_getElem? (i := 126) rfl)) rfl), (bigm (inT4 (List.mem_of_getElem? (i := 127) rfl)) rfl), ki_L, (bigm (inT4 (List.mem_of_getElem? (i := 128) rfl)) rfl), by decide +kernel, by decide +kernel, by decide +kernel⟩
theorem lk_L_77 : LkV RL 77 yX8_find cX8_find 7 (some .int) 4 := ⟨(bigm (inT4 (List.mem_of_getElem? (i := 150) rfl)) rfl), km_X8_find_inst, km_X8_find_sel, ki_X8, km_X8_find_code, by decide +kernel, by decide +kernel, by decide +kernel⟩
def rm_L_find : Room := { frames := 11, cells := 1, slots := 6, locals := 176 }
set_option maxHeartbeats 4000000 in
set_option maxRecDepth 100000 in
theorem c_L_find (l : Launch) {X : XT} {B : Nat} {t : TS} {v1 : Int32} {v2 : Int32} {v3 : Int32} {v4 : Int32} {G : Int32 ⊕ String → TS → Prop} (hM : vx_Met l yX8_find (.code yX8_find cX8_find 7 (some .int) :: BIG) rm_X8_find (Pre X B t [.ref (X.1 0), .int v1, .int v2, .int v3, .int v4]) (QXG X B G) (XCG X B G) 1 6 (Ab B)) (hEx : ∀ (E : String) (t9 : TS), G (.inr E) t9 → E = "java/lang/IllegalArgumentException") : Met l yL_find (.codeWith yL_find cL_find 7 (some .int) [(0, 14, 17, 13)] :: BIG) rm_L_find (Pre X B t [.ref (X.1 0), .int v1, .int v2, .int v3, .int v4, .ref (X.1 72)]) (va_Qi (LPost (fun r => r.toInt64) cd1 G) (Pst X B) (Ab B)) 1 6 (Ab B) := by
  refine wentry (by decide +kernel) rfl (Nat.le_of_ble_eq_true rfl) (fun p e s m below meth c ls E htab hW hl => ?_)
  obtain ⟨hx, hb, hml, hown, hts, -⟩ := id E
  replace hl : lv_has ls 7 [(0, .ref (X.1 0)), (1, .int v1), (2, .int v2), (3, .int v3), (4, .int v4), (5, .ref (X.1 72))] := hl
  refine lv_aload hx hb dL_find_0 (lv_at hl 5 rfl) ?_
  refine lv_iconst (v := (0 : Int32)) hx hb dL_find_2 (by decide) ?_
  refine lv_aload_n hx hb dL_find_3 rfl (lv_at hl 0 rfl) ?_
  refine lv_iload_n hx hb dL_find_4 rfl (lv_at hl 1 rfl) ?_
  refine lv_iload_n hx hb dL_find_5 rfl (lv_at hl 2 rfl) ?_
  refine lv_iload_n hx hb dL_find_6 rfl (lv_at hl 3 rfl) ?_
  refine lv_iload hx hb dL_find_7 (lv_at hl 4 rfl) ?_
  refine ycall (As := [.int _, .int _, .int _, .int _]) (rest := [_, _]) E hW hM lk_L_77 rcv_X8 (Nat.le_of_ble_eq_true rfl) (Nat.le_of_ble_eq_true rfl) (Nat.le_of_ble_eq_true rfl) (Nat.le_of_ble_eq_true rfl) hl.1 (Nat.le_of_ble_eq_true rfl) dL_find_9 (fun E9 t9 H locs ce q9 hG hW hce hcv hcl => ?_) (fun r9 t9 H locs hG hW => ?_)
  · obtain rfl := hEx E9 t9 hG
    refine vx_catch hown [] ⟨0, 14, 17, 13⟩ [] htab (fun z hz => nomatch hz) (by decide) (by decide) (hts _ kcl_L_13) (zs_cast E.2.2.2.2.2.2.2.2.2 (by simp [excL])) hce hcv hcl ?_
    refine lv_astore (lv' := [_, _, _, _, _, _, _]) hx hb dL_find_17 hl (by decide) rfl (fun ls hl => ?_)
    refine lv_iconst (v := (1 : Int32)) hx hb dL_find_19 (by decide) ?_
    exact retP E hW (Or.inr ⟨_, _, rfl, hG, rfl⟩) dL_find_20
  · obtain ⟨cs9, ms9, o9⟩ := t9
    refine lv_i2l hx hb dL_find_12 rfl ?_
    refine rs_72 E hW (vp_in_nI (n := 0) (Nat.le_of_ble_eq_true rfl) (Nat.le_of_ble_eq_true rfl)) dL_find_13 (fun H locs hW => ?_)
    refine lv_goto (tgt := 21) hx hb dL_find_14 (by decide) ?_
    refine lv_iconst (v := (0 : Int32)) hx hb dL_find_21 (by decide) ?_
    exact retP E hW (Or.inl ⟨r9, _, rfl, hG, rfl⟩) dL_find_22
theorem lw_L_171 : LkW RL 171 yL_find cL_find 7 (some .int) [(0, 14, 17, 13)] 6 := ⟨(bigm (inT4 (List.mem_of_getElem? (i := 147) rfl)) rfl), (bigm (inT4 (List.mem_of_getElem? (i := 148) rfl)) rfl), ki_L, (bigm (inT4 (List.mem_of_getElem? (i := 149) rfl)) rfl), by decide +kernel, by decide +kernel, by decide +kernel⟩
theorem lk_L_80 : LkV RL 80 yX8_sell cX8_sell 6 (some .int) 2 := ⟨(bigm (inT4 (List.mem_of_getElem? (i := 182) rfl)) rfl), km_X8_sell_inst, km_X8_sell_sel, ki_X8, km_X8_sell_code, by decide +kernel, by decide +kernel, by decide +kernel⟩
def rm_L_sell : Room := { frames := 12, cells := 2, slots := 12, locals := 197 }
set_option maxHeartbeats 4000000 in
set_option maxRecDepth 100000 in
theorem c_L_sell (l : Launch) {X : XT} {B : Nat} {t : TS} {v1 : Int32} {v2 : Int32} {G : Int32 ⊕ String → TS → Prop} (hM : vx_Met l yX8_sell (.code yX8_sell cX8_sell 6 (some .int) :: BIG) rm_X8_sell (Pre X B t [.ref (X.1 0), .int v1, .int v2]) (QXG X B G) (XCG X B G) 2 12 (Ab B)) (hEx : ∀ (E : String) (t9 : TS), G (.inr E) t9 → E = "java/util/NoSuchElementException" ∨ E = "java/lang/IllegalArgumentException") : Met l yL_sell (.codeWith yL_sell cL_sell 5 (some .int) [(0, 10, 13, 44), (0, 10, 17, 13)] :: BIG) rm_L_sell (Pre X B t [.ref (X.1 0), .int v1, .int v2, .ref (X.1 72)]) (va_Qi (LPost (fun r => r.toInt64) (cd2 "java/util/NoSuchElementException") G) (Pst X B) (Ab B)) 2 12 (Ab B) := by
  refine wentry (by decide +kernel) rfl (Nat.le_of_ble_eq_true rfl) (fun p e s m below meth c ls E htab hW hl => ?_)
  obtain ⟨hx, hb, hml, hown, hts, -⟩ := id E
  replace hl : lv_has ls 5 [(0, .ref (X.1 0)), (1, .int v1), (2, .int v2), (3, .ref (X.1 72))] := hl
  refine lv_aload_n hx hb dL_sell_0 rfl (lv_at hl 3 rfl) ?_
  refine lv_iconst (v := (0 : Int32)) hx hb dL_sell_1 (by decide) ?_
  refine lv_aload_n hx hb dL_sell_2 rfl (lv_at hl 0 rfl) ?_
  refine lv_iload_n hx hb dL_sell_3 rfl (lv_at hl 1 rfl) ?_
  refine lv_iload_n hx hb dL_sell_4 rfl (lv_at hl 2 rfl) ?_
  refine ycall (As := [.int _, .int _]) (rest := [_, _]) E hW hM lk_L_80 rcv_X8 (Nat.le_of_ble_eq_true rfl) (Nat.le_of_ble_eq_true rfl) (Nat.le_of_ble_eq_true rfl) (Nat.le_of_ble_eq_true rfl) hl.1 (Nat.le_of_ble_eq_true rfl) dL_sell_5 (fun E9 t9 H locs ce q9 hG hW hce hcv hcl => ?_) (fun r9 t9 H locs hG hW => ?_)
  · rcases hEx E9 t9 hG with rfl | rfl
    · refine vx_catch hown [] ⟨0, 10, 13, 44⟩ [⟨0, 10, 17, 13⟩] htab (fun z hz => nomatch hz) (by decide) (by decide) (hts _ kcl_L_44) (zs_cast E.2.2.2.2.2.2.2.2.2 (by simp [excL])) hce hcv hcl ?_
      refine lv_astore (lv' := [_, _, _, _, _]) hx hb dL_sell_13 hl (by decide) rfl (fun ls hl => ?_)
      refine lv_iconst (v := (1 : Int32)) hx hb dL_sell_15 (by decide) ?_
      exact retP E hW (Or.inr ⟨_, _, (if_pos rfl).symm, hG, rfl⟩) dL_sell_16
    · refine vx_catch hown [⟨0, 10, 13, 44⟩] ⟨0, 10, 17, 13⟩ [] htab (fun z hz => by rw [List.mem_singleton.mp hz]; exact Or.inr ⟨by decide, "java/util/NoSuchElementException", hts _ kcl_L_44, zs_nc E.2.2.2.2.2.2.2.2.2 (by simp [ncL])⟩) (by decide) (by decide) (hts _ kcl_L_13) (zs_cast E.2.2.2.2.2.2.2.2.2 (by simp [excL])) hce hcv hcl ?_
      refine lv_astore (lv' := [_, _, _, _, _]) hx hb dL_sell_17 hl (by decide) rfl (fun ls hl => ?_)
      refine lv_iconst (v := (2 : Int32)) hx hb dL_sell_19 (by decide) ?_
      exact retP E hW (Or.inr ⟨_, _, (if_neg (by decide)).symm, hG, rfl⟩) dL_sell_20
  · obtain ⟨cs9, ms9, o9⟩ := t9
    refine lv_i2l hx hb dL_sell_8 rfl ?_
    refine rs_72 E hW (vp_in_nI (n := 0) (Nat.le_of_ble_eq_true rfl) (Nat.le_of_ble_eq_true rfl)) dL_sell_9 (fun H locs hW => ?_)
    refine lv_goto (tgt := 21) hx hb dL_sell_10 (by decide) ?_
    refine lv_iconst (v := (0 : Int32)) hx hb dL_sell_21 (by decide) ?_
    exact retP E hW (Or.inl ⟨r9, _, rfl, hG, rfl⟩) dL_sell_22
theorem lw_L_178 : LkW RL 178 yL_sell cL_sell 5 (some .int) [(0, 10, 13, 44), (0, 10, 17, 13)] 4 := ⟨(bigm (inT4 (List.mem_of_getElem? (i := 179) rfl)) rfl), (bigm (inT4 (List.mem_of_getElem? (i := 180) rfl)) rfl), ki_L, (bigm (inT4 (List.mem_of_getElem? (i := 181) rfl)) rfl), by decide +kernel, by decide +kernel, by decide +kernel⟩
theorem lk_L_83 : LkV RL 83 yX8_back cX8_back 4 (some .int) 2 := ⟨(bigm (inT4 (List.mem_of_getElem? (i := 198) rfl)) rfl), km_X8_back_inst, km_X8_back_sel, ki_X8, km_X8_back_code, by decide +kernel, by decide +kernel, by decide +kernel⟩
def rm_L_back : Room := { frames := 12, cells := 2, slots := 12, locals := 195 }
set_option maxHeartbeats 4000000 in
set_option maxRecDepth 100000 in
theorem c_L_back (l : Launch) {X : XT} {B : Nat} {t : TS} {v1 : Int32} {v2 : Int32} {G : Int32 ⊕ String → TS → Prop} (hM : vx_Met l yX8_back (.code yX8_back cX8_back 4 (some .int) :: BIG) rm_X8_back (Pre X B t [.ref (X.1 0), .int v1, .int v2]) (QXG X B G) (XCG X B G) 2 12 (Ab B)) (hEx : ∀ (E : String) (t9 : TS), G (.inr E) t9 → E = "java/util/NoSuchElementException" ∨ E = "java/lang/IllegalArgumentException") : Met l yL_back (.codeWith yL_back cL_back 5 (some .int) [(0, 10, 13, 44), (0, 10, 17, 13)] :: BIG) rm_L_back (Pre X B t [.ref (X.1 0), .int v1, .int v2, .ref (X.1 72)]) (va_Qi (LPost (fun r => r.toInt64) (cd2 "java/util/NoSuchElementException") G) (Pst X B) (Ab B)) 2 12 (Ab B) := by
  refine wentry (by decide +kernel) rfl (Nat.le_of_ble_eq_true rfl) (fun p e s m below meth c ls E htab hW hl => ?_)
  obtain ⟨hx, hb, hml, hown, hts, -⟩ := id E
  replace hl : lv_has ls 5 [(0, .ref (X.1 0)), (1, .int v1), (2, .int v2), (3, .ref (X.1 72))] := hl
  refine lv_aload_n hx hb dL_back_0 rfl (lv_at hl 3 rfl) ?_
  refine lv_iconst (v := (0 : Int32)) hx hb dL_back_1 (by decide) ?_
  refine lv_aload_n hx hb dL_back_2 rfl (lv_at hl 0 rfl) ?_
  refine lv_iload_n hx hb dL_back_3 rfl (lv_at hl 1 rfl) ?_
  refine lv_iload_n hx hb dL_back_4 rfl (lv_at hl 2 rfl) ?_
  refine ycall (As := [.int _, .int _]) (rest := [_, _]) E hW hM lk_L_83 rcv_X8 (Nat.le_of_ble_eq_true rfl) (Nat.le_of_ble_eq_true rfl) (Nat.le_of_ble_eq_true rfl) (Nat.le_of_ble_eq_true rfl) hl.1 (Nat.le_of_ble_eq_true rfl) dL_back_5 (fun E9 t9 H locs ce q9 hG hW hce hcv hcl => ?_) (fun r9 t9 H locs hG hW => ?_)
  · rcases hEx E9 t9 hG with rfl | rfl
    · refine vx_catch hown [] ⟨0, 10, 13, 44⟩ [⟨0, 10, 17, 13⟩] htab (fun z hz => nomatch hz) (by decide) (by decide) (hts _ kcl_L_44) (zs_cast E.2.2.2.2.2.2.2.2.2 (by simp [excL])) hce hcv hcl ?_
      refine lv_astore (lv' := [_, _, _, _, _]) hx hb dL_back_13 hl (by decide) rfl (fun ls hl => ?_)
      refine lv_iconst (v := (1 : Int32)) hx hb dL_back_15 (by decide) ?_
      exact retP E hW (Or.inr ⟨_, _, (if_pos rfl).symm, hG, rfl⟩) dL_back_16
    · refine vx_catch hown [⟨0, 10, 13, 44⟩] ⟨0, 10, 17, 13⟩ [] htab (fun z hz => by rw [List.mem_singleton.mp hz]; exact Or.inr ⟨by decide, "java/util/NoSuchElementException", hts _ kcl_L_44, zs_nc E.2.2.2.2.2.2.2.2.2 (by simp [ncL])⟩) (by decide) (by decide) (hts _ kcl_L_13) (zs_cast E.2.2.2.2.2.2.2.2.2 (by simp [excL])) hce hcv hcl ?_
      refine lv_astore (lv' := [_, _, _, _, _]) hx hb dL_back_17 hl (by decide) rfl (fun ls hl => ?_)
      refine lv_iconst (v := (2 : Int32)) hx hb dL_back_19 (by decide) ?_
      exact retP E hW (Or.inr ⟨_, _, (if_neg (by decide)).symm, hG, rfl⟩) dL_back_20
  · obtain ⟨cs9, ms9, o9⟩ := t9
    refine lv_i2l hx hb dL_back_8 rfl ?_
    refine rs_72 E hW (vp_in_nI (n := 0) (Nat.le_of_ble_eq_true rfl) (Nat.le_of_ble_eq_true rfl)) dL_back_9 (fun H locs hW => ?_)
    refine lv_goto (tgt := 21) hx hb dL_back_10 (by decide) ?_
    refine lv_iconst (v := (0 : Int32)) hx hb dL_back_21 (by decide) ?_
    exact retP E hW (Or.inl ⟨r9, _, rfl, hG, rfl⟩) dL_back_22
theorem lw_L_181 : LkW RL 181 yL_back cL_back 5 (some .int) [(0, 10, 13, 44), (0, 10, 17, 13)] 4 := ⟨(bigm (inT4 (List.mem_of_getElem? (i := 195) rfl)) rfl), (bigm (inT4 (List.mem_of_getElem? (i := 196) rfl)) rfl), ki_L, (bigm (inT4 (List.mem_of_getElem? (i := 197) rfl)) rfl), by decide +kernel, by decide +kernel, by decide +kernel⟩
theorem lk_L_86 : LkV RL 86 yX8_best cX8_best 3 (some .int) 2 := ⟨(bigm (inT4 (List.mem_of_getElem? (i := 206) rfl)) rfl), km_X8_best_inst, km_X8_best_sel, ki_X8, km_X8_best_code, by decide +kernel, by decide +kernel, by decide +kernel⟩
def rm_L_best : Room := { frames := 12, cells := 2, slots := 12, locals := 194 }
set_option maxHeartbeats 4000000 in
set_option maxRecDepth 100000 in
theorem c_L_best (l : Launch) {X : XT} {B : Nat} {t : TS} {v1 : Int32} {v2 : Int32} {G : Int32 ⊕ String → TS → Prop} (hM : vx_Met l yX8_best (.code yX8_best cX8_best 3 (some .int) :: BIG) rm_X8_best (Pre X B t [.ref (X.1 0), .int v1, .int v2]) (QXG X B G) (XCG X B G) 2 12 (Ab B)) (hEx : ∀ (E : String) (t9 : TS), G (.inr E) t9 → E = "java/util/NoSuchElementException" ∨ E = "java/lang/IllegalArgumentException") : Met l yL_best (.codeWith yL_best cL_best 5 (some .int) [(0, 10, 13, 44), (0, 10, 17, 13)] :: BIG) rm_L_best (Pre X B t [.ref (X.1 0), .int v1, .int v2, .ref (X.1 72)]) (va_Qi (LPost (fun r => r.toInt64) (cd2 "java/util/NoSuchElementException") G) (Pst X B) (Ab B)) 2 12 (Ab B) := by
  refine wentry (by decide +kernel) rfl (Nat.le_of_ble_eq_true rfl) (fun p e s m below meth c ls E htab hW hl => ?_)
  obtain ⟨hx, hb, hml, hown, hts, -⟩ := id E
  replace hl : lv_has ls 5 [(0, .ref (X.1 0)), (1, .int v1), (2, .int v2), (3, .ref (X.1 72))] := hl
  refine lv_aload_n hx hb dL_best_0 rfl (lv_at hl 3 rfl) ?_
  refine lv_iconst (v := (0 : Int32)) hx hb dL_best_1 (by decide) ?_
  refine lv_aload_n hx hb dL_best_2 rfl (lv_at hl 0 rfl) ?_
  refine lv_iload_n hx hb dL_best_3 rfl (lv_at hl 1 rfl) ?_
  refine lv_iload_n hx hb dL_best_4 rfl (lv_at hl 2 rfl) ?_
  refine ycall (As := [.int _, .int _]) (rest := [_, _]) E hW hM lk_L_86 rcv_X8 (Nat.le_of_ble_eq_true rfl) (Nat.le_of_ble_eq_true rfl) (Nat.le_of_ble_eq_true rfl) (Nat.le_of_ble_eq_true rfl) hl.1 (Nat.le_of_ble_eq_true rfl) dL_best_5 (fun E9 t9 H locs ce q9 hG hW hce hcv hcl => ?_) (fun r9 t9 H locs hG hW => ?_)
  · rcases hEx E9 t9 hG with rfl | rfl
    · refine vx_catch hown [] ⟨0, 10, 13, 44⟩ [⟨0, 10, 17, 13⟩] htab (fun z hz => nomatch hz) (by decide) (by decide) (hts _ kcl_L_44) (zs_cast E.2.2.2.2.2.2.2.2.2 (by simp [excL])) hce hcv hcl ?_
      refine lv_astore (lv' := [_, _, _, _, _]) hx hb dL_best_13 hl (by decide) rfl (fun ls hl => ?_)
      refine lv_iconst (v := (1 : Int32)) hx hb dL_best_15 (by decide) ?_
      exact retP E hW (Or.inr ⟨_, _, (if_pos rfl).symm, hG, rfl⟩) dL_best_16
    · refine vx_catch hown [⟨0, 10, 13, 44⟩] ⟨0, 10, 17, 13⟩ [] htab (fun z hz => by rw [List.mem_singleton.mp hz]; exact Or.inr ⟨by decide, "java/util/NoSuchElementException", hts _ kcl_L_44, zs_nc E.2.2.2.2.2.2.2.2.2 (by simp [ncL])⟩) (by decide) (by decide) (hts _ kcl_L_13) (zs_cast E.2.2.2.2.2.2.2.2.2 (by simp [excL])) hce hcv hcl ?_
      refine lv_astore (lv' := [_, _, _, _, _]) hx hb dL_best_17 hl (by decide) rfl (fun ls hl => ?_)
      refine lv_iconst (v := (2 : Int32)) hx hb dL_best_19 (by decide) ?_
      exact retP E hW (Or.inr ⟨_, _, (if_neg (by decide)).symm, hG, rfl⟩) dL_best_20
  · obtain ⟨cs9, ms9, o9⟩ := t9
    refine lv_i2l hx hb dL_best_8 rfl ?_
    refine rs_72 E hW (vp_in_nI (n := 0) (Nat.le_of_ble_eq_true rfl) (Nat.le_of_ble_eq_true rfl)) dL_best_9 (fun H locs hW => ?_)
    refine lv_goto (tgt := 21) hx hb dL_best_10 (by decide) ?_
    refine lv_iconst (v := (0 : Int32)) hx hb dL_best_21 (by decide) ?_
    exact retP E hW (Or.inl ⟨r9, _, rfl, hG, rfl⟩) dL_best_22
theorem lw_L_184 : LkW RL 184 yL_best cL_best 5 (some .int) [(0, 10, 13, 44), (0, 10, 17, 13)] 4 := ⟨(bigm (inT4 (List.mem_of_getElem? (i := 203) rfl)) rfl), (bigm (inT4 (List.mem_of_getElem? (i := 204) rfl)) rfl), ki_L, (bigm (inT4 (List.mem_of_getElem? (i := 205) rfl)) rfl), by decide +kernel, by decide +kernel, by decide +kernel⟩
theorem lk_L_89 : LkV RL 89 yX8_worth cX8_worth 7 (some .int) 2 := ⟨(bigm (inT4 (List.mem_of_getElem? (i := 234) rfl)) rfl), km_X8_worth_inst, km_X8_worth_sel, ki_X8, km_X8_worth_code, by decide +kernel, by decide +kernel, by decide +kernel⟩
def rm_L_worth : Room := { frames := 12, cells := 2, slots := 12, locals := 198 }
set_option maxHeartbeats 4000000 in
set_option maxRecDepth 100000 in
theorem c_L_worth (l : Launch) {X : XT} {B : Nat} {t : TS} {v1 : Int32} {v2 : Int32} {G : Int32 ⊕ String → TS → Prop} (hM : vx_Met l yX8_worth (.code yX8_worth cX8_worth 7 (some .int) :: BIG) rm_X8_worth (Pre X B t [.ref (X.1 0), .int v1, .int v2]) (QXG X B G) (XCG X B G) 2 12 (Ab B)) (hEx : ∀ (E : String) (t9 : TS), G (.inr E) t9 → E = "java/util/NoSuchElementException" ∨ E = "java/lang/IllegalArgumentException") : Met l yL_worth (.codeWith yL_worth cL_worth 5 (some .int) [(0, 10, 13, 44), (0, 10, 17, 13)] :: BIG) rm_L_worth (Pre X B t [.ref (X.1 0), .int v1, .int v2, .ref (X.1 72)]) (va_Qi (LPost (fun r => r.toInt64) (cd2 "java/util/NoSuchElementException") G) (Pst X B) (Ab B)) 2 12 (Ab B) := by
  refine wentry (by decide +kernel) rfl (Nat.le_of_ble_eq_true rfl) (fun p e s m below meth c ls E htab hW hl => ?_)
  obtain ⟨hx, hb, hml, hown, hts, -⟩ := id E
  replace hl : lv_has ls 5 [(0, .ref (X.1 0)), (1, .int v1), (2, .int v2), (3, .ref (X.1 72))] := hl
  refine lv_aload_n hx hb dL_worth_0 rfl (lv_at hl 3 rfl) ?_
  refine lv_iconst (v := (0 : Int32)) hx hb dL_worth_1 (by decide) ?_
  refine lv_aload_n hx hb dL_worth_2 rfl (lv_at hl 0 rfl) ?_
  refine lv_iload_n hx hb dL_worth_3 rfl (lv_at hl 1 rfl) ?_
  refine lv_iload_n hx hb dL_worth_4 rfl (lv_at hl 2 rfl) ?_
  refine ycall (As := [.int _, .int _]) (rest := [_, _]) E hW hM lk_L_89 rcv_X8 (Nat.le_of_ble_eq_true rfl) (Nat.le_of_ble_eq_true rfl) (Nat.le_of_ble_eq_true rfl) (Nat.le_of_ble_eq_true rfl) hl.1 (Nat.le_of_ble_eq_true rfl) dL_worth_5 (fun E9 t9 H locs ce q9 hG hW hce hcv hcl => ?_) (fun r9 t9 H locs hG hW => ?_)
  · rcases hEx E9 t9 hG with rfl | rfl
    · refine vx_catch hown [] ⟨0, 10, 13, 44⟩ [⟨0, 10, 17, 13⟩] htab (fun z hz => nomatch hz) (by decide) (by decide) (hts _ kcl_L_44) (zs_cast E.2.2.2.2.2.2.2.2.2 (by simp [excL])) hce hcv hcl ?_
      refine lv_astore (lv' := [_, _, _, _, _]) hx hb dL_worth_13 hl (by decide) rfl (fun ls hl => ?_)
      refine lv_iconst (v := (1 : Int32)) hx hb dL_worth_15 (by decide) ?_
      exact retP E hW (Or.inr ⟨_, _, (if_pos rfl).symm, hG, rfl⟩) dL_worth_16
    · refine vx_catch hown [⟨0, 10, 13, 44⟩] ⟨0, 10, 17, 13⟩ [] htab (fun z hz => by rw [List.mem_singleton.mp hz]; exact Or.inr ⟨by decide, "java/util/NoSuchElementException", hts _ kcl_L_44, zs_nc E.2.2.2.2.2.2.2.2.2 (by simp [ncL])⟩) (by decide) (by decide) (hts _ kcl_L_13) (zs_cast E.2.2.2.2.2.2.2.2.2 (by simp [excL])) hce hcv hcl ?_
      refine lv_astore (lv' := [_, _, _, _, _]) hx hb dL_worth_17 hl (by decide) rfl (fun ls hl => ?_)
      refine lv_iconst (v := (2 : Int32)) hx hb dL_worth_19 (by decide) ?_
      exact retP E hW (Or.inr ⟨_, _, (if_neg (by decide)).symm, hG, rfl⟩) dL_worth_20
  · obtain ⟨cs9, ms9, o9⟩ := t9
    refine lv_i2l hx hb dL_worth_8 rfl ?_
    refine rs_72 E hW (vp_in_nI (n := 0) (Nat.le_of_ble_eq_true rfl) (Nat.le_of_ble_eq_true rfl)) dL_worth_9 (fun H locs hW => ?_)
    refine lv_goto (tgt := 21) hx hb dL_worth_10 (by decide) ?_
    refine lv_iconst (v := (0 : Int32)) hx hb dL_worth_21 (by decide) ?_
    exact retP E hW (Or.inl ⟨r9, _, rfl, hG, rfl⟩) dL_worth_22
theorem lw_L_187 : LkW RL 187 yL_worth cL_worth 5 (some .int) [(0, 10, 13, 44), (0, 10, 17, 13)] 4 := ⟨(bigm (inT4 (List.mem_of_getElem? (i := 231) rfl)) rfl), (bigm (inT4 (List.mem_of_getElem? (i := 232) rfl)) rfl), ki_L, (bigm (inT4 (List.mem_of_getElem? (i := 233) rfl)) rfl), by decide +kernel, by decide +kernel, by decide +kernel⟩
theorem lk_L_92 : LkV RL 92 yX8_grams cX8_grams 4 (some .int) 2 := ⟨(bigm (inT5 (List.mem_of_getElem? (i := 1) rfl)) rfl), km_X8_grams_inst, km_X8_grams_sel, ki_X8, km_X8_grams_code, by decide +kernel, by decide +kernel, by decide +kernel⟩
def rm_L_grams : Room := { frames := 11, cells := 1, slots := 6, locals := 173 }
set_option maxHeartbeats 4000000 in
set_option maxRecDepth 100000 in
theorem c_L_grams (l : Launch) {X : XT} {B : Nat} {t : TS} {v1 : Int32} {v2 : Int32} {G : Int32 ⊕ String → TS → Prop} (hM : vx_Met l yX8_grams (.code yX8_grams cX8_grams 4 (some .int) :: BIG) rm_X8_grams (Pre X B t [.ref (X.1 0), .int v1, .int v2]) (QXG X B G) (XCG X B G) 1 6 (Ab B)) (hEx : ∀ (E : String) (t9 : TS), G (.inr E) t9 → E = "java/lang/IllegalArgumentException") : Met l yL_grams (.codeWith yL_grams cL_grams 5 (some .int) [(0, 10, 13, 13)] :: BIG) rm_L_grams (Pre X B t [.ref (X.1 0), .int v1, .int v2, .ref (X.1 72)]) (va_Qi (LPost (fun r => r.toInt64) cd1 G) (Pst X B) (Ab B)) 1 6 (Ab B) := by
  refine wentry (by decide +kernel) rfl (Nat.le_of_ble_eq_true rfl) (fun p e s m below meth c ls E htab hW hl => ?_)
  obtain ⟨hx, hb, hml, hown, hts, -⟩ := id E
  replace hl : lv_has ls 5 [(0, .ref (X.1 0)), (1, .int v1), (2, .int v2), (3, .ref (X.1 72))] := hl
  refine lv_aload_n hx hb dL_grams_0 rfl (lv_at hl 3 rfl) ?_
  refine lv_iconst (v := (0 : Int32)) hx hb dL_grams_1 (by decide) ?_
  refine lv_aload_n hx hb dL_grams_2 rfl (lv_at hl 0 rfl) ?_
  refine lv_iload_n hx hb dL_grams_3 rfl (lv_at hl 1 rfl) ?_
  refine lv_iload_n hx hb dL_grams_4 rfl (lv_at hl 2 rfl) ?_
  refine ycall (As := [.int _, .int _]) (rest := [_, _]) E hW hM lk_L_92 rcv_X8 (Nat.le_of_ble_eq_true rfl) (Nat.le_of_ble_eq_true rfl) (Nat.le_of_ble_eq_true rfl) (Nat.le_of_ble_eq_true rfl) hl.1 (Nat.le_of_ble_eq_true rfl) dL_grams_5 (fun E9 t9 H locs ce q9 hG hW hce hcv hcl => ?_) (fun r9 t9 H locs hG hW => ?_)
  · obtain rfl := hEx E9 t9 hG
    refine vx_catch hown [] ⟨0, 10, 13, 13⟩ [] htab (fun z hz => nomatch hz) (by decide) (by decide) (hts _ kcl_L_13) (zs_cast E.2.2.2.2.2.2.2.2.2 (by simp [excL])) hce hcv hcl ?_
    refine lv_astore (lv' := [_, _, _, _, _]) hx hb dL_grams_13 hl (by decide) rfl (fun ls hl => ?_)
    refine lv_iconst (v := (1 : Int32)) hx hb dL_grams_15 (by decide) ?_
    exact retP E hW (Or.inr ⟨_, _, rfl, hG, rfl⟩) dL_grams_16
  · obtain ⟨cs9, ms9, o9⟩ := t9
    refine lv_i2l hx hb dL_grams_8 rfl ?_
    refine rs_72 E hW (vp_in_nI (n := 0) (Nat.le_of_ble_eq_true rfl) (Nat.le_of_ble_eq_true rfl)) dL_grams_9 (fun H locs hW => ?_)
    refine lv_goto (tgt := 17) hx hb dL_grams_10 (by decide) ?_
    refine lv_iconst (v := (0 : Int32)) hx hb dL_grams_17 (by decide) ?_
    exact retP E hW (Or.inl ⟨r9, _, rfl, hG, rfl⟩) dL_grams_18
theorem lw_L_190 : LkW RL 190 yL_grams cL_grams 5 (some .int) [(0, 10, 13, 13)] 4 := ⟨(bigm (inT4 (List.mem_of_getElem? (i := 238) rfl)) rfl), (bigm (inT4 (List.mem_of_getElem? (i := 239) rfl)) rfl), ki_L, (bigm (inT5 (List.mem_of_getElem? (i := 0) rfl)) rfl), by decide +kernel, by decide +kernel, by decide +kernel⟩

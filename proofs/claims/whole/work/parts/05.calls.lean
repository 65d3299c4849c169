/-! ===== calls and throws over the one world ===== -/
def LkV (own : String) (i : Nat) (y : MethodName) (cc : ByteArray) (n : Nat) (ret : Option FieldType) (k : Nat) : Prop := Cond.methodLink own i y ∈ BIG ∧ Cond.instanceMethod y ∈ BIG ∧ Cond.selects y.cls y y ∈ BIG ∧ Cond.initialized y.cls ∈ BIG ∧ Cond.code y cc n ret ∈ BIG ∧ y.cls ≠ "java/lang/invoke/MethodHandle" ∧ y.cls ≠ "java/lang/invoke/VarHandle" ∧ (parseMethodDescriptor y.desc).map (fun d => d.parameters.length) = some k
def LkS (own : String) (i : Nat) (y : MethodName) (cc : ByteArray) (n : Nat) (ret : Option FieldType) (k : Nat) : Prop := Cond.methodLink own i y ∈ BIG ∧ Cond.static y ∈ BIG ∧ Cond.initialized y.cls ∈ BIG ∧ Cond.code y cc n ret ∈ BIG ∧ y.cls ≠ "java/lang/invoke/MethodHandle" ∧ y.cls ≠ "java/lang/invoke/VarHandle" ∧ (parseMethodDescriptor y.desc).map (fun d => d.parameters.length) = some k
def Rcv (X : XT) (t : TS) (b : Nat) (C : String) : Prop := ∃ (k0 ci : Nat) (fs : List Value) (q : vw_C), (wA X t)[k0]? = some (b, .inr (ci, fs)) ∧ vwCl[ci]? = some q ∧ q.1 = C
theorem big_self {w : Cond} (h : w ∈ BIG) : w ∈ BIG ∧ ((w.onTables && w.keeps) = true ∨ ∃ ty, w = .arrayClass ty) := ⟨h, good_of_word (big_good h)⟩
abbrev QXI (X : XT) (B : Nat) (r : Int32 ⊕ String) (t : TS) := va_Qi (fun (r' : Int32) (u : TS) => r = .inl r' ∧ u = t) (Pst X B) (Ab B)
abbrev QXQ (X : XT) (B : Nat) (r : Option Nat ⊕ String) (t : TS) := va_Qq (fun (r' : Option Nat) (u : TS) => r = .inl r' ∧ u = t) (Pst X B) (Ab B)
abbrev XCx {α : Type} (X : XT) (B : Nat) (r : α ⊕ String) (t : TS) := vx_X (fun (u : TS) => u = t) (fun (E : String) (u : TS) (U : State) => r = .inr E ∧ Pst X B u U) (Ab B)
section CALLS
variable {p : Program} {l : Launch} {e : Env} {R : Room} {s : State} {m : MethodId} {args : Array Value} {below : List Frame} {meth : Method} {c : Code} {H : Heap} {locs : List Loc} {cells slots : Nat} {Q : State → Prop} {X : XT} {B : Nat} {cc : ByteArray} {nL : Nat} {ret : Option FieldType} {pc : Nat} {ls : Array Slot} {rest : List Value} {t t' : TS} {own : String}
variable {y : MethodName} {bytes : ByteArray} {maxL mc mk index : Nat} {ret2 : Option FieldType} {rm : Room} {b : Nat} {As : List Value}
theorem rcv_of (E : Ev X B p s m args meth c own cc nL ret) (hW : Ws X B s.heap H locs t) {C : String} (h : Rcv X t b C) : ∃ cell : Cell, H[b]? = some cell ∧ cell.vm.isStatics = false ∧ s.vm.findClass C = some cell.cls := by
  obtain ⟨k0, ci, fs, q, h1, h2, h3⟩ := h
  rw [← h3]
  exact va_recv E.2.2.2.2.2.1 hW.1 h2 h1
theorem cw_V (E : Ev X B p s m args meth c own cc nL ret) (hk : LkV own index y bytes maxL ret2 As.length) (hR1 : rm.frames + 1 ≤ R.frames) (hR2 : 8 + (maxL + 11) + rm.locals ≤ R.locals) (hrm : rm.cells = mc ∧ rm.slots = mk) : CallW R s args own y.cls index y bytes maxL ret2 (.code y bytes maxL ret2 :: BIG) rm mc mk As.length :=
  cwV As.length E.2.2.2.2.1 (fun w hw => by
    simp only [wsV, List.mem_append, List.mem_cons, List.not_mem_nil, or_false] at hw
    rcases hw with (h | h | h | h) | h | h
    · rw [h]; exact big_self hk.1
    · rw [h]; exact big_self hk.2.1
    · rw [h]; exact big_self hk.2.2.1
    · rw [h]; exact big_self hk.2.2.2.1
    · rw [h]; exact big_self hk.2.2.2.2.1
    · exact big_self h) rfl hrm.1 hrm.2 ⟨rfl, hk.2.2.2.2.2⟩ ⟨hR1, hR2⟩
theorem cw_S (E : Ev X B p s m args meth c own cc nL ret) (hk : LkS own index y bytes maxL ret2 As.length) (hR1 : rm.frames + 1 ≤ R.frames) (hR2 : 8 + (maxL + 11) + rm.locals ≤ R.locals) (hrm : rm.cells = mc ∧ rm.slots = mk) : CallB R s args own index y bytes maxL ret2 (.code y bytes maxL ret2 :: BIG) rm mc mk As.length ∧ (Cond.static y).before args s = true :=
  ⟨callB_of As.length E.2.2.2.2.1 (fun w hw => by
    rcases List.mem_cons.mp hw with h | h
    · rw [h]; exact big_self hk.2.2.2.1
    · exact big_self h) rfl hrm.1 hrm.2 (E.2.2.2.2.1 _ hk.2.2.1) (E.2.2.2.2.1 _ hk.1) hk.2.2.2.2 ⟨hR1, hR2⟩, E.2.2.2.2.1 _ hk.2.1⟩
theorem retIX {v : Int32} {r : Int32 ⊕ String} (E : Ev X B p s m args meth c own cc nL (some .int)) (hW : Ws X B s.heap H locs t) (h : r = .inl v ∧ t = t') (hdg : decode cc pc = .ok (.ireturn, 1)) : W p l e R s m args below meth c H locs cells slots (MQ below (QXI X B r t') args s cells slots (Ab B)) (F0 m pc ls [.int v]) :=
  W.iret E.1 E.2.1 E.2.2.2.2.2.2.1 (fun U hU _ => ⟨⟨v, t, rfl, h, hW.pst hU⟩, hW.2.2.F hU⟩) hW.2.2.2.2 hdg E.2.2.2.2.2.2.2.1
theorem retZX {v : Int32} {r : Int32 ⊕ String} (E : Ev X B p s m args meth c own cc nL (some .boolean)) (hW : Ws X B s.heap H locs t) (hz : v = 0 ∨ v = 1) (h : r = .inl v ∧ t = t') (hdg : decode cc pc = .ok (.ireturn, 1)) : W p l e R s m args below meth c H locs cells slots (MQ below (QXI X B r t') args s cells slots (Ab B)) (F0 m pc ls [.int v]) :=
  W.zret E.1 E.2.1 E.2.2.2.2.2.2.1 (by rcases hz with q | q <;> rw [q] <;> rfl) (fun U hU _ => ⟨⟨v, t, rfl, h, hW.pst hU⟩, hW.2.2.F hU⟩) hW.2.2.2.2 hdg E.2.2.2.2.2.2.2.1
theorem retQX {v : Option Nat} {r : Option Nat ⊕ String} {C : String} (E : Ev X B p s m args meth c own cc nL (some (.object C))) (hW : Ws X B s.heap H locs t) (h : r = .inl v ∧ t = t') (hdg : decode cc pc = .ok (.areturn, 1)) : W p l e R s m args below meth c H locs cells slots (MQ below (QXQ X B r t') args s cells slots (Ab B)) (F0 m pc ls [va_rf v]) :=
  W.aret E.1 E.2.1 E.2.2.2.2.2.2.1 (Or.inl ⟨C, rfl⟩) (va_rf_or v) (fun U hU _ => ⟨⟨v, t, rfl, h, hW.pst hU⟩, hW.2.2.F hU⟩) hW.2.2.2.2 hdg E.2.2.2.2.2.2.2.1
theorem callVI {r : Int32} (E : Ev X B p s m args meth c own cc nL ret) (hW : Ws X B s.heap H locs t) (hM : Met l y (.code y bytes maxL ret2 :: BIG) rm (Pre X B t (.ref b :: As)) (QI X B r t') mc mk (Ab B)) (hk : LkV own index y bytes maxL ret2 As.length) (hrv : Rcv X t b y.cls) (hR1 : rm.frames + 1 ≤ R.frames) (hR2 : 8 + (maxL + 11) + rm.locals ≤ R.locals) (hc1 : cells + mc ≤ R.cells) (hc2 : slots + mk ≤ R.slots) (hsz : ls.size = nL) (hst : (rest.map fun v => v.category).sum ≤ 8) (hdg : decode cc pc = .ok (.invokevirtual index, 3)) (kk : ∀ (H1 : Heap) (locs1 : List Loc), Ws X B s.heap H1 locs1 t' → W p l e R s m args below meth c H1 locs1 (cells + mc) (slots + mk) Q (F0 m (pc + 3) ls (.int r :: rest))) (hrm : rm.cells = mc ∧ rm.slots = mk := by exact ⟨rfl, rfl⟩) : W p l e R s m args below meth c H locs cells slots Q (F0 m pc ls (As.reverse ++ .ref b :: rest)) := by
  refine va_calli (va_runV (As := As) (rest := rest) ⟨E.1, E.2.1, E.2.2.1, E.2.2.2.1, E.2.2.2.2.1⟩ hM (cw_V E hk hR1 hR2 hrm) ⟨Pre.blind, rcv_of E hW hrv, Pre.of E hW (.ref b :: As)⟩ rfl rfl hsz rfl (lv_room hst) hdg ⟨hc1, hc2⟩) hW.2.2 (fun q _ h => h) (fun q h => h) (fun r1 u t1 H1 locs1 ht hvm hw hB hz1 hk1 hS => ?_)
  obtain ⟨rfl, rfl⟩ := hw
  exact kk H1 locs1 ⟨by rw [← ht]; exact hB.1, hB.2, hS⟩
theorem xcallVI {r1 : Int32 ⊕ String} {α : Type} {rr : α ⊕ String} {tt : TS} {mcT mkT : Nat} {Qc : Array Value → State → Outcome → State → Prop} (E : Ev X B p s m args meth c own cc nL ret) (hW : Ws X B s.heap H locs t) (hM : vx_Met l y (.code y bytes maxL ret2 :: BIG) rm (Pre X B t (.ref b :: As)) (QXI X B r1 t') (XCx X B r1 t') mc mk (Ab B)) (hk : LkV own index y bytes maxL ret2 As.length) (hrv : Rcv X t b y.cls) (hR1 : rm.frames + 1 ≤ R.frames) (hR2 : 8 + (maxL + 11) + rm.locals ≤ R.locals) (hc1 : cells + mc ≤ R.cells) (hc2 : slots + mk ≤ R.slots) (hsz : ls.size = nL) (hst : (rest.map fun v => v.category).sum ≤ 8) (hdg : decode cc pc = .ok (.invokevirtual index, 3)) (hxt : ∀ x ∈ c.exceptionTable.toList, False) (hq1 : cells + mc ≤ mcT) (hq2 : slots + mk ≤ mkT) (he : ∀ z, r1 = .inr z → rr = .inr z ∧ tt = t') (kk : ∀ (r : Int32), r1 = .inl r → ∀ (H1 : Heap) (locs1 : List Loc), Ws X B s.heap H1 locs1 t' → W p l e R s m args below meth c H1 locs1 (cells + mc) (slots + mk) (vx_MQ below Qc (XCx X B rr tt) args s mcT mkT (Ab B)) (F0 m (pc + 3) ls (.int r :: rest))) (hrm : rm.cells = mc ∧ rm.slots = mk := by exact ⟨rfl, rfl⟩) : W p l e R s m args below meth c H locs cells slots (vx_MQ below Qc (XCx X B rr tt) args s mcT mkT (Ab B)) (F0 m pc ls (As.reverse ++ .ref b :: rest)) := by
  refine vx_calli (vx_runV (As := As) (rest := rest) ⟨E.1, E.2.1, E.2.2.1, E.2.2.2.1, E.2.2.2.2.1⟩ hM (cw_V E hk hR1 hR2 hrm) ⟨Pre.blind, rcv_of E hW hrv, Pre.of E hW (.ref b :: As)⟩ rfl rfl hsz rfl (lv_room hst) hdg ⟨hc1, hc2⟩) hW.2.2 (fun q _ h => h) (fun q h => h) (fun q _ h => h) (fun E9 ce q9 u t1 H1 locs1 ht hvm hp hB hz1 hk1 hS hce hcv hcl => ?_) (fun r1 u t1 H1 locs1 ht hvm hw hB hz1 hk1 hS => ?_)
  · subst hp
    obtain ⟨e1, rfl⟩ := he E9 hB.1
    exact vx_out (fun x hx => (hxt x hx).elim) E.2.2.2.2.2.2.2.1 hce hcv hcl (fun U hU _ => ⟨_, rfl, ⟨e1, by rw [hU, ← ht]; exact hB.2.1, hB.2.2⟩, hS.F hU⟩) hS.2.2 hq1 hq2
  · obtain ⟨rfl, rfl⟩ := hw
    exact kk _ rfl H1 locs1 ⟨by rw [← ht]; exact hB.1, hB.2, hS⟩
theorem callVJ {r : Int64} (E : Ev X B p s m args meth c own cc nL ret) (hW : Ws X B s.heap H locs t) (hM : Met l y (.code y bytes maxL ret2 :: BIG) rm (Pre X B t (.ref b :: As)) (QL X B r t') mc mk (Ab B)) (hk : LkV own index y bytes maxL ret2 As.length) (hrv : Rcv X t b y.cls) (hR1 : rm.frames + 1 ≤ R.frames) (hR2 : 8 + (maxL + 11) + rm.locals ≤ R.locals) (hc1 : cells + mc ≤ R.cells) (hc2 : slots + mk ≤ R.slots) (hsz : ls.size = nL) (hst : (rest.map fun v => v.category).sum ≤ 8) (hdg : decode cc pc = .ok (.invokevirtual index, 3)) (kk : ∀ (H1 : Heap) (locs1 : List Loc), Ws X B s.heap H1 locs1 t' → W p l e R s m args below meth c H1 locs1 (cells + mc) (slots + mk) Q (F0 m (pc + 3) ls (.long r :: rest))) (hrm : rm.cells = mc ∧ rm.slots = mk := by exact ⟨rfl, rfl⟩) : W p l e R s m args below meth c H locs cells slots Q (F0 m pc ls (As.reverse ++ .ref b :: rest)) := by
  refine va_calll (va_runV (As := As) (rest := rest) ⟨E.1, E.2.1, E.2.2.1, E.2.2.2.1, E.2.2.2.2.1⟩ hM (cw_V E hk hR1 hR2 hrm) ⟨Pre.blind, rcv_of E hW hrv, Pre.of E hW (.ref b :: As)⟩ rfl rfl hsz rfl (lv_room hst) hdg ⟨hc1, hc2⟩) hW.2.2 (fun q _ h => h) (fun q h => h) (fun r1 u t1 H1 locs1 ht hvm hw hB hz1 hk1 hS => ?_)
  obtain ⟨rfl, rfl⟩ := hw
  exact kk H1 locs1 ⟨by rw [← ht]; exact hB.1, hB.2, hS⟩
theorem callVV (E : Ev X B p s m args meth c own cc nL ret) (hW : Ws X B s.heap H locs t) (hM : Met l y (.code y bytes maxL ret2 :: BIG) rm (Pre X B t (.ref b :: As)) (QV X B t') mc mk (Ab B)) (hk : LkV own index y bytes maxL ret2 As.length) (hrv : Rcv X t b y.cls) (hR1 : rm.frames + 1 ≤ R.frames) (hR2 : 8 + (maxL + 11) + rm.locals ≤ R.locals) (hc1 : cells + mc ≤ R.cells) (hc2 : slots + mk ≤ R.slots) (hsz : ls.size = nL) (hst : (rest.map fun v => v.category).sum ≤ 8) (hdg : decode cc pc = .ok (.invokevirtual index, 3)) (kk : ∀ (H1 : Heap) (locs1 : List Loc), Ws X B s.heap H1 locs1 t' → W p l e R s m args below meth c H1 locs1 (cells + mc) (slots + mk) Q (F0 m (pc + 3) ls (rest))) (hrm : rm.cells = mc ∧ rm.slots = mk := by exact ⟨rfl, rfl⟩) : W p l e R s m args below meth c H locs cells slots Q (F0 m pc ls (As.reverse ++ .ref b :: rest)) := by
  refine va_callv (va_runV (As := As) (rest := rest) ⟨E.1, E.2.1, E.2.2.1, E.2.2.2.1, E.2.2.2.2.1⟩ hM (cw_V E hk hR1 hR2 hrm) ⟨Pre.blind, rcv_of E hW hrv, Pre.of E hW (.ref b :: As)⟩ rfl rfl hsz rfl (lv_room hst) hdg ⟨hc1, hc2⟩) hW.2.2 (fun q _ h => h) (fun q h => h) (fun u t1 H1 locs1 ht hvm hw hB hz1 hk1 hS => ?_)
  subst hw
  exact kk H1 locs1 ⟨by rw [← ht]; exact hB.1, hB.2, hS⟩
theorem callVQ {r : Option Nat} (E : Ev X B p s m args meth c own cc nL ret) (hW : Ws X B s.heap H locs t) (hM : Met l y (.code y bytes maxL ret2 :: BIG) rm (Pre X B t (.ref b :: As)) (QQ X B r t') mc mk (Ab B)) (hk : LkV own index y bytes maxL ret2 As.length) (hrv : Rcv X t b y.cls) (hR1 : rm.frames + 1 ≤ R.frames) (hR2 : 8 + (maxL + 11) + rm.locals ≤ R.locals) (hc1 : cells + mc ≤ R.cells) (hc2 : slots + mk ≤ R.slots) (hsz : ls.size = nL) (hst : (rest.map fun v => v.category).sum ≤ 8) (hdg : decode cc pc = .ok (.invokevirtual index, 3)) (kk : ∀ (H1 : Heap) (locs1 : List Loc), Ws X B s.heap H1 locs1 t' → W p l e R s m args below meth c H1 locs1 (cells + mc) (slots + mk) Q (F0 m (pc + 3) ls (va_rf r :: rest))) (hrm : rm.cells = mc ∧ rm.slots = mk := by exact ⟨rfl, rfl⟩) : W p l e R s m args below meth c H locs cells slots Q (F0 m pc ls (As.reverse ++ .ref b :: rest)) := by
  refine va_callq (va_runV (As := As) (rest := rest) ⟨E.1, E.2.1, E.2.2.1, E.2.2.2.1, E.2.2.2.2.1⟩ hM (cw_V E hk hR1 hR2 hrm) ⟨Pre.blind, rcv_of E hW hrv, Pre.of E hW (.ref b :: As)⟩ rfl rfl hsz rfl (lv_room hst) hdg ⟨hc1, hc2⟩) hW.2.2 (fun q _ h => h) (fun q h => h) (fun r1 u t1 H1 locs1 ht hvm hw hB hz1 hk1 hS => ?_)
  obtain ⟨rfl, rfl⟩ := hw
  exact kk H1 locs1 ⟨by rw [← ht]; exact hB.1, hB.2, hS⟩
theorem xcallVQ {r1 : Option Nat ⊕ String} {α : Type} {rr : α ⊕ String} {tt : TS} {mcT mkT : Nat} {Qc : Array Value → State → Outcome → State → Prop} (E : Ev X B p s m args meth c own cc nL ret) (hW : Ws X B s.heap H locs t) (hM : vx_Met l y (.code y bytes maxL ret2 :: BIG) rm (Pre X B t (.ref b :: As)) (QXQ X B r1 t') (XCx X B r1 t') mc mk (Ab B)) (hk : LkV own index y bytes maxL ret2 As.length) (hrv : Rcv X t b y.cls) (hR1 : rm.frames + 1 ≤ R.frames) (hR2 : 8 + (maxL + 11) + rm.locals ≤ R.locals) (hc1 : cells + mc ≤ R.cells) (hc2 : slots + mk ≤ R.slots) (hsz : ls.size = nL) (hst : (rest.map fun v => v.category).sum ≤ 8) (hdg : decode cc pc = .ok (.invokevirtual index, 3)) (hxt : ∀ x ∈ c.exceptionTable.toList, False) (hq1 : cells + mc ≤ mcT) (hq2 : slots + mk ≤ mkT) (he : ∀ z, r1 = .inr z → rr = .inr z ∧ tt = t') (kk : ∀ (r : Option Nat), r1 = .inl r → ∀ (H1 : Heap) (locs1 : List Loc), Ws X B s.heap H1 locs1 t' → W p l e R s m args below meth c H1 locs1 (cells + mc) (slots + mk) (vx_MQ below Qc (XCx X B rr tt) args s mcT mkT (Ab B)) (F0 m (pc + 3) ls (va_rf r :: rest))) (hrm : rm.cells = mc ∧ rm.slots = mk := by exact ⟨rfl, rfl⟩) : W p l e R s m args below meth c H locs cells slots (vx_MQ below Qc (XCx X B rr tt) args s mcT mkT (Ab B)) (F0 m pc ls (As.reverse ++ .ref b :: rest)) := by
  refine vx_callq (vx_runV (As := As) (rest := rest) ⟨E.1, E.2.1, E.2.2.1, E.2.2.2.1, E.2.2.2.2.1⟩ hM (cw_V E hk hR1 hR2 hrm) ⟨Pre.blind, rcv_of E hW hrv, Pre.of E hW (.ref b :: As)⟩ rfl rfl hsz rfl (lv_room hst) hdg ⟨hc1, hc2⟩) hW.2.2 (fun q _ h => h) (fun q h => h) (fun q _ h => h) (fun E9 ce q9 u t1 H1 locs1 ht hvm hp hB hz1 hk1 hS hce hcv hcl => ?_) (fun r1 u t1 H1 locs1 ht hvm hw hB hz1 hk1 hS => ?_)
  · subst hp
    obtain ⟨e1, rfl⟩ := he E9 hB.1
    exact vx_out (fun x hx => (hxt x hx).elim) E.2.2.2.2.2.2.2.1 hce hcv hcl (fun U hU _ => ⟨_, rfl, ⟨e1, by rw [hU, ← ht]; exact hB.2.1, hB.2.2⟩, hS.F hU⟩) hS.2.2 hq1 hq2
  · obtain ⟨rfl, rfl⟩ := hw
    exact kk _ rfl H1 locs1 ⟨by rw [← ht]; exact hB.1, hB.2, hS⟩
theorem callSI {r : Int32} (E : Ev X B p s m args meth c own cc nL ret) (hW : Ws X B s.heap H locs t) (hM : Met l y (.code y bytes maxL ret2 :: BIG) rm (Pre X B t As) (QI X B r t') mc mk (Ab B)) (hk : LkS own index y bytes maxL ret2 As.length) (hR1 : rm.frames + 1 ≤ R.frames) (hR2 : 8 + (maxL + 11) + rm.locals ≤ R.locals) (hc1 : cells + mc ≤ R.cells) (hc2 : slots + mk ≤ R.slots) (hsz : ls.size = nL) (hst : (rest.map fun v => v.category).sum ≤ 8) (hdg : decode cc pc = .ok (.invokestatic index, 3)) (kk : ∀ (H1 : Heap) (locs1 : List Loc), Ws X B s.heap H1 locs1 t' → W p l e R s m args below meth c H1 locs1 (cells + mc) (slots + mk) Q (F0 m (pc + 3) ls (.int r :: rest))) (hrm : rm.cells = mc ∧ rm.slots = mk := by exact ⟨rfl, rfl⟩) : W p l e R s m args below meth c H locs cells slots Q (F0 m pc ls (As.reverse ++ rest)) := by
  refine va_calli (va_runS (As := As) (rest := rest) ⟨E.1, E.2.1, E.2.2.1, E.2.2.2.1, E.2.2.2.2.1⟩ hM (cw_S E hk hR1 hR2 hrm) ⟨Pre.blind, Pre.of E hW As⟩ rfl rfl hsz rfl (lv_room hst) hdg ⟨hc1, hc2⟩) hW.2.2 (fun q _ h => h) (fun q h => h) (fun r1 u t1 H1 locs1 ht hvm hw hB hz1 hk1 hS => ?_)
  obtain ⟨rfl, rfl⟩ := hw
  exact kk H1 locs1 ⟨by rw [← ht]; exact hB.1, hB.2, hS⟩
theorem xcallSI {r1 : Int32 ⊕ String} {α : Type} {rr : α ⊕ String} {tt : TS} {mcT mkT : Nat} {Qc : Array Value → State → Outcome → State → Prop} (E : Ev X B p s m args meth c own cc nL ret) (hW : Ws X B s.heap H locs t) (hM : vx_Met l y (.code y bytes maxL ret2 :: BIG) rm (Pre X B t As) (QXI X B r1 t') (XCx X B r1 t') mc mk (Ab B)) (hk : LkS own index y bytes maxL ret2 As.length) (hR1 : rm.frames + 1 ≤ R.frames) (hR2 : 8 + (maxL + 11) + rm.locals ≤ R.locals) (hc1 : cells + mc ≤ R.cells) (hc2 : slots + mk ≤ R.slots) (hsz : ls.size = nL) (hst : (rest.map fun v => v.category).sum ≤ 8) (hdg : decode cc pc = .ok (.invokestatic index, 3)) (hxt : ∀ x ∈ c.exceptionTable.toList, False) (hq1 : cells + mc ≤ mcT) (hq2 : slots + mk ≤ mkT) (he : ∀ z, r1 = .inr z → rr = .inr z ∧ tt = t') (kk : ∀ (r : Int32), r1 = .inl r → ∀ (H1 : Heap) (locs1 : List Loc), Ws X B s.heap H1 locs1 t' → W p l e R s m args below meth c H1 locs1 (cells + mc) (slots + mk) (vx_MQ below Qc (XCx X B rr tt) args s mcT mkT (Ab B)) (F0 m (pc + 3) ls (.int r :: rest))) (hrm : rm.cells = mc ∧ rm.slots = mk := by exact ⟨rfl, rfl⟩) : W p l e R s m args below meth c H locs cells slots (vx_MQ below Qc (XCx X B rr tt) args s mcT mkT (Ab B)) (F0 m pc ls (As.reverse ++ rest)) := by
  refine vx_calli (vx_runS (As := As) (rest := rest) ⟨E.1, E.2.1, E.2.2.1, E.2.2.2.1, E.2.2.2.2.1⟩ hM (cw_S E hk hR1 hR2 hrm) ⟨Pre.blind, Pre.of E hW As⟩ rfl rfl hsz rfl (lv_room hst) hdg ⟨hc1, hc2⟩) hW.2.2 (fun q _ h => h) (fun q h => h) (fun q _ h => h) (fun E9 ce q9 u t1 H1 locs1 ht hvm hp hB hz1 hk1 hS hce hcv hcl => ?_) (fun r1 u t1 H1 locs1 ht hvm hw hB hz1 hk1 hS => ?_)
  · subst hp
    obtain ⟨e1, rfl⟩ := he E9 hB.1
    exact vx_out (fun x hx => (hxt x hx).elim) E.2.2.2.2.2.2.2.1 hce hcv hcl (fun U hU _ => ⟨_, rfl, ⟨e1, by rw [hU, ← ht]; exact hB.2.1, hB.2.2⟩, hS.F hU⟩) hS.2.2 hq1 hq2
  · obtain ⟨rfl, rfl⟩ := hw
    exact kk _ rfl H1 locs1 ⟨by rw [← ht]; exact hB.1, hB.2, hS⟩
theorem callSJ {r : Int64} (E : Ev X B p s m args meth c own cc nL ret) (hW : Ws X B s.heap H locs t) (hM : Met l y (.code y bytes maxL ret2 :: BIG) rm (Pre X B t As) (QL X B r t') mc mk (Ab B)) (hk : LkS own index y bytes maxL ret2 As.length) (hR1 : rm.frames + 1 ≤ R.frames) (hR2 : 8 + (maxL + 11) + rm.locals ≤ R.locals) (hc1 : cells + mc ≤ R.cells) (hc2 : slots + mk ≤ R.slots) (hsz : ls.size = nL) (hst : (rest.map fun v => v.category).sum ≤ 8) (hdg : decode cc pc = .ok (.invokestatic index, 3)) (kk : ∀ (H1 : Heap) (locs1 : List Loc), Ws X B s.heap H1 locs1 t' → W p l e R s m args below meth c H1 locs1 (cells + mc) (slots + mk) Q (F0 m (pc + 3) ls (.long r :: rest))) (hrm : rm.cells = mc ∧ rm.slots = mk := by exact ⟨rfl, rfl⟩) : W p l e R s m args below meth c H locs cells slots Q (F0 m pc ls (As.reverse ++ rest)) := by
  refine va_calll (va_runS (As := As) (rest := rest) ⟨E.1, E.2.1, E.2.2.1, E.2.2.2.1, E.2.2.2.2.1⟩ hM (cw_S E hk hR1 hR2 hrm) ⟨Pre.blind, Pre.of E hW As⟩ rfl rfl hsz rfl (lv_room hst) hdg ⟨hc1, hc2⟩) hW.2.2 (fun q _ h => h) (fun q h => h) (fun r1 u t1 H1 locs1 ht hvm hw hB hz1 hk1 hS => ?_)
  obtain ⟨rfl, rfl⟩ := hw
  exact kk H1 locs1 ⟨by rw [← ht]; exact hB.1, hB.2, hS⟩
theorem callSV (E : Ev X B p s m args meth c own cc nL ret) (hW : Ws X B s.heap H locs t) (hM : Met l y (.code y bytes maxL ret2 :: BIG) rm (Pre X B t As) (QV X B t') mc mk (Ab B)) (hk : LkS own index y bytes maxL ret2 As.length) (hR1 : rm.frames + 1 ≤ R.frames) (hR2 : 8 + (maxL + 11) + rm.locals ≤ R.locals) (hc1 : cells + mc ≤ R.cells) (hc2 : slots + mk ≤ R.slots) (hsz : ls.size = nL) (hst : (rest.map fun v => v.category).sum ≤ 8) (hdg : decode cc pc = .ok (.invokestatic index, 3)) (kk : ∀ (H1 : Heap) (locs1 : List Loc), Ws X B s.heap H1 locs1 t' → W p l e R s m args below meth c H1 locs1 (cells + mc) (slots + mk) Q (F0 m (pc + 3) ls (rest))) (hrm : rm.cells = mc ∧ rm.slots = mk := by exact ⟨rfl, rfl⟩) : W p l e R s m args below meth c H locs cells slots Q (F0 m pc ls (As.reverse ++ rest)) := by
  refine va_callv (va_runS (As := As) (rest := rest) ⟨E.1, E.2.1, E.2.2.1, E.2.2.2.1, E.2.2.2.2.1⟩ hM (cw_S E hk hR1 hR2 hrm) ⟨Pre.blind, Pre.of E hW As⟩ rfl rfl hsz rfl (lv_room hst) hdg ⟨hc1, hc2⟩) hW.2.2 (fun q _ h => h) (fun q h => h) (fun u t1 H1 locs1 ht hvm hw hB hz1 hk1 hS => ?_)
  subst hw
  exact kk H1 locs1 ⟨by rw [← ht]; exact hB.1, hB.2, hS⟩
theorem callSQ {r : Option Nat} (E : Ev X B p s m args meth c own cc nL ret) (hW : Ws X B s.heap H locs t) (hM : Met l y (.code y bytes maxL ret2 :: BIG) rm (Pre X B t As) (QQ X B r t') mc mk (Ab B)) (hk : LkS own index y bytes maxL ret2 As.length) (hR1 : rm.frames + 1 ≤ R.frames) (hR2 : 8 + (maxL + 11) + rm.locals ≤ R.locals) (hc1 : cells + mc ≤ R.cells) (hc2 : slots + mk ≤ R.slots) (hsz : ls.size = nL) (hst : (rest.map fun v => v.category).sum ≤ 8) (hdg : decode cc pc = .ok (.invokestatic index, 3)) (kk : ∀ (H1 : Heap) (locs1 : List Loc), Ws X B s.heap H1 locs1 t' → W p l e R s m args below meth c H1 locs1 (cells + mc) (slots + mk) Q (F0 m (pc + 3) ls (va_rf r :: rest))) (hrm : rm.cells = mc ∧ rm.slots = mk := by exact ⟨rfl, rfl⟩) : W p l e R s m args below meth c H locs cells slots Q (F0 m pc ls (As.reverse ++ rest)) := by
  refine va_callq (va_runS (As := As) (rest := rest) ⟨E.1, E.2.1, E.2.2.1, E.2.2.2.1, E.2.2.2.2.1⟩ hM (cw_S E hk hR1 hR2 hrm) ⟨Pre.blind, Pre.of E hW As⟩ rfl rfl hsz rfl (lv_room hst) hdg ⟨hc1, hc2⟩) hW.2.2 (fun q _ h => h) (fun q h => h) (fun r1 u t1 H1 locs1 ht hvm hw hB hz1 hk1 hS => ?_)
  obtain ⟨rfl, rfl⟩ := hw
  exact kk H1 locs1 ⟨by rw [← ht]; exact hB.1, hB.2, hS⟩
theorem xcallSQ {r1 : Option Nat ⊕ String} {α : Type} {rr : α ⊕ String} {tt : TS} {mcT mkT : Nat} {Qc : Array Value → State → Outcome → State → Prop} (E : Ev X B p s m args meth c own cc nL ret) (hW : Ws X B s.heap H locs t) (hM : vx_Met l y (.code y bytes maxL ret2 :: BIG) rm (Pre X B t As) (QXQ X B r1 t') (XCx X B r1 t') mc mk (Ab B)) (hk : LkS own index y bytes maxL ret2 As.length) (hR1 : rm.frames + 1 ≤ R.frames) (hR2 : 8 + (maxL + 11) + rm.locals ≤ R.locals) (hc1 : cells + mc ≤ R.cells) (hc2 : slots + mk ≤ R.slots) (hsz : ls.size = nL) (hst : (rest.map fun v => v.category).sum ≤ 8) (hdg : decode cc pc = .ok (.invokestatic index, 3)) (hxt : ∀ x ∈ c.exceptionTable.toList, False) (hq1 : cells + mc ≤ mcT) (hq2 : slots + mk ≤ mkT) (he : ∀ z, r1 = .inr z → rr = .inr z ∧ tt = t') (kk : ∀ (r : Option Nat), r1 = .inl r → ∀ (H1 : Heap) (locs1 : List Loc), Ws X B s.heap H1 locs1 t' → W p l e R s m args below meth c H1 locs1 (cells + mc) (slots + mk) (vx_MQ below Qc (XCx X B rr tt) args s mcT mkT (Ab B)) (F0 m (pc + 3) ls (va_rf r :: rest))) (hrm : rm.cells = mc ∧ rm.slots = mk := by exact ⟨rfl, rfl⟩) : W p l e R s m args below meth c H locs cells slots (vx_MQ below Qc (XCx X B rr tt) args s mcT mkT (Ab B)) (F0 m pc ls (As.reverse ++ rest)) := by
  refine vx_callq (vx_runS (As := As) (rest := rest) ⟨E.1, E.2.1, E.2.2.1, E.2.2.2.1, E.2.2.2.2.1⟩ hM (cw_S E hk hR1 hR2 hrm) ⟨Pre.blind, Pre.of E hW As⟩ rfl rfl hsz rfl (lv_room hst) hdg ⟨hc1, hc2⟩) hW.2.2 (fun q _ h => h) (fun q h => h) (fun q _ h => h) (fun E9 ce q9 u t1 H1 locs1 ht hvm hp hB hz1 hk1 hS hce hcv hcl => ?_) (fun r1 u t1 H1 locs1 ht hvm hw hB hz1 hk1 hS => ?_)
  · subst hp
    obtain ⟨e1, rfl⟩ := he E9 hB.1
    exact vx_out (fun x hx => (hxt x hx).elim) E.2.2.2.2.2.2.2.1 hce hcv hcl (fun U hU _ => ⟨_, rfl, ⟨e1, by rw [hU, ← ht]; exact hB.2.1, hB.2.2⟩, hS.F hU⟩) hS.2.2 hq1 hq2
  · obtain ⟨rfl, rfl⟩ := hw
    exact kk _ rfl H1 locs1 ⟨by rw [← ht]; exact hB.1, hB.2, hS⟩
def Th (ik is ic : Nat) (cls text : String) : Prop := Cond.classLink RX8 ik cls ∈ BIG ∧ Cond.initialized cls ∈ BIG ∧ (is, text) ∈ strL ∧ (∀ w ∈ (vx_atS RX8 ic cls ["java/lang/RuntimeException", "java/lang/Exception"]).filter goodWord, w ∈ BIG) ∧ cls ∈ excL ∧ Bundle.fit cls = true ∧ (∀ w ∈ Cond.classLink RX8 ik cls :: Cond.initialized cls :: vx_atS RX8 ic cls ["java/lang/RuntimeException", "java/lang/Exception"], vx_ot w = true) ∧ ∀ w ∈ (vx_atS RX8 ic cls ["java/lang/RuntimeException", "java/lang/Exception"]).filter (fun w => !goodWord w), w ∈ [Cond.castable cls cls]
theorem throwS {α : Type} {ik is ic mcT mkT : Nat} {cls text : String} {rr : α ⊕ String} {tt : TS} {Qc : Array Value → State → Outcome → State → Prop} (E : Ev X B p s m args meth c RX8 cc nL ret) (hl0 : l.stackTraces = false) (hxt : ∀ x ∈ c.exceptionTable.toList, False) (hW : Ws X B s.heap H locs t) (h : Th ik is ic cls text) (d0 : decode cc pc = .ok (.new ik, 3)) (d3 : decode cc (pc + 3) = .ok (.dup, 1)) (d4 : decode cc (pc + 4) = .ok (.ldc is, 2)) (d6 : decode cc (pc + 6) = .ok (.invokespecial ic, 3)) (d9 : decode cc (pc + 9) = .ok (.athrow, 1)) (hr : rr = .inr cls ∧ tt = t) (hst : (rest.map fun v => v.category).sum ≤ 8) (hR1 : 6 ≤ R.frames) (hR2 : 90 ≤ R.locals) (hRc : cells + 1 ≤ R.cells) (hRs : slots + 6 ≤ R.slots) (hq1 : cells + 1 ≤ mcT) (hq2 : slots + 6 ≤ mkT) (hsz : ls.size = c.maxLocals) : W p l e R s m args below meth c H locs cells slots (vx_MQ below Qc (XCx X B rr tt) args s mcT mkT (Ab B)) (F0 m pc ls rest) := by
  obtain ⟨h1, h2, h3, h4, h5, h6, h7, h8⟩ := h
  have hZ := E.2.2.2.2.2.2.2.2.2
  refine vx_throwS (names := ["java/lang/RuntimeException", "java/lang/Exception"]) E.1 E.2.1 hl0 E.2.2.2.1 h6 (by decide +kernel) (E.2.2.2.2.1 _ h1) (E.2.2.2.2.1 _ h2) (hZ.2.2.1 _ h3) (vx_hat (fun w hw => E.2.2.2.2.1 w (h4 w hw)) h8 (vx_c (va_Nw.use rfl (hZ.2.2.2.1 cls h5)) vx_n)) h7 hZ.1 hZ.2.1 hW.2.2 hsz d0 d3 d4 d6 d9 (fun x hx => (hxt x hx).elim) (Nat.lt_of_lt_of_le (by decide) hR1) (Nat.le_trans (Nat.add_le_add_right hst _) hR2) hRc hRs E.2.2.2.2.2.2.2.1 (fun U hU hz hq => ?_) hW.2.2.2.2 hq1 hq2
  refine ⟨tt, rfl, ⟨hr.1, ?_⟩, ?_⟩
  · rw [hr.2]
    exact ⟨hW.1.kept (fun k q hk => hq q.1 (hW.1 k q hk).lt), hW.2.1⟩
  · exact ⟨Nat.le_trans hW.2.2.1 hz, fun q h9 h10 => (hq q (Nat.lt_of_lt_of_le h9 hW.2.2.1)).trans (hW.2.2.2.1 q h9 h10)⟩
theorem throwSW {α : Type} {ik is ic mcT mkT : Nat} {cls text : String} {rr : α ⊕ String} {tt : TS} {Qc : Array Value → State → Outcome → State → Prop} (E : Ev X B p s m args meth c RX8 cc nL ret) (hl0 : l.stackTraces = false) (hxt : ∀ x ∈ c.exceptionTable.toList, False) (hW : Ws X B s.heap H locs t) (h : Th ik is ic cls text) (d0 : decode cc pc = .ok (.new ik, 3)) (d3 : decode cc (pc + 3) = .ok (.dup, 1)) (d4 : decode cc (pc + 4) = .ok (.ldc_w is, 3)) (d6 : decode cc (pc + 7) = .ok (.invokespecial ic, 3)) (d9 : decode cc (pc + 10) = .ok (.athrow, 1)) (hr : rr = .inr cls ∧ tt = t) (hst : (rest.map fun v => v.category).sum ≤ 8) (hR1 : 6 ≤ R.frames) (hR2 : 90 ≤ R.locals) (hRc : cells + 1 ≤ R.cells) (hRs : slots + 6 ≤ R.slots) (hq1 : cells + 1 ≤ mcT) (hq2 : slots + 6 ≤ mkT) (hsz : ls.size = c.maxLocals) : W p l e R s m args below meth c H locs cells slots (vx_MQ below Qc (XCx X B rr tt) args s mcT mkT (Ab B)) (F0 m pc ls rest) := by
  obtain ⟨h1, h2, h3, h4, h5, h6, h7, h8⟩ := h
  have hZ := E.2.2.2.2.2.2.2.2.2
  refine vx_throwSW (names := ["java/lang/RuntimeException", "java/lang/Exception"]) E.1 E.2.1 hl0 E.2.2.2.1 h6 (by decide +kernel) (E.2.2.2.2.1 _ h1) (E.2.2.2.2.1 _ h2) (hZ.2.2.1 _ h3) (vx_hat (fun w hw => E.2.2.2.2.1 w (h4 w hw)) h8 (vx_c (va_Nw.use rfl (hZ.2.2.2.1 cls h5)) vx_n)) h7 hZ.1 hZ.2.1 hW.2.2 hsz d0 d3 d4 d6 d9 (fun x hx => (hxt x hx).elim) (Nat.lt_of_lt_of_le (by decide) hR1) (Nat.le_trans (Nat.add_le_add_right hst _) hR2) hRc hRs E.2.2.2.2.2.2.2.1 (fun U hU hz hq => ?_) hW.2.2.2.2 hq1 hq2
  refine ⟨tt, rfl, ⟨hr.1, ?_⟩, ?_⟩
  · rw [hr.2]
    exact ⟨hW.1.kept (fun k q hk => hq q.1 (hW.1 k q hk).lt), hW.2.1⟩
  · exact ⟨Nat.le_trans hW.2.2.1 hz, fun q h9 h10 => (hq q (Nat.lt_of_lt_of_le h9 hW.2.2.1)).trans (hW.2.2.2.1 q h9 h10)⟩
end CALLS
theorem km_X0_held_inst : Cond.instanceMethod yX0_held ∈ BIG := bigm (List.mem_of_getElem? (i := 317) (by decide +kernel)) (by decide +kernel)
theorem km_X0_held_sel : Cond.selects RX0 yX0_held yX0_held ∈ BIG := bigm (List.mem_of_getElem? (i := 318) (by decide +kernel)) (by decide +kernel)
theorem km_X0_held_code : Cond.code yX0_held cX0_held 1 (some .int) ∈ BIG := bigm (List.mem_of_getElem? (i := 319) (by decide +kernel)) (by decide +kernel)
theorem km_X0_forget_inst : Cond.instanceMethod yX0_forget ∈ BIG := bigm (List.mem_of_getElem? (i := 790) (by decide +kernel)) (by decide +kernel)
theorem km_X0_forget_sel : Cond.selects RX0 yX0_forget yX0_forget ∈ BIG := bigm (List.mem_of_getElem? (i := 791) (by decide +kernel)) (by decide +kernel)
theorem km_X0_forget_code : Cond.code yX0_forget cX0_forget 1 none ∈ BIG := bigm (List.mem_of_getElem? (i := 792) (by decide +kernel)) (by decide +kernel)
theorem km_X0_remember_inst : Cond.instanceMethod yX0_remember ∈ BIG := bigm (List.mem_of_getElem? (i := 813) (by decide +kernel)) (by decide +kernel)
theorem km_X0_remember_sel : Cond.selects RX0 yX0_remember yX0_remember ∈ BIG := bigm (List.mem_of_getElem? (i := 814) (by decide +kernel)) (by decide +kernel)
theorem km_X0_remember_code : Cond.code yX0_remember cX0_remember 3 none ∈ BIG := bigm (List.mem_of_getElem? (i := 815) (by decide +kernel)) (by decide +kernel)
theorem km_X0_latestAct_inst : Cond.instanceMethod yX0_latestAct ∈ BIG := bigm (List.mem_of_getElem? (i := 325) (by decide +kernel)) (by decide +kernel)
theorem km_X0_latestAct_sel : Cond.selects RX0 yX0_latestAct yX0_latestAct ∈ BIG := bigm (List.mem_of_getElem? (i := 326) (by decide +kernel)) (by decide +kernel)
theorem km_X0_latestAct_code : Cond.code yX0_latestAct cX0_latestAct 1 (some .int) ∈ BIG := bigm (List.mem_of_getElem? (i := 327) (by decide +kernel)) (by decide +kernel)
theorem km_X0_latestNumber_inst : Cond.instanceMethod yX0_latestNumber ∈ BIG := bigm (List.mem_of_getElem? (i := 329) (by decide +kernel)) (by decide +kernel)
theorem km_X0_latestNumber_sel : Cond.selects RX0 yX0_latestNumber yX0_latestNumber ∈ BIG := bigm (List.mem_of_getElem? (i := 330) (by decide +kernel)) (by decide +kernel)
theorem km_X0_latestNumber_code : Cond.code yX0_latestNumber cX0_latestNumber 1 (some .int) ∈ BIG := bigm (List.mem_of_getElem? (i := 331) (by decide +kernel)) (by decide +kernel)
theorem km_X0_dropLatest_inst : Cond.instanceMethod yX0_dropLatest ∈ BIG := bigm (List.mem_of_getElem? (i := 333) (by decide +kernel)) (by decide +kernel)
theorem km_X0_dropLatest_sel : Cond.selects RX0 yX0_dropLatest yX0_dropLatest ∈ BIG := bigm (List.mem_of_getElem? (i := 334) (by decide +kernel)) (by decide +kernel)
theorem km_X0_dropLatest_code : Cond.code yX0_dropLatest cX0_dropLatest 1 none ∈ BIG := bigm (List.mem_of_getElem? (i := 335) (by decide +kernel)) (by decide +kernel)
theorem km_X0_dropEldest_inst : Cond.instanceMethod yX0_dropEldest ∈ BIG := bigm (List.mem_of_getElem? (i := 818) (by decide +kernel)) (by decide +kernel)
theorem km_X0_dropEldest_sel : Cond.selects RX0 yX0_dropEldest yX0_dropEldest ∈ BIG := bigm (List.mem_of_getElem? (i := 31) (by decide +kernel)) (by decide +kernel)
theorem km_X0_dropEldest_code : Cond.code yX0_dropEldest cX0_dropEldest 2 none ∈ BIG := bigm (List.mem_of_getElem? (i := 819) (by decide +kernel)) (by decide +kernel)
theorem km_X1_isOn_inst : Cond.instanceMethod yX1_isOn ∈ BIG := bigm (List.mem_of_getElem? (i := 786) (by decide +kernel)) (by decide +kernel)
theorem km_X1_isOn_sel : Cond.selects RX1 yX1_isOn yX1_isOn ∈ BIG := bigm (List.mem_of_getElem? (i := 787) (by decide +kernel)) (by decide +kernel)
theorem km_X1_isOn_code : Cond.code yX1_isOn cX1_isOn 2 (some .boolean) ∈ BIG := bigm (List.mem_of_getElem? (i := 788) (by decide +kernel)) (by decide +kernel)
theorem km_X2_size_inst : Cond.instanceMethod yX2_size ∈ BIG := bigm (List.mem_of_getElem? (i := 973) (by decide +kernel)) (by decide +kernel)
theorem km_X2_size_sel : Cond.selects RX2 yX2_size yX2_size ∈ BIG := bigm (List.mem_of_getElem? (i := 974) (by decide +kernel)) (by decide +kernel)
theorem km_X2_size_code : Cond.code yX2_size cX2_size 1 (some .int) ∈ BIG := bigm (List.mem_of_getElem? (i := 975) (by decide +kernel)) (by decide +kernel)
theorem km_X2_numberAt_inst : Cond.instanceMethod yX2_numberAt ∈ BIG := bigm (List.mem_of_getElem? (i := 297) (by decide +kernel)) (by decide +kernel)
theorem km_X2_numberAt_sel : Cond.selects RX2 yX2_numberAt yX2_numberAt ∈ BIG := bigm (List.mem_of_getElem? (i := 298) (by decide +kernel)) (by decide +kernel)
theorem km_X2_numberAt_code : Cond.code yX2_numberAt cX2_numberAt 2 (some .int) ∈ BIG := bigm (List.mem_of_getElem? (i := 299) (by decide +kernel)) (by decide +kernel)
theorem km_X2_clear_inst : Cond.instanceMethod yX2_clear ∈ BIG := bigm (List.mem_of_getElem? (i := 953) (by decide +kernel)) (by decide +kernel)
theorem km_X2_clear_sel : Cond.selects RX2 yX2_clear yX2_clear ∈ BIG := bigm (List.mem_of_getElem? (i := 954) (by decide +kernel)) (by decide +kernel)
theorem km_X2_clear_code : Cond.code yX2_clear cX2_clear 1 none ∈ BIG := bigm (List.mem_of_getElem? (i := 955) (by decide +kernel)) (by decide +kernel)
theorem km_X2_insert_inst : Cond.instanceMethod yX2_insert ∈ BIG := bigm (List.mem_of_getElem? (i := 961) (by decide +kernel)) (by decide +kernel)
theorem km_X2_insert_sel : Cond.selects RX2 yX2_insert yX2_insert ∈ BIG := bigm (List.mem_of_getElem? (i := 962) (by decide +kernel)) (by decide +kernel)
theorem km_X2_insert_code : Cond.code yX2_insert cX2_insert 5 none ∈ BIG := bigm (List.mem_of_getElem? (i := 963) (by decide +kernel)) (by decide +kernel)
theorem km_X2_goesAhead_inst : Cond.instanceMethod yX2_goesAhead ∈ BIG := bigm (List.mem_of_getElem? (i := 966) (by decide +kernel)) (by decide +kernel)
theorem km_X2_goesAhead_sel : Cond.selects RX2 yX2_goesAhead yX2_goesAhead ∈ BIG := bigm (List.mem_of_getElem? (i := 42) (by decide +kernel)) (by decide +kernel)
theorem km_X2_goesAhead_code : Cond.code yX2_goesAhead cX2_goesAhead 4 (some .boolean) ∈ BIG := bigm (List.mem_of_getElem? (i := 967) (by decide +kernel)) (by decide +kernel)
theorem km_X2_write_inst : Cond.instanceMethod yX2_write ∈ BIG := bigm (List.mem_of_getElem? (i := 970) (by decide +kernel)) (by decide +kernel)
theorem km_X2_write_sel : Cond.selects RX2 yX2_write yX2_write ∈ BIG := bigm (List.mem_of_getElem? (i := 43) (by decide +kernel)) (by decide +kernel)
theorem km_X2_write_code : Cond.code yX2_write cX2_write 5 none ∈ BIG := bigm (List.mem_of_getElem? (i := 971) (by decide +kernel)) (by decide +kernel)
theorem km_X3_signOf_static : Cond.static yX3_signOf ∈ BIG := bigm (List.mem_of_getElem? (i := 641) (by decide +kernel)) (by decide +kernel)
theorem km_X3_signOf_code : Cond.code yX3_signOf cX3_signOf 1 (some .int) ∈ BIG := bigm (List.mem_of_getElem? (i := 642) (by decide +kernel)) (by decide +kernel)
theorem km_X3_passes_static : Cond.static yX3_passes ∈ BIG := bigm (List.mem_of_getElem? (i := 645) (by decide +kernel)) (by decide +kernel)
theorem km_X3_passes_code : Cond.code yX3_passes cX3_passes 6 (some .boolean) ∈ BIG := bigm (List.mem_of_getElem? (i := 646) (by decide +kernel)) (by decide +kernel)
theorem km_X3_size_inst : Cond.instanceMethod yX3_size ∈ BIG := bigm (List.mem_of_getElem? (i := 617) (by decide +kernel)) (by decide +kernel)
theorem km_X3_size_sel : Cond.selects RX3 yX3_size yX3_size ∈ BIG := bigm (List.mem_of_getElem? (i := 618) (by decide +kernel)) (by decide +kernel)
theorem km_X3_size_code : Cond.code yX3_size cX3_size 1 (some .int) ∈ BIG := bigm (List.mem_of_getElem? (i := 619) (by decide +kernel)) (by decide +kernel)
theorem km_X3_stepAt_inst : Cond.instanceMethod yX3_stepAt ∈ BIG := bigm (List.mem_of_getElem? (i := 625) (by decide +kernel)) (by decide +kernel)
theorem km_X3_stepAt_sel : Cond.selects RX3 yX3_stepAt yX3_stepAt ∈ BIG := bigm (List.mem_of_getElem? (i := 626) (by decide +kernel)) (by decide +kernel)
theorem km_X3_stepAt_code : Cond.code yX3_stepAt cX3_stepAt 2 (some .int) ∈ BIG := bigm (List.mem_of_getElem? (i := 627) (by decide +kernel)) (by decide +kernel)
theorem km_X3_read_inst : Cond.instanceMethod yX3_read ∈ BIG := bigm (List.mem_of_getElem? (i := 556) (by decide +kernel)) (by decide +kernel)
theorem km_X3_read_sel : Cond.selects RX3 yX3_read yX3_read ∈ BIG := bigm (List.mem_of_getElem? (i := 557) (by decide +kernel)) (by decide +kernel)
theorem km_X3_read_code : Cond.code yX3_read cX3_read 4 (some .int) ∈ BIG := bigm (List.mem_of_getElem? (i := 558) (by decide +kernel)) (by decide +kernel)
theorem km_X3_readAny_inst : Cond.instanceMethod yX3_readAny ∈ BIG := bigm (List.mem_of_getElem? (i := 567) (by decide +kernel)) (by decide +kernel)
theorem km_X3_readAny_sel : Cond.selects RX3 yX3_readAny yX3_readAny ∈ BIG := bigm (List.mem_of_getElem? (i := 11) (by decide +kernel)) (by decide +kernel)
theorem km_X3_readAny_code : Cond.code yX3_readAny cX3_readAny 3 none ∈ BIG := bigm (List.mem_of_getElem? (i := 568) (by decide +kernel)) (by decide +kernel)
theorem km_X3_readAll_inst : Cond.instanceMethod yX3_readAll ∈ BIG := bigm (List.mem_of_getElem? (i := 571) (by decide +kernel)) (by decide +kernel)
theorem km_X3_readAll_sel : Cond.selects RX3 yX3_readAll yX3_readAll ∈ BIG := bigm (List.mem_of_getElem? (i := 12) (by decide +kernel)) (by decide +kernel)
theorem km_X3_readAll_code : Cond.code yX3_readAll cX3_readAll 3 none ∈ BIG := bigm (List.mem_of_getElem? (i := 572) (by decide +kernel)) (by decide +kernel)
theorem km_X3_readUnit_inst : Cond.instanceMethod yX3_readUnit ∈ BIG := bigm (List.mem_of_getElem? (i := 575) (by decide +kernel)) (by decide +kernel)
theorem km_X3_readUnit_sel : Cond.selects RX3 yX3_readUnit yX3_readUnit ∈ BIG := bigm (List.mem_of_getElem? (i := 13) (by decide +kernel)) (by decide +kernel)
theorem km_X3_readUnit_code : Cond.code yX3_readUnit cX3_readUnit 2 none ∈ BIG := bigm (List.mem_of_getElem? (i := 576) (by decide +kernel)) (by decide +kernel)
theorem km_X3_readTest_inst : Cond.instanceMethod yX3_readTest ∈ BIG := bigm (List.mem_of_getElem? (i := 599) (by decide +kernel)) (by decide +kernel)
theorem km_X3_readTest_sel : Cond.selects RX3 yX3_readTest yX3_readTest ∈ BIG := bigm (List.mem_of_getElem? (i := 19) (by decide +kernel)) (by decide +kernel)
theorem km_X3_readTest_code : Cond.code yX3_readTest cX3_readTest 2 none ∈ BIG := bigm (List.mem_of_getElem? (i := 600) (by decide +kernel)) (by decide +kernel)
theorem km_X3_readNumber_inst : Cond.instanceMethod yX3_readNumber ∈ BIG := bigm (List.mem_of_getElem? (i := 603) (by decide +kernel)) (by decide +kernel)
theorem km_X3_readNumber_sel : Cond.selects RX3 yX3_readNumber yX3_readNumber ∈ BIG := bigm (List.mem_of_getElem? (i := 20) (by decide +kernel)) (by decide +kernel)
theorem km_X3_readNumber_code : Cond.code yX3_readNumber cX3_readNumber 4 (some .int) ∈ BIG := bigm (List.mem_of_getElem? (i := 604) (by decide +kernel)) (by decide +kernel)
theorem km_X3_readLetter_inst : Cond.instanceMethod yX3_readLetter ∈ BIG := bigm (List.mem_of_getElem? (i := 610) (by decide +kernel)) (by decide +kernel)
theorem km_X3_readLetter_sel : Cond.selects RX3 yX3_readLetter yX3_readLetter ∈ BIG := bigm (List.mem_of_getElem? (i := 21) (by decide +kernel)) (by decide +kernel)
theorem km_X3_readLetter_code : Cond.code yX3_readLetter cX3_readLetter 2 (some .int) ∈ BIG := bigm (List.mem_of_getElem? (i := 611) (by decide +kernel)) (by decide +kernel)
theorem km_X3_isDigit_static : Cond.static yX3_isDigit ∈ BIG := bigm (List.mem_of_getElem? (i := 606) (by decide +kernel)) (by decide +kernel)
theorem km_X3_isDigit_code : Cond.code yX3_isDigit cX3_isDigit 1 (some .boolean) ∈ BIG := bigm (List.mem_of_getElem? (i := 607) (by decide +kernel)) (by decide +kernel)
theorem km_X3_comes_inst : Cond.instanceMethod yX3_comes ∈ BIG := bigm (List.mem_of_getElem? (i := 579) (by decide +kernel)) (by decide +kernel)
theorem km_X3_comes_sel : Cond.selects RX3 yX3_comes yX3_comes ∈ BIG := bigm (List.mem_of_getElem? (i := 14) (by decide +kernel)) (by decide +kernel)
theorem km_X3_comes_code : Cond.code yX3_comes cX3_comes 2 (some .boolean) ∈ BIG := bigm (List.mem_of_getElem? (i := 580) (by decide +kernel)) (by decide +kernel)
theorem km_X3_must_inst : Cond.instanceMethod yX3_must ∈ BIG := bigm (List.mem_of_getElem? (i := 595) (by decide +kernel)) (by decide +kernel)
theorem km_X3_must_sel : Cond.selects RX3 yX3_must yX3_must ∈ BIG := bigm (List.mem_of_getElem? (i := 18) (by decide +kernel)) (by decide +kernel)
theorem km_X3_must_code : Cond.code yX3_must cX3_must 2 none ∈ BIG := bigm (List.mem_of_getElem? (i := 596) (by decide +kernel)) (by decide +kernel)
theorem km_X3_nextByte_inst : Cond.instanceMethod yX3_nextByte ∈ BIG := bigm (List.mem_of_getElem? (i := 583) (by decide +kernel)) (by decide +kernel)
theorem km_X3_nextByte_sel : Cond.selects RX3 yX3_nextByte yX3_nextByte ∈ BIG := bigm (List.mem_of_getElem? (i := 15) (by decide +kernel)) (by decide +kernel)
theorem km_X3_nextByte_code : Cond.code yX3_nextByte cX3_nextByte 1 (some .int) ∈ BIG := bigm (List.mem_of_getElem? (i := 584) (by decide +kernel)) (by decide +kernel)
theorem km_X3_byteHere_inst : Cond.instanceMethod yX3_byteHere ∈ BIG := bigm (List.mem_of_getElem? (i := 587) (by decide +kernel)) (by decide +kernel)
theorem km_X3_byteHere_sel : Cond.selects RX3 yX3_byteHere yX3_byteHere ∈ BIG := bigm (List.mem_of_getElem? (i := 16) (by decide +kernel)) (by decide +kernel)
theorem km_X3_byteHere_code : Cond.code yX3_byteHere cX3_byteHere 1 (some .int) ∈ BIG := bigm (List.mem_of_getElem? (i := 588) (by decide +kernel)) (by decide +kernel)
theorem km_X3_add_inst : Cond.instanceMethod yX3_add ∈ BIG := bigm (List.mem_of_getElem? (i := 591) (by decide +kernel)) (by decide +kernel)
theorem km_X3_add_sel : Cond.selects RX3 yX3_add yX3_add ∈ BIG := bigm (List.mem_of_getElem? (i := 17) (by decide +kernel)) (by decide +kernel)
theorem km_X3_add_code : Cond.code yX3_add cX3_add 4 none ∈ BIG := bigm (List.mem_of_getElem? (i := 592) (by decide +kernel)) (by decide +kernel)
theorem km_X4_made_inst : Cond.instanceMethod yX4_made ∈ BIG := bigm (List.mem_of_getElem? (i := 313) (by decide +kernel)) (by decide +kernel)
theorem km_X4_made_sel : Cond.selects RX4 yX4_made yX4_made ∈ BIG := bigm (List.mem_of_getElem? (i := 314) (by decide +kernel)) (by decide +kernel)
theorem km_X4_made_code : Cond.code yX4_made cX4_made 1 (some .int) ∈ BIG := bigm (List.mem_of_getElem? (i := 315) (by decide +kernel)) (by decide +kernel)
theorem km_X4_fed_inst : Cond.instanceMethod yX4_fed ∈ BIG := bigm (List.mem_of_getElem? (i := 289) (by decide +kernel)) (by decide +kernel)
theorem km_X4_fed_sel : Cond.selects RX4 yX4_fed yX4_fed ∈ BIG := bigm (List.mem_of_getElem? (i := 290) (by decide +kernel)) (by decide +kernel)
theorem km_X4_fed_code : Cond.code yX4_fed cX4_fed 1 (some .int) ∈ BIG := bigm (List.mem_of_getElem? (i := 291) (by decide +kernel)) (by decide +kernel)
theorem km_X4_hasRoomToFeed_inst : Cond.instanceMethod yX4_hasRoomToFeed ∈ BIG := bigm (List.mem_of_getElem? (i := 281) (by decide +kernel)) (by decide +kernel)
theorem km_X4_hasRoomToFeed_sel : Cond.selects RX4 yX4_hasRoomToFeed yX4_hasRoomToFeed ∈ BIG := bigm (List.mem_of_getElem? (i := 282) (by decide +kernel)) (by decide +kernel)
theorem km_X4_hasRoomToFeed_code : Cond.code yX4_hasRoomToFeed cX4_hasRoomToFeed 1 (some .boolean) ∈ BIG := bigm (List.mem_of_getElem? (i := 283) (by decide +kernel)) (by decide +kernel)
theorem km_X4_append_inst : Cond.instanceMethod yX4_append ∈ BIG := bigm (List.mem_of_getElem? (i := 285) (by decide +kernel)) (by decide +kernel)
theorem km_X4_append_sel : Cond.selects RX4 yX4_append yX4_append ∈ BIG := bigm (List.mem_of_getElem? (i := 286) (by decide +kernel)) (by decide +kernel)
theorem km_X4_append_code : Cond.code yX4_append cX4_append 3 none ∈ BIG := bigm (List.mem_of_getElem? (i := 287) (by decide +kernel)) (by decide +kernel)
theorem km_X4_readTape_inst : Cond.instanceMethod yX4_readTape ∈ BIG := bigm (List.mem_of_getElem? (i := 552) (by decide +kernel)) (by decide +kernel)
theorem km_X4_readTape_sel : Cond.selects RX4 yX4_readTape yX4_readTape ∈ BIG := bigm (List.mem_of_getElem? (i := 553) (by decide +kernel)) (by decide +kernel)
theorem km_X4_readTape_code : Cond.code yX4_readTape cX4_readTape 3 (some .int) ∈ BIG := bigm (List.mem_of_getElem? (i := 554) (by decide +kernel)) (by decide +kernel)
theorem km_X4_keep_inst : Cond.instanceMethod yX4_keep ∈ BIG := bigm (List.mem_of_getElem? (i := 614) (by decide +kernel)) (by decide +kernel)
theorem km_X4_keep_sel : Cond.selects RX4 yX4_keep yX4_keep ∈ BIG := bigm (List.mem_of_getElem? (i := 22) (by decide +kernel)) (by decide +kernel)
theorem km_X4_keep_code : Cond.code yX4_keep cX4_keep 3 none ∈ BIG := bigm (List.mem_of_getElem? (i := 615) (by decide +kernel)) (by decide +kernel)
theorem km_X4_stepPlace_inst : Cond.instanceMethod yX4_stepPlace ∈ BIG := bigm (List.mem_of_getElem? (i := 622) (by decide +kernel)) (by decide +kernel)
theorem km_X4_stepPlace_sel : Cond.selects RX4 yX4_stepPlace yX4_stepPlace ∈ BIG := bigm (List.mem_of_getElem? (i := 23) (by decide +kernel)) (by decide +kernel)
theorem km_X4_stepPlace_code : Cond.code yX4_stepPlace cX4_stepPlace 4 (some .int) ∈ BIG := bigm (List.mem_of_getElem? (i := 623) (by decide +kernel)) (by decide +kernel)
theorem km_X4_holds_inst : Cond.instanceMethod yX4_holds ∈ BIG := bigm (List.mem_of_getElem? (i := 637) (by decide +kernel)) (by decide +kernel)
theorem km_X4_holds_sel : Cond.selects RX4 yX4_holds yX4_holds ∈ BIG := bigm (List.mem_of_getElem? (i := 638) (by decide +kernel)) (by decide +kernel)
theorem km_X4_holds_code : Cond.code yX4_holds cX4_holds 11 (some .boolean) ∈ BIG := bigm (List.mem_of_getElem? (i := 639) (by decide +kernel)) (by decide +kernel)
theorem km_X6_isModel_static : Cond.static yX6_isModel ∈ BIG := bigm (List.mem_of_getElem? (i := 656) (by decide +kernel)) (by decide +kernel)
theorem km_X6_isModel_code : Cond.code yX6_isModel cX6_isModel 1 (some .boolean) ∈ BIG := bigm (List.mem_of_getElem? (i := 657) (by decide +kernel)) (by decide +kernel)
theorem km_X6_partsOf_inst : Cond.instanceMethod yX6_partsOf ∈ BIG := bigm (List.mem_of_getElem? (i := 364) (by decide +kernel)) (by decide +kernel)
theorem km_X6_partsOf_sel : Cond.selects RX6 yX6_partsOf yX6_partsOf ∈ BIG := bigm (List.mem_of_getElem? (i := 365) (by decide +kernel)) (by decide +kernel)
theorem km_X6_partsOf_code : Cond.code yX6_partsOf cX6_partsOf 2 (some .int) ∈ BIG := bigm (List.mem_of_getElem? (i := 366) (by decide +kernel)) (by decide +kernel)
theorem km_X6_add_inst : Cond.instanceMethod yX6_add ∈ BIG := bigm (List.mem_of_getElem? (i := 697) (by decide +kernel)) (by decide +kernel)
theorem km_X6_add_sel : Cond.selects RX6 yX6_add yX6_add ∈ BIG := bigm (List.mem_of_getElem? (i := 698) (by decide +kernel)) (by decide +kernel)
theorem km_X6_add_code : Cond.code yX6_add cX6_add 3 (some .int) ∈ BIG := bigm (List.mem_of_getElem? (i := 699) (by decide +kernel)) (by decide +kernel)
theorem km_X6_factOf_inst : Cond.instanceMethod yX6_factOf ∈ BIG := bigm (List.mem_of_getElem? (i := 356) (by decide +kernel)) (by decide +kernel)
theorem km_X6_factOf_sel : Cond.selects RX6 yX6_factOf yX6_factOf ∈ BIG := bigm (List.mem_of_getElem? (i := 357) (by decide +kernel)) (by decide +kernel)
theorem km_X6_factOf_code : Cond.code yX6_factOf cX6_factOf 5 (some .int) ∈ BIG := bigm (List.mem_of_getElem? (i := 358) (by decide +kernel)) (by decide +kernel)
theorem km_X6_store_inst : Cond.instanceMethod yX6_store ∈ BIG := bigm (List.mem_of_getElem? (i := 701) (by decide +kernel)) (by decide +kernel)
theorem km_X6_store_sel : Cond.selects RX6 yX6_store yX6_store ∈ BIG := bigm (List.mem_of_getElem? (i := 702) (by decide +kernel)) (by decide +kernel)
theorem km_X6_store_code : Cond.code yX6_store cX6_store 6 none ∈ BIG := bigm (List.mem_of_getElem? (i := 703) (by decide +kernel)) (by decide +kernel)
theorem km_X6_hasShell_inst : Cond.instanceMethod yX6_hasShell ∈ BIG := bigm (List.mem_of_getElem? (i := 688) (by decide +kernel)) (by decide +kernel)
theorem km_X6_hasShell_sel : Cond.selects RX6 yX6_hasShell yX6_hasShell ∈ BIG := bigm (List.mem_of_getElem? (i := 689) (by decide +kernel)) (by decide +kernel)
theorem km_X6_hasShell_code : Cond.code yX6_hasShell cX6_hasShell 3 (some .boolean) ∈ BIG := bigm (List.mem_of_getElem? (i := 690) (by decide +kernel)) (by decide +kernel)
theorem km_X6_placeOf_inst : Cond.instanceMethod yX6_placeOf ∈ BIG := bigm (List.mem_of_getElem? (i := 361) (by decide +kernel)) (by decide +kernel)
theorem km_X6_placeOf_sel : Cond.selects RX6 yX6_placeOf yX6_placeOf ∈ BIG := bigm (List.mem_of_getElem? (i := 4) (by decide +kernel)) (by decide +kernel)
theorem km_X6_placeOf_code : Cond.code yX6_placeOf cX6_placeOf 6 (some .int) ∈ BIG := bigm (List.mem_of_getElem? (i := 362) (by decide +kernel)) (by decide +kernel)
theorem km_X7_isWidth_static : Cond.static yX7_isWidth ∈ BIG := bigm (List.mem_of_getElem? (i := 385) (by decide +kernel)) (by decide +kernel)
theorem km_X7_isWidth_code : Cond.code yX7_isWidth cX7_isWidth 1 (some .boolean) ∈ BIG := bigm (List.mem_of_getElem? (i := 386) (by decide +kernel)) (by decide +kernel)
theorem km_X7_made_inst : Cond.instanceMethod yX7_made ∈ BIG := bigm (List.mem_of_getElem? (i := 309) (by decide +kernel)) (by decide +kernel)
theorem km_X7_made_sel : Cond.selects RX7 yX7_made yX7_made ∈ BIG := bigm (List.mem_of_getElem? (i := 310) (by decide +kernel)) (by decide +kernel)
theorem km_X7_made_code : Cond.code yX7_made cX7_made 1 (some .int) ∈ BIG := bigm (List.mem_of_getElem? (i := 311) (by decide +kernel)) (by decide +kernel)
theorem km_X7_open_inst : Cond.instanceMethod yX7_open ∈ BIG := bigm (List.mem_of_getElem? (i := 456) (by decide +kernel)) (by decide +kernel)
theorem km_X7_open_sel : Cond.selects RX7 yX7_open yX7_open ∈ BIG := bigm (List.mem_of_getElem? (i := 457) (by decide +kernel)) (by decide +kernel)
theorem km_X7_open_code : Cond.code yX7_open cX7_open 2 (some .int) ∈ BIG := bigm (List.mem_of_getElem? (i := 458) (by decide +kernel)) (by decide +kernel)
theorem km_X7_slotAt_inst : Cond.instanceMethod yX7_slotAt ∈ BIG := bigm (List.mem_of_getElem? (i := 488) (by decide +kernel)) (by decide +kernel)
theorem km_X7_slotAt_sel : Cond.selects RX7 yX7_slotAt yX7_slotAt ∈ BIG := bigm (List.mem_of_getElem? (i := 489) (by decide +kernel)) (by decide +kernel)
theorem km_X7_slotAt_code : Cond.code yX7_slotAt cX7_slotAt 3 (some .int) ∈ BIG := bigm (List.mem_of_getElem? (i := 490) (by decide +kernel)) (by decide +kernel)
theorem km_X7_lengthAt_inst : Cond.instanceMethod yX7_lengthAt ∈ BIG := bigm (List.mem_of_getElem? (i := 520) (by decide +kernel)) (by decide +kernel)
theorem km_X7_lengthAt_sel : Cond.selects RX7 yX7_lengthAt yX7_lengthAt ∈ BIG := bigm (List.mem_of_getElem? (i := 521) (by decide +kernel)) (by decide +kernel)
theorem km_X7_lengthAt_code : Cond.code yX7_lengthAt cX7_lengthAt 2 (some .int) ∈ BIG := bigm (List.mem_of_getElem? (i := 522) (by decide +kernel)) (by decide +kernel)
theorem km_X7_renew_inst : Cond.instanceMethod yX7_renew ∈ BIG := bigm (List.mem_of_getElem? (i := 508) (by decide +kernel)) (by decide +kernel)
theorem km_X7_renew_sel : Cond.selects RX7 yX7_renew yX7_renew ∈ BIG := bigm (List.mem_of_getElem? (i := 509) (by decide +kernel)) (by decide +kernel)
theorem km_X7_renew_code : Cond.code yX7_renew cX7_renew 4 none ∈ BIG := bigm (List.mem_of_getElem? (i := 510) (by decide +kernel)) (by decide +kernel)
theorem km_X7_write_inst : Cond.instanceMethod yX7_write ∈ BIG := bigm (List.mem_of_getElem? (i := 512) (by decide +kernel)) (by decide +kernel)
theorem km_X7_write_sel : Cond.selects RX7 yX7_write yX7_write ∈ BIG := bigm (List.mem_of_getElem? (i := 513) (by decide +kernel)) (by decide +kernel)
theorem km_X7_write_code : Cond.code yX7_write cX7_write 6 (some .boolean) ∈ BIG := bigm (List.mem_of_getElem? (i := 514) (by decide +kernel)) (by decide +kernel)
theorem km_X7_read_inst : Cond.instanceMethod yX7_read ∈ BIG := bigm (List.mem_of_getElem? (i := 668) (by decide +kernel)) (by decide +kernel)
theorem km_X7_read_sel : Cond.selects RX7 yX7_read yX7_read ∈ BIG := bigm (List.mem_of_getElem? (i := 669) (by decide +kernel)) (by decide +kernel)
theorem km_X7_read_code : Cond.code yX7_read cX7_read 4 (some .long) ∈ BIG := bigm (List.mem_of_getElem? (i := 670) (by decide +kernel)) (by decide +kernel)
theorem km_X7_placeOf_inst : Cond.instanceMethod yX7_placeOf ∈ BIG := bigm (List.mem_of_getElem? (i := 517) (by decide +kernel)) (by decide +kernel)
theorem km_X7_placeOf_sel : Cond.selects RX7 yX7_placeOf yX7_placeOf ∈ BIG := bigm (List.mem_of_getElem? (i := 9) (by decide +kernel)) (by decide +kernel)
theorem km_X7_placeOf_code : Cond.code yX7_placeOf cX7_placeOf 4 (some .int) ∈ BIG := bigm (List.mem_of_getElem? (i := 518) (by decide +kernel)) (by decide +kernel)
theorem km_X7_lowestBits_inst : Cond.instanceMethod yX7_lowestBits ∈ BIG := bigm (List.mem_of_getElem? (i := 525) (by decide +kernel)) (by decide +kernel)
theorem km_X7_lowestBits_sel : Cond.selects RX7 yX7_lowestBits yX7_lowestBits ∈ BIG := bigm (List.mem_of_getElem? (i := 10) (by decide +kernel)) (by decide +kernel)
theorem km_X7_lowestBits_code : Cond.code yX7_lowestBits cX7_lowestBits 6 (some .long) ∈ BIG := bigm (List.mem_of_getElem? (i := 526) (by decide +kernel)) (by decide +kernel)
theorem km_X8_sheet_inst : Cond.instanceMethod yX8_sheet ∈ BIG := bigm (List.mem_of_getElem? (i := 381) (by decide +kernel)) (by decide +kernel)
theorem km_X8_sheet_sel : Cond.selects RX8 yX8_sheet yX8_sheet ∈ BIG := bigm (List.mem_of_getElem? (i := 382) (by decide +kernel)) (by decide +kernel)
theorem km_X8_sheet_code : Cond.code yX8_sheet cX8_sheet 3 (some .int) ∈ BIG := bigm (List.mem_of_getElem? (i := 383) (by decide +kernel)) (by decide +kernel)
theorem km_X8_row_inst : Cond.instanceMethod yX8_row ∈ BIG := bigm (List.mem_of_getElem? (i := 480) (by decide +kernel)) (by decide +kernel)
theorem km_X8_row_sel : Cond.selects RX8 yX8_row yX8_row ∈ BIG := bigm (List.mem_of_getElem? (i := 481) (by decide +kernel)) (by decide +kernel)
theorem km_X8_row_code : Cond.code yX8_row cX8_row 5 (some .int) ∈ BIG := bigm (List.mem_of_getElem? (i := 482) (by decide +kernel)) (by decide +kernel)
theorem km_X8_put_inst : Cond.instanceMethod yX8_put ∈ BIG := bigm (List.mem_of_getElem? (i := 531) (by decide +kernel)) (by decide +kernel)
theorem km_X8_put_sel : Cond.selects RX8 yX8_put yX8_put ∈ BIG := bigm (List.mem_of_getElem? (i := 532) (by decide +kernel)) (by decide +kernel)
theorem km_X8_put_code : Cond.code yX8_put cX8_put 7 (some .int) ∈ BIG := bigm (List.mem_of_getElem? (i := 533) (by decide +kernel)) (by decide +kernel)
theorem km_X8_tear_inst : Cond.instanceMethod yX8_tear ∈ BIG := bigm (List.mem_of_getElem? (i := 540) (by decide +kernel)) (by decide +kernel)
theorem km_X8_tear_sel : Cond.selects RX8 yX8_tear yX8_tear ∈ BIG := bigm (List.mem_of_getElem? (i := 541) (by decide +kernel)) (by decide +kernel)
theorem km_X8_tear_code : Cond.code yX8_tear cX8_tear 4 (some .int) ∈ BIG := bigm (List.mem_of_getElem? (i := 542) (by decide +kernel)) (by decide +kernel)
theorem km_X8_slotOf_inst : Cond.instanceMethod yX8_slotOf ∈ BIG := bigm (List.mem_of_getElem? (i := 485) (by decide +kernel)) (by decide +kernel)
theorem km_X8_slotOf_sel : Cond.selects RX8 yX8_slotOf yX8_slotOf ∈ BIG := bigm (List.mem_of_getElem? (i := 8) (by decide +kernel)) (by decide +kernel)
theorem km_X8_slotOf_code : Cond.code yX8_slotOf cX8_slotOf 4 (some .int) ∈ BIG := bigm (List.mem_of_getElem? (i := 486) (by decide +kernel)) (by decide +kernel)
theorem km_X8_feed_inst : Cond.instanceMethod yX8_feed ∈ BIG := bigm (List.mem_of_getElem? (i := 277) (by decide +kernel)) (by decide +kernel)
theorem km_X8_feed_sel : Cond.selects RX8 yX8_feed yX8_feed ∈ BIG := bigm (List.mem_of_getElem? (i := 278) (by decide +kernel)) (by decide +kernel)
theorem km_X8_feed_code : Cond.code yX8_feed cX8_feed 6 (some .int) ∈ BIG := bigm (List.mem_of_getElem? (i := 279) (by decide +kernel)) (by decide +kernel)
theorem km_X8_fit_inst : Cond.instanceMethod yX8_fit ∈ BIG := bigm (List.mem_of_getElem? (i := 547) (by decide +kernel)) (by decide +kernel)
theorem km_X8_fit_sel : Cond.selects RX8 yX8_fit yX8_fit ∈ BIG := bigm (List.mem_of_getElem? (i := 548) (by decide +kernel)) (by decide +kernel)
theorem km_X8_fit_code : Cond.code yX8_fit cX8_fit 2 (some .int) ∈ BIG := bigm (List.mem_of_getElem? (i := 549) (by decide +kernel)) (by decide +kernel)
theorem km_X8_says_inst : Cond.instanceMethod yX8_says ∈ BIG := bigm (List.mem_of_getElem? (i := 632) (by decide +kernel)) (by decide +kernel)
theorem km_X8_says_sel : Cond.selects RX8 yX8_says yX8_says ∈ BIG := bigm (List.mem_of_getElem? (i := 633) (by decide +kernel)) (by decide +kernel)
theorem km_X8_says_code : Cond.code yX8_says cX8_says 5 (some .boolean) ∈ BIG := bigm (List.mem_of_getElem? (i := 634) (by decide +kernel)) (by decide +kernel)
theorem km_X8_part_inst : Cond.instanceMethod yX8_part ∈ BIG := bigm (List.mem_of_getElem? (i := 652) (by decide +kernel)) (by decide +kernel)
theorem km_X8_part_sel : Cond.selects RX8 yX8_part yX8_part ∈ BIG := bigm (List.mem_of_getElem? (i := 653) (by decide +kernel)) (by decide +kernel)
theorem km_X8_part_code : Cond.code yX8_part cX8_part 6 (some .int) ∈ BIG := bigm (List.mem_of_getElem? (i := 654) (by decide +kernel)) (by decide +kernel)
theorem km_X8_told_inst : Cond.instanceMethod yX8_told ∈ BIG := bigm (List.mem_of_getElem? (i := 709) (by decide +kernel)) (by decide +kernel)
theorem km_X8_told_sel : Cond.selects RX8 yX8_told yX8_told ∈ BIG := bigm (List.mem_of_getElem? (i := 710) (by decide +kernel)) (by decide +kernel)
theorem km_X8_told_code : Cond.code yX8_told cX8_told 4 (some .int) ∈ BIG := bigm (List.mem_of_getElem? (i := 711) (by decide +kernel)) (by decide +kernel)
theorem km_X8_rowSays_inst : Cond.instanceMethod yX8_rowSays ∈ BIG := bigm (List.mem_of_getElem? (i := 665) (by decide +kernel)) (by decide +kernel)
theorem km_X8_rowSays_sel : Cond.selects RX8 yX8_rowSays yX8_rowSays ∈ BIG := bigm (List.mem_of_getElem? (i := 25) (by decide +kernel)) (by decide +kernel)
theorem km_X8_rowSays_code : Cond.code yX8_rowSays cX8_rowSays 3 (some .long) ∈ BIG := bigm (List.mem_of_getElem? (i := 666) (by decide +kernel)) (by decide +kernel)
theorem km_X8_hasNumberBeyond_inst : Cond.instanceMethod yX8_hasNumberBeyond ∈ BIG := bigm (List.mem_of_getElem? (i := 661) (by decide +kernel)) (by decide +kernel)
theorem km_X8_hasNumberBeyond_sel : Cond.selects RX8 yX8_hasNumberBeyond yX8_hasNumberBeyond ∈ BIG := bigm (List.mem_of_getElem? (i := 24) (by decide +kernel)) (by decide +kernel)
theorem km_X8_hasNumberBeyond_code : Cond.code yX8_hasNumberBeyond cX8_hasNumberBeyond 4 (some .boolean) ∈ BIG := bigm (List.mem_of_getElem? (i := 662) (by decide +kernel)) (by decide +kernel)
theorem km_X8_isBeyond_inst : Cond.instanceMethod yX8_isBeyond ∈ BIG := bigm (List.mem_of_getElem? (i := 674) (by decide +kernel)) (by decide +kernel)
theorem km_X8_isBeyond_sel : Cond.selects RX8 yX8_isBeyond yX8_isBeyond ∈ BIG := bigm (List.mem_of_getElem? (i := 26) (by decide +kernel)) (by decide +kernel)
theorem km_X8_isBeyond_code : Cond.code yX8_isBeyond cX8_isBeyond 5 (some .boolean) ∈ BIG := bigm (List.mem_of_getElem? (i := 675) (by decide +kernel)) (by decide +kernel)
theorem km_X8_breaksShellRule_inst : Cond.instanceMethod yX8_breaksShellRule ∈ BIG := bigm (List.mem_of_getElem? (i := 685) (by decide +kernel)) (by decide +kernel)
theorem km_X8_breaksShellRule_sel : Cond.selects RX8 yX8_breaksShellRule yX8_breaksShellRule ∈ BIG := bigm (List.mem_of_getElem? (i := 27) (by decide +kernel)) (by decide +kernel)
theorem km_X8_breaksShellRule_code : Cond.code yX8_breaksShellRule cX8_breaksShellRule 4 (some .boolean) ∈ BIG := bigm (List.mem_of_getElem? (i := 686) (by decide +kernel)) (by decide +kernel)
theorem km_X8_addPart_inst : Cond.instanceMethod yX8_addPart ∈ BIG := bigm (List.mem_of_getElem? (i := 694) (by decide +kernel)) (by decide +kernel)
theorem km_X8_addPart_sel : Cond.selects RX8 yX8_addPart yX8_addPart ∈ BIG := bigm (List.mem_of_getElem? (i := 28) (by decide +kernel)) (by decide +kernel)
theorem km_X8_addPart_code : Cond.code yX8_addPart cX8_addPart 5 (some .int) ∈ BIG := bigm (List.mem_of_getElem? (i := 695) (by decide +kernel)) (by decide +kernel)
theorem km_X8_car_inst : Cond.instanceMethod yX8_car ∈ BIG := bigm (List.mem_of_getElem? (i := 733) (by decide +kernel)) (by decide +kernel)
theorem km_X8_car_sel : Cond.selects RX8 yX8_car yX8_car ∈ BIG := bigm (List.mem_of_getElem? (i := 734) (by decide +kernel)) (by decide +kernel)
theorem km_X8_car_code : Cond.code yX8_car cX8_car 8 (some .int) ∈ BIG := bigm (List.mem_of_getElem? (i := 735) (by decide +kernel)) (by decide +kernel)
theorem km_X8_about_inst : Cond.instanceMethod yX8_about ∈ BIG := bigm (List.mem_of_getElem? (i := 797) (by decide +kernel)) (by decide +kernel)
theorem km_X8_about_sel : Cond.selects RX8 yX8_about yX8_about ∈ BIG := bigm (List.mem_of_getElem? (i := 798) (by decide +kernel)) (by decide +kernel)
theorem km_X8_about_code : Cond.code yX8_about cX8_about 4 (some .int) ∈ BIG := bigm (List.mem_of_getElem? (i := 799) (by decide +kernel)) (by decide +kernel)
theorem km_X8_drain_inst : Cond.instanceMethod yX8_drain ∈ BIG := bigm (List.mem_of_getElem? (i := 809) (by decide +kernel)) (by decide +kernel)
theorem km_X8_drain_sel : Cond.selects RX8 yX8_drain yX8_drain ∈ BIG := bigm (List.mem_of_getElem? (i := 810) (by decide +kernel)) (by decide +kernel)
theorem km_X8_drain_code : Cond.code yX8_drain cX8_drain 3 (some .int) ∈ BIG := bigm (List.mem_of_getElem? (i := 811) (by decide +kernel)) (by decide +kernel)
theorem km_X8_papers_inst : Cond.instanceMethod yX8_papers ∈ BIG := bigm (List.mem_of_getElem? (i := 824) (by decide +kernel)) (by decide +kernel)
theorem km_X8_papers_sel : Cond.selects RX8 yX8_papers yX8_papers ∈ BIG := bigm (List.mem_of_getElem? (i := 825) (by decide +kernel)) (by decide +kernel)
theorem km_X8_papers_code : Cond.code yX8_papers cX8_papers 3 (some .int) ∈ BIG := bigm (List.mem_of_getElem? (i := 826) (by decide +kernel)) (by decide +kernel)
theorem km_X8_carAt_inst : Cond.instanceMethod yX8_carAt ∈ BIG := bigm (List.mem_of_getElem? (i := 373) (by decide +kernel)) (by decide +kernel)
theorem km_X8_carAt_sel : Cond.selects RX8 yX8_carAt yX8_carAt ∈ BIG := bigm (List.mem_of_getElem? (i := 6) (by decide +kernel)) (by decide +kernel)
theorem km_X8_carAt_code : Cond.code yX8_carAt cX8_carAt 2 (some (.object "BreakersYard$Car")) ∈ BIG := bigm (List.mem_of_getElem? (i := 374) (by decide +kernel)) (by decide +kernel)
theorem km_X8_carOf_inst : Cond.instanceMethod yX8_carOf ∈ BIG := bigm (List.mem_of_getElem? (i := 802) (by decide +kernel)) (by decide +kernel)
theorem km_X8_carOf_sel : Cond.selects RX8 yX8_carOf yX8_carOf ∈ BIG := bigm (List.mem_of_getElem? (i := 30) (by decide +kernel)) (by decide +kernel)
theorem km_X8_carOf_code : Cond.code yX8_carOf cX8_carOf 3 (some (.object "BreakersYard$Car")) ∈ BIG := bigm (List.mem_of_getElem? (i := 803) (by decide +kernel)) (by decide +kernel)
theorem km_X8_carWithPart_inst : Cond.instanceMethod yX8_carWithPart ∈ BIG := bigm (List.mem_of_getElem? (i := 836) (by decide +kernel)) (by decide +kernel)
theorem km_X8_carWithPart_sel : Cond.selects RX8 yX8_carWithPart yX8_carWithPart ∈ BIG := bigm (List.mem_of_getElem? (i := 32) (by decide +kernel)) (by decide +kernel)
theorem km_X8_carWithPart_code : Cond.code yX8_carWithPart cX8_carWithPart 4 (some (.object "BreakersYard$Car")) ∈ BIG := bigm (List.mem_of_getElem? (i := 837) (by decide +kernel)) (by decide +kernel)
theorem km_X8_weighComing_inst : Cond.instanceMethod yX8_weighComing ∈ BIG := bigm (List.mem_of_getElem? (i := 783) (by decide +kernel)) (by decide +kernel)
theorem km_X8_weighComing_sel : Cond.selects RX8 yX8_weighComing yX8_weighComing ∈ BIG := bigm (List.mem_of_getElem? (i := 29) (by decide +kernel)) (by decide +kernel)
theorem km_X8_weighComing_code : Cond.code yX8_weighComing cX8_weighComing 3 none ∈ BIG := bigm (List.mem_of_getElem? (i := 784) (by decide +kernel)) (by decide +kernel)
theorem km_X8_hinders_inst : Cond.instanceMethod yX8_hinders ∈ BIG := bigm (List.mem_of_getElem? (i := 831) (by decide +kernel)) (by decide +kernel)
theorem km_X8_hinders_sel : Cond.selects RX8 yX8_hinders yX8_hinders ∈ BIG := bigm (List.mem_of_getElem? (i := 832) (by decide +kernel)) (by decide +kernel)
theorem km_X8_hinders_code : Cond.code yX8_hinders cX8_hinders 3 (some .int) ∈ BIG := bigm (List.mem_of_getElem? (i := 833) (by decide +kernel)) (by decide +kernel)
theorem km_X8_take_inst : Cond.instanceMethod yX8_take ∈ BIG := bigm (List.mem_of_getElem? (i := 850) (by decide +kernel)) (by decide +kernel)
theorem km_X8_take_sel : Cond.selects RX8 yX8_take yX8_take ∈ BIG := bigm (List.mem_of_getElem? (i := 851) (by decide +kernel)) (by decide +kernel)
theorem km_X8_take_code : Cond.code yX8_take cX8_take 6 (some .int) ∈ BIG := bigm (List.mem_of_getElem? (i := 852) (by decide +kernel)) (by decide +kernel)
theorem km_X8_press_inst : Cond.instanceMethod yX8_press ∈ BIG := bigm (List.mem_of_getElem? (i := 891) (by decide +kernel)) (by decide +kernel)
theorem km_X8_press_sel : Cond.selects RX8 yX8_press yX8_press ∈ BIG := bigm (List.mem_of_getElem? (i := 892) (by decide +kernel)) (by decide +kernel)
theorem km_X8_press_code : Cond.code yX8_press cX8_press 6 (some .int) ∈ BIG := bigm (List.mem_of_getElem? (i := 893) (by decide +kernel)) (by decide +kernel)
theorem km_X8_hindranceOf_inst : Cond.instanceMethod yX8_hindranceOf ∈ BIG := bigm (List.mem_of_getElem? (i := 841) (by decide +kernel)) (by decide +kernel)
theorem km_X8_hindranceOf_sel : Cond.selects RX8 yX8_hindranceOf yX8_hindranceOf ∈ BIG := bigm (List.mem_of_getElem? (i := 33) (by decide +kernel)) (by decide +kernel)
theorem km_X8_hindranceOf_code : Cond.code yX8_hindranceOf cX8_hindranceOf 5 (some .int) ∈ BIG := bigm (List.mem_of_getElem? (i := 842) (by decide +kernel)) (by decide +kernel)
theorem km_X8_pressHindranceOf_inst : Cond.instanceMethod yX8_pressHindranceOf ∈ BIG := bigm (List.mem_of_getElem? (i := 896) (by decide +kernel)) (by decide +kernel)
theorem km_X8_pressHindranceOf_sel : Cond.selects RX8 yX8_pressHindranceOf yX8_pressHindranceOf ∈ BIG := bigm (List.mem_of_getElem? (i := 35) (by decide +kernel)) (by decide +kernel)
theorem km_X8_pressHindranceOf_code : Cond.code yX8_pressHindranceOf cX8_pressHindranceOf 2 (some .int) ∈ BIG := bigm (List.mem_of_getElem? (i := 897) (by decide +kernel)) (by decide +kernel)
theorem km_X8_hasDangerOn_inst : Cond.instanceMethod yX8_hasDangerOn ∈ BIG := bigm (List.mem_of_getElem? (i := 900) (by decide +kernel)) (by decide +kernel)
theorem km_X8_hasDangerOn_sel : Cond.selects RX8 yX8_hasDangerOn yX8_hasDangerOn ∈ BIG := bigm (List.mem_of_getElem? (i := 36) (by decide +kernel)) (by decide +kernel)
theorem km_X8_hasDangerOn_code : Cond.code yX8_hasDangerOn cX8_hasDangerOn 3 (some .boolean) ∈ BIG := bigm (List.mem_of_getElem? (i := 901) (by decide +kernel)) (by decide +kernel)
theorem km_X8_needsDraining_static : Cond.static yX8_needsDraining ∈ BIG := bigm (List.mem_of_getElem? (i := 844) (by decide +kernel)) (by decide +kernel)
theorem km_X8_needsDraining_code : Cond.code yX8_needsDraining cX8_needsDraining 1 (some .boolean) ∈ BIG := bigm (List.mem_of_getElem? (i := 845) (by decide +kernel)) (by decide +kernel)
theorem km_X8_day_inst : Cond.instanceMethod yX8_day ∈ BIG := bigm (List.mem_of_getElem? (i := 906) (by decide +kernel)) (by decide +kernel)
theorem km_X8_day_sel : Cond.selects RX8 yX8_day yX8_day ∈ BIG := bigm (List.mem_of_getElem? (i := 907) (by decide +kernel)) (by decide +kernel)
theorem km_X8_day_code : Cond.code yX8_day cX8_day 2 (some .int) ∈ BIG := bigm (List.mem_of_getElem? (i := 908) (by decide +kernel)) (by decide +kernel)
theorem km_X8_late_inst : Cond.instanceMethod yX8_late ∈ BIG := bigm (List.mem_of_getElem? (i := 916) (by decide +kernel)) (by decide +kernel)
theorem km_X8_late_sel : Cond.selects RX8 yX8_late yX8_late ∈ BIG := bigm (List.mem_of_getElem? (i := 917) (by decide +kernel)) (by decide +kernel)
theorem km_X8_late_code : Cond.code yX8_late cX8_late 5 (some .int) ∈ BIG := bigm (List.mem_of_getElem? (i := 918) (by decide +kernel)) (by decide +kernel)
theorem km_X8_isLate_inst : Cond.instanceMethod yX8_isLate ∈ BIG := bigm (List.mem_of_getElem? (i := 921) (by decide +kernel)) (by decide +kernel)
theorem km_X8_isLate_sel : Cond.selects RX8 yX8_isLate yX8_isLate ∈ BIG := bigm (List.mem_of_getElem? (i := 37) (by decide +kernel)) (by decide +kernel)
theorem km_X8_isLate_code : Cond.code yX8_isLate cX8_isLate 4 (some .boolean) ∈ BIG := bigm (List.mem_of_getElem? (i := 922) (by decide +kernel)) (by decide +kernel)
theorem km_X8_item_inst : Cond.instanceMethod yX8_item ∈ BIG := bigm (List.mem_of_getElem? (i := 927) (by decide +kernel)) (by decide +kernel)
theorem km_X8_item_sel : Cond.selects RX8 yX8_item yX8_item ∈ BIG := bigm (List.mem_of_getElem? (i := 928) (by decide +kernel)) (by decide +kernel)
theorem km_X8_item_code : Cond.code yX8_item cX8_item 4 (some .int) ∈ BIG := bigm (List.mem_of_getElem? (i := 929) (by decide +kernel)) (by decide +kernel)
theorem km_X8_find_inst : Cond.instanceMethod yX8_find ∈ BIG := bigm (List.mem_of_getElem? (i := 948) (by decide +kernel)) (by decide +kernel)
theorem km_X8_find_sel : Cond.selects RX8 yX8_find yX8_find ∈ BIG := bigm (List.mem_of_getElem? (i := 949) (by decide +kernel)) (by decide +kernel)
theorem km_X8_find_code : Cond.code yX8_find cX8_find 7 (some .int) ∈ BIG := bigm (List.mem_of_getElem? (i := 950) (by decide +kernel)) (by decide +kernel)
theorem km_X8_found_inst : Cond.instanceMethod yX8_found ∈ BIG := bigm (List.mem_of_getElem? (i := 293) (by decide +kernel)) (by decide +kernel)
theorem km_X8_found_sel : Cond.selects RX8 yX8_found yX8_found ∈ BIG := bigm (List.mem_of_getElem? (i := 294) (by decide +kernel)) (by decide +kernel)
theorem km_X8_found_code : Cond.code yX8_found cX8_found 2 (some .int) ∈ BIG := bigm (List.mem_of_getElem? (i := 295) (by decide +kernel)) (by decide +kernel)
theorem km_X8_itemAt_inst : Cond.instanceMethod yX8_itemAt ∈ BIG := bigm (List.mem_of_getElem? (i := 338) (by decide +kernel)) (by decide +kernel)
theorem km_X8_itemAt_sel : Cond.selects RX8 yX8_itemAt yX8_itemAt ∈ BIG := bigm (List.mem_of_getElem? (i := 0) (by decide +kernel)) (by decide +kernel)
theorem km_X8_itemAt_code : Cond.code yX8_itemAt cX8_itemAt 2 (some (.object "BreakersYard$Item")) ∈ BIG := bigm (List.mem_of_getElem? (i := 339) (by decide +kernel)) (by decide +kernel)
theorem km_X8_itemOf_inst : Cond.instanceMethod yX8_itemOf ∈ BIG := bigm (List.mem_of_getElem? (i := 932) (by decide +kernel)) (by decide +kernel)
theorem km_X8_itemOf_sel : Cond.selects RX8 yX8_itemOf yX8_itemOf ∈ BIG := bigm (List.mem_of_getElem? (i := 38) (by decide +kernel)) (by decide +kernel)
theorem km_X8_itemOf_code : Cond.code yX8_itemOf cX8_itemOf 3 (some (.object "BreakersYard$Item")) ∈ BIG := bigm (List.mem_of_getElem? (i := 933) (by decide +kernel)) (by decide +kernel)
theorem km_X8_addItem_inst : Cond.instanceMethod yX8_addItem ∈ BIG := bigm (List.mem_of_getElem? (i := 885) (by decide +kernel)) (by decide +kernel)
theorem km_X8_addItem_sel : Cond.selects RX8 yX8_addItem yX8_addItem ∈ BIG := bigm (List.mem_of_getElem? (i := 34) (by decide +kernel)) (by decide +kernel)
theorem km_X8_addItem_code : Cond.code yX8_addItem cX8_addItem 2 (some .int) ∈ BIG := bigm (List.mem_of_getElem? (i := 886) (by decide +kernel)) (by decide +kernel)
theorem km_X8_factOf_inst : Cond.instanceMethod yX8_factOf ∈ BIG := bigm (List.mem_of_getElem? (i := 941) (by decide +kernel)) (by decide +kernel)
theorem km_X8_factOf_sel : Cond.selects RX8 yX8_factOf yX8_factOf ∈ BIG := bigm (List.mem_of_getElem? (i := 40) (by decide +kernel)) (by decide +kernel)
theorem km_X8_factOf_code : Cond.code yX8_factOf cX8_factOf 3 (some .int) ∈ BIG := bigm (List.mem_of_getElem? (i := 942) (by decide +kernel)) (by decide +kernel)
theorem km_X8_standsFor_inst : Cond.instanceMethod yX8_standsFor ∈ BIG := bigm (List.mem_of_getElem? (i := 958) (by decide +kernel)) (by decide +kernel)
theorem km_X8_standsFor_sel : Cond.selects RX8 yX8_standsFor yX8_standsFor ∈ BIG := bigm (List.mem_of_getElem? (i := 41) (by decide +kernel)) (by decide +kernel)
theorem km_X8_standsFor_code : Cond.code yX8_standsFor cX8_standsFor 6 (some .boolean) ∈ BIG := bigm (List.mem_of_getElem? (i := 959) (by decide +kernel)) (by decide +kernel)
theorem km_X8_valueOf_inst : Cond.instanceMethod yX8_valueOf ∈ BIG := bigm (List.mem_of_getElem? (i := 937) (by decide +kernel)) (by decide +kernel)
theorem km_X8_valueOf_sel : Cond.selects RX8 yX8_valueOf yX8_valueOf ∈ BIG := bigm (List.mem_of_getElem? (i := 39) (by decide +kernel)) (by decide +kernel)
theorem km_X8_valueOf_code : Cond.code yX8_valueOf cX8_valueOf 6 (some .int) ∈ BIG := bigm (List.mem_of_getElem? (i := 938) (by decide +kernel)) (by decide +kernel)
theorem km_X8_move_inst : Cond.instanceMethod yX8_move ∈ BIG := bigm (List.mem_of_getElem? (i := 346) (by decide +kernel)) (by decide +kernel)
theorem km_X8_move_sel : Cond.selects RX8 yX8_move yX8_move ∈ BIG := bigm (List.mem_of_getElem? (i := 2) (by decide +kernel)) (by decide +kernel)
theorem km_X8_move_code : Cond.code yX8_move cX8_move 3 none ∈ BIG := bigm (List.mem_of_getElem? (i := 347) (by decide +kernel)) (by decide +kernel)
theorem km_X8_gateOf_static : Cond.static yX8_gateOf ∈ BIG := bigm (List.mem_of_getElem? (i := 349) (by decide +kernel)) (by decide +kernel)
theorem km_X8_gateOf_code : Cond.code yX8_gateOf cX8_gateOf 1 (some .int) ∈ BIG := bigm (List.mem_of_getElem? (i := 350) (by decide +kernel)) (by decide +kernel)
theorem km_X8_sell_inst : Cond.instanceMethod yX8_sell ∈ BIG := bigm (List.mem_of_getElem? (i := 980) (by decide +kernel)) (by decide +kernel)
theorem km_X8_sell_sel : Cond.selects RX8 yX8_sell yX8_sell ∈ BIG := bigm (List.mem_of_getElem? (i := 981) (by decide +kernel)) (by decide +kernel)
theorem km_X8_sell_code : Cond.code yX8_sell cX8_sell 6 (some .int) ∈ BIG := bigm (List.mem_of_getElem? (i := 982) (by decide +kernel)) (by decide +kernel)
theorem km_X8_back_inst : Cond.instanceMethod yX8_back ∈ BIG := bigm (List.mem_of_getElem? (i := 996) (by decide +kernel)) (by decide +kernel)
theorem km_X8_back_sel : Cond.selects RX8 yX8_back yX8_back ∈ BIG := bigm (List.mem_of_getElem? (i := 997) (by decide +kernel)) (by decide +kernel)
theorem km_X8_back_code : Cond.code yX8_back cX8_back 4 (some .int) ∈ BIG := bigm (List.mem_of_getElem? (i := 998) (by decide +kernel)) (by decide +kernel)
theorem km_X8_till_inst : Cond.instanceMethod yX8_till ∈ BIG := bigm (List.mem_of_getElem? (i := 301) (by decide +kernel)) (by decide +kernel)
theorem km_X8_till_sel : Cond.selects RX8 yX8_till yX8_till ∈ BIG := bigm (List.mem_of_getElem? (i := 302) (by decide +kernel)) (by decide +kernel)
theorem km_X8_till_code : Cond.code yX8_till cX8_till 1 (some .long) ∈ BIG := bigm (List.mem_of_getElem? (i := 303) (by decide +kernel)) (by decide +kernel)
theorem km_X8_sellFor_inst : Cond.instanceMethod yX8_sellFor ∈ BIG := bigm (List.mem_of_getElem? (i := 986) (by decide +kernel)) (by decide +kernel)
theorem km_X8_sellFor_sel : Cond.selects RX8 yX8_sellFor yX8_sellFor ∈ BIG := bigm (List.mem_of_getElem? (i := 44) (by decide +kernel)) (by decide +kernel)
theorem km_X8_sellFor_code : Cond.code yX8_sellFor cX8_sellFor 3 (some .int) ∈ BIG := bigm (List.mem_of_getElem? (i := 987) (by decide +kernel)) (by decide +kernel)
theorem km_X8_otherOfPair_inst : Cond.instanceMethod yX8_otherOfPair ∈ BIG := bigm (List.mem_of_getElem? (i := 990) (by decide +kernel)) (by decide +kernel)
theorem km_X8_otherOfPair_sel : Cond.selects RX8 yX8_otherOfPair yX8_otherOfPair ∈ BIG := bigm (List.mem_of_getElem? (i := 45) (by decide +kernel)) (by decide +kernel)
theorem km_X8_otherOfPair_code : Cond.code yX8_otherOfPair cX8_otherOfPair 4 (some (.object "BreakersYard$Item")) ∈ BIG := bigm (List.mem_of_getElem? (i := 991) (by decide +kernel)) (by decide +kernel)
theorem km_X8_best_inst : Cond.instanceMethod yX8_best ∈ BIG := bigm (List.mem_of_getElem? (i := 1004) (by decide +kernel)) (by decide +kernel)
theorem km_X8_best_sel : Cond.selects RX8 yX8_best yX8_best ∈ BIG := bigm (List.mem_of_getElem? (i := 1005) (by decide +kernel)) (by decide +kernel)
theorem km_X8_best_code : Cond.code yX8_best cX8_best 3 (some .int) ∈ BIG := bigm (List.mem_of_getElem? (i := 1006) (by decide +kernel)) (by decide +kernel)
theorem km_X8_worth_inst : Cond.instanceMethod yX8_worth ∈ BIG := bigm (List.mem_of_getElem? (i := 1032) (by decide +kernel)) (by decide +kernel)
theorem km_X8_worth_sel : Cond.selects RX8 yX8_worth yX8_worth ∈ BIG := bigm (List.mem_of_getElem? (i := 1033) (by decide +kernel)) (by decide +kernel)
theorem km_X8_worth_code : Cond.code yX8_worth cX8_worth 7 (some .int) ∈ BIG := bigm (List.mem_of_getElem? (i := 1034) (by decide +kernel)) (by decide +kernel)
theorem km_X8_wageOf_static : Cond.static yX8_wageOf ∈ BIG := bigm (List.mem_of_getElem? (i := 1008) (by decide +kernel)) (by decide +kernel)
theorem km_X8_wageOf_code : Cond.code yX8_wageOf cX8_wageOf 1 (some .int) ∈ BIG := bigm (List.mem_of_getElem? (i := 1009) (by decide +kernel)) (by decide +kernel)
theorem km_X8_bestOf_inst : Cond.instanceMethod yX8_bestOf ∈ BIG := bigm (List.mem_of_getElem? (i := 1013) (by decide +kernel)) (by decide +kernel)
theorem km_X8_bestOf_sel : Cond.selects RX8 yX8_bestOf yX8_bestOf ∈ BIG := bigm (List.mem_of_getElem? (i := 46) (by decide +kernel)) (by decide +kernel)
theorem km_X8_bestOf_code : Cond.code yX8_bestOf cX8_bestOf 7 (some .int) ∈ BIG := bigm (List.mem_of_getElem? (i := 1014) (by decide +kernel)) (by decide +kernel)
theorem km_X8_sumGains_inst : Cond.instanceMethod yX8_sumGains ∈ BIG := bigm (List.mem_of_getElem? (i := 1017) (by decide +kernel)) (by decide +kernel)
theorem km_X8_sumGains_sel : Cond.selects RX8 yX8_sumGains yX8_sumGains ∈ BIG := bigm (List.mem_of_getElem? (i := 47) (by decide +kernel)) (by decide +kernel)
theorem km_X8_sumGains_code : Cond.code yX8_sumGains cX8_sumGains 5 none ∈ BIG := bigm (List.mem_of_getElem? (i := 1018) (by decide +kernel)) (by decide +kernel)
theorem km_X8_mayBeChosen_inst : Cond.instanceMethod yX8_mayBeChosen ∈ BIG := bigm (List.mem_of_getElem? (i := 1022) (by decide +kernel)) (by decide +kernel)
theorem km_X8_mayBeChosen_sel : Cond.selects RX8 yX8_mayBeChosen yX8_mayBeChosen ∈ BIG := bigm (List.mem_of_getElem? (i := 48) (by decide +kernel)) (by decide +kernel)
theorem km_X8_mayBeChosen_code : Cond.code yX8_mayBeChosen cX8_mayBeChosen 4 (some .boolean) ∈ BIG := bigm (List.mem_of_getElem? (i := 1023) (by decide +kernel)) (by decide +kernel)
theorem km_X8_gainOf_inst : Cond.instanceMethod yX8_gainOf ∈ BIG := bigm (List.mem_of_getElem? (i := 1026) (by decide +kernel)) (by decide +kernel)
theorem km_X8_gainOf_sel : Cond.selects RX8 yX8_gainOf yX8_gainOf ∈ BIG := bigm (List.mem_of_getElem? (i := 49) (by decide +kernel)) (by decide +kernel)
theorem km_X8_gainOf_code : Cond.code yX8_gainOf cX8_gainOf 7 (some .int) ∈ BIG := bigm (List.mem_of_getElem? (i := 1027) (by decide +kernel)) (by decide +kernel)
theorem km_X8_grams_inst : Cond.instanceMethod yX8_grams ∈ BIG := bigm (List.mem_of_getElem? (i := 1039) (by decide +kernel)) (by decide +kernel)
theorem km_X8_grams_sel : Cond.selects RX8 yX8_grams yX8_grams ∈ BIG := bigm (List.mem_of_getElem? (i := 1040) (by decide +kernel)) (by decide +kernel)
theorem km_X8_grams_code : Cond.code yX8_grams cX8_grams 4 (some .int) ∈ BIG := bigm (List.mem_of_getElem? (i := 1041) (by decide +kernel)) (by decide +kernel)
theorem km_X8_count_inst : Cond.instanceMethod yX8_count ∈ BIG := bigm (List.mem_of_getElem? (i := 305) (by decide +kernel)) (by decide +kernel)
theorem km_X8_count_sel : Cond.selects RX8 yX8_count yX8_count ∈ BIG := bigm (List.mem_of_getElem? (i := 306) (by decide +kernel)) (by decide +kernel)
theorem km_X8_count_code : Cond.code yX8_count cX8_count 2 (some .int) ∈ BIG := bigm (List.mem_of_getElem? (i := 307) (by decide +kernel)) (by decide +kernel)
theorem km_X8_weightPlace_inst : Cond.instanceMethod yX8_weightPlace ∈ BIG := bigm (List.mem_of_getElem? (i := 369) (by decide +kernel)) (by decide +kernel)
theorem km_X8_weightPlace_sel : Cond.selects RX8 yX8_weightPlace yX8_weightPlace ∈ BIG := bigm (List.mem_of_getElem? (i := 5) (by decide +kernel)) (by decide +kernel)
theorem km_X8_weightPlace_code : Cond.code yX8_weightPlace cX8_weightPlace 3 (some .int) ∈ BIG := bigm (List.mem_of_getElem? (i := 370) (by decide +kernel)) (by decide +kernel)
theorem km_X8_weigh_inst : Cond.instanceMethod yX8_weigh ∈ BIG := bigm (List.mem_of_getElem? (i := 353) (by decide +kernel)) (by decide +kernel)
theorem km_X8_weigh_sel : Cond.selects RX8 yX8_weigh yX8_weigh ∈ BIG := bigm (List.mem_of_getElem? (i := 3) (by decide +kernel)) (by decide +kernel)
theorem km_X8_weigh_code : Cond.code yX8_weigh cX8_weigh 6 none ∈ BIG := bigm (List.mem_of_getElem? (i := 354) (by decide +kernel)) (by decide +kernel)
theorem km_X8_undo_inst : Cond.instanceMethod yX8_undo ∈ BIG := bigm (List.mem_of_getElem? (i := 321) (by decide +kernel)) (by decide +kernel)
theorem km_X8_undo_sel : Cond.selects RX8 yX8_undo yX8_undo ∈ BIG := bigm (List.mem_of_getElem? (i := 322) (by decide +kernel)) (by decide +kernel)
theorem km_X8_undo_code : Cond.code yX8_undo cX8_undo 4 (some .int) ∈ BIG := bigm (List.mem_of_getElem? (i := 323) (by decide +kernel)) (by decide +kernel)
theorem km_X8_putBackOn_inst : Cond.instanceMethod yX8_putBackOn ∈ BIG := bigm (List.mem_of_getElem? (i := 342) (by decide +kernel)) (by decide +kernel)
theorem km_X8_putBackOn_sel : Cond.selects RX8 yX8_putBackOn yX8_putBackOn ∈ BIG := bigm (List.mem_of_getElem? (i := 1) (by decide +kernel)) (by decide +kernel)
theorem km_X8_putBackOn_code : Cond.code yX8_putBackOn cX8_putBackOn 3 none ∈ BIG := bigm (List.mem_of_getElem? (i := 343) (by decide +kernel)) (by decide +kernel)
theorem km_X9_thrown_inst : Cond.instanceMethod yX9_thrown ∈ BIG := bigm (List.mem_of_getElem? (i := 1044) (by decide +kernel)) (by decide +kernel)
theorem km_X9_thrown_sel : Cond.selects RX9 yX9_thrown yX9_thrown ∈ BIG := bigm (List.mem_of_getElem? (i := 1045) (by decide +kernel)) (by decide +kernel)
theorem km_X9_thrown_code : Cond.code yX9_thrown cX9_thrown 1 (some .int) ∈ BIG := bigm (List.mem_of_getElem? (i := 1046) (by decide +kernel)) (by decide +kernel)
theorem km_X9_may_inst : Cond.instanceMethod yX9_may ∈ BIG := bigm (List.mem_of_getElem? (i := 1246) (by decide +kernel)) (by decide +kernel)
theorem km_X9_may_sel : Cond.selects RX9 yX9_may yX9_may ∈ BIG := bigm (List.mem_of_getElem? (i := 50) (by decide +kernel)) (by decide +kernel)
theorem km_X9_may_code : Cond.code yX9_may cX9_may 3 (some .boolean) ∈ BIG := bigm (List.mem_of_getElem? (i := 1247) (by decide +kernel)) (by decide +kernel)
theorem km_X9_sheet_inst : Cond.instanceMethod yX9_sheet ∈ BIG := bigm (List.mem_of_getElem? (i := 1241) (by decide +kernel)) (by decide +kernel)
theorem km_X9_sheet_sel : Cond.selects RX9 yX9_sheet yX9_sheet ∈ BIG := bigm (List.mem_of_getElem? (i := 1242) (by decide +kernel)) (by decide +kernel)
theorem km_X9_sheet_code : Cond.code yX9_sheet cX9_sheet 2 (some .int) ∈ BIG := bigm (List.mem_of_getElem? (i := 1243) (by decide +kernel)) (by decide +kernel)
theorem km_X9_isRow_inst : Cond.instanceMethod yX9_isRow ∈ BIG := bigm (List.mem_of_getElem? (i := 1254) (by decide +kernel)) (by decide +kernel)
theorem km_X9_isRow_sel : Cond.selects RX9 yX9_isRow yX9_isRow ∈ BIG := bigm (List.mem_of_getElem? (i := 51) (by decide +kernel)) (by decide +kernel)
theorem km_X9_isRow_code : Cond.code yX9_isRow cX9_isRow 4 (some .boolean) ∈ BIG := bigm (List.mem_of_getElem? (i := 1255) (by decide +kernel)) (by decide +kernel)
theorem km_X9_row_inst : Cond.instanceMethod yX9_row ∈ BIG := bigm (List.mem_of_getElem? (i := 1249) (by decide +kernel)) (by decide +kernel)
theorem km_X9_row_sel : Cond.selects RX9 yX9_row yX9_row ∈ BIG := bigm (List.mem_of_getElem? (i := 1250) (by decide +kernel)) (by decide +kernel)
theorem km_X9_row_code : Cond.code yX9_row cX9_row 6 (some .int) ∈ BIG := bigm (List.mem_of_getElem? (i := 1251) (by decide +kernel)) (by decide +kernel)
theorem km_X9_put_inst : Cond.instanceMethod yX9_put ∈ BIG := bigm (List.mem_of_getElem? (i := 1257) (by decide +kernel)) (by decide +kernel)
theorem km_X9_put_sel : Cond.selects RX9 yX9_put yX9_put ∈ BIG := bigm (List.mem_of_getElem? (i := 1258) (by decide +kernel)) (by decide +kernel)
theorem km_X9_put_code : Cond.code yX9_put cX9_put 7 (some .int) ∈ BIG := bigm (List.mem_of_getElem? (i := 1259) (by decide +kernel)) (by decide +kernel)
theorem km_X9_tear_inst : Cond.instanceMethod yX9_tear ∈ BIG := bigm (List.mem_of_getElem? (i := 1261) (by decide +kernel)) (by decide +kernel)
theorem km_X9_tear_sel : Cond.selects RX9 yX9_tear yX9_tear ∈ BIG := bigm (List.mem_of_getElem? (i := 1262) (by decide +kernel)) (by decide +kernel)
theorem km_X9_tear_code : Cond.code yX9_tear cX9_tear 5 (some .int) ∈ BIG := bigm (List.mem_of_getElem? (i := 1263) (by decide +kernel)) (by decide +kernel)
theorem km_X9_feed_inst : Cond.instanceMethod yX9_feed ∈ BIG := bigm (List.mem_of_getElem? (i := 1265) (by decide +kernel)) (by decide +kernel)
theorem km_X9_feed_sel : Cond.selects RX9 yX9_feed yX9_feed ∈ BIG := bigm (List.mem_of_getElem? (i := 1266) (by decide +kernel)) (by decide +kernel)
theorem km_X9_feed_code : Cond.code yX9_feed cX9_feed 8 (some .int) ∈ BIG := bigm (List.mem_of_getElem? (i := 1267) (by decide +kernel)) (by decide +kernel)
theorem km_X9_here_inst : Cond.instanceMethod yX9_here ∈ BIG := bigm (List.mem_of_getElem? (i := 1282) (by decide +kernel)) (by decide +kernel)
theorem km_X9_here_sel : Cond.selects RX9 yX9_here yX9_here ∈ BIG := bigm (List.mem_of_getElem? (i := 54) (by decide +kernel)) (by decide +kernel)
theorem km_X9_here_code : Cond.code yX9_here cX9_here 1 (some .int) ∈ BIG := bigm (List.mem_of_getElem? (i := 1283) (by decide +kernel)) (by decide +kernel)
theorem km_X9_wrong_inst : Cond.instanceMethod yX9_wrong ∈ BIG := bigm (List.mem_of_getElem? (i := 1286) (by decide +kernel)) (by decide +kernel)
theorem km_X9_wrong_sel : Cond.selects RX9 yX9_wrong yX9_wrong ∈ BIG := bigm (List.mem_of_getElem? (i := 55) (by decide +kernel)) (by decide +kernel)
theorem km_X9_wrong_code : Cond.code yX9_wrong cX9_wrong 1 none ∈ BIG := bigm (List.mem_of_getElem? (i := 1287) (by decide +kernel)) (by decide +kernel)
theorem km_X9_fine_inst : Cond.instanceMethod yX9_fine ∈ BIG := bigm (List.mem_of_getElem? (i := 1274) (by decide +kernel)) (by decide +kernel)
theorem km_X9_fine_sel : Cond.selects RX9 yX9_fine yX9_fine ∈ BIG := bigm (List.mem_of_getElem? (i := 52) (by decide +kernel)) (by decide +kernel)
theorem km_X9_fine_code : Cond.code yX9_fine cX9_fine 1 (some .boolean) ∈ BIG := bigm (List.mem_of_getElem? (i := 1275) (by decide +kernel)) (by decide +kernel)
theorem km_X9_emit_inst : Cond.instanceMethod yX9_emit ∈ BIG := bigm (List.mem_of_getElem? (i := 1297) (by decide +kernel)) (by decide +kernel)
theorem km_X9_emit_sel : Cond.selects RX9 yX9_emit yX9_emit ∈ BIG := bigm (List.mem_of_getElem? (i := 57) (by decide +kernel)) (by decide +kernel)
theorem km_X9_emit_code : Cond.code yX9_emit cX9_emit 5 none ∈ BIG := bigm (List.mem_of_getElem? (i := 1298) (by decide +kernel)) (by decide +kernel)
theorem km_X9_isDigit_static : Cond.static yX9_isDigit ∈ BIG := bigm (List.mem_of_getElem? (i := 1293) (by decide +kernel)) (by decide +kernel)
theorem km_X9_isDigit_code : Cond.code yX9_isDigit cX9_isDigit 1 (some .boolean) ∈ BIG := bigm (List.mem_of_getElem? (i := 1294) (by decide +kernel)) (by decide +kernel)
theorem km_X9_digits_inst : Cond.instanceMethod yX9_digits ∈ BIG := bigm (List.mem_of_getElem? (i := 1290) (by decide +kernel)) (by decide +kernel)
theorem km_X9_digits_sel : Cond.selects RX9 yX9_digits yX9_digits ∈ BIG := bigm (List.mem_of_getElem? (i := 56) (by decide +kernel)) (by decide +kernel)
theorem km_X9_digits_code : Cond.code yX9_digits cX9_digits 3 (some .int) ∈ BIG := bigm (List.mem_of_getElem? (i := 1291) (by decide +kernel)) (by decide +kernel)
theorem km_X9_operand_inst : Cond.instanceMethod yX9_operand ∈ BIG := bigm (List.mem_of_getElem? (i := 1278) (by decide +kernel)) (by decide +kernel)
theorem km_X9_operand_sel : Cond.selects RX9 yX9_operand yX9_operand ∈ BIG := bigm (List.mem_of_getElem? (i := 53) (by decide +kernel)) (by decide +kernel)
theorem km_X9_operand_code : Cond.code yX9_operand cX9_operand 4 (some .boolean) ∈ BIG := bigm (List.mem_of_getElem? (i := 1279) (by decide +kernel)) (by decide +kernel)
theorem km_X9_nots_inst : Cond.instanceMethod yX9_nots ∈ BIG := bigm (List.mem_of_getElem? (i := 1301) (by decide +kernel)) (by decide +kernel)
theorem km_X9_nots_sel : Cond.selects RX9 yX9_nots yX9_nots ∈ BIG := bigm (List.mem_of_getElem? (i := 58) (by decide +kernel)) (by decide +kernel)
theorem km_X9_nots_code : Cond.code yX9_nots cX9_nots 1 none ∈ BIG := bigm (List.mem_of_getElem? (i := 1302) (by decide +kernel)) (by decide +kernel)
theorem km_X9_settle_inst : Cond.instanceMethod yX9_settle ∈ BIG := bigm (List.mem_of_getElem? (i := 1305) (by decide +kernel)) (by decide +kernel)
theorem km_X9_settle_sel : Cond.selects RX9 yX9_settle yX9_settle ∈ BIG := bigm (List.mem_of_getElem? (i := 59) (by decide +kernel)) (by decide +kernel)
theorem km_X9_settle_code : Cond.code yX9_settle cX9_settle 2 none ∈ BIG := bigm (List.mem_of_getElem? (i := 1306) (by decide +kernel)) (by decide +kernel)
theorem km_X9_fit_inst : Cond.instanceMethod yX9_fit ∈ BIG := bigm (List.mem_of_getElem? (i := 1269) (by decide +kernel)) (by decide +kernel)
theorem km_X9_fit_sel : Cond.selects RX9 yX9_fit yX9_fit ∈ BIG := bigm (List.mem_of_getElem? (i := 1270) (by decide +kernel)) (by decide +kernel)
theorem km_X9_fit_code : Cond.code yX9_fit cX9_fit 5 (some .int) ∈ BIG := bigm (List.mem_of_getElem? (i := 1271) (by decide +kernel)) (by decide +kernel)
theorem km_X9_asks_inst : Cond.instanceMethod yX9_asks ∈ BIG := bigm (List.mem_of_getElem? (i := 1313) (by decide +kernel)) (by decide +kernel)
theorem km_X9_asks_sel : Cond.selects RX9 yX9_asks yX9_asks ∈ BIG := bigm (List.mem_of_getElem? (i := 60) (by decide +kernel)) (by decide +kernel)
theorem km_X9_asks_code : Cond.code yX9_asks cX9_asks 7 (some .boolean) ∈ BIG := bigm (List.mem_of_getElem? (i := 1314) (by decide +kernel)) (by decide +kernel)
theorem km_X9_says_inst : Cond.instanceMethod yX9_says ∈ BIG := bigm (List.mem_of_getElem? (i := 1308) (by decide +kernel)) (by decide +kernel)
theorem km_X9_says_sel : Cond.selects RX9 yX9_says yX9_says ∈ BIG := bigm (List.mem_of_getElem? (i := 1309) (by decide +kernel)) (by decide +kernel)
theorem km_X9_says_code : Cond.code yX9_says cX9_says 5 (some .boolean) ∈ BIG := bigm (List.mem_of_getElem? (i := 1310) (by decide +kernel)) (by decide +kernel)
theorem km_X9_least_inst : Cond.instanceMethod yX9_least ∈ BIG := bigm (List.mem_of_getElem? (i := 1321) (by decide +kernel)) (by decide +kernel)
theorem km_X9_least_sel : Cond.selects RX9 yX9_least yX9_least ∈ BIG := bigm (List.mem_of_getElem? (i := 61) (by decide +kernel)) (by decide +kernel)
theorem km_X9_least_code : Cond.code yX9_least cX9_least 2 (some .long) ∈ BIG := bigm (List.mem_of_getElem? (i := 1322) (by decide +kernel)) (by decide +kernel)
theorem km_X9_most_inst : Cond.instanceMethod yX9_most ∈ BIG := bigm (List.mem_of_getElem? (i := 1326) (by decide +kernel)) (by decide +kernel)
theorem km_X9_most_sel : Cond.selects RX9 yX9_most yX9_most ∈ BIG := bigm (List.mem_of_getElem? (i := 62) (by decide +kernel)) (by decide +kernel)
theorem km_X9_most_code : Cond.code yX9_most cX9_most 3 (some .long) ∈ BIG := bigm (List.mem_of_getElem? (i := 1327) (by decide +kernel)) (by decide +kernel)
theorem km_X9_part_inst : Cond.instanceMethod yX9_part ∈ BIG := bigm (List.mem_of_getElem? (i := 1316) (by decide +kernel)) (by decide +kernel)
theorem km_X9_part_sel : Cond.selects RX9 yX9_part yX9_part ∈ BIG := bigm (List.mem_of_getElem? (i := 1317) (by decide +kernel)) (by decide +kernel)
theorem km_X9_part_code : Cond.code yX9_part cX9_part 10 (some .int) ∈ BIG := bigm (List.mem_of_getElem? (i := 1318) (by decide +kernel)) (by decide +kernel)
theorem km_X9_told_inst : Cond.instanceMethod yX9_told ∈ BIG := bigm (List.mem_of_getElem? (i := 1335) (by decide +kernel)) (by decide +kernel)
theorem km_X9_told_sel : Cond.selects RX9 yX9_told yX9_told ∈ BIG := bigm (List.mem_of_getElem? (i := 1336) (by decide +kernel)) (by decide +kernel)
theorem km_X9_told_code : Cond.code yX9_told cX9_told 5 (some .int) ∈ BIG := bigm (List.mem_of_getElem? (i := 1337) (by decide +kernel)) (by decide +kernel)
theorem km_X9_acted_inst : Cond.instanceMethod yX9_acted ∈ BIG := bigm (List.mem_of_getElem? (i := 1380) (by decide +kernel)) (by decide +kernel)
theorem km_X9_acted_sel : Cond.selects RX9 yX9_acted yX9_acted ∈ BIG := bigm (List.mem_of_getElem? (i := 69) (by decide +kernel)) (by decide +kernel)
theorem km_X9_acted_code : Cond.code yX9_acted cX9_acted 5 none ∈ BIG := bigm (List.mem_of_getElem? (i := 1381) (by decide +kernel)) (by decide +kernel)
theorem km_X9_undo_inst : Cond.instanceMethod yX9_undo ∈ BIG := bigm (List.mem_of_getElem? (i := 1339) (by decide +kernel)) (by decide +kernel)
theorem km_X9_undo_sel : Cond.selects RX9 yX9_undo yX9_undo ∈ BIG := bigm (List.mem_of_getElem? (i := 1340) (by decide +kernel)) (by decide +kernel)
theorem km_X9_undo_code : Cond.code yX9_undo cX9_undo 2 (some .int) ∈ BIG := bigm (List.mem_of_getElem? (i := 1341) (by decide +kernel)) (by decide +kernel)
theorem km_X9_takeBack_inst : Cond.instanceMethod yX9_takeBack ∈ BIG := bigm (List.mem_of_getElem? (i := 1344) (by decide +kernel)) (by decide +kernel)
theorem km_X9_takeBack_sel : Cond.selects RX9 yX9_takeBack yX9_takeBack ∈ BIG := bigm (List.mem_of_getElem? (i := 63) (by decide +kernel)) (by decide +kernel)
theorem km_X9_takeBack_code : Cond.code yX9_takeBack cX9_takeBack 3 none ∈ BIG := bigm (List.mem_of_getElem? (i := 1345) (by decide +kernel)) (by decide +kernel)
theorem km_X9_car_inst : Cond.instanceMethod yX9_car ∈ BIG := bigm (List.mem_of_getElem? (i := 1359) (by decide +kernel)) (by decide +kernel)
theorem km_X9_car_sel : Cond.selects RX9 yX9_car yX9_car ∈ BIG := bigm (List.mem_of_getElem? (i := 1360) (by decide +kernel)) (by decide +kernel)
theorem km_X9_car_code : Cond.code yX9_car cX9_car 8 (some .int) ∈ BIG := bigm (List.mem_of_getElem? (i := 1361) (by decide +kernel)) (by decide +kernel)
theorem km_X9_isOn_inst : Cond.instanceMethod yX9_isOn ∈ BIG := bigm (List.mem_of_getElem? (i := 1364) (by decide +kernel)) (by decide +kernel)
theorem km_X9_isOn_sel : Cond.selects RX9 yX9_isOn yX9_isOn ∈ BIG := bigm (List.mem_of_getElem? (i := 67) (by decide +kernel)) (by decide +kernel)
theorem km_X9_isOn_code : Cond.code yX9_isOn cX9_isOn 3 (some .boolean) ∈ BIG := bigm (List.mem_of_getElem? (i := 1365) (by decide +kernel)) (by decide +kernel)
theorem km_X9_isCar_inst : Cond.instanceMethod yX9_isCar ∈ BIG := bigm (List.mem_of_getElem? (i := 1372) (by decide +kernel)) (by decide +kernel)
theorem km_X9_isCar_sel : Cond.selects RX9 yX9_isCar yX9_isCar ∈ BIG := bigm (List.mem_of_getElem? (i := 68) (by decide +kernel)) (by decide +kernel)
theorem km_X9_isCar_code : Cond.code yX9_isCar cX9_isCar 2 (some .boolean) ∈ BIG := bigm (List.mem_of_getElem? (i := 1373) (by decide +kernel)) (by decide +kernel)
theorem km_X9_about_inst : Cond.instanceMethod yX9_about ∈ BIG := bigm (List.mem_of_getElem? (i := 1367) (by decide +kernel)) (by decide +kernel)
theorem km_X9_about_sel : Cond.selects RX9 yX9_about yX9_about ∈ BIG := bigm (List.mem_of_getElem? (i := 1368) (by decide +kernel)) (by decide +kernel)
theorem km_X9_about_code : Cond.code yX9_about cX9_about 3 (some .int) ∈ BIG := bigm (List.mem_of_getElem? (i := 1369) (by decide +kernel)) (by decide +kernel)
theorem km_X9_drain_inst : Cond.instanceMethod yX9_drain ∈ BIG := bigm (List.mem_of_getElem? (i := 1375) (by decide +kernel)) (by decide +kernel)
theorem km_X9_drain_sel : Cond.selects RX9 yX9_drain yX9_drain ∈ BIG := bigm (List.mem_of_getElem? (i := 1376) (by decide +kernel)) (by decide +kernel)
theorem km_X9_drain_code : Cond.code yX9_drain cX9_drain 2 (some .int) ∈ BIG := bigm (List.mem_of_getElem? (i := 1377) (by decide +kernel)) (by decide +kernel)
theorem km_X9_papers_inst : Cond.instanceMethod yX9_papers ∈ BIG := bigm (List.mem_of_getElem? (i := 1383) (by decide +kernel)) (by decide +kernel)
theorem km_X9_papers_sel : Cond.selects RX9 yX9_papers yX9_papers ∈ BIG := bigm (List.mem_of_getElem? (i := 1384) (by decide +kernel)) (by decide +kernel)
theorem km_X9_papers_code : Cond.code yX9_papers cX9_papers 2 (some .int) ∈ BIG := bigm (List.mem_of_getElem? (i := 1385) (by decide +kernel)) (by decide +kernel)
theorem km_X9_partOf_inst : Cond.instanceMethod yX9_partOf ∈ BIG := bigm (List.mem_of_getElem? (i := 1352) (by decide +kernel)) (by decide +kernel)
theorem km_X9_partOf_sel : Cond.selects RX9 yX9_partOf yX9_partOf ∈ BIG := bigm (List.mem_of_getElem? (i := 65) (by decide +kernel)) (by decide +kernel)
theorem km_X9_partOf_code : Cond.code yX9_partOf cX9_partOf 2 (some .int) ∈ BIG := bigm (List.mem_of_getElem? (i := 1353) (by decide +kernel)) (by decide +kernel)
theorem km_X9_gramsOf_inst : Cond.instanceMethod yX9_gramsOf ∈ BIG := bigm (List.mem_of_getElem? (i := 1356) (by decide +kernel)) (by decide +kernel)
theorem km_X9_gramsOf_sel : Cond.selects RX9 yX9_gramsOf yX9_gramsOf ∈ BIG := bigm (List.mem_of_getElem? (i := 66) (by decide +kernel)) (by decide +kernel)
theorem km_X9_gramsOf_code : Cond.code yX9_gramsOf cX9_gramsOf 2 (some .int) ∈ BIG := bigm (List.mem_of_getElem? (i := 1357) (by decide +kernel)) (by decide +kernel)
theorem km_X9_stuffOf_inst : Cond.instanceMethod yX9_stuffOf ∈ BIG := bigm (List.mem_of_getElem? (i := 1348) (by decide +kernel)) (by decide +kernel)
theorem km_X9_stuffOf_sel : Cond.selects RX9 yX9_stuffOf yX9_stuffOf ∈ BIG := bigm (List.mem_of_getElem? (i := 64) (by decide +kernel)) (by decide +kernel)
theorem km_X9_stuffOf_code : Cond.code yX9_stuffOf cX9_stuffOf 2 (some .int) ∈ BIG := bigm (List.mem_of_getElem? (i := 1349) (by decide +kernel)) (by decide +kernel)
theorem km_X9_hindrance_inst : Cond.instanceMethod yX9_hindrance ∈ BIG := bigm (List.mem_of_getElem? (i := 1396) (by decide +kernel)) (by decide +kernel)
theorem km_X9_hindrance_sel : Cond.selects RX9 yX9_hindrance yX9_hindrance ∈ BIG := bigm (List.mem_of_getElem? (i := 71) (by decide +kernel)) (by decide +kernel)
theorem km_X9_hindrance_code : Cond.code yX9_hindrance cX9_hindrance 6 (some .int) ∈ BIG := bigm (List.mem_of_getElem? (i := 1397) (by decide +kernel)) (by decide +kernel)
theorem km_X9_isPartOf_inst : Cond.instanceMethod yX9_isPartOf ∈ BIG := bigm (List.mem_of_getElem? (i := 1392) (by decide +kernel)) (by decide +kernel)
theorem km_X9_isPartOf_sel : Cond.selects RX9 yX9_isPartOf yX9_isPartOf ∈ BIG := bigm (List.mem_of_getElem? (i := 70) (by decide +kernel)) (by decide +kernel)
theorem km_X9_isPartOf_code : Cond.code yX9_isPartOf cX9_isPartOf 3 (some .boolean) ∈ BIG := bigm (List.mem_of_getElem? (i := 1393) (by decide +kernel)) (by decide +kernel)
theorem km_X9_hinders_inst : Cond.instanceMethod yX9_hinders ∈ BIG := bigm (List.mem_of_getElem? (i := 1387) (by decide +kernel)) (by decide +kernel)
theorem km_X9_hinders_sel : Cond.selects RX9 yX9_hinders yX9_hinders ∈ BIG := bigm (List.mem_of_getElem? (i := 1388) (by decide +kernel)) (by decide +kernel)
theorem km_X9_hinders_code : Cond.code yX9_hinders cX9_hinders 3 (some .int) ∈ BIG := bigm (List.mem_of_getElem? (i := 1389) (by decide +kernel)) (by decide +kernel)
theorem km_X9_take_inst : Cond.instanceMethod yX9_take ∈ BIG := bigm (List.mem_of_getElem? (i := 1399) (by decide +kernel)) (by decide +kernel)
theorem km_X9_take_sel : Cond.selects RX9 yX9_take yX9_take ∈ BIG := bigm (List.mem_of_getElem? (i := 1400) (by decide +kernel)) (by decide +kernel)
theorem km_X9_take_code : Cond.code yX9_take cX9_take 5 (some .int) ∈ BIG := bigm (List.mem_of_getElem? (i := 1401) (by decide +kernel)) (by decide +kernel)
theorem km_X9_press_inst : Cond.instanceMethod yX9_press ∈ BIG := bigm (List.mem_of_getElem? (i := 1403) (by decide +kernel)) (by decide +kernel)
theorem km_X9_press_sel : Cond.selects RX9 yX9_press yX9_press ∈ BIG := bigm (List.mem_of_getElem? (i := 1404) (by decide +kernel)) (by decide +kernel)
theorem km_X9_press_code : Cond.code yX9_press cX9_press 5 (some .int) ∈ BIG := bigm (List.mem_of_getElem? (i := 1405) (by decide +kernel)) (by decide +kernel)
theorem km_X9_day_inst : Cond.instanceMethod yX9_day ∈ BIG := bigm (List.mem_of_getElem? (i := 1407) (by decide +kernel)) (by decide +kernel)
theorem km_X9_day_sel : Cond.selects RX9 yX9_day yX9_day ∈ BIG := bigm (List.mem_of_getElem? (i := 1408) (by decide +kernel)) (by decide +kernel)
theorem km_X9_day_code : Cond.code yX9_day cX9_day 2 (some .int) ∈ BIG := bigm (List.mem_of_getElem? (i := 1409) (by decide +kernel)) (by decide +kernel)
theorem km_X9_late_inst : Cond.instanceMethod yX9_late ∈ BIG := bigm (List.mem_of_getElem? (i := 1412) (by decide +kernel)) (by decide +kernel)
theorem km_X9_late_sel : Cond.selects RX9 yX9_late yX9_late ∈ BIG := bigm (List.mem_of_getElem? (i := 1413) (by decide +kernel)) (by decide +kernel)
theorem km_X9_late_code : Cond.code yX9_late cX9_late 6 (some .int) ∈ BIG := bigm (List.mem_of_getElem? (i := 1414) (by decide +kernel)) (by decide +kernel)
theorem km_X9_valueOf_inst : Cond.instanceMethod yX9_valueOf ∈ BIG := bigm (List.mem_of_getElem? (i := 1425) (by decide +kernel)) (by decide +kernel)
theorem km_X9_valueOf_sel : Cond.selects RX9 yX9_valueOf yX9_valueOf ∈ BIG := bigm (List.mem_of_getElem? (i := 73) (by decide +kernel)) (by decide +kernel)
theorem km_X9_valueOf_code : Cond.code yX9_valueOf cX9_valueOf 6 (some .int) ∈ BIG := bigm (List.mem_of_getElem? (i := 1426) (by decide +kernel)) (by decide +kernel)
theorem km_X9_isItem_inst : Cond.instanceMethod yX9_isItem ∈ BIG := bigm (List.mem_of_getElem? (i := 1421) (by decide +kernel)) (by decide +kernel)
theorem km_X9_isItem_sel : Cond.selects RX9 yX9_isItem yX9_isItem ∈ BIG := bigm (List.mem_of_getElem? (i := 72) (by decide +kernel)) (by decide +kernel)
theorem km_X9_isItem_code : Cond.code yX9_isItem cX9_isItem 2 (some .boolean) ∈ BIG := bigm (List.mem_of_getElem? (i := 1422) (by decide +kernel)) (by decide +kernel)
theorem km_X9_item_inst : Cond.instanceMethod yX9_item ∈ BIG := bigm (List.mem_of_getElem? (i := 1416) (by decide +kernel)) (by decide +kernel)
theorem km_X9_item_sel : Cond.selects RX9 yX9_item yX9_item ∈ BIG := bigm (List.mem_of_getElem? (i := 1417) (by decide +kernel)) (by decide +kernel)
theorem km_X9_item_code : Cond.code yX9_item cX9_item 3 (some .int) ∈ BIG := bigm (List.mem_of_getElem? (i := 1418) (by decide +kernel)) (by decide +kernel)
theorem km_X9_find_inst : Cond.instanceMethod yX9_find ∈ BIG := bigm (List.mem_of_getElem? (i := 1428) (by decide +kernel)) (by decide +kernel)
theorem km_X9_find_sel : Cond.selects RX9 yX9_find yX9_find ∈ BIG := bigm (List.mem_of_getElem? (i := 1429) (by decide +kernel)) (by decide +kernel)
theorem km_X9_find_code : Cond.code yX9_find cX9_find 8 (some .int) ∈ BIG := bigm (List.mem_of_getElem? (i := 1430) (by decide +kernel)) (by decide +kernel)
theorem km_X9_insert_inst : Cond.instanceMethod yX9_insert ∈ BIG := bigm (List.mem_of_getElem? (i := 1433) (by decide +kernel)) (by decide +kernel)
theorem km_X9_insert_sel : Cond.selects RX9 yX9_insert yX9_insert ∈ BIG := bigm (List.mem_of_getElem? (i := 74) (by decide +kernel)) (by decide +kernel)
theorem km_X9_insert_code : Cond.code yX9_insert cX9_insert 5 none ∈ BIG := bigm (List.mem_of_getElem? (i := 1434) (by decide +kernel)) (by decide +kernel)
theorem km_X9_found_inst : Cond.instanceMethod yX9_found ∈ BIG := bigm (List.mem_of_getElem? (i := 1436) (by decide +kernel)) (by decide +kernel)
theorem km_X9_found_sel : Cond.selects RX9 yX9_found yX9_found ∈ BIG := bigm (List.mem_of_getElem? (i := 1437) (by decide +kernel)) (by decide +kernel)
theorem km_X9_found_code : Cond.code yX9_found cX9_found 2 (some .int) ∈ BIG := bigm (List.mem_of_getElem? (i := 1438) (by decide +kernel)) (by decide +kernel)
theorem km_X9_sells_inst : Cond.instanceMethod yX9_sells ∈ BIG := bigm (List.mem_of_getElem? (i := 1445) (by decide +kernel)) (by decide +kernel)
theorem km_X9_sells_sel : Cond.selects RX9 yX9_sells yX9_sells ∈ BIG := bigm (List.mem_of_getElem? (i := 75) (by decide +kernel)) (by decide +kernel)
theorem km_X9_sells_code : Cond.code yX9_sells cX9_sells 3 none ∈ BIG := bigm (List.mem_of_getElem? (i := 1446) (by decide +kernel)) (by decide +kernel)
theorem km_X9_sell_inst : Cond.instanceMethod yX9_sell ∈ BIG := bigm (List.mem_of_getElem? (i := 1440) (by decide +kernel)) (by decide +kernel)
theorem km_X9_sell_sel : Cond.selects RX9 yX9_sell yX9_sell ∈ BIG := bigm (List.mem_of_getElem? (i := 1441) (by decide +kernel)) (by decide +kernel)
theorem km_X9_sell_code : Cond.code yX9_sell cX9_sell 7 (some .int) ∈ BIG := bigm (List.mem_of_getElem? (i := 1442) (by decide +kernel)) (by decide +kernel)
theorem km_X9_back_inst : Cond.instanceMethod yX9_back ∈ BIG := bigm (List.mem_of_getElem? (i := 1448) (by decide +kernel)) (by decide +kernel)
theorem km_X9_back_sel : Cond.selects RX9 yX9_back yX9_back ∈ BIG := bigm (List.mem_of_getElem? (i := 1449) (by decide +kernel)) (by decide +kernel)
theorem km_X9_back_code : Cond.code yX9_back cX9_back 4 (some .int) ∈ BIG := bigm (List.mem_of_getElem? (i := 1450) (by decide +kernel)) (by decide +kernel)
theorem km_X9_findBest_inst : Cond.instanceMethod yX9_findBest ∈ BIG := bigm (List.mem_of_getElem? (i := 1457) (by decide +kernel)) (by decide +kernel)
theorem km_X9_findBest_sel : Cond.selects RX9 yX9_findBest yX9_findBest ∈ BIG := bigm (List.mem_of_getElem? (i := 76) (by decide +kernel)) (by decide +kernel)
theorem km_X9_findBest_code : Cond.code yX9_findBest cX9_findBest 8 (some .int) ∈ BIG := bigm (List.mem_of_getElem? (i := 1458) (by decide +kernel)) (by decide +kernel)
theorem km_X9_best_inst : Cond.instanceMethod yX9_best ∈ BIG := bigm (List.mem_of_getElem? (i := 1452) (by decide +kernel)) (by decide +kernel)
theorem km_X9_best_sel : Cond.selects RX9 yX9_best yX9_best ∈ BIG := bigm (List.mem_of_getElem? (i := 1453) (by decide +kernel)) (by decide +kernel)
theorem km_X9_best_code : Cond.code yX9_best cX9_best 3 (some .int) ∈ BIG := bigm (List.mem_of_getElem? (i := 1454) (by decide +kernel)) (by decide +kernel)
theorem km_X9_worth_inst : Cond.instanceMethod yX9_worth ∈ BIG := bigm (List.mem_of_getElem? (i := 1460) (by decide +kernel)) (by decide +kernel)
theorem km_X9_worth_sel : Cond.selects RX9 yX9_worth yX9_worth ∈ BIG := bigm (List.mem_of_getElem? (i := 1461) (by decide +kernel)) (by decide +kernel)
theorem km_X9_worth_code : Cond.code yX9_worth cX9_worth 3 (some .int) ∈ BIG := bigm (List.mem_of_getElem? (i := 1462) (by decide +kernel)) (by decide +kernel)
theorem km_X9_grams_inst : Cond.instanceMethod yX9_grams ∈ BIG := bigm (List.mem_of_getElem? (i := 1464) (by decide +kernel)) (by decide +kernel)
theorem km_X9_grams_sel : Cond.selects RX9 yX9_grams yX9_grams ∈ BIG := bigm (List.mem_of_getElem? (i := 1465) (by decide +kernel)) (by decide +kernel)
theorem km_X9_grams_code : Cond.code yX9_grams cX9_grams 3 (some .int) ∈ BIG := bigm (List.mem_of_getElem? (i := 1466) (by decide +kernel)) (by decide +kernel)
theorem km_X9_count_inst : Cond.instanceMethod yX9_count ∈ BIG := bigm (List.mem_of_getElem? (i := 1468) (by decide +kernel)) (by decide +kernel)
theorem km_X9_count_sel : Cond.selects RX9 yX9_count yX9_count ∈ BIG := bigm (List.mem_of_getElem? (i := 1469) (by decide +kernel)) (by decide +kernel)
theorem km_X9_count_code : Cond.code yX9_count cX9_count 2 (some .int) ∈ BIG := bigm (List.mem_of_getElem? (i := 1470) (by decide +kernel)) (by decide +kernel)
theorem km_X9_till_inst : Cond.instanceMethod yX9_till ∈ BIG := bigm (List.mem_of_getElem? (i := 1472) (by decide +kernel)) (by decide +kernel)
theorem km_X9_till_sel : Cond.selects RX9 yX9_till yX9_till ∈ BIG := bigm (List.mem_of_getElem? (i := 1473) (by decide +kernel)) (by decide +kernel)
theorem km_X9_till_code : Cond.code yX9_till cX9_till 1 (some .long) ∈ BIG := bigm (List.mem_of_getElem? (i := 1474) (by decide +kernel)) (by decide +kernel)
theorem km_J7_fill_53178_static : Cond.static yJ7_fill_53178 ∈ BIG := bigm (List.mem_of_getElem? (i := 112) (by decide +kernel)) (by decide +kernel)
theorem km_J7_fill_53178_code : Cond.code yJ7_fill_53178 cJ7_fill_53178 4 none ∈ BIG := bigm (List.mem_of_getElem? (i := 113) (by decide +kernel)) (by decide +kernel)
theorem ki_J7 : Cond.initialized RJ7 ∈ BIG := bigm (List.mem_of_getElem? (i := 80) (by decide +kernel)) (by decide +kernel)
theorem ki_X0 : Cond.initialized RX0 ∈ BIG := bigm (List.mem_of_getElem? (i := 84) (by decide +kernel)) (by decide +kernel)
theorem ki_X1 : Cond.initialized RX1 ∈ BIG := bigm (List.mem_of_getElem? (i := 95) (by decide +kernel)) (by decide +kernel)
theorem ki_X2 : Cond.initialized RX2 ∈ BIG := bigm (List.mem_of_getElem? (i := 85) (by decide +kernel)) (by decide +kernel)
theorem ki_X3 : Cond.initialized RX3 ∈ BIG := bigm (List.mem_of_getElem? (i := 82) (by decide +kernel)) (by decide +kernel)
theorem ki_X4 : Cond.initialized RX4 ∈ BIG := bigm (List.mem_of_getElem? (i := 81) (by decide +kernel)) (by decide +kernel)
theorem ki_X6 : Cond.initialized RX6 ∈ BIG := bigm (List.mem_of_getElem? (i := 83) (by decide +kernel)) (by decide +kernel)
theorem ki_X7 : Cond.initialized RX7 ∈ BIG := bigm (List.mem_of_getElem? (i := 79) (by decide +kernel)) (by decide +kernel)
theorem ki_X8 : Cond.initialized RX8 ∈ BIG := bigm (List.mem_of_getElem? (i := 78) (by decide +kernel)) (by decide +kernel)
theorem ki_X9 : Cond.initialized RX9 ∈ BIG := bigm (List.mem_of_getElem? (i := 86) (by decide +kernel)) (by decide +kernel)
theorem lk_X0_22 : LkV RX0 22 yX0_dropEldest cX0_dropEldest 2 none 0 := ⟨(bigm (List.mem_of_getElem? (i := 816) (by decide +kernel)) (by decide +kernel)), km_X0_dropEldest_inst, km_X0_dropEldest_sel, ki_X0, km_X0_dropEldest_code, by decide +kernel, by decide +kernel, by decide +kernel⟩
theorem lk_X2_26 : LkV RX2 26 yX2_goesAhead cX2_goesAhead 4 (some .boolean) 3 := ⟨(bigm (List.mem_of_getElem? (i := 964) (by decide +kernel)) (by decide +kernel)), km_X2_goesAhead_inst, km_X2_goesAhead_sel, ki_X2, km_X2_goesAhead_code, by decide +kernel, by decide +kernel, by decide +kernel⟩
theorem lk_X2_30 : LkV RX2 30 yX2_write cX2_write 5 none 4 := ⟨(bigm (List.mem_of_getElem? (i := 968) (by decide +kernel)) (by decide +kernel)), km_X2_write_inst, km_X2_write_sel, ki_X2, km_X2_write_code, by decide +kernel, by decide +kernel, by decide +kernel⟩
theorem lk_X3_33 : LkS RX3 33 yX3_signOf cX3_signOf 1 (some .int) 1 := ⟨(bigm (List.mem_of_getElem? (i := 647) (by decide +kernel)) (by decide +kernel)), km_X3_signOf_static, ki_X3, km_X3_signOf_code, by decide +kernel, by decide +kernel, by decide +kernel⟩
theorem km_X3_37 : Cond.methodLink RX3 37 Lib.Math.max.name ∈ BIG := bigm (List.mem_of_getElem? (i := 559) (by decide +kernel)) (by decide +kernel)
theorem km_X3_43 : Cond.methodLink RX3 43 Lib.Math.min.name ∈ BIG := bigm (List.mem_of_getElem? (i := 562) (by decide +kernel)) (by decide +kernel)
theorem lk_X3_46 : LkV RX3 46 yX3_readAny cX3_readAny 3 none 1 := ⟨(bigm (List.mem_of_getElem? (i := 565) (by decide +kernel)) (by decide +kernel)), km_X3_readAny_inst, km_X3_readAny_sel, ki_X3, km_X3_readAny_code, by decide +kernel, by decide +kernel, by decide +kernel⟩
theorem lk_X3_50 : LkV RX3 50 yX3_nextByte cX3_nextByte 1 (some .int) 0 := ⟨(bigm (List.mem_of_getElem? (i := 581) (by decide +kernel)) (by decide +kernel)), km_X3_nextByte_inst, km_X3_nextByte_sel, ki_X3, km_X3_nextByte_code, by decide +kernel, by decide +kernel, by decide +kernel⟩
theorem lk_X3_54 : LkV RX3 54 yX3_readAll cX3_readAll 3 none 1 := ⟨(bigm (List.mem_of_getElem? (i := 569) (by decide +kernel)) (by decide +kernel)), km_X3_readAll_inst, km_X3_readAll_sel, ki_X3, km_X3_readAll_code, by decide +kernel, by decide +kernel, by decide +kernel⟩
theorem lk_X3_57 : LkV RX3 57 yX3_comes cX3_comes 2 (some .boolean) 1 := ⟨(bigm (List.mem_of_getElem? (i := 577) (by decide +kernel)) (by decide +kernel)), km_X3_comes_inst, km_X3_comes_sel, ki_X3, km_X3_comes_code, by decide +kernel, by decide +kernel, by decide +kernel⟩
theorem lk_X3_61 : LkV RX3 61 yX3_add cX3_add 4 none 3 := ⟨(bigm (List.mem_of_getElem? (i := 589) (by decide +kernel)) (by decide +kernel)), km_X3_add_inst, km_X3_add_sel, ki_X3, km_X3_add_code, by decide +kernel, by decide +kernel, by decide +kernel⟩
theorem lk_X3_65 : LkV RX3 65 yX3_readUnit cX3_readUnit 2 none 1 := ⟨(bigm (List.mem_of_getElem? (i := 573) (by decide +kernel)) (by decide +kernel)), km_X3_readUnit_inst, km_X3_readUnit_sel, ki_X3, km_X3_readUnit_code, by decide +kernel, by decide +kernel, by decide +kernel⟩
theorem lk_X3_68 : LkV RX3 68 yX3_must cX3_must 2 none 1 := ⟨(bigm (List.mem_of_getElem? (i := 593) (by decide +kernel)) (by decide +kernel)), km_X3_must_inst, km_X3_must_sel, ki_X3, km_X3_must_code, by decide +kernel, by decide +kernel, by decide +kernel⟩
theorem lk_X3_72 : LkV RX3 72 yX3_readTest cX3_readTest 2 none 0 := ⟨(bigm (List.mem_of_getElem? (i := 597) (by decide +kernel)) (by decide +kernel)), km_X3_readTest_inst, km_X3_readTest_sel, ki_X3, km_X3_readTest_code, by decide +kernel, by decide +kernel, by decide +kernel⟩
theorem lk_X3_75 : LkV RX3 75 yX3_readNumber cX3_readNumber 4 (some .int) 0 := ⟨(bigm (List.mem_of_getElem? (i := 601) (by decide +kernel)) (by decide +kernel)), km_X3_readNumber_inst, km_X3_readNumber_sel, ki_X3, km_X3_readNumber_code, by decide +kernel, by decide +kernel, by decide +kernel⟩
theorem lk_X3_78 : LkV RX3 78 yX3_readLetter cX3_readLetter 2 (some .int) 0 := ⟨(bigm (List.mem_of_getElem? (i := 608) (by decide +kernel)) (by decide +kernel)), km_X3_readLetter_inst, km_X3_readLetter_sel, ki_X3, km_X3_readLetter_code, by decide +kernel, by decide +kernel, by decide +kernel⟩
theorem lk_X3_81 : LkS RX3 81 yX3_isDigit cX3_isDigit 1 (some .boolean) 1 := ⟨(bigm (List.mem_of_getElem? (i := 605) (by decide +kernel)) (by decide +kernel)), km_X3_isDigit_static, ki_X3, km_X3_isDigit_code, by decide +kernel, by decide +kernel, by decide +kernel⟩
theorem lk_X3_85 : LkV RX3 85 yX3_byteHere cX3_byteHere 1 (some .int) 0 := ⟨(bigm (List.mem_of_getElem? (i := 585) (by decide +kernel)) (by decide +kernel)), km_X3_byteHere_inst, km_X3_byteHere_sel, ki_X3, km_X3_byteHere_code, by decide +kernel, by decide +kernel, by decide +kernel⟩
theorem lk_X4_36 : LkV RX4 36 yX3_read cX3_read 4 (some .int) 2 := ⟨(bigm (List.mem_of_getElem? (i := 555) (by decide +kernel)) (by decide +kernel)), km_X3_read_inst, km_X3_read_sel, ki_X3, km_X3_read_code, by decide +kernel, by decide +kernel, by decide +kernel⟩
theorem lk_X4_40 : LkV RX4 40 yX4_keep cX4_keep 3 none 0 := ⟨(bigm (List.mem_of_getElem? (i := 612) (by decide +kernel)) (by decide +kernel)), km_X4_keep_inst, km_X4_keep_sel, ki_X4, km_X4_keep_code, by decide +kernel, by decide +kernel, by decide +kernel⟩
theorem lk_X4_43 : LkV RX4 43 yX3_size cX3_size 1 (some .int) 0 := ⟨(bigm (List.mem_of_getElem? (i := 616) (by decide +kernel)) (by decide +kernel)), km_X3_size_inst, km_X3_size_sel, ki_X3, km_X3_size_code, by decide +kernel, by decide +kernel, by decide +kernel⟩
theorem lk_X4_47 : LkV RX4 47 yX4_stepPlace cX4_stepPlace 4 (some .int) 2 := ⟨(bigm (List.mem_of_getElem? (i := 620) (by decide +kernel)) (by decide +kernel)), km_X4_stepPlace_inst, km_X4_stepPlace_sel, ki_X4, km_X4_stepPlace_code, by decide +kernel, by decide +kernel, by decide +kernel⟩
theorem lk_X4_51 : LkV RX4 51 yX3_stepAt cX3_stepAt 2 (some .int) 1 := ⟨(bigm (List.mem_of_getElem? (i := 624) (by decide +kernel)) (by decide +kernel)), km_X3_stepAt_inst, km_X3_stepAt_sel, ki_X3, km_X3_stepAt_code, by decide +kernel, by decide +kernel, by decide +kernel⟩
theorem lk_X4_55 : LkS RX4 55 yX3_signOf cX3_signOf 1 (some .int) 1 := ⟨(bigm (List.mem_of_getElem? (i := 640) (by decide +kernel)) (by decide +kernel)), km_X3_signOf_static, ki_X3, km_X3_signOf_code, by decide +kernel, by decide +kernel, by decide +kernel⟩
theorem kc_X4_58 : Cond.constantLong RX4 58 (-2) ∈ BIG := bigm (List.mem_of_getElem? (i := 643) (by decide +kernel)) (by decide +kernel)
theorem lk_X4_60 : LkS RX4 60 yX3_passes cX3_passes 6 (some .boolean) 4 := ⟨(bigm (List.mem_of_getElem? (i := 644) (by decide +kernel)) (by decide +kernel)), km_X3_passes_static, ki_X3, km_X3_passes_code, by decide +kernel, by decide +kernel, by decide +kernel⟩
theorem lk_X6_18 : LkV RX6 18 yX6_partsOf cX6_partsOf 2 (some .int) 1 := ⟨(bigm (List.mem_of_getElem? (i := 363) (by decide +kernel)) (by decide +kernel)), km_X6_partsOf_inst, km_X6_partsOf_sel, ki_X6, km_X6_partsOf_code, by decide +kernel, by decide +kernel, by decide +kernel⟩
theorem lk_X6_22 : LkV RX6 22 yX6_placeOf cX6_placeOf 6 (some .int) 3 := ⟨(bigm (List.mem_of_getElem? (i := 359) (by decide +kernel)) (by decide +kernel)), km_X6_placeOf_inst, km_X6_placeOf_sel, ki_X6, km_X6_placeOf_code, by decide +kernel, by decide +kernel, by decide +kernel⟩
theorem lk_X6_26 : LkV RX6 26 yX6_factOf cX6_factOf 5 (some .int) 3 := ⟨(bigm (List.mem_of_getElem? (i := 691) (by decide +kernel)) (by decide +kernel)), km_X6_factOf_inst, km_X6_factOf_sel, ki_X6, km_X6_factOf_code, by decide +kernel, by decide +kernel, by decide +kernel⟩
theorem lk_X7_32 : LkV RX7 32 yX7_write cX7_write 6 (some .boolean) 3 := ⟨(bigm (List.mem_of_getElem? (i := 511) (by decide +kernel)) (by decide +kernel)), km_X7_write_inst, km_X7_write_sel, ki_X7, km_X7_write_code, by decide +kernel, by decide +kernel, by decide +kernel⟩
theorem lk_X7_36 : LkV RX7 36 yX7_placeOf cX7_placeOf 4 (some .int) 2 := ⟨(bigm (List.mem_of_getElem? (i := 515) (by decide +kernel)) (by decide +kernel)), km_X7_placeOf_inst, km_X7_placeOf_sel, ki_X7, km_X7_placeOf_code, by decide +kernel, by decide +kernel, by decide +kernel⟩
theorem lk_X7_40 : LkV RX7 40 yX7_lowestBits cX7_lowestBits 6 (some .long) 2 := ⟨(bigm (List.mem_of_getElem? (i := 523) (by decide +kernel)) (by decide +kernel)), km_X7_lowestBits_inst, km_X7_lowestBits_sel, ki_X7, km_X7_lowestBits_code, by decide +kernel, by decide +kernel, by decide +kernel⟩
theorem lk_X7_44 : LkV RX7 44 yX7_lengthAt cX7_lengthAt 2 (some .int) 1 := ⟨(bigm (List.mem_of_getElem? (i := 519) (by decide +kernel)) (by decide +kernel)), km_X7_lengthAt_inst, km_X7_lengthAt_sel, ki_X7, km_X7_lengthAt_code, by decide +kernel, by decide +kernel, by decide +kernel⟩
theorem lk_X8_80 : LkS RX8 80 yX7_isWidth cX7_isWidth 1 (some .boolean) 1 := ⟨(bigm (List.mem_of_getElem? (i := 384) (by decide +kernel)) (by decide +kernel)), km_X7_isWidth_static, ki_X7, km_X7_isWidth_code, by decide +kernel, by decide +kernel, by decide +kernel⟩
theorem tha_88 : (∀ w ∈ (vx_atS RX8 88 "java/lang/IllegalArgumentException" ["java/lang/RuntimeException", "java/lang/Exception"]).filter goodWord, w ∈ BIG) ∧ (∀ ik, ∀ w ∈ Cond.classLink RX8 ik "java/lang/IllegalArgumentException" :: Cond.initialized "java/lang/IllegalArgumentException" :: vx_atS RX8 88 "java/lang/IllegalArgumentException" ["java/lang/RuntimeException", "java/lang/Exception"], vx_ot w = true) ∧ ∀ w ∈ (vx_atS RX8 88 "java/lang/IllegalArgumentException" ["java/lang/RuntimeException", "java/lang/Exception"]).filter (fun w => !goodWord w), w ∈ [Cond.castable "java/lang/IllegalArgumentException" "java/lang/IllegalArgumentException"] := by
  refine ⟨fun w hw => bigm ((List.all_eq_true.mp (show ((vx_atS RX8 88 "java/lang/IllegalArgumentException" ["java/lang/RuntimeException", "java/lang/Exception"]).filter goodWord).all (fun w => decide (w ∈ lw_tbl)) = true by decide +kernel) w hw) |> of_decide_eq_true) (List.mem_filter.mp hw).2, fun ik w hw => ?_, by decide +kernel⟩
  rcases List.mem_cons.mp hw with h | h
  · rw [h]; rfl
  · exact List.all_eq_true.mp (show (Cond.initialized "java/lang/IllegalArgumentException" :: vx_atS RX8 88 "java/lang/IllegalArgumentException" ["java/lang/RuntimeException", "java/lang/Exception"]).all vx_ot = true by decide +kernel) w h
theorem th_X8_84_86_88 : Th 84 86 88 "java/lang/IllegalArgumentException" "no such WIDTH" := ⟨bigm (List.mem_of_getElem? (i := 387) (by decide +kernel)) (by decide +kernel), bigm (List.mem_of_getElem? (i := 90) (by decide +kernel)) (by decide +kernel), by decide +kernel, tha_88.1, by decide +kernel, by decide +kernel, tha_88.2.1 84, tha_88.2.2⟩
theorem lk_X8_91 : LkV RX8 91 yX7_open cX7_open 2 (some .int) 1 := ⟨(bigm (List.mem_of_getElem? (i := 455) (by decide +kernel)) (by decide +kernel)), km_X7_open_inst, km_X7_open_sel, ki_X7, km_X7_open_code, by decide +kernel, by decide +kernel, by decide +kernel⟩
theorem tha_99 : (∀ w ∈ (vx_atS RX8 99 "java/lang/IllegalStateException" ["java/lang/RuntimeException", "java/lang/Exception"]).filter goodWord, w ∈ BIG) ∧ (∀ ik, ∀ w ∈ Cond.classLink RX8 ik "java/lang/IllegalStateException" :: Cond.initialized "java/lang/IllegalStateException" :: vx_atS RX8 99 "java/lang/IllegalStateException" ["java/lang/RuntimeException", "java/lang/Exception"], vx_ot w = true) ∧ ∀ w ∈ (vx_atS RX8 99 "java/lang/IllegalStateException" ["java/lang/RuntimeException", "java/lang/Exception"]).filter (fun w => !goodWord w), w ∈ [Cond.castable "java/lang/IllegalStateException" "java/lang/IllegalStateException"] := by
  refine ⟨fun w hw => bigm ((List.all_eq_true.mp (show ((vx_atS RX8 99 "java/lang/IllegalStateException" ["java/lang/RuntimeException", "java/lang/Exception"]).filter goodWord).all (fun w => decide (w ∈ lw_tbl)) = true by decide +kernel) w hw) |> of_decide_eq_true) (List.mem_filter.mp hw).2, fun ik w hw => ?_, by decide +kernel⟩
  rcases List.mem_cons.mp hw with h | h
  · rw [h]; rfl
  · exact List.all_eq_true.mp (show (Cond.initialized "java/lang/IllegalStateException" :: vx_atS RX8 99 "java/lang/IllegalStateException" ["java/lang/RuntimeException", "java/lang/Exception"]).all vx_ot = true by decide +kernel) w h
theorem th_X8_95_97_99 : Th 95 97 99 "java/lang/IllegalStateException" "there are 8 SHEETS" := ⟨bigm (List.mem_of_getElem? (i := 459) (by decide +kernel)) (by decide +kernel), bigm (List.mem_of_getElem? (i := 91) (by decide +kernel)) (by decide +kernel), by decide +kernel, tha_99.1, by decide +kernel, by decide +kernel, tha_99.2.1 95, tha_99.2.2⟩
theorem lk_X8_100 : LkV RX8 100 yX8_slotOf cX8_slotOf 4 (some .int) 2 := ⟨(bigm (List.mem_of_getElem? (i := 483) (by decide +kernel)) (by decide +kernel)), km_X8_slotOf_inst, km_X8_slotOf_sel, ki_X8, km_X8_slotOf_code, by decide +kernel, by decide +kernel, by decide +kernel⟩
theorem lk_X8_104 : LkV RX8 104 yX7_renew cX7_renew 4 none 2 := ⟨(bigm (List.mem_of_getElem? (i := 507) (by decide +kernel)) (by decide +kernel)), km_X7_renew_inst, km_X7_renew_sel, ki_X7, km_X7_renew_code, by decide +kernel, by decide +kernel, by decide +kernel⟩
theorem lk_X8_108 : LkV RX8 108 yX7_lengthAt cX7_lengthAt 2 (some .int) 1 := ⟨(bigm (List.mem_of_getElem? (i := 534) (by decide +kernel)) (by decide +kernel)), km_X7_lengthAt_inst, km_X7_lengthAt_sel, ki_X7, km_X7_lengthAt_code, by decide +kernel, by decide +kernel, by decide +kernel⟩
theorem lk_X8_111 : LkV RX8 111 yX7_write cX7_write 6 (some .boolean) 3 := ⟨(bigm (List.mem_of_getElem? (i := 535) (by decide +kernel)) (by decide +kernel)), km_X7_write_inst, km_X7_write_sel, ki_X7, km_X7_write_code, by decide +kernel, by decide +kernel, by decide +kernel⟩
theorem lk_X8_115 : LkV RX8 115 yX7_slotAt cX7_slotAt 3 (some .int) 2 := ⟨(bigm (List.mem_of_getElem? (i := 487) (by decide +kernel)) (by decide +kernel)), km_X7_slotAt_inst, km_X7_slotAt_sel, ki_X7, km_X7_slotAt_code, by decide +kernel, by decide +kernel, by decide +kernel⟩
theorem tha_122 : (∀ w ∈ (vx_atS RX8 122 "java/lang/IndexOutOfBoundsException" ["java/lang/RuntimeException", "java/lang/Exception"]).filter goodWord, w ∈ BIG) ∧ (∀ ik, ∀ w ∈ Cond.classLink RX8 ik "java/lang/IndexOutOfBoundsException" :: Cond.initialized "java/lang/IndexOutOfBoundsException" :: vx_atS RX8 122 "java/lang/IndexOutOfBoundsException" ["java/lang/RuntimeException", "java/lang/Exception"], vx_ot w = true) ∧ ∀ w ∈ (vx_atS RX8 122 "java/lang/IndexOutOfBoundsException" ["java/lang/RuntimeException", "java/lang/Exception"]).filter (fun w => !goodWord w), w ∈ [Cond.castable "java/lang/IndexOutOfBoundsException" "java/lang/IndexOutOfBoundsException"] := by
  refine ⟨fun w hw => bigm ((List.all_eq_true.mp (show ((vx_atS RX8 122 "java/lang/IndexOutOfBoundsException" ["java/lang/RuntimeException", "java/lang/Exception"]).filter goodWord).all (fun w => decide (w ∈ lw_tbl)) = true by decide +kernel) w hw) |> of_decide_eq_true) (List.mem_filter.mp hw).2, fun ik w hw => ?_, by decide +kernel⟩
  rcases List.mem_cons.mp hw with h | h
  · rw [h]; rfl
  · exact List.all_eq_true.mp (show (Cond.initialized "java/lang/IndexOutOfBoundsException" :: vx_atS RX8 122 "java/lang/IndexOutOfBoundsException" ["java/lang/RuntimeException", "java/lang/Exception"]).all vx_ot = true by decide +kernel) w h
theorem th_X8_118_120_122 : Th 118 120 122 "java/lang/IndexOutOfBoundsException" "no such SHEET or ROW" := ⟨bigm (List.mem_of_getElem? (i := 491) (by decide +kernel)) (by decide +kernel), bigm (List.mem_of_getElem? (i := 92) (by decide +kernel)) (by decide +kernel), by decide +kernel, tha_122.1, by decide +kernel, by decide +kernel, tha_122.2.1 118, tha_122.2.2⟩
theorem lk_X8_123 : LkV RX8 123 yX4_hasRoomToFeed cX4_hasRoomToFeed 1 (some .boolean) 0 := ⟨(bigm (List.mem_of_getElem? (i := 280) (by decide +kernel)) (by decide +kernel)), km_X4_hasRoomToFeed_inst, km_X4_hasRoomToFeed_sel, ki_X4, km_X4_hasRoomToFeed_code, by decide +kernel, by decide +kernel, by decide +kernel⟩
theorem lk_X8_127 : LkV RX8 127 yX4_append cX4_append 3 none 1 := ⟨(bigm (List.mem_of_getElem? (i := 284) (by decide +kernel)) (by decide +kernel)), km_X4_append_inst, km_X4_append_sel, ki_X4, km_X4_append_code, by decide +kernel, by decide +kernel, by decide +kernel⟩
theorem lk_X8_131 : LkV RX8 131 yX4_fed cX4_fed 1 (some .int) 0 := ⟨(bigm (List.mem_of_getElem? (i := 288) (by decide +kernel)) (by decide +kernel)), km_X4_fed_inst, km_X4_fed_sel, ki_X4, km_X4_fed_code, by decide +kernel, by decide +kernel, by decide +kernel⟩
theorem th_X8_84_135_88 : Th 84 135 88 "java/lang/IllegalArgumentException" "not so many bytes on the TAPE" := ⟨bigm (List.mem_of_getElem? (i := 387) (by decide +kernel)) (by decide +kernel), bigm (List.mem_of_getElem? (i := 90) (by decide +kernel)) (by decide +kernel), by decide +kernel, tha_88.1, by decide +kernel, by decide +kernel, tha_88.2.1 84, tha_88.2.2⟩
theorem lk_X8_137 : LkV RX8 137 yX4_readTape cX4_readTape 3 (some .int) 1 := ⟨(bigm (List.mem_of_getElem? (i := 551) (by decide +kernel)) (by decide +kernel)), km_X4_readTape_inst, km_X4_readTape_sel, ki_X4, km_X4_readTape_code, by decide +kernel, by decide +kernel, by decide +kernel⟩
theorem lk_X8_140 : LkV RX8 140 yX4_made cX4_made 1 (some .int) 0 := ⟨(bigm (List.mem_of_getElem? (i := 312) (by decide +kernel)) (by decide +kernel)), km_X4_made_inst, km_X4_made_sel, ki_X4, km_X4_made_code, by decide +kernel, by decide +kernel, by decide +kernel⟩
theorem th_X8_118_143_122 : Th 118 143 122 "java/lang/IndexOutOfBoundsException" "no such FIT" := ⟨bigm (List.mem_of_getElem? (i := 491) (by decide +kernel)) (by decide +kernel), bigm (List.mem_of_getElem? (i := 92) (by decide +kernel)) (by decide +kernel), by decide +kernel, tha_122.1, by decide +kernel, by decide +kernel, tha_122.2.1 118, tha_122.2.2⟩
theorem lk_X8_145 : LkV RX8 145 yX4_holds cX4_holds 11 (some .boolean) 4 := ⟨(bigm (List.mem_of_getElem? (i := 636) (by decide +kernel)) (by decide +kernel)), km_X4_holds_inst, km_X4_holds_sel, ki_X4, km_X4_holds_code, by decide +kernel, by decide +kernel, by decide +kernel⟩
theorem lk_X8_149 : LkS RX8 149 yX6_isModel cX6_isModel 1 (some .boolean) 1 := ⟨(bigm (List.mem_of_getElem? (i := 655) (by decide +kernel)) (by decide +kernel)), km_X6_isModel_static, ki_X6, km_X6_isModel_code, by decide +kernel, by decide +kernel, by decide +kernel⟩
theorem th_X8_84_152_88 : Th 84 152 88 "java/lang/IllegalArgumentException" "no such MODEL" := ⟨bigm (List.mem_of_getElem? (i := 387) (by decide +kernel)) (by decide +kernel), bigm (List.mem_of_getElem? (i := 90) (by decide +kernel)) (by decide +kernel), by decide +kernel, tha_88.1, by decide +kernel, by decide +kernel, tha_88.2.1 84, tha_88.2.2⟩
theorem lk_X8_154 : LkV RX8 154 yX8_hasNumberBeyond cX8_hasNumberBeyond 4 (some .boolean) 2 := ⟨(bigm (List.mem_of_getElem? (i := 659) (by decide +kernel)) (by decide +kernel)), km_X8_hasNumberBeyond_inst, km_X8_hasNumberBeyond_sel, ki_X8, km_X8_hasNumberBeyond_code, by decide +kernel, by decide +kernel, by decide +kernel⟩
theorem lk_X8_158 : LkV RX8 158 yX8_breaksShellRule cX8_breaksShellRule 4 (some .boolean) 2 := ⟨(bigm (List.mem_of_getElem? (i := 683) (by decide +kernel)) (by decide +kernel)), km_X8_breaksShellRule_inst, km_X8_breaksShellRule_sel, ki_X8, km_X8_breaksShellRule_code, by decide +kernel, by decide +kernel, by decide +kernel⟩
theorem lk_X8_161 : LkV RX8 161 yX6_partsOf cX6_partsOf 2 (some .int) 1 := ⟨(bigm (List.mem_of_getElem? (i := 678) (by decide +kernel)) (by decide +kernel)), km_X6_partsOf_inst, km_X6_partsOf_sel, ki_X6, km_X6_partsOf_code, by decide +kernel, by decide +kernel, by decide +kernel⟩
theorem lk_X8_164 : LkV RX8 164 yX8_addPart cX8_addPart 5 (some .int) 2 := ⟨(bigm (List.mem_of_getElem? (i := 692) (by decide +kernel)) (by decide +kernel)), km_X8_addPart_inst, km_X8_addPart_sel, ki_X8, km_X8_addPart_code, by decide +kernel, by decide +kernel, by decide +kernel⟩
theorem tha_171 : (∀ w ∈ (vx_atS RX8 171 "java/util/NoSuchElementException" ["java/lang/RuntimeException", "java/lang/Exception"]).filter goodWord, w ∈ BIG) ∧ (∀ ik, ∀ w ∈ Cond.classLink RX8 ik "java/util/NoSuchElementException" :: Cond.initialized "java/util/NoSuchElementException" :: vx_atS RX8 171 "java/util/NoSuchElementException" ["java/lang/RuntimeException", "java/lang/Exception"], vx_ot w = true) ∧ ∀ w ∈ (vx_atS RX8 171 "java/util/NoSuchElementException" ["java/lang/RuntimeException", "java/lang/Exception"]).filter (fun w => !goodWord w), w ∈ [Cond.castable "java/util/NoSuchElementException" "java/util/NoSuchElementException"] := by
  refine ⟨fun w hw => bigm ((List.all_eq_true.mp (show ((vx_atS RX8 171 "java/util/NoSuchElementException" ["java/lang/RuntimeException", "java/lang/Exception"]).filter goodWord).all (fun w => decide (w ∈ lw_tbl)) = true by decide +kernel) w hw) |> of_decide_eq_true) (List.mem_filter.mp hw).2, fun ik w hw => ?_, by decide +kernel⟩
  rcases List.mem_cons.mp hw with h | h
  · rw [h]; rfl
  · exact List.all_eq_true.mp (show (Cond.initialized "java/util/NoSuchElementException" :: vx_atS RX8 171 "java/util/NoSuchElementException" ["java/lang/RuntimeException", "java/lang/Exception"]).all vx_ot = true by decide +kernel) w h
theorem th_X8_167_169_171 : Th 167 169 171 "java/util/NoSuchElementException" "no such PART" := ⟨bigm (List.mem_of_getElem? (i := 712) (by decide +kernel)) (by decide +kernel), bigm (List.mem_of_getElem? (i := 94) (by decide +kernel)) (by decide +kernel), by decide +kernel, tha_171.1, by decide +kernel, by decide +kernel, tha_171.2.1 167, tha_171.2.2⟩
theorem th_X8_84_172_88 : Th 84 172 88 "java/lang/IllegalArgumentException" "no such what" := ⟨bigm (List.mem_of_getElem? (i := 387) (by decide +kernel)) (by decide +kernel), bigm (List.mem_of_getElem? (i := 90) (by decide +kernel)) (by decide +kernel), by decide +kernel, tha_88.1, by decide +kernel, by decide +kernel, tha_88.2.1 84, tha_88.2.2⟩
theorem lk_X8_174 : LkV RX8 174 yX6_factOf cX6_factOf 5 (some .int) 3 := ⟨(bigm (List.mem_of_getElem? (i := 355) (by decide +kernel)) (by decide +kernel)), km_X6_factOf_inst, km_X6_factOf_sel, ki_X6, km_X6_factOf_code, by decide +kernel, by decide +kernel, by decide +kernel⟩
theorem lk_X8_178 : LkV RX8 178 yX7_read cX7_read 4 (some .long) 2 := ⟨(bigm (List.mem_of_getElem? (i := 667) (by decide +kernel)) (by decide +kernel)), km_X7_read_inst, km_X7_read_sel, ki_X7, km_X7_read_code, by decide +kernel, by decide +kernel, by decide +kernel⟩
theorem kc_X8_182 : Cond.constantLong RX8 182 (-1) ∈ BIG := bigm (List.mem_of_getElem? (i := 671) (by decide +kernel)) (by decide +kernel)
theorem lk_X8_184 : LkV RX8 184 yX8_rowSays cX8_rowSays 3 (some .long) 2 := ⟨(bigm (List.mem_of_getElem? (i := 663) (by decide +kernel)) (by decide +kernel)), km_X8_rowSays_inst, km_X8_rowSays_sel, ki_X8, km_X8_rowSays_code, by decide +kernel, by decide +kernel, by decide +kernel⟩
theorem lk_X8_187 : LkV RX8 187 yX8_isBeyond cX8_isBeyond 5 (some .boolean) 3 := ⟨(bigm (List.mem_of_getElem? (i := 672) (by decide +kernel)) (by decide +kernel)), km_X8_isBeyond_inst, km_X8_isBeyond_sel, ki_X8, km_X8_isBeyond_code, by decide +kernel, by decide +kernel, by decide +kernel⟩
theorem kc_X8_190 : Cond.constantLong RX8 190 (5) ∈ BIG := bigm (List.mem_of_getElem? (i := 676) (by decide +kernel)) (by decide +kernel)
theorem kc_X8_192 : Cond.constantLong RX8 192 (99) ∈ BIG := bigm (List.mem_of_getElem? (i := 677) (by decide +kernel)) (by decide +kernel)
theorem kc_X8_194 : Cond.constantLong RX8 194 (240) ∈ BIG := bigm (List.mem_of_getElem? (i := 679) (by decide +kernel)) (by decide +kernel)
theorem kc_X8_196 : Cond.constantLong RX8 196 (200000) ∈ BIG := bigm (List.mem_of_getElem? (i := 680) (by decide +kernel)) (by decide +kernel)
theorem kc_X8_198 : Cond.constantLong RX8 198 (4) ∈ BIG := bigm (List.mem_of_getElem? (i := 681) (by decide +kernel)) (by decide +kernel)
theorem kc_X8_200 : Cond.constantLong RX8 200 (100000) ∈ BIG := bigm (List.mem_of_getElem? (i := 682) (by decide +kernel)) (by decide +kernel)
theorem lk_X8_202 : LkV RX8 202 yX6_hasShell cX6_hasShell 3 (some .boolean) 1 := ⟨(bigm (List.mem_of_getElem? (i := 687) (by decide +kernel)) (by decide +kernel)), km_X6_hasShell_inst, km_X6_hasShell_sel, ki_X6, km_X6_hasShell_code, by decide +kernel, by decide +kernel, by decide +kernel⟩
theorem lk_X8_205 : LkV RX8 205 yX6_add cX6_add 3 (some .int) 1 := ⟨(bigm (List.mem_of_getElem? (i := 696) (by decide +kernel)) (by decide +kernel)), km_X6_add_inst, km_X6_add_sel, ki_X6, km_X6_add_code, by decide +kernel, by decide +kernel, by decide +kernel⟩
theorem lk_X8_208 : LkV RX8 208 yX6_store cX6_store 6 none 4 := ⟨(bigm (List.mem_of_getElem? (i := 700) (by decide +kernel)) (by decide +kernel)), km_X6_store_inst, km_X6_store_sel, ki_X6, km_X6_store_code, by decide +kernel, by decide +kernel, by decide +kernel⟩
theorem th_X8_84_212_88 : Th 84 212 88 "java/lang/IllegalArgumentException" "no such MODEL, or one without PARTS" := ⟨bigm (List.mem_of_getElem? (i := 387) (by decide +kernel)) (by decide +kernel), bigm (List.mem_of_getElem? (i := 90) (by decide +kernel)) (by decide +kernel), by decide +kernel, tha_88.1, by decide +kernel, by decide +kernel, tha_88.2.1 84, tha_88.2.2⟩
theorem th_X8_84_214_88 : Th 84 214 88 "java/lang/IllegalArgumentException" "YEAR or MARKS beyond" := ⟨bigm (List.mem_of_getElem? (i := 387) (by decide +kernel)) (by decide +kernel), bigm (List.mem_of_getElem? (i := 90) (by decide +kernel)) (by decide +kernel), by decide +kernel, tha_88.1, by decide +kernel, by decide +kernel, tha_88.2.1 84, tha_88.2.2⟩
theorem th_X8_84_216_88 : Th 84 216 88 "java/lang/IllegalArgumentException" "it lacks what is no PART of it" := ⟨bigm (List.mem_of_getElem? (i := 387) (by decide +kernel)) (by decide +kernel), bigm (List.mem_of_getElem? (i := 90) (by decide +kernel)) (by decide +kernel), by decide +kernel, tha_88.1, by decide +kernel, by decide +kernel, tha_88.2.1 84, tha_88.2.2⟩
theorem lk_X8_221 : LkV RX8 221 yX8_weighComing cX8_weighComing 3 none 1 := ⟨(bigm (List.mem_of_getElem? (i := 781) (by decide +kernel)) (by decide +kernel)), km_X8_weighComing_inst, km_X8_weighComing_sel, ki_X8, km_X8_weighComing_code, by decide +kernel, by decide +kernel, by decide +kernel⟩
theorem lk_X8_225 : LkV RX8 225 yX0_forget cX0_forget 1 none 0 := ⟨(bigm (List.mem_of_getElem? (i := 789) (by decide +kernel)) (by decide +kernel)), km_X0_forget_inst, km_X0_forget_sel, ki_X0, km_X0_forget_code, by decide +kernel, by decide +kernel, by decide +kernel⟩
theorem lk_X8_228 : LkV RX8 228 yX8_carOf cX8_carOf 3 (some (.object "BreakersYard$Car")) 1 := ⟨(bigm (List.mem_of_getElem? (i := 800) (by decide +kernel)) (by decide +kernel)), km_X8_carOf_inst, km_X8_carOf_sel, ki_X8, km_X8_carOf_code, by decide +kernel, by decide +kernel, by decide +kernel⟩
theorem lk_X8_257 : LkV RX8 257 yX0_remember cX0_remember 3 none 2 := ⟨(bigm (List.mem_of_getElem? (i := 812) (by decide +kernel)) (by decide +kernel)), km_X0_remember_inst, km_X0_remember_sel, ki_X0, km_X0_remember_code, by decide +kernel, by decide +kernel, by decide +kernel⟩
theorem lk_X8_260 : LkV RX8 260 yX8_carAt cX8_carAt 2 (some (.object "BreakersYard$Car")) 1 := ⟨(bigm (List.mem_of_getElem? (i := 371) (by decide +kernel)) (by decide +kernel)), km_X8_carAt_inst, km_X8_carAt_sel, ki_X8, km_X8_carAt_code, by decide +kernel, by decide +kernel, by decide +kernel⟩
theorem th_X8_167_263_171 : Th 167 263 171 "java/util/NoSuchElementException" "no such CAR" := ⟨bigm (List.mem_of_getElem? (i := 712) (by decide +kernel)) (by decide +kernel), bigm (List.mem_of_getElem? (i := 94) (by decide +kernel)) (by decide +kernel), by decide +kernel, tha_171.1, by decide +kernel, by decide +kernel, tha_171.2.1 167, tha_171.2.2⟩
theorem th_X8_167_268_171 : Th 167 268 171 "java/util/NoSuchElementException" "no such PART of the CAR" := ⟨bigm (List.mem_of_getElem? (i := 712) (by decide +kernel)) (by decide +kernel), bigm (List.mem_of_getElem? (i := 94) (by decide +kernel)) (by decide +kernel), by decide +kernel, tha_171.1, by decide +kernel, by decide +kernel, tha_171.2.1 167, tha_171.2.2⟩
theorem lk_X8_270 : LkV RX8 270 yX1_isOn cX1_isOn 2 (some .boolean) 1 := ⟨(bigm (List.mem_of_getElem? (i := 785) (by decide +kernel)) (by decide +kernel)), km_X1_isOn_inst, km_X1_isOn_sel, ki_X1, km_X1_isOn_code, by decide +kernel, by decide +kernel, by decide +kernel⟩
theorem lk_X8_273 : LkV RX8 273 yX8_weigh cX8_weigh 6 none 4 := ⟨(bigm (List.mem_of_getElem? (i := 351) (by decide +kernel)) (by decide +kernel)), km_X8_weigh_inst, km_X8_weigh_sel, ki_X8, km_X8_weigh_code, by decide +kernel, by decide +kernel, by decide +kernel⟩
theorem lk_X8_276 : LkV RX8 276 yX8_carWithPart cX8_carWithPart 4 (some (.object "BreakersYard$Car")) 2 := ⟨(bigm (List.mem_of_getElem? (i := 834) (by decide +kernel)) (by decide +kernel)), km_X8_carWithPart_inst, km_X8_carWithPart_sel, ki_X8, km_X8_carWithPart_code, by decide +kernel, by decide +kernel, by decide +kernel⟩
theorem lk_X8_280 : LkV RX8 280 yX8_hindranceOf cX8_hindranceOf 5 (some .int) 2 := ⟨(bigm (List.mem_of_getElem? (i := 839) (by decide +kernel)) (by decide +kernel)), km_X8_hindranceOf_inst, km_X8_hindranceOf_sel, ki_X8, km_X8_hindranceOf_code, by decide +kernel, by decide +kernel, by decide +kernel⟩
theorem lk_X8_287 : LkV RX8 287 yX8_addItem cX8_addItem 2 (some .int) 1 := ⟨(bigm (List.mem_of_getElem? (i := 883) (by decide +kernel)) (by decide +kernel)), km_X8_addItem_inst, km_X8_addItem_sel, ki_X8, km_X8_addItem_code, by decide +kernel, by decide +kernel, by decide +kernel⟩
theorem lk_X8_291 : LkV RX8 291 yX8_pressHindranceOf cX8_pressHindranceOf 2 (some .int) 1 := ⟨(bigm (List.mem_of_getElem? (i := 894) (by decide +kernel)) (by decide +kernel)), km_X8_pressHindranceOf_inst, km_X8_pressHindranceOf_sel, ki_X8, km_X8_pressHindranceOf_code, by decide +kernel, by decide +kernel, by decide +kernel⟩
theorem lk_X8_295 : LkS RX8 295 yX8_needsDraining cX8_needsDraining 1 (some .boolean) 1 := ⟨(bigm (List.mem_of_getElem? (i := 843) (by decide +kernel)) (by decide +kernel)), km_X8_needsDraining_static, ki_X8, km_X8_needsDraining_code, by decide +kernel, by decide +kernel, by decide +kernel⟩
theorem lk_X8_298 : LkV RX8 298 yX8_hasDangerOn cX8_hasDangerOn 3 (some .boolean) 1 := ⟨(bigm (List.mem_of_getElem? (i := 898) (by decide +kernel)) (by decide +kernel)), km_X8_hasDangerOn_inst, km_X8_hasDangerOn_sel, ki_X8, km_X8_hasDangerOn_code, by decide +kernel, by decide +kernel, by decide +kernel⟩
theorem th_X8_84_302_88 : Th 84 302 88 "java/lang/IllegalArgumentException" "DAYS are 0 to 10,000 at a time" := ⟨bigm (List.mem_of_getElem? (i := 387) (by decide +kernel)) (by decide +kernel), bigm (List.mem_of_getElem? (i := 90) (by decide +kernel)) (by decide +kernel), by decide +kernel, tha_88.1, by decide +kernel, by decide +kernel, tha_88.2.1 84, tha_88.2.2⟩
theorem kc_X8_304 : Cond.constant RX8 304 (1000000) ∈ BIG := bigm (List.mem_of_getElem? (i := 910) (by decide +kernel)) (by decide +kernel)
theorem th_X8_95_305_99 : Th 95 305 99 "java/lang/IllegalStateException" "the DAY would be above 1,000,000" := ⟨bigm (List.mem_of_getElem? (i := 459) (by decide +kernel)) (by decide +kernel), bigm (List.mem_of_getElem? (i := 91) (by decide +kernel)) (by decide +kernel), by decide +kernel, tha_99.1, by decide +kernel, by decide +kernel, tha_99.2.1 95, tha_99.2.2⟩
theorem lk_X8_307 : LkV RX8 307 yX8_isLate cX8_isLate 4 (some .boolean) 2 := ⟨(bigm (List.mem_of_getElem? (i := 919) (by decide +kernel)) (by decide +kernel)), km_X8_isLate_inst, km_X8_isLate_sel, ki_X8, km_X8_isLate_code, by decide +kernel, by decide +kernel, by decide +kernel⟩
theorem lk_X8_311 : LkV RX8 311 yX8_itemOf cX8_itemOf 3 (some (.object "BreakersYard$Item")) 1 := ⟨(bigm (List.mem_of_getElem? (i := 930) (by decide +kernel)) (by decide +kernel)), km_X8_itemOf_inst, km_X8_itemOf_sel, ki_X8, km_X8_itemOf_code, by decide +kernel, by decide +kernel, by decide +kernel⟩
theorem lk_X8_324 : LkV RX8 324 yX8_valueOf cX8_valueOf 6 (some .int) 1 := ⟨(bigm (List.mem_of_getElem? (i := 935) (by decide +kernel)) (by decide +kernel)), km_X8_valueOf_inst, km_X8_valueOf_sel, ki_X8, km_X8_valueOf_code, by decide +kernel, by decide +kernel, by decide +kernel⟩
theorem th_X8_84_333_88 : Th 84 333 88 "java/lang/IllegalArgumentException" "NAME is not 0 to 99" := ⟨bigm (List.mem_of_getElem? (i := 387) (by decide +kernel)) (by decide +kernel), bigm (List.mem_of_getElem? (i := 90) (by decide +kernel)) (by decide +kernel), by decide +kernel, tha_88.1, by decide +kernel, by decide +kernel, tha_88.2.1 84, tha_88.2.2⟩
theorem lk_X8_335 : LkV RX8 335 yX2_clear cX2_clear 1 none 0 := ⟨(bigm (List.mem_of_getElem? (i := 952) (by decide +kernel)) (by decide +kernel)), km_X2_clear_inst, km_X2_clear_sel, ki_X2, km_X2_clear_code, by decide +kernel, by decide +kernel, by decide +kernel⟩
theorem lk_X8_338 : LkV RX8 338 yX8_itemAt cX8_itemAt 2 (some (.object "BreakersYard$Item")) 1 := ⟨(bigm (List.mem_of_getElem? (i := 336) (by decide +kernel)) (by decide +kernel)), km_X8_itemAt_inst, km_X8_itemAt_sel, ki_X8, km_X8_itemAt_code, by decide +kernel, by decide +kernel, by decide +kernel⟩
theorem lk_X8_341 : LkV RX8 341 yX8_factOf cX8_factOf 3 (some .int) 2 := ⟨(bigm (List.mem_of_getElem? (i := 939) (by decide +kernel)) (by decide +kernel)), km_X8_factOf_inst, km_X8_factOf_sel, ki_X8, km_X8_factOf_code, by decide +kernel, by decide +kernel, by decide +kernel⟩
theorem lk_X8_344 : LkV RX8 344 yX8_standsFor cX8_standsFor 6 (some .boolean) 4 := ⟨(bigm (List.mem_of_getElem? (i := 956) (by decide +kernel)) (by decide +kernel)), km_X8_standsFor_inst, km_X8_standsFor_sel, ki_X8, km_X8_standsFor_code, by decide +kernel, by decide +kernel, by decide +kernel⟩
theorem lk_X8_349 : LkV RX8 349 yX2_insert cX2_insert 5 none 3 := ⟨(bigm (List.mem_of_getElem? (i := 960) (by decide +kernel)) (by decide +kernel)), km_X2_insert_inst, km_X2_insert_sel, ki_X2, km_X2_insert_code, by decide +kernel, by decide +kernel, by decide +kernel⟩
theorem lk_X8_353 : LkV RX8 353 yX2_size cX2_size 1 (some .int) 0 := ⟨(bigm (List.mem_of_getElem? (i := 972) (by decide +kernel)) (by decide +kernel)), km_X2_size_inst, km_X2_size_sel, ki_X2, km_X2_size_code, by decide +kernel, by decide +kernel, by decide +kernel⟩
theorem lk_X8_356 : LkV RX8 356 yX2_numberAt cX2_numberAt 2 (some .int) 1 := ⟨(bigm (List.mem_of_getElem? (i := 296) (by decide +kernel)) (by decide +kernel)), km_X2_numberAt_inst, km_X2_numberAt_sel, ki_X2, km_X2_numberAt_code, by decide +kernel, by decide +kernel, by decide +kernel⟩
theorem th_X8_167_359_171 : Th 167 359 171 "java/util/NoSuchElementException" "no such ITEM" := ⟨bigm (List.mem_of_getElem? (i := 712) (by decide +kernel)) (by decide +kernel), bigm (List.mem_of_getElem? (i := 94) (by decide +kernel)) (by decide +kernel), by decide +kernel, tha_171.1, by decide +kernel, by decide +kernel, tha_171.2.1 167, tha_171.2.2⟩
theorem lk_X8_361 : LkV RX8 361 yX8_move cX8_move 3 none 2 := ⟨(bigm (List.mem_of_getElem? (i := 344) (by decide +kernel)) (by decide +kernel)), km_X8_move_inst, km_X8_move_sel, ki_X8, km_X8_move_code, by decide +kernel, by decide +kernel, by decide +kernel⟩
theorem km_X8_365 : Cond.methodLink RX8 365 Lib.Math.min.name ∈ BIG := bigm (List.mem_of_getElem? (i := 943) (by decide +kernel)) (by decide +kernel)
theorem lk_X8_370 : LkS RX8 370 yX8_gateOf cX8_gateOf 1 (some .int) 1 := ⟨(bigm (List.mem_of_getElem? (i := 348) (by decide +kernel)) (by decide +kernel)), km_X8_gateOf_static, ki_X8, km_X8_gateOf_code, by decide +kernel, by decide +kernel, by decide +kernel⟩
theorem th_X8_84_373_88 : Th 84 373 88 "java/lang/IllegalArgumentException" "trade is not 0 or 1" := ⟨bigm (List.mem_of_getElem? (i := 387) (by decide +kernel)) (by decide +kernel), bigm (List.mem_of_getElem? (i := 90) (by decide +kernel)) (by decide +kernel), by decide +kernel, tha_88.1, by decide +kernel, by decide +kernel, tha_88.2.1 84, tha_88.2.2⟩
theorem lk_X8_375 : LkV RX8 375 yX8_sellFor cX8_sellFor 3 (some .int) 2 := ⟨(bigm (List.mem_of_getElem? (i := 984) (by decide +kernel)) (by decide +kernel)), km_X8_sellFor_inst, km_X8_sellFor_sel, ki_X8, km_X8_sellFor_code, by decide +kernel, by decide +kernel, by decide +kernel⟩
theorem lk_X8_378 : LkV RX8 378 yX8_otherOfPair cX8_otherOfPair 4 (some (.object "BreakersYard$Item")) 1 := ⟨(bigm (List.mem_of_getElem? (i := 988) (by decide +kernel)) (by decide +kernel)), km_X8_otherOfPair_inst, km_X8_otherOfPair_sel, ki_X8, km_X8_otherOfPair_code, by decide +kernel, by decide +kernel, by decide +kernel⟩
theorem th_X8_84_382_88 : Th 84 382 88 "java/lang/IllegalArgumentException" "bad is not 0 or 1" := ⟨bigm (List.mem_of_getElem? (i := 387) (by decide +kernel)) (by decide +kernel), bigm (List.mem_of_getElem? (i := 90) (by decide +kernel)) (by decide +kernel), by decide +kernel, tha_88.1, by decide +kernel, by decide +kernel, tha_88.2.1 84, tha_88.2.2⟩
theorem lk_X8_384 : LkS RX8 384 yX8_wageOf cX8_wageOf 1 (some .int) 1 := ⟨(bigm (List.mem_of_getElem? (i := 1007) (by decide +kernel)) (by decide +kernel)), km_X8_wageOf_static, ki_X8, km_X8_wageOf_code, by decide +kernel, by decide +kernel, by decide +kernel⟩
theorem lk_X8_387 : LkV RX8 387 yX8_bestOf cX8_bestOf 7 (some .int) 2 := ⟨(bigm (List.mem_of_getElem? (i := 1011) (by decide +kernel)) (by decide +kernel)), km_X8_bestOf_inst, km_X8_bestOf_sel, ki_X8, km_X8_bestOf_code, by decide +kernel, by decide +kernel, by decide +kernel⟩
theorem lk_X8_390 : LkV RX8 390 yX8_gainOf cX8_gainOf 7 (some .int) 3 := ⟨(bigm (List.mem_of_getElem? (i := 1024) (by decide +kernel)) (by decide +kernel)), km_X8_gainOf_inst, km_X8_gainOf_sel, ki_X8, km_X8_gainOf_code, by decide +kernel, by decide +kernel, by decide +kernel⟩
theorem th_X8_84_394_88 : Th 84 394 88 "java/lang/IllegalArgumentException" "no such WAGE" := ⟨bigm (List.mem_of_getElem? (i := 387) (by decide +kernel)) (by decide +kernel), bigm (List.mem_of_getElem? (i := 90) (by decide +kernel)) (by decide +kernel), by decide +kernel, tha_88.1, by decide +kernel, by decide +kernel, tha_88.2.1 84, tha_88.2.2⟩
theorem lk_X8_396 : LkV RX8 396 yX8_sumGains cX8_sumGains 5 none 2 := ⟨(bigm (List.mem_of_getElem? (i := 1015) (by decide +kernel)) (by decide +kernel)), km_X8_sumGains_inst, km_X8_sumGains_sel, ki_X8, km_X8_sumGains_code, by decide +kernel, by decide +kernel, by decide +kernel⟩
theorem lk_X8_400 : LkV RX8 400 yX8_mayBeChosen cX8_mayBeChosen 4 (some .boolean) 2 := ⟨(bigm (List.mem_of_getElem? (i := 1020) (by decide +kernel)) (by decide +kernel)), km_X8_mayBeChosen_inst, km_X8_mayBeChosen_sel, ki_X8, km_X8_mayBeChosen_code, by decide +kernel, by decide +kernel, by decide +kernel⟩
theorem lk_X8_403 : LkS RX8 403 yJ7_fill_53178 cJ7_fill_53178 4 none 2 := ⟨(bigm (List.mem_of_getElem? (i := 1019) (by decide +kernel)) (by decide +kernel)), km_J7_fill_53178_static, ki_J7, km_J7_fill_53178_code, by decide +kernel, by decide +kernel, by decide +kernel⟩
theorem lk_X8_409 : LkV RX8 409 yX8_weightPlace cX8_weightPlace 3 (some .int) 2 := ⟨(bigm (List.mem_of_getElem? (i := 367) (by decide +kernel)) (by decide +kernel)), km_X8_weightPlace_inst, km_X8_weightPlace_sel, ki_X8, km_X8_weightPlace_code, by decide +kernel, by decide +kernel, by decide +kernel⟩
theorem th_X8_84_412_88 : Th 84 412 88 "java/lang/IllegalArgumentException" "no such STUFF or what" := ⟨bigm (List.mem_of_getElem? (i := 387) (by decide +kernel)) (by decide +kernel), bigm (List.mem_of_getElem? (i := 90) (by decide +kernel)) (by decide +kernel), by decide +kernel, tha_88.1, by decide +kernel, by decide +kernel, tha_88.2.1 84, tha_88.2.2⟩
theorem lk_X8_414 : LkV RX8 414 yX7_made cX7_made 1 (some .int) 0 := ⟨(bigm (List.mem_of_getElem? (i := 308) (by decide +kernel)) (by decide +kernel)), km_X7_made_inst, km_X7_made_sel, ki_X7, km_X7_made_code, by decide +kernel, by decide +kernel, by decide +kernel⟩
theorem lk_X8_415 : LkV RX8 415 yX0_held cX0_held 1 (some .int) 0 := ⟨(bigm (List.mem_of_getElem? (i := 316) (by decide +kernel)) (by decide +kernel)), km_X0_held_inst, km_X0_held_sel, ki_X0, km_X0_held_code, by decide +kernel, by decide +kernel, by decide +kernel⟩
theorem lk_X8_418 : LkV RX8 418 yX0_latestAct cX0_latestAct 1 (some .int) 0 := ⟨(bigm (List.mem_of_getElem? (i := 324) (by decide +kernel)) (by decide +kernel)), km_X0_latestAct_inst, km_X0_latestAct_sel, ki_X0, km_X0_latestAct_code, by decide +kernel, by decide +kernel, by decide +kernel⟩
theorem lk_X8_421 : LkV RX8 421 yX0_latestNumber cX0_latestNumber 1 (some .int) 0 := ⟨(bigm (List.mem_of_getElem? (i := 328) (by decide +kernel)) (by decide +kernel)), km_X0_latestNumber_inst, km_X0_latestNumber_sel, ki_X0, km_X0_latestNumber_code, by decide +kernel, by decide +kernel, by decide +kernel⟩
theorem lk_X8_424 : LkV RX8 424 yX0_dropLatest cX0_dropLatest 1 none 0 := ⟨(bigm (List.mem_of_getElem? (i := 332) (by decide +kernel)) (by decide +kernel)), km_X0_dropLatest_inst, km_X0_dropLatest_sel, ki_X0, km_X0_dropLatest_code, by decide +kernel, by decide +kernel, by decide +kernel⟩
theorem lk_X8_427 : LkV RX8 427 yX8_putBackOn cX8_putBackOn 3 none 1 := ⟨(bigm (List.mem_of_getElem? (i := 340) (by decide +kernel)) (by decide +kernel)), km_X8_putBackOn_inst, km_X8_putBackOn_sel, ki_X8, km_X8_putBackOn_code, by decide +kernel, by decide +kernel, by decide +kernel⟩
theorem lk_X9_151 : LkV RX9 151 yX9_may cX9_may 3 (some .boolean) 2 := ⟨(bigm (List.mem_of_getElem? (i := 1244) (by decide +kernel)) (by decide +kernel)), km_X9_may_inst, km_X9_may_sel, ki_X9, km_X9_may_code, by decide +kernel, by decide +kernel, by decide +kernel⟩
theorem lk_X9_158 : LkV RX9 158 yX9_isRow cX9_isRow 4 (some .boolean) 3 := ⟨(bigm (List.mem_of_getElem? (i := 1252) (by decide +kernel)) (by decide +kernel)), km_X9_isRow_inst, km_X9_isRow_sel, ki_X9, km_X9_isRow_code, by decide +kernel, by decide +kernel, by decide +kernel⟩
theorem lk_X9_177 : LkV RX9 177 yX9_here cX9_here 1 (some .int) 0 := ⟨(bigm (List.mem_of_getElem? (i := 1280) (by decide +kernel)) (by decide +kernel)), km_X9_here_inst, km_X9_here_sel, ki_X9, km_X9_here_code, by decide +kernel, by decide +kernel, by decide +kernel⟩
theorem lk_X9_181 : LkS RX9 181 yX9_isDigit cX9_isDigit 1 (some .boolean) 1 := ⟨(bigm (List.mem_of_getElem? (i := 1292) (by decide +kernel)) (by decide +kernel)), km_X9_isDigit_static, ki_X9, km_X9_isDigit_code, by decide +kernel, by decide +kernel, by decide +kernel⟩
theorem lk_X9_185 : LkV RX9 185 yX9_wrong cX9_wrong 1 none 0 := ⟨(bigm (List.mem_of_getElem? (i := 1284) (by decide +kernel)) (by decide +kernel)), km_X9_wrong_inst, km_X9_wrong_sel, ki_X9, km_X9_wrong_code, by decide +kernel, by decide +kernel, by decide +kernel⟩
theorem lk_X9_188 : LkV RX9 188 yX9_fine cX9_fine 1 (some .boolean) 0 := ⟨(bigm (List.mem_of_getElem? (i := 1272) (by decide +kernel)) (by decide +kernel)), km_X9_fine_inst, km_X9_fine_sel, ki_X9, km_X9_fine_code, by decide +kernel, by decide +kernel, by decide +kernel⟩
theorem lk_X9_198 : LkV RX9 198 yX9_digits cX9_digits 3 (some .int) 0 := ⟨(bigm (List.mem_of_getElem? (i := 1288) (by decide +kernel)) (by decide +kernel)), km_X9_digits_inst, km_X9_digits_sel, ki_X9, km_X9_digits_code, by decide +kernel, by decide +kernel, by decide +kernel⟩
theorem lk_X9_201 : LkV RX9 201 yX9_emit cX9_emit 5 none 3 := ⟨(bigm (List.mem_of_getElem? (i := 1295) (by decide +kernel)) (by decide +kernel)), km_X9_emit_inst, km_X9_emit_sel, ki_X9, km_X9_emit_code, by decide +kernel, by decide +kernel, by decide +kernel⟩
theorem lk_X9_205 : LkV RX9 205 yX9_operand cX9_operand 4 (some .boolean) 0 := ⟨(bigm (List.mem_of_getElem? (i := 1276) (by decide +kernel)) (by decide +kernel)), km_X9_operand_inst, km_X9_operand_sel, ki_X9, km_X9_operand_code, by decide +kernel, by decide +kernel, by decide +kernel⟩
theorem lk_X9_208 : LkV RX9 208 yX9_nots cX9_nots 1 none 0 := ⟨(bigm (List.mem_of_getElem? (i := 1299) (by decide +kernel)) (by decide +kernel)), km_X9_nots_inst, km_X9_nots_sel, ki_X9, km_X9_nots_code, by decide +kernel, by decide +kernel, by decide +kernel⟩
theorem lk_X9_211 : LkV RX9 211 yX9_settle cX9_settle 2 none 1 := ⟨(bigm (List.mem_of_getElem? (i := 1303) (by decide +kernel)) (by decide +kernel)), km_X9_settle_inst, km_X9_settle_sel, ki_X9, km_X9_settle_code, by decide +kernel, by decide +kernel, by decide +kernel⟩
theorem lk_X9_215 : LkV RX9 215 yX9_asks cX9_asks 7 (some .boolean) 4 := ⟨(bigm (List.mem_of_getElem? (i := 1311) (by decide +kernel)) (by decide +kernel)), km_X9_asks_inst, km_X9_asks_sel, ki_X9, km_X9_asks_code, by decide +kernel, by decide +kernel, by decide +kernel⟩
theorem kc_X9_219 : Cond.constantLong RX9 219 (-1) ∈ BIG := bigm (List.mem_of_getElem? (i := 1323) (by decide +kernel)) (by decide +kernel)
theorem kc_X9_221 : Cond.constantLong RX9 221 (5) ∈ BIG := bigm (List.mem_of_getElem? (i := 1328) (by decide +kernel)) (by decide +kernel)
theorem kc_X9_223 : Cond.constantLong RX9 223 (99) ∈ BIG := bigm (List.mem_of_getElem? (i := 1329) (by decide +kernel)) (by decide +kernel)
theorem kc_X9_225 : Cond.constantLong RX9 225 (240) ∈ BIG := bigm (List.mem_of_getElem? (i := 1330) (by decide +kernel)) (by decide +kernel)
theorem kc_X9_227 : Cond.constantLong RX9 227 (200000) ∈ BIG := bigm (List.mem_of_getElem? (i := 1331) (by decide +kernel)) (by decide +kernel)
theorem kc_X9_229 : Cond.constantLong RX9 229 (3) ∈ BIG := bigm (List.mem_of_getElem? (i := 1332) (by decide +kernel)) (by decide +kernel)
theorem kc_X9_231 : Cond.constantLong RX9 231 (100000) ∈ BIG := bigm (List.mem_of_getElem? (i := 1333) (by decide +kernel)) (by decide +kernel)
theorem lk_X9_233 : LkV RX9 233 yX9_least cX9_least 2 (some .long) 1 := ⟨(bigm (List.mem_of_getElem? (i := 1319) (by decide +kernel)) (by decide +kernel)), km_X9_least_inst, km_X9_least_sel, ki_X9, km_X9_least_code, by decide +kernel, by decide +kernel, by decide +kernel⟩
theorem lk_X9_237 : LkV RX9 237 yX9_most cX9_most 3 (some .long) 2 := ⟨(bigm (List.mem_of_getElem? (i := 1324) (by decide +kernel)) (by decide +kernel)), km_X9_most_inst, km_X9_most_sel, ki_X9, km_X9_most_code, by decide +kernel, by decide +kernel, by decide +kernel⟩
theorem lk_X9_244 : LkV RX9 244 yX9_takeBack cX9_takeBack 3 none 2 := ⟨(bigm (List.mem_of_getElem? (i := 1342) (by decide +kernel)) (by decide +kernel)), km_X9_takeBack_inst, km_X9_takeBack_sel, ki_X9, km_X9_takeBack_code, by decide +kernel, by decide +kernel, by decide +kernel⟩
theorem lk_X9_251 : LkV RX9 251 yX9_stuffOf cX9_stuffOf 2 (some .int) 1 := ⟨(bigm (List.mem_of_getElem? (i := 1346) (by decide +kernel)) (by decide +kernel)), km_X9_stuffOf_inst, km_X9_stuffOf_sel, ki_X9, km_X9_stuffOf_code, by decide +kernel, by decide +kernel, by decide +kernel⟩
theorem lk_X9_255 : LkV RX9 255 yX9_gramsOf cX9_gramsOf 2 (some .int) 1 := ⟨(bigm (List.mem_of_getElem? (i := 1354) (by decide +kernel)) (by decide +kernel)), km_X9_gramsOf_inst, km_X9_gramsOf_sel, ki_X9, km_X9_gramsOf_code, by decide +kernel, by decide +kernel, by decide +kernel⟩
theorem lk_X9_264 : LkV RX9 264 yX9_isOn cX9_isOn 3 (some .boolean) 2 := ⟨(bigm (List.mem_of_getElem? (i := 1362) (by decide +kernel)) (by decide +kernel)), km_X9_isOn_inst, km_X9_isOn_sel, ki_X9, km_X9_isOn_code, by decide +kernel, by decide +kernel, by decide +kernel⟩
theorem lk_X9_268 : LkV RX9 268 yX9_isCar cX9_isCar 2 (some .boolean) 1 := ⟨(bigm (List.mem_of_getElem? (i := 1370) (by decide +kernel)) (by decide +kernel)), km_X9_isCar_inst, km_X9_isCar_sel, ki_X9, km_X9_isCar_code, by decide +kernel, by decide +kernel, by decide +kernel⟩
theorem lk_X9_271 : LkV RX9 271 yX9_acted cX9_acted 5 none 3 := ⟨(bigm (List.mem_of_getElem? (i := 1378) (by decide +kernel)) (by decide +kernel)), km_X9_acted_inst, km_X9_acted_sel, ki_X9, km_X9_acted_code, by decide +kernel, by decide +kernel, by decide +kernel⟩
theorem lk_X9_274 : LkV RX9 274 yX9_partOf cX9_partOf 2 (some .int) 1 := ⟨(bigm (List.mem_of_getElem? (i := 1350) (by decide +kernel)) (by decide +kernel)), km_X9_partOf_inst, km_X9_partOf_sel, ki_X9, km_X9_partOf_code, by decide +kernel, by decide +kernel, by decide +kernel⟩
theorem lk_X9_280 : LkV RX9 280 yX9_isPartOf cX9_isPartOf 3 (some .boolean) 2 := ⟨(bigm (List.mem_of_getElem? (i := 1390) (by decide +kernel)) (by decide +kernel)), km_X9_isPartOf_inst, km_X9_isPartOf_sel, ki_X9, km_X9_isPartOf_code, by decide +kernel, by decide +kernel, by decide +kernel⟩
theorem lk_X9_283 : LkV RX9 283 yX9_hindrance cX9_hindrance 6 (some .int) 2 := ⟨(bigm (List.mem_of_getElem? (i := 1394) (by decide +kernel)) (by decide +kernel)), km_X9_hindrance_inst, km_X9_hindrance_sel, ki_X9, km_X9_hindrance_code, by decide +kernel, by decide +kernel, by decide +kernel⟩
theorem kc_X9_287 : Cond.constant RX9 287 (1000000) ∈ BIG := bigm (List.mem_of_getElem? (i := 1410) (by decide +kernel)) (by decide +kernel)
theorem lk_X9_288 : LkV RX9 288 yX9_isItem cX9_isItem 2 (some .boolean) 1 := ⟨(bigm (List.mem_of_getElem? (i := 1419) (by decide +kernel)) (by decide +kernel)), km_X9_isItem_inst, km_X9_isItem_sel, ki_X9, km_X9_isItem_code, by decide +kernel, by decide +kernel, by decide +kernel⟩
theorem lk_X9_291 : LkV RX9 291 yX9_valueOf cX9_valueOf 6 (some .int) 1 := ⟨(bigm (List.mem_of_getElem? (i := 1423) (by decide +kernel)) (by decide +kernel)), km_X9_valueOf_inst, km_X9_valueOf_sel, ki_X9, km_X9_valueOf_code, by decide +kernel, by decide +kernel, by decide +kernel⟩
theorem lk_X9_297 : LkV RX9 297 yX9_insert cX9_insert 5 none 3 := ⟨(bigm (List.mem_of_getElem? (i := 1431) (by decide +kernel)) (by decide +kernel)), km_X9_insert_inst, km_X9_insert_sel, ki_X9, km_X9_insert_code, by decide +kernel, by decide +kernel, by decide +kernel⟩
theorem lk_X9_305 : LkV RX9 305 yX9_sells cX9_sells 3 none 2 := ⟨(bigm (List.mem_of_getElem? (i := 1443) (by decide +kernel)) (by decide +kernel)), km_X9_sells_inst, km_X9_sells_sel, ki_X9, km_X9_sells_code, by decide +kernel, by decide +kernel, by decide +kernel⟩
theorem lk_X9_311 : LkV RX9 311 yX9_findBest cX9_findBest 8 (some .int) 2 := ⟨(bigm (List.mem_of_getElem? (i := 1455) (by decide +kernel)) (by decide +kernel)), km_X9_findBest_inst, km_X9_findBest_sel, ki_X9, km_X9_findBest_code, by decide +kernel, by decide +kernel, by decide +kernel⟩
theorem km_min_s : Cond.static Lib.Math.min.name ∈ BIG := bigm (List.mem_of_getElem? (i := 563) (by decide +kernel)) (by decide +kernel)
theorem km_min_c : Cond.code Lib.Math.min.name Lib.Math.min.code 2 (some .int) ∈ BIG := bigm (List.mem_of_getElem? (i := 564) (by decide +kernel)) (by decide +kernel)
theorem km_max_s : Cond.static Lib.Math.max.name ∈ BIG := bigm (List.mem_of_getElem? (i := 560) (by decide +kernel)) (by decide +kernel)
theorem km_max_c : Cond.code Lib.Math.max.name Lib.Math.max.code 2 (some .int) ∈ BIG := bigm (List.mem_of_getElem? (i := 561) (by decide +kernel)) (by decide +kernel)
theorem km_ini : Cond.initialized "java/lang/Math" ∈ BIG := bigm (List.mem_of_getElem? (i := 93) (by decide +kernel)) (by decide +kernel)
theorem rcv_X8 {X : XT} {t : TS} : Rcv X t (X.1 0) RX8 := ⟨0, 8, _, _, rfl, rfl, rfl⟩
theorem rcv_X7 {X : XT} {t : TS} : Rcv X t (X.1 1) RX7 := ⟨1, 7, _, _, rfl, rfl, rfl⟩
theorem rcv_X4 {X : XT} {t : TS} : Rcv X t (X.1 2) RX4 := ⟨2, 4, _, _, rfl, rfl, rfl⟩
theorem rcv_X3 {X : XT} {t : TS} : Rcv X t (X.1 3) RX3 := ⟨3, 3, _, _, rfl, rfl, rfl⟩
theorem rcv_X6 {X : XT} {t : TS} : Rcv X t (X.1 4) RX6 := ⟨4, 6, _, _, rfl, rfl, rfl⟩
theorem rcv_X0 {X : XT} {t : TS} : Rcv X t (X.1 5) RX0 := ⟨5, 0, _, _, rfl, rfl, rfl⟩
theorem rcv_X2 {X : XT} {t : TS} : Rcv X t (X.1 6) RX2 := ⟨6, 2, _, _, rfl, rfl, rfl⟩
theorem rcv_X9 {X : XT} {t : TS} : Rcv X t (X.1 7) RX9 := ⟨7, 9, _, _, rfl, rfl, rfl⟩
theorem rcv_X1 {X : XT} {cs : CS} {u : MS × (Nat → Int64)} {a : Nat} (h : a ∈ cl cs ∧ ck cs a = 0) : Rcv X (cs, u) a RX1 := by
  obtain ⟨k0, h0⟩ := va_pl_get (X := wF X (cs, u)) (f := pf cs) h.1
  rw [pf_0 h.2] at h0
  exact ⟨k0, 1, _, _, h0, rfl, rfl⟩
theorem rcv_X5 {X : XT} {cs : CS} {u : MS × (Nat → Int64)} {a : Nat} (h : a ∈ cl cs ∧ ck cs a = 1) : Rcv X (cs, u) a RX5 := by
  obtain ⟨k0, h0⟩ := va_pl_get (X := wF X (cs, u)) (f := pf cs) h.1
  rw [pf_1 h.2] at h0
  exact ⟨k0, 5, _, _, h0, rfl, rfl⟩
